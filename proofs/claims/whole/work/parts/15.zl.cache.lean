/-! ===== pure part: the call cache ===== -/
def cl (P : Par) (a i : Nat) (M : Pil) (H : List (Nat × Int32)) (e : En) : Nat := fb_ct (fun j => decide ((a, ob P a i e j) ∉ H ∧ ob P a i e j ∉ fl M a i)) (onm P a i)
def csm (a i : Nat) (f : En → Nat) : List En → Nat
  | [] => 0
  | e :: l => csm a i f l + (if eA e = nI a ∧ eC e = nI i then f e else 0)
theorem csm_of (a i : Nat) (f : En → Nat) : ∀ L, csm a i f (uOf a L) = csm a i f L := by
  intro L
  induction L with
  | nil => rfl
  | cons e l ih =>
    by_cases h : eA e = nI a
    · have : uOf a (e :: l) = e :: uOf a l := by unfold uOf; rw [List.filter_cons_of_pos (by simpa using h)]
      rw [this]; simp only [csm]; rw [ih]
    · have : uOf a (e :: l) = uOf a l := by unfold uOf; rw [List.filter_cons_of_neg (by simpa using h)]
      rw [this, ih]; simp only [csm]; rw [if_neg (fun z => h z.1)]; omega
theorem cnt_l {P : Par} {S : Cst} {R : Rst} {L : List En} {M : Pil} {H : List (Nat × Int32)} {a i : Nat} {e : En} (hR : uStR P R) (hs : uKs P S L M H) (h : isSl P L a i e) : cnt (gI S 90 e.1) = cl P a i M H e := by
  have hn := sl_num hR h.1
  have hb := (hs a i e h).2.2.2
  unfold cnt cl
  have := fb_ct_split (bt (gI S 90 e.1)) (onm P a i) (32 - onm P a i)
  rw [show onm P a i + (32 - onm P a i) = 32 by omega] at this
  rw [this]
  have z : fb_ct (fun k => bt (gI S 90 e.1) (onm P a i + k)) (32 - onm P a i) = 0 := by
    rw [fb_ct_zero]
    intro k hk
    cases hq : bt (gI S 90 e.1) (onm P a i + k) with
    | false => rfl
    | true => have := (hb (onm P a i + k) (by omega)).mp hq; omega
  rw [z, Nat.add_zero]
  apply fb_ct_cong
  intro k hk
  have := hb k (by omega)
  by_cases q : (a, ob P a i e k) ∉ H ∧ ob P a i e k ∉ fl M a i
  · rw [decide_eq_true q]; exact this.mpr ⟨hk, q⟩
  · rw [decide_eq_false q]
    cases hq : bt (gI S 90 e.1) k with
    | false => rfl
    | true => exact absurd (this.mp hq).2 q
/-! the reference's count -/
theorem c41_lp {F : Nat} {P : Par} {R : Rst} {A B : List En} {M : Pil} {H : List (Nat × Int32)} {a i : Nat} {e : En} {w x6 : Int32} {kk : Int32 → Int32 → Int32 → Int32 → Int32 → Int32 → Int32 → Option Int32} (hF : 1000 ≤ F) (hR : uStR P R) (hr : uKr P R M H) (h8 : ∀ p ∈ H, p.1 < 8) (hv : vd P a i) (hRL : uRL R (A ++ e :: B)) (u v : Nat) : ∀ d j n, j + d = onm P a i → d < n → rf_counted_41 F kk R n (nI a) (nI i) w (nI (u + fb_ct (fun j => decide ((a, ob P a i e j) ∈ H)) j)) (nI (v + fb_ct (fun j => decide ((a, ob P a i e j) ∉ H ∧ ob P a i e j ∉ fl M a i)) j)) x6 (nI A.length) (nI j) = kk (nI a) (nI i) w (nI (u + ch P a i H e)) (nI (v + cl P a i M H e)) x6 (nI (A.length + 1)) := by
  have ha8 : a < 8 := by have := hR.1; have := hv.1; omega
  have hn := sl_num hR hv
  obtain ⟨k1, k2, g1, g2, g3, g4, g5, g6, g7⟩ := uRL_g hRL (k := A.length) (e := e) get_mid
  intro d
  induction d with
  | zero =>
    intro j n hj hd
    obtain ⟨n, rfl⟩ : ∃ m, n = m + 1 := ⟨n - 1, by omega⟩
    simp only [rf_counted_41]
    rw [onm_ok hF hR hv, Option.bind_some, if_pos (nI_le (by omega) (by omega)), nI_1, show j = onm P a i by omega]
    rfl
  | succ d ih =>
    intro j n hj hd
    obtain ⟨n, rfl⟩ : ∃ m, n = m + 1 := ⟨n - 1, by omega⟩
    have hr' := ih (j + 1) n (by omega) (by omega)
    rw [fb_ct_succ, fb_ct_succ] at hr'
    simp only [rf_counted_41]
    rw [onm_ok hF hR hv, Option.bind_some, if_neg (nI_ge (by omega) (by omega)), rd_n (f := 12) k2, g2, rd_n (f := 2) (show a < rlen 2 from ha8), (hR.2.2 a hv.1).2.2.1, obx, held_ok hF hr h8 ha8, Option.bind_some]
    by_cases hh : (a, ob P a i e j) ∈ H
    · rw [if_pos (decide_eq_true hh), if_neg (show ¬ decide ((a, ob P a i e j) ∉ H ∧ ob P a i e j ∉ fl M a i) = true from fun z => (of_decide_eq_true z).1 hh), Nat.add_zero, ← Nat.add_assoc] at hr'
      rw [if_pos hh, if_neg (show ¬ (1 : Int32) = 0 by decide), nI_1, nI_1]
      exact hr'
    · rw [if_neg (show ¬ decide ((a, ob P a i e j) ∈ H) = true from fun z => hh (of_decide_eq_true z)), Nat.add_zero] at hr'
      rw [if_neg hh, if_pos rfl, isIn_ok hF hr h8 ha8 (by omega), Option.bind_some]
      by_cases hl : (a, ob P a i e j) ∉ H ∧ ob P a i e j ∉ fl M a i
      · rw [if_pos (decide_eq_true hl), ← Nat.add_assoc] at hr'
        rw [if_pos hl, if_neg (show ¬ (1 : Int32) = 0 by decide), nI_1, nI_1]
        exact hr'
      · rw [if_neg (show ¬ decide ((a, ob P a i e j) ∉ H ∧ ob P a i e j ∉ fl M a i) = true from fun z => hl (of_decide_eq_true z)), Nat.add_zero] at hr'
        rw [if_neg hl, if_pos rfl, nI_1]
        exact hr'
theorem c12_lp {F : Nat} {P : Par} {x : Nat} {S : Cst} {R : Rst} {L : List En} {M : Pil} {Q : Pad} {H : List (Nat × Int32)} {t a i : Nat} {w : Int32} (hF : 1000 ≤ F) (hA : uA P x S R L M Q H t) (hv : vd P a i) : ∀ (B A : List En) (n u v z : Nat), L = A ++ B → B.length < n → rf_counted_12 F R n (nI a) (nI i) w (nI u) (nI v) (nI z) (nI A.length) = some (if w = 0 then nI (u + csm a i (ch P a i H) B) else if w = 6 then nI (v + csm a i (cl P a i M H) B) else nI (z + csm a i (fun _ => 1) B)) := by
  obtain ⟨hR, hS, hD, hG, hK, hr⟩ := hA
  have h8 := H8 hR hK.2.2
  have hn := sl_num hR hv
  have h600 := hG.2.2.1.2.1
  intro B
  induction B with
  | nil =>
    intro A n u v z hL hn
    obtain ⟨n, rfl⟩ : ∃ m, n = m + 1 := ⟨n - 1, by simp at hn; omega⟩
    simp only [rf_counted_12, csm, Nat.add_zero]
    have e10 := hG.2.2.1.1
    rw [e10, hL, List.append_nil, if_pos (nI_le (Nat.le_refl _) (by rw [hL, List.append_nil] at h600; omega))]
    by_cases h0 : w = 0
    · rw [if_pos h0, if_pos h0]
    · rw [if_neg h0, if_neg h0]
      by_cases h6 : w = 6
      · rw [if_pos h6, if_pos h6]
      · rw [if_neg h6, if_neg h6]
  | cons e B ih =>
    intro A n u v z hL hn'
    obtain ⟨n, rfl⟩ : ∃ m, n = m + 1 := ⟨n - 1, by simp at hn'; omega⟩
    have hlen : L.length = A.length + (B.length + 1) := by rw [hL]; simp
    have hr2 := fun u v z => ih (A ++ [e]) n u v z (by rw [hL]; simp) (by simp at hn'; omega)
    simp only [List.length_append, List.length_singleton] at hr2
    have hL' := hL ▸ hG.1
    have hRL' := hL ▸ hG.2.2.1
    simp only [rf_counted_12, csm]
    rw [hG.2.2.1.1, if_neg (nI_ge (by omega) (by omega)), rslab hR hL' hRL' hv, Option.bind_some]
    by_cases hs : eA e = nI a ∧ eC e = nI i
    · simp only [if_pos hs]
      rw [if_neg (show ¬ (1 : Int32) = 0 by decide), nI_1]
      have := c41_lp (F := F) (w := w) (x6 := nI (z + 1)) (kk := rf_counted_12 F R n) hF hR hr h8 hv hRL' u v (onm P a i) 0 F (by omega) (by omega)
      refine Eq.trans this ?_
      rw [hr2]
      have e1 : u + ch P a i H e + csm a i (ch P a i H) B = u + (csm a i (ch P a i H) B + ch P a i H e) := by omega
      have e2 : v + cl P a i M H e + csm a i (cl P a i M H) B = v + (csm a i (cl P a i M H) B + cl P a i M H e) := by omega
      have e3 : z + 1 + csm a i (fun _ => 1) B = z + (csm a i (fun _ => 1) B + 1) := by omega
      rw [e1, e2, e3]
    · simp only [if_neg hs, Nat.add_zero]
      rw [if_pos trivial, nI_1, hr2]
theorem counted_ok {F : Nat} {P : Par} {x : Nat} {S : Cst} {R : Rst} {L : List En} {M : Pil} {Q : Pad} {H : List (Nat × Int32)} {t a i : Nat} {w : Int32} (hF : 1000 ≤ F) (hA : uA P x S R L M Q H t) (hv : vd P a i) : rf_counted F R (nI a) (nI i) w = some (if w = 0 then nI (csm a i (ch P a i H) L) else if w = 6 then nI (csm a i (cl P a i M H) L) else nI (csm a i (fun _ => 1) L)) := by
  have h600 := hA.2.2.2.1.2.2.1.2.1
  have := c12_lp (F := F) (w := w) hF hA hv L [] F 0 0 0 rfl (by omega)
  rw [Nat.zero_add, Nat.zero_add, Nat.zero_add] at this
  exact this
/-! the class's -/
set_option maxHeartbeats 1000000 in
theorem oh_lp {F : Nat} {P : Par} {x : Nat} {S : Cst} {R : Rst} {L : List En} {M : Pil} {Q : Pad} {H : List (Nat × Int32)} {t a i : Nat} (hA : uA P x S R L M Q H t) (hv : vd P a i) : ∀ (l : List En) (pr : Option Nat) (n acc : Nat), (∀ f ∈ l, f ∈ L ∧ eA f = nI a) → usg S pr (uad l) none → l.length < n →
    cf_X0_objectsHeld_7 F (par P a) S n (some (pca P a i)) (nI acc) (uhd (uad l) none) = some (nI (acc + csm a i (ch P a i H) l)) ∧
    cf_X0_objectsLying_7 F (par P a) S n (some (pca P a i)) (nI acc) (uhd (uad l) none) = some (nI (acc + csm a i (cl P a i M H) l)) ∧
    cf_X0_slabsOf_7 F (par P a) S n (some (pca P a i)) (nI acc) (uhd (uad l) none) = some (nI (acc + csm a i (fun _ => 1) l)) := by
  obtain ⟨hR, hS, hD, hG, hK, hr⟩ := hA
  intro l
  induction l with
  | nil =>
    intro pr n acc _ _ hn
    obtain ⟨n, rfl⟩ : ∃ m, n = m + 1 := ⟨n - 1, by simp at hn; omega⟩
    exact ⟨rfl, rfl, rfl⟩
  | cons f l ih =>
    intro pr n acc hl hc hn
    obtain ⟨n, rfl⟩ : ∃ m, n = m + 1 := ⟨n - 1, by simp at hn; omega⟩
    rw [uad_c] at hc ⊢
    obtain ⟨c1, c2, c3⟩ := hc
    obtain ⟨hf1, hf2⟩ := hl f (by simp)
    have hr' := fun acc => ih (some f.1) n acc (fun g hg => hl g (by simp [hg])) c3 (by simp at hn; omega)
    have hcs := cslab (F := F) hG hR hS hK hv hf1 hf2
    simp only [cf_X0_objectsHeld_7, cf_X0_objectsLying_7, cf_X0_slabsOf_7, uhd, ncS, st1, csm]
    rw [hcs, Option.bind_some, Option.bind_some, Option.bind_some, c2]
    by_cases hq : eC f = nI i
    · have hsl : isSl P L a i f := ⟨hv, hf1, hf2, hq⟩
      simp only [if_pos hq, if_pos (show eA f = nI a ∧ eC f = nI i from ⟨hf2, hq⟩)]
      rw [if_neg (show ¬ (1 : Int32) = 0 by decide), if_neg (show ¬ (1 : Int32) = 0 by decide), if_neg (show ¬ (1 : Int32) = 0 by decide), bcnt_ok, bcnt_ok, Option.bind_some, Option.bind_some, cnt_h hR hK.2.1 hsl, cnt_l hR hK.2.1 hsl, nI_add, nI_add, nI_1, (hr' _).1, (hr' _).2.1, (hr' _).2.2]
      refine ⟨congrArg (fun z => some (nI z)) ?_, congrArg (fun z => some (nI z)) ?_, congrArg (fun z => some (nI z)) ?_⟩ <;> omega
    · simp only [if_neg hq, if_neg (show ¬ (eA f = nI a ∧ eC f = nI i) from fun z => hq z.2)]
      rw [if_pos trivial, if_pos trivial, if_pos trivial, Int32.add_zero, (hr' _).1, (hr' _).2.1, (hr' _).2.2]
      exact ⟨rfl, rfl, rfl⟩
theorem oh_ok {F : Nat} {P : Par} {x : Nat} {S : Cst} {R : Rst} {L : List En} {M : Pil} {Q : Pad} {H : List (Nat × Int32)} {t a i : Nat} (hF : 1000 ≤ F) (hA : uA P x S R L M Q H t) (hv : vd P a i) :
    cf_X0_objectsHeld F S (par P a) (some (pca P a i)) = some (nI (csm a i (ch P a i H) L)) ∧
    cf_X0_objectsLying F S (par P a) (some (pca P a i)) = some (nI (csm a i (cl P a i M H) L)) ∧
    cf_X0_slabsOf F S (par P a) (some (pca P a i)) = some (nI (csm a i (fun _ => 1) L)) := by
  have hG := hA.2.2.2.1
  have hcs := (hG.2.2.2.1.2.2 a hv.1).1
  have hle := uOf_le (a := a) (L := L)
  have h600 := hG.2.2.1.2.1
  have := oh_lp (F := F) hA hv (uOf a L) none F 0 (fun f hf => uOf_mem.mp hf) hcs.2 (by omega)
  rw [csm_of, csm_of, csm_of, Nat.zero_add, Nat.zero_add, Nat.zero_add, ← hcs.1] at this
  exact this
theorem cacheOf_no {F : Nat} {P : Par} {x : Nat} {S : Cst} {R : Rst} {a : Nat} {x2 : Int32} (hR : uStR P R) (hS : uStS P x S) (ha : a < pn P) (hn : ∀ i, vd P a i → x2 ≠ nI i) : cf_X0_cacheOf F S (par P a) x2 = some none := by
  obtain ⟨_, _, _, _, _, _, _, tt, k8, k9, k10⟩ := hS.2.2.2.2 a ha
  unfold cf_X0_cacheOf
  by_cases h1 : x2 < 1
  · rw [if_pos h1]
  · simp only [st1, nnS, k8]
    rw [if_neg h1, k9]
    by_cases h2 : Int32.ofNat 8 < x2
    · rw [if_pos h2]
    · rw [if_neg h2]
      have h0 : ¬ x2 < 0 := fun z => h1 (Int32.lt_trans z (by decide))
      obtain ⟨j, hj, rfl⟩ := lit_lt (k := 8) (by omega) h0 h2
      have hj0 : j ≠ 0 := fun z => by subst z; exact h1 (by decide)
      obtain ⟨j, rfl⟩ : ∃ m, j = m + 1 := ⟨j - 1, by omega⟩
      unfold cqd
      rw [nI_pred, k9, if_pos (inb_n (show j < 8 by omega) (by omega)), nI_clamp (by omega), k10 j (by omega), if_neg]
      intro hlt
      exact hn (j + 1) ⟨ha, by omega, by omega⟩ rfl
theorem div3 : ∀ D, D < 5 → nI (3 * D) / 3 = nI D := by decide +kernel
theorem rtop_ok {F : Nat} {P : Par} {S : Cst} {R : Rst} {M : Pil} {Q : Pad} {H : List (Nat × Int32)} {a i k : Nat} (hK : uKp P S M Q) (hr : uKr P R M H) (hv : vd P a i) (ha : a < 8) (hi : i ≤ 8) (hk : k < 4) : ∃ v, rf_cache_155 F R (nI (4 * (9 * a + i) + k)) = some (v, R) ∧ cf_X4_top F S (Q a i k).1 = some v := by
  obtain ⟨r1, r2, r3⟩ := hr.1 a i k ha hi hk
  have hm : 4 * (9 * a + i) + k < 288 := by omega
  unfold rf_cache_155
  rw [rd_n (f := 28) (show _ < rlen 28 from hm), r1]
  rcases List.eq_nil_or_concat (M a i k) with h0 | ⟨l, b, hb⟩
  · rw [h0, if_pos (by decide)]
    exact ⟨-1, rfl, top_0 hK hv (by omega) h0⟩
  · rw [List.concat_eq_append] at hb
    have hlen : (M a i k).length = l.length + 1 := by rw [hb]; simp
    have hq : ((3 : Int32) * nI (4 * (9 * a + i) + k) + nI (l.length + 1)) - 1 = nI (3 * (4 * (9 * a + i) + k) + l.length) := by
      rw [show (3 : Int32) * nI (4 * (9 * a + i) + k) = nI (3 * (4 * (9 * a + i) + k)) from pk_mul 3 _, nI_add, ← Nat.add_assoc, nI_pred]
    rw [hlen, if_neg (nI_nle (by omega) (by omega)), rd_n (f := 28) (show _ < rlen 28 from hm), r1, hlen, hq, rd_n (f := 29) (show _ < rlen 29 from (by show _ < 864; omega)), r3 l.length b (by rw [hb]; simp)]
    exact ⟨b, rfl, top_ok hK hv (by omega) hb (by omega)⟩
set_option maxHeartbeats 2000000 in
theorem sim_cache {n x : Nat} {S : Cst} {R : Rst} (F : Nat) (hF : 1000000 ≤ F) (x1 x2 x3 : Int32) (h : Sim (n + 1) x S R) : SimOp n x wk2 (fun k => k = 1 ∨ k = 3) (cf_X6_cache F S x x1 x2 x3) (rf_cache F R x1 x2 x3) := by
  have h0 := h
  obtain ⟨P, L, M, Q, H, t, hA, ht, hH⟩ := h
  obtain ⟨b1, b2, b3, b4, b5⟩ := bud ht
  clear ht
  have hFt : 1000 ≤ F := Nat.le_trans (by decide) hF
  have hR := hA.1
  have hS := hA.2.1
  have hG := hA.2.2.2.1
  have hK := hA.2.2.2.2.1
  have hr := hA.2.2.2.2.2
  unfold cf_X6_cache rf_cache
  rcases arena_ok (F := F) x1 hR hS with ⟨a, ha, rfl, c1, c2⟩ | ⟨c1, c2, _⟩
  · rw [c1, c2, Option.bind_some, Option.bind_some]
    simp only [tr, st2, nnS]
    rw [if_neg (show ¬ (1 : Int32) = 0 by decide)]
    have ha8 : a < 8 := by have := hR.1; omega
    have hp8 : pch P a ≤ 8 := (hR.2.2 a ha).2.1
    have t41 : ∀ y, rf_cache_41 F (rput R 0 0) (nI a) y x3 0 = some (0, rput R 0 2) := by
      intro y
      unfold rf_cache_41
      rw [right_0 put0 (by decide), put00, Option.bind_some]
      simp only [st2]
      rw [if_pos trivial]
    have bad : ∀ cr, cr = some (.inl (3, S)) → ∀ rr, rr = some (0, rput R 0 2) → SimOp n x wk2 (fun k => k = 1 ∨ k = 3) cr rr := fun cr hc rr hr => op_thr (v := 2) h0 (Or.inr rfl) rfl hc hr
    by_cases hex : ∃ i, vd P a i ∧ x2 = nI i
    · obtain ⟨i, hv, rfl⟩ := hex
      have hi1 := hv.2.1
      have hi2 := hv.2.2
      have hi8 : i ≤ 8 := by omega
      rw [cacheOf_ok hR hS hv, Option.bind_some, ncS, if_neg (show ¬ nI i < (1 : Int32) from nI_nlt (b := 1) hi1 (by omega)), rd_n (f := 4) (show a < rlen 4 from ha8), (hR.2.2 a ha).2.2.2.1, if_neg (show ¬ nI (pch P a) < nI i from nI_nlt hi2 (by omega))]
      by_cases h2 : x3 < 0
      · have hn : ∀ k : Nat, k < 10 → ¬ x3 = nI k := fun k hk z => by rw [z] at h2; exact nI_pos (by omega) h2
        rw [if_pos h2]
        rw [if_neg (show ¬ x3 = (0 : Int32) from hn 0 (by decide)), if_neg (show ¬ x3 = (1 : Int32) from hn 1 (by decide)), if_neg (show ¬ x3 = (2 : Int32) from hn 2 (by decide)), if_neg (show ¬ x3 = (3 : Int32) from hn 3 (by decide)), if_neg (show ¬ x3 = (4 : Int32) from hn 4 (by decide)), if_neg (show ¬ x3 = (5 : Int32) from hn 5 (by decide)), if_neg (show ¬ x3 = (6 : Int32) from hn 6 (by decide)), if_neg (show ¬ x3 = (7 : Int32) from hn 7 (by decide)), if_neg (show ¬ x3 = (8 : Int32) from hn 8 (by decide)), if_neg (show ¬ x3 = (9 : Int32) from hn 9 (by decide))]
        exact bad _ rfl _ (t41 _)
      · rw [if_neg h2]
        by_cases h9 : (9 : Int32) < x3
        · have hn : ∀ k : Nat, k < 10 → ¬ x3 = nI k := fun k hk z => by
            rw [z] at h9
            have := (nI_ltI (a := 9) (b := k) (by omega) (by omega)).mp h9
            omega
          rw [if_pos h9]
          rw [if_neg (show ¬ x3 = (0 : Int32) from hn 0 (by decide)), if_neg (show ¬ x3 = (1 : Int32) from hn 1 (by decide)), if_neg (show ¬ x3 = (2 : Int32) from hn 2 (by decide)), if_neg (show ¬ x3 = (3 : Int32) from hn 3 (by decide)), if_neg (show ¬ x3 = (4 : Int32) from hn 4 (by decide)), if_neg (show ¬ x3 = (5 : Int32) from hn 5 (by decide)), if_neg (show ¬ x3 = (6 : Int32) from hn 6 (by decide)), if_neg (show ¬ x3 = (7 : Int32) from hn 7 (by decide)), if_neg (show ¬ x3 = (8 : Int32) from hn 8 (by decide)), if_neg (show ¬ x3 = (9 : Int32) from hn 9 (by decide))]
          exact bad _ rfl _ (t41 _)
        · rw [if_neg h9]
          obtain ⟨j, hj, rfl⟩ := lit_lt (k := 9) (by omega) h2 h9
          have fin : ∀ v, SimOp n x wk2 (fun k => k = 1 ∨ k = 3) (some (.inr (v, S))) (some (v, rput R 0 0)) := fun v => op_ok (fun w => rfl) hA b5 (by omega) rfl rfl
          have mg : rf_magazine F (rput R 0 0) (nI a) (nI i) 0 0 = some (nI (4 * (9 * a + i))) := mag_ok (d := 0) (w := 0)
          unfold rf_cache_41
          rw [right_1 put0, Option.bind_some]
          simp only [st2, st1]
          rw [if_neg (show ¬ (1 : Int32) = 0 by decide), mg, Option.bind_some]
          obtain ⟨k1, k2, k3, k4, k5⟩ := hK.1.1 a i hv
          have hm : ∀ k, k < 4 → 4 * (9 * a + i) + k < rlen 28 := fun k hk => by show _ < 288; omega
          have d0 := hK.1.2.1 a i 0 hv (by omega)
          have d1 := hK.1.2.1 a i 1 hv (by omega)
          have pl := fun k hk => (hK.1.2.2.1 a i k hv hk).2.2.1
          have rl := fun k hk => (hr.1 a i k ha8 hi8 hk).1
          have oh := oh_ok (F := F) hFt hA hv
          have ix : ∀ k, nI (4 * (9 * a + i)) + nI (k + 1) - 1 = nI (4 * (9 * a + i) + k) := by
            intro k
            rw [nI_add, ← Nat.add_assoc, nI_pred]
          rcases (by omega : j = 0 ∨ j = 1 ∨ j = 2 ∨ j = 3 ∨ j = 4 ∨ j = 5 ∨ j = 6 ∨ j = 7 ∨ j = 8 ∨ j = 9) with rfl | rfl | rfl | rfl | rfl | rfl | rfl | rfl | rfl | rfl
          · refine Eq.mp ?_ (fin (nI (csm a i (ch P a i H) L)))
            show _ = SimOp n x wk2 _ ((cf_X0_objectsHeld F S (par P a) (some (pca P a i))).bind fun v5 => some (.inr (v5, S))) ((rf_counted F (rput R 0 0) (nI a) (nI i) 0).bind fun v12 => some (v12, rput R 0 0))
            rw [oh.1, counted_ok hFt hA hv]; rfl
          · refine Eq.mp ?_ (fin (nI (M a i 0).length))
            show _ = SimOp n x wk2 _ (nn (gP S 33 (pca P a i)) fun b7 => nn (gP S 48 b7) fun b9 => some (.inr ((gI S 65 b9), S))) (rd (rput R 0 0) 28 ((nI (4 * (9 * a + i)) + nI (0 + 1)) - 1) fun v13 => some (v13, rput R 0 0))
            rw [k3, nnS, d0.2.1, nnS, pl _ (by omega), ix, rd_n (f := 28) (hm 0 (by omega)), rl 0 (by omega)]
          · refine Eq.mp ?_ (fin (nI (M a i 1).length))
            show _ = SimOp n x wk2 _ (nn (gP S 33 (pca P a i)) fun b7 => nn (gP S 49 b7) fun b9 => some (.inr ((gI S 65 b9), S))) (rd (rput R 0 0) 28 ((nI (4 * (9 * a + i)) + nI (1 + 1)) - 1) fun v13 => some (v13, rput R 0 0))
            rw [k3, nnS, d0.2.2, nnS, pl _ (by omega), ix, rd_n (f := 28) (hm 1 (by omega)), rl 1 (by omega)]
          · refine Eq.mp ?_ (fin (nI (M a i 2).length))
            show _ = SimOp n x wk2 _ (nn (gP S 34 (pca P a i)) fun b7 => nn (gP S 48 b7) fun b9 => some (.inr ((gI S 65 b9), S))) (rd (rput R 0 0) 28 ((nI (4 * (9 * a + i)) + nI (2 + 1)) - 1) fun v13 => some (v13, rput R 0 0))
            rw [k4, nnS, d1.2.1, nnS, pl _ (by omega), ix, rd_n (f := 28) (hm 2 (by omega)), rl 2 (by omega)]
          · refine Eq.mp ?_ (fin (nI (M a i 3).length))
            show _ = SimOp n x wk2 _ (nn (gP S 34 (pca P a i)) fun b7 => nn (gP S 49 b7) fun b9 => some (.inr ((gI S 65 b9), S))) (rd (rput R 0 0) 28 ((nI (4 * (9 * a + i)) + nI (3 + 1)) - 1) fun v13 => some (v13, rput R 0 0))
            rw [k4, nnS, d1.2.2, nnS, pl _ (by omega), ix, rd_n (f := 28) (hm 3 (by omega)), rl 3 (by omega)]
          · obtain ⟨D, hD, hl, h30, _⟩ := hr.2.1 a i ha8 hi8
            refine Eq.mp ?_ (fin (nI D))
            show _ = SimOp n x wk2 _ (nn (gP S 35 (pca P a i)) fun b7 => dv (3 : Int32) (some (.inr (((gI S 65 b7) / 3), S)))) (rd (rput R 0 0) 30 (9 * nI a + nI i) fun v13 => some (v13, rput R 0 0))
            rw [k5, nnS, pl 4 (by omega), hl, div3 D (by omega), show (9 : Int32) * nI a + nI i = nI (9 * a + i) by rw [show (9 : Int32) * nI a = nI (9 * a) from pk_mul 9 _, nI_add], rd_n (f := 30) (show 9 * a + i < rlen 30 by show _ < 72; omega), h30]
            rfl
          · refine Eq.mp ?_ (fin (nI (csm a i (cl P a i M H) L)))
            show _ = SimOp n x wk2 _ ((cf_X0_objectsLying F S (par P a) (some (pca P a i))).bind fun v5 => some (.inr (v5, S))) ((rf_counted F (rput R 0 0) (nI a) (nI i) 6).bind fun v12 => some (v12, rput R 0 0))
            rw [oh.2.1, counted_ok hFt hA hv]; rfl
          · refine Eq.mp ?_ (fin (nI (csm a i (fun _ => 1) L)))
            show _ = SimOp n x wk2 _ ((cf_X0_slabsOf F S (par P a) (some (pca P a i))).bind fun v5 => some (.inr (v5, S))) ((rf_counted F (rput R 0 0) (nI a) (nI i) 7).bind fun v12 => some (v12, rput R 0 0))
            rw [oh.2.2, counted_ok hFt hA hv]; rfl
          · obtain ⟨v, v1, v2⟩ := rtop_ok (F := F) (k := 0) hK.1 hr hv ha8 hi8 (by omega)
            refine Eq.mp ?_ (fin v)
            show _ = SimOp n x wk2 _ (nn (gP S 33 (pca P a i)) fun b7 => nn (gP S 48 b7) fun b9 => (cf_X4_top F S b9).bind fun v31 => some (.inr (v31, S))) (rf_cache_155 F (rput R 0 0) (nI (4 * (9 * a + i) + 0)))
            rw [k3, nnS, d0.2.1, nnS, v1, v2]; rfl
          · obtain ⟨v, v1, v2⟩ := rtop_ok (F := F) (k := 2) hK.1 hr hv ha8 hi8 (by omega)
            refine Eq.mp ?_ (fin v)
            show _ = SimOp n x wk2 _ (nn (gP S 34 (pca P a i)) fun b7 => nn (gP S 48 b7) fun b9 => (cf_X4_top F S b9).bind fun v31 => some (.inr (v31, S))) (rf_cache_155 F (rput R 0 0) (nI (4 * (9 * a + i)) + nI 2))
            rw [nI_add, k4, nnS, d1.2.1, nnS, v1, v2]; rfl
    · rw [cacheOf_no hR hS ha (fun i hv z => hex ⟨i, hv, z⟩), Option.bind_some]
      refine bad _ rfl _ ?_
      by_cases h1 : x2 < 1
      · rw [if_pos h1, t41]
      · rw [if_neg h1, rd_n (f := 4) (show a < rlen 4 from ha8), (hR.2.2 a ha).2.2.2.1, if_pos, t41]
        apply Classical.byContradiction
        intro hlt
        have hx0 : ¬ x2 < 0 := fun z => h1 (Int32.lt_trans z (by decide))
        obtain ⟨j, hj, rfl⟩ := lit_lt (by omega) hx0 hlt
        have hj0 : j ≠ 0 := fun z => by subst z; exact h1 (by decide)
        exact hex ⟨j, ⟨ha, by omega, hj⟩, rfl⟩
  · rw [c1, c2, Option.bind_some, Option.bind_some]
    simp only [tr, st2]
    rw [if_pos trivial]
    exact op_thr h0 (Or.inl rfl) rfl rfl rfl
