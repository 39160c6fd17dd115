/-! ===== pure part: clients' objects, whole slabs ===== -/
def mclr (M : Pil) (a i : Nat) : Pil := fun a' i' k => if a' = a ∧ i' = i ∧ k < 5 then [] else M a' i' k
theorem mclr_fl {M : Pil} {a i : Nat} : fl (mclr M a i) a i = [] := by unfold fl mclr; simp
theorem mclr_y {M : Pil} {a i k : Nat} (h : k < 5) : mclr M a i a i k = [] := by unfold mclr; rw [if_pos ⟨rfl, rfl, h⟩]
theorem mclr_n {M : Pil} {a i a' i' k : Nat} (h : ¬ (a' = a ∧ i' = i)) : mclr M a i a' i' k = M a' i' k := by unfold mclr; rw [if_neg (fun z => h ⟨z.1, z.2.1⟩)]
theorem p33_st {F n a i k : Nat} {kr : Rst → Int32 → Int32 → Int32 → Option (Int32 × Rst)} {g : Int32} {R : Rst} (ha : a < 8) (hi : i ≤ 8) (hk : k < 4) : rf_purges_33 F kr (n + 1) R (nI a) g (nI i) (nI (4 * (9 * a + i) + k)) = rf_purges_33 F kr n (rset R 28 (4 * (9 * a + i) + k) 0) (nI a) g (nI i) (nI (4 * (9 * a + i) + (k + 1))) := by
  simp only [rf_purges_33]
  have mg : rf_magazine F R (nI a) (nI i) 1 1 = some (nI (4 * (9 * a + i) + 2 * 1 + 1)) := mag_ok (d := 1) (w := 1)
  rw [mg, Option.bind_some, if_neg (nI_nlt (by omega) (by omega)), wr_n (f := 28) (show 4 * (9 * a + i) + k < rlen 28 by show _ < 288; omega), nI_1]
  rfl
theorem rclr {F : Nat} {P : Par} {R : Rst} {M : Pil} {H : List (Nat × Int32)} {a i : Nat} {kr : Rst → Int32 → Int32 → Int32 → Option (Int32 × Rst)} {g : Int32} (hF : 1000 ≤ F) (h : uKr P R M H) (ha : a < 8) (hap : a < pn P) (hi : i ≤ 8) : ∃ R', rf_purges_33 F kr F R (nI a) g (nI i) (nI (4 * (9 * a + i))) = rf_purges_74 F kr F R' (nI a) g (nI i) 0 ∧ uKr P R' (mclr M a i) H ∧ uCR R R' := by
  obtain ⟨n, hn⟩ : ∃ n, F = n + 1 + 1 + 1 + 1 + 1 := ⟨F - 5, by omega⟩
  have st : rf_purges_33 F kr F R (nI a) g (nI i) (nI (4 * (9 * a + i))) = rf_purges_33 F kr (n + 1) (rset (rset (rset (rset R 28 (4 * (9 * a + i) + 0) 0) 28 (4 * (9 * a + i) + 1) 0) 28 (4 * (9 * a + i) + 2) 0) 28 (4 * (9 * a + i) + 3) 0) (nI a) g (nI i) (nI (4 * (9 * a + i) + 4)) := by
    have q := p33_st (F := F) (n := n + 1 + 1 + 1 + 1) (k := 0) (kr := kr) (g := g) (R := R) ha hi (by decide)
    rw [← hn, Nat.add_zero] at q
    rw [q, p33_st (k := 0 + 1) ha hi (by decide), p33_st (k := 0 + 1 + 1) ha hi (by decide), p33_st (k := 0 + 1 + 1 + 1) ha hi (by decide)]
    rfl
  rw [st]
  simp only [rf_purges_33]
  have mg : ∀ R, rf_magazine F R (nI a) (nI i) 1 1 = some (nI (4 * (9 * a + i) + 2 * 1 + 1)) := fun R => mag_ok (d := 1) (w := 1)
  rw [mg, Option.bind_some, if_pos (nI_lt (by omega) (by omega)), d9x, wr_n (f := 30) (show 9 * a + i < rlen 30 by show _ < 72; omega)]
  refine ⟨_, rfl, ?_, (((uCR_set (by decide) (by decide)).tr (uCR_set (by decide) (by decide))).tr ((uCR_set (by decide) (by decide)).tr (uCR_set (by decide) (by decide)))).tr (uCR_set (by decide) (by decide))⟩
  obtain ⟨h1, h2, h3, h4, h5, h6, h7⟩ := h
  refine ⟨fun a' i' k' ha' hi' hk' => ?_, fun a' i' ha' hi' => ?_, fun a' i' d' hd' => ?_, fun a' i' k' ha' => ?_, h5, h6, fun p q r hq => ?_⟩
  · rw [rset_f (f' := 29) (by decide), rset_f (f' := 29) (by decide), rset_f (f' := 29) (by decide), rset_f (f' := 29) (by decide), rset_f (f' := 29) (by decide)]
    rw [rset_f (f' := 28) (f := 30) (by decide)]
    simp only [rset_g, true_and]
    by_cases c : a' = a ∧ i' = i
    · obtain ⟨rfl, rfl⟩ := c
      rw [mclr_y (by omega)]
      refine ⟨?_, by simp, fun j v hj => by simp at hj⟩
      rcases (by omega : k' = 0 ∨ k' = 1 ∨ k' = 2 ∨ k' = 3) with rfl | rfl | rfl | rfl <;> simp [nI_0]
    · rw [mclr_n c]
      have hne : 9 * a' + i' ≠ 9 * a + i := fun z => c ⟨by omega, by omega⟩
      rw [if_neg (by omega), if_neg (by omega), if_neg (by omega), if_neg (by omega)]
      exact h1 a' i' k' ha' hi' hk'
  · rw [rset_f (f' := 31) (by decide), rset_f (f' := 31) (by decide), rset_f (f' := 31) (by decide), rset_f (f' := 31) (by decide), rset_f (f' := 31) (by decide)]
    rw [rset_g, rset_f (f' := 30) (by decide), rset_f (f' := 30) (by decide), rset_f (f' := 30) (by decide), rset_f (f' := 30) (by decide)]
    by_cases c : a' = a ∧ i' = i
    · obtain ⟨rfl, rfl⟩ := c
      rw [mclr_y (by decide), if_pos ⟨rfl, rfl⟩]
      exact ⟨0, by decide, rfl, rfl, fun m l v hm => by omega⟩
    · rw [mclr_n c]
      have hne : 9 * a' + i' ≠ 9 * a + i := fun z => c ⟨by omega, by omega⟩
      rw [if_neg (fun z => hne z.2)]
      exact h2 a' i' ha' hi'
  · unfold mclr
    by_cases c : a' = a ∧ i' = i ∧ 2 * d' + 1 < 5
    · rw [if_pos c]; exact Or.inl rfl
    · rw [if_neg c]; exact h3 a' i' d' hd'
  · unfold mclr
    by_cases c : a' = a ∧ i' = i ∧ k' < 5
    · rw [if_pos c]
    · rw [if_neg c]; exact h4 a' i' k' ha'
  · rw [rset_f (by decide), rset_f (by decide), rset_f (by decide), rset_f (by decide), rset_f (by decide), rset_f (f' := 27) (by decide), rset_f (f' := 27) (by decide), rset_f (f' := 27) (by decide), rset_f (f' := 27) (by decide), rset_f (f' := 27) (by decide)]
    exact h7 p q r hq
theorem H8 {P : Par} {R : Rst} {L : List En} {M : Pil} {H : List (Nat × Int32)} (hR : uStR P R) (h : uKo P L M H) : ∀ p ∈ H, p.1 < 8 := by
  intro p hp
  obtain ⟨i, e, j, h1, _⟩ := h.1 p.1 p.2 hp
  have := h1.1.1
  have := hR.1
  omega
theorem held_lp {F : Nat} {P : Par} {R : Rst} {M : Pil} {H : List (Nat × Int32)} {a : Nat} {b : Int32} (h : uKr P R M H) (h8 : ∀ p ∈ H, p.1 < 8) (ha : a < 8) : ∀ (B A : List (Nat × Int32)) (n : Nat), H = A ++ B → B.length < n → rf_isHeld_2 F R n (nI a) b (nI A.length) = some (if (a, b) ∈ B then 1 else 0) := by
  intro B
  induction B with
  | nil =>
    intro A n hH hn
    obtain ⟨n, rfl⟩ : ∃ m, n = m + 1 := ⟨n - 1, by simp at hn; omega⟩
    simp only [rf_isHeld_2]
    rw [List.append_nil] at hH
    rw [h.2.2.2.2.1, hH, if_pos (nI_le (Nat.le_refl _) (by have := h.2.2.2.2.2.1; rw [hH] at this; omega))]
    simp
  | cons p B ih =>
    intro A n hH hn
    obtain ⟨n, rfl⟩ : ∃ m, n = m + 1 := ⟨n - 1, by simp at hn; omega⟩
    have h512 := h.2.2.2.2.2.1
    have hl : A.length < H.length := by rw [hH]; simp
    obtain ⟨g1, g2⟩ := h.2.2.2.2.2.2 A.length p.1 p.2 (by rw [hH]; simp)
    have hk : A.length < 40000 := by omega
    have hr := ih (A ++ [p]) n (by rw [hH]; simp) (by simp at hn; omega)
    have e1 : nI (A ++ [p]).length = nI A.length + 1 := by rw [nI_1]; simp
    rw [e1] at hr
    have hp8 := h8 p (by rw [hH]; simp)
    simp only [rf_isHeld_2]
    rw [h.2.2.2.2.1, if_neg (nI_ge hl (by omega)), rd_n (f := 26) hk, rd_n (f := 27) hk, g1, g2]
    by_cases c1 : p.1 = a
    · rw [if_pos (by rw [c1])]
      by_cases c2 : p.2 = b
      · rw [if_pos c2, if_pos]
        rw [← c1, ← c2]; exact List.mem_cons_self
      · rw [if_neg c2, hr]
        have : ((a, b) ∈ p :: B) ↔ (a, b) ∈ B := by
          rw [List.mem_cons]
          exact ⟨fun z => z.elim (fun w => absurd (congrArg Prod.snd w).symm c2) id, Or.inr⟩
        simp only [this]
    · rw [if_neg (fun z => c1 ((nI_eq (by omega) (by omega)).mp z)), hr]
      have : ((a, b) ∈ p :: B) ↔ (a, b) ∈ B := by
        rw [List.mem_cons]
        exact ⟨fun z => z.elim (fun w => absurd (congrArg Prod.fst w).symm c1) id, Or.inr⟩
      simp only [this]
theorem held_ok {F : Nat} {P : Par} {R : Rst} {M : Pil} {H : List (Nat × Int32)} {a : Nat} {b : Int32} (hF : 1000 ≤ F) (h : uKr P R M H) (h8 : ∀ p ∈ H, p.1 < 8) (ha : a < 8) : rf_isHeld F R (nI a) b = some (if (a, b) ∈ H then 1 else 0) := by
  have := held_lp (F := F) (b := b) h h8 ha H [] F rfl (by have := h.2.2.2.2.2.1; omega)
  exact this
theorem ssz_st {F n a c s : Nat} {R : Rst} (ha : a < 8) (h4 : R.2 4 a = nI c) : rf_slabSize_2 F R (n + 1) (nI a) (nI s) = if (3 : Int32) * nI c ≤ nI s then some (nI s) else rf_slabSize_2 F R n (nI a) (nI (s * 2)) := by
  simp only [rf_slabSize_2]
  rw [rd_n (f := 4) (show a < rlen 4 from ha), h4, show (2 : Int32) = nI 2 from rfl, pk_mul]
theorem ssz_ok {F : Nat} {P : Par} {R : Rst} {a : Nat} (hF : 1000 ≤ F) (hR : uStR P R) (ha : a < pn P) : rf_slabSize F R (nI a) = some (nI (slb (pch P a))) := by
  obtain ⟨n, rfl⟩ : ∃ n, F = n + 1 + 1 + 1 + 1 + 1 + 1 := ⟨F - 6, by omega⟩
  have hq := hR.2.2 a ha
  have ha8 : a < 8 := by have := hR.1; omega
  have h4 := hq.2.2.2.1
  have hc := hq.2.1
  generalize pch P a = c at *
  unfold rf_slabSize
  rw [show (1 : Int32) = nI 1 from rfl]
  rcases (by omega : c = 0 ∨ c = 1 ∨ c = 2 ∨ c = 3 ∨ c = 4 ∨ c = 5 ∨ c = 6 ∨ c = 7 ∨ c = 8) with rfl | rfl | rfl | rfl | rfl | rfl | rfl | rfl | rfl
  · rw [ssz_st ha8 h4, if_pos (by decide)]; rfl
  · rw [ssz_st ha8 h4, if_neg (by decide), ssz_st ha8 h4, if_neg (by decide), ssz_st ha8 h4, if_pos (by decide)]; rfl
  · rw [ssz_st ha8 h4, if_neg (by decide), ssz_st ha8 h4, if_neg (by decide), ssz_st ha8 h4, if_neg (by decide), ssz_st ha8 h4, if_pos (by decide)]; rfl
  · rw [ssz_st ha8 h4, if_neg (by decide), ssz_st ha8 h4, if_neg (by decide), ssz_st ha8 h4, if_neg (by decide), ssz_st ha8 h4, if_neg (by decide), ssz_st ha8 h4, if_pos (by decide)]; rfl
  · rw [ssz_st ha8 h4, if_neg (by decide), ssz_st ha8 h4, if_neg (by decide), ssz_st ha8 h4, if_neg (by decide), ssz_st ha8 h4, if_neg (by decide), ssz_st ha8 h4, if_pos (by decide)]; rfl
  · rw [ssz_st ha8 h4, if_neg (by decide), ssz_st ha8 h4, if_neg (by decide), ssz_st ha8 h4, if_neg (by decide), ssz_st ha8 h4, if_neg (by decide), ssz_st ha8 h4, if_pos (by decide)]; rfl
  · rw [ssz_st ha8 h4, if_neg (by decide), ssz_st ha8 h4, if_neg (by decide), ssz_st ha8 h4, if_neg (by decide), ssz_st ha8 h4, if_neg (by decide), ssz_st ha8 h4, if_neg (by decide), ssz_st ha8 h4, if_pos (by decide)]; rfl
  · rw [ssz_st ha8 h4, if_neg (by decide), ssz_st ha8 h4, if_neg (by decide), ssz_st ha8 h4, if_neg (by decide), ssz_st ha8 h4, if_neg (by decide), ssz_st ha8 h4, if_neg (by decide), ssz_st ha8 h4, if_pos (by decide)]; rfl
  · rw [ssz_st ha8 h4, if_neg (by decide), ssz_st ha8 h4, if_neg (by decide), ssz_st ha8 h4, if_neg (by decide), ssz_st ha8 h4, if_neg (by decide), ssz_st ha8 h4, if_neg (by decide), ssz_st ha8 h4, if_pos (by decide)]; rfl
theorem onm_ok {F : Nat} {P : Par} {R : Rst} {a i : Nat} (hF : 1000 ≤ F) (hR : uStR P R) (hv : vd P a i) : rf_objectsOf F R (nI a) (nI i) = some (nI (onm P a i)) := by
  have := sl_num hR hv
  have h1 := hv.2.1
  unfold rf_objectsOf
  rw [ssz_ok hF hR hv.1, Option.bind_some]
  unfold dv
  rw [if_neg (nI_ne0 h1 (by omega)), pk_div (by omega) h1 (by omega)]
  rfl
def wh (P : Par) (a i : Nat) (H : List (Nat × Int32)) (e : En) : Bool := decide (∀ j, j < onm P a i → (a, ob P a i e j) ∉ H)
theorem obx {P : Par} {a i j : Nat} {e : En} : eB e + ((nI j * nI i) * nI (2 ^ psh P a)) = ob P a i e j := by
  unfold ob osz; rw [pk_mul, pk_mul, Nat.mul_assoc]
theorem whole_lp {F : Nat} {P : Par} {R : Rst} {L A B : List En} {M : Pil} {H : List (Nat × Int32)} {a i : Nat} {e : En} (hF : 1000 ≤ F) (hR : uStR P R) (hr : uKr P R M H) (h8 : ∀ p ∈ H, p.1 < 8) (hv : vd P a i) (hRL : uRL R (A ++ e :: B)) : ∀ d j n, j + d = onm P a i → d < n → (∀ j', j' < j → (a, ob P a i e j') ∉ H) → rf_isWhole_3 F R n (nI A.length) (nI a) (nI i) (nI j) = some (if wh P a i H e = true then 1 else 0) := by
  have ha8 : a < 8 := by have := hR.1; have := hv.1; omega
  have hn := sl_num hR hv
  obtain ⟨k1, k2, g1, g2, g3, g4, g5, g6, g7⟩ := uRL_g hRL (k := A.length) (e := e) get_mid
  intro d
  induction d with
  | zero =>
    intro j n hj hd hall
    obtain ⟨n, rfl⟩ : ∃ m, n = m + 1 := ⟨n - 1, by omega⟩
    simp only [rf_isWhole_3]
    rw [onm_ok hF hR hv, Option.bind_some, if_pos (nI_le (by omega) (by omega)), if_pos]
    unfold wh
    exact decide_eq_true (fun j' hj' => hall j' (by omega))
  | succ d ih =>
    intro j n hj hd hall
    obtain ⟨n, rfl⟩ : ∃ m, n = m + 1 := ⟨n - 1, by omega⟩
    simp only [rf_isWhole_3]
    rw [onm_ok hF hR hv, Option.bind_some, if_neg (nI_ge (by omega) (by omega)), rd_n (f := 12) k2, g2, rd_n (f := 2) (show a < rlen 2 from ha8), (hR.2.2 a hv.1).2.2.1, obx, held_ok hF hr h8 ha8, Option.bind_some]
    by_cases hh : (a, ob P a i e j) ∈ H
    · rw [if_pos hh, if_neg (show ¬ (1 : Int32) = 0 by decide), if_neg]
      unfold wh
      intro z
      exact of_decide_eq_true z j (by omega) hh
    · rw [if_neg hh, if_pos rfl, nI_1]
      refine ih (j + 1) n (by omega) (by omega) (fun j' hj' => ?_)
      by_cases q : j' = j
      · subst q; exact hh
      · exact hall j' (by omega)
theorem whole_ok {F : Nat} {P : Par} {R : Rst} {A B : List En} {M : Pil} {H : List (Nat × Int32)} {a i : Nat} {e : En} (hF : 1000 ≤ F) (hR : uStR P R) (hr : uKr P R M H) (h8 : ∀ p ∈ H, p.1 < 8) (hv : vd P a i) (hRL : uRL R (A ++ e :: B)) : rf_isWhole F R (nI A.length) (nI a) (nI i) = some (if wh P a i H e = true then 1 else 0) := by
  have hn := sl_num hR hv
  exact whole_lp (L := []) hF hR hr h8 hv hRL (onm P a i) 0 F (by omega) (by omega) (fun j hj => by omega)
theorem rslab {F : Nat} {P : Par} {R : Rst} {A B : List En} {a i : Nat} {e : En} (hR : uStR P R) (hL : uLs P R (A ++ e :: B)) (hRL : uRL R (A ++ e :: B)) (hv : vd P a i) : rf_isSlab F R (nI A.length) (nI a) (nI i) = some (if eA e = nI a ∧ eC e = nI i then 1 else 0) := by
  obtain ⟨k1, k2, g1, g2, g3, g4, g5, g6, g7⟩ := uRL_g hRL (k := A.length) (e := e) get_mid
  unfold rf_isSlab
  rw [rd_n (f := 11) k2, g1]
  by_cases h1 : eA e = nI a
  · rw [if_pos h1, rd_n (f := 14) k2, g4]
    by_cases h2 : eO e = 2
    · rw [if_pos h2, rd_n (f := 17) k2, g7]
      by_cases h3 : eC e = nI i
      · rw [if_pos h3, if_pos ⟨h1, h3⟩]
      · rw [if_neg h3, if_neg (fun z => h3 z.2)]
    · rw [if_neg h2, if_neg]
      intro z
      exact nI_c0 hR hv (z.2.symm.trans (eC0 (hL.1 e (by simp)) h2))
  · rw [if_neg h1, if_neg (fun z => h1 z.1)]
/-- a slab whose objects all lie in it -/
theorem cnt_wh {P : Par} {S : Cst} {R : Rst} {L : List En} {M : Pil} {H : List (Nat × Int32)} {a i : Nat} {e : En} (hR : uStR P R) (hs : uKs P S L M H) (h : isSl P L a i e) (hM : fl M a i = []) : cnt (gI S 90 e.1) = onm P a i ↔ wh P a i H e = true := by
  have hn := sl_num hR h.1
  have hb := (hs a i e h).2.2.2
  have hc : cnt (gI S 90 e.1) = fb_ct (bt (gI S 90 e.1)) (onm P a i) := by
    unfold cnt
    have := fb_ct_split (bt (gI S 90 e.1)) (onm P a i) (32 - onm P a i)
    rw [show onm P a i + (32 - onm P a i) = 32 by omega] at this
    rw [this]
    have z : fb_ct (fun k => bt (gI S 90 e.1) (onm P a i + k)) (32 - onm P a i) = 0 := by
      rw [fb_ct_zero]
      intro k hk
      cases hq : bt (gI S 90 e.1) (onm P a i + k) with
      | false => rfl
      | true => have := (hb (onm P a i + k) (by omega)).mp hq; omega
    rw [z, Nat.add_zero]
  rw [hc, fb_ct_all]
  unfold wh
  rw [decide_eq_true_iff]
  constructor
  · intro q j hj; exact ((hb j (by omega)).mp (q j hj)).2.1
  · intro q k hk
    exact (hb k (by omega)).mpr ⟨hk, q k hk, by rw [hM]; simp⟩
def sw1 (P : Par) (a i : Nat) (H : List (Nat × Int32)) (f : En) : Bool := decide (eC f = nI i) && wh P a i H f
theorem idle_lp {F : Nat} {P : Par} {x : Nat} {S : Cst} {R : Rst} {L : List En} {M : Pil} {Q : Pad} {H : List (Nat × Int32)} {t a i : Nat} (hB : uB P x S R L M Q H t) (hv : vd P a i) (hM : fl M a i = []) : ∀ (l : List En) (pr : Option Nat) (n : Nat), (∀ f ∈ l, f ∈ L ∧ eA f = nI a) → usg S pr (uad l) none → l.length < n → cf_X0_idleSlab_5 F (par P a) S n (some (pca P a i)) (uhd (uad l) none) = some ((l.find? (sw1 P a i H)).map (fun f => f.1)) := by
  intro l
  induction l with
  | nil =>
    intro pr n _ _ hn
    obtain ⟨n, rfl⟩ : ∃ m, n = m + 1 := ⟨n - 1, by simp at hn; omega⟩
    rfl
  | cons f l ih =>
    intro pr n hl hc hn
    obtain ⟨n, rfl⟩ : ∃ m, n = m + 1 := ⟨n - 1, by simp at hn; omega⟩
    rw [uad_c] at hc
    obtain ⟨c1, c2, c3⟩ := hc
    have hr := ih (some f.1) n (fun g hg => hl g (by simp [hg])) c3 (by simp at hn; omega)
    obtain ⟨hf1, hf2⟩ := hl f (by simp)
    simp only [cf_X0_idleSlab_5, st1]
    rw [uad_c]
    simp only [uhd]
    rw [ncS, cslabW hB.w hv hf1 hf2, c2]
    by_cases q : eC f = nI i
    · rw [if_pos q, Option.bind_some, if_neg (by decide), bcnt_ok, Option.bind_some]
      have hsl : isSl P L a i f := ⟨hv, hf1, hf2, q⟩
      have hk := cnt_wh hB.1 hB.2.2.2.2.2.1 hsl hM
      have hn' := sl_num hB.1 hv
      have hc32 : cnt (gI S 90 f.1) ≤ 32 := fb_ct_le _ _
      rw [(hB.2.2.2.2.2.1 a i f hsl).2.1]
      by_cases w : wh P a i H f = true
      · rw [if_pos (by rw [hk.mpr w]), List.find?_cons_of_pos]
        · rfl
        · unfold sw1; simp [q, w]
      · rw [if_neg (fun z => w (hk.mp ((nI_eq (by omega) (by omega)).mp z))), List.find?_cons_of_neg]
        · exact hr
        · unfold sw1; simp [q, w]
    · rw [if_neg q, Option.bind_some, if_pos rfl, List.find?_cons_of_neg]
      · exact hr
      · unfold sw1; simp [q]
theorem idle_ok {F : Nat} {P : Par} {x : Nat} {S : Cst} {R : Rst} {L : List En} {M : Pil} {Q : Pad} {H : List (Nat × Int32)} {t a i : Nat} (hF : 1000 ≤ F) (hB : uB P x S R L M Q H t) (hv : vd P a i) (hM : fl M a i = []) : cf_X0_idleSlab F S (par P a) (some (pca P a i)) = some (((uOf a L).find? (sw1 P a i H)).map (fun f => f.1)) := by
  have hc := (hB.2.2.2.1.2.2.2.1.2.2 a hv.1).1
  have := uOf_le (a := a) (L := L)
  have := hB.2.2.2.1.2.2.1.2.1
  unfold cf_X0_idleSlab
  simp only [st1]
  rw [hc.1]
  exact idle_lp hB hv hM _ none F (fun f hf => uOf_mem.mp hf) hc.2 (by omega)
