/-! ===== pure part: the call count ===== -/
def spP (R : Rst) (a : Nat) (f : Int32) (s : Nat) : Bool := decide (R.2 22 s = 1 ∧ R.2 19 s = nI a ∧ (¬ R.2 23 s = 0 ∨ f = 0))
theorem sp_lp {F a : Nat} {R : Rst} {f : Int32} (h01 : ∀ s, s < 600 → R.2 22 s = 0 ∨ R.2 22 s = 1) : ∀ d k n, k + d = 600 → d < n → rf_spansOf_5 F R n (nI a) f (nI ((List.range k).filter (spP R a f)).length) (nI k) = some (nI ((List.range 600).filter (spP R a f)).length) := by
  intro d
  induction d with
  | zero =>
    intro k n hk hn
    obtain ⟨n, rfl⟩ : ∃ m, n = m + 1 := ⟨n - 1, by omega⟩
    simp only [rf_spansOf_5]
    rw [if_pos (show (600 : Int32) ≤ nI k from nI_le (a := 600) (by omega) (by omega)), show k = 600 by omega]
  | succ d ih =>
    intro k n hk hn
    obtain ⟨n, rfl⟩ : ∃ m, n = m + 1 := ⟨n - 1, by omega⟩
    have hk6 : k < 600 := by omega
    have hr := ih (k + 1) n (by omega) (by omega)
    rw [List.range_succ, List.filter_append, List.length_append] at hr
    have h6 : ¬ (600 : Int32) ≤ nI k := nI_ge (b := 600) hk6 (by omega)
    have keep : spP R a f k = false → rf_spansOf_5 F R n (nI a) f (nI ((List.range k).filter (spP R a f)).length) (nI (k + 1)) = some (nI ((List.range 600).filter (spP R a f)).length) := by
      intro hp
      rw [List.filter_cons_of_neg (by rw [hp]; decide)] at hr
      simpa using hr
    have one : spP R a f k = true → rf_spansOf_5 F R n (nI a) f (nI ((List.range k).filter (spP R a f)).length + 1) (nI (k + 1)) = some (nI ((List.range 600).filter (spP R a f)).length) := by
      intro hp
      rw [List.filter_cons_of_pos hp] at hr
      rw [nI_1]
      simpa using hr
    simp only [rf_spansOf_5]
    rw [if_neg h6, rd_n (f := 22) hk6, nI_1]
    rcases h01 k hk6 with hl | hl
    · rw [hl, if_pos rfl]
      exact keep (by unfold spP; rw [hl]; simp)
    · rw [hl, if_neg (show ¬ (1 : Int32) = 0 by decide), rd_n (f := 19) hk6]
      by_cases h19 : R.2 19 k = nI a
      · rw [if_pos h19, rd_n (f := 23) hk6]
        by_cases h23 : R.2 23 k = 0
        · rw [if_pos h23]
          by_cases hf : f = 0
          · rw [if_pos hf]; exact one (by unfold spP; simp [hl, h19, hf])
          · rw [if_neg hf]; exact keep (by unfold spP; simp [h23, hf])
        · rw [if_neg h23]; exact one (by unfold spP; simp [hl, h19, h23])
      · rw [if_neg h19]; exact keep (by unfold spP; simp [h19])
theorem spans_ok {F : Nat} {P : Par} {x : Nat} {S : Cst} {R : Rst} {L : List En} {M : Pil} {Q : Pad} {H : List (Nat × Int32)} {t a : Nat} (hF : 1000 ≤ F) (hA : uA P x S R L M Q H t) (ha : a < pn P) : rf_spansOf F R (nI a) 0 = some (gI S 8 (par P a)) ∧ rf_spansOf F R (nI a) 1 = some (if (psc P a).isSome then gI S 8 (par P a) else 0) := by
  have hG := hA.2.2.2.1
  have h8 := hG.2.2.2.2.1 a ha
  have imp : ∀ s, s < 600 → R.2 22 s = 1 → R.2 19 s = nI a → R.2 23 s = (if (psc P a).isSome then 1 else 0) := by
    intro s hs hl h19
    obtain ⟨a', a1, a2, a3, _⟩ := hG.2.1.2.1 s hs hl
    have : a' = a := nI8 hA.1.1 a1 ha (a2.symm.trans h19)
    subst this; exact a3
  constructor
  · have := sp_lp (F := F) (a := a) (f := 0) hG.2.1.1 600 0 F (by omega) (by omega)
    rw [h8, livA_f]
    have e : (List.range 600).filter (spP R a 0) = (List.range 600).filter (fun s => decide (R.2 22 s = 1 ∧ R.2 19 s = nI a)) := by
      apply List.filter_congr
      intro s _
      unfold spP; simp
    rw [e] at this
    exact this
  · have := sp_lp (F := F) (a := a) (f := 1) hG.2.1.1 600 0 F (by omega) (by omega)
    cases hpc : (psc P a).isSome with
    | true =>
      rw [h8, livA_f]
      have e : (List.range 600).filter (spP R a 1) = (List.range 600).filter (fun s => decide (R.2 22 s = 1 ∧ R.2 19 s = nI a)) := by
        apply List.filter_congr
        intro s hs
        unfold spP
        by_cases q : R.2 22 s = 1 ∧ R.2 19 s = nI a
        · have := imp s (List.mem_range.mp hs) q.1 q.2
          rw [hpc] at this
          simp [q, this]
        · have q' : ¬ (R.2 22 s = 1 ∧ R.2 19 s = nI a ∧ (¬ R.2 23 s = 0 ∨ (1 : Int32) = 0)) := fun z => q ⟨z.1, z.2.1⟩
          rw [decide_eq_false q, decide_eq_false q']
      rw [e] at this
      exact this
    | false =>
      have e : (List.range 600).filter (spP R a 1) = [] := by
        rw [List.filter_eq_nil_iff]
        intro s hs
        unfold spP
        intro z
        have z := of_decide_eq_true z
        have := imp s (List.mem_range.mp hs) z.1 z.2.1
        rw [hpc] at this
        rcases z.2.2 with w | w
        · exact w this
        · exact absurd w (by decide)
      rw [e] at this
      exact this
/-! what clients hold in objects -/
def ch (P : Par) (a i : Nat) (H : List (Nat × Int32)) (e : En) : Nat := fb_ct (fun j => decide ((a, ob P a i e j) ∈ H)) (onm P a i)
def cls (e : En) : Nat := (eC e).toNatClampNeg
def hsum (P : Par) (a : Nat) (H : List (Nat × Int32)) : List En → Nat
  | [] => 0
  | e :: l => hsum P a H l + (if eC e = 0 then 0 else ch P a (cls e) H e * osz P a (cls e))
theorem cls_ok {P : Par} {R : Rst} {L : List En} {a i : Nat} {e : En} (hR : uStR P R) (h : isSl P L a i e) : cls e = i := by
  unfold cls; rw [h.2.2.2]; exact nI_clamp (by have := (sl_num hR h.1).2.2.2.2.2.2; omega)
theorem ch_nil {P : Par} {a i : Nat} {e : En} : ch P a i [] e = 0 := by
  unfold ch; rw [fb_ct_zero]; intro k _; simp
theorem hsum_nil {P : Par} {a : Nat} : ∀ l, hsum P a [] l = 0 := by
  intro l
  induction l with
  | nil => rfl
  | cons e l ih => simp only [hsum]; rw [ih, ch_nil]; split <;> simp
theorem hsum_o {P : Par} {R : Rst} {L : List En} {H : List (Nat × Int32)} {a i0 j0 : Nat} {e0 : En} (hR : uStR P R) (hL : uLs P R L) (h0 : isSl P L a i0 e0) (hj : j0 < onm P a i0) : ∀ l : List En, (∀ f ∈ l, f ∈ L ∧ eA f = nI a) → e0 ∉ l → hsum P a ((a, ob P a i0 e0 j0) :: H) l = hsum P a H l := by
  intro l
  induction l with
  | nil => intro _ _; rfl
  | cons e l ih =>
    intro hl hn
    simp only [hsum]
    rw [ih (fun f hf => hl f (List.mem_cons_of_mem _ hf)) (fun z => hn (List.mem_cons_of_mem _ z))]
    by_cases hc : eC e = 0
    · rw [if_pos hc, if_pos hc]
    · rw [if_neg hc, if_neg hc]
      obtain ⟨i, hs⟩ := sl_of hR hL (hl e (by simp)).1 h0.1.1 (hl e (by simp)).2 hc
      rw [cls_ok hR hs]
      have : ch P a i ((a, ob P a i0 e0 j0) :: H) e = ch P a i H e := by
        unfold ch
        apply fb_ct_cong
        intro k hk
        have hne : (a, ob P a i e k) ≠ (a, ob P a i0 e0 j0) := by
          intro z
          obtain ⟨w, _⟩ := ob_inj hR hL hs h0 hk hj (congrArg Prod.snd z)
          exact hn (by rw [← w]; exact List.mem_cons_self)
        simp [hne]
      rw [this]
theorem hsum_y {P : Par} {R : Rst} {L : List En} {H : List (Nat × Int32)} {a i0 j0 : Nat} {e0 : En} (hR : uStR P R) (hL : uLs P R L) (h0 : isSl P L a i0 e0) (hj : j0 < onm P a i0) (hH : (a, ob P a i0 e0 j0) ∉ H) : ∀ l : List En, (∀ f ∈ l, f ∈ L ∧ eA f = nI a) → l.Nodup → e0 ∈ l → hsum P a ((a, ob P a i0 e0 j0) :: H) l = hsum P a H l + osz P a i0 := by
  intro l
  induction l with
  | nil => intro _ _ h; cases h
  | cons e l ih =>
    intro hl hnd hm
    simp only [hsum]
    have hl' : ∀ f ∈ l, f ∈ L ∧ eA f = nI a := fun f hf => hl f (List.mem_cons_of_mem _ hf)
    have hnd' := List.nodup_cons.mp hnd
    by_cases q : e = e0
    · subst q
      rw [hsum_o hR hL h0 hj l hl' hnd'.1, if_neg (by rw [h0.2.2.2]; exact nI_c0 hR h0.1), if_neg (by rw [h0.2.2.2]; exact nI_c0 hR h0.1), cls_ok hR h0]
      have hc : ch P a i0 ((a, ob P a i0 e j0) :: H) e = ch P a i0 H e + 1 := by
        have hu := fb_ct_upd (fun j => decide ((a, ob P a i0 e j) ∈ H)) true (i := j0) (n := onm P a i0) hj
        have e1 : fb_ct (fun k => if k = j0 then true else decide ((a, ob P a i0 e k) ∈ H)) (onm P a i0) = ch P a i0 ((a, ob P a i0 e j0) :: H) e := by
          unfold ch
          apply fb_ct_cong
          intro k hk
          by_cases hkj : k = j0
          · subst hkj; simp
          · have hne : (a, ob P a i0 e k) ≠ (a, ob P a i0 e j0) := by
              intro z
              exact hkj (ob_inj hR hL h0 h0 hk hj (congrArg Prod.snd z)).2.2
            simp [hkj, hne]
        rw [e1] at hu
        have e2 : decide ((a, ob P a i0 e j0) ∈ H) = false := decide_eq_false hH
        simp only [e2] at hu
        have e3 : fb_ct (fun j => decide ((a, ob P a i0 e j) ∈ H)) (onm P a i0) = ch P a i0 H e := rfl
        rw [e3, if_neg (by simp), if_pos trivial] at hu
        omega
      rw [hc, Nat.add_mul]
      omega
    · have hm' : e0 ∈ l := by
        rcases List.mem_cons.mp hm with z | z
        · exact absurd z.symm q
        · exact z
      rw [ih hl' hnd'.2 hm']
      by_cases hc : eC e = 0
      · rw [if_pos hc, if_pos hc]; omega
      · rw [if_neg hc, if_neg hc]
        obtain ⟨i, hs⟩ := sl_of hR hL (hl e (by simp)).1 h0.1.1 (hl e (by simp)).2 hc
        rw [cls_ok hR hs]
        have : ch P a i ((a, ob P a i0 e0 j0) :: H) e = ch P a i H e := by
          unfold ch
          apply fb_ct_cong
          intro k hk
          have hne : (a, ob P a i e k) ≠ (a, ob P a i0 e0 j0) := by
            intro z
            exact q (ob_inj hR hL hs h0 hk hj (congrArg Prod.snd z)).1
          simp [hne]
        rw [this]; omega
theorem hsum_n {P : Par} {a : Nat} {p : Nat × Int32} {H : List (Nat × Int32)} (hp : p.1 ≠ a) : ∀ l : List En, hsum P a (p :: H) l = hsum P a H l := by
  intro l
  induction l with
  | nil => rfl
  | cons e l ih =>
    simp only [hsum]
    rw [ih]
    have : ch P a (cls e) (p :: H) e = ch P a (cls e) H e := by
      unfold ch
      apply fb_ct_cong
      intro k hk
      have hne : (a, ob P a (cls e) e k) ≠ p := fun z => hp (by rw [← z])
      simp [hne]
    rw [this]
theorem hin_lp {F : Nat} {P : Par} {x : Nat} {S : Cst} {R : Rst} {L : List En} {M : Pil} {Q : Pad} {H : List (Nat × Int32)} {t a : Nat} (hF : 1000 ≤ F) (hA : uA P x S R L M Q H t) (ha : a < pn P) : ∀ (B A : List (Nat × Int32)) (n : Nat) (acc : Nat), H = A ++ B → B.length < n → rf_heldIn_4 F R n (nI a) (nI acc) (nI A.length) = some (nI (acc + hsum P a B (uOf a L))) := by
  obtain ⟨hR, hS, hD, hG, hK, hr⟩ := hA
  have ha8 : a < 8 := by have := hR.1; omega
  have hnd : (uOf a L).Nodup := by
    have q := hG.2.2.2.1.2.1
    unfold uad at q
    rw [List.nodup_iff_pairwise_ne, List.pairwise_map] at q
    have q2 : L.Nodup := by
      rw [List.nodup_iff_pairwise_ne]
      exact q.imp (fun h z => h (congrArg Prod.fst z))
    exact List.Sublist.nodup List.filter_sublist q2
  have h8 := H8 hR hK.2.2
  intro B
  induction B with
  | nil =>
    intro A n acc hH hn
    obtain ⟨n, rfl⟩ : ∃ m, n = m + 1 := ⟨n - 1, by simp at hn; omega⟩
    rw [List.append_nil] at hH
    simp only [rf_heldIn_4]
    rw [hr.2.2.2.2.1, hH, if_pos (nI_le (Nat.le_refl _) (by have := hr.2.2.2.2.2.1; rw [hH] at this; omega)), hsum_nil]
    rfl
  | cons p B ih =>
    intro A n acc hH hn
    obtain ⟨n, rfl⟩ : ∃ m, n = m + 1 := ⟨n - 1, by simp at hn; omega⟩
    have h512 := hr.2.2.2.2.2.1
    have hl : A.length < H.length := by rw [hH]; simp
    obtain ⟨g1, g2⟩ := hr.2.2.2.2.2.2 A.length p.1 p.2 (by rw [hH]; simp)
    have hk : A.length < 40000 := by omega
    have hp8 := h8 p (by rw [hH]; simp)
    have hr' := fun acc => ih (A ++ [p]) n acc (by rw [hH]; simp) (by simp at hn; omega)
    have e1 : nI (A ++ [p]).length = nI A.length + 1 := by rw [nI_1]; simp
    rw [e1] at hr'
    simp only [rf_heldIn_4]
    rw [hr.2.2.2.2.1, if_neg (nI_ge hl (by omega)), rd_n (f := 26) hk, g1]
    by_cases c : p.1 = a
    · rw [if_pos (by rw [c]), rd_n (f := 27) hk, g2]
      have hm : (a, p.2) ∈ H := by
        have : p = (a, p.2) := Prod.ext c rfl
        rw [← this, hH]; simp
      obtain ⟨i, e, j, w1, w2, w3⟩ := hK.2.2.1 a p.2 hm
      have hin := ob_in hR hG.1 w1 w2
      rw [← w3] at hin
      rcases slabAt_ok (F := F) (a := a) (num := p.2) hF hG with ⟨A2, e2, B2, q1, q2, q3, q4, q5⟩ | ⟨q1, _⟩
      · have hee : e2 = e := by
          unfold inR at hin q4
          simp at hin q4
          exact uLs_uq hG.1 (by rw [q1]; simp) w1.2.1 (q2.trans w1.2.2.1.symm) (by omega) (by omega)
        subst hee
        have hRL := hG.2.2.1
        rw [q1] at hRL
        obtain ⟨z1, z2, y1, y2, y3, y4, y5, y6, y7⟩ := uRL_g hRL (k := A2.length) (e := e2) get_mid
        rw [q5, Option.bind_some, rd_n (f := 17) z2, y7, w1.2.2.2, rd_n (f := 2) (show a < rlen 2 from ha8), (hR.2.2 a ha).2.2.1, pk_mul, nI_add, hr']
        have hpp : p = (a, ob P a i e2 j) := Prod.ext c w3
        have hnB : (a, ob P a i e2 j) ∉ B := by
          have hh := hK.2.2.2.2.1
          rw [hH, hpp] at hh
          exact (List.nodup_cons.mp (List.nodup_append.mp hh).2.1).1
        rw [hpp, hsum_y hR hG.1 w1 w2 hnB (uOf a L) (fun f hf => uOf_mem.mp hf) hnd (uOf_mem.mpr ⟨w1.2.1, w1.2.2.1⟩)]
        refine congrArg (fun z => some (nI z)) ?_
        unfold osz; omega
      · rw [q1 e w1.2.1 w1.2.2.1 (sl_ent hR hG.1 w1).1] at hin; cases hin
    · rw [if_neg (fun z => c ((nI_eq (by omega) (by omega)).mp z)), hr', hsum_n c]
theorem cnt_h {P : Par} {S : Cst} {R : Rst} {L : List En} {M : Pil} {H : List (Nat × Int32)} {a i : Nat} {e : En} (hR : uStR P R) (hs : uKs P S L M H) (h : isSl P L a i e) : cnt (gI S 91 e.1) = ch P a i H e := by
  have hn := sl_num hR h.1
  have hb := (hs a i e h).2.2.1
  unfold cnt ch
  have := fb_ct_split (bt (gI S 91 e.1)) (onm P a i) (32 - onm P a i)
  rw [show onm P a i + (32 - onm P a i) = 32 by omega] at this
  rw [this]
  have z : fb_ct (fun k => bt (gI S 91 e.1) (onm P a i + k)) (32 - onm P a i) = 0 := by
    rw [fb_ct_zero]
    intro k hk
    cases hq : bt (gI S 91 e.1) (onm P a i + k) with
    | false => rfl
    | true => have := (hb (onm P a i + k) (by omega)).mp hq; omega
  rw [z, Nat.add_zero]
  apply fb_ct_cong
  intro k hk
  have := hb k (by omega)
  by_cases q : (a, ob P a i e k) ∈ H
  · rw [decide_eq_true q]; exact this.mpr ⟨hk, q⟩
  · rw [decide_eq_false q]
    cases hq : bt (gI S 91 e.1) k with
    | false => rfl
    | true => exact absurd (this.mp hq).2 q
theorem nih_lp {F : Nat} {P : Par} {x : Nat} {S : Cst} {R : Rst} {L : List En} {M : Pil} {Q : Pad} {H : List (Nat × Int32)} {t a : Nat} (hA : uA P x S R L M Q H t) (ha : a < pn P) : ∀ (l : List En) (pr : Option Nat) (n acc : Nat), (∀ f ∈ l, f ∈ L ∧ eA f = nI a) → usg S pr (uad l) none → l.length < n → cf_X0_numbersInHeldObjects_7 F (par P a) S n (nI acc) (uhd (uad l) none) = some (nI (acc + hsum P a H l)) := by
  obtain ⟨hR, hS, hD, hG, hK, hr⟩ := hA
  intro l
  induction l with
  | nil =>
    intro pr n acc _ _ hn
    obtain ⟨n, rfl⟩ : ∃ m, n = m + 1 := ⟨n - 1, by simp at hn; omega⟩
    rfl
  | cons f l ih =>
    intro pr n acc hl hc hn
    obtain ⟨n, rfl⟩ : ∃ m, n = m + 1 := ⟨n - 1, by simp at hn; omega⟩
    rw [uad_c] at hc ⊢
    obtain ⟨c1, c2, c3⟩ := hc
    obtain ⟨hf1, hf2⟩ := hl f (by simp)
    have hr' := fun acc => ih (some f.1) n acc (fun g hg => hl g (by simp [hg])) c3 (by simp at hn; omega)
    simp only [cf_X0_numbersInHeldObjects_7, uhd, ncS, st1, hsum]
    rw [(hG.2.2.2.1.1 f hf1).2.2.2.1, c2]
    by_cases ho : eO f = 2
    · have hc0 := hK.2.2.2.2.2.2.2 f hf1 ho
      obtain ⟨i, hsl⟩ := sl_of hR hG.1 hf1 ha hf2 hc0
      rw [if_pos ho, bcnt_ok, Option.bind_some, (hK.2.1 a i f hsl).1, cnt_h hR hK.2.1 hsl, pk_mul, nI_add, hr', if_neg hc0, cls_ok hR hsl]
      refine congrArg (fun z => some (nI z)) ?_
      omega
    · rw [if_neg ho, Int32.add_zero, hr', if_pos (eC0 (hG.1.1 f hf1) ho), Nat.add_zero]
set_option maxHeartbeats 2000000 in
theorem sim_count {n x : Nat} {S : Cst} {R : Rst} (F : Nat) (hF : 1000000 ≤ F) (x1 x2 : Int32) (h : Sim (n + 1) x S R) : SimOp n x wk2 (fun k => k = 1 ∨ k = 3) (cf_X6_count F S x x1 x2) (rf_count F R x1 x2) := by
  have h0 := h
  obtain ⟨P, L, M, Q, H, t, hA, ht, hH⟩ := h
  obtain ⟨b1, b2, b3, b4, b5⟩ := bud ht
  clear ht
  have hFt : 1000 ≤ F := Nat.le_trans (by decide) hF
  have hR := hA.1
  have hS := hA.2.1
  have hG := hA.2.2.2.1
  unfold cf_X6_count rf_count
  rcases arena_ok (F := F) x1 hR hS with ⟨a, ha, rfl, c1, c2⟩ | ⟨c1, c2, _⟩
  · rw [c1, c2, Option.bind_some, Option.bind_some]
    simp only [tr, st2, nnS, st1]
    rw [if_neg (show ¬ (1 : Int32) = 0 by decide)]
    have ha8 : a < 8 := by have := hR.1; omega
    have t24 : rf_count_24 F (rput R 0 0) (nI a) x2 0 = some (0, rput R 0 2) := by
      unfold rf_count_24
      rw [right_0 put0 (by decide), put00, Option.bind_some]
      simp only [st2]
      rw [if_pos trivial]
    have none_of : (∀ k : Nat, k < 15 → ¬ x2 = nI k) → SimOp n x wk2 (fun k => k = 1 ∨ k = 3) (some (.inl (3, S))) (rf_count_24 F (rput R 0 0) (nI a) x2 0) := fun _ => op_thr (v := 2) h0 (Or.inr rfl) rfl rfl t24
    have far : (∀ k : Nat, k < 15 → ¬ x2 = nI k) → ∀ (y : Fin 15 → Option (Thr Int32)), (if x2 = 0 then y 0 else if x2 = 1 then y 1 else if x2 = 2 then y 2 else if x2 = 3 then y 3 else if x2 = 4 then y 4 else if x2 = 5 then y 5 else if x2 = 6 then y 6 else if x2 = 7 then y 7 else if x2 = 8 then y 8 else if x2 = 9 then y 9 else if x2 = 10 then y 10 else if x2 = 11 then y 11 else if x2 = 12 then y 12 else if x2 = 13 then y 13 else if x2 = 14 then y 14 else some (.inl (3, S))) = some (.inl (3, S)) := by
      intro hn y
      rw [if_neg (show ¬ x2 = (0 : Int32) from hn 0 (by decide)), if_neg (show ¬ x2 = (1 : Int32) from hn 1 (by decide)), if_neg (show ¬ x2 = (2 : Int32) from hn 2 (by decide)), if_neg (show ¬ x2 = (3 : Int32) from hn 3 (by decide)), if_neg (show ¬ x2 = (4 : Int32) from hn 4 (by decide)), if_neg (show ¬ x2 = (5 : Int32) from hn 5 (by decide)), if_neg (show ¬ x2 = (6 : Int32) from hn 6 (by decide)), if_neg (show ¬ x2 = (7 : Int32) from hn 7 (by decide)), if_neg (show ¬ x2 = (8 : Int32) from hn 8 (by decide)), if_neg (show ¬ x2 = (9 : Int32) from hn 9 (by decide)), if_neg (show ¬ x2 = (10 : Int32) from hn 10 (by decide)), if_neg (show ¬ x2 = (11 : Int32) from hn 11 (by decide)), if_neg (show ¬ x2 = (12 : Int32) from hn 12 (by decide)), if_neg (show ¬ x2 = (13 : Int32) from hn 13 (by decide)), if_neg (show ¬ x2 = (14 : Int32) from hn 14 (by decide))]
    by_cases h2 : x2 < 0
    · have hn : ∀ k : Nat, k < 15 → ¬ x2 = nI k := fun k hk z => by rw [z] at h2; exact nI_pos (by omega) h2
      rw [if_pos h2]
      rw [if_neg (show ¬ x2 = (0 : Int32) from hn 0 (by decide)), if_neg (show ¬ x2 = (1 : Int32) from hn 1 (by decide)), if_neg (show ¬ x2 = (2 : Int32) from hn 2 (by decide)), if_neg (show ¬ x2 = (3 : Int32) from hn 3 (by decide)), if_neg (show ¬ x2 = (4 : Int32) from hn 4 (by decide)), if_neg (show ¬ x2 = (5 : Int32) from hn 5 (by decide)), if_neg (show ¬ x2 = (6 : Int32) from hn 6 (by decide)), if_neg (show ¬ x2 = (7 : Int32) from hn 7 (by decide)), if_neg (show ¬ x2 = (8 : Int32) from hn 8 (by decide)), if_neg (show ¬ x2 = (9 : Int32) from hn 9 (by decide)), if_neg (show ¬ x2 = (10 : Int32) from hn 10 (by decide)), if_neg (show ¬ x2 = (11 : Int32) from hn 11 (by decide)), if_neg (show ¬ x2 = (12 : Int32) from hn 12 (by decide)), if_neg (show ¬ x2 = (13 : Int32) from hn 13 (by decide)), if_neg (show ¬ x2 = (14 : Int32) from hn 14 (by decide))]
      exact none_of hn
    · rw [if_neg h2]
      by_cases h14 : (14 : Int32) < x2
      · have hn : ∀ k : Nat, k < 15 → ¬ x2 = nI k := fun k hk z => by
          rw [z] at h14
          have := (nI_ltI (a := 14) (b := k) (by omega) (by omega)).mp h14
          omega
        rw [if_pos h14]
        rw [if_neg (show ¬ x2 = (0 : Int32) from hn 0 (by decide)), if_neg (show ¬ x2 = (1 : Int32) from hn 1 (by decide)), if_neg (show ¬ x2 = (2 : Int32) from hn 2 (by decide)), if_neg (show ¬ x2 = (3 : Int32) from hn 3 (by decide)), if_neg (show ¬ x2 = (4 : Int32) from hn 4 (by decide)), if_neg (show ¬ x2 = (5 : Int32) from hn 5 (by decide)), if_neg (show ¬ x2 = (6 : Int32) from hn 6 (by decide)), if_neg (show ¬ x2 = (7 : Int32) from hn 7 (by decide)), if_neg (show ¬ x2 = (8 : Int32) from hn 8 (by decide)), if_neg (show ¬ x2 = (9 : Int32) from hn 9 (by decide)), if_neg (show ¬ x2 = (10 : Int32) from hn 10 (by decide)), if_neg (show ¬ x2 = (11 : Int32) from hn 11 (by decide)), if_neg (show ¬ x2 = (12 : Int32) from hn 12 (by decide)), if_neg (show ¬ x2 = (13 : Int32) from hn 13 (by decide)), if_neg (show ¬ x2 = (14 : Int32) from hn 14 (by decide))]
        exact none_of hn
      · rw [if_neg h14]
        obtain ⟨j, hj, rfl⟩ := lit_lt (k := 14) (by omega) h2 h14
        unfold rf_count_24
        rw [right_1 put0, Option.bind_some]
        simp only [st2]
        rw [if_neg (show ¬ (1 : Int32) = 0 by decide)]
        have fin : ∀ v, SimOp n x wk2 (fun k => k = 1 ∨ k = 3) (some (.inr (v, S))) (some (v, rput R 0 0)) := fun v => op_ok (fun w => rfl) hA b5 (by omega) rfl rfl
        have hs := hS.2.2.2.2 a ha
        have hq := hR.2.2 a ha
        have hd := hA.2.2.1.1 a ha
        have hcs := (hG.2.2.2.1.2.2 a ha).1
        have hle := uOf_le (a := a) (L := L)
        have h600 := hG.2.2.1.2.1
        rcases (by omega : j = 0 ∨ j = 1 ∨ j = 2 ∨ j = 3 ∨ j = 4 ∨ j = 5 ∨ j = 6 ∨ j = 7 ∨ j = 8 ∨ j = 9 ∨ j = 10 ∨ j = 11 ∨ j = 12 ∨ j = 13 ∨ j = 14) with rfl | rfl | rfl | rfl | rfl | rfl | rfl | rfl | rfl | rfl | rfl | rfl | rfl | rfl | rfl
        · refine Eq.mp ?_ (fin (nI (2 ^ psh P a)))
          show _ = SimOp n x wk2 _ (some (.inr (gI S 1 (par P a), S))) (rd (rput R 0 0) 2 (nI a) fun v7 => some (v7, rput R 0 0))
          rw [hs.2.2.1, rd_n (f := 2) (show a < rlen 2 from ha8), hq.2.2.1]
        · cases hpc : psc P a with
          | none =>
            have h3 := hs.2.2.2.2.1; rw [hpc] at h3
            have h4 := hq.2.2.2.2.1; rw [hpc] at h4
            refine Eq.mp ?_ (fin (-1))
            show _ = SimOp n x wk2 _ (nc (gP S 3 (par P a)) (some (.inr (((-1) : Int32), S))) (fun b5 => nn (gP S 3 (par P a)) fun b7 => some (.inr ((gI S 0 b7), S)))) (rd (rput R 0 0) 3 (nI a) fun v8 => some (v8, rput R 0 0))
            rw [h3, rd_n (f := 3) (show a < rlen 3 from ha8), h4]; rfl
          | some c =>
            have h3 := hs.2.2.2.2.1; rw [hpc] at h3
            have h4 := hq.2.2.2.2.1; rw [hpc] at h4
            have hcc := hq.2.2.2.2.2 c hpc
            refine Eq.mp ?_ (fin (nI c))
            show _ = SimOp n x wk2 _ (nc (gP S 3 (par P a)) (some (.inr (((-1) : Int32), S))) (fun b5 => nn (gP S 3 (par P a)) fun b7 => some (.inr ((gI S 0 b7), S)))) (rd (rput R 0 0) 3 (nI a) fun v8 => some (v8, rput R 0 0))
            rw [h3, rd_n (f := 3) (show a < rlen 3 from ha8), h4, Option.map_some, ncS, nnS, (hS.2.2.2.2 c (by omega)).2.1]
        · refine Eq.mp ?_ (fin (nI (pch P a)))
          show _ = SimOp n x wk2 _ (some (.inr (gI S 4 (par P a), S))) (rd (rput R 0 0) 4 (nI a) fun v7 => some (v7, rput R 0 0))
          rw [hs.2.2.2.2.2.1, rd_n (f := 4) (show a < rlen 4 from ha8), hq.2.2.2.1]
        · refine Eq.mp ?_ (fin (gI S 8 (par P a)))
          show _ = SimOp n x wk2 _ (some (.inr (gI S 8 (par P a), S))) ((rf_spansOf F (rput R 0 0) (nI a) 0).bind fun v10 => some (v10, rput R 0 0))
          rw [(spans_ok hFt hA ha).1]; rfl
        · refine Eq.mp ?_ (fin (nI (uOf a L).length))
          show _ = SimOp n x wk2 _ (some (.inr (gI S 9 (par P a), S))) ((rf_of F (rput R 0 0) (nI a) 9 0).bind fun v11 => some (v11, rput R 0 0))
          have h9 := fsum_9 (uOf a L) 0
          rw [nI_0, Nat.zero_add] at h9
          rw [of_ok hFt hG, h9, (hG.2.2.2.1.2.2 a ha).2]; rfl
        · refine Eq.mp ?_ (fin (fsum 0 0 (uOf a L) 0))
          show _ = SimOp n x wk2 _ ((cf_X0_segmentsOf F S (par P a) 0).bind fun v12 => some (.inr (v12, S))) ((rf_of F (rput R 0 0) (nI a) 0 0).bind fun v11 => some (v11, rput R 0 0))
          rw [of_ok hFt hG, segsOf_ok hFt hG ha (by decide)]; rfl
        · refine Eq.mp ?_ (fin (fsum 0 1 (uOf a L) 0))
          show _ = SimOp n x wk2 _ ((cf_X0_numbersOf F S (par P a) 0).bind fun v12 => some (.inr (v12, S))) ((rf_of F (rput R 0 0) (nI a) 0 1).bind fun v11 => some (v11, rput R 0 0))
          rw [of_ok hFt hG, numsOf_ok hFt hG ha (by decide)]; rfl
        · refine Eq.mp ?_ (fin (fsum 1 1 (uOf a L) 0 + fsum 4 1 (uOf a L) 0 + nI (0 + hsum P a H (uOf a L))))
          show _ = SimOp n x wk2 _ ((cf_X0_numbersOf F S (par P a) 1).bind fun v16 => (cf_X0_numbersOf F S (par P a) 4).bind fun v17 => (cf_X0_numbersInHeldObjects F S (par P a)).bind fun v18 => some (.inr (((v16 + v17) + v18), S))) ((rf_of F (rput R 0 0) (nI a) 1 1).bind fun v14 => (rf_of F (rput R 0 0) (nI a) 4 1).bind fun v15 => (rf_heldIn F (rput R 0 0) (nI a)).bind fun v16 => some (((v14 + v15) + v16), rput R 0 0))
          have e1 : rf_heldIn F (rput R 0 0) (nI a) = some (nI (0 + hsum P a H (uOf a L))) := hin_lp hFt hA ha H [] F 0 rfl (by have := hA.2.2.2.2.2.2.2.2.2.2.1; omega)
          have e2 : cf_X0_numbersInHeldObjects F S (par P a) = some (nI (0 + hsum P a H (uOf a L))) := by
            unfold cf_X0_numbersInHeldObjects
            simp only [st1]
            rw [hcs.1]
            exact nih_lp hA ha (uOf a L) none F 0 (fun f hf => uOf_mem.mp hf) hcs.2 (by omega)
          rw [of_ok hFt hG, of_ok hFt hG, numsOf_ok hFt hG ha (by decide), numsOf_ok hFt hG ha (by decide), e1, e2]; rfl
        · refine Eq.mp ?_ (fin (fsum 3 1 (uOf a L) 0))
          show _ = SimOp n x wk2 _ ((cf_X0_numbersOf F S (par P a) 3).bind fun v12 => some (.inr (v12, S))) ((rf_of F (rput R 0 0) (nI a) 3 1).bind fun v11 => some (v11, rput R 0 0))
          rw [of_ok hFt hG, numsOf_ok hFt hG ha (by decide)]; rfl
        · refine Eq.mp ?_ (fin (fsum 2 1 (uOf a L) 0))
          show _ = SimOp n x wk2 _ ((cf_X0_numbersOf F S (par P a) 2).bind fun v12 => some (.inr (v12, S))) ((rf_of F (rput R 0 0) (nI a) 2 1).bind fun v11 => some (v11, rput R 0 0))
          rw [of_ok hFt hG, numsOf_ok hFt hG ha (by decide)]; rfl
        · refine Eq.mp ?_ (fin (fsum 2 0 (uOf a L) 0))
          show _ = SimOp n x wk2 _ ((cf_X0_segmentsOf F S (par P a) 2).bind fun v12 => some (.inr (v12, S))) ((rf_of F (rput R 0 0) (nI a) 2 0).bind fun v11 => some (v11, rput R 0 0))
          rw [of_ok hFt hG, segsOf_ok hFt hG ha (by decide)]; rfl
        · refine Eq.mp ?_ (fin (gI S 11 (par P a)))
          show _ = SimOp n x wk2 _ (some (.inr (gI S 11 (par P a), S))) (rd (rput R 0 0) 5 (nI a) fun v7 => some (v7, rput R 0 0))
          rw [hd.1, rd_n (f := 5) (show a < rlen 5 from ha8)]
        · cases hpc : psc P a with
          | none =>
            have h3 := hs.2.2.2.2.1; rw [hpc] at h3
            have h4 := (spans_ok (F := F) hFt hA ha).2; rw [hpc] at h4
            refine Eq.mp ?_ (fin 0)
            show _ = SimOp n x wk2 _ (nc (gP S 3 (par P a)) (some (.inr ((0 : Int32), S))) (fun b28 => some (.inr ((gI S 8 (par P a)), S)))) ((rf_spansOf F (rput R 0 0) (nI a) 1).bind fun v10 => some (v10, rput R 0 0))
            rw [h3, h4]; rfl
          | some c =>
            have h3 := hs.2.2.2.2.1; rw [hpc] at h3
            have h4 := (spans_ok (F := F) hFt hA ha).2; rw [hpc] at h4
            refine Eq.mp ?_ (fin (gI S 8 (par P a)))
            show _ = SimOp n x wk2 _ (nc (gP S 3 (par P a)) (some (.inr ((0 : Int32), S))) (fun b28 => some (.inr ((gI S 8 (par P a)), S)))) ((rf_spansOf F (rput R 0 0) (nI a) 1).bind fun v10 => some (v10, rput R 0 0))
            rw [h3, h4]; rfl
        · refine Eq.mp ?_ (fin (gI S 14 (par P a)))
          show _ = SimOp n x wk2 _ (some (.inr (gI S 14 (par P a), S))) (rd (rput R 0 0) 8 (nI a) fun v7 => some (v7, rput R 0 0))
          rw [hd.2.2.2.1, rd_n (f := 8) (show a < rlen 8 from ha8)]
        · refine Eq.mp ?_ (fin (gI S 15 (par P a)))
          show _ = SimOp n x wk2 _ (some (.inr (gI S 15 (par P a), S))) (rd (rput R 0 0) 9 (nI a) fun v7 => some (v7, rput R 0 0))
          rw [hd.2.2.2.2.1, rd_n (f := 9) (show a < rlen 9 from ha8)]
  · rw [c1, c2, Option.bind_some, Option.bind_some]
    simp only [tr, st2]
    rw [if_pos trivial]
    exact op_thr h0 (Or.inl rfl) rfl rfl rfl
