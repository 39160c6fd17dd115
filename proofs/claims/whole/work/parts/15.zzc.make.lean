/-! ===== pure part: the call make ===== -/
theorem i_0 : (0 : Int32).toInt = 0 := by decide
theorem i_m1 : (-1 : Int32).toInt = -1 := by decide
theorem i_8 : (8 : Int32).toInt = 8 := by decide
theorem orN_ok {F : Nat} {P : Par} {x : Nat} {S : Cst} (x1 : Int32) (hP : pn P ≤ 8) (hS : uStS P x S) : (x1 < 0 ∧ cf_X6_arenaOrNull F S x x1 = some none) ∨ (nI (pn P) ≤ x1 ∧ ¬ x1 < 0 ∧ cf_X6_arenaOrNull F S x x1 = some none) ∨ (∃ a, a < pn P ∧ x1 = nI a ∧ cf_X6_arenaOrNull F S x x1 = some (some (par P a))) := by
  obtain ⟨s1, s2, ⟨tt, s3, s4, s5⟩, _⟩ := hS
  unfold cf_X6_arenaOrNull
  simp only [st1, nnS, s3]
  rw [s4]
  rcases pk_ix x1 (n := pn P) (by omega) with h | h | ⟨a, ha, rfl⟩
  · exact Or.inl ⟨h, if_pos h⟩
  · have h0 : ¬ x1 < 0 := by
      intro z
      rw [Int32.lt_iff_toInt_lt, i_0] at z
      rw [Int32.le_iff_toInt_le, nI_toInt (by omega)] at h
      omega
    refine Or.inr (Or.inl ⟨h, h0, ?_⟩)
    rw [if_neg h0]
    by_cases h8 : Int32.ofNat 8 ≤ x1
    · rw [if_pos h8]
    · rw [if_neg h8]
      obtain ⟨k, hk, rfl⟩ := nI_of h0
      have hk8 : k < 8 := by
        refine Classical.byContradiction (fun z => h8 ?_)
        exact nI_le (a := 8) (by omega) hk
      unfold cqd
      rw [s4, if_pos (inb_n hk8 (by omega)), nI_clamp (by omega), s5 k hk8, if_neg (fun z => by have := (nI_leI (by omega) (by omega)).mp h; omega)]
  · refine Or.inr (Or.inr ⟨a, ha, rfl, ?_⟩)
    rw [if_neg (nI_pos (by omega)), if_neg (show ¬ Int32.ofNat 8 ≤ nI a from nI_ge (b := 8) (by omega) (by omega))]
    unfold cqd
    rw [s4, if_pos (inb_n (show a < 8 by omega) (by omega)), nI_clamp (by omega), s5 a (by omega), if_pos ha]
set_option maxHeartbeats 1000000 in
theorem sim_make {n x : Nat} {S : Cst} {R : Rst} (F : Nat) (hF : 1000000 ≤ F) (x1 x2 x3 : Int32) (h : Sim (n + 1) x S R) : SimOp n x wk1 (fun k => k = 2) (cf_X6_make F S x x1 x2 x3) (rf_make F R x1 x2 x3) := by
  have h0 := h
  obtain ⟨P, L, M, Q, H, t, hA, ht, hH⟩ := h
  obtain ⟨b1, b2, b3, b4, b5⟩ := bud ht
  clear ht
  have hFt : 1000 ≤ F := Nat.le_trans (by decide) hF
  have hR := hA.1
  have hS := hA.2.1
  have hP := hR.1
  have h1 : (rput R 0 (0 : Int32)).1 1 = nI (pn P) := hR.2.1.1
  have t74 : rf_make_74 F (rput R 0 0) x1 x2 x3 0 = some (0, rput R 0 1) := by
    unfold rf_make_74
    rw [right_0 put0 (by decide), put00, Option.bind_some]
    simp only [st2]
    rw [if_pos trivial]
  have t46 : rf_make_46 F (rput R 0 0) x1 x2 x3 0 = some (0, rput R 0 1) := by
    unfold rf_make_46
    rw [if_pos rfl, t74]
  have fin : ∀ (sh m : Nat) (src : Option Nat), sh ≤ 16 → m ≤ 8 → (∀ s, src = some s → s < pn P ∧ sh ≤ psh P s) → x1 = nI (2 ^ sh) → x3 = nI m → x2 = sCo src → SimOp n x wk1 (fun k => k = 2) (cf_X6_make_72 F x S x1 x3 (src.map (par P))) (rf_make_74 F (rput R 0 0) x1 x2 x3 1) := by
    intro sh m src hs hm hsrc e1 e3 e2
    rw [e1, e2, e3]
    by_cases h8 : pn P < 8
    · obtain ⟨S', R', j1, j2, j3⟩ := jmake hFt hA h8 hs hm hsrc
      exact op_ok (fun w => rfl) j3 b5 (by omega) j1 j2
    · have e8 : pn P = 8 := by omega
      obtain ⟨s1, s2, ⟨tt, s3, s4, s5⟩, _⟩ := hS
      refine op_ok (r := -1) (fun w => rfl) hA b5 (by omega) ?_ ?_
      · unfold cf_X6_make_72
        simp only [st1]
        rw [s2, if_neg (nI_pos (by omega)), s3, nnS, s4, e8, if_neg (show ¬ nI 8 < Int32.ofNat 8 by decide)]
      · unfold rf_make_74
        rw [right_1 put0, Option.bind_some]
        simp only [st2]
        rw [if_neg (show ¬ (1 : Int32) = 0 by decide), h1, e8, if_pos (show nI 8 = (8 : Int32) from rfl)]
  unfold cf_X6_make rf_make cf_X6_isPowerOfTwo rf_isPower
  simp only [st1]
  by_cases p0 : x1 ≤ 0
  · rw [if_pos p0, Option.bind_some, Option.bind_some, if_pos (show (0 : Int32) = 0 from rfl), if_pos (show (0 : Int32) = 0 from rfl)]
    exact op_thr h0 rfl rfl rfl t46
  rw [if_neg p0]
  by_cases p1 : x1 &&& (x1 - 1) = 0
  rotate_left
  · rw [if_neg p1, Option.bind_some, Option.bind_some, if_pos (show (0 : Int32) = 0 from rfl), if_pos (show (0 : Int32) = 0 from rfl)]
    exact op_thr h0 rfl rfl rfl t46
  rw [if_pos p1, Option.bind_some, Option.bind_some, if_neg (show ¬ (1 : Int32) = 0 by decide), if_neg (show ¬ (1 : Int32) = 0 by decide)]
  obtain ⟨sh, hsh, e1⟩ := pow_ok p0 p1
  by_cases p2 : (65536 : Int32) < x1
  · rw [if_pos p2, if_pos p2]
    exact op_thr h0 rfl rfl rfl t46
  rw [if_neg p2, if_neg p2]
  have hp31 : 2 ^ sh < 2 ^ 31 := Nat.pow_lt_pow_right (by decide) hsh
  have hs16 : sh ≤ 16 := by
    apply Classical.byContradiction
    intro z
    apply p2
    have hlt : 2 ^ 16 < 2 ^ sh := Nat.pow_lt_pow_right (by decide) (by omega)
    rw [e1]
    exact (gtL (k := 65536) rfl hp31 (by decide)).mpr hlt
  by_cases p3 : x3 < 0
  · rw [if_pos p3, if_pos p3]
    exact op_thr h0 rfl rfl rfl t46
  rw [if_neg p3, if_neg p3]
  by_cases p4 : (8 : Int32) < x3
  · have p5 : ¬ x3 ≤ (8 : Int32) := by
      intro z
      rw [Int32.le_iff_toInt_le] at z
      rw [Int32.lt_iff_toInt_lt] at p4
      omega
    rw [if_pos p4, if_neg p5]
    exact op_thr h0 rfl rfl rfl t46
  have p5 : x3 ≤ (8 : Int32) := by
    rw [Int32.le_iff_toInt_le]
    rw [Int32.lt_iff_toInt_lt] at p4
    omega
  obtain ⟨m, hm, e3⟩ := lit_lt (k := 8) (by decide) p3 p4
  rw [if_neg p4, if_pos p5, h1]
  rcases orN_ok (F := F) x2 hP hS with ⟨q, c1⟩ | ⟨q, q0, c1⟩ | ⟨a, ha, rfl, c1⟩
  · rw [c1, Option.bind_some, ncN]
    rw [Int32.lt_iff_toInt_lt, i_0] at q
    by_cases qm : x2 = -1
    · have g1 : ¬ x2 < -1 := by rw [qm]; decide
      have g2 : ¬ nI (pn P) ≤ x2 := by
        rw [Int32.le_iff_toInt_le, nI_toInt (by omega)]
        omega
      rw [if_pos qm, if_neg g1, if_neg g2]
      unfold rf_make_46
      rw [if_neg (show ¬ (1 : Int32) = 0 by decide), if_pos qm]
      exact fin sh m none hs16 hm (fun s hs => by cases hs) e1 e3 qm
    · have g1 : x2 < -1 := by
        rw [Int32.lt_iff_toInt_lt, i_m1]
        have : x2.toInt ≠ (-1 : Int32).toInt := fun z => qm (Int32.toInt_inj.mp z)
        rw [i_m1] at this
        omega
      rw [if_neg qm, if_pos g1]
      exact op_thr h0 rfl rfl rfl t46
  · rw [Int32.lt_iff_toInt_lt, i_0] at q0
    have g1 : ¬ x2 < -1 := by rw [Int32.lt_iff_toInt_lt, i_m1]; omega
    have g0 : ¬ x2 = -1 := by
      intro z
      rw [z, i_m1] at q0
      omega
    rw [c1, Option.bind_some, ncN, if_neg g0, if_neg g1, if_pos q]
    exact op_thr h0 rfl rfl rfl t46
  · have hp16 := pw16 (hR.2.2 a ha).1
    have hti : (nI a).toInt = (a : Int) := nI_toInt (by omega)
    have g1 : ¬ nI a < -1 := by rw [Int32.lt_iff_toInt_lt, i_m1, hti]; omega
    have g0 : ¬ nI a = -1 := by
      intro z
      rw [z, i_m1] at hti
      omega
    have g2 : ¬ nI (pn P) ≤ nI a := nI_ge ha (by omega)
    rw [c1, Option.bind_some, ncS, (hS.2.2.2.2 a ha).2.2.1, if_neg g1, if_neg g2]
    unfold rf_make_46
    rw [if_neg (show ¬ (1 : Int32) = 0 by decide), if_neg g0, rd_n (f := 2) (show a < rlen 2 from by show a < 8; omega), (hR.2.2 a ha).2.2.1]
    by_cases hc : sh ≤ psh P a
    · have hle : 2 ^ sh ≤ 2 ^ psh P a := Nat.pow_le_pow_right (by decide) hc
      have k1 : x1 ≤ nI (2 ^ psh P a) := by rw [e1]; exact (nI_leI (by omega) (by omega)).mpr hle
      have k2 : ¬ nI (2 ^ psh P a) < x1 := by
        rw [e1]; intro z
        have := (nI_ltI (by omega) (by omega)).mp z
        omega
      rw [if_pos k1, if_neg k2]
      exact fin sh m (some a) hs16 hm (fun s hs => by cases hs; exact ⟨ha, hc⟩) e1 e3 rfl
    · have hlt : 2 ^ psh P a < 2 ^ sh := Nat.pow_lt_pow_right (by decide) (by omega)
      have k1 : ¬ x1 ≤ nI (2 ^ psh P a) := by
        rw [e1]; intro z
        have := (nI_leI (by omega) (by omega)).mp z
        omega
      have k2 : nI (2 ^ psh P a) < x1 := by rw [e1]; exact (nI_ltI (by omega) (by omega)).mpr hlt
      rw [if_neg k1, if_pos k2]
      exact op_thr h0 rfl rfl rfl t74
