/-! ===== pure part: the ways to find ===== -/
def uFn (L : List En) (a : Nat) (x : Int32) (r : Int32) (q : Option Nat) : Prop := (r = -1 ∧ q = none) ∨ ∃ A e B, L = A ++ e :: B ∧ r = nI A.length ∧ q = some e.1 ∧ eA e = nI a ∧ eO e = 0 ∧ x.toInt ≤ ez e
theorem ffor {F : Nat} {S : Cst} {b : Nat} {x : Int64} : cf_X5_isFreeFor F S b x = some (if gI S 82 b = 0 ∧ x.toInt ≤ (gI S 81 b).toInt then 1 else 0) := by
  unfold cf_X5_isFreeFor
  by_cases h : gI S 82 b = 0
  · rw [if_pos h]
    by_cases h2 : lg_cmp (gI S 81 b).toInt64 x < 0
    · rw [if_pos h2, if_neg]
      rw [lg_lt0, Int32.toInt_toInt64] at h2
      intro z; omega
    · rw [if_neg h2, if_pos]
      rw [lg_lt0, Int32.toInt_toInt64] at h2
      exact ⟨h, by omega⟩
  · rw [if_neg h, if_neg (fun z => h z.1)]
theorem ffor_y {F : Nat} {S : Cst} {b : Nat} {x : Int64} (h1 : gI S 82 b = 0) (h2 : x.toInt ≤ (gI S 81 b).toInt) : cf_X5_isFreeFor F S b x = some 1 := by rw [ffor, if_pos ⟨h1, h2⟩]
theorem ffor_n {F : Nat} {S : Cst} {b : Nat} {x : Int64} (h : ¬ (gI S 82 b = 0 ∧ x.toInt ≤ (gI S 81 b).toInt)) : cf_X5_isFreeFor F S b x = some 0 := by rw [ffor, if_neg h]
theorem nI_nm1 {k : Nat} (h : k < 2 ^ 31) : ¬ nI k = -1 := by
  intro z
  have h1 := congrArg Int32.toInt z
  rw [nI_toInt h] at h1
  have : (-1 : Int32).toInt = -1 := by decide
  omega
theorem sn_len {A : List En} {e : En} : nI A.length + 1 = nI (A ++ [e]).length := by rw [nI_1]; simp
/-- what a step of a walk over the list sees -/
theorem wk_nil {R : Rst} {A : List En} (h : uRL R A) : R.1 10 ≤ nI A.length := by rw [h.1]; exact nI_le (Nat.le_refl _) (by have := h.2.1; omega)
theorem wk_cons {R : Rst} {A B : List En} {e : En} (h : uRL R (A ++ e :: B)) : ¬ R.1 10 ≤ nI A.length := by
  rw [h.1]
  have := h.2.1
  exact nI_ge (by simp) (by omega)
theorem best_lp {F : Nat} {P : Par} {S : Cst} {R : Rst} {L : List En} {a t : Nat} {x : Int32} (hG : uG P S R L t) : ∀ (B A : List En) (n n' : Nat) (pr : Option Nat) (ρ : Int32) (κ : Option Nat), L = A ++ B → usg S pr (uad (uOf a B)) none → B.length < n → (uOf a B).length < n' → uFn L a x ρ κ →
    ∃ r q, rf_best_5 F R n (nI a) x ρ (nI A.length) = some r ∧ cf_X0_findBest_7 F (par P a) S n' x κ (uhd (uad (uOf a B)) none) = some q ∧ uFn L a x r q := by
  intro B
  induction B with
  | nil =>
    intro A n n' pr ρ κ hL hc hn hn' hr
    obtain ⟨n, rfl⟩ : ∃ m, n = m + 1 := ⟨n - 1, by simp at hn; omega⟩
    obtain ⟨n', rfl⟩ : ∃ m, n' = m + 1 := ⟨n' - 1, by simp [uOf] at hn'; omega⟩
    rw [List.append_nil] at hL
    refine ⟨ρ, κ, ?_, rfl, hr⟩
    simp only [rf_best_5]
    rw [if_pos (wk_nil (by rw [← hL]; exact hG.2.2.1))]
  | cons e B ih =>
    intro A n n' pr ρ κ hL hc hn hn' hr
    obtain ⟨n, rfl⟩ : ∃ m, n = m + 1 := ⟨n - 1, by simp at hn; omega⟩
    have hRL := hG.2.2.1
    rw [hL] at hRL
    obtain ⟨k1, k2, g1, g2, g3, g4, g5, g6, g7⟩ := uRL_g hRL (k := A.length) (e := e) get_mid
    have hL' : L = (A ++ [e]) ++ B := by rw [hL]; simp
    have hn1 : B.length < n := by simp at hn; omega
    simp only [rf_best_5]
    rw [if_neg (wk_cons hRL), rd_n (f := 11) k2, g1, sn_len (e := e)]
    by_cases ha : eA e = nI a
    · rw [uOf_y ha] at hc hn' ⊢
      obtain ⟨n', rfl⟩ : ∃ m, n' = m + 1 := ⟨n' - 1, by simp at hn'; omega⟩
      have hn2 : (uOf a B).length < n' := by simp at hn'; omega
      rw [uad_c] at hc ⊢
      obtain ⟨c1, c2, c3⟩ := hc
      have hfd := hG.2.2.2.1.1 e (by rw [hL]; simp)
      have ht := ih (A ++ [e]) n n' (some e.1) (nI A.length) (some e.1) hL' c3 hn1 hn2
      have hk := ih (A ++ [e]) n n' (some e.1) ρ κ hL' c3 hn1 hn2 hr
      rw [if_pos ha, rd_n (f := 14) k2, g4, rd_n (f := 13) k2, g3]
      have fy : eO e = 0 → x.toInt ≤ (eZ e).toInt → cf_X5_isFreeFor F S e.1 x.toInt64 = some 1 := fun w1 w2 => ffor_y (by rw [hfd.2.2.2.1]; exact w1) (by rw [Int32.toInt_toInt64, hfd.2.2.1]; exact w2)
      have fz : ¬ (eO e = 0 ∧ x.toInt ≤ (eZ e).toInt) → cf_X5_isFreeFor F S e.1 x.toInt64 = some 0 := fun w => ffor_n (by rw [hfd.2.2.2.1, Int32.toInt_toInt64, hfd.2.2.1]; exact w)
      simp only [cf_X0_findBest_7, uhd, ncS, st1]
      rw [c2]
      by_cases ho : eO e = 0
      · rw [if_pos ho]
        by_cases hz : eZ e < x
        · rw [if_pos hz, fz (fun z => by rw [Int32.lt_iff_toInt_lt] at hz; omega), Option.bind_some, if_pos rfl]; exact hk
        · have hz' : x.toInt ≤ ez e := by rw [Int32.lt_iff_toInt_lt] at hz; unfold ez; omega
          rw [if_neg hz, fy ho hz', Option.bind_some, if_neg (show ¬ (1 : Int32) = 0 by decide)]
          have ht' := ht (Or.inr ⟨A, e, B, hL, rfl, rfl, ha, ho, hz'⟩)
          rcases hr with ⟨rfl, rfl⟩ | ⟨A1, e1, B1, r1, r2, r3, r4⟩
          · rw [if_pos rfl]; exact ht'
          · subst r2 r3
            have hRL1 := hG.2.2.1
            rw [r1] at hRL1
            obtain ⟨l1, l2, m1, m2, m3, m4, m5, m6, m7⟩ := uRL_g hRL1 (k := A1.length) (e := e1) get_mid
            have hfd1 := hG.2.2.2.1.1 e1 (by rw [r1]; simp)
            rw [if_neg (nI_nm1 (k := A1.length) (by omega)), rd_n (f := 13) k2, g3, rd_n (f := 13) l2, m3, ncS, hfd1.2.2.1, hfd.2.2.1]
            by_cases hq : eZ e1 ≤ eZ e
            · rw [if_pos hq, if_pos hq]; exact hk
            · rw [if_neg hq, if_neg hq]; exact ht'
      · rw [if_neg ho, fz (fun z => ho z.1), Option.bind_some, if_pos rfl]; exact hk
    · rw [if_neg ha]
      rw [uOf_n ha] at hc hn' ⊢
      exact ih (A ++ [e]) n n' pr ρ κ hL' hc hn1 hn' hr
theorem next_lp {F : Nat} {P : Par} {S : Cst} {R : Rst} {L : List En} {a t : Nat} {x : Int32} (hG : uG P S R L t) (ha8 : a < 8) (hro : gI S 11 (par P a) = R.2 5 a) : ∀ (B A : List En) (n n' : Nat) (pr : Option Nat) (ρ : Int32) (κ : Option Nat), L = A ++ B → usg S pr (uad (uOf a B)) none → B.length < n → (uOf a B).length < n' → uFn L a x ρ κ →
    ∃ r q, rf_next_5 F R n (nI a) x ρ (nI A.length) = some r ∧ cf_X0_findNext_7 F (par P a) S n' x κ (uhd (uad (uOf a B)) none) = some q ∧ uFn L a x r q := by
  intro B
  induction B with
  | nil =>
    intro A n n' pr ρ κ hL hc hn hn' hr
    obtain ⟨n, rfl⟩ : ∃ m, n = m + 1 := ⟨n - 1, by simp at hn; omega⟩
    obtain ⟨n', rfl⟩ : ∃ m, n' = m + 1 := ⟨n' - 1, by simp [uOf] at hn'; omega⟩
    rw [List.append_nil] at hL
    refine ⟨ρ, κ, ?_, rfl, hr⟩
    simp only [rf_next_5]
    rw [if_pos (wk_nil (by rw [← hL]; exact hG.2.2.1))]
  | cons e B ih =>
    intro A n n' pr ρ κ hL hc hn hn' hr
    obtain ⟨n, rfl⟩ : ∃ m, n = m + 1 := ⟨n - 1, by simp at hn; omega⟩
    have hRL := hG.2.2.1
    rw [hL] at hRL
    obtain ⟨k1, k2, g1, g2, g3, g4, g5, g6, g7⟩ := uRL_g hRL (k := A.length) (e := e) get_mid
    have hL' : L = (A ++ [e]) ++ B := by rw [hL]; simp
    have hn1 : B.length < n := by simp at hn; omega
    simp only [rf_next_5]
    rw [if_neg (wk_cons hRL), rd_n (f := 11) k2, g1, sn_len (e := e)]
    by_cases ha : eA e = nI a
    · rw [uOf_y ha] at hc hn' ⊢
      obtain ⟨n', rfl⟩ : ∃ m, n' = m + 1 := ⟨n' - 1, by simp at hn'; omega⟩
      have hn2 : (uOf a B).length < n' := by simp at hn'; omega
      rw [uad_c] at hc ⊢
      obtain ⟨c1, c2, c3⟩ := hc
      have hfd := hG.2.2.2.1.1 e (by rw [hL]; simp)
      have ht := ih (A ++ [e]) n n' (some e.1) (nI A.length) (some e.1) hL' c3 hn1 hn2
      have hk := ih (A ++ [e]) n n' (some e.1) ρ κ hL' c3 hn1 hn2 hr
      rw [if_pos ha, rd_n (f := 14) k2, g4, rd_n (f := 13) k2, g3, rd_n (f := 12) k2, g2, rd_n (f := 5) (show a < rlen 5 from ha8)]
      have fy : eO e = 0 → x.toInt ≤ (eZ e).toInt → cf_X5_isFreeFor F S e.1 x.toInt64 = some 1 := fun w1 w2 => ffor_y (by rw [hfd.2.2.2.1]; exact w1) (by rw [Int32.toInt_toInt64, hfd.2.2.1]; exact w2)
      have fz : ¬ (eO e = 0 ∧ x.toInt ≤ (eZ e).toInt) → cf_X5_isFreeFor F S e.1 x.toInt64 = some 0 := fun w => ffor_n (by rw [hfd.2.2.2.1, Int32.toInt_toInt64, hfd.2.2.1]; exact w)
      simp only [cf_X0_findNext_7, uhd, ncS, st1]
      rw [hfd.2.1, hro, c2]
      by_cases ho : eO e = 0
      · rw [if_pos ho]
        by_cases hz : x ≤ eZ e
        · have hz' : x.toInt ≤ ez e := by rw [Int32.le_iff_toInt_le] at hz; exact hz
          rw [if_pos hz, fy ho hz', Option.bind_some, if_neg (show ¬ (1 : Int32) = 0 by decide)]
          have hu : uFn L a x (nI A.length) (some e.1) := Or.inr ⟨A, e, B, hL, rfl, rfl, ha, ho, hz'⟩
          by_cases hb : eB e < R.2 5 a
          · rw [if_pos hb, if_pos hb]
            rcases hr with ⟨rfl, rfl⟩ | ⟨A1, e1, B1, r1, r2, r3, r4⟩
            · rw [if_pos rfl]; exact ht hu
            · subst r2 r3
              have hRL1 := hG.2.2.1
              rw [r1] at hRL1
              obtain ⟨l1, l2, m1⟩ := uRL_g hRL1 (k := A1.length) (e := e1) get_mid
              rw [if_neg (nI_nm1 (k := A1.length) (by omega))]; exact hk
          · rw [if_neg hb, if_neg hb]
            exact ⟨_, _, rfl, rfl, hu⟩
        · rw [if_neg hz, fz (fun z => by rw [Int32.le_iff_toInt_le] at hz; exact hz z.2), Option.bind_some, if_pos rfl]; exact hk
      · rw [if_neg ho, fz (fun z => ho z.1), Option.bind_some, if_pos rfl]; exact hk
    · rw [if_neg ha]
      rw [uOf_n ha] at hc hn' ⊢
      exact ih (A ++ [e]) n n' pr ρ κ hL' hc hn1 hn' hr
theorem inst_lp {F : Nat} {P : Par} {x0 : Nat} {S : Cst} {R : Rst} {L : List En} {a t m z : Nat} (hF : 1000 ≤ F) (hR : uStR P R) (hS : uStS P x0 S) (hG : uG P S R L t) (hap : a < pn P) (hm : 1 ≤ m) (hz : z = m * 2 ^ psh P a) (hz2 : z ≤ 1073741824) : ∀ (B A : List En) (n n' : Nat) (pr : Option Nat) (ρ : Int32) (κ : Option Nat), L = A ++ B → usg S pr (uad (uOf a B)) none → B.length < n → (uOf a B).length < n' → uFn L a (nI z) ρ κ →
    ∃ r q, rf_instant_29 F R n (nI a) (nI (lfor m)) ρ (nI A.length) = some r ∧ cf_X0_findInstant_14 F (par P a) S n' (nI (lfor m)) κ (uhd (uad (uOf a B)) none) = some q ∧ uFn L a (nI z) r q := by
  have hp0 := Nat.two_pow_pos (psh P a)
  have hmz : m ≤ z := by rw [hz]; exact Nat.le_mul_of_pos_right _ hp0
  have hl30 : lfor m ≤ 30 := (lfor_le hm).mp (by omega)
  intro B
  induction B with
  | nil =>
    intro A n n' pr ρ κ hL hc hn hn' hr
    obtain ⟨n, rfl⟩ : ∃ m, n = m + 1 := ⟨n - 1, by simp at hn; omega⟩
    obtain ⟨n', rfl⟩ : ∃ m, n' = m + 1 := ⟨n' - 1, by simp [uOf] at hn'; omega⟩
    rw [List.append_nil] at hL
    refine ⟨ρ, κ, ?_, rfl, hr⟩
    simp only [rf_instant_29]
    rw [if_pos (wk_nil (by rw [← hL]; exact hG.2.2.1))]
  | cons e B ih =>
    intro A n n' pr ρ κ hL hc hn hn' hr
    obtain ⟨n, rfl⟩ : ∃ m, n = m + 1 := ⟨n - 1, by simp at hn; omega⟩
    have hRL := hG.2.2.1
    have hLs := hG.1
    rw [hL] at hRL hLs
    obtain ⟨k1, k2, g1, g2, g3, g4, g5, g6, g7⟩ := uRL_g hRL (k := A.length) (e := e) get_mid
    have hL' : L = (A ++ [e]) ++ B := by rw [hL]; simp
    have hn1 : B.length < n := by simp at hn; omega
    simp only [rf_instant_29]
    rw [if_neg (wk_cons hRL), rd_n (f := 11) k2, g1, sn_len (e := e)]
    by_cases ha : eA e = nI a
    · rw [uOf_y ha] at hc hn' ⊢
      obtain ⟨n', rfl⟩ : ∃ m, n' = m + 1 := ⟨n' - 1, by simp at hn'; omega⟩
      have hn2 : (uOf a B).length < n' := by simp at hn'; omega
      rw [uad_c] at hc ⊢
      obtain ⟨c1, c2, c3⟩ := hc
      have he := hLs.1 e (by simp)
      have hfd := hG.2.2.2.1.1 e (by rw [hL]; simp)
      have ht := ih (A ++ [e]) n n' (some e.1) (nI A.length) (some e.1) hL' c3 hn1 hn2
      have hk := ih (A ++ [e]) n n' (some e.1) ρ κ hL' c3 hn1 hn2 hr
      have rl := rlz_ok hF hR hap hLs hRL ha
      have cl := clz_ok (F := F) hR hS hap he ha
      obtain ⟨z1, z2, z3⟩ := zn_ok hR.1 hap he ha
      have hl31 : lz P a e < 31 := by
        have h1 : 0 < zn e / 2 ^ psh P a := Nat.div_pos z2 hp0
        have h2 : zn e / 2 ^ psh P a ≤ zn e := Nat.div_le_self _ _
        exact (Nat.log2_lt (by omega)).mpr (by omega)
      rw [if_pos ha, rd_n (f := 14) k2, g4]
      simp only [cf_X0_findInstant_14, uhd, ncS, st1]
      rw [hfd.2.2.1, hfd.2.2.2.1, c2]
      by_cases ho : eO e = 0
      · rw [if_pos ho, if_pos ho, rl, cl]
        simp only [Option.bind_some]
        by_cases hq : lfor m ≤ lz P a e
        · rw [if_pos (nI_le hq (by omega)), if_neg (nI_nlt hq (by omega))]
          have hz' : (nI z).toInt ≤ ez e := by
            have h1 := (lfor_le hm).mpr hq
            have h2 : 0 < zn e / 2 ^ psh P a := Nat.div_pos z2 hp0
            have h3 : 2 ^ lz P a e ≤ zn e / 2 ^ psh P a := Nat.log2_self_le (by omega)
            have h4 : m * 2 ^ psh P a ≤ zn e := (Nat.le_div_iff_mul_le hp0).mp (Nat.le_trans h1 h3)
            rw [nI_toInt (by omega), hz]
            unfold zn at h4 z2
            omega
          have ht' := ht (Or.inr ⟨A, e, B, hL, rfl, rfl, ha, ho, hz'⟩)
          rcases hr with ⟨rfl, rfl⟩ | ⟨A1, e1, B1, r1, r2, r3, r4, r5, r6⟩
          · rw [if_pos rfl]; exact ht'
          · subst r2 r3
            have hRL1 := hG.2.2.1
            have hLs1 := hG.1
            rw [r1] at hRL1 hLs1
            obtain ⟨l1, l2, m1, m2, m3, m4, m5, m6, m7⟩ := uRL_g hRL1 (k := A1.length) (e := e1) get_mid
            have hfd1 := hG.2.2.2.1.1 e1 (by rw [r1]; simp)
            have rl1 := rlz_ok hF hR hap hLs1 hRL1 r4
            have cl1 := clz_ok (F := F) hR hS hap (hLs1.1 e1 (by simp)) r4
            obtain ⟨y1, y2, y3⟩ := zn_ok hR.1 hap (hLs1.1 e1 (by simp)) r4
            have hl31' : lz P a e1 < 31 := by
              have h1 : 0 < zn e1 / 2 ^ psh P a := Nat.div_pos y2 hp0
              have h2 : zn e1 / 2 ^ psh P a ≤ zn e1 := Nat.div_le_self _ _
              exact (Nat.log2_lt (by omega)).mpr (by omega)
            have hT := hG.2.2.2.2.2.2.2.2.2.2 e1 (by rw [r1]; simp) e (by rw [hL]; simp) (r4.trans ha.symm) r5 ho
            rw [if_neg (nI_nm1 (k := A1.length) (by omega)), rl1, ncS]
            simp only [Option.bind_some]
            unfold cf_X0_isAhead
            simp only [nnS]
            rw [hfd.2.2.1, hfd1.2.2.1, cl, cl1]
            simp only [Option.bind_some]
            by_cases q1 : lz P a e < lz P a e1
            · rw [if_pos (nI_lt q1 (by omega)), if_pos (nI_lt q1 (by omega)), Option.bind_some, if_neg (by decide)]; exact ht'
            · rw [if_neg (nI_nlt (by omega) (by omega)), if_neg (nI_nlt (by omega) (by omega))]
              by_cases q2 : lz P a e = lz P a e1
              · rw [if_pos (by rw [q2]), if_pos (by rw [q2]), rd_n (f := 15) k2, rd_n (f := 15) l2, g5, m5]
                by_cases q3 : eT e ≤ eT e1
                · have q4 : gI S 83 e.1 ≤ gI S 83 e1.1 := by
                    rw [Int32.le_iff_toInt_le] at *
                    rw [Int32.lt_iff_toInt_lt, Int32.lt_iff_toInt_lt] at hT
                    have : ¬ (gI S 83 e1.1).toInt < (gI S 83 e.1).toInt := fun w => by have := hT.mp w; omega
                    omega
                  rw [if_pos q3, if_pos q4, Option.bind_some, if_pos rfl]; exact hk
                · have q4 : ¬ gI S 83 e.1 ≤ gI S 83 e1.1 := by
                    rw [Int32.le_iff_toInt_le] at *
                    rw [Int32.lt_iff_toInt_lt, Int32.lt_iff_toInt_lt] at hT
                    have := hT.mpr (by omega)
                    omega
                  rw [if_neg q3, if_neg q4, Option.bind_some, if_neg (by decide)]; exact ht'
              · have q2' : ¬ nI (lz P a e) = nI (lz P a e1) := fun w => q2 ((nI_eq (by omega) (by omega)).mp w)
                rw [if_neg q2', if_neg q2', Option.bind_some, if_pos rfl]; exact hk
        · rw [if_neg (nI_ge (by omega) (by omega)), if_pos (nI_lt (by omega) (by omega))]; exact hk
      · rw [if_neg ho, if_neg ho]; exact hk
    · rw [if_neg ha]
      rw [uOf_n ha] at hc hn' ⊢
      exact ih (A ++ [e]) n n' pr ρ κ hL' hc hn1 hn' hr
theorem find_ok {F : Nat} {P : Par} {x0 : Nat} {S : Cst} {R : Rst} {L : List En} {a t m z : Nat} {way : Int32} (hF : 1000 ≤ F) (hR : uStR P R) (hS : uStS P x0 S) (hD : uDy P x0 S R) (hG : uG P S R L t) (hap : a < pn P) (hm : 1 ≤ m) (hz : z = m * 2 ^ psh P a) (hz2 : z ≤ 1073741824) :
    ∃ r q, rf_found F R (nI a) (nI z) way = some r ∧ cf_X0_find F S (par P a) (nI z) way = some q ∧ uFn L a (nI z) r q := by
  have hc := (hG.2.2.2.1.2.2 a hap).1
  have hlen := hG.2.2.1.2.1
  have hle := uOf_le (a := a) (L := L)
  have ha8 : a < 8 := by have := hR.1; omega
  unfold rf_found cf_X0_find
  by_cases w0 : way = 0
  · rw [if_pos w0, if_pos w0]
    obtain ⟨r, q, h1, h2, h3⟩ := best_lp (F := F) (x := nI z) hG L [] F F none (-1) none rfl hc.2 (by omega) (by omega) (Or.inl ⟨rfl, rfl⟩)
    refine ⟨r, q, ?_, ?_, h3⟩
    · unfold rf_best
      have h1' : rf_best_5 F R F (nI a) (nI z) (-1) 0 = some r := h1
      rw [h1']; rfl
    · unfold cf_X0_findBest
      simp only [st1]
      rw [hc.1, h2]; rfl
  · rw [if_neg w0, if_neg w0]
    by_cases w1 : way = 1
    · rw [if_pos w1, if_pos w1]
      obtain ⟨r, q, h1, h2, h3⟩ := inst_lp (F := F) hF hR hS hG hap hm hz hz2 L [] F F none (-1) none rfl hc.2 (by omega) (by omega) (Or.inl ⟨rfl, rfl⟩)
      have hp0 := Nat.two_pow_pos (psh P a)
      have hmz : m ≤ z := by rw [hz]; exact Nat.le_mul_of_pos_right _ hp0
      have hl30 : lfor m ≤ 30 := (lfor_le hm).mp (by omega)
      refine ⟨r, q, ?_, ?_, h3⟩
      · unfold rf_instant
        have h1' : rf_instant_29 F R F (nI a) (nI (lfor m)) (-1) 0 = some r := h1
        have h4 := rinst2 (F := F) hR hap hm hz hz2 (lfor m) 0 F (by omega) (by omega)
        rw [nI_0] at h4
        rw [h4, h1']; rfl
      · unfold cf_X0_findInstant
        simp only [st1]
        rw [clistFor_ok (hS.2.2.2.2 a hap).2.2.2.1 (hR.2.2 a hap).1 hm hz (by omega), Option.bind_some, hc.1, h2]; rfl
    · rw [if_neg w1, if_neg w1]
      obtain ⟨r, q, h1, h2, h3⟩ := next_lp (F := F) (x := nI z) hG ha8 (hD.1 a hap).1 L [] F F none (-1) none rfl hc.2 (by omega) (by omega) (Or.inl ⟨rfl, rfl⟩)
      refine ⟨r, q, ?_, ?_, h3⟩
      · unfold rf_next
        have h1' : rf_next_5 F R F (nI a) (nI z) (-1) 0 = some r := h1
        rw [h1']; rfl
      · unfold cf_X0_findNext
        simp only [st1]
        rw [hc.1, h2]; rfl
