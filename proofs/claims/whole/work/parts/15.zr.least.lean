/-! ===== pure part: TO TAKE WITHIN, the search ===== -/
theorem wfit_s {v z hi r : Nat} (h : wfit v z hi = some r) : r = v ∧ v + z ≤ hi := by
  unfold wfit at h
  by_cases q : hi < v + z
  · rw [if_pos q] at h; cases h
  · rw [if_neg q] at h; cases h; exact ⟨rfl, by omega⟩
theorem alg_k {lo ph al : Nat} : ∃ k, alg lo ph al = k * al + ph := by
  unfold alg
  by_cases h : ph < lo
  · rw [if_pos h]; exact ⟨_, rfl⟩
  · rw [if_neg h]; exact ⟨0, by omega⟩
theorem wres_s {lo hi z al ph c r : Nat} (hp : ph < al) (h : wres lo hi z al ph c = some r) : lo ≤ r ∧ r + z ≤ hi ∧ ∃ k, r = k * al + ph := by
  unfold wres at h
  have a1 := alg_b (lo := lo) hp
  by_cases h0 : c = 0
  · rw [if_pos h0] at h
    obtain ⟨rfl, h2⟩ := wfit_s h
    exact ⟨a1.1, h2, alg_k⟩
  · rw [if_neg h0] at h
    by_cases h1 : alg lo ph al / c = (alg lo ph al + z - 1) / c
    · rw [if_pos h1] at h
      obtain ⟨rfl, h2⟩ := wfit_s h
      exact ⟨a1.1, h2, alg_k⟩
    · rw [if_neg h1] at h
      have a2 := nxt_b (v := alg lo ph al) (show 0 < c by omega)
      have a3 := alg_b (lo := (alg lo ph al / c + 1) * c) hp
      by_cases h2 : alg ((alg lo ph al / c + 1) * c) ph al / c = (alg ((alg lo ph al / c + 1) * c) ph al + z - 1) / c
      · rw [if_pos h2] at h
        obtain ⟨rfl, h3⟩ := wfit_s h
        exact ⟨by omega, h3, alg_k⟩
      · rw [if_neg h2] at h; cases h
def bN (e : En) : Nat := (eB e).toInt.toNat
def zN (e : En) : Nat := (eZ e).toInt.toNat
theorem i32_n {x : Int32} (h : 0 ≤ x.toInt) : x = nI x.toInt.toNat := by
  have := x.toInt_lt
  apply Int32.toInt_inj.mp
  rw [nI_toInt (by omega)]
  omega
theorem bz_ok {P : Par} {R : Rst} {e : En} (h : uEl P R e) : eB e = nI (bN e) ∧ eZ e = nI (zN e) ∧ bN e + zN e ≤ 1073741824 ∧ (bN e : Int) = eb e ∧ (zN e : Int) = ez e ∧ 0 < zN e := by
  obtain ⟨_, _, h1, h2, h3⟩ := uEl_sp h
  unfold bN zN
  unfold eb ez at *
  exact ⟨i32_n (by omega), i32_n (by omega), by omega, by omega, by omega, by omega⟩
def wv (l h z al ph c : Nat) (e : En) : Option Nat := wres (if bN e < l then l else bN e) (if h < bN e + zN e then h else bN e + zN e) z al ph c
def uFw (L : List En) (a l h z al ph c : Nat) (r : Int32) (q : Option Nat) : Prop := (r = -1 ∧ q = none) ∨ ∃ A e B v, L = A ++ e :: B ∧ r = nI A.length ∧ q = some e.1 ∧ eA e = nI a ∧ eO e = 0 ∧ wv l h z al ph c e = some v
theorem w64_m {o : Option Nat} (h : ∀ v, o = some v → v < 2 ^ 62) : lg_cmp (w64 o) (-1) = 0 ↔ o = none := by
  cases o with
  | none => exact ⟨fun _ => rfl, fun _ => by decide⟩
  | some v =>
    have hv := h v rfl
    constructor
    · intro z
      exfalso
      rw [show w64 (some v) = lN v from rfl, lg_def, pf_lI (by omega), show (-1 : Int64).toInt = -1 by decide, if_pos (by omega)] at z
      cases z
    · intro z; cases z
set_option maxHeartbeats 1000000 in
theorem least_lp {F : Nat} {P : Par} {S : Cst} {R : Rst} {L : List En} {a t q0 l h z A0 ph c : Nat} (hG : uG P S R L t) (ha8 : a < 8) (hq : uBd S q0 l h z A0 ph c) (h6 : R.2 6 a = nI l) (h7 : R.2 7 a = nI h) (hl : l ≤ 1073741824) (hh : h ≤ 1073741824) (hz : z < 2 ^ 34) (hz1 : 1 ≤ z) (hA : A0 < 31) (hp : ph < 2 ^ A0) (hc : c = 0 ∨ ∃ C, C < 31 ∧ c = 2 ^ C) : ∀ (B A : List En) (n n' : Nat) (pr : Option Nat) (ρ : Int32) (κ : Option Nat), L = A ++ B → usg S pr (uad (uOf a B)) none → B.length < n → (uOf a B).length < n' → uFw L a l h z (2 ^ A0) ph c ρ κ →
    ∃ r q, rf_narrow_6 F R n (nI a) (lN z) (nI (2 ^ A0)) (nI ph) (nI c) ρ (nI A.length) = some r ∧ cf_X0_leastWithin_7 F (par P a) S n' (some q0) κ (uhd (uad (uOf a B)) none) = some q ∧ uFw L a l h z (2 ^ A0) ph c r q := by
  have hA2 : 2 ^ A0 < 2 ^ 31 := Nat.pow_lt_pow_right (by decide) hA
  have hc31 : c < 2 ^ 31 := by
    rcases hc with rfl | ⟨C, hC, rfl⟩
    · decide
    · exact Nat.pow_lt_pow_right (by decide) hC
  intro B
  induction B with
  | nil =>
    intro A n n' pr ρ κ hL hc hn hn' hr
    obtain ⟨n, rfl⟩ : ∃ m, n = m + 1 := ⟨n - 1, by simp at hn; omega⟩
    obtain ⟨n', rfl⟩ : ∃ m, n' = m + 1 := ⟨n' - 1, by simp [uOf] at hn'; omega⟩
    rw [List.append_nil] at hL
    refine ⟨ρ, κ, ?_, rfl, hr⟩
    simp only [rf_narrow_6]
    rw [if_pos (wk_nil (by rw [← hL]; exact hG.2.2.1))]
  | cons e B ih =>
    intro A n n' pr ρ κ hL hcs hn hn' hr
    obtain ⟨n, rfl⟩ : ∃ m, n = m + 1 := ⟨n - 1, by simp at hn; omega⟩
    have hRL := hG.2.2.1
    rw [hL] at hRL
    obtain ⟨k1, k2, g1, g2, g3, g4, g5, g6, g7⟩ := uRL_g hRL (k := A.length) (e := e) get_mid
    have hL' : L = (A ++ [e]) ++ B := by rw [hL]; simp
    have hn1 : B.length < n := by simp at hn; omega
    simp only [rf_narrow_6]
    rw [if_neg (wk_cons hRL), rd_n (f := 11) k2, g1, sn_len (e := e)]
    by_cases ha : eA e = nI a
    · rw [uOf_y ha] at hcs hn' ⊢
      obtain ⟨n', rfl⟩ : ∃ m, n' = m + 1 := ⟨n' - 1, by simp at hn'; omega⟩
      have hn2 : (uOf a B).length < n' := by simp at hn'; omega
      rw [uad_c] at hcs ⊢
      obtain ⟨c1, c2, c3⟩ := hcs
      have he : e ∈ L := by rw [hL]; simp
      have hfd := hG.2.2.2.1.1 e he
      obtain ⟨n1, n2, n3, n4, n5, n6⟩ := bz_ok (hG.1.1 e he)
      have ht := ih (A ++ [e]) n n' (some e.1) (nI A.length) (some e.1) hL' c3 hn1 hn2
      have hk := ih (A ++ [e]) n n' (some e.1) ρ κ hL' c3 hn1 hn2 hr
      rw [if_pos ha, rd_n (f := 14) k2, g4, rd_n (f := 13) k2, g3]
      have lz : lg_cmp (eZ e).toInt64 (lN z) < 0 ↔ ¬ ((lN z).toInt ≤ (eZ e).toInt) := by rw [lg_lt0, Int32.toInt_toInt64]; omega
      have fy : eO e = 0 → (lN z).toInt ≤ (eZ e).toInt → cf_X5_isFreeFor F S e.1 (lN z) = some 1 := fun w1 w2 => ffor_y (by rw [hfd.2.2.2.1]; exact w1) (by rw [hfd.2.2.1]; exact w2)
      have fz : ¬ (eO e = 0 ∧ (lN z).toInt ≤ (eZ e).toInt) → cf_X5_isFreeFor F S e.1 (lN z) = some 0 := fun w => ffor_n (by rw [hfd.2.2.2.1, hfd.2.2.1]; exact w)
      have win : rf_within F R (nI A.length) (lN z) (nI (2 ^ A0)).toInt64 (nI ph).toInt64 (nI c).toInt64 = some (w64 (wv l h z (2 ^ A0) ph c e)) := by
        rw [nI_l (by omega), nI_l (by omega), nI_l (by omega)]
        exact within_ok hRL ha8 ha n1 n2 h6 h7 n3 hl hh hz hz1 hA2 hp (by omega)
      have bin : cf_X1_baseIn F S q0 (some e.1) = some (w64 (wv l h z (2 ^ A0) ph c e)) := baseIn_ok hq (by rw [hfd.2.1]; exact n1) (by rw [hfd.2.2.1]; exact n2) n3 hl hh hz hz1 hA hp hc
      have wm : lg_cmp (w64 (wv l h z (2 ^ A0) ph c e)) (-1) = 0 ↔ wv l h z (2 ^ A0) ph c e = none := by
        refine w64_m (fun v hv => ?_)
        have := (wres_s hp hv).2.1
        have : (if h < bN e + zN e then h else bN e + zN e) ≤ 1073741824 := by
          by_cases hq : h < bN e + zN e
          · rw [if_pos hq]; exact hh
          · rw [if_neg hq]; omega
        omega
      have sk : ∀ κ', κ' = κ → cf_X0_leastWithin_42 F (par P a) (cf_X0_leastWithin_7 F (par P a) S n') S (some q0) κ' (some e.1) 0 = cf_X0_leastWithin_7 F (par P a) S n' (some q0) κ (uhd (uad (uOf a B)) none) := by
        intro κ' hκ
        subst hκ
        unfold cf_X0_leastWithin_42
        rw [if_pos rfl, nnS]
        simp only [st1]
        rw [c2]
      have tk : eO e = 0 → ∀ κ', κ' = κ → ∃ r q, rf_narrow_75 F (rf_narrow_6 F R n) R (nI a) (lN z) (nI (2 ^ A0)) (nI ph) (nI c) ρ (nI A.length) = some r ∧ cf_X0_leastWithin_42 F (par P a) (cf_X0_leastWithin_7 F (par P a) S n') S (some q0) κ' (some e.1) 1 = some q ∧ uFw L a l h z (2 ^ A0) ph c r q := by
        intro ho κ' hκ
        subst hκ
        unfold rf_narrow_75 cf_X0_leastWithin_42
        rw [if_neg (show ¬ (1 : Int32) = 0 by decide), nnS, win, bin, Option.bind_some, Option.bind_some, sn_len (e := e)]
        cases hw : wv l h z (2 ^ A0) ph c e with
        | none =>
          rw [hw] at wm
          rw [if_pos (wm.mpr rfl), if_pos (wm.mpr rfl), nnS]
          simp only [st1]
          rw [c2]; exact hk
        | some v =>
          rw [hw] at wm
          rw [if_neg (fun z' => by cases wm.mp z'), if_neg (fun z' => by cases wm.mp z'), nnS]
          simp only [st1]
          rw [c2]
          exact ht (Or.inr ⟨A, e, B, v, hL, rfl, rfl, ha, ho, hw⟩)
      simp only [cf_X0_leastWithin_7, uhd, ncS, nnS]
      rw [hq.1]
      by_cases ho : eO e = 0
      · rw [if_pos ho]
        by_cases hzz : (lN z).toInt ≤ (eZ e).toInt
        · rw [if_neg (fun z' => lz.mp z' hzz), fy ho hzz, Option.bind_some, if_neg (show ¬ (1 : Int32) = 0 by decide)]
          rcases hr with ⟨rfl, rfl⟩ | ⟨A1, e1, B1, v1, r1, r2, r3, r4⟩
          · rw [if_pos rfl, ncN]
            exact tk ho none rfl
          · subst r2 r3
            have hRL1 := hG.2.2.1
            rw [r1] at hRL1
            obtain ⟨l1, l2, m1, m2, m3, m4, m5, m6, m7⟩ := uRL_g hRL1 (k := A1.length) (e := e1) get_mid
            have hfd1 := hG.2.2.2.1.1 e1 (by rw [r1]; simp)
            rw [if_neg (nI_nm1 (k := A1.length) (by omega)), rd_n (f := 13) k2, g3, rd_n (f := 13) l2, m3, ncS, hfd1.2.2.1, hfd.2.2.1]
            by_cases hq' : eZ e1 ≤ eZ e
            · rw [if_pos hq', if_neg (by rw [Int32.lt_iff_toInt_lt]; rw [Int32.le_iff_toInt_le] at hq'; omega), sk _ rfl]; exact hk
            · rw [if_neg hq', if_pos (by rw [Int32.lt_iff_toInt_lt]; rw [Int32.le_iff_toInt_le] at hq'; omega)]; exact tk ho _ rfl
        · rw [if_pos (lz.mpr hzz), fz (fun z' => hzz z'.2), Option.bind_some, if_pos rfl, sk _ rfl]; exact hk
      · rw [if_neg ho, fz (fun z' => ho z'.1), Option.bind_some, if_pos rfl, sk _ rfl]; exact hk
    · rw [if_neg ha]
      rw [uOf_n ha] at hcs hn' ⊢
      exact ih (A ++ [e]) n n' pr ρ κ hL' hcs hn1 hn' hr
