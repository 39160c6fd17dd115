/-! ===== pure part: TO TAKE WITHIN, the base in a segment ===== -/
theorem n0lt {x y : Nat} (hx : x < 2 ^ 62) (hy : y < 2 ^ 62) : 0 < lg_cmp (lN x) (lN y) ↔ y < x := by rw [lg_0lt, pf_lI (by omega), pf_lI (by omega)]; omega
theorem n0le {x y : Nat} (hx : x < 2 ^ 62) (hy : y < 2 ^ 62) : 0 ≤ lg_cmp (lN x) (lN y) ↔ y ≤ x := by rw [lg_0le, pf_lI (by omega), pf_lI (by omega)]; omega
theorem nle0 {x y : Nat} (hx : x < 2 ^ 62) (hy : y < 2 ^ 62) : lg_cmp (lN x) (lN y) ≤ 0 ↔ x ≤ y := by rw [lg_le0, pf_lI (by omega), pf_lI (by omega)]; omega
theorem nlt0 {x y : Nat} (hx : x < 2 ^ 62) (hy : y < 2 ^ 62) : lg_cmp (lN x) (lN y) < 0 ↔ x < y := by rw [lg_lt0, pf_lI (by omega), pf_lI (by omega)]; omega
theorem neq0 {x y : Nat} (hx : x < 2 ^ 62) (hy : y < 2 ^ 62) : lg_cmp (lN x) (lN y) = 0 ↔ x = y := by
  rw [lg_def, pf_lI (by omega), pf_lI (by omega)]
  by_cases h1 : (y : Int) < (x : Int)
  · rw [if_pos h1]
    constructor
    · intro z; cases z
    · intro z; omega
  · rw [if_neg h1]
    by_cases h2 : (x : Int) = (y : Int)
    · rw [if_pos h2]; exact ⟨fun _ => by omega, fun _ => rfl⟩
    · rw [if_neg h2]
      constructor
      · intro z; cases z
      · intro z; omega
theorem lNs2 {x y : Nat} (h : y ≤ x) : lN x - lN y = lN (x - y) := by
  have h1 : lN (x - y) + lN y = lN x := by rw [lNa, Nat.sub_add_cancel h]
  rw [← h1]
  grind
theorem lN_ne0 {x : Nat} (h : 0 < x) (h2 : x < 2 ^ 62) : lN x ≠ 0 := by
  intro z
  have := congrArg Int64.toInt z
  rw [pf_lI (by omega)] at this
  have h0 : (0 : Int64).toInt = 0 := by decide
  omega
theorem dvl_n {β : Type} {x : Nat} {o : Option β} (h : 0 < x) (h2 : x < 2 ^ 62) : dvl (lN x) o = o := by unfold dvl; rw [if_neg (lN_ne0 h h2)]
theorem ralg {lo ph al : Nat} (hl : lo < 2 ^ 40) (ha : al < 2 ^ 40) (hp : ph < al) (h : ph < lo) : (((((lN lo - lN ph) + lN al) - 1) / lN al) * lN al) + lN ph = lN (alg lo ph al) := by
  unfold alg
  rw [if_pos h, lNs2 (by omega), lNa]
  obtain ⟨y, hy⟩ : ∃ y, lo - ph + al = y + 1 := ⟨lo - ph + al - 1, by omega⟩
  rw [hy, lNp, pk_lDiv (by omega) (by omega) (by omega), lNm, lNa, Nat.add_sub_cancel]
theorem r180 {F v z hi : Nat} {R : Rst} (hv : v < 2 ^ 40) (hz : z < 2 ^ 40) (hh : hi < 2 ^ 40) : rf_within_180 F R (lN z) (lN hi) (lN v) = some (w64 (wfit v z hi)) := by
  unfold rf_within_180 wfit
  rw [lNa]
  by_cases h : hi < v + z
  · rw [if_pos ((n0lt (by omega) (by omega)).mpr h), if_pos h]; rfl
  · rw [if_neg (fun q => h ((n0lt (by omega) (by omega)).mp q)), if_neg h]; rfl
theorem ldv {v z c : Nat} (hv : v < 2 ^ 40) (hz : z < 2 ^ 40) (hz1 : 1 ≤ z) (hc : 0 < c) (hc2 : c < 2 ^ 40) : (lg_cmp (lN v / lN c) (((lN v + lN z) - 1) / lN c) = 0) ↔ v / c = (v + z - 1) / c := by
  rw [lNa]
  obtain ⟨y, hy⟩ : ∃ y, v + z = y + 1 := ⟨v + z - 1, by omega⟩
  rw [hy, lNp, pk_lDiv (by omega) hc (by omega), pk_lDiv (by omega) hc (by omega), Nat.add_sub_cancel]
  have h1 := Nat.div_le_self v c
  have h2 := Nat.div_le_self y c
  exact neq0 (by omega) (by omega)
theorem r88 {F v z hi al ph c : Nat} {R : Rst} (hv : v < 2 ^ 34) (hz : z < 2 ^ 34) (hz1 : 1 ≤ z) (hh : hi < 2 ^ 34) (ha : al < 2 ^ 34) (hp : ph < al) (hc2 : c < 2 ^ 34) : rf_within_88 F R (lN z) (lN al) (lN ph) (lN c) (lN hi) (lN v) = some (w64 (if c = 0 then wfit v z hi else if v / c = (v + z - 1) / c then wfit v z hi
  else if alg ((v / c + 1) * c) ph al / c = (alg ((v / c + 1) * c) ph al + z - 1) / c then wfit (alg ((v / c + 1) * c) ph al) z hi else none)) := by
  unfold rf_within_88
  by_cases h0 : c = 0
  · subst h0
    rw [if_pos (show lg_cmp (lN 0) 0 = 0 by decide), if_pos rfl, r180 (by omega) (by omega) (by omega)]
  · have hc : 0 < c := by omega
    rw [if_neg (show ¬ lg_cmp (lN c) 0 = 0 from fun q => h0 ((neq0 (x := c) (y := 0) (by omega) (by omega)).mp q)), if_neg h0, dvl_n hc (by omega), dvl_n hc (by omega)]
    by_cases h1 : v / c = (v + z - 1) / c
    · rw [if_pos ((ldv (by omega) (by omega) hz1 hc (by omega)).mpr h1), if_pos h1, r180 (by omega) (by omega) (by omega)]
    · rw [if_neg (fun q => h1 ((ldv (by omega) (by omega) hz1 hc (by omega)).mp q)), if_neg h1, dvl_n hc (by omega), dvl_n (by omega) (by omega)]
      have hb := nxt_b (v := v) hc
      have e : (lN v / lN c + 1) * lN c = lN ((v / c + 1) * c) := by
        rw [pk_lDiv (by omega) hc (by omega), show (1 : Int64) = lN 1 from rfl, lNa, lNm]
      rw [e]
      generalize hw : (v / c + 1) * c = w at *
      have hab := alg_b (lo := w) hp
      have h158 : rf_within_158 F R (lN z) (lN c) (lN hi) (lN (alg w ph al)) = some (w64 (if alg w ph al / c = (alg w ph al + z - 1) / c then wfit (alg w ph al) z hi else none)) := by
        unfold rf_within_158
        rw [dvl_n hc (by omega), dvl_n hc (by omega)]
        by_cases h2 : alg w ph al / c = (alg w ph al + z - 1) / c
        · rw [if_pos ((ldv (by omega) (by omega) hz1 hc (by omega)).mpr h2), if_pos h2, r180 (by omega) (by omega) (by omega)]
        · rw [if_neg (fun q => h2 ((ldv (by omega) (by omega) hz1 hc (by omega)).mp q)), if_neg h2]; rfl
      by_cases hq : ph < w
      · rw [if_pos ((n0lt (by omega) (by omega)).mpr hq), ralg (by omega) (by omega) hp hq, h158]
      · have e2 : alg w ph al = ph := by unfold alg; rw [if_neg hq]
        rw [if_neg (fun q => hq ((n0lt (by omega) (by omega)).mp q))]
        rw [e2] at h158 ⊢
        exact h158
theorem within_ok {F : Nat} {R : Rst} {A B : List En} {e : En} {a b zz l h z al ph c : Nat} (hRL : uRL R (A ++ e :: B)) (ha8 : a < 8) (hea : eA e = nI a) (hB : eB e = nI b) (hZ : eZ e = nI zz) (h6 : R.2 6 a = nI l) (h7 : R.2 7 a = nI h) (hb : b + zz ≤ 1073741824) (hl : l ≤ 1073741824) (hh : h ≤ 1073741824) (hz : z < 2 ^ 34) (hz1 : 1 ≤ z) (hal : al < 2 ^ 31) (hp : ph < al) (hc2 : c < 2 ^ 34) :
    rf_within F R (nI A.length) (lN z) (lN al) (lN ph) (lN c) = some (w64 (wres (if b < l then l else b) (if h < b + zz then h else b + zz) z al ph c)) := by
  obtain ⟨k1, k2, g1, g2, g3, g4, g5, g6, g7⟩ := uRL_g hRL (k := A.length) (e := e) get_mid
  unfold rf_within
  rw [rd_n (f := 11) k2, rd_n (f := 12) k2, g1, g2, hea, rd_n (f := 6) (show a < rlen 6 from ha8), h6, hB]
  have e1 : (if nI b < nI l then nI l else nI b) = nI (if b < l then l else b) := by
    by_cases hq : b < l
    · rw [if_pos hq, if_pos ((nI_ltI (by omega) (by omega)).mpr hq)]
    · rw [if_neg hq, if_neg (fun q => hq ((nI_ltI (by omega) (by omega)).mp q))]
  rw [e1]
  simp only [st1]
  rw [rd_n (f := 12) k2, g2, rd_n (f := 13) k2, g3, hZ, hB, rd_n (f := 7) (show a < rlen 7 from ha8), h7]
  have e2 : (if (nI h).toInt64 < ((nI b).toInt64 + (nI zz).toInt64) then (nI h).toInt64 else ((nI b).toInt64 + (nI zz).toInt64)) = lN (if h < b + zz then h else b + zz) := by
    rw [nI_l (by omega), nI_l (by omega), nI_l (by omega), lNa]
    by_cases hq : h < b + zz
    · rw [if_pos hq, if_pos (by rw [Int64.lt_iff_toInt_lt, pf_lI (by omega), pf_lI (by omega)]; omega)]
    · rw [if_neg hq, if_neg (by rw [Int64.lt_iff_toInt_lt, pf_lI (by omega), pf_lI (by omega)]; omega)]
  rw [e2, dvl_n (by omega) (by omega)]
  have hlo : (if b < l then l else b) ≤ 1073741824 := by
    by_cases hq : b < l
    · rw [if_pos hq]; exact hl
    · rw [if_neg hq]; omega
  have hhi : (if h < b + zz then h else b + zz) ≤ 1073741824 := by
    by_cases hq : h < b + zz
    · rw [if_pos hq]; exact hh
    · rw [if_neg hq]; omega
  generalize (if b < l then l else b) = lo at *
  generalize (if h < b + zz then h else b + zz) = hi at *
  have hab := alg_b (lo := lo) hp
  rw [nI_l (by omega)]
  unfold wres
  by_cases hq : ph < lo
  · rw [if_pos ((n0lt (by omega) (by omega)).mpr hq), ralg (by omega) (by omega) hp hq, r88 (by omega) hz hz1 (by omega) (by omega) hp hc2]
  · have e3 : alg lo ph al = ph := by unfold alg; rw [if_neg hq]
    rw [if_neg (fun q => hq ((n0lt (by omega) (by omega)).mp q)), r88 (by omega) hz hz1 (by omega) (by omega) hp hc2, e3]
/-- what the class's Bounds hold -/
def uBd (S : Cst) (q l h z A ph c : Nat) : Prop := gJ S 16 q = lN z ∧ gI S 17 q = nI (2 ^ A) ∧ gI S 18 q = nI ph ∧ gI S 19 q = nI c ∧ gI S 20 q = nI l ∧ gI S 21 q = nI h
theorem crs_ok {F : Nat} {S : Cst} {q l h z A ph c v : Nat} (hq : uBd S q l h z A ph c) (hv : v < 2 ^ 34) (hz : z < 2 ^ 34) (hz1 : 1 ≤ z) (hc : c = 0 ∨ ∃ C, C < 31 ∧ c = 2 ^ C) : cf_X1_crosses F S q (lN v) = some (if c = 0 ∨ v / c = (v + z - 1) / c then 0 else 1) := by
  obtain ⟨q1, q2, q3, q4, q5, q6⟩ := hq
  unfold cf_X1_crosses cf_X1_multipleAbove
  rw [q4, q1]
  rcases hc with rfl | ⟨C, hC, rfl⟩
  · rw [if_pos (show nI 0 = 0 from rfl), if_pos (Or.inl rfl)]
  · have hp0 := Nat.two_pow_pos C
    have hp1 : 2 ^ C < 2 ^ 31 := Nat.pow_lt_pow_right (by decide) hC
    have hnb := nxt_b (v := v) hp0
    rw [if_neg (nI_ne0 hp0 (by omega)), Option.bind_some, nI_l (by omega), mul_c, lNa]
    by_cases hw : v / 2 ^ C = (v + z - 1) / 2 ^ C
    · rw [if_pos ((n0le (by omega) (by omega)).mpr ((crs hp0 hz1).mp hw)), if_pos (Or.inr hw)]
    · rw [if_neg (fun z' => hw ((crs hp0 hz1).mpr ((n0le (by omega) (by omega)).mp z'))), if_neg (by rintro (z' | z'); omega; exact hw z')]
theorem baseIn_ok {F : Nat} {S : Cst} {q p b zz l h z A ph c : Nat} (hq : uBd S q l h z A ph c) (hB : gI S 80 p = nI b) (hZ : gI S 81 p = nI zz) (hb : b + zz ≤ 1073741824) (hl : l ≤ 1073741824) (hh : h ≤ 1073741824) (hz : z < 2 ^ 34) (hz1 : 1 ≤ z) (hA : A < 31) (hp : ph < 2 ^ A) (hc : c = 0 ∨ ∃ C, C < 31 ∧ c = 2 ^ C) :
    cf_X1_baseIn F S q (some p) = some (w64 (wres (if b < l then l else b) (if h < b + zz then h else b + zz) z (2 ^ A) ph c)) := by
  have hq0 := hq
  obtain ⟨q1, q2, q3, q4, q5, q6⟩ := hq
  have hA2 : 2 ^ A < 2 ^ 31 := Nat.pow_lt_pow_right (by decide) hA
  have hlo : (if b < l then l else b) ≤ 1073741824 := by
    by_cases hq : b < l
    · rw [if_pos hq]; exact hl
    · rw [if_neg hq]; omega
  have hhi : (if h < b + zz then h else b + zz) ≤ 1073741824 := by
    by_cases hq : h < b + zz
    · rw [if_pos hq]; exact hh
    · rw [if_neg hq]; omega
  have e1 : (if nI b < nI l then nI l else nI b) = nI (if b < l then l else b) := by
    by_cases hq : b < l
    · rw [if_pos hq, if_pos ((nI_ltI (by omega) (by omega)).mpr hq)]
    · rw [if_neg hq, if_neg (fun q => hq ((nI_ltI (by omega) (by omega)).mp q))]
  have e2 : (if nI h < nI b + nI zz then nI h else nI b + nI zz) = nI (if h < b + zz then h else b + zz) := by
    rw [nI_add]
    by_cases hq : h < b + zz
    · rw [if_pos hq, if_pos ((nI_ltI (by omega) (by omega)).mpr hq)]
    · rw [if_neg hq, if_neg (fun q => hq ((nI_ltI (by omega) (by omega)).mp q))]
  have b35 : ∀ v, v < 2 ^ 34 → cf_X1_baseIn_35 F q S (some p) (lN v) = some (w64 (if c = 0 ∨ v / c = (v + z - 1) / c then wfit v z (if h < b + zz then h else b + zz) else none)) := by
    intro v hv
    unfold cf_X1_baseIn_35
    rw [nnS, q6, hB, hZ, e2]
    generalize (if h < b + zz then h else b + zz) = hi at *
    simp only [st1]
    rw [crs_ok hq0 hv hz hz1 hc, Option.bind_some]
    by_cases hw : c = 0 ∨ v / c = (v + z - 1) / c
    · rw [if_pos hw, if_pos rfl, if_pos hw, q1, lNa, nI_l (by omega)]
      unfold wfit
      by_cases hf : hi < v + z
      · rw [if_pos hf, if_neg (fun z' => by have := (nle0 (by omega) (by omega)).mp z'; omega)]; rfl
      · rw [if_neg hf, if_pos ((nle0 (by omega) (by omega)).mpr (by omega))]; rfl
    · rw [if_neg hw, if_neg (show ¬ (1 : Int32) = 0 by decide), if_neg hw]; rfl
  unfold cf_X1_baseIn
  rw [nnS, hB, q5, e1]
  generalize (if b < l then l else b) = lo at *
  have al : ∀ v, v < 2 ^ 34 → cf_X1_alignedFrom F S q (lN v) = some (lN (alg v ph (2 ^ A))) := by
    intro v hv
    unfold cf_X1_alignedFrom
    rw [q2, q3, nI_l (by omega), nI_l (by omega), alg_c (by omega) (by omega) hp]
  have hab := alg_b (lo := lo) hp
  simp only [st1]
  rw [nI_l (by omega), al lo (by omega), Option.bind_some, crs_ok hq0 (by omega) hz hz1 hc, Option.bind_some]
  unfold wres
  by_cases hw : c = 0 ∨ alg lo ph (2 ^ A) / c = (alg lo ph (2 ^ A) + z - 1) / c
  · rw [if_pos hw, if_pos rfl, b35 _ (by omega), if_pos hw]
    rcases hw with hw | hw
    · rw [if_pos hw]
    · by_cases h0 : c = 0
      · rw [if_pos h0]
      · rw [if_neg h0, if_pos hw]
  · have hc0 : c ≠ 0 := fun z' => hw (Or.inl z')
    rw [if_neg hw, if_neg (show ¬ (1 : Int32) = 0 by decide), if_neg hc0, if_neg (fun z' => hw (Or.inr z'))]
    rcases hc with z' | ⟨C, hC, rfl⟩
    · exact absurd z' hc0
    · have hp0 := Nat.two_pow_pos C
      have hp1 : 2 ^ C < 2 ^ 31 := Nat.pow_lt_pow_right (by decide) hC
      have hnb := nxt_b (v := alg lo ph (2 ^ A)) hp0
      have hab2 := alg_b (lo := (alg lo ph (2 ^ A) / 2 ^ C + 1) * 2 ^ C) hp
      unfold cf_X1_multipleAbove
      rw [q4, nI_l (by omega), mul_c, Option.bind_some, al _ (by omega), Option.bind_some, b35 _ (by omega)]
      by_cases hw2 : alg ((alg lo ph (2 ^ A) / 2 ^ C + 1) * 2 ^ C) ph (2 ^ A) / 2 ^ C = (alg ((alg lo ph (2 ^ A) / 2 ^ C + 1) * 2 ^ C) ph (2 ^ A) + z - 1) / 2 ^ C
      · rw [if_pos (Or.inr hw2), if_pos hw2]
      · rw [if_neg (by rintro (z' | z'); exact hc0 z'; exact hw2 z'), if_neg hw2]
