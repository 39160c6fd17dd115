/-! ===== pure part: numbers: comparisons of longs, lists ===== -/
theorem lg_def (x y : Int64) : lg_cmp x y = if y.toInt < x.toInt then 1 else if x.toInt = y.toInt then 0 else -1 := by
  unfold lg_cmp
  by_cases h : x > y
  · rw [if_pos h, if_pos (Int64.lt_iff_toInt_lt.mp h)]
  · rw [if_neg h, if_neg (fun z => h (Int64.lt_iff_toInt_lt.mpr z))]
    by_cases h2 : x = y
    · rw [if_pos h2, if_pos (by rw [h2])]
    · rw [if_neg h2, if_neg (fun z => h2 (Int64.toInt_inj.mp z))]
theorem lg_lt0 {x y : Int64} : lg_cmp x y < 0 ↔ x.toInt < y.toInt := by
  rw [lg_def]
  by_cases h : y.toInt < x.toInt
  · rw [if_pos h]; exact ⟨fun z => absurd z (by decide), fun z => by omega⟩
  · rw [if_neg h]
    by_cases h2 : x.toInt = y.toInt
    · rw [if_pos h2]; exact ⟨fun z => absurd z (by decide), fun z => by omega⟩
    · rw [if_neg h2]; exact ⟨fun _ => by omega, fun _ => by decide⟩
theorem lg_le0 {x y : Int64} : lg_cmp x y ≤ 0 ↔ x.toInt ≤ y.toInt := by
  rw [lg_def]
  by_cases h : y.toInt < x.toInt
  · rw [if_pos h]; exact ⟨fun z => absurd z (by decide), fun z => by omega⟩
  · rw [if_neg h]
    by_cases h2 : x.toInt = y.toInt
    · rw [if_pos h2]; exact ⟨fun _ => by omega, fun _ => by decide⟩
    · rw [if_neg h2]; exact ⟨fun _ => by omega, fun _ => by decide⟩
theorem lg_0le {x y : Int64} : 0 ≤ lg_cmp x y ↔ y.toInt ≤ x.toInt := by
  rw [lg_def]
  by_cases h : y.toInt < x.toInt
  · rw [if_pos h]; exact ⟨fun _ => by omega, fun _ => by decide⟩
  · rw [if_neg h]
    by_cases h2 : x.toInt = y.toInt
    · rw [if_pos h2]; exact ⟨fun _ => by omega, fun _ => by decide⟩
    · rw [if_neg h2]; exact ⟨fun z => absurd z (by decide), fun z => by omega⟩
theorem lg_0lt {x y : Int64} : 0 < lg_cmp x y ↔ y.toInt < x.toInt := by
  rw [lg_def]
  by_cases h : y.toInt < x.toInt
  · rw [if_pos h]; exact ⟨fun _ => by omega, fun _ => by decide⟩
  · rw [if_neg h]
    by_cases h2 : x.toInt = y.toInt
    · rw [if_pos h2]; exact ⟨fun z => absurd z (by decide), fun z => by omega⟩
    · rw [if_neg h2]; exact ⟨fun z => absurd z (by decide), fun z => by omega⟩
theorem log2_step {v k : Nat} (h : 2 ^ k ≤ v) : Nat.log2 v = k + Nat.log2 (v / 2 ^ k) := by
  have hp := Nat.two_pow_pos k
  have hv : v ≠ 0 := by omega
  have h1 : v / 2 ^ k ≠ 0 := by have := Nat.div_pos h hp; omega
  obtain ⟨l, hl⟩ : ∃ l, l = Nat.log2 (v / 2 ^ k) := ⟨_, rfl⟩
  have h2 := (Nat.log2_eq_iff h1).mp hl.symm
  rw [← hl, Nat.log2_eq_iff hv]
  have h3 := (Nat.le_div_iff_mul_le hp).mp h2.1
  have h4 := (Nat.div_lt_iff_lt_mul hp).mp h2.2
  constructor
  · rw [Nat.pow_add, Nat.mul_comm]; exact h3
  · rw [show k + l + 1 = (l + 1) + k by omega, Nat.pow_add]; exact h4
theorem ltL {v k : Nat} {K : Int32} (hK : K = nI k) (hv : v < 2 ^ 31) (hk : k < 2 ^ 31) : nI v < K ↔ v < k := by rw [hK]; exact nI_ltI hv hk
theorem gtL {v k : Nat} {K : Int32} (hK : K = nI k) (hv : v < 2 ^ 31) (hk : k < 2 ^ 31) : K < nI v ↔ k < v := by rw [hK]; exact nI_ltI hk hv
theorem leL {v k : Nat} {K : Int32} (hK : K = nI k) (hv : v < 2 ^ 31) (hk : k < 2 ^ 31) : nI v ≤ K ↔ v ≤ k := by rw [hK]; exact nI_leI hv hk
theorem geL {v k : Nat} {K : Int32} (hK : K = nI k) (hv : v < 2 ^ 31) (hk : k < 2 ^ 31) : K ≤ nI v ↔ k ≤ v := by rw [hK]; exact nI_leI hk hv
theorem eqL {v k : Nat} {K : Int32} (hK : K = nI k) (hv : v < 2 ^ 31) (hk : k < 2 ^ 31) : nI v = K ↔ v = k := by rw [hK]; exact nI_eq hv hk
theorem nlz61 {F : Nat} {S : Cst} {v : Nat} {x1 : Int32} (h0 : 0 < v) (h : v < 16) : cf_J6_numberOfLeadingZeros_0f7a4_61 F S (nI v) x1 = some (x1 - nI (Nat.log2 v)) := by
  unfold cf_J6_numberOfLeadingZeros_0f7a4_61
  by_cases h4 : v < 4
  · rw [if_pos ((ltL (K := 4) (k := 4) rfl (by omega) (by omega)).mpr h4), pk_ushrN (by omega) 1 1 (by decide)]
    have : v / 2 ^ 1 = Nat.log2 v := by
      refine ((Nat.log2_eq_iff (by omega)).mpr ?_).symm
      rcases (by omega : v = 1 ∨ v = 2 ∨ v = 3) with rfl | rfl | rfl <;> decide
    rw [this]
  · rw [if_neg (fun z => h4 ((ltL (K := 4) (k := 4) rfl (by omega) (by omega)).mp z)), pk_ushrN (by omega) 2 2 (by decide), pk_ushrN (n := v / 2 ^ 2) (by omega) 1 1 (by decide)]
    have : Nat.log2 v = 2 + v / 2 ^ 2 / 2 ^ 1 := by
      rw [log2_step (k := 2) (by omega)]
      congr 1
      refine (Nat.log2_eq_iff (by omega)).mpr ?_
      rcases (by omega : v / 2 ^ 2 = 1 ∨ v / 2 ^ 2 = 2 ∨ v / 2 ^ 2 = 3) with e | e | e <;> rw [e] <;> decide
    rw [this, ← nI_add]
    refine congrArg some ?_
    have : nI 2 = (2 : Int32) := rfl
    rw [this]
    grind
theorem nlz48 {F : Nat} {S : Cst} {v : Nat} {x1 : Int32} (h0 : 0 < v) (h : v < 256) : cf_J6_numberOfLeadingZeros_0f7a4_48 F S (nI v) x1 = some (x1 - nI (Nat.log2 v)) := by
  unfold cf_J6_numberOfLeadingZeros_0f7a4_48
  by_cases h4 : v < 16
  · rw [if_pos ((ltL (K := 16) (k := 16) rfl (by omega) (by omega)).mpr h4), nlz61 h0 h4]
  · rw [if_neg (fun z => h4 ((ltL (K := 16) (k := 16) rfl (by omega) (by omega)).mp z)), pk_ushrN (by omega) 4 4 (by decide), nlz61 (by omega) (by omega), log2_step (v := v) (k := 4) (by omega), ← nI_add]
    refine congrArg some ?_
    have : nI 4 = (4 : Int32) := rfl
    rw [this]
    grind
theorem nlz33 {F : Nat} {S : Cst} {v : Nat} {x1 : Int32} (h0 : 0 < v) (h : v < 65536) : cf_J6_numberOfLeadingZeros_0f7a4_33 F S (nI v) x1 = some (x1 - nI (Nat.log2 v)) := by
  unfold cf_J6_numberOfLeadingZeros_0f7a4_33
  by_cases h4 : v < 256
  · rw [if_pos ((ltL (K := 256) (k := 256) rfl (by omega) (by omega)).mpr h4), nlz48 h0 h4]
  · rw [if_neg (fun z => h4 ((ltL (K := 256) (k := 256) rfl (by omega) (by omega)).mp z)), pk_ushrN (by omega) 8 8 (by decide), nlz48 (by omega) (by omega), log2_step (v := v) (k := 8) (by omega), ← nI_add]
    refine congrArg some ?_
    have : nI 8 = (8 : Int32) := rfl
    rw [this]
    grind
theorem nlz_ok {F : Nat} {S : Cst} {v : Nat} (h0 : 0 < v) (h : v < 2147483648) : cf_J6_numberOfLeadingZeros_0f7a4 F S (nI v) = some (31 - nI (Nat.log2 v)) := by
  unfold cf_J6_numberOfLeadingZeros_0f7a4
  rw [if_pos ((gtL (K := 0) (k := 0) rfl (by omega) (by omega)).mpr h0)]
  by_cases h4 : v < 65536
  · rw [if_pos ((ltL (K := 65536) (k := 65536) rfl (by omega) (by omega)).mpr h4), nlz33 h0 h4]
  · rw [if_neg (fun z => h4 ((ltL (K := 65536) (k := 65536) rfl (by omega) (by omega)).mp z)), pk_ushrN (by omega) 16 16 (by decide), nlz33 (by omega) (by omega), log2_step (v := v) (k := 16) (by omega), ← nI_add]
    refine congrArg some ?_
    have : nI 16 = (16 : Int32) := rfl
    rw [this]
    grind
theorem sl32 : ∀ n, n < 32 → ((nI n &&& 31).toBitVec.smod 32).toNat = n := by decide +kernel
theorem shr_ok {z sh : Nat} (hz : z < 2147483648) (hs : sh < 32) : nI z >>> (nI sh &&& 31) = nI (z / 2 ^ sh) := pk_shrN hz _ sh (sl32 sh hs)
theorem clistOf_ok {F : Nat} {S : Cst} {h z sh : Nat} (hg : gI S 2 h = nI sh) (hs : sh ≤ 16) (hz : 2 ^ sh ≤ z) (hz2 : z < 2147483648) : cf_X0_listOf F S h (nI z) = some (nI (Nat.log2 (z / 2 ^ sh))) := by
  unfold cf_X0_listOf
  have h1 : 0 < z / 2 ^ sh := Nat.div_pos hz (Nat.two_pow_pos sh)
  have h2 : z / 2 ^ sh ≤ z := Nat.div_le_self _ _
  rw [hg, shr_ok hz2 (by omega), nlz_ok h1 (by omega), Option.bind_some]
  refine congrArg some ?_
  grind
def lfor (m : Nat) : Nat := if m ≤ 1 then 0 else Nat.log2 (m - 1) + 1
theorem lfor_le {m l : Nat} (hm : 1 ≤ m) : m ≤ 2 ^ l ↔ lfor m ≤ l := by
  unfold lfor
  have hp := Nat.two_pow_pos l
  by_cases h : m ≤ 1
  · rw [if_pos h]; constructor <;> (intro; omega)
  · rw [if_neg h]
    have := Nat.log2_lt (n := m - 1) (k := l) (by omega)
    constructor
    · intro q; have := this.mpr (by omega); omega
    · intro q; have := this.mp (by omega); omega
theorem clistFor_ok {F : Nat} {S : Cst} {h z sh m : Nat} (hg : gI S 2 h = nI sh) (hs : sh ≤ 16) (hm : 1 ≤ m) (hz : z = m * 2 ^ sh) (hz2 : z < 2147483648) : cf_X0_listFor F S h (nI z) = some (nI (lfor m)) := by
  unfold cf_X0_listFor
  have h1 : z / 2 ^ sh = m := by rw [hz]; exact Nat.mul_div_cancel _ (Nat.two_pow_pos sh)
  have h2 : m ≤ z := by rw [← h1]; exact Nat.div_le_self _ _
  rw [hg, shr_ok hz2 (by omega), h1]
  obtain ⟨k, rfl⟩ : ∃ k, m = k + 1 := ⟨m - 1, by omega⟩
  rw [nI_pred]
  by_cases hk : k = 0
  · subst hk
    rfl
  · rw [nlz_ok (by omega) (by omega), Option.bind_some]
    unfold lfor
    rw [if_neg (by omega), Nat.add_sub_cancel, ← nI_add]
    refine congrArg some ?_
    have : nI 1 = (1 : Int32) := rfl
    rw [this]
    grind
theorem rlist_lp {F : Nat} {R : Rst} {v : Nat} (hv : 0 < v) (hv2 : v < 2147483648) : ∀ d l n, l + d = Nat.log2 v → d < n → rf_listOf_21 F R n (nI v) (nI l) = some (nI (Nat.log2 v)) := by
  have hlog : Nat.log2 v < 31 := (Nat.log2_lt (by omega)).mpr (by omega)
  intro d
  induction d with
  | zero =>
    intro l n hl hn
    obtain ⟨n, rfl⟩ : ∃ m, n = m + 1 := ⟨n - 1, by omega⟩
    simp only [rf_listOf_21]
    rw [nI_1, shr_ok hv2 (by omega), if_pos]
    · rw [← hl]; rfl
    · have := (Nat.log2_eq_iff (n := v) (k := l) (by omega)).mp (by omega)
      rw [Nat.div_eq_of_lt this.2]; decide
  | succ d ih =>
    intro l n hl hn
    obtain ⟨n, rfl⟩ : ∃ m, n = m + 1 := ⟨n - 1, by omega⟩
    simp only [rf_listOf_21]
    rw [nI_1, shr_ok hv2 (by omega), if_neg]
    · exact ih (l + 1) n (by omega) (by omega)
    · have h1 := (Nat.le_log2 (n := v) (k := l + 1) (by omega)).mp (by omega)
      have h2 : 0 < v / 2 ^ (l + 1) := Nat.div_pos h1 (Nat.two_pow_pos _)
      have h3 : v / 2 ^ (l + 1) ≤ v := Nat.div_le_self _ _
      exact nI_nle h2 (by omega)
theorem pw16 {sh : Nat} (h : sh ≤ 16) : 2 ^ sh ≤ 65536 := Nat.le_trans (Nat.pow_le_pow_right (by decide) h) (by decide)
def zn (e : En) : Nat := (ez e).toNat
theorem i32_nn {x : Int32} (h : 0 ≤ x.toInt) : x = nI x.toInt.toNat := by
  apply i32_sub0
  have := Int32.toInt_lt x
  rw [nI_toInt (by omega)]; omega
/-- the list of a segment -/
def lz (P : Par) (a : Nat) (e : En) : Nat := Nat.log2 (zn e / 2 ^ psh P a)
theorem zn_ok {P : Par} {R : Rst} {e : En} {a : Nat} (hP : pn P ≤ 8) (ha : a < pn P) (h : uEl P R e) (hea : eA e = nI a) : eZ e = nI (zn e) ∧ 2 ^ psh P a ≤ zn e ∧ zn e ≤ 1073741824 := by
  have hs := uEl_sp h
  have hd := (uEl_dv hP ha h hea).2
  have e1 : ez e = (eZ e).toInt := rfl
  refine ⟨i32_nn (by omega), ?_, by unfold zn; omega⟩
  unfold zn
  have : ((2 ^ psh P a : Nat) : Int) ≤ ez e := Int.le_of_dvd (by omega) hd
  omega
theorem clz_ok {F : Nat} {P : Par} {x : Nat} {S : Cst} {R : Rst} {e : En} {a : Nat} (hR : uStR P R) (hS : uStS P x S) (ha : a < pn P) (h : uEl P R e) (hea : eA e = nI a) : cf_X0_listOf F S (par P a) (eZ e) = some (nI (lz P a e)) := by
  obtain ⟨z1, z2, z3⟩ := zn_ok hR.1 ha h hea
  have h1 := (hS.2.2.2.2 a ha).2.2.2.1
  rw [z1]
  exact clistOf_ok h1 (hR.2.2 a ha).1 z2 (by omega)
theorem rlz_ok {F : Nat} {P : Par} {R : Rst} {A B : List En} {e : En} {a : Nat} (hF : 1000 ≤ F) (hR : uStR P R) (ha : a < pn P) (hL : uLs P R (A ++ e :: B)) (h : uRL R (A ++ e :: B)) (hea : eA e = nI a) : rf_listOf F R (nI A.length) = some (nI (lz P a e)) := by
  obtain ⟨z1, z2, z3⟩ := zn_ok hR.1 ha (hL.1 e (by simp)) hea
  obtain ⟨k1, k2, g1, g2, g3, g4, g5, g6, g7⟩ := uRL_g h (k := A.length) (e := e) get_mid
  have hq := hR.2.2 a ha
  have hp := pw16 hq.1
  have hp0 := Nat.two_pow_pos (psh P a)
  have h1 : 0 < zn e / 2 ^ psh P a := Nat.div_pos z2 hp0
  have h2 : zn e / 2 ^ psh P a ≤ zn e := Nat.div_le_self _ _
  unfold rf_listOf
  have ha8 : a < 8 := by have := hR.1; omega
  rw [rd_n (f := 13) k2, rd_n (f := 11) k2, g1, g3, hea, rd_n (f := 2) (show a < rlen 2 from ha8), hq.2.2.1, z1]
  unfold dv
  rw [if_neg (nI_ne0 hp0 (by omega)), pk_div (by omega) hp0 (by omega)]
  have hlog : Nat.log2 (zn e / 2 ^ psh P a) < 31 := (Nat.log2_lt (by omega)).mpr (by omega)
  have := rlist_lp (F := F) (R := R) h1 (by omega) (Nat.log2 (zn e / 2 ^ psh P a)) 0 F (by omega) (by omega)
  rw [nI_0] at this
  exact this
theorem wbc : ∀ k, k < 64 → ((nI k).toInt64 &&& 63) = lN k := by decide +kernel
theorem wbsm : ∀ k, k < 64 → ((lN k).toBitVec.smod 64).toNat = k := by decide +kernel
theorem shl64 {n k : Nat} (hk : k < 64) (h : n * 2 ^ k < 2 ^ 63) : (lN n <<< ((nI k).toInt64 &&& 63)) = lN (n * 2 ^ k) := by
  rw [wbc k hk]
  apply Int64.toBitVec_inj.mp
  rw [Int64.toBitVec_shiftLeft]
  apply BitVec.eq_of_toNat_eq
  have h1 : ((lN k).toBitVec.smod 64).toNat = k := wbsm k hk
  rw [BitVec.shiftLeft_eq', BitVec.toNat_shiftLeft, h1]
  show (BitVec.ofNat 64 n).toNat <<< k % 2 ^ 64 = (BitVec.ofNat 64 (n * 2 ^ k)).toNat
  have hn : n ≤ n * 2 ^ k := Nat.le_mul_of_pos_right _ (Nat.two_pow_pos k)
  rw [BitVec.toNat_ofNat, BitVec.toNat_ofNat, Nat.shiftLeft_eq, Nat.mod_eq_of_lt (a := n) (by omega)]
theorem rinst2 {F : Nat} {P : Par} {R : Rst} {a m z : Nat} (hR : uStR P R) (ha : a < pn P) (hm : 1 ≤ m) (hz : z = m * 2 ^ psh P a) (hz2 : z ≤ 1073741824) : ∀ d l n, l + d = lfor m → d < n → rf_instant_2 F R n (nI a) (nI z) (nI l) = rf_instant_29 F R F (nI a) (nI (lfor m)) (-1) 0 := by
  have hq := hR.2.2 a ha
  have hp := pw16 hq.1
  have hp0 := Nat.two_pow_pos (psh P a)
  have ha8 : a < 8 := by have := hR.1; omega
  have hmz : m ≤ z := by rw [hz]; exact Nat.le_mul_of_pos_right _ hp0
  have hl30 : lfor m ≤ 30 := (lfor_le hm).mp (by omega)
  have key : ∀ l, l ≤ 30 → (0 ≤ lg_cmp ((nI (2 ^ psh P a)).toInt64 <<< ((nI l).toInt64 &&& 63)) (nI z).toInt64 ↔ lfor m ≤ l) := by
    intro l hl
    have hpl : 2 ^ psh P a * 2 ^ l ≤ 65536 * 1073741824 := Nat.mul_le_mul hp (Nat.le_trans (Nat.pow_le_pow_right (by decide) hl) (by decide))
    rw [nI_l (n := 2 ^ psh P a) (by omega), nI_l (n := z) (by omega), shl64 (by omega) (by omega), lg_0le, pk_lT (by omega), pk_lT (by omega), ← lfor_le hm, hz]
    rw [Nat.mul_comm m]
    constructor
    · intro q
      have q : 2 ^ psh P a * m ≤ 2 ^ psh P a * 2 ^ l := by exact_mod_cast q
      exact Nat.le_of_mul_le_mul_left q hp0
    · intro q
      have := Nat.mul_le_mul_left (2 ^ psh P a) q
      exact_mod_cast this
  intro d
  induction d with
  | zero =>
    intro l n hl hn
    obtain ⟨n, rfl⟩ : ∃ m, n = m + 1 := ⟨n - 1, by omega⟩
    simp only [rf_instant_2]
    rw [rd_n (f := 2) (show a < rlen 2 from ha8), hq.2.2.1, if_pos ((key l (by omega)).mpr (by omega)), ← hl]
    rfl
  | succ d ih =>
    intro l n hl hn
    obtain ⟨n, rfl⟩ : ∃ m, n = m + 1 := ⟨n - 1, by omega⟩
    simp only [rf_instant_2]
    rw [rd_n (f := 2) (show a < rlen 2 from ha8), hq.2.2.1, if_neg (fun q => by have := (key l (by omega)).mp q; omega), nI_1]
    exact ih (l + 1) n (by omega) (by omega)
