/-! ===== pure part: bits of an int; counts (families of kit/laws, pasted) ===== -/
def bt (x : Int32) (i : Nat) : Bool := x.toBitVec.getLsbD i
theorem b_ext {x y : Int32} (h : ∀ i, i < 32 → bt x i = bt y i) : x = y := Int32.toBitVec_inj.mp (BitVec.eq_of_getLsbD_eq (fun i hi => h i hi))
theorem b_or (x y : Int32) (i : Nat) : bt (x ||| y) i = (bt x i || bt y i) := by unfold bt; rw [Int32.toBitVec_or, BitVec.getLsbD_or]
theorem b_and (x y : Int32) (i : Nat) : bt (x &&& y) i = (bt x i && bt y i) := by unfold bt; rw [Int32.toBitVec_and, BitVec.getLsbD_and]
theorem b_xor (x y : Int32) (i : Nat) : bt (x ^^^ y) i = (bt x i ^^ bt y i) := by unfold bt; rw [Int32.toBitVec_xor, BitVec.getLsbD_xor]
theorem b_big {x : Int32} {i : Nat} (h : 32 ≤ i) : bt x i = false := BitVec.getLsbD_of_ge _ _ h
theorem b_255 (i : Nat) : bt 255 i = decide (i < 8) := by
  rcases Nat.lt_or_ge i 32 with h | h
  · exact (by decide +kernel : ∀ i, i < 32 → bt 255 i = decide (i < 8)) i h
  · rw [b_big h, decide_eq_false (by omega)]
theorem b_65535 (i : Nat) : bt 65535 i = decide (i < 16) := by
  rcases Nat.lt_or_ge i 32 with h | h
  · exact (by decide +kernel : ∀ i, i < 32 → bt 65535 i = decide (i < 16)) i h
  · rw [b_big h, decide_eq_false (by omega)]
theorem b_m1 : ∀ i, i < 32 → bt (-1) i = true := by decide +kernel
theorem b_0 (i : Nat) : bt 0 i = false := BitVec.getLsbD_zero
theorem s_l : ∀ n, n < 32 → ((nI n &&& 31).toBitVec.smod 32).toNat = n := by decide +kernel
theorem s_u : ∀ n, n < 32 → (((nI n).toUInt32 &&& Int32.toUInt32 31).toBitVec % 32).toNat = n := by decide +kernel
theorem b_shl (n : Nat) (hn : n < 32) (x : Int32) {i : Nat} (hi : i < 32) : bt (x <<< (nI n &&& 31)) i = (decide (n ≤ i) && bt x (i - n)) := by
  unfold bt
  rw [Int32.toBitVec_shiftLeft]
  show (x.toBitVec <<< ((nI n &&& 31).toBitVec.smod 32).toNat).getLsbD i = _
  rw [s_l n hn, BitVec.getLsbD_shiftLeft]
  rcases Nat.lt_or_ge i n with h | h
  · simp [h, Nat.not_le.mpr h]
  · simp [hi, h, Nat.not_lt.mpr h]
theorem b_ushr (n : Nat) (hn : n < 32) (x : Int32) (i : Nat) : bt ((x.toUInt32 >>> ((nI n).toUInt32 &&& Int32.toUInt32 31)).toInt32) i = bt x (n + i) := by
  show (x.toUInt32 >>> ((nI n).toUInt32 &&& Int32.toUInt32 31)).toBitVec.getLsbD i = x.toUInt32.toBitVec.getLsbD (n + i)
  rw [UInt32.toBitVec_shiftRight]
  show (x.toUInt32.toBitVec >>> (((nI n).toUInt32 &&& Int32.toUInt32 31).toBitVec % 32).toNat).getLsbD i = _
  rw [s_u n hn, BitVec.getLsbD_ushiftRight]
def fb_ct (p : Nat → Bool) : Nat → Nat
  | 0 => 0
  | n + 1 => fb_ct p n + (if p n then 1 else 0)
theorem fb_ct_succ (p : Nat → Bool) (n : Nat) : fb_ct p (n + 1) = fb_ct p n + (if p n then 1 else 0) := rfl
theorem fb_ct_le (p : Nat → Bool) : ∀ n, fb_ct p n ≤ n
  | 0 => Nat.le_refl _
  | n + 1 => by
    have h := fb_ct_le p n
    rw [fb_ct_succ]
    split <;> omega
theorem fb_ct_step (p : Nat → Bool) (m : Nat) : ∀ n, fb_ct p m ≤ fb_ct p (m + n)
  | 0 => Nat.le_refl _
  | n + 1 => by
    have h := fb_ct_step p m n
    show fb_ct p m ≤ fb_ct p (m + n + 1)
    rw [fb_ct_succ]
    omega
theorem fb_ct_mono (p : Nat → Bool) {m n : Nat} (h : m ≤ n) : fb_ct p m ≤ fb_ct p n := by
  have := fb_ct_step p m (n - m)
  rwa [Nat.add_sub_cancel' h] at this
theorem fb_ct_cong {p q : Nat → Bool} : ∀ {n : Nat}, (∀ k, k < n → p k = q k) → fb_ct p n = fb_ct q n
  | 0, _ => rfl
  | n + 1, h => by
    rw [fb_ct_succ, fb_ct_succ, fb_ct_cong (fun k hk => h k (by omega)), h n (by omega)]
/-- one place changed -/
theorem fb_ct_out (p : Nat → Bool) (b : Bool) {i n : Nat} (h : n ≤ i) : fb_ct (fun k => if k = i then b else p k) n = fb_ct p n :=
  fb_ct_cong fun k hk => if_neg (by omega)
theorem fb_ct_upd (p : Nat → Bool) (b : Bool) {i : Nat} : ∀ {n : Nat}, i < n → fb_ct (fun k => if k = i then b else p k) n + (if p i then 1 else 0) = fb_ct p n + (if b then 1 else 0)
  | 0, h => absurd h (Nat.not_lt_zero i)
  | n + 1, h => by
    rw [fb_ct_succ, fb_ct_succ]
    rcases Nat.lt_or_ge i n with q | q
    · have := fb_ct_upd p b q
      have e : (if n = i then b else p n) = p n := if_neg (by omega)
      rw [e]
      omega
    · have e : i = n := by omega
      subst e
      rw [fb_ct_out p b (Nat.le_refl _)]
      simp only [if_true]
      omega
theorem fb_ct_sub {p q : Nat → Bool} : ∀ {n : Nat}, (∀ k, k < n → p k = true → q k = true) → fb_ct p n ≤ fb_ct q n
  | 0, _ => Nat.le_refl _
  | n + 1, h => by
    have h1 := fb_ct_sub (n := n) (p := p) (q := q) (fun k hk => h k (by omega))
    have h2 := h n (by omega)
    rw [fb_ct_succ, fb_ct_succ]
    cases hp : p n <;> cases hq : q n <;> simp_all <;> omega
theorem fb_ct_or {p q : Nat → Bool} : ∀ {n : Nat}, (∀ k, k < n → ¬ (p k = true ∧ q k = true)) → fb_ct (fun k => p k || q k) n = fb_ct p n + fb_ct q n
  | 0, _ => rfl
  | n + 1, h => by
    have h1 := fb_ct_or (n := n) (p := p) (q := q) (fun k hk => h k (by omega))
    have h2 := h n (by omega)
    rw [fb_ct_succ, fb_ct_succ, fb_ct_succ, h1]
    cases hp : p n <;> cases hq : q n <;> simp_all <;> omega
theorem fb_ct_not (p : Nat → Bool) : ∀ n, fb_ct p n + fb_ct (fun k => !p k) n = n
  | 0 => rfl
  | n + 1 => by
    have h := fb_ct_not p n
    rw [fb_ct_succ, fb_ct_succ]
    cases p n <;> simp <;> omega
theorem fb_ct_split (p : Nat → Bool) (m : Nat) : ∀ n, fb_ct p (m + n) = fb_ct p m + fb_ct (fun k => p (m + k)) n
  | 0 => rfl
  | n + 1 => by
    have h := fb_ct_split p m n
    show fb_ct p (m + n + 1) = _
    rw [fb_ct_succ, fb_ct_succ, h, Nat.add_assoc]
theorem fb_ct_zero {p : Nat → Bool} : ∀ {n : Nat}, fb_ct p n = 0 ↔ ∀ k, k < n → p k = false
  | 0 => ⟨fun _ k hk => absurd hk (Nat.not_lt_zero k), fun _ => rfl⟩
  | n + 1 => by
    have h := fb_ct_zero (p := p) (n := n)
    rw [fb_ct_succ]
    constructor
    · intro e k hk
      have e1 : fb_ct p n = 0 := by omega
      rcases Nat.lt_or_ge k n with q | q
      · exact h.mp e1 k q
      · have ek : k = n := by omega
        subst ek
        cases hp : p k
        · rfl
        · simp [hp] at e
    · intro a
      rw [h.mpr (fun k hk => a k (by omega)), a n (by omega)]
      rfl
theorem fb_ct_pos {p : Nat → Bool} {n : Nat} : 0 < fb_ct p n ↔ ∃ k, k < n ∧ p k = true := by
  constructor
  · intro h
    refine Classical.byContradiction fun hx => ?_
    have := fb_ct_zero.mpr (fun k hk => by
      cases hp : p k
      · rfl
      · exact absurd ⟨k, hk, hp⟩ hx : ∀ k, k < n → p k = false)
    omega
  · rintro ⟨k, hk, hp⟩
    rcases Nat.eq_zero_or_pos (fb_ct p n) with e | e
    · have := fb_ct_zero.mp e k hk
      rw [this] at hp
      cases hp
    · exact e
theorem fb_ct_all {p : Nat → Bool} {n : Nat} : fb_ct p n = n ↔ ∀ k, k < n → p k = true := by
  have h := fb_ct_not p n
  constructor
  · intro e k hk
    have z : fb_ct (fun k => !p k) n = 0 := by omega
    have := fb_ct_zero.mp z k hk
    cases hp : p k
    · simp [hp] at this
    · rfl
  · intro a
    have z : fb_ct (fun k => !p k) n = 0 := fb_ct_zero.mpr (fun k hk => by simp [a k hk])
    omega
theorem fa_and (a b : Nat) : nI a &&& nI b = nI (a &&& b) := by
  apply Int32.toBitVec_inj.1
  show BitVec.ofNat 32 a &&& BitVec.ofNat 32 b = BitVec.ofNat 32 (a &&& b)
  apply BitVec.eq_of_getLsbD_eq
  intro i hi
  simp [hi]
/-! one bit set, cleared, asked for -/
theorem b_one : ∀ l, l < 32 → ∀ j, j < 32 → bt ((1 : Int32) <<< (nI l &&& 31)) j = decide (j = l) := by decide +kernel
theorem b_set {x : Int32} {l j : Nat} (hl : l < 32) (hj : j < 32) : bt (x ||| ((1 : Int32) <<< (nI l &&& 31))) j = (bt x j || decide (j = l)) := by rw [b_or, b_one l hl j hj]
theorem b_clr {x : Int32} {l j : Nat} (hl : l < 32) (hj : j < 32) : bt (x &&& (((1 : Int32) <<< (nI l &&& 31)) ^^^ (-1))) j = (bt x j && !decide (j = l)) := by
  rw [b_and, b_xor, b_one l hl j hj, b_m1 j hj]
  cases decide (j = l) <;> simp
theorem b_1 : ∀ j, j < 32 → bt 1 j = decide (j = 0) := by decide +kernel
theorem b_tst {x : Int32} {l : Nat} (hl : l < 32) : (((x.toUInt32 >>> ((nI l).toUInt32 &&& Int32.toUInt32 31)).toInt32) &&& 1) = 1 ↔ bt x l = true := by
  have h0 : bt (((x.toUInt32 >>> ((nI l).toUInt32 &&& Int32.toUInt32 31)).toInt32) &&& 1) 0 = bt x l := by
    rw [b_and, b_ushr l hl, b_1 0 (by decide)]; simp
  constructor
  · intro h; rw [h, b_1 0 (by decide)] at h0; simpa using h0.symm
  · intro h
    apply b_ext
    intro i hi
    rw [b_and, b_ushr l hl, b_1 i hi]
    by_cases hi0 : i = 0
    · subst hi0; simpa using h
    · simp [hi0]
theorem b_zero {x : Int32} : x = 0 ↔ ∀ j, j < 32 → bt x j = false := by
  constructor
  · intro h j _; rw [h, b_0]
  · intro h; apply b_ext; intro i hi; rw [h i hi, b_0]
theorem b_fill : ∀ n, n < 33 → 1 ≤ n → ∀ j, j < 32 → bt ((((-1 : Int32)).toUInt32 >>> ((32 - nI n).toUInt32 &&& Int32.toUInt32 31)).toInt32) j = decide (j < n) := by decide +kernel
theorem b_nI {v j : Nat} (hj : j < 32) : bt (nI v) j = v.testBit j := by
  show (BitVec.ofNat 32 v).getLsbD j = _
  rw [BitVec.getLsbD_ofNat]; simp [hj]
theorem i32_nat (x : Int32) : ∃ v, v < 4294967296 ∧ x = nI v := ⟨x.toBitVec.toNat, x.toBitVec.isLt, Int32.toBitVec_inj.mp (by show _ = BitVec.ofNat 32 _; simp)⟩
/-! the lowest bit -/
def ntzT (F : Nat) (S : Cst) (y : Int32) : Option Int32 := if 0 < y then (if y ≤ (65536 : Int32) then (cf_J6_numberOfTrailingZeros_0f7a4_34 F S y (1 : Int32)) else (cf_J6_numberOfTrailingZeros_0f7a4_34 F S ((y.toUInt32 >>> ((16 : Int32).toUInt32 &&& Int32.toUInt32 31)).toInt32) (1 + 16))) else (some (y &&& 32))
def S0c : Cst := (fun _ _ => 0, fun _ _ => none, fun _ _ => 0, fun _ => 0, fun _ _ => 0, fun _ _ => none, 0)
theorem ntzT_ok : ∀ j, j < 32 → ntzT 0 S0c (nI (2 ^ j - 1)) = some (nI j) := by decide +kernel
theorem ntz_ok {F : Nat} {S : Cst} {x : Int32} {j : Nat} (hj : j < 32) (h1 : bt x j = true) (h2 : ∀ i, i < j → bt x i = false) : cf_J6_numberOfTrailingZeros_0f7a4 F S x = some (nI j) := by
  have hy : (x ^^^ (-1)) &&& (x - 1) = nI (2 ^ j - 1) := by
    obtain ⟨v, hv, rfl⟩ := i32_nat x
    rw [b_nI hj] at h1
    have h2' : ∀ i, i < j → v.testBit i = false := fun i hi => by rw [← b_nI (show i < 32 by omega)]; exact h2 i hi
    have hmod : v % 2 ^ j = 0 := by
      apply Nat.eq_of_testBit_eq
      intro i
      rw [Nat.testBit_mod_two_pow, Nat.zero_testBit]
      by_cases hi : i < j
      · simp [h2' i hi]
      · simp [hi]
    obtain ⟨w, hw⟩ : ∃ w, v = 2 ^ j * w := ⟨v / 2 ^ j, by have := Nat.div_add_mod v (2 ^ j); omega⟩
    have hodd : w.testBit 0 = true := by
      rw [hw, Nat.testBit_two_pow_mul] at h1
      simpa using h1
    obtain ⟨u, hu⟩ : ∃ u, w = 2 * u + 1 := by
      rw [Nat.testBit_zero] at hodd
      simp at hodd
      exact ⟨w / 2, by omega⟩
    have hp := Nat.two_pow_pos j
    have hv1 : v - 1 = 2 ^ j * (2 * u) + (2 ^ j - 1) := by
      rw [hw, hu, Nat.mul_add, Nat.mul_one]; omega
    have hv0 : 1 ≤ v := by rw [hw, hu, Nat.mul_add, Nat.mul_one]; omega
    have hsub : nI v - 1 = nI (v - 1) := pk_sub (a := v) (b := 1) hv0
    apply b_ext
    intro i hi
    rw [b_and, b_xor, b_m1 i hi, hsub, b_nI hi, b_nI hi, b_nI hi, hv1, Nat.testBit_two_pow_mul_add _ (by omega), Nat.testBit_two_pow_sub_one, hw, Nat.testBit_two_pow_mul, hu]
    by_cases hij : i < j
    · simp [hij]
    · simp only [hij, if_false, Nat.testBit_two_pow_sub_one, decide_false]
      have hge : i ≥ j := by omega
      simp only [hge, decide_true, Bool.true_and]
      cases hd : i - j with
      | zero => simp
      | succ m =>
        rw [Nat.testBit_add_one, Nat.testBit_add_one]
        have e1 : (2 * u + 1) / 2 = u := by omega
        have e2 : 2 * u / 2 = u := by omega
        rw [e1, e2]
        cases u.testBit m <;> simp
  unfold cf_J6_numberOfTrailingZeros_0f7a4
  rw [hy]
  exact ntzT_ok j hj
/-! how many bits -/
theorem and_sp {lo mlo hi mhi : Nat} (h1 : lo < 256) (h2 : mlo < 256) : (256 * hi + lo) &&& (256 * mhi + mlo) = 256 * (hi &&& mhi) + (lo &&& mlo) := by
  have h3 : lo &&& mlo < 2 ^ 8 := Nat.lt_of_le_of_lt Nat.and_le_left h1
  apply Nat.eq_of_testBit_eq
  intro j
  rw [Nat.testBit_and, Nat.testBit_two_pow_mul_add (i := 8) hi h1, Nat.testBit_two_pow_mul_add (i := 8) mhi h2, Nat.testBit_two_pow_mul_add (i := 8) _ h3]
  by_cases hj : j < 8
  · simp [hj]
  · simp [hj]
def t1 (b : Nat) : Nat := b / 2 &&& 85
def c1b (b : Nat) : Nat := b - t1 b
def d1b (c : Nat) : Nat := (c &&& 51) + (c / 4 &&& 51)
def pcb (b : Nat) : Nat := d1b (c1b b) % 16 + d1b (c1b b) / 16
theorem t1_ok : ∀ b, b < 256 → ∀ s, s < 2 → (b / 2 + 128 * s) &&& 85 = t1 b ∧ t1 b ≤ b := by decide +kernel
theorem d1_ok : ∀ c, c < 256 → ∀ s, s < 4 → (c / 4 + 64 * s) &&& 51 = c / 4 &&& 51 := by decide +kernel
theorem p1_ok : ∀ b, b < 256 → d1b (c1b b) % 16 ≤ 4 ∧ d1b (c1b b) / 16 ≤ 4 ∧ pcb b = fb_ct (fun j => b.testBit j) 8 := by decide +kernel
theorem q1_ok : ∀ d, d < 80 → ∀ s, s < 16 → (d + d / 16 + 16 * s) &&& 15 = (d % 16 + d / 16) % 16 := by decide +kernel
theorem st_a {b r M : Nat} (hb : b < 256) : (256 * r + b) / 2 &&& (256 * M + 85) = 256 * (r / 2 &&& M) + t1 b := by
  have h1 : (256 * r + b) / 2 = 256 * (r / 2) + (b / 2 + 128 * (r % 2)) := by omega
  rw [h1, and_sp (by omega) (by omega), (t1_ok b hb (r % 2) (by omega)).1]
theorem st_b {c r M : Nat} (hc : c < 256) : (256 * r + c) / 4 &&& (256 * M + 51) = 256 * (r / 4 &&& M) + (c / 4 &&& 51) := by
  have h1 : (256 * r + c) / 4 = 256 * (r / 4) + (c / 4 + 64 * (r % 4)) := by omega
  rw [h1, and_sp (by omega) (by omega), d1_ok c hc (r % 4) (by omega)]
theorem st_c {c r M : Nat} (hc : c < 256) : (256 * r + c) &&& (256 * M + 51) = 256 * (r &&& M) + (c &&& 51) := and_sp hc (by omega)
theorem st_d {d r M : Nat} (h1 : d % 16 ≤ 4) (h2 : d / 16 ≤ 4) (h3 : r % 16 ≤ 4) : ((256 * r + d) + (256 * r + d) / 16) &&& (256 * M + 15) = 256 * ((r + r / 16) &&& M) + (d % 16 + d / 16) := by
  have e1 : (256 * r + d) + (256 * r + d) / 16 = 256 * (r + r / 16) + (d + d / 16 + 16 * (r % 16)) := by omega
  rw [e1, and_sp (by omega) (by omega), q1_ok d (by omega) (r % 16) (by omega), Nat.mod_eq_of_lt (by omega)]
def bcN (v : Nat) : Nat := ((((v - (v / 2 &&& 1431655765) &&& 858993459) + ((v - (v / 2 &&& 1431655765)) / 4 &&& 858993459)) + ((v - (v / 2 &&& 1431655765) &&& 858993459) + ((v - (v / 2 &&& 1431655765)) / 4 &&& 858993459)) / 16) &&& 252645135)
theorem bcN_ok {v : Nat} (hv : v < 4294967296) : ∃ p0 p1 p2 p3, bcN v = p0 + 256 * p1 + 65536 * p2 + 16777216 * p3 ∧ p0 ≤ 8 ∧ p1 ≤ 8 ∧ p2 ≤ 8 ∧ p3 ≤ 8 ∧ p0 + p1 + p2 + p3 = fb_ct (fun j => v.testBit j) 32 := by
  obtain ⟨b0, b1, b2, b3, e, h0, h1, h2, h3⟩ : ∃ b0 b1 b2 b3, v = 256 * (256 * (256 * b3 + b2) + b1) + b0 ∧ b0 < 256 ∧ b1 < 256 ∧ b2 < 256 ∧ b3 < 256 := ⟨v % 256, v / 256 % 256, v / 65536 % 256, v / 16777216, by omega, by omega, by omega, by omega, by omega⟩
  have s1 : v / 2 &&& 1431655765 = 256 * (256 * (256 * t1 b3 + t1 b2) + t1 b1) + t1 b0 := by
    rw [e, show (1431655765 : Nat) = 256 * (256 * (256 * 85 + 85) + 85) + 85 by decide, st_a h0, st_a h1, st_a h2]
    have := (t1_ok b3 h3 0 (by decide)).1
    rw [Nat.mul_zero, Nat.add_zero] at this
    rw [this]
  have l0 := (t1_ok b0 h0 0 (by decide)).2
  have l1 := (t1_ok b1 h1 0 (by decide)).2
  have l2 := (t1_ok b2 h2 0 (by decide)).2
  have l3 := (t1_ok b3 h3 0 (by decide)).2
  have n1 : v - (v / 2 &&& 1431655765) = 256 * (256 * (256 * c1b b3 + c1b b2) + c1b b1) + c1b b0 := by
    rw [s1]; unfold c1b; omega
  have k0 : c1b b0 < 256 := by unfold c1b; omega
  have k1 : c1b b1 < 256 := by unfold c1b; omega
  have k2 : c1b b2 < 256 := by unfold c1b; omega
  have k3 : c1b b3 < 256 := by unfold c1b; omega
  have n2 : (v - (v / 2 &&& 1431655765) &&& 858993459) + ((v - (v / 2 &&& 1431655765)) / 4 &&& 858993459) = 256 * (256 * (256 * d1b (c1b b3) + d1b (c1b b2)) + d1b (c1b b1)) + d1b (c1b b0) := by
    rw [n1, show (858993459 : Nat) = 256 * (256 * (256 * 51 + 51) + 51) + 51 by decide, st_c k0, st_c k1, st_c k2, st_b k0, st_b k1, st_b k2]
    unfold d1b; omega
  obtain ⟨x0, y0, z0⟩ := p1_ok b0 h0
  obtain ⟨x1, y1, z1⟩ := p1_ok b1 h1
  obtain ⟨x2, y2, z2⟩ := p1_ok b2 h2
  obtain ⟨x3, y3, z3⟩ := p1_ok b3 h3
  have n3 : bcN v = 256 * (256 * (256 * pcb b3 + pcb b2) + pcb b1) + pcb b0 := by
    unfold bcN
    rw [n2, show (252645135 : Nat) = 256 * (256 * (256 * 15 + 15) + 15) + 15 by decide, st_d x0 y0 (by omega), st_d x1 y1 (by omega), st_d x2 y2 (by omega)]
    have := q1_ok (d1b (c1b b3)) (by omega) 0 (by decide)
    rw [Nat.mul_zero, Nat.add_zero] at this
    rw [this, Nat.mod_eq_of_lt (by omega)]
    rfl
  have cs : fb_ct (fun j => v.testBit j) 32 = fb_ct (fun j => b0.testBit j) 8 + (fb_ct (fun j => b1.testBit j) 8 + (fb_ct (fun j => b2.testBit j) 8 + fb_ct (fun j => b3.testBit j) 8)) := by
    have f : ∀ (b r n : Nat), b < 256 → fb_ct (fun j => (256 * r + b).testBit j) (8 + n) = fb_ct (fun j => b.testBit j) 8 + fb_ct (fun j => r.testBit j) n := by
      intro b r n hb
      rw [fb_ct_split]
      congr 1
      · apply fb_ct_cong; intro k hk; rw [Nat.testBit_two_pow_mul_add (i := 8) r hb, if_pos hk]
      · apply fb_ct_cong; intro k hk; rw [Nat.testBit_two_pow_mul_add (i := 8) r hb, if_neg (by omega), Nat.add_sub_cancel_left]
    rw [e]
    rw [f b0 _ 24 h0, f b1 _ 16 h1, f b2 _ 8 h2]
  unfold pcb at z0 z1 z2 z3 n3
  refine ⟨pcb b0, pcb b1, pcb b2, pcb b3, by rw [n3]; unfold pcb; omega, by unfold pcb; omega, by unfold pcb; omega, by unfold pcb; omega, by unfold pcb; omega, ?_⟩
  rw [cs]; unfold pcb; omega
def cnt (x : Int32) : Nat := fb_ct (bt x) 32
theorem bcnt_ok {F : Nat} {S : Cst} {x : Int32} : cf_J6_bitCount_0f7a4 F S x = some (nI (cnt x)) := by
  obtain ⟨v, hv, rfl⟩ := i32_nat x
  have hc : cnt (nI v) = fb_ct (fun j => v.testBit j) 32 := fb_ct_cong (fun k hk => b_nI hk)
  obtain ⟨p0, p1, p2, p3, e, l0, l1, l2, l3, l4⟩ := bcN_ok hv
  rw [hc, ← l4]
  have a1 : v / 2 &&& 1431655765 ≤ v := Nat.le_trans Nat.and_le_left (Nat.div_le_self _ _)
  have i1 : nI v - (((nI v).toUInt32 >>> ((1 : Int32).toUInt32 &&& Int32.toUInt32 31)).toInt32 &&& 1431655765) = nI (v - (v / 2 &&& 1431655765)) := by
    rw [pk_ushrN hv 1 1 (by decide), show (1431655765 : Int32) = nI 1431655765 from rfl, fa_and, pk_sub a1]
  generalize hn1 : v - (v / 2 &&& 1431655765) = n1 at *
  have b1 : n1 < 4294967296 := by omega
  have i2 : (nI n1 &&& 858993459) + (((nI n1).toUInt32 >>> ((2 : Int32).toUInt32 &&& Int32.toUInt32 31)).toInt32 &&& 858993459) = nI ((n1 &&& 858993459) + (n1 / 4 &&& 858993459)) := by
    rw [pk_ushrN b1 2 2 (by decide), show (858993459 : Int32) = nI 858993459 from rfl, fa_and, fa_and, nI_add]
  have e' : bcN v = ((((n1 &&& 858993459) + (n1 / 4 &&& 858993459)) + ((n1 &&& 858993459) + (n1 / 4 &&& 858993459)) / 16) &&& 252645135) := by unfold bcN; rw [hn1]
  have b2 : (n1 &&& 858993459) + (n1 / 4 &&& 858993459) < 4294967296 := by
    have q1 : n1 &&& 858993459 ≤ 858993459 := Nat.and_le_right
    have q2 : n1 / 4 &&& 858993459 ≤ 858993459 := Nat.and_le_right
    omega
  generalize hn2 : (n1 &&& 858993459) + (n1 / 4 &&& 858993459) = n2 at *
  have i3 : (nI n2 + ((nI n2).toUInt32 >>> ((4 : Int32).toUInt32 &&& Int32.toUInt32 31)).toInt32) &&& 252645135 = nI (bcN v) := by
    rw [pk_ushrN b2 4 4 (by decide), show (252645135 : Int32) = nI 252645135 from rfl, nI_add, fa_and, e']
  generalize hn3 : bcN v = n3 at *
  have i4 : nI n3 + ((nI n3).toUInt32 >>> ((8 : Int32).toUInt32 &&& Int32.toUInt32 31)).toInt32 = nI (n3 + n3 / 256) := by
    rw [pk_ushrN (by omega) 8 8 (by decide), nI_add]
  have i5 : nI (n3 + n3 / 256) + ((nI (n3 + n3 / 256)).toUInt32 >>> ((16 : Int32).toUInt32 &&& Int32.toUInt32 31)).toInt32 = nI (n3 + n3 / 256 + (n3 + n3 / 256) / 65536) := by
    rw [pk_ushrN (by omega) 16 16 (by decide), nI_add]
  unfold cf_J6_bitCount_0f7a4
  rw [i1, i2, i3, i4, i5, show (63 : Int32) = nI (2 ^ 6 - 1) from rfl, fa_and, Nat.and_two_pow_sub_one_eq_mod]
  refine congrArg (fun z => some (nI z)) ?_
  have q0 : n3 = p0 + 256 * p1 + 65536 * p2 + 16777216 * p3 := by omega
  have q1 : n3 / 256 = p1 + 256 * p2 + 65536 * p3 := by omega
  have q2 : (n3 + n3 / 256) / 65536 = p2 + p3 + 256 * p3 := by rw [q1, q0]; omega
  rw [q2, q1, q0]
  omega
