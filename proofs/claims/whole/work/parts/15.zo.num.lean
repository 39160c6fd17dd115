/-! ===== pure part: TO TAKE WITHIN, the numbers ===== -/
def alg (lo ph al : Nat) : Nat := if ph < lo then (lo - ph + al - 1) / al * al + ph else ph
def wfit (at' z hi : Nat) : Option Nat := if hi < at' + z then none else some at'
def wres (lo hi z al ph c : Nat) : Option Nat :=
  if c = 0 then wfit (alg lo ph al) z hi
  else if alg lo ph al / c = (alg lo ph al + z - 1) / c then wfit (alg lo ph al) z hi
  else if alg ((alg lo ph al / c + 1) * c) ph al / c = (alg ((alg lo ph al / c + 1) * c) ph al + z - 1) / c then wfit (alg ((alg lo ph al / c + 1) * c) ph al) z hi
  else none
def w64 : Option Nat → Int64
  | none => -1
  | some v => lN v
theorem alg_b {lo ph al : Nat} (hp : ph < al) : lo ≤ alg lo ph al ∧ alg lo ph al < lo + al := by
  unfold alg
  by_cases h : ph < lo
  · rw [if_pos h]
    have h1 := Nat.div_add_mod (lo - ph + al - 1) al
    have h2 := Nat.mod_lt (lo - ph + al - 1) (show 0 < al by omega)
    rw [Nat.mul_comm] at h1
    omega
  · rw [if_neg h]; omega
theorem lNs {x y : Nat} (hy : y ≤ 2 ^ 64) : lN x - lN y = lN (x + (2 ^ 64 - y)) := by
  have h1 : lN (x + (2 ^ 64 - y)) + lN y = lN x := by
    rw [lNa, show x + (2 ^ 64 - y) + y = x + 2 ^ 64 by omega, ← lNa, show lN (2 ^ 64) = 0 by decide +kernel]
    simp
  rw [← h1]
  grind
theorem alg_n {lo ph A : Nat} (hA : A < 32) (hl : lo < 2 ^ 40) (hp : ph < 2 ^ A) : lo + (ph + (2 ^ 64 - lo)) % 2 ^ A = alg lo ph (2 ^ A) := by
  have hK : 2 ^ 64 = 2 ^ A * 2 ^ (64 - A) := by rw [← Nat.pow_add, show A + (64 - A) = 64 by omega]
  have hbig : lo < 2 ^ 64 := Nat.lt_trans hl (by decide)
  have hp0 := Nat.two_pow_pos A
  unfold alg
  generalize 2 ^ (64 - A) = K at hK
  generalize 2 ^ 64 = W at hK hbig
  generalize 2 ^ A = al at *
  by_cases h : ph < lo
  · rw [if_pos h]
    have h1 := Nat.div_add_mod (ph + (W - lo)) al
    have h2 := Nat.mod_lt (ph + (W - lo)) hp0
    generalize (ph + (W - lo)) % al = r at *
    generalize (ph + (W - lo)) / al = s at *
    have hsK : s < K := by
      apply Nat.lt_of_mul_lt_mul_left (a := al)
      omega
    obtain ⟨u, rfl⟩ : ∃ u, K = s + u := ⟨K - s, by omega⟩
    rw [Nat.mul_add] at hK
    have e : lo - ph + al - 1 = al * u + (al - 1 - r) := by omega
    rw [e, Nat.mul_add_div hp0, Nat.div_eq_of_lt (show al - 1 - r < al by omega), Nat.add_zero, Nat.mul_comm u]
    omega
  · rw [if_neg h]
    have e : ph + (W - lo) = al * K + (ph - lo) := by omega
    rw [e, Nat.mul_add_mod, Nat.mod_eq_of_lt (by omega)]
    omega
theorem alg_c {lo ph A : Nat} (hA : A < 32) (hl : lo < 2 ^ 40) (hp : ph < 2 ^ A) : lN lo + ((lN ph - lN lo) &&& (lN (2 ^ A) - 1)) = lN (alg lo ph (2 ^ A)) := by
  have hp0 := Nat.two_pow_pos A
  have e : lN (2 ^ A) - 1 = lN (2 ^ A - 1) := by
    obtain ⟨y, hy⟩ : ∃ y, 2 ^ A = y + 1 := ⟨2 ^ A - 1, by omega⟩
    rw [hy, lNp, Nat.add_sub_cancel]
  rw [e, lNs (Nat.le_of_lt (Nat.lt_trans hl (by decide))), andL, Nat.and_two_pow_sub_one_eq_mod, lNa, alg_n hA hl hp]
theorem orL (a b : Nat) : lN a ||| lN b = lN (a ||| b) := by
  apply Int64.toBitVec_inj.mp
  rw [Int64.toBitVec_or]
  show BitVec.ofNat 64 a ||| BitVec.ofNat 64 b = BitVec.ofNat 64 (a ||| b)
  apply BitVec.eq_of_getLsbD_eq
  intro i hi
  rw [BitVec.getLsbD_or, BitVec.getLsbD_ofNat, BitVec.getLsbD_ofNat, BitVec.getLsbD_ofNat, Nat.testBit_or]
  simp [hi]
theorem or_up (v C : Nat) : (v ||| (2 ^ C - 1)) + 1 = (v / 2 ^ C + 1) * 2 ^ C := by
  have hp0 := Nat.two_pow_pos C
  have h2 := Nat.mod_lt v hp0
  have h1 : v = (v / 2 ^ C) <<< C ||| (v % 2 ^ C) := by
    rw [← Nat.shiftLeft_add_eq_or_of_lt h2, Nat.shiftLeft_eq, Nat.mul_comm]
    exact (Nat.div_add_mod v (2 ^ C)).symm
  have h3 : (v % 2 ^ C) ||| (2 ^ C - 1) = 2 ^ C - 1 := by
    have a1 := Nat.or_lt_two_pow h2 (show 2 ^ C - 1 < 2 ^ C by omega)
    have a2 : 2 ^ C - 1 ≤ (v % 2 ^ C) ||| (2 ^ C - 1) := Nat.right_le_or
    omega
  have h4 : v ||| (2 ^ C - 1) = (v / 2 ^ C) <<< C ||| (2 ^ C - 1) := by
    conv => lhs; rw [h1]
    rw [Nat.or_assoc, h3]
  rw [h4, ← Nat.shiftLeft_add_eq_or_of_lt (show 2 ^ C - 1 < 2 ^ C by omega), Nat.shiftLeft_eq, Nat.add_mul]
  omega
theorem mul_c (v C : Nat) : (lN v ||| (lN (2 ^ C) - 1)) + 1 = lN ((v / 2 ^ C + 1) * 2 ^ C) := by
  have hp0 := Nat.two_pow_pos C
  have e : lN (2 ^ C) - 1 = lN (2 ^ C - 1) := by
    obtain ⟨y, hy⟩ : ∃ y, 2 ^ C = y + 1 := ⟨2 ^ C - 1, by omega⟩
    rw [hy, lNp, Nat.add_sub_cancel]
  rw [e, orL, show (1 : Int64) = lN 1 from rfl, lNa, or_up]
theorem crs {v z c : Nat} (hc : 0 < c) (hz : 1 ≤ z) : v / c = (v + z - 1) / c ↔ v + z ≤ (v / c + 1) * c := by
  constructor
  · intro h
    have := Nat.lt_mul_div_succ (v + z - 1) hc
    rw [← h, Nat.mul_comm] at this
    omega
  · intro h
    have h1 := Nat.div_mul_le_self v c
    exact (Nat.div_eq_of_lt_le (by omega) (by omega)).symm
theorem nxt_b {v c : Nat} (hc : 0 < c) : v < (v / c + 1) * c ∧ (v / c + 1) * c ≤ v + c := by
  have h1 := Nat.div_mul_le_self v c
  have := Nat.lt_mul_div_succ v hc
  rw [Nat.mul_comm] at this
  rw [Nat.add_mul] at *
  omega
