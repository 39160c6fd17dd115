/-! ===== pure part: the cells of a new arena ===== -/
theorem gN_nA {S : Cst} {n : Nat} (p : Nat) : gN (nA S n) p = if p = nx S then n else gN S p := rfl
theorem gI_nA {S : Cst} {n : Nat} : gI (nA S n) = gI S := rfl
theorem gP_nA {S : Cst} {n : Nat} : gP (nA S n) = gP S := rfl
theorem nx_nA {S : Cst} {n : Nat} : nx (nA S n) = nx S + 1 := rfl
theorem gR_nA {S : Cst} {n : Nat} (p : Nat) : gR (nA S n) p = if p = nx S then (fun _ => 0) else gR S p := rfl
theorem gQ_nA {S : Cst} {n : Nat} (p : Nat) : gQ (nA S n) p = if p = nx S then (fun _ => none) else gQ S p := rfl
theorem gQ_nO' {S : Cst} : gQ (nO S) = gQ S := rfl
/-- a pile with its row -/
def pil (S : Cst) : Cst := sP (nA (nO S) 12) 64 (nx S) (some (nx S + 1))
theorem pil_i {F : Nat} {S : Cst} : cf_X4_init F (nO S) (nx S) = some (pil S) := rfl
theorem pil_nx {S : Cst} : nx (pil S) = nx S + 2 := rfl
theorem pil_I {S : Cst} (f p : Nat) : gI (pil S) f p = if p = nx S then 0 else gI S f p := rfl
theorem pil_P {S : Cst} (f p : Nat) : gP (pil S) f p = if f = 64 ∧ p = nx S then some (nx S + 1) else if p = nx S then none else gP S f p := by
  unfold pil; rw [gP_sP]; rfl
theorem pil_N {S : Cst} (p : Nat) : gN (pil S) p = if p = nx S + 1 then 12 else gN S p := rfl
theorem pil_R {S : Cst} (p : Nat) : gR (pil S) p = if p = nx S + 1 then (fun _ => 0) else gR S p := rfl
theorem pil_Q {S : Cst} (p : Nat) : gQ (pil S) p = if p = nx S + 1 then (fun _ => none) else gQ S p := rfl
/-- a desk with its two piles -/
def dsk (S : Cst) (q : Nat) : Cst := sP (pil (sP (pil S) 48 q (some (nx S)))) 49 q (some (nx S + 2))
theorem dsk_i {F : Nat} {S : Cst} {q : Nat} : cf_X3_init F S q = some (dsk S q) := rfl
theorem dsk_nx {S : Cst} {q : Nat} : nx (dsk S q) = nx S + 4 := rfl
/-- a cache with its desks and its depot -/
def cch (S : Cst) (c : Nat) (v : Int32) : Cst := sP (pil (sP (dsk (nO (sP (dsk (nO (sI S 32 c v)) (nx S)) 33 c (some (nx S)))) (nx S + 5)) 34 c (some (nx S + 5)))) 35 c (some (nx S + 10))
theorem cch_i {F : Nat} {S : Cst} {c : Nat} {v : Int32} : cf_X2_init F S c v = some (cch S c v) := rfl
theorem cch_nx {S : Cst} {c : Nat} {v : Int32} : nx (cch S c v) = nx S + 12 := rfl
def po (k : Nat) : Nat := if k = 0 then 2 else if k = 1 then 4 else if k = 2 then 7 else if k = 3 then 9 else 11
theorem cch_I {S : Cst} {c : Nat} {v : Int32} (hx : nx S = c + 1) : (∀ f p, p < c → gI (cch S c v) f p = gI S f p) ∧ (∀ f, gI (cch S c v) f c = if f = 32 then v else gI S f c) ∧ (∀ f p, c < p → p < c + 12 → (gI (cch S c v) f p = 0 ∨ p = c + 3 ∨ p = c + 5 ∨ p = c + 8 ∨ p = c + 10)) := by
  unfold cch dsk
  simp only [gI_sP, pil_I, gI_nO, gI_sI, nx_sP, nx_sI, nx_nO, pil_nx, hx]
  refine ⟨fun f p hp => ?_, fun f => ?_, fun f p h1 h2 => ?_⟩
  · repeat rw [if_neg (by omega)]
  · by_cases h : f = 32
    · simp [h]; repeat rw [if_neg (by omega)]
    · simp [h]; repeat rw [if_neg (by omega)]
  · rcases (by omega : p = c + 1 ∨ p = c + 2 ∨ p = c + 3 ∨ p = c + 4 ∨ p = c + 5 ∨ p = c + 6 ∨ p = c + 7 ∨ p = c + 8 ∨ p = c + 9 ∨ p = c + 10 ∨ p = c + 11) with rfl | rfl | rfl | rfl | rfl | rfl | rfl | rfl | rfl | rfl | rfl <;> simp
theorem cch_P {S : Cst} {c : Nat} {v : Int32} (hx : nx S = c + 1) : (∀ f p, p < c → gP (cch S c v) f p = gP S f p) ∧ gP (cch S c v) 33 c = some (c + 1) ∧ gP (cch S c v) 34 c = some (c + 6) ∧ gP (cch S c v) 35 c = some (c + 11) ∧ gP (cch S c v) 48 (c + 1) = some (c + 2) ∧ gP (cch S c v) 49 (c + 1) = some (c + 4) ∧ gP (cch S c v) 48 (c + 6) = some (c + 7) ∧ gP (cch S c v) 49 (c + 6) = some (c + 9) ∧ ∀ k, k < 5 → gP (cch S c v) 64 (c + po k) = some (c + po k + 1) := by
  unfold cch dsk
  simp only [gP_sP, pil_P, gP_nO, gP_sI, nx_sP, nx_sI, nx_nO, pil_nx, hx]
  refine ⟨fun f p hp => ?_, by simp; omega, by simp; omega, by simp, by simp, by simp, by simp, by simp, fun k hk => ?_⟩
  · repeat rw [if_neg (by omega)]
  · rcases (by omega : k = 0 ∨ k = 1 ∨ k = 2 ∨ k = 3 ∨ k = 4) with rfl | rfl | rfl | rfl | rfl <;> simp [po]
theorem cch_N {S : Cst} {c : Nat} {v : Int32} (hx : nx S = c + 1) : (∀ p, p ≤ c → gN (cch S c v) p = gN S p ∧ gR (cch S c v) p = gR S p ∧ gQ (cch S c v) p = gQ S p) ∧ (∀ k, k < 5 → gN (cch S c v) (c + po k + 1) = 12) ∧ (∀ p, c + 13 ≤ p → gN (cch S c v) p = gN S p) := by
  unfold cch dsk
  simp only [gN_sP, gR_sP, gQ_sP, pil_N, pil_R, pil_Q, gN_nO, gR_nO, gQ_nO', gN_sI, gR_sI, gQ_sI, nx_sP, nx_sI, nx_nO, pil_nx, hx]
  refine ⟨fun p hp => ⟨?_, ?_, ?_⟩, fun k hk => ?_, fun p hp => ?_⟩
  · repeat rw [if_neg (by omega)]
  · repeat rw [if_neg (by omega)]
  · repeat rw [if_neg (by omega)]
  · rcases (by omega : k = 0 ∨ k = 1 ∨ k = 2 ∨ k = 3 ∨ k = 4) with rfl | rfl | rfl | rfl | rfl <;> simp [po]
  · repeat rw [if_neg (by omega)]
