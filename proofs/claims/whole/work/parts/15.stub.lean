def Sim (x : Nat) (S : Cst) (R : Rst) : Prop := sorry
/-! ===== what the pure part owes the law ===== -/
def Sz (b : Nat) : Cst := (fun _ _ => 0, fun _ _ => none, fun _ _ => 0, fun _ => 0, fun _ _ => 0, fun _ _ => none, b)
def SimOp (x : Nat) (wk : Thr Int32 → Int32) (kd : Nat → Prop) (cr : Option (Thr Int32)) (rr : Option (Int32 × Rst)) : Prop := ∃ (res : Thr Int32) (r : Int32) (R' : Rst), cr = some res ∧ rr = some (r, R') ∧ (∀ w, res = .inl w → kd w.1) ∧ wk res = R'.1 0 ∧ (∀ v S', res = .inr (v, S') → v = r) ∧ Sim x (tS res) R'
theorem sim_sN {x n : Nat} {S : Cst} {R : Rst} (h : Sim x S R) (hn : nx S ≤ n) : Sim x (sN S n) R := sorry
theorem sim_init (F : Nat) (hF : 1000 ≤ F) (b : Nat) : ∃ S1, cf_X6_init F (nO (Sz b)) b = some S1 ∧ Sim b S1 R0 := sorry
theorem sim_make {x : Nat} {S : Cst} {R : Rst} (F : Nat) (hF : 1000 ≤ F) (x1 x2 x3 : Int32) (h : Sim x S R) : SimOp x wk1 (fun k => k = 2) (cf_X6_make F S x x1 x2 x3) (rf_make F R x1 x2 x3) := sorry
theorem sim_add {x : Nat} {S : Cst} {R : Rst} (F : Nat) (hF : 1000 ≤ F) (x1 x2 x3 : Int32) (h : Sim x S R) : SimOp x wk2 (fun k => k = 1 ∨ k = 2) (cf_X6_add F S x x1 x2 x3) (rf_add F R x1 x2 x3) := sorry
theorem sim_take {x : Nat} {S : Cst} {R : Rst} (F : Nat) (hF : 1000 ≤ F) (x1 x2 x3 x4 : Int32) (h : Sim x S R) : SimOp x wk2 (fun k => k = 1 ∨ k = 2) (cf_X6_take F S x x1 x2 x3 x4) (rf_take F R x1 x2 x3 x4) := sorry
theorem sim_give {x : Nat} {S : Cst} {R : Rst} (F : Nat) (hF : 1000 ≤ F) (x1 x2 x3 x4 : Int32) (h : Sim x S R) : SimOp x wk2 (fun k => k = 1 ∨ k = 2) (cf_X6_give F S x x1 x2 x3 x4) (rf_give F R x1 x2 x3 x4) := sorry
theorem sim_takeWithin {x : Nat} {S : Cst} {R : Rst} (F : Nat) (hF : 1000 ≤ F) (x1 x2 x3 x4 x5 : Int32) (h : Sim x S R) : SimOp x wk2 (fun k => k = 1 ∨ k = 2) (cf_X6_takeWithin F S x x1 x2 x3 x4 x5) (rf_takeWithin F R x1 x2 x3 x4 x5) := sorry
theorem sim_giveWithin {x : Nat} {S : Cst} {R : Rst} (F : Nat) (hF : 1000 ≤ F) (x1 x2 x3 : Int32) (h : Sim x S R) : SimOp x wk2 (fun k => k = 1 ∨ k = 2) (cf_X6_giveWithin F S x x1 x2 x3) (rf_giveWithin F R x1 x2 x3) := sorry
theorem sim_bounds {x : Nat} {S : Cst} {R : Rst} (F : Nat) (hF : 1000 ≤ F) (x1 x2 x3 : Int32) (h : Sim x S R) : ∃ (res : Thr Unit) (R' : Rst), cf_X6_bounds F S x x1 x2 x3 = some res ∧ rf_bounds F R x1 x2 x3 = some R' ∧ (∀ w, res = .inl w → w.1 = 1 ∨ w.1 = 2) ∧ wk2 res = R'.1 0 ∧ Sim x (tS res) R' := sorry
theorem sim_purge {x : Nat} {S : Cst} {R : Rst} (F : Nat) (hF : 1000 ≤ F) (x1 : Int32) (h : Sim x S R) : SimOp x wk1 (fun k => k = 1) (cf_X6_purge F S x x1) (rf_purge F R x1) := sorry
theorem sim_tags {x : Nat} {S : Cst} {R : Rst} (F : Nat) (hF : 1000 ≤ F) (h : Sim x S R) : ∃ (r : Int32) (R' : Rst), cf_X6_tags F S x = some r ∧ rf_tags F R = some (r, R') ∧ Sim x S R' := sorry
theorem sim_count {x : Nat} {S : Cst} {R : Rst} (F : Nat) (hF : 1000 ≤ F) (x1 x2 : Int32) (h : Sim x S R) : SimOp x wk2 (fun k => k = 1 ∨ k = 3) (cf_X6_count F S x x1 x2) (rf_count F R x1 x2) := sorry
theorem sim_segment {x : Nat} {S : Cst} {R : Rst} (F : Nat) (hF : 1000 ≤ F) (x1 x2 x3 : Int32) (h : Sim x S R) : SimOp x wk2 (fun k => k = 1 ∨ k = 3) (cf_X6_segment F S x x1 x2 x3) (rf_segment F R x1 x2 x3) := sorry
theorem sim_cache {x : Nat} {S : Cst} {R : Rst} (F : Nat) (hF : 1000 ≤ F) (x1 x2 x3 : Int32) (h : Sim x S R) : SimOp x wk2 (fun k => k = 1 ∨ k = 3) (cf_X6_cache F S x x1 x2 x3) (rf_cache F R x1 x2 x3) := sorry
theorem sim_where {x : Nat} {S : Cst} {R : Rst} (F : Nat) (hF : 1000 ≤ F) (x1 x2 : Int32) (h : Sim x S R) : SimOp x wk1 (fun k => k = 1) (cf_X6_where F S x x1 x2) (rf_where F R x1 x2) := sorry
