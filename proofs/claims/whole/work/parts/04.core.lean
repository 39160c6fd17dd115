/-! ===== core: answers that are one value; programs with Option ===== -/
section CORE
variable {p : Program} {l : Launch} {e : Env} {R : Room} {s : State} {m : MethodId} {args : Array Value} {below : List Frame} {meth : Method} {c : Code} {H : Heap} {locs : List Loc} {cells slots : Nat} {Q : State → Prop}
variable {pc : Nat} {ls : Array Slot} {rest st0 : List Value} {a : Array Value} {A0 A1 : Nat → Prop} {H0 : Heap} {mc ms : Nat} {free : Addr → Prop} {cc : ByteArray}
/-- a method's end: the answer v, B behind it, nothing else changed but A -/
def mq (v : Option Value) (B : State → Prop) (A : Nat → Prop) : Array Value → State → Outcome → State → Prop := fun _ st oc t => oc = .returned v ∧ B t ∧ va_F A st t
theorem mq_call {v : Option Value} {B : State → Prop} {st1 : List Value} (hr : va_Run p l e R s m args below meth c H locs cells slots mc ms (F0 m pc ls st0) rest (mq v B A1 a) free) (hS : va_S A0 H0 H locs) (hA : ∀ q, q < H.size → A1 q → A0 q) (hf : ∀ q, free q → A0 q) (h1 : v.toList ++ rest = st1)
    (kk : ∀ (t : State) (H1 : Heap) (locs1 : List Loc), t.heap = H1 → s.vm.Alike t.vm → B t → va_S A0 H0 H1 locs1 → W p l e R s m args below meth c H1 locs1 (cells + mc) (slots + ms) Q (F0 m (pc + 3) ls st1)) : W p l e R s m args below meth c H locs cells slots Q (F0 m pc ls st0) := by
  subst h1
  intro T hT X
  obtain ⟨v', st₀, t, T', L, h0, X', hL, e1, e2, ⟨hv, hb, hz, hk⟩, st⟩ := hr T hT X
  cases hv
  rw [h0] at hz hk
  have hS1 : va_S A0 H0 T'.heap (locs ++ L) := by
    refine ⟨Nat.le_trans hS.1 (by rw [e1]; exact hz), fun q h1 h2 => ?_, fun q hq => ?_⟩
    · rw [e1, hk q (Nat.lt_of_lt_of_le h1 hS.1) (fun z => h2 (hA q (Nat.lt_of_lt_of_le h1 hS.1) z))]
      exact hS.2.1 q h1 h2
    · rcases List.mem_append.mp hq with h | h
      · exact hS.2.2 q h
      · exact hf _ (hL q h)
  obtain ⟨t2, a1, b1⟩ := kk t T'.heap (locs ++ L) e1.symm (by rw [← e2]; exact X'.warmed.alike) hb hS1 T' rfl X'
  exact ⟨t2, st t2 a1, b1⟩
end CORE
def inb (i : Int32) (n : Nat) : Bool := decide (¬ (i < 0 ∨ n ≤ i.toNatClampNeg))
theorem inb_in {i : Int32} {n : Nat} (h : inb i n = true) : vp_in i n := by
  unfold inb at h
  exact of_decide_eq_true (p := ¬ (i < 0 ∨ n ≤ i.toNatClampNeg)) h
theorem bn_s {α β : Type} {x : Option α} {f : α → Option β} {r : β} (h : x.bind f = some r) : ∃ a, x = some a ∧ f a = some r := Option.bind_eq_some_iff.mp h
theorem if_t {α : Type} {P : Prop} [Decidable P] {a b r : α} (h : (if P then a else b) = r) (hp : P) : a = r := by rw [if_pos hp] at h; exact h
theorem if_f {α : Type} {P : Prop} [Decidable P] {a b r : α} (h : (if P then a else b) = r) (hp : ¬ P) : b = r := by rw [if_neg hp] at h; exact h
/-- the opposite way round: a branch taken when P doesn't hold -/
theorem if_tn {α : Type} {P : Prop} [Decidable P] {a b r : α} (h : (if P then a else b) = r) (hp : ¬ ¬ P) : a = r := if_t h (Classical.not_not.mp hp)
/-- a divisor that isn't 0 -/
def dv {β : Type} (y : Int32) (o : Option β) : Option β := if y = 0 then none else o
theorem dv_s {β : Type} {y : Int32} {o : Option β} {r : β} (h : dv y o = some r) : ¬ y = 0 ∧ o = some r := by
  unfold dv at h
  by_cases hy : y = 0
  · rw [if_pos hy] at h; cases h
  · rw [if_neg hy] at h; exact ⟨hy, h⟩
def dvl {β : Type} (y : Int64) (o : Option β) : Option β := if y = 0 then none else o
theorem dvl_s {β : Type} {y : Int64} {o : Option β} {r : β} (h : dvl y o = some r) : ¬ y = 0 ∧ o = some r := by
  unfold dvl at h
  by_cases hy : y = 0
  · rw [if_pos hy] at h; cases h
  · rw [if_neg hy] at h; exact ⟨hy, h⟩
/-- an answer that is a truth value -/
def bz {β : Type} (y : Int32) (o : Option β) : Option β := if y = 0 ∨ y = 1 then o else none
theorem bz_s {β : Type} {y : Int32} {o : Option β} {r : β} (h : bz y o = some r) : narrow .boolean (.int y) = .int y ∧ o = some r := by
  unfold bz at h
  by_cases hy : y = 0 ∨ y = 1
  · rw [if_pos hy] at h
    refine ⟨?_, h⟩
    rcases hy with rfl | rfl <;> rfl
  · rw [if_neg hy] at h; cases h
def st1 {α β : Type} (x : α) (f : α → Option β) : Option β := f x
theorem st1_s {α β : Type} {x : α} {f : α → Option β} {r : β} (h : st1 x f = some r) : ∃ y, y = x ∧ f y = some r := ⟨x, rfl, h⟩
def st2 {α β γ : Type} (z : α × β) (f : α → β → Option γ) : Option γ := f z.1 z.2
theorem st2_s {α β γ : Type} {a : α} {b : β} {f : α → β → Option γ} {r : γ} (h : st2 (a, b) f = some r) : f a b = some r := h
