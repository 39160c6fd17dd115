/-! ===== the class's world: what each object holds, by its address ===== -/
abbrev Cst : Type := (Nat → Nat → Int32) × (Nat → Nat → Option Nat) × (Nat → Nat → Int64) × (Nat → Nat) × (Nat → Nat → Int32) × (Nat → Nat → Option Nat) × Nat
def gI (S : Cst) : Nat → Nat → Int32 := S.1
def gP (S : Cst) : Nat → Nat → Option Nat := S.2.1
def gJ (S : Cst) : Nat → Nat → Int64 := S.2.2.1
def gN (S : Cst) : Nat → Nat := S.2.2.2.1
def gR (S : Cst) : Nat → Nat → Int32 := S.2.2.2.2.1
def gQ (S : Cst) : Nat → Nat → Option Nat := S.2.2.2.2.2.1
def nx (S : Cst) : Nat := S.2.2.2.2.2.2
def up2 {α : Type} (f : Nat → Nat → α) (k a : Nat) (v : α) : Nat → Nat → α := va_up f k (va_up (f k) a v)
def sI (S : Cst) (f a : Nat) (v : Int32) : Cst := (up2 S.1 f a v, S.2)
def sP (S : Cst) (f a : Nat) (v : Option Nat) : Cst := (S.1, up2 S.2.1 f a v, S.2.2)
def sJ (S : Cst) (f a : Nat) (v : Int64) : Cst := (S.1, S.2.1, up2 S.2.2.1 f a v, S.2.2.2)
def sR (S : Cst) (a i : Nat) (v : Int32) : Cst := (S.1, S.2.1, S.2.2.1, S.2.2.2.1, va_up S.2.2.2.2.1 a (upd (S.2.2.2.2.1 a) i v), S.2.2.2.2.2)
def sQ (S : Cst) (a i : Nat) (v : Option Nat) : Cst := (S.1, S.2.1, S.2.2.1, S.2.2.2.1, S.2.2.2.2.1, up2 S.2.2.2.2.2.1 a i v, S.2.2.2.2.2.2)
/-- a new object at nx: all its fields are 0 or null -/
def nO (S : Cst) : Cst := (fun f => va_up (S.1 f) (nx S) 0, fun f => va_up (S.2.1 f) (nx S) none, fun f => va_up (S.2.2.1 f) (nx S) 0, S.2.2.2.1, S.2.2.2.2.1, S.2.2.2.2.2.1, nx S + 1)
/-- a new row of n places at nx -/
def nA (S : Cst) (n : Nat) : Cst := (S.1, S.2.1, S.2.2.1, va_up S.2.2.2.1 (nx S) n, va_up S.2.2.2.2.1 (nx S) (fun _ => 0), va_up S.2.2.2.2.2.1 (nx S) (fun _ => none), nx S + 1)
abbrev Gam : Type := List Nat × (Nat → Nat)
def ty (G : Gam) (κ a : Nat) : Prop := a ∈ G.1 ∧ G.2 a = κ
def tyo (G : Gam) (κ : Nat) (x : Option Nat) : Prop := ∀ a, x = some a → ty G κ a
def wtab : List (Nat × Nat × Nat) := [(0, 3, 0), (0, 6, 11), (0, 7, 5), (2, 33, 3), (2, 34, 3), (2, 35, 4), (3, 48, 4), (3, 49, 4), (4, 64, 8), (5, 86, 5), (5, 87, 5), (6, 96, 10)]
def wt (G : Gam) (S : Cst) : Prop := (∀ r ∈ wtab, ∀ a, ty G r.1 a → tyo G r.2.2 (gP S r.2.1 a)) ∧ (∀ a i, ty G 10 a → tyo G 0 (gQ S a i)) ∧ (∀ a i, ty G 11 a → tyo G 2 (gQ S a i))
def ccell (ct : ClassId × ClassId × ClassId) (κ : Nat) (S : Cst) (a : Nat) : va_E := match κ with
  | 0 => .inr (0, [.int (gI S 0 a), .int (gI S 1 a), .int (gI S 2 a), va_rf (gP S 3 a), .int (gI S 4 a), .int (gI S 5 a), va_rf (gP S 6 a), va_rf (gP S 7 a), .int (gI S 8 a), .int (gI S 9 a), .int (gI S 10 a), .int (gI S 11 a), .int (gI S 12 a), .int (gI S 13 a), .int (gI S 14 a), .int (gI S 15 a)])
  | 1 => .inr (1, [.long (gJ S 16 a), .int (gI S 17 a), .int (gI S 18 a), .int (gI S 19 a), .int (gI S 20 a), .int (gI S 21 a)])
  | 2 => .inr (2, [.int (gI S 32 a), va_rf (gP S 33 a), va_rf (gP S 34 a), va_rf (gP S 35 a)])
  | 3 => .inr (3, [va_rf (gP S 48 a), va_rf (gP S 49 a)])
  | 4 => .inr (4, [va_rf (gP S 64 a), .int (gI S 65 a)])
  | 5 => .inr (5, [.int (gI S 80 a), .int (gI S 81 a), .int (gI S 82 a), .int (gI S 83 a), .int (gI S 84 a), .int (gI S 85 a), va_rf (gP S 86 a), va_rf (gP S 87 a), .int (gI S 88 a), .int (gI S 89 a), .int (gI S 90 a), .int (gI S 91 a)])
  | 6 => .inr (6, [va_rf (gP S 96 a), .int (gI S 97 a)])
  | 8 => .inl (ct.1, gN S a, .inl (gR S a))
  | 10 => .inl (ct.2.1, gN S a, .inr (.inr (.inr (.inr (gQ S a)))))
  | _ => .inl (ct.2.2, gN S a, .inr (.inr (.inr (.inr (gQ S a)))))
def cws (ct : ClassId × ClassId × ClassId) (G : Gam) (S : Cst) : va_W := va_pl G.1 (fun a => ccell ct (G.2 a) S a)
abbrev ctys (ct : ClassId × ClassId × ClassId) : List (ClassId × FieldType) := [(ct.1, .int), (ct.2.1, .object RX0), (ct.2.2, .object RX2)]
def cB (D : va_G) (ct : ClassId × ClassId × ClassId) (G : Gam) (A : Nat → Prop) (S : Cst) (H : Heap) : Prop := va_P D vwCl (cws ct G S) H ∧ va_D A (cws ct G S) ∧ H.size = nx S ∧ wt G S
/-- words that are said of the state, not of the tables alone -/
def cNv (U : State) : Prop := va_Nw (.methodLinkNest RX0 50 yX6_isPowerOfTwo RX6) U ∧ va_AO RX0 U ∧ va_AO RX2 U
theorem cNv.warm {s U : State} (hW : s.WarmedH U.vm) (h : cNv s) : cNv U := ⟨va_Nw.warmM hW h.1, va_AO.moved hW.alike h.2.1, va_AO.moved hW.alike h.2.2⟩
theorem cNv.same {u U : State} (hv : u.vm = U.vm) (h : cNv u) : cNv U := ⟨va_Nw.same rfl hv h.1, va_AO.moved (by rw [hv]; exact Vm.Alike.refl U.vm) h.2.1, va_AO.moved (by rw [hv]; exact Vm.Alike.refl U.vm) h.2.2⟩
def cW (D : va_G) (ct : ClassId × ClassId × ClassId) (G : Gam) (S : Cst) (U : State) : Prop := cB D ct G (fun _ => True) S U.heap ∧ va_K D vwCl (ctys ct) U ∧ cNv U
def cA (G : Gam) (sz : Nat) : Nat → Prop := fun a => a ∈ G.1 ∨ sz ≤ a
/-- more addresses: the old ones keep their kinds, the new ones are from sz on -/
def ext (G : Gam) (sz : Nat) (G' : Gam) : Prop := (∀ κ a, ty G κ a → ty G' κ a) ∧ ∀ a ∈ G'.1, a ∈ G.1 ∨ sz ≤ a
/-- behind a method that makes nothing, with T said of its answer; behind one that may make some -/
def cF (D : va_G) (ct : ClassId × ClassId × ClassId) (G : Gam) (T : Gam → Prop) (S : Cst) (t : State) : Prop := T G ∧ cW D ct G S t
def cE (D : va_G) (ct : ClassId × ClassId × ClassId) (G : Gam) (sz : Nat) (T : Gam → Prop) (S : Cst) (t : State) : Prop := ∃ G', ext G sz G' ∧ T G' ∧ cW D ct G' S t
def cMet (l : Launch) (y : MethodName) (ws : List Cond) (rm : Room) (D : va_G) (ct : ClassId × ClassId × ClassId) (G : Gam) (av : List Value) (S : Cst) (v : Option Value) (B : State → Prop) (mc ms : Nat) : Prop :=
  Met l y ws rm (va_Pc av (cW D ct G S)) (mq v B (cA G (nx S))) mc ms (cA G (nx S))
theorem cW_blind {D : va_G} {ct : ClassId × ClassId × ClassId} {G : Gam} {S : Cst} {av : List Value} : FrameBlind (va_Pc av (cW D ct G S)) := fun a U g mk h => ⟨h.1, h.2.1, va_K.moved (u := U) (U := U.calling g mk a) (Vm.Alike.refl U.vm) h.2.2.1, cNv.same (u := U) (U := U.calling g mk a) rfl h.2.2.2⟩
abbrev cX (p : Program) (s : State) (m : MethodId) (args : Array Value) (c : Code) (cc : ByteArray) (nL : Nat) (Ts : List Cond) (own : String) (D : va_G) (ct : ClassId × ClassId × ClassId) : Prop := CallFix p m c cc nL s args Ts own ∧ (∀ w ∈ WS, w ∈ Ts) ∧ va_K D vwCl (ctys ct) s ∧ cNv s
theorem ccell_congr {ct : ClassId × ClassId × ClassId} {S S1 : Cst} {b : Nat} (κ : Nat) (h1 : ∀ f, gI S1 f b = gI S f b) (h2 : ∀ f, gP S1 f b = gP S f b) (h3 : ∀ f, gJ S1 f b = gJ S f b) (h4 : gN S1 b = gN S b) (h5 : gR S1 b = gR S b) (h6 : gQ S1 b = gQ S b) : ccell ct κ S1 b = ccell ct κ S b := by
  unfold ccell
  split <;> simp only [h1, h2, h3, h4, h5, h6]
theorem up2_ne {α : Type} {f : Nat → Nat → α} {k a : Nat} {v : α} {g b : Nat} (h : b ≠ a) : up2 f k a v g b = f g b := by
  unfold up2
  by_cases hg : g = k
  · subst hg; rw [va_up_self, va_up_ne _ _ h]
  · rw [va_up_ne _ _ hg]
theorem up2_nf {α : Type} {f : Nat → Nat → α} {k a : Nat} {v : α} {g b : Nat} (h : g ≠ k) : up2 f k a v g b = f g b := by
  unfold up2
  rw [va_up_ne _ _ h]
theorem up2_s {α : Type} {f : Nat → Nat → α} {k a : Nat} {v : α} : up2 f k a v k a = v := by
  unfold up2
  rw [va_up_self, va_up_self]
theorem ccell_sI {ct : ClassId × ClassId × ClassId} {S : Cst} {f a : Nat} {v : Int32} (κ b : Nat) (h : b ≠ a) : ccell ct κ (sI S f a v) b = ccell ct κ S b := ccell_congr κ (fun _ => up2_ne h) (fun _ => rfl) (fun _ => rfl) rfl rfl rfl
theorem ccell_sP {ct : ClassId × ClassId × ClassId} {S : Cst} {f a : Nat} {v : Option Nat} (κ b : Nat) (h : b ≠ a) : ccell ct κ (sP S f a v) b = ccell ct κ S b := ccell_congr κ (fun _ => rfl) (fun _ => up2_ne h) (fun _ => rfl) rfl rfl rfl
theorem ccell_sJ {ct : ClassId × ClassId × ClassId} {S : Cst} {f a : Nat} {v : Int64} (κ b : Nat) (h : b ≠ a) : ccell ct κ (sJ S f a v) b = ccell ct κ S b := ccell_congr κ (fun _ => rfl) (fun _ => rfl) (fun _ => up2_ne h) rfl rfl rfl
theorem ccell_sR {ct : ClassId × ClassId × ClassId} {S : Cst} {a i : Nat} {v : Int32} (κ b : Nat) (h : b ≠ a) : ccell ct κ (sR S a i v) b = ccell ct κ S b := ccell_congr κ (fun _ => rfl) (fun _ => rfl) (fun _ => rfl) rfl (va_up_ne _ _ h) rfl
theorem ccell_sQ {ct : ClassId × ClassId × ClassId} {S : Cst} {a i : Nat} {v : Option Nat} (κ b : Nat) (h : b ≠ a) : ccell ct κ (sQ S a i v) b = ccell ct κ S b := ccell_congr κ (fun _ => rfl) (fun _ => rfl) (fun _ => rfl) rfl rfl (by unfold sQ gQ up2; exact va_up_ne _ _ h)
theorem ccell_nO {ct : ClassId × ClassId × ClassId} {S : Cst} (κ b : Nat) (h : b ≠ nx S) : ccell ct κ (nO S) b = ccell ct κ S b := ccell_congr κ (fun _ => va_up_ne _ _ h) (fun _ => va_up_ne _ _ h) (fun _ => va_up_ne _ _ h) rfl rfl rfl
theorem ccell_nA {ct : ClassId × ClassId × ClassId} {S : Cst} {n : Nat} (κ b : Nat) (h : b ≠ nx S) : ccell ct κ (nA S n) b = ccell ct κ S b := ccell_congr κ (fun _ => rfl) (fun _ => rfl) (fun _ => rfl) (va_up_ne _ _ h) (va_up_ne _ _ h) (va_up_ne _ _ h)
theorem wt_sP {G : Gam} {S : Cst} {f a κ : Nat} {v : Option Nat} (h : wt G S) (hr : ∀ r ∈ wtab, r.2.1 = f → r.2.2 = κ) (hv : tyo G κ v) : wt G (sP S f a v) := by
  refine ⟨fun r hm b hb => ?_, h.2⟩
  by_cases hf : r.2.1 = f
  · by_cases hba : b = a
    · subst hba
      rw [hf]
      show tyo G r.2.2 (up2 S.2.1 f b v f b)
      rw [up2_s, hr r hm hf]
      exact hv
    · show tyo G r.2.2 (up2 S.2.1 f a v r.2.1 b)
      rw [up2_ne hba]
      exact h.1 r hm b hb
  · show tyo G r.2.2 (up2 S.2.1 f a v r.2.1 b)
    rw [up2_nf hf]
    exact h.1 r hm b hb
theorem wt_sQ {G : Gam} {S : Cst} {a i : Nat} {v : Option Nat} (h : wt G S) (h0 : ty G 10 a → tyo G 0 v) (h2 : ty G 11 a → tyo G 2 v) : wt G (sQ S a i v) := by
  have key : ∀ κ b j, ty G κ b → (ty G κ a → tyo G (if κ = 10 then 0 else 2) v) → tyo G (if κ = 10 then 0 else 2) (gQ S b j) → tyo G (if κ = 10 then 0 else 2) (gQ (sQ S a i v) b j) := by
    intro κ b j hb hv ho
    show tyo G _ (up2 S.2.2.2.2.2.1 a i v b j)
    by_cases hba : b = a
    · subst hba
      by_cases hj : j = i
      · subst hj; rw [up2_s]; exact hv hb
      · rw [up2_ne hj]; exact ho
    · rw [up2_nf hba]; exact ho
  exact ⟨h.1, fun b j hb => key 10 b j hb h0 (h.2.1 b j hb), fun b j hb => key 11 b j hb h2 (h.2.2 b j hb)⟩
theorem ty.fn {G : Gam} {κ κ' a : Nat} (h : ty G κ a) (h' : ty G κ' a) : κ = κ' := h.2.symm.trans h'.2
/-- a null test in a program -/
def nn {β : Type} (x : Option Nat) (f : Nat → Option β) : Option β := x.bind f
theorem nn_s {β : Type} {x : Option Nat} {f : Nat → Option β} {r : β} (h : nn x f = some r) : ∃ a, x = some a ∧ f a = some r := Option.bind_eq_some_iff.mp h
section CLS
variable {p : Program} {l : Launch} {e : Env} {Rm : Room} {s : State} {m : MethodId} {args : Array Value} {below : List Frame} {meth : Method} {c : Code} {H : Heap} {locs : List Loc} {cells slots : Nat} {Q : State → Prop}
variable {pc nL : Nat} {ls : Array Slot} {rest st0 : List Value} {H0 : Heap} {cc : ByteArray} {Ts : List Cond} {D : va_G} {ct : ClassId × ClassId × ClassId} {G G' : Gam} {A : Nat → Prop} {S S1 : Cst} {v : Option Value} {y : MethodName} {ws ws' : List Cond} {rm : Room} {av : List Value} {own : String} {κ a k idx N : Nat} {C : String} {T : u_T} {fs : List Value}
theorem c_at (hB : cB D ct G A S H) (hk : ty G κ a) : ∃ i : Nat, (cws ct G S)[i]? = some (a, ccell ct κ S a) := by
  obtain ⟨i, hi⟩ := va_pl_get (X := []) (f := fun a => ccell ct (G.2 a) S a) hk.1
  refine ⟨i, ?_⟩
  have hi : (cws ct G S)[i]? = some (a, ccell ct (G.2 a) S a) := hi
  rw [hk.2] at hi
  exact hi
theorem c_lt (hB : cB D ct G A S H) (ha : a ∈ G.1) : a < nx S := by
  obtain ⟨i, hi⟩ := c_at hB (κ := G.2 a) ⟨ha, rfl⟩
  rw [← hB.2.2.1]
  exact (hB.1 i _ hi).lt
theorem c_in (hB : cB D ct G A S H) (ha : a ∈ G.1) : A a := by
  obtain ⟨i, hi⟩ := c_at hB (κ := G.2 a) ⟨ha, rfl⟩
  exact hB.2.1.2 i _ hi
theorem c_get (X : cX p s m args c cc nL Ts own D ct) (hB : cB D ct G A S H) (hk : ty G κ a) (hcell : ccell ct κ S a = .inr (κ, fs)) (hc : vwCl[κ]? = some (C, T, N)) (hin : ∀ w ∈ u_ws C T N, w ∈ WS) (k idx : Nat) (hkN : k < N) (hlk : Cond.fieldLink own idx C (T k).2.1 (T k).2.2.1 ∈ WS) (ht : (T k).1 = C) {w : Value} (hv : fs[k]? = some w) (hdg : decode cc pc = .ok (.getfield idx, 3))
    (kk : W p l e Rm s m args below meth c H locs cells slots Q (F0 m (pc + 3) ls (w :: rest))) : W p l e Rm s m args below meth c H locs cells slots Q (F0 m pc ls (.ref a :: rest)) := by
  obtain ⟨i, hi⟩ := c_at hB hk
  rw [hcell] at hi
  exact va_get (D := D) (ci := κ) (C := C) (T := T) (N := N) X.1.1 X.1.2.1 X.1.2.2.2.2 (fun w h => X.2.1 w (hin w h)) X.1.2.2.2.1 X.2.2.1 hB.1 i hi hc k hkN (X.1.2.2.2.2 _ (X.2.1 _ hlk)) (fun x h => by rw [ht] at h; exact h) hv hdg kk
/-- the pool, when one of its cells has changed -/
theorem c_set (hB : cB D ct G A S H) (hk : ty G κ a) {e1 : va_E} {H1 : Heap} (hnew : ccell ct κ S1 a = e1) (hoth : ∀ κ b, b ≠ a → ccell ct κ S1 b = ccell ct κ S b) (hnx : nx S1 = nx S) (hwt : wt G S1) (he : va_at D vwCl (a, e1) H1) (z : H1.size = H.size) (oq : ∀ q : Nat, q ≠ a → H1[q]? = H[q]?) : cB D ct G A S1 H1 := by
  obtain ⟨i, hi⟩ := c_at hB hk
  have hi2 : ([] ++ va_pl G.1 (fun a => ccell ct (G.2 a) S a))[i]? = some (a, (fun a => ccell ct (G.2 a) S a) a) := by
    show (cws ct G S)[i]? = some (a, ccell ct (G.2 a) S a)
    rw [hk.2]; exact hi
  have hset : (cws ct G S).set i (a, e1) = cws ct G S1 := by
    have h := va_pl_set (X := []) (e := e1) (A := A) hB.2.1 hk.1 hi2
    refine Eq.trans (b := va_pl G.1 (va_up (fun a => ccell ct (G.2 a) S a) a e1)) h (va_pl_congr fun b => ?_)
    by_cases hb : b = a
    · subst hb
      rw [va_up_self, hk.2, hnew]
    · rw [va_up_ne _ _ hb, hoth _ b hb]
  have hP := hB.1.set hB.2.1 hi he oq
  have hD := hB.2.1.set (e := e1) hi
  rw [hset] at hP hD
  exact ⟨hP, hD, by rw [z, hB.2.2.1, hnx], hwt⟩
theorem c_put (X : cX p s m args c cc nL Ts own D ct) (hB : cB D ct G A S H) (hS0 : va_S A H0 H locs) (hk : ty G κ a) (hcell : ccell ct κ S a = .inr (κ, fs)) (hc : vwCl[κ]? = some (C, T, N)) (hin : ∀ w ∈ u_ws C T N, w ∈ WS) (ty0 : Nat → FieldType) (hty : ∀ k, k < N → parseFieldDescriptor (T k).2.2.1 = some (ty0 k)) (hnm : ∀ a, a < N → ∀ b, b < N → a ≠ b → (T a).2.1 ≠ (T b).2.1) (k idx : Nat) (hkN : k < N) (hlk : Cond.fieldLink own idx C (T k).2.1 (T k).2.2.1 ∈ WS) (ht : (T k).1 = C) (hfin : (T k).2.2.2 = false ∨ ((T k).2.2.2 = true ∧ meth.name = "<init>" ∧ C = own)) {fty : FieldType} {w : Value} (hd : parseFieldDescriptor (T k).2.2.1 = some fty) (hn : narrow fty w = w) (hfit : fits fty w = true) (hl : k < fs.length)
    (hnew : ccell ct κ S1 a = .inr (κ, fs.set k w)) (hoth : ∀ κ b, b ≠ a → ccell ct κ S1 b = ccell ct κ S b) (hnx : nx S1 = nx S) (hwt : wt G S1) (hdg : decode cc pc = .ok (.putfield idx, 3))
    (kk : ∀ (H1 : Heap) (locs1 : List Loc), cB D ct G A S1 H1 → va_S A H0 H1 locs1 → W p l e Rm s m args below meth c H1 locs1 cells slots Q (F0 m (pc + 3) ls rest)) : W p l e Rm s m args below meth c H locs cells slots Q (F0 m pc ls (w :: .ref a :: rest)) := by
  obtain ⟨i, hi⟩ := c_at hB hk
  rw [hcell] at hi
  have hts := X.1.2.2.2.2
  have hin : ∀ w ∈ u_ws C T N, w ∈ Ts := fun w h => X.2.1 w (hin w h)
  have hown := X.1.2.2.2.1
  have hlink := hts _ (X.2.1 _ hlk)
  have hsame : ∀ x, s.fieldFound? (T k).1 (T k).2.1 (T k).2.2.1 = some x → s.fieldFound? C (T k).2.1 (T k).2.2.1 = some x := fun x h => by rw [ht] at h; exact h
  have hap := va_apart (own := own) hts hin ty0 hty hnm X.2.2.1 hc
  obtain ⟨r, h1, cell, q1, q2, q3, q4⟩ := hB.1 i _ hi
  have hr : r = (C, T, N) := Option.some.inj (h1.symm.trans hc)
  subst hr
  obtain ⟨hS, hfc, kC, hkC, hkind⟩ := X.2.2.1.1 κ _ hc
  obtain ⟨cf, kf, fi, f, hi2, hsl⟩ := hS k hkN
  have hlay := hts _ (hin _ (u_in_lay hkN))
  unfold u_lay at hlay
  have hst := (u_facts hfc hkC (u_lays hts hin hkN) hi2).1
  have fin : ∀ H' : Heap, H'[a]? = some (cell.setSlot (D.2 κ k) w) → H'.size = H.size → (∀ q, q ≠ a → H'[q]? = H[q]?) → W p l e Rm s m args below meth c H' (locs ++ [⟨a, D.2 κ k⟩]) cells slots Q (F0 m (pc + 3) ls rest) := by
    intro H' e1 e2 e3
    exact kk H' _ (c_set hB hk hnew hoth hnx hwt ⟨_, hc, t_OB.to (V := updV (vp_V fs) k w) ⟨_, e1, q2, q3, t_set q4 hap hkN w⟩ (fun j _ => vp_updV_set hl w j)⟩ e2 e3) (hS0.put e2 e3 (hB.2.1.2 i _ hi))
  rcases hfin with hfin | ⟨hfin, hin2, hdecl⟩
  · rw [if_neg (by rw [hfin]; decide)] at hlay
    have h6 := u_store hfc hkC hkind hlay hi2 hd hn hfit
    refine W.putK X.1.1 X.1.2.1 (f := f) ⟨hown, hlink, ⟨_, _, _, hsame _ hi2⟩, hst⟩ (by rw [q2]; exact h6) q1 q3 (by rw [hsl]; exact k2_hasslot (q4 k hkN)) rfl rfl hdg fun H' e1 e2 e3 => ?_
    rw [hsl] at e1 ⊢
    exact fin H' e1 e2 e3
  · rw [if_pos hfin] at hlay
    have hcf : m.cls = cf := by
      obtain ⟨_, _, c', _, _, _, -, -, hf', -, -, -, hown2, -⟩ := Cond.laysFinal_spec hlay
      have e1 : c' = cf := by have := hi2.symm.trans hf'; simp at this; exact this.1.symm
      rw [ht, hdecl] at hown2
      rw [← e1]; exact Option.some.inj (hown.symm.trans hown2)
    have h6 := u_fits hfc hkC hkind (Or.inr hlay) hi2 hd hn hfit
    refine W.putFinK X.1.1 X.1.2.1 hown hlink (hsame _ hi2) hst hcf hin2 (by rw [q2]; exact h6) q1 q3 (by rw [hsl]; exact k2_hasslot (q4 k hkN)) rfl rfl hdg fun H' e1 e2 e3 => ?_
    rw [hsl] at e1 ⊢
    exact fin H' e1 e2 e3
end CLS
theorem cp_0_0 {ct : ClassId × ClassId × ClassId} {S : Cst} {a : Nat} (w : Int32) : ccell ct 0 (sI S 0 a w) a = .inr (0, [.int w, .int (gI S 1 a), .int (gI S 2 a), va_rf (gP S 3 a), .int (gI S 4 a), .int (gI S 5 a), va_rf (gP S 6 a), va_rf (gP S 7 a), .int (gI S 8 a), .int (gI S 9 a), .int (gI S 10 a), .int (gI S 11 a), .int (gI S 12 a), .int (gI S 13 a), .int (gI S 14 a), .int (gI S 15 a)]) := by
  show (Sum.inr (0, [.int (gI (sI S 0 a w) 0 a), .int (gI (sI S 0 a w) 1 a), .int (gI (sI S 0 a w) 2 a), va_rf (gP (sI S 0 a w) 3 a), .int (gI (sI S 0 a w) 4 a), .int (gI (sI S 0 a w) 5 a), va_rf (gP (sI S 0 a w) 6 a), va_rf (gP (sI S 0 a w) 7 a), .int (gI (sI S 0 a w) 8 a), .int (gI (sI S 0 a w) 9 a), .int (gI (sI S 0 a w) 10 a), .int (gI (sI S 0 a w) 11 a), .int (gI (sI S 0 a w) 12 a), .int (gI (sI S 0 a w) 13 a), .int (gI (sI S 0 a w) 14 a), .int (gI (sI S 0 a w) 15 a)]) : va_E) = _
  simp only [gI, gP, gJ, sI, sP, sJ, up2_s, up2_nf, ne_eq, Nat.reduceEqDiff, not_false_eq_true]
theorem cp_0_1 {ct : ClassId × ClassId × ClassId} {S : Cst} {a : Nat} (w : Int32) : ccell ct 0 (sI S 1 a w) a = .inr (0, [.int (gI S 0 a), .int w, .int (gI S 2 a), va_rf (gP S 3 a), .int (gI S 4 a), .int (gI S 5 a), va_rf (gP S 6 a), va_rf (gP S 7 a), .int (gI S 8 a), .int (gI S 9 a), .int (gI S 10 a), .int (gI S 11 a), .int (gI S 12 a), .int (gI S 13 a), .int (gI S 14 a), .int (gI S 15 a)]) := by
  show (Sum.inr (0, [.int (gI (sI S 1 a w) 0 a), .int (gI (sI S 1 a w) 1 a), .int (gI (sI S 1 a w) 2 a), va_rf (gP (sI S 1 a w) 3 a), .int (gI (sI S 1 a w) 4 a), .int (gI (sI S 1 a w) 5 a), va_rf (gP (sI S 1 a w) 6 a), va_rf (gP (sI S 1 a w) 7 a), .int (gI (sI S 1 a w) 8 a), .int (gI (sI S 1 a w) 9 a), .int (gI (sI S 1 a w) 10 a), .int (gI (sI S 1 a w) 11 a), .int (gI (sI S 1 a w) 12 a), .int (gI (sI S 1 a w) 13 a), .int (gI (sI S 1 a w) 14 a), .int (gI (sI S 1 a w) 15 a)]) : va_E) = _
  simp only [gI, gP, gJ, sI, sP, sJ, up2_s, up2_nf, ne_eq, Nat.reduceEqDiff, not_false_eq_true]
theorem cp_0_2 {ct : ClassId × ClassId × ClassId} {S : Cst} {a : Nat} (w : Int32) : ccell ct 0 (sI S 2 a w) a = .inr (0, [.int (gI S 0 a), .int (gI S 1 a), .int w, va_rf (gP S 3 a), .int (gI S 4 a), .int (gI S 5 a), va_rf (gP S 6 a), va_rf (gP S 7 a), .int (gI S 8 a), .int (gI S 9 a), .int (gI S 10 a), .int (gI S 11 a), .int (gI S 12 a), .int (gI S 13 a), .int (gI S 14 a), .int (gI S 15 a)]) := by
  show (Sum.inr (0, [.int (gI (sI S 2 a w) 0 a), .int (gI (sI S 2 a w) 1 a), .int (gI (sI S 2 a w) 2 a), va_rf (gP (sI S 2 a w) 3 a), .int (gI (sI S 2 a w) 4 a), .int (gI (sI S 2 a w) 5 a), va_rf (gP (sI S 2 a w) 6 a), va_rf (gP (sI S 2 a w) 7 a), .int (gI (sI S 2 a w) 8 a), .int (gI (sI S 2 a w) 9 a), .int (gI (sI S 2 a w) 10 a), .int (gI (sI S 2 a w) 11 a), .int (gI (sI S 2 a w) 12 a), .int (gI (sI S 2 a w) 13 a), .int (gI (sI S 2 a w) 14 a), .int (gI (sI S 2 a w) 15 a)]) : va_E) = _
  simp only [gI, gP, gJ, sI, sP, sJ, up2_s, up2_nf, ne_eq, Nat.reduceEqDiff, not_false_eq_true]
theorem cp_0_3 {ct : ClassId × ClassId × ClassId} {S : Cst} {a : Nat} (w : Option Nat) : ccell ct 0 (sP S 3 a w) a = .inr (0, [.int (gI S 0 a), .int (gI S 1 a), .int (gI S 2 a), va_rf w, .int (gI S 4 a), .int (gI S 5 a), va_rf (gP S 6 a), va_rf (gP S 7 a), .int (gI S 8 a), .int (gI S 9 a), .int (gI S 10 a), .int (gI S 11 a), .int (gI S 12 a), .int (gI S 13 a), .int (gI S 14 a), .int (gI S 15 a)]) := by
  show (Sum.inr (0, [.int (gI (sP S 3 a w) 0 a), .int (gI (sP S 3 a w) 1 a), .int (gI (sP S 3 a w) 2 a), va_rf (gP (sP S 3 a w) 3 a), .int (gI (sP S 3 a w) 4 a), .int (gI (sP S 3 a w) 5 a), va_rf (gP (sP S 3 a w) 6 a), va_rf (gP (sP S 3 a w) 7 a), .int (gI (sP S 3 a w) 8 a), .int (gI (sP S 3 a w) 9 a), .int (gI (sP S 3 a w) 10 a), .int (gI (sP S 3 a w) 11 a), .int (gI (sP S 3 a w) 12 a), .int (gI (sP S 3 a w) 13 a), .int (gI (sP S 3 a w) 14 a), .int (gI (sP S 3 a w) 15 a)]) : va_E) = _
  simp only [gI, gP, gJ, sI, sP, sJ, up2_s, up2_nf, ne_eq, Nat.reduceEqDiff, not_false_eq_true]
theorem cp_0_4 {ct : ClassId × ClassId × ClassId} {S : Cst} {a : Nat} (w : Int32) : ccell ct 0 (sI S 4 a w) a = .inr (0, [.int (gI S 0 a), .int (gI S 1 a), .int (gI S 2 a), va_rf (gP S 3 a), .int w, .int (gI S 5 a), va_rf (gP S 6 a), va_rf (gP S 7 a), .int (gI S 8 a), .int (gI S 9 a), .int (gI S 10 a), .int (gI S 11 a), .int (gI S 12 a), .int (gI S 13 a), .int (gI S 14 a), .int (gI S 15 a)]) := by
  show (Sum.inr (0, [.int (gI (sI S 4 a w) 0 a), .int (gI (sI S 4 a w) 1 a), .int (gI (sI S 4 a w) 2 a), va_rf (gP (sI S 4 a w) 3 a), .int (gI (sI S 4 a w) 4 a), .int (gI (sI S 4 a w) 5 a), va_rf (gP (sI S 4 a w) 6 a), va_rf (gP (sI S 4 a w) 7 a), .int (gI (sI S 4 a w) 8 a), .int (gI (sI S 4 a w) 9 a), .int (gI (sI S 4 a w) 10 a), .int (gI (sI S 4 a w) 11 a), .int (gI (sI S 4 a w) 12 a), .int (gI (sI S 4 a w) 13 a), .int (gI (sI S 4 a w) 14 a), .int (gI (sI S 4 a w) 15 a)]) : va_E) = _
  simp only [gI, gP, gJ, sI, sP, sJ, up2_s, up2_nf, ne_eq, Nat.reduceEqDiff, not_false_eq_true]
theorem cp_0_5 {ct : ClassId × ClassId × ClassId} {S : Cst} {a : Nat} (w : Int32) : ccell ct 0 (sI S 5 a w) a = .inr (0, [.int (gI S 0 a), .int (gI S 1 a), .int (gI S 2 a), va_rf (gP S 3 a), .int (gI S 4 a), .int w, va_rf (gP S 6 a), va_rf (gP S 7 a), .int (gI S 8 a), .int (gI S 9 a), .int (gI S 10 a), .int (gI S 11 a), .int (gI S 12 a), .int (gI S 13 a), .int (gI S 14 a), .int (gI S 15 a)]) := by
  show (Sum.inr (0, [.int (gI (sI S 5 a w) 0 a), .int (gI (sI S 5 a w) 1 a), .int (gI (sI S 5 a w) 2 a), va_rf (gP (sI S 5 a w) 3 a), .int (gI (sI S 5 a w) 4 a), .int (gI (sI S 5 a w) 5 a), va_rf (gP (sI S 5 a w) 6 a), va_rf (gP (sI S 5 a w) 7 a), .int (gI (sI S 5 a w) 8 a), .int (gI (sI S 5 a w) 9 a), .int (gI (sI S 5 a w) 10 a), .int (gI (sI S 5 a w) 11 a), .int (gI (sI S 5 a w) 12 a), .int (gI (sI S 5 a w) 13 a), .int (gI (sI S 5 a w) 14 a), .int (gI (sI S 5 a w) 15 a)]) : va_E) = _
  simp only [gI, gP, gJ, sI, sP, sJ, up2_s, up2_nf, ne_eq, Nat.reduceEqDiff, not_false_eq_true]
theorem cp_0_6 {ct : ClassId × ClassId × ClassId} {S : Cst} {a : Nat} (w : Option Nat) : ccell ct 0 (sP S 6 a w) a = .inr (0, [.int (gI S 0 a), .int (gI S 1 a), .int (gI S 2 a), va_rf (gP S 3 a), .int (gI S 4 a), .int (gI S 5 a), va_rf w, va_rf (gP S 7 a), .int (gI S 8 a), .int (gI S 9 a), .int (gI S 10 a), .int (gI S 11 a), .int (gI S 12 a), .int (gI S 13 a), .int (gI S 14 a), .int (gI S 15 a)]) := by
  show (Sum.inr (0, [.int (gI (sP S 6 a w) 0 a), .int (gI (sP S 6 a w) 1 a), .int (gI (sP S 6 a w) 2 a), va_rf (gP (sP S 6 a w) 3 a), .int (gI (sP S 6 a w) 4 a), .int (gI (sP S 6 a w) 5 a), va_rf (gP (sP S 6 a w) 6 a), va_rf (gP (sP S 6 a w) 7 a), .int (gI (sP S 6 a w) 8 a), .int (gI (sP S 6 a w) 9 a), .int (gI (sP S 6 a w) 10 a), .int (gI (sP S 6 a w) 11 a), .int (gI (sP S 6 a w) 12 a), .int (gI (sP S 6 a w) 13 a), .int (gI (sP S 6 a w) 14 a), .int (gI (sP S 6 a w) 15 a)]) : va_E) = _
  simp only [gI, gP, gJ, sI, sP, sJ, up2_s, up2_nf, ne_eq, Nat.reduceEqDiff, not_false_eq_true]
theorem cp_0_7 {ct : ClassId × ClassId × ClassId} {S : Cst} {a : Nat} (w : Option Nat) : ccell ct 0 (sP S 7 a w) a = .inr (0, [.int (gI S 0 a), .int (gI S 1 a), .int (gI S 2 a), va_rf (gP S 3 a), .int (gI S 4 a), .int (gI S 5 a), va_rf (gP S 6 a), va_rf w, .int (gI S 8 a), .int (gI S 9 a), .int (gI S 10 a), .int (gI S 11 a), .int (gI S 12 a), .int (gI S 13 a), .int (gI S 14 a), .int (gI S 15 a)]) := by
  show (Sum.inr (0, [.int (gI (sP S 7 a w) 0 a), .int (gI (sP S 7 a w) 1 a), .int (gI (sP S 7 a w) 2 a), va_rf (gP (sP S 7 a w) 3 a), .int (gI (sP S 7 a w) 4 a), .int (gI (sP S 7 a w) 5 a), va_rf (gP (sP S 7 a w) 6 a), va_rf (gP (sP S 7 a w) 7 a), .int (gI (sP S 7 a w) 8 a), .int (gI (sP S 7 a w) 9 a), .int (gI (sP S 7 a w) 10 a), .int (gI (sP S 7 a w) 11 a), .int (gI (sP S 7 a w) 12 a), .int (gI (sP S 7 a w) 13 a), .int (gI (sP S 7 a w) 14 a), .int (gI (sP S 7 a w) 15 a)]) : va_E) = _
  simp only [gI, gP, gJ, sI, sP, sJ, up2_s, up2_nf, ne_eq, Nat.reduceEqDiff, not_false_eq_true]
theorem cp_0_8 {ct : ClassId × ClassId × ClassId} {S : Cst} {a : Nat} (w : Int32) : ccell ct 0 (sI S 8 a w) a = .inr (0, [.int (gI S 0 a), .int (gI S 1 a), .int (gI S 2 a), va_rf (gP S 3 a), .int (gI S 4 a), .int (gI S 5 a), va_rf (gP S 6 a), va_rf (gP S 7 a), .int w, .int (gI S 9 a), .int (gI S 10 a), .int (gI S 11 a), .int (gI S 12 a), .int (gI S 13 a), .int (gI S 14 a), .int (gI S 15 a)]) := by
  show (Sum.inr (0, [.int (gI (sI S 8 a w) 0 a), .int (gI (sI S 8 a w) 1 a), .int (gI (sI S 8 a w) 2 a), va_rf (gP (sI S 8 a w) 3 a), .int (gI (sI S 8 a w) 4 a), .int (gI (sI S 8 a w) 5 a), va_rf (gP (sI S 8 a w) 6 a), va_rf (gP (sI S 8 a w) 7 a), .int (gI (sI S 8 a w) 8 a), .int (gI (sI S 8 a w) 9 a), .int (gI (sI S 8 a w) 10 a), .int (gI (sI S 8 a w) 11 a), .int (gI (sI S 8 a w) 12 a), .int (gI (sI S 8 a w) 13 a), .int (gI (sI S 8 a w) 14 a), .int (gI (sI S 8 a w) 15 a)]) : va_E) = _
  simp only [gI, gP, gJ, sI, sP, sJ, up2_s, up2_nf, ne_eq, Nat.reduceEqDiff, not_false_eq_true]
theorem cp_0_9 {ct : ClassId × ClassId × ClassId} {S : Cst} {a : Nat} (w : Int32) : ccell ct 0 (sI S 9 a w) a = .inr (0, [.int (gI S 0 a), .int (gI S 1 a), .int (gI S 2 a), va_rf (gP S 3 a), .int (gI S 4 a), .int (gI S 5 a), va_rf (gP S 6 a), va_rf (gP S 7 a), .int (gI S 8 a), .int w, .int (gI S 10 a), .int (gI S 11 a), .int (gI S 12 a), .int (gI S 13 a), .int (gI S 14 a), .int (gI S 15 a)]) := by
  show (Sum.inr (0, [.int (gI (sI S 9 a w) 0 a), .int (gI (sI S 9 a w) 1 a), .int (gI (sI S 9 a w) 2 a), va_rf (gP (sI S 9 a w) 3 a), .int (gI (sI S 9 a w) 4 a), .int (gI (sI S 9 a w) 5 a), va_rf (gP (sI S 9 a w) 6 a), va_rf (gP (sI S 9 a w) 7 a), .int (gI (sI S 9 a w) 8 a), .int (gI (sI S 9 a w) 9 a), .int (gI (sI S 9 a w) 10 a), .int (gI (sI S 9 a w) 11 a), .int (gI (sI S 9 a w) 12 a), .int (gI (sI S 9 a w) 13 a), .int (gI (sI S 9 a w) 14 a), .int (gI (sI S 9 a w) 15 a)]) : va_E) = _
  simp only [gI, gP, gJ, sI, sP, sJ, up2_s, up2_nf, ne_eq, Nat.reduceEqDiff, not_false_eq_true]
theorem cp_0_10 {ct : ClassId × ClassId × ClassId} {S : Cst} {a : Nat} (w : Int32) : ccell ct 0 (sI S 10 a w) a = .inr (0, [.int (gI S 0 a), .int (gI S 1 a), .int (gI S 2 a), va_rf (gP S 3 a), .int (gI S 4 a), .int (gI S 5 a), va_rf (gP S 6 a), va_rf (gP S 7 a), .int (gI S 8 a), .int (gI S 9 a), .int w, .int (gI S 11 a), .int (gI S 12 a), .int (gI S 13 a), .int (gI S 14 a), .int (gI S 15 a)]) := by
  show (Sum.inr (0, [.int (gI (sI S 10 a w) 0 a), .int (gI (sI S 10 a w) 1 a), .int (gI (sI S 10 a w) 2 a), va_rf (gP (sI S 10 a w) 3 a), .int (gI (sI S 10 a w) 4 a), .int (gI (sI S 10 a w) 5 a), va_rf (gP (sI S 10 a w) 6 a), va_rf (gP (sI S 10 a w) 7 a), .int (gI (sI S 10 a w) 8 a), .int (gI (sI S 10 a w) 9 a), .int (gI (sI S 10 a w) 10 a), .int (gI (sI S 10 a w) 11 a), .int (gI (sI S 10 a w) 12 a), .int (gI (sI S 10 a w) 13 a), .int (gI (sI S 10 a w) 14 a), .int (gI (sI S 10 a w) 15 a)]) : va_E) = _
  simp only [gI, gP, gJ, sI, sP, sJ, up2_s, up2_nf, ne_eq, Nat.reduceEqDiff, not_false_eq_true]
theorem cp_0_11 {ct : ClassId × ClassId × ClassId} {S : Cst} {a : Nat} (w : Int32) : ccell ct 0 (sI S 11 a w) a = .inr (0, [.int (gI S 0 a), .int (gI S 1 a), .int (gI S 2 a), va_rf (gP S 3 a), .int (gI S 4 a), .int (gI S 5 a), va_rf (gP S 6 a), va_rf (gP S 7 a), .int (gI S 8 a), .int (gI S 9 a), .int (gI S 10 a), .int w, .int (gI S 12 a), .int (gI S 13 a), .int (gI S 14 a), .int (gI S 15 a)]) := by
  show (Sum.inr (0, [.int (gI (sI S 11 a w) 0 a), .int (gI (sI S 11 a w) 1 a), .int (gI (sI S 11 a w) 2 a), va_rf (gP (sI S 11 a w) 3 a), .int (gI (sI S 11 a w) 4 a), .int (gI (sI S 11 a w) 5 a), va_rf (gP (sI S 11 a w) 6 a), va_rf (gP (sI S 11 a w) 7 a), .int (gI (sI S 11 a w) 8 a), .int (gI (sI S 11 a w) 9 a), .int (gI (sI S 11 a w) 10 a), .int (gI (sI S 11 a w) 11 a), .int (gI (sI S 11 a w) 12 a), .int (gI (sI S 11 a w) 13 a), .int (gI (sI S 11 a w) 14 a), .int (gI (sI S 11 a w) 15 a)]) : va_E) = _
  simp only [gI, gP, gJ, sI, sP, sJ, up2_s, up2_nf, ne_eq, Nat.reduceEqDiff, not_false_eq_true]
theorem cp_0_12 {ct : ClassId × ClassId × ClassId} {S : Cst} {a : Nat} (w : Int32) : ccell ct 0 (sI S 12 a w) a = .inr (0, [.int (gI S 0 a), .int (gI S 1 a), .int (gI S 2 a), va_rf (gP S 3 a), .int (gI S 4 a), .int (gI S 5 a), va_rf (gP S 6 a), va_rf (gP S 7 a), .int (gI S 8 a), .int (gI S 9 a), .int (gI S 10 a), .int (gI S 11 a), .int w, .int (gI S 13 a), .int (gI S 14 a), .int (gI S 15 a)]) := by
  show (Sum.inr (0, [.int (gI (sI S 12 a w) 0 a), .int (gI (sI S 12 a w) 1 a), .int (gI (sI S 12 a w) 2 a), va_rf (gP (sI S 12 a w) 3 a), .int (gI (sI S 12 a w) 4 a), .int (gI (sI S 12 a w) 5 a), va_rf (gP (sI S 12 a w) 6 a), va_rf (gP (sI S 12 a w) 7 a), .int (gI (sI S 12 a w) 8 a), .int (gI (sI S 12 a w) 9 a), .int (gI (sI S 12 a w) 10 a), .int (gI (sI S 12 a w) 11 a), .int (gI (sI S 12 a w) 12 a), .int (gI (sI S 12 a w) 13 a), .int (gI (sI S 12 a w) 14 a), .int (gI (sI S 12 a w) 15 a)]) : va_E) = _
  simp only [gI, gP, gJ, sI, sP, sJ, up2_s, up2_nf, ne_eq, Nat.reduceEqDiff, not_false_eq_true]
theorem cp_0_13 {ct : ClassId × ClassId × ClassId} {S : Cst} {a : Nat} (w : Int32) : ccell ct 0 (sI S 13 a w) a = .inr (0, [.int (gI S 0 a), .int (gI S 1 a), .int (gI S 2 a), va_rf (gP S 3 a), .int (gI S 4 a), .int (gI S 5 a), va_rf (gP S 6 a), va_rf (gP S 7 a), .int (gI S 8 a), .int (gI S 9 a), .int (gI S 10 a), .int (gI S 11 a), .int (gI S 12 a), .int w, .int (gI S 14 a), .int (gI S 15 a)]) := by
  show (Sum.inr (0, [.int (gI (sI S 13 a w) 0 a), .int (gI (sI S 13 a w) 1 a), .int (gI (sI S 13 a w) 2 a), va_rf (gP (sI S 13 a w) 3 a), .int (gI (sI S 13 a w) 4 a), .int (gI (sI S 13 a w) 5 a), va_rf (gP (sI S 13 a w) 6 a), va_rf (gP (sI S 13 a w) 7 a), .int (gI (sI S 13 a w) 8 a), .int (gI (sI S 13 a w) 9 a), .int (gI (sI S 13 a w) 10 a), .int (gI (sI S 13 a w) 11 a), .int (gI (sI S 13 a w) 12 a), .int (gI (sI S 13 a w) 13 a), .int (gI (sI S 13 a w) 14 a), .int (gI (sI S 13 a w) 15 a)]) : va_E) = _
  simp only [gI, gP, gJ, sI, sP, sJ, up2_s, up2_nf, ne_eq, Nat.reduceEqDiff, not_false_eq_true]
theorem cp_0_14 {ct : ClassId × ClassId × ClassId} {S : Cst} {a : Nat} (w : Int32) : ccell ct 0 (sI S 14 a w) a = .inr (0, [.int (gI S 0 a), .int (gI S 1 a), .int (gI S 2 a), va_rf (gP S 3 a), .int (gI S 4 a), .int (gI S 5 a), va_rf (gP S 6 a), va_rf (gP S 7 a), .int (gI S 8 a), .int (gI S 9 a), .int (gI S 10 a), .int (gI S 11 a), .int (gI S 12 a), .int (gI S 13 a), .int w, .int (gI S 15 a)]) := by
  show (Sum.inr (0, [.int (gI (sI S 14 a w) 0 a), .int (gI (sI S 14 a w) 1 a), .int (gI (sI S 14 a w) 2 a), va_rf (gP (sI S 14 a w) 3 a), .int (gI (sI S 14 a w) 4 a), .int (gI (sI S 14 a w) 5 a), va_rf (gP (sI S 14 a w) 6 a), va_rf (gP (sI S 14 a w) 7 a), .int (gI (sI S 14 a w) 8 a), .int (gI (sI S 14 a w) 9 a), .int (gI (sI S 14 a w) 10 a), .int (gI (sI S 14 a w) 11 a), .int (gI (sI S 14 a w) 12 a), .int (gI (sI S 14 a w) 13 a), .int (gI (sI S 14 a w) 14 a), .int (gI (sI S 14 a w) 15 a)]) : va_E) = _
  simp only [gI, gP, gJ, sI, sP, sJ, up2_s, up2_nf, ne_eq, Nat.reduceEqDiff, not_false_eq_true]
theorem cp_0_15 {ct : ClassId × ClassId × ClassId} {S : Cst} {a : Nat} (w : Int32) : ccell ct 0 (sI S 15 a w) a = .inr (0, [.int (gI S 0 a), .int (gI S 1 a), .int (gI S 2 a), va_rf (gP S 3 a), .int (gI S 4 a), .int (gI S 5 a), va_rf (gP S 6 a), va_rf (gP S 7 a), .int (gI S 8 a), .int (gI S 9 a), .int (gI S 10 a), .int (gI S 11 a), .int (gI S 12 a), .int (gI S 13 a), .int (gI S 14 a), .int w]) := by
  show (Sum.inr (0, [.int (gI (sI S 15 a w) 0 a), .int (gI (sI S 15 a w) 1 a), .int (gI (sI S 15 a w) 2 a), va_rf (gP (sI S 15 a w) 3 a), .int (gI (sI S 15 a w) 4 a), .int (gI (sI S 15 a w) 5 a), va_rf (gP (sI S 15 a w) 6 a), va_rf (gP (sI S 15 a w) 7 a), .int (gI (sI S 15 a w) 8 a), .int (gI (sI S 15 a w) 9 a), .int (gI (sI S 15 a w) 10 a), .int (gI (sI S 15 a w) 11 a), .int (gI (sI S 15 a w) 12 a), .int (gI (sI S 15 a w) 13 a), .int (gI (sI S 15 a w) 14 a), .int (gI (sI S 15 a w) 15 a)]) : va_E) = _
  simp only [gI, gP, gJ, sI, sP, sJ, up2_s, up2_nf, ne_eq, Nat.reduceEqDiff, not_false_eq_true]
theorem cp_1_0 {ct : ClassId × ClassId × ClassId} {S : Cst} {a : Nat} (w : Int64) : ccell ct 1 (sJ S 16 a w) a = .inr (1, [.long w, .int (gI S 17 a), .int (gI S 18 a), .int (gI S 19 a), .int (gI S 20 a), .int (gI S 21 a)]) := by
  show (Sum.inr (1, [.long (gJ (sJ S 16 a w) 16 a), .int (gI (sJ S 16 a w) 17 a), .int (gI (sJ S 16 a w) 18 a), .int (gI (sJ S 16 a w) 19 a), .int (gI (sJ S 16 a w) 20 a), .int (gI (sJ S 16 a w) 21 a)]) : va_E) = _
  simp only [gI, gP, gJ, sI, sP, sJ, up2_s, up2_nf, ne_eq, Nat.reduceEqDiff, not_false_eq_true]
theorem cp_1_1 {ct : ClassId × ClassId × ClassId} {S : Cst} {a : Nat} (w : Int32) : ccell ct 1 (sI S 17 a w) a = .inr (1, [.long (gJ S 16 a), .int w, .int (gI S 18 a), .int (gI S 19 a), .int (gI S 20 a), .int (gI S 21 a)]) := by
  show (Sum.inr (1, [.long (gJ (sI S 17 a w) 16 a), .int (gI (sI S 17 a w) 17 a), .int (gI (sI S 17 a w) 18 a), .int (gI (sI S 17 a w) 19 a), .int (gI (sI S 17 a w) 20 a), .int (gI (sI S 17 a w) 21 a)]) : va_E) = _
  simp only [gI, gP, gJ, sI, sP, sJ, up2_s, up2_nf, ne_eq, Nat.reduceEqDiff, not_false_eq_true]
theorem cp_1_2 {ct : ClassId × ClassId × ClassId} {S : Cst} {a : Nat} (w : Int32) : ccell ct 1 (sI S 18 a w) a = .inr (1, [.long (gJ S 16 a), .int (gI S 17 a), .int w, .int (gI S 19 a), .int (gI S 20 a), .int (gI S 21 a)]) := by
  show (Sum.inr (1, [.long (gJ (sI S 18 a w) 16 a), .int (gI (sI S 18 a w) 17 a), .int (gI (sI S 18 a w) 18 a), .int (gI (sI S 18 a w) 19 a), .int (gI (sI S 18 a w) 20 a), .int (gI (sI S 18 a w) 21 a)]) : va_E) = _
  simp only [gI, gP, gJ, sI, sP, sJ, up2_s, up2_nf, ne_eq, Nat.reduceEqDiff, not_false_eq_true]
theorem cp_1_3 {ct : ClassId × ClassId × ClassId} {S : Cst} {a : Nat} (w : Int32) : ccell ct 1 (sI S 19 a w) a = .inr (1, [.long (gJ S 16 a), .int (gI S 17 a), .int (gI S 18 a), .int w, .int (gI S 20 a), .int (gI S 21 a)]) := by
  show (Sum.inr (1, [.long (gJ (sI S 19 a w) 16 a), .int (gI (sI S 19 a w) 17 a), .int (gI (sI S 19 a w) 18 a), .int (gI (sI S 19 a w) 19 a), .int (gI (sI S 19 a w) 20 a), .int (gI (sI S 19 a w) 21 a)]) : va_E) = _
  simp only [gI, gP, gJ, sI, sP, sJ, up2_s, up2_nf, ne_eq, Nat.reduceEqDiff, not_false_eq_true]
theorem cp_1_4 {ct : ClassId × ClassId × ClassId} {S : Cst} {a : Nat} (w : Int32) : ccell ct 1 (sI S 20 a w) a = .inr (1, [.long (gJ S 16 a), .int (gI S 17 a), .int (gI S 18 a), .int (gI S 19 a), .int w, .int (gI S 21 a)]) := by
  show (Sum.inr (1, [.long (gJ (sI S 20 a w) 16 a), .int (gI (sI S 20 a w) 17 a), .int (gI (sI S 20 a w) 18 a), .int (gI (sI S 20 a w) 19 a), .int (gI (sI S 20 a w) 20 a), .int (gI (sI S 20 a w) 21 a)]) : va_E) = _
  simp only [gI, gP, gJ, sI, sP, sJ, up2_s, up2_nf, ne_eq, Nat.reduceEqDiff, not_false_eq_true]
theorem cp_1_5 {ct : ClassId × ClassId × ClassId} {S : Cst} {a : Nat} (w : Int32) : ccell ct 1 (sI S 21 a w) a = .inr (1, [.long (gJ S 16 a), .int (gI S 17 a), .int (gI S 18 a), .int (gI S 19 a), .int (gI S 20 a), .int w]) := by
  show (Sum.inr (1, [.long (gJ (sI S 21 a w) 16 a), .int (gI (sI S 21 a w) 17 a), .int (gI (sI S 21 a w) 18 a), .int (gI (sI S 21 a w) 19 a), .int (gI (sI S 21 a w) 20 a), .int (gI (sI S 21 a w) 21 a)]) : va_E) = _
  simp only [gI, gP, gJ, sI, sP, sJ, up2_s, up2_nf, ne_eq, Nat.reduceEqDiff, not_false_eq_true]
theorem cp_2_0 {ct : ClassId × ClassId × ClassId} {S : Cst} {a : Nat} (w : Int32) : ccell ct 2 (sI S 32 a w) a = .inr (2, [.int w, va_rf (gP S 33 a), va_rf (gP S 34 a), va_rf (gP S 35 a)]) := by
  show (Sum.inr (2, [.int (gI (sI S 32 a w) 32 a), va_rf (gP (sI S 32 a w) 33 a), va_rf (gP (sI S 32 a w) 34 a), va_rf (gP (sI S 32 a w) 35 a)]) : va_E) = _
  simp only [gI, gP, gJ, sI, sP, sJ, up2_s, up2_nf, ne_eq, Nat.reduceEqDiff, not_false_eq_true]
theorem cp_2_1 {ct : ClassId × ClassId × ClassId} {S : Cst} {a : Nat} (w : Option Nat) : ccell ct 2 (sP S 33 a w) a = .inr (2, [.int (gI S 32 a), va_rf w, va_rf (gP S 34 a), va_rf (gP S 35 a)]) := by
  show (Sum.inr (2, [.int (gI (sP S 33 a w) 32 a), va_rf (gP (sP S 33 a w) 33 a), va_rf (gP (sP S 33 a w) 34 a), va_rf (gP (sP S 33 a w) 35 a)]) : va_E) = _
  simp only [gI, gP, gJ, sI, sP, sJ, up2_s, up2_nf, ne_eq, Nat.reduceEqDiff, not_false_eq_true]
theorem cp_2_2 {ct : ClassId × ClassId × ClassId} {S : Cst} {a : Nat} (w : Option Nat) : ccell ct 2 (sP S 34 a w) a = .inr (2, [.int (gI S 32 a), va_rf (gP S 33 a), va_rf w, va_rf (gP S 35 a)]) := by
  show (Sum.inr (2, [.int (gI (sP S 34 a w) 32 a), va_rf (gP (sP S 34 a w) 33 a), va_rf (gP (sP S 34 a w) 34 a), va_rf (gP (sP S 34 a w) 35 a)]) : va_E) = _
  simp only [gI, gP, gJ, sI, sP, sJ, up2_s, up2_nf, ne_eq, Nat.reduceEqDiff, not_false_eq_true]
theorem cp_2_3 {ct : ClassId × ClassId × ClassId} {S : Cst} {a : Nat} (w : Option Nat) : ccell ct 2 (sP S 35 a w) a = .inr (2, [.int (gI S 32 a), va_rf (gP S 33 a), va_rf (gP S 34 a), va_rf w]) := by
  show (Sum.inr (2, [.int (gI (sP S 35 a w) 32 a), va_rf (gP (sP S 35 a w) 33 a), va_rf (gP (sP S 35 a w) 34 a), va_rf (gP (sP S 35 a w) 35 a)]) : va_E) = _
  simp only [gI, gP, gJ, sI, sP, sJ, up2_s, up2_nf, ne_eq, Nat.reduceEqDiff, not_false_eq_true]
theorem cp_3_0 {ct : ClassId × ClassId × ClassId} {S : Cst} {a : Nat} (w : Option Nat) : ccell ct 3 (sP S 48 a w) a = .inr (3, [va_rf w, va_rf (gP S 49 a)]) := by
  show (Sum.inr (3, [va_rf (gP (sP S 48 a w) 48 a), va_rf (gP (sP S 48 a w) 49 a)]) : va_E) = _
  simp only [gI, gP, gJ, sI, sP, sJ, up2_s, up2_nf, ne_eq, Nat.reduceEqDiff, not_false_eq_true]
theorem cp_3_1 {ct : ClassId × ClassId × ClassId} {S : Cst} {a : Nat} (w : Option Nat) : ccell ct 3 (sP S 49 a w) a = .inr (3, [va_rf (gP S 48 a), va_rf w]) := by
  show (Sum.inr (3, [va_rf (gP (sP S 49 a w) 48 a), va_rf (gP (sP S 49 a w) 49 a)]) : va_E) = _
  simp only [gI, gP, gJ, sI, sP, sJ, up2_s, up2_nf, ne_eq, Nat.reduceEqDiff, not_false_eq_true]
theorem cp_4_0 {ct : ClassId × ClassId × ClassId} {S : Cst} {a : Nat} (w : Option Nat) : ccell ct 4 (sP S 64 a w) a = .inr (4, [va_rf w, .int (gI S 65 a)]) := by
  show (Sum.inr (4, [va_rf (gP (sP S 64 a w) 64 a), .int (gI (sP S 64 a w) 65 a)]) : va_E) = _
  simp only [gI, gP, gJ, sI, sP, sJ, up2_s, up2_nf, ne_eq, Nat.reduceEqDiff, not_false_eq_true]
theorem cp_4_1 {ct : ClassId × ClassId × ClassId} {S : Cst} {a : Nat} (w : Int32) : ccell ct 4 (sI S 65 a w) a = .inr (4, [va_rf (gP S 64 a), .int w]) := by
  show (Sum.inr (4, [va_rf (gP (sI S 65 a w) 64 a), .int (gI (sI S 65 a w) 65 a)]) : va_E) = _
  simp only [gI, gP, gJ, sI, sP, sJ, up2_s, up2_nf, ne_eq, Nat.reduceEqDiff, not_false_eq_true]
theorem cp_5_0 {ct : ClassId × ClassId × ClassId} {S : Cst} {a : Nat} (w : Int32) : ccell ct 5 (sI S 80 a w) a = .inr (5, [.int w, .int (gI S 81 a), .int (gI S 82 a), .int (gI S 83 a), .int (gI S 84 a), .int (gI S 85 a), va_rf (gP S 86 a), va_rf (gP S 87 a), .int (gI S 88 a), .int (gI S 89 a), .int (gI S 90 a), .int (gI S 91 a)]) := by
  show (Sum.inr (5, [.int (gI (sI S 80 a w) 80 a), .int (gI (sI S 80 a w) 81 a), .int (gI (sI S 80 a w) 82 a), .int (gI (sI S 80 a w) 83 a), .int (gI (sI S 80 a w) 84 a), .int (gI (sI S 80 a w) 85 a), va_rf (gP (sI S 80 a w) 86 a), va_rf (gP (sI S 80 a w) 87 a), .int (gI (sI S 80 a w) 88 a), .int (gI (sI S 80 a w) 89 a), .int (gI (sI S 80 a w) 90 a), .int (gI (sI S 80 a w) 91 a)]) : va_E) = _
  simp only [gI, gP, gJ, sI, sP, sJ, up2_s, up2_nf, ne_eq, Nat.reduceEqDiff, not_false_eq_true]
theorem cp_5_1 {ct : ClassId × ClassId × ClassId} {S : Cst} {a : Nat} (w : Int32) : ccell ct 5 (sI S 81 a w) a = .inr (5, [.int (gI S 80 a), .int w, .int (gI S 82 a), .int (gI S 83 a), .int (gI S 84 a), .int (gI S 85 a), va_rf (gP S 86 a), va_rf (gP S 87 a), .int (gI S 88 a), .int (gI S 89 a), .int (gI S 90 a), .int (gI S 91 a)]) := by
  show (Sum.inr (5, [.int (gI (sI S 81 a w) 80 a), .int (gI (sI S 81 a w) 81 a), .int (gI (sI S 81 a w) 82 a), .int (gI (sI S 81 a w) 83 a), .int (gI (sI S 81 a w) 84 a), .int (gI (sI S 81 a w) 85 a), va_rf (gP (sI S 81 a w) 86 a), va_rf (gP (sI S 81 a w) 87 a), .int (gI (sI S 81 a w) 88 a), .int (gI (sI S 81 a w) 89 a), .int (gI (sI S 81 a w) 90 a), .int (gI (sI S 81 a w) 91 a)]) : va_E) = _
  simp only [gI, gP, gJ, sI, sP, sJ, up2_s, up2_nf, ne_eq, Nat.reduceEqDiff, not_false_eq_true]
theorem cp_5_2 {ct : ClassId × ClassId × ClassId} {S : Cst} {a : Nat} (w : Int32) : ccell ct 5 (sI S 82 a w) a = .inr (5, [.int (gI S 80 a), .int (gI S 81 a), .int w, .int (gI S 83 a), .int (gI S 84 a), .int (gI S 85 a), va_rf (gP S 86 a), va_rf (gP S 87 a), .int (gI S 88 a), .int (gI S 89 a), .int (gI S 90 a), .int (gI S 91 a)]) := by
  show (Sum.inr (5, [.int (gI (sI S 82 a w) 80 a), .int (gI (sI S 82 a w) 81 a), .int (gI (sI S 82 a w) 82 a), .int (gI (sI S 82 a w) 83 a), .int (gI (sI S 82 a w) 84 a), .int (gI (sI S 82 a w) 85 a), va_rf (gP (sI S 82 a w) 86 a), va_rf (gP (sI S 82 a w) 87 a), .int (gI (sI S 82 a w) 88 a), .int (gI (sI S 82 a w) 89 a), .int (gI (sI S 82 a w) 90 a), .int (gI (sI S 82 a w) 91 a)]) : va_E) = _
  simp only [gI, gP, gJ, sI, sP, sJ, up2_s, up2_nf, ne_eq, Nat.reduceEqDiff, not_false_eq_true]
theorem cp_5_3 {ct : ClassId × ClassId × ClassId} {S : Cst} {a : Nat} (w : Int32) : ccell ct 5 (sI S 83 a w) a = .inr (5, [.int (gI S 80 a), .int (gI S 81 a), .int (gI S 82 a), .int w, .int (gI S 84 a), .int (gI S 85 a), va_rf (gP S 86 a), va_rf (gP S 87 a), .int (gI S 88 a), .int (gI S 89 a), .int (gI S 90 a), .int (gI S 91 a)]) := by
  show (Sum.inr (5, [.int (gI (sI S 83 a w) 80 a), .int (gI (sI S 83 a w) 81 a), .int (gI (sI S 83 a w) 82 a), .int (gI (sI S 83 a w) 83 a), .int (gI (sI S 83 a w) 84 a), .int (gI (sI S 83 a w) 85 a), va_rf (gP (sI S 83 a w) 86 a), va_rf (gP (sI S 83 a w) 87 a), .int (gI (sI S 83 a w) 88 a), .int (gI (sI S 83 a w) 89 a), .int (gI (sI S 83 a w) 90 a), .int (gI (sI S 83 a w) 91 a)]) : va_E) = _
  simp only [gI, gP, gJ, sI, sP, sJ, up2_s, up2_nf, ne_eq, Nat.reduceEqDiff, not_false_eq_true]
theorem cp_5_4 {ct : ClassId × ClassId × ClassId} {S : Cst} {a : Nat} (w : Int32) : ccell ct 5 (sI S 84 a w) a = .inr (5, [.int (gI S 80 a), .int (gI S 81 a), .int (gI S 82 a), .int (gI S 83 a), .int w, .int (gI S 85 a), va_rf (gP S 86 a), va_rf (gP S 87 a), .int (gI S 88 a), .int (gI S 89 a), .int (gI S 90 a), .int (gI S 91 a)]) := by
  show (Sum.inr (5, [.int (gI (sI S 84 a w) 80 a), .int (gI (sI S 84 a w) 81 a), .int (gI (sI S 84 a w) 82 a), .int (gI (sI S 84 a w) 83 a), .int (gI (sI S 84 a w) 84 a), .int (gI (sI S 84 a w) 85 a), va_rf (gP (sI S 84 a w) 86 a), va_rf (gP (sI S 84 a w) 87 a), .int (gI (sI S 84 a w) 88 a), .int (gI (sI S 84 a w) 89 a), .int (gI (sI S 84 a w) 90 a), .int (gI (sI S 84 a w) 91 a)]) : va_E) = _
  simp only [gI, gP, gJ, sI, sP, sJ, up2_s, up2_nf, ne_eq, Nat.reduceEqDiff, not_false_eq_true]
theorem cp_5_5 {ct : ClassId × ClassId × ClassId} {S : Cst} {a : Nat} (w : Int32) : ccell ct 5 (sI S 85 a w) a = .inr (5, [.int (gI S 80 a), .int (gI S 81 a), .int (gI S 82 a), .int (gI S 83 a), .int (gI S 84 a), .int w, va_rf (gP S 86 a), va_rf (gP S 87 a), .int (gI S 88 a), .int (gI S 89 a), .int (gI S 90 a), .int (gI S 91 a)]) := by
  show (Sum.inr (5, [.int (gI (sI S 85 a w) 80 a), .int (gI (sI S 85 a w) 81 a), .int (gI (sI S 85 a w) 82 a), .int (gI (sI S 85 a w) 83 a), .int (gI (sI S 85 a w) 84 a), .int (gI (sI S 85 a w) 85 a), va_rf (gP (sI S 85 a w) 86 a), va_rf (gP (sI S 85 a w) 87 a), .int (gI (sI S 85 a w) 88 a), .int (gI (sI S 85 a w) 89 a), .int (gI (sI S 85 a w) 90 a), .int (gI (sI S 85 a w) 91 a)]) : va_E) = _
  simp only [gI, gP, gJ, sI, sP, sJ, up2_s, up2_nf, ne_eq, Nat.reduceEqDiff, not_false_eq_true]
theorem cp_5_6 {ct : ClassId × ClassId × ClassId} {S : Cst} {a : Nat} (w : Option Nat) : ccell ct 5 (sP S 86 a w) a = .inr (5, [.int (gI S 80 a), .int (gI S 81 a), .int (gI S 82 a), .int (gI S 83 a), .int (gI S 84 a), .int (gI S 85 a), va_rf w, va_rf (gP S 87 a), .int (gI S 88 a), .int (gI S 89 a), .int (gI S 90 a), .int (gI S 91 a)]) := by
  show (Sum.inr (5, [.int (gI (sP S 86 a w) 80 a), .int (gI (sP S 86 a w) 81 a), .int (gI (sP S 86 a w) 82 a), .int (gI (sP S 86 a w) 83 a), .int (gI (sP S 86 a w) 84 a), .int (gI (sP S 86 a w) 85 a), va_rf (gP (sP S 86 a w) 86 a), va_rf (gP (sP S 86 a w) 87 a), .int (gI (sP S 86 a w) 88 a), .int (gI (sP S 86 a w) 89 a), .int (gI (sP S 86 a w) 90 a), .int (gI (sP S 86 a w) 91 a)]) : va_E) = _
  simp only [gI, gP, gJ, sI, sP, sJ, up2_s, up2_nf, ne_eq, Nat.reduceEqDiff, not_false_eq_true]
theorem cp_5_7 {ct : ClassId × ClassId × ClassId} {S : Cst} {a : Nat} (w : Option Nat) : ccell ct 5 (sP S 87 a w) a = .inr (5, [.int (gI S 80 a), .int (gI S 81 a), .int (gI S 82 a), .int (gI S 83 a), .int (gI S 84 a), .int (gI S 85 a), va_rf (gP S 86 a), va_rf w, .int (gI S 88 a), .int (gI S 89 a), .int (gI S 90 a), .int (gI S 91 a)]) := by
  show (Sum.inr (5, [.int (gI (sP S 87 a w) 80 a), .int (gI (sP S 87 a w) 81 a), .int (gI (sP S 87 a w) 82 a), .int (gI (sP S 87 a w) 83 a), .int (gI (sP S 87 a w) 84 a), .int (gI (sP S 87 a w) 85 a), va_rf (gP (sP S 87 a w) 86 a), va_rf (gP (sP S 87 a w) 87 a), .int (gI (sP S 87 a w) 88 a), .int (gI (sP S 87 a w) 89 a), .int (gI (sP S 87 a w) 90 a), .int (gI (sP S 87 a w) 91 a)]) : va_E) = _
  simp only [gI, gP, gJ, sI, sP, sJ, up2_s, up2_nf, ne_eq, Nat.reduceEqDiff, not_false_eq_true]
theorem cp_5_8 {ct : ClassId × ClassId × ClassId} {S : Cst} {a : Nat} (w : Int32) : ccell ct 5 (sI S 88 a w) a = .inr (5, [.int (gI S 80 a), .int (gI S 81 a), .int (gI S 82 a), .int (gI S 83 a), .int (gI S 84 a), .int (gI S 85 a), va_rf (gP S 86 a), va_rf (gP S 87 a), .int w, .int (gI S 89 a), .int (gI S 90 a), .int (gI S 91 a)]) := by
  show (Sum.inr (5, [.int (gI (sI S 88 a w) 80 a), .int (gI (sI S 88 a w) 81 a), .int (gI (sI S 88 a w) 82 a), .int (gI (sI S 88 a w) 83 a), .int (gI (sI S 88 a w) 84 a), .int (gI (sI S 88 a w) 85 a), va_rf (gP (sI S 88 a w) 86 a), va_rf (gP (sI S 88 a w) 87 a), .int (gI (sI S 88 a w) 88 a), .int (gI (sI S 88 a w) 89 a), .int (gI (sI S 88 a w) 90 a), .int (gI (sI S 88 a w) 91 a)]) : va_E) = _
  simp only [gI, gP, gJ, sI, sP, sJ, up2_s, up2_nf, ne_eq, Nat.reduceEqDiff, not_false_eq_true]
theorem cp_5_9 {ct : ClassId × ClassId × ClassId} {S : Cst} {a : Nat} (w : Int32) : ccell ct 5 (sI S 89 a w) a = .inr (5, [.int (gI S 80 a), .int (gI S 81 a), .int (gI S 82 a), .int (gI S 83 a), .int (gI S 84 a), .int (gI S 85 a), va_rf (gP S 86 a), va_rf (gP S 87 a), .int (gI S 88 a), .int w, .int (gI S 90 a), .int (gI S 91 a)]) := by
  show (Sum.inr (5, [.int (gI (sI S 89 a w) 80 a), .int (gI (sI S 89 a w) 81 a), .int (gI (sI S 89 a w) 82 a), .int (gI (sI S 89 a w) 83 a), .int (gI (sI S 89 a w) 84 a), .int (gI (sI S 89 a w) 85 a), va_rf (gP (sI S 89 a w) 86 a), va_rf (gP (sI S 89 a w) 87 a), .int (gI (sI S 89 a w) 88 a), .int (gI (sI S 89 a w) 89 a), .int (gI (sI S 89 a w) 90 a), .int (gI (sI S 89 a w) 91 a)]) : va_E) = _
  simp only [gI, gP, gJ, sI, sP, sJ, up2_s, up2_nf, ne_eq, Nat.reduceEqDiff, not_false_eq_true]
theorem cp_5_10 {ct : ClassId × ClassId × ClassId} {S : Cst} {a : Nat} (w : Int32) : ccell ct 5 (sI S 90 a w) a = .inr (5, [.int (gI S 80 a), .int (gI S 81 a), .int (gI S 82 a), .int (gI S 83 a), .int (gI S 84 a), .int (gI S 85 a), va_rf (gP S 86 a), va_rf (gP S 87 a), .int (gI S 88 a), .int (gI S 89 a), .int w, .int (gI S 91 a)]) := by
  show (Sum.inr (5, [.int (gI (sI S 90 a w) 80 a), .int (gI (sI S 90 a w) 81 a), .int (gI (sI S 90 a w) 82 a), .int (gI (sI S 90 a w) 83 a), .int (gI (sI S 90 a w) 84 a), .int (gI (sI S 90 a w) 85 a), va_rf (gP (sI S 90 a w) 86 a), va_rf (gP (sI S 90 a w) 87 a), .int (gI (sI S 90 a w) 88 a), .int (gI (sI S 90 a w) 89 a), .int (gI (sI S 90 a w) 90 a), .int (gI (sI S 90 a w) 91 a)]) : va_E) = _
  simp only [gI, gP, gJ, sI, sP, sJ, up2_s, up2_nf, ne_eq, Nat.reduceEqDiff, not_false_eq_true]
theorem cp_5_11 {ct : ClassId × ClassId × ClassId} {S : Cst} {a : Nat} (w : Int32) : ccell ct 5 (sI S 91 a w) a = .inr (5, [.int (gI S 80 a), .int (gI S 81 a), .int (gI S 82 a), .int (gI S 83 a), .int (gI S 84 a), .int (gI S 85 a), va_rf (gP S 86 a), va_rf (gP S 87 a), .int (gI S 88 a), .int (gI S 89 a), .int (gI S 90 a), .int w]) := by
  show (Sum.inr (5, [.int (gI (sI S 91 a w) 80 a), .int (gI (sI S 91 a w) 81 a), .int (gI (sI S 91 a w) 82 a), .int (gI (sI S 91 a w) 83 a), .int (gI (sI S 91 a w) 84 a), .int (gI (sI S 91 a w) 85 a), va_rf (gP (sI S 91 a w) 86 a), va_rf (gP (sI S 91 a w) 87 a), .int (gI (sI S 91 a w) 88 a), .int (gI (sI S 91 a w) 89 a), .int (gI (sI S 91 a w) 90 a), .int (gI (sI S 91 a w) 91 a)]) : va_E) = _
  simp only [gI, gP, gJ, sI, sP, sJ, up2_s, up2_nf, ne_eq, Nat.reduceEqDiff, not_false_eq_true]
theorem cp_6_0 {ct : ClassId × ClassId × ClassId} {S : Cst} {a : Nat} (w : Option Nat) : ccell ct 6 (sP S 96 a w) a = .inr (6, [va_rf w, .int (gI S 97 a)]) := by
  show (Sum.inr (6, [va_rf (gP (sP S 96 a w) 96 a), .int (gI (sP S 96 a w) 97 a)]) : va_E) = _
  simp only [gI, gP, gJ, sI, sP, sJ, up2_s, up2_nf, ne_eq, Nat.reduceEqDiff, not_false_eq_true]
theorem cp_6_1 {ct : ClassId × ClassId × ClassId} {S : Cst} {a : Nat} (w : Int32) : ccell ct 6 (sI S 97 a w) a = .inr (6, [va_rf (gP S 96 a), .int w]) := by
  show (Sum.inr (6, [va_rf (gP (sI S 97 a w) 96 a), .int (gI (sI S 97 a w) 97 a)]) : va_E) = _
  simp only [gI, gP, gJ, sI, sP, sJ, up2_s, up2_nf, ne_eq, Nat.reduceEqDiff, not_false_eq_true]

theorem fr_f (κ : FieldType) (hκ : (∃ n, κ = .object n) ∨ ∃ t, κ = .array t) (x : Option Nat) : narrow κ (va_rf x) = va_rf x ∧ fits κ (va_rf x) = true := by
  rcases hκ with ⟨n, rfl⟩ | ⟨t, rfl⟩ <;> cases x <;> exact ⟨rfl, rfl⟩
theorem cat_rf (x : Option Nat) : (va_rf x).category = 1 := by cases x <;> rfl
def nc {β : Type} (x : Option Nat) (a : β) (f : Nat → β) : β := match x with
  | none => a
  | some b => f b
theorem nc_n {β : Type} {a r : β} {f : Nat → β} (h : nc none a f = r) : a = r := h
theorem nc_b {β : Type} {a r : β} {b : Nat} {f : Nat → β} (h : nc (some b) a f = r) : f b = r := h
/-- a place of an array of ints; of references -/
def crd {β : Type} (S : Cst) (a : Nat) (i : Int32) (f : Int32 → Option β) : Option β := if inb i (gN S a) = true then f (gR S a i.toNatClampNeg) else none
def cwr {β : Type} (S : Cst) (a : Nat) (i v : Int32) (f : Cst → Option β) : Option β := if inb i (gN S a) = true then f (sR S a i.toNatClampNeg v) else none
def cqd {β : Type} (S : Cst) (a : Nat) (i : Int32) (f : Option Nat → Option β) : Option β := if inb i (gN S a) = true then f (gQ S a i.toNatClampNeg) else none
def cqw {β : Type} (S : Cst) (a : Nat) (i : Int32) (v : Option Nat) (f : Cst → Option β) : Option β := if inb i (gN S a) = true then f (sQ S a i.toNatClampNeg v) else none
theorem crd_s {β : Type} {S : Cst} {a : Nat} {i : Int32} {f : Int32 → Option β} {r : β} (h : crd S a i f = some r) : ∃ v, v = gR S a i.toNatClampNeg ∧ vp_in i (gN S a) ∧ f v = some r := by
  unfold crd at h
  by_cases hi : inb i (gN S a) = true
  · rw [if_pos hi] at h; exact ⟨_, rfl, inb_in hi, h⟩
  · rw [if_neg hi] at h; cases h
theorem cwr_s {β : Type} {S : Cst} {a : Nat} {i v : Int32} {f : Cst → Option β} {r : β} (h : cwr S a i v f = some r) : ∃ S1, S1 = sR S a i.toNatClampNeg v ∧ vp_in i (gN S a) ∧ f S1 = some r := by
  unfold cwr at h
  by_cases hi : inb i (gN S a) = true
  · rw [if_pos hi] at h; exact ⟨_, rfl, inb_in hi, h⟩
  · rw [if_neg hi] at h; cases h
theorem cqd_s {β : Type} {S : Cst} {a : Nat} {i : Int32} {f : Option Nat → Option β} {r : β} (h : cqd S a i f = some r) : ∃ v, v = gQ S a i.toNatClampNeg ∧ vp_in i (gN S a) ∧ f v = some r := by
  unfold cqd at h
  by_cases hi : inb i (gN S a) = true
  · rw [if_pos hi] at h; exact ⟨_, rfl, inb_in hi, h⟩
  · rw [if_neg hi] at h; cases h
theorem cqw_s {β : Type} {S : Cst} {a : Nat} {i : Int32} {v : Option Nat} {f : Cst → Option β} {r : β} (h : cqw S a i v f = some r) : ∃ S1, S1 = sQ S a i.toNatClampNeg v ∧ vp_in i (gN S a) ∧ f S1 = some r := by
  unfold cqw at h
  by_cases hi : inb i (gN S a) = true
  · rw [if_pos hi] at h; exact ⟨_, rfl, inb_in hi, h⟩
  · rw [if_neg hi] at h; cases h
theorem ext_rf {G : Gam} {sz : Nat} : ext G sz G := ⟨fun _ _ h => h, fun _ h => Or.inl h⟩
theorem ext.trans {G G1 G2 : Gam} {sz sz1 : Nat} (h1 : ext G sz G1) (h2 : ext G1 sz1 G2) (hz : sz ≤ sz1) : ext G sz G2 := ⟨fun κ a h => h2.1 κ a (h1.1 κ a h), fun a ha => by
  rcases h2.2 a ha with h | h
  · exact h1.2 a h
  · exact Or.inr (Nat.le_trans hz h)⟩
theorem ext.o {G G' : Gam} {sz κ : Nat} {x : Option Nat} (h : ext G sz G') (hx : tyo G κ x) : tyo G' κ x := fun a ha => h.1 κ a (hx a ha)
def gnew (G : Gam) (a κ : Nat) : Gam := (G.1 ++ [a], va_up G.2 a κ)
theorem gnew_ty {G : Gam} {a κ : Nat} : ty (gnew G a κ) κ a := ⟨List.mem_append_right _ (List.mem_singleton.mpr rfl), va_up_self _ _ _⟩
theorem gnew_ext {G : Gam} {a κ sz : Nat} (hn : a ∉ G.1) (hz : sz ≤ a) : ext G sz (gnew G a κ) := by
  refine ⟨fun κ' b h => ⟨List.mem_append_left _ h.1, ?_⟩, fun b hb => ?_⟩
  · show va_up G.2 a κ b = κ'
    have hba : b ≠ a := fun e => hn (by rw [← e]; exact h.1)
    rw [va_up_ne _ _ hba]
    exact h.2
  · rcases List.mem_append.mp hb with h | h
    · exact Or.inl h
    · rw [List.mem_singleton.mp h]; exact Or.inr hz
theorem gnew_inv {G : Gam} {a κ κ' b : Nat} (h : ty (gnew G a κ) κ' b) : (b = a ∧ κ' = κ) ∨ (b ≠ a ∧ ty G κ' b) := by
  by_cases hb : b = a
  · subst hb
    have h2 : va_up G.2 b κ b = κ' := h.2
    rw [va_up_self] at h2
    exact Or.inl ⟨rfl, h2.symm⟩
  · have h2 : va_up G.2 a κ b = κ' := h.2
    rw [va_up_ne _ _ hb] at h2
    refine Or.inr ⟨hb, ?_, h2⟩
    rcases List.mem_append.mp h.1 with h3 | h3
    · exact h3
    · exact absurd (List.mem_singleton.mp h3) hb
theorem tyo_none {G : Gam} {κ : Nat} : tyo G κ none := fun _ h => by cases h
theorem tyo_some {G : Gam} {κ a : Nat} (h : ty G κ a) : tyo G κ (some a) := fun _ e => by cases e; exact h
theorem wt_nO {G : Gam} {S : Cst} {κ : Nat} (h : wt G S) (hn : nx S ∉ G.1) (hκ : κ < 8) : wt (gnew G (nx S) κ) (nO S) := by
  have e := gnew_ext (κ := κ) (sz := 0) hn (Nat.zero_le _)
  refine ⟨fun r hr a ha => ?_, fun a i ha => ?_, fun a i ha => ?_⟩
  · show tyo _ r.2.2 (va_up (S.2.1 r.2.1) (nx S) none a)
    rcases gnew_inv ha with ⟨rfl, -⟩ | ⟨hb, ha⟩
    · rw [va_up_self]; exact tyo_none
    · rw [va_up_ne _ _ hb]; exact e.o (h.1 r hr a ha)
  · rcases gnew_inv ha with ⟨rfl, h10⟩ | ⟨hb, ha⟩
    · omega
    · exact e.o (h.2.1 a i ha)
  · rcases gnew_inv ha with ⟨rfl, h11⟩ | ⟨hb, ha⟩
    · omega
    · exact e.o (h.2.2 a i ha)

theorem wt_nA {G : Gam} {S : Cst} {κ n : Nat} (h : wt G S) (hn : nx S ∉ G.1) (hκ : 8 ≤ κ) : wt (gnew G (nx S) κ) (nA S n) := by
  have e := gnew_ext (κ := κ) (sz := 0) hn (Nat.zero_le _)
  refine ⟨fun r hr a ha => ?_, fun a i ha => ?_, fun a i ha => ?_⟩
  · rcases gnew_inv ha with ⟨rfl, h2⟩ | ⟨hb, ha⟩
    · exfalso
      have h3 : ∀ r ∈ wtab, r.1 < 8 := by decide
      have := h3 r hr
      omega
    · exact e.o (h.1 r hr a ha)
  · show tyo _ 0 (va_up S.2.2.2.2.2.1 (nx S) (fun _ => none) a i)
    rcases gnew_inv ha with ⟨rfl, -⟩ | ⟨hb, ha⟩
    · rw [va_up_self]; exact tyo_none
    · rw [va_up_ne _ _ hb]; exact e.o (h.2.1 a i ha)
  · show tyo _ 2 (va_up S.2.2.2.2.2.1 (nx S) (fun _ => none) a i)
    rcases gnew_inv ha with ⟨rfl, -⟩ | ⟨hb, ha⟩
    · rw [va_up_self]; exact tyo_none
    · rw [va_up_ne _ _ hb]; exact e.o (h.2.2 a i ha)
section CLS2
variable {p : Program} {l : Launch} {e : Env} {Rm : Room} {s : State} {m : MethodId} {args : Array Value} {below : List Frame} {meth : Method} {c : Code} {H : Heap} {locs : List Loc} {cells slots : Nat} {Q : State → Prop}
variable {pc nL : Nat} {ls : Array Slot} {rest st0 : List Value} {H0 : Heap} {cc : ByteArray} {Ts : List Cond} {D : va_G} {ct : ClassId × ClassId × ClassId} {G G' : Gam} {A : Nat → Prop} {S S1 : Cst} {v : Option Value} {y : MethodName} {ws ws' : List Cond} {rm : Room} {av : List Value} {own : String} {κ a k idx N mc ms : Nat} {C : String} {T : u_T} {fs : List Value} {B : State → Prop} {Ty : Gam → Prop}
theorem c_nin (hB : cB D ct G A S H) : nx S ∉ G.1 := fun h => Nat.lt_irrefl _ (c_lt hB h)
theorem c_iald (X : cX p s m args c cc nL Ts own D ct) (hB : cB D ct G A S H) (hk : ty G 8 a) {i w : Int32} (hi : vp_in i (gN S a)) (hv : w = gR S a i.toNatClampNeg) (hdg : decode cc pc = .ok (.iaload, 1))
    (kk : W p l e Rm s m args below meth c H locs cells slots Q (F0 m (pc + 1) ls (.int w :: rest))) : W p l e Rm s m args below meth c H locs cells slots Q (F0 m pc ls (.int i :: .ref a :: rest)) := by
  obtain ⟨j, hj⟩ := c_at hB hk
  exact va_iald X.1.1 X.1.2.1 X.2.2.1 hB.1 j 0 hj rfl hi hdg (by rw [← hv]; exact kk)
theorem c_alen (X : cX p s m args c cc nL Ts own D ct) (hB : cB D ct G A S H) (hk : ty G κ a) {x : vp_A} {cA : ClassId} {fty : FieldType} (t0 : Nat) (hcell : ccell ct κ S a = .inl (cA, x)) (ht : (ctys ct)[t0]? = some (cA, fty)) (hx : x.1 = gN S a) (hdg : decode cc pc = .ok (.arraylength, 1))
    (kk : W p l e Rm s m args below meth c H locs cells slots Q (F0 m (pc + 1) ls (.int (Int32.ofNat (gN S a)) :: rest))) : W p l e Rm s m args below meth c H locs cells slots Q (F0 m pc ls (.ref a :: rest)) := by
  obtain ⟨j, hj⟩ := c_at hB hk
  rw [hcell] at hj
  exact va_alen X.1.1 X.1.2.1 X.2.2.1 hB.1 j t0 hj ht (by rw [hx]) hdg kk
theorem c_iast (X : cX p s m args c cc nL Ts own D ct) (hB : cB D ct G A S H) (hS : va_S A H0 H locs) (hk : ty G 8 a) {i w : Int32} (hi : vp_in i (gN S a)) (hdg : decode cc pc = .ok (.iastore, 1))
    (kk : ∀ (H1 : Heap) (locs1 : List Loc), cB D ct G A (sR S a i.toNatClampNeg w) H1 → va_S A H0 H1 locs1 → W p l e Rm s m args below meth c H1 locs1 cells slots Q (F0 m (pc + 1) ls rest)) : W p l e Rm s m args below meth c H locs cells slots Q (F0 m pc ls (.int w :: .int i :: .ref a :: rest)) := by
  obtain ⟨j, hj⟩ := c_at hB hk
  have hj : (cws ct G S)[j]? = some (a, .inl (ct.1, gN S a, .inl (gR S a))) := hj
  refine W.iast X.1.1 X.1.2.1 (hB.1 j _ hj) ((X.2.2.1.2 0 _ rfl).1 (gN S a) (fun j => .int (gR S a j))) (fun q => by cases q) (by show ¬ (i < 0 ∨ (arrV _ _ _).slots.size ≤ _); rw [arrV_size]; exact hi) rfl rfl hdg fun H1 e z oq => ?_
  refine kk H1 _ (c_set hB hk (S1 := sR S a i.toNatClampNeg w) (e1 := .inl (ct.1, gN S a, .inl (upd (gR S a) i.toNatClampNeg w))) ?_ (fun κ b h => ccell_sR κ b h) rfl hB.2.2.2 ?_ z oq) (hS.put z oq (hB.2.1.2 j _ hj))
  · show (Sum.inl (ct.1, gN S a, .inl (va_up S.2.2.2.2.1 a (upd (S.2.2.2.2.1 a) i.toNatClampNeg w) a)) : va_E) = _
    rw [va_up_self]
    rfl
  · show H1[a]? = some (vp_cell _ _)
    rw [e]
    rw [vp_cell_i, vp_cell_i, arrV_store]
    congr 2
    funext q
    by_cases hq : q = i.toNatClampNeg
    · subst hq
      simp [updV, upd]
    · simp [updV, upd, hq]
theorem c_aald (X : cX p s m args c cc nL Ts own D ct) (hB : cB D ct G A S H) (hk : ty G κ a) {cA : ClassId} {C : String} (t0 : Nat) (hcell : ccell ct κ S a = .inl (cA, gN S a, .inr (.inr (.inr (.inr (gQ S a)))))) (ht : (ctys ct)[t0]? = some (cA, .object C)) {i : Int32} {w : Option Nat} (hi : vp_in i (gN S a)) (hv : w = gQ S a i.toNatClampNeg) (hdg : decode cc pc = .ok (.aaload, 1))
    (kk : W p l e Rm s m args below meth c H locs cells slots Q (F0 m (pc + 1) ls (va_rf w :: rest))) : W p l e Rm s m args below meth c H locs cells slots Q (F0 m pc ls (.int i :: .ref a :: rest)) := by
  obtain ⟨j, hj⟩ := c_at hB hk
  rw [hcell] at hj
  exact va_aldq X.1.1 X.1.2.1 X.2.2.1 hB.1 j t0 hj ht hi hdg (by rw [← hv]; exact kk)
theorem c_aast (X : cX p s m args c cc nL Ts own D ct) (hB : cB D ct G A S H) (hS : va_S A H0 H locs) (hk : ty G κ a) {cA : ClassId} {r : vw_C} {b κ' : Nat} {fs : List Value} (t0 : Nat) (hcell : ∀ S : Cst, ccell ct κ S a = .inl (cA, gN S a, .inr (.inr (.inr (.inr (gQ S a)))))) (ht : (ctys ct)[t0]? = some (cA, .object r.1)) (hkb : ty G κ' b) (hcb : ccell ct κ' S b = .inr (κ', fs)) (hc : vwCl[κ']? = some r) {i : Int32} (hi : vp_in i (gN S a)) (hwt : wt G (sQ S a i.toNatClampNeg (some b))) (hdg : decode cc pc = .ok (.aastore, 1))
    (kk : ∀ (H1 : Heap) (locs1 : List Loc), cB D ct G A (sQ S a i.toNatClampNeg (some b)) H1 → va_S A H0 H1 locs1 → W p l e Rm s m args below meth c H1 locs1 cells slots Q (F0 m (pc + 1) ls rest)) : W p l e Rm s m args below meth c H locs cells slots Q (F0 m pc ls (.ref b :: .int i :: .ref a :: rest)) := by
  obtain ⟨j, hj⟩ := c_at hB hk
  rw [hcell S] at hj
  obtain ⟨jb, hjb⟩ := c_at hB hkb
  rw [hcb] at hjb
  have hlt : i.toNatClampNeg < gN S a := Nat.not_le.mp fun q => hi (Or.inr q)
  have h0 : ¬ i < 0 := fun q => hi (Or.inl q)
  obtain ⟨r', hr', cellV, g1, g2, g3, -⟩ := hB.1 jb _ hjb
  have hcls := (X.2.2.1.1 κ' r hc).2
  obtain ⟨kA, comp, k1, k2, k3, -⟩ := (X.2.2.1.2 t0 _ ht).2
  have hcomp : comp = D.1 κ' := Option.some.inj (k3.symm.trans hcls.1)
  subst hcomp
  obtain ⟨kC, hkC, -⟩ := hcls.2
  refine W.aast X.1.1 X.1.2.1 (hB.1 j _ hj) (fun q h => by cases h) (fun h => by cases h) k1 k2 rfl hkC ⟨h0, by show _ < (arrV _ _ _).slots.size; rw [arrV_size]; exact hlt⟩ g1 (fun q h => by rw [g3] at h; cases h) (by rw [g2]; exact hkC) (by rw [g2]; exact va_assign hcls) rfl rfl hdg fun H1 e z oq => ?_
  refine kk H1 _ (c_set hB hk (S1 := sQ S a i.toNatClampNeg (some b)) (e1 := .inl (cA, gN S a, .inr (.inr (.inr (.inr (va_up (gQ S a) i.toNatClampNeg (some b))))))) ?_ (fun κ b h => ccell_sQ κ b h) rfl hwt ?_ z oq) (hS.put z oq (hB.2.1.2 j _ hj))
  · rw [hcell]
    show (Sum.inl (cA, gN S a, .inr (.inr (.inr (.inr (up2 S.2.2.2.2.2.1 a i.toNatClampNeg (some b) a))))) : va_E) = _
    unfold up2
    rw [va_up_self]
    rfl
  · show H1[a]? = some (vp_cell _ _)
    rw [e]
    rw [vp_cell_q, vp_cell_q, arrV_store]
    congr 2
    funext q
    by_cases hq : q = i.toNatClampNeg
    · subst hq
      simp [updV, va_up, va_rf]
    · simp [updV, va_up, hq]
/-- the pool with one cell more, at nx -/
theorem c_push (hB : cB D ct G A S H) (hS : va_S A H0 H locs) (hA : ∀ q, H0.size ≤ q → A q) {H1 : Heap} (e1 : va_at D vwCl (nx S, ccell ct κ S1 (nx S)) H1) (z1 : H1.size = H.size + 1) (o1 : ∀ q, q < H.size → H1[q]? = H[q]?) (hoth : ∀ κ b, b ≠ nx S → ccell ct κ S1 b = ccell ct κ S b) (hnx : nx S1 = nx S + 1) (hwt : wt (gnew G (nx S) κ) S1) : cB D ct (gnew G (nx S) κ) A S1 H1 ∧ va_S A H0 H1 locs := by
  have hk : ∀ (k : Nat) (x : Nat × va_E), (cws ct G S)[k]? = some x → H1[x.1]? = H[x.1]? := fun k x hx => o1 x.1 ((hB.1 k x hx).lt)
  have hn := c_nin hB
  have hset : cws ct G S ++ [(nx S, ccell ct κ S1 (nx S))] = cws ct (gnew G (nx S) κ) S1 := by
    refine Eq.trans (b := va_pl (G.1 ++ [nx S]) (va_up (fun a => ccell ct (G.2 a) S a) (nx S) (ccell ct κ S1 (nx S)))) (va_pl_push hn) (va_pl_congr fun b => ?_)
    by_cases hb : b = nx S
    · subst hb
      rw [va_up_self]
      show _ = ccell ct (va_up G.2 (nx S) κ (nx S)) S1 (nx S)
      rw [va_up_self]
    · rw [va_up_ne _ _ hb]
      show _ = ccell ct (va_up G.2 (nx S) κ b) S1 b
      rw [va_up_ne _ _ hb, hoth _ b hb]
  have hP : va_P D vwCl (cws ct G S ++ [(nx S, ccell ct κ S1 (nx S))]) H1 := (hB.1.kept hk).app (fun k x hx => by
    have hz : k < 1 := (List.getElem?_eq_some_iff.mp hx).1
    rw [show k = 0 by omega] at hx
    cases hx
    exact e1)
  have hD : va_D A (cws ct G S ++ [(nx S, ccell ct κ S1 (nx S))]) := hB.2.1.push hB.1 hB.2.2.1.symm (hA _ (by rw [← hB.2.2.1]; exact hS.1))
  rw [hset] at hP hD
  exact ⟨⟨hP, hD, by rw [z1, hB.2.2.1, hnx], hwt⟩, ⟨Nat.le_trans hS.1 (by omega), fun x h1 h2 => (o1 x (Nat.lt_of_lt_of_le h1 hS.1)).trans (hS.2.1 x h1 h2), hS.2.2⟩⟩
theorem c_new (X : cX p s m args c cc nL Ts own D ct) (hB : cB D ct G A S H) (hS : va_S A H0 H locs) (hA : ∀ q, H0.size ≤ q → A q) (hc : vwCl[κ]? = some (C, T, N)) (hin : ∀ w ∈ u_ws C T N, w ∈ WS) (ty0 : Nat → FieldType) (hty : ∀ k, k < N → parseFieldDescriptor (T k).2.2.1 = some (ty0 k)) (hcl : Cond.classLink own idx C ∈ WS) (hinst : Cond.instantiable C N ∈ WS) (hini : Cond.initialized C ∈ WS) (hcell : ccell ct κ (nO S) (nx S) = .inr (κ, fs)) (hfs : ∀ j, j < N → defaultValue (ty0 j) = vp_V fs j) (hκ : κ < 8) (hcells : cells + 1 ≤ Rm.cells) (hslots : slots + N ≤ Rm.slots) (hdg : decode cc pc = .ok (.new idx, 3))
    (kk : ∀ (H1 : Heap), cB D ct (gnew G (nx S) κ) A (nO S) H1 → va_S A H0 H1 locs → W p l e Rm s m args below meth c H1 locs (cells + 1) (slots + N) Q (F0 m (pc + 3) ls (.ref (nx S) :: rest))) : W p l e Rm s m args below meth c H locs cells slots Q (F0 m pc ls rest) := by
  have hts := X.1.2.2.2.2
  have hKn := X.2.2.1.1 κ _ hc
  refine W.newcK X.1.1 X.1.2.1 X.1.2.2.2.1 (hts _ (X.2.1 _ hcl)) (hts _ (X.2.1 _ hinst)) (hts _ (X.2.1 _ hini)) rfl hdg hcells hslots hKn.2.1 hB.2.2.1 fun H1 kC hkC e1 z1 o1 => ?_
  have e2 : va_at D vwCl (nx S, ccell ct κ (nO S) (nx S)) H1 := by
    rw [hcell]
    exact ⟨_, hc, (u_born ty0 hts (fun w h => X.2.1 w (hin w h)) hKn hkC e1 hty).to hfs⟩
  obtain ⟨b1, b2⟩ := c_push (S1 := nO S) hB hS hA e2 (by rw [hB.2.2.1]; exact z1) (fun q hq => o1 q (by rw [← hB.2.2.1]; exact hq)) (fun κ b h => ccell_nO κ b h) rfl (wt_nO hB.2.2.2 (c_nin hB) hκ)
  exact kk H1 b1 b2
theorem c_newG (X : cX p s m args c cc nL Ts own D ct) (hB : cB D ct G A S H) (hS : va_S A H0 H locs) (hA : ∀ q, H0.size ≤ q → A q) (κ : Nat) (hc : vwCl[κ]? = some (C, T, N)) (hin : ∀ w ∈ u_ws C T N, w ∈ WS) (ty0 : Nat → FieldType) (hty : ∀ k, k < N → parseFieldDescriptor (T k).2.2.1 = some (ty0 k)) (hcl : Cond.classLink own idx C ∈ WS) (hinst : Cond.instantiable C N ∈ WS) (hini : Cond.initialized C ∈ WS) (hcell : ccell ct κ (nO S) (nx S) = .inr (κ, fs)) (hfs : ∀ j, j < N → defaultValue (ty0 j) = vp_V fs j) (hκ : κ < 8) (hcells : cells + 1 ≤ Rm.cells) (hslots : slots + N ≤ Rm.slots) (hdg : decode cc pc = .ok (.new idx, 3))
    (kk : ∀ (G1 : Gam) (H1 : Heap), ext G (nx S) G1 → ty G1 κ (nx S) → cB D ct G1 A (nO S) H1 → va_S A H0 H1 locs → W p l e Rm s m args below meth c H1 locs (cells + 1) (slots + N) Q (F0 m (pc + 3) ls (.ref (nx S) :: rest))) : W p l e Rm s m args below meth c H locs cells slots Q (F0 m pc ls rest) :=
  c_new X hB hS hA hc hin ty0 hty hcl hinst hini hcell hfs hκ hcells hslots hdg (fun H1 b1 b2 => kk _ H1 (gnew_ext (c_nin hB) (Nat.le_refl _)) gnew_ty b1 b2)
/-- int[] -/
theorem c_newI (X : cX p s m args c cc nL Ts own D ct) (hB : cB D ct G A S H) (hS : va_S A H0 H locs) (hA : ∀ q, H0.size ≤ q → A q) (hint : s.vm.findClass ("[" ++ FieldType.int.toString) = some ct.1) {n : Int32} {N' : Nat} (hn : ¬ n < 0) (hN : n.toNatClampNeg = N') (hbytes : N' * componentBytes .int ≤ 536870912) (hcells : cells + 1 ≤ Rm.cells) (hslots : slots + N' ≤ Rm.slots) (hdg : decode cc pc = .ok (.newarray .int, 2))
    (kk : ∀ (G1 : Gam) (H1 : Heap), ext G (nx S) G1 → ty G1 8 (nx S) → cB D ct G1 A (nA S N') H1 → va_S A H0 H1 locs → W p l e Rm s m args below meth c H1 locs (cells + 1) (slots + N') Q (F0 m (pc + 2) ls (.ref (nx S) :: rest))) : W p l e Rm s m args below meth c H locs cells slots Q (F0 m pc ls (.int n :: rest)) := by
  refine va_newaK X.1.1 X.1.2.1 (atype := .int) (X.1.2.2.2.2 _ (X.2.1 _ kx_Cond_arrayClass_int)) rfl hdg rfl hn hN hbytes hcells hslots hB.2.2.1 fun H1 cA e1 z1 o1 hAr hNm => ?_
  have hcA : cA = ct.1 := Option.some.inj (hNm.symm.trans hint)
  subst hcA
  have e2 : va_at D vwCl (nx S, ccell ct 8 (nA S N') (nx S)) H1 := by
    show H1[nx S]? = some (vp_cell ct.1 (va_up S.2.2.2.1 (nx S) N' (nx S), .inl (va_up S.2.2.2.2.1 (nx S) (fun _ => 0) (nx S))))
    rw [va_up_self, va_up_self]
    exact e1
  obtain ⟨b1, b2⟩ := c_push (S1 := nA S N') hB hS hA e2 (by rw [hB.2.2.1]; exact z1) (fun q hq => o1 q (by rw [← hB.2.2.1]; exact hq)) (fun κ b h => ccell_nA κ b h) rfl (wt_nA hB.2.2.2 (c_nin hB) (by decide))
  exact kk _ H1 (gnew_ext (c_nin hB) (Nat.le_refl _)) gnew_ty b1 b2
/-- an array of references, of kind κ -/
theorem c_newQ (X : cX p s m args c cc nL Ts own D ct) (hB : cB D ct G A S H) (hS : va_S A H0 H locs) (hA : ∀ q, H0.size ≤ q → A q) (κ t0 : Nat) (hκ : 8 ≤ κ) {C : String} {cA0 : ClassId} (hclink : Cond.classLink own idx C ∈ WS) (hover : va_AO C s) (ht : (ctys ct)[t0]? = some (cA0, .object C)) (hcell : ∀ (S : Cst) (a : Nat), ccell ct κ S a = .inl (cA0, gN S a, .inr (.inr (.inr (.inr (gQ S a)))))) {n : Int32} {N' : Nat} (hn : ¬ n < 0) (hN : n.toNatClampNeg = N') (hbytes : N' * 4 ≤ 536870912) (hcells : cells + 1 ≤ Rm.cells) (hslots : slots + N' ≤ Rm.slots) (hdg : decode cc pc = .ok (.anewarray idx, 3))
    (kk : ∀ (G1 : Gam) (H1 : Heap), ext G (nx S) G1 → ty G1 κ (nx S) → cB D ct G1 A (nA S N') H1 → va_S A H0 H1 locs → W p l e Rm s m args below meth c H1 locs (cells + 1) (slots + N') Q (F0 m (pc + 3) ls (.ref (nx S) :: rest))) : W p l e Rm s m args below meth c H locs cells slots Q (F0 m pc ls (.int n :: rest)) := by
  subst hN
  refine W.anew X.1.1 X.1.2.1 X.1.2.2.2.1 (X.1.2.2.2.2 _ (X.2.1 _ hclink)) (va_AO.use hover) rfl hdg rfl hn hbytes hcells hslots fun cA kA comp f1 f2 f3 f4 => ?_
  obtain ⟨kA', comp', g1, g2, g3, g4⟩ := (X.2.2.1.2 t0 _ ht).2
  have hcA : cA = cA0 := Option.some.inj (f1.symm.trans g4)
  subst hcA
  generalize hH1 : H.push ({ cls := cA, slots := Array.replicate n.toNatClampNeg .null, vm := .none } : Cell) = H1
  have z1 : H1.size = H.size + 1 := by rw [← hH1, Array.size_push]
  have e1 : H1[H.size]? = some (arrV cA n.toNatClampNeg (fun _ => .null)) := by rw [← hH1, Array.getElem?_push_size, ← arrV_new]
  have o1 : ∀ q : Nat, q < H.size → H1[q]? = H[q]? := fun q hq => by rw [← hH1, Array.getElem?_push, if_neg (Nat.ne_of_lt hq)]
  have e2 : va_at D vwCl (nx S, ccell ct κ (nA S n.toNatClampNeg) (nx S)) H1 := by
    rw [hcell]
    show H1[nx S]? = some (vp_cell cA (va_up S.2.2.2.1 (nx S) n.toNatClampNeg (nx S), .inr (.inr (.inr (.inr (va_up S.2.2.2.2.2.1 (nx S) (fun _ => none) (nx S)))))))
    rw [va_up_self, va_up_self, ← hB.2.2.1]
    exact e1
  obtain ⟨b1, b2⟩ := c_push (S1 := nA S n.toNatClampNeg) hB hS hA e2 z1 o1 (fun κ b h => ccell_nA κ b h) rfl (wt_nA hB.2.2.2 (c_nin hB) hκ)
  have k := kk _ H1 (gnew_ext (c_nin hB) (Nat.le_refl _)) gnew_ty b1 b2
  rw [← hB.2.2.1] at k
  exact k
theorem lv_aload_nq (hx : p.tables.exec = Jvm.exec) (hb : c.code = cc) {k : Fin 4} {i : Nat} {x : Option Nat} (hdg : decode cc pc = .ok (.aload_n k, 1)) (hi : (k : Nat) = i) (hl : ls[i]? = some (.val (va_rf x)))
    (kk : W p l e Rm s m args below meth c H locs cells slots Q (F0 m (pc + 1) ls (va_rf x :: rest))) : W p l e Rm s m args below meth c H locs cells slots Q (F0 m pc ls rest) := by
  cases x with
  | none => exact lv_aload_nN hx hb hdg hi hl kk
  | some b => exact lv_aload_n hx hb hdg hi hl kk
theorem lv_aloadq (hx : p.tables.exec = Jvm.exec) (hb : c.code = cc) {i : Nat} {x : Option Nat} (hdg : decode cc pc = .ok (.aload i, 2)) (hl : ls[i]? = some (.val (va_rf x)))
    (kk : W p l e Rm s m args below meth c H locs cells slots Q (F0 m (pc + 2) ls (va_rf x :: rest))) : W p l e Rm s m args below meth c H locs cells slots Q (F0 m pc ls rest) := by
  cases x with
  | none => exact lv_aloadN hx hb hdg hl kk
  | some b => exact lv_aload hx hb hdg hl kk
theorem lv_astore_nq (hx : p.tables.exec = Jvm.exec) (hb : c.code = cc) {k : Fin 4} {i nL : Nat} {x : Option Nat} {lv lv' : List (Nat × Value)} (hdg : decode cc pc = .ok (.astore_n k, 1)) (hi : (k : Nat) = i) (h : lv_has ls nL lv) (hn : i < nL) (hl : (i, va_rf x) :: lv.filter (fun q => !(q.1 == i) && !(q.1 + 1 == i && q.2.category == 2)) = lv')
    (kk : ∀ ls' : Array Slot, lv_has ls' nL lv' → W p l e Rm s m args below meth c H locs cells slots Q (F0 m (pc + 1) ls' rest)) : W p l e Rm s m args below meth c H locs cells slots Q (F0 m pc ls (va_rf x :: rest)) := by
  cases x with
  | none => exact lv_astore_nN hx hb hdg hi h hn hl kk
  | some b => exact lv_astore_n hx hb hdg hi h hn hl kk
theorem lv_astoreq (hx : p.tables.exec = Jvm.exec) (hb : c.code = cc) {i nL : Nat} {x : Option Nat} {lv lv' : List (Nat × Value)} (hdg : decode cc pc = .ok (.astore i, 2)) (h : lv_has ls nL lv) (hn : i < nL) (hl : (i, va_rf x) :: lv.filter (fun q => !(q.1 == i) && !(q.1 + 1 == i && q.2.category == 2)) = lv')
    (kk : ∀ ls' : Array Slot, lv_has ls' nL lv' → W p l e Rm s m args below meth c H locs cells slots Q (F0 m (pc + 2) ls' rest)) : W p l e Rm s m args below meth c H locs cells slots Q (F0 m pc ls (va_rf x :: rest)) := by
  cases x with
  | none => exact lv_astoreN hx hb hdg h hn hl kk
  | some b => exact lv_astore hx hb hdg h hn hl kk
/-- calls: what must hold ahead, what holds behind -/
theorem c_preS (X : cX p s m args c cc nL Ts own D ct) (hB : cB D ct G A S H) {As : List Value} : PreS s H (va_Pc As (cW D ct G S)) As :=
  ⟨cW_blind, fun U hU hW => ⟨rfl, by rw [hU]; exact ⟨hB.1, hB.2.1.weaken (fun _ _ _ _ => trivial), hB.2.2⟩, va_K.moved hW.alike X.2.2.1, cNv.warm hW X.2.2.2⟩⟩
theorem c_preV (X : cX p s m args c cc nL Ts own D ct) (hB : cB D ct G A S H) (hk : ty G κ a) (hcell : ccell ct κ S a = .inr (κ, fs)) {r : vw_C} (hc : vwCl[κ]? = some r) {As : List Value} : PreV s H r.1 a (va_Pc (.ref a :: As) (cW D ct G S)) As := by
  obtain ⟨i, hi⟩ := c_at hB hk
  rw [hcell] at hi
  exact ⟨cW_blind, va_recv X.2.2.1 hB.1 hc hi, (c_preS X hB).2⟩
theorem c_own (hB : cB D ct G A S H) (hS : va_S A H0 H locs) (hA : ∀ q, H0.size ≤ q → A q) : ∀ q, cA G (nx S) q → A q := fun q h => by
  rcases h with h | h
  · exact c_in hB h
  · exact hA q (Nat.le_trans hS.1 (by rw [hB.2.2.1]; exact h))
theorem cW_B {t : State} (h : cW D ct G S t) {A : Nat → Prop} (hA : ∀ a ∈ G.1, A a) {H : Heap} (ht : t.heap = H) : cB D ct G A S H := by
  subst ht
  refine ⟨h.1.1, ⟨h.1.2.1.1, fun k q hq => hA _ ?_⟩, h.1.2.2⟩
  obtain ⟨b, hb, e⟩ := List.mem_map.mp (List.mem_of_getElem? hq)
  rw [← e]
  exact hb
theorem c_doF {a0 : Array Value} {st1 : List Value} (hB : cB D ct G A S H) (hS : va_S A H0 H locs) (hA : ∀ q, H0.size ≤ q → A q) (hr : va_Run p l e Rm s m args below meth c H locs cells slots mc ms (F0 m pc ls st0) rest (mq v (cF D ct G Ty S1) (cA G (nx S)) a0) (cA G (nx S))) (h1 : v.toList ++ rest = st1)
    (kk : ∀ (H1 : Heap) (locs1 : List Loc), cB D ct G A S1 H1 → Ty G → va_S A H0 H1 locs1 → W p l e Rm s m args below meth c H1 locs1 (cells + mc) (slots + ms) Q (F0 m (pc + 3) ls st1)) : W p l e Rm s m args below meth c H locs cells slots Q (F0 m pc ls st0) :=
  mq_call hr hS (fun q _ h => c_own hB hS hA q h) (c_own hB hS hA) h1 (fun t H1 locs1 ht _ hb hS1 => kk H1 locs1 (cW_B hb.2 (fun a ha => c_in hB ha) ht) hb.1 hS1)
theorem c_doE {a0 : Array Value} {st1 : List Value} (hB : cB D ct G A S H) (hS : va_S A H0 H locs) (hA : ∀ q, H0.size ≤ q → A q) (hr : va_Run p l e Rm s m args below meth c H locs cells slots mc ms (F0 m pc ls st0) rest (mq v (cE D ct G (nx S) Ty S1) (cA G (nx S)) a0) (cA G (nx S))) (h1 : v.toList ++ rest = st1)
    (kk : ∀ (G' : Gam) (H1 : Heap) (locs1 : List Loc), ext G (nx S) G' → cB D ct G' A S1 H1 → Ty G' → va_S A H0 H1 locs1 → W p l e Rm s m args below meth c H1 locs1 (cells + mc) (slots + ms) Q (F0 m (pc + 3) ls st1)) : W p l e Rm s m args below meth c H locs cells slots Q (F0 m pc ls st0) :=
  mq_call hr hS (fun q _ h => c_own hB hS hA q h) (c_own hB hS hA) h1 (fun t H1 locs1 ht _ hb hS1 => by
    obtain ⟨G', he, hT, hW⟩ := hb
    exact kk G' H1 locs1 he (cW_B hW (fun a ha => c_own hB hS hA a (he.2 a ha)) ht) hT hS1)
theorem c_endF {t : State} (X : cX p s m args c cc nL Ts own D ct) (hB : cB D ct G A S1 H) (hT : Ty G) (hS : va_S A s.heap H locs) (ht : t.heap = H) (hW : s.WarmedH t.vm) : mq v (cF D ct G Ty S1) A args s (.returned v) t := ⟨rfl, ⟨hT, by rw [ht]; exact ⟨hB.1, hB.2.1.weaken (fun _ _ _ _ => trivial), hB.2.2⟩, va_K.moved hW.alike X.2.2.1, cNv.warm hW X.2.2.2⟩, hS.F ht⟩
theorem c_endE {t : State} {sz : Nat} (X : cX p s m args c cc nL Ts own D ct) (he : ext G sz G') (hB : cB D ct G' A S1 H) (hT : Ty G') (hS : va_S A s.heap H locs) (ht : t.heap = H) (hW : s.WarmedH t.vm) : mq v (cE D ct G sz Ty S1) A args s (.returned v) t := ⟨rfl, ⟨G', he, hT, by rw [ht]; exact ⟨hB.1, hB.2.1.weaken (fun _ _ _ _ => trivial), hB.2.2⟩, va_K.moved hW.alike X.2.2.1, cNv.warm hW X.2.2.2⟩, hS.F ht⟩
theorem cMet_of {maxL : Nat} {ret : Option FieldType} (hy : plainName y.cls = true) (hw : ws = Cond.code y cc maxL ret :: WS) (hc : y.cls = own) (hlen : (lg_sl av).length ≤ maxL)
    (body : ∀ (p : Program) (e : Env) (s : State) (m : MethodId) (below : List Frame) (meth : Method) (c : Code), cX p s m av.toArray c cc maxL ws own D ct → meth.sig.returnType = ret → meth.locks = false → meth.name = y.name → ∀ (ls : Array Slot) (A : Nat → Prop), lv_has ls maxL (lv_args 0 av) → cB D ct G A S s.heap → (∀ q, s.heap.size ≤ q → A q) → va_S A s.heap s.heap [] →
      W p l e rm s m av.toArray below meth c s.heap [] 0 0 (MQ below (mq v B A) av.toArray s mc ms A) (F0 m 0 ls [])) : cMet l y ws rm D ct G av S v B mc ms := by
  refine Met.ofW (cc := cc) (maxL := maxL) (ret := ret) hy hw ?_
  intro p e s m args below meth c s₁ Bd hml hv
  obtain ⟨rfl, hB, hK, hNv⟩ := hv
  have hts := atoms_spec (ws := ws) Bd.pre
  have hown : s.vm.findClass own = some m.cls := by rw [← hc]; exact findClass_of_methodNamed Bd.named
  have hl := lv_entry av (n := maxL) hlen
  rw [lg_entry_eq]
  exact body p e s m below meth c ⟨⟨Bd.exec, Bd.bytes, hml, hown, hts⟩, fun w h => by rw [hw]; exact List.mem_cons_of_mem _ h, hK, hNv⟩ Bd.returns Bd.notSynchronized (name_of_methodNamed Bd.named Bd.method).1 _ (cA G (nx S)) hl (cW_B ⟨hB, hK, hNv⟩ (fun a ha => Or.inl ha) rfl) (fun q hq => Or.inr (by rw [← hB.2.2.1]; exact hq)) va_S.rf
end CLS2
