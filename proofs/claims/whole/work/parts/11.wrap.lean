/-! ===== the law's own methods around the class's ===== -/
def oCell (cJ : ClassId) (f : Nat → Int64) : Cell := vp_cell cJ (1, .inr (.inl f))
def lZ (b0 : Nat) (cJ : ClassId) (U : State) : Prop := tZ b0 U ∧ va_Nc "java/lang/IllegalArgumentException" "java/lang/IndexOutOfBoundsException" U ∧ va_Nc "java/util/NoSuchElementException" "java/lang/IndexOutOfBoundsException" U ∧ ArrOfT U cJ .long
def lW (D : va_G) (ct : ClassId × ClassId × ClassId) (cJ : ClassId) (G : Gam) (b0 : Nat) (S : Cst) (u : Nat) (f : Nat → Int64) (U : State) : Prop := cW D ct G S U ∧ lZ b0 cJ U ∧ U.heap[u]? = some (oCell cJ f) ∧ u ∉ G.1
def lA (G : Gam) (sz u : Nat) : Nat → Prop := fun q => cA G sz q ∨ q = u
def tS {α : Type} (res : Thr α) : Cst := match res with
  | .inl w => w.2
  | .inr w => w.2
def tO (f : Nat → Int64) (res : Thr Int32) : Nat → Int64 := match res with
  | .inl _ => f
  | .inr w => vp_updL f 0 w.1.toInt64
def wk1 {α : Type} (res : Thr α) : Int32 := match res with
  | .inl _ => 1
  | .inr _ => 0
def wk2 {α : Type} (res : Thr α) : Int32 := match res with
  | .inl w => if w.1 = 1 then 1 else 2
  | .inr _ => 0
def wP {α : Type} (D : va_G) (ct : ClassId × ClassId × ClassId) (cJ : ClassId) (G : Gam) (sz u : Nat) (g : Nat → Int64) (res : Thr α) (t : State) : Prop := ∃ G', ext G sz G' ∧ nx (tS res) ≤ t.heap.size ∧ cB D ct G' (fun _ => True) (sN (tS res) t.heap.size) t.heap ∧ t.heap[u]? = some (oCell cJ g) ∧ u ∉ G'.1
def lMet {α : Type} (l : Launch) (y : MethodName) (ws : List Cond) (rm : Room) (D : va_G) (ct : ClassId × ClassId × ClassId) (cJ : ClassId) (G : Gam) (b0 : Nat) (av : List Value) (S : Cst) (u : Nat) (f g : Nat → Int64) (k : Int32) (res : Thr α) (mc ms : Nat) : Prop :=
  vx_Met l y ws rm (va_Pc av (lW D ct cJ G b0 S u f)) (mq (some (.int k)) (wP D ct cJ G (nx S) u g res) (lA G (nx S) u)) (fun _ _ _ => False) mc ms (lA G (nx S) u)
theorem ArrOfT.mv {u U : State} {cA : ClassId} {ty : FieldType} (h : u.vm.Alike U.vm) (ha : ArrOfT u cA ty) : ArrOfT U cA ty := arrOfT_moved h ha
theorem lZ.same {b0 : Nat} {cJ : ClassId} {u U : State} (hv : u.vm = U.vm) (hh : U.heap = u.heap) (Z : lZ b0 cJ u) : lZ b0 cJ U := by
  have ha : u.vm.Alike U.vm := by rw [hv]; exact Vm.Alike.refl U.vm
  exact ⟨tZ.same hv hh Z.1, va_Nc.moved ha Z.2.1, va_Nc.moved ha Z.2.2.1, ArrOfT.mv ha Z.2.2.2⟩
theorem lZ.go {b0 : Nat} {cJ : ClassId} {s U : State} {A : Nat → Prop} {H : Heap} {locs : List Loc} (Z : lZ b0 cJ s) (hS : va_S A s.heap H locs) (hAb : ∀ q, A q → b0 ≤ q) (hU : U.heap = H) (hW : s.WarmedH U.vm) : lZ b0 cJ U :=
  ⟨Z.1.go hS hAb hU hW, va_Nc.moved hW.alike Z.2.1, va_Nc.moved hW.alike Z.2.2.1, ArrOfT.mv hW.alike Z.2.2.2⟩
theorem lW_blind {D : va_G} {ct : ClassId × ClassId × ClassId} {cJ : ClassId} {G : Gam} {b0 : Nat} {S : Cst} {u : Nat} {f : Nat → Int64} {av : List Value} : FrameBlind (va_Pc av (lW D ct cJ G b0 S u f)) := fun a U g mk h => ⟨h.1, (cW_blind (av := av) a U g mk ⟨h.1, h.2.1⟩).2, lZ.same (u := U) (U := U.calling g mk a) rfl rfl h.2.2.1, h.2.2.2⟩
section WRAP
variable {p : Program} {l : Launch} {e : Env} {Rm : Room} {s : State} {m : MethodId} {args : Array Value} {below : List Frame} {meth : Method} {c : Code} {H : Heap} {locs : List Loc} {cells slots : Nat} {Q : State → Prop}
variable {pc nL : Nat} {ls : Array Slot} {rest st0 : List Value} {cc : ByteArray} {Ts : List Cond} {D : va_G} {ct : ClassId × ClassId × ClassId} {cJ : ClassId} {G G0 G' : Gam} {A : Nat → Prop} {S S1 : Cst} {y : MethodName} {ws : List Cond} {rm : Room} {av : List Value} {own : String} {b0 sz mc ms u : Nat} {f g : Nat → Int64} {k : Int32}
theorem lMet_of {α : Type} {res : Thr α} {maxL : Nat} {ret : Option FieldType} {hh : List (Nat × Nat × Nat × Nat)} (hb : ∀ a ∈ G.1, b0 ≤ a) (hbn : b0 ≤ nx S) (hbu : b0 ≤ u) (hy : plainName y.cls = true) (hw : ws = Cond.codeWith y cc maxL ret hh :: WS) (hc : y.cls = own) (hlen : (lg_sl av).length ≤ maxL)
    (body : ∀ (p : Program) (e : Env) (s : State) (m : MethodId) (below : List Frame) (meth : Method) (c : Code), cX p s m av.toArray c cc maxL ws own D ct → meth.sig.returnType = ret → meth.locks = false → c.exceptionTable.toList = tableOf hh → lZ b0 cJ s → ∀ (ls : Array Slot) (A : Nat → Prop), lv_has ls maxL (lv_args 0 av) → cB D ct G A S s.heap → (∀ q, s.heap.size ≤ q → A q) → (∀ q, A q → b0 ≤ q) → A u → s.heap[u]? = some (oCell cJ f) → u ∉ G.1 → va_S A s.heap s.heap [] →
      W p l e rm s m av.toArray below meth c s.heap [] 0 0 (vx_MQ below (mq (some (.int k)) (wP D ct cJ G (nx S) u g res) A) (fun _ _ _ => False) av.toArray s mc ms A) (F0 m 0 ls [])) : lMet l y ws rm D ct cJ G b0 av S u f g k res mc ms := by
  refine vx_ofWH (cc := cc) (maxL := maxL) (ret := ret) hy hw ?_
  intro p e s m args below meth c s₁ Bd hml hv
  obtain ⟨rfl, ⟨hB, hK, hNv⟩, hZ, hu, hug⟩ := hv
  have hts := atoms_spec (ws := ws) Bd.pre
  have hown : s.vm.findClass own = some m.cls := by rw [← hc]; exact findClass_of_methodNamed Bd.named
  have htab : c.exceptionTable.toList = tableOf hh := vx_table (x := y) Bd (hts _ (by rw [hw]; exact List.mem_cons_self))
  have hl := lv_entry av (n := maxL) hlen
  rw [lg_entry_eq]
  exact body p e s m below meth c ⟨⟨Bd.exec, Bd.bytes, hml, hown, hts⟩, fun w h => by rw [hw]; exact List.mem_cons_of_mem _ h, hK, hNv⟩ Bd.returns Bd.notSynchronized htab hZ _ (lA G (nx S) u) hl (cW_B ⟨hB, hK, hNv⟩ (fun a ha => Or.inl (Or.inl ha)) rfl) (fun q hq => Or.inl (Or.inr (by rw [← hB.2.2.1]; exact hq))) (fun q hq => hq.elim (fun hq => hq.elim (fun h => hb q h) (fun h => Nat.le_trans hbn h)) (fun h => by rw [h]; exact hbu)) (Or.inr rfl) hu hug va_S.rf
/-- the class's method is called; what it throws comes to this method's table -/
theorem w_do {α : Type} {val : α → Option Value} {Ty : α → Gam → Prop} {res : Thr α} {a0 : Array Value} {mc' ms' : Nat} {cu : Cell} (hB : cB D ct G A S H) (hS : va_S A s.heap H locs) (hA : ∀ q, s.heap.size ≤ q → A q) (hu : H[u]? = some cu) (hug : u ∉ G.1)
    (hr : vx_Run p l e Rm s m args below meth c H locs cells slots mc' ms' (F0 m pc ls st0) rest (tQ val D ct G (nx S) Ty (cA G (nx S)) res a0) (tX D ct G (nx S) (cA G (nx S)) res) (cA G (nx S)))
    (kk : ∀ (v : α) (S1 : Cst), res = .inr (v, S1) → ∀ (G1 : Gam) (H1 : Heap) (locs1 : List Loc), ext G (nx S) G1 → cB D ct G1 A S1 H1 → H1[u]? = some cu → u ∉ G1.1 → va_S A s.heap H1 locs1 → W p l e Rm s m args below meth c H1 locs1 (cells + mc') (slots + ms') Q (F0 m (pc + 3) ls ((val v).toList ++ rest)))
    (kx : ∀ (k : Nat) (S1 : Cst), res = .inl (k, S1) → ∀ (G1 : Gam) (H1 : Heap) (locs1 : List Loc) (q : Addr) (ce : Cell), ext G (nx S) G1 → cB D ct G1 A (sN S1 H1.size) H1 → nx S1 ≤ H1.size → H1[u]? = some cu → u ∉ G1.1 → va_S A s.heap H1 locs1 → H1[q]? = some ce → ce.vm = .none → s.vm.findClass (exn k) = some ce.cls → vx_W p l e Rm s m args below meth c H1 locs1 (cells + mc') (slots + ms') Q (F0 m pc ls rest) q) :
    W p l e Rm s m args below meth c H locs cells slots Q (F0 m pc ls st0) := by
  have hul : u < H.size := (Array.getElem?_eq_some_iff.mp hu).1
  have hun : ¬ cA G (nx S) u := fun h => h.elim (fun h => hug h) (fun h => by rw [← hB.2.2.1] at h; exact Nat.lt_irrefl _ (Nat.lt_of_lt_of_le hul h))
  have hue : ∀ G1 : Gam, ext G (nx S) G1 → u ∉ G1.1 := fun G1 he h => hun (he.2 u h)
  intro T hT X
  rcases hr T hT X with ⟨v', st₀, t, T', L, h0, X', hL, e1, e2, hq, st⟩ | ⟨q, st₀, t, T', L, E, ce, h0, X', hL, e1, e2, hx, hce, hcv, hcl, st⟩
  · cases res with
    | inl w => exact absurd hq id
    | inr w =>
      obtain ⟨v, S1⟩ := w
      obtain ⟨hv, ⟨G1, he, hT1, hW⟩, hF⟩ := hq
      cases hv
      have hS1 := vx_keep (A0 := A) (A1 := cA G (nx S)) h0 e1 hS (fun q _ h => c_own hB hS hA q h) (c_own hB hS hA) hL hF
      obtain ⟨t2, a1, b1⟩ := kk v S1 rfl G1 T'.heap (locs ++ L) he (cW_B hW (fun a ha => c_own hB hS hA a (he.2 a ha)) e1.symm) (by rw [hS1.2.1 u hul hun]; exact hu) (hue G1 he) hS1.2.2 T' rfl X'
      exact ⟨t2, st t2 a1, b1⟩
  · cases res with
    | inr w => exact absurd hx id
    | inl w =>
      obtain ⟨k, S1⟩ := w
      obtain ⟨hE, hF, hz, G1, he, hB1⟩ := hx
      have hS1 := vx_keep (A0 := A) (A1 := cA G (nx S)) h0 e1 hS (fun q _ h => c_own hB hS hA q h) (c_own hB hS hA) hL hF
      have hB2 : cB D ct G1 A (sN S1 T'.heap.size) T'.heap := by
        rw [e1]
        refine ⟨hB1.1, ⟨hB1.2.1.1, fun k q hq => c_own hB hS hA _ (he.2 _ ?_)⟩, hB1.2.2⟩
        obtain ⟨b, hb, e⟩ := List.mem_map.mp (List.mem_of_getElem? hq)
        rw [← e]
        exact hb
      obtain ⟨t2, a1, b1⟩ := kx k S1 rfl G1 T'.heap (locs ++ L) q ce he hB2 (by rw [e1]; exact hz) (by rw [hS1.2.1 u hul hun]; exact hu) (hue G1 he) hS1.2.2 (by rw [e1]; exact hce) hcv (by rw [← hE]; exact hcl) T' rfl X'
      exact ⟨t2, st.trans a1, b1⟩
theorem w_end {α : Type} {res : Thr α} {t : State} (he : ext G0 sz G) (hB : cB D ct G A (sN (tS res) H.size) H) (hz : nx (tS res) ≤ H.size) (hu : H[u]? = some (oCell cJ g)) (hug : u ∉ G.1) (hS : va_S A s.heap H locs) (ht : t.heap = H) : mq (some (.int k)) (wP D ct cJ G0 sz u g res) A args s (.returned (some (.int k))) t := by
  refine ⟨rfl, ⟨G, he, by rw [ht]; exact hz, by rw [ht]; exact ⟨hB.1, hB.2.1.weaken (fun _ _ _ _ => trivial), hB.2.2⟩, by rw [ht]; exact hu, hug⟩, hS.F ht⟩
theorem sN_self (S : Cst) : sN S (nx S) = S := rfl
theorem w_last (X : cX p s m args c cc nL Ts own D ct) (hJ : ArrOfT s cJ .long) (hB : cB D ct G A S H) (hS : va_S A s.heap H locs) (hu : H[u]? = some (oCell cJ f)) (hug : u ∉ G.1) (hAu : A u) {x : Int64} (hdg : decode cc pc = .ok (.lastore, 1))
    (kk : ∀ (H1 : Heap) (locs1 : List Loc), cB D ct G A S H1 → H1[u]? = some (oCell cJ (vp_updL f 0 x)) → va_S A s.heap H1 locs1 → W p l e Rm s m args below meth c H1 locs1 cells slots Q (F0 m (pc + 1) ls rest)) : W p l e Rm s m args below meth c H locs cells slots Q (F0 m pc ls (.long x :: .int 0 :: .ref u :: rest)) := by
  refine W.last X.1.1 X.1.2.1 hu (hJ 1 (fun j => .long (f j))) (fun q => by cases q) (by show ¬ ((0 : Int32) < 0 ∨ (arrV _ _ _).slots.size ≤ _); rw [arrV_size]; show ¬ ((0 : Int32) < 0 ∨ 1 ≤ Int32.toNatClampNeg 0); decide) rfl rfl hdg fun H1 e z oq => ?_
  refine kk H1 _ ⟨hB.1.kept (fun k q hq => oq q.1 (fun h => hug ?_)), hB.2.1, z.trans hB.2.2.1, hB.2.2.2⟩ ?_ (hS.put z oq hAu)
  · obtain ⟨b, hb, e9⟩ := List.mem_map.mp (List.mem_of_getElem? hq)
    rw [← h, ← e9]
    exact hb
  · rw [e]
    unfold oCell
    rw [vp_cell_l, vp_cell_l, arrV_store]
    congr 2
    funext q
    by_cases hq : q = (0 : Int32).toNatClampNeg
    · subst hq
      simp [updV, vp_updL]
    · have hq0 : q ≠ 0 := hq
      simp [updV, vp_updL, hq0]
theorem vx_callF {v : Option Value} {B : State → Prop} {st1 : List Value} {a : Array Value} {A0 A1 : Nat → Prop} {H0 : Heap} {free : Addr → Prop} (hr : vx_Run p l e Rm s m args below meth c H locs cells slots mc ms (F0 m pc ls st0) rest (mq v B A1 a) (fun _ _ _ => False) free) (hS : va_S A0 H0 H locs) (hA : ∀ q, q < H.size → A1 q → A0 q) (hf : ∀ q, free q → A0 q) (h1 : v.toList ++ rest = st1)
    (kk : ∀ (t : State) (H1 : Heap) (locs1 : List Loc), t.heap = H1 → B t → (H.size ≤ H1.size ∧ ∀ q : Nat, q < H.size → ¬ A1 q → H1[q]? = H[q]?) → va_S A0 H0 H1 locs1 → W p l e Rm s m args below meth c H1 locs1 (cells + mc) (slots + ms) Q (F0 m (pc + 3) ls st1)) : W p l e Rm s m args below meth c H locs cells slots Q (F0 m pc ls st0) := by
  subst h1
  intro T hT X
  rcases hr T hT X with ⟨v', st₀, t, T', L, h0, X', hL, e1, e2, ⟨hv, hb, hF⟩, st⟩ | ⟨q, st₀, t, T', L, E, ce, h0, X', hL, e1, e2, hx, -⟩
  · cases hv
    have hS1 := vx_keep (A0 := A0) (A1 := A1) h0 e1 hS hA hf hL hF
    obtain ⟨t2, a1, b1⟩ := kk t T'.heap (locs ++ L) e1.symm hb ⟨hS1.1, hS1.2.1⟩ hS1.2.2 T' rfl X'
    exact ⟨t2, st t2 a1, b1⟩
  · exact absurd hx id
theorem mq_callK {v : Option Value} {B : State → Prop} {st1 : List Value} {a : Array Value} {A0 A1 : Nat → Prop} {H0 : Heap} {free : Addr → Prop} (hr : va_Run p l e Rm s m args below meth c H locs cells slots mc ms (F0 m pc ls st0) rest (mq v B A1 a) free) (hS : va_S A0 H0 H locs) (hA : ∀ q, q < H.size → A1 q → A0 q) (hf : ∀ q, free q → A0 q) (h1 : v.toList ++ rest = st1)
    (kk : ∀ (t : State) (H1 : Heap) (locs1 : List Loc), t.heap = H1 → B t → (H.size ≤ H1.size ∧ ∀ q : Nat, q < H.size → ¬ A1 q → H1[q]? = H[q]?) → va_S A0 H0 H1 locs1 → W p l e Rm s m args below meth c H1 locs1 (cells + mc) (slots + ms) Q (F0 m (pc + 3) ls st1)) : W p l e Rm s m args below meth c H locs cells slots Q (F0 m pc ls st0) := by
  subst h1
  intro T hT X
  obtain ⟨v', st₀, t, T', L, h0, X', hL, e1, e2, ⟨hv, hb, hF⟩, st⟩ := hr T hT X
  cases hv
  have hS1 := vx_keep (A0 := A0) (A1 := A1) h0 e1 hS hA hf hL hF
  obtain ⟨t2, a1, b1⟩ := kk t T'.heap (locs ++ L) e1.symm hb ⟨hS1.1, hS1.2.1⟩ hS1.2.2 T' rfl X'
  exact ⟨t2, st t2 a1, b1⟩
end WRAP
abbrev wq_L_make : List Cond := .codeWith yL_make cL_make 6 (some .int) [(0, 12, 15, 13)] :: WS
abbrev wq_L_add : List Cond := .codeWith yL_add cL_add 6 (some .int) [(0, 12, 15, 18), (0, 12, 19, 13)] :: WS
abbrev wq_L_take : List Cond := .codeWith yL_take cL_take 7 (some .int) [(0, 14, 17, 18), (0, 14, 21, 13)] :: WS
abbrev wq_L_give : List Cond := .codeWith yL_give cL_give 7 (some .int) [(0, 14, 17, 18), (0, 14, 21, 13)] :: WS
abbrev wq_L_takeWithin : List Cond := .codeWith yL_takeWithin cL_takeWithin 8 (some .int) [(0, 16, 19, 18), (0, 16, 23, 13)] :: WS
abbrev wq_L_giveWithin : List Cond := .codeWith yL_giveWithin cL_giveWithin 6 (some .int) [(0, 12, 15, 18), (0, 12, 19, 13)] :: WS
abbrev wq_L_bounds : List Cond := .codeWith yL_bounds cL_bounds 5 (some .int) [(0, 7, 10, 18), (0, 7, 14, 13)] :: WS
abbrev wq_L_purge : List Cond := .codeWith yL_purge cL_purge 4 (some .int) [(0, 9, 12, 18)] :: WS
abbrev wq_L_count : List Cond := .codeWith yL_count cL_count 5 (some .int) [(0, 10, 13, 18), (0, 10, 17, 46)] :: WS
abbrev wq_L_segment : List Cond := .codeWith yL_segment cL_segment 6 (some .int) [(0, 12, 15, 18), (0, 12, 19, 46)] :: WS
abbrev wq_L_cache : List Cond := .codeWith yL_cache cL_cache 6 (some .int) [(0, 12, 15, 18), (0, 12, 19, 46)] :: WS
abbrev wq_L_where : List Cond := .codeWith yL_where cL_where 5 (some .int) [(0, 10, 13, 18)] :: WS
