/-! ===== methods that may throw ===== -/
abbrev Thr (α : Type) : Type := (Nat × Cst) ⊕ (α × Cst)
def sN (S : Cst) (n : Nat) : Cst := (S.1, S.2.1, S.2.2.1, S.2.2.2.1, S.2.2.2.2.1, S.2.2.2.2.2.1, n)
def exn (k : Nat) : String := if k = 1 then "java/lang/IndexOutOfBoundsException" else if k = 2 then "java/lang/IllegalArgumentException" else "java/util/NoSuchElementException"
def tr {α β : Type} (z : Thr α) (f : α → Cst → Option (Thr β)) : Option (Thr β) := match z with
  | .inl e => some (.inl e)
  | .inr w => f w.1 w.2
theorem tr_l {α β : Type} {e : Nat × Cst} {f : α → Cst → Option (Thr β)} {r : Thr β} (h : tr (.inl e) f = some r) : r = .inl e := (Option.some.inj h).symm
theorem tr_r {α β : Type} {v : α} {S : Cst} {f : α → Cst → Option (Thr β)} {r : Thr β} (h : tr (.inr (v, S)) f = some r) : f v S = some r := h
def tStr : List (Nat × String) := [(26, "quantum or cached"), (38, "source"), (49, "base or size"), (71, "size, way or desk"), (98, "size or desk"), (108, "no such range by take"), (113, "size, align or cross"), (115, "phase"), (142, "no such range by takeWithin"), (145, "low or high"), (190, "no such count"), (197, "no such segment"), (217, "no such thing of a segment"), (223, "no such cache"), (264, "no such thing of a cache"), (277, "no such arena")]
def tZ (b0 : Nat) (U : State) : Prop := (vx_Zq Bundle.tN "UNASSIGNED_STACK" Bundle.steD (fun q => b0 ≤ q) U U.heap ∧ vx_Zq Bundle.tN "SUPPRESSED_SENTINEL" Bundle.listD (fun q => b0 ≤ q) U U.heap) ∧ (va_Nw (.castable "java/lang/IllegalArgumentException" "java/lang/IllegalArgumentException") U ∧ va_Nw (.castable "java/lang/IndexOutOfBoundsException" "java/lang/IndexOutOfBoundsException") U ∧ va_Nw (.castable "java/util/NoSuchElementException" "java/util/NoSuchElementException") U ∧ va_Nw (.declares (Bundle.initS "java/lang/RuntimeException")) U ∧ va_Nw (.declares (Bundle.initS "java/lang/Exception")) U ∧ va_Nw (.declares (Bundle.initS Bundle.tN)) U) ∧ ∀ r ∈ tStr, ∃ sa, vk_R RX6 r.1 r.2 sa U
theorem tZ.same {b0 : Nat} {u U : State} (hv : u.vm = U.vm) (hh : U.heap = u.heap) (Z : tZ b0 u) : tZ b0 U := by
  have ha : u.vm.Alike U.vm := by rw [hv]; exact Vm.Alike.refl U.vm
  refine ⟨⟨?_, ?_⟩, ⟨va_Nw.same rfl hv Z.2.1.1, va_Nw.same rfl hv Z.2.1.2.1, va_Nw.same rfl hv Z.2.1.2.2.1, va_Nw.same rfl hv Z.2.1.2.2.2.1, va_Nw.same rfl hv Z.2.1.2.2.2.2.1, va_Nw.same rfl hv Z.2.1.2.2.2.2.2⟩, fun r hr => ?_⟩
  · rw [hh]; exact vx_Zq.moved ha Z.1.1
  · rw [hh]; exact vx_Zq.moved ha Z.1.2
  · obtain ⟨sa, h⟩ := Z.2.2 r hr
    exact ⟨sa, vk_R.same hv.symm h⟩
theorem tZ.go {b0 : Nat} {s U : State} {A : Nat → Prop} {H : Heap} {locs : List Loc} (Z : tZ b0 s) (hS : va_S A s.heap H locs) (hAb : ∀ q, A q → b0 ≤ q) (hU : U.heap = H) (hW : s.WarmedH U.vm) : tZ b0 U := by
  have hk : ∀ a : Nat, a < s.heap.size → ¬ b0 ≤ a → H[a]? = s.heap[a]? := fun a h1 h2 => hS.2.1 a h1 (fun h => h2 (hAb a h))
  refine ⟨⟨?_, ?_⟩, ⟨va_Nw.warmC hW Z.2.1.1, va_Nw.warmC hW Z.2.1.2.1, va_Nw.warmC hW Z.2.1.2.2.1, va_Nw.warmD hW Z.2.1.2.2.2.1, va_Nw.warmD hW Z.2.1.2.2.2.2.1, va_Nw.warmD hW Z.2.1.2.2.2.2.2⟩, fun r hr => ?_⟩
  · rw [hU]; exact vx_Zq.moved hW.alike (Z.1.1.kept hk)
  · rw [hU]; exact vx_Zq.moved hW.alike (Z.1.2.kept hk)
  · obtain ⟨sa, h⟩ := Z.2.2 r hr
    exact ⟨sa, vk_R.warm hW h⟩
def xW (D : va_G) (ct : ClassId × ClassId × ClassId) (G : Gam) (b0 : Nat) (S : Cst) (U : State) : Prop := cW D ct G S U ∧ tZ b0 U
def tQ {α : Type} (val : α → Option Value) (D : va_G) (ct : ClassId × ClassId × ClassId) (G : Gam) (sz : Nat) (Ty : α → Gam → Prop) (A : Nat → Prop) (res : Thr α) : Array Value → State → Outcome → State → Prop := match res with
  | .inl _ => fun _ _ _ _ => False
  | .inr w => mq (val w.1) (cE D ct G sz (Ty w.1) w.2) A
def tX {α : Type} (D : va_G) (ct : ClassId × ClassId × ClassId) (G : Gam) (sz : Nat) (A : Nat → Prop) (res : Thr α) : String → State → State → Prop := match res with
  | .inl w => fun E st t => E = exn w.1 ∧ va_F A st t ∧ nx w.2 ≤ t.heap.size ∧ ∃ G', ext G sz G' ∧ cB D ct G' (fun _ => True) (sN w.2 t.heap.size) t.heap
  | .inr _ => fun _ _ _ => False
def xMet {α : Type} (l : Launch) (y : MethodName) (ws : List Cond) (rm : Room) (D : va_G) (ct : ClassId × ClassId × ClassId) (G : Gam) (b0 : Nat) (av : List Value) (S : Cst) (val : α → Option Value) (Ty : α → Gam → Prop) (res : Thr α) (mc ms : Nat) : Prop :=
  vx_Met l y ws rm (va_Pc av (xW D ct G b0 S)) (tQ val D ct G (nx S) Ty (cA G (nx S)) res) (tX D ct G (nx S) (cA G (nx S)) res) mc ms (cA G (nx S))
theorem xW_blind {D : va_G} {ct : ClassId × ClassId × ClassId} {G : Gam} {b0 : Nat} {S : Cst} {av : List Value} : FrameBlind (va_Pc av (xW D ct G b0 S)) := fun a U g mk h => ⟨h.1, (cW_blind (av := av) a U g mk ⟨h.1, h.2.1⟩).2, tZ.same (u := U) (U := U.calling g mk a) rfl rfl h.2.2⟩
theorem cB_sN {D : va_G} {ct : ClassId × ClassId × ClassId} {G : Gam} {A : Nat → Prop} {S : Cst} {H H1 : Heap} (hB : cB D ct G A S H) (hz : H.size ≤ H1.size) (ho : ∀ q : Nat, q < H.size → H1[q]? = H[q]?) : cB D ct G A (sN S H1.size) H1 := by
  have e : cws ct G (sN S H1.size) = cws ct G S := va_pl_congr fun b => ccell_congr _ (fun _ => rfl) (fun _ => rfl) (fun _ => rfl) rfl rfl rfl
  refine ⟨?_, ?_, rfl, hB.2.2.2⟩
  · rw [e]; exact hB.1.kept (fun k q hq => ho q.1 ((hB.1 k q hq).lt))
  · rw [e]; exact hB.2.1
theorem th_n_IAE : ∀ w ∈ (vx_atS RX6 28 "java/lang/IllegalArgumentException" ["java/lang/RuntimeException", "java/lang/Exception"]).filter (fun w => !goodWord w), w ∈ [Cond.castable "java/lang/IllegalArgumentException" "java/lang/IllegalArgumentException", Cond.declares (Bundle.initS "java/lang/RuntimeException"), Cond.declares (Bundle.initS "java/lang/Exception"), Cond.declares (Bundle.initS Bundle.tN)] := by decide +kernel
theorem th_g_IAE : ∀ w ∈ Cond.classLink RX6 24 "java/lang/IllegalArgumentException" :: Cond.initialized "java/lang/IllegalArgumentException" :: vx_atS RX6 28 "java/lang/IllegalArgumentException" ["java/lang/RuntimeException", "java/lang/Exception"], vx_ot w = true := by decide +kernel
theorem th_w_IAE : ∀ w ∈ (vx_atS RX6 28 "java/lang/IllegalArgumentException" ["java/lang/RuntimeException", "java/lang/Exception"]).filter goodWord, w ∈ WS := fun _ h => List.mem_append_left _ (List.mem_append_left _ (List.mem_append_right _ h))
theorem th_n_IOB : ∀ w ∈ (vx_atS RX6 279 "java/lang/IndexOutOfBoundsException" ["java/lang/RuntimeException", "java/lang/Exception"]).filter (fun w => !goodWord w), w ∈ [Cond.castable "java/lang/IndexOutOfBoundsException" "java/lang/IndexOutOfBoundsException", Cond.declares (Bundle.initS "java/lang/RuntimeException"), Cond.declares (Bundle.initS "java/lang/Exception"), Cond.declares (Bundle.initS Bundle.tN)] := by decide +kernel
theorem th_g_IOB : ∀ w ∈ Cond.classLink RX6 275 "java/lang/IndexOutOfBoundsException" :: Cond.initialized "java/lang/IndexOutOfBoundsException" :: vx_atS RX6 279 "java/lang/IndexOutOfBoundsException" ["java/lang/RuntimeException", "java/lang/Exception"], vx_ot w = true := by decide +kernel
theorem th_w_IOB : ∀ w ∈ (vx_atS RX6 279 "java/lang/IndexOutOfBoundsException" ["java/lang/RuntimeException", "java/lang/Exception"]).filter goodWord, w ∈ WS := fun _ h => List.mem_append_left _ (List.mem_append_right _ h)
theorem th_n_NSE : ∀ w ∈ (nx_at RX6 192 "java/util/NoSuchElementException" 13 nseB ["java/lang/RuntimeException", "java/lang/Exception"]).filter (fun w => !goodWord w), w ∈ [Cond.castable "java/util/NoSuchElementException" "java/util/NoSuchElementException", Cond.declares (Bundle.initS "java/lang/RuntimeException"), Cond.declares (Bundle.initS "java/lang/Exception"), Cond.declares (Bundle.initS Bundle.tN)] := by decide +kernel
theorem th_g_NSE : ∀ w ∈ Cond.classLink RX6 188 "java/util/NoSuchElementException" :: Cond.initialized "java/util/NoSuchElementException" :: nx_at RX6 192 "java/util/NoSuchElementException" 13 nseB ["java/lang/RuntimeException", "java/lang/Exception"], vx_ot w = true := by decide +kernel
theorem th_w_NSE : ∀ w ∈ (nx_at RX6 192 "java/util/NoSuchElementException" 13 nseB ["java/lang/RuntimeException", "java/lang/Exception"]).filter goodWord, w ∈ WS := fun _ h => List.mem_append_right _ h
section THR
variable {p : Program} {l : Launch} {e : Env} {Rm : Room} {s : State} {m : MethodId} {args : Array Value} {below : List Frame} {meth : Method} {c : Code} {H : Heap} {locs : List Loc} {cells slots : Nat} {Q : State → Prop}
variable {pc nL : Nat} {ls : Array Slot} {rest st0 : List Value} {H0 : Heap} {cc : ByteArray} {Ts : List Cond} {D : va_G} {ct : ClassId × ClassId × ClassId} {G G0 G' : Gam} {A : Nat → Prop} {S S1 : Cst} {y : MethodName} {ws : List Cond} {rm : Room} {av : List Value} {own : String} {b0 sz mc ms : Nat}
theorem xMet_of {α : Type} {val : α → Option Value} {Ty : α → Gam → Prop} {res : Thr α} {maxL : Nat} {ret : Option FieldType} (hb : ∀ a ∈ G.1, b0 ≤ a) (hbn : b0 ≤ nx S) (hy : plainName y.cls = true) (hw : ws = Cond.code y cc maxL ret :: WS) (hc : y.cls = own) (hlen : (lg_sl av).length ≤ maxL)
    (body : ∀ (p : Program) (e : Env) (s : State) (m : MethodId) (below : List Frame) (meth : Method) (c : Code), cX p s m av.toArray c cc maxL ws own D ct → meth.sig.returnType = ret → meth.locks = false → (∀ x ∈ c.exceptionTable.toList, False) → tZ b0 s → ∀ (ls : Array Slot) (A : Nat → Prop), lv_has ls maxL (lv_args 0 av) → cB D ct G A S s.heap → (∀ q, s.heap.size ≤ q → A q) → (∀ q, A q → b0 ≤ q) → va_S A s.heap s.heap [] →
      W p l e rm s m av.toArray below meth c s.heap [] 0 0 (vx_MQ below (tQ val D ct G (nx S) Ty A res) (tX D ct G (nx S) A res) av.toArray s mc ms A) (F0 m 0 ls [])) : xMet l y ws rm D ct G b0 av S val Ty res mc ms := by
  refine vx_ofW (cc := cc) (maxL := maxL) (ret := ret) hy hw ?_
  intro p e s m args below meth c s₁ Bd hml htab hv
  obtain ⟨rfl, ⟨hB, hK, hNv⟩, hZ⟩ := hv
  have hts := atoms_spec (ws := ws) Bd.pre
  have hown : s.vm.findClass own = some m.cls := by rw [← hc]; exact findClass_of_methodNamed Bd.named
  have hl := lv_entry av (n := maxL) hlen
  rw [lg_entry_eq]
  exact body p e s m below meth c ⟨⟨Bd.exec, Bd.bytes, hml, hown, hts⟩, fun w h => by rw [hw]; exact List.mem_cons_of_mem _ h, hK, hNv⟩ Bd.returns Bd.notSynchronized htab hZ _ (cA G (nx S)) hl (cW_B ⟨hB, hK, hNv⟩ (fun a ha => Or.inl ha) rfl) (fun q hq => Or.inr (by rw [← hB.2.2.1]; exact hq)) (fun q hq => hq.elim (fun h => hb q h) (fun h => Nat.le_trans hbn h)) va_S.rf
theorem t_throw {α : Type} {Qc : Array Value → State → Outcome → State → Prop} {lv : List (Nat × Value)} (X : cX p s m args c cc nL Ts RX6 D ct) (Z : tZ b0 s) (hl : l.stackTraces = false) (hB : cB D ct G A S H) (hS : va_S A s.heap H locs) (hext : ext G0 sz G) (hAb : ∀ q, A q → b0 ≤ q) (htab : ∀ x ∈ c.exceptionTable.toList, False) (hlk : meth.locks = false) (hls : lv_has ls nL lv) {cls text : String} {ik is ic : Nat} (k : Nat) (hk : exn k = cls) (hstr : (is, text) ∈ tStr)
    (hfit : Bundle.fit cls = true) (hcl : Cond.classLink RX6 ik cls ∈ WS) (hini : Cond.initialized cls ∈ WS) (hcast : va_Nw (.castable cls cls) s) (h1 : ∀ w ∈ (vx_atS RX6 ic cls ["java/lang/RuntimeException", "java/lang/Exception"]).filter goodWord, w ∈ WS) (h2 : ∀ w ∈ (vx_atS RX6 ic cls ["java/lang/RuntimeException", "java/lang/Exception"]).filter (fun w => !goodWord w), w ∈ [Cond.castable cls cls, Cond.declares (Bundle.initS "java/lang/RuntimeException"), Cond.declares (Bundle.initS "java/lang/Exception"), Cond.declares (Bundle.initS Bundle.tN)]) (h3 : ∀ w ∈ Cond.classLink RX6 ik cls :: Cond.initialized cls :: vx_atS RX6 ic cls ["java/lang/RuntimeException", "java/lang/Exception"], vx_ot w = true)
    (d0 : decode cc pc = .ok (.new ik, 3)) (d3 : decode cc (pc + 3) = .ok (.dup, 1)) (d4 : decode cc (pc + 4) = .ok (.ldc is, 2)) (d6 : decode cc (pc + 6) = .ok (.invokespecial ic, 3)) (d9 : decode cc (pc + 9) = .ok (.athrow, 1))
    (hRframes : 5 < Rm.frames) (hRlocals : (rest.map fun v => v.category).sum + 82 ≤ Rm.locals) (hRcells : cells + 1 ≤ Rm.cells) (hRslots : slots + 6 ≤ Rm.slots) (hc : cells + 1 ≤ mc) (hs : slots + 6 ≤ ms) :
    W p l e Rm s m args below meth c H locs cells slots (vx_MQ below Qc (tX (α := α) D ct G0 sz A (.inl (k, S))) args s mc ms A) (F0 m pc ls rest) := by
  have hts := X.1.2.2.2.2
  obtain ⟨sa, hsa⟩ := Z.2.2 _ hstr
  refine vx_throwS (own := RX6) (cls := cls) (text := text) (names := ["java/lang/RuntimeException", "java/lang/Exception"]) (sa := sa) (A := A) X.1.1 X.1.2.1 hl X.1.2.2.2.1 hfit (by decide +kernel) (hts _ (X.2.1 _ hcl)) (hts _ (X.2.1 _ hini)) hsa (vx_hat (fun w hw => hts _ (X.2.1 _ (h1 w hw))) h2 (vx_c (va_Nw.use rfl hcast) (vx_c (va_Nw.use rfl Z.2.1.2.2.2.1) (vx_c (va_Nw.use rfl Z.2.1.2.2.2.2.1) (vx_c (va_Nw.use rfl Z.2.1.2.2.2.2.2) vx_n))))) h3 (Z.1.1.narrow hAb) (Z.1.2.narrow hAb) hS (hls.1.trans X.1.2.2.1.symm) d0 d3 d4 d6 d9 (fun x hx => absurd (htab x hx) id) hRframes hRlocals hRcells hRslots hlk (fun t ha hz ho => ?_) hS.2.2 hc hs
  refine ⟨hk.symm, ⟨Nat.le_trans hS.1 hz, fun q h4 h5 => (ho q (Nat.lt_of_lt_of_le h4 hS.1)).trans (hS.2.1 q h4 h5)⟩, by rw [← hB.2.2.1]; exact hz, G, hext, ?_⟩
  have h := cB_sN hB hz ho
  exact ⟨h.1, h.2.1.weaken (fun _ _ _ _ => trivial), h.2.2⟩
theorem t_throwW {α : Type} {Qc : Array Value → State → Outcome → State → Prop} {lv : List (Nat × Value)} (X : cX p s m args c cc nL Ts RX6 D ct) (Z : tZ b0 s) (hl : l.stackTraces = false) (hB : cB D ct G A S H) (hS : va_S A s.heap H locs) (hext : ext G0 sz G) (hAb : ∀ q, A q → b0 ≤ q) (htab : ∀ x ∈ c.exceptionTable.toList, False) (hlk : meth.locks = false) (hls : lv_has ls nL lv) {cls text : String} {ik is ic : Nat} (k : Nat) (hk : exn k = cls) (hstr : (is, text) ∈ tStr)
    (hfit : Bundle.fit cls = true) (hcl : Cond.classLink RX6 ik cls ∈ WS) (hini : Cond.initialized cls ∈ WS) (hcast : va_Nw (.castable cls cls) s) (h1 : ∀ w ∈ (vx_atS RX6 ic cls ["java/lang/RuntimeException", "java/lang/Exception"]).filter goodWord, w ∈ WS) (h2 : ∀ w ∈ (vx_atS RX6 ic cls ["java/lang/RuntimeException", "java/lang/Exception"]).filter (fun w => !goodWord w), w ∈ [Cond.castable cls cls, Cond.declares (Bundle.initS "java/lang/RuntimeException"), Cond.declares (Bundle.initS "java/lang/Exception"), Cond.declares (Bundle.initS Bundle.tN)]) (h3 : ∀ w ∈ Cond.classLink RX6 ik cls :: Cond.initialized cls :: vx_atS RX6 ic cls ["java/lang/RuntimeException", "java/lang/Exception"], vx_ot w = true)
    (d0 : decode cc pc = .ok (.new ik, 3)) (d3 : decode cc (pc + 3) = .ok (.dup, 1)) (d4 : decode cc (pc + 4) = .ok (.ldc_w is, 3)) (d6 : decode cc (pc + 7) = .ok (.invokespecial ic, 3)) (d9 : decode cc (pc + 10) = .ok (.athrow, 1))
    (hRframes : 5 < Rm.frames) (hRlocals : (rest.map fun v => v.category).sum + 82 ≤ Rm.locals) (hRcells : cells + 1 ≤ Rm.cells) (hRslots : slots + 6 ≤ Rm.slots) (hc : cells + 1 ≤ mc) (hs : slots + 6 ≤ ms) :
    W p l e Rm s m args below meth c H locs cells slots (vx_MQ below Qc (tX (α := α) D ct G0 sz A (.inl (k, S))) args s mc ms A) (F0 m pc ls rest) := by
  have hts := X.1.2.2.2.2
  obtain ⟨sa, hsa⟩ := Z.2.2 _ hstr
  refine vx_throwSW (own := RX6) (cls := cls) (text := text) (names := ["java/lang/RuntimeException", "java/lang/Exception"]) (sa := sa) (A := A) X.1.1 X.1.2.1 hl X.1.2.2.2.1 hfit (by decide +kernel) (hts _ (X.2.1 _ hcl)) (hts _ (X.2.1 _ hini)) hsa (vx_hat (fun w hw => hts _ (X.2.1 _ (h1 w hw))) h2 (vx_c (va_Nw.use rfl hcast) (vx_c (va_Nw.use rfl Z.2.1.2.2.2.1) (vx_c (va_Nw.use rfl Z.2.1.2.2.2.2.1) (vx_c (va_Nw.use rfl Z.2.1.2.2.2.2.2) vx_n))))) h3 (Z.1.1.narrow hAb) (Z.1.2.narrow hAb) hS (hls.1.trans X.1.2.2.1.symm) d0 d3 d4 d6 d9 (fun x hx => absurd (htab x hx) id) hRframes hRlocals hRcells hRslots hlk (fun t ha hz ho => ?_) hS.2.2 hc hs
  refine ⟨hk.symm, ⟨Nat.le_trans hS.1 hz, fun q h4 h5 => (ho q (Nat.lt_of_lt_of_le h4 hS.1)).trans (hS.2.1 q h4 h5)⟩, by rw [← hB.2.2.1]; exact hz, G, hext, ?_⟩
  have h := cB_sN hB hz ho
  exact ⟨h.1, h.2.1.weaken (fun _ _ _ _ => trivial), h.2.2⟩
theorem t_throwN {α : Type} {Qc : Array Value → State → Outcome → State → Prop} {lv : List (Nat × Value)} (X : cX p s m args c cc nL Ts RX6 D ct) (Z : tZ b0 s) (hl : l.stackTraces = false) (hB : cB D ct G A S H) (hS : va_S A s.heap H locs) (hext : ext G0 sz G) (hAb : ∀ q, A q → b0 ≤ q) (htab : ∀ x ∈ c.exceptionTable.toList, False) (hlk : meth.locks = false) (hls : lv_has ls nL lv) {cls text : String} {ik is ic : Nat} (k : Nat) (hk : exn k = cls) (hstr : (is, text) ∈ tStr)
    (hfit : Bundle.fit cls = true) (hcl : Cond.classLink RX6 ik cls ∈ WS) (hini : Cond.initialized cls ∈ WS) (hcast : va_Nw (.castable cls cls) s) (h1 : ∀ w ∈ (nx_at RX6 ic cls 13 nseB ["java/lang/RuntimeException", "java/lang/Exception"]).filter goodWord, w ∈ WS) (h2 : ∀ w ∈ (nx_at RX6 ic cls 13 nseB ["java/lang/RuntimeException", "java/lang/Exception"]).filter (fun w => !goodWord w), w ∈ [Cond.castable cls cls, Cond.declares (Bundle.initS "java/lang/RuntimeException"), Cond.declares (Bundle.initS "java/lang/Exception"), Cond.declares (Bundle.initS Bundle.tN)]) (h3 : ∀ w ∈ Cond.classLink RX6 ik cls :: Cond.initialized cls :: nx_at RX6 ic cls 13 nseB ["java/lang/RuntimeException", "java/lang/Exception"], vx_ot w = true)
    (d0 : decode cc pc = .ok (.new ik, 3)) (d3 : decode cc (pc + 3) = .ok (.dup, 1)) (d4 : decode cc (pc + 4) = .ok (.ldc is, 2)) (d6 : decode cc (pc + 6) = .ok (.invokespecial ic, 3)) (d9 : decode cc (pc + 9) = .ok (.athrow, 1))
    (hRframes : 5 < Rm.frames) (hRlocals : (rest.map fun v => v.category).sum + 82 ≤ Rm.locals) (hRcells : cells + 1 ≤ Rm.cells) (hRslots : slots + 6 ≤ Rm.slots) (hc : cells + 1 ≤ mc) (hs : slots + 6 ≤ ms) :
    W p l e Rm s m args below meth c H locs cells slots (vx_MQ below Qc (tX (α := α) D ct G0 sz A (.inl (k, S))) args s mc ms A) (F0 m pc ls rest) := by
  have hts := X.1.2.2.2.2
  obtain ⟨sa, hsa⟩ := Z.2.2 _ hstr
  refine nx_throwS (rx := nseB) (ix := 13) (own := RX6) (cls := cls) (text := text) (names := ["java/lang/RuntimeException", "java/lang/Exception"]) (sa := sa) (A := A) X.1.1 X.1.2.1 hl (by decide +kernel) (by decide +kernel) (by decide +kernel) (by decide +kernel) X.1.2.2.2.1 hfit (by decide +kernel) (hts _ (X.2.1 _ hcl)) (hts _ (X.2.1 _ hini)) hsa (vx_hat (fun w hw => hts _ (X.2.1 _ (h1 w hw))) h2 (vx_c (va_Nw.use rfl hcast) (vx_c (va_Nw.use rfl Z.2.1.2.2.2.1) (vx_c (va_Nw.use rfl Z.2.1.2.2.2.2.1) (vx_c (va_Nw.use rfl Z.2.1.2.2.2.2.2) vx_n))))) h3 (Z.1.1.narrow hAb) (Z.1.2.narrow hAb) hS (hls.1.trans X.1.2.2.1.symm) d0 d3 d4 d6 d9 (fun x hx => absurd (htab x hx) id) hRframes hRlocals hRcells hRslots hlk (fun t ha hz ho => ?_) hS.2.2 hc hs
  refine ⟨hk.symm, ⟨Nat.le_trans hS.1 hz, fun q h4 h5 => (ho q (Nat.lt_of_lt_of_le h4 hS.1)).trans (hS.2.1 q h4 h5)⟩, by rw [← hB.2.2.1]; exact hz, G, hext, ?_⟩
  have h := cB_sN hB hz ho
  exact ⟨h.1, h.2.1.weaken (fun _ _ _ _ => trivial), h.2.2⟩
theorem t_throwNW {α : Type} {Qc : Array Value → State → Outcome → State → Prop} {lv : List (Nat × Value)} (X : cX p s m args c cc nL Ts RX6 D ct) (Z : tZ b0 s) (hl : l.stackTraces = false) (hB : cB D ct G A S H) (hS : va_S A s.heap H locs) (hext : ext G0 sz G) (hAb : ∀ q, A q → b0 ≤ q) (htab : ∀ x ∈ c.exceptionTable.toList, False) (hlk : meth.locks = false) (hls : lv_has ls nL lv) {cls text : String} {ik is ic : Nat} (k : Nat) (hk : exn k = cls) (hstr : (is, text) ∈ tStr)
    (hfit : Bundle.fit cls = true) (hcl : Cond.classLink RX6 ik cls ∈ WS) (hini : Cond.initialized cls ∈ WS) (hcast : va_Nw (.castable cls cls) s) (h1 : ∀ w ∈ (nx_at RX6 ic cls 13 nseB ["java/lang/RuntimeException", "java/lang/Exception"]).filter goodWord, w ∈ WS) (h2 : ∀ w ∈ (nx_at RX6 ic cls 13 nseB ["java/lang/RuntimeException", "java/lang/Exception"]).filter (fun w => !goodWord w), w ∈ [Cond.castable cls cls, Cond.declares (Bundle.initS "java/lang/RuntimeException"), Cond.declares (Bundle.initS "java/lang/Exception"), Cond.declares (Bundle.initS Bundle.tN)]) (h3 : ∀ w ∈ Cond.classLink RX6 ik cls :: Cond.initialized cls :: nx_at RX6 ic cls 13 nseB ["java/lang/RuntimeException", "java/lang/Exception"], vx_ot w = true)
    (d0 : decode cc pc = .ok (.new ik, 3)) (d3 : decode cc (pc + 3) = .ok (.dup, 1)) (d4 : decode cc (pc + 4) = .ok (.ldc_w is, 3)) (d6 : decode cc (pc + 7) = .ok (.invokespecial ic, 3)) (d9 : decode cc (pc + 10) = .ok (.athrow, 1))
    (hRframes : 5 < Rm.frames) (hRlocals : (rest.map fun v => v.category).sum + 82 ≤ Rm.locals) (hRcells : cells + 1 ≤ Rm.cells) (hRslots : slots + 6 ≤ Rm.slots) (hc : cells + 1 ≤ mc) (hs : slots + 6 ≤ ms) :
    W p l e Rm s m args below meth c H locs cells slots (vx_MQ below Qc (tX (α := α) D ct G0 sz A (.inl (k, S))) args s mc ms A) (F0 m pc ls rest) := by
  have hts := X.1.2.2.2.2
  obtain ⟨sa, hsa⟩ := Z.2.2 _ hstr
  refine nx_throwSW (rx := nseB) (ix := 13) (own := RX6) (cls := cls) (text := text) (names := ["java/lang/RuntimeException", "java/lang/Exception"]) (sa := sa) (A := A) X.1.1 X.1.2.1 hl (by decide +kernel) (by decide +kernel) (by decide +kernel) (by decide +kernel) X.1.2.2.2.1 hfit (by decide +kernel) (hts _ (X.2.1 _ hcl)) (hts _ (X.2.1 _ hini)) hsa (vx_hat (fun w hw => hts _ (X.2.1 _ (h1 w hw))) h2 (vx_c (va_Nw.use rfl hcast) (vx_c (va_Nw.use rfl Z.2.1.2.2.2.1) (vx_c (va_Nw.use rfl Z.2.1.2.2.2.2.1) (vx_c (va_Nw.use rfl Z.2.1.2.2.2.2.2) vx_n))))) h3 (Z.1.1.narrow hAb) (Z.1.2.narrow hAb) hS (hls.1.trans X.1.2.2.1.symm) d0 d3 d4 d6 d9 (fun x hx => absurd (htab x hx) id) hRframes hRlocals hRcells hRslots hlk (fun t ha hz ho => ?_) hS.2.2 hc hs
  refine ⟨hk.symm, ⟨Nat.le_trans hS.1 hz, fun q h4 h5 => (ho q (Nat.lt_of_lt_of_le h4 hS.1)).trans (hS.2.1 q h4 h5)⟩, by rw [← hB.2.2.1]; exact hz, G, hext, ?_⟩
  have h := cB_sN hB hz ho
  exact ⟨h.1, h.2.1.weaken (fun _ _ _ _ => trivial), h.2.2⟩
theorem t_preV (X : cX p s m args c cc nL Ts own D ct) (Z : tZ b0 s) (hB : cB D ct G A S H) (hS : va_S A s.heap H locs) (hAb : ∀ q, A q → b0 ≤ q) {κ a : Nat} {fs : List Value} (hk : ty G κ a) (hcell : ccell ct κ S a = .inr (κ, fs)) {r : vw_C} (hc : vwCl[κ]? = some r) {As : List Value} : PreV s H r.1 a (va_Pc (.ref a :: As) (xW D ct G b0 S)) As := by
  have h := c_preV X hB hk hcell hc (As := As)
  exact ⟨xW_blind, h.2.1, fun U hU hW => ⟨(h.2.2 U hU hW).1, (h.2.2 U hU hW).2, Z.go hS hAb hU hW⟩⟩
/-- a call of a method that may throw, in one that lets it through -/
theorem t_do {α β : Type} {Qc : Array Value → State → Outcome → State → Prop} {val : α → Option Value} {Ty : α → Gam → Prop} {res : Thr α} {a0 : Array Value} {mc' ms' : Nat} (hB : cB D ct G A S H) (hS : va_S A s.heap H locs) (hA : ∀ q, s.heap.size ≤ q → A q) (hext : ext G0 sz G) (hle : sz ≤ nx S) (htab : ∀ x ∈ c.exceptionTable.toList, False) (hlk : meth.locks = false)
    (hr : vx_Run p l e Rm s m args below meth c H locs cells slots mc' ms' (F0 m pc ls st0) rest (tQ val D ct G (nx S) Ty (cA G (nx S)) res a0) (tX D ct G (nx S) (cA G (nx S)) res) (cA G (nx S))) {res2 : Thr β} (hthr : ∀ w, res = .inl w → res2 = .inl w) (hmc : cells + mc' ≤ mc) (hms : slots + ms' ≤ ms)
    (kk : ∀ (v : α) (S1 : Cst), res = .inr (v, S1) → ∀ (G1 : Gam) (H1 : Heap) (locs1 : List Loc), ext G (nx S) G1 → cB D ct G1 A S1 H1 → Ty v G1 → va_S A s.heap H1 locs1 → W p l e Rm s m args below meth c H1 locs1 (cells + mc') (slots + ms') (vx_MQ below Qc (tX (α := β) D ct G0 sz A res2) args s mc ms A) (F0 m (pc + 3) ls ((val v).toList ++ rest))) :
    W p l e Rm s m args below meth c H locs cells slots (vx_MQ below Qc (tX (α := β) D ct G0 sz A res2) args s mc ms A) (F0 m pc ls st0) := by
  intro T hT X
  rcases hr T hT X with ⟨v', st₀, t, T', L, h0, X', hL, e1, e2, hq, st⟩ | ⟨q, st₀, t, T', L, E, ce, h0, X', hL, e1, e2, hx, hce, hcv, hcl, st⟩
  · cases res with
    | inl w => exact absurd hq id
    | inr w =>
      obtain ⟨v, S1⟩ := w
      obtain ⟨hv, ⟨G1, he, hT1, hW⟩, hF⟩ := hq
      cases hv
      have hS1 := vx_keep (A0 := A) (A1 := cA G (nx S)) h0 e1 hS (fun q _ h => c_own hB hS hA q h) (c_own hB hS hA) hL hF
      have hS1 := hS1.2.2
      obtain ⟨t2, a1, b1⟩ := kk v S1 rfl G1 T'.heap (locs ++ L) he (cW_B hW (fun a ha => c_own hB hS hA a (he.2 a ha)) e1.symm) hT1 hS1 T' rfl X'
      exact ⟨t2, st t2 a1, b1⟩
  · cases res with
    | inr w => exact absurd hx id
    | inl w =>
      obtain ⟨hE, hF, hz, G1, he, hB1⟩ := hx
      have hS1 := vx_keep (A0 := A) (A1 := cA G (nx S)) h0 e1 hS (fun q _ h => c_own hB hS hA q h) (c_own hB hS hA) hL hF
      have hS1 := hS1.2.2
      have hr2 := hthr w rfl
      subst hr2
      have kx : vx_W p l e Rm s m args below meth c T'.heap (locs ++ L) (cells + mc') (slots + ms') (vx_MQ below Qc (tX (α := β) D ct G0 sz A (.inl w)) args s mc ms A) (F0 m pc ls rest) q := by
        refine vx_out (E := E) (ce := ce) (fun x hx => absurd (htab x hx) id) hlk (by rw [e1]; exact hce) hcv hcl (fun t' ht' _ => ?_) hS1.2.2 hmc hms
        have e3 : t'.heap = t.heap := ht'.trans e1
        refine ⟨hE, hS1.F ht', by rw [e3]; exact hz, G1, hext.trans he hle, by rw [e3]; exact hB1⟩
      obtain ⟨t2, a1, b1⟩ := kx T' rfl X'
      exact ⟨t2, st.trans a1, b1⟩
end THR
