/-! ===== the reference's world: its scalars by the number of their field, its rows by the number of theirs ===== -/
abbrev Rst : Type := (Nat → Int32) × (Nat → Nat → Int32)
def rlen (k : Nat) : Nat := if k < 10 then 8 else if k < 24 then 600 else if k < 28 then 40000 else if k = 28 then 288 else if k = 29 then 864 else if k = 30 then 72 else 864
def rput (R : Rst) (k : Nat) (v : Int32) : Rst := (va_up R.1 k v, R.2)
def rset (R : Rst) (k : Nat) (i : Nat) (v : Int32) : Rst := (R.1, va_up R.2 k (upd (R.2 k) i v))
def rd {β : Type} (R : Rst) (k : Nat) (i : Int32) (f : Int32 → Option β) : Option β := if inb i (rlen k) = true then f (R.2 k i.toNatClampNeg) else none
def wr {β : Type} (R : Rst) (k : Nat) (i v : Int32) (f : Rst → Option β) : Option β := if inb i (rlen k) = true then f (rset R k i.toNatClampNeg v) else none
theorem rd_s {β : Type} {R : Rst} {k : Nat} {i : Int32} {f : Int32 → Option β} {r : β} (h : rd R k i f = some r) : ∃ v, v = R.2 k i.toNatClampNeg ∧ vp_in i (rlen k) ∧ f v = some r := by
  unfold rd at h
  by_cases hi : inb i (rlen k) = true
  · rw [if_pos hi] at h; exact ⟨_, rfl, inb_in hi, h⟩
  · rw [if_neg hi] at h; cases h
theorem wr_s {β : Type} {R : Rst} {k : Nat} {i v : Int32} {f : Rst → Option β} {r : β} (h : wr R k i v f = some r) : ∃ R1, R1 = rset R k i.toNatClampNeg v ∧ vp_in i (rlen k) ∧ f R1 = some r := by
  unfold wr at h
  by_cases hi : inb i (rlen k) = true
  · rw [if_pos hi] at h; exact ⟨_, rfl, inb_in hi, h⟩
  · rw [if_neg hi] at h; cases h
def rids : List Nat := [2, 3, 4, 5, 6, 7, 8, 9, 11, 12, 13, 14, 15, 16, 17, 19, 20, 21, 22, 23, 26, 27, 28, 29, 30, 31]
def rcl (cI cZ : ClassId) (k : Nat) : ClassId := if k = 22 then cZ else if k = 23 then cZ else cI
def rfs (q : Nat → Nat) (R : Rst) : List Value := [.int (R.1 0), .int (R.1 1), .ref (q 2), .ref (q 3), .ref (q 4), .ref (q 5), .ref (q 6), .ref (q 7), .ref (q 8), .ref (q 9), .int (R.1 10), .ref (q 11), .ref (q 12), .ref (q 13), .ref (q 14), .ref (q 15), .ref (q 16), .ref (q 17), .int (R.1 18), .ref (q 19), .ref (q 20), .ref (q 21), .ref (q 22), .ref (q 23), .int (R.1 24), .int (R.1 25), .ref (q 26), .ref (q 27), .ref (q 28), .ref (q 29), .ref (q 30), .ref (q 31)]
def rws (cI cZ : ClassId) (o : Nat) (q : Nat → Nat) (R : Rst) : va_W := (o, .inr (7, rfs q R)) :: rids.map (fun k => (q k, .inl (rcl cI cZ k, rlen k, .inl (R.2 k))))
def rA (o : Nat) (q : Nat → Nat) : Nat → Prop := fun a => a = o ∨ ∃ k ∈ rids, a = q k
def rB (D : va_G) (cI cZ : ClassId) (o : Nat) (q : Nat → Nat) (R : Rst) (H : Heap) : Prop := va_P D vwCl (rws cI cZ o q R) H ∧ va_D (rA o q) (rws cI cZ o q R)
def rW (D : va_G) (cI cZ : ClassId) (o : Nat) (q : Nat → Nat) (R : Rst) (U : State) : Prop := rB D cI cZ o q R U.heap ∧ va_K D vwCl [(cI, .int), (cZ, .boolean)] U
def rMet (l : Launch) (y : MethodName) (ws : List Cond) (rm : Room) (D : va_G) (cI cZ : ClassId) (o : Nat) (q : Nat → Nat) (av : List Value) (R : Rst) (v : Option Value) (R' : Rst) : Prop :=
  Met l y ws rm (va_Pc av (rW D cI cZ o q R)) (mq v (rW D cI cZ o q R') (rA o q)) 0 0 (rA o q)
theorem rW_blind {D : va_G} {cI cZ : ClassId} {o : Nat} {q : Nat → Nat} {R : Rst} {av : List Value} : FrameBlind (va_Pc av (rW D cI cZ o q R)) := fun a U g mk h => ⟨h.1, h.2.1, va_K.moved (u := U) (U := U.calling g mk a) (Vm.Alike.refl U.vm) h.2.2⟩
abbrev rX (p : Program) (s : State) (m : MethodId) (args : Array Value) (c : Code) (cc : ByteArray) (nL : Nat) (Ts : List Cond) (D : va_G) (cI cZ : ClassId) : Prop := CallFix p m c cc nL s args Ts RX7 ∧ (∀ w ∈ wsX70, w ∈ Ts) ∧ va_K D vwCl [(cI, .int), (cZ, .boolean)] s
section REF
variable {p : Program} {l : Launch} {e : Env} {Rm : Room} {s : State} {m : MethodId} {args : Array Value} {below : List Frame} {meth : Method} {c : Code} {H : Heap} {locs : List Loc} {cells slots : Nat} {Q : State → Prop}
variable {pc nL : Nat} {ls : Array Slot} {rest st0 : List Value} {H0 : Heap} {cc : ByteArray} {Ts : List Cond} {D : va_G} {cI cZ : ClassId} {o : Nat} {q : Nat → Nat} {R R' : Rst} {v : Option Value} {y : MethodName} {ws ws' : List Cond} {rm : Room} {av : List Value}
theorem rMet_of {maxL : Nat} {ret : Option FieldType} (hy : plainName y.cls = true) (hw : ws = Cond.code y cc maxL ret :: ws') (hc : y.cls = RX7) (hin : ∀ w ∈ wsX70, w ∈ ws) (hlen : (lg_sl av).length ≤ maxL)
    (body : ∀ (p : Program) (e : Env) (s : State) (m : MethodId) (below : List Frame) (meth : Method) (c : Code), rX p s m av.toArray c cc maxL ws D cI cZ → meth.sig.returnType = ret → meth.locks = false → ∀ ls : Array Slot, lv_has ls maxL (lv_args 0 av) → rB D cI cZ o q R s.heap → va_S (rA o q) s.heap s.heap [] →
      W p l e rm s m av.toArray below meth c s.heap [] 0 0 (MQ below (mq v (rW D cI cZ o q R') (rA o q)) av.toArray s 0 0 (rA o q)) (F0 m 0 ls [])) : rMet l y ws rm D cI cZ o q av R v R' := by
  refine Met.ofW (cc := cc) (maxL := maxL) (ret := ret) hy hw ?_
  intro p e s m args below meth c s₁ B hml hv
  obtain ⟨rfl, hB, hK⟩ := hv
  have hts := atoms_spec (ws := ws) B.pre
  have hown : s.vm.findClass RX7 = some m.cls := by rw [← hc]; exact findClass_of_methodNamed B.named
  have hl := lv_entry av (n := maxL) hlen
  rw [lg_entry_eq]
  exact body p e s m below meth c ⟨⟨B.exec, B.bytes, hml, hown, hts⟩, hin, hK⟩ B.returns B.notSynchronized _ hl hB va_S.rf
theorem r_get (X : rX p s m args c cc nL Ts D cI cZ) (hB : rB D cI cZ o q R H) (k idx : Nat) (hk : k < 32) (hlk : Cond.fieldLink RX7 idx "RangeArenasModel" (TX7 k).2.1 (TX7 k).2.2.1 ∈ Ts) (ht : (TX7 k).1 = "RangeArenasModel") {w : Value} (hv : (rfs q R)[k]? = some w) (hdg : decode cc pc = .ok (.getfield idx, 3))
    (kk : W p l e Rm s m args below meth c H locs cells slots Q (F0 m (pc + 3) ls (w :: rest))) : W p l e Rm s m args below meth c H locs cells slots Q (F0 m pc ls (.ref o :: rest)) :=
  va_get (D := D) (ci := 7) (C := RX7) (T := TX7) (N := 32) X.1.1 X.1.2.1 X.1.2.2.2.2 X.2.1 X.1.2.2.2.1 X.2.2 hB.1 0 rfl rfl k hk (X.1.2.2.2.2 _ hlk) (fun x h => by rw [ht] at h; exact h) hv hdg kk
theorem r_put (X : rX p s m args c cc nL Ts D cI cZ) (hB : rB D cI cZ o q R H) (hS : va_S (rA o q) H0 H locs) (k idx : Nat) (hk : k < 32) (hlk : Cond.fieldLink RX7 idx "RangeArenasModel" (TX7 k).2.1 (TX7 k).2.2.1 ∈ Ts) (ht : (TX7 k).1 = "RangeArenasModel") (hf : (TX7 k).2.2.2 = false) (hd : parseFieldDescriptor (TX7 k).2.2.1 = some .int) {w : Int32}
    (hset : (rws cI cZ o q R).set 0 (o, .inr (7, (rfs q R).set k (.int w))) = rws cI cZ o q (rput R k w)) (hdg : decode cc pc = .ok (.putfield idx, 3))
    (kk : ∀ (H1 : Heap) (locs1 : List Loc), rB D cI cZ o q (rput R k w) H1 → va_S (rA o q) H0 H1 locs1 → W p l e Rm s m args below meth c H1 locs1 cells slots Q (F0 m (pc + 3) ls rest)) : W p l e Rm s m args below meth c H locs cells slots Q (F0 m pc ls (.int w :: .ref o :: rest)) := by
  refine va_put (D := D) (ci := 7) (v := .int w) (ty := .int) (C := RX7) (T := TX7) (N := 32) X.1.1 X.1.2.1 X.1.2.2.2.2 X.2.1 tyX7 tyX7_ok nmX7 X.1.2.2.2.1 X.2.2 hB.1 hB.2 hS 0 rfl rfl k hk (X.1.2.2.2.2 _ hlk) (fun x h => by rw [ht] at h; exact h) hf hd rfl rfl hk hdg (fun H1 locs1 hP hD hS1 => ?_)
  rw [hset] at hP hD
  exact kk H1 locs1 ⟨hP, hD⟩ hS1
theorem r_ld (X : rX p s m args c cc nL Ts D cI cZ) (hB : rB D cI cZ o q R H) (k pos : Nat) (ha : (rws cI cZ o q R)[pos]? = some (q k, .inl (cI, rlen k, .inl (R.2 k)))) {i v : Int32} (hi : vp_in i (rlen k)) (hv : v = R.2 k i.toNatClampNeg) (hdg : decode cc pc = .ok (.iaload, 1))
    (kk : W p l e Rm s m args below meth c H locs cells slots Q (F0 m (pc + 1) ls (.int v :: rest))) : W p l e Rm s m args below meth c H locs cells slots Q (F0 m pc ls (.int i :: .ref (q k) :: rest)) :=
  va_iald X.1.1 X.1.2.1 X.2.2 hB.1 pos 0 ha rfl hi hdg (by rw [← hv]; exact kk)
theorem r_ldz (X : rX p s m args c cc nL Ts D cI cZ) (hB : rB D cI cZ o q R H) (k pos : Nat) (ha : (rws cI cZ o q R)[pos]? = some (q k, .inl (cZ, rlen k, .inl (R.2 k)))) {i v : Int32} (hi : vp_in i (rlen k)) (hv : v = R.2 k i.toNatClampNeg) (hdg : decode cc pc = .ok (.baload, 1))
    (kk : W p l e Rm s m args below meth c H locs cells slots Q (F0 m (pc + 1) ls (.int v :: rest))) : W p l e Rm s m args below meth c H locs cells slots Q (F0 m pc ls (.int i :: .ref (q k) :: rest)) :=
  va_zald X.1.1 X.1.2.1 X.2.2 hB.1 pos 1 ha rfl hi hdg (by rw [← hv]; exact kk)
theorem r_st (X : rX p s m args c cc nL Ts D cI cZ) (hB : rB D cI cZ o q R H) (hS : va_S (rA o q) H0 H locs) (k pos : Nat) (ha : (rws cI cZ o q R)[pos]? = some (q k, .inl (cI, rlen k, .inl (R.2 k)))) {i w : Int32} (hset : (rws cI cZ o q R).set pos (q k, .inl (cI, rlen k, .inl (upd (R.2 k) i.toNatClampNeg w))) = rws cI cZ o q (rset R k i.toNatClampNeg w)) (hi : vp_in i (rlen k)) (hdg : decode cc pc = .ok (.iastore, 1))
    (kk : ∀ (H1 : Heap) (locs1 : List Loc), rB D cI cZ o q (rset R k i.toNatClampNeg w) H1 → va_S (rA o q) H0 H1 locs1 → W p l e Rm s m args below meth c H1 locs1 cells slots Q (F0 m (pc + 1) ls rest)) : W p l e Rm s m args below meth c H locs cells slots Q (F0 m pc ls (.int w :: .int i :: .ref (q k) :: rest)) := by
  refine va_iast X.1.1 X.1.2.1 X.2.2 hB.1 hB.2 hS pos 0 ha rfl hi hdg (fun H1 locs1 hP hD hS1 => ?_)
  rw [hset] at hP hD
  exact kk H1 locs1 ⟨hP, hD⟩ hS1
theorem r_stz (X : rX p s m args c cc nL Ts D cI cZ) (hB : rB D cI cZ o q R H) (hS : va_S (rA o q) H0 H locs) (k pos : Nat) (ha : (rws cI cZ o q R)[pos]? = some (q k, .inl (cZ, rlen k, .inl (R.2 k)))) {i w : Int32} (hset : (rws cI cZ o q R).set pos (q k, .inl (cZ, rlen k, .inl (upd (R.2 k) i.toNatClampNeg (vp_nar .boolean w)))) = rws cI cZ o q (rset R k i.toNatClampNeg (vp_nar .boolean w))) (hi : vp_in i (rlen k)) (hdg : decode cc pc = .ok (.bastore, 1))
    (kk : ∀ (H1 : Heap) (locs1 : List Loc), rB D cI cZ o q (rset R k i.toNatClampNeg (vp_nar .boolean w)) H1 → va_S (rA o q) H0 H1 locs1 → W p l e Rm s m args below meth c H1 locs1 cells slots Q (F0 m (pc + 1) ls rest)) : W p l e Rm s m args below meth c H locs cells slots Q (F0 m pc ls (.int w :: .int i :: .ref (q k) :: rest)) := by
  refine va_zast X.1.1 X.1.2.1 X.2.2 hB.1 hB.2 hS pos 1 ha rfl hi hdg (fun H1 locs1 hP hD hS1 => ?_)
  rw [hset] at hP hD
  exact kk H1 locs1 ⟨hP, hD⟩ hS1
theorem r_callV {bytes : ByteArray} {maxL n idx : Nat} {ret : Option FieldType} {As st1 : List Value} {lv : List (Nat × Value)} (X : rX p s m args c cc nL Ts D cI cZ) (hB : rB D cI cZ o q R H) (hS : va_S (rA o q) H0 H locs) (hM : rMet l y ws rm D cI cZ o q (.ref o :: As) R v R') (cw : CallW Rm s args RX7 RX7 idx y bytes maxL ret ws rm 0 0 n)
    (hl : lv_has ls nL lv) (hn : As.length = n) (hst : st0 = As.reverse ++ .ref o :: rest) (hroom : (rest.map fun v => v.category).sum ≤ 8) (hdg : decode cc pc = .ok (.invokevirtual idx, 3)) (hcs : cells ≤ Rm.cells ∧ slots ≤ Rm.slots) (h1 : v.toList ++ rest = st1)
    (kk : ∀ (H1 : Heap) (locs1 : List Loc), rB D cI cZ o q R' H1 → va_S (rA o q) H0 H1 locs1 → W p l e Rm s m args below meth c H1 locs1 cells slots Q (F0 m (pc + 3) ls st1)) : W p l e Rm s m args below meth c H locs cells slots Q (F0 m pc ls st0) :=
  mq_call (va_runV (As := As) (rest := rest) X.1 hM cw ⟨rW_blind, va_recv X.2.2 hB.1 (ci := 7) (q0 := 0) rfl rfl, fun U hU hW => ⟨rfl, by rw [hU]; exact hB, va_K.moved hW.alike X.2.2⟩⟩ rfl hn hl.1 hst (lv_room hroom) hdg hcs) hS (fun _ _ h => h) (fun _ h => h) h1 (fun t H1 locs1 ht _ hb hS1 => kk H1 locs1 (by rw [← ht]; exact hb.1) hS1)
theorem r_callS {bytes : ByteArray} {maxL n idx : Nat} {ret : Option FieldType} {As st1 : List Value} {lv : List (Nat × Value)} (X : rX p s m args c cc nL Ts D cI cZ) (hB : rB D cI cZ o q R H) (hS : va_S (rA o q) H0 H locs) (hM : rMet l y ws rm D cI cZ o q As R v R') (cw : CallB Rm s args RX7 idx y bytes maxL ret ws rm 0 0 n ∧ (Cond.static y).before args s = true)
    (hl : lv_has ls nL lv) (hn : As.length = n) (hst : st0 = As.reverse ++ rest) (hroom : (rest.map fun v => v.category).sum ≤ 8) (hdg : decode cc pc = .ok (.invokestatic idx, 3)) (hcs : cells ≤ Rm.cells ∧ slots ≤ Rm.slots) (h1 : v.toList ++ rest = st1)
    (kk : ∀ (H1 : Heap) (locs1 : List Loc), rB D cI cZ o q R' H1 → va_S (rA o q) H0 H1 locs1 → W p l e Rm s m args below meth c H1 locs1 cells slots Q (F0 m (pc + 3) ls st1)) : W p l e Rm s m args below meth c H locs cells slots Q (F0 m pc ls st0) :=
  mq_call (va_runS (As := As) (rest := rest) X.1 hM cw ⟨rW_blind, fun U hU hW => ⟨rfl, by rw [hU]; exact hB, va_K.moved hW.alike X.2.2⟩⟩ rfl hn hl.1 hst (lv_room hroom) hdg hcs) hS (fun _ _ h => h) (fun _ h => h) h1 (fun t H1 locs1 ht _ hb hS1 => kk H1 locs1 (by rw [← ht]; exact hb.1) hS1)
theorem r_end {t : State} (X : rX p s m args c cc nL Ts D cI cZ) (hB : rB D cI cZ o q R' H) (hS : va_S (rA o q) s.heap H locs) (ht : t.heap = H) (hW : s.WarmedH t.vm) : mq v (rW D cI cZ o q R') (rA o q) args s (.returned v) t := ⟨rfl, ⟨by rw [ht]; exact hB, va_K.moved hW.alike X.2.2⟩, hS.F ht⟩
theorem r_iret {r : Int32} (X : rX p s m args c cc nL Ts D cI cZ) (hB : rB D cI cZ o q R' H) (hS : va_S (rA o q) s.heap H locs) (hr : meth.sig.returnType = some .int) (hlk : meth.locks = false) (hdg : decode cc pc = .ok (.ireturn, 1)) : W p l e Rm s m args below meth c H locs 0 0 (MQ below (mq (some (.int r)) (rW D cI cZ o q R') (rA o q)) args s 0 0 (rA o q)) (F0 m pc ls [.int r]) :=
  W.iret X.1.1 X.1.2.1 hr (fun t ht hW => r_end X hB hS ht hW) hS.2.2 hdg hlk
theorem r_zret {r : Int32} (X : rX p s m args c cc nL Ts D cI cZ) (hB : rB D cI cZ o q R' H) (hS : va_S (rA o q) s.heap H locs) (hr : meth.sig.returnType = some .boolean) (hlk : meth.locks = false) (hn : narrow .boolean (.int r) = .int r) (hdg : decode cc pc = .ok (.ireturn, 1)) : W p l e Rm s m args below meth c H locs 0 0 (MQ below (mq (some (.int r)) (rW D cI cZ o q R') (rA o q)) args s 0 0 (rA o q)) (F0 m pc ls [.int r]) :=
  W.zret X.1.1 X.1.2.1 hr hn (fun t ht hW => r_end X hB hS ht hW) hS.2.2 hdg hlk
theorem r_lret {r : Int64} (X : rX p s m args c cc nL Ts D cI cZ) (hB : rB D cI cZ o q R' H) (hS : va_S (rA o q) s.heap H locs) (hr : meth.sig.returnType = some .long) (hlk : meth.locks = false) (hdg : decode cc pc = .ok (.lreturn, 1)) : W p l e Rm s m args below meth c H locs 0 0 (MQ below (mq (some (.long r)) (rW D cI cZ o q R') (rA o q)) args s 0 0 (rA o q)) (F0 m pc ls [.long r]) :=
  W.lret X.1.1 X.1.2.1 hr (fun t ht hW => r_end X hB hS ht hW) hS.2.2 hdg hlk
theorem r_vret (X : rX p s m args c cc nL Ts D cI cZ) (hB : rB D cI cZ o q R' H) (hS : va_S (rA o q) s.heap H locs) (hr : meth.sig.returnType = none) (hlk : meth.locks = false) (hdg : decode cc pc = .ok (.return_, 1)) : W p l e Rm s m args below meth c H locs 0 0 (MQ below (mq none (rW D cI cZ o q R') (rA o q)) args s 0 0 (rA o q)) (F0 m pc ls []) :=
  W.vret X.1.1 X.1.2.1 hr (fun t ht hW => r_end X hB hS ht hW) hS.2.2 hdg hlk
end REF
theorem rput_0 (cI cZ : ClassId) (o : Nat) (q : Nat → Nat) (R : Rst) (w : Int32) : (rws cI cZ o q R).set 0 (o, .inr (7, (rfs q R).set 0 (.int w))) = rws cI cZ o q (rput R 0 w) := rfl
theorem rput_1 (cI cZ : ClassId) (o : Nat) (q : Nat → Nat) (R : Rst) (w : Int32) : (rws cI cZ o q R).set 0 (o, .inr (7, (rfs q R).set 1 (.int w))) = rws cI cZ o q (rput R 1 w) := rfl
theorem rput_10 (cI cZ : ClassId) (o : Nat) (q : Nat → Nat) (R : Rst) (w : Int32) : (rws cI cZ o q R).set 0 (o, .inr (7, (rfs q R).set 10 (.int w))) = rws cI cZ o q (rput R 10 w) := rfl
theorem rput_18 (cI cZ : ClassId) (o : Nat) (q : Nat → Nat) (R : Rst) (w : Int32) : (rws cI cZ o q R).set 0 (o, .inr (7, (rfs q R).set 18 (.int w))) = rws cI cZ o q (rput R 18 w) := rfl
theorem rput_24 (cI cZ : ClassId) (o : Nat) (q : Nat → Nat) (R : Rst) (w : Int32) : (rws cI cZ o q R).set 0 (o, .inr (7, (rfs q R).set 24 (.int w))) = rws cI cZ o q (rput R 24 w) := rfl
theorem rput_25 (cI cZ : ClassId) (o : Nat) (q : Nat → Nat) (R : Rst) (w : Int32) : (rws cI cZ o q R).set 0 (o, .inr (7, (rfs q R).set 25 (.int w))) = rws cI cZ o q (rput R 25 w) := rfl
theorem rat_2 (cI cZ : ClassId) (o : Nat) (q : Nat → Nat) (R : Rst) : (rws cI cZ o q R)[1]? = some (q 2, .inl (cI, rlen 2, .inl (R.2 2))) := rfl
theorem rset_2 (cI cZ : ClassId) (o : Nat) (q : Nat → Nat) (R : Rst) (i : Nat) (w : Int32) : (rws cI cZ o q R).set 1 (q 2, .inl (cI, rlen 2, .inl (upd (R.2 2) i w))) = rws cI cZ o q (rset R 2 i w) := rfl
theorem rat_3 (cI cZ : ClassId) (o : Nat) (q : Nat → Nat) (R : Rst) : (rws cI cZ o q R)[2]? = some (q 3, .inl (cI, rlen 3, .inl (R.2 3))) := rfl
theorem rset_3 (cI cZ : ClassId) (o : Nat) (q : Nat → Nat) (R : Rst) (i : Nat) (w : Int32) : (rws cI cZ o q R).set 2 (q 3, .inl (cI, rlen 3, .inl (upd (R.2 3) i w))) = rws cI cZ o q (rset R 3 i w) := rfl
theorem rat_4 (cI cZ : ClassId) (o : Nat) (q : Nat → Nat) (R : Rst) : (rws cI cZ o q R)[3]? = some (q 4, .inl (cI, rlen 4, .inl (R.2 4))) := rfl
theorem rset_4 (cI cZ : ClassId) (o : Nat) (q : Nat → Nat) (R : Rst) (i : Nat) (w : Int32) : (rws cI cZ o q R).set 3 (q 4, .inl (cI, rlen 4, .inl (upd (R.2 4) i w))) = rws cI cZ o q (rset R 4 i w) := rfl
theorem rat_5 (cI cZ : ClassId) (o : Nat) (q : Nat → Nat) (R : Rst) : (rws cI cZ o q R)[4]? = some (q 5, .inl (cI, rlen 5, .inl (R.2 5))) := rfl
theorem rset_5 (cI cZ : ClassId) (o : Nat) (q : Nat → Nat) (R : Rst) (i : Nat) (w : Int32) : (rws cI cZ o q R).set 4 (q 5, .inl (cI, rlen 5, .inl (upd (R.2 5) i w))) = rws cI cZ o q (rset R 5 i w) := rfl
theorem rat_6 (cI cZ : ClassId) (o : Nat) (q : Nat → Nat) (R : Rst) : (rws cI cZ o q R)[5]? = some (q 6, .inl (cI, rlen 6, .inl (R.2 6))) := rfl
theorem rset_6 (cI cZ : ClassId) (o : Nat) (q : Nat → Nat) (R : Rst) (i : Nat) (w : Int32) : (rws cI cZ o q R).set 5 (q 6, .inl (cI, rlen 6, .inl (upd (R.2 6) i w))) = rws cI cZ o q (rset R 6 i w) := rfl
theorem rat_7 (cI cZ : ClassId) (o : Nat) (q : Nat → Nat) (R : Rst) : (rws cI cZ o q R)[6]? = some (q 7, .inl (cI, rlen 7, .inl (R.2 7))) := rfl
theorem rset_7 (cI cZ : ClassId) (o : Nat) (q : Nat → Nat) (R : Rst) (i : Nat) (w : Int32) : (rws cI cZ o q R).set 6 (q 7, .inl (cI, rlen 7, .inl (upd (R.2 7) i w))) = rws cI cZ o q (rset R 7 i w) := rfl
theorem rat_8 (cI cZ : ClassId) (o : Nat) (q : Nat → Nat) (R : Rst) : (rws cI cZ o q R)[7]? = some (q 8, .inl (cI, rlen 8, .inl (R.2 8))) := rfl
theorem rset_8 (cI cZ : ClassId) (o : Nat) (q : Nat → Nat) (R : Rst) (i : Nat) (w : Int32) : (rws cI cZ o q R).set 7 (q 8, .inl (cI, rlen 8, .inl (upd (R.2 8) i w))) = rws cI cZ o q (rset R 8 i w) := rfl
theorem rat_9 (cI cZ : ClassId) (o : Nat) (q : Nat → Nat) (R : Rst) : (rws cI cZ o q R)[8]? = some (q 9, .inl (cI, rlen 9, .inl (R.2 9))) := rfl
theorem rset_9 (cI cZ : ClassId) (o : Nat) (q : Nat → Nat) (R : Rst) (i : Nat) (w : Int32) : (rws cI cZ o q R).set 8 (q 9, .inl (cI, rlen 9, .inl (upd (R.2 9) i w))) = rws cI cZ o q (rset R 9 i w) := rfl
theorem rat_11 (cI cZ : ClassId) (o : Nat) (q : Nat → Nat) (R : Rst) : (rws cI cZ o q R)[9]? = some (q 11, .inl (cI, rlen 11, .inl (R.2 11))) := rfl
theorem rset_11 (cI cZ : ClassId) (o : Nat) (q : Nat → Nat) (R : Rst) (i : Nat) (w : Int32) : (rws cI cZ o q R).set 9 (q 11, .inl (cI, rlen 11, .inl (upd (R.2 11) i w))) = rws cI cZ o q (rset R 11 i w) := rfl
theorem rat_12 (cI cZ : ClassId) (o : Nat) (q : Nat → Nat) (R : Rst) : (rws cI cZ o q R)[10]? = some (q 12, .inl (cI, rlen 12, .inl (R.2 12))) := rfl
theorem rset_12 (cI cZ : ClassId) (o : Nat) (q : Nat → Nat) (R : Rst) (i : Nat) (w : Int32) : (rws cI cZ o q R).set 10 (q 12, .inl (cI, rlen 12, .inl (upd (R.2 12) i w))) = rws cI cZ o q (rset R 12 i w) := rfl
theorem rat_13 (cI cZ : ClassId) (o : Nat) (q : Nat → Nat) (R : Rst) : (rws cI cZ o q R)[11]? = some (q 13, .inl (cI, rlen 13, .inl (R.2 13))) := rfl
theorem rset_13 (cI cZ : ClassId) (o : Nat) (q : Nat → Nat) (R : Rst) (i : Nat) (w : Int32) : (rws cI cZ o q R).set 11 (q 13, .inl (cI, rlen 13, .inl (upd (R.2 13) i w))) = rws cI cZ o q (rset R 13 i w) := rfl
theorem rat_14 (cI cZ : ClassId) (o : Nat) (q : Nat → Nat) (R : Rst) : (rws cI cZ o q R)[12]? = some (q 14, .inl (cI, rlen 14, .inl (R.2 14))) := rfl
theorem rset_14 (cI cZ : ClassId) (o : Nat) (q : Nat → Nat) (R : Rst) (i : Nat) (w : Int32) : (rws cI cZ o q R).set 12 (q 14, .inl (cI, rlen 14, .inl (upd (R.2 14) i w))) = rws cI cZ o q (rset R 14 i w) := rfl
theorem rat_15 (cI cZ : ClassId) (o : Nat) (q : Nat → Nat) (R : Rst) : (rws cI cZ o q R)[13]? = some (q 15, .inl (cI, rlen 15, .inl (R.2 15))) := rfl
theorem rset_15 (cI cZ : ClassId) (o : Nat) (q : Nat → Nat) (R : Rst) (i : Nat) (w : Int32) : (rws cI cZ o q R).set 13 (q 15, .inl (cI, rlen 15, .inl (upd (R.2 15) i w))) = rws cI cZ o q (rset R 15 i w) := rfl
theorem rat_16 (cI cZ : ClassId) (o : Nat) (q : Nat → Nat) (R : Rst) : (rws cI cZ o q R)[14]? = some (q 16, .inl (cI, rlen 16, .inl (R.2 16))) := rfl
theorem rset_16 (cI cZ : ClassId) (o : Nat) (q : Nat → Nat) (R : Rst) (i : Nat) (w : Int32) : (rws cI cZ o q R).set 14 (q 16, .inl (cI, rlen 16, .inl (upd (R.2 16) i w))) = rws cI cZ o q (rset R 16 i w) := rfl
theorem rat_17 (cI cZ : ClassId) (o : Nat) (q : Nat → Nat) (R : Rst) : (rws cI cZ o q R)[15]? = some (q 17, .inl (cI, rlen 17, .inl (R.2 17))) := rfl
theorem rset_17 (cI cZ : ClassId) (o : Nat) (q : Nat → Nat) (R : Rst) (i : Nat) (w : Int32) : (rws cI cZ o q R).set 15 (q 17, .inl (cI, rlen 17, .inl (upd (R.2 17) i w))) = rws cI cZ o q (rset R 17 i w) := rfl
theorem rat_19 (cI cZ : ClassId) (o : Nat) (q : Nat → Nat) (R : Rst) : (rws cI cZ o q R)[16]? = some (q 19, .inl (cI, rlen 19, .inl (R.2 19))) := rfl
theorem rset_19 (cI cZ : ClassId) (o : Nat) (q : Nat → Nat) (R : Rst) (i : Nat) (w : Int32) : (rws cI cZ o q R).set 16 (q 19, .inl (cI, rlen 19, .inl (upd (R.2 19) i w))) = rws cI cZ o q (rset R 19 i w) := rfl
theorem rat_20 (cI cZ : ClassId) (o : Nat) (q : Nat → Nat) (R : Rst) : (rws cI cZ o q R)[17]? = some (q 20, .inl (cI, rlen 20, .inl (R.2 20))) := rfl
theorem rset_20 (cI cZ : ClassId) (o : Nat) (q : Nat → Nat) (R : Rst) (i : Nat) (w : Int32) : (rws cI cZ o q R).set 17 (q 20, .inl (cI, rlen 20, .inl (upd (R.2 20) i w))) = rws cI cZ o q (rset R 20 i w) := rfl
theorem rat_21 (cI cZ : ClassId) (o : Nat) (q : Nat → Nat) (R : Rst) : (rws cI cZ o q R)[18]? = some (q 21, .inl (cI, rlen 21, .inl (R.2 21))) := rfl
theorem rset_21 (cI cZ : ClassId) (o : Nat) (q : Nat → Nat) (R : Rst) (i : Nat) (w : Int32) : (rws cI cZ o q R).set 18 (q 21, .inl (cI, rlen 21, .inl (upd (R.2 21) i w))) = rws cI cZ o q (rset R 21 i w) := rfl
theorem rat_22 (cI cZ : ClassId) (o : Nat) (q : Nat → Nat) (R : Rst) : (rws cI cZ o q R)[19]? = some (q 22, .inl (cZ, rlen 22, .inl (R.2 22))) := rfl
theorem rset_22 (cI cZ : ClassId) (o : Nat) (q : Nat → Nat) (R : Rst) (i : Nat) (w : Int32) : (rws cI cZ o q R).set 19 (q 22, .inl (cZ, rlen 22, .inl (upd (R.2 22) i w))) = rws cI cZ o q (rset R 22 i w) := rfl
theorem rat_23 (cI cZ : ClassId) (o : Nat) (q : Nat → Nat) (R : Rst) : (rws cI cZ o q R)[20]? = some (q 23, .inl (cZ, rlen 23, .inl (R.2 23))) := rfl
theorem rset_23 (cI cZ : ClassId) (o : Nat) (q : Nat → Nat) (R : Rst) (i : Nat) (w : Int32) : (rws cI cZ o q R).set 20 (q 23, .inl (cZ, rlen 23, .inl (upd (R.2 23) i w))) = rws cI cZ o q (rset R 23 i w) := rfl
theorem rat_26 (cI cZ : ClassId) (o : Nat) (q : Nat → Nat) (R : Rst) : (rws cI cZ o q R)[21]? = some (q 26, .inl (cI, rlen 26, .inl (R.2 26))) := rfl
theorem rset_26 (cI cZ : ClassId) (o : Nat) (q : Nat → Nat) (R : Rst) (i : Nat) (w : Int32) : (rws cI cZ o q R).set 21 (q 26, .inl (cI, rlen 26, .inl (upd (R.2 26) i w))) = rws cI cZ o q (rset R 26 i w) := rfl
theorem rat_27 (cI cZ : ClassId) (o : Nat) (q : Nat → Nat) (R : Rst) : (rws cI cZ o q R)[22]? = some (q 27, .inl (cI, rlen 27, .inl (R.2 27))) := rfl
theorem rset_27 (cI cZ : ClassId) (o : Nat) (q : Nat → Nat) (R : Rst) (i : Nat) (w : Int32) : (rws cI cZ o q R).set 22 (q 27, .inl (cI, rlen 27, .inl (upd (R.2 27) i w))) = rws cI cZ o q (rset R 27 i w) := rfl
theorem rat_28 (cI cZ : ClassId) (o : Nat) (q : Nat → Nat) (R : Rst) : (rws cI cZ o q R)[23]? = some (q 28, .inl (cI, rlen 28, .inl (R.2 28))) := rfl
theorem rset_28 (cI cZ : ClassId) (o : Nat) (q : Nat → Nat) (R : Rst) (i : Nat) (w : Int32) : (rws cI cZ o q R).set 23 (q 28, .inl (cI, rlen 28, .inl (upd (R.2 28) i w))) = rws cI cZ o q (rset R 28 i w) := rfl
theorem rat_29 (cI cZ : ClassId) (o : Nat) (q : Nat → Nat) (R : Rst) : (rws cI cZ o q R)[24]? = some (q 29, .inl (cI, rlen 29, .inl (R.2 29))) := rfl
theorem rset_29 (cI cZ : ClassId) (o : Nat) (q : Nat → Nat) (R : Rst) (i : Nat) (w : Int32) : (rws cI cZ o q R).set 24 (q 29, .inl (cI, rlen 29, .inl (upd (R.2 29) i w))) = rws cI cZ o q (rset R 29 i w) := rfl
theorem rat_30 (cI cZ : ClassId) (o : Nat) (q : Nat → Nat) (R : Rst) : (rws cI cZ o q R)[25]? = some (q 30, .inl (cI, rlen 30, .inl (R.2 30))) := rfl
theorem rset_30 (cI cZ : ClassId) (o : Nat) (q : Nat → Nat) (R : Rst) (i : Nat) (w : Int32) : (rws cI cZ o q R).set 25 (q 30, .inl (cI, rlen 30, .inl (upd (R.2 30) i w))) = rws cI cZ o q (rset R 30 i w) := rfl
theorem rat_31 (cI cZ : ClassId) (o : Nat) (q : Nat → Nat) (R : Rst) : (rws cI cZ o q R)[26]? = some (q 31, .inl (cI, rlen 31, .inl (R.2 31))) := rfl
theorem rset_31 (cI cZ : ClassId) (o : Nat) (q : Nat → Nat) (R : Rst) (i : Nat) (w : Int32) : (rws cI cZ o q R).set 26 (q 31, .inl (cI, rlen 31, .inl (upd (R.2 31) i w))) = rws cI cZ o q (rset R 31 i w) := rfl
