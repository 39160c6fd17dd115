/-! ===== the law's rows ===== -/
theorem gl_w {c1 : Cond} (h : c1 ∈ WS) : GoodIn WS (c1 :: WS) := by
  intro w hw
  rcases List.mem_cons.mp hw with rfl | hw
  · exact ⟨h, good_of_word (ws_good _ h)⟩
  · exact ⟨hw, good_of_word (ws_good _ hw)⟩
theorem gl_V {c1 : Cond} {own C : String} {idx : Nat} {y : MethodName} (h1 : Cond.methodLink own idx y ∈ WS) (h2 : Cond.instanceMethod y ∈ WS) (h3 : Cond.selects C y y ∈ WS) (h4 : Cond.initialized C ∈ WS) (h5 : c1 ∈ WS) : GoodIn WS (wsV own idx C y (c1 :: WS)) := by
  intro w hw
  unfold wsV at hw
  rcases List.mem_append.mp hw with hw | hw
  · have hm : w ∈ WS := by
      simp only [List.mem_cons, List.not_mem_nil, or_false] at hw
      rcases hw with rfl | rfl | rfl | rfl <;> assumption
    exact ⟨hm, good_of_word (ws_good _ hm)⟩
  · exact gl_w h5 w hw
theorem gl_S {c1 : Cond} {own : String} {idx : Nat} {y : MethodName} (h1 : Cond.methodLink own idx y ∈ WS) (h2 : Cond.static y ∈ WS) (h4 : Cond.initialized y.cls ∈ WS) (h5 : c1 ∈ WS) : GoodIn WS (va_wsS own idx y (c1 :: WS)) := by
  intro w hw
  unfold va_wsS at hw
  rcases List.mem_append.mp hw with hw | hw
  · have hm : w ∈ WS := by
      simp only [List.mem_cons, List.not_mem_nil, or_false] at hw
      rcases hw with rfl | rfl | rfl <;> assumption
    exact ⟨hm, good_of_word (ws_good _ hm)⟩
  · exact gl_w h5 w hw
/-- the law's world: the class's part, the reference's part, the row 'out' -/
def LWd (D : va_G) (ct : ClassId × ClassId × ClassId) (cZ cJ : ClassId) (b0 x o : Nat) (q : Nat → Nat) (u : Nat) (G : Gam) (S : Cst) (R : Rst) (f : Nat → Int64) (H : Heap) : Prop :=
  cB D ct G (fun a => b0 ≤ a) S H ∧ rB D ct.1 cZ o q R H ∧ H[u]? = some (oCell cJ f) ∧ (∀ a ∈ G.1, ¬ rA o q a ∧ a ≠ u) ∧ (∀ a, rA o q a → b0 ≤ a ∧ a ≠ u) ∧ b0 ≤ u ∧ ty G 6 x
section LAWR
variable {p : Program} {l : Launch} {e : Env} {Rm : Room} {s : State} {m : MethodId} {args : Array Value} {below : List Frame} {meth : Method} {c : Code} {H H1 : Heap} {locs : List Loc} {cells slots : Nat} {Q : State → Prop}
variable {pc nL : Nat} {ls : Array Slot} {rest st0 : List Value} {cc : ByteArray} {D : va_G} {ct : ClassId × ClassId × ClassId} {cZ cJ : ClassId} {G : Gam} {S S1 : Cst} {R R' : Rst} {f g : Nat → Int64} {y : MethodName} {ws : List Cond} {rm : Room} {b0 x o u mc ms n idx maxL : Nat} {q : Nat → Nat} {k : Int32} {bytes : ByteArray} {ret : Option FieldType} {hh : List (Nat × Nat × Nat × Nat)} {As : List Value} {lv : List (Nat × Value)} {v : Option Value}
theorem rB_lt (h : rB D ct.1 cZ o q R H) {a : Nat} (ha : rA o q a) : a < H.size := by
  rcases ha with rfl | ⟨k, hk, rfl⟩
  · exact (h.1 0 _ rfl).lt
  · have hm : (q k, (Sum.inl (rcl ct.1 cZ k, rlen k, .inl (R.2 k)) : va_E)) ∈ rws ct.1 cZ o q R := List.mem_cons_of_mem _ (List.mem_map.mpr ⟨k, hk, rfl⟩)
    obtain ⟨i, hi⟩ := List.getElem?_of_mem hm
    exact (h.1 i _ hi).lt
theorem rB_in (h : rB D ct.1 cZ o q R H) {i : Nat} {z : Nat × va_E} (hz : (rws ct.1 cZ o q R)[i]? = some z) : rA o q z.1 := h.2.2 i z hz
theorem rB_kept (h : rB D ct.1 cZ o q R H) (hk : ∀ a, rA o q a → H1[a]? = H[a]?) : rB D ct.1 cZ o q R H1 := ⟨h.1.kept (fun i z hz => hk z.1 (rB_in h hz)), h.2⟩
theorem cB_kept {A : Nat → Prop} (h : cB D ct G A S H) (hz : H.size ≤ H1.size) (hk : ∀ a ∈ G.1, H1[a]? = H[a]?) : cB D ct G A (sN S H1.size) H1 := by
  have e : cws ct G (sN S H1.size) = cws ct G S := va_pl_congr fun b => ccell_congr _ (fun _ => rfl) (fun _ => rfl) (fun _ => rfl) rfl rfl rfl
  refine ⟨?_, ?_, rfl, h.2.2.2⟩
  · rw [e]
    refine h.1.kept (fun i z hz => hk z.1 ?_)
    obtain ⟨b, hb, e9⟩ := List.mem_map.mp (List.mem_of_getElem? hz)
    rw [← e9]
    exact hb
  · rw [e]; exact h.2.1
theorem L_wrap {α : Type} {res : Thr α} (X : cX p s m args c cc nL WS RL D ct) (Z : lZ b0 cJ s) (hL : LWd D ct cZ cJ b0 x o q u G S R f H) (hS : va_S (fun a => b0 ≤ a) s.heap H locs) (hb : s.heap.size = b0) (hM : lMet l y ws rm D ct cJ G b0 As S u f g k res mc ms) (cw : vx_CSW Rm s args RL idx y bytes maxL ret hh ws rm mc ms n) (hl : lv_has ls nL lv) (hn : As.length = n) (hst : st0 = As.reverse ++ rest) (hroom : (rest.map fun v => v.category).sum ≤ 8) (hdg : decode cc pc = .ok (.invokestatic idx, 3)) (hf : cells + mc ≤ Rm.cells ∧ slots + ms ≤ Rm.slots)
    (kk : ∀ (G1 : Gam) (H1 : Heap) (locs1 : List Loc), LWd D ct cZ cJ b0 x o q u G1 (sN (tS res) H1.size) R g H1 → nx (tS res) ≤ H1.size → va_S (fun a => b0 ≤ a) s.heap H1 locs1 → W p l e Rm s m args below meth c H1 locs1 (cells + mc) (slots + ms) Q (F0 m (pc + 3) ls (.int k :: rest))) : W p l e Rm s m args below meth c H locs cells slots Q (F0 m pc ls st0) := by
  obtain ⟨hB, hR, hu, hg, hr, hbu, hx⟩ := hL
  have hbs : b0 ≤ nx S := by rw [← hB.2.2.1, ← hb]; exact hS.1
  have hug : u ∉ G.1 := fun h => (hg u h).2 rfl
  have hown : ∀ a, lA G (nx S) u a → b0 ≤ a := fun a h => h.elim (fun h => h.elim (fun h => c_in hB h) (fun h => Nat.le_trans hbs h)) (fun h => by rw [h]; exact hbu)
  have hul : u < H.size := (Array.getElem?_eq_some_iff.mp hu).1
  refine vx_callF (vx_runSX (As := As) (rest := rest) X.1 hM cw ⟨lW_blind, fun U hU hW => ⟨rfl, ⟨by rw [hU]; exact ⟨hB.1, hB.2.1.weaken (fun _ _ _ _ => trivial), hB.2.2⟩, va_K.moved hW.alike X.2.2.1, cNv.warm hW X.2.2.2⟩, Z.go hS (fun _ h => h) hU hW, by rw [hU]; exact hu, hug⟩⟩ rfl hn hl.1 hst (lv_room hroom) hdg hf) hS (fun a _ h => hown a h) hown rfl (fun t H1 locs1 ht hP hk hS1 => ?_)
  obtain ⟨G1, he, hz, hB1, hu1, hug1⟩ := hP
  rw [ht] at hz hB1 hu1
  have hG1 : ∀ a ∈ G1.1, cA G (nx S) a := fun a ha => he.2 a ha
  have hkr : ∀ a, rA o q a → H1[a]? = H[a]? := fun a ha => hk.2 a (rB_lt hR ha) (fun h => h.elim (fun h => h.elim (fun h => (hg a h).1 ha) (fun h => by rw [← hB.2.2.1] at h; exact Nat.lt_irrefl _ (Nat.lt_of_lt_of_le (rB_lt hR ha) h))) (fun h => (hr a ha).2 h))
  refine kk G1 H1 locs1 ⟨⟨hB1.1, ⟨hB1.2.1.1, fun i z hz => hown _ (Or.inl (hG1 _ ?_))⟩, hB1.2.2⟩, rB_kept hR hkr, hu1, fun a ha => ⟨fun h => ?_, fun h => hug1 (by rw [← h]; exact ha)⟩, hr, hbu, he.1 _ _ hx⟩ hz hS1
  · obtain ⟨b, hb, e9⟩ := List.mem_map.mp (List.mem_of_getElem? hz)
    rw [← e9]
    exact hb
  · rcases hG1 a ha with h2 | h2
    · exact (hg a h2).1 h
    · rw [← hB.2.2.1] at h2
      exact Nat.lt_irrefl _ (Nat.lt_of_lt_of_le (rB_lt hR h) h2)
theorem L_ref (X : cX p s m args c cc nL WS RL D ct) (hKr : va_K D vwCl [(ct.1, .int), (cZ, .boolean)] s) (hL : LWd D ct cZ cJ b0 x o q u G S R f H) (hS : va_S (fun a => b0 ≤ a) s.heap H locs) (hM : rMet l y ws rm D ct.1 cZ o q (.ref o :: As) R v R') (cw : CallW Rm s args RL RX7 idx y bytes maxL ret ws rm 0 0 n) (hl : lv_has ls nL lv) (hn : As.length = n) (hst : st0 = As.reverse ++ .ref o :: rest) (hroom : (rest.map fun v => v.category).sum ≤ 8) (hdg : decode cc pc = .ok (.invokevirtual idx, 3)) (hcs : cells ≤ Rm.cells ∧ slots ≤ Rm.slots) {st1 : List Value} (h1 : v.toList ++ rest = st1)
    (kk : ∀ (H1 : Heap) (locs1 : List Loc), LWd D ct cZ cJ b0 x o q u G (sN S H1.size) R' f H1 → nx S ≤ H1.size → va_S (fun a => b0 ≤ a) s.heap H1 locs1 → W p l e Rm s m args below meth c H1 locs1 cells slots Q (F0 m (pc + 3) ls st1)) : W p l e Rm s m args below meth c H locs cells slots Q (F0 m pc ls st0) := by
  obtain ⟨hB, hR, hu, hg, hr, hbu, hx⟩ := hL
  refine mq_callK (va_runV (As := As) (rest := rest) X.1 hM cw ⟨rW_blind, va_recv hKr hR.1 (ci := 7) (q0 := 0) rfl rfl, fun U hU hW => ⟨rfl, by rw [hU]; exact hR, va_K.moved hW.alike hKr⟩⟩ rfl hn hl.1 hst (lv_room hroom) hdg hcs) hS (fun a _ h => (hr a h).1) (fun a h => (hr a h).1) h1 (fun t H1 locs1 ht hb hk hS1 => ?_)
  have hR1 : rB D ct.1 cZ o q R' H1 := by rw [← ht]; exact hb.1
  refine kk H1 locs1 ⟨cB_kept hB hk.1 (fun a ha => hk.2 a (by rw [hB.2.2.1]; exact c_lt hB ha) (hg a ha).1), hR1, ?_, hg, hr, hbu, hx⟩ (by rw [← hB.2.2.1]; exact hk.1) hS1
  rw [hk.2 u (Array.getElem?_eq_some_iff.mp hu).1 (fun h => (hr u h).2 rfl)]
  exact hu
theorem L_cls {Ty : Gam → Prop} (X : cX p s m args c cc nL WS RL D ct) (hL : LWd D ct cZ cJ b0 x o q u G S R f H) (hS : va_S (fun a => b0 ≤ a) s.heap H locs) (hb : s.heap.size = b0) (hM : cMet l y ws rm D ct G (.ref x :: As) S v (cF D ct G Ty S) 0 0) (cw : CallW Rm s args RL RX6 idx y bytes maxL ret ws rm 0 0 n) (hl : lv_has ls nL lv) (hn : As.length = n) (hst : st0 = As.reverse ++ .ref x :: rest) (hroom : (rest.map fun v => v.category).sum ≤ 8) (hdg : decode cc pc = .ok (.invokevirtual idx, 3)) (hcs : cells ≤ Rm.cells ∧ slots ≤ Rm.slots) {st1 : List Value} (h1 : v.toList ++ rest = st1)
    (kk : ∀ (H1 : Heap) (locs1 : List Loc), LWd D ct cZ cJ b0 x o q u G S R f H1 → va_S (fun a => b0 ≤ a) s.heap H1 locs1 → W p l e Rm s m args below meth c H1 locs1 cells slots Q (F0 m (pc + 3) ls st1)) : W p l e Rm s m args below meth c H locs cells slots Q (F0 m pc ls st0) := by
  obtain ⟨hB, hR, hu, hg, hr, hbu, hx⟩ := hL
  have hA : ∀ a, s.heap.size ≤ a → b0 ≤ a := fun a h => by rw [← hb]; exact h
  have hun : ∀ a, a < H.size → a ∉ G.1 → ¬ cA G (nx S) a := fun a h1 h2 h => h.elim (fun h => h2 h) (fun h => by rw [← hB.2.2.1] at h; exact Nat.lt_irrefl _ (Nat.lt_of_lt_of_le h1 h))
  refine mq_callK (va_runV (As := As) (rest := rest) X.1 hM cw (c_preV X hB hx rfl rfl) rfl hn hl.1 hst (lv_room hroom) hdg hcs) hS (fun a _ h => c_own hB hS hA a h) (c_own hB hS hA) h1 (fun t H1 locs1 ht hb hk hS1 => ?_)
  refine kk H1 locs1 ⟨cW_B hb.2 (fun a ha => c_in hB ha) ht, rB_kept hR (fun a ha => hk.2 a (rB_lt hR ha) (hun a (rB_lt hR ha) (fun h => (hg a h).1 ha))), ?_, hg, hr, hbu, hx⟩ hS1
  have hul : u < H.size := (Array.getElem?_eq_some_iff.mp hu).1
  rw [hk.2 u hul (hun u hul (fun h => (hg u h).2 rfl))]
  exact hu
theorem L_lald (X : cX p s m args c cc nL WS RL D ct) (Z : lZ b0 cJ s) (hL : LWd D ct cZ cJ b0 x o q u G S R f H) (hdg : decode cc pc = .ok (.laload, 1))
    (kk : W p l e Rm s m args below meth c H locs cells slots Q (F0 m (pc + 1) ls (.long (f 0) :: rest))) : W p l e Rm s m args below meth c H locs cells slots Q (F0 m pc ls (.int 0 :: .ref u :: rest)) := by
  refine W.lald (v := .long (f 0)) X.1.1 X.1.2.1 hL.2.2.1 (Z.2.2.2 1 (fun j => .long (f j))) (fun q => by cases q) (by show ¬ ((0 : Int32) < 0 ∨ (arrV _ _ _).slots.size ≤ _); rw [arrV_size]; show ¬ ((0 : Int32) < 0 ∨ 1 ≤ Int32.toNatClampNeg 0); decide) ?_ rfl rfl hdg kk
  show (arrV _ _ _).slots[_]? = _
  rw [arrV_read _ _ (show Int32.toNatClampNeg 0 < 1 by decide)]
  rfl
end LAWR
