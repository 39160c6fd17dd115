/-! ===== the start ===== -/
theorem st_tw : ∀ r ∈ tStr, Cond.stringRef RX6 r.1 r.2 ∈ lw_tbl := by decide +kernel
theorem st_fw : ∀ r ∈ tStr, Cond.exactly (.string RX6 r.1) "java/lang/String" ∈ flatC (Jvm.Cond.and given_1 narrow_1) := by decide +kernel
theorem st_arr {args : Array Value} {s : State} {ty : FieldType} (h : (Cond.arrayClass ty).before args s = true) (hty : ∀ C, ty ≠ .object C) : ∃ cA : ClassId, ArrOfT s cA ty ∧ va_RA s cA ty := by
  obtain ⟨c, k, comp, h1, h2, h3⟩ := Cond.arrayClass_spec h
  refine ⟨c, fun n z => ⟨fun k h => (by cases h), k, h2, comp, h3⟩, ?_⟩
  cases ty <;> first | exact h1 | exact absurd rfl (hty _)
theorem st_over {args : Array Value} {s : State} {C : String} (h : (Cond.arrayOver (.object C)).before args s = true) : ∃ cA : ClassId, ArrOfT s cA (.object C) ∧ va_RA s cA (.object C) := by
  obtain ⟨comp, c, k, h1, h2, h3, h4, h5⟩ := Cond.arrayOver_spec h
  exact ⟨c, fun n z => ⟨fun k h => (by cases h), k, h3, comp, h4⟩, k, comp, h3, h4, h1, h5⟩
set_option maxHeartbeats 8000000 in
set_option maxRecDepth 100000 in
theorem whole_start {p : Program} {e : Env} {s : State} {m : MethodId} {below : List Frame} {meth : Method} {c : Code} (l : Launch) (hl0 : l.stackTraces = false) {b L : Nat} {xs : Nat → Int32} (hL : L ≤ 3072) (C0 : lw_At p s m meth c b L xs) : W p l e room_1 s m #[Value.ref b] below meth c s.heap [] 0 0 (lw_Z below #[Value.ref b] s) (entryFrame m ([Value.ref b] : List Value).toArray 7) := by
  obtain ⟨hx, hb, hr, hml, hown, htb, hX, hbl, hlocks, hgv⟩ := id C0
  have hfl := flat_of_before _ hgv
  have hts : ∀ w ∈ WS, w.before #[Value.ref b] s = true := fun w h => htb w (ws_in w h)
  obtain ⟨c0, iS0, hKn0⟩ := u_known (C := RX0) (T := TX0) (N := 16) (n := 16) hts kw_X0 (hts (.instantiable RX0 16) kit_RX0)
  obtain ⟨c1, iS1, hKn1⟩ := u_known (C := RX1) (T := TX1) (N := 6) (n := 6) hts kw_X1 (hts (.instantiable RX1 6) kit_RX1)
  obtain ⟨c2, iS2, hKn2⟩ := u_known (C := RX2) (T := TX2) (N := 4) (n := 4) hts kw_X2 (hts (.instantiable RX2 4) kit_RX2)
  obtain ⟨c3, iS3, hKn3⟩ := u_known (C := RX3) (T := TX3) (N := 2) (n := 2) hts kw_X3 (hts (.instantiable RX3 2) kit_RX3)
  obtain ⟨c4, iS4, hKn4⟩ := u_known (C := RX4) (T := TX4) (N := 2) (n := 2) hts kw_X4 (hts (.instantiable RX4 2) kit_RX4)
  obtain ⟨c5, iS5, hKn5⟩ := u_known (C := RX5) (T := TX5) (N := 12) (n := 12) hts kw_X5 (hts (.instantiable RX5 12) kit_RX5)
  obtain ⟨c6, iS6, hKn6⟩ := u_known (C := RX6) (T := TX6) (N := 2) (n := 2) hts kw_X6 (hts (.instantiable RX6 2) kit_RX6)
  obtain ⟨c7, iS7, hKn7⟩ := u_known (C := RX7) (T := TX7) (N := 32) (n := 32) hts kw_X7 (hts (.instantiable RX7 32) kit_RX7)
  obtain ⟨dC, dI, hKc⟩ : ∃ (dC : Nat → ClassId) (dI : Nat → Nat → Nat), ∀ (k : Nat) (q : vw_C), vwCl[k]? = some q → u_Kn s q.1 q.2.1 q.2.2 (dC k) (dI k) := by
    refine ⟨fun k => if k = 0 then c0 else if k = 1 then c1 else if k = 2 then c2 else if k = 3 then c3 else if k = 4 then c4 else if k = 5 then c5 else if k = 6 then c6 else c7, fun k => if k = 0 then iS0 else if k = 1 then iS1 else if k = 2 then iS2 else if k = 3 then iS3 else if k = 4 then iS4 else if k = 5 then iS5 else if k = 6 then iS6 else iS7, ?_⟩
    intro k q hq
    match k, hq with
    | 0, hq => cases hq; exact hKn0
    | 1, hq => cases hq; exact hKn1
    | 2, hq => cases hq; exact hKn2
    | 3, hq => cases hq; exact hKn3
    | 4, hq => cases hq; exact hKn4
    | 5, hq => cases hq; exact hKn5
    | 6, hq => cases hq; exact hKn6
    | 7, hq => cases hq; exact hKn7
    | k + 8, hq => simp [vwCl] at hq
  obtain ⟨cI, hI1, hI2⟩ := st_arr (ty := .int) (hts _ kx_Cond_arrayClass_int) (fun C h => by cases h)
  obtain ⟨cZ, hZ1, hZ2⟩ := st_arr (ty := .boolean) (hts _ kx_Cond_arrayClass_boolean) (fun C h => by cases h)
  obtain ⟨cJ, hJ1, hJ2⟩ := st_arr (ty := .long) (hts _ kx_Cond_arrayClass_long) (fun C h => by cases h)
  have hO0 : (Cond.arrayOver (.object RX0)).before #[Value.ref b] s = true := htb _ (by decide +kernel)
  have hO2 : (Cond.arrayOver (.object RX2)).before #[Value.ref b] s = true := htb _ (by decide +kernel)
  obtain ⟨cA, hA1, hA2⟩ := st_over hO0
  obtain ⟨cC, hC1, hC2⟩ := st_over hO2
  have hK : va_K (dC, dI) vwCl (ctys (cI, cA, cC)) s := ⟨hKc, fun k q hq => by
    match k, hq with
    | 0, hq => cases hq; exact ⟨hI1, hI2⟩
    | 1, hq => cases hq; exact ⟨hA1, hA2⟩
    | 2, hq => cases hq; exact ⟨hC1, hC2⟩
    | k + 3, hq => simp at hq⟩
  have hKr : va_K (dC, dI) vwCl [((cI, cA, cC) : ClassId × ClassId × ClassId).1 |> fun z => (z, FieldType.int), (cZ, .boolean)] s := ⟨hKc, fun k q hq => by
    match k, hq with
    | 0, hq => cases hq; exact ⟨hI1, hI2⟩
    | 1, hq => cases hq; exact ⟨hZ1, hZ2⟩
    | k + 2, hq => simp at hq⟩
  have hKr : va_K (dC, dI) vwCl [(cI, .int), (cZ, .boolean)] s := hKr
  have hNv : cNv s := ⟨va_Nw.of (A := #[Value.ref b]) rfl (htb _ (by decide +kernel)), va_AO.of hO0, va_AO.of hO2⟩
  have hX6 : cX p s m #[Value.ref b] c code 7 WS RL (dC, dI) (cI, cA, cC) := ⟨⟨hx, hb, hml, hown, hts⟩, fun w h => h, hK, hNv⟩
  have hZ : lZ s.heap.size cJ s := by
    refine ⟨⟨⟨vx_Zqof (args := #[Value.ref b]) (htb _ (by decide +kernel)) (htb _ (by decide +kernel)) (hfl _ (by decide +kernel)) (fun a h1 h2 => Nat.lt_irrefl _ (Nat.lt_of_lt_of_le h1 h2)), vx_Zqof (args := #[Value.ref b]) (htb _ (by decide +kernel)) (htb _ (by decide +kernel)) (hfl _ (by decide +kernel)) (fun a h1 h2 => Nat.lt_irrefl _ (Nat.lt_of_lt_of_le h1 h2))⟩, ⟨va_Nw.of (A := #[Value.ref b]) rfl (htb _ (by decide +kernel)), va_Nw.of (A := #[Value.ref b]) rfl (htb _ (by decide +kernel)), va_Nw.of (A := #[Value.ref b]) rfl (htb _ (by decide +kernel)), va_Nw.of (A := #[Value.ref b]) rfl (htb _ (by decide +kernel)), va_Nw.of (A := #[Value.ref b]) rfl (htb _ (by decide +kernel)), va_Nw.of (A := #[Value.ref b]) rfl (htb _ (by decide +kernel))⟩, fun r hr => ?_⟩, va_Nc.of (args := #[Value.ref b]) (hfl _ (by decide +kernel)), va_Nc.of (args := #[Value.ref b]) (hfl _ (by decide +kernel)), hJ1⟩
    obtain ⟨a, -, -, -, h1, -⟩ := Cond.exactly_spec (hfl _ (st_fw r hr))
    exact ⟨a, vk_R.of (htb _ (st_tw r hr)) h1⟩
  generalize hct : ((cI, cA, cC) : ClassId × ClassId × ClassId) = ct at hK hX6
  have hcI : cI = ct.1 := by rw [← hct]
  subst hcI
  generalize hDe : ((dC, dI) : va_G) = D at hK hKr hX6
  have hl := lv_entry ([.ref b]) (n := 7) (Nat.le_of_ble_eq_true rfl)
  rw [lg_entry_eq]
  generalize (lg_sl ([.ref b]) ++ List.replicate (7 - (lg_sl ([.ref b])).length) Slot.unset).toArray = ls at hl ⊢
  have hl : lv_has ls 7 [(0, .ref b)] := hl
  have hA : ∀ a : Nat, s.heap.size ≤ a → (fun a => s.heap.size ≤ a) a := fun _ h => h
  have hS : va_S (fun a : Nat => s.heap.size ≤ a) s.heap s.heap [] := va_S.rf
  obtain ⟨Fu, hFu⟩ : ∃ Fu : Nat, 1000000 ≤ Fu := ⟨1000000, Nat.le_refl _⟩
  obtain ⟨S1, hq1, hsim⟩ := sim_init Fu s.heap.size
  have hB : cB D ct ([], fun _ => 0) (fun a => s.heap.size ≤ a) (Sz s.heap.size) s.heap := ⟨fun k q h => by simp [cws, va_pl] at h, ⟨fun i j p q h => by simp [cws, va_pl] at h, fun k q h => by simp [cws, va_pl] at h⟩, rfl, ⟨fun r hr a ha => absurd ha.1 List.not_mem_nil, fun a i ha => absurd ha.1 List.not_mem_nil, fun a i ha => absurd ha.1 List.not_mem_nil⟩⟩
  refine c_newG hX6 hB hS hA 6 rfl kw_X6 tyX6 tyX6_ok kcl_L_8 kit_RX6 kin_RX6 (hd_6 ct (Sz s.heap.size)) hdv_6 (by decide) (by dsimp only [room_1]; omega) (by dsimp only [room_1]; omega) dL_law_0 (fun G H hx1 hk_x hB2 hS => ?_)
  refine lv_dup hx hb dL_law_3 rfl ?_
  refine c_doE hB2 hS hA (va_runI (As := []) (rest := [.ref (nx (Sz s.heap.size))]) hX6.1 (cm_X6_init l Fu D ct G (nO (Sz s.heap.size)) s.heap.size hk_x S1 hq1) (cwI 0 hts (gl_w kc_X6_init) rfl rfl rfl (hts _ kin_RX6) (hts _ km_L_57) (hts _ ki_X6_init) rfl (by decide +kernel) ⟨by decide, by decide⟩) (c_preS hX6 hB2) rfl rfl hl.1 rfl (lv_room (Nat.le_of_ble_eq_true rfl)) dL_law_4 ⟨by decide, by decide⟩) rfl (fun G1 H locs hx2 hB hT hS => ?_)
  have hk_x := hx2.1 _ _ hk_x
  refine lv_astore_n (lv' := [(1, .ref s.heap.size), (0, .ref b)]) hx hb dL_law_7 rfl hl (by decide) rfl (fun ls hl => ?_)
  have hS0 : s.heap.size ≤ H.size := hS.1
  have hKn := hKr.1 7 _ rfl
  refine W.newcK hx hb hown (hts (.classLink RL 58 RX7) kcl_L_58) (hts (.instantiable RX7 32) kit_RX7) (hts (.initialized RX7) kin_RX7) rfl dL_law_8 (by decide) (by decide) hKn.2.1 rfl fun H2 kC hkC e1 z1 o1 => ?_
  have hS2 : va_S (fun a : Nat => s.heap.size ≤ a) s.heap H2 locs := ⟨Nat.le_trans hS.1 (by omega), fun a h1 h2 => (o1 a (Nat.lt_of_lt_of_le h1 hS.1)).trans (hS.2.1 a h1 h2), hS.2.2⟩
  have hB2 := cB_kept hB (H1 := H2) (by omega) (fun a ha => o1 a (by rw [hB.2.2.1]; exact c_lt hB ha))
  have hP7 : va_P D vwCl [(H.size, .inr (7, rNil))] H2 := fun k q h => by
    have hz : k < 1 := (List.getElem?_eq_some_iff.mp h).1
    rw [show k = 0 by omega] at h
    cases h
    exact ⟨_, rfl, (u_born tyX7 hts kw_X7 hKn hkC e1 tyX7_ok).to (by decide +kernel)⟩
  have hGlt : ∀ a ∈ G1.1, a < H.size := fun a ha => by rw [hB.2.2.1]; exact c_lt hB ha
  refine lv_dup hx hb dL_law_11 rfl ?_
  refine mq_callK (va_runI (As := []) (rest := [.ref H.size]) hX6.1 (rm_init l D ct.1 cZ H.size H2.size) (cwI 0 hts (gl_w kc_X7_init) rfl rfl rfl (hts _ kin_RX7) (hts _ km_L_60) (hts _ ki_X7_init) rfl (by decide +kernel) ⟨by decide, by decide⟩) ⟨fun a U g mk h => ⟨h.1, h.2.1, h.2.2.1, va_K.moved (u := U) (U := U.calling g mk a) (Vm.Alike.refl U.vm) h.2.2.2⟩, fun U hU hW => ⟨rfl, by rw [hU], by rw [hU]; exact hP7, va_K.moved hW.alike hKr⟩⟩ rfl rfl hl.1 rfl (lv_room (Nat.le_of_ble_eq_true rfl)) dL_law_12 ⟨by decide, by decide⟩) hS2 (fun a _ h => ?_) (fun a h => ?_) rfl (fun t H3 locs hT3 hb3 hk3 hS => ?_)
  · rcases h with rfl | h
    · exact hS.1
    · exact Nat.le_trans hS2.1 h
  · rcases h with rfl | h
    · exact hS.1
    · exact Nat.le_trans hS2.1 h
  obtain ⟨q, hR, hqs⟩ := hb3
  have hR3 : rB D ct.1 cZ H.size q R0 H3 := by rw [← hT3]; exact hR.1
  have hr3 : ∀ a, rA H.size q a → H.size ≤ a := fun a h => by
    rcases h with rfl | ⟨k, hk, rfl⟩
    · exact Nat.le_refl _
    · exact Nat.le_trans (by omega) (hqs k hk)
  have hB3 := cB_kept hB2 hk3.1 (fun a ha => hk3.2 a (by have := hGlt a ha; omega) (fun h => by
    have h2 := hGlt a ha
    rcases h with h | h
    · omega
    · omega))
  refine lv_astore_n (lv' := [(2, .ref H.size), (1, .ref s.heap.size), (0, .ref b)]) hx hb dL_law_15 rfl hl (by decide) rfl (fun ls hl => ?_)
  refine lv_iconst (v := 1) hx hb dL_law_16 (by decide) ?_
  refine va_newaK hx hb (atype := .long) (hts _ kx_Cond_arrayClass_long) rfl dL_law_17 rfl (by decide) (N := 1) (by decide) (by decide) (by decide) (by decide) rfl fun H4 cJ' e4 z4 o4 hAr hNm => ?_
  have hcJ : cJ' = cJ := Option.some.inj (hNm.symm.trans hJ2)
  subst hcJ
  have hS4 : va_S (fun a : Nat => s.heap.size ≤ a) s.heap H4 locs := ⟨Nat.le_trans hS.1 (by omega), fun a h1 h2 => (o4 a (Nat.lt_of_lt_of_le h1 hS.1)).trans (hS.2.1 a h1 h2), hS.2.2⟩
  have hlt3 : H.size < H3.size := rB_lt hR3 (Or.inl rfl)
  have hB4 := cB_kept hB3 (H1 := H4) (by omega) (fun a ha => o4 a (by have := hGlt a ha; omega))
  have hL4 : LWd D ct cZ cJ' s.heap.size s.heap.size H.size q H3.size G1 (sN (sN (sN S1 H2.size) H3.size) H4.size) R0 (fun _ => 0) H4 := by
    refine ⟨hB4, rB_kept hR3 (fun a ha => o4 a (rB_lt hR3 ha)), e4, fun a ha => ⟨fun h => ?_, fun h => ?_⟩, fun a ha => ⟨Nat.le_trans hS0 (hr3 a ha), fun h => ?_⟩, hS.1, hk_x⟩
    · have h1 := hGlt a ha
      have h2 := hr3 a h
      omega
    · have h1 := hGlt a ha
      omega
    · have h1 := rB_lt hR3 ha
      omega
  have hz1 : nx S1 ≤ H2.size := by rw [← hB.2.2.1]; omega
  have hsim4 : Sim 512 s.heap.size (sN (sN (sN S1 H2.size) H3.size) H4.size) R0 := sim_sN (sim_sN (sim_sN hsim hz1) (by show H2.size ≤ H3.size; exact hk3.1)) (by show H3.size ≤ H4.size; omega)
  refine lv_astore_n (lv' := [(3, .ref H3.size), (2, .ref H.size), (1, .ref s.heap.size), (0, .ref b)]) hx hb dL_law_19 rfl hl (by decide) rfl (fun ls hl => ?_)
  refine lv_iconst (v := 0) hx hb dL_law_20 (by decide) ?_
  refine lv_istore (lv' := [(4, .int (nI 0)), (3, .ref H3.size), (2, .ref H.size), (1, .ref s.heap.size), (0, .ref b)]) hx hb dL_law_21 hl (by decide) rfl (fun ls hl => ?_)
  refine W.widen (k := 1000) (n := 100000) (by decide) (by decide) ?_
  exact law_loop l hl0 hL Fu hFu hr hlocks hX6 hKr hZ hX hbl s.heap.size H.size H3.size q 512 0 1000 100000 (by omega) (by omega) (by omega) (by omega) G1 _ R0 _ H4 _ ls hsim4 hL4 hS4 (lv_sub hl [4, 3, 2, 1, 0] rfl)

set_option maxHeartbeats 4000000 in
theorem lw_walk (l : Launch) (hl0 : l.stackTraces = false) (b : Addr) (xs : List Int32) : MetFree l x (headSpec (Jvm.Cond.code x code maxLocals ret :: tables_1) room_1) (lw_P b xs) (fun _ _ _ _ _ => True) lw_Q := by
  refine MetFree.of_bodyS (code := code) (maxLocals := maxLocals) (ret := ret) (by decide) ?_ ?_
  · intro args s m h hn
    obtain ⟨meth, c, h1, h2, h3, h4, h5, h6, -, -⟩ := Cond.code_spec hn (atoms_spec (ws := Jvm.Cond.code x code maxLocals ret :: tables_1) h _ List.mem_cons_self)
    exact ⟨meth, c, h1, h2, h3, h4, h5, h6⟩
  · intro p e s m args below meth c s₁ B hml0 hP _
    obtain ⟨rfl, hx, hbd, hgv⟩ := hP
    obtain ⟨scr, harrAt, hlist, hof, hsmall⟩ := hx
    obtain ⟨hcb, hkn, -, -⟩ := State.arrayAt?_spec harrAt
    have hown : s.vm.findClass R_law = some m.cls := findClass_of_methodNamed B.named
    have hts0 : ∀ c ∈ (Jvm.Cond.code x code maxLocals ret :: tables_1), c.before #[Value.ref b] s = true := atoms_spec (ws := Jvm.Cond.code x code maxLocals ret :: tables_1) B.pre
    have hts : ∀ w ∈ lw_tbl, w.before #[Value.ref b] s = true := k2_hts_sels lw_privs (fun w hw => hts0 w (List.mem_cons_of_mem _ hw)) lw_privs_ok
    have hml : c.maxLocals = 7 := B.maxLocals_eq (hts0 _ List.mem_cons_self)
    have X₀ : Stand p l e room_1 s m #[Value.ref b] below meth c s₁ [] 0 0 := Stand.of_body B
    have hh0 : s₁.heap = s.heap := by rw [B.state]; rfl
    have hsz : scr.slots.size = xs.length := by rw [← Array.length_toList, hlist, List.length_map]
    have hval : ∀ j : Nat, j < xs.length → scr.slots[j]? = some (.int (xs.getD j 0)) := fun j hj => by
      rw [← Array.getElem?_toList, hlist]
      simp [hj]
    have hbl : b < s.heap.size := (Array.getElem?_eq_some_iff.mp hcb).1
    have hX : va_X b xs.length (fun j => xs.getD j 0) s s.heap := ⟨scr, hcb, hof, hkn, hsz, hval⟩
    have K : W p l e room_1 s m #[Value.ref b] below meth c s₁.heap [] 0 0 (lw_Z below #[Value.ref b] s) (entryFrame m ([Value.ref b] : List Value).toArray 7) := by
      rw [hh0]
      exact whole_start l hl0 hbd ⟨B.exec, B.bytes, B.returns, hml, hown, hts, hX, hbl, B.notSynchronized, hgv⟩
    obtain ⟨t, a1, o, b1, b2, b3⟩ := K s₁ rfl X₀
    exact ⟨t, o, a1, b1, b2, b3⟩
theorem lw_pre_spec {args : Array Value} {s : State} (h : (Jvm.Cond.and given_1 narrow_1).before args s = true) (hr : rest_1_c.before args s = true) : ∃ (b : Addr) (xs : List Int32), lw_P b xs args s := by
  have hs := flat_of_before _ h
  have hq := flat_of_before _ hr
  have hc : (Cond.count 1).before args s = true := hs _ (by decide +kernel)
  have harr : (Cond.arrayOf (.arg 0) .int).before args s = true := hs _ (by decide +kernel)
  have hle : (Cond.le (.length (.arg 0)) (.int 3072)).before args s = true := hs _ (by decide +kernel)
  have hlen : (Cond.isInt (.length (.arg 0))).before args s = true := hq _ (by decide +kernel)
  have hall : (Cond.all (.arg 0) (.isInt (.elem (.arg 0) (.index 0)))).before args s = true := hq _ (by decide +kernel)
  obtain ⟨b, xs, hb, hx⟩ := State.ints_of_pre rfl harr hlen hall
  have hsm : xs.length < 2 ^ 31 := hx.choose_spec.2.2.2
  have hev : (Term.length (.arg 0)).eval args s none [] s = some (.int xs.length.toInt32) := hx.length_eval hb
  have hv := Cond.le_ints hev (show (Term.int 3072).eval args s none [] s = some (.int 3072) from rfl)
  have hd : xs.length.toInt32 ≤ 3072 := by
    simpa [Cond.before, Cond.holds, hv] using hle
  have hN : xs.length ≤ 3072 := (Int32.ofNat_le_ofNat hsm (by decide)).mp (show Int32.ofNat xs.length ≤ Int32.ofNat 3072 from hd)
  exact ⟨b, xs, Cond.one_arg hc (show args[0]? = some (.ref b) from hb), hx, hN, h⟩
theorem lw_comes (l : Launch) (hl0 : l.stackTraces = false) : Comes l x (Jvm.Cond.code x code maxLocals ret :: tables_1) room_1 (fun tb e args s => Calls_1 tb e args s ∧ rest_1 tb e args s ∧ Pre_1 tb e args s)
    (fun _ _ args s o t => lw_Q args s o t) := by
  intro p e ha hc hk s m args below hf hfit hheap happ hpre
  obtain ⟨b, xs, hP⟩ := lw_pre_spec hpre.2.2 hpre.2.1
  obtain ⟨k, o, h1, h2, h3, hQ⟩ := lw_walk l hl0 b xs p e ha hc hk s m args below hf ((Spec.applies_iff_loose hf).mp happ).1 hP trivial
  exact ⟨k, o, h1, h2, h3, hQ⟩
theorem lw_frame {s t : State} {o : Outcome} {args : Array Value} (h : Framed s o t [] 601024 7293033) :
    Framed s o t (fieldLocs frame_1_writes args s ++ arrayLocs frame_1_arrays args s ++ staticLocs frame_1_statics s) 601024 7293033 := h
theorem lw_limb (L : Cond) (hL : ∀ (args : Array Value) (s t : State), L.after args s (.returned (some (.int 1))) t = true) :
    ArmFor flags0 classFile x code maxLocals ret World_1 tables_1 room_1 Calls_1 rest_1 Pre_1
      (fun tb e a s o t => postC L tb e a s o t ∧ Framed s o t (fieldLocs frame_1_writes a s ++ arrayLocs frame_1_arrays a s ++ staticLocs frame_1_statics s) 601024 7293033) := by
  intro l hfl _ _ p e ha hc hk s m args below hf hfit hheap happ hpre
  have hl0 : l.stackTraces = false := by unfold Launch.stackTraces; rw [hfl]; decide
  obtain ⟨k, o, h1, h2, h3, rfl, hF⟩ := lw_comes l hl0 p e ha hc hk s m args below hf hfit hheap happ hpre
  exact ⟨k, _, h1, h2, h3, hL args s _, lw_frame hF⟩
theorem i_vc : Claimed_1_1 ∧ Claimed_1_2 := ⟨lw_limb limb_1_1 (fun args s t => by simp [limb_1_1, Cond.after, Cond.holds, Cond.value]), lw_limb limb_1_2 (fun args s t => Cond.after_iff.mpr (by
  first | (rw [show limb_1_2 = Cond.eq .result (.int 1) from rfl, Cond.eq_ints (x := 1) (y := 1) rfl rfl]; simp; done) | (simp [limb_1_2, Cond.value, Term.eval]; done)))⟩
