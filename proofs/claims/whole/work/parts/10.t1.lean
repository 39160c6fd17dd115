/-! X6_arenaAt -/
def cf_X6_arenaAt (F : Nat) (S : Cst) (this : Nat) (x1 : Int32) : Option (Thr (Option Nat)) := (cf_X6_arenaOrNull F S this x1).bind fun q1 => nc q1 (some (.inl (1, S))) (fun b2 => some (.inr ((some b2), S)))
set_option maxHeartbeats 4000000 in
set_option maxRecDepth 100000 in
theorem cm_X6_arenaAt (l : Launch) (F : Nat) (hl0 : l.stackTraces = false) (D : va_G) (ct : ClassId × ClassId × ClassId) (b0 : Nat) (G : Gam) (S : Cst) (this : Nat) (x1 : Int32) (hk_this : ty G 6 this) (hb : ∀ a ∈ G.1, b0 ≤ a) (hbn : b0 ≤ nx S) (res : Thr (Option Nat)) (hf : cf_X6_arenaAt F S this x1 = some res) : xMet l yX6_arenaAt cq_X6_arenaAt { frames := 6, cells := 1, slots := 6, locals := 100 } D ct G b0 [.ref this, .int x1] S (fun r : Option Nat => some (va_rf r)) (fun r G => tyo G 0 r) res 1 6 := by
  refine xMet_of (own := RX6) (cc := cX6_arenaAt) (maxL := 3) (ret := (some (.object "RangeArenas$Arena"))) hb hbn (by decide) rfl rfl (Nat.le_of_ble_eq_true rfl) ?_
  intro p e s m below meth c X hr hlk htab Z ls A hl hB hA hAb hS
  have hx := X.1.1
  have hb := X.1.2.1
  have hown := X.1.2.2.2.1
  have hts := X.1.2.2.2.2
  have hl : lv_has ls 3 [(0, .ref this), (1, .int x1)] := hl
  generalize hargs : ([.ref this, .int x1] : List Value).toArray = args at X hts hS ⊢
  have hsz := hB.2.2.1
  obtain ⟨G0, eG0⟩ : ∃ z, z = G := ⟨_, rfl⟩
  obtain ⟨S0, eS0⟩ : ∃ z, z = S := ⟨_, rfl⟩
  have hext : ext G0 (nx S0) G := by rw [eG0]; exact ext_rf
  rw [← eS0] at hsz
  suffices hgoal : W p l e { frames := 6, cells := 1, slots := 6, locals := 100 } s m args below meth c s.heap [] (0) (0) (vx_MQ below (tQ (fun r : Option Nat => some (va_rf r)) D ct G0 (nx S0) (fun r G => tyo G 0 r) A res) (tX D ct G0 (nx S0) A res) args s 1 6 A) (F0 m 0 ls []) by rw [eG0, eS0] at hgoal; exact hgoal
  unfold cf_X6_arenaAt at hf
  refine lv_aload_n hx hb dX6_arenaAt_0 rfl (lv_at hl 0 rfl) ?_
  refine lv_iload_n hx hb dX6_arenaAt_1 rfl (lv_at hl 1 rfl) ?_
  obtain ⟨q1, hqq1, hf⟩ := bn_s hf
  refine c_doF hB hS hA (va_runV (As := [.int x1]) (rest := []) X.1 (cm_X6_arenaOrNull l F D ct _ _ this x1 hk_this _ hqq1) (cwV 1 hts (gd_V km_X6_31 ki_X6_arenaOrNull ks_X6_arenaOrNull kin_RX6 kc_X6_arenaOrNull) rfl rfl rfl (by decide +kernel) ⟨by dsimp only; omega, by dsimp only; omega⟩) (c_preV X hB hk_this rfl rfl) rfl rfl hl.1 rfl (lv_room (Nat.le_of_ble_eq_true rfl)) dX6_arenaAt_2 ⟨by dsimp only; omega, by dsimp only; omega⟩) rfl (fun H locs hB hT hS => ?_)
  have hk_q1 := hT
  refine lv_astore_nq (lv' := [(2, va_rf q1), (0, .ref this), (1, .int x1)]) hx hb dX6_arenaAt_5 rfl hl (by decide) rfl (fun ls hl => ?_)
  refine lv_aload_nq hx hb dX6_arenaAt_6 rfl (lv_at hl 0 rfl) ?_
  rcases q1 with _ | b2
  · have hf := nc_n hf
    have hl : lv_has ls 3 [(2, .null), (0, .ref this), (1, .int x1)] := hl
    refine lv_ifnonnullN hx hb dX6_arenaAt_7 ?_
    obtain rfl := Option.some.inj hf
    exact t_throwW X Z hl0 hB hS hext hAb htab hlk hl 1 rfl (text := "no such arena") (is := 277) (by decide +kernel) (by decide +kernel) kcl_X6_275 kin_java_lang_IndexOutOfBoundsException Z.2.1.2.1 th_w_IOB th_n_IOB th_g_IOB dX6_arenaAt_10 dX6_arenaAt_13 dX6_arenaAt_14 dX6_arenaAt_17 dX6_arenaAt_20 (by decide) (Nat.le_of_ble_eq_true rfl) (by dsimp only; omega) (by dsimp only; omega) (by omega) (by omega)
  · have hf := nc_b hf
    have hk_b2 := hk_q1 b2 rfl
    have hl : lv_has ls 3 [(2, .ref b2), (0, .ref this), (1, .int x1)] := hl
    refine lv_ifnonnull (tgt := 21) hx hb dX6_arenaAt_7 (by decide) ?_
    refine lv_aload_n hx hb dX6_arenaAt_21 rfl (lv_at hl 0 rfl) ?_
    have hT := (tyo_some hk_b2)
    obtain rfl := Option.some.inj hf
    refine W.widen (k := 1) (n := 6) (by omega) (by omega) ?_
    refine vx_ret ?_
    exact W.aret hx hb hr (Or.inl ⟨_, rfl⟩) (Or.inr ⟨_, rfl⟩) (fun t ht hW => c_endE X hext hB hT hS ht hW) hS.2.2 dX6_arenaAt_22 hlk
/-! X6_add -/
def cf_X6_add_70 (F : Nat) (this : Nat) (S : Cst) (x2 : Int32) (x3 : Int32) (x4 : Option Nat) (y0 : Int32) : Option (Thr Int32) := nn x4 fun b11 => st1 (gP S 3 b11) fun q12 => nc q12 (if y0 = 0 then (some (.inr (((-1) : Int32), S))) else ((cf_X0_meets F S b11 x2 x3).bind fun v15 => if v15 = 0 then ((cf_X0_open F S b11 x2 x3).bind fun z17 => st2 z17 fun z17v z17S => some (.inr ((0 : Int32), z17S))) else (some (.inr (((-1) : Int32), S))))) (fun b13 => some (.inr (((-1) : Int32), S)))
def cf_X6_add (F : Nat) (S : Cst) (this : Nat) (x1 : Int32) (x2 : Int32) (x3 : Int32) : Option (Thr Int32) := (cf_X6_arenaAt F S this x1).bind fun z1 => tr z1 fun z1v z1S => nn z1v fun b2 => (cf_X0_isMultiple F z1S b2 x2).bind fun v3 => if v3 = 0 then (some (.inl (2, z1S))) else ((cf_X0_isMultiple F z1S b2 x3).bind fun v5 => if v5 = 0 then (some (.inl (2, z1S))) else (if 0 < x3 then ((cf_X6_isFull F z1S this).bind fun v8 => if v8 = 0 then (if x2 < 0 then (cf_X6_add_70 F this z1S x2 x3 (some b2) (0 : Int32)) else (if 0 < (lg_cmp (x2.toInt64 + x3.toInt64) 1073741824) then (cf_X6_add_70 F this z1S x2 x3 (some b2) (0 : Int32)) else (cf_X6_add_70 F this z1S x2 x3 (some b2) (1 : Int32)))) else (some (.inr (((-2) : Int32), z1S)))) else (some (.inl (2, z1S)))))
set_option maxHeartbeats 4000000 in
set_option maxRecDepth 100000 in
theorem cm_X6_add (l : Launch) (F : Nat) (hl0 : l.stackTraces = false) (D : va_G) (ct : ClassId × ClassId × ClassId) (b0 : Nat) (G : Gam) (S : Cst) (this : Nat) (x1 : Int32) (x2 : Int32) (x3 : Int32) (hk_this : ty G 6 this) (hb : ∀ a ∈ G.1, b0 ≤ a) (hbn : b0 ≤ nx S) (res : Thr Int32) (hf : cf_X6_add F S this x1 x2 x3 = some res) : xMet l yX6_add cq_X6_add { frames := 7, cells := 2, slots := 18, locals := 122 } D ct G b0 [.ref this, .int x1, .int x2, .int x3] S (fun r : Int32 => some (.int r)) (fun _ _ => True) res 2 18 := by
  refine xMet_of (own := RX6) (cc := cX6_add) (maxL := 6) (ret := (some .int)) hb hbn (by decide) rfl rfl (Nat.le_of_ble_eq_true rfl) ?_
  intro p e s m below meth c X hr hlk htab Z ls A hl hB hA hAb hS
  have hx := X.1.1
  have hb := X.1.2.1
  have hown := X.1.2.2.2.1
  have hts := X.1.2.2.2.2
  have hl : lv_has ls 6 [(0, .ref this), (1, .int x1), (2, .int x2), (3, .int x3)] := hl
  generalize hargs : ([.ref this, .int x1, .int x2, .int x3] : List Value).toArray = args at X hts hS ⊢
  have hsz := hB.2.2.1
  obtain ⟨G0, eG0⟩ : ∃ z, z = G := ⟨_, rfl⟩
  obtain ⟨S0, eS0⟩ : ∃ z, z = S := ⟨_, rfl⟩
  have hext : ext G0 (nx S0) G := by rw [eG0]; exact ext_rf
  rw [← eS0] at hsz
  suffices hgoal : W p l e { frames := 7, cells := 2, slots := 18, locals := 122 } s m args below meth c s.heap [] (0) (0) (vx_MQ below (tQ (fun r : Int32 => some (.int r)) D ct G0 (nx S0) (fun _ _ => True) A res) (tX D ct G0 (nx S0) A res) args s 2 18 A) (F0 m 0 ls []) by rw [eG0, eS0] at hgoal; exact hgoal
  have J_70 : ∀ (G : Gam) (S : Cst) (x2 : Int32) (x3 : Int32) (x4 : Option Nat) (y0 : Int32), cf_X6_add_70 F this S x2 x3 x4 y0 = some res → ∀ (H : Heap) (locs : List Loc) (ls : Array Slot), ext G0 (nx S0) G → ty G 6 this → tyo G 0 x4 → cB D ct G A S H → va_S A s.heap H locs → lv_has ls 6 [(2, .int x2), (3, .int x3), (4, va_rf x4)] → W p l e { frames := 7, cells := 2, slots := 18, locals := 122 } s m args below meth c H locs (1) (6) (vx_MQ below (tQ (fun r : Int32 => some (.int r)) D ct G0 (nx S0) (fun _ _ => True) A res) (tX D ct G0 (nx S0) A res) args s 2 18 A) (F0 m 70 ls [.int y0]) := by
    intro G S x2 x3 x4 y0 hf H locs ls hext hk_this hk_x4 hB hS hl
    unfold cf_X6_add_70 at hf
    refine lv_istore (lv' := [(5, .int y0), (2, .int x2), (3, .int x3), (4, va_rf x4)]) hx hb dX6_add_70 hl (by decide) (by rcases x4 with _ | _ <;> exact rfl) (fun ls hl => ?_)
    refine lv_aloadq hx hb dX6_add_72 (lv_at hl 3 rfl) ?_
    obtain ⟨b11, eb11, hf2⟩ := nn_s hf
    clear hf
    subst eb11
    have hf := hf2
    clear hf2
    have hk_b11 := hk_x4 b11 rfl
    have hl : lv_has ls 6 [(5, .int y0), (2, .int x2), (3, .int x3), (4, .ref b11)] := hl
    refine c_get X hB hk_b11 rfl rfl kw_X0 3 57 (by decide) kf_X6_57 rfl rfl dX6_add_74 ?_
    obtain ⟨q12, eq12, hf⟩ := st1_s hf
    rw [← eq12]
    have hk_q12 : tyo G 0 q12 := by rw [eq12]; exact hB.2.2.2.1 (0, 3, 0) (by decide) _ hk_b11
    rcases q12 with _ | b13
    · have hf := nc_n hf
      have hl : lv_has ls 6 [(5, .int y0), (2, .int x2), (3, .int x3), (4, .ref b11)] := hl
      refine lv_ifnonnullN hx hb dX6_add_77 ?_
      refine lv_iload hx hb dX6_add_80 (lv_at hl 0 rfl) ?_
      refine lv_if_eq (tgt := 95) hx hb dX6_add_82 (by decide) (fun hc14 => ?_) (fun hc14 => ?_)
      · have hf := if_t hf hc14
        refine lv_iconst (v := (-1)) hx hb dX6_add_95 (by decide) ?_
        obtain rfl := Option.some.inj hf
        refine W.widen (k := 2) (n := 18) (by omega) (by omega) ?_
        refine vx_ret ?_
        exact W.iret hx hb hr (fun t ht hW => c_endE X hext hB trivial hS ht hW) hS.2.2 dX6_add_96 hlk
      · have hf := if_f hf hc14
        refine lv_aload hx hb dX6_add_85 (lv_at hl 3 rfl) ?_
        refine lv_iload_n hx hb dX6_add_87 rfl (lv_at hl 1 rfl) ?_
        refine lv_iload_n hx hb dX6_add_88 rfl (lv_at hl 2 rfl) ?_
        obtain ⟨v15, hqv15, hf⟩ := bn_s hf
        refine c_doF hB hS hA (va_runV (As := [.int x2, .int x3]) (rest := []) X.1 (cm_X0_meets l F D ct _ _ b11 x2 x3 hk_b11 _ hqv15) (cwV 2 hts (gd_V km_X6_60 ki_X0_meets ks_X0_meets kin_RX0 kc_X0_meets) rfl rfl rfl (by decide +kernel) ⟨by dsimp only; omega, by dsimp only; omega⟩) (c_preV X hB hk_b11 rfl rfl) rfl rfl hl.1 rfl (lv_room (Nat.le_of_ble_eq_true rfl)) dX6_add_89 ⟨by dsimp only; omega, by dsimp only; omega⟩) rfl (fun H locs hB hT hS => ?_)
        refine lv_if_eq (tgt := 97) hx hb dX6_add_92 (by decide) (fun hc16 => ?_) (fun hc16 => ?_)
        · have hf := if_t hf hc16
          refine lv_aload hx hb dX6_add_97 (lv_at hl 3 rfl) ?_
          refine lv_iload_n hx hb dX6_add_99 rfl (lv_at hl 1 rfl) ?_
          refine lv_iload_n hx hb dX6_add_100 rfl (lv_at hl 2 rfl) ?_
          obtain ⟨⟨z17v, z17S⟩, hqz17, hf⟩ := bn_s hf
          have hf := st2_s hf
          have hle : nx S0 ≤ nx S := by rw [← hsz, ← hB.2.2.1]; exact hS.1
          refine c_doE hB hS hA (va_runV (As := [.int x2, .int x3]) (rest := []) X.1 (cm_X0_open l F D ct _ _ b11 x2 x3 hk_b11 _ _ hqz17) (cwV 2 hts (gd_V km_X6_64 ki_X0_open ks_X0_open kin_RX0 kc_X0_open) rfl rfl rfl (by decide +kernel) ⟨by dsimp only; omega, by dsimp only; omega⟩) (c_preV X hB hk_b11 rfl rfl) rfl rfl hl.1 rfl (lv_room (Nat.le_of_ble_eq_true rfl)) dX6_add_101 ⟨by dsimp only; omega, by dsimp only; omega⟩) rfl (fun G H locs hx1 hB2 hT hS => ?_)
          have hext := hext.trans hx1 hle
          have hk_b11 := hx1.1 _ _ hk_b11
          have hk_this := hx1.1 _ _ hk_this
          have hB := hB2
          clear hB2
          have hk_z17v := hT
          refine W.widen (k := 2) (n := 18) (by omega) (by omega) ?_
          refine lv_pop hx hb dX6_add_104 (cat_rf _) ?_
          refine lv_iconst (v := 0) hx hb dX6_add_105 (by decide) ?_
          obtain rfl := Option.some.inj hf
          refine W.widen (k := 2) (n := 18) (by omega) (by omega) ?_
          refine vx_ret ?_
          exact W.iret hx hb hr (fun t ht hW => c_endE X hext hB trivial hS ht hW) hS.2.2 dX6_add_106 hlk
        · have hf := if_f hf hc16
          refine lv_iconst (v := (-1)) hx hb dX6_add_95 (by decide) ?_
          obtain rfl := Option.some.inj hf
          refine W.widen (k := 2) (n := 18) (by omega) (by omega) ?_
          refine vx_ret ?_
          exact W.iret hx hb hr (fun t ht hW => c_endE X hext hB trivial hS ht hW) hS.2.2 dX6_add_96 hlk
    · have hf := nc_b hf
      have hk_b13 := hk_q12 b13 rfl
      have hl : lv_has ls 6 [(5, .int y0), (2, .int x2), (3, .int x3), (4, .ref b11)] := hl
      refine lv_ifnonnull (tgt := 95) hx hb dX6_add_77 (by decide) ?_
      refine lv_iconst (v := (-1)) hx hb dX6_add_95 (by decide) ?_
      obtain rfl := Option.some.inj hf
      refine W.widen (k := 2) (n := 18) (by omega) (by omega) ?_
      refine vx_ret ?_
      exact W.iret hx hb hr (fun t ht hW => c_endE X hext hB trivial hS ht hW) hS.2.2 dX6_add_96 hlk
  unfold cf_X6_add at hf
  refine lv_aload_n hx hb dX6_add_0 rfl (lv_at hl 0 rfl) ?_
  refine lv_iload_n hx hb dX6_add_1 rfl (lv_at hl 1 rfl) ?_
  obtain ⟨z1, hqz1, hf⟩ := bn_s hf
  have hle : nx S0 ≤ nx S := by rw [← hsz, ← hB.2.2.1]; exact hS.1
  refine t_do hB hS hA hext hle htab hlk (vx_runV (As := [.int x1]) (rest := []) X.1 (cm_X6_arenaAt l F hl0 D ct b0 _ _ this x1 hk_this (fun a ha => hAb a (c_in hB ha)) (hAb _ (hA _ (by rw [← hB.2.2.1]; exact hS.1))) _ hqz1) (cwV 1 hts (gd_V km_X6_43 ki_X6_arenaAt ks_X6_arenaAt kin_RX6 kc_X6_arenaAt) rfl rfl rfl (by decide +kernel) ⟨by dsimp only; omega, by dsimp only; omega⟩) (t_preV X Z hB hS hAb hk_this rfl rfl) rfl rfl hl.1 rfl (lv_room (Nat.le_of_ble_eq_true rfl)) dX6_add_2 ⟨by dsimp only; omega, by dsimp only; omega⟩) (fun w hw => by subst hw; exact tr_l hf) (by omega) (by omega) (fun z1v z1S hz G H locs hx1 hB2 hT hS => ?_)
  subst hz
  have hf := tr_r hf
  have hext := hext.trans hx1 hle
  have hk_this := hx1.1 _ _ hk_this
  have hB := hB2
  clear hB2
  have hk_z1v := hT
  refine W.widen (k := 1) (n := 6) (by omega) (by omega) ?_
  refine W.eq (g2 := F0 m 5 ls [va_rf z1v]) rfl ?_
  refine lv_astoreq (lv' := [(4, va_rf z1v), (0, .ref this), (1, .int x1), (2, .int x2), (3, .int x3)]) hx hb dX6_add_5 hl (by decide) rfl (fun ls hl => ?_)
  refine lv_aloadq hx hb dX6_add_7 (lv_at hl 0 rfl) ?_
  refine lv_iload_n hx hb dX6_add_9 rfl (lv_at hl 3 rfl) ?_
  obtain ⟨b2, eb2, hf2⟩ := nn_s hf
  clear hf
  subst eb2
  have hf := hf2
  clear hf2
  have hk_b2 := hk_z1v b2 rfl
  have hl : lv_has ls 6 [(4, .ref b2), (0, .ref this), (1, .int x1), (2, .int x2), (3, .int x3)] := hl
  obtain ⟨v3, hqv3, hf⟩ := bn_s hf
  refine c_doF hB hS hA (va_runV (As := [.int x2]) (rest := []) X.1 (cm_X0_isMultiple l F D ct _ _ b2 x2 hk_b2 _ hqv3) (cwV 1 hts (gd_V km_X6_46 ki_X0_isMultiple ks_X0_isMultiple kin_RX0 kc_X0_isMultiple) rfl rfl rfl (by decide +kernel) ⟨by dsimp only; omega, by dsimp only; omega⟩) (c_preV X hB hk_b2 rfl rfl) rfl rfl hl.1 rfl (lv_room (Nat.le_of_ble_eq_true rfl)) dX6_add_10 ⟨by dsimp only; omega, by dsimp only; omega⟩) rfl (fun H locs hB hT hS => ?_)
  refine lv_if_eq (tgt := 29) hx hb dX6_add_13 (by decide) (fun hc4 => ?_) (fun hc4 => ?_)
  · have hf := if_t hf hc4
    obtain rfl := Option.some.inj hf
    exact t_throw X Z hl0 hB hS hext hAb htab hlk hl 2 rfl (text := "base or size") (is := 49) (by decide +kernel) (by decide +kernel) kcl_X6_24 kin_java_lang_IllegalArgumentException Z.2.1.1 th_w_IAE th_n_IAE th_g_IAE dX6_add_29 dX6_add_32 dX6_add_33 dX6_add_35 dX6_add_38 (by decide) (Nat.le_of_ble_eq_true rfl) (by dsimp only; omega) (by dsimp only; omega) (by omega) (by omega)
  · have hf := if_f hf hc4
    refine lv_aload hx hb dX6_add_16 (lv_at hl 0 rfl) ?_
    refine lv_iload_n hx hb dX6_add_18 rfl (lv_at hl 4 rfl) ?_
    obtain ⟨v5, hqv5, hf⟩ := bn_s hf
    refine c_doF hB hS hA (va_runV (As := [.int x3]) (rest := []) X.1 (cm_X0_isMultiple l F D ct _ _ b2 x3 hk_b2 _ hqv5) (cwV 1 hts (gd_V km_X6_46 ki_X0_isMultiple ks_X0_isMultiple kin_RX0 kc_X0_isMultiple) rfl rfl rfl (by decide +kernel) ⟨by dsimp only; omega, by dsimp only; omega⟩) (c_preV X hB hk_b2 rfl rfl) rfl rfl hl.1 rfl (lv_room (Nat.le_of_ble_eq_true rfl)) dX6_add_19 ⟨by dsimp only; omega, by dsimp only; omega⟩) rfl (fun H locs hB hT hS => ?_)
    refine lv_if_eq (tgt := 29) hx hb dX6_add_22 (by decide) (fun hc6 => ?_) (fun hc6 => ?_)
    · have hf := if_t hf hc6
      obtain rfl := Option.some.inj hf
      exact t_throw X Z hl0 hB hS hext hAb htab hlk hl 2 rfl (text := "base or size") (is := 49) (by decide +kernel) (by decide +kernel) kcl_X6_24 kin_java_lang_IllegalArgumentException Z.2.1.1 th_w_IAE th_n_IAE th_g_IAE dX6_add_29 dX6_add_32 dX6_add_33 dX6_add_35 dX6_add_38 (by decide) (Nat.le_of_ble_eq_true rfl) (by dsimp only; omega) (by dsimp only; omega) (by omega) (by omega)
    · have hf := if_f hf hc6
      refine lv_iload_n hx hb dX6_add_25 rfl (lv_at hl 4 rfl) ?_
      refine lv_if_gt (tgt := 39) hx hb dX6_add_26 (by decide) (fun hc7 => ?_) (fun hc7 => ?_)
      · have hf := if_t hf hc7
        refine lv_aload_n hx hb dX6_add_39 rfl (lv_at hl 1 rfl) ?_
        obtain ⟨v8, hqv8, hf⟩ := bn_s hf
        refine c_doF hB hS hA (va_runV (As := []) (rest := []) X.1 (cm_X6_isFull l F D ct _ _ this hk_this _ hqv8) (cwV 0 hts (gd_V km_X6_51 ki_X6_isFull ks_X6_isFull kin_RX6 kc_X6_isFull) rfl rfl rfl (by decide +kernel) ⟨by dsimp only; omega, by dsimp only; omega⟩) (c_preV X hB hk_this rfl rfl) rfl rfl hl.1 rfl (lv_room (Nat.le_of_ble_eq_true rfl)) dX6_add_40 ⟨by dsimp only; omega, by dsimp only; omega⟩) rfl (fun H locs hB hT hS => ?_)
        refine lv_if_eq (tgt := 49) hx hb dX6_add_43 (by decide) (fun hc9 => ?_) (fun hc9 => ?_)
        · have hf := if_t hf hc9
          refine lv_iload_n hx hb dX6_add_49 rfl (lv_at hl 3 rfl) ?_
          refine lv_if_lt (tgt := 69) hx hb dX6_add_50 (by decide) (fun hc10 => ?_) (fun hc10 => ?_)
          · have hf := if_t hf hc10
            refine lv_iconst (v := 0) hx hb dX6_add_69 (by decide) ?_
            exact J_70 _ z1S x2 x3 (some b2) (0 : Int32) hf _ _ _ hext hk_this (tyo_some hk_b2) hB hS (lv_sub hl [3, 4, 0] rfl)
          · have hf := if_f hf hc10
            refine lv_iload_n hx hb dX6_add_53 rfl (lv_at hl 3 rfl) ?_
            refine lv_i2l (v := x2.toInt64) hx hb dX6_add_54 rfl ?_
            refine lv_iload_n hx hb dX6_add_55 rfl (lv_at hl 4 rfl) ?_
            refine lv_i2l (v := x3.toInt64) hx hb dX6_add_56 rfl ?_
            refine lv_ladd hx hb dX6_add_57 ?_
            refine lv_ldc2 (v := 1073741824) hx hb hown (hts (.constantLong RX6 55 1073741824) (kw_m kkl_X6_55)) dX6_add_58 ?_
            refine W.lcmp hx hb dX6_add_61 ?_
            refine lv_if_gt (tgt := 69) hx hb dX6_add_62 (by decide) (fun hc18 => ?_) (fun hc18 => ?_)
            · have hf := if_t hf hc18
              refine lv_iconst (v := 0) hx hb dX6_add_69 (by decide) ?_
              exact J_70 _ z1S x2 x3 (some b2) (0 : Int32) hf _ _ _ hext hk_this (tyo_some hk_b2) hB hS (lv_sub hl [3, 4, 0] rfl)
            · have hf := if_f hf hc18
              refine lv_iconst (v := 1) hx hb dX6_add_65 (by decide) ?_
              refine lv_goto (tgt := 70) hx hb dX6_add_66 (by decide) ?_
              exact J_70 _ z1S x2 x3 (some b2) (1 : Int32) hf _ _ _ hext hk_this (tyo_some hk_b2) hB hS (lv_sub hl [3, 4, 0] rfl)
        · have hf := if_f hf hc9
          refine lv_bipush (v := (-2)) hx hb dX6_add_46 (by decide) ?_
          obtain rfl := Option.some.inj hf
          refine W.widen (k := 2) (n := 18) (by omega) (by omega) ?_
          refine vx_ret ?_
          exact W.iret hx hb hr (fun t ht hW => c_endE X hext hB trivial hS ht hW) hS.2.2 dX6_add_48 hlk
      · have hf := if_f hf hc7
        obtain rfl := Option.some.inj hf
        exact t_throw X Z hl0 hB hS hext hAb htab hlk hl 2 rfl (text := "base or size") (is := 49) (by decide +kernel) (by decide +kernel) kcl_X6_24 kin_java_lang_IllegalArgumentException Z.2.1.1 th_w_IAE th_n_IAE th_g_IAE dX6_add_29 dX6_add_32 dX6_add_33 dX6_add_35 dX6_add_38 (by decide) (Nat.le_of_ble_eq_true rfl) (by dsimp only; omega) (by dsimp only; omega) (by omega) (by omega)
/-! X6_bounds -/
def cf_X6_bounds (F : Nat) (S : Cst) (this : Nat) (x1 : Int32) (x2 : Int32) (x3 : Int32) : Option (Thr Unit) := (cf_X6_arenaAt F S this x1).bind fun z1 => tr z1 fun z1v z1S => if x2 < 0 then (some (.inl (2, z1S))) else (if x3 < x2 then (some (.inl (2, z1S))) else (if x3 ≤ (1073741824 : Int32) then (nn z1v fun b5 => st1 (sI z1S 12 b5 x2) fun S6 => st1 (sI S6 13 b5 x3) fun S7 => some (.inr ((), S7))) else (some (.inl (2, z1S)))))
set_option maxHeartbeats 4000000 in
set_option maxRecDepth 100000 in
theorem cm_X6_bounds (l : Launch) (F : Nat) (hl0 : l.stackTraces = false) (D : va_G) (ct : ClassId × ClassId × ClassId) (b0 : Nat) (G : Gam) (S : Cst) (this : Nat) (x1 : Int32) (x2 : Int32) (x3 : Int32) (hk_this : ty G 6 this) (hb : ∀ a ∈ G.1, b0 ≤ a) (hbn : b0 ≤ nx S) (res : Thr Unit) (hf : cf_X6_bounds F S this x1 x2 x3 = some res) : xMet l yX6_bounds cq_X6_bounds { frames := 7, cells := 2, slots := 12, locals := 122 } D ct G b0 [.ref this, .int x1, .int x2, .int x3] S (fun _ : Unit => none) (fun _ _ => True) res 2 12 := by
  refine xMet_of (own := RX6) (cc := cX6_bounds) (maxL := 5) (ret := none) hb hbn (by decide) rfl rfl (Nat.le_of_ble_eq_true rfl) ?_
  intro p e s m below meth c X hr hlk htab Z ls A hl hB hA hAb hS
  have hx := X.1.1
  have hb := X.1.2.1
  have hown := X.1.2.2.2.1
  have hts := X.1.2.2.2.2
  have hl : lv_has ls 5 [(0, .ref this), (1, .int x1), (2, .int x2), (3, .int x3)] := hl
  generalize hargs : ([.ref this, .int x1, .int x2, .int x3] : List Value).toArray = args at X hts hS ⊢
  have hsz := hB.2.2.1
  obtain ⟨G0, eG0⟩ : ∃ z, z = G := ⟨_, rfl⟩
  obtain ⟨S0, eS0⟩ : ∃ z, z = S := ⟨_, rfl⟩
  have hext : ext G0 (nx S0) G := by rw [eG0]; exact ext_rf
  rw [← eS0] at hsz
  suffices hgoal : W p l e { frames := 7, cells := 2, slots := 12, locals := 122 } s m args below meth c s.heap [] (0) (0) (vx_MQ below (tQ (fun _ : Unit => none) D ct G0 (nx S0) (fun _ _ => True) A res) (tX D ct G0 (nx S0) A res) args s 2 12 A) (F0 m 0 ls []) by rw [eG0, eS0] at hgoal; exact hgoal
  unfold cf_X6_bounds at hf
  refine lv_aload_n hx hb dX6_bounds_0 rfl (lv_at hl 0 rfl) ?_
  refine lv_iload_n hx hb dX6_bounds_1 rfl (lv_at hl 1 rfl) ?_
  obtain ⟨z1, hqz1, hf⟩ := bn_s hf
  have hle : nx S0 ≤ nx S := by rw [← hsz, ← hB.2.2.1]; exact hS.1
  refine t_do hB hS hA hext hle htab hlk (vx_runV (As := [.int x1]) (rest := []) X.1 (cm_X6_arenaAt l F hl0 D ct b0 _ _ this x1 hk_this (fun a ha => hAb a (c_in hB ha)) (hAb _ (hA _ (by rw [← hB.2.2.1]; exact hS.1))) _ hqz1) (cwV 1 hts (gd_V km_X6_43 ki_X6_arenaAt ks_X6_arenaAt kin_RX6 kc_X6_arenaAt) rfl rfl rfl (by decide +kernel) ⟨by dsimp only; omega, by dsimp only; omega⟩) (t_preV X Z hB hS hAb hk_this rfl rfl) rfl rfl hl.1 rfl (lv_room (Nat.le_of_ble_eq_true rfl)) dX6_bounds_2 ⟨by dsimp only; omega, by dsimp only; omega⟩) (fun w hw => by subst hw; exact tr_l hf) (by omega) (by omega) (fun z1v z1S hz G H locs hx1 hB2 hT hS => ?_)
  subst hz
  have hf := tr_r hf
  have hext := hext.trans hx1 hle
  have hk_this := hx1.1 _ _ hk_this
  have hB := hB2
  clear hB2
  have hk_z1v := hT
  refine W.widen (k := 1) (n := 6) (by omega) (by omega) ?_
  refine W.eq (g2 := F0 m 5 ls [va_rf z1v]) rfl ?_
  refine lv_astoreq (lv' := [(4, va_rf z1v), (0, .ref this), (1, .int x1), (2, .int x2), (3, .int x3)]) hx hb dX6_bounds_5 hl (by decide) rfl (fun ls hl => ?_)
  refine lv_iload_n hx hb dX6_bounds_7 rfl (lv_at hl 3 rfl) ?_
  refine lv_if_lt (tgt := 22) hx hb dX6_bounds_8 (by decide) (fun hc2 => ?_) (fun hc2 => ?_)
  · have hf := if_t hf hc2
    obtain rfl := Option.some.inj hf
    exact t_throw X Z hl0 hB hS hext hAb htab hlk hl 2 rfl (text := "low or high") (is := 145) (by decide +kernel) (by decide +kernel) kcl_X6_24 kin_java_lang_IllegalArgumentException Z.2.1.1 th_w_IAE th_n_IAE th_g_IAE dX6_bounds_22 dX6_bounds_25 dX6_bounds_26 dX6_bounds_28 dX6_bounds_31 (by decide) (Nat.le_of_ble_eq_true rfl) (by dsimp only; omega) (by dsimp only; omega) (by omega) (by omega)
  · have hf := if_f hf hc2
    refine lv_iload_n hx hb dX6_bounds_11 rfl (lv_at hl 4 rfl) ?_
    refine lv_iload_n hx hb dX6_bounds_12 rfl (lv_at hl 3 rfl) ?_
    refine lv_icmp_lt (tgt := 22) hx hb dX6_bounds_13 (by decide) (fun hc3 => ?_) (fun hc3 => ?_)
    · have hf := if_t hf hc3
      obtain rfl := Option.some.inj hf
      exact t_throw X Z hl0 hB hS hext hAb htab hlk hl 2 rfl (text := "low or high") (is := 145) (by decide +kernel) (by decide +kernel) kcl_X6_24 kin_java_lang_IllegalArgumentException Z.2.1.1 th_w_IAE th_n_IAE th_g_IAE dX6_bounds_22 dX6_bounds_25 dX6_bounds_26 dX6_bounds_28 dX6_bounds_31 (by decide) (Nat.le_of_ble_eq_true rfl) (by dsimp only; omega) (by dsimp only; omega) (by omega) (by omega)
    · have hf := if_f hf hc3
      refine lv_iload_n hx hb dX6_bounds_16 rfl (lv_at hl 4 rfl) ?_
      refine lv_ldc (v := 1073741824) hx hb hown (hts (.constant RX6 144 1073741824) (kw_m kk_X6_144)) dX6_bounds_17 ?_
      refine lv_icmp_le (tgt := 32) hx hb dX6_bounds_19 (by decide) (fun hc4 => ?_) (fun hc4 => ?_)
      · have hf := if_t hf hc4
        refine lv_aloadq hx hb dX6_bounds_32 (lv_at hl 0 rfl) ?_
        refine lv_iload_n hx hb dX6_bounds_34 rfl (lv_at hl 3 rfl) ?_
        obtain ⟨b5, eb5, hf2⟩ := nn_s hf
        clear hf
        subst eb5
        have hf := hf2
        clear hf2
        have hk_b5 := hk_z1v b5 rfl
        have hl : lv_has ls 5 [(4, .ref b5), (0, .ref this), (1, .int x1), (2, .int x2), (3, .int x3)] := hl
        obtain ⟨S6, eS6, hf⟩ := st1_s hf
        refine c_put X hB hS hk_b5 rfl rfl kw_X0 tyX0 tyX0_ok nmX0 12 147 (by decide) kf_X6_147 rfl (Or.inl rfl) (fty := .int) rfl rfl rfl (Nat.le_of_ble_eq_true rfl) (cp_0_12 _) (fun κ b h => ccell_sI κ b h) rfl hB.2.2.2 dX6_bounds_35 (fun H locs hB hS => ?_)
        rw [← eS6] at hB
        refine lv_aload hx hb dX6_bounds_38 (lv_at hl 0 rfl) ?_
        refine lv_iload_n hx hb dX6_bounds_40 rfl (lv_at hl 4 rfl) ?_
        obtain ⟨S7, eS7, hf⟩ := st1_s hf
        refine c_put X hB hS hk_b5 rfl rfl kw_X0 tyX0 tyX0_ok nmX0 13 150 (by decide) kf_X6_150 rfl (Or.inl rfl) (fty := .int) rfl rfl rfl (Nat.le_of_ble_eq_true rfl) (cp_0_13 _) (fun κ b h => ccell_sI κ b h) rfl hB.2.2.2 dX6_bounds_41 (fun H locs hB hS => ?_)
        rw [← eS7] at hB
        obtain rfl := Option.some.inj hf
        refine W.widen (k := 2) (n := 12) (by omega) (by omega) ?_
        refine vx_ret ?_
        exact W.vret hx hb hr (fun t ht hW => c_endE X hext hB trivial hS ht hW) hS.2.2 dX6_bounds_44 hlk
      · have hf := if_f hf hc4
        obtain rfl := Option.some.inj hf
        exact t_throw X Z hl0 hB hS hext hAb htab hlk hl 2 rfl (text := "low or high") (is := 145) (by decide +kernel) (by decide +kernel) kcl_X6_24 kin_java_lang_IllegalArgumentException Z.2.1.1 th_w_IAE th_n_IAE th_g_IAE dX6_bounds_22 dX6_bounds_25 dX6_bounds_26 dX6_bounds_28 dX6_bounds_31 (by decide) (Nat.le_of_ble_eq_true rfl) (by dsimp only; omega) (by dsimp only; omega) (by omega) (by omega)
/-! X6_cache -/
def cf_X6_cache (F : Nat) (S : Cst) (this : Nat) (x1 : Int32) (x2 : Int32) (x3 : Int32) : Option (Thr Int32) := (cf_X6_arenaAt F S this x1).bind fun z1 => tr z1 fun z1v z1S => nn z1v fun b2 => (cf_X0_cacheOf F z1S b2 x2).bind fun q3 => nc q3 (some (.inl (3, z1S))) (fun b4 => if x3 = 0 then ((cf_X0_objectsHeld F z1S b2 (some b4)).bind fun v5 => some (.inr (v5, z1S))) else (if x3 = 1 then (st1 (gP z1S 33 b4) fun q6 => nn q6 fun b7 => st1 (gP z1S 48 b7) fun q8 => nn q8 fun b9 => some (.inr ((gI z1S 65 b9), z1S))) else (if x3 = 2 then (st1 (gP z1S 33 b4) fun q10 => nn q10 fun b11 => st1 (gP z1S 49 b11) fun q12 => nn q12 fun b13 => some (.inr ((gI z1S 65 b13), z1S))) else (if x3 = 3 then (st1 (gP z1S 34 b4) fun q14 => nn q14 fun b15 => st1 (gP z1S 48 b15) fun q16 => nn q16 fun b17 => some (.inr ((gI z1S 65 b17), z1S))) else (if x3 = 4 then (st1 (gP z1S 34 b4) fun q18 => nn q18 fun b19 => st1 (gP z1S 49 b19) fun q20 => nn q20 fun b21 => some (.inr ((gI z1S 65 b21), z1S))) else (if x3 = 5 then (st1 (gP z1S 35 b4) fun q22 => nn q22 fun b23 => dv (3 : Int32) (some (.inr (((gI z1S 65 b23) / 3), z1S)))) else (if x3 = 6 then ((cf_X0_objectsLying F z1S b2 (some b4)).bind fun v25 => some (.inr (v25, z1S))) else (if x3 = 7 then ((cf_X0_slabsOf F z1S b2 (some b4)).bind fun v26 => some (.inr (v26, z1S))) else (if x3 = 8 then (st1 (gP z1S 33 b4) fun q27 => nn q27 fun b28 => st1 (gP z1S 48 b28) fun q29 => nn q29 fun b30 => (cf_X4_top F z1S b30).bind fun v31 => some (.inr (v31, z1S))) else (if x3 = 9 then (st1 (gP z1S 34 b4) fun q32 => nn q32 fun b33 => st1 (gP z1S 48 b33) fun q34 => nn q34 fun b35 => (cf_X4_top F z1S b35).bind fun v36 => some (.inr (v36, z1S))) else (some (.inl (3, z1S)))))))))))))
set_option maxHeartbeats 4000000 in
set_option maxRecDepth 100000 in
theorem cm_X6_cache (l : Launch) (F : Nat) (hl0 : l.stackTraces = false) (D : va_G) (ct : ClassId × ClassId × ClassId) (b0 : Nat) (G : Gam) (S : Cst) (this : Nat) (x1 : Int32) (x2 : Int32) (x3 : Int32) (hk_this : ty G 6 this) (hb : ∀ a ∈ G.1, b0 ≤ a) (hbn : b0 ≤ nx S) (res : Thr Int32) (hf : cf_X6_cache F S this x1 x2 x3 = some res) : xMet l yX6_cache cq_X6_cache { frames := 7, cells := 2, slots := 12, locals := 122 } D ct G b0 [.ref this, .int x1, .int x2, .int x3] S (fun r : Int32 => some (.int r)) (fun _ _ => True) res 2 12 := by
  refine xMet_of (own := RX6) (cc := cX6_cache) (maxL := 6) (ret := (some .int)) hb hbn (by decide) rfl rfl (Nat.le_of_ble_eq_true rfl) ?_
  intro p e s m below meth c X hr hlk htab Z ls A hl hB hA hAb hS
  have hx := X.1.1
  have hb := X.1.2.1
  have hown := X.1.2.2.2.1
  have hts := X.1.2.2.2.2
  have hl : lv_has ls 6 [(0, .ref this), (1, .int x1), (2, .int x2), (3, .int x3)] := hl
  generalize hargs : ([.ref this, .int x1, .int x2, .int x3] : List Value).toArray = args at X hts hS ⊢
  have hsz := hB.2.2.1
  obtain ⟨G0, eG0⟩ : ∃ z, z = G := ⟨_, rfl⟩
  obtain ⟨S0, eS0⟩ : ∃ z, z = S := ⟨_, rfl⟩
  have hext : ext G0 (nx S0) G := by rw [eG0]; exact ext_rf
  rw [← eS0] at hsz
  suffices hgoal : W p l e { frames := 7, cells := 2, slots := 12, locals := 122 } s m args below meth c s.heap [] (0) (0) (vx_MQ below (tQ (fun r : Int32 => some (.int r)) D ct G0 (nx S0) (fun _ _ => True) A res) (tX D ct G0 (nx S0) A res) args s 2 12 A) (F0 m 0 ls []) by rw [eG0, eS0] at hgoal; exact hgoal
  unfold cf_X6_cache at hf
  refine lv_aload_n hx hb dX6_cache_0 rfl (lv_at hl 0 rfl) ?_
  refine lv_iload_n hx hb dX6_cache_1 rfl (lv_at hl 1 rfl) ?_
  obtain ⟨z1, hqz1, hf⟩ := bn_s hf
  have hle : nx S0 ≤ nx S := by rw [← hsz, ← hB.2.2.1]; exact hS.1
  refine t_do hB hS hA hext hle htab hlk (vx_runV (As := [.int x1]) (rest := []) X.1 (cm_X6_arenaAt l F hl0 D ct b0 _ _ this x1 hk_this (fun a ha => hAb a (c_in hB ha)) (hAb _ (hA _ (by rw [← hB.2.2.1]; exact hS.1))) _ hqz1) (cwV 1 hts (gd_V km_X6_43 ki_X6_arenaAt ks_X6_arenaAt kin_RX6 kc_X6_arenaAt) rfl rfl rfl (by decide +kernel) ⟨by dsimp only; omega, by dsimp only; omega⟩) (t_preV X Z hB hS hAb hk_this rfl rfl) rfl rfl hl.1 rfl (lv_room (Nat.le_of_ble_eq_true rfl)) dX6_cache_2 ⟨by dsimp only; omega, by dsimp only; omega⟩) (fun w hw => by subst hw; exact tr_l hf) (by omega) (by omega) (fun z1v z1S hz G H locs hx1 hB2 hT hS => ?_)
  subst hz
  have hf := tr_r hf
  have hext := hext.trans hx1 hle
  have hk_this := hx1.1 _ _ hk_this
  have hB := hB2
  clear hB2
  have hk_z1v := hT
  refine W.widen (k := 1) (n := 6) (by omega) (by omega) ?_
  refine W.eq (g2 := F0 m 5 ls [va_rf z1v]) rfl ?_
  refine lv_astoreq (lv' := [(4, va_rf z1v), (0, .ref this), (1, .int x1), (2, .int x2), (3, .int x3)]) hx hb dX6_cache_5 hl (by decide) rfl (fun ls hl => ?_)
  refine lv_aloadq hx hb dX6_cache_7 (lv_at hl 0 rfl) ?_
  refine lv_iload_n hx hb dX6_cache_9 rfl (lv_at hl 3 rfl) ?_
  obtain ⟨b2, eb2, hf2⟩ := nn_s hf
  clear hf
  subst eb2
  have hf := hf2
  clear hf2
  have hk_b2 := hk_z1v b2 rfl
  have hl : lv_has ls 6 [(4, .ref b2), (0, .ref this), (1, .int x1), (2, .int x2), (3, .int x3)] := hl
  obtain ⟨q3, hqq3, hf⟩ := bn_s hf
  refine c_doF hB hS hA (va_runV (As := [.int x2]) (rest := []) X.1 (cm_X0_cacheOf l F D ct _ _ b2 x2 hk_b2 _ hqq3) (cwV 1 hts (gd_V km_X6_219 ki_X0_cacheOf ks_X0_cacheOf kin_RX0 kc_X0_cacheOf) rfl rfl rfl (by decide +kernel) ⟨by dsimp only; omega, by dsimp only; omega⟩) (c_preV X hB hk_b2 rfl rfl) rfl rfl hl.1 rfl (lv_room (Nat.le_of_ble_eq_true rfl)) dX6_cache_10 ⟨by dsimp only; omega, by dsimp only; omega⟩) rfl (fun H locs hB hT hS => ?_)
  have hk_q3 := hT
  refine lv_astoreq (lv' := [(5, va_rf q3), (4, .ref b2), (0, .ref this), (1, .int x1), (2, .int x2), (3, .int x3)]) hx hb dX6_cache_13 hl (by decide) rfl (fun ls hl => ?_)
  refine lv_aloadq hx hb dX6_cache_15 (lv_at hl 0 rfl) ?_
  rcases q3 with _ | b4
  · have hf := nc_n hf
    have hl : lv_has ls 6 [(5, .null), (4, .ref b2), (0, .ref this), (1, .int x1), (2, .int x2), (3, .int x3)] := hl
    refine lv_ifnonnullN hx hb dX6_cache_17 ?_
    obtain rfl := Option.some.inj hf
    exact t_throwN X Z hl0 hB hS hext hAb htab hlk hl 3 rfl (text := "no such cache") (is := 223) (by decide +kernel) (by decide +kernel) kcl_X6_188 kin_java_util_NoSuchElementException Z.2.1.2.2.1 th_w_NSE th_n_NSE th_g_NSE dX6_cache_20 dX6_cache_23 dX6_cache_24 dX6_cache_26 dX6_cache_29 (by decide) (Nat.le_of_ble_eq_true rfl) (by dsimp only; omega) (by dsimp only; omega) (by omega) (by omega)
  · have hf := nc_b hf
    have hk_b4 := hk_q3 b4 rfl
    have hl : lv_has ls 6 [(5, .ref b4), (4, .ref b2), (0, .ref this), (1, .int x1), (2, .int x2), (3, .int x3)] := hl
    refine lv_ifnonnull (tgt := 30) hx hb dX6_cache_17 (by decide) ?_
    refine lv_iload_n hx hb dX6_cache_30 rfl (lv_at hl 5 rfl) ?_
    by_cases hc37 : x3 = 0
    · have hf := if_t hf hc37
      refine lv_tableIn (tgt := 84) hx hb dX6_cache_31 (by rw [hc37]; decide) (by rw [hc37]; decide) (off := 53) (by rw [hc37]; decide) (by decide) ?_
      refine lv_aload hx hb dX6_cache_84 (lv_at hl 1 rfl) ?_
      refine lv_aload hx hb dX6_cache_86 (lv_at hl 0 rfl) ?_
      obtain ⟨v5, hqv5, hf⟩ := bn_s hf
      refine c_doF hB hS hA (va_runV (As := [va_rf (some b4)]) (rest := []) X.1 (cm_X0_objectsHeld l F D ct _ _ b2 (some b4) hk_b2 (tyo_some hk_b4) _ hqv5) (cwV 1 hts (gd_V km_X6_225 ki_X0_objectsHeld ks_X0_objectsHeld kin_RX0 kc_X0_objectsHeld) rfl rfl rfl (by decide +kernel) ⟨by dsimp only; omega, by dsimp only; omega⟩) (c_preV X hB hk_b2 rfl rfl) rfl rfl hl.1 rfl (lv_room (Nat.le_of_ble_eq_true rfl)) dX6_cache_88 ⟨by dsimp only; omega, by dsimp only; omega⟩) rfl (fun H locs hB hT hS => ?_)
      obtain rfl := Option.some.inj hf
      refine W.widen (k := 2) (n := 12) (by omega) (by omega) ?_
      refine vx_ret ?_
      exact W.iret hx hb hr (fun t ht hW => c_endE X hext hB trivial hS ht hW) hS.2.2 dX6_cache_91 hlk
    have hf := if_f hf hc37
    by_cases hc38 : x3 = 1
    · have hf := if_t hf hc38
      refine lv_tableIn (tgt := 92) hx hb dX6_cache_31 (by rw [hc38]; decide) (by rw [hc38]; decide) (off := 61) (by rw [hc38]; decide) (by decide) ?_
      refine lv_aload hx hb dX6_cache_92 (lv_at hl 0 rfl) ?_
      refine c_get X hB hk_b4 rfl rfl kw_X2 1 229 (by decide) kf_X6_229 rfl rfl dX6_cache_94 ?_
      obtain ⟨q6, eq6, hf⟩ := st1_s hf
      rw [← eq6]
      have hk_q6 : tyo G 3 q6 := by rw [eq6]; exact hB.2.2.2.1 (2, 33, 3) (by decide) _ hk_b4
      obtain ⟨b7, eb7, hf2⟩ := nn_s hf
      clear hf
      subst eb7
      have hf := hf2
      clear hf2
      have hk_b7 := hk_q6 b7 rfl
      have hl : lv_has ls 6 [(5, .ref b4), (4, .ref b2), (0, .ref this), (1, .int x1), (2, .int x2), (3, .int x3)] := hl
      refine c_get X hB hk_b7 rfl rfl kw_X3 0 235 (by decide) kf_X6_235 rfl rfl dX6_cache_97 ?_
      obtain ⟨q8, eq8, hf⟩ := st1_s hf
      rw [← eq8]
      have hk_q8 : tyo G 4 q8 := by rw [eq8]; exact hB.2.2.2.1 (3, 48, 4) (by decide) _ hk_b7
      obtain ⟨b9, eb9, hf2⟩ := nn_s hf
      clear hf
      subst eb9
      have hf := hf2
      clear hf2
      have hk_b9 := hk_q8 b9 rfl
      have hl : lv_has ls 6 [(5, .ref b4), (4, .ref b2), (0, .ref this), (1, .int x1), (2, .int x2), (3, .int x3)] := hl
      refine c_get X hB hk_b9 rfl rfl kw_X4 1 241 (by decide) kf_X6_241 rfl rfl dX6_cache_100 ?_
      obtain rfl := Option.some.inj hf
      refine W.widen (k := 2) (n := 12) (by omega) (by omega) ?_
      refine vx_ret ?_
      exact W.iret hx hb hr (fun t ht hW => c_endE X hext hB trivial hS ht hW) hS.2.2 dX6_cache_103 hlk
    have hf := if_f hf hc38
    by_cases hc39 : x3 = 2
    · have hf := if_t hf hc39
      refine lv_tableIn (tgt := 104) hx hb dX6_cache_31 (by rw [hc39]; decide) (by rw [hc39]; decide) (off := 73) (by rw [hc39]; decide) (by decide) ?_
      refine lv_aload hx hb dX6_cache_104 (lv_at hl 0 rfl) ?_
      refine c_get X hB hk_b4 rfl rfl kw_X2 1 229 (by decide) kf_X6_229 rfl rfl dX6_cache_106 ?_
      obtain ⟨q10, eq10, hf⟩ := st1_s hf
      rw [← eq10]
      have hk_q10 : tyo G 3 q10 := by rw [eq10]; exact hB.2.2.2.1 (2, 33, 3) (by decide) _ hk_b4
      obtain ⟨b11, eb11, hf2⟩ := nn_s hf
      clear hf
      subst eb11
      have hf := hf2
      clear hf2
      have hk_b11 := hk_q10 b11 rfl
      have hl : lv_has ls 6 [(5, .ref b4), (4, .ref b2), (0, .ref this), (1, .int x1), (2, .int x2), (3, .int x3)] := hl
      refine c_get X hB hk_b11 rfl rfl kw_X3 1 246 (by decide) kf_X6_246 rfl rfl dX6_cache_109 ?_
      obtain ⟨q12, eq12, hf⟩ := st1_s hf
      rw [← eq12]
      have hk_q12 : tyo G 4 q12 := by rw [eq12]; exact hB.2.2.2.1 (3, 49, 4) (by decide) _ hk_b11
      obtain ⟨b13, eb13, hf2⟩ := nn_s hf
      clear hf
      subst eb13
      have hf := hf2
      clear hf2
      have hk_b13 := hk_q12 b13 rfl
      have hl : lv_has ls 6 [(5, .ref b4), (4, .ref b2), (0, .ref this), (1, .int x1), (2, .int x2), (3, .int x3)] := hl
      refine c_get X hB hk_b13 rfl rfl kw_X4 1 241 (by decide) kf_X6_241 rfl rfl dX6_cache_112 ?_
      obtain rfl := Option.some.inj hf
      refine W.widen (k := 2) (n := 12) (by omega) (by omega) ?_
      refine vx_ret ?_
      exact W.iret hx hb hr (fun t ht hW => c_endE X hext hB trivial hS ht hW) hS.2.2 dX6_cache_115 hlk
    have hf := if_f hf hc39
    by_cases hc40 : x3 = 3
    · have hf := if_t hf hc40
      refine lv_tableIn (tgt := 116) hx hb dX6_cache_31 (by rw [hc40]; decide) (by rw [hc40]; decide) (off := 85) (by rw [hc40]; decide) (by decide) ?_
      refine lv_aload hx hb dX6_cache_116 (lv_at hl 0 rfl) ?_
      refine c_get X hB hk_b4 rfl rfl kw_X2 2 249 (by decide) kf_X6_249 rfl rfl dX6_cache_118 ?_
      obtain ⟨q14, eq14, hf⟩ := st1_s hf
      rw [← eq14]
      have hk_q14 : tyo G 3 q14 := by rw [eq14]; exact hB.2.2.2.1 (2, 34, 3) (by decide) _ hk_b4
      obtain ⟨b15, eb15, hf2⟩ := nn_s hf
      clear hf
      subst eb15
      have hf := hf2
      clear hf2
      have hk_b15 := hk_q14 b15 rfl
      have hl : lv_has ls 6 [(5, .ref b4), (4, .ref b2), (0, .ref this), (1, .int x1), (2, .int x2), (3, .int x3)] := hl
      refine c_get X hB hk_b15 rfl rfl kw_X3 0 235 (by decide) kf_X6_235 rfl rfl dX6_cache_121 ?_
      obtain ⟨q16, eq16, hf⟩ := st1_s hf
      rw [← eq16]
      have hk_q16 : tyo G 4 q16 := by rw [eq16]; exact hB.2.2.2.1 (3, 48, 4) (by decide) _ hk_b15
      obtain ⟨b17, eb17, hf2⟩ := nn_s hf
      clear hf
      subst eb17
      have hf := hf2
      clear hf2
      have hk_b17 := hk_q16 b17 rfl
      have hl : lv_has ls 6 [(5, .ref b4), (4, .ref b2), (0, .ref this), (1, .int x1), (2, .int x2), (3, .int x3)] := hl
      refine c_get X hB hk_b17 rfl rfl kw_X4 1 241 (by decide) kf_X6_241 rfl rfl dX6_cache_124 ?_
      obtain rfl := Option.some.inj hf
      refine W.widen (k := 2) (n := 12) (by omega) (by omega) ?_
      refine vx_ret ?_
      exact W.iret hx hb hr (fun t ht hW => c_endE X hext hB trivial hS ht hW) hS.2.2 dX6_cache_127 hlk
    have hf := if_f hf hc40
    by_cases hc41 : x3 = 4
    · have hf := if_t hf hc41
      refine lv_tableIn (tgt := 128) hx hb dX6_cache_31 (by rw [hc41]; decide) (by rw [hc41]; decide) (off := 97) (by rw [hc41]; decide) (by decide) ?_
      refine lv_aload hx hb dX6_cache_128 (lv_at hl 0 rfl) ?_
      refine c_get X hB hk_b4 rfl rfl kw_X2 2 249 (by decide) kf_X6_249 rfl rfl dX6_cache_130 ?_
      obtain ⟨q18, eq18, hf⟩ := st1_s hf
      rw [← eq18]
      have hk_q18 : tyo G 3 q18 := by rw [eq18]; exact hB.2.2.2.1 (2, 34, 3) (by decide) _ hk_b4
      obtain ⟨b19, eb19, hf2⟩ := nn_s hf
      clear hf
      subst eb19
      have hf := hf2
      clear hf2
      have hk_b19 := hk_q18 b19 rfl
      have hl : lv_has ls 6 [(5, .ref b4), (4, .ref b2), (0, .ref this), (1, .int x1), (2, .int x2), (3, .int x3)] := hl
      refine c_get X hB hk_b19 rfl rfl kw_X3 1 246 (by decide) kf_X6_246 rfl rfl dX6_cache_133 ?_
      obtain ⟨q20, eq20, hf⟩ := st1_s hf
      rw [← eq20]
      have hk_q20 : tyo G 4 q20 := by rw [eq20]; exact hB.2.2.2.1 (3, 49, 4) (by decide) _ hk_b19
      obtain ⟨b21, eb21, hf2⟩ := nn_s hf
      clear hf
      subst eb21
      have hf := hf2
      clear hf2
      have hk_b21 := hk_q20 b21 rfl
      have hl : lv_has ls 6 [(5, .ref b4), (4, .ref b2), (0, .ref this), (1, .int x1), (2, .int x2), (3, .int x3)] := hl
      refine c_get X hB hk_b21 rfl rfl kw_X4 1 241 (by decide) kf_X6_241 rfl rfl dX6_cache_136 ?_
      obtain rfl := Option.some.inj hf
      refine W.widen (k := 2) (n := 12) (by omega) (by omega) ?_
      refine vx_ret ?_
      exact W.iret hx hb hr (fun t ht hW => c_endE X hext hB trivial hS ht hW) hS.2.2 dX6_cache_139 hlk
    have hf := if_f hf hc41
    by_cases hc42 : x3 = 5
    · have hf := if_t hf hc42
      refine lv_tableIn (tgt := 140) hx hb dX6_cache_31 (by rw [hc42]; decide) (by rw [hc42]; decide) (off := 109) (by rw [hc42]; decide) (by decide) ?_
      refine lv_aload hx hb dX6_cache_140 (lv_at hl 0 rfl) ?_
      refine c_get X hB hk_b4 rfl rfl kw_X2 3 252 (by decide) kf_X6_252 rfl rfl dX6_cache_142 ?_
      obtain ⟨q22, eq22, hf⟩ := st1_s hf
      rw [← eq22]
      have hk_q22 : tyo G 4 q22 := by rw [eq22]; exact hB.2.2.2.1 (2, 35, 4) (by decide) _ hk_b4
      obtain ⟨b23, eb23, hf2⟩ := nn_s hf
      clear hf
      subst eb23
      have hf := hf2
      clear hf2
      have hk_b23 := hk_q22 b23 rfl
      have hl : lv_has ls 6 [(5, .ref b4), (4, .ref b2), (0, .ref this), (1, .int x1), (2, .int x2), (3, .int x3)] := hl
      refine c_get X hB hk_b23 rfl rfl kw_X4 1 241 (by decide) kf_X6_241 rfl rfl dX6_cache_145 ?_
      refine lv_iconst (v := 3) hx hb dX6_cache_148 (by decide) ?_
      obtain ⟨hd24, hf⟩ := dv_s hf
      refine lv_idiv hx hb dX6_cache_149 hd24 ?_
      obtain rfl := Option.some.inj hf
      refine W.widen (k := 2) (n := 12) (by omega) (by omega) ?_
      refine vx_ret ?_
      exact W.iret hx hb hr (fun t ht hW => c_endE X hext hB trivial hS ht hW) hS.2.2 dX6_cache_150 hlk
    have hf := if_f hf hc42
    by_cases hc43 : x3 = 6
    · have hf := if_t hf hc43
      refine lv_tableIn (tgt := 151) hx hb dX6_cache_31 (by rw [hc43]; decide) (by rw [hc43]; decide) (off := 120) (by rw [hc43]; decide) (by decide) ?_
      refine lv_aload hx hb dX6_cache_151 (lv_at hl 1 rfl) ?_
      refine lv_aload hx hb dX6_cache_153 (lv_at hl 0 rfl) ?_
      obtain ⟨v25, hqv25, hf⟩ := bn_s hf
      refine c_doF hB hS hA (va_runV (As := [va_rf (some b4)]) (rest := []) X.1 (cm_X0_objectsLying l F D ct _ _ b2 (some b4) hk_b2 (tyo_some hk_b4) _ hqv25) (cwV 1 hts (gd_V km_X6_255 ki_X0_objectsLying ks_X0_objectsLying kin_RX0 kc_X0_objectsLying) rfl rfl rfl (by decide +kernel) ⟨by dsimp only; omega, by dsimp only; omega⟩) (c_preV X hB hk_b2 rfl rfl) rfl rfl hl.1 rfl (lv_room (Nat.le_of_ble_eq_true rfl)) dX6_cache_155 ⟨by dsimp only; omega, by dsimp only; omega⟩) rfl (fun H locs hB hT hS => ?_)
      obtain rfl := Option.some.inj hf
      refine W.widen (k := 2) (n := 12) (by omega) (by omega) ?_
      refine vx_ret ?_
      exact W.iret hx hb hr (fun t ht hW => c_endE X hext hB trivial hS ht hW) hS.2.2 dX6_cache_158 hlk
    have hf := if_f hf hc43
    by_cases hc44 : x3 = 7
    · have hf := if_t hf hc44
      refine lv_tableIn (tgt := 159) hx hb dX6_cache_31 (by rw [hc44]; decide) (by rw [hc44]; decide) (off := 128) (by rw [hc44]; decide) (by decide) ?_
      refine lv_aload hx hb dX6_cache_159 (lv_at hl 1 rfl) ?_
      refine lv_aload hx hb dX6_cache_161 (lv_at hl 0 rfl) ?_
      obtain ⟨v26, hqv26, hf⟩ := bn_s hf
      refine c_doF hB hS hA (va_runV (As := [va_rf (some b4)]) (rest := []) X.1 (cm_X0_slabsOf l F D ct _ _ b2 (some b4) hk_b2 (tyo_some hk_b4) _ hqv26) (cwV 1 hts (gd_V km_X6_258 ki_X0_slabsOf ks_X0_slabsOf kin_RX0 kc_X0_slabsOf) rfl rfl rfl (by decide +kernel) ⟨by dsimp only; omega, by dsimp only; omega⟩) (c_preV X hB hk_b2 rfl rfl) rfl rfl hl.1 rfl (lv_room (Nat.le_of_ble_eq_true rfl)) dX6_cache_163 ⟨by dsimp only; omega, by dsimp only; omega⟩) rfl (fun H locs hB hT hS => ?_)
      obtain rfl := Option.some.inj hf
      refine W.widen (k := 2) (n := 12) (by omega) (by omega) ?_
      refine vx_ret ?_
      exact W.iret hx hb hr (fun t ht hW => c_endE X hext hB trivial hS ht hW) hS.2.2 dX6_cache_166 hlk
    have hf := if_f hf hc44
    by_cases hc45 : x3 = 8
    · have hf := if_t hf hc45
      refine lv_tableIn (tgt := 167) hx hb dX6_cache_31 (by rw [hc45]; decide) (by rw [hc45]; decide) (off := 136) (by rw [hc45]; decide) (by decide) ?_
      refine lv_aload hx hb dX6_cache_167 (lv_at hl 0 rfl) ?_
      refine c_get X hB hk_b4 rfl rfl kw_X2 1 229 (by decide) kf_X6_229 rfl rfl dX6_cache_169 ?_
      obtain ⟨q27, eq27, hf⟩ := st1_s hf
      rw [← eq27]
      have hk_q27 : tyo G 3 q27 := by rw [eq27]; exact hB.2.2.2.1 (2, 33, 3) (by decide) _ hk_b4
      obtain ⟨b28, eb28, hf2⟩ := nn_s hf
      clear hf
      subst eb28
      have hf := hf2
      clear hf2
      have hk_b28 := hk_q27 b28 rfl
      have hl : lv_has ls 6 [(5, .ref b4), (4, .ref b2), (0, .ref this), (1, .int x1), (2, .int x2), (3, .int x3)] := hl
      refine c_get X hB hk_b28 rfl rfl kw_X3 0 235 (by decide) kf_X6_235 rfl rfl dX6_cache_172 ?_
      obtain ⟨q29, eq29, hf⟩ := st1_s hf
      rw [← eq29]
      have hk_q29 : tyo G 4 q29 := by rw [eq29]; exact hB.2.2.2.1 (3, 48, 4) (by decide) _ hk_b28
      obtain ⟨b30, eb30, hf2⟩ := nn_s hf
      clear hf
      subst eb30
      have hf := hf2
      clear hf2
      have hk_b30 := hk_q29 b30 rfl
      have hl : lv_has ls 6 [(5, .ref b4), (4, .ref b2), (0, .ref this), (1, .int x1), (2, .int x2), (3, .int x3)] := hl
      obtain ⟨v31, hqv31, hf⟩ := bn_s hf
      refine c_doF hB hS hA (va_runV (As := []) (rest := []) X.1 (cm_X4_top l F D ct _ _ b30 hk_b30 _ hqv31) (cwV 0 hts (gd_V km_X6_261 ki_X4_top ks_X4_top kin_RX4 kc_X4_top) rfl rfl rfl (by decide +kernel) ⟨by dsimp only; omega, by dsimp only; omega⟩) (c_preV X hB hk_b30 rfl rfl) rfl rfl hl.1 rfl (lv_room (Nat.le_of_ble_eq_true rfl)) dX6_cache_175 ⟨by dsimp only; omega, by dsimp only; omega⟩) rfl (fun H locs hB hT hS => ?_)
      obtain rfl := Option.some.inj hf
      refine W.widen (k := 2) (n := 12) (by omega) (by omega) ?_
      refine vx_ret ?_
      exact W.iret hx hb hr (fun t ht hW => c_endE X hext hB trivial hS ht hW) hS.2.2 dX6_cache_178 hlk
    have hf := if_f hf hc45
    by_cases hc46 : x3 = 9
    · have hf := if_t hf hc46
      refine lv_tableIn (tgt := 179) hx hb dX6_cache_31 (by rw [hc46]; decide) (by rw [hc46]; decide) (off := 148) (by rw [hc46]; decide) (by decide) ?_
      refine lv_aload hx hb dX6_cache_179 (lv_at hl 0 rfl) ?_
      refine c_get X hB hk_b4 rfl rfl kw_X2 2 249 (by decide) kf_X6_249 rfl rfl dX6_cache_181 ?_
      obtain ⟨q32, eq32, hf⟩ := st1_s hf
      rw [← eq32]
      have hk_q32 : tyo G 3 q32 := by rw [eq32]; exact hB.2.2.2.1 (2, 34, 3) (by decide) _ hk_b4
      obtain ⟨b33, eb33, hf2⟩ := nn_s hf
      clear hf
      subst eb33
      have hf := hf2
      clear hf2
      have hk_b33 := hk_q32 b33 rfl
      have hl : lv_has ls 6 [(5, .ref b4), (4, .ref b2), (0, .ref this), (1, .int x1), (2, .int x2), (3, .int x3)] := hl
      refine c_get X hB hk_b33 rfl rfl kw_X3 0 235 (by decide) kf_X6_235 rfl rfl dX6_cache_184 ?_
      obtain ⟨q34, eq34, hf⟩ := st1_s hf
      rw [← eq34]
      have hk_q34 : tyo G 4 q34 := by rw [eq34]; exact hB.2.2.2.1 (3, 48, 4) (by decide) _ hk_b33
      obtain ⟨b35, eb35, hf2⟩ := nn_s hf
      clear hf
      subst eb35
      have hf := hf2
      clear hf2
      have hk_b35 := hk_q34 b35 rfl
      have hl : lv_has ls 6 [(5, .ref b4), (4, .ref b2), (0, .ref this), (1, .int x1), (2, .int x2), (3, .int x3)] := hl
      obtain ⟨v36, hqv36, hf⟩ := bn_s hf
      refine c_doF hB hS hA (va_runV (As := []) (rest := []) X.1 (cm_X4_top l F D ct _ _ b35 hk_b35 _ hqv36) (cwV 0 hts (gd_V km_X6_261 ki_X4_top ks_X4_top kin_RX4 kc_X4_top) rfl rfl rfl (by decide +kernel) ⟨by dsimp only; omega, by dsimp only; omega⟩) (c_preV X hB hk_b35 rfl rfl) rfl rfl hl.1 rfl (lv_room (Nat.le_of_ble_eq_true rfl)) dX6_cache_187 ⟨by dsimp only; omega, by dsimp only; omega⟩) rfl (fun H locs hB hT hS => ?_)
      obtain rfl := Option.some.inj hf
      refine W.widen (k := 2) (n := 12) (by omega) (by omega) ?_
      refine vx_ret ?_
      exact W.iret hx hb hr (fun t ht hW => c_endE X hext hB trivial hS ht hW) hS.2.2 dX6_cache_190 hlk
    have hf := if_f hf hc46
    refine lv_tableOut (tgt := 191) hx hb dX6_cache_31 (by have zhc37 := lv_neT hc37 (a := 0) (by decide); have zhc38 := lv_neT hc38 (a := 1) (by decide); have zhc39 := lv_neT hc39 (a := 2) (by decide); have zhc40 := lv_neT hc40 (a := 3) (by decide); have zhc41 := lv_neT hc41 (a := 4) (by decide); have zhc42 := lv_neT hc42 (a := 5) (by decide); have zhc43 := lv_neT hc43 (a := 6) (by decide); have zhc44 := lv_neT hc44 (a := 7) (by decide); have zhc45 := lv_neT hc45 (a := 8) (by decide); have zhc46 := lv_neT hc46 (a := 9) (by decide); omega) (by decide) ?_
    obtain rfl := Option.some.inj hf
    exact t_throwNW X Z hl0 hB hS hext hAb htab hlk hl 3 rfl (text := "no such thing of a cache") (is := 264) (by decide +kernel) (by decide +kernel) kcl_X6_188 kin_java_util_NoSuchElementException Z.2.1.2.2.1 th_w_NSE th_n_NSE th_g_NSE dX6_cache_191 dX6_cache_194 dX6_cache_195 dX6_cache_198 dX6_cache_201 (by decide) (Nat.le_of_ble_eq_true rfl) (by dsimp only; omega) (by dsimp only; omega) (by omega) (by omega)
/-! X6_count -/
def cf_X6_count (F : Nat) (S : Cst) (this : Nat) (x1 : Int32) (x2 : Int32) : Option (Thr Int32) := (cf_X6_arenaAt F S this x1).bind fun z1 => tr z1 fun z1v z1S => if x2 = 0 then (nn z1v fun b2 => some (.inr ((gI z1S 1 b2), z1S))) else (if x2 = 1 then (nn z1v fun b3 => st1 (gP z1S 3 b3) fun q4 => nc q4 (some (.inr (((-1) : Int32), z1S))) (fun b5 => st1 (gP z1S 3 b3) fun q6 => nn q6 fun b7 => some (.inr ((gI z1S 0 b7), z1S)))) else (if x2 = 2 then (nn z1v fun b8 => some (.inr ((gI z1S 4 b8), z1S))) else (if x2 = 3 then (nn z1v fun b9 => some (.inr ((gI z1S 8 b9), z1S))) else (if x2 = 4 then (nn z1v fun b10 => some (.inr ((gI z1S 9 b10), z1S))) else (if x2 = 5 then (nn z1v fun b11 => (cf_X0_segmentsOf F z1S b11 (0 : Int32)).bind fun v12 => some (.inr (v12, z1S))) else (if x2 = 6 then (nn z1v fun b13 => (cf_X0_numbersOf F z1S b13 (0 : Int32)).bind fun v14 => some (.inr (v14, z1S))) else (if x2 = 7 then (nn z1v fun b15 => (cf_X0_numbersOf F z1S b15 (1 : Int32)).bind fun v16 => (cf_X0_numbersOf F z1S b15 (4 : Int32)).bind fun v17 => (cf_X0_numbersInHeldObjects F z1S b15).bind fun v18 => some (.inr (((v16 + v17) + v18), z1S))) else (if x2 = 8 then (nn z1v fun b19 => (cf_X0_numbersOf F z1S b19 (3 : Int32)).bind fun v20 => some (.inr (v20, z1S))) else (if x2 = 9 then (nn z1v fun b21 => (cf_X0_numbersOf F z1S b21 (2 : Int32)).bind fun v22 => some (.inr (v22, z1S))) else (if x2 = 10 then (nn z1v fun b23 => (cf_X0_segmentsOf F z1S b23 (2 : Int32)).bind fun v24 => some (.inr (v24, z1S))) else (if x2 = 11 then (nn z1v fun b25 => some (.inr ((gI z1S 11 b25), z1S))) else (if x2 = 12 then (nn z1v fun b26 => st1 (gP z1S 3 b26) fun q27 => nc q27 (some (.inr ((0 : Int32), z1S))) (fun b28 => some (.inr ((gI z1S 8 b26), z1S)))) else (if x2 = 13 then (nn z1v fun b29 => some (.inr ((gI z1S 14 b29), z1S))) else (if x2 = 14 then (nn z1v fun b30 => some (.inr ((gI z1S 15 b30), z1S))) else (some (.inl (3, z1S)))))))))))))))))
set_option maxHeartbeats 4000000 in
set_option maxRecDepth 100000 in
theorem cm_X6_count (l : Launch) (F : Nat) (hl0 : l.stackTraces = false) (D : va_G) (ct : ClassId × ClassId × ClassId) (b0 : Nat) (G : Gam) (S : Cst) (this : Nat) (x1 : Int32) (x2 : Int32) (hk_this : ty G 6 this) (hb : ∀ a ∈ G.1, b0 ≤ a) (hbn : b0 ≤ nx S) (res : Thr Int32) (hf : cf_X6_count F S this x1 x2 = some res) : xMet l yX6_count cq_X6_count { frames := 7, cells := 2, slots := 12, locals := 122 } D ct G b0 [.ref this, .int x1, .int x2] S (fun r : Int32 => some (.int r)) (fun _ _ => True) res 2 12 := by
  refine xMet_of (own := RX6) (cc := cX6_count) (maxL := 4) (ret := (some .int)) hb hbn (by decide) rfl rfl (Nat.le_of_ble_eq_true rfl) ?_
  intro p e s m below meth c X hr hlk htab Z ls A hl hB hA hAb hS
  have hx := X.1.1
  have hb := X.1.2.1
  have hown := X.1.2.2.2.1
  have hts := X.1.2.2.2.2
  have hl : lv_has ls 4 [(0, .ref this), (1, .int x1), (2, .int x2)] := hl
  generalize hargs : ([.ref this, .int x1, .int x2] : List Value).toArray = args at X hts hS ⊢
  have hsz := hB.2.2.1
  obtain ⟨G0, eG0⟩ : ∃ z, z = G := ⟨_, rfl⟩
  obtain ⟨S0, eS0⟩ : ∃ z, z = S := ⟨_, rfl⟩
  have hext : ext G0 (nx S0) G := by rw [eG0]; exact ext_rf
  rw [← eS0] at hsz
  suffices hgoal : W p l e { frames := 7, cells := 2, slots := 12, locals := 122 } s m args below meth c s.heap [] (0) (0) (vx_MQ below (tQ (fun r : Int32 => some (.int r)) D ct G0 (nx S0) (fun _ _ => True) A res) (tX D ct G0 (nx S0) A res) args s 2 12 A) (F0 m 0 ls []) by rw [eG0, eS0] at hgoal; exact hgoal
  unfold cf_X6_count at hf
  refine lv_aload_n hx hb dX6_count_0 rfl (lv_at hl 0 rfl) ?_
  refine lv_iload_n hx hb dX6_count_1 rfl (lv_at hl 1 rfl) ?_
  obtain ⟨z1, hqz1, hf⟩ := bn_s hf
  have hle : nx S0 ≤ nx S := by rw [← hsz, ← hB.2.2.1]; exact hS.1
  refine t_do hB hS hA hext hle htab hlk (vx_runV (As := [.int x1]) (rest := []) X.1 (cm_X6_arenaAt l F hl0 D ct b0 _ _ this x1 hk_this (fun a ha => hAb a (c_in hB ha)) (hAb _ (hA _ (by rw [← hB.2.2.1]; exact hS.1))) _ hqz1) (cwV 1 hts (gd_V km_X6_43 ki_X6_arenaAt ks_X6_arenaAt kin_RX6 kc_X6_arenaAt) rfl rfl rfl (by decide +kernel) ⟨by dsimp only; omega, by dsimp only; omega⟩) (t_preV X Z hB hS hAb hk_this rfl rfl) rfl rfl hl.1 rfl (lv_room (Nat.le_of_ble_eq_true rfl)) dX6_count_2 ⟨by dsimp only; omega, by dsimp only; omega⟩) (fun w hw => by subst hw; exact tr_l hf) (by omega) (by omega) (fun z1v z1S hz G H locs hx1 hB2 hT hS => ?_)
  subst hz
  have hf := tr_r hf
  have hext := hext.trans hx1 hle
  have hk_this := hx1.1 _ _ hk_this
  have hB := hB2
  clear hB2
  have hk_z1v := hT
  refine W.widen (k := 1) (n := 6) (by omega) (by omega) ?_
  refine W.eq (g2 := F0 m 5 ls [va_rf z1v]) rfl ?_
  refine lv_astore_nq (lv' := [(3, va_rf z1v), (0, .ref this), (1, .int x1), (2, .int x2)]) hx hb dX6_count_5 rfl hl (by decide) rfl (fun ls hl => ?_)
  refine lv_iload_n hx hb dX6_count_6 rfl (lv_at hl 3 rfl) ?_
  by_cases hc31 : x2 = 0
  · have hf := if_t hf hc31
    refine lv_tableIn (tgt := 80) hx hb dX6_count_7 (by rw [hc31]; decide) (by rw [hc31]; decide) (off := 73) (by rw [hc31]; decide) (by decide) ?_
    refine lv_aload_nq hx hb dX6_count_80 rfl (lv_at hl 0 rfl) ?_
    obtain ⟨b2, eb2, hf2⟩ := nn_s hf
    clear hf
    subst eb2
    have hf := hf2
    clear hf2
    have hk_b2 := hk_z1v b2 rfl
    have hl : lv_has ls 4 [(3, .ref b2), (0, .ref this), (1, .int x1), (2, .int x2)] := hl
    refine c_get X hB hk_b2 rfl rfl kw_X0 1 35 (by decide) kf_X6_35 rfl rfl dX6_count_81 ?_
    obtain rfl := Option.some.inj hf
    refine W.widen (k := 2) (n := 12) (by omega) (by omega) ?_
    refine vx_ret ?_
    exact W.iret hx hb hr (fun t ht hW => c_endE X hext hB trivial hS ht hW) hS.2.2 dX6_count_84 hlk
  have hf := if_f hf hc31
  by_cases hc32 : x2 = 1
  · have hf := if_t hf hc32
    refine lv_tableIn (tgt := 85) hx hb dX6_count_7 (by rw [hc32]; decide) (by rw [hc32]; decide) (off := 78) (by rw [hc32]; decide) (by decide) ?_
    refine lv_aload_nq hx hb dX6_count_85 rfl (lv_at hl 0 rfl) ?_
    obtain ⟨b3, eb3, hf2⟩ := nn_s hf
    clear hf
    subst eb3
    have hf := hf2
    clear hf2
    have hk_b3 := hk_z1v b3 rfl
    have hl : lv_has ls 4 [(3, .ref b3), (0, .ref this), (1, .int x1), (2, .int x2)] := hl
    refine c_get X hB hk_b3 rfl rfl kw_X0 3 57 (by decide) kf_X6_57 rfl rfl dX6_count_86 ?_
    obtain ⟨q4, eq4, hf⟩ := st1_s hf
    rw [← eq4]
    have hk_q4 : tyo G 0 q4 := by rw [eq4]; exact hB.2.2.2.1 (0, 3, 0) (by decide) _ hk_b3
    rcases q4 with _ | b5
    · have hf := nc_n hf
      have hl : lv_has ls 4 [(3, .ref b3), (0, .ref this), (1, .int x1), (2, .int x2)] := hl
      refine lv_ifnonnullN hx hb dX6_count_89 ?_
      refine lv_iconst (v := (-1)) hx hb dX6_count_92 (by decide) ?_
      refine lv_goto (tgt := 103) hx hb dX6_count_93 (by decide) ?_
      obtain rfl := Option.some.inj hf
      refine W.widen (k := 2) (n := 12) (by omega) (by omega) ?_
      refine vx_ret ?_
      exact W.iret hx hb hr (fun t ht hW => c_endE X hext hB trivial hS ht hW) hS.2.2 dX6_count_103 hlk
    · have hf := nc_b hf
      have hk_b5 := hk_q4 b5 rfl
      have hl : lv_has ls 4 [(3, .ref b3), (0, .ref this), (1, .int x1), (2, .int x2)] := hl
      refine lv_ifnonnull (tgt := 96) hx hb dX6_count_89 (by decide) ?_
      refine lv_aload_n hx hb dX6_count_96 rfl (lv_at hl 0 rfl) ?_
      refine c_get X hB hk_b3 rfl rfl kw_X0 3 57 (by decide) kf_X6_57 rfl rfl dX6_count_97 ?_
      obtain ⟨q6, eq6, hf⟩ := st1_s hf
      rw [← eq6]
      have hk_q6 : tyo G 0 q6 := by rw [eq6]; exact hB.2.2.2.1 (0, 3, 0) (by decide) _ hk_b3
      obtain ⟨b7, eb7, hf2⟩ := nn_s hf
      clear hf
      subst eb7
      have hf := hf2
      clear hf2
      have hk_b7 := hk_q6 b7 rfl
      have hl : lv_has ls 4 [(3, .ref b3), (0, .ref this), (1, .int x1), (2, .int x2)] := hl
      refine c_get X hB hk_b7 rfl rfl kw_X0 0 157 (by decide) kf_X6_157 rfl rfl dX6_count_100 ?_
      obtain rfl := Option.some.inj hf
      refine W.widen (k := 2) (n := 12) (by omega) (by omega) ?_
      refine vx_ret ?_
      exact W.iret hx hb hr (fun t ht hW => c_endE X hext hB trivial hS ht hW) hS.2.2 dX6_count_103 hlk
  have hf := if_f hf hc32
  by_cases hc33 : x2 = 2
  · have hf := if_t hf hc33
    refine lv_tableIn (tgt := 104) hx hb dX6_count_7 (by rw [hc33]; decide) (by rw [hc33]; decide) (off := 97) (by rw [hc33]; decide) (by decide) ?_
    refine lv_aload_nq hx hb dX6_count_104 rfl (lv_at hl 0 rfl) ?_
    obtain ⟨b8, eb8, hf2⟩ := nn_s hf
    clear hf
    subst eb8
    have hf := hf2
    clear hf2
    have hk_b8 := hk_z1v b8 rfl
    have hl : lv_has ls 4 [(3, .ref b8), (0, .ref this), (1, .int x1), (2, .int x2)] := hl
    refine c_get X hB hk_b8 rfl rfl kw_X0 4 160 (by decide) kf_X6_160 rfl rfl dX6_count_105 ?_
    obtain rfl := Option.some.inj hf
    refine W.widen (k := 2) (n := 12) (by omega) (by omega) ?_
    refine vx_ret ?_
    exact W.iret hx hb hr (fun t ht hW => c_endE X hext hB trivial hS ht hW) hS.2.2 dX6_count_108 hlk
  have hf := if_f hf hc33
  by_cases hc34 : x2 = 3
  · have hf := if_t hf hc34
    refine lv_tableIn (tgt := 109) hx hb dX6_count_7 (by rw [hc34]; decide) (by rw [hc34]; decide) (off := 102) (by rw [hc34]; decide) (by decide) ?_
    refine lv_aload_nq hx hb dX6_count_109 rfl (lv_at hl 0 rfl) ?_
    obtain ⟨b9, eb9, hf2⟩ := nn_s hf
    clear hf
    subst eb9
    have hf := hf2
    clear hf2
    have hk_b9 := hk_z1v b9 rfl
    have hl : lv_has ls 4 [(3, .ref b9), (0, .ref this), (1, .int x1), (2, .int x2)] := hl
    refine c_get X hB hk_b9 rfl rfl kw_X0 8 163 (by decide) kf_X6_163 rfl rfl dX6_count_110 ?_
    obtain rfl := Option.some.inj hf
    refine W.widen (k := 2) (n := 12) (by omega) (by omega) ?_
    refine vx_ret ?_
    exact W.iret hx hb hr (fun t ht hW => c_endE X hext hB trivial hS ht hW) hS.2.2 dX6_count_113 hlk
  have hf := if_f hf hc34
  by_cases hc35 : x2 = 4
  · have hf := if_t hf hc35
    refine lv_tableIn (tgt := 114) hx hb dX6_count_7 (by rw [hc35]; decide) (by rw [hc35]; decide) (off := 107) (by rw [hc35]; decide) (by decide) ?_
    refine lv_aload_nq hx hb dX6_count_114 rfl (lv_at hl 0 rfl) ?_
    obtain ⟨b10, eb10, hf2⟩ := nn_s hf
    clear hf
    subst eb10
    have hf := hf2
    clear hf2
    have hk_b10 := hk_z1v b10 rfl
    have hl : lv_has ls 4 [(3, .ref b10), (0, .ref this), (1, .int x1), (2, .int x2)] := hl
    refine c_get X hB hk_b10 rfl rfl kw_X0 9 166 (by decide) kf_X6_166 rfl rfl dX6_count_115 ?_
    obtain rfl := Option.some.inj hf
    refine W.widen (k := 2) (n := 12) (by omega) (by omega) ?_
    refine vx_ret ?_
    exact W.iret hx hb hr (fun t ht hW => c_endE X hext hB trivial hS ht hW) hS.2.2 dX6_count_118 hlk
  have hf := if_f hf hc35
  by_cases hc36 : x2 = 5
  · have hf := if_t hf hc36
    refine lv_tableIn (tgt := 119) hx hb dX6_count_7 (by rw [hc36]; decide) (by rw [hc36]; decide) (off := 112) (by rw [hc36]; decide) (by decide) ?_
    refine lv_aload_nq hx hb dX6_count_119 rfl (lv_at hl 0 rfl) ?_
    refine lv_iconst (v := 0) hx hb dX6_count_120 (by decide) ?_
    obtain ⟨b11, eb11, hf2⟩ := nn_s hf
    clear hf
    subst eb11
    have hf := hf2
    clear hf2
    have hk_b11 := hk_z1v b11 rfl
    have hl : lv_has ls 4 [(3, .ref b11), (0, .ref this), (1, .int x1), (2, .int x2)] := hl
    obtain ⟨v12, hqv12, hf⟩ := bn_s hf
    refine c_doF hB hS hA (va_runV (As := [.int 0]) (rest := []) X.1 (cm_X0_segmentsOf l F D ct _ _ b11 (0 : Int32) hk_b11 _ hqv12) (cwV 1 hts (gd_V km_X6_169 ki_X0_segmentsOf ks_X0_segmentsOf kin_RX0 kc_X0_segmentsOf) rfl rfl rfl (by decide +kernel) ⟨by dsimp only; omega, by dsimp only; omega⟩) (c_preV X hB hk_b11 rfl rfl) rfl rfl hl.1 rfl (lv_room (Nat.le_of_ble_eq_true rfl)) dX6_count_121 ⟨by dsimp only; omega, by dsimp only; omega⟩) rfl (fun H locs hB hT hS => ?_)
    obtain rfl := Option.some.inj hf
    refine W.widen (k := 2) (n := 12) (by omega) (by omega) ?_
    refine vx_ret ?_
    exact W.iret hx hb hr (fun t ht hW => c_endE X hext hB trivial hS ht hW) hS.2.2 dX6_count_124 hlk
  have hf := if_f hf hc36
  by_cases hc37 : x2 = 6
  · have hf := if_t hf hc37
    refine lv_tableIn (tgt := 125) hx hb dX6_count_7 (by rw [hc37]; decide) (by rw [hc37]; decide) (off := 118) (by rw [hc37]; decide) (by decide) ?_
    refine lv_aload_nq hx hb dX6_count_125 rfl (lv_at hl 0 rfl) ?_
    refine lv_iconst (v := 0) hx hb dX6_count_126 (by decide) ?_
    obtain ⟨b13, eb13, hf2⟩ := nn_s hf
    clear hf
    subst eb13
    have hf := hf2
    clear hf2
    have hk_b13 := hk_z1v b13 rfl
    have hl : lv_has ls 4 [(3, .ref b13), (0, .ref this), (1, .int x1), (2, .int x2)] := hl
    obtain ⟨v14, hqv14, hf⟩ := bn_s hf
    refine c_doF hB hS hA (va_runV (As := [.int 0]) (rest := []) X.1 (cm_X0_numbersOf l F D ct _ _ b13 (0 : Int32) hk_b13 _ hqv14) (cwV 1 hts (gd_V km_X6_173 ki_X0_numbersOf ks_X0_numbersOf kin_RX0 kc_X0_numbersOf) rfl rfl rfl (by decide +kernel) ⟨by dsimp only; omega, by dsimp only; omega⟩) (c_preV X hB hk_b13 rfl rfl) rfl rfl hl.1 rfl (lv_room (Nat.le_of_ble_eq_true rfl)) dX6_count_127 ⟨by dsimp only; omega, by dsimp only; omega⟩) rfl (fun H locs hB hT hS => ?_)
    obtain rfl := Option.some.inj hf
    refine W.widen (k := 2) (n := 12) (by omega) (by omega) ?_
    refine vx_ret ?_
    exact W.iret hx hb hr (fun t ht hW => c_endE X hext hB trivial hS ht hW) hS.2.2 dX6_count_130 hlk
  have hf := if_f hf hc37
  by_cases hc38 : x2 = 7
  · have hf := if_t hf hc38
    refine lv_tableIn (tgt := 131) hx hb dX6_count_7 (by rw [hc38]; decide) (by rw [hc38]; decide) (off := 124) (by rw [hc38]; decide) (by decide) ?_
    refine lv_aload_nq hx hb dX6_count_131 rfl (lv_at hl 0 rfl) ?_
    refine lv_iconst (v := 1) hx hb dX6_count_132 (by decide) ?_
    obtain ⟨b15, eb15, hf2⟩ := nn_s hf
    clear hf
    subst eb15
    have hf := hf2
    clear hf2
    have hk_b15 := hk_z1v b15 rfl
    have hl : lv_has ls 4 [(3, .ref b15), (0, .ref this), (1, .int x1), (2, .int x2)] := hl
    obtain ⟨v16, hqv16, hf⟩ := bn_s hf
    refine c_doF hB hS hA (va_runV (As := [.int 1]) (rest := []) X.1 (cm_X0_numbersOf l F D ct _ _ b15 (1 : Int32) hk_b15 _ hqv16) (cwV 1 hts (gd_V km_X6_173 ki_X0_numbersOf ks_X0_numbersOf kin_RX0 kc_X0_numbersOf) rfl rfl rfl (by decide +kernel) ⟨by dsimp only; omega, by dsimp only; omega⟩) (c_preV X hB hk_b15 rfl rfl) rfl rfl hl.1 rfl (lv_room (Nat.le_of_ble_eq_true rfl)) dX6_count_133 ⟨by dsimp only; omega, by dsimp only; omega⟩) rfl (fun H locs hB hT hS => ?_)
    refine lv_aload_n hx hb dX6_count_136 rfl (lv_at hl 0 rfl) ?_
    refine lv_iconst (v := 4) hx hb dX6_count_137 (by decide) ?_
    obtain ⟨v17, hqv17, hf⟩ := bn_s hf
    refine c_doF hB hS hA (va_runV (As := [.int 4]) (rest := [.int v16]) X.1 (cm_X0_numbersOf l F D ct _ _ b15 (4 : Int32) hk_b15 _ hqv17) (cwV 1 hts (gd_V km_X6_173 ki_X0_numbersOf ks_X0_numbersOf kin_RX0 kc_X0_numbersOf) rfl rfl rfl (by decide +kernel) ⟨by dsimp only; omega, by dsimp only; omega⟩) (c_preV X hB hk_b15 rfl rfl) rfl rfl hl.1 rfl (lv_room (Nat.le_of_ble_eq_true rfl)) dX6_count_138 ⟨by dsimp only; omega, by dsimp only; omega⟩) rfl (fun H locs hB hT hS => ?_)
    refine lv_iadd hx hb dX6_count_141 ?_
    refine lv_aload_n hx hb dX6_count_142 rfl (lv_at hl 0 rfl) ?_
    obtain ⟨v18, hqv18, hf⟩ := bn_s hf
    refine c_doF hB hS hA (va_runV (As := []) (rest := [.int (v16 + v17)]) X.1 (cm_X0_numbersInHeldObjects l F D ct _ _ b15 hk_b15 _ hqv18) (cwV 0 hts (gd_V km_X6_176 ki_X0_numbersInHeldObjects ks_X0_numbersInHeldObjects kin_RX0 kc_X0_numbersInHeldObjects) rfl rfl rfl (by decide +kernel) ⟨by dsimp only; omega, by dsimp only; omega⟩) (c_preV X hB hk_b15 rfl rfl) rfl rfl hl.1 rfl (lv_room (Nat.le_of_ble_eq_true rfl)) dX6_count_143 ⟨by dsimp only; omega, by dsimp only; omega⟩) rfl (fun H locs hB hT hS => ?_)
    refine lv_iadd hx hb dX6_count_146 ?_
    obtain rfl := Option.some.inj hf
    refine W.widen (k := 2) (n := 12) (by omega) (by omega) ?_
    refine vx_ret ?_
    exact W.iret hx hb hr (fun t ht hW => c_endE X hext hB trivial hS ht hW) hS.2.2 dX6_count_147 hlk
  have hf := if_f hf hc38
  by_cases hc39 : x2 = 8
  · have hf := if_t hf hc39
    refine lv_tableIn (tgt := 148) hx hb dX6_count_7 (by rw [hc39]; decide) (by rw [hc39]; decide) (off := 141) (by rw [hc39]; decide) (by decide) ?_
    refine lv_aload_nq hx hb dX6_count_148 rfl (lv_at hl 0 rfl) ?_
    refine lv_iconst (v := 3) hx hb dX6_count_149 (by decide) ?_
    obtain ⟨b19, eb19, hf2⟩ := nn_s hf
    clear hf
    subst eb19
    have hf := hf2
    clear hf2
    have hk_b19 := hk_z1v b19 rfl
    have hl : lv_has ls 4 [(3, .ref b19), (0, .ref this), (1, .int x1), (2, .int x2)] := hl
    obtain ⟨v20, hqv20, hf⟩ := bn_s hf
    refine c_doF hB hS hA (va_runV (As := [.int 3]) (rest := []) X.1 (cm_X0_numbersOf l F D ct _ _ b19 (3 : Int32) hk_b19 _ hqv20) (cwV 1 hts (gd_V km_X6_173 ki_X0_numbersOf ks_X0_numbersOf kin_RX0 kc_X0_numbersOf) rfl rfl rfl (by decide +kernel) ⟨by dsimp only; omega, by dsimp only; omega⟩) (c_preV X hB hk_b19 rfl rfl) rfl rfl hl.1 rfl (lv_room (Nat.le_of_ble_eq_true rfl)) dX6_count_150 ⟨by dsimp only; omega, by dsimp only; omega⟩) rfl (fun H locs hB hT hS => ?_)
    obtain rfl := Option.some.inj hf
    refine W.widen (k := 2) (n := 12) (by omega) (by omega) ?_
    refine vx_ret ?_
    exact W.iret hx hb hr (fun t ht hW => c_endE X hext hB trivial hS ht hW) hS.2.2 dX6_count_153 hlk
  have hf := if_f hf hc39
  by_cases hc40 : x2 = 9
  · have hf := if_t hf hc40
    refine lv_tableIn (tgt := 154) hx hb dX6_count_7 (by rw [hc40]; decide) (by rw [hc40]; decide) (off := 147) (by rw [hc40]; decide) (by decide) ?_
    refine lv_aload_nq hx hb dX6_count_154 rfl (lv_at hl 0 rfl) ?_
    refine lv_iconst (v := 2) hx hb dX6_count_155 (by decide) ?_
    obtain ⟨b21, eb21, hf2⟩ := nn_s hf
    clear hf
    subst eb21
    have hf := hf2
    clear hf2
    have hk_b21 := hk_z1v b21 rfl
    have hl : lv_has ls 4 [(3, .ref b21), (0, .ref this), (1, .int x1), (2, .int x2)] := hl
    obtain ⟨v22, hqv22, hf⟩ := bn_s hf
    refine c_doF hB hS hA (va_runV (As := [.int 2]) (rest := []) X.1 (cm_X0_numbersOf l F D ct _ _ b21 (2 : Int32) hk_b21 _ hqv22) (cwV 1 hts (gd_V km_X6_173 ki_X0_numbersOf ks_X0_numbersOf kin_RX0 kc_X0_numbersOf) rfl rfl rfl (by decide +kernel) ⟨by dsimp only; omega, by dsimp only; omega⟩) (c_preV X hB hk_b21 rfl rfl) rfl rfl hl.1 rfl (lv_room (Nat.le_of_ble_eq_true rfl)) dX6_count_156 ⟨by dsimp only; omega, by dsimp only; omega⟩) rfl (fun H locs hB hT hS => ?_)
    obtain rfl := Option.some.inj hf
    refine W.widen (k := 2) (n := 12) (by omega) (by omega) ?_
    refine vx_ret ?_
    exact W.iret hx hb hr (fun t ht hW => c_endE X hext hB trivial hS ht hW) hS.2.2 dX6_count_159 hlk
  have hf := if_f hf hc40
  by_cases hc41 : x2 = 10
  · have hf := if_t hf hc41
    refine lv_tableIn (tgt := 160) hx hb dX6_count_7 (by rw [hc41]; decide) (by rw [hc41]; decide) (off := 153) (by rw [hc41]; decide) (by decide) ?_
    refine lv_aload_nq hx hb dX6_count_160 rfl (lv_at hl 0 rfl) ?_
    refine lv_iconst (v := 2) hx hb dX6_count_161 (by decide) ?_
    obtain ⟨b23, eb23, hf2⟩ := nn_s hf
    clear hf
    subst eb23
    have hf := hf2
    clear hf2
    have hk_b23 := hk_z1v b23 rfl
    have hl : lv_has ls 4 [(3, .ref b23), (0, .ref this), (1, .int x1), (2, .int x2)] := hl
    obtain ⟨v24, hqv24, hf⟩ := bn_s hf
    refine c_doF hB hS hA (va_runV (As := [.int 2]) (rest := []) X.1 (cm_X0_segmentsOf l F D ct _ _ b23 (2 : Int32) hk_b23 _ hqv24) (cwV 1 hts (gd_V km_X6_169 ki_X0_segmentsOf ks_X0_segmentsOf kin_RX0 kc_X0_segmentsOf) rfl rfl rfl (by decide +kernel) ⟨by dsimp only; omega, by dsimp only; omega⟩) (c_preV X hB hk_b23 rfl rfl) rfl rfl hl.1 rfl (lv_room (Nat.le_of_ble_eq_true rfl)) dX6_count_162 ⟨by dsimp only; omega, by dsimp only; omega⟩) rfl (fun H locs hB hT hS => ?_)
    obtain rfl := Option.some.inj hf
    refine W.widen (k := 2) (n := 12) (by omega) (by omega) ?_
    refine vx_ret ?_
    exact W.iret hx hb hr (fun t ht hW => c_endE X hext hB trivial hS ht hW) hS.2.2 dX6_count_165 hlk
  have hf := if_f hf hc41
  by_cases hc42 : x2 = 11
  · have hf := if_t hf hc42
    refine lv_tableIn (tgt := 166) hx hb dX6_count_7 (by rw [hc42]; decide) (by rw [hc42]; decide) (off := 159) (by rw [hc42]; decide) (by decide) ?_
    refine lv_aload_nq hx hb dX6_count_166 rfl (lv_at hl 0 rfl) ?_
    obtain ⟨b25, eb25, hf2⟩ := nn_s hf
    clear hf
    subst eb25
    have hf := hf2
    clear hf2
    have hk_b25 := hk_z1v b25 rfl
    have hl : lv_has ls 4 [(3, .ref b25), (0, .ref this), (1, .int x1), (2, .int x2)] := hl
    refine c_get X hB hk_b25 rfl rfl kw_X0 11 179 (by decide) kf_X6_179 rfl rfl dX6_count_167 ?_
    obtain rfl := Option.some.inj hf
    refine W.widen (k := 2) (n := 12) (by omega) (by omega) ?_
    refine vx_ret ?_
    exact W.iret hx hb hr (fun t ht hW => c_endE X hext hB trivial hS ht hW) hS.2.2 dX6_count_170 hlk
  have hf := if_f hf hc42
  by_cases hc43 : x2 = 12
  · have hf := if_t hf hc43
    refine lv_tableIn (tgt := 171) hx hb dX6_count_7 (by rw [hc43]; decide) (by rw [hc43]; decide) (off := 164) (by rw [hc43]; decide) (by decide) ?_
    refine lv_aload_nq hx hb dX6_count_171 rfl (lv_at hl 0 rfl) ?_
    obtain ⟨b26, eb26, hf2⟩ := nn_s hf
    clear hf
    subst eb26
    have hf := hf2
    clear hf2
    have hk_b26 := hk_z1v b26 rfl
    have hl : lv_has ls 4 [(3, .ref b26), (0, .ref this), (1, .int x1), (2, .int x2)] := hl
    refine c_get X hB hk_b26 rfl rfl kw_X0 3 57 (by decide) kf_X6_57 rfl rfl dX6_count_172 ?_
    obtain ⟨q27, eq27, hf⟩ := st1_s hf
    rw [← eq27]
    have hk_q27 : tyo G 0 q27 := by rw [eq27]; exact hB.2.2.2.1 (0, 3, 0) (by decide) _ hk_b26
    rcases q27 with _ | b28
    · have hf := nc_n hf
      have hl : lv_has ls 4 [(3, .ref b26), (0, .ref this), (1, .int x1), (2, .int x2)] := hl
      refine lv_ifnonnullN hx hb dX6_count_175 ?_
      refine lv_iconst (v := 0) hx hb dX6_count_178 (by decide) ?_
      refine lv_goto (tgt := 186) hx hb dX6_count_179 (by decide) ?_
      obtain rfl := Option.some.inj hf
      refine W.widen (k := 2) (n := 12) (by omega) (by omega) ?_
      refine vx_ret ?_
      exact W.iret hx hb hr (fun t ht hW => c_endE X hext hB trivial hS ht hW) hS.2.2 dX6_count_186 hlk
    · have hf := nc_b hf
      have hk_b28 := hk_q27 b28 rfl
      have hl : lv_has ls 4 [(3, .ref b26), (0, .ref this), (1, .int x1), (2, .int x2)] := hl
      refine lv_ifnonnull (tgt := 182) hx hb dX6_count_175 (by decide) ?_
      refine lv_aload_n hx hb dX6_count_182 rfl (lv_at hl 0 rfl) ?_
      refine c_get X hB hk_b26 rfl rfl kw_X0 8 163 (by decide) kf_X6_163 rfl rfl dX6_count_183 ?_
      obtain rfl := Option.some.inj hf
      refine W.widen (k := 2) (n := 12) (by omega) (by omega) ?_
      refine vx_ret ?_
      exact W.iret hx hb hr (fun t ht hW => c_endE X hext hB trivial hS ht hW) hS.2.2 dX6_count_186 hlk
  have hf := if_f hf hc43
  by_cases hc44 : x2 = 13
  · have hf := if_t hf hc44
    refine lv_tableIn (tgt := 187) hx hb dX6_count_7 (by rw [hc44]; decide) (by rw [hc44]; decide) (off := 180) (by rw [hc44]; decide) (by decide) ?_
    refine lv_aload_nq hx hb dX6_count_187 rfl (lv_at hl 0 rfl) ?_
    obtain ⟨b29, eb29, hf2⟩ := nn_s hf
    clear hf
    subst eb29
    have hf := hf2
    clear hf2
    have hk_b29 := hk_z1v b29 rfl
    have hl : lv_has ls 4 [(3, .ref b29), (0, .ref this), (1, .int x1), (2, .int x2)] := hl
    refine c_get X hB hk_b29 rfl rfl kw_X0 14 182 (by decide) kf_X6_182 rfl rfl dX6_count_188 ?_
    obtain rfl := Option.some.inj hf
    refine W.widen (k := 2) (n := 12) (by omega) (by omega) ?_
    refine vx_ret ?_
    exact W.iret hx hb hr (fun t ht hW => c_endE X hext hB trivial hS ht hW) hS.2.2 dX6_count_191 hlk
  have hf := if_f hf hc44
  by_cases hc45 : x2 = 14
  · have hf := if_t hf hc45
    refine lv_tableIn (tgt := 192) hx hb dX6_count_7 (by rw [hc45]; decide) (by rw [hc45]; decide) (off := 185) (by rw [hc45]; decide) (by decide) ?_
    refine lv_aload_nq hx hb dX6_count_192 rfl (lv_at hl 0 rfl) ?_
    obtain ⟨b30, eb30, hf2⟩ := nn_s hf
    clear hf
    subst eb30
    have hf := hf2
    clear hf2
    have hk_b30 := hk_z1v b30 rfl
    have hl : lv_has ls 4 [(3, .ref b30), (0, .ref this), (1, .int x1), (2, .int x2)] := hl
    refine c_get X hB hk_b30 rfl rfl kw_X0 15 185 (by decide) kf_X6_185 rfl rfl dX6_count_193 ?_
    obtain rfl := Option.some.inj hf
    refine W.widen (k := 2) (n := 12) (by omega) (by omega) ?_
    refine vx_ret ?_
    exact W.iret hx hb hr (fun t ht hW => c_endE X hext hB trivial hS ht hW) hS.2.2 dX6_count_196 hlk
  have hf := if_f hf hc45
  refine lv_tableOut (tgt := 197) hx hb dX6_count_7 (by have zhc31 := lv_neT hc31 (a := 0) (by decide); have zhc32 := lv_neT hc32 (a := 1) (by decide); have zhc33 := lv_neT hc33 (a := 2) (by decide); have zhc34 := lv_neT hc34 (a := 3) (by decide); have zhc35 := lv_neT hc35 (a := 4) (by decide); have zhc36 := lv_neT hc36 (a := 5) (by decide); have zhc37 := lv_neT hc37 (a := 6) (by decide); have zhc38 := lv_neT hc38 (a := 7) (by decide); have zhc39 := lv_neT hc39 (a := 8) (by decide); have zhc40 := lv_neT hc40 (a := 9) (by decide); have zhc41 := lv_neT hc41 (a := 10) (by decide); have zhc42 := lv_neT hc42 (a := 11) (by decide); have zhc43 := lv_neT hc43 (a := 12) (by decide); have zhc44 := lv_neT hc44 (a := 13) (by decide); have zhc45 := lv_neT hc45 (a := 14) (by decide); omega) (by decide) ?_
  obtain rfl := Option.some.inj hf
  exact t_throwN X Z hl0 hB hS hext hAb htab hlk hl 3 rfl (text := "no such count") (is := 190) (by decide +kernel) (by decide +kernel) kcl_X6_188 kin_java_util_NoSuchElementException Z.2.1.2.2.1 th_w_NSE th_n_NSE th_g_NSE dX6_count_197 dX6_count_200 dX6_count_201 dX6_count_203 dX6_count_206 (by decide) (Nat.le_of_ble_eq_true rfl) (by dsimp only; omega) (by dsimp only; omega) (by omega) (by omega)
/-! X6_give -/
def cf_X6_give_73 (F : Nat) (this : Nat) (S : Cst) (y0 : Int32) : Option (Thr Int32) := if y0 = 0 then (some (.inl (2, S))) else (some (.inr ((0 : Int32), S)))
def cf_X6_give (F : Nat) (S : Cst) (this : Nat) (x1 : Int32) (x2 : Int32) (x3 : Int32) (x4 : Int32) : Option (Thr Int32) := (cf_X6_arenaAt F S this x1).bind fun z1 => tr z1 fun z1v z1S => if x3 ≤ 0 then (some (.inl (2, z1S))) else ((cf_X6_isDesk F z1S x4).bind fun v3 => if v3 = 0 then (some (.inl (2, z1S))) else (nn z1v fun b5 => (cf_X0_roundUp F z1S b5 x3).bind fun v6 => (cf_X0_cacheFor F z1S b5 v6).bind fun q7 => nc q7 ((cf_X6_giveSegment F z1S (some b5) x2 v6 (1 : Int32)).bind fun z9 => st2 z9 fun z9v z9S => cf_X6_give_73 F this z9S z9v) (fun b8 => (cf_X6_giveObject F z1S (some b5) (some b8) x2 x4).bind fun z11 => st2 z11 fun z11v z11S => cf_X6_give_73 F this z11S z11v)))
set_option maxHeartbeats 4000000 in
set_option maxRecDepth 100000 in
theorem cm_X6_give (l : Launch) (F : Nat) (hl0 : l.stackTraces = false) (D : va_G) (ct : ClassId × ClassId × ClassId) (b0 : Nat) (G : Gam) (S : Cst) (this : Nat) (x1 : Int32) (x2 : Int32) (x3 : Int32) (x4 : Int32) (hk_this : ty G 6 this) (hb : ∀ a ∈ G.1, b0 ≤ a) (hbn : b0 ≤ nx S) (res : Thr Int32) (hf : cf_X6_give F S this x1 x2 x3 x4 = some res) : xMet l yX6_give cq_X6_give { frames := 7, cells := 2, slots := 12, locals := 122 } D ct G b0 [.ref this, .int x1, .int x2, .int x3, .int x4] S (fun r : Int32 => some (.int r)) (fun _ _ => True) res 2 12 := by
  refine xMet_of (own := RX6) (cc := cX6_give) (maxL := 10) (ret := (some .int)) hb hbn (by decide) rfl rfl (Nat.le_of_ble_eq_true rfl) ?_
  intro p e s m below meth c X hr hlk htab Z ls A hl hB hA hAb hS
  have hx := X.1.1
  have hb := X.1.2.1
  have hown := X.1.2.2.2.1
  have hts := X.1.2.2.2.2
  have hl : lv_has ls 10 [(0, .ref this), (1, .int x1), (2, .int x2), (3, .int x3), (4, .int x4)] := hl
  generalize hargs : ([.ref this, .int x1, .int x2, .int x3, .int x4] : List Value).toArray = args at X hts hS ⊢
  have hsz := hB.2.2.1
  obtain ⟨G0, eG0⟩ : ∃ z, z = G := ⟨_, rfl⟩
  obtain ⟨S0, eS0⟩ : ∃ z, z = S := ⟨_, rfl⟩
  have hext : ext G0 (nx S0) G := by rw [eG0]; exact ext_rf
  rw [← eS0] at hsz
  suffices hgoal : W p l e { frames := 7, cells := 2, slots := 12, locals := 122 } s m args below meth c s.heap [] (0) (0) (vx_MQ below (tQ (fun r : Int32 => some (.int r)) D ct G0 (nx S0) (fun _ _ => True) A res) (tX D ct G0 (nx S0) A res) args s 2 12 A) (F0 m 0 ls []) by rw [eG0, eS0] at hgoal; exact hgoal
  have J_73 : ∀ (G : Gam) (S : Cst) (y0 : Int32), cf_X6_give_73 F this S y0 = some res → ∀ (H : Heap) (locs : List Loc) (ls : Array Slot), ext G0 (nx S0) G → ty G 6 this → cB D ct G A S H → va_S A s.heap H locs → lv_has ls 10 [] → W p l e { frames := 7, cells := 2, slots := 12, locals := 122 } s m args below meth c H locs (1) (6) (vx_MQ below (tQ (fun r : Int32 => some (.int r)) D ct G0 (nx S0) (fun _ _ => True) A res) (tX D ct G0 (nx S0) A res) args s 2 12 A) (F0 m 73 ls [.int y0]) := by
    intro G S y0 hf H locs ls hext hk_this hB hS hl
    unfold cf_X6_give_73 at hf
    refine lv_istore (lv' := [(9, .int y0)]) hx hb dX6_give_73 hl (by decide) rfl (fun ls hl => ?_)
    refine lv_iload hx hb dX6_give_75 (lv_at hl 0 rfl) ?_
    refine lv_if_ne (tgt := 90) hx hb dX6_give_77 (by decide) (fun hc10 => ?_) (fun hc10 => ?_)
    · have hf := if_f hf hc10
      refine lv_iconst (v := 0) hx hb dX6_give_90 (by decide) ?_
      obtain rfl := Option.some.inj hf
      refine W.widen (k := 2) (n := 12) (by omega) (by omega) ?_
      refine vx_ret ?_
      exact W.iret hx hb hr (fun t ht hW => c_endE X hext hB trivial hS ht hW) hS.2.2 dX6_give_91 hlk
    · have hf := if_t hf hc10
      obtain rfl := Option.some.inj hf
      exact t_throw X Z hl0 hB hS hext hAb htab hlk hl 2 rfl (text := "no such range by take") (is := 108) (by decide +kernel) (by decide +kernel) kcl_X6_24 kin_java_lang_IllegalArgumentException Z.2.1.1 th_w_IAE th_n_IAE th_g_IAE dX6_give_80 dX6_give_83 dX6_give_84 dX6_give_86 dX6_give_89 (by decide) (Nat.le_of_ble_eq_true rfl) (by dsimp only; omega) (by dsimp only; omega) (by omega) (by omega)
  unfold cf_X6_give at hf
  refine lv_aload_n hx hb dX6_give_0 rfl (lv_at hl 0 rfl) ?_
  refine lv_iload_n hx hb dX6_give_1 rfl (lv_at hl 1 rfl) ?_
  obtain ⟨z1, hqz1, hf⟩ := bn_s hf
  have hle : nx S0 ≤ nx S := by rw [← hsz, ← hB.2.2.1]; exact hS.1
  refine t_do hB hS hA hext hle htab hlk (vx_runV (As := [.int x1]) (rest := []) X.1 (cm_X6_arenaAt l F hl0 D ct b0 _ _ this x1 hk_this (fun a ha => hAb a (c_in hB ha)) (hAb _ (hA _ (by rw [← hB.2.2.1]; exact hS.1))) _ hqz1) (cwV 1 hts (gd_V km_X6_43 ki_X6_arenaAt ks_X6_arenaAt kin_RX6 kc_X6_arenaAt) rfl rfl rfl (by decide +kernel) ⟨by dsimp only; omega, by dsimp only; omega⟩) (t_preV X Z hB hS hAb hk_this rfl rfl) rfl rfl hl.1 rfl (lv_room (Nat.le_of_ble_eq_true rfl)) dX6_give_2 ⟨by dsimp only; omega, by dsimp only; omega⟩) (fun w hw => by subst hw; exact tr_l hf) (by omega) (by omega) (fun z1v z1S hz G H locs hx1 hB2 hT hS => ?_)
  subst hz
  have hf := tr_r hf
  have hext := hext.trans hx1 hle
  have hk_this := hx1.1 _ _ hk_this
  have hB := hB2
  clear hB2
  have hk_z1v := hT
  refine W.widen (k := 1) (n := 6) (by omega) (by omega) ?_
  refine W.eq (g2 := F0 m 5 ls [va_rf z1v]) rfl ?_
  refine lv_astoreq (lv' := [(5, va_rf z1v), (0, .ref this), (1, .int x1), (2, .int x2), (3, .int x3), (4, .int x4)]) hx hb dX6_give_5 hl (by decide) rfl (fun ls hl => ?_)
  refine lv_iload_n hx hb dX6_give_7 rfl (lv_at hl 4 rfl) ?_
  refine lv_if_le (tgt := 19) hx hb dX6_give_8 (by decide) (fun hc2 => ?_) (fun hc2 => ?_)
  · have hf := if_t hf hc2
    obtain rfl := Option.some.inj hf
    exact t_throw X Z hl0 hB hS hext hAb htab hlk hl 2 rfl (text := "size or desk") (is := 98) (by decide +kernel) (by decide +kernel) kcl_X6_24 kin_java_lang_IllegalArgumentException Z.2.1.1 th_w_IAE th_n_IAE th_g_IAE dX6_give_19 dX6_give_22 dX6_give_23 dX6_give_25 dX6_give_28 (by decide) (Nat.le_of_ble_eq_true rfl) (by dsimp only; omega) (by dsimp only; omega) (by omega) (by omega)
  · have hf := if_f hf hc2
    refine lv_iload hx hb dX6_give_11 (lv_at hl 5 rfl) ?_
    obtain ⟨v3, hqv3, hf⟩ := bn_s hf
    refine c_doF hB hS hA (va_runS (As := [.int x4]) (rest := []) X.1 (cm_X6_isDesk l F D ct _ _ x4 _ hqv3) (va_cwS 1 hts (gd_S km_X6_68 kst_X6_isDesk kin_RX6 kc_X6_isDesk) rfl rfl rfl (by decide +kernel) ⟨by dsimp only; omega, by dsimp only; omega⟩) (c_preS X hB) rfl rfl hl.1 rfl (lv_room (Nat.le_of_ble_eq_true rfl)) dX6_give_13 ⟨by dsimp only; omega, by dsimp only; omega⟩) rfl (fun H locs hB hT hS => ?_)
    refine lv_if_ne (tgt := 29) hx hb dX6_give_16 (by decide) (fun hc4 => ?_) (fun hc4 => ?_)
    · have hf := if_f hf hc4
      refine lv_aloadq hx hb dX6_give_29 (lv_at hl 0 rfl) ?_
      refine lv_iload_n hx hb dX6_give_31 rfl (lv_at hl 4 rfl) ?_
      obtain ⟨b5, eb5, hf2⟩ := nn_s hf
      clear hf
      subst eb5
      have hf := hf2
      clear hf2
      have hk_b5 := hk_z1v b5 rfl
      have hl : lv_has ls 10 [(5, .ref b5), (0, .ref this), (1, .int x1), (2, .int x2), (3, .int x3), (4, .int x4)] := hl
      obtain ⟨v6, hqv6, hf⟩ := bn_s hf
      refine c_doF hB hS hA (va_runV (As := [.int x3]) (rest := []) X.1 (cm_X0_roundUp l F D ct _ _ b5 x3 hk_b5 _ hqv6) (cwV 1 hts (gd_V km_X6_73 ki_X0_roundUp ks_X0_roundUp kin_RX0 kc_X0_roundUp) rfl rfl rfl (by decide +kernel) ⟨by dsimp only; omega, by dsimp only; omega⟩) (c_preV X hB hk_b5 rfl rfl) rfl rfl hl.1 rfl (lv_room (Nat.le_of_ble_eq_true rfl)) dX6_give_32 ⟨by dsimp only; omega, by dsimp only; omega⟩) rfl (fun H locs hB hT hS => ?_)
      refine lv_lstore (lv' := [(6, .long v6), (5, .ref b5), (0, .ref this), (1, .int x1), (2, .int x2), (3, .int x3), (4, .int x4)]) hx hb dX6_give_35 hl (by decide) rfl (fun ls hl => ?_)
      refine lv_aload hx hb dX6_give_37 (lv_at hl 1 rfl) ?_
      refine lv_lload hx hb dX6_give_39 (lv_at hl 0 rfl) ?_
      obtain ⟨q7, hqq7, hf⟩ := bn_s hf
      refine c_doF hB hS hA (va_runV (As := [.long v6]) (rest := []) X.1 (cm_X0_cacheFor l F D ct _ _ b5 v6 hk_b5 _ hqq7) (cwV 1 hts (gd_V km_X6_77 ki_X0_cacheFor ks_X0_cacheFor kin_RX0 kc_X0_cacheFor) rfl rfl rfl (by decide +kernel) ⟨by dsimp only; omega, by dsimp only; omega⟩) (c_preV X hB hk_b5 rfl rfl) rfl rfl hl.1 rfl (lv_room (Nat.le_of_ble_eq_true rfl)) dX6_give_41 ⟨by dsimp only; omega, by dsimp only; omega⟩) rfl (fun H locs hB hT hS => ?_)
      have hk_q7 := hT
      refine lv_astoreq (lv' := [(8, va_rf q7), (6, .long v6), (5, .ref b5), (0, .ref this), (1, .int x1), (2, .int x2), (3, .int x3), (4, .int x4)]) hx hb dX6_give_44 hl (by decide) rfl (fun ls hl => ?_)
      refine lv_aloadq hx hb dX6_give_46 (lv_at hl 0 rfl) ?_
      rcases q7 with _ | b8
      · have hf := nc_n hf
        have hl : lv_has ls 10 [(8, .null), (6, .long v6), (5, .ref b5), (0, .ref this), (1, .int x1), (2, .int x2), (3, .int x3), (4, .int x4)] := hl
        refine lv_ifnonnullN hx hb dX6_give_48 ?_
        refine lv_aload hx hb dX6_give_51 (lv_at hl 2 rfl) ?_
        refine lv_iload_n hx hb dX6_give_53 rfl (lv_at hl 5 rfl) ?_
        refine lv_lload hx hb dX6_give_54 (lv_at hl 1 rfl) ?_
        refine lv_iconst (v := 1) hx hb dX6_give_56 (by decide) ?_
        obtain ⟨⟨z9v, z9S⟩, hqz9, hf⟩ := bn_s hf
        have hf := st2_s hf
        refine c_doF hB hS hA (va_runS (As := [va_rf (some b5), .int x2, .long v6, .int 1]) (rest := []) X.1 (cm_X6_giveSegment l F D ct _ _ (some b5) x2 v6 (1 : Int32) (tyo_some hk_b5) _ _ hqz9) (va_cwS 4 hts (gd_S km_X6_100 kst_X6_giveSegment kin_RX6 kc_X6_giveSegment) rfl rfl rfl (by decide +kernel) ⟨by dsimp only; omega, by dsimp only; omega⟩) (c_preS X hB) rfl rfl hl.1 rfl (lv_room (Nat.le_of_ble_eq_true rfl)) dX6_give_57 ⟨by dsimp only; omega, by dsimp only; omega⟩) rfl (fun H locs hB hT hS => ?_)
        refine lv_goto (tgt := 73) hx hb dX6_give_60 (by decide) ?_
        exact J_73 _ z9S z9v hf _ _ _ hext hk_this hB hS (lv_sub hl [] rfl)
      · have hf := nc_b hf
        have hk_b8 := hk_q7 b8 rfl
        have hl : lv_has ls 10 [(8, .ref b8), (6, .long v6), (5, .ref b5), (0, .ref this), (1, .int x1), (2, .int x2), (3, .int x3), (4, .int x4)] := hl
        refine lv_ifnonnull (tgt := 63) hx hb dX6_give_48 (by decide) ?_
        refine lv_aload hx hb dX6_give_63 (lv_at hl 2 rfl) ?_
        refine lv_aload hx hb dX6_give_65 (lv_at hl 0 rfl) ?_
        refine lv_iload_n hx hb dX6_give_67 rfl (lv_at hl 5 rfl) ?_
        refine lv_iload hx hb dX6_give_68 (lv_at hl 7 rfl) ?_
        obtain ⟨⟨z11v, z11S⟩, hqz11, hf⟩ := bn_s hf
        have hf := st2_s hf
        refine c_doF hB hS hA (va_runS (As := [va_rf (some b5), va_rf (some b8), .int x2, .int x4]) (rest := []) X.1 (cm_X6_giveObject l F D ct _ _ (some b5) (some b8) x2 x4 (tyo_some hk_b5) (tyo_some hk_b8) _ _ hqz11) (va_cwS 4 hts (gd_S km_X6_104 kst_X6_giveObject kin_RX6 kc_X6_giveObject) rfl rfl rfl (by decide +kernel) ⟨by dsimp only; omega, by dsimp only; omega⟩) (c_preS X hB) rfl rfl hl.1 rfl (lv_room (Nat.le_of_ble_eq_true rfl)) dX6_give_70 ⟨by dsimp only; omega, by dsimp only; omega⟩) rfl (fun H locs hB hT hS => ?_)
        exact J_73 _ z11S z11v hf _ _ _ hext hk_this hB hS (lv_sub hl [] rfl)
    · have hf := if_t hf hc4
      obtain rfl := Option.some.inj hf
      exact t_throw X Z hl0 hB hS hext hAb htab hlk hl 2 rfl (text := "size or desk") (is := 98) (by decide +kernel) (by decide +kernel) kcl_X6_24 kin_java_lang_IllegalArgumentException Z.2.1.1 th_w_IAE th_n_IAE th_g_IAE dX6_give_19 dX6_give_22 dX6_give_23 dX6_give_25 dX6_give_28 (by decide) (Nat.le_of_ble_eq_true rfl) (by dsimp only; omega) (by dsimp only; omega) (by omega) (by omega)
