/-! X5_baseOf -/
def cf_X5_baseOf (F : Nat) (S : Cst) (this : Nat) (x1 : Int32) : Option Int32 := some ((gI S 80 this) + (x1 * (gI S 88 this)))
set_option maxHeartbeats 4000000 in
set_option maxRecDepth 100000 in
theorem cm_X5_baseOf (l : Launch) (F : Nat) (D : va_G) (ct : ClassId × ClassId × ClassId) (G : Gam) (S : Cst) (this : Nat) (x1 : Int32) (hk_this : ty G 5 this) (r : Int32) (hf : cf_X5_baseOf F S this x1 = some r) : cMet l yX5_baseOf cq_X5_baseOf { frames := 0, cells := 0, slots := 0, locals := 0 } D ct G [.ref this, .int x1] S (some (.int r)) (cF D ct G (fun _ => True) S) (0) (0) := by
  refine cMet_of (own := RX5) (cc := cX5_baseOf) (maxL := 2) (ret := (some .int)) (by decide) rfl rfl (Nat.le_of_ble_eq_true rfl) ?_
  intro p e s m below meth c X hr hlk hnm ls A hl hB hA hS
  have hx := X.1.1
  have hb := X.1.2.1
  have hown := X.1.2.2.2.1
  have hts := X.1.2.2.2.2
  have hl : lv_has ls 2 [(0, .ref this), (1, .int x1)] := hl
  generalize hargs : ([.ref this, .int x1] : List Value).toArray = args at X hts hS ⊢
  unfold cf_X5_baseOf at hf
  refine lv_aload_n hx hb dX5_baseOf_0 rfl (lv_at hl 0 rfl) ?_
  refine c_get X hB hk_this rfl rfl kw_X5 0 9 (by decide) kf_X5_9 rfl rfl dX5_baseOf_1 ?_
  refine lv_iload_n hx hb dX5_baseOf_4 rfl (lv_at hl 1 rfl) ?_
  refine lv_aload_n hx hb dX5_baseOf_5 rfl (lv_at hl 0 rfl) ?_
  refine c_get X hB hk_this rfl rfl kw_X5 8 27 (by decide) kf_X5_27 rfl rfl dX5_baseOf_6 ?_
  refine lv_imul hx hb dX5_baseOf_9 ?_
  refine lv_iadd hx hb dX5_baseOf_10 ?_
  obtain rfl := Option.some.inj hf
  exact W.iret hx hb hr (fun t ht hW => c_endF X hB trivial hS ht hW) hS.2.2 dX5_baseOf_11 hlk
/-! X5_isHeld -/
def cf_X5_isHeld (F : Nat) (S : Cst) (this : Nat) (x1 : Int32) : Option Int32 := if x1 < 0 then (some (0 : Int32)) else (if ((((gI S 91 this).toUInt32 >>> (x1.toUInt32 &&& Int32.toUInt32 31)).toInt32) &&& 1) = (1 : Int32) then (some (1 : Int32)) else (some (0 : Int32)))
set_option maxHeartbeats 4000000 in
set_option maxRecDepth 100000 in
theorem cm_X5_isHeld (l : Launch) (F : Nat) (D : va_G) (ct : ClassId × ClassId × ClassId) (G : Gam) (S : Cst) (this : Nat) (x1 : Int32) (hk_this : ty G 5 this) (r : Int32) (hf : cf_X5_isHeld F S this x1 = some r) : cMet l yX5_isHeld cq_X5_isHeld { frames := 0, cells := 0, slots := 0, locals := 0 } D ct G [.ref this, .int x1] S (some (.int r)) (cF D ct G (fun _ => True) S) (0) (0) := by
  refine cMet_of (own := RX5) (cc := cX5_isHeld) (maxL := 2) (ret := (some .boolean)) (by decide) rfl rfl (Nat.le_of_ble_eq_true rfl) ?_
  intro p e s m below meth c X hr hlk hnm ls A hl hB hA hS
  have hx := X.1.1
  have hb := X.1.2.1
  have hown := X.1.2.2.2.1
  have hts := X.1.2.2.2.2
  have hl : lv_has ls 2 [(0, .ref this), (1, .int x1)] := hl
  generalize hargs : ([.ref this, .int x1] : List Value).toArray = args at X hts hS ⊢
  unfold cf_X5_isHeld at hf
  refine lv_iload_n hx hb dX5_isHeld_0 rfl (lv_at hl 1 rfl) ?_
  refine lv_if_lt (tgt := 20) hx hb dX5_isHeld_1 (by decide) (fun hc1 => ?_) (fun hc1 => ?_)
  · have hf := if_t hf hc1
    refine lv_iconst (v := 0) hx hb dX5_isHeld_20 (by decide) ?_
    obtain rfl := Option.some.inj hf
    exact W.zret hx hb hr rfl (fun t ht hW => c_endF X hB trivial hS ht hW) hS.2.2 dX5_isHeld_21 hlk
  · have hf := if_f hf hc1
    refine lv_aload_n hx hb dX5_isHeld_4 rfl (lv_at hl 0 rfl) ?_
    refine c_get X hB hk_this rfl rfl kw_X5 11 45 (by decide) kf_X5_45 rfl rfl dX5_isHeld_5 ?_
    refine lv_iload_n hx hb dX5_isHeld_8 rfl (lv_at hl 1 rfl) ?_
    refine lv_iushr (v := ((gI S 91 this).toUInt32 >>> (x1.toUInt32 &&& Int32.toUInt32 31)).toInt32) hx hb dX5_isHeld_9 rfl ?_
    refine lv_iconst (v := 1) hx hb dX5_isHeld_10 (by decide) ?_
    refine lv_iand hx hb dX5_isHeld_11 ?_
    refine lv_iconst (v := 1) hx hb dX5_isHeld_12 (by decide) ?_
    refine lv_icmp_ne (tgt := 20) hx hb dX5_isHeld_13 (by decide) (fun hc2 => ?_) (fun hc2 => ?_)
    · have hf := if_f hf hc2
      refine lv_iconst (v := 0) hx hb dX5_isHeld_20 (by decide) ?_
      obtain rfl := Option.some.inj hf
      exact W.zret hx hb hr rfl (fun t ht hW => c_endF X hB trivial hS ht hW) hS.2.2 dX5_isHeld_21 hlk
    · have hf := if_t hf hc2
      refine lv_iconst (v := 1) hx hb dX5_isHeld_16 (by decide) ?_
      refine lv_goto (tgt := 21) hx hb dX5_isHeld_17 (by decide) ?_
      obtain rfl := Option.some.inj hf
      exact W.zret hx hb hr rfl (fun t ht hW => c_endF X hB trivial hS ht hW) hS.2.2 dX5_isHeld_21 hlk
/-! X5_hold -/
def cf_X5_hold (F : Nat) (S : Cst) (this : Nat) (x1 : Int32) : Option Cst := if x1 < 0 then (some S) else (st1 (sI S 90 this ((gI S 90 this) &&& ((1 <<< (x1 &&& 31)) ^^^ (-1)))) fun S2 => st1 (sI S2 91 this ((gI S2 91 this) ||| (1 <<< (x1 &&& 31)))) fun S3 => some S3)
set_option maxHeartbeats 4000000 in
set_option maxRecDepth 100000 in
theorem cm_X5_hold (l : Launch) (F : Nat) (D : va_G) (ct : ClassId × ClassId × ClassId) (G : Gam) (S : Cst) (this : Nat) (x1 : Int32) (hk_this : ty G 5 this) (S' : Cst) (hf : cf_X5_hold F S this x1 = some S') : cMet l yX5_hold cq_X5_hold { frames := 0, cells := 0, slots := 0, locals := 0 } D ct G [.ref this, .int x1] S none (cF D ct G (fun _ => True) S') (0) (0) := by
  refine cMet_of (own := RX5) (cc := cX5_hold) (maxL := 2) (ret := none) (by decide) rfl rfl (Nat.le_of_ble_eq_true rfl) ?_
  intro p e s m below meth c X hr hlk hnm ls A hl hB hA hS
  have hx := X.1.1
  have hb := X.1.2.1
  have hown := X.1.2.2.2.1
  have hts := X.1.2.2.2.2
  have hl : lv_has ls 2 [(0, .ref this), (1, .int x1)] := hl
  generalize hargs : ([.ref this, .int x1] : List Value).toArray = args at X hts hS ⊢
  unfold cf_X5_hold at hf
  refine lv_iload_n hx hb dX5_hold_0 rfl (lv_at hl 1 rfl) ?_
  refine lv_if_lt (tgt := 30) hx hb dX5_hold_1 (by decide) (fun hc1 => ?_) (fun hc1 => ?_)
  · have hf := if_t hf hc1
    obtain rfl := Option.some.inj hf
    exact W.vret hx hb hr (fun t ht hW => c_endF X hB trivial hS ht hW) hS.2.2 dX5_hold_30 hlk
  · have hf := if_f hf hc1
    refine lv_aload_n hx hb dX5_hold_4 rfl (lv_at hl 0 rfl) ?_
    refine lv_dup hx hb dX5_hold_5 rfl ?_
    refine c_get X hB hk_this rfl rfl kw_X5 10 42 (by decide) kf_X5_42 rfl rfl dX5_hold_6 ?_
    refine lv_iconst (v := 1) hx hb dX5_hold_9 (by decide) ?_
    refine lv_iload_n hx hb dX5_hold_10 rfl (lv_at hl 1 rfl) ?_
    refine lv_ishl hx hb dX5_hold_11 ?_
    refine lv_iconst (v := (-1)) hx hb dX5_hold_12 (by decide) ?_
    refine lv_ixor hx hb dX5_hold_13 ?_
    refine lv_iand hx hb dX5_hold_14 ?_
    obtain ⟨S2, eS2, hf⟩ := st1_s hf
    refine c_put X hB hS hk_this rfl rfl kw_X5 tyX5 tyX5_ok nmX5 10 42 (by decide) kf_X5_42 rfl (Or.inl rfl) (fty := .int) rfl rfl rfl (Nat.le_of_ble_eq_true rfl) (cp_5_10 _) (fun κ b h => ccell_sI κ b h) rfl hB.2.2.2 dX5_hold_15 (fun H locs hB hS => ?_)
    rw [← eS2] at hB
    refine lv_aload_n hx hb dX5_hold_18 rfl (lv_at hl 0 rfl) ?_
    refine lv_dup hx hb dX5_hold_19 rfl ?_
    refine c_get X hB hk_this rfl rfl kw_X5 11 45 (by decide) kf_X5_45 rfl rfl dX5_hold_20 ?_
    refine lv_iconst (v := 1) hx hb dX5_hold_23 (by decide) ?_
    refine lv_iload_n hx hb dX5_hold_24 rfl (lv_at hl 1 rfl) ?_
    refine lv_ishl hx hb dX5_hold_25 ?_
    refine lv_ior hx hb dX5_hold_26 ?_
    obtain ⟨S3, eS3, hf⟩ := st1_s hf
    refine c_put X hB hS hk_this rfl rfl kw_X5 tyX5 tyX5_ok nmX5 11 45 (by decide) kf_X5_45 rfl (Or.inl rfl) (fty := .int) rfl rfl rfl (Nat.le_of_ble_eq_true rfl) (cp_5_11 _) (fun κ b h => ccell_sI κ b h) rfl hB.2.2.2 dX5_hold_27 (fun H locs hB hS => ?_)
    rw [← eS3] at hB
    obtain rfl := Option.some.inj hf
    exact W.vret hx hb hr (fun t ht hW => c_endF X hB trivial hS ht hW) hS.2.2 dX5_hold_30 hlk
/-! X5_drop -/
def cf_X5_drop (F : Nat) (S : Cst) (this : Nat) (x1 : Int32) : Option Cst := if x1 < 0 then (some S) else (st1 (sI S 91 this ((gI S 91 this) &&& ((1 <<< (x1 &&& 31)) ^^^ (-1)))) fun S2 => some S2)
set_option maxHeartbeats 4000000 in
set_option maxRecDepth 100000 in
theorem cm_X5_drop (l : Launch) (F : Nat) (D : va_G) (ct : ClassId × ClassId × ClassId) (G : Gam) (S : Cst) (this : Nat) (x1 : Int32) (hk_this : ty G 5 this) (S' : Cst) (hf : cf_X5_drop F S this x1 = some S') : cMet l yX5_drop cq_X5_drop { frames := 0, cells := 0, slots := 0, locals := 0 } D ct G [.ref this, .int x1] S none (cF D ct G (fun _ => True) S') (0) (0) := by
  refine cMet_of (own := RX5) (cc := cX5_drop) (maxL := 2) (ret := none) (by decide) rfl rfl (Nat.le_of_ble_eq_true rfl) ?_
  intro p e s m below meth c X hr hlk hnm ls A hl hB hA hS
  have hx := X.1.1
  have hb := X.1.2.1
  have hown := X.1.2.2.2.1
  have hts := X.1.2.2.2.2
  have hl : lv_has ls 2 [(0, .ref this), (1, .int x1)] := hl
  generalize hargs : ([.ref this, .int x1] : List Value).toArray = args at X hts hS ⊢
  unfold cf_X5_drop at hf
  refine lv_iload_n hx hb dX5_drop_0 rfl (lv_at hl 1 rfl) ?_
  refine lv_if_lt (tgt := 18) hx hb dX5_drop_1 (by decide) (fun hc1 => ?_) (fun hc1 => ?_)
  · have hf := if_t hf hc1
    obtain rfl := Option.some.inj hf
    exact W.vret hx hb hr (fun t ht hW => c_endF X hB trivial hS ht hW) hS.2.2 dX5_drop_18 hlk
  · have hf := if_f hf hc1
    refine lv_aload_n hx hb dX5_drop_4 rfl (lv_at hl 0 rfl) ?_
    refine lv_dup hx hb dX5_drop_5 rfl ?_
    refine c_get X hB hk_this rfl rfl kw_X5 11 45 (by decide) kf_X5_45 rfl rfl dX5_drop_6 ?_
    refine lv_iconst (v := 1) hx hb dX5_drop_9 (by decide) ?_
    refine lv_iload_n hx hb dX5_drop_10 rfl (lv_at hl 1 rfl) ?_
    refine lv_ishl hx hb dX5_drop_11 ?_
    refine lv_iconst (v := (-1)) hx hb dX5_drop_12 (by decide) ?_
    refine lv_ixor hx hb dX5_drop_13 ?_
    refine lv_iand hx hb dX5_drop_14 ?_
    obtain ⟨S2, eS2, hf⟩ := st1_s hf
    refine c_put X hB hS hk_this rfl rfl kw_X5 tyX5 tyX5_ok nmX5 11 45 (by decide) kf_X5_45 rfl (Or.inl rfl) (fty := .int) rfl rfl rfl (Nat.le_of_ble_eq_true rfl) (cp_5_11 _) (fun κ b h => ccell_sI κ b h) rfl hB.2.2.2 dX5_drop_15 (fun H locs hB hS => ?_)
    rw [← eS2] at hB
    obtain rfl := Option.some.inj hf
    exact W.vret hx hb hr (fun t ht hW => c_endF X hB trivial hS ht hW) hS.2.2 dX5_drop_18 hlk
/-! X5_lay -/
def cf_X5_lay (F : Nat) (S : Cst) (this : Nat) (x1 : Int32) : Option Cst := if x1 < 0 then (some S) else (st1 (sI S 90 this ((gI S 90 this) ||| (1 <<< (x1 &&& 31)))) fun S2 => some S2)
set_option maxHeartbeats 4000000 in
set_option maxRecDepth 100000 in
theorem cm_X5_lay (l : Launch) (F : Nat) (D : va_G) (ct : ClassId × ClassId × ClassId) (G : Gam) (S : Cst) (this : Nat) (x1 : Int32) (hk_this : ty G 5 this) (S' : Cst) (hf : cf_X5_lay F S this x1 = some S') : cMet l yX5_lay cq_X5_lay { frames := 0, cells := 0, slots := 0, locals := 0 } D ct G [.ref this, .int x1] S none (cF D ct G (fun _ => True) S') (0) (0) := by
  refine cMet_of (own := RX5) (cc := cX5_lay) (maxL := 2) (ret := none) (by decide) rfl rfl (Nat.le_of_ble_eq_true rfl) ?_
  intro p e s m below meth c X hr hlk hnm ls A hl hB hA hS
  have hx := X.1.1
  have hb := X.1.2.1
  have hown := X.1.2.2.2.1
  have hts := X.1.2.2.2.2
  have hl : lv_has ls 2 [(0, .ref this), (1, .int x1)] := hl
  generalize hargs : ([.ref this, .int x1] : List Value).toArray = args at X hts hS ⊢
  unfold cf_X5_lay at hf
  refine lv_iload_n hx hb dX5_lay_0 rfl (lv_at hl 1 rfl) ?_
  refine lv_if_lt (tgt := 16) hx hb dX5_lay_1 (by decide) (fun hc1 => ?_) (fun hc1 => ?_)
  · have hf := if_t hf hc1
    obtain rfl := Option.some.inj hf
    exact W.vret hx hb hr (fun t ht hW => c_endF X hB trivial hS ht hW) hS.2.2 dX5_lay_16 hlk
  · have hf := if_f hf hc1
    refine lv_aload_n hx hb dX5_lay_4 rfl (lv_at hl 0 rfl) ?_
    refine lv_dup hx hb dX5_lay_5 rfl ?_
    refine c_get X hB hk_this rfl rfl kw_X5 10 42 (by decide) kf_X5_42 rfl rfl dX5_lay_6 ?_
    refine lv_iconst (v := 1) hx hb dX5_lay_9 (by decide) ?_
    refine lv_iload_n hx hb dX5_lay_10 rfl (lv_at hl 1 rfl) ?_
    refine lv_ishl hx hb dX5_lay_11 ?_
    refine lv_ior hx hb dX5_lay_12 ?_
    obtain ⟨S2, eS2, hf⟩ := st1_s hf
    refine c_put X hB hS hk_this rfl rfl kw_X5 tyX5 tyX5_ok nmX5 10 42 (by decide) kf_X5_42 rfl (Or.inl rfl) (fty := .int) rfl rfl rfl (Nat.le_of_ble_eq_true rfl) (cp_5_10 _) (fun κ b h => ccell_sI κ b h) rfl hB.2.2.2 dX5_lay_13 (fun H locs hB hS => ?_)
    rw [← eS2] at hB
    obtain rfl := Option.some.inj hf
    exact W.vret hx hb hr (fun t ht hW => c_endF X hB trivial hS ht hW) hS.2.2 dX5_lay_16 hlk
/-! X5_holdLowestLying -/
def cf_X5_holdLowestLying (F : Nat) (S : Cst) (this : Nat) : Option (Int32 × Cst) := if (gI S 90 this) = 0 then (some (((-1) : Int32), S)) else ((cf_J6_numberOfTrailingZeros_0f7a4 F S (gI S 90 this)).bind fun v2 => (cf_X5_hold F S this v2).bind fun S3 => (cf_X5_baseOf F S3 this v2).bind fun v4 => some (v4, S3))
set_option maxHeartbeats 4000000 in
set_option maxRecDepth 100000 in
theorem cm_X5_holdLowestLying (l : Launch) (F : Nat) (D : va_G) (ct : ClassId × ClassId × ClassId) (G : Gam) (S : Cst) (this : Nat) (hk_this : ty G 5 this) (r : Int32) (S' : Cst) (hf : cf_X5_holdLowestLying F S this = some (r, S')) : cMet l yX5_holdLowestLying cq_X5_holdLowestLying { frames := 1, cells := 0, slots := 0, locals := 21 } D ct G [.ref this] S (some (.int r)) (cF D ct G (fun _ => True) S') (0) (0) := by
  refine cMet_of (own := RX5) (cc := cX5_holdLowestLying) (maxL := 2) (ret := (some .int)) (by decide) rfl rfl (Nat.le_of_ble_eq_true rfl) ?_
  intro p e s m below meth c X hr hlk hnm ls A hl hB hA hS
  have hx := X.1.1
  have hb := X.1.2.1
  have hown := X.1.2.2.2.1
  have hts := X.1.2.2.2.2
  have hl : lv_has ls 2 [(0, .ref this)] := hl
  generalize hargs : ([.ref this] : List Value).toArray = args at X hts hS ⊢
  unfold cf_X5_holdLowestLying at hf
  refine lv_aload_n hx hb dX5_holdLowestLying_0 rfl (lv_at hl 0 rfl) ?_
  refine c_get X hB hk_this rfl rfl kw_X5 10 42 (by decide) kf_X5_42 rfl rfl dX5_holdLowestLying_1 ?_
  refine lv_if_ne (tgt := 9) hx hb dX5_holdLowestLying_4 (by decide) (fun hc1 => ?_) (fun hc1 => ?_)
  · have hf := if_f hf hc1
    refine lv_aload_n hx hb dX5_holdLowestLying_9 rfl (lv_at hl 0 rfl) ?_
    refine c_get X hB hk_this rfl rfl kw_X5 10 42 (by decide) kf_X5_42 rfl rfl dX5_holdLowestLying_10 ?_
    obtain ⟨v2, hqv2, hf⟩ := bn_s hf
    refine c_doF hB hS hA (va_runS (As := [.int (gI S 90 this)]) (rest := []) X.1 (cm_J6_numberOfTrailingZeros_0f7a4 l F D ct _ _ (gI S 90 this) _ hqv2) (va_cwS 1 hts (gd_S km_X5_48 kst_J6_numberOfTrailingZeros_0f7a4 kin_RJ6 kc_J6_numberOfTrailingZeros_0f7a4) rfl rfl rfl (by decide +kernel) ⟨by dsimp only; omega, by dsimp only; omega⟩) (c_preS X hB) rfl rfl hl.1 rfl (lv_room (Nat.le_of_ble_eq_true rfl)) dX5_holdLowestLying_13 ⟨by dsimp only; omega, by dsimp only; omega⟩) rfl (fun H locs hB hT hS => ?_)
    refine lv_istore_n (lv' := [(1, .int v2), (0, .ref this)]) hx hb dX5_holdLowestLying_16 rfl hl (by decide) rfl (fun ls hl => ?_)
    refine lv_aload_n hx hb dX5_holdLowestLying_17 rfl (lv_at hl 1 rfl) ?_
    refine lv_iload_n hx hb dX5_holdLowestLying_18 rfl (lv_at hl 0 rfl) ?_
    obtain ⟨S3, hqS3, hf⟩ := bn_s hf
    refine c_doF hB hS hA (va_runV (As := [.int v2]) (rest := []) X.1 (cm_X5_hold l F D ct _ _ this v2 hk_this _ hqS3) (cwV 1 hts (gd_V km_X5_54 ki_X5_hold ks_X5_hold kin_RX5 kc_X5_hold) rfl rfl rfl (by decide +kernel) ⟨by dsimp only; omega, by dsimp only; omega⟩) (c_preV X hB hk_this rfl rfl) rfl rfl hl.1 rfl (lv_room (Nat.le_of_ble_eq_true rfl)) dX5_holdLowestLying_19 ⟨by dsimp only; omega, by dsimp only; omega⟩) rfl (fun H locs hB hT hS => ?_)
    refine lv_aload_n hx hb dX5_holdLowestLying_22 rfl (lv_at hl 1 rfl) ?_
    refine lv_iload_n hx hb dX5_holdLowestLying_23 rfl (lv_at hl 0 rfl) ?_
    obtain ⟨v4, hqv4, hf⟩ := bn_s hf
    refine c_doF hB hS hA (va_runV (As := [.int v2]) (rest := []) X.1 (cm_X5_baseOf l F D ct _ _ this v2 hk_this _ hqv4) (cwV 1 hts (gd_V km_X5_58 ki_X5_baseOf ks_X5_baseOf kin_RX5 kc_X5_baseOf) rfl rfl rfl (by decide +kernel) ⟨by dsimp only; omega, by dsimp only; omega⟩) (c_preV X hB hk_this rfl rfl) rfl rfl hl.1 rfl (lv_room (Nat.le_of_ble_eq_true rfl)) dX5_holdLowestLying_24 ⟨by dsimp only; omega, by dsimp only; omega⟩) rfl (fun H locs hB hT hS => ?_)
    obtain ⟨rfl, rfl⟩ := Prod.mk.inj (Option.some.inj hf)
    exact W.iret hx hb hr (fun t ht hW => c_endF X hB trivial hS ht hW) hS.2.2 dX5_holdLowestLying_27 hlk
  · have hf := if_t hf hc1
    refine lv_iconst (v := (-1)) hx hb dX5_holdLowestLying_7 (by decide) ?_
    obtain ⟨rfl, rfl⟩ := Prod.mk.inj (Option.some.inj hf)
    exact W.iret hx hb hr (fun t ht hW => c_endF X hB trivial hS ht hW) hS.2.2 dX5_holdLowestLying_8 hlk
/-! X6_init -/
def cf_X6_init (F : Nat) (S : Cst) (this : Nat) : Option Cst := st1 (nx S) fun a1 => st1 (nA S 8) fun S2 => st1 (sP S2 96 this (some a1)) fun S3 => st1 (sI S3 97 this (0 : Int32)) fun S4 => some S4
set_option maxHeartbeats 4000000 in
set_option maxRecDepth 100000 in
theorem cm_X6_init (l : Launch) (F : Nat) (D : va_G) (ct : ClassId × ClassId × ClassId) (G : Gam) (S : Cst) (this : Nat) (hk_this : ty G 6 this) (S' : Cst) (hf : cf_X6_init F S this = some S') : cMet l yX6_init cq_X6_init { frames := 1, cells := 1, slots := 8, locals := 40 } D ct G [.ref this] S none (cE D ct G (nx S) (fun _ => True) S') (1) (8) := by
  refine cMet_of (own := RX6) (cc := cX6_init) (maxL := 1) (ret := none) (by decide) rfl rfl (Nat.le_of_ble_eq_true rfl) ?_
  intro p e s m below meth c X hr hlk hnm ls A hl hB hA hS
  have hx := X.1.1
  have hb := X.1.2.1
  have hown := X.1.2.2.2.1
  have hts := X.1.2.2.2.2
  have hl : lv_has ls 1 [(0, .ref this)] := hl
  generalize hargs : ([.ref this] : List Value).toArray = args at X hts hS ⊢
  have hsz := hB.2.2.1
  obtain ⟨G0, eG0⟩ : ∃ z, z = G := ⟨_, rfl⟩
  obtain ⟨S0, eS0⟩ : ∃ z, z = S := ⟨_, rfl⟩
  have hext : ext G0 (nx S0) G := by rw [eG0]; exact ext_rf
  rw [← eS0] at hsz
  suffices hgoal : W p l e { frames := 1, cells := 1, slots := 8, locals := 40 } s m args below meth c s.heap [] 0 0 (MQ below (mq none (cE D ct G0 (nx S0) (fun _ => True) S') A) args s (1) (8) A) (F0 m 0 ls []) by rw [eG0, eS0] at hgoal; exact hgoal
  unfold cf_X6_init at hf
  refine lv_aload_n hx hb dX6_init_0 rfl (lv_at hl 0 rfl) ?_
  refine W.objInit hx hb hown (hts _ (kw_m km_X6_3)) (hts _ (kw_m kx_Cond_instanceMethod_objectInit)) (hts _ (kw_m kx_Cond_code_objectInit_0xb1_1_none)) rfl (by rw [X.1.2.2.1]; exact hl.1) rfl dX6_init_1 (by decide) (Nat.le_of_ble_eq_true rfl) ?_
  refine W.eq (g2 := F0 m 4 ls []) rfl ?_
  refine lv_aload_n hx hb dX6_init_4 rfl (lv_at hl 0 rfl) ?_
  refine lv_bipush (v := 8) hx hb dX6_init_5 (by decide) ?_
  obtain ⟨a1, ea1, hf⟩ := st1_s hf
  obtain ⟨S2, eS2, hf⟩ := st1_s hf
  have hle : nx S0 ≤ nx S := by rw [← hsz, ← hB.2.2.1]; exact hS.1
  refine c_newQ X hB hS hA 10 1 (by decide) kcl_X6_9 X.2.2.2.2.1 rfl (fun _ _ => rfl) (by decide) (N' := 8) (by decide) (by decide) (by dsimp only; omega) (by dsimp only; omega) dX6_init_7 (fun G H hx1 hk_a1 hB2 hS => ?_)
  have hext := hext.trans hx1 hle
  have hk_this := hx1.1 _ _ hk_this
  rw [← ea1] at hk_a1 ⊢
  rw [← eS2] at hB2
  have hB := hB2
  clear hB2
  obtain ⟨S3, eS3, hf⟩ := st1_s hf
  refine c_put X hB hS hk_this rfl rfl kw_X6 tyX6 tyX6_ok nmX6 0 11 (by decide) kf_X6_11 rfl (Or.inr ⟨rfl, hnm, rfl⟩) (fty := tyX6 0) (tyX6_ok 0 (by decide)) (fr_f (tyX6 0) (Or.inr ⟨_, rfl⟩) (some a1)).1 (fr_f (tyX6 0) (Or.inr ⟨_, rfl⟩) (some a1)).2 (Nat.le_of_ble_eq_true rfl) (cp_6_0 (some a1)) (fun κ b h => ccell_sP κ b h) rfl (wt_sP (κ := 10) hB.2.2.2 (by decide) (tyo_some hk_a1)) dX6_init_10 (fun H locs hB hS => ?_)
  rw [← eS3] at hB
  refine lv_aload_n hx hb dX6_init_13 rfl (lv_at hl 0 rfl) ?_
  refine lv_iconst (v := 0) hx hb dX6_init_14 (by decide) ?_
  obtain ⟨S4, eS4, hf⟩ := st1_s hf
  refine c_put X hB hS hk_this rfl rfl kw_X6 tyX6 tyX6_ok nmX6 1 15 (by decide) kf_X6_15 rfl (Or.inl rfl) (fty := .int) rfl rfl rfl (Nat.le_of_ble_eq_true rfl) (cp_6_1 _) (fun κ b h => ccell_sI κ b h) rfl hB.2.2.2 dX6_init_15 (fun H locs hB hS => ?_)
  rw [← eS4] at hB
  obtain rfl := Option.some.inj hf
  refine W.widen (k := 1) (n := 8) (by omega) (by omega) ?_
  exact W.vret hx hb hr (fun t ht hW => c_endE X hext hB trivial hS ht hW) hS.2.2 dX6_init_18 hlk
/-! X6_tagsLeft -/
def cf_X6_tagsLeft_6 (F : Nat) (this : Nat) (S : Cst) : Nat → Int32 → Int32 → Option Int32
  | 0 => fun _ _ => none
  | n + 1 => fun x1 x2 => st1 (gP S 96 this) fun q1 => nn q1 fun b2 => if (Int32.ofNat (gN S b2)) ≤ x2 then (some x1) else (st1 (gP S 96 this) fun q4 => nn q4 fun b5 => cqd S b5 x2 fun q6 => nc q6 ((cf_X6_tagsLeft_6 F this S n) x1 (x2 + 1)) (fun b7 => (cf_X6_tagsLeft_6 F this S n) (x1 - ((gI S 8 b7) + (gI S 9 b7))) (x2 + 1)))
def cf_X6_tagsLeft (F : Nat) (S : Cst) (this : Nat) : Option Int32 := cf_X6_tagsLeft_6 F this S F (600 : Int32) (0 : Int32)
set_option maxHeartbeats 4000000 in
set_option maxRecDepth 100000 in
theorem cm_X6_tagsLeft (l : Launch) (F : Nat) (D : va_G) (ct : ClassId × ClassId × ClassId) (G : Gam) (S : Cst) (this : Nat) (hk_this : ty G 6 this) (r : Int32) (hf : cf_X6_tagsLeft F S this = some r) : cMet l yX6_tagsLeft cq_X6_tagsLeft { frames := 0, cells := 0, slots := 0, locals := 0 } D ct G [.ref this] S (some (.int r)) (cF D ct G (fun _ => True) S) (0) (0) := by
  refine cMet_of (own := RX6) (cc := cX6_tagsLeft) (maxL := 4) (ret := (some .int)) (by decide) rfl rfl (Nat.le_of_ble_eq_true rfl) ?_
  intro p e s m below meth c X hr hlk hnm ls A hl hB hA hS
  have hx := X.1.1
  have hb := X.1.2.1
  have hown := X.1.2.2.2.1
  have hts := X.1.2.2.2.2
  have hl : lv_has ls 4 [(0, .ref this)] := hl
  generalize hargs : ([.ref this] : List Value).toArray = args at X hts hS ⊢
  have J_6 : ∀ (n_6 : Nat) (x1 : Int32) (x2 : Int32), cf_X6_tagsLeft_6 F this S n_6 x1 x2 = some r → ∀ (H : Heap) (locs : List Loc) (ls : Array Slot), cB D ct G A S H → va_S A s.heap H locs → lv_has ls 4 [(0, .ref this), (1, .int x1), (2, .int x2)] → W p l e { frames := 0, cells := 0, slots := 0, locals := 0 } s m args below meth c H locs (0) (0) (MQ below (mq (some (.int r)) (cF D ct G (fun _ => True) S) A) args s (0) (0) A) (F0 m 6 ls []) := by
    intro n_6
    induction n_6 with
    | zero => intro x1 x2 hf; cases hf
    | succ n_6 ih_6 =>
      intro x1 x2 hf H locs ls hB hS hl
      rw [cf_X6_tagsLeft_6] at hf
      refine lv_iload_n hx hb dX6_tagsLeft_6 rfl (lv_at hl 2 rfl) ?_
      refine lv_aload_n hx hb dX6_tagsLeft_7 rfl (lv_at hl 0 rfl) ?_
      refine c_get X hB hk_this rfl rfl kw_X6 0 11 (by decide) kf_X6_11 rfl rfl dX6_tagsLeft_8 ?_
      obtain ⟨q1, eq1, hf⟩ := st1_s hf
      rw [← eq1]
      have hk_q1 : tyo G 10 q1 := by rw [eq1]; exact hB.2.2.2.1 (6, 96, 10) (by decide) _ hk_this
      obtain ⟨b2, eb2, hf2⟩ := nn_s hf
      clear hf
      subst eb2
      have hf := hf2
      clear hf2
      have hk_b2 := hk_q1 b2 rfl
      have hl : lv_has ls 4 [(0, .ref this), (1, .int x1), (2, .int x2)] := hl
      refine c_alen X hB hk_b2 1 rfl rfl rfl dX6_tagsLeft_11 ?_
      refine lv_icmp_ge (tgt := 44) hx hb dX6_tagsLeft_12 (by decide) (fun hc3 => ?_) (fun hc3 => ?_)
      · have hf := if_t hf hc3
        refine lv_iload_n hx hb dX6_tagsLeft_44 rfl (lv_at hl 1 rfl) ?_
        obtain rfl := Option.some.inj hf
        exact W.iret hx hb hr (fun t ht hW => c_endF X hB trivial hS ht hW) hS.2.2 dX6_tagsLeft_45 hlk
      · have hf := if_f hf hc3
        refine lv_aload_n hx hb dX6_tagsLeft_15 rfl (lv_at hl 0 rfl) ?_
        refine c_get X hB hk_this rfl rfl kw_X6 0 11 (by decide) kf_X6_11 rfl rfl dX6_tagsLeft_16 ?_
        obtain ⟨q4, eq4, hf⟩ := st1_s hf
        rw [← eq4]
        have hk_q4 : tyo G 10 q4 := by rw [eq4]; exact hB.2.2.2.1 (6, 96, 10) (by decide) _ hk_this
        refine lv_iload_n hx hb dX6_tagsLeft_19 rfl (lv_at hl 2 rfl) ?_
        obtain ⟨b5, eb5, hf2⟩ := nn_s hf
        clear hf
        subst eb5
        have hf := hf2
        clear hf2
        have hk_b5 := hk_q4 b5 rfl
        have hl : lv_has ls 4 [(0, .ref this), (1, .int x1), (2, .int x2)] := hl
        obtain ⟨q6, eq6, hiq6, hf⟩ := cqd_s hf
        refine c_aald X hB hk_b5 1 rfl rfl hiq6 eq6 dX6_tagsLeft_20 ?_
        have hk_q6 : tyo G 0 q6 := by rw [eq6]; exact hB.2.2.2.2.1 _ _ hk_b5
        refine lv_astore_nq (lv' := [(3, va_rf q6), (0, .ref this), (1, .int x1), (2, .int x2)]) hx hb dX6_tagsLeft_21 rfl hl (by decide) rfl (fun ls hl => ?_)
        refine lv_aload_nq hx hb dX6_tagsLeft_22 rfl (lv_at hl 0 rfl) ?_
        rcases q6 with _ | b7
        · have hf := nc_n hf
          have hl : lv_has ls 4 [(3, .null), (0, .ref this), (1, .int x1), (2, .int x2)] := hl
          refine lv_ifnullN (tgt := 38) hx hb dX6_tagsLeft_23 (by decide) ?_
          refine lv_iinc (v := x2 + 1) (lv' := [(2, .int (x2 + 1)), (3, .null), (0, .ref this), (1, .int x1)]) hx hb dX6_tagsLeft_38 hl (k := 3) rfl rfl (by decide) rfl (fun ls hl => ?_)
          refine lv_goto (tgt := 6) hx hb dX6_tagsLeft_41 (by decide) ?_
          exact ih_6 x1 (x2 + 1) hf _ _ _ hB hS (lv_sub hl [2, 3, 0] rfl)
        · have hf := nc_b hf
          have hk_b7 := hk_q6 b7 rfl
          have hl : lv_has ls 4 [(3, .ref b7), (0, .ref this), (1, .int x1), (2, .int x2)] := hl
          refine lv_ifnull hx hb dX6_tagsLeft_23 ?_
          refine lv_iload_n hx hb dX6_tagsLeft_26 rfl (lv_at hl 2 rfl) ?_
          refine lv_aload_n hx hb dX6_tagsLeft_27 rfl (lv_at hl 0 rfl) ?_
          refine c_get X hB hk_b7 rfl rfl kw_X0 8 163 (by decide) kf_X6_163 rfl rfl dX6_tagsLeft_28 ?_
          refine lv_aload_n hx hb dX6_tagsLeft_31 rfl (lv_at hl 0 rfl) ?_
          refine c_get X hB hk_b7 rfl rfl kw_X0 9 166 (by decide) kf_X6_166 rfl rfl dX6_tagsLeft_32 ?_
          refine lv_iadd hx hb dX6_tagsLeft_35 ?_
          refine lv_isub hx hb dX6_tagsLeft_36 ?_
          refine lv_istore_n (lv' := [(1, .int (x1 - ((gI S 8 b7) + (gI S 9 b7)))), (3, .ref b7), (0, .ref this), (2, .int x2)]) hx hb dX6_tagsLeft_37 rfl hl (by decide) rfl (fun ls hl => ?_)
          refine lv_iinc (v := x2 + 1) (lv' := [(2, .int (x2 + 1)), (1, .int (x1 - ((gI S 8 b7) + (gI S 9 b7)))), (3, .ref b7), (0, .ref this)]) hx hb dX6_tagsLeft_38 hl (k := 3) rfl rfl (by decide) rfl (fun ls hl => ?_)
          refine lv_goto (tgt := 6) hx hb dX6_tagsLeft_41 (by decide) ?_
          exact ih_6 (x1 - ((gI S 8 b7) + (gI S 9 b7))) (x2 + 1) hf _ _ _ hB hS (lv_sub hl [3, 1, 0] rfl)
  unfold cf_X6_tagsLeft at hf
  refine lv_sipush (v := 600) hx hb dX6_tagsLeft_0 (by decide) ?_
  refine lv_istore_n (lv' := [(1, .int 600), (0, .ref this)]) hx hb dX6_tagsLeft_3 rfl hl (by decide) rfl (fun ls hl => ?_)
  refine lv_iconst (v := 0) hx hb dX6_tagsLeft_4 (by decide) ?_
  refine lv_istore_n (lv' := [(2, .int 0), (1, .int 600), (0, .ref this)]) hx hb dX6_tagsLeft_5 rfl hl (by decide) rfl (fun ls hl => ?_)
  exact J_6 F (600 : Int32) (0 : Int32) hf _ _ _ hB hS (lv_sub hl [2, 1, 0] rfl)
/-! X6_tags -/
def cf_X6_tags (F : Nat) (S : Cst) (this : Nat) : Option Int32 := (cf_X6_tagsLeft F S this).bind fun v1 => some v1
set_option maxHeartbeats 4000000 in
set_option maxRecDepth 100000 in
theorem cm_X6_tags (l : Launch) (F : Nat) (D : va_G) (ct : ClassId × ClassId × ClassId) (G : Gam) (S : Cst) (this : Nat) (hk_this : ty G 6 this) (r : Int32) (hf : cf_X6_tags F S this = some r) : cMet l yX6_tags cq_X6_tags { frames := 1, cells := 0, slots := 0, locals := 23 } D ct G [.ref this] S (some (.int r)) (cF D ct G (fun _ => True) S) (0) (0) := by
  refine cMet_of (own := RX6) (cc := cX6_tags) (maxL := 1) (ret := (some .int)) (by decide) rfl rfl (Nat.le_of_ble_eq_true rfl) ?_
  intro p e s m below meth c X hr hlk hnm ls A hl hB hA hS
  have hx := X.1.1
  have hb := X.1.2.1
  have hown := X.1.2.2.2.1
  have hts := X.1.2.2.2.2
  have hl : lv_has ls 1 [(0, .ref this)] := hl
  generalize hargs : ([.ref this] : List Value).toArray = args at X hts hS ⊢
  unfold cf_X6_tags at hf
  refine lv_aload_n hx hb dX6_tags_0 rfl (lv_at hl 0 rfl) ?_
  obtain ⟨v1, hqv1, hf⟩ := bn_s hf
  refine c_doF hB hS hA (va_runV (As := []) (rest := []) X.1 (cm_X6_tagsLeft l F D ct _ _ this hk_this _ hqv1) (cwV 0 hts (gd_V km_X6_153 ki_X6_tagsLeft ks_X6_tagsLeft kin_RX6 kc_X6_tagsLeft) rfl rfl rfl (by decide +kernel) ⟨by dsimp only; omega, by dsimp only; omega⟩) (c_preV X hB hk_this rfl rfl) rfl rfl hl.1 rfl (lv_room (Nat.le_of_ble_eq_true rfl)) dX6_tags_1 ⟨by dsimp only; omega, by dsimp only; omega⟩) rfl (fun H locs hB hT hS => ?_)
  obtain rfl := Option.some.inj hf
  exact W.iret hx hb hr (fun t ht hW => c_endF X hB trivial hS ht hW) hS.2.2 dX6_tags_4 hlk
/-! X6_isDesk -/
def cf_X6_isDesk (F : Nat) (S : Cst) (x0 : Int32) : Option Int32 := if x0 = 0 then (some (1 : Int32)) else (if x0 = (1 : Int32) then (some (1 : Int32)) else (some (0 : Int32)))
set_option maxHeartbeats 4000000 in
set_option maxRecDepth 100000 in
theorem cm_X6_isDesk (l : Launch) (F : Nat) (D : va_G) (ct : ClassId × ClassId × ClassId) (G : Gam) (S : Cst) (x0 : Int32)  (r : Int32) (hf : cf_X6_isDesk F S x0 = some r) : cMet l yX6_isDesk cq_X6_isDesk { frames := 0, cells := 0, slots := 0, locals := 0 } D ct G [.int x0] S (some (.int r)) (cF D ct G (fun _ => True) S) (0) (0) := by
  refine cMet_of (own := RX6) (cc := cX6_isDesk) (maxL := 1) (ret := (some .boolean)) (by decide) rfl rfl (Nat.le_of_ble_eq_true rfl) ?_
  intro p e s m below meth c X hr hlk hnm ls A hl hB hA hS
  have hx := X.1.1
  have hb := X.1.2.1
  have hown := X.1.2.2.2.1
  have hts := X.1.2.2.2.2
  have hl : lv_has ls 1 [(0, .int x0)] := hl
  generalize hargs : ([.int x0] : List Value).toArray = args at X hts hS ⊢
  unfold cf_X6_isDesk at hf
  refine lv_iload_n hx hb dX6_isDesk_0 rfl (lv_at hl 0 rfl) ?_
  refine lv_if_eq (tgt := 9) hx hb dX6_isDesk_1 (by decide) (fun hc1 => ?_) (fun hc1 => ?_)
  · have hf := if_t hf hc1
    refine lv_iconst (v := 1) hx hb dX6_isDesk_9 (by decide) ?_
    refine lv_goto (tgt := 14) hx hb dX6_isDesk_10 (by decide) ?_
    obtain rfl := Option.some.inj hf
    exact W.zret hx hb hr rfl (fun t ht hW => c_endF X hB trivial hS ht hW) hS.2.2 dX6_isDesk_14 hlk
  · have hf := if_f hf hc1
    refine lv_iload_n hx hb dX6_isDesk_4 rfl (lv_at hl 0 rfl) ?_
    refine lv_iconst (v := 1) hx hb dX6_isDesk_5 (by decide) ?_
    refine lv_icmp_ne (tgt := 13) hx hb dX6_isDesk_6 (by decide) (fun hc2 => ?_) (fun hc2 => ?_)
    · have hf := if_f hf hc2
      refine lv_iconst (v := 0) hx hb dX6_isDesk_13 (by decide) ?_
      obtain rfl := Option.some.inj hf
      exact W.zret hx hb hr rfl (fun t ht hW => c_endF X hB trivial hS ht hW) hS.2.2 dX6_isDesk_14 hlk
    · have hf := if_t hf hc2
      refine lv_iconst (v := 1) hx hb dX6_isDesk_9 (by decide) ?_
      refine lv_goto (tgt := 14) hx hb dX6_isDesk_10 (by decide) ?_
      obtain rfl := Option.some.inj hf
      exact W.zret hx hb hr rfl (fun t ht hW => c_endF X hB trivial hS ht hW) hS.2.2 dX6_isDesk_14 hlk
/-! X6_arenaOrNull -/
def cf_X6_arenaOrNull (F : Nat) (S : Cst) (this : Nat) (x1 : Int32) : Option (Option Nat) := if x1 < 0 then (some none) else (st1 (gP S 96 this) fun q2 => nn q2 fun b3 => if (Int32.ofNat (gN S b3)) ≤ x1 then (some none) else (st1 (gP S 96 this) fun q5 => nn q5 fun b6 => cqd S b6 x1 fun q7 => some q7))
set_option maxHeartbeats 4000000 in
set_option maxRecDepth 100000 in
theorem cm_X6_arenaOrNull (l : Launch) (F : Nat) (D : va_G) (ct : ClassId × ClassId × ClassId) (G : Gam) (S : Cst) (this : Nat) (x1 : Int32) (hk_this : ty G 6 this) (r : Option Nat) (hf : cf_X6_arenaOrNull F S this x1 = some r) : cMet l yX6_arenaOrNull cq_X6_arenaOrNull { frames := 0, cells := 0, slots := 0, locals := 0 } D ct G [.ref this, .int x1] S (some (va_rf r)) (cF D ct G (fun G => tyo G 0 r) S) (0) (0) := by
  refine cMet_of (own := RX6) (cc := cX6_arenaOrNull) (maxL := 2) (ret := (some (.object "RangeArenas$Arena"))) (by decide) rfl rfl (Nat.le_of_ble_eq_true rfl) ?_
  intro p e s m below meth c X hr hlk hnm ls A hl hB hA hS
  have hx := X.1.1
  have hb := X.1.2.1
  have hown := X.1.2.2.2.1
  have hts := X.1.2.2.2.2
  have hl : lv_has ls 2 [(0, .ref this), (1, .int x1)] := hl
  generalize hargs : ([.ref this, .int x1] : List Value).toArray = args at X hts hS ⊢
  unfold cf_X6_arenaOrNull at hf
  refine lv_iload_n hx hb dX6_arenaOrNull_0 rfl (lv_at hl 1 rfl) ?_
  refine lv_if_lt (tgt := 22) hx hb dX6_arenaOrNull_1 (by decide) (fun hc1 => ?_) (fun hc1 => ?_)
  · have hf := if_t hf hc1
    refine lv_null hx hb dX6_arenaOrNull_22 ?_
    obtain rfl := Option.some.inj hf
    exact W.aret hx hb hr (Or.inl ⟨_, rfl⟩) (Or.inl rfl) (fun t ht hW => c_endF X hB tyo_none hS ht hW) hS.2.2 dX6_arenaOrNull_23 hlk
  · have hf := if_f hf hc1
    refine lv_iload_n hx hb dX6_arenaOrNull_4 rfl (lv_at hl 1 rfl) ?_
    refine lv_aload_n hx hb dX6_arenaOrNull_5 rfl (lv_at hl 0 rfl) ?_
    refine c_get X hB hk_this rfl rfl kw_X6 0 11 (by decide) kf_X6_11 rfl rfl dX6_arenaOrNull_6 ?_
    obtain ⟨q2, eq2, hf⟩ := st1_s hf
    rw [← eq2]
    have hk_q2 : tyo G 10 q2 := by rw [eq2]; exact hB.2.2.2.1 (6, 96, 10) (by decide) _ hk_this
    obtain ⟨b3, eb3, hf2⟩ := nn_s hf
    clear hf
    subst eb3
    have hf := hf2
    clear hf2
    have hk_b3 := hk_q2 b3 rfl
    have hl : lv_has ls 2 [(0, .ref this), (1, .int x1)] := hl
    refine c_alen X hB hk_b3 1 rfl rfl rfl dX6_arenaOrNull_9 ?_
    refine lv_icmp_ge (tgt := 22) hx hb dX6_arenaOrNull_10 (by decide) (fun hc4 => ?_) (fun hc4 => ?_)
    · have hf := if_t hf hc4
      refine lv_null hx hb dX6_arenaOrNull_22 ?_
      obtain rfl := Option.some.inj hf
      exact W.aret hx hb hr (Or.inl ⟨_, rfl⟩) (Or.inl rfl) (fun t ht hW => c_endF X hB tyo_none hS ht hW) hS.2.2 dX6_arenaOrNull_23 hlk
    · have hf := if_f hf hc4
      refine lv_aload_n hx hb dX6_arenaOrNull_13 rfl (lv_at hl 0 rfl) ?_
      refine c_get X hB hk_this rfl rfl kw_X6 0 11 (by decide) kf_X6_11 rfl rfl dX6_arenaOrNull_14 ?_
      obtain ⟨q5, eq5, hf⟩ := st1_s hf
      rw [← eq5]
      have hk_q5 : tyo G 10 q5 := by rw [eq5]; exact hB.2.2.2.1 (6, 96, 10) (by decide) _ hk_this
      refine lv_iload_n hx hb dX6_arenaOrNull_17 rfl (lv_at hl 1 rfl) ?_
      obtain ⟨b6, eb6, hf2⟩ := nn_s hf
      clear hf
      subst eb6
      have hf := hf2
      clear hf2
      have hk_b6 := hk_q5 b6 rfl
      have hl : lv_has ls 2 [(0, .ref this), (1, .int x1)] := hl
      obtain ⟨q7, eq7, hiq7, hf⟩ := cqd_s hf
      refine c_aald X hB hk_b6 1 rfl rfl hiq7 eq7 dX6_arenaOrNull_18 ?_
      have hk_q7 : tyo G 0 q7 := by rw [eq7]; exact hB.2.2.2.2.1 _ _ hk_b6
      refine lv_goto (tgt := 23) hx hb dX6_arenaOrNull_19 (by decide) ?_
      have hT := hk_q7
      obtain rfl := Option.some.inj hf
      exact W.aret hx hb hr (Or.inl ⟨_, rfl⟩) (va_rf_or _) (fun t ht hW => c_endF X hB hT hS ht hW) hS.2.2 dX6_arenaOrNull_23 hlk
/-! X6_isFull -/
def cf_X6_isFull (F : Nat) (S : Cst) (this : Nat) : Option Int32 := (cf_X6_tagsLeft F S this).bind fun v1 => if (40 : Int32) ≤ v1 then (some (0 : Int32)) else (some (1 : Int32))
set_option maxHeartbeats 4000000 in
set_option maxRecDepth 100000 in
theorem cm_X6_isFull (l : Launch) (F : Nat) (D : va_G) (ct : ClassId × ClassId × ClassId) (G : Gam) (S : Cst) (this : Nat) (hk_this : ty G 6 this) (r : Int32) (hf : cf_X6_isFull F S this = some r) : cMet l yX6_isFull cq_X6_isFull { frames := 1, cells := 0, slots := 0, locals := 23 } D ct G [.ref this] S (some (.int r)) (cF D ct G (fun _ => True) S) (0) (0) := by
  refine cMet_of (own := RX6) (cc := cX6_isFull) (maxL := 1) (ret := (some .boolean)) (by decide) rfl rfl (Nat.le_of_ble_eq_true rfl) ?_
  intro p e s m below meth c X hr hlk hnm ls A hl hB hA hS
  have hx := X.1.1
  have hb := X.1.2.1
  have hown := X.1.2.2.2.1
  have hts := X.1.2.2.2.2
  have hl : lv_has ls 1 [(0, .ref this)] := hl
  generalize hargs : ([.ref this] : List Value).toArray = args at X hts hS ⊢
  unfold cf_X6_isFull at hf
  refine lv_aload_n hx hb dX6_isFull_0 rfl (lv_at hl 0 rfl) ?_
  obtain ⟨v1, hqv1, hf⟩ := bn_s hf
  refine c_doF hB hS hA (va_runV (As := []) (rest := []) X.1 (cm_X6_tagsLeft l F D ct _ _ this hk_this _ hqv1) (cwV 0 hts (gd_V km_X6_153 ki_X6_tagsLeft ks_X6_tagsLeft kin_RX6 kc_X6_tagsLeft) rfl rfl rfl (by decide +kernel) ⟨by dsimp only; omega, by dsimp only; omega⟩) (c_preV X hB hk_this rfl rfl) rfl rfl hl.1 rfl (lv_room (Nat.le_of_ble_eq_true rfl)) dX6_isFull_1 ⟨by dsimp only; omega, by dsimp only; omega⟩) rfl (fun H locs hB hT hS => ?_)
  refine lv_bipush (v := 40) hx hb dX6_isFull_4 (by decide) ?_
  refine lv_icmp_ge (tgt := 13) hx hb dX6_isFull_6 (by decide) (fun hc2 => ?_) (fun hc2 => ?_)
  · have hf := if_t hf hc2
    refine lv_iconst (v := 0) hx hb dX6_isFull_13 (by decide) ?_
    obtain rfl := Option.some.inj hf
    exact W.zret hx hb hr rfl (fun t ht hW => c_endF X hB trivial hS ht hW) hS.2.2 dX6_isFull_14 hlk
  · have hf := if_f hf hc2
    refine lv_iconst (v := 1) hx hb dX6_isFull_9 (by decide) ?_
    refine lv_goto (tgt := 14) hx hb dX6_isFull_10 (by decide) ?_
    obtain rfl := Option.some.inj hf
    exact W.zret hx hb hr rfl (fun t ht hW => c_endF X hB trivial hS ht hW) hS.2.2 dX6_isFull_14 hlk
/-! X6_importSpan -/
def cf_X6_importSpan (F : Nat) (kO : Cst → Option Nat → Int64 → Int32 → Int32 → Int32 → Option (Option Nat × Cst)) (S : Cst) (x0 : Option Nat) (x1 : Int32) (x2 : Int32) : Option (Option Nat × Cst) := nn x0 fun b1 => st1 (gP S 3 b1) fun q2 => nc q2 (some (none, S)) (fun b3 => (cf_X0_roundUp F S b3 x1).bind fun v4 => (kO S (some b3) v4 (1 : Int32) (3 : Int32) (x2 + 1)).bind fun z5 => st2 z5 fun z5v z5S => nc z5v (some (none, z5S)) (fun b6 => (cf_X0_open F z5S b1 (gI z5S 80 b6) (gI z5S 81 b6)).bind fun z7 => st2 z7 fun z7v z7S => some (z7v, z7S)))
set_option maxHeartbeats 4000000 in
set_option maxRecDepth 100000 in
theorem cm_X6_importSpan (l : Launch) (F : Nat) (kO : Cst → Option Nat → Int64 → Int32 → Int32 → Int32 → Option (Option Nat × Cst)) (fr lo mc ms : Nat) (D : va_G) (ct : ClassId × ClassId × ClassId) (hkO : ∀ (G : Gam) (S : Cst) (x0 : Option Nat) (x1 : Int64) (x3 x4 x5 : Int32) (hk_x0 : tyo G 0 x0) (r : Option Nat) (S' : Cst), kO S x0 x1 x3 x4 x5 = some (r, S') → cMet l yX6_obtain cq_X6_obtain { frames := fr, cells := mc, slots := ms, locals := lo } D ct G [va_rf x0, .long x1, .int x3, .int x4, .int x5] S (some (va_rf r)) (cE D ct G (nx S) (fun G => tyo G 5 r) S') mc ms) (hfr : 30 ≤ fr) (hlo : 1200 ≤ lo) (G : Gam) (S : Cst) (x0 : Option Nat) (x1 : Int32) (x2 : Int32) (hk_x0 : tyo G 0 x0) (r : Option Nat) (S' : Cst) (hf : cf_X6_importSpan F kO S x0 x1 x2 = some (r, S')) : cMet l yX6_importSpan cq_X6_importSpan { frames := fr + 1, cells := mc + 1, slots := ms + 12, locals := lo + 60 } D ct G [va_rf x0, .int x1, .int x2] S (some (va_rf r)) (cE D ct G (nx S) (fun G => tyo G 5 r) S') (mc + 1) (ms + 12) := by
  refine cMet_of (own := RX6) (cc := cX6_importSpan) (maxL := 5) (ret := (some (.object "RangeArenas$Segment"))) (by decide) rfl rfl (by rcases x0 with _ | _ <;> exact (Nat.le_of_ble_eq_true rfl)) ?_
  intro p e s m below meth c X hr hlk hnm ls A hl hB hA hS
  have hx := X.1.1
  have hb := X.1.2.1
  have hown := X.1.2.2.2.1
  have hts := X.1.2.2.2.2
  have hl : lv_has ls 5 [(0, va_rf x0), (1, .int x1), (2, .int x2)] := (by rcases x0 with _ | _ <;> exact hl)
  generalize hargs : ([va_rf x0, .int x1, .int x2] : List Value).toArray = args at X hts hS ⊢
  have hsz := hB.2.2.1
  obtain ⟨G0, eG0⟩ : ∃ z, z = G := ⟨_, rfl⟩
  obtain ⟨S0, eS0⟩ : ∃ z, z = S := ⟨_, rfl⟩
  have hext : ext G0 (nx S0) G := by rw [eG0]; exact ext_rf
  rw [← eS0] at hsz
  suffices hgoal : W p l e { frames := fr + 1, cells := mc + 1, slots := ms + 12, locals := lo + 60 } s m args below meth c s.heap [] 0 0 (MQ below (mq (some (va_rf r)) (cE D ct G0 (nx S0) (fun G => tyo G 5 r) S') A) args s (mc + 1) (ms + 12) A) (F0 m 0 ls []) by rw [eG0, eS0] at hgoal; exact hgoal
  unfold cf_X6_importSpan at hf
  refine lv_aload_nq hx hb dX6_importSpan_0 rfl (lv_at hl 0 rfl) ?_
  obtain ⟨b1, eb1, hf2⟩ := nn_s hf
  clear hf
  subst eb1
  have hf := hf2
  clear hf2
  have hk_b1 := hk_x0 b1 rfl
  have hl : lv_has ls 5 [(0, .ref b1), (1, .int x1), (2, .int x2)] := hl
  refine c_get X hB hk_b1 rfl rfl kw_X0 3 57 (by decide) kf_X6_57 rfl rfl dX6_importSpan_1 ?_
  obtain ⟨q2, eq2, hf⟩ := st1_s hf
  rw [← eq2]
  have hk_q2 : tyo G 0 q2 := by rw [eq2]; exact hB.2.2.2.1 (0, 3, 0) (by decide) _ hk_b1
  refine lv_astore_nq (lv' := [(3, va_rf q2), (0, .ref b1), (1, .int x1), (2, .int x2)]) hx hb dX6_importSpan_4 rfl hl (by decide) rfl (fun ls hl => ?_)
  refine lv_aload_nq hx hb dX6_importSpan_5 rfl (lv_at hl 0 rfl) ?_
  rcases q2 with _ | b3
  · have hf := nc_n hf
    have hl : lv_has ls 5 [(3, .null), (0, .ref b1), (1, .int x1), (2, .int x2)] := hl
    refine lv_ifnonnullN hx hb dX6_importSpan_6 ?_
    refine lv_null hx hb dX6_importSpan_9 ?_
    obtain ⟨rfl, rfl⟩ := Prod.mk.inj (Option.some.inj hf)
    refine W.widen (k := mc + 1) (n := ms + 12) (by omega) (by omega) ?_
    exact W.aret hx hb hr (Or.inl ⟨_, rfl⟩) (Or.inl rfl) (fun t ht hW => c_endE X hext hB tyo_none hS ht hW) hS.2.2 dX6_importSpan_10 hlk
  · have hf := nc_b hf
    have hk_b3 := hk_q2 b3 rfl
    have hl : lv_has ls 5 [(3, .ref b3), (0, .ref b1), (1, .int x1), (2, .int x2)] := hl
    refine lv_ifnonnull (tgt := 11) hx hb dX6_importSpan_6 (by decide) ?_
    refine lv_aload_n hx hb dX6_importSpan_11 rfl (lv_at hl 0 rfl) ?_
    refine lv_aload_n hx hb dX6_importSpan_12 rfl (lv_at hl 0 rfl) ?_
    refine lv_iload_n hx hb dX6_importSpan_13 rfl (lv_at hl 2 rfl) ?_
    obtain ⟨v4, hqv4, hf⟩ := bn_s hf
    refine c_doF hB hS hA (va_runV (As := [.int x1]) (rest := [.ref b3]) X.1 (cm_X0_roundUp l F D ct _ _ b3 x1 hk_b3 _ hqv4) (cwV 1 hts (gd_V km_X6_73 ki_X0_roundUp ks_X0_roundUp kin_RX0 kc_X0_roundUp) rfl rfl rfl (by decide +kernel) ⟨by dsimp only; omega, by dsimp only; omega⟩) (c_preV X hB hk_b3 rfl rfl) rfl rfl hl.1 rfl (lv_room (Nat.le_of_ble_eq_true rfl)) dX6_importSpan_14 ⟨by dsimp only; omega, by dsimp only; omega⟩) rfl (fun H locs hB hT hS => ?_)
    refine lv_iconst (v := 1) hx hb dX6_importSpan_17 (by decide) ?_
    refine lv_iconst (v := 3) hx hb dX6_importSpan_18 (by decide) ?_
    refine lv_iload_n hx hb dX6_importSpan_19 rfl (lv_at hl 3 rfl) ?_
    refine lv_iconst (v := 1) hx hb dX6_importSpan_20 (by decide) ?_
    refine lv_iadd hx hb dX6_importSpan_21 ?_
    obtain ⟨⟨z5v, z5S⟩, hqz5, hf⟩ := bn_s hf
    have hf := st2_s hf
    have hle : nx S0 ≤ nx S := by rw [← hsz, ← hB.2.2.1]; exact hS.1
    refine c_doE hB hS hA (va_runS (As := [va_rf (some b3), .long v4, .int 1, .int 3, .int (x2 + 1)]) (rest := []) X.1 (hkO _ _ (some b3) v4 (1 : Int32) (3 : Int32) (x2 + 1) (tyo_some hk_b3) _ _ hqz5) (va_cwS 5 hts (gd_S km_X6_89 kst_X6_obtain kin_RX6 kc_X6_obtain) rfl rfl rfl (by decide +kernel) ⟨by dsimp only; omega, by dsimp only; omega⟩) (c_preS X hB) rfl rfl hl.1 rfl (lv_room (Nat.le_of_ble_eq_true rfl)) dX6_importSpan_22 ⟨by dsimp only; omega, by dsimp only; omega⟩) rfl (fun G H locs hx1 hB2 hT hS => ?_)
    have hext := hext.trans hx1 hle
    have hk_b3 := hx1.1 _ _ hk_b3
    have hk_b1 := hx1.1 _ _ hk_b1
    have hB := hB2
    clear hB2
    have hk_z5v := hT
    refine W.widen (k := mc) (n := ms) (by omega) (by omega) ?_
    refine lv_astoreq (lv' := [(4, va_rf z5v), (3, .ref b3), (0, .ref b1), (1, .int x1), (2, .int x2)]) hx hb dX6_importSpan_25 hl (by decide) rfl (fun ls hl => ?_)
    refine lv_aloadq hx hb dX6_importSpan_27 (lv_at hl 0 rfl) ?_
    rcases z5v with _ | b6
    · have hf := nc_n hf
      have hl : lv_has ls 5 [(4, .null), (3, .ref b3), (0, .ref b1), (1, .int x1), (2, .int x2)] := hl
      refine lv_ifnonnullN hx hb dX6_importSpan_29 ?_
      refine lv_null hx hb dX6_importSpan_32 ?_
      refine lv_goto (tgt := 50) hx hb dX6_importSpan_33 (by decide) ?_
      obtain ⟨rfl, rfl⟩ := Prod.mk.inj (Option.some.inj hf)
      refine W.widen (k := mc + 1) (n := ms + 12) (by omega) (by omega) ?_
      exact W.aret hx hb hr (Or.inl ⟨_, rfl⟩) (Or.inl rfl) (fun t ht hW => c_endE X hext hB tyo_none hS ht hW) hS.2.2 dX6_importSpan_50 hlk
    · have hf := nc_b hf
      have hk_b6 := hk_z5v b6 rfl
      have hl : lv_has ls 5 [(4, .ref b6), (3, .ref b3), (0, .ref b1), (1, .int x1), (2, .int x2)] := hl
      refine lv_ifnonnull (tgt := 36) hx hb dX6_importSpan_29 (by decide) ?_
      refine lv_aload_n hx hb dX6_importSpan_36 rfl (lv_at hl 2 rfl) ?_
      refine lv_aload hx hb dX6_importSpan_37 (lv_at hl 0 rfl) ?_
      refine c_get X hB hk_b6 rfl rfl kw_X5 0 93 (by decide) kf_X6_93 rfl rfl dX6_importSpan_39 ?_
      refine lv_aload hx hb dX6_importSpan_42 (lv_at hl 0 rfl) ?_
      refine c_get X hB hk_b6 rfl rfl kw_X5 1 199 (by decide) kf_X6_199 rfl rfl dX6_importSpan_44 ?_
      obtain ⟨⟨z7v, z7S⟩, hqz7, hf⟩ := bn_s hf
      have hf := st2_s hf
      have hle : nx S0 ≤ nx z5S := by rw [← hsz, ← hB.2.2.1]; exact hS.1
      refine c_doE hB hS hA (va_runV (As := [.int (gI z5S 80 b6), .int (gI z5S 81 b6)]) (rest := []) X.1 (cm_X0_open l F D ct _ _ b1 (gI z5S 80 b6) (gI z5S 81 b6) hk_b1 _ _ hqz7) (cwV 2 hts (gd_V km_X6_64 ki_X0_open ks_X0_open kin_RX0 kc_X0_open) rfl rfl rfl (by decide +kernel) ⟨by dsimp only; omega, by dsimp only; omega⟩) (c_preV X hB hk_b1 rfl rfl) rfl rfl hl.1 rfl (lv_room (Nat.le_of_ble_eq_true rfl)) dX6_importSpan_47 ⟨by dsimp only; omega, by dsimp only; omega⟩) rfl (fun G H locs hx1 hB2 hT hS => ?_)
      have hext := hext.trans hx1 hle
      have hk_b6 := hx1.1 _ _ hk_b6
      have hk_b3 := hx1.1 _ _ hk_b3
      have hk_b1 := hx1.1 _ _ hk_b1
      have hB := hB2
      clear hB2
      have hk_z7v := hT
      refine W.widen (k := mc + 1) (n := ms + 12) (by omega) (by omega) ?_
      have hT := hk_z7v
      obtain ⟨rfl, rfl⟩ := Prod.mk.inj (Option.some.inj hf)
      refine W.widen (k := mc + 1) (n := ms + 12) (by omega) (by omega) ?_
      exact W.aret hx hb hr (Or.inl ⟨_, rfl⟩) (va_rf_or _) (fun t ht hW => c_endE X hext hB hT hS ht hW) hS.2.2 dX6_importSpan_50 hlk
/-! X6_layAll -/
def cf_X6_layAll_2 (F : Nat) : Nat → Cst → Option Nat → Option Nat → Option Nat → Int32 → Option Cst
  | 0 => fun _ _ _ _ _ => none
  | n + 1 => fun S x0 x1 x2 x3 => if (12 : Int32) ≤ x3 then (some S) else (nn x2 fun b2 => if (gI S 65 b2) ≤ 0 then (some S) else ((cf_X4_pull F S b2).bind fun z4 => st2 z4 fun z4v z4S => nn x0 fun b5 => (cf_X0_slabHolding F z4S b5 x1 z4v).bind fun q6 => nc q6 ((cf_X6_layAll_2 F n) z4S (some b5) x1 (some b2) (x3 + 1)) (fun b7 => (cf_X5_objectAt F z4S b7 z4v).bind fun v8 => (cf_X5_lay F z4S b7 v8).bind fun S9 => (cf_X6_layAll_2 F n) S9 (some b5) x1 (some b2) (x3 + 1))))
def cf_X6_layAll (F : Nat) (S : Cst) (x0 : Option Nat) (x1 : Option Nat) (x2 : Option Nat) : Option Cst := cf_X6_layAll_2 F F S x0 x1 x2 (0 : Int32)
set_option maxHeartbeats 4000000 in
set_option maxRecDepth 100000 in
theorem cm_X6_layAll (l : Launch) (F : Nat) (D : va_G) (ct : ClassId × ClassId × ClassId) (G : Gam) (S : Cst) (x0 : Option Nat) (x1 : Option Nat) (x2 : Option Nat) (hk_x0 : tyo G 0 x0) (hk_x1 : tyo G 2 x1) (hk_x2 : tyo G 4 x2) (S' : Cst) (hf : cf_X6_layAll F S x0 x1 x2 = some S') : cMet l yX6_layAll cq_X6_layAll { frames := 2, cells := 0, slots := 0, locals := 45 } D ct G [va_rf x0, va_rf x1, va_rf x2] S none (cF D ct G (fun _ => True) S') (0) (0) := by
  refine cMet_of (own := RX6) (cc := cX6_layAll) (maxL := 6) (ret := none) (by decide) rfl rfl (by rcases x0 with _ | _ <;> rcases x1 with _ | _ <;> rcases x2 with _ | _ <;> exact (Nat.le_of_ble_eq_true rfl)) ?_
  intro p e s m below meth c X hr hlk hnm ls A hl hB hA hS
  have hx := X.1.1
  have hb := X.1.2.1
  have hown := X.1.2.2.2.1
  have hts := X.1.2.2.2.2
  have hl : lv_has ls 6 [(0, va_rf x0), (1, va_rf x1), (2, va_rf x2)] := (by rcases x0 with _ | _ <;> rcases x1 with _ | _ <;> rcases x2 with _ | _ <;> exact hl)
  generalize hargs : ([va_rf x0, va_rf x1, va_rf x2] : List Value).toArray = args at X hts hS ⊢
  have J_2 : ∀ (n_2 : Nat) (S : Cst) (x0 : Option Nat) (x1 : Option Nat) (x2 : Option Nat) (x3 : Int32), cf_X6_layAll_2 F n_2 S x0 x1 x2 x3 = some S' → ∀ (H : Heap) (locs : List Loc) (ls : Array Slot), tyo G 0 x0 → tyo G 2 x1 → tyo G 4 x2 → cB D ct G A S H → va_S A s.heap H locs → lv_has ls 6 [(0, va_rf x0), (1, va_rf x1), (2, va_rf x2), (3, .int x3)] → W p l e { frames := 2, cells := 0, slots := 0, locals := 45 } s m args below meth c H locs (0) (0) (MQ below (mq none (cF D ct G (fun _ => True) S') A) args s (0) (0) A) (F0 m 2 ls []) := by
    intro n_2
    induction n_2 with
    | zero => intro S x0 x1 x2 x3 hf; cases hf
    | succ n_2 ih_2 =>
      intro S x0 x1 x2 x3 hf H locs ls hk_x0 hk_x1 hk_x2 hB hS hl
      rw [cf_X6_layAll_2] at hf
      refine lv_iload_n hx hb dX6_layAll_2 rfl (lv_at hl 3 rfl) ?_
      refine lv_bipush (v := 12) hx hb dX6_layAll_3 (by decide) ?_
      refine lv_icmp_ge (tgt := 53) hx hb dX6_layAll_5 (by decide) (fun hc1 => ?_) (fun hc1 => ?_)
      · have hf := if_t hf hc1
        obtain rfl := Option.some.inj hf
        exact W.vret hx hb hr (fun t ht hW => c_endF X hB trivial hS ht hW) hS.2.2 dX6_layAll_53 hlk
      · have hf := if_f hf hc1
        refine lv_aload_nq hx hb dX6_layAll_8 rfl (lv_at hl 2 rfl) ?_
        obtain ⟨b2, eb2, hf2⟩ := nn_s hf
        clear hf
        subst eb2
        have hf := hf2
        clear hf2
        have hk_b2 := hk_x2 b2 rfl
        have hl : lv_has ls 6 [(0, va_rf x0), (1, va_rf x1), (2, .ref b2), (3, .int x3)] := hl
        refine c_get X hB hk_b2 rfl rfl kw_X4 1 241 (by decide) kf_X6_241 rfl rfl dX6_layAll_9 ?_
        refine lv_if_le (tgt := 53) hx hb dX6_layAll_12 (by decide) (fun hc3 => ?_) (fun hc3 => ?_)
        · have hf := if_t hf hc3
          obtain rfl := Option.some.inj hf
          exact W.vret hx hb hr (fun t ht hW => c_endF X hB trivial hS ht hW) hS.2.2 dX6_layAll_53 hlk
        · have hf := if_f hf hc3
          refine lv_aload_n hx hb dX6_layAll_15 rfl (lv_at hl 2 rfl) ?_
          obtain ⟨⟨z4v, z4S⟩, hqz4, hf⟩ := bn_s hf
          have hf := st2_s hf
          refine c_doF hB hS hA (va_runV (As := []) (rest := []) X.1 (cm_X4_pull l F D ct _ _ b2 hk_b2 _ _ hqz4) (cwV 0 hts (gd_V km_X6_314 ki_X4_pull ks_X4_pull kin_RX4 kc_X4_pull) rfl rfl rfl (by decide +kernel) ⟨by dsimp only; omega, by dsimp only; omega⟩) (c_preV X hB hk_b2 rfl rfl) rfl rfl hl.1 rfl (lv_room (Nat.le_of_ble_eq_true rfl)) dX6_layAll_16 ⟨by dsimp only; omega, by dsimp only; omega⟩) rfl (fun H locs hB hT hS => ?_)
          refine lv_istore (lv' := [(4, .int z4v), (0, va_rf x0), (1, va_rf x1), (2, .ref b2), (3, .int x3)]) hx hb dX6_layAll_19 hl (by decide) rfl (fun ls hl => ?_)
          refine lv_aload_nq hx hb dX6_layAll_21 rfl (lv_at hl 1 rfl) ?_
          refine lv_aload_nq hx hb dX6_layAll_22 rfl (lv_at hl 2 rfl) ?_
          refine lv_iload hx hb dX6_layAll_23 (lv_at hl 0 rfl) ?_
          obtain ⟨b5, eb5, hf2⟩ := nn_s hf
          clear hf
          subst eb5
          have hf := hf2
          clear hf2
          have hk_b5 := hk_x0 b5 rfl
          have hl : lv_has ls 6 [(4, .int z4v), (0, .ref b5), (1, va_rf x1), (2, .ref b2), (3, .int x3)] := hl
          obtain ⟨q6, hqq6, hf⟩ := bn_s hf
          refine c_doF hB hS hA (va_runV (As := [va_rf x1, .int z4v]) (rest := []) X.1 (cm_X0_slabHolding l F D ct _ _ b5 x1 z4v hk_b5 hk_x1 _ hqq6) (cwV 2 hts (gd_V km_X6_317 ki_X0_slabHolding ks_X0_slabHolding kin_RX0 kc_X0_slabHolding) rfl rfl rfl (by decide +kernel) ⟨by dsimp only; omega, by dsimp only; omega⟩) (c_preV X hB hk_b5 rfl rfl) rfl rfl hl.1 rfl (lv_room (Nat.le_of_ble_eq_true rfl)) dX6_layAll_25 ⟨by dsimp only; omega, by dsimp only; omega⟩) rfl (fun H locs hB hT hS => ?_)
          have hk_q6 := hT
          refine lv_astoreq (lv' := [(5, va_rf q6), (4, .int z4v), (0, .ref b5), (1, va_rf x1), (2, .ref b2), (3, .int x3)]) hx hb dX6_layAll_28 hl (by decide) rfl (fun ls hl => ?_)
          refine lv_aloadq hx hb dX6_layAll_30 (lv_at hl 0 rfl) ?_
          rcases q6 with _ | b7
          · have hf := nc_n hf
            have hl : lv_has ls 6 [(5, .null), (4, .int z4v), (0, .ref b5), (1, va_rf x1), (2, .ref b2), (3, .int x3)] := hl
            refine lv_ifnullN (tgt := 47) hx hb dX6_layAll_32 (by decide) ?_
            refine lv_iinc (v := x3 + 1) (lv' := [(3, .int (x3 + 1)), (5, .null), (4, .int z4v), (0, .ref b5), (1, va_rf x1), (2, .ref b2)]) hx hb dX6_layAll_47 hl (k := 5) rfl rfl (by decide) rfl (fun ls hl => ?_)
            refine lv_goto (tgt := 2) hx hb dX6_layAll_50 (by decide) ?_
            exact ih_2 z4S (some b5) x1 (some b2) (x3 + 1) hf _ _ _ (tyo_some hk_b5) hk_x1 (tyo_some hk_b2) hB hS (lv_sub hl [3, 4, 5, 0] rfl)
          · have hf := nc_b hf
            have hk_b7 := hk_q6 b7 rfl
            have hl : lv_has ls 6 [(5, .ref b7), (4, .int z4v), (0, .ref b5), (1, va_rf x1), (2, .ref b2), (3, .int x3)] := hl
            refine lv_ifnull hx hb dX6_layAll_32 ?_
            refine lv_aload hx hb dX6_layAll_35 (lv_at hl 0 rfl) ?_
            refine lv_aload hx hb dX6_layAll_37 (lv_at hl 0 rfl) ?_
            refine lv_iload hx hb dX6_layAll_39 (lv_at hl 1 rfl) ?_
            obtain ⟨v8, hqv8, hf⟩ := bn_s hf
            refine c_doF hB hS hA (va_runV (As := [.int z4v]) (rest := [.ref b7]) X.1 (cm_X5_objectAt l F D ct _ _ b7 z4v hk_b7 _ hqv8) (cwV 1 hts (gd_V km_X6_269 ki_X5_objectAt ks_X5_objectAt kin_RX5 kc_X5_objectAt) rfl rfl rfl (by decide +kernel) ⟨by dsimp only; omega, by dsimp only; omega⟩) (c_preV X hB hk_b7 rfl rfl) rfl rfl hl.1 rfl (lv_room (Nat.le_of_ble_eq_true rfl)) dX6_layAll_41 ⟨by dsimp only; omega, by dsimp only; omega⟩) rfl (fun H locs hB hT hS => ?_)
            obtain ⟨S9, hqS9, hf⟩ := bn_s hf
            refine c_doF hB hS hA (va_runV (As := [.int v8]) (rest := []) X.1 (cm_X5_lay l F D ct _ _ b7 v8 hk_b7 _ hqS9) (cwV 1 hts (gd_V km_X6_353 ki_X5_lay ks_X5_lay kin_RX5 kc_X5_lay) rfl rfl rfl (by decide +kernel) ⟨by dsimp only; omega, by dsimp only; omega⟩) (c_preV X hB hk_b7 rfl rfl) rfl rfl hl.1 rfl (lv_room (Nat.le_of_ble_eq_true rfl)) dX6_layAll_44 ⟨by dsimp only; omega, by dsimp only; omega⟩) rfl (fun H locs hB hT hS => ?_)
            refine lv_iinc (v := x3 + 1) (lv' := [(3, .int (x3 + 1)), (5, .ref b7), (4, .int z4v), (0, .ref b5), (1, va_rf x1), (2, .ref b2)]) hx hb dX6_layAll_47 hl (k := 5) rfl rfl (by decide) rfl (fun ls hl => ?_)
            refine lv_goto (tgt := 2) hx hb dX6_layAll_50 (by decide) ?_
            exact ih_2 S9 (some b5) x1 (some b2) (x3 + 1) hf _ _ _ (tyo_some hk_b5) hk_x1 (tyo_some hk_b2) hB hS (lv_sub hl [3, 4, 5, 0] rfl)
  unfold cf_X6_layAll at hf
  refine lv_iconst (v := 0) hx hb dX6_layAll_0 (by decide) ?_
  refine lv_istore_n (lv' := [(3, .int 0), (0, va_rf x0), (1, va_rf x1), (2, va_rf x2)]) hx hb dX6_layAll_1 rfl hl (by decide) (by rcases x2 with _ | _ <;> exact rfl) (fun ls hl => ?_)
  exact J_2 F S x0 x1 x2 (0 : Int32) hf _ _ _ hk_x0 hk_x1 hk_x2 hB hS (lv_sub hl [1, 2, 3, 0] rfl)
/-! X6_release -/
def cf_X6_release_7 (F : Nat) : Nat → Cst → Option Nat → Option Nat → Int32 → Option Cst
  | 0 => fun _ _ _ _ => none
  | n + 1 => fun S x2 x3 x4 => if (8 : Int32) ≤ x4 then (some S) else (nc x2 (some S) (fun b2 => nc x3 (some S) (fun b3 => (cf_X0_free F S b2 (some b3)).bind fun S4 => st1 (gP S4 3 b2) fun q5 => nc q5 (some S4) (fun b6 => if (gI S4 81 b3) = (gI S4 85 b3) then ((cf_X0_close F S4 b2 (some b3)).bind fun S8 => (cf_X0_segmentFrom F S8 b6 (gI S8 80 b3) ((gI S8 81 b3).toInt64) (3 : Int32)).bind fun q9 => (cf_X6_release_7 F n) S8 (some b6) q9 (x4 + 1)) else (some S4)))))
def cf_X6_release (F : Nat) (S : Cst) (x0 : Option Nat) (x1 : Option Nat) : Option Cst := cf_X6_release_7 F F S x0 x1 (0 : Int32)
set_option maxHeartbeats 4000000 in
set_option maxRecDepth 100000 in
theorem cm_X6_release (l : Launch) (F : Nat) (D : va_G) (ct : ClassId × ClassId × ClassId) (G : Gam) (S : Cst) (x0 : Option Nat) (x1 : Option Nat) (hk_x0 : tyo G 0 x0) (hk_x1 : tyo G 5 x1) (S' : Cst) (hf : cf_X6_release F S x0 x1 = some S') : cMet l yX6_release cq_X6_release { frames := 2, cells := 0, slots := 0, locals := 48 } D ct G [va_rf x0, va_rf x1] S none (cF D ct G (fun _ => True) S') (0) (0) := by
  refine cMet_of (own := RX6) (cc := cX6_release) (maxL := 6) (ret := none) (by decide) rfl rfl (by rcases x0 with _ | _ <;> rcases x1 with _ | _ <;> exact (Nat.le_of_ble_eq_true rfl)) ?_
  intro p e s m below meth c X hr hlk hnm ls A hl hB hA hS
  have hx := X.1.1
  have hb := X.1.2.1
  have hown := X.1.2.2.2.1
  have hts := X.1.2.2.2.2
  have hl : lv_has ls 6 [(0, va_rf x0), (1, va_rf x1)] := (by rcases x0 with _ | _ <;> rcases x1 with _ | _ <;> exact hl)
  generalize hargs : ([va_rf x0, va_rf x1] : List Value).toArray = args at X hts hS ⊢
  have J_7 : ∀ (n_7 : Nat) (S : Cst) (x2 : Option Nat) (x3 : Option Nat) (x4 : Int32), cf_X6_release_7 F n_7 S x2 x3 x4 = some S' → ∀ (H : Heap) (locs : List Loc) (ls : Array Slot), tyo G 0 x2 → tyo G 5 x3 → cB D ct G A S H → va_S A s.heap H locs → lv_has ls 6 [(2, va_rf x2), (3, va_rf x3), (4, .int x4)] → W p l e { frames := 2, cells := 0, slots := 0, locals := 48 } s m args below meth c H locs (0) (0) (MQ below (mq none (cF D ct G (fun _ => True) S') A) args s (0) (0) A) (F0 m 7 ls []) := by
    intro n_7
    induction n_7 with
    | zero => intro S x2 x3 x4 hf; cases hf
    | succ n_7 ih_7 =>
      intro S x2 x3 x4 hf H locs ls hk_x2 hk_x3 hB hS hl
      rw [cf_X6_release_7] at hf
      refine lv_iload hx hb dX6_release_7 (lv_at hl 2 rfl) ?_
      refine lv_bipush (v := 8) hx hb dX6_release_9 (by decide) ?_
      refine lv_icmp_ge (tgt := 80) hx hb dX6_release_11 (by decide) (fun hc1 => ?_) (fun hc1 => ?_)
      · have hf := if_t hf hc1
        obtain rfl := Option.some.inj hf
        exact W.vret hx hb hr (fun t ht hW => c_endF X hB trivial hS ht hW) hS.2.2 dX6_release_80 hlk
      · have hf := if_f hf hc1
        refine lv_aload_nq hx hb dX6_release_14 rfl (lv_at hl 0 rfl) ?_
        rcases x2 with _ | b2
        · have hf := nc_n hf
          have hl : lv_has ls 6 [(2, .null), (3, va_rf x3), (4, .int x4)] := hl
          refine lv_ifnullN (tgt := 80) hx hb dX6_release_15 (by decide) ?_
          obtain rfl := Option.some.inj hf
          exact W.vret hx hb hr (fun t ht hW => c_endF X hB trivial hS ht hW) hS.2.2 dX6_release_80 hlk
        · have hf := nc_b hf
          have hk_b2 := hk_x2 b2 rfl
          have hl : lv_has ls 6 [(2, .ref b2), (3, va_rf x3), (4, .int x4)] := hl
          refine lv_ifnull hx hb dX6_release_15 ?_
          refine lv_aload_nq hx hb dX6_release_18 rfl (lv_at hl 1 rfl) ?_
          rcases x3 with _ | b3
          · have hf := nc_n hf
            have hl : lv_has ls 6 [(2, .ref b2), (3, .null), (4, .int x4)] := hl
            refine lv_ifnullN (tgt := 80) hx hb dX6_release_19 (by decide) ?_
            obtain rfl := Option.some.inj hf
            exact W.vret hx hb hr (fun t ht hW => c_endF X hB trivial hS ht hW) hS.2.2 dX6_release_80 hlk
          · have hf := nc_b hf
            have hk_b3 := hk_x3 b3 rfl
            have hl : lv_has ls 6 [(2, .ref b2), (3, .ref b3), (4, .int x4)] := hl
            refine lv_ifnull hx hb dX6_release_19 ?_
            refine lv_aload_n hx hb dX6_release_22 rfl (lv_at hl 0 rfl) ?_
            refine lv_aload_n hx hb dX6_release_23 rfl (lv_at hl 1 rfl) ?_
            obtain ⟨S4, hqS4, hf⟩ := bn_s hf
            refine c_doF hB hS hA (va_runV (As := [va_rf (some b3)]) (rest := []) X.1 (cm_X0_free l F D ct _ _ b2 (some b3) hk_b2 (tyo_some hk_b3) _ hqS4) (cwV 1 hts (gd_V km_X6_291 ki_X0_free ks_X0_free kin_RX0 kc_X0_free) rfl rfl rfl (by decide +kernel) ⟨by dsimp only; omega, by dsimp only; omega⟩) (c_preV X hB hk_b2 rfl rfl) rfl rfl hl.1 rfl (lv_room (Nat.le_of_ble_eq_true rfl)) dX6_release_24 ⟨by dsimp only; omega, by dsimp only; omega⟩) rfl (fun H locs hB hT hS => ?_)
            refine lv_aload_n hx hb dX6_release_27 rfl (lv_at hl 0 rfl) ?_
            refine c_get X hB hk_b2 rfl rfl kw_X0 3 57 (by decide) kf_X6_57 rfl rfl dX6_release_28 ?_
            obtain ⟨q5, eq5, hf⟩ := st1_s hf
            rw [← eq5]
            have hk_q5 : tyo G 0 q5 := by rw [eq5]; exact hB.2.2.2.1 (0, 3, 0) (by decide) _ hk_b2
            refine lv_astoreq (lv' := [(5, va_rf q5), (2, .ref b2), (3, .ref b3), (4, .int x4)]) hx hb dX6_release_31 hl (by decide) rfl (fun ls hl => ?_)
            refine lv_aloadq hx hb dX6_release_33 (lv_at hl 0 rfl) ?_
            rcases q5 with _ | b6
            · have hf := nc_n hf
              have hl : lv_has ls 6 [(5, .null), (2, .ref b2), (3, .ref b3), (4, .int x4)] := hl
              refine lv_ifnullN (tgt := 49) hx hb dX6_release_35 (by decide) ?_
              obtain rfl := Option.some.inj hf
              exact W.vret hx hb hr (fun t ht hW => c_endF X hB trivial hS ht hW) hS.2.2 dX6_release_49 hlk
            · have hf := nc_b hf
              have hk_b6 := hk_q5 b6 rfl
              have hl : lv_has ls 6 [(5, .ref b6), (2, .ref b2), (3, .ref b3), (4, .int x4)] := hl
              refine lv_ifnull hx hb dX6_release_35 ?_
              refine lv_aload_n hx hb dX6_release_38 rfl (lv_at hl 2 rfl) ?_
              refine c_get X hB hk_b3 rfl rfl kw_X5 1 199 (by decide) kf_X6_199 rfl rfl dX6_release_39 ?_
              refine lv_aload_n hx hb dX6_release_42 rfl (lv_at hl 2 rfl) ?_
              refine c_get X hB hk_b3 rfl rfl kw_X5 5 214 (by decide) kf_X6_214 rfl rfl dX6_release_43 ?_
              refine lv_icmp_eq (tgt := 50) hx hb dX6_release_46 (by decide) (fun hc7 => ?_) (fun hc7 => ?_)
              · have hf := if_t hf hc7
                refine lv_aload_n hx hb dX6_release_50 rfl (lv_at hl 1 rfl) ?_
                refine lv_aload_n hx hb dX6_release_51 rfl (lv_at hl 2 rfl) ?_
                obtain ⟨S8, hqS8, hf⟩ := bn_s hf
                refine c_doF hB hS hA (va_runV (As := [va_rf (some b3)]) (rest := []) X.1 (cm_X0_close l F D ct _ _ b2 (some b3) hk_b2 (tyo_some hk_b3) _ hqS8) (cwV 1 hts (gd_V km_X6_295 ki_X0_close ks_X0_close kin_RX0 kc_X0_close) rfl rfl rfl (by decide +kernel) ⟨by dsimp only; omega, by dsimp only; omega⟩) (c_preV X hB hk_b2 rfl rfl) rfl rfl hl.1 rfl (lv_room (Nat.le_of_ble_eq_true rfl)) dX6_release_52 ⟨by dsimp only; omega, by dsimp only; omega⟩) rfl (fun H locs hB hT hS => ?_)
                refine lv_aload hx hb dX6_release_55 (lv_at hl 0 rfl) ?_
                refine lv_aload_n hx hb dX6_release_57 rfl (lv_at hl 2 rfl) ?_
                refine c_get X hB hk_b3 rfl rfl kw_X5 0 93 (by decide) kf_X6_93 rfl rfl dX6_release_58 ?_
                refine lv_aload_n hx hb dX6_release_61 rfl (lv_at hl 2 rfl) ?_
                refine c_get X hB hk_b3 rfl rfl kw_X5 1 199 (by decide) kf_X6_199 rfl rfl dX6_release_62 ?_
                refine lv_i2l (v := (gI S8 81 b3).toInt64) hx hb dX6_release_65 rfl ?_
                refine lv_iconst (v := 3) hx hb dX6_release_66 (by decide) ?_
                obtain ⟨q9, hqq9, hf⟩ := bn_s hf
                refine c_doF hB hS hA (va_runV (As := [.int (gI S8 80 b3), .long ((gI S8 81 b3).toInt64), .int 3]) (rest := []) X.1 (cm_X0_segmentFrom l F D ct _ _ b6 (gI S8 80 b3) ((gI S8 81 b3).toInt64) (3 : Int32) hk_b6 _ hqq9) (cwV 3 hts (gd_V km_X6_298 ki_X0_segmentFrom ks_X0_segmentFrom kin_RX0 kc_X0_segmentFrom) rfl rfl rfl (by decide +kernel) ⟨by dsimp only; omega, by dsimp only; omega⟩) (c_preV X hB hk_b6 rfl rfl) rfl rfl hl.1 rfl (lv_room (Nat.le_of_ble_eq_true rfl)) dX6_release_67 ⟨by dsimp only; omega, by dsimp only; omega⟩) rfl (fun H locs hB hT hS => ?_)
                have hk_q9 := hT
                refine lv_astore_nq (lv' := [(3, va_rf q9), (5, .ref b6), (2, .ref b2), (4, .int x4)]) hx hb dX6_release_70 rfl hl (by decide) rfl (fun ls hl => ?_)
                refine lv_aload hx hb dX6_release_71 (lv_at hl 1 rfl) ?_
                refine lv_astore_n (lv' := [(2, .ref b6), (3, va_rf q9), (5, .ref b6), (4, .int x4)]) hx hb dX6_release_73 rfl hl (by decide) rfl (fun ls hl => ?_)
                refine lv_iinc (v := x4 + 1) (lv' := [(4, .int (x4 + 1)), (2, .ref b6), (3, va_rf q9), (5, .ref b6)]) hx hb dX6_release_74 hl (k := 3) rfl rfl (by decide) (by rcases q9 with _ | _ <;> exact rfl) (fun ls hl => ?_)
                refine lv_goto (tgt := 7) hx hb dX6_release_77 (by decide) ?_
                exact ih_7 S8 (some b6) q9 (x4 + 1) hf _ _ _ (tyo_some hk_b6) hk_q9 hB hS (lv_sub hl [1, 2, 0] rfl)
              · have hf := if_f hf hc7
                obtain rfl := Option.some.inj hf
                exact W.vret hx hb hr (fun t ht hW => c_endF X hB trivial hS ht hW) hS.2.2 dX6_release_49 hlk
  unfold cf_X6_release at hf
  refine lv_aload_nq hx hb dX6_release_0 rfl (lv_at hl 0 rfl) ?_
  refine lv_astore_nq (lv' := [(2, va_rf x0), (0, va_rf x0), (1, va_rf x1)]) hx hb dX6_release_1 rfl hl (by decide) (by rcases x1 with _ | _ <;> exact rfl) (fun ls hl => ?_)
  refine lv_aload_nq hx hb dX6_release_2 rfl (lv_at hl 2 rfl) ?_
  refine lv_astore_nq (lv' := [(3, va_rf x1), (2, va_rf x0), (0, va_rf x0), (1, va_rf x1)]) hx hb dX6_release_3 rfl hl (by decide) (by rcases x0 with _ | _ <;> exact rfl) (fun ls hl => ?_)
  refine lv_iconst (v := 0) hx hb dX6_release_4 (by decide) ?_
  refine lv_istore (lv' := [(4, .int 0), (3, va_rf x1), (2, va_rf x0), (0, va_rf x0), (1, va_rf x1)]) hx hb dX6_release_5 hl (by decide) (by rcases x1 with _ | _ <;> exact rfl) (fun ls hl => ?_)
  exact J_7 F S x0 x1 (0 : Int32) hf _ _ _ hk_x0 hk_x1 hB hS (lv_sub hl [2, 1, 0] rfl)
/-! X6_sweep -/
def cf_X6_sweep_98 (F : Nat) (k_14 : Cst → Option Nat → Int32 → Int32 → Option (Int32 × Cst)) : Nat → Cst → Option Nat → Int32 → Int32 → Option Nat → Option Nat → Option (Int32 × Cst)
  | 0 => fun _ _ _ _ _ _ => none
  | n + 1 => fun S x0 x1 x2 x3 x4 => nc x4 (k_14 S x0 x1 (x2 + 1)) (fun b26 => if (600 : Int32) ≤ x1 then (k_14 S x0 x1 (x2 + 1)) else ((cf_X6_release F S x0 (some b26)).bind fun S28 => nn x0 fun b29 => (cf_X0_idleSlab F S28 b29 x3).bind fun q30 => (cf_X6_sweep_98 F k_14 n) S28 (some b29) (x1 + 1) x2 x3 q30))
def cf_X6_sweep_14 (F : Nat) : Nat → Cst → Option Nat → Int32 → Int32 → Option (Int32 × Cst)
  | 0 => fun _ _ _ _ => none
  | n + 1 => fun S x0 x1 x2 => nn x0 fun b3 => if (gI S 4 b3) < x2 then (some (x1, S)) else ((cf_X0_cacheOf F S b3 x2).bind fun q5 => nc q5 (some (x1, S)) (fun b6 => st1 (gP S 33 b6) fun q7 => nn q7 fun b8 => st1 (gP S 48 b8) fun q9 => (cf_X6_layAll F S (some b3) (some b6) q9).bind fun S10 => st1 (gP S10 33 b6) fun q11 => nn q11 fun b12 => st1 (gP S10 49 b12) fun q13 => (cf_X6_layAll F S10 (some b3) (some b6) q13).bind fun S14 => st1 (gP S14 34 b6) fun q15 => nn q15 fun b16 => st1 (gP S14 48 b16) fun q17 => (cf_X6_layAll F S14 (some b3) (some b6) q17).bind fun S18 => st1 (gP S18 34 b6) fun q19 => nn q19 fun b20 => st1 (gP S18 49 b20) fun q21 => (cf_X6_layAll F S18 (some b3) (some b6) q21).bind fun S22 => st1 (gP S22 35 b6) fun q23 => (cf_X6_layAll F S22 (some b3) (some b6) q23).bind fun S24 => (cf_X0_idleSlab F S24 b3 (some b6)).bind fun q25 => cf_X6_sweep_98 F (cf_X6_sweep_14 F n) F S24 (some b3) x1 x2 (some b6) q25))
def cf_X6_sweep (F : Nat) (S : Cst) (x0 : Option Nat) : Option (Int32 × Cst) := nn x0 fun b1 => st1 (sI S 15 b1 ((gI S 15 b1) + 1)) fun S2 => cf_X6_sweep_14 F F S2 (some b1) (0 : Int32) (1 : Int32)
set_option maxHeartbeats 4000000 in
set_option maxRecDepth 100000 in
theorem cm_X6_sweep (l : Launch) (F : Nat) (D : va_G) (ct : ClassId × ClassId × ClassId) (G : Gam) (S : Cst) (x0 : Option Nat) (hk_x0 : tyo G 0 x0) (r : Int32) (S' : Cst) (hf : cf_X6_sweep F S x0 = some (r, S')) : cMet l yX6_sweep cq_X6_sweep { frames := 3, cells := 0, slots := 0, locals := 73 } D ct G [va_rf x0] S (some (.int r)) (cF D ct G (fun _ => True) S') (0) (0) := by
  refine cMet_of (own := RX6) (cc := cX6_sweep) (maxL := 5) (ret := (some .int)) (by decide) rfl rfl (by rcases x0 with _ | _ <;> exact (Nat.le_of_ble_eq_true rfl)) ?_
  intro p e s m below meth c X hr hlk hnm ls A hl hB hA hS
  have hx := X.1.1
  have hb := X.1.2.1
  have hown := X.1.2.2.2.1
  have hts := X.1.2.2.2.2
  have hl : lv_has ls 5 [(0, va_rf x0)] := (by rcases x0 with _ | _ <;> exact hl)
  generalize hargs : ([va_rf x0] : List Value).toArray = args at X hts hS ⊢
  have J_14 : ∀ (n_14 : Nat) (S : Cst) (x0 : Option Nat) (x1 : Int32) (x2 : Int32), cf_X6_sweep_14 F n_14 S x0 x1 x2 = some (r, S') → ∀ (H : Heap) (locs : List Loc) (ls : Array Slot), tyo G 0 x0 → cB D ct G A S H → va_S A s.heap H locs → lv_has ls 5 [(0, va_rf x0), (1, .int x1), (2, .int x2)] → W p l e { frames := 3, cells := 0, slots := 0, locals := 73 } s m args below meth c H locs (0) (0) (MQ below (mq (some (.int r)) (cF D ct G (fun _ => True) S') A) args s (0) (0) A) (F0 m 14 ls []) := by
    intro n_14
    induction n_14 with
    | zero => intro S x0 x1 x2 hf; cases hf
    | succ n_14 ih_14 =>
      intro S x0 x1 x2 hf H locs ls hk_x0 hB hS hl
      rw [cf_X6_sweep_14] at hf
      have J_98 : ∀ (n_98 : Nat) (S : Cst) (x0 : Option Nat) (x1 : Int32) (x2 : Int32) (x3 : Option Nat) (x4 : Option Nat), cf_X6_sweep_98 F (cf_X6_sweep_14 F n_14) n_98 S x0 x1 x2 x3 x4 = some (r, S') → ∀ (H : Heap) (locs : List Loc) (ls : Array Slot), tyo G 0 x0 → tyo G 2 x3 → tyo G 5 x4 → cB D ct G A S H → va_S A s.heap H locs → lv_has ls 5 [(0, va_rf x0), (1, .int x1), (2, .int x2), (3, va_rf x3), (4, va_rf x4)] → W p l e { frames := 3, cells := 0, slots := 0, locals := 73 } s m args below meth c H locs (0) (0) (MQ below (mq (some (.int r)) (cF D ct G (fun _ => True) S') A) args s (0) (0) A) (F0 m 98 ls []) := by
        intro n_98
        induction n_98 with
        | zero => intro S x0 x1 x2 x3 x4 hf; cases hf
        | succ n_98 ih_98 =>
          intro S x0 x1 x2 x3 x4 hf H locs ls hk_x0 hk_x3 hk_x4 hB hS hl
          rw [cf_X6_sweep_98] at hf
          refine lv_aloadq hx hb dX6_sweep_98 (lv_at hl 4 rfl) ?_
          rcases x4 with _ | b26
          · have hf := nc_n hf
            have hl : lv_has ls 5 [(0, va_rf x0), (1, .int x1), (2, .int x2), (3, va_rf x3), (4, .null)] := hl
            refine lv_ifnullN (tgt := 129) hx hb dX6_sweep_100 (by decide) ?_
            refine lv_iinc (v := x2 + 1) (lv' := [(2, .int (x2 + 1)), (0, va_rf x0), (1, .int x1), (3, va_rf x3), (4, .null)]) hx hb dX6_sweep_129 hl (k := 2) rfl rfl (by decide) rfl (fun ls hl => ?_)
            refine lv_goto (tgt := 14) hx hb dX6_sweep_132 (by decide) ?_
            exact ih_14 S x0 x1 (x2 + 1) hf _ _ _ hk_x0 hB hS (lv_sub hl [1, 2, 0] rfl)
          · have hf := nc_b hf
            have hk_b26 := hk_x4 b26 rfl
            have hl : lv_has ls 5 [(0, va_rf x0), (1, .int x1), (2, .int x2), (3, va_rf x3), (4, .ref b26)] := hl
            refine lv_ifnull hx hb dX6_sweep_100 ?_
            refine lv_iload_n hx hb dX6_sweep_103 rfl (lv_at hl 1 rfl) ?_
            refine lv_sipush (v := 600) hx hb dX6_sweep_104 (by decide) ?_
            refine lv_icmp_ge (tgt := 129) hx hb dX6_sweep_107 (by decide) (fun hc27 => ?_) (fun hc27 => ?_)
            · have hf := if_t hf hc27
              refine lv_iinc (v := x2 + 1) (lv' := [(2, .int (x2 + 1)), (0, va_rf x0), (1, .int x1), (3, va_rf x3), (4, .ref b26)]) hx hb dX6_sweep_129 hl (k := 2) rfl rfl (by decide) rfl (fun ls hl => ?_)
              refine lv_goto (tgt := 14) hx hb dX6_sweep_132 (by decide) ?_
              exact ih_14 S x0 x1 (x2 + 1) hf _ _ _ hk_x0 hB hS (lv_sub hl [1, 2, 0] rfl)
            · have hf := if_f hf hc27
              refine lv_aload_nq hx hb dX6_sweep_110 rfl (lv_at hl 0 rfl) ?_
              refine lv_aload hx hb dX6_sweep_111 (lv_at hl 4 rfl) ?_
              obtain ⟨S28, hqS28, hf⟩ := bn_s hf
              refine c_doF hB hS hA (va_runS (As := [va_rf x0, va_rf (some b26)]) (rest := []) X.1 (cm_X6_release l F D ct _ _ x0 (some b26) hk_x0 (tyo_some hk_b26) _ hqS28) (va_cwS 2 hts (gd_S km_X6_302 kst_X6_release kin_RX6 kc_X6_release) rfl rfl rfl (by decide +kernel) ⟨by dsimp only; omega, by dsimp only; omega⟩) (c_preS X hB) rfl rfl hl.1 rfl (lv_room (Nat.le_of_ble_eq_true rfl)) dX6_sweep_113 ⟨by dsimp only; omega, by dsimp only; omega⟩) rfl (fun H locs hB hT hS => ?_)
              refine lv_iinc (v := x1 + 1) (lv' := [(1, .int (x1 + 1)), (0, va_rf x0), (2, .int x2), (3, va_rf x3), (4, .ref b26)]) hx hb dX6_sweep_116 hl (k := 1) rfl rfl (by decide) (by rcases x0 with _ | _ <;> exact rfl) (fun ls hl => ?_)
              refine lv_aload_nq hx hb dX6_sweep_119 rfl (lv_at hl 1 rfl) ?_
              refine lv_aload_nq hx hb dX6_sweep_120 rfl (lv_at hl 3 rfl) ?_
              obtain ⟨b29, eb29, hf2⟩ := nn_s hf
              clear hf
              subst eb29
              have hf := hf2
              clear hf2
              have hk_b29 := hk_x0 b29 rfl
              have hl : lv_has ls 5 [(1, .int (x1 + 1)), (0, .ref b29), (2, .int x2), (3, va_rf x3), (4, .ref b26)] := hl
              obtain ⟨q30, hqq30, hf⟩ := bn_s hf
              refine c_doF hB hS hA (va_runV (As := [va_rf x3]) (rest := []) X.1 (cm_X0_idleSlab l F D ct _ _ b29 x3 hk_b29 hk_x3 _ hqq30) (cwV 1 hts (gd_V km_X6_360 ki_X0_idleSlab ks_X0_idleSlab kin_RX0 kc_X0_idleSlab) rfl rfl rfl (by decide +kernel) ⟨by dsimp only; omega, by dsimp only; omega⟩) (c_preV X hB hk_b29 rfl rfl) rfl rfl hl.1 rfl (lv_room (Nat.le_of_ble_eq_true rfl)) dX6_sweep_121 ⟨by dsimp only; omega, by dsimp only; omega⟩) rfl (fun H locs hB hT hS => ?_)
              have hk_q30 := hT
              refine lv_astoreq (lv' := [(4, va_rf q30), (1, .int (x1 + 1)), (0, .ref b29), (2, .int x2), (3, va_rf x3)]) hx hb dX6_sweep_124 hl (by decide) (by rcases x3 with _ | _ <;> exact rfl) (fun ls hl => ?_)
              refine lv_goto (tgt := 98) hx hb dX6_sweep_126 (by decide) ?_
              exact ih_98 S28 (some b29) (x1 + 1) x2 x3 q30 hf _ _ _ (tyo_some hk_b29) hk_x3 hk_q30 hB hS (lv_sub hl [2, 1, 3, 4, 0] rfl)
      refine lv_iload_n hx hb dX6_sweep_14 rfl (lv_at hl 2 rfl) ?_
      refine lv_aload_nq hx hb dX6_sweep_15 rfl (lv_at hl 0 rfl) ?_
      obtain ⟨b3, eb3, hf2⟩ := nn_s hf
      clear hf
      subst eb3
      have hf := hf2
      clear hf2
      have hk_b3 := hk_x0 b3 rfl
      have hl : lv_has ls 5 [(0, .ref b3), (1, .int x1), (2, .int x2)] := hl
      refine c_get X hB hk_b3 rfl rfl kw_X0 4 160 (by decide) kf_X6_160 rfl rfl dX6_sweep_16 ?_
      refine lv_icmp_gt (tgt := 135) hx hb dX6_sweep_19 (by decide) (fun hc4 => ?_) (fun hc4 => ?_)
      · have hf := if_t hf hc4
        refine lv_iload_n hx hb dX6_sweep_135 rfl (lv_at hl 1 rfl) ?_
        obtain ⟨rfl, rfl⟩ := Prod.mk.inj (Option.some.inj hf)
        exact W.iret hx hb hr (fun t ht hW => c_endF X hB trivial hS ht hW) hS.2.2 dX6_sweep_136 hlk
      · have hf := if_f hf hc4
        refine lv_aload_n hx hb dX6_sweep_22 rfl (lv_at hl 0 rfl) ?_
        refine lv_iload_n hx hb dX6_sweep_23 rfl (lv_at hl 2 rfl) ?_
        obtain ⟨q5, hqq5, hf⟩ := bn_s hf
        refine c_doF hB hS hA (va_runV (As := [.int x2]) (rest := []) X.1 (cm_X0_cacheOf l F D ct _ _ b3 x2 hk_b3 _ hqq5) (cwV 1 hts (gd_V km_X6_219 ki_X0_cacheOf ks_X0_cacheOf kin_RX0 kc_X0_cacheOf) rfl rfl rfl (by decide +kernel) ⟨by dsimp only; omega, by dsimp only; omega⟩) (c_preV X hB hk_b3 rfl rfl) rfl rfl hl.1 rfl (lv_room (Nat.le_of_ble_eq_true rfl)) dX6_sweep_24 ⟨by dsimp only; omega, by dsimp only; omega⟩) rfl (fun H locs hB hT hS => ?_)
        have hk_q5 := hT
        refine lv_astore_nq (lv' := [(3, va_rf q5), (0, .ref b3), (1, .int x1), (2, .int x2)]) hx hb dX6_sweep_27 rfl hl (by decide) rfl (fun ls hl => ?_)
        refine lv_aload_nq hx hb dX6_sweep_28 rfl (lv_at hl 0 rfl) ?_
        rcases q5 with _ | b6
        · have hf := nc_n hf
          have hl : lv_has ls 5 [(3, .null), (0, .ref b3), (1, .int x1), (2, .int x2)] := hl
          refine lv_ifnonnullN hx hb dX6_sweep_29 ?_
          refine lv_iload_n hx hb dX6_sweep_32 rfl (lv_at hl 2 rfl) ?_
          obtain ⟨rfl, rfl⟩ := Prod.mk.inj (Option.some.inj hf)
          exact W.iret hx hb hr (fun t ht hW => c_endF X hB trivial hS ht hW) hS.2.2 dX6_sweep_33 hlk
        · have hf := nc_b hf
          have hk_b6 := hk_q5 b6 rfl
          have hl : lv_has ls 5 [(3, .ref b6), (0, .ref b3), (1, .int x1), (2, .int x2)] := hl
          refine lv_ifnonnull (tgt := 34) hx hb dX6_sweep_29 (by decide) ?_
          refine lv_aload_n hx hb dX6_sweep_34 rfl (lv_at hl 1 rfl) ?_
          refine lv_aload_n hx hb dX6_sweep_35 rfl (lv_at hl 0 rfl) ?_
          refine lv_aload_n hx hb dX6_sweep_36 rfl (lv_at hl 0 rfl) ?_
          refine c_get X hB hk_b6 rfl rfl kw_X2 1 229 (by decide) kf_X6_229 rfl rfl dX6_sweep_37 ?_
          obtain ⟨q7, eq7, hf⟩ := st1_s hf
          rw [← eq7]
          have hk_q7 : tyo G 3 q7 := by rw [eq7]; exact hB.2.2.2.1 (2, 33, 3) (by decide) _ hk_b6
          obtain ⟨b8, eb8, hf2⟩ := nn_s hf
          clear hf
          subst eb8
          have hf := hf2
          clear hf2
          have hk_b8 := hk_q7 b8 rfl
          have hl : lv_has ls 5 [(3, .ref b6), (0, .ref b3), (1, .int x1), (2, .int x2)] := hl
          refine c_get X hB hk_b8 rfl rfl kw_X3 0 235 (by decide) kf_X6_235 rfl rfl dX6_sweep_40 ?_
          obtain ⟨q9, eq9, hf⟩ := st1_s hf
          rw [← eq9]
          have hk_q9 : tyo G 4 q9 := by rw [eq9]; exact hB.2.2.2.1 (3, 48, 4) (by decide) _ hk_b8
          obtain ⟨S10, hqS10, hf⟩ := bn_s hf
          refine c_doF hB hS hA (va_runS (As := [va_rf (some b3), va_rf (some b6), va_rf q9]) (rest := []) X.1 (cm_X6_layAll l F D ct _ _ (some b3) (some b6) q9 (tyo_some hk_b3) (tyo_some hk_b6) hk_q9 _ hqS10) (va_cwS 3 hts (gd_S km_X6_356 kst_X6_layAll kin_RX6 kc_X6_layAll) rfl rfl rfl (by decide +kernel) ⟨by dsimp only; omega, by dsimp only; omega⟩) (c_preS X hB) rfl rfl hl.1 rfl (lv_room (Nat.le_of_ble_eq_true rfl)) dX6_sweep_43 ⟨by dsimp only; omega, by dsimp only; omega⟩) rfl (fun H locs hB hT hS => ?_)
          refine lv_aload_n hx hb dX6_sweep_46 rfl (lv_at hl 1 rfl) ?_
          refine lv_aload_n hx hb dX6_sweep_47 rfl (lv_at hl 0 rfl) ?_
          refine lv_aload_n hx hb dX6_sweep_48 rfl (lv_at hl 0 rfl) ?_
          refine c_get X hB hk_b6 rfl rfl kw_X2 1 229 (by decide) kf_X6_229 rfl rfl dX6_sweep_49 ?_
          obtain ⟨q11, eq11, hf⟩ := st1_s hf
          rw [← eq11]
          have hk_q11 : tyo G 3 q11 := by rw [eq11]; exact hB.2.2.2.1 (2, 33, 3) (by decide) _ hk_b6
          obtain ⟨b12, eb12, hf2⟩ := nn_s hf
          clear hf
          subst eb12
          have hf := hf2
          clear hf2
          have hk_b12 := hk_q11 b12 rfl
          have hl : lv_has ls 5 [(3, .ref b6), (0, .ref b3), (1, .int x1), (2, .int x2)] := hl
          refine c_get X hB hk_b12 rfl rfl kw_X3 1 246 (by decide) kf_X6_246 rfl rfl dX6_sweep_52 ?_
          obtain ⟨q13, eq13, hf⟩ := st1_s hf
          rw [← eq13]
          have hk_q13 : tyo G 4 q13 := by rw [eq13]; exact hB.2.2.2.1 (3, 49, 4) (by decide) _ hk_b12
          obtain ⟨S14, hqS14, hf⟩ := bn_s hf
          refine c_doF hB hS hA (va_runS (As := [va_rf (some b3), va_rf (some b6), va_rf q13]) (rest := []) X.1 (cm_X6_layAll l F D ct _ _ (some b3) (some b6) q13 (tyo_some hk_b3) (tyo_some hk_b6) hk_q13 _ hqS14) (va_cwS 3 hts (gd_S km_X6_356 kst_X6_layAll kin_RX6 kc_X6_layAll) rfl rfl rfl (by decide +kernel) ⟨by dsimp only; omega, by dsimp only; omega⟩) (c_preS X hB) rfl rfl hl.1 rfl (lv_room (Nat.le_of_ble_eq_true rfl)) dX6_sweep_55 ⟨by dsimp only; omega, by dsimp only; omega⟩) rfl (fun H locs hB hT hS => ?_)
          refine lv_aload_n hx hb dX6_sweep_58 rfl (lv_at hl 1 rfl) ?_
          refine lv_aload_n hx hb dX6_sweep_59 rfl (lv_at hl 0 rfl) ?_
          refine lv_aload_n hx hb dX6_sweep_60 rfl (lv_at hl 0 rfl) ?_
          refine c_get X hB hk_b6 rfl rfl kw_X2 2 249 (by decide) kf_X6_249 rfl rfl dX6_sweep_61 ?_
          obtain ⟨q15, eq15, hf⟩ := st1_s hf
          rw [← eq15]
          have hk_q15 : tyo G 3 q15 := by rw [eq15]; exact hB.2.2.2.1 (2, 34, 3) (by decide) _ hk_b6
          obtain ⟨b16, eb16, hf2⟩ := nn_s hf
          clear hf
          subst eb16
          have hf := hf2
          clear hf2
          have hk_b16 := hk_q15 b16 rfl
          have hl : lv_has ls 5 [(3, .ref b6), (0, .ref b3), (1, .int x1), (2, .int x2)] := hl
          refine c_get X hB hk_b16 rfl rfl kw_X3 0 235 (by decide) kf_X6_235 rfl rfl dX6_sweep_64 ?_
          obtain ⟨q17, eq17, hf⟩ := st1_s hf
          rw [← eq17]
          have hk_q17 : tyo G 4 q17 := by rw [eq17]; exact hB.2.2.2.1 (3, 48, 4) (by decide) _ hk_b16
          obtain ⟨S18, hqS18, hf⟩ := bn_s hf
          refine c_doF hB hS hA (va_runS (As := [va_rf (some b3), va_rf (some b6), va_rf q17]) (rest := []) X.1 (cm_X6_layAll l F D ct _ _ (some b3) (some b6) q17 (tyo_some hk_b3) (tyo_some hk_b6) hk_q17 _ hqS18) (va_cwS 3 hts (gd_S km_X6_356 kst_X6_layAll kin_RX6 kc_X6_layAll) rfl rfl rfl (by decide +kernel) ⟨by dsimp only; omega, by dsimp only; omega⟩) (c_preS X hB) rfl rfl hl.1 rfl (lv_room (Nat.le_of_ble_eq_true rfl)) dX6_sweep_67 ⟨by dsimp only; omega, by dsimp only; omega⟩) rfl (fun H locs hB hT hS => ?_)
          refine lv_aload_n hx hb dX6_sweep_70 rfl (lv_at hl 1 rfl) ?_
          refine lv_aload_n hx hb dX6_sweep_71 rfl (lv_at hl 0 rfl) ?_
          refine lv_aload_n hx hb dX6_sweep_72 rfl (lv_at hl 0 rfl) ?_
          refine c_get X hB hk_b6 rfl rfl kw_X2 2 249 (by decide) kf_X6_249 rfl rfl dX6_sweep_73 ?_
          obtain ⟨q19, eq19, hf⟩ := st1_s hf
          rw [← eq19]
          have hk_q19 : tyo G 3 q19 := by rw [eq19]; exact hB.2.2.2.1 (2, 34, 3) (by decide) _ hk_b6
          obtain ⟨b20, eb20, hf2⟩ := nn_s hf
          clear hf
          subst eb20
          have hf := hf2
          clear hf2
          have hk_b20 := hk_q19 b20 rfl
          have hl : lv_has ls 5 [(3, .ref b6), (0, .ref b3), (1, .int x1), (2, .int x2)] := hl
          refine c_get X hB hk_b20 rfl rfl kw_X3 1 246 (by decide) kf_X6_246 rfl rfl dX6_sweep_76 ?_
          obtain ⟨q21, eq21, hf⟩ := st1_s hf
          rw [← eq21]
          have hk_q21 : tyo G 4 q21 := by rw [eq21]; exact hB.2.2.2.1 (3, 49, 4) (by decide) _ hk_b20
          obtain ⟨S22, hqS22, hf⟩ := bn_s hf
          refine c_doF hB hS hA (va_runS (As := [va_rf (some b3), va_rf (some b6), va_rf q21]) (rest := []) X.1 (cm_X6_layAll l F D ct _ _ (some b3) (some b6) q21 (tyo_some hk_b3) (tyo_some hk_b6) hk_q21 _ hqS22) (va_cwS 3 hts (gd_S km_X6_356 kst_X6_layAll kin_RX6 kc_X6_layAll) rfl rfl rfl (by decide +kernel) ⟨by dsimp only; omega, by dsimp only; omega⟩) (c_preS X hB) rfl rfl hl.1 rfl (lv_room (Nat.le_of_ble_eq_true rfl)) dX6_sweep_79 ⟨by dsimp only; omega, by dsimp only; omega⟩) rfl (fun H locs hB hT hS => ?_)
          refine lv_aload_n hx hb dX6_sweep_82 rfl (lv_at hl 1 rfl) ?_
          refine lv_aload_n hx hb dX6_sweep_83 rfl (lv_at hl 0 rfl) ?_
          refine lv_aload_n hx hb dX6_sweep_84 rfl (lv_at hl 0 rfl) ?_
          refine c_get X hB hk_b6 rfl rfl kw_X2 3 252 (by decide) kf_X6_252 rfl rfl dX6_sweep_85 ?_
          obtain ⟨q23, eq23, hf⟩ := st1_s hf
          rw [← eq23]
          have hk_q23 : tyo G 4 q23 := by rw [eq23]; exact hB.2.2.2.1 (2, 35, 4) (by decide) _ hk_b6
          obtain ⟨S24, hqS24, hf⟩ := bn_s hf
          refine c_doF hB hS hA (va_runS (As := [va_rf (some b3), va_rf (some b6), va_rf q23]) (rest := []) X.1 (cm_X6_layAll l F D ct _ _ (some b3) (some b6) q23 (tyo_some hk_b3) (tyo_some hk_b6) hk_q23 _ hqS24) (va_cwS 3 hts (gd_S km_X6_356 kst_X6_layAll kin_RX6 kc_X6_layAll) rfl rfl rfl (by decide +kernel) ⟨by dsimp only; omega, by dsimp only; omega⟩) (c_preS X hB) rfl rfl hl.1 rfl (lv_room (Nat.le_of_ble_eq_true rfl)) dX6_sweep_88 ⟨by dsimp only; omega, by dsimp only; omega⟩) rfl (fun H locs hB hT hS => ?_)
          refine lv_aload_n hx hb dX6_sweep_91 rfl (lv_at hl 1 rfl) ?_
          refine lv_aload_n hx hb dX6_sweep_92 rfl (lv_at hl 0 rfl) ?_
          obtain ⟨q25, hqq25, hf⟩ := bn_s hf
          refine c_doF hB hS hA (va_runV (As := [va_rf (some b6)]) (rest := []) X.1 (cm_X0_idleSlab l F D ct _ _ b3 (some b6) hk_b3 (tyo_some hk_b6) _ hqq25) (cwV 1 hts (gd_V km_X6_360 ki_X0_idleSlab ks_X0_idleSlab kin_RX0 kc_X0_idleSlab) rfl rfl rfl (by decide +kernel) ⟨by dsimp only; omega, by dsimp only; omega⟩) (c_preV X hB hk_b3 rfl rfl) rfl rfl hl.1 rfl (lv_room (Nat.le_of_ble_eq_true rfl)) dX6_sweep_93 ⟨by dsimp only; omega, by dsimp only; omega⟩) rfl (fun H locs hB hT hS => ?_)
          have hk_q25 := hT
          refine lv_astoreq (lv' := [(4, va_rf q25), (3, .ref b6), (0, .ref b3), (1, .int x1), (2, .int x2)]) hx hb dX6_sweep_96 hl (by decide) rfl (fun ls hl => ?_)
          exact J_98 F S24 (some b3) x1 x2 (some b6) q25 hf _ _ _ (tyo_some hk_b3) (tyo_some hk_b6) hk_q25 hB hS (lv_sub hl [2, 3, 4, 1, 0] rfl)
  unfold cf_X6_sweep at hf
  refine lv_aload_nq hx hb dX6_sweep_0 rfl (lv_at hl 0 rfl) ?_
  refine lv_dup hx hb dX6_sweep_1 (cat_rf _) ?_
  obtain ⟨b1, eb1, hf2⟩ := nn_s hf
  clear hf
  subst eb1
  have hf := hf2
  clear hf2
  have hk_b1 := hk_x0 b1 rfl
  have hl : lv_has ls 5 [(0, .ref b1)] := hl
  refine c_get X hB hk_b1 rfl rfl kw_X0 15 185 (by decide) kf_X6_185 rfl rfl dX6_sweep_2 ?_
  refine lv_iconst (v := 1) hx hb dX6_sweep_5 (by decide) ?_
  refine lv_iadd hx hb dX6_sweep_6 ?_
  obtain ⟨S2, eS2, hf⟩ := st1_s hf
  refine c_put X hB hS hk_b1 rfl rfl kw_X0 tyX0 tyX0_ok nmX0 15 185 (by decide) kf_X6_185 rfl (Or.inl rfl) (fty := .int) rfl rfl rfl (Nat.le_of_ble_eq_true rfl) (cp_0_15 _) (fun κ b h => ccell_sI κ b h) rfl hB.2.2.2 dX6_sweep_7 (fun H locs hB hS => ?_)
  rw [← eS2] at hB
  refine lv_iconst (v := 0) hx hb dX6_sweep_10 (by decide) ?_
  refine lv_istore_n (lv' := [(1, .int 0), (0, .ref b1)]) hx hb dX6_sweep_11 rfl hl (by decide) rfl (fun ls hl => ?_)
  refine lv_iconst (v := 1) hx hb dX6_sweep_12 (by decide) ?_
  refine lv_istore_n (lv' := [(2, .int 1), (1, .int 0), (0, .ref b1)]) hx hb dX6_sweep_13 rfl hl (by decide) rfl (fun ls hl => ?_)
  exact J_14 F S2 (some b1) (0 : Int32) (1 : Int32) hf _ _ _ (tyo_some hk_b1) hB hS (lv_sub hl [2, 1, 0] rfl)
/-! X6_obtain -/
def cf_X6_obtain_67 (F : Nat) (kO : Cst → Option Nat → Int64 → Int32 → Int32 → Int32 → Option (Option Nat × Cst)) (S : Cst) (x0 : Option Nat) (x1 : Int64) (x3 : Int32) (x4 : Int32) (x6 : Option Nat) : Option (Option Nat × Cst) := nc x6 (nn x0 fun b3 => st1 (sI S 14 b3 ((gI S 14 b3) + 1)) fun S4 => some (none, S4)) (fun b2 => nn x0 fun b5 => (cf_X0_occupy F S b5 (some b2) x1.toInt32 x4).bind fun S6 => if x3 = (2 : Int32) then (st1 (sI S6 11 b5 ((gI S6 80 b2) + (gI S6 81 b2))) fun S8 => some ((some b2), S8)) else (some ((some b2), S6)))
def cf_X6_obtain_46 (F : Nat) (kO : Cst → Option Nat → Int64 → Int32 → Int32 → Int32 → Option (Option Nat × Cst)) (S : Cst) (x0 : Option Nat) (x1 : Int64) (x3 : Int32) (x4 : Int32) (x6 : Option Nat) (x7 : Int32) : Option (Option Nat × Cst) := nc x6 ((cf_X6_sweep F S x0).bind fun z15 => st2 z15 fun z15v z15S => if z15v ≤ 0 then (cf_X6_obtain_67 F kO z15S x0 x1 x3 x4 none) else (nn x0 fun b17 => (cf_X0_find F z15S b17 x7 x3).bind fun q18 => cf_X6_obtain_67 F kO z15S (some b17) x1 x3 x4 q18)) (fun b14 => cf_X6_obtain_67 F kO S x0 x1 x3 x4 (some b14))
def cf_X6_obtainB (F : Nat) (kO : Cst → Option Nat → Int64 → Int32 → Int32 → Int32 → Option (Option Nat × Cst)) (S : Cst) (x0 : Option Nat) (x1 : Int64) (x3 : Int32) (x4 : Int32) (x5 : Int32) : Option (Option Nat × Cst) := if 0 < (lg_cmp x1 1073741824) then (cf_X6_obtain_67 F kO S x0 x1 x3 x4 none) else (if (8 : Int32) ≤ x5 then (cf_X6_obtain_67 F kO S x0 x1 x3 x4 none) else (nn x0 fun b10 => (cf_X0_find F S b10 x1.toInt32 x3).bind fun q11 => nc q11 ((cf_X6_importSpan F kO S (some b10) x1.toInt32 x5).bind fun z13 => st2 z13 fun z13v z13S => cf_X6_obtain_46 F kO z13S (some b10) x1 x3 x4 z13v x1.toInt32) (fun b12 => cf_X6_obtain_46 F kO S (some b10) x1 x3 x4 (some b12) x1.toInt32)))
set_option maxHeartbeats 4000000 in
set_option maxRecDepth 100000 in
theorem cm_X6_obtainB (l : Launch) (F : Nat) (kO : Cst → Option Nat → Int64 → Int32 → Int32 → Int32 → Option (Option Nat × Cst)) (fr lo mc ms : Nat) (D : va_G) (ct : ClassId × ClassId × ClassId) (hkO : ∀ (G : Gam) (S : Cst) (x0 : Option Nat) (x1 : Int64) (x3 x4 x5 : Int32) (hk_x0 : tyo G 0 x0) (r : Option Nat) (S' : Cst), kO S x0 x1 x3 x4 x5 = some (r, S') → cMet l yX6_obtain cq_X6_obtain { frames := fr, cells := mc, slots := ms, locals := lo } D ct G [va_rf x0, .long x1, .int x3, .int x4, .int x5] S (some (va_rf r)) (cE D ct G (nx S) (fun G => tyo G 5 r) S') mc ms) (hfr : 30 ≤ fr) (hlo : 1200 ≤ lo) (G : Gam) (S : Cst) (x0 : Option Nat) (x1 : Int64) (x3 : Int32) (x4 : Int32) (x5 : Int32) (hk_x0 : tyo G 0 x0) (r : Option Nat) (S' : Cst) (hf : cf_X6_obtainB F kO S x0 x1 x3 x4 x5 = some (r, S')) : cMet l yX6_obtain cq_X6_obtain { frames := fr + 2, cells := mc + 2, slots := ms + 24, locals := lo + 120 } D ct G [va_rf x0, .long x1, .int x3, .int x4, .int x5] S (some (va_rf r)) (cE D ct G (nx S) (fun G => tyo G 5 r) S') (mc + 2) (ms + 24) := by
  refine cMet_of (own := RX6) (cc := cX6_obtain) (maxL := 8) (ret := (some (.object "RangeArenas$Segment"))) (by decide) rfl rfl (by rcases x0 with _ | _ <;> exact (Nat.le_of_ble_eq_true rfl)) ?_
  intro p e s m below meth c X hr hlk hnm ls A hl hB hA hS
  have hx := X.1.1
  have hb := X.1.2.1
  have hown := X.1.2.2.2.1
  have hts := X.1.2.2.2.2
  have hl : lv_has ls 8 [(0, va_rf x0), (1, .long x1), (3, .int x3), (4, .int x4), (5, .int x5)] := (by rcases x0 with _ | _ <;> exact hl)
  generalize hargs : ([va_rf x0, .long x1, .int x3, .int x4, .int x5] : List Value).toArray = args at X hts hS ⊢
  have hsz := hB.2.2.1
  obtain ⟨G0, eG0⟩ : ∃ z, z = G := ⟨_, rfl⟩
  obtain ⟨S0, eS0⟩ : ∃ z, z = S := ⟨_, rfl⟩
  have hext : ext G0 (nx S0) G := by rw [eG0]; exact ext_rf
  rw [← eS0] at hsz
  suffices hgoal : W p l e { frames := fr + 2, cells := mc + 2, slots := ms + 24, locals := lo + 120 } s m args below meth c s.heap [] 0 0 (MQ below (mq (some (va_rf r)) (cE D ct G0 (nx S0) (fun G => tyo G 5 r) S') A) args s (mc + 2) (ms + 24) A) (F0 m 0 ls []) by rw [eG0, eS0] at hgoal; exact hgoal
  have J_67 : ∀ (G : Gam) (S : Cst) (x0 : Option Nat) (x1 : Int64) (x3 : Int32) (x4 : Int32) (x6 : Option Nat), cf_X6_obtain_67 F kO S x0 x1 x3 x4 x6 = some (r, S') → ∀ (H : Heap) (locs : List Loc) (ls : Array Slot), ext G0 (nx S0) G → tyo G 0 x0 → tyo G 5 x6 → cB D ct G A S H → va_S A s.heap H locs → lv_has ls 8 [(0, va_rf x0), (1, .long x1), (3, .int x3), (4, .int x4), (6, va_rf x6)] → W p l e { frames := fr + 2, cells := mc + 2, slots := ms + 24, locals := lo + 120 } s m args below meth c H locs (mc + 1) (ms + 12) (MQ below (mq (some (va_rf r)) (cE D ct G0 (nx S0) (fun G => tyo G 5 r) S') A) args s (mc + 2) (ms + 24) A) (F0 m 67 ls []) := by
    intro G S x0 x1 x3 x4 x6 hf H locs ls hext hk_x0 hk_x6 hB hS hl
    unfold cf_X6_obtain_67 at hf
    refine lv_aloadq hx hb dX6_obtain_67 (lv_at hl 4 rfl) ?_
    rcases x6 with _ | b2
    · have hf := nc_n hf
      have hl : lv_has ls 8 [(0, va_rf x0), (1, .long x1), (3, .int x3), (4, .int x4), (6, .null)] := hl
      refine lv_ifnonnullN hx hb dX6_obtain_69 ?_
      refine lv_aload_nq hx hb dX6_obtain_72 rfl (lv_at hl 0 rfl) ?_
      refine lv_dup hx hb dX6_obtain_73 (cat_rf _) ?_
      obtain ⟨b3, eb3, hf2⟩ := nn_s hf
      clear hf
      subst eb3
      have hf := hf2
      clear hf2
      have hk_b3 := hk_x0 b3 rfl
      have hl : lv_has ls 8 [(0, .ref b3), (1, .long x1), (3, .int x3), (4, .int x4), (6, .null)] := hl
      refine c_get X hB hk_b3 rfl rfl kw_X0 14 182 (by decide) kf_X6_182 rfl rfl dX6_obtain_74 ?_
      refine lv_iconst (v := 1) hx hb dX6_obtain_77 (by decide) ?_
      refine lv_iadd hx hb dX6_obtain_78 ?_
      obtain ⟨S4, eS4, hf⟩ := st1_s hf
      refine c_put X hB hS hk_b3 rfl rfl kw_X0 tyX0 tyX0_ok nmX0 14 182 (by decide) kf_X6_182 rfl (Or.inl rfl) (fty := .int) rfl rfl rfl (Nat.le_of_ble_eq_true rfl) (cp_0_14 _) (fun κ b h => ccell_sI κ b h) rfl hB.2.2.2 dX6_obtain_79 (fun H locs hB hS => ?_)
      rw [← eS4] at hB
      refine lv_null hx hb dX6_obtain_82 ?_
      obtain ⟨rfl, rfl⟩ := Prod.mk.inj (Option.some.inj hf)
      refine W.widen (k := mc + 2) (n := ms + 24) (by omega) (by omega) ?_
      exact W.aret hx hb hr (Or.inl ⟨_, rfl⟩) (Or.inl rfl) (fun t ht hW => c_endE X hext hB tyo_none hS ht hW) hS.2.2 dX6_obtain_83 hlk
    · have hf := nc_b hf
      have hk_b2 := hk_x6 b2 rfl
      have hl : lv_has ls 8 [(0, va_rf x0), (1, .long x1), (3, .int x3), (4, .int x4), (6, .ref b2)] := hl
      refine lv_ifnonnull (tgt := 84) hx hb dX6_obtain_69 (by decide) ?_
      refine lv_aload_nq hx hb dX6_obtain_84 rfl (lv_at hl 0 rfl) ?_
      refine lv_aload hx hb dX6_obtain_85 (lv_at hl 4 rfl) ?_
      refine lv_lload_n hx hb dX6_obtain_87 rfl (lv_at hl 1 rfl) ?_
      refine lv_l2i (v := x1.toInt32) hx hb dX6_obtain_88 rfl ?_
      refine lv_iload hx hb dX6_obtain_89 (lv_at hl 3 rfl) ?_
      obtain ⟨b5, eb5, hf2⟩ := nn_s hf
      clear hf
      subst eb5
      have hf := hf2
      clear hf2
      have hk_b5 := hk_x0 b5 rfl
      have hl : lv_has ls 8 [(0, .ref b5), (1, .long x1), (3, .int x3), (4, .int x4), (6, .ref b2)] := hl
      obtain ⟨S6, hqS6, hf⟩ := bn_s hf
      have hle : nx S0 ≤ nx S := by rw [← hsz, ← hB.2.2.1]; exact hS.1
      refine c_doE hB hS hA (va_runV (As := [va_rf (some b2), .int x1.toInt32, .int x4]) (rest := []) X.1 (cm_X0_occupy l F D ct _ _ b5 (some b2) x1.toInt32 x4 hk_b5 (tyo_some hk_b2) _ hqS6) (cwV 3 hts (gd_V km_X6_287 ki_X0_occupy ks_X0_occupy kin_RX0 kc_X0_occupy) rfl rfl rfl (by decide +kernel) ⟨by dsimp only; omega, by dsimp only; omega⟩) (c_preV X hB hk_b5 rfl rfl) rfl rfl hl.1 rfl (lv_room (Nat.le_of_ble_eq_true rfl)) dX6_obtain_91 ⟨by dsimp only; omega, by dsimp only; omega⟩) rfl (fun G H locs hx1 hB2 hT hS => ?_)
      have hext := hext.trans hx1 hle
      have hk_b5 := hx1.1 _ _ hk_b5
      have hk_b2 := hx1.1 _ _ hk_b2
      have hB := hB2
      clear hB2
      refine W.widen (k := mc + 2) (n := ms + 24) (by omega) (by omega) ?_
      refine lv_iload_n hx hb dX6_obtain_94 rfl (lv_at hl 2 rfl) ?_
      refine lv_iconst (v := 2) hx hb dX6_obtain_95 (by decide) ?_
      refine lv_icmp_ne (tgt := 114) hx hb dX6_obtain_96 (by decide) (fun hc7 => ?_) (fun hc7 => ?_)
      · have hf := if_f hf hc7
        refine lv_aload hx hb dX6_obtain_114 (lv_at hl 4 rfl) ?_
        have hT := (tyo_some hk_b2)
        obtain ⟨rfl, rfl⟩ := Prod.mk.inj (Option.some.inj hf)
        refine W.widen (k := mc + 2) (n := ms + 24) (by omega) (by omega) ?_
        exact W.aret hx hb hr (Or.inl ⟨_, rfl⟩) (Or.inr ⟨_, rfl⟩) (fun t ht hW => c_endE X hext hB hT hS ht hW) hS.2.2 dX6_obtain_116 hlk
      · have hf := if_t hf hc7
        refine lv_aload_n hx hb dX6_obtain_99 rfl (lv_at hl 0 rfl) ?_
        refine lv_aload hx hb dX6_obtain_100 (lv_at hl 4 rfl) ?_
        refine c_get X hB hk_b2 rfl rfl kw_X5 0 93 (by decide) kf_X6_93 rfl rfl dX6_obtain_102 ?_
        refine lv_aload hx hb dX6_obtain_105 (lv_at hl 4 rfl) ?_
        refine c_get X hB hk_b2 rfl rfl kw_X5 1 199 (by decide) kf_X6_199 rfl rfl dX6_obtain_107 ?_
        refine lv_iadd hx hb dX6_obtain_110 ?_
        obtain ⟨S8, eS8, hf⟩ := st1_s hf
        refine c_put X hB hS hk_b5 rfl rfl kw_X0 tyX0 tyX0_ok nmX0 11 179 (by decide) kf_X6_179 rfl (Or.inl rfl) (fty := .int) rfl rfl rfl (Nat.le_of_ble_eq_true rfl) (cp_0_11 _) (fun κ b h => ccell_sI κ b h) rfl hB.2.2.2 dX6_obtain_111 (fun H locs hB hS => ?_)
        rw [← eS8] at hB
        refine lv_aload hx hb dX6_obtain_114 (lv_at hl 4 rfl) ?_
        have hT := (tyo_some hk_b2)
        obtain ⟨rfl, rfl⟩ := Prod.mk.inj (Option.some.inj hf)
        refine W.widen (k := mc + 2) (n := ms + 24) (by omega) (by omega) ?_
        exact W.aret hx hb hr (Or.inl ⟨_, rfl⟩) (Or.inr ⟨_, rfl⟩) (fun t ht hW => c_endE X hext hB hT hS ht hW) hS.2.2 dX6_obtain_116 hlk
  have J_46 : ∀ (G : Gam) (S : Cst) (x0 : Option Nat) (x1 : Int64) (x3 : Int32) (x4 : Int32) (x6 : Option Nat) (x7 : Int32), cf_X6_obtain_46 F kO S x0 x1 x3 x4 x6 x7 = some (r, S') → ∀ (H : Heap) (locs : List Loc) (ls : Array Slot), ext G0 (nx S0) G → tyo G 0 x0 → tyo G 5 x6 → cB D ct G A S H → va_S A s.heap H locs → lv_has ls 8 [(0, va_rf x0), (1, .long x1), (3, .int x3), (4, .int x4), (6, va_rf x6), (7, .int x7)] → W p l e { frames := fr + 2, cells := mc + 2, slots := ms + 24, locals := lo + 120 } s m args below meth c H locs (mc + 1) (ms + 12) (MQ below (mq (some (va_rf r)) (cE D ct G0 (nx S0) (fun G => tyo G 5 r) S') A) args s (mc + 2) (ms + 24) A) (F0 m 46 ls []) := by
    intro G S x0 x1 x3 x4 x6 x7 hf H locs ls hext hk_x0 hk_x6 hB hS hl
    unfold cf_X6_obtain_46 at hf
    refine lv_aloadq hx hb dX6_obtain_46 (lv_at hl 4 rfl) ?_
    rcases x6 with _ | b14
    · have hf := nc_n hf
      have hl : lv_has ls 8 [(0, va_rf x0), (1, .long x1), (3, .int x3), (4, .int x4), (6, .null), (7, .int x7)] := hl
      refine lv_ifnonnullN hx hb dX6_obtain_48 ?_
      refine lv_aload_nq hx hb dX6_obtain_51 rfl (lv_at hl 0 rfl) ?_
      obtain ⟨⟨z15v, z15S⟩, hqz15, hf⟩ := bn_s hf
      have hf := st2_s hf
      refine c_doF hB hS hA (va_runS (As := [va_rf x0]) (rest := []) X.1 (cm_X6_sweep l F D ct _ _ x0 hk_x0 _ _ hqz15) (va_cwS 1 hts (gd_S km_X6_126 kst_X6_sweep kin_RX6 kc_X6_sweep) rfl rfl rfl (by decide +kernel) ⟨by dsimp only; omega, by dsimp only; omega⟩) (c_preS X hB) rfl rfl hl.1 rfl (lv_room (Nat.le_of_ble_eq_true rfl)) dX6_obtain_52 ⟨by dsimp only; omega, by dsimp only; omega⟩) rfl (fun H locs hB hT hS => ?_)
      refine lv_if_le (tgt := 67) hx hb dX6_obtain_55 (by decide) (fun hc16 => ?_) (fun hc16 => ?_)
      · have hf := if_t hf hc16
        exact J_67 _ z15S x0 x1 x3 x4 none hf _ _ _ hext hk_x0 tyo_none hB hS (lv_sub hl [0, 1, 2, 3, 4] rfl)
      · have hf := if_f hf hc16
        refine lv_aload_nq hx hb dX6_obtain_58 rfl (lv_at hl 0 rfl) ?_
        refine lv_iload hx hb dX6_obtain_59 (lv_at hl 5 rfl) ?_
        refine lv_iload_n hx hb dX6_obtain_61 rfl (lv_at hl 2 rfl) ?_
        obtain ⟨b17, eb17, hf2⟩ := nn_s hf
        clear hf
        subst eb17
        have hf := hf2
        clear hf2
        have hk_b17 := hk_x0 b17 rfl
        have hl : lv_has ls 8 [(0, .ref b17), (1, .long x1), (3, .int x3), (4, .int x4), (6, .null), (7, .int x7)] := hl
        obtain ⟨q18, hqq18, hf⟩ := bn_s hf
        refine c_doF hB hS hA (va_runV (As := [.int x7, .int x3]) (rest := []) X.1 (cm_X0_find l F D ct _ _ b17 x7 x3 hk_b17 _ hqq18) (cwV 2 hts (gd_V km_X6_280 ki_X0_find ks_X0_find kin_RX0 kc_X0_find) rfl rfl rfl (by decide +kernel) ⟨by dsimp only; omega, by dsimp only; omega⟩) (c_preV X hB hk_b17 rfl rfl) rfl rfl hl.1 rfl (lv_room (Nat.le_of_ble_eq_true rfl)) dX6_obtain_62 ⟨by dsimp only; omega, by dsimp only; omega⟩) rfl (fun H locs hB hT hS => ?_)
        have hk_q18 := hT
        refine lv_astoreq (lv' := [(6, va_rf q18), (0, .ref b17), (1, .long x1), (3, .int x3), (4, .int x4), (7, .int x7)]) hx hb dX6_obtain_65 hl (by decide) rfl (fun ls hl => ?_)
        exact J_67 _ z15S (some b17) x1 x3 x4 q18 hf _ _ _ hext (tyo_some hk_b17) hk_q18 hB hS (lv_sub hl [1, 2, 3, 4, 0] rfl)
    · have hf := nc_b hf
      have hk_b14 := hk_x6 b14 rfl
      have hl : lv_has ls 8 [(0, va_rf x0), (1, .long x1), (3, .int x3), (4, .int x4), (6, .ref b14), (7, .int x7)] := hl
      refine lv_ifnonnull (tgt := 67) hx hb dX6_obtain_48 (by decide) ?_
      exact J_67 _ S x0 x1 x3 x4 (some b14) hf _ _ _ hext hk_x0 (tyo_some hk_b14) hB hS (lv_sub hl [0, 1, 2, 3, 4] rfl)
  unfold cf_X6_obtainB at hf
  refine lv_null hx hb dX6_obtain_0 ?_
  refine lv_astoreN (lv' := [(6, .null), (0, va_rf x0), (1, .long x1), (3, .int x3), (4, .int x4), (5, .int x5)]) hx hb dX6_obtain_1 hl (by decide) rfl (fun ls hl => ?_)
  refine lv_lload_n hx hb dX6_obtain_3 rfl (lv_at hl 2 rfl) ?_
  refine lv_ldc2 (v := 1073741824) hx hb hown (hts (.constantLong RX6 55 1073741824) (kw_m kkl_X6_55)) dX6_obtain_4 ?_
  refine W.lcmp hx hb dX6_obtain_7 ?_
  refine lv_if_gt (tgt := 67) hx hb dX6_obtain_8 (by decide) (fun hc1 => ?_) (fun hc1 => ?_)
  · have hf := if_t hf hc1
    refine W.widen (k := mc + 1) (n := ms + 12) (by omega) (by omega) ?_
    exact J_67 _ S x0 x1 x3 x4 none hf _ _ _ hext hk_x0 tyo_none hB hS (lv_sub hl [1, 2, 3, 4, 0] rfl)
  · have hf := if_f hf hc1
    refine lv_iload hx hb dX6_obtain_11 (lv_at hl 5 rfl) ?_
    refine lv_bipush (v := 8) hx hb dX6_obtain_13 (by decide) ?_
    refine lv_icmp_ge (tgt := 67) hx hb dX6_obtain_15 (by decide) (fun hc9 => ?_) (fun hc9 => ?_)
    · have hf := if_t hf hc9
      refine W.widen (k := mc + 1) (n := ms + 12) (by omega) (by omega) ?_
      exact J_67 _ S x0 x1 x3 x4 none hf _ _ _ hext hk_x0 tyo_none hB hS (lv_sub hl [1, 2, 3, 4, 0] rfl)
    · have hf := if_f hf hc9
      refine lv_lload_n hx hb dX6_obtain_18 rfl (lv_at hl 2 rfl) ?_
      refine lv_l2i (v := x1.toInt32) hx hb dX6_obtain_19 rfl ?_
      refine lv_istore (lv' := [(7, .int x1.toInt32), (6, .null), (0, va_rf x0), (1, .long x1), (3, .int x3), (4, .int x4), (5, .int x5)]) hx hb dX6_obtain_20 hl (by decide) rfl (fun ls hl => ?_)
      refine lv_aload_nq hx hb dX6_obtain_22 rfl (lv_at hl 2 rfl) ?_
      refine lv_iload hx hb dX6_obtain_23 (lv_at hl 0 rfl) ?_
      refine lv_iload_n hx hb dX6_obtain_25 rfl (lv_at hl 4 rfl) ?_
      obtain ⟨b10, eb10, hf2⟩ := nn_s hf
      clear hf
      subst eb10
      have hf := hf2
      clear hf2
      have hk_b10 := hk_x0 b10 rfl
      have hl : lv_has ls 8 [(7, .int x1.toInt32), (6, .null), (0, .ref b10), (1, .long x1), (3, .int x3), (4, .int x4), (5, .int x5)] := hl
      obtain ⟨q11, hqq11, hf⟩ := bn_s hf
      refine c_doF hB hS hA (va_runV (As := [.int x1.toInt32, .int x3]) (rest := []) X.1 (cm_X0_find l F D ct _ _ b10 x1.toInt32 x3 hk_b10 _ hqq11) (cwV 2 hts (gd_V km_X6_280 ki_X0_find ks_X0_find kin_RX0 kc_X0_find) rfl rfl rfl (by decide +kernel) ⟨by dsimp only; omega, by dsimp only; omega⟩) (c_preV X hB hk_b10 rfl rfl) rfl rfl hl.1 rfl (lv_room (Nat.le_of_ble_eq_true rfl)) dX6_obtain_26 ⟨by dsimp only; omega, by dsimp only; omega⟩) rfl (fun H locs hB hT hS => ?_)
      have hk_q11 := hT
      refine lv_astoreq (lv' := [(6, va_rf q11), (7, .int x1.toInt32), (0, .ref b10), (1, .long x1), (3, .int x3), (4, .int x4), (5, .int x5)]) hx hb dX6_obtain_29 hl (by decide) rfl (fun ls hl => ?_)
      refine lv_aloadq hx hb dX6_obtain_31 (lv_at hl 0 rfl) ?_
      rcases q11 with _ | b12
      · have hf := nc_n hf
        have hl : lv_has ls 8 [(6, .null), (7, .int x1.toInt32), (0, .ref b10), (1, .long x1), (3, .int x3), (4, .int x4), (5, .int x5)] := hl
        refine lv_ifnonnullN hx hb dX6_obtain_33 ?_
        refine lv_aload_n hx hb dX6_obtain_36 rfl (lv_at hl 2 rfl) ?_
        refine lv_iload hx hb dX6_obtain_37 (lv_at hl 1 rfl) ?_
        refine lv_iload hx hb dX6_obtain_39 (lv_at hl 6 rfl) ?_
        obtain ⟨⟨z13v, z13S⟩, hqz13, hf⟩ := bn_s hf
        have hf := st2_s hf
        have hle : nx S0 ≤ nx S := by rw [← hsz, ← hB.2.2.1]; exact hS.1
        refine c_doE hB hS hA (va_runS (As := [va_rf (some b10), .int x1.toInt32, .int x5]) (rest := []) X.1 (cm_X6_importSpan l F kO fr lo mc ms D ct hkO hfr hlo _ _ (some b10) x1.toInt32 x5 (tyo_some hk_b10) _ _ hqz13) (va_cwS 3 hts (gd_S km_X6_283 kst_X6_importSpan kin_RX6 kc_X6_importSpan) rfl rfl rfl (by decide +kernel) ⟨by dsimp only; omega, by dsimp only; omega⟩) (c_preS X hB) rfl rfl hl.1 rfl (lv_room (Nat.le_of_ble_eq_true rfl)) dX6_obtain_41 ⟨by dsimp only; omega, by dsimp only; omega⟩) rfl (fun G H locs hx1 hB2 hT hS => ?_)
        have hext := hext.trans hx1 hle
        have hk_b10 := hx1.1 _ _ hk_b10
        have hB := hB2
        clear hB2
        have hk_z13v := hT
        refine W.widen (k := mc + 1) (n := ms + 12) (by omega) (by omega) ?_
        refine lv_astoreq (lv' := [(6, va_rf z13v), (7, .int x1.toInt32), (0, .ref b10), (1, .long x1), (3, .int x3), (4, .int x4), (5, .int x5)]) hx hb dX6_obtain_44 hl (by decide) rfl (fun ls hl => ?_)
        exact J_46 _ z13S (some b10) x1 x3 x4 z13v x1.toInt32 hf _ _ _ hext (tyo_some hk_b10) hk_z13v hB hS (lv_sub hl [2, 3, 4, 5, 0, 1] rfl)
      · have hf := nc_b hf
        have hk_b12 := hk_q11 b12 rfl
        have hl : lv_has ls 8 [(6, .ref b12), (7, .int x1.toInt32), (0, .ref b10), (1, .long x1), (3, .int x3), (4, .int x4), (5, .int x5)] := hl
        refine lv_ifnonnull (tgt := 46) hx hb dX6_obtain_33 (by decide) ?_
        refine W.widen (k := mc + 1) (n := ms + 12) (by omega) (by omega) ?_
        exact J_46 _ S (some b10) x1 x3 x4 (some b12) x1.toInt32 hf _ _ _ hext (tyo_some hk_b10) (tyo_some hk_b12) hB hS (lv_sub hl [2, 3, 4, 5, 0, 1] rfl)
def cf_X6_obtain (F : Nat) : Nat → Cst → Option Nat → Int64 → Int32 → Int32 → Int32 → Option (Option Nat × Cst)
  | 0 => fun _ _ _ _ _ _ => none
  | d + 1 => cf_X6_obtainB F (cf_X6_obtain F d)
theorem cm_X6_obtain (l : Launch) (F d : Nat) (D : va_G) (ct : ClassId × ClassId × ClassId) : ∀ (G : Gam) (S : Cst) (x0 : Option Nat) (x1 : Int64) (x3 x4 x5 : Int32) (hk_x0 : tyo G 0 x0) (r : Option Nat) (S' : Cst), cf_X6_obtain F d S x0 x1 x3 x4 x5 = some (r, S') → cMet l yX6_obtain cq_X6_obtain { frames := 30 + 2 * d, cells := 2 * d, slots := 24 * d, locals := 1200 + 120 * d } D ct G [va_rf x0, .long x1, .int x3, .int x4, .int x5] S (some (va_rf r)) (cE D ct G (nx S) (fun G => tyo G 5 r) S') (2 * d) (24 * d) := by
  induction d with
  | zero => intro G S x0 x1 x3 x4 x5 hk r S' hf; cases hf
  | succ d ih =>
    intro G S x0 x1 x3 x4 x5 hk r S' hf
    rw [show 30 + 2 * (d + 1) = 30 + 2 * d + 2 from by omega, show 1200 + 120 * (d + 1) = 1200 + 120 * d + 120 from by omega, show 2 * (d + 1) = 2 * d + 2 from by omega, show 24 * (d + 1) = 24 * d + 24 from by omega]
    exact cm_X6_obtainB l F (cf_X6_obtain F d) _ _ _ _ D ct ih (by omega) (by omega) G S x0 x1 x3 x4 x5 hk r S' hf
/-! X6_giveSegment -/
def cf_X6_giveSegment (F : Nat) (S : Cst) (x0 : Option Nat) (x1 : Int32) (x2 : Int64) (x4 : Int32) : Option (Int32 × Cst) := nn x0 fun b1 => (cf_X0_segmentFrom F S b1 x1 x2 x4).bind fun q2 => nc q2 (some ((0 : Int32), S)) (fun b3 => (cf_X6_release F S (some b1) (some b3)).bind fun S4 => some ((1 : Int32), S4))
set_option maxHeartbeats 4000000 in
set_option maxRecDepth 100000 in
theorem cm_X6_giveSegment (l : Launch) (F : Nat) (D : va_G) (ct : ClassId × ClassId × ClassId) (G : Gam) (S : Cst) (x0 : Option Nat) (x1 : Int32) (x2 : Int64) (x4 : Int32) (hk_x0 : tyo G 0 x0) (r : Int32) (S' : Cst) (hf : cf_X6_giveSegment F S x0 x1 x2 x4 = some (r, S')) : cMet l yX6_giveSegment cq_X6_giveSegment { frames := 3, cells := 0, slots := 0, locals := 73 } D ct G [va_rf x0, .int x1, .long x2, .int x4] S (some (.int r)) (cF D ct G (fun _ => True) S') (0) (0) := by
  refine cMet_of (own := RX6) (cc := cX6_giveSegment) (maxL := 6) (ret := (some .boolean)) (by decide) rfl rfl (by rcases x0 with _ | _ <;> exact (Nat.le_of_ble_eq_true rfl)) ?_
  intro p e s m below meth c X hr hlk hnm ls A hl hB hA hS
  have hx := X.1.1
  have hb := X.1.2.1
  have hown := X.1.2.2.2.1
  have hts := X.1.2.2.2.2
  have hl : lv_has ls 6 [(0, va_rf x0), (1, .int x1), (2, .long x2), (4, .int x4)] := (by rcases x0 with _ | _ <;> exact hl)
  generalize hargs : ([va_rf x0, .int x1, .long x2, .int x4] : List Value).toArray = args at X hts hS ⊢
  unfold cf_X6_giveSegment at hf
  refine lv_aload_nq hx hb dX6_giveSegment_0 rfl (lv_at hl 0 rfl) ?_
  refine lv_iload_n hx hb dX6_giveSegment_1 rfl (lv_at hl 1 rfl) ?_
  refine lv_lload_n hx hb dX6_giveSegment_2 rfl (lv_at hl 2 rfl) ?_
  refine lv_iload hx hb dX6_giveSegment_3 (lv_at hl 3 rfl) ?_
  obtain ⟨b1, eb1, hf2⟩ := nn_s hf
  clear hf
  subst eb1
  have hf := hf2
  clear hf2
  have hk_b1 := hk_x0 b1 rfl
  have hl : lv_has ls 6 [(0, .ref b1), (1, .int x1), (2, .long x2), (4, .int x4)] := hl
  obtain ⟨q2, hqq2, hf⟩ := bn_s hf
  refine c_doF hB hS hA (va_runV (As := [.int x1, .long x2, .int x4]) (rest := []) X.1 (cm_X0_segmentFrom l F D ct _ _ b1 x1 x2 x4 hk_b1 _ hqq2) (cwV 3 hts (gd_V km_X6_298 ki_X0_segmentFrom ks_X0_segmentFrom kin_RX0 kc_X0_segmentFrom) rfl rfl rfl (by decide +kernel) ⟨by dsimp only; omega, by dsimp only; omega⟩) (c_preV X hB hk_b1 rfl rfl) rfl rfl hl.1 rfl (lv_room (Nat.le_of_ble_eq_true rfl)) dX6_giveSegment_5 ⟨by dsimp only; omega, by dsimp only; omega⟩) rfl (fun H locs hB hT hS => ?_)
  have hk_q2 := hT
  refine lv_astoreq (lv' := [(5, va_rf q2), (0, .ref b1), (1, .int x1), (2, .long x2), (4, .int x4)]) hx hb dX6_giveSegment_8 hl (by decide) rfl (fun ls hl => ?_)
  refine lv_aloadq hx hb dX6_giveSegment_10 (lv_at hl 0 rfl) ?_
  rcases q2 with _ | b3
  · have hf := nc_n hf
    have hl : lv_has ls 6 [(5, .null), (0, .ref b1), (1, .int x1), (2, .long x2), (4, .int x4)] := hl
    refine lv_ifnonnullN hx hb dX6_giveSegment_12 ?_
    refine lv_iconst (v := 0) hx hb dX6_giveSegment_15 (by decide) ?_
    obtain ⟨rfl, rfl⟩ := Prod.mk.inj (Option.some.inj hf)
    exact W.zret hx hb hr rfl (fun t ht hW => c_endF X hB trivial hS ht hW) hS.2.2 dX6_giveSegment_16 hlk
  · have hf := nc_b hf
    have hk_b3 := hk_q2 b3 rfl
    have hl : lv_has ls 6 [(5, .ref b3), (0, .ref b1), (1, .int x1), (2, .long x2), (4, .int x4)] := hl
    refine lv_ifnonnull (tgt := 17) hx hb dX6_giveSegment_12 (by decide) ?_
    refine lv_aload_n hx hb dX6_giveSegment_17 rfl (lv_at hl 1 rfl) ?_
    refine lv_aload hx hb dX6_giveSegment_18 (lv_at hl 0 rfl) ?_
    obtain ⟨S4, hqS4, hf⟩ := bn_s hf
    refine c_doF hB hS hA (va_runS (As := [va_rf (some b1), va_rf (some b3)]) (rest := []) X.1 (cm_X6_release l F D ct _ _ (some b1) (some b3) (tyo_some hk_b1) (tyo_some hk_b3) _ hqS4) (va_cwS 2 hts (gd_S km_X6_302 kst_X6_release kin_RX6 kc_X6_release) rfl rfl rfl (by decide +kernel) ⟨by dsimp only; omega, by dsimp only; omega⟩) (c_preS X hB) rfl rfl hl.1 rfl (lv_room (Nat.le_of_ble_eq_true rfl)) dX6_giveSegment_20 ⟨by dsimp only; omega, by dsimp only; omega⟩) rfl (fun H locs hB hT hS => ?_)
    refine lv_iconst (v := 1) hx hb dX6_giveSegment_23 (by decide) ?_
    obtain ⟨rfl, rfl⟩ := Prod.mk.inj (Option.some.inj hf)
    exact W.zret hx hb hr rfl (fun t ht hW => c_endF X hB trivial hS ht hW) hS.2.2 dX6_giveSegment_24 hlk
/-! X6_takeLoaded -/
def cf_X6_takeLoaded (F : Nat) (S : Cst) (x0 : Option Nat) (x1 : Option Nat) (x2 : Int32) : Option (Int32 × Cst) := nn x1 fun b1 => (cf_X2_deskAt F S b1 x2).bind fun q2 => st1 (gP S 35 b1) fun q3 => nn q2 fun b4 => (cf_X3_load F S b4 q3).bind fun S5 => st1 (gP S5 48 b4) fun q6 => nn q6 fun b7 => (cf_X4_pull F S5 b7).bind fun z8 => st2 z8 fun z8v z8S => nn x0 fun b9 => (cf_X0_slabHolding F z8S b9 (some b1) z8v).bind fun q10 => nc q10 (some (z8v, z8S)) (fun b11 => (cf_X5_objectAt F z8S b11 z8v).bind fun v12 => (cf_X5_hold F z8S b11 v12).bind fun S13 => some (z8v, S13))
set_option maxHeartbeats 4000000 in
set_option maxRecDepth 100000 in
theorem cm_X6_takeLoaded (l : Launch) (F : Nat) (D : va_G) (ct : ClassId × ClassId × ClassId) (G : Gam) (S : Cst) (x0 : Option Nat) (x1 : Option Nat) (x2 : Int32) (hk_x0 : tyo G 0 x0) (hk_x1 : tyo G 2 x1) (r : Int32) (S' : Cst) (hf : cf_X6_takeLoaded F S x0 x1 x2 = some (r, S')) : cMet l yX6_takeLoaded cq_X6_takeLoaded { frames := 4, cells := 0, slots := 0, locals := 84 } D ct G [va_rf x0, va_rf x1, .int x2] S (some (.int r)) (cF D ct G (fun _ => True) S') (0) (0) := by
  refine cMet_of (own := RX6) (cc := cX6_takeLoaded) (maxL := 6) (ret := (some .int)) (by decide) rfl rfl (by rcases x0 with _ | _ <;> rcases x1 with _ | _ <;> exact (Nat.le_of_ble_eq_true rfl)) ?_
  intro p e s m below meth c X hr hlk hnm ls A hl hB hA hS
  have hx := X.1.1
  have hb := X.1.2.1
  have hown := X.1.2.2.2.1
  have hts := X.1.2.2.2.2
  have hl : lv_has ls 6 [(0, va_rf x0), (1, va_rf x1), (2, .int x2)] := (by rcases x0 with _ | _ <;> rcases x1 with _ | _ <;> exact hl)
  generalize hargs : ([va_rf x0, va_rf x1, .int x2] : List Value).toArray = args at X hts hS ⊢
  unfold cf_X6_takeLoaded at hf
  refine lv_aload_nq hx hb dX6_takeLoaded_0 rfl (lv_at hl 1 rfl) ?_
  refine lv_iload_n hx hb dX6_takeLoaded_1 rfl (lv_at hl 2 rfl) ?_
  obtain ⟨b1, eb1, hf2⟩ := nn_s hf
  clear hf
  subst eb1
  have hf := hf2
  clear hf2
  have hk_b1 := hk_x1 b1 rfl
  have hl : lv_has ls 6 [(0, va_rf x0), (1, .ref b1), (2, .int x2)] := hl
  obtain ⟨q2, hqq2, hf⟩ := bn_s hf
  refine c_doF hB hS hA (va_runV (As := [.int x2]) (rest := []) X.1 (cm_X2_deskAt l F D ct _ _ b1 x2 hk_b1 _ hqq2) (cwV 1 hts (gd_V km_X6_306 ki_X2_deskAt ks_X2_deskAt kin_RX2 kc_X2_deskAt) rfl rfl rfl (by decide +kernel) ⟨by dsimp only; omega, by dsimp only; omega⟩) (c_preV X hB hk_b1 rfl rfl) rfl rfl hl.1 rfl (lv_room (Nat.le_of_ble_eq_true rfl)) dX6_takeLoaded_2 ⟨by dsimp only; omega, by dsimp only; omega⟩) rfl (fun H locs hB hT hS => ?_)
  have hk_q2 := hT
  refine lv_astore_nq (lv' := [(3, va_rf q2), (0, va_rf x0), (1, .ref b1), (2, .int x2)]) hx hb dX6_takeLoaded_5 rfl hl (by decide) rfl (fun ls hl => ?_)
  refine lv_aload_nq hx hb dX6_takeLoaded_6 rfl (lv_at hl 0 rfl) ?_
  refine lv_aload_n hx hb dX6_takeLoaded_7 rfl (lv_at hl 2 rfl) ?_
  refine c_get X hB hk_b1 rfl rfl kw_X2 3 252 (by decide) kf_X6_252 rfl rfl dX6_takeLoaded_8 ?_
  obtain ⟨q3, eq3, hf⟩ := st1_s hf
  rw [← eq3]
  have hk_q3 : tyo G 4 q3 := by rw [eq3]; exact hB.2.2.2.1 (2, 35, 4) (by decide) _ hk_b1
  obtain ⟨b4, eb4, hf2⟩ := nn_s hf
  clear hf
  subst eb4
  have hf := hf2
  clear hf2
  have hk_b4 := hk_q2 b4 rfl
  have hl : lv_has ls 6 [(3, .ref b4), (0, va_rf x0), (1, .ref b1), (2, .int x2)] := hl
  obtain ⟨S5, hqS5, hf⟩ := bn_s hf
  refine c_doF hB hS hA (va_runV (As := [va_rf q3]) (rest := []) X.1 (cm_X3_load l F D ct _ _ b4 q3 hk_b4 hk_q3 _ hqS5) (cwV 1 hts (gd_V km_X6_310 ki_X3_load ks_X3_load kin_RX3 kc_X3_load) rfl rfl rfl (by decide +kernel) ⟨by dsimp only; omega, by dsimp only; omega⟩) (c_preV X hB hk_b4 rfl rfl) rfl rfl hl.1 rfl (lv_room (Nat.le_of_ble_eq_true rfl)) dX6_takeLoaded_11 ⟨by dsimp only; omega, by dsimp only; omega⟩) rfl (fun H locs hB hT hS => ?_)
  refine lv_aload_n hx hb dX6_takeLoaded_14 rfl (lv_at hl 0 rfl) ?_
  refine c_get X hB hk_b4 rfl rfl kw_X3 0 235 (by decide) kf_X6_235 rfl rfl dX6_takeLoaded_15 ?_
  obtain ⟨q6, eq6, hf⟩ := st1_s hf
  rw [← eq6]
  have hk_q6 : tyo G 4 q6 := by rw [eq6]; exact hB.2.2.2.1 (3, 48, 4) (by decide) _ hk_b4
  obtain ⟨b7, eb7, hf2⟩ := nn_s hf
  clear hf
  subst eb7
  have hf := hf2
  clear hf2
  have hk_b7 := hk_q6 b7 rfl
  have hl : lv_has ls 6 [(3, .ref b4), (0, va_rf x0), (1, .ref b1), (2, .int x2)] := hl
  obtain ⟨⟨z8v, z8S⟩, hqz8, hf⟩ := bn_s hf
  have hf := st2_s hf
  refine c_doF hB hS hA (va_runV (As := []) (rest := []) X.1 (cm_X4_pull l F D ct _ _ b7 hk_b7 _ _ hqz8) (cwV 0 hts (gd_V km_X6_314 ki_X4_pull ks_X4_pull kin_RX4 kc_X4_pull) rfl rfl rfl (by decide +kernel) ⟨by dsimp only; omega, by dsimp only; omega⟩) (c_preV X hB hk_b7 rfl rfl) rfl rfl hl.1 rfl (lv_room (Nat.le_of_ble_eq_true rfl)) dX6_takeLoaded_18 ⟨by dsimp only; omega, by dsimp only; omega⟩) rfl (fun H locs hB hT hS => ?_)
  refine lv_istore (lv' := [(4, .int z8v), (3, .ref b4), (0, va_rf x0), (1, .ref b1), (2, .int x2)]) hx hb dX6_takeLoaded_21 hl (by decide) rfl (fun ls hl => ?_)
  refine lv_aload_nq hx hb dX6_takeLoaded_23 rfl (lv_at hl 2 rfl) ?_
  refine lv_aload_n hx hb dX6_takeLoaded_24 rfl (lv_at hl 3 rfl) ?_
  refine lv_iload hx hb dX6_takeLoaded_25 (lv_at hl 0 rfl) ?_
  obtain ⟨b9, eb9, hf2⟩ := nn_s hf
  clear hf
  subst eb9
  have hf := hf2
  clear hf2
  have hk_b9 := hk_x0 b9 rfl
  have hl : lv_has ls 6 [(4, .int z8v), (3, .ref b4), (0, .ref b9), (1, .ref b1), (2, .int x2)] := hl
  obtain ⟨q10, hqq10, hf⟩ := bn_s hf
  refine c_doF hB hS hA (va_runV (As := [va_rf (some b1), .int z8v]) (rest := []) X.1 (cm_X0_slabHolding l F D ct _ _ b9 (some b1) z8v hk_b9 (tyo_some hk_b1) _ hqq10) (cwV 2 hts (gd_V km_X6_317 ki_X0_slabHolding ks_X0_slabHolding kin_RX0 kc_X0_slabHolding) rfl rfl rfl (by decide +kernel) ⟨by dsimp only; omega, by dsimp only; omega⟩) (c_preV X hB hk_b9 rfl rfl) rfl rfl hl.1 rfl (lv_room (Nat.le_of_ble_eq_true rfl)) dX6_takeLoaded_27 ⟨by dsimp only; omega, by dsimp only; omega⟩) rfl (fun H locs hB hT hS => ?_)
  have hk_q10 := hT
  refine lv_astoreq (lv' := [(5, va_rf q10), (4, .int z8v), (3, .ref b4), (0, .ref b9), (1, .ref b1), (2, .int x2)]) hx hb dX6_takeLoaded_30 hl (by decide) rfl (fun ls hl => ?_)
  refine lv_aloadq hx hb dX6_takeLoaded_32 (lv_at hl 0 rfl) ?_
  rcases q10 with _ | b11
  · have hf := nc_n hf
    have hl : lv_has ls 6 [(5, .null), (4, .int z8v), (3, .ref b4), (0, .ref b9), (1, .ref b1), (2, .int x2)] := hl
    refine lv_ifnullN (tgt := 49) hx hb dX6_takeLoaded_34 (by decide) ?_
    refine lv_iload hx hb dX6_takeLoaded_49 (lv_at hl 1 rfl) ?_
    obtain ⟨rfl, rfl⟩ := Prod.mk.inj (Option.some.inj hf)
    exact W.iret hx hb hr (fun t ht hW => c_endF X hB trivial hS ht hW) hS.2.2 dX6_takeLoaded_51 hlk
  · have hf := nc_b hf
    have hk_b11 := hk_q10 b11 rfl
    have hl : lv_has ls 6 [(5, .ref b11), (4, .int z8v), (3, .ref b4), (0, .ref b9), (1, .ref b1), (2, .int x2)] := hl
    refine lv_ifnull hx hb dX6_takeLoaded_34 ?_
    refine lv_aload hx hb dX6_takeLoaded_37 (lv_at hl 0 rfl) ?_
    refine lv_aload hx hb dX6_takeLoaded_39 (lv_at hl 0 rfl) ?_
    refine lv_iload hx hb dX6_takeLoaded_41 (lv_at hl 1 rfl) ?_
    obtain ⟨v12, hqv12, hf⟩ := bn_s hf
    refine c_doF hB hS hA (va_runV (As := [.int z8v]) (rest := [.ref b11]) X.1 (cm_X5_objectAt l F D ct _ _ b11 z8v hk_b11 _ hqv12) (cwV 1 hts (gd_V km_X6_269 ki_X5_objectAt ks_X5_objectAt kin_RX5 kc_X5_objectAt) rfl rfl rfl (by decide +kernel) ⟨by dsimp only; omega, by dsimp only; omega⟩) (c_preV X hB hk_b11 rfl rfl) rfl rfl hl.1 rfl (lv_room (Nat.le_of_ble_eq_true rfl)) dX6_takeLoaded_43 ⟨by dsimp only; omega, by dsimp only; omega⟩) rfl (fun H locs hB hT hS => ?_)
    obtain ⟨S13, hqS13, hf⟩ := bn_s hf
    refine c_doF hB hS hA (va_runV (As := [.int v12]) (rest := []) X.1 (cm_X5_hold l F D ct _ _ b11 v12 hk_b11 _ hqS13) (cwV 1 hts (gd_V km_X6_321 ki_X5_hold ks_X5_hold kin_RX5 kc_X5_hold) rfl rfl rfl (by decide +kernel) ⟨by dsimp only; omega, by dsimp only; omega⟩) (c_preV X hB hk_b11 rfl rfl) rfl rfl hl.1 rfl (lv_room (Nat.le_of_ble_eq_true rfl)) dX6_takeLoaded_46 ⟨by dsimp only; omega, by dsimp only; omega⟩) rfl (fun H locs hB hT hS => ?_)
    refine lv_iload hx hb dX6_takeLoaded_49 (lv_at hl 1 rfl) ?_
    obtain ⟨rfl, rfl⟩ := Prod.mk.inj (Option.some.inj hf)
    exact W.iret hx hb hr (fun t ht hW => c_endF X hB trivial hS ht hW) hS.2.2 dX6_takeLoaded_51 hlk
/-! X6_takeLying -/
def cf_X6_takeLying (F : Nat) (S : Cst) (x0 : Option Nat) (x1 : Option Nat) : Option (Int32 × Cst) := nn x0 fun b1 => (cf_X0_slabWithLying F S b1 x1).bind fun q2 => nc q2 ((cf_X6_obtain F 9 S (some b1) ((gI S 5 b1).toInt64) (1 : Int32) (2 : Int32) (0 : Int32)).bind fun z4 => st2 z4 fun z4v z4S => nc z4v (some (((-1) : Int32), z4S)) (fun b5 => nn x1 fun b6 => (cf_X5_fill F z4S b5 (gI z4S 32 b6)).bind fun S7 => (cf_X5_holdLowestLying F S7 b5).bind fun z8 => st2 z8 fun z8v z8S => some (z8v, z8S))) (fun b3 => (cf_X5_holdLowestLying F S b3).bind fun z9 => st2 z9 fun z9v z9S => some (z9v, z9S))
set_option maxHeartbeats 4000000 in
set_option maxRecDepth 100000 in
theorem cm_X6_takeLying (l : Launch) (F : Nat) (D : va_G) (ct : ClassId × ClassId × ClassId) (G : Gam) (S : Cst) (x0 : Option Nat) (x1 : Option Nat) (hk_x0 : tyo G 0 x0) (hk_x1 : tyo G 2 x1) (r : Int32) (S' : Cst) (hf : cf_X6_takeLying F S x0 x1 = some (r, S')) : cMet l yX6_takeLying cq_X6_takeLying { frames := 49, cells := 18, slots := 216, locals := 2307 } D ct G [va_rf x0, va_rf x1] S (some (.int r)) (cE D ct G (nx S) (fun _ => True) S') (18) (216) := by
  refine cMet_of (own := RX6) (cc := cX6_takeLying) (maxL := 3) (ret := (some .int)) (by decide) rfl rfl (by rcases x0 with _ | _ <;> rcases x1 with _ | _ <;> exact (Nat.le_of_ble_eq_true rfl)) ?_
  intro p e s m below meth c X hr hlk hnm ls A hl hB hA hS
  have hx := X.1.1
  have hb := X.1.2.1
  have hown := X.1.2.2.2.1
  have hts := X.1.2.2.2.2
  have hl : lv_has ls 3 [(0, va_rf x0), (1, va_rf x1)] := (by rcases x0 with _ | _ <;> rcases x1 with _ | _ <;> exact hl)
  generalize hargs : ([va_rf x0, va_rf x1] : List Value).toArray = args at X hts hS ⊢
  have hsz := hB.2.2.1
  obtain ⟨G0, eG0⟩ : ∃ z, z = G := ⟨_, rfl⟩
  obtain ⟨S0, eS0⟩ : ∃ z, z = S := ⟨_, rfl⟩
  have hext : ext G0 (nx S0) G := by rw [eG0]; exact ext_rf
  rw [← eS0] at hsz
  suffices hgoal : W p l e { frames := 49, cells := 18, slots := 216, locals := 2307 } s m args below meth c s.heap [] 0 0 (MQ below (mq (some (.int r)) (cE D ct G0 (nx S0) (fun _ => True) S') A) args s (18) (216) A) (F0 m 0 ls []) by rw [eG0, eS0] at hgoal; exact hgoal
  unfold cf_X6_takeLying at hf
  refine lv_aload_nq hx hb dX6_takeLying_0 rfl (lv_at hl 0 rfl) ?_
  refine lv_aload_nq hx hb dX6_takeLying_1 rfl (lv_at hl 1 rfl) ?_
  obtain ⟨b1, eb1, hf2⟩ := nn_s hf
  clear hf
  subst eb1
  have hf := hf2
  clear hf2
  have hk_b1 := hk_x0 b1 rfl
  have hl : lv_has ls 3 [(0, .ref b1), (1, va_rf x1)] := hl
  obtain ⟨q2, hqq2, hf⟩ := bn_s hf
  refine c_doF hB hS hA (va_runV (As := [va_rf x1]) (rest := []) X.1 (cm_X0_slabWithLying l F D ct _ _ b1 x1 hk_b1 hk_x1 _ hqq2) (cwV 1 hts (gd_V km_X6_325 ki_X0_slabWithLying ks_X0_slabWithLying kin_RX0 kc_X0_slabWithLying) rfl rfl rfl (by decide +kernel) ⟨by dsimp only; omega, by dsimp only; omega⟩) (c_preV X hB hk_b1 rfl rfl) rfl rfl hl.1 rfl (lv_room (Nat.le_of_ble_eq_true rfl)) dX6_takeLying_2 ⟨by dsimp only; omega, by dsimp only; omega⟩) rfl (fun H locs hB hT hS => ?_)
  have hk_q2 := hT
  refine lv_astore_nq (lv' := [(2, va_rf q2), (0, .ref b1), (1, va_rf x1)]) hx hb dX6_takeLying_5 rfl hl (by decide) (by rcases x1 with _ | _ <;> exact rfl) (fun ls hl => ?_)
  refine lv_aload_nq hx hb dX6_takeLying_6 rfl (lv_at hl 0 rfl) ?_
  rcases q2 with _ | b3
  · have hf := nc_n hf
    have hl : lv_has ls 3 [(2, .null), (0, .ref b1), (1, va_rf x1)] := hl
    refine lv_ifnonnullN hx hb dX6_takeLying_7 ?_
    refine lv_aload_n hx hb dX6_takeLying_10 rfl (lv_at hl 1 rfl) ?_
    refine lv_aload_n hx hb dX6_takeLying_11 rfl (lv_at hl 1 rfl) ?_
    refine c_get X hB hk_b1 rfl rfl kw_X0 5 329 (by decide) kf_X6_329 rfl rfl dX6_takeLying_12 ?_
    refine lv_i2l (v := (gI S 5 b1).toInt64) hx hb dX6_takeLying_15 rfl ?_
    refine lv_iconst (v := 1) hx hb dX6_takeLying_16 (by decide) ?_
    refine lv_iconst (v := 2) hx hb dX6_takeLying_17 (by decide) ?_
    refine lv_iconst (v := 0) hx hb dX6_takeLying_18 (by decide) ?_
    obtain ⟨⟨z4v, z4S⟩, hqz4, hf⟩ := bn_s hf
    have hf := st2_s hf
    have hle : nx S0 ≤ nx S := by rw [← hsz, ← hB.2.2.1]; exact hS.1
    refine c_doE hB hS hA (va_runS (As := [va_rf (some b1), .long ((gI S 5 b1).toInt64), .int 1, .int 2, .int 0]) (rest := []) X.1 (cm_X6_obtain l F 9 D ct _ _ (some b1) ((gI S 5 b1).toInt64) (1 : Int32) (2 : Int32) (0 : Int32) (tyo_some hk_b1) _ _ hqz4) (va_cwS 5 hts (gd_S km_X6_89 kst_X6_obtain kin_RX6 kc_X6_obtain) rfl rfl rfl (by decide +kernel) ⟨by dsimp only; omega, by dsimp only; omega⟩) (c_preS X hB) rfl rfl hl.1 rfl (lv_room (Nat.le_of_ble_eq_true rfl)) dX6_takeLying_19 ⟨by dsimp only; omega, by dsimp only; omega⟩) rfl (fun G H locs hx1 hB2 hT hS => ?_)
    have hext := hext.trans hx1 hle
    have hk_b1 := hx1.1 _ _ hk_b1
    have hk_x1 := hx1.o hk_x1
    have hB := hB2
    clear hB2
    have hk_z4v := hT
    refine W.widen (k := 18) (n := 216) (by omega) (by omega) ?_
    refine lv_astore_nq (lv' := [(2, va_rf z4v), (0, .ref b1), (1, va_rf x1)]) hx hb dX6_takeLying_22 rfl hl (by decide) (by rcases x1 with _ | _ <;> exact rfl) (fun ls hl => ?_)
    refine lv_aload_nq hx hb dX6_takeLying_23 rfl (lv_at hl 0 rfl) ?_
    rcases z4v with _ | b5
    · have hf := nc_n hf
      have hl : lv_has ls 3 [(2, .null), (0, .ref b1), (1, va_rf x1)] := hl
      refine lv_ifnonnullN hx hb dX6_takeLying_24 ?_
      refine lv_iconst (v := (-1)) hx hb dX6_takeLying_27 (by decide) ?_
      obtain ⟨rfl, rfl⟩ := Prod.mk.inj (Option.some.inj hf)
      refine W.widen (k := 18) (n := 216) (by omega) (by omega) ?_
      exact W.iret hx hb hr (fun t ht hW => c_endE X hext hB trivial hS ht hW) hS.2.2 dX6_takeLying_28 hlk
    · have hf := nc_b hf
      have hk_b5 := hk_z4v b5 rfl
      have hl : lv_has ls 3 [(2, .ref b5), (0, .ref b1), (1, va_rf x1)] := hl
      refine lv_ifnonnull (tgt := 29) hx hb dX6_takeLying_24 (by decide) ?_
      refine lv_aload_n hx hb dX6_takeLying_29 rfl (lv_at hl 0 rfl) ?_
      refine lv_aload_nq hx hb dX6_takeLying_30 rfl (lv_at hl 2 rfl) ?_
      obtain ⟨b6, eb6, hf2⟩ := nn_s hf
      clear hf
      subst eb6
      have hf := hf2
      clear hf2
      have hk_b6 := hk_x1 b6 rfl
      have hl : lv_has ls 3 [(2, .ref b5), (0, .ref b1), (1, .ref b6)] := hl
      refine c_get X hB hk_b6 rfl rfl kw_X2 0 332 (by decide) kf_X6_332 rfl rfl dX6_takeLying_31 ?_
      obtain ⟨S7, hqS7, hf⟩ := bn_s hf
      refine c_doF hB hS hA (va_runV (As := [.int (gI z4S 32 b6)]) (rest := []) X.1 (cm_X5_fill l F D ct _ _ b5 (gI z4S 32 b6) hk_b5 _ hqS7) (cwV 1 hts (gd_V km_X6_335 ki_X5_fill ks_X5_fill kin_RX5 kc_X5_fill) rfl rfl rfl (by decide +kernel) ⟨by dsimp only; omega, by dsimp only; omega⟩) (c_preV X hB hk_b5 rfl rfl) rfl rfl hl.1 rfl (lv_room (Nat.le_of_ble_eq_true rfl)) dX6_takeLying_34 ⟨by dsimp only; omega, by dsimp only; omega⟩) rfl (fun H locs hB hT hS => ?_)
      refine lv_aload_n hx hb dX6_takeLying_37 rfl (lv_at hl 0 rfl) ?_
      obtain ⟨⟨z8v, z8S⟩, hqz8, hf⟩ := bn_s hf
      have hf := st2_s hf
      refine c_doF hB hS hA (va_runV (As := []) (rest := []) X.1 (cm_X5_holdLowestLying l F D ct _ _ b5 hk_b5 _ _ hqz8) (cwV 0 hts (gd_V km_X6_338 ki_X5_holdLowestLying ks_X5_holdLowestLying kin_RX5 kc_X5_holdLowestLying) rfl rfl rfl (by decide +kernel) ⟨by dsimp only; omega, by dsimp only; omega⟩) (c_preV X hB hk_b5 rfl rfl) rfl rfl hl.1 rfl (lv_room (Nat.le_of_ble_eq_true rfl)) dX6_takeLying_38 ⟨by dsimp only; omega, by dsimp only; omega⟩) rfl (fun H locs hB hT hS => ?_)
      obtain ⟨rfl, rfl⟩ := Prod.mk.inj (Option.some.inj hf)
      refine W.widen (k := 18) (n := 216) (by omega) (by omega) ?_
      exact W.iret hx hb hr (fun t ht hW => c_endE X hext hB trivial hS ht hW) hS.2.2 dX6_takeLying_41 hlk
  · have hf := nc_b hf
    have hk_b3 := hk_q2 b3 rfl
    have hl : lv_has ls 3 [(2, .ref b3), (0, .ref b1), (1, va_rf x1)] := hl
    refine lv_ifnonnull (tgt := 37) hx hb dX6_takeLying_7 (by decide) ?_
    refine lv_aload_n hx hb dX6_takeLying_37 rfl (lv_at hl 0 rfl) ?_
    obtain ⟨⟨z9v, z9S⟩, hqz9, hf⟩ := bn_s hf
    have hf := st2_s hf
    refine c_doF hB hS hA (va_runV (As := []) (rest := []) X.1 (cm_X5_holdLowestLying l F D ct _ _ b3 hk_b3 _ _ hqz9) (cwV 0 hts (gd_V km_X6_338 ki_X5_holdLowestLying ks_X5_holdLowestLying kin_RX5 kc_X5_holdLowestLying) rfl rfl rfl (by decide +kernel) ⟨by dsimp only; omega, by dsimp only; omega⟩) (c_preV X hB hk_b3 rfl rfl) rfl rfl hl.1 rfl (lv_room (Nat.le_of_ble_eq_true rfl)) dX6_takeLying_38 ⟨by dsimp only; omega, by dsimp only; omega⟩) rfl (fun H locs hB hT hS => ?_)
    obtain ⟨rfl, rfl⟩ := Prod.mk.inj (Option.some.inj hf)
    refine W.widen (k := 18) (n := 216) (by omega) (by omega) ?_
    exact W.iret hx hb hr (fun t ht hW => c_endE X hext hB trivial hS ht hW) hS.2.2 dX6_takeLying_41 hlk
/-! X6_giveObject -/
def cf_X6_giveObject (F : Nat) (S : Cst) (x0 : Option Nat) (x1 : Option Nat) (x2 : Int32) (x3 : Int32) : Option (Int32 × Cst) := nn x0 fun b1 => (cf_X0_slabHolding F S b1 x1 x2).bind fun q2 => nc q2 (some ((0 : Int32), S)) (fun b3 => (cf_X5_objectAt F S b3 x2).bind fun v4 => (cf_X5_isHeld F S b3 v4).bind fun v5 => if v5 = 0 then (some ((0 : Int32), S)) else ((cf_X5_baseOf F S b3 v4).bind fun v7 => if v7 = x2 then ((cf_X5_drop F S b3 v4).bind fun S9 => nn x1 fun b10 => (cf_X2_deskAt F S9 b10 x3).bind fun q11 => st1 (gP S9 35 b10) fun q12 => nn q11 fun b13 => (cf_X3_makeRoom F S9 b13 q12).bind fun S14 => st1 (gP S14 48 b13) fun q15 => nn q15 fun b16 => if (3 : Int32) ≤ (gI S14 65 b16) then ((cf_X5_lay F S14 b3 v4).bind fun S18 => some ((1 : Int32), S18)) else (st1 (gP S14 48 b13) fun q19 => nn q19 fun b20 => (cf_X4_put F S14 b20 x2).bind fun S21 => some ((1 : Int32), S21))) else (some ((0 : Int32), S))))
set_option maxHeartbeats 4000000 in
set_option maxRecDepth 100000 in
theorem cm_X6_giveObject (l : Launch) (F : Nat) (D : va_G) (ct : ClassId × ClassId × ClassId) (G : Gam) (S : Cst) (x0 : Option Nat) (x1 : Option Nat) (x2 : Int32) (x3 : Int32) (hk_x0 : tyo G 0 x0) (hk_x1 : tyo G 2 x1) (r : Int32) (S' : Cst) (hf : cf_X6_giveObject F S x0 x1 x2 x3 = some (r, S')) : cMet l yX6_giveObject cq_X6_giveObject { frames := 4, cells := 0, slots := 0, locals := 84 } D ct G [va_rf x0, va_rf x1, .int x2, .int x3] S (some (.int r)) (cF D ct G (fun _ => True) S') (0) (0) := by
  refine cMet_of (own := RX6) (cc := cX6_giveObject) (maxL := 7) (ret := (some .boolean)) (by decide) rfl rfl (by rcases x0 with _ | _ <;> rcases x1 with _ | _ <;> exact (Nat.le_of_ble_eq_true rfl)) ?_
  intro p e s m below meth c X hr hlk hnm ls A hl hB hA hS
  have hx := X.1.1
  have hb := X.1.2.1
  have hown := X.1.2.2.2.1
  have hts := X.1.2.2.2.2
  have hl : lv_has ls 7 [(0, va_rf x0), (1, va_rf x1), (2, .int x2), (3, .int x3)] := (by rcases x0 with _ | _ <;> rcases x1 with _ | _ <;> exact hl)
  generalize hargs : ([va_rf x0, va_rf x1, .int x2, .int x3] : List Value).toArray = args at X hts hS ⊢
  unfold cf_X6_giveObject at hf
  refine lv_aload_nq hx hb dX6_giveObject_0 rfl (lv_at hl 0 rfl) ?_
  refine lv_aload_nq hx hb dX6_giveObject_1 rfl (lv_at hl 1 rfl) ?_
  refine lv_iload_n hx hb dX6_giveObject_2 rfl (lv_at hl 2 rfl) ?_
  obtain ⟨b1, eb1, hf2⟩ := nn_s hf
  clear hf
  subst eb1
  have hf := hf2
  clear hf2
  have hk_b1 := hk_x0 b1 rfl
  have hl : lv_has ls 7 [(0, .ref b1), (1, va_rf x1), (2, .int x2), (3, .int x3)] := hl
  obtain ⟨q2, hqq2, hf⟩ := bn_s hf
  refine c_doF hB hS hA (va_runV (As := [va_rf x1, .int x2]) (rest := []) X.1 (cm_X0_slabHolding l F D ct _ _ b1 x1 x2 hk_b1 hk_x1 _ hqq2) (cwV 2 hts (gd_V km_X6_317 ki_X0_slabHolding ks_X0_slabHolding kin_RX0 kc_X0_slabHolding) rfl rfl rfl (by decide +kernel) ⟨by dsimp only; omega, by dsimp only; omega⟩) (c_preV X hB hk_b1 rfl rfl) rfl rfl hl.1 rfl (lv_room (Nat.le_of_ble_eq_true rfl)) dX6_giveObject_3 ⟨by dsimp only; omega, by dsimp only; omega⟩) rfl (fun H locs hB hT hS => ?_)
  have hk_q2 := hT
  refine lv_astoreq (lv' := [(4, va_rf q2), (0, .ref b1), (1, va_rf x1), (2, .int x2), (3, .int x3)]) hx hb dX6_giveObject_6 hl (by decide) rfl (fun ls hl => ?_)
  refine lv_aloadq hx hb dX6_giveObject_8 (lv_at hl 0 rfl) ?_
  rcases q2 with _ | b3
  · have hf := nc_n hf
    have hl : lv_has ls 7 [(4, .null), (0, .ref b1), (1, va_rf x1), (2, .int x2), (3, .int x3)] := hl
    refine lv_ifnonnullN hx hb dX6_giveObject_10 ?_
    refine lv_iconst (v := 0) hx hb dX6_giveObject_13 (by decide) ?_
    obtain ⟨rfl, rfl⟩ := Prod.mk.inj (Option.some.inj hf)
    exact W.zret hx hb hr rfl (fun t ht hW => c_endF X hB trivial hS ht hW) hS.2.2 dX6_giveObject_14 hlk
  · have hf := nc_b hf
    have hk_b3 := hk_q2 b3 rfl
    have hl : lv_has ls 7 [(4, .ref b3), (0, .ref b1), (1, va_rf x1), (2, .int x2), (3, .int x3)] := hl
    refine lv_ifnonnull (tgt := 15) hx hb dX6_giveObject_10 (by decide) ?_
    refine lv_aload hx hb dX6_giveObject_15 (lv_at hl 0 rfl) ?_
    refine lv_iload_n hx hb dX6_giveObject_17 rfl (lv_at hl 3 rfl) ?_
    obtain ⟨v4, hqv4, hf⟩ := bn_s hf
    refine c_doF hB hS hA (va_runV (As := [.int x2]) (rest := []) X.1 (cm_X5_objectAt l F D ct _ _ b3 x2 hk_b3 _ hqv4) (cwV 1 hts (gd_V km_X6_269 ki_X5_objectAt ks_X5_objectAt kin_RX5 kc_X5_objectAt) rfl rfl rfl (by decide +kernel) ⟨by dsimp only; omega, by dsimp only; omega⟩) (c_preV X hB hk_b3 rfl rfl) rfl rfl hl.1 rfl (lv_room (Nat.le_of_ble_eq_true rfl)) dX6_giveObject_18 ⟨by dsimp only; omega, by dsimp only; omega⟩) rfl (fun H locs hB hT hS => ?_)
    refine lv_istore (lv' := [(5, .int v4), (4, .ref b3), (0, .ref b1), (1, va_rf x1), (2, .int x2), (3, .int x3)]) hx hb dX6_giveObject_21 hl (by decide) rfl (fun ls hl => ?_)
    refine lv_aload hx hb dX6_giveObject_23 (lv_at hl 1 rfl) ?_
    refine lv_iload hx hb dX6_giveObject_25 (lv_at hl 0 rfl) ?_
    obtain ⟨v5, hqv5, hf⟩ := bn_s hf
    refine c_doF hB hS hA (va_runV (As := [.int v4]) (rest := []) X.1 (cm_X5_isHeld l F D ct _ _ b3 v4 hk_b3 _ hqv5) (cwV 1 hts (gd_V km_X6_272 ki_X5_isHeld ks_X5_isHeld kin_RX5 kc_X5_isHeld) rfl rfl rfl (by decide +kernel) ⟨by dsimp only; omega, by dsimp only; omega⟩) (c_preV X hB hk_b3 rfl rfl) rfl rfl hl.1 rfl (lv_room (Nat.le_of_ble_eq_true rfl)) dX6_giveObject_27 ⟨by dsimp only; omega, by dsimp only; omega⟩) rfl (fun H locs hB hT hS => ?_)
    refine lv_if_eq (tgt := 44) hx hb dX6_giveObject_30 (by decide) (fun hc6 => ?_) (fun hc6 => ?_)
    · have hf := if_t hf hc6
      refine lv_iconst (v := 0) hx hb dX6_giveObject_44 (by decide) ?_
      obtain ⟨rfl, rfl⟩ := Prod.mk.inj (Option.some.inj hf)
      exact W.zret hx hb hr rfl (fun t ht hW => c_endF X hB trivial hS ht hW) hS.2.2 dX6_giveObject_45 hlk
    · have hf := if_f hf hc6
      refine lv_aload hx hb dX6_giveObject_33 (lv_at hl 1 rfl) ?_
      refine lv_iload hx hb dX6_giveObject_35 (lv_at hl 0 rfl) ?_
      obtain ⟨v7, hqv7, hf⟩ := bn_s hf
      refine c_doF hB hS hA (va_runV (As := [.int v4]) (rest := []) X.1 (cm_X5_baseOf l F D ct _ _ b3 v4 hk_b3 _ hqv7) (cwV 1 hts (gd_V km_X6_341 ki_X5_baseOf ks_X5_baseOf kin_RX5 kc_X5_baseOf) rfl rfl rfl (by decide +kernel) ⟨by dsimp only; omega, by dsimp only; omega⟩) (c_preV X hB hk_b3 rfl rfl) rfl rfl hl.1 rfl (lv_room (Nat.le_of_ble_eq_true rfl)) dX6_giveObject_37 ⟨by dsimp only; omega, by dsimp only; omega⟩) rfl (fun H locs hB hT hS => ?_)
      refine lv_iload_n hx hb dX6_giveObject_40 rfl (lv_at hl 4 rfl) ?_
      refine lv_icmp_eq (tgt := 46) hx hb dX6_giveObject_41 (by decide) (fun hc8 => ?_) (fun hc8 => ?_)
      · have hf := if_t hf hc8
        refine lv_aload hx hb dX6_giveObject_46 (lv_at hl 1 rfl) ?_
        refine lv_iload hx hb dX6_giveObject_48 (lv_at hl 0 rfl) ?_
        obtain ⟨S9, hqS9, hf⟩ := bn_s hf
        refine c_doF hB hS hA (va_runV (As := [.int v4]) (rest := []) X.1 (cm_X5_drop l F D ct _ _ b3 v4 hk_b3 _ hqS9) (cwV 1 hts (gd_V km_X6_344 ki_X5_drop ks_X5_drop kin_RX5 kc_X5_drop) rfl rfl rfl (by decide +kernel) ⟨by dsimp only; omega, by dsimp only; omega⟩) (c_preV X hB hk_b3 rfl rfl) rfl rfl hl.1 rfl (lv_room (Nat.le_of_ble_eq_true rfl)) dX6_giveObject_50 ⟨by dsimp only; omega, by dsimp only; omega⟩) rfl (fun H locs hB hT hS => ?_)
        refine lv_aload_nq hx hb dX6_giveObject_53 rfl (lv_at hl 3 rfl) ?_
        refine lv_iload_n hx hb dX6_giveObject_54 rfl (lv_at hl 5 rfl) ?_
        obtain ⟨b10, eb10, hf2⟩ := nn_s hf
        clear hf
        subst eb10
        have hf := hf2
        clear hf2
        have hk_b10 := hk_x1 b10 rfl
        have hl : lv_has ls 7 [(5, .int v4), (4, .ref b3), (0, .ref b1), (1, .ref b10), (2, .int x2), (3, .int x3)] := hl
        obtain ⟨q11, hqq11, hf⟩ := bn_s hf
        refine c_doF hB hS hA (va_runV (As := [.int x3]) (rest := []) X.1 (cm_X2_deskAt l F D ct _ _ b10 x3 hk_b10 _ hqq11) (cwV 1 hts (gd_V km_X6_306 ki_X2_deskAt ks_X2_deskAt kin_RX2 kc_X2_deskAt) rfl rfl rfl (by decide +kernel) ⟨by dsimp only; omega, by dsimp only; omega⟩) (c_preV X hB hk_b10 rfl rfl) rfl rfl hl.1 rfl (lv_room (Nat.le_of_ble_eq_true rfl)) dX6_giveObject_55 ⟨by dsimp only; omega, by dsimp only; omega⟩) rfl (fun H locs hB hT hS => ?_)
        have hk_q11 := hT
        refine lv_astoreq (lv' := [(6, va_rf q11), (5, .int v4), (4, .ref b3), (0, .ref b1), (1, .ref b10), (2, .int x2), (3, .int x3)]) hx hb dX6_giveObject_58 hl (by decide) rfl (fun ls hl => ?_)
        refine lv_aloadq hx hb dX6_giveObject_60 (lv_at hl 0 rfl) ?_
        refine lv_aload_n hx hb dX6_giveObject_62 rfl (lv_at hl 4 rfl) ?_
        refine c_get X hB hk_b10 rfl rfl kw_X2 3 252 (by decide) kf_X6_252 rfl rfl dX6_giveObject_63 ?_
        obtain ⟨q12, eq12, hf⟩ := st1_s hf
        rw [← eq12]
        have hk_q12 : tyo G 4 q12 := by rw [eq12]; exact hB.2.2.2.1 (2, 35, 4) (by decide) _ hk_b10
        obtain ⟨b13, eb13, hf2⟩ := nn_s hf
        clear hf
        subst eb13
        have hf := hf2
        clear hf2
        have hk_b13 := hk_q11 b13 rfl
        have hl : lv_has ls 7 [(6, .ref b13), (5, .int v4), (4, .ref b3), (0, .ref b1), (1, .ref b10), (2, .int x2), (3, .int x3)] := hl
        obtain ⟨S14, hqS14, hf⟩ := bn_s hf
        refine c_doF hB hS hA (va_runV (As := [va_rf q12]) (rest := []) X.1 (cm_X3_makeRoom l F D ct _ _ b13 q12 hk_b13 hk_q12 _ hqS14) (cwV 1 hts (gd_V km_X6_347 ki_X3_makeRoom ks_X3_makeRoom kin_RX3 kc_X3_makeRoom) rfl rfl rfl (by decide +kernel) ⟨by dsimp only; omega, by dsimp only; omega⟩) (c_preV X hB hk_b13 rfl rfl) rfl rfl hl.1 rfl (lv_room (Nat.le_of_ble_eq_true rfl)) dX6_giveObject_66 ⟨by dsimp only; omega, by dsimp only; omega⟩) rfl (fun H locs hB hT hS => ?_)
        refine lv_aload hx hb dX6_giveObject_69 (lv_at hl 0 rfl) ?_
        refine c_get X hB hk_b13 rfl rfl kw_X3 0 235 (by decide) kf_X6_235 rfl rfl dX6_giveObject_71 ?_
        obtain ⟨q15, eq15, hf⟩ := st1_s hf
        rw [← eq15]
        have hk_q15 : tyo G 4 q15 := by rw [eq15]; exact hB.2.2.2.1 (3, 48, 4) (by decide) _ hk_b13
        obtain ⟨b16, eb16, hf2⟩ := nn_s hf
        clear hf
        subst eb16
        have hf := hf2
        clear hf2
        have hk_b16 := hk_q15 b16 rfl
        have hl : lv_has ls 7 [(6, .ref b13), (5, .int v4), (4, .ref b3), (0, .ref b1), (1, .ref b10), (2, .int x2), (3, .int x3)] := hl
        refine c_get X hB hk_b16 rfl rfl kw_X4 1 241 (by decide) kf_X6_241 rfl rfl dX6_giveObject_74 ?_
        refine lv_iconst (v := 3) hx hb dX6_giveObject_77 (by decide) ?_
        refine lv_icmp_ge (tgt := 93) hx hb dX6_giveObject_78 (by decide) (fun hc17 => ?_) (fun hc17 => ?_)
        · have hf := if_t hf hc17
          refine lv_aload hx hb dX6_giveObject_93 (lv_at hl 2 rfl) ?_
          refine lv_iload hx hb dX6_giveObject_95 (lv_at hl 1 rfl) ?_
          obtain ⟨S18, hqS18, hf⟩ := bn_s hf
          refine c_doF hB hS hA (va_runV (As := [.int v4]) (rest := []) X.1 (cm_X5_lay l F D ct _ _ b3 v4 hk_b3 _ hqS18) (cwV 1 hts (gd_V km_X6_353 ki_X5_lay ks_X5_lay kin_RX5 kc_X5_lay) rfl rfl rfl (by decide +kernel) ⟨by dsimp only; omega, by dsimp only; omega⟩) (c_preV X hB hk_b3 rfl rfl) rfl rfl hl.1 rfl (lv_room (Nat.le_of_ble_eq_true rfl)) dX6_giveObject_97 ⟨by dsimp only; omega, by dsimp only; omega⟩) rfl (fun H locs hB hT hS => ?_)
          refine lv_iconst (v := 1) hx hb dX6_giveObject_100 (by decide) ?_
          obtain ⟨rfl, rfl⟩ := Prod.mk.inj (Option.some.inj hf)
          exact W.zret hx hb hr rfl (fun t ht hW => c_endF X hB trivial hS ht hW) hS.2.2 dX6_giveObject_101 hlk
        · have hf := if_f hf hc17
          refine lv_aload hx hb dX6_giveObject_81 (lv_at hl 0 rfl) ?_
          refine c_get X hB hk_b13 rfl rfl kw_X3 0 235 (by decide) kf_X6_235 rfl rfl dX6_giveObject_83 ?_
          obtain ⟨q19, eq19, hf⟩ := st1_s hf
          rw [← eq19]
          have hk_q19 : tyo G 4 q19 := by rw [eq19]; exact hB.2.2.2.1 (3, 48, 4) (by decide) _ hk_b13
          refine lv_iload_n hx hb dX6_giveObject_86 rfl (lv_at hl 5 rfl) ?_
          obtain ⟨b20, eb20, hf2⟩ := nn_s hf
          clear hf
          subst eb20
          have hf := hf2
          clear hf2
          have hk_b20 := hk_q19 b20 rfl
          have hl : lv_has ls 7 [(6, .ref b13), (5, .int v4), (4, .ref b3), (0, .ref b1), (1, .ref b10), (2, .int x2), (3, .int x3)] := hl
          obtain ⟨S21, hqS21, hf⟩ := bn_s hf
          refine c_doF hB hS hA (va_runV (As := [.int x2]) (rest := []) X.1 (cm_X4_put l F D ct _ _ b20 x2 hk_b20 _ hqS21) (cwV 1 hts (gd_V km_X6_350 ki_X4_put ks_X4_put kin_RX4 kc_X4_put) rfl rfl rfl (by decide +kernel) ⟨by dsimp only; omega, by dsimp only; omega⟩) (c_preV X hB hk_b20 rfl rfl) rfl rfl hl.1 rfl (lv_room (Nat.le_of_ble_eq_true rfl)) dX6_giveObject_87 ⟨by dsimp only; omega, by dsimp only; omega⟩) rfl (fun H locs hB hT hS => ?_)
          refine lv_goto (tgt := 100) hx hb dX6_giveObject_90 (by decide) ?_
          refine lv_iconst (v := 1) hx hb dX6_giveObject_100 (by decide) ?_
          obtain ⟨rfl, rfl⟩ := Prod.mk.inj (Option.some.inj hf)
          exact W.zret hx hb hr rfl (fun t ht hW => c_endF X hB trivial hS ht hW) hS.2.2 dX6_giveObject_101 hlk
      · have hf := if_f hf hc8
        refine lv_iconst (v := 0) hx hb dX6_giveObject_44 (by decide) ?_
        obtain ⟨rfl, rfl⟩ := Prod.mk.inj (Option.some.inj hf)
        exact W.zret hx hb hr rfl (fun t ht hW => c_endF X hB trivial hS ht hW) hS.2.2 dX6_giveObject_45 hlk
