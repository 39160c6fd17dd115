/-! X7_giveWithin -/
def rf_giveWithin_37 (F : Nat) (R : Rst) (x1 : Int32) (x2 : Int32) (y0 : Int32) : Option (Int32 × Rst) := (rf_right F R y0 (2 : Int32)).bind fun z4 => st2 z4 fun z4v z4R => if z4v = 0 then (some ((0 : Int32), z4R)) else ((rf_gives F 9 z4R x1 x2).bind fun R6 => some ((0 : Int32), R6))
def rf_giveWithin (F : Nat) (R : Rst) (x1 : Int32) (x2 : Int32) (x3 : Int32) : Option (Int32 × Rst) := (rf_isArena F R x1).bind fun z1 => st2 z1 fun z1v z1R => if z1v = 0 then (some ((0 : Int32), z1R)) else (if x3 ≤ 0 then (rf_giveWithin_37 F z1R x1 x2 (0 : Int32)) else ((rf_rounded F z1R x1 x3).bind fun v7 => (rf_just F z1R x1 x2 v7 (4 : Int32)).bind fun v8 => if v8 = ((-1) : Int32) then (rf_giveWithin_37 F z1R x1 x2 (0 : Int32)) else (rf_giveWithin_37 F z1R x1 x2 (1 : Int32))))
set_option maxHeartbeats 4000000 in
set_option maxRecDepth 100000 in
theorem rm_giveWithin (l : Launch) (F : Nat) (D : va_G) (cI cZ : ClassId) (o : Nat) (q : Nat → Nat) (R : Rst) (x1 : Int32) (x2 : Int32) (x3 : Int32) (r : Int32) (R' : Rst) (hf : rf_giveWithin F R x1 x2 x3 = some (r, R'))   : rMet l yX7_giveWithin wq_X7_giveWithin { frames := 18, cells := 0, slots := 0, locals := 864 } D cI cZ o q [.ref o, .int x1, .int x2, .int x3] R (some (.int r)) R' := by
  refine rMet_of (cc := cX7_giveWithin) (maxL := 4) (ret := (some .int)) (by decide) rfl rfl (kw_h kw_X7) (Nat.le_of_ble_eq_true rfl) ?_
  intro p e s m below meth c X hr hlk ls hl hB hS
  have hx := X.1.1
  have hb := X.1.2.1
  have hown := X.1.2.2.2.1
  have hts := X.1.2.2.2.2
  have hl : lv_has ls 4 [(0, .ref o), (1, .int x1), (2, .int x2), (3, .int x3)] := hl
  generalize hargs : ([.ref o, .int x1, .int x2, .int x3] : List Value).toArray = args at X hts hS ⊢
  have J_37 : ∀ (R : Rst) (x1 : Int32) (x2 : Int32) (y0 : Int32), rf_giveWithin_37 F R x1 x2 y0 = some (r, R') → ∀ (H : Heap) (locs : List Loc) (ls : Array Slot), rB D cI cZ o q R H → va_S (rA o q) s.heap H locs → lv_has ls 4 [(0, .ref o), (1, .int x1), (2, .int x2)] → W p l e { frames := 18, cells := 0, slots := 0, locals := 864 } s m args below meth c H locs 0 0 (MQ below (mq (some (.int r)) (rW D cI cZ o q R') (rA o q)) args s 0 0 (rA o q)) (F0 m 37 ls [.int y0, .ref o]) := by
    intro R x1 x2 y0 hf H locs ls hB hS hl
    unfold rf_giveWithin_37 at hf
    refine lv_iconst (v := 2) hx hb dX7_giveWithin_37 (by decide) ?_
    obtain ⟨⟨z4v, z4R⟩, hqz4, hf⟩ := bn_s hf
    have hf := st2_s hf
    refine r_callV (As := [.int y0, .int 2]) (rest := []) X hB hS (rm_right l F D cI cZ o q _ _ _  _ _ hqz4) (cwV 2 hts (gd_V km_X7_97 ki_X7_right ks_X7_right kin_RX7 kc_X7_right) rfl rfl rfl (by decide +kernel) ⟨by decide, by decide⟩) hl rfl rfl (Nat.le_of_ble_eq_true rfl) dX7_giveWithin_38 ⟨Nat.zero_le _, Nat.zero_le _⟩ rfl (fun H locs hB hS => ?_)
    refine lv_if_eq (tgt := 50) hx hb dX7_giveWithin_41 (by decide) (fun hc5 => ?_) (fun hc5 => ?_)
    · have hf := if_t hf hc5
      refine lv_iconst (v := 0) hx hb dX7_giveWithin_50 (by decide) ?_
      cases hf
      exact r_iret X hB hS hr hlk dX7_giveWithin_51
    · have hf := if_f hf hc5
      refine lv_aload_n hx hb dX7_giveWithin_44 rfl (lv_at hl 0 rfl) ?_
      refine lv_iload_n hx hb dX7_giveWithin_45 rfl (lv_at hl 1 rfl) ?_
      refine lv_iload_n hx hb dX7_giveWithin_46 rfl (lv_at hl 2 rfl) ?_
      obtain ⟨R6, hqR6, hf⟩ := bn_s hf
      refine r_callV (As := [.int x1, .int x2]) (rest := []) X hB hS (rm_gives l F 9 D cI cZ o q _ _ _  _ hqR6) (cwV 2 hts (gd_V km_X7_180 ki_X7_gives ks_X7_gives kin_RX7 kc_X7_gives) rfl rfl rfl (by decide +kernel) ⟨by decide, by decide⟩) hl rfl rfl (Nat.le_of_ble_eq_true rfl) dX7_giveWithin_47 ⟨Nat.zero_le _, Nat.zero_le _⟩ rfl (fun H locs hB hS => ?_)
      refine lv_iconst (v := 0) hx hb dX7_giveWithin_50 (by decide) ?_
      cases hf
      exact r_iret X hB hS hr hlk dX7_giveWithin_51
  unfold rf_giveWithin at hf
  refine lv_aload_n hx hb dX7_giveWithin_0 rfl (lv_at hl 0 rfl) ?_
  refine lv_iload_n hx hb dX7_giveWithin_1 rfl (lv_at hl 1 rfl) ?_
  obtain ⟨⟨z1v, z1R⟩, hqz1, hf⟩ := bn_s hf
  have hf := st2_s hf
  refine r_callV (As := [.int x1]) (rest := []) X hB hS (rm_isArena l F D cI cZ o q _ _  _ _ hqz1) (cwV 1 hts (gd_V km_X7_132 ki_X7_isArena ks_X7_isArena kin_RX7 kc_X7_isArena) rfl rfl rfl (by decide +kernel) ⟨by decide, by decide⟩) hl rfl rfl (Nat.le_of_ble_eq_true rfl) dX7_giveWithin_2 ⟨Nat.zero_le _, Nat.zero_le _⟩ rfl (fun H locs hB hS => ?_)
  refine lv_if_ne (tgt := 10) hx hb dX7_giveWithin_5 (by decide) (fun hc2 => ?_) (fun hc2 => ?_)
  · have hf := if_f hf hc2
    refine lv_aload_n hx hb dX7_giveWithin_10 rfl (lv_at hl 0 rfl) ?_
    refine lv_iload_n hx hb dX7_giveWithin_11 rfl (lv_at hl 3 rfl) ?_
    refine lv_if_le (tgt := 36) hx hb dX7_giveWithin_12 (by decide) (fun hc3 => ?_) (fun hc3 => ?_)
    · have hf := if_t hf hc3
      refine lv_iconst (v := 0) hx hb dX7_giveWithin_36 (by decide) ?_
      exact J_37 z1R x1 x2 (0 : Int32) hf _ _ _ hB hS (lv_sub hl [0, 1, 2] rfl)
    · have hf := if_f hf hc3
      refine lv_aload_n hx hb dX7_giveWithin_15 rfl (lv_at hl 0 rfl) ?_
      refine lv_iload_n hx hb dX7_giveWithin_16 rfl (lv_at hl 1 rfl) ?_
      refine lv_iload_n hx hb dX7_giveWithin_17 rfl (lv_at hl 2 rfl) ?_
      refine lv_aload_n hx hb dX7_giveWithin_18 rfl (lv_at hl 0 rfl) ?_
      refine lv_iload_n hx hb dX7_giveWithin_19 rfl (lv_at hl 1 rfl) ?_
      refine lv_iload_n hx hb dX7_giveWithin_20 rfl (lv_at hl 3 rfl) ?_
      obtain ⟨v7, hqv7, hf⟩ := bn_s hf
      refine r_callV (As := [.int x1, .int x3]) (rest := [.int x2, .int x1, .ref o, .ref o]) X hB hS (rm_rounded l F D cI cZ o q _ _ _  _ hqv7) (cwV 2 hts (gd_V km_X7_215 ki_X7_rounded ks_X7_rounded kin_RX7 kc_X7_rounded) rfl rfl rfl (by decide +kernel) ⟨by decide, by decide⟩) hl rfl rfl (Nat.le_of_ble_eq_true rfl) dX7_giveWithin_21 ⟨Nat.zero_le _, Nat.zero_le _⟩ rfl (fun H locs hB hS => ?_)
      refine lv_iconst (v := 4) hx hb dX7_giveWithin_24 (by decide) ?_
      obtain ⟨v8, hqv8, hf⟩ := bn_s hf
      refine r_callV (As := [.int x1, .int x2, .long v7, .int 4]) (rest := [.ref o]) X hB hS (rm_just l F D cI cZ o q _ _ _ _ _  _ hqv8) (cwV 4 hts (gd_V km_X7_225 ki_X7_just ks_X7_just kin_RX7 kc_X7_just) rfl rfl rfl (by decide +kernel) ⟨by decide, by decide⟩) hl rfl rfl (Nat.le_of_ble_eq_true rfl) dX7_giveWithin_25 ⟨Nat.zero_le _, Nat.zero_le _⟩ rfl (fun H locs hB hS => ?_)
      refine lv_iconst (v := (-1)) hx hb dX7_giveWithin_28 (by decide) ?_
      refine lv_icmp_eq (tgt := 36) hx hb dX7_giveWithin_29 (by decide) (fun hc9 => ?_) (fun hc9 => ?_)
      · have hf := if_t hf hc9
        refine lv_iconst (v := 0) hx hb dX7_giveWithin_36 (by decide) ?_
        exact J_37 z1R x1 x2 (0 : Int32) hf _ _ _ hB hS (lv_sub hl [0, 1, 2] rfl)
      · have hf := if_f hf hc9
        refine lv_iconst (v := 1) hx hb dX7_giveWithin_32 (by decide) ?_
        refine lv_goto (tgt := 37) hx hb dX7_giveWithin_33 (by decide) ?_
        exact J_37 z1R x1 x2 (1 : Int32) hf _ _ _ hB hS (lv_sub hl [0, 1, 2] rfl)
  · have hf := if_t hf hc2
    refine lv_iconst (v := 0) hx hb dX7_giveWithin_8 (by decide) ?_
    cases hf
    exact r_iret X hB hS hr hlk dX7_giveWithin_9
/-! X7_bounds -/
def rf_bounds_30 (F : Nat) (R : Rst) (x1 : Int32) (x2 : Int32) (x3 : Int32) (y0 : Int32) : Option Rst := (rf_right F R y0 (2 : Int32)).bind fun z4 => st2 z4 fun z4v z4R => if z4v = 0 then (some z4R) else (wr z4R 6 x1 x2 fun R6 => wr R6 7 x1 x3 fun R7 => some R7)
def rf_bounds (F : Nat) (R : Rst) (x1 : Int32) (x2 : Int32) (x3 : Int32) : Option Rst := (rf_isArena F R x1).bind fun z1 => st2 z1 fun z1v z1R => if z1v = 0 then (some z1R) else (if x2 < 0 then (rf_bounds_30 F z1R x1 x2 x3 (0 : Int32)) else (if x3 < x2 then (rf_bounds_30 F z1R x1 x2 x3 (0 : Int32)) else (if (1073741824 : Int32) < x3 then (rf_bounds_30 F z1R x1 x2 x3 (0 : Int32)) else (rf_bounds_30 F z1R x1 x2 x3 (1 : Int32)))))
set_option maxHeartbeats 4000000 in
set_option maxRecDepth 100000 in
theorem rm_bounds (l : Launch) (F : Nat) (D : va_G) (cI cZ : ClassId) (o : Nat) (q : Nat → Nat) (R : Rst) (x1 : Int32) (x2 : Int32) (x3 : Int32) (R' : Rst) (hf : rf_bounds F R x1 x2 x3 = some R')   : rMet l yX7_bounds wq_X7_bounds { frames := 2, cells := 0, slots := 0, locals := 43 } D cI cZ o q [.ref o, .int x1, .int x2, .int x3] R none R' := by
  refine rMet_of (cc := cX7_bounds) (maxL := 4) (ret := none) (by decide) rfl rfl (kw_h kw_X7) (Nat.le_of_ble_eq_true rfl) ?_
  intro p e s m below meth c X hr hlk ls hl hB hS
  have hx := X.1.1
  have hb := X.1.2.1
  have hown := X.1.2.2.2.1
  have hts := X.1.2.2.2.2
  have hl : lv_has ls 4 [(0, .ref o), (1, .int x1), (2, .int x2), (3, .int x3)] := hl
  generalize hargs : ([.ref o, .int x1, .int x2, .int x3] : List Value).toArray = args at X hts hS ⊢
  have J_30 : ∀ (R : Rst) (x1 : Int32) (x2 : Int32) (x3 : Int32) (y0 : Int32), rf_bounds_30 F R x1 x2 x3 y0 = some R' → ∀ (H : Heap) (locs : List Loc) (ls : Array Slot), rB D cI cZ o q R H → va_S (rA o q) s.heap H locs → lv_has ls 4 [(0, .ref o), (1, .int x1), (2, .int x2), (3, .int x3)] → W p l e { frames := 2, cells := 0, slots := 0, locals := 43 } s m args below meth c H locs 0 0 (MQ below (mq none (rW D cI cZ o q R') (rA o q)) args s 0 0 (rA o q)) (F0 m 30 ls [.int y0, .ref o]) := by
    intro R x1 x2 x3 y0 hf H locs ls hB hS hl
    unfold rf_bounds_30 at hf
    refine lv_iconst (v := 2) hx hb dX7_bounds_30 (by decide) ?_
    obtain ⟨⟨z4v, z4R⟩, hqz4, hf⟩ := bn_s hf
    have hf := st2_s hf
    refine r_callV (As := [.int y0, .int 2]) (rest := []) X hB hS (rm_right l F D cI cZ o q _ _ _  _ _ hqz4) (cwV 2 hts (gd_V km_X7_97 ki_X7_right ks_X7_right kin_RX7 kc_X7_right) rfl rfl rfl (by decide +kernel) ⟨by decide, by decide⟩) hl rfl rfl (Nat.le_of_ble_eq_true rfl) dX7_bounds_31 ⟨Nat.zero_le _, Nat.zero_le _⟩ rfl (fun H locs hB hS => ?_)
    refine lv_if_ne (tgt := 38) hx hb dX7_bounds_34 (by decide) (fun hc5 => ?_) (fun hc5 => ?_)
    · have hf := if_f hf hc5
      refine lv_aload_n hx hb dX7_bounds_38 rfl (lv_at hl 0 rfl) ?_
      refine r_get X hB 6 22 (by decide) (kw_m kf_X7_22) rfl rfl dX7_bounds_39 ?_
      refine lv_iload_n hx hb dX7_bounds_42 rfl (lv_at hl 1 rfl) ?_
      refine lv_iload_n hx hb dX7_bounds_43 rfl (lv_at hl 2 rfl) ?_
      obtain ⟨R6, eR6, hiR6, hf⟩ := wr_s hf
      refine r_st X hB hS 6 5 (rat_6 cI cZ o q z4R) (rset_6 cI cZ o q z4R _ _) hiR6 dX7_bounds_44 (fun H locs hB hS => ?_)
      rw [← eR6] at hB
      refine lv_aload_n hx hb dX7_bounds_45 rfl (lv_at hl 0 rfl) ?_
      refine r_get X hB 7 25 (by decide) (kw_m kf_X7_25) rfl rfl dX7_bounds_46 ?_
      refine lv_iload_n hx hb dX7_bounds_49 rfl (lv_at hl 1 rfl) ?_
      refine lv_iload_n hx hb dX7_bounds_50 rfl (lv_at hl 3 rfl) ?_
      obtain ⟨R7, eR7, hiR7, hf⟩ := wr_s hf
      refine r_st X hB hS 7 6 (rat_7 cI cZ o q R6) (rset_7 cI cZ o q R6 _ _) hiR7 dX7_bounds_51 (fun H locs hB hS => ?_)
      rw [← eR7] at hB
      cases hf
      exact r_vret X hB hS hr hlk dX7_bounds_52
    · have hf := if_t hf hc5
      cases hf
      exact r_vret X hB hS hr hlk dX7_bounds_37
  unfold rf_bounds at hf
  refine lv_aload_n hx hb dX7_bounds_0 rfl (lv_at hl 0 rfl) ?_
  refine lv_iload_n hx hb dX7_bounds_1 rfl (lv_at hl 1 rfl) ?_
  obtain ⟨⟨z1v, z1R⟩, hqz1, hf⟩ := bn_s hf
  have hf := st2_s hf
  refine r_callV (As := [.int x1]) (rest := []) X hB hS (rm_isArena l F D cI cZ o q _ _  _ _ hqz1) (cwV 1 hts (gd_V km_X7_132 ki_X7_isArena ks_X7_isArena kin_RX7 kc_X7_isArena) rfl rfl rfl (by decide +kernel) ⟨by decide, by decide⟩) hl rfl rfl (Nat.le_of_ble_eq_true rfl) dX7_bounds_2 ⟨Nat.zero_le _, Nat.zero_le _⟩ rfl (fun H locs hB hS => ?_)
  refine lv_if_ne (tgt := 9) hx hb dX7_bounds_5 (by decide) (fun hc2 => ?_) (fun hc2 => ?_)
  · have hf := if_f hf hc2
    refine lv_aload_n hx hb dX7_bounds_9 rfl (lv_at hl 0 rfl) ?_
    refine lv_iload_n hx hb dX7_bounds_10 rfl (lv_at hl 2 rfl) ?_
    refine lv_if_lt (tgt := 29) hx hb dX7_bounds_11 (by decide) (fun hc3 => ?_) (fun hc3 => ?_)
    · have hf := if_t hf hc3
      refine lv_iconst (v := 0) hx hb dX7_bounds_29 (by decide) ?_
      exact J_30 z1R x1 x2 x3 (0 : Int32) hf _ _ _ hB hS (lv_sub hl [0, 1, 2, 3] rfl)
    · have hf := if_f hf hc3
      refine lv_iload_n hx hb dX7_bounds_14 rfl (lv_at hl 3 rfl) ?_
      refine lv_iload_n hx hb dX7_bounds_15 rfl (lv_at hl 2 rfl) ?_
      refine lv_icmp_lt (tgt := 29) hx hb dX7_bounds_16 (by decide) (fun hc8 => ?_) (fun hc8 => ?_)
      · have hf := if_t hf hc8
        refine lv_iconst (v := 0) hx hb dX7_bounds_29 (by decide) ?_
        exact J_30 z1R x1 x2 x3 (0 : Int32) hf _ _ _ hB hS (lv_sub hl [0, 1, 2, 3] rfl)
      · have hf := if_f hf hc8
        refine lv_iload_n hx hb dX7_bounds_19 rfl (lv_at hl 3 rfl) ?_
        refine lv_ldc (v := 1073741824) hx hb hown (hts (.constant RX7 106 1073741824) (kw_m kk_X7_106)) dX7_bounds_20 ?_
        refine lv_icmp_gt (tgt := 29) hx hb dX7_bounds_22 (by decide) (fun hc9 => ?_) (fun hc9 => ?_)
        · have hf := if_t hf hc9
          refine lv_iconst (v := 0) hx hb dX7_bounds_29 (by decide) ?_
          exact J_30 z1R x1 x2 x3 (0 : Int32) hf _ _ _ hB hS (lv_sub hl [0, 1, 2, 3] rfl)
        · have hf := if_f hf hc9
          refine lv_iconst (v := 1) hx hb dX7_bounds_25 (by decide) ?_
          refine lv_goto (tgt := 30) hx hb dX7_bounds_26 (by decide) ?_
          exact J_30 z1R x1 x2 x3 (1 : Int32) hf _ _ _ hB hS (lv_sub hl [0, 1, 2, 3] rfl)
  · have hf := if_t hf hc2
    cases hf
    exact r_vret X hB hS hr hlk dX7_bounds_8
/-! X7_purge -/
def rf_purge (F : Nat) (R : Rst) (x1 : Int32) : Option (Int32 × Rst) := (rf_isArena F R x1).bind fun z1 => st2 z1 fun z1v z1R => if z1v = 0 then (some ((0 : Int32), z1R)) else ((rf_purges F z1R x1).bind fun z3 => st2 z3 fun z3v z3R => some (z3v, z3R))
set_option maxHeartbeats 4000000 in
set_option maxRecDepth 100000 in
theorem rm_purge (l : Launch) (F : Nat) (D : va_G) (cI cZ : ClassId) (o : Nat) (q : Nat → Nat) (R : Rst) (x1 : Int32) (r : Int32) (R' : Rst) (hf : rf_purge F R x1 = some (r, R'))   : rMet l yX7_purge wq_X7_purge { frames := 19, cells := 0, slots := 0, locals := 889 } D cI cZ o q [.ref o, .int x1] R (some (.int r)) R' := by
  refine rMet_of (cc := cX7_purge) (maxL := 2) (ret := (some .int)) (by decide) rfl rfl (kw_h kw_X7) (Nat.le_of_ble_eq_true rfl) ?_
  intro p e s m below meth c X hr hlk ls hl hB hS
  have hx := X.1.1
  have hb := X.1.2.1
  have hown := X.1.2.2.2.1
  have hts := X.1.2.2.2.2
  have hl : lv_has ls 2 [(0, .ref o), (1, .int x1)] := hl
  generalize hargs : ([.ref o, .int x1] : List Value).toArray = args at X hts hS ⊢
  unfold rf_purge at hf
  refine lv_aload_n hx hb dX7_purge_0 rfl (lv_at hl 0 rfl) ?_
  refine lv_iload_n hx hb dX7_purge_1 rfl (lv_at hl 1 rfl) ?_
  obtain ⟨⟨z1v, z1R⟩, hqz1, hf⟩ := bn_s hf
  have hf := st2_s hf
  refine r_callV (As := [.int x1]) (rest := []) X hB hS (rm_isArena l F D cI cZ o q _ _  _ _ hqz1) (cwV 1 hts (gd_V km_X7_132 ki_X7_isArena ks_X7_isArena kin_RX7 kc_X7_isArena) rfl rfl rfl (by decide +kernel) ⟨by decide, by decide⟩) hl rfl rfl (Nat.le_of_ble_eq_true rfl) dX7_purge_2 ⟨Nat.zero_le _, Nat.zero_le _⟩ rfl (fun H locs hB hS => ?_)
  refine lv_if_eq (tgt := 16) hx hb dX7_purge_5 (by decide) (fun hc2 => ?_) (fun hc2 => ?_)
  · have hf := if_t hf hc2
    refine lv_iconst (v := 0) hx hb dX7_purge_16 (by decide) ?_
    cases hf
    exact r_iret X hB hS hr hlk dX7_purge_17
  · have hf := if_f hf hc2
    refine lv_aload_n hx hb dX7_purge_8 rfl (lv_at hl 0 rfl) ?_
    refine lv_iload_n hx hb dX7_purge_9 rfl (lv_at hl 1 rfl) ?_
    obtain ⟨⟨z3v, z3R⟩, hqz3, hf⟩ := bn_s hf
    have hf := st2_s hf
    refine r_callV (As := [.int x1]) (rest := []) X hB hS (rm_purges l F D cI cZ o q _ _  _ _ hqz3) (cwV 1 hts (gd_V km_X7_166 ki_X7_purges ks_X7_purges kin_RX7 kc_X7_purges) rfl rfl rfl (by decide +kernel) ⟨by decide, by decide⟩) hl rfl rfl (Nat.le_of_ble_eq_true rfl) dX7_purge_10 ⟨Nat.zero_le _, Nat.zero_le _⟩ rfl (fun H locs hB hS => ?_)
    refine lv_goto (tgt := 17) hx hb dX7_purge_13 (by decide) ?_
    cases hf
    exact r_iret X hB hS hr hlk dX7_purge_17
/-! X7_tags -/
def rf_tags (F : Nat) (R : Rst) : Option (Int32 × Rst) := st1 (rput R 0 (0 : Int32)) fun R1 => (rf_left F R1 ).bind fun v2 => some (v2, R1)
set_option maxHeartbeats 4000000 in
set_option maxRecDepth 100000 in
theorem rm_tags (l : Launch) (F : Nat) (D : va_G) (cI cZ : ClassId) (o : Nat) (q : Nat → Nat) (R : Rst) (r : Int32) (R' : Rst) (hf : rf_tags F R = some (r, R'))   : rMet l yX7_tags wq_X7_tags { frames := 1, cells := 0, slots := 0, locals := 20 } D cI cZ o q [.ref o] R (some (.int r)) R' := by
  refine rMet_of (cc := cX7_tags) (maxL := 1) (ret := (some .int)) (by decide) rfl rfl (kw_h kw_X7) (Nat.le_of_ble_eq_true rfl) ?_
  intro p e s m below meth c X hr hlk ls hl hB hS
  have hx := X.1.1
  have hb := X.1.2.1
  have hown := X.1.2.2.2.1
  have hts := X.1.2.2.2.2
  have hl : lv_has ls 1 [(0, .ref o)] := hl
  generalize hargs : ([.ref o] : List Value).toArray = args at X hts hS ⊢
  unfold rf_tags at hf
  refine lv_aload_n hx hb dX7_tags_0 rfl (lv_at hl 0 rfl) ?_
  refine lv_iconst (v := 0) hx hb dX7_tags_1 (by decide) ?_
  obtain ⟨R1, eR1, hf⟩ := st1_s hf
  refine r_put X hB hS 0 90 (by decide) (kw_m kf_X7_90) rfl rfl rfl (rput_0 cI cZ o q R _) dX7_tags_2 (fun H locs hB hS => ?_)
  rw [← eR1] at hB
  refine lv_aload_n hx hb dX7_tags_5 rfl (lv_at hl 0 rfl) ?_
  obtain ⟨v2, hqv2, hf⟩ := bn_s hf
  refine r_callV (As := []) (rest := []) X hB hS (rm_left l F D cI cZ o q _  _ hqv2) (cwV 0 hts (gd_V km_X7_135 ki_X7_left ks_X7_left kin_RX7 kc_X7_left) rfl rfl rfl (by decide +kernel) ⟨by decide, by decide⟩) hl rfl rfl (Nat.le_of_ble_eq_true rfl) dX7_tags_6 ⟨Nat.zero_le _, Nat.zero_le _⟩ rfl (fun H locs hB hS => ?_)
  cases hf
  exact r_iret X hB hS hr hlk dX7_tags_9
/-! X7_heldIn -/
def rf_heldIn_4 (F : Nat) (R : Rst) : Nat → Int32 → Int32 → Int32 → Option Int32
  | 0 => fun _ _ _ => none
  | n + 1 => fun x1 x2 x3 => if (R.1 25) ≤ x3 then (some x2) else (rd R 26 x3 fun v2 => if v2 = x1 then (rd R 27 x3 fun v4 => (rf_slabAt F R x1 v4).bind fun v5 => rd R 17 v5 fun v6 => rd R 2 x1 fun v7 => (rf_heldIn_4 F R n) x1 (x2 + (v6 * v7)) (x3 + 1)) else ((rf_heldIn_4 F R n) x1 x2 (x3 + 1)))
def rf_heldIn (F : Nat) (R : Rst) (x1 : Int32) : Option Int32 := rf_heldIn_4 F R F x1 (0 : Int32) (0 : Int32)
set_option maxHeartbeats 4000000 in
set_option maxRecDepth 100000 in
theorem rm_heldIn (l : Launch) (F : Nat) (D : va_G) (cI cZ : ClassId) (o : Nat) (q : Nat → Nat) (R : Rst) (x1 : Int32) (r : Int32) (hf : rf_heldIn F R x1 = some r)   : rMet l yX7_heldIn wq_X7_heldIn { frames := 1, cells := 0, slots := 0, locals := 23 } D cI cZ o q [.ref o, .int x1] R (some (.int r)) R := by
  refine rMet_of (cc := cX7_heldIn) (maxL := 4) (ret := (some .int)) (by decide) rfl rfl (kw_h kw_X7) (Nat.le_of_ble_eq_true rfl) ?_
  intro p e s m below meth c X hr hlk ls hl hB hS
  have hx := X.1.1
  have hb := X.1.2.1
  have hown := X.1.2.2.2.1
  have hts := X.1.2.2.2.2
  have hl : lv_has ls 4 [(0, .ref o), (1, .int x1)] := hl
  generalize hargs : ([.ref o, .int x1] : List Value).toArray = args at X hts hS ⊢
  have J_4 : ∀ (n_4 : Nat) (x1 : Int32) (x2 : Int32) (x3 : Int32), rf_heldIn_4 F R n_4 x1 x2 x3 = some r → ∀ (H : Heap) (locs : List Loc) (ls : Array Slot), rB D cI cZ o q R H → va_S (rA o q) s.heap H locs → lv_has ls 4 [(0, .ref o), (1, .int x1), (2, .int x2), (3, .int x3)] → W p l e { frames := 1, cells := 0, slots := 0, locals := 23 } s m args below meth c H locs 0 0 (MQ below (mq (some (.int r)) (rW D cI cZ o q R) (rA o q)) args s 0 0 (rA o q)) (F0 m 4 ls []) := by
    intro n_4
    induction n_4 with
    | zero => intro x1 x2 x3 hf; cases hf
    | succ n_4 ih_4 =>
      intro x1 x2 x3 hf H locs ls hB hS hl
      rw [rf_heldIn_4] at hf
      refine lv_iload_n hx hb dX7_heldIn_4 rfl (lv_at hl 3 rfl) ?_
      refine lv_aload_n hx hb dX7_heldIn_5 rfl (lv_at hl 0 rfl) ?_
      refine r_get X hB 25 183 (by decide) (kw_m kf_X7_183) rfl rfl dX7_heldIn_6 ?_
      refine lv_icmp_ge (tgt := 54) hx hb dX7_heldIn_9 (by decide) (fun hc1 => ?_) (fun hc1 => ?_)
      · have hf := if_t hf hc1
        refine lv_iload_n hx hb dX7_heldIn_54 rfl (lv_at hl 2 rfl) ?_
        cases hf
        exact r_iret X hB hS hr hlk dX7_heldIn_55
      · have hf := if_f hf hc1
        refine lv_aload_n hx hb dX7_heldIn_12 rfl (lv_at hl 0 rfl) ?_
        refine r_get X hB 26 72 (by decide) (kw_m kf_X7_72) rfl rfl dX7_heldIn_13 ?_
        refine lv_iload_n hx hb dX7_heldIn_16 rfl (lv_at hl 3 rfl) ?_
        obtain ⟨v2, ev2, hiv2, hf⟩ := rd_s hf
        refine r_ld X hB 26 21 (rat_26 cI cZ o q R) hiv2 ev2 dX7_heldIn_17 ?_
        refine lv_iload_n hx hb dX7_heldIn_18 rfl (lv_at hl 1 rfl) ?_
        refine lv_icmp_ne (tgt := 48) hx hb dX7_heldIn_19 (by decide) (fun hc3 => ?_) (fun hc3 => ?_)
        · have hf := if_f hf hc3
          refine lv_iinc (v := x3 + 1) (lv' := [(3, .int (x3 + 1)), (0, .ref o), (1, .int x1), (2, .int x2)]) hx hb dX7_heldIn_48 hl (k := 3) rfl rfl (by decide) rfl (fun ls hl => ?_)
          refine lv_goto (tgt := 4) hx hb dX7_heldIn_51 (by decide) ?_
          exact ih_4 x1 x2 (x3 + 1) hf _ _ _ hB hS (lv_sub hl [1, 2, 3, 0] rfl)
        · have hf := if_t hf hc3
          refine lv_iload_n hx hb dX7_heldIn_22 rfl (lv_at hl 2 rfl) ?_
          refine lv_aload_n hx hb dX7_heldIn_23 rfl (lv_at hl 0 rfl) ?_
          refine r_get X hB 17 52 (by decide) (kw_m kf_X7_52) rfl rfl dX7_heldIn_24 ?_
          refine lv_aload_n hx hb dX7_heldIn_27 rfl (lv_at hl 0 rfl) ?_
          refine lv_iload_n hx hb dX7_heldIn_28 rfl (lv_at hl 1 rfl) ?_
          refine lv_aload_n hx hb dX7_heldIn_29 rfl (lv_at hl 0 rfl) ?_
          refine r_get X hB 27 75 (by decide) (kw_m kf_X7_75) rfl rfl dX7_heldIn_30 ?_
          refine lv_iload_n hx hb dX7_heldIn_33 rfl (lv_at hl 3 rfl) ?_
          obtain ⟨v4, ev4, hiv4, hf⟩ := rd_s hf
          refine r_ld X hB 27 22 (rat_27 cI cZ o q R) hiv4 ev4 dX7_heldIn_34 ?_
          obtain ⟨v5, hqv5, hf⟩ := bn_s hf
          refine r_callV (As := [.int x1, .int v4]) (rest := [.ref (q 17), .int x2]) X hB hS (rm_slabAt l F D cI cZ o q _ _ _  _ hqv5) (cwV 2 hts (gd_V km_X7_222 ki_X7_slabAt ks_X7_slabAt kin_RX7 kc_X7_slabAt) rfl rfl rfl (by decide +kernel) ⟨by decide, by decide⟩) hl rfl rfl (Nat.le_of_ble_eq_true rfl) dX7_heldIn_35 ⟨Nat.zero_le _, Nat.zero_le _⟩ rfl (fun H locs hB hS => ?_)
          obtain ⟨v6, ev6, hiv6, hf⟩ := rd_s hf
          refine r_ld X hB 17 15 (rat_17 cI cZ o q R) hiv6 ev6 dX7_heldIn_38 ?_
          refine lv_aload_n hx hb dX7_heldIn_39 rfl (lv_at hl 0 rfl) ?_
          refine r_get X hB 2 7 (by decide) (kw_m kf_X7_7) rfl rfl dX7_heldIn_40 ?_
          refine lv_iload_n hx hb dX7_heldIn_43 rfl (lv_at hl 1 rfl) ?_
          obtain ⟨v7, ev7, hiv7, hf⟩ := rd_s hf
          refine r_ld X hB 2 1 (rat_2 cI cZ o q R) hiv7 ev7 dX7_heldIn_44 ?_
          refine lv_imul hx hb dX7_heldIn_45 ?_
          refine lv_iadd hx hb dX7_heldIn_46 ?_
          refine lv_istore_n (lv' := [(2, .int (x2 + (v6 * v7))), (0, .ref o), (1, .int x1), (3, .int x3)]) hx hb dX7_heldIn_47 rfl hl (by decide) rfl (fun ls hl => ?_)
          refine lv_iinc (v := x3 + 1) (lv' := [(3, .int (x3 + 1)), (2, .int (x2 + (v6 * v7))), (0, .ref o), (1, .int x1)]) hx hb dX7_heldIn_48 hl (k := 3) rfl rfl (by decide) rfl (fun ls hl => ?_)
          refine lv_goto (tgt := 4) hx hb dX7_heldIn_51 (by decide) ?_
          exact ih_4 x1 (x2 + (v6 * v7)) (x3 + 1) hf _ _ _ hB hS (lv_sub hl [2, 3, 1, 0] rfl)
  unfold rf_heldIn at hf
  refine lv_iconst (v := 0) hx hb dX7_heldIn_0 (by decide) ?_
  refine lv_istore_n (lv' := [(2, .int 0), (0, .ref o), (1, .int x1)]) hx hb dX7_heldIn_1 rfl hl (by decide) rfl (fun ls hl => ?_)
  refine lv_iconst (v := 0) hx hb dX7_heldIn_2 (by decide) ?_
  refine lv_istore_n (lv' := [(3, .int 0), (2, .int 0), (0, .ref o), (1, .int x1)]) hx hb dX7_heldIn_3 rfl hl (by decide) rfl (fun ls hl => ?_)
  exact J_4 F x1 (0 : Int32) (0 : Int32) hf _ _ _ hB hS (lv_sub hl [2, 3, 1, 0] rfl)
/-! X7_of -/
def rf_of_43 (F : Nat) (k_6 : Int32 → Int32 → Int32 → Int32 → Int32 → Option Int32) (R : Rst) (x1 : Int32) (x2 : Int32) (x3 : Int32) (x4 : Int32) (x5 : Int32) : Option Int32 := if x3 = 0 then (k_6 x1 x2 x3 (x4 + 1) (x5 + 1)) else (rd R 13 x5 fun v6 => k_6 x1 x2 x3 (x4 + v6) (x5 + 1))
def rf_of_6 (F : Nat) (R : Rst) : Nat → Int32 → Int32 → Int32 → Int32 → Int32 → Option Int32
  | 0 => fun _ _ _ _ _ => none
  | n + 1 => fun x1 x2 x3 x4 x5 => if (R.1 10) ≤ x5 then (some x4) else (rd R 11 x5 fun v2 => if v2 = x1 then (if x2 = (9 : Int32) then (rf_of_43 F (rf_of_6 F R n) R x1 x2 x3 x4 x5) else (rd R 14 x5 fun v7 => if v7 = x2 then (rf_of_43 F (rf_of_6 F R n) R x1 x2 x3 x4 x5) else ((rf_of_6 F R n) x1 x2 x3 x4 (x5 + 1)))) else ((rf_of_6 F R n) x1 x2 x3 x4 (x5 + 1)))
def rf_of (F : Nat) (R : Rst) (x1 : Int32) (x2 : Int32) (x3 : Int32) : Option Int32 := rf_of_6 F R F x1 x2 x3 (0 : Int32) (0 : Int32)
set_option maxHeartbeats 4000000 in
set_option maxRecDepth 100000 in
theorem rm_of (l : Launch) (F : Nat) (D : va_G) (cI cZ : ClassId) (o : Nat) (q : Nat → Nat) (R : Rst) (x1 : Int32) (x2 : Int32) (x3 : Int32) (r : Int32) (hf : rf_of F R x1 x2 x3 = some r)   : rMet l yX7_of wq_X7_of { frames := 0, cells := 0, slots := 0, locals := 0 } D cI cZ o q [.ref o, .int x1, .int x2, .int x3] R (some (.int r)) R := by
  refine rMet_of (cc := cX7_of) (maxL := 6) (ret := (some .int)) (by decide) rfl rfl (kw_h kw_X7) (Nat.le_of_ble_eq_true rfl) ?_
  intro p e s m below meth c X hr hlk ls hl hB hS
  have hx := X.1.1
  have hb := X.1.2.1
  have hown := X.1.2.2.2.1
  have hts := X.1.2.2.2.2
  have hl : lv_has ls 6 [(0, .ref o), (1, .int x1), (2, .int x2), (3, .int x3)] := hl
  generalize hargs : ([.ref o, .int x1, .int x2, .int x3] : List Value).toArray = args at X hts hS ⊢
  have J_6 : ∀ (n_6 : Nat) (x1 : Int32) (x2 : Int32) (x3 : Int32) (x4 : Int32) (x5 : Int32), rf_of_6 F R n_6 x1 x2 x3 x4 x5 = some r → ∀ (H : Heap) (locs : List Loc) (ls : Array Slot), rB D cI cZ o q R H → va_S (rA o q) s.heap H locs → lv_has ls 6 [(0, .ref o), (1, .int x1), (2, .int x2), (3, .int x3), (4, .int x4), (5, .int x5)] → W p l e { frames := 0, cells := 0, slots := 0, locals := 0 } s m args below meth c H locs 0 0 (MQ below (mq (some (.int r)) (rW D cI cZ o q R) (rA o q)) args s 0 0 (rA o q)) (F0 m 6 ls []) := by
    intro n_6
    induction n_6 with
    | zero => intro x1 x2 x3 x4 x5 hf; cases hf
    | succ n_6 ih_6 =>
      intro x1 x2 x3 x4 x5 hf H locs ls hB hS hl
      rw [rf_of_6] at hf
      have J_43 : ∀ (x1 : Int32) (x2 : Int32) (x3 : Int32) (x4 : Int32) (x5 : Int32), rf_of_43 F (rf_of_6 F R n_6) R x1 x2 x3 x4 x5 = some r → ∀ (H : Heap) (locs : List Loc) (ls : Array Slot), rB D cI cZ o q R H → va_S (rA o q) s.heap H locs → lv_has ls 6 [(0, .ref o), (1, .int x1), (2, .int x2), (3, .int x3), (4, .int x4), (5, .int x5)] → W p l e { frames := 0, cells := 0, slots := 0, locals := 0 } s m args below meth c H locs 0 0 (MQ below (mq (some (.int r)) (rW D cI cZ o q R) (rA o q)) args s 0 0 (rA o q)) (F0 m 43 ls []) := by
        intro x1 x2 x3 x4 x5 hf H locs ls hB hS hl
        unfold rf_of_43 at hf
        refine lv_iload hx hb dX7_of_43 (lv_at hl 4 rfl) ?_
        refine lv_iload_n hx hb dX7_of_45 rfl (lv_at hl 3 rfl) ?_
        refine lv_if_eq (tgt := 59) hx hb dX7_of_46 (by decide) (fun hc5 => ?_) (fun hc5 => ?_)
        · have hf := if_t hf hc5
          refine lv_iconst (v := 1) hx hb dX7_of_59 (by decide) ?_
          refine lv_iadd hx hb dX7_of_60 ?_
          refine lv_istore (lv' := [(4, .int (x4 + 1)), (0, .ref o), (1, .int x1), (2, .int x2), (3, .int x3), (5, .int x5)]) hx hb dX7_of_61 hl (by decide) rfl (fun ls hl => ?_)
          refine lv_iinc (v := x5 + 1) (lv' := [(5, .int (x5 + 1)), (4, .int (x4 + 1)), (0, .ref o), (1, .int x1), (2, .int x2), (3, .int x3)]) hx hb dX7_of_63 hl (k := 5) rfl rfl (by decide) rfl (fun ls hl => ?_)
          refine lv_goto (tgt := 6) hx hb dX7_of_66 (by decide) ?_
          exact ih_6 x1 x2 x3 (x4 + 1) (x5 + 1) hf _ _ _ hB hS (lv_sub hl [2, 3, 4, 5, 1, 0] rfl)
        · have hf := if_f hf hc5
          refine lv_aload_n hx hb dX7_of_49 rfl (lv_at hl 0 rfl) ?_
          refine r_get X hB 13 40 (by decide) (kw_m kf_X7_40) rfl rfl dX7_of_50 ?_
          refine lv_iload hx hb dX7_of_53 (lv_at hl 5 rfl) ?_
          obtain ⟨v6, ev6, hiv6, hf⟩ := rd_s hf
          refine r_ld X hB 13 11 (rat_13 cI cZ o q R) hiv6 ev6 dX7_of_55 ?_
          refine lv_goto (tgt := 60) hx hb dX7_of_56 (by decide) ?_
          refine lv_iadd hx hb dX7_of_60 ?_
          refine lv_istore (lv' := [(4, .int (x4 + v6)), (0, .ref o), (1, .int x1), (2, .int x2), (3, .int x3), (5, .int x5)]) hx hb dX7_of_61 hl (by decide) rfl (fun ls hl => ?_)
          refine lv_iinc (v := x5 + 1) (lv' := [(5, .int (x5 + 1)), (4, .int (x4 + v6)), (0, .ref o), (1, .int x1), (2, .int x2), (3, .int x3)]) hx hb dX7_of_63 hl (k := 5) rfl rfl (by decide) rfl (fun ls hl => ?_)
          refine lv_goto (tgt := 6) hx hb dX7_of_66 (by decide) ?_
          exact ih_6 x1 x2 x3 (x4 + v6) (x5 + 1) hf _ _ _ hB hS (lv_sub hl [2, 3, 4, 5, 1, 0] rfl)
      refine lv_iload hx hb dX7_of_6 (lv_at hl 5 rfl) ?_
      refine lv_aload_n hx hb dX7_of_8 rfl (lv_at hl 0 rfl) ?_
      refine r_get X hB 10 107 (by decide) (kw_m kf_X7_107) rfl rfl dX7_of_9 ?_
      refine lv_icmp_ge (tgt := 69) hx hb dX7_of_12 (by decide) (fun hc1 => ?_) (fun hc1 => ?_)
      · have hf := if_t hf hc1
        refine lv_iload hx hb dX7_of_69 (lv_at hl 4 rfl) ?_
        cases hf
        exact r_iret X hB hS hr hlk dX7_of_71
      · have hf := if_f hf hc1
        refine lv_aload_n hx hb dX7_of_15 rfl (lv_at hl 0 rfl) ?_
        refine r_get X hB 11 34 (by decide) (kw_m kf_X7_34) rfl rfl dX7_of_16 ?_
        refine lv_iload hx hb dX7_of_19 (lv_at hl 5 rfl) ?_
        obtain ⟨v2, ev2, hiv2, hf⟩ := rd_s hf
        refine r_ld X hB 11 9 (rat_11 cI cZ o q R) hiv2 ev2 dX7_of_21 ?_
        refine lv_iload_n hx hb dX7_of_22 rfl (lv_at hl 1 rfl) ?_
        refine lv_icmp_ne (tgt := 63) hx hb dX7_of_23 (by decide) (fun hc3 => ?_) (fun hc3 => ?_)
        · have hf := if_f hf hc3
          refine lv_iinc (v := x5 + 1) (lv' := [(5, .int (x5 + 1)), (0, .ref o), (1, .int x1), (2, .int x2), (3, .int x3), (4, .int x4)]) hx hb dX7_of_63 hl (k := 5) rfl rfl (by decide) rfl (fun ls hl => ?_)
          refine lv_goto (tgt := 6) hx hb dX7_of_66 (by decide) ?_
          exact ih_6 x1 x2 x3 x4 (x5 + 1) hf _ _ _ hB hS (lv_sub hl [1, 2, 3, 4, 5, 0] rfl)
        · have hf := if_t hf hc3
          refine lv_iload_n hx hb dX7_of_26 rfl (lv_at hl 2 rfl) ?_
          refine lv_bipush (v := 9) hx hb dX7_of_27 (by decide) ?_
          refine lv_icmp_eq (tgt := 43) hx hb dX7_of_29 (by decide) (fun hc4 => ?_) (fun hc4 => ?_)
          · have hf := if_t hf hc4
            exact J_43 x1 x2 x3 x4 x5 hf _ _ _ hB hS (lv_sub hl [0, 1, 2, 3, 4, 5] rfl)
          · have hf := if_f hf hc4
            refine lv_aload_n hx hb dX7_of_32 rfl (lv_at hl 0 rfl) ?_
            refine r_get X hB 14 43 (by decide) (kw_m kf_X7_43) rfl rfl dX7_of_33 ?_
            refine lv_iload hx hb dX7_of_36 (lv_at hl 5 rfl) ?_
            obtain ⟨v7, ev7, hiv7, hf⟩ := rd_s hf
            refine r_ld X hB 14 12 (rat_14 cI cZ o q R) hiv7 ev7 dX7_of_38 ?_
            refine lv_iload_n hx hb dX7_of_39 rfl (lv_at hl 2 rfl) ?_
            refine lv_icmp_ne (tgt := 63) hx hb dX7_of_40 (by decide) (fun hc8 => ?_) (fun hc8 => ?_)
            · have hf := if_f hf hc8
              refine lv_iinc (v := x5 + 1) (lv' := [(5, .int (x5 + 1)), (0, .ref o), (1, .int x1), (2, .int x2), (3, .int x3), (4, .int x4)]) hx hb dX7_of_63 hl (k := 5) rfl rfl (by decide) rfl (fun ls hl => ?_)
              refine lv_goto (tgt := 6) hx hb dX7_of_66 (by decide) ?_
              exact ih_6 x1 x2 x3 x4 (x5 + 1) hf _ _ _ hB hS (lv_sub hl [1, 2, 3, 4, 5, 0] rfl)
            · have hf := if_t hf hc8
              exact J_43 x1 x2 x3 x4 x5 hf _ _ _ hB hS (lv_sub hl [0, 1, 2, 3, 4, 5] rfl)
  unfold rf_of at hf
  refine lv_iconst (v := 0) hx hb dX7_of_0 (by decide) ?_
  refine lv_istore (lv' := [(4, .int 0), (0, .ref o), (1, .int x1), (2, .int x2), (3, .int x3)]) hx hb dX7_of_1 hl (by decide) rfl (fun ls hl => ?_)
  refine lv_iconst (v := 0) hx hb dX7_of_3 (by decide) ?_
  refine lv_istore (lv' := [(5, .int 0), (4, .int 0), (0, .ref o), (1, .int x1), (2, .int x2), (3, .int x3)]) hx hb dX7_of_4 hl (by decide) rfl (fun ls hl => ?_)
  exact J_6 F x1 x2 x3 (0 : Int32) (0 : Int32) hf _ _ _ hB hS (lv_sub hl [2, 3, 4, 5, 1, 0] rfl)
/-! X7_spansOf -/
def rf_spansOf_5 (F : Nat) (R : Rst) : Nat → Int32 → Int32 → Int32 → Int32 → Option Int32
  | 0 => fun _ _ _ _ => none
  | n + 1 => fun x1 x2 x3 x4 => if (600 : Int32) ≤ x4 then (some x3) else (rd R 22 x4 fun v2 => if v2 = 0 then ((rf_spansOf_5 F R n) x1 x2 x3 (x4 + 1)) else (rd R 19 x4 fun v4 => if v4 = x1 then (rd R 23 x4 fun v6 => if v6 = 0 then (if x2 = 0 then ((rf_spansOf_5 F R n) x1 x2 (x3 + 1) (x4 + 1)) else ((rf_spansOf_5 F R n) x1 x2 x3 (x4 + 1))) else ((rf_spansOf_5 F R n) x1 x2 (x3 + 1) (x4 + 1))) else ((rf_spansOf_5 F R n) x1 x2 x3 (x4 + 1))))
def rf_spansOf (F : Nat) (R : Rst) (x1 : Int32) (x2 : Int32) : Option Int32 := rf_spansOf_5 F R F x1 x2 (0 : Int32) (0 : Int32)
set_option maxHeartbeats 4000000 in
set_option maxRecDepth 100000 in
theorem rm_spansOf (l : Launch) (F : Nat) (D : va_G) (cI cZ : ClassId) (o : Nat) (q : Nat → Nat) (R : Rst) (x1 : Int32) (x2 : Int32) (r : Int32) (hf : rf_spansOf F R x1 x2 = some r)   : rMet l yX7_spansOf wq_X7_spansOf { frames := 0, cells := 0, slots := 0, locals := 0 } D cI cZ o q [.ref o, .int x1, .int x2] R (some (.int r)) R := by
  refine rMet_of (cc := cX7_spansOf) (maxL := 5) (ret := (some .int)) (by decide) rfl rfl (kw_h kw_X7) (Nat.le_of_ble_eq_true rfl) ?_
  intro p e s m below meth c X hr hlk ls hl hB hS
  have hx := X.1.1
  have hb := X.1.2.1
  have hown := X.1.2.2.2.1
  have hts := X.1.2.2.2.2
  have hl : lv_has ls 5 [(0, .ref o), (1, .int x1), (2, .int x2)] := hl
  generalize hargs : ([.ref o, .int x1, .int x2] : List Value).toArray = args at X hts hS ⊢
  have J_5 : ∀ (n_5 : Nat) (x1 : Int32) (x2 : Int32) (x3 : Int32) (x4 : Int32), rf_spansOf_5 F R n_5 x1 x2 x3 x4 = some r → ∀ (H : Heap) (locs : List Loc) (ls : Array Slot), rB D cI cZ o q R H → va_S (rA o q) s.heap H locs → lv_has ls 5 [(0, .ref o), (1, .int x1), (2, .int x2), (3, .int x3), (4, .int x4)] → W p l e { frames := 0, cells := 0, slots := 0, locals := 0 } s m args below meth c H locs 0 0 (MQ below (mq (some (.int r)) (rW D cI cZ o q R) (rA o q)) args s 0 0 (rA o q)) (F0 m 5 ls []) := by
    intro n_5
    induction n_5 with
    | zero => intro x1 x2 x3 x4 hf; cases hf
    | succ n_5 ih_5 =>
      intro x1 x2 x3 x4 hf H locs ls hB hS hl
      rw [rf_spansOf_5] at hf
      refine lv_iload hx hb dX7_spansOf_5 (lv_at hl 4 rfl) ?_
      refine lv_sipush (v := 600) hx hb dX7_spansOf_7 (by decide) ?_
      refine lv_icmp_ge (tgt := 57) hx hb dX7_spansOf_10 (by decide) (fun hc1 => ?_) (fun hc1 => ?_)
      · have hf := if_t hf hc1
        refine lv_iload_n hx hb dX7_spansOf_57 rfl (lv_at hl 3 rfl) ?_
        cases hf
        exact r_iret X hB hS hr hlk dX7_spansOf_58
      · have hf := if_f hf hc1
        refine lv_aload_n hx hb dX7_spansOf_13 rfl (lv_at hl 0 rfl) ?_
        refine r_get X hB 22 64 (by decide) (kw_m kf_X7_64) rfl rfl dX7_spansOf_14 ?_
        refine lv_iload hx hb dX7_spansOf_17 (lv_at hl 4 rfl) ?_
        obtain ⟨v2, ev2, hiv2, hf⟩ := rd_s hf
        refine r_ldz X hB 22 19 (rat_22 cI cZ o q R) hiv2 ev2 dX7_spansOf_19 ?_
        refine lv_if_eq (tgt := 51) hx hb dX7_spansOf_20 (by decide) (fun hc3 => ?_) (fun hc3 => ?_)
        · have hf := if_t hf hc3
          refine lv_iinc (v := x4 + 1) (lv' := [(4, .int (x4 + 1)), (0, .ref o), (1, .int x1), (2, .int x2), (3, .int x3)]) hx hb dX7_spansOf_51 hl (k := 4) rfl rfl (by decide) rfl (fun ls hl => ?_)
          refine lv_goto (tgt := 5) hx hb dX7_spansOf_54 (by decide) ?_
          exact ih_5 x1 x2 x3 (x4 + 1) hf _ _ _ hB hS (lv_sub hl [1, 2, 3, 4, 0] rfl)
        · have hf := if_f hf hc3
          refine lv_aload_n hx hb dX7_spansOf_23 rfl (lv_at hl 0 rfl) ?_
          refine r_get X hB 19 55 (by decide) (kw_m kf_X7_55) rfl rfl dX7_spansOf_24 ?_
          refine lv_iload hx hb dX7_spansOf_27 (lv_at hl 4 rfl) ?_
          obtain ⟨v4, ev4, hiv4, hf⟩ := rd_s hf
          refine r_ld X hB 19 16 (rat_19 cI cZ o q R) hiv4 ev4 dX7_spansOf_29 ?_
          refine lv_iload_n hx hb dX7_spansOf_30 rfl (lv_at hl 1 rfl) ?_
          refine lv_icmp_ne (tgt := 51) hx hb dX7_spansOf_31 (by decide) (fun hc5 => ?_) (fun hc5 => ?_)
          · have hf := if_f hf hc5
            refine lv_iinc (v := x4 + 1) (lv' := [(4, .int (x4 + 1)), (0, .ref o), (1, .int x1), (2, .int x2), (3, .int x3)]) hx hb dX7_spansOf_51 hl (k := 4) rfl rfl (by decide) rfl (fun ls hl => ?_)
            refine lv_goto (tgt := 5) hx hb dX7_spansOf_54 (by decide) ?_
            exact ih_5 x1 x2 x3 (x4 + 1) hf _ _ _ hB hS (lv_sub hl [1, 2, 3, 4, 0] rfl)
          · have hf := if_t hf hc5
            refine lv_aload_n hx hb dX7_spansOf_34 rfl (lv_at hl 0 rfl) ?_
            refine r_get X hB 23 68 (by decide) (kw_m kf_X7_68) rfl rfl dX7_spansOf_35 ?_
            refine lv_iload hx hb dX7_spansOf_38 (lv_at hl 4 rfl) ?_
            obtain ⟨v6, ev6, hiv6, hf⟩ := rd_s hf
            refine r_ldz X hB 23 20 (rat_23 cI cZ o q R) hiv6 ev6 dX7_spansOf_40 ?_
            refine lv_if_ne (tgt := 48) hx hb dX7_spansOf_41 (by decide) (fun hc7 => ?_) (fun hc7 => ?_)
            · have hf := if_f hf hc7
              refine lv_iinc (v := x3 + 1) (lv' := [(3, .int (x3 + 1)), (0, .ref o), (1, .int x1), (2, .int x2), (4, .int x4)]) hx hb dX7_spansOf_48 hl (k := 3) rfl rfl (by decide) rfl (fun ls hl => ?_)
              refine lv_iinc (v := x4 + 1) (lv' := [(4, .int (x4 + 1)), (3, .int (x3 + 1)), (0, .ref o), (1, .int x1), (2, .int x2)]) hx hb dX7_spansOf_51 hl (k := 4) rfl rfl (by decide) rfl (fun ls hl => ?_)
              refine lv_goto (tgt := 5) hx hb dX7_spansOf_54 (by decide) ?_
              exact ih_5 x1 x2 (x3 + 1) (x4 + 1) hf _ _ _ hB hS (lv_sub hl [2, 3, 4, 1, 0] rfl)
            · have hf := if_t hf hc7
              refine lv_iload_n hx hb dX7_spansOf_44 rfl (lv_at hl 2 rfl) ?_
              refine lv_if_ne (tgt := 51) hx hb dX7_spansOf_45 (by decide) (fun hc8 => ?_) (fun hc8 => ?_)
              · have hf := if_f hf hc8
                refine lv_iinc (v := x4 + 1) (lv' := [(4, .int (x4 + 1)), (0, .ref o), (1, .int x1), (2, .int x2), (3, .int x3)]) hx hb dX7_spansOf_51 hl (k := 4) rfl rfl (by decide) rfl (fun ls hl => ?_)
                refine lv_goto (tgt := 5) hx hb dX7_spansOf_54 (by decide) ?_
                exact ih_5 x1 x2 x3 (x4 + 1) hf _ _ _ hB hS (lv_sub hl [1, 2, 3, 4, 0] rfl)
              · have hf := if_t hf hc8
                refine lv_iinc (v := x3 + 1) (lv' := [(3, .int (x3 + 1)), (0, .ref o), (1, .int x1), (2, .int x2), (4, .int x4)]) hx hb dX7_spansOf_48 hl (k := 3) rfl rfl (by decide) rfl (fun ls hl => ?_)
                refine lv_iinc (v := x4 + 1) (lv' := [(4, .int (x4 + 1)), (3, .int (x3 + 1)), (0, .ref o), (1, .int x1), (2, .int x2)]) hx hb dX7_spansOf_51 hl (k := 4) rfl rfl (by decide) rfl (fun ls hl => ?_)
                refine lv_goto (tgt := 5) hx hb dX7_spansOf_54 (by decide) ?_
                exact ih_5 x1 x2 (x3 + 1) (x4 + 1) hf _ _ _ hB hS (lv_sub hl [2, 3, 4, 1, 0] rfl)
  unfold rf_spansOf at hf
  refine lv_iconst (v := 0) hx hb dX7_spansOf_0 (by decide) ?_
  refine lv_istore_n (lv' := [(3, .int 0), (0, .ref o), (1, .int x1), (2, .int x2)]) hx hb dX7_spansOf_1 rfl hl (by decide) rfl (fun ls hl => ?_)
  refine lv_iconst (v := 0) hx hb dX7_spansOf_2 (by decide) ?_
  refine lv_istore (lv' := [(4, .int 0), (3, .int 0), (0, .ref o), (1, .int x1), (2, .int x2)]) hx hb dX7_spansOf_3 hl (by decide) rfl (fun ls hl => ?_)
  exact J_5 F x1 x2 (0 : Int32) (0 : Int32) hf _ _ _ hB hS (lv_sub hl [2, 3, 4, 1, 0] rfl)
/-! X7_count -/
def rf_count_24 (F : Nat) (R : Rst) (x1 : Int32) (x2 : Int32) (y0 : Int32) : Option (Int32 × Rst) := (rf_right F R y0 (2 : Int32)).bind fun z4 => st2 z4 fun z4v z4R => if z4v = 0 then (some ((0 : Int32), z4R)) else (if x2 = 0 then (rd z4R 2 x1 fun v7 => some (v7, z4R)) else (if x2 = 1 then (rd z4R 3 x1 fun v8 => some (v8, z4R)) else (if x2 = 2 then (rd z4R 4 x1 fun v9 => some (v9, z4R)) else (if x2 = 3 then ((rf_spansOf F z4R x1 (0 : Int32)).bind fun v10 => some (v10, z4R)) else (if x2 = 4 then ((rf_of F z4R x1 (9 : Int32) (0 : Int32)).bind fun v11 => some (v11, z4R)) else (if x2 = 5 then ((rf_of F z4R x1 (0 : Int32) (0 : Int32)).bind fun v12 => some (v12, z4R)) else (if x2 = 6 then ((rf_of F z4R x1 (0 : Int32) (1 : Int32)).bind fun v13 => some (v13, z4R)) else (if x2 = 7 then ((rf_of F z4R x1 (1 : Int32) (1 : Int32)).bind fun v14 => (rf_of F z4R x1 (4 : Int32) (1 : Int32)).bind fun v15 => (rf_heldIn F z4R x1).bind fun v16 => some (((v14 + v15) + v16), z4R)) else (if x2 = 8 then ((rf_of F z4R x1 (3 : Int32) (1 : Int32)).bind fun v17 => some (v17, z4R)) else (if x2 = 9 then ((rf_of F z4R x1 (2 : Int32) (1 : Int32)).bind fun v18 => some (v18, z4R)) else (if x2 = 10 then ((rf_of F z4R x1 (2 : Int32) (0 : Int32)).bind fun v19 => some (v19, z4R)) else (if x2 = 11 then (rd z4R 5 x1 fun v20 => some (v20, z4R)) else (if x2 = 12 then ((rf_spansOf F z4R x1 (1 : Int32)).bind fun v21 => some (v21, z4R)) else (if x2 = 13 then (rd z4R 8 x1 fun v22 => some (v22, z4R)) else (rd z4R 9 x1 fun v6 => some (v6, z4R))))))))))))))))
def rf_count (F : Nat) (R : Rst) (x1 : Int32) (x2 : Int32) : Option (Int32 × Rst) := (rf_isArena F R x1).bind fun z1 => st2 z1 fun z1v z1R => if z1v = 0 then (some ((0 : Int32), z1R)) else (if x2 < 0 then (rf_count_24 F z1R x1 x2 (0 : Int32)) else (if (14 : Int32) < x2 then (rf_count_24 F z1R x1 x2 (0 : Int32)) else (rf_count_24 F z1R x1 x2 (1 : Int32))))
set_option maxHeartbeats 4000000 in
set_option maxRecDepth 100000 in
theorem rm_count (l : Launch) (F : Nat) (D : va_G) (cI cZ : ClassId) (o : Nat) (q : Nat → Nat) (R : Rst) (x1 : Int32) (x2 : Int32) (r : Int32) (R' : Rst) (hf : rf_count F R x1 x2 = some (r, R'))   : rMet l yX7_count wq_X7_count { frames := 2, cells := 0, slots := 0, locals := 46 } D cI cZ o q [.ref o, .int x1, .int x2] R (some (.int r)) R' := by
  refine rMet_of (cc := cX7_count) (maxL := 3) (ret := (some .int)) (by decide) rfl rfl (kw_h kw_X7) (Nat.le_of_ble_eq_true rfl) ?_
  intro p e s m below meth c X hr hlk ls hl hB hS
  have hx := X.1.1
  have hb := X.1.2.1
  have hown := X.1.2.2.2.1
  have hts := X.1.2.2.2.2
  have hl : lv_has ls 3 [(0, .ref o), (1, .int x1), (2, .int x2)] := hl
  generalize hargs : ([.ref o, .int x1, .int x2] : List Value).toArray = args at X hts hS ⊢
  have J_24 : ∀ (R : Rst) (x1 : Int32) (x2 : Int32) (y0 : Int32), rf_count_24 F R x1 x2 y0 = some (r, R') → ∀ (H : Heap) (locs : List Loc) (ls : Array Slot), rB D cI cZ o q R H → va_S (rA o q) s.heap H locs → lv_has ls 3 [(0, .ref o), (1, .int x1), (2, .int x2)] → W p l e { frames := 2, cells := 0, slots := 0, locals := 46 } s m args below meth c H locs 0 0 (MQ below (mq (some (.int r)) (rW D cI cZ o q R') (rA o q)) args s 0 0 (rA o q)) (F0 m 24 ls [.int y0, .ref o]) := by
    intro R x1 x2 y0 hf H locs ls hB hS hl
    unfold rf_count_24 at hf
    refine lv_iconst (v := 2) hx hb dX7_count_24 (by decide) ?_
    obtain ⟨⟨z4v, z4R⟩, hqz4, hf⟩ := bn_s hf
    have hf := st2_s hf
    refine r_callV (As := [.int y0, .int 2]) (rest := []) X hB hS (rm_right l F D cI cZ o q _ _ _  _ _ hqz4) (cwV 2 hts (gd_V km_X7_97 ki_X7_right ks_X7_right kin_RX7 kc_X7_right) rfl rfl rfl (by decide +kernel) ⟨by decide, by decide⟩) hl rfl rfl (Nat.le_of_ble_eq_true rfl) dX7_count_25 ⟨Nat.zero_le _, Nat.zero_le _⟩ rfl (fun H locs hB hS => ?_)
    refine lv_if_ne (tgt := 33) hx hb dX7_count_28 (by decide) (fun hc5 => ?_) (fun hc5 => ?_)
    · have hf := if_f hf hc5
      refine lv_iload_n hx hb dX7_count_33 rfl (lv_at hl 2 rfl) ?_
      by_cases hc23 : x2 = 0
      · have hf := if_t hf hc23
        refine lv_tableIn (tgt := 104) hx hb dX7_count_34 (by rw [hc23]; decide) (by rw [hc23]; decide) (off := 70) (by rw [hc23]; decide) (by decide) ?_
        refine lv_aload_n hx hb dX7_count_104 rfl (lv_at hl 0 rfl) ?_
        refine r_get X hB 2 7 (by decide) (kw_m kf_X7_7) rfl rfl dX7_count_105 ?_
        refine lv_iload_n hx hb dX7_count_108 rfl (lv_at hl 1 rfl) ?_
        obtain ⟨v7, ev7, hiv7, hf⟩ := rd_s hf
        refine r_ld X hB 2 1 (rat_2 cI cZ o q z4R) hiv7 ev7 dX7_count_109 ?_
        cases hf
        exact r_iret X hB hS hr hlk dX7_count_110
      have hf := if_f hf hc23
      by_cases hc24 : x2 = 1
      · have hf := if_t hf hc24
        refine lv_tableIn (tgt := 111) hx hb dX7_count_34 (by rw [hc24]; decide) (by rw [hc24]; decide) (off := 77) (by rw [hc24]; decide) (by decide) ?_
        refine lv_aload_n hx hb dX7_count_111 rfl (lv_at hl 0 rfl) ?_
        refine r_get X hB 3 13 (by decide) (kw_m kf_X7_13) rfl rfl dX7_count_112 ?_
        refine lv_iload_n hx hb dX7_count_115 rfl (lv_at hl 1 rfl) ?_
        obtain ⟨v8, ev8, hiv8, hf⟩ := rd_s hf
        refine r_ld X hB 3 2 (rat_3 cI cZ o q z4R) hiv8 ev8 dX7_count_116 ?_
        cases hf
        exact r_iret X hB hS hr hlk dX7_count_117
      have hf := if_f hf hc24
      by_cases hc25 : x2 = 2
      · have hf := if_t hf hc25
        refine lv_tableIn (tgt := 118) hx hb dX7_count_34 (by rw [hc25]; decide) (by rw [hc25]; decide) (off := 84) (by rw [hc25]; decide) (by decide) ?_
        refine lv_aload_n hx hb dX7_count_118 rfl (lv_at hl 0 rfl) ?_
        refine r_get X hB 4 16 (by decide) (kw_m kf_X7_16) rfl rfl dX7_count_119 ?_
        refine lv_iload_n hx hb dX7_count_122 rfl (lv_at hl 1 rfl) ?_
        obtain ⟨v9, ev9, hiv9, hf⟩ := rd_s hf
        refine r_ld X hB 4 3 (rat_4 cI cZ o q z4R) hiv9 ev9 dX7_count_123 ?_
        cases hf
        exact r_iret X hB hS hr hlk dX7_count_124
      have hf := if_f hf hc25
      by_cases hc26 : x2 = 3
      · have hf := if_t hf hc26
        refine lv_tableIn (tgt := 125) hx hb dX7_count_34 (by rw [hc26]; decide) (by rw [hc26]; decide) (off := 91) (by rw [hc26]; decide) (by decide) ?_
        refine lv_aload_n hx hb dX7_count_125 rfl (lv_at hl 0 rfl) ?_
        refine lv_iload_n hx hb dX7_count_126 rfl (lv_at hl 1 rfl) ?_
        refine lv_iconst (v := 0) hx hb dX7_count_127 (by decide) ?_
        obtain ⟨v10, hqv10, hf⟩ := bn_s hf
        refine r_callV (As := [.int x1, .int 0]) (rest := []) X hB hS (rm_spansOf l F D cI cZ o q _ _ _  _ hqv10) (cwV 2 hts (gd_V km_X7_255 ki_X7_spansOf ks_X7_spansOf kin_RX7 kc_X7_spansOf) rfl rfl rfl (by decide +kernel) ⟨by decide, by decide⟩) hl rfl rfl (Nat.le_of_ble_eq_true rfl) dX7_count_128 ⟨Nat.zero_le _, Nat.zero_le _⟩ rfl (fun H locs hB hS => ?_)
        cases hf
        exact r_iret X hB hS hr hlk dX7_count_131
      have hf := if_f hf hc26
      by_cases hc27 : x2 = 4
      · have hf := if_t hf hc27
        refine lv_tableIn (tgt := 132) hx hb dX7_count_34 (by rw [hc27]; decide) (by rw [hc27]; decide) (off := 98) (by rw [hc27]; decide) (by decide) ?_
        refine lv_aload_n hx hb dX7_count_132 rfl (lv_at hl 0 rfl) ?_
        refine lv_iload_n hx hb dX7_count_133 rfl (lv_at hl 1 rfl) ?_
        refine lv_bipush (v := 9) hx hb dX7_count_134 (by decide) ?_
        refine lv_iconst (v := 0) hx hb dX7_count_136 (by decide) ?_
        obtain ⟨v11, hqv11, hf⟩ := bn_s hf
        refine r_callV (As := [.int x1, .int 9, .int 0]) (rest := []) X hB hS (rm_of l F D cI cZ o q _ _ _ _  _ hqv11) (cwV 3 hts (gd_V km_X7_259 ki_X7_of ks_X7_of kin_RX7 kc_X7_of) rfl rfl rfl (by decide +kernel) ⟨by decide, by decide⟩) hl rfl rfl (Nat.le_of_ble_eq_true rfl) dX7_count_137 ⟨Nat.zero_le _, Nat.zero_le _⟩ rfl (fun H locs hB hS => ?_)
        cases hf
        exact r_iret X hB hS hr hlk dX7_count_140
      have hf := if_f hf hc27
      by_cases hc28 : x2 = 5
      · have hf := if_t hf hc28
        refine lv_tableIn (tgt := 141) hx hb dX7_count_34 (by rw [hc28]; decide) (by rw [hc28]; decide) (off := 107) (by rw [hc28]; decide) (by decide) ?_
        refine lv_aload_n hx hb dX7_count_141 rfl (lv_at hl 0 rfl) ?_
        refine lv_iload_n hx hb dX7_count_142 rfl (lv_at hl 1 rfl) ?_
        refine lv_iconst (v := 0) hx hb dX7_count_143 (by decide) ?_
        refine lv_iconst (v := 0) hx hb dX7_count_144 (by decide) ?_
        obtain ⟨v12, hqv12, hf⟩ := bn_s hf
        refine r_callV (As := [.int x1, .int 0, .int 0]) (rest := []) X hB hS (rm_of l F D cI cZ o q _ _ _ _  _ hqv12) (cwV 3 hts (gd_V km_X7_259 ki_X7_of ks_X7_of kin_RX7 kc_X7_of) rfl rfl rfl (by decide +kernel) ⟨by decide, by decide⟩) hl rfl rfl (Nat.le_of_ble_eq_true rfl) dX7_count_145 ⟨Nat.zero_le _, Nat.zero_le _⟩ rfl (fun H locs hB hS => ?_)
        cases hf
        exact r_iret X hB hS hr hlk dX7_count_148
      have hf := if_f hf hc28
      by_cases hc29 : x2 = 6
      · have hf := if_t hf hc29
        refine lv_tableIn (tgt := 149) hx hb dX7_count_34 (by rw [hc29]; decide) (by rw [hc29]; decide) (off := 115) (by rw [hc29]; decide) (by decide) ?_
        refine lv_aload_n hx hb dX7_count_149 rfl (lv_at hl 0 rfl) ?_
        refine lv_iload_n hx hb dX7_count_150 rfl (lv_at hl 1 rfl) ?_
        refine lv_iconst (v := 0) hx hb dX7_count_151 (by decide) ?_
        refine lv_iconst (v := 1) hx hb dX7_count_152 (by decide) ?_
        obtain ⟨v13, hqv13, hf⟩ := bn_s hf
        refine r_callV (As := [.int x1, .int 0, .int 1]) (rest := []) X hB hS (rm_of l F D cI cZ o q _ _ _ _  _ hqv13) (cwV 3 hts (gd_V km_X7_259 ki_X7_of ks_X7_of kin_RX7 kc_X7_of) rfl rfl rfl (by decide +kernel) ⟨by decide, by decide⟩) hl rfl rfl (Nat.le_of_ble_eq_true rfl) dX7_count_153 ⟨Nat.zero_le _, Nat.zero_le _⟩ rfl (fun H locs hB hS => ?_)
        cases hf
        exact r_iret X hB hS hr hlk dX7_count_156
      have hf := if_f hf hc29
      by_cases hc30 : x2 = 7
      · have hf := if_t hf hc30
        refine lv_tableIn (tgt := 157) hx hb dX7_count_34 (by rw [hc30]; decide) (by rw [hc30]; decide) (off := 123) (by rw [hc30]; decide) (by decide) ?_
        refine lv_aload_n hx hb dX7_count_157 rfl (lv_at hl 0 rfl) ?_
        refine lv_iload_n hx hb dX7_count_158 rfl (lv_at hl 1 rfl) ?_
        refine lv_iconst (v := 1) hx hb dX7_count_159 (by decide) ?_
        refine lv_iconst (v := 1) hx hb dX7_count_160 (by decide) ?_
        obtain ⟨v14, hqv14, hf⟩ := bn_s hf
        refine r_callV (As := [.int x1, .int 1, .int 1]) (rest := []) X hB hS (rm_of l F D cI cZ o q _ _ _ _  _ hqv14) (cwV 3 hts (gd_V km_X7_259 ki_X7_of ks_X7_of kin_RX7 kc_X7_of) rfl rfl rfl (by decide +kernel) ⟨by decide, by decide⟩) hl rfl rfl (Nat.le_of_ble_eq_true rfl) dX7_count_161 ⟨Nat.zero_le _, Nat.zero_le _⟩ rfl (fun H locs hB hS => ?_)
        refine lv_aload_n hx hb dX7_count_164 rfl (lv_at hl 0 rfl) ?_
        refine lv_iload_n hx hb dX7_count_165 rfl (lv_at hl 1 rfl) ?_
        refine lv_iconst (v := 4) hx hb dX7_count_166 (by decide) ?_
        refine lv_iconst (v := 1) hx hb dX7_count_167 (by decide) ?_
        obtain ⟨v15, hqv15, hf⟩ := bn_s hf
        refine r_callV (As := [.int x1, .int 4, .int 1]) (rest := [.int v14]) X hB hS (rm_of l F D cI cZ o q _ _ _ _  _ hqv15) (cwV 3 hts (gd_V km_X7_259 ki_X7_of ks_X7_of kin_RX7 kc_X7_of) rfl rfl rfl (by decide +kernel) ⟨by decide, by decide⟩) hl rfl rfl (Nat.le_of_ble_eq_true rfl) dX7_count_168 ⟨Nat.zero_le _, Nat.zero_le _⟩ rfl (fun H locs hB hS => ?_)
        refine lv_iadd hx hb dX7_count_171 ?_
        refine lv_aload_n hx hb dX7_count_172 rfl (lv_at hl 0 rfl) ?_
        refine lv_iload_n hx hb dX7_count_173 rfl (lv_at hl 1 rfl) ?_
        obtain ⟨v16, hqv16, hf⟩ := bn_s hf
        refine r_callV (As := [.int x1]) (rest := [.int (v14 + v15)]) X hB hS (rm_heldIn l F D cI cZ o q _ _  _ hqv16) (cwV 1 hts (gd_V km_X7_263 ki_X7_heldIn ks_X7_heldIn kin_RX7 kc_X7_heldIn) rfl rfl rfl (by decide +kernel) ⟨by decide, by decide⟩) hl rfl rfl (Nat.le_of_ble_eq_true rfl) dX7_count_174 ⟨Nat.zero_le _, Nat.zero_le _⟩ rfl (fun H locs hB hS => ?_)
        refine lv_iadd hx hb dX7_count_177 ?_
        cases hf
        exact r_iret X hB hS hr hlk dX7_count_178
      have hf := if_f hf hc30
      by_cases hc31 : x2 = 8
      · have hf := if_t hf hc31
        refine lv_tableIn (tgt := 179) hx hb dX7_count_34 (by rw [hc31]; decide) (by rw [hc31]; decide) (off := 145) (by rw [hc31]; decide) (by decide) ?_
        refine lv_aload_n hx hb dX7_count_179 rfl (lv_at hl 0 rfl) ?_
        refine lv_iload_n hx hb dX7_count_180 rfl (lv_at hl 1 rfl) ?_
        refine lv_iconst (v := 3) hx hb dX7_count_181 (by decide) ?_
        refine lv_iconst (v := 1) hx hb dX7_count_182 (by decide) ?_
        obtain ⟨v17, hqv17, hf⟩ := bn_s hf
        refine r_callV (As := [.int x1, .int 3, .int 1]) (rest := []) X hB hS (rm_of l F D cI cZ o q _ _ _ _  _ hqv17) (cwV 3 hts (gd_V km_X7_259 ki_X7_of ks_X7_of kin_RX7 kc_X7_of) rfl rfl rfl (by decide +kernel) ⟨by decide, by decide⟩) hl rfl rfl (Nat.le_of_ble_eq_true rfl) dX7_count_183 ⟨Nat.zero_le _, Nat.zero_le _⟩ rfl (fun H locs hB hS => ?_)
        cases hf
        exact r_iret X hB hS hr hlk dX7_count_186
      have hf := if_f hf hc31
      by_cases hc32 : x2 = 9
      · have hf := if_t hf hc32
        refine lv_tableIn (tgt := 187) hx hb dX7_count_34 (by rw [hc32]; decide) (by rw [hc32]; decide) (off := 153) (by rw [hc32]; decide) (by decide) ?_
        refine lv_aload_n hx hb dX7_count_187 rfl (lv_at hl 0 rfl) ?_
        refine lv_iload_n hx hb dX7_count_188 rfl (lv_at hl 1 rfl) ?_
        refine lv_iconst (v := 2) hx hb dX7_count_189 (by decide) ?_
        refine lv_iconst (v := 1) hx hb dX7_count_190 (by decide) ?_
        obtain ⟨v18, hqv18, hf⟩ := bn_s hf
        refine r_callV (As := [.int x1, .int 2, .int 1]) (rest := []) X hB hS (rm_of l F D cI cZ o q _ _ _ _  _ hqv18) (cwV 3 hts (gd_V km_X7_259 ki_X7_of ks_X7_of kin_RX7 kc_X7_of) rfl rfl rfl (by decide +kernel) ⟨by decide, by decide⟩) hl rfl rfl (Nat.le_of_ble_eq_true rfl) dX7_count_191 ⟨Nat.zero_le _, Nat.zero_le _⟩ rfl (fun H locs hB hS => ?_)
        cases hf
        exact r_iret X hB hS hr hlk dX7_count_194
      have hf := if_f hf hc32
      by_cases hc33 : x2 = 10
      · have hf := if_t hf hc33
        refine lv_tableIn (tgt := 195) hx hb dX7_count_34 (by rw [hc33]; decide) (by rw [hc33]; decide) (off := 161) (by rw [hc33]; decide) (by decide) ?_
        refine lv_aload_n hx hb dX7_count_195 rfl (lv_at hl 0 rfl) ?_
        refine lv_iload_n hx hb dX7_count_196 rfl (lv_at hl 1 rfl) ?_
        refine lv_iconst (v := 2) hx hb dX7_count_197 (by decide) ?_
        refine lv_iconst (v := 0) hx hb dX7_count_198 (by decide) ?_
        obtain ⟨v19, hqv19, hf⟩ := bn_s hf
        refine r_callV (As := [.int x1, .int 2, .int 0]) (rest := []) X hB hS (rm_of l F D cI cZ o q _ _ _ _  _ hqv19) (cwV 3 hts (gd_V km_X7_259 ki_X7_of ks_X7_of kin_RX7 kc_X7_of) rfl rfl rfl (by decide +kernel) ⟨by decide, by decide⟩) hl rfl rfl (Nat.le_of_ble_eq_true rfl) dX7_count_199 ⟨Nat.zero_le _, Nat.zero_le _⟩ rfl (fun H locs hB hS => ?_)
        cases hf
        exact r_iret X hB hS hr hlk dX7_count_202
      have hf := if_f hf hc33
      by_cases hc34 : x2 = 11
      · have hf := if_t hf hc34
        refine lv_tableIn (tgt := 203) hx hb dX7_count_34 (by rw [hc34]; decide) (by rw [hc34]; decide) (off := 169) (by rw [hc34]; decide) (by decide) ?_
        refine lv_aload_n hx hb dX7_count_203 rfl (lv_at hl 0 rfl) ?_
        refine r_get X hB 5 19 (by decide) (kw_m kf_X7_19) rfl rfl dX7_count_204 ?_
        refine lv_iload_n hx hb dX7_count_207 rfl (lv_at hl 1 rfl) ?_
        obtain ⟨v20, ev20, hiv20, hf⟩ := rd_s hf
        refine r_ld X hB 5 4 (rat_5 cI cZ o q z4R) hiv20 ev20 dX7_count_208 ?_
        cases hf
        exact r_iret X hB hS hr hlk dX7_count_209
      have hf := if_f hf hc34
      by_cases hc35 : x2 = 12
      · have hf := if_t hf hc35
        refine lv_tableIn (tgt := 210) hx hb dX7_count_34 (by rw [hc35]; decide) (by rw [hc35]; decide) (off := 176) (by rw [hc35]; decide) (by decide) ?_
        refine lv_aload_n hx hb dX7_count_210 rfl (lv_at hl 0 rfl) ?_
        refine lv_iload_n hx hb dX7_count_211 rfl (lv_at hl 1 rfl) ?_
        refine lv_iconst (v := 1) hx hb dX7_count_212 (by decide) ?_
        obtain ⟨v21, hqv21, hf⟩ := bn_s hf
        refine r_callV (As := [.int x1, .int 1]) (rest := []) X hB hS (rm_spansOf l F D cI cZ o q _ _ _  _ hqv21) (cwV 2 hts (gd_V km_X7_255 ki_X7_spansOf ks_X7_spansOf kin_RX7 kc_X7_spansOf) rfl rfl rfl (by decide +kernel) ⟨by decide, by decide⟩) hl rfl rfl (Nat.le_of_ble_eq_true rfl) dX7_count_213 ⟨Nat.zero_le _, Nat.zero_le _⟩ rfl (fun H locs hB hS => ?_)
        cases hf
        exact r_iret X hB hS hr hlk dX7_count_216
      have hf := if_f hf hc35
      by_cases hc36 : x2 = 13
      · have hf := if_t hf hc36
        refine lv_tableIn (tgt := 217) hx hb dX7_count_34 (by rw [hc36]; decide) (by rw [hc36]; decide) (off := 183) (by rw [hc36]; decide) (by decide) ?_
        refine lv_aload_n hx hb dX7_count_217 rfl (lv_at hl 0 rfl) ?_
        refine r_get X hB 8 28 (by decide) (kw_m kf_X7_28) rfl rfl dX7_count_218 ?_
        refine lv_iload_n hx hb dX7_count_221 rfl (lv_at hl 1 rfl) ?_
        obtain ⟨v22, ev22, hiv22, hf⟩ := rd_s hf
        refine r_ld X hB 8 7 (rat_8 cI cZ o q z4R) hiv22 ev22 dX7_count_222 ?_
        cases hf
        exact r_iret X hB hS hr hlk dX7_count_223
      have hf := if_f hf hc36
      refine lv_tableOut (tgt := 224) hx hb dX7_count_34 (by have zhc23 := lv_neT hc23 (a := 0) (by decide); have zhc24 := lv_neT hc24 (a := 1) (by decide); have zhc25 := lv_neT hc25 (a := 2) (by decide); have zhc26 := lv_neT hc26 (a := 3) (by decide); have zhc27 := lv_neT hc27 (a := 4) (by decide); have zhc28 := lv_neT hc28 (a := 5) (by decide); have zhc29 := lv_neT hc29 (a := 6) (by decide); have zhc30 := lv_neT hc30 (a := 7) (by decide); have zhc31 := lv_neT hc31 (a := 8) (by decide); have zhc32 := lv_neT hc32 (a := 9) (by decide); have zhc33 := lv_neT hc33 (a := 10) (by decide); have zhc34 := lv_neT hc34 (a := 11) (by decide); have zhc35 := lv_neT hc35 (a := 12) (by decide); have zhc36 := lv_neT hc36 (a := 13) (by decide); omega) (by decide) ?_
      refine lv_aload_n hx hb dX7_count_224 rfl (lv_at hl 0 rfl) ?_
      refine r_get X hB 9 31 (by decide) (kw_m kf_X7_31) rfl rfl dX7_count_225 ?_
      refine lv_iload_n hx hb dX7_count_228 rfl (lv_at hl 1 rfl) ?_
      obtain ⟨v6, ev6, hiv6, hf⟩ := rd_s hf
      refine r_ld X hB 9 8 (rat_9 cI cZ o q z4R) hiv6 ev6 dX7_count_229 ?_
      cases hf
      exact r_iret X hB hS hr hlk dX7_count_230
    · have hf := if_t hf hc5
      refine lv_iconst (v := 0) hx hb dX7_count_31 (by decide) ?_
      cases hf
      exact r_iret X hB hS hr hlk dX7_count_32
  unfold rf_count at hf
  refine lv_aload_n hx hb dX7_count_0 rfl (lv_at hl 0 rfl) ?_
  refine lv_iload_n hx hb dX7_count_1 rfl (lv_at hl 1 rfl) ?_
  obtain ⟨⟨z1v, z1R⟩, hqz1, hf⟩ := bn_s hf
  have hf := st2_s hf
  refine r_callV (As := [.int x1]) (rest := []) X hB hS (rm_isArena l F D cI cZ o q _ _  _ _ hqz1) (cwV 1 hts (gd_V km_X7_132 ki_X7_isArena ks_X7_isArena kin_RX7 kc_X7_isArena) rfl rfl rfl (by decide +kernel) ⟨by decide, by decide⟩) hl rfl rfl (Nat.le_of_ble_eq_true rfl) dX7_count_2 ⟨Nat.zero_le _, Nat.zero_le _⟩ rfl (fun H locs hB hS => ?_)
  refine lv_if_eq (tgt := 31) hx hb dX7_count_5 (by decide) (fun hc2 => ?_) (fun hc2 => ?_)
  · have hf := if_t hf hc2
    refine lv_iconst (v := 0) hx hb dX7_count_31 (by decide) ?_
    cases hf
    exact r_iret X hB hS hr hlk dX7_count_32
  · have hf := if_f hf hc2
    refine lv_aload_n hx hb dX7_count_8 rfl (lv_at hl 0 rfl) ?_
    refine lv_iload_n hx hb dX7_count_9 rfl (lv_at hl 2 rfl) ?_
    refine lv_if_lt (tgt := 23) hx hb dX7_count_10 (by decide) (fun hc3 => ?_) (fun hc3 => ?_)
    · have hf := if_t hf hc3
      refine lv_iconst (v := 0) hx hb dX7_count_23 (by decide) ?_
      exact J_24 z1R x1 x2 (0 : Int32) hf _ _ _ hB hS (lv_sub hl [0, 1, 2] rfl)
    · have hf := if_f hf hc3
      refine lv_iload_n hx hb dX7_count_13 rfl (lv_at hl 2 rfl) ?_
      refine lv_bipush (v := 14) hx hb dX7_count_14 (by decide) ?_
      refine lv_icmp_gt (tgt := 23) hx hb dX7_count_16 (by decide) (fun hc37 => ?_) (fun hc37 => ?_)
      · have hf := if_t hf hc37
        refine lv_iconst (v := 0) hx hb dX7_count_23 (by decide) ?_
        exact J_24 z1R x1 x2 (0 : Int32) hf _ _ _ hB hS (lv_sub hl [0, 1, 2] rfl)
      · have hf := if_f hf hc37
        refine lv_iconst (v := 1) hx hb dX7_count_19 (by decide) ?_
        refine lv_goto (tgt := 24) hx hb dX7_count_20 (by decide) ?_
        exact J_24 z1R x1 x2 (1 : Int32) hf _ _ _ hB hS (lv_sub hl [0, 1, 2] rfl)
