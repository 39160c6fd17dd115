abbrev wq_X7_thrown : List Cond := .code yX7_thrown cX7_thrown 1 (some .int) :: WS
abbrev wq_X7_right : List Cond := .code yX7_right cX7_right 3 (some .boolean) :: WS
abbrev wq_X7_isArena : List Cond := .code yX7_isArena cX7_isArena 2 (some .boolean) :: WS
abbrev wq_X7_isPower : List Cond := .code yX7_isPower cX7_isPower 1 (some .boolean) :: WS
abbrev wq_X7_make : List Cond := .code yX7_make cX7_make 5 (some .int) :: WS
abbrev wq_X7_left : List Cond := .code yX7_left cX7_left 1 (some .int) :: WS
abbrev wq_X7_position : List Cond := .code yX7_position cX7_position 5 (some .int) :: WS
abbrev wq_X7_copy : List Cond := .code yX7_copy cX7_copy 3 none :: WS
abbrev wq_X7_frees : List Cond := .code yX7_frees cX7_frees 2 none :: WS
abbrev wq_X7_insert : List Cond := .code yX7_insert cX7_insert 7 (some .int) :: WS
abbrev wq_X7_remove : List Cond := .code yX7_remove cX7_remove 3 none :: WS
abbrev wq_X7_addSpan : List Cond := .code yX7_addSpan cX7_addSpan 6 (some .int) :: WS
abbrev wq_X7_add : List Cond := .code yX7_add cX7_add 5 (some .int) :: WS
abbrev wq_X7_listOf : List Cond := .code yX7_listOf cX7_listOf 4 (some .int) :: WS
abbrev wq_X7_best : List Cond := .code yX7_best cX7_best 5 (some .int) :: WS
abbrev wq_X7_instant : List Cond := .code yX7_instant cX7_instant 6 (some .int) :: WS
abbrev wq_X7_next : List Cond := .code yX7_next cX7_next 5 (some .int) :: WS
abbrev wq_X7_found : List Cond := .code yX7_found cX7_found 4 (some .int) :: WS
abbrev wq_X7_cut : List Cond := .code yX7_cut cX7_cut 5 none :: WS
abbrev wq_X7_imported : List Cond := .code yX7_imported cX7_imported 8 (some .int) :: WS
abbrev wq_X7_gives : List Cond := .code yX7_gives cX7_gives 5 none :: WS
abbrev wq_X7_isSlab : List Cond := .code yX7_isSlab cX7_isSlab 4 (some .boolean) :: WS
abbrev wq_X7_isHeld : List Cond := .code yX7_isHeld cX7_isHeld 4 (some .boolean) :: WS
abbrev wq_X7_slabSize : List Cond := .code yX7_slabSize cX7_slabSize 3 (some .int) :: WS
abbrev wq_X7_objectsOf : List Cond := .code yX7_objectsOf cX7_objectsOf 3 (some .int) :: WS
abbrev wq_X7_isWhole : List Cond := .code yX7_isWhole cX7_isWhole 5 (some .boolean) :: WS
abbrev wq_X7_magazine : List Cond := .code yX7_magazine cX7_magazine 4 (some .int) :: WS
abbrev wq_X7_purges : List Cond := .code yX7_purges cX7_purges 6 (some .int) :: WS
abbrev wq_X7_takes : List Cond := .code yX7_takes cX7_takes 9 (some .int) :: WS
abbrev wq_X7_isIn : List Cond := .code yX7_isIn cX7_isIn 6 (some .boolean) :: WS
abbrev wq_X7_lowest : List Cond := .code yX7_lowest cX7_lowest 6 (some .int) :: WS
abbrev wq_X7_exchange : List Cond := .code yX7_exchange cX7_exchange 5 none :: WS
abbrev wq_X7_out : List Cond := .code yX7_out cX7_out 8 (some .int) :: WS
abbrev wq_X7_into : List Cond := .code yX7_into cX7_into 9 none :: WS
abbrev wq_X7_rounded : List Cond := .code yX7_rounded cX7_rounded 5 (some .long) :: WS
abbrev wq_X7_take : List Cond := .code yX7_take cX7_take 8 (some .int) :: WS
abbrev wq_X7_slabAt : List Cond := .code yX7_slabAt cX7_slabAt 4 (some .int) :: WS
abbrev wq_X7_heldAt : List Cond := .code yX7_heldAt cX7_heldAt 6 (some .int) :: WS
abbrev wq_X7_just : List Cond := .code yX7_just cX7_just 7 (some .int) :: WS
abbrev wq_X7_give : List Cond := .code yX7_give cX7_give 9 (some .int) :: WS
abbrev wq_X7_within : List Cond := .code yX7_within cX7_within 19 (some .long) :: WS
abbrev wq_X7_narrow : List Cond := .code yX7_narrow cX7_narrow 9 (some .int) :: WS
abbrev wq_X7_takeWithin : List Cond := .code yX7_takeWithin cX7_takeWithin 15 (some .int) :: WS
abbrev wq_X7_giveWithin : List Cond := .code yX7_giveWithin cX7_giveWithin 4 (some .int) :: WS
abbrev wq_X7_bounds : List Cond := .code yX7_bounds cX7_bounds 4 none :: WS
abbrev wq_X7_purge : List Cond := .code yX7_purge cX7_purge 2 (some .int) :: WS
abbrev wq_X7_tags : List Cond := .code yX7_tags cX7_tags 1 (some .int) :: WS
abbrev wq_X7_heldIn : List Cond := .code yX7_heldIn cX7_heldIn 4 (some .int) :: WS
abbrev wq_X7_of : List Cond := .code yX7_of cX7_of 6 (some .int) :: WS
abbrev wq_X7_spansOf : List Cond := .code yX7_spansOf cX7_spansOf 5 (some .int) :: WS
abbrev wq_X7_count : List Cond := .code yX7_count cX7_count 3 (some .int) :: WS
abbrev wq_X7_ahead : List Cond := .code yX7_ahead cX7_ahead 4 (some .int) :: WS
abbrev wq_X7_segment : List Cond := .code yX7_segment cX7_segment 5 (some .int) :: WS
abbrev wq_X7_counted : List Cond := .code yX7_counted cX7_counted 10 (some .int) :: WS
abbrev wq_X7_cache : List Cond := .code yX7_cache cX7_cache 6 (some .int) :: WS
abbrev wq_X7_where : List Cond := .code yX7_where cX7_where 6 (some .int) :: WS
/-! X7_thrown -/
def rf_thrown (F : Nat) (R : Rst) : Option Int32 := some (R.1 0)
set_option maxHeartbeats 4000000 in
set_option maxRecDepth 100000 in
theorem rm_thrown (l : Launch) (F : Nat) (D : va_G) (cI cZ : ClassId) (o : Nat) (q : Nat → Nat) (R : Rst) (r : Int32) (hf : rf_thrown F R = some r)   : rMet l yX7_thrown wq_X7_thrown { frames := 0, cells := 0, slots := 0, locals := 0 } D cI cZ o q [.ref o] R (some (.int r)) R := by
  refine rMet_of (cc := cX7_thrown) (maxL := 1) (ret := (some .int)) (by decide) rfl rfl (kw_h kw_X7) (Nat.le_of_ble_eq_true rfl) ?_
  intro p e s m below meth c X hr hlk ls hl hB hS
  have hx := X.1.1
  have hb := X.1.2.1
  have hown := X.1.2.2.2.1
  have hts := X.1.2.2.2.2
  have hl : lv_has ls 1 [(0, .ref o)] := hl
  generalize hargs : ([.ref o] : List Value).toArray = args at X hts hS ⊢
  unfold rf_thrown at hf
  refine lv_aload_n hx hb dX7_thrown_0 rfl (lv_at hl 0 rfl) ?_
  refine r_get X hB 0 90 (by decide) (kw_m kf_X7_90) rfl rfl dX7_thrown_1 ?_
  cases hf
  exact r_iret X hB hS hr hlk dX7_thrown_4
/-! X7_right -/
def rf_right_16 (F : Nat) (R : Rst) : Option (Int32 × Rst) := if (R.1 0) = 0 then (some ((1 : Int32), R)) else (some ((0 : Int32), R))
def rf_right (F : Nat) (R : Rst) (x1 : Int32) (x2 : Int32) : Option (Int32 × Rst) := if (R.1 0) = 0 then (if x1 = 0 then (st1 (rput R 0 x2) fun R4 => rf_right_16 F R4) else (rf_right_16 F R)) else (rf_right_16 F R)
set_option maxHeartbeats 4000000 in
set_option maxRecDepth 100000 in
theorem rm_right (l : Launch) (F : Nat) (D : va_G) (cI cZ : ClassId) (o : Nat) (q : Nat → Nat) (R : Rst) (x1 : Int32) (x2 : Int32) (r : Int32) (R' : Rst) (hf : rf_right F R x1 x2 = some (r, R'))   : rMet l yX7_right wq_X7_right { frames := 0, cells := 0, slots := 0, locals := 0 } D cI cZ o q [.ref o, .int x1, .int x2] R (some (.int r)) R' := by
  refine rMet_of (cc := cX7_right) (maxL := 3) (ret := (some .boolean)) (by decide) rfl rfl (kw_h kw_X7) (Nat.le_of_ble_eq_true rfl) ?_
  intro p e s m below meth c X hr hlk ls hl hB hS
  have hx := X.1.1
  have hb := X.1.2.1
  have hown := X.1.2.2.2.1
  have hts := X.1.2.2.2.2
  have hl : lv_has ls 3 [(0, .ref o), (1, .int x1), (2, .int x2)] := hl
  generalize hargs : ([.ref o, .int x1, .int x2] : List Value).toArray = args at X hts hS ⊢
  have J_16 : ∀ (R : Rst), rf_right_16 F R = some (r, R') → ∀ (H : Heap) (locs : List Loc) (ls : Array Slot), rB D cI cZ o q R H → va_S (rA o q) s.heap H locs → lv_has ls 3 [(0, .ref o)] → W p l e { frames := 0, cells := 0, slots := 0, locals := 0 } s m args below meth c H locs 0 0 (MQ below (mq (some (.int r)) (rW D cI cZ o q R') (rA o q)) args s 0 0 (rA o q)) (F0 m 16 ls []) := by
    intro R hf H locs ls hB hS hl
    unfold rf_right_16 at hf
    refine lv_aload_n hx hb dX7_right_16 rfl (lv_at hl 0 rfl) ?_
    refine r_get X hB 0 90 (by decide) (kw_m kf_X7_90) rfl rfl dX7_right_17 ?_
    refine lv_if_ne (tgt := 27) hx hb dX7_right_20 (by decide) (fun hc2 => ?_) (fun hc2 => ?_)
    · have hf := if_f hf hc2
      refine lv_iconst (v := 0) hx hb dX7_right_27 (by decide) ?_
      cases hf
      exact r_zret X hB hS hr hlk rfl dX7_right_28
    · have hf := if_t hf hc2
      refine lv_iconst (v := 1) hx hb dX7_right_23 (by decide) ?_
      refine lv_goto (tgt := 28) hx hb dX7_right_24 (by decide) ?_
      cases hf
      exact r_zret X hB hS hr hlk rfl dX7_right_28
  unfold rf_right at hf
  refine lv_aload_n hx hb dX7_right_0 rfl (lv_at hl 0 rfl) ?_
  refine r_get X hB 0 90 (by decide) (kw_m kf_X7_90) rfl rfl dX7_right_1 ?_
  refine lv_if_ne (tgt := 16) hx hb dX7_right_4 (by decide) (fun hc1 => ?_) (fun hc1 => ?_)
  · have hf := if_f hf hc1
    exact J_16 R hf _ _ _ hB hS (lv_sub hl [0] rfl)
  · have hf := if_t hf hc1
    refine lv_iload_n hx hb dX7_right_7 rfl (lv_at hl 1 rfl) ?_
    refine lv_if_ne (tgt := 16) hx hb dX7_right_8 (by decide) (fun hc3 => ?_) (fun hc3 => ?_)
    · have hf := if_f hf hc3
      exact J_16 R hf _ _ _ hB hS (lv_sub hl [0] rfl)
    · have hf := if_t hf hc3
      refine lv_aload_n hx hb dX7_right_11 rfl (lv_at hl 0 rfl) ?_
      refine lv_iload_n hx hb dX7_right_12 rfl (lv_at hl 2 rfl) ?_
      obtain ⟨R4, eR4, hf⟩ := st1_s hf
      refine r_put X hB hS 0 90 (by decide) (kw_m kf_X7_90) rfl rfl rfl (rput_0 cI cZ o q R _) dX7_right_13 (fun H locs hB hS => ?_)
      rw [← eR4] at hB
      exact J_16 R4 hf _ _ _ hB hS (lv_sub hl [0] rfl)
/-! X7_isArena -/
def rf_isArena (F : Nat) (R : Rst) (x1 : Int32) : Option (Int32 × Rst) := st1 (rput R 0 (0 : Int32)) fun R1 => if x1 < 0 then ((rf_right F R1 (0 : Int32) (1 : Int32)).bind fun z3 => st2 z3 fun z3v z3R => bz z3v (some (z3v, z3R))) else (if (R1.1 1) ≤ x1 then ((rf_right F R1 (0 : Int32) (1 : Int32)).bind fun z6 => st2 z6 fun z6v z6R => bz z6v (some (z6v, z6R))) else ((rf_right F R1 (1 : Int32) (1 : Int32)).bind fun z8 => st2 z8 fun z8v z8R => bz z8v (some (z8v, z8R))))
set_option maxHeartbeats 4000000 in
set_option maxRecDepth 100000 in
theorem rm_isArena (l : Launch) (F : Nat) (D : va_G) (cI cZ : ClassId) (o : Nat) (q : Nat → Nat) (R : Rst) (x1 : Int32) (r : Int32) (R' : Rst) (hf : rf_isArena F R x1 = some (r, R'))   : rMet l yX7_isArena wq_X7_isArena { frames := 1, cells := 0, slots := 0, locals := 22 } D cI cZ o q [.ref o, .int x1] R (some (.int r)) R' := by
  refine rMet_of (cc := cX7_isArena) (maxL := 2) (ret := (some .boolean)) (by decide) rfl rfl (kw_h kw_X7) (Nat.le_of_ble_eq_true rfl) ?_
  intro p e s m below meth c X hr hlk ls hl hB hS
  have hx := X.1.1
  have hb := X.1.2.1
  have hown := X.1.2.2.2.1
  have hts := X.1.2.2.2.2
  have hl : lv_has ls 2 [(0, .ref o), (1, .int x1)] := hl
  generalize hargs : ([.ref o, .int x1] : List Value).toArray = args at X hts hS ⊢
  unfold rf_isArena at hf
  refine lv_aload_n hx hb dX7_isArena_0 rfl (lv_at hl 0 rfl) ?_
  refine lv_iconst (v := 0) hx hb dX7_isArena_1 (by decide) ?_
  obtain ⟨R1, eR1, hf⟩ := st1_s hf
  refine r_put X hB hS 0 90 (by decide) (kw_m kf_X7_90) rfl rfl rfl (rput_0 cI cZ o q R _) dX7_isArena_2 (fun H locs hB hS => ?_)
  rw [← eR1] at hB
  refine lv_aload_n hx hb dX7_isArena_5 rfl (lv_at hl 0 rfl) ?_
  refine lv_iload_n hx hb dX7_isArena_6 rfl (lv_at hl 1 rfl) ?_
  refine lv_if_lt (tgt := 22) hx hb dX7_isArena_7 (by decide) (fun hc2 => ?_) (fun hc2 => ?_)
  · have hf := if_t hf hc2
    refine lv_iconst (v := 0) hx hb dX7_isArena_22 (by decide) ?_
    refine lv_iconst (v := 1) hx hb dX7_isArena_23 (by decide) ?_
    obtain ⟨⟨z3v, z3R⟩, hqz3, hf⟩ := bn_s hf
    have hf := st2_s hf
    refine r_callV (As := [.int 0, .int 1]) (rest := []) X hB hS (rm_right l F D cI cZ o q _ _ _  _ _ hqz3) (cwV 2 hts (gd_V km_X7_97 ki_X7_right ks_X7_right kin_RX7 kc_X7_right) rfl rfl rfl (by decide +kernel) ⟨by decide, by decide⟩) hl rfl rfl (Nat.le_of_ble_eq_true rfl) dX7_isArena_24 ⟨Nat.zero_le _, Nat.zero_le _⟩ rfl (fun H locs hB hS => ?_)
    obtain ⟨hz4, hf⟩ := bz_s hf
    cases hf
    exact r_zret X hB hS hr hlk hz4 dX7_isArena_27
  · have hf := if_f hf hc2
    refine lv_iload_n hx hb dX7_isArena_10 rfl (lv_at hl 1 rfl) ?_
    refine lv_aload_n hx hb dX7_isArena_11 rfl (lv_at hl 0 rfl) ?_
    refine r_get X hB 1 94 (by decide) (kw_m kf_X7_94) rfl rfl dX7_isArena_12 ?_
    refine lv_icmp_ge (tgt := 22) hx hb dX7_isArena_15 (by decide) (fun hc5 => ?_) (fun hc5 => ?_)
    · have hf := if_t hf hc5
      refine lv_iconst (v := 0) hx hb dX7_isArena_22 (by decide) ?_
      refine lv_iconst (v := 1) hx hb dX7_isArena_23 (by decide) ?_
      obtain ⟨⟨z6v, z6R⟩, hqz6, hf⟩ := bn_s hf
      have hf := st2_s hf
      refine r_callV (As := [.int 0, .int 1]) (rest := []) X hB hS (rm_right l F D cI cZ o q _ _ _  _ _ hqz6) (cwV 2 hts (gd_V km_X7_97 ki_X7_right ks_X7_right kin_RX7 kc_X7_right) rfl rfl rfl (by decide +kernel) ⟨by decide, by decide⟩) hl rfl rfl (Nat.le_of_ble_eq_true rfl) dX7_isArena_24 ⟨Nat.zero_le _, Nat.zero_le _⟩ rfl (fun H locs hB hS => ?_)
      obtain ⟨hz7, hf⟩ := bz_s hf
      cases hf
      exact r_zret X hB hS hr hlk hz7 dX7_isArena_27
    · have hf := if_f hf hc5
      refine lv_iconst (v := 1) hx hb dX7_isArena_18 (by decide) ?_
      refine lv_goto (tgt := 23) hx hb dX7_isArena_19 (by decide) ?_
      refine lv_iconst (v := 1) hx hb dX7_isArena_23 (by decide) ?_
      obtain ⟨⟨z8v, z8R⟩, hqz8, hf⟩ := bn_s hf
      have hf := st2_s hf
      refine r_callV (As := [.int 1, .int 1]) (rest := []) X hB hS (rm_right l F D cI cZ o q _ _ _  _ _ hqz8) (cwV 2 hts (gd_V km_X7_97 ki_X7_right ks_X7_right kin_RX7 kc_X7_right) rfl rfl rfl (by decide +kernel) ⟨by decide, by decide⟩) hl rfl rfl (Nat.le_of_ble_eq_true rfl) dX7_isArena_24 ⟨Nat.zero_le _, Nat.zero_le _⟩ rfl (fun H locs hB hS => ?_)
      obtain ⟨hz9, hf⟩ := bz_s hf
      cases hf
      exact r_zret X hB hS hr hlk hz9 dX7_isArena_27
/-! X7_isPower -/
def rf_isPower (F : Nat) (R : Rst) (x0 : Int32) : Option Int32 := if x0 ≤ 0 then (some (0 : Int32)) else (if (x0 &&& (x0 - 1)) = 0 then (some (1 : Int32)) else (some (0 : Int32)))
set_option maxHeartbeats 4000000 in
set_option maxRecDepth 100000 in
theorem rm_isPower (l : Launch) (F : Nat) (D : va_G) (cI cZ : ClassId) (o : Nat) (q : Nat → Nat) (R : Rst) (x0 : Int32) (r : Int32) (hf : rf_isPower F R x0 = some r)   : rMet l yX7_isPower wq_X7_isPower { frames := 0, cells := 0, slots := 0, locals := 0 } D cI cZ o q [.int x0] R (some (.int r)) R := by
  refine rMet_of (cc := cX7_isPower) (maxL := 1) (ret := (some .boolean)) (by decide) rfl rfl (kw_h kw_X7) (Nat.le_of_ble_eq_true rfl) ?_
  intro p e s m below meth c X hr hlk ls hl hB hS
  have hx := X.1.1
  have hb := X.1.2.1
  have hown := X.1.2.2.2.1
  have hts := X.1.2.2.2.2
  have hl : lv_has ls 1 [(0, .int x0)] := hl
  generalize hargs : ([.int x0] : List Value).toArray = args at X hts hS ⊢
  unfold rf_isPower at hf
  refine lv_iload_n hx hb dX7_isPower_0 rfl (lv_at hl 0 rfl) ?_
  refine lv_if_le (tgt := 16) hx hb dX7_isPower_1 (by decide) (fun hc1 => ?_) (fun hc1 => ?_)
  · have hf := if_t hf hc1
    refine lv_iconst (v := 0) hx hb dX7_isPower_16 (by decide) ?_
    cases hf
    exact r_zret X hB hS hr hlk rfl dX7_isPower_17
  · have hf := if_f hf hc1
    refine lv_iload_n hx hb dX7_isPower_4 rfl (lv_at hl 0 rfl) ?_
    refine lv_iload_n hx hb dX7_isPower_5 rfl (lv_at hl 0 rfl) ?_
    refine lv_iconst (v := 1) hx hb dX7_isPower_6 (by decide) ?_
    refine lv_isub hx hb dX7_isPower_7 ?_
    refine lv_iand hx hb dX7_isPower_8 ?_
    refine lv_if_ne (tgt := 16) hx hb dX7_isPower_9 (by decide) (fun hc2 => ?_) (fun hc2 => ?_)
    · have hf := if_f hf hc2
      refine lv_iconst (v := 0) hx hb dX7_isPower_16 (by decide) ?_
      cases hf
      exact r_zret X hB hS hr hlk rfl dX7_isPower_17
    · have hf := if_t hf hc2
      refine lv_iconst (v := 1) hx hb dX7_isPower_12 (by decide) ?_
      refine lv_goto (tgt := 17) hx hb dX7_isPower_13 (by decide) ?_
      cases hf
      exact r_zret X hB hS hr hlk rfl dX7_isPower_17
/-! X7_left -/
def rf_left (F : Nat) (R : Rst) : Option Int32 := some ((600 - (R.1 10)) - (R.1 24))
set_option maxHeartbeats 4000000 in
set_option maxRecDepth 100000 in
theorem rm_left (l : Launch) (F : Nat) (D : va_G) (cI cZ : ClassId) (o : Nat) (q : Nat → Nat) (R : Rst) (r : Int32) (hf : rf_left F R = some r)   : rMet l yX7_left wq_X7_left { frames := 0, cells := 0, slots := 0, locals := 0 } D cI cZ o q [.ref o] R (some (.int r)) R := by
  refine rMet_of (cc := cX7_left) (maxL := 1) (ret := (some .int)) (by decide) rfl rfl (kw_h kw_X7) (Nat.le_of_ble_eq_true rfl) ?_
  intro p e s m below meth c X hr hlk ls hl hB hS
  have hx := X.1.1
  have hb := X.1.2.1
  have hown := X.1.2.2.2.1
  have hts := X.1.2.2.2.2
  have hl : lv_has ls 1 [(0, .ref o)] := hl
  generalize hargs : ([.ref o] : List Value).toArray = args at X hts hS ⊢
  unfold rf_left at hf
  refine lv_sipush (v := 600) hx hb dX7_left_0 (by decide) ?_
  refine lv_aload_n hx hb dX7_left_3 rfl (lv_at hl 0 rfl) ?_
  refine r_get X hB 10 107 (by decide) (kw_m kf_X7_107) rfl rfl dX7_left_4 ?_
  refine lv_isub hx hb dX7_left_7 ?_
  refine lv_aload_n hx hb dX7_left_8 rfl (lv_at hl 0 rfl) ?_
  refine r_get X hB 24 110 (by decide) (kw_m kf_X7_110) rfl rfl dX7_left_9 ?_
  refine lv_isub hx hb dX7_left_12 ?_
  cases hf
  exact r_iret X hB hS hr hlk dX7_left_13
/-! X7_position -/
def rf_position_3 (F : Nat) (R : Rst) : Nat → Int32 → Int64 → Int32 → Option Int32
  | 0 => fun _ _ _ => none
  | n + 1 => fun x1 x2 x4 => if (R.1 10) ≤ x4 then (some x4) else (rd R 11 x4 fun v2 => if v2 < x1 then ((rf_position_3 F R n) x1 x2 (x4 + 1)) else (rd R 11 x4 fun v4 => if v4 = x1 then (rd R 12 x4 fun v6 => if 0 ≤ (lg_cmp v6.toInt64 x2) then (some x4) else ((rf_position_3 F R n) x1 x2 (x4 + 1))) else (some x4)))
def rf_position (F : Nat) (R : Rst) (x1 : Int32) (x2 : Int64) : Option Int32 := rf_position_3 F R F x1 x2 (0 : Int32)
set_option maxHeartbeats 4000000 in
set_option maxRecDepth 100000 in
theorem rm_position (l : Launch) (F : Nat) (D : va_G) (cI cZ : ClassId) (o : Nat) (q : Nat → Nat) (R : Rst) (x1 : Int32) (x2 : Int64) (r : Int32) (hf : rf_position F R x1 x2 = some r)   : rMet l yX7_position wq_X7_position { frames := 0, cells := 0, slots := 0, locals := 0 } D cI cZ o q [.ref o, .int x1, .long x2] R (some (.int r)) R := by
  refine rMet_of (cc := cX7_position) (maxL := 5) (ret := (some .int)) (by decide) rfl rfl (kw_h kw_X7) (Nat.le_of_ble_eq_true rfl) ?_
  intro p e s m below meth c X hr hlk ls hl hB hS
  have hx := X.1.1
  have hb := X.1.2.1
  have hown := X.1.2.2.2.1
  have hts := X.1.2.2.2.2
  have hl : lv_has ls 5 [(0, .ref o), (1, .int x1), (2, .long x2)] := hl
  generalize hargs : ([.ref o, .int x1, .long x2] : List Value).toArray = args at X hts hS ⊢
  have J_3 : ∀ (n_3 : Nat) (x1 : Int32) (x2 : Int64) (x4 : Int32), rf_position_3 F R n_3 x1 x2 x4 = some r → ∀ (H : Heap) (locs : List Loc) (ls : Array Slot), rB D cI cZ o q R H → va_S (rA o q) s.heap H locs → lv_has ls 5 [(0, .ref o), (1, .int x1), (2, .long x2), (4, .int x4)] → W p l e { frames := 0, cells := 0, slots := 0, locals := 0 } s m args below meth c H locs 0 0 (MQ below (mq (some (.int r)) (rW D cI cZ o q R) (rA o q)) args s 0 0 (rA o q)) (F0 m 3 ls []) := by
    intro n_3
    induction n_3 with
    | zero => intro x1 x2 x4 hf; cases hf
    | succ n_3 ih_3 =>
      intro x1 x2 x4 hf H locs ls hB hS hl
      rw [rf_position_3] at hf
      refine lv_iload hx hb dX7_position_3 (lv_at hl 3 rfl) ?_
      refine lv_aload_n hx hb dX7_position_5 rfl (lv_at hl 0 rfl) ?_
      refine r_get X hB 10 107 (by decide) (kw_m kf_X7_107) rfl rfl dX7_position_6 ?_
      refine lv_icmp_ge (tgt := 53) hx hb dX7_position_9 (by decide) (fun hc1 => ?_) (fun hc1 => ?_)
      · have hf := if_t hf hc1
        refine lv_iload hx hb dX7_position_53 (lv_at hl 3 rfl) ?_
        cases hf
        exact r_iret X hB hS hr hlk dX7_position_55
      · have hf := if_f hf hc1
        refine lv_aload_n hx hb dX7_position_12 rfl (lv_at hl 0 rfl) ?_
        refine r_get X hB 11 34 (by decide) (kw_m kf_X7_34) rfl rfl dX7_position_13 ?_
        refine lv_iload hx hb dX7_position_16 (lv_at hl 3 rfl) ?_
        obtain ⟨v2, ev2, hiv2, hf⟩ := rd_s hf
        refine r_ld X hB 11 9 (rat_11 cI cZ o q R) hiv2 ev2 dX7_position_18 ?_
        refine lv_iload_n hx hb dX7_position_19 rfl (lv_at hl 1 rfl) ?_
        refine lv_icmp_lt (tgt := 47) hx hb dX7_position_20 (by decide) (fun hc3 => ?_) (fun hc3 => ?_)
        · have hf := if_t hf hc3
          refine lv_iinc (v := x4 + 1) (lv' := [(4, .int (x4 + 1)), (0, .ref o), (1, .int x1), (2, .long x2)]) hx hb dX7_position_47 hl (k := 3) rfl rfl (by decide) rfl (fun ls hl => ?_)
          refine lv_goto (tgt := 3) hx hb dX7_position_50 (by decide) ?_
          exact ih_3 x1 x2 (x4 + 1) hf _ _ _ hB hS (lv_sub hl [1, 2, 3, 0] rfl)
        · have hf := if_f hf hc3
          refine lv_aload_n hx hb dX7_position_23 rfl (lv_at hl 0 rfl) ?_
          refine r_get X hB 11 34 (by decide) (kw_m kf_X7_34) rfl rfl dX7_position_24 ?_
          refine lv_iload hx hb dX7_position_27 (lv_at hl 3 rfl) ?_
          obtain ⟨v4, ev4, hiv4, hf⟩ := rd_s hf
          refine r_ld X hB 11 9 (rat_11 cI cZ o q R) hiv4 ev4 dX7_position_29 ?_
          refine lv_iload_n hx hb dX7_position_30 rfl (lv_at hl 1 rfl) ?_
          refine lv_icmp_ne (tgt := 53) hx hb dX7_position_31 (by decide) (fun hc5 => ?_) (fun hc5 => ?_)
          · have hf := if_f hf hc5
            refine lv_iload hx hb dX7_position_53 (lv_at hl 3 rfl) ?_
            cases hf
            exact r_iret X hB hS hr hlk dX7_position_55
          · have hf := if_t hf hc5
            refine lv_aload_n hx hb dX7_position_34 rfl (lv_at hl 0 rfl) ?_
            refine r_get X hB 12 37 (by decide) (kw_m kf_X7_37) rfl rfl dX7_position_35 ?_
            refine lv_iload hx hb dX7_position_38 (lv_at hl 3 rfl) ?_
            obtain ⟨v6, ev6, hiv6, hf⟩ := rd_s hf
            refine r_ld X hB 12 10 (rat_12 cI cZ o q R) hiv6 ev6 dX7_position_40 ?_
            refine lv_i2l (v := v6.toInt64) hx hb dX7_position_41 rfl ?_
            refine lv_lload_n hx hb dX7_position_42 rfl (lv_at hl 2 rfl) ?_
            refine W.lcmp hx hb dX7_position_43 ?_
            refine lv_if_ge (tgt := 53) hx hb dX7_position_44 (by decide) (fun hc7 => ?_) (fun hc7 => ?_)
            · have hf := if_t hf hc7
              refine lv_iload hx hb dX7_position_53 (lv_at hl 3 rfl) ?_
              cases hf
              exact r_iret X hB hS hr hlk dX7_position_55
            · have hf := if_f hf hc7
              refine lv_iinc (v := x4 + 1) (lv' := [(4, .int (x4 + 1)), (0, .ref o), (1, .int x1), (2, .long x2)]) hx hb dX7_position_47 hl (k := 3) rfl rfl (by decide) rfl (fun ls hl => ?_)
              refine lv_goto (tgt := 3) hx hb dX7_position_50 (by decide) ?_
              exact ih_3 x1 x2 (x4 + 1) hf _ _ _ hB hS (lv_sub hl [1, 2, 3, 0] rfl)
  unfold rf_position at hf
  refine lv_iconst (v := 0) hx hb dX7_position_0 (by decide) ?_
  refine lv_istore (lv' := [(4, .int 0), (0, .ref o), (1, .int x1), (2, .long x2)]) hx hb dX7_position_1 hl (by decide) rfl (fun ls hl => ?_)
  exact J_3 F x1 x2 (0 : Int32) hf _ _ _ hB hS (lv_sub hl [1, 2, 3, 0] rfl)
/-! X7_copy -/
def rf_copy (F : Nat) (R : Rst) (x1 : Int32) (x2 : Int32) : Option Rst := rd R 11 x1 fun v1 => wr R 11 x2 v1 fun R2 => rd R2 12 x1 fun v3 => wr R2 12 x2 v3 fun R4 => rd R4 13 x1 fun v5 => wr R4 13 x2 v5 fun R6 => rd R6 14 x1 fun v7 => wr R6 14 x2 v7 fun R8 => rd R8 15 x1 fun v9 => wr R8 15 x2 v9 fun R10 => rd R10 16 x1 fun v11 => wr R10 16 x2 v11 fun R12 => rd R12 17 x1 fun v13 => wr R12 17 x2 v13 fun R14 => some R14
set_option maxHeartbeats 4000000 in
set_option maxRecDepth 100000 in
theorem rm_copy (l : Launch) (F : Nat) (D : va_G) (cI cZ : ClassId) (o : Nat) (q : Nat → Nat) (R : Rst) (x1 : Int32) (x2 : Int32) (R' : Rst) (hf : rf_copy F R x1 x2 = some R')   : rMet l yX7_copy wq_X7_copy { frames := 0, cells := 0, slots := 0, locals := 0 } D cI cZ o q [.ref o, .int x1, .int x2] R none R' := by
  refine rMet_of (cc := cX7_copy) (maxL := 3) (ret := none) (by decide) rfl rfl (kw_h kw_X7) (Nat.le_of_ble_eq_true rfl) ?_
  intro p e s m below meth c X hr hlk ls hl hB hS
  have hx := X.1.1
  have hb := X.1.2.1
  have hown := X.1.2.2.2.1
  have hts := X.1.2.2.2.2
  have hl : lv_has ls 3 [(0, .ref o), (1, .int x1), (2, .int x2)] := hl
  generalize hargs : ([.ref o, .int x1, .int x2] : List Value).toArray = args at X hts hS ⊢
  unfold rf_copy at hf
  refine lv_aload_n hx hb dX7_copy_0 rfl (lv_at hl 0 rfl) ?_
  refine r_get X hB 11 34 (by decide) (kw_m kf_X7_34) rfl rfl dX7_copy_1 ?_
  refine lv_iload_n hx hb dX7_copy_4 rfl (lv_at hl 2 rfl) ?_
  refine lv_aload_n hx hb dX7_copy_5 rfl (lv_at hl 0 rfl) ?_
  refine r_get X hB 11 34 (by decide) (kw_m kf_X7_34) rfl rfl dX7_copy_6 ?_
  refine lv_iload_n hx hb dX7_copy_9 rfl (lv_at hl 1 rfl) ?_
  obtain ⟨v1, ev1, hiv1, hf⟩ := rd_s hf
  refine r_ld X hB 11 9 (rat_11 cI cZ o q R) hiv1 ev1 dX7_copy_10 ?_
  obtain ⟨R2, eR2, hiR2, hf⟩ := wr_s hf
  refine r_st X hB hS 11 9 (rat_11 cI cZ o q R) (rset_11 cI cZ o q R _ _) hiR2 dX7_copy_11 (fun H locs hB hS => ?_)
  rw [← eR2] at hB
  refine lv_aload_n hx hb dX7_copy_12 rfl (lv_at hl 0 rfl) ?_
  refine r_get X hB 12 37 (by decide) (kw_m kf_X7_37) rfl rfl dX7_copy_13 ?_
  refine lv_iload_n hx hb dX7_copy_16 rfl (lv_at hl 2 rfl) ?_
  refine lv_aload_n hx hb dX7_copy_17 rfl (lv_at hl 0 rfl) ?_
  refine r_get X hB 12 37 (by decide) (kw_m kf_X7_37) rfl rfl dX7_copy_18 ?_
  refine lv_iload_n hx hb dX7_copy_21 rfl (lv_at hl 1 rfl) ?_
  obtain ⟨v3, ev3, hiv3, hf⟩ := rd_s hf
  refine r_ld X hB 12 10 (rat_12 cI cZ o q R2) hiv3 ev3 dX7_copy_22 ?_
  obtain ⟨R4, eR4, hiR4, hf⟩ := wr_s hf
  refine r_st X hB hS 12 10 (rat_12 cI cZ o q R2) (rset_12 cI cZ o q R2 _ _) hiR4 dX7_copy_23 (fun H locs hB hS => ?_)
  rw [← eR4] at hB
  refine lv_aload_n hx hb dX7_copy_24 rfl (lv_at hl 0 rfl) ?_
  refine r_get X hB 13 40 (by decide) (kw_m kf_X7_40) rfl rfl dX7_copy_25 ?_
  refine lv_iload_n hx hb dX7_copy_28 rfl (lv_at hl 2 rfl) ?_
  refine lv_aload_n hx hb dX7_copy_29 rfl (lv_at hl 0 rfl) ?_
  refine r_get X hB 13 40 (by decide) (kw_m kf_X7_40) rfl rfl dX7_copy_30 ?_
  refine lv_iload_n hx hb dX7_copy_33 rfl (lv_at hl 1 rfl) ?_
  obtain ⟨v5, ev5, hiv5, hf⟩ := rd_s hf
  refine r_ld X hB 13 11 (rat_13 cI cZ o q R4) hiv5 ev5 dX7_copy_34 ?_
  obtain ⟨R6, eR6, hiR6, hf⟩ := wr_s hf
  refine r_st X hB hS 13 11 (rat_13 cI cZ o q R4) (rset_13 cI cZ o q R4 _ _) hiR6 dX7_copy_35 (fun H locs hB hS => ?_)
  rw [← eR6] at hB
  refine lv_aload_n hx hb dX7_copy_36 rfl (lv_at hl 0 rfl) ?_
  refine r_get X hB 14 43 (by decide) (kw_m kf_X7_43) rfl rfl dX7_copy_37 ?_
  refine lv_iload_n hx hb dX7_copy_40 rfl (lv_at hl 2 rfl) ?_
  refine lv_aload_n hx hb dX7_copy_41 rfl (lv_at hl 0 rfl) ?_
  refine r_get X hB 14 43 (by decide) (kw_m kf_X7_43) rfl rfl dX7_copy_42 ?_
  refine lv_iload_n hx hb dX7_copy_45 rfl (lv_at hl 1 rfl) ?_
  obtain ⟨v7, ev7, hiv7, hf⟩ := rd_s hf
  refine r_ld X hB 14 12 (rat_14 cI cZ o q R6) hiv7 ev7 dX7_copy_46 ?_
  obtain ⟨R8, eR8, hiR8, hf⟩ := wr_s hf
  refine r_st X hB hS 14 12 (rat_14 cI cZ o q R6) (rset_14 cI cZ o q R6 _ _) hiR8 dX7_copy_47 (fun H locs hB hS => ?_)
  rw [← eR8] at hB
  refine lv_aload_n hx hb dX7_copy_48 rfl (lv_at hl 0 rfl) ?_
  refine r_get X hB 15 46 (by decide) (kw_m kf_X7_46) rfl rfl dX7_copy_49 ?_
  refine lv_iload_n hx hb dX7_copy_52 rfl (lv_at hl 2 rfl) ?_
  refine lv_aload_n hx hb dX7_copy_53 rfl (lv_at hl 0 rfl) ?_
  refine r_get X hB 15 46 (by decide) (kw_m kf_X7_46) rfl rfl dX7_copy_54 ?_
  refine lv_iload_n hx hb dX7_copy_57 rfl (lv_at hl 1 rfl) ?_
  obtain ⟨v9, ev9, hiv9, hf⟩ := rd_s hf
  refine r_ld X hB 15 13 (rat_15 cI cZ o q R8) hiv9 ev9 dX7_copy_58 ?_
  obtain ⟨R10, eR10, hiR10, hf⟩ := wr_s hf
  refine r_st X hB hS 15 13 (rat_15 cI cZ o q R8) (rset_15 cI cZ o q R8 _ _) hiR10 dX7_copy_59 (fun H locs hB hS => ?_)
  rw [← eR10] at hB
  refine lv_aload_n hx hb dX7_copy_60 rfl (lv_at hl 0 rfl) ?_
  refine r_get X hB 16 49 (by decide) (kw_m kf_X7_49) rfl rfl dX7_copy_61 ?_
  refine lv_iload_n hx hb dX7_copy_64 rfl (lv_at hl 2 rfl) ?_
  refine lv_aload_n hx hb dX7_copy_65 rfl (lv_at hl 0 rfl) ?_
  refine r_get X hB 16 49 (by decide) (kw_m kf_X7_49) rfl rfl dX7_copy_66 ?_
  refine lv_iload_n hx hb dX7_copy_69 rfl (lv_at hl 1 rfl) ?_
  obtain ⟨v11, ev11, hiv11, hf⟩ := rd_s hf
  refine r_ld X hB 16 14 (rat_16 cI cZ o q R10) hiv11 ev11 dX7_copy_70 ?_
  obtain ⟨R12, eR12, hiR12, hf⟩ := wr_s hf
  refine r_st X hB hS 16 14 (rat_16 cI cZ o q R10) (rset_16 cI cZ o q R10 _ _) hiR12 dX7_copy_71 (fun H locs hB hS => ?_)
  rw [← eR12] at hB
  refine lv_aload_n hx hb dX7_copy_72 rfl (lv_at hl 0 rfl) ?_
  refine r_get X hB 17 52 (by decide) (kw_m kf_X7_52) rfl rfl dX7_copy_73 ?_
  refine lv_iload_n hx hb dX7_copy_76 rfl (lv_at hl 2 rfl) ?_
  refine lv_aload_n hx hb dX7_copy_77 rfl (lv_at hl 0 rfl) ?_
  refine r_get X hB 17 52 (by decide) (kw_m kf_X7_52) rfl rfl dX7_copy_78 ?_
  refine lv_iload_n hx hb dX7_copy_81 rfl (lv_at hl 1 rfl) ?_
  obtain ⟨v13, ev13, hiv13, hf⟩ := rd_s hf
  refine r_ld X hB 17 15 (rat_17 cI cZ o q R12) hiv13 ev13 dX7_copy_82 ?_
  obtain ⟨R14, eR14, hiR14, hf⟩ := wr_s hf
  refine r_st X hB hS 17 15 (rat_17 cI cZ o q R12) (rset_17 cI cZ o q R12 _ _) hiR14 dX7_copy_83 (fun H locs hB hS => ?_)
  rw [← eR14] at hB
  cases hf
  exact r_vret X hB hS hr hlk dX7_copy_84
/-! X7_frees -/
def rf_frees (F : Nat) (R : Rst) (x1 : Int32) : Option Rst := wr R 14 x1 (0 : Int32) fun R1 => st1 (rput R1 18 ((R1.1 18) + 1)) fun R2 => wr R2 15 x1 (R2.1 18) fun R3 => some R3
set_option maxHeartbeats 4000000 in
set_option maxRecDepth 100000 in
theorem rm_frees (l : Launch) (F : Nat) (D : va_G) (cI cZ : ClassId) (o : Nat) (q : Nat → Nat) (R : Rst) (x1 : Int32) (R' : Rst) (hf : rf_frees F R x1 = some R')   : rMet l yX7_frees wq_X7_frees { frames := 0, cells := 0, slots := 0, locals := 0 } D cI cZ o q [.ref o, .int x1] R none R' := by
  refine rMet_of (cc := cX7_frees) (maxL := 2) (ret := none) (by decide) rfl rfl (kw_h kw_X7) (Nat.le_of_ble_eq_true rfl) ?_
  intro p e s m below meth c X hr hlk ls hl hB hS
  have hx := X.1.1
  have hb := X.1.2.1
  have hown := X.1.2.2.2.1
  have hts := X.1.2.2.2.2
  have hl : lv_has ls 2 [(0, .ref o), (1, .int x1)] := hl
  generalize hargs : ([.ref o, .int x1] : List Value).toArray = args at X hts hS ⊢
  unfold rf_frees at hf
  refine lv_aload_n hx hb dX7_frees_0 rfl (lv_at hl 0 rfl) ?_
  refine r_get X hB 14 43 (by decide) (kw_m kf_X7_43) rfl rfl dX7_frees_1 ?_
  refine lv_iload_n hx hb dX7_frees_4 rfl (lv_at hl 1 rfl) ?_
  refine lv_iconst (v := 0) hx hb dX7_frees_5 (by decide) ?_
  obtain ⟨R1, eR1, hiR1, hf⟩ := wr_s hf
  refine r_st X hB hS 14 12 (rat_14 cI cZ o q R) (rset_14 cI cZ o q R _ _) hiR1 dX7_frees_6 (fun H locs hB hS => ?_)
  rw [← eR1] at hB
  refine lv_aload_n hx hb dX7_frees_7 rfl (lv_at hl 0 rfl) ?_
  refine lv_dup hx hb dX7_frees_8 rfl ?_
  refine r_get X hB 18 125 (by decide) (kw_m kf_X7_125) rfl rfl dX7_frees_9 ?_
  refine lv_iconst (v := 1) hx hb dX7_frees_12 (by decide) ?_
  refine lv_iadd hx hb dX7_frees_13 ?_
  obtain ⟨R2, eR2, hf⟩ := st1_s hf
  refine r_put X hB hS 18 125 (by decide) (kw_m kf_X7_125) rfl rfl rfl (rput_18 cI cZ o q R1 _) dX7_frees_14 (fun H locs hB hS => ?_)
  rw [← eR2] at hB
  refine lv_aload_n hx hb dX7_frees_17 rfl (lv_at hl 0 rfl) ?_
  refine r_get X hB 15 46 (by decide) (kw_m kf_X7_46) rfl rfl dX7_frees_18 ?_
  refine lv_iload_n hx hb dX7_frees_21 rfl (lv_at hl 1 rfl) ?_
  refine lv_aload_n hx hb dX7_frees_22 rfl (lv_at hl 0 rfl) ?_
  refine r_get X hB 18 125 (by decide) (kw_m kf_X7_125) rfl rfl dX7_frees_23 ?_
  obtain ⟨R3, eR3, hiR3, hf⟩ := wr_s hf
  refine r_st X hB hS 15 13 (rat_15 cI cZ o q R2) (rset_15 cI cZ o q R2 _ _) hiR3 dX7_frees_26 (fun H locs hB hS => ?_)
  rw [← eR3] at hB
  cases hf
  exact r_vret X hB hS hr hlk dX7_frees_27
/-! X7_insert -/
def rf_insert_15 (F : Nat) : Nat → Rst → Int32 → Int32 → Int32 → Int32 → Int32 → Int32 → Option (Int32 × Rst)
  | 0 => fun _ _ _ _ _ _ _ => none
  | n + 1 => fun R x1 x2 x3 x4 x5 x6 => if x6 ≤ x5 then (st1 (rput R 10 ((R.1 10) + 1)) fun R3 => wr R3 11 x5 x1 fun R4 => wr R4 12 x5 x2 fun R5 => wr R5 13 x5 x3 fun R6 => wr R6 16 x5 x4 fun R7 => wr R7 17 x5 (0 : Int32) fun R8 => (rf_frees F R8 x5).bind fun R9 => some (x5, R9)) else ((rf_copy F R (x6 - 1) x6).bind fun R10 => (rf_insert_15 F n) R10 x1 x2 x3 x4 x5 (x6 + (-1)))
def rf_insert (F : Nat) (R : Rst) (x1 : Int32) (x2 : Int32) (x3 : Int32) (x4 : Int32) : Option (Int32 × Rst) := (rf_position F R x1 x2.toInt64).bind fun v1 => rf_insert_15 F F R x1 x2 x3 x4 v1 (R.1 10)
set_option maxHeartbeats 4000000 in
set_option maxRecDepth 100000 in
theorem rm_insert (l : Launch) (F : Nat) (D : va_G) (cI cZ : ClassId) (o : Nat) (q : Nat → Nat) (R : Rst) (x1 : Int32) (x2 : Int32) (x3 : Int32) (x4 : Int32) (r : Int32) (R' : Rst) (hf : rf_insert F R x1 x2 x3 x4 = some (r, R'))   : rMet l yX7_insert wq_X7_insert { frames := 1, cells := 0, slots := 0, locals := 24 } D cI cZ o q [.ref o, .int x1, .int x2, .int x3, .int x4] R (some (.int r)) R' := by
  refine rMet_of (cc := cX7_insert) (maxL := 7) (ret := (some .int)) (by decide) rfl rfl (kw_h kw_X7) (Nat.le_of_ble_eq_true rfl) ?_
  intro p e s m below meth c X hr hlk ls hl hB hS
  have hx := X.1.1
  have hb := X.1.2.1
  have hown := X.1.2.2.2.1
  have hts := X.1.2.2.2.2
  have hl : lv_has ls 7 [(0, .ref o), (1, .int x1), (2, .int x2), (3, .int x3), (4, .int x4)] := hl
  generalize hargs : ([.ref o, .int x1, .int x2, .int x3, .int x4] : List Value).toArray = args at X hts hS ⊢
  have J_15 : ∀ (n_15 : Nat) (R : Rst) (x1 : Int32) (x2 : Int32) (x3 : Int32) (x4 : Int32) (x5 : Int32) (x6 : Int32), rf_insert_15 F n_15 R x1 x2 x3 x4 x5 x6 = some (r, R') → ∀ (H : Heap) (locs : List Loc) (ls : Array Slot), rB D cI cZ o q R H → va_S (rA o q) s.heap H locs → lv_has ls 7 [(0, .ref o), (1, .int x1), (2, .int x2), (3, .int x3), (4, .int x4), (5, .int x5), (6, .int x6)] → W p l e { frames := 1, cells := 0, slots := 0, locals := 24 } s m args below meth c H locs 0 0 (MQ below (mq (some (.int r)) (rW D cI cZ o q R') (rA o q)) args s 0 0 (rA o q)) (F0 m 15 ls []) := by
    intro n_15
    induction n_15 with
    | zero => intro R x1 x2 x3 x4 x5 x6 hf; cases hf
    | succ n_15 ih_15 =>
      intro R x1 x2 x3 x4 x5 x6 hf H locs ls hB hS hl
      rw [rf_insert_15] at hf
      refine lv_iload hx hb dX7_insert_15 (lv_at hl 6 rfl) ?_
      refine lv_iload hx hb dX7_insert_17 (lv_at hl 5 rfl) ?_
      refine lv_icmp_le (tgt := 38) hx hb dX7_insert_19 (by decide) (fun hc2 => ?_) (fun hc2 => ?_)
      · have hf := if_t hf hc2
        refine lv_aload_n hx hb dX7_insert_38 rfl (lv_at hl 0 rfl) ?_
        refine lv_dup hx hb dX7_insert_39 rfl ?_
        refine r_get X hB 10 107 (by decide) (kw_m kf_X7_107) rfl rfl dX7_insert_40 ?_
        refine lv_iconst (v := 1) hx hb dX7_insert_43 (by decide) ?_
        refine lv_iadd hx hb dX7_insert_44 ?_
        obtain ⟨R3, eR3, hf⟩ := st1_s hf
        refine r_put X hB hS 10 107 (by decide) (kw_m kf_X7_107) rfl rfl rfl (rput_10 cI cZ o q R _) dX7_insert_45 (fun H locs hB hS => ?_)
        rw [← eR3] at hB
        refine lv_aload_n hx hb dX7_insert_48 rfl (lv_at hl 0 rfl) ?_
        refine r_get X hB 11 34 (by decide) (kw_m kf_X7_34) rfl rfl dX7_insert_49 ?_
        refine lv_iload hx hb dX7_insert_52 (lv_at hl 5 rfl) ?_
        refine lv_iload_n hx hb dX7_insert_54 rfl (lv_at hl 1 rfl) ?_
        obtain ⟨R4, eR4, hiR4, hf⟩ := wr_s hf
        refine r_st X hB hS 11 9 (rat_11 cI cZ o q R3) (rset_11 cI cZ o q R3 _ _) hiR4 dX7_insert_55 (fun H locs hB hS => ?_)
        rw [← eR4] at hB
        refine lv_aload_n hx hb dX7_insert_56 rfl (lv_at hl 0 rfl) ?_
        refine r_get X hB 12 37 (by decide) (kw_m kf_X7_37) rfl rfl dX7_insert_57 ?_
        refine lv_iload hx hb dX7_insert_60 (lv_at hl 5 rfl) ?_
        refine lv_iload_n hx hb dX7_insert_62 rfl (lv_at hl 2 rfl) ?_
        obtain ⟨R5, eR5, hiR5, hf⟩ := wr_s hf
        refine r_st X hB hS 12 10 (rat_12 cI cZ o q R4) (rset_12 cI cZ o q R4 _ _) hiR5 dX7_insert_63 (fun H locs hB hS => ?_)
        rw [← eR5] at hB
        refine lv_aload_n hx hb dX7_insert_64 rfl (lv_at hl 0 rfl) ?_
        refine r_get X hB 13 40 (by decide) (kw_m kf_X7_40) rfl rfl dX7_insert_65 ?_
        refine lv_iload hx hb dX7_insert_68 (lv_at hl 5 rfl) ?_
        refine lv_iload_n hx hb dX7_insert_70 rfl (lv_at hl 3 rfl) ?_
        obtain ⟨R6, eR6, hiR6, hf⟩ := wr_s hf
        refine r_st X hB hS 13 11 (rat_13 cI cZ o q R5) (rset_13 cI cZ o q R5 _ _) hiR6 dX7_insert_71 (fun H locs hB hS => ?_)
        rw [← eR6] at hB
        refine lv_aload_n hx hb dX7_insert_72 rfl (lv_at hl 0 rfl) ?_
        refine r_get X hB 16 49 (by decide) (kw_m kf_X7_49) rfl rfl dX7_insert_73 ?_
        refine lv_iload hx hb dX7_insert_76 (lv_at hl 5 rfl) ?_
        refine lv_iload hx hb dX7_insert_78 (lv_at hl 4 rfl) ?_
        obtain ⟨R7, eR7, hiR7, hf⟩ := wr_s hf
        refine r_st X hB hS 16 14 (rat_16 cI cZ o q R6) (rset_16 cI cZ o q R6 _ _) hiR7 dX7_insert_80 (fun H locs hB hS => ?_)
        rw [← eR7] at hB
        refine lv_aload_n hx hb dX7_insert_81 rfl (lv_at hl 0 rfl) ?_
        refine r_get X hB 17 52 (by decide) (kw_m kf_X7_52) rfl rfl dX7_insert_82 ?_
        refine lv_iload hx hb dX7_insert_85 (lv_at hl 5 rfl) ?_
        refine lv_iconst (v := 0) hx hb dX7_insert_87 (by decide) ?_
        obtain ⟨R8, eR8, hiR8, hf⟩ := wr_s hf
        refine r_st X hB hS 17 15 (rat_17 cI cZ o q R7) (rset_17 cI cZ o q R7 _ _) hiR8 dX7_insert_88 (fun H locs hB hS => ?_)
        rw [← eR8] at hB
        refine lv_aload_n hx hb dX7_insert_89 rfl (lv_at hl 0 rfl) ?_
        refine lv_iload hx hb dX7_insert_90 (lv_at hl 5 rfl) ?_
        obtain ⟨R9, hqR9, hf⟩ := bn_s hf
        refine r_callV (As := [.int x5]) (rest := []) X hB hS (rm_frees l F D cI cZ o q _ _  _ hqR9) (cwV 1 hts (gd_V km_X7_121 ki_X7_frees ks_X7_frees kin_RX7 kc_X7_frees) rfl rfl rfl (by decide +kernel) ⟨by decide, by decide⟩) hl rfl rfl (Nat.le_of_ble_eq_true rfl) dX7_insert_92 ⟨Nat.zero_le _, Nat.zero_le _⟩ rfl (fun H locs hB hS => ?_)
        refine lv_iload hx hb dX7_insert_95 (lv_at hl 5 rfl) ?_
        cases hf
        exact r_iret X hB hS hr hlk dX7_insert_97
      · have hf := if_f hf hc2
        refine lv_aload_n hx hb dX7_insert_22 rfl (lv_at hl 0 rfl) ?_
        refine lv_iload hx hb dX7_insert_23 (lv_at hl 6 rfl) ?_
        refine lv_iconst (v := 1) hx hb dX7_insert_25 (by decide) ?_
        refine lv_isub hx hb dX7_insert_26 ?_
        refine lv_iload hx hb dX7_insert_27 (lv_at hl 6 rfl) ?_
        obtain ⟨R10, hqR10, hf⟩ := bn_s hf
        refine r_callV (As := [.int (x6 - 1), .int x6]) (rest := []) X hB hS (rm_copy l F D cI cZ o q _ _ _  _ hqR10) (cwV 2 hts (gd_V km_X7_117 ki_X7_copy ks_X7_copy kin_RX7 kc_X7_copy) rfl rfl rfl (by decide +kernel) ⟨by decide, by decide⟩) hl rfl rfl (Nat.le_of_ble_eq_true rfl) dX7_insert_29 ⟨Nat.zero_le _, Nat.zero_le _⟩ rfl (fun H locs hB hS => ?_)
        refine lv_iinc (v := x6 + (-1)) (lv' := [(6, .int (x6 + (-1))), (0, .ref o), (1, .int x1), (2, .int x2), (3, .int x3), (4, .int x4), (5, .int x5)]) hx hb dX7_insert_32 hl (k := 6) rfl rfl (by decide) rfl (fun ls hl => ?_)
        refine lv_goto (tgt := 15) hx hb dX7_insert_35 (by decide) ?_
        exact ih_15 R10 x1 x2 x3 x4 x5 (x6 + (-1)) hf _ _ _ hB hS (lv_sub hl [1, 2, 3, 4, 5, 6, 0] rfl)
  unfold rf_insert at hf
  refine lv_aload_n hx hb dX7_insert_0 rfl (lv_at hl 0 rfl) ?_
  refine lv_iload_n hx hb dX7_insert_1 rfl (lv_at hl 1 rfl) ?_
  refine lv_iload_n hx hb dX7_insert_2 rfl (lv_at hl 2 rfl) ?_
  refine lv_i2l (v := x2.toInt64) hx hb dX7_insert_3 rfl ?_
  obtain ⟨v1, hqv1, hf⟩ := bn_s hf
  refine r_callV (As := [.int x1, .long x2.toInt64]) (rest := []) X hB hS (rm_position l F D cI cZ o q _ _ _  _ hqv1) (cwV 2 hts (gd_V km_X7_113 ki_X7_position ks_X7_position kin_RX7 kc_X7_position) rfl rfl rfl (by decide +kernel) ⟨by decide, by decide⟩) hl rfl rfl (Nat.le_of_ble_eq_true rfl) dX7_insert_4 ⟨Nat.zero_le _, Nat.zero_le _⟩ rfl (fun H locs hB hS => ?_)
  refine lv_istore (lv' := [(5, .int v1), (0, .ref o), (1, .int x1), (2, .int x2), (3, .int x3), (4, .int x4)]) hx hb dX7_insert_7 hl (by decide) rfl (fun ls hl => ?_)
  refine lv_aload_n hx hb dX7_insert_9 rfl (lv_at hl 1 rfl) ?_
  refine r_get X hB 10 107 (by decide) (kw_m kf_X7_107) rfl rfl dX7_insert_10 ?_
  refine lv_istore (lv' := [(6, .int (R.1 10)), (5, .int v1), (0, .ref o), (1, .int x1), (2, .int x2), (3, .int x3), (4, .int x4)]) hx hb dX7_insert_13 hl (by decide) rfl (fun ls hl => ?_)
  exact J_15 F R x1 x2 x3 x4 v1 (R.1 10) hf _ _ _ hB hS (lv_sub hl [2, 3, 4, 5, 6, 1, 0] rfl)
/-! X7_remove -/
def rf_remove_12 (F : Nat) : Nat → Rst → Int32 → Option Rst
  | 0 => fun _ _ => none
  | n + 1 => fun R x2 => if (R.1 10) ≤ x2 then (some R) else ((rf_copy F R (x2 + 1) x2).bind fun R3 => (rf_remove_12 F n) R3 (x2 + 1))
def rf_remove (F : Nat) (R : Rst) (x1 : Int32) : Option Rst := st1 (rput R 10 ((R.1 10) - 1)) fun R1 => rf_remove_12 F F R1 x1
set_option maxHeartbeats 4000000 in
set_option maxRecDepth 100000 in
theorem rm_remove (l : Launch) (F : Nat) (D : va_G) (cI cZ : ClassId) (o : Nat) (q : Nat → Nat) (R : Rst) (x1 : Int32) (R' : Rst) (hf : rf_remove F R x1 = some R')   : rMet l yX7_remove wq_X7_remove { frames := 1, cells := 0, slots := 0, locals := 22 } D cI cZ o q [.ref o, .int x1] R none R' := by
  refine rMet_of (cc := cX7_remove) (maxL := 3) (ret := none) (by decide) rfl rfl (kw_h kw_X7) (Nat.le_of_ble_eq_true rfl) ?_
  intro p e s m below meth c X hr hlk ls hl hB hS
  have hx := X.1.1
  have hb := X.1.2.1
  have hown := X.1.2.2.2.1
  have hts := X.1.2.2.2.2
  have hl : lv_has ls 3 [(0, .ref o), (1, .int x1)] := hl
  generalize hargs : ([.ref o, .int x1] : List Value).toArray = args at X hts hS ⊢
  have J_12 : ∀ (n_12 : Nat) (R : Rst) (x2 : Int32), rf_remove_12 F n_12 R x2 = some R' → ∀ (H : Heap) (locs : List Loc) (ls : Array Slot), rB D cI cZ o q R H → va_S (rA o q) s.heap H locs → lv_has ls 3 [(0, .ref o), (2, .int x2)] → W p l e { frames := 1, cells := 0, slots := 0, locals := 22 } s m args below meth c H locs 0 0 (MQ below (mq none (rW D cI cZ o q R') (rA o q)) args s 0 0 (rA o q)) (F0 m 12 ls []) := by
    intro n_12
    induction n_12 with
    | zero => intro R x2 hf; cases hf
    | succ n_12 ih_12 =>
      intro R x2 hf H locs ls hB hS hl
      rw [rf_remove_12] at hf
      refine lv_iload_n hx hb dX7_remove_12 rfl (lv_at hl 1 rfl) ?_
      refine lv_aload_n hx hb dX7_remove_13 rfl (lv_at hl 0 rfl) ?_
      refine r_get X hB 10 107 (by decide) (kw_m kf_X7_107) rfl rfl dX7_remove_14 ?_
      refine lv_icmp_ge (tgt := 34) hx hb dX7_remove_17 (by decide) (fun hc2 => ?_) (fun hc2 => ?_)
      · have hf := if_t hf hc2
        cases hf
        exact r_vret X hB hS hr hlk dX7_remove_34
      · have hf := if_f hf hc2
        refine lv_aload_n hx hb dX7_remove_20 rfl (lv_at hl 0 rfl) ?_
        refine lv_iload_n hx hb dX7_remove_21 rfl (lv_at hl 1 rfl) ?_
        refine lv_iconst (v := 1) hx hb dX7_remove_22 (by decide) ?_
        refine lv_iadd hx hb dX7_remove_23 ?_
        refine lv_iload_n hx hb dX7_remove_24 rfl (lv_at hl 1 rfl) ?_
        obtain ⟨R3, hqR3, hf⟩ := bn_s hf
        refine r_callV (As := [.int (x2 + 1), .int x2]) (rest := []) X hB hS (rm_copy l F D cI cZ o q _ _ _  _ hqR3) (cwV 2 hts (gd_V km_X7_117 ki_X7_copy ks_X7_copy kin_RX7 kc_X7_copy) rfl rfl rfl (by decide +kernel) ⟨by decide, by decide⟩) hl rfl rfl (Nat.le_of_ble_eq_true rfl) dX7_remove_25 ⟨Nat.zero_le _, Nat.zero_le _⟩ rfl (fun H locs hB hS => ?_)
        refine lv_iinc (v := x2 + 1) (lv' := [(2, .int (x2 + 1)), (0, .ref o)]) hx hb dX7_remove_28 hl (k := 1) rfl rfl (by decide) rfl (fun ls hl => ?_)
        refine lv_goto (tgt := 12) hx hb dX7_remove_31 (by decide) ?_
        exact ih_12 R3 (x2 + 1) hf _ _ _ hB hS (lv_sub hl [1, 0] rfl)
  unfold rf_remove at hf
  refine lv_aload_n hx hb dX7_remove_0 rfl (lv_at hl 0 rfl) ?_
  refine lv_dup hx hb dX7_remove_1 rfl ?_
  refine r_get X hB 10 107 (by decide) (kw_m kf_X7_107) rfl rfl dX7_remove_2 ?_
  refine lv_iconst (v := 1) hx hb dX7_remove_5 (by decide) ?_
  refine lv_isub hx hb dX7_remove_6 ?_
  obtain ⟨R1, eR1, hf⟩ := st1_s hf
  refine r_put X hB hS 10 107 (by decide) (kw_m kf_X7_107) rfl rfl rfl (rput_10 cI cZ o q R _) dX7_remove_7 (fun H locs hB hS => ?_)
  rw [← eR1] at hB
  refine lv_iload_n hx hb dX7_remove_10 rfl (lv_at hl 1 rfl) ?_
  refine lv_istore_n (lv' := [(2, .int x1), (0, .ref o), (1, .int x1)]) hx hb dX7_remove_11 rfl hl (by decide) rfl (fun ls hl => ?_)
  exact J_12 F R1 x1 hf _ _ _ hB hS (lv_sub hl [1, 0] rfl)
/-! X7_addSpan -/
def rf_addSpan_3 (F : Nat) : Nat → Rst → Int32 → Int32 → Int32 → Int32 → Int32 → Option (Int32 × Rst)
  | 0 => fun _ _ _ _ _ _ => none
  | n + 1 => fun R x1 x2 x3 x4 x5 => rd R 22 x5 fun v1 => if v1 = 0 then (wr R 22 x5 (vp_nar .boolean (1 : Int32)) fun R3 => wr R3 23 x5 (vp_nar .boolean x4) fun R4 => wr R4 19 x5 x1 fun R5 => wr R5 20 x5 x2 fun R6 => wr R6 21 x5 x3 fun R7 => st1 (rput R7 24 ((R7.1 24) + 1)) fun R8 => (rf_insert F R8 x1 x2 x3 x5).bind fun z9 => st2 z9 fun z9v z9R => some (x5, z9R)) else ((rf_addSpan_3 F n) R x1 x2 x3 x4 (x5 + 1))
def rf_addSpan (F : Nat) (R : Rst) (x1 : Int32) (x2 : Int32) (x3 : Int32) (x4 : Int32) : Option (Int32 × Rst) := rf_addSpan_3 F F R x1 x2 x3 x4 (0 : Int32)
set_option maxHeartbeats 4000000 in
set_option maxRecDepth 100000 in
theorem rm_addSpan (l : Launch) (F : Nat) (D : va_G) (cI cZ : ClassId) (o : Nat) (q : Nat → Nat) (R : Rst) (x1 : Int32) (x2 : Int32) (x3 : Int32) (x4 : Int32) (r : Int32) (R' : Rst) (hf : rf_addSpan F R x1 x2 x3 x4 = some (r, R'))   : rMet l yX7_addSpan wq_X7_addSpan { frames := 2, cells := 0, slots := 0, locals := 50 } D cI cZ o q [.ref o, .int x1, .int x2, .int x3, .int x4] R (some (.int r)) R' := by
  refine rMet_of (cc := cX7_addSpan) (maxL := 6) (ret := (some .int)) (by decide) rfl rfl (kw_h kw_X7) (Nat.le_of_ble_eq_true rfl) ?_
  intro p e s m below meth c X hr hlk ls hl hB hS
  have hx := X.1.1
  have hb := X.1.2.1
  have hown := X.1.2.2.2.1
  have hts := X.1.2.2.2.2
  have hl : lv_has ls 6 [(0, .ref o), (1, .int x1), (2, .int x2), (3, .int x3), (4, .int x4)] := hl
  generalize hargs : ([.ref o, .int x1, .int x2, .int x3, .int x4] : List Value).toArray = args at X hts hS ⊢
  have J_3 : ∀ (n_3 : Nat) (R : Rst) (x1 : Int32) (x2 : Int32) (x3 : Int32) (x4 : Int32) (x5 : Int32), rf_addSpan_3 F n_3 R x1 x2 x3 x4 x5 = some (r, R') → ∀ (H : Heap) (locs : List Loc) (ls : Array Slot), rB D cI cZ o q R H → va_S (rA o q) s.heap H locs → lv_has ls 6 [(0, .ref o), (1, .int x1), (2, .int x2), (3, .int x3), (4, .int x4), (5, .int x5)] → W p l e { frames := 2, cells := 0, slots := 0, locals := 50 } s m args below meth c H locs 0 0 (MQ below (mq (some (.int r)) (rW D cI cZ o q R') (rA o q)) args s 0 0 (rA o q)) (F0 m 3 ls []) := by
    intro n_3
    induction n_3 with
    | zero => intro R x1 x2 x3 x4 x5 hf; cases hf
    | succ n_3 ih_3 =>
      intro R x1 x2 x3 x4 x5 hf H locs ls hB hS hl
      rw [rf_addSpan_3] at hf
      refine lv_aload_n hx hb dX7_addSpan_3 rfl (lv_at hl 0 rfl) ?_
      refine r_get X hB 22 64 (by decide) (kw_m kf_X7_64) rfl rfl dX7_addSpan_4 ?_
      refine lv_iload hx hb dX7_addSpan_7 (lv_at hl 5 rfl) ?_
      obtain ⟨v1, ev1, hiv1, hf⟩ := rd_s hf
      refine r_ldz X hB 22 19 (rat_22 cI cZ o q R) hiv1 ev1 dX7_addSpan_9 ?_
      refine lv_if_eq (tgt := 19) hx hb dX7_addSpan_10 (by decide) (fun hc2 => ?_) (fun hc2 => ?_)
      · have hf := if_t hf hc2
        refine lv_aload_n hx hb dX7_addSpan_19 rfl (lv_at hl 0 rfl) ?_
        refine r_get X hB 22 64 (by decide) (kw_m kf_X7_64) rfl rfl dX7_addSpan_20 ?_
        refine lv_iload hx hb dX7_addSpan_23 (lv_at hl 5 rfl) ?_
        refine lv_iconst (v := 1) hx hb dX7_addSpan_25 (by decide) ?_
        obtain ⟨R3, eR3, hiR3, hf⟩ := wr_s hf
        refine r_stz X hB hS 22 19 (rat_22 cI cZ o q R) (rset_22 cI cZ o q R _ _) hiR3 dX7_addSpan_26 (fun H locs hB hS => ?_)
        rw [← eR3] at hB
        refine lv_aload_n hx hb dX7_addSpan_27 rfl (lv_at hl 0 rfl) ?_
        refine r_get X hB 23 68 (by decide) (kw_m kf_X7_68) rfl rfl dX7_addSpan_28 ?_
        refine lv_iload hx hb dX7_addSpan_31 (lv_at hl 5 rfl) ?_
        refine lv_iload hx hb dX7_addSpan_33 (lv_at hl 4 rfl) ?_
        obtain ⟨R4, eR4, hiR4, hf⟩ := wr_s hf
        refine r_stz X hB hS 23 20 (rat_23 cI cZ o q R3) (rset_23 cI cZ o q R3 _ _) hiR4 dX7_addSpan_35 (fun H locs hB hS => ?_)
        rw [← eR4] at hB
        refine lv_aload_n hx hb dX7_addSpan_36 rfl (lv_at hl 0 rfl) ?_
        refine r_get X hB 19 55 (by decide) (kw_m kf_X7_55) rfl rfl dX7_addSpan_37 ?_
        refine lv_iload hx hb dX7_addSpan_40 (lv_at hl 5 rfl) ?_
        refine lv_iload_n hx hb dX7_addSpan_42 rfl (lv_at hl 1 rfl) ?_
        obtain ⟨R5, eR5, hiR5, hf⟩ := wr_s hf
        refine r_st X hB hS 19 16 (rat_19 cI cZ o q R4) (rset_19 cI cZ o q R4 _ _) hiR5 dX7_addSpan_43 (fun H locs hB hS => ?_)
        rw [← eR5] at hB
        refine lv_aload_n hx hb dX7_addSpan_44 rfl (lv_at hl 0 rfl) ?_
        refine r_get X hB 20 58 (by decide) (kw_m kf_X7_58) rfl rfl dX7_addSpan_45 ?_
        refine lv_iload hx hb dX7_addSpan_48 (lv_at hl 5 rfl) ?_
        refine lv_iload_n hx hb dX7_addSpan_50 rfl (lv_at hl 2 rfl) ?_
        obtain ⟨R6, eR6, hiR6, hf⟩ := wr_s hf
        refine r_st X hB hS 20 17 (rat_20 cI cZ o q R5) (rset_20 cI cZ o q R5 _ _) hiR6 dX7_addSpan_51 (fun H locs hB hS => ?_)
        rw [← eR6] at hB
        refine lv_aload_n hx hb dX7_addSpan_52 rfl (lv_at hl 0 rfl) ?_
        refine r_get X hB 21 61 (by decide) (kw_m kf_X7_61) rfl rfl dX7_addSpan_53 ?_
        refine lv_iload hx hb dX7_addSpan_56 (lv_at hl 5 rfl) ?_
        refine lv_iload_n hx hb dX7_addSpan_58 rfl (lv_at hl 3 rfl) ?_
        obtain ⟨R7, eR7, hiR7, hf⟩ := wr_s hf
        refine r_st X hB hS 21 18 (rat_21 cI cZ o q R6) (rset_21 cI cZ o q R6 _ _) hiR7 dX7_addSpan_59 (fun H locs hB hS => ?_)
        rw [← eR7] at hB
        refine lv_aload_n hx hb dX7_addSpan_60 rfl (lv_at hl 0 rfl) ?_
        refine lv_dup hx hb dX7_addSpan_61 rfl ?_
        refine r_get X hB 24 110 (by decide) (kw_m kf_X7_110) rfl rfl dX7_addSpan_62 ?_
        refine lv_iconst (v := 1) hx hb dX7_addSpan_65 (by decide) ?_
        refine lv_iadd hx hb dX7_addSpan_66 ?_
        obtain ⟨R8, eR8, hf⟩ := st1_s hf
        refine r_put X hB hS 24 110 (by decide) (kw_m kf_X7_110) rfl rfl rfl (rput_24 cI cZ o q R7 _) dX7_addSpan_67 (fun H locs hB hS => ?_)
        rw [← eR8] at hB
        refine lv_aload_n hx hb dX7_addSpan_70 rfl (lv_at hl 0 rfl) ?_
        refine lv_iload_n hx hb dX7_addSpan_71 rfl (lv_at hl 1 rfl) ?_
        refine lv_iload_n hx hb dX7_addSpan_72 rfl (lv_at hl 2 rfl) ?_
        refine lv_iload_n hx hb dX7_addSpan_73 rfl (lv_at hl 3 rfl) ?_
        refine lv_iload hx hb dX7_addSpan_74 (lv_at hl 5 rfl) ?_
        obtain ⟨⟨z9v, z9R⟩, hqz9, hf⟩ := bn_s hf
        have hf := st2_s hf
        refine r_callV (As := [.int x1, .int x2, .int x3, .int x5]) (rest := []) X hB hS (rm_insert l F D cI cZ o q _ _ _ _ _  _ _ hqz9) (cwV 4 hts (gd_V km_X7_128 ki_X7_insert ks_X7_insert kin_RX7 kc_X7_insert) rfl rfl rfl (by decide +kernel) ⟨by decide, by decide⟩) hl rfl rfl (Nat.le_of_ble_eq_true rfl) dX7_addSpan_76 ⟨Nat.zero_le _, Nat.zero_le _⟩ rfl (fun H locs hB hS => ?_)
        refine lv_pop hx hb dX7_addSpan_79 rfl ?_
        refine lv_iload hx hb dX7_addSpan_80 (lv_at hl 5 rfl) ?_
        cases hf
        exact r_iret X hB hS hr hlk dX7_addSpan_82
      · have hf := if_f hf hc2
        refine lv_iinc (v := x5 + 1) (lv' := [(5, .int (x5 + 1)), (0, .ref o), (1, .int x1), (2, .int x2), (3, .int x3), (4, .int x4)]) hx hb dX7_addSpan_13 hl (k := 5) rfl rfl (by decide) rfl (fun ls hl => ?_)
        refine lv_goto (tgt := 3) hx hb dX7_addSpan_16 (by decide) ?_
        exact ih_3 R x1 x2 x3 x4 (x5 + 1) hf _ _ _ hB hS (lv_sub hl [1, 2, 3, 4, 5, 0] rfl)
  unfold rf_addSpan at hf
  refine lv_iconst (v := 0) hx hb dX7_addSpan_0 (by decide) ?_
  refine lv_istore (lv' := [(5, .int 0), (0, .ref o), (1, .int x1), (2, .int x2), (3, .int x3), (4, .int x4)]) hx hb dX7_addSpan_1 hl (by decide) rfl (fun ls hl => ?_)
  exact J_3 F R x1 x2 x3 x4 (0 : Int32) hf _ _ _ hB hS (lv_sub hl [1, 2, 3, 4, 5, 0] rfl)
