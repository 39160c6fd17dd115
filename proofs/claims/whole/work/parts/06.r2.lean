/-! X7_make -/
def rf_make_74 (F : Nat) (R : Rst) (x1 : Int32) (x2 : Int32) (x3 : Int32) (y0 : Int32) : Option (Int32 × Rst) := (rf_right F R y0 (1 : Int32)).bind fun z5 => st2 z5 fun z5v z5R => if z5v = 0 then (some ((0 : Int32), z5R)) else (if (z5R.1 1) = (8 : Int32) then (some (((-1) : Int32), z5R)) else (wr z5R 2 (z5R.1 1) x1 fun R8 => wr R8 3 (R8.1 1) x2 fun R9 => wr R9 4 (R9.1 1) x3 fun R10 => wr R10 7 (R10.1 1) (1073741824 : Int32) fun R11 => st1 (rput R11 1 ((R11.1 1) + 1)) fun R12 => some (((R12.1 1) - 1), R12)))
def rf_make_46 (F : Nat) (R : Rst) (x1 : Int32) (x2 : Int32) (x3 : Int32) (y0 : Int32) : Option (Int32 × Rst) := if y0 = 0 then (rf_make_74 F R x1 x2 x3 (0 : Int32)) else (if x2 = ((-1) : Int32) then (rf_make_74 F R x1 x2 x3 (1 : Int32)) else (rd R 2 x2 fun v14 => if v14 < x1 then (rf_make_74 F R x1 x2 x3 (0 : Int32)) else (rf_make_74 F R x1 x2 x3 (1 : Int32))))
def rf_make (F : Nat) (R : Rst) (x1 : Int32) (x2 : Int32) (x3 : Int32) : Option (Int32 × Rst) := st1 (rput R 0 (0 : Int32)) fun R1 => (rf_isPower F R1 x1).bind fun v2 => if v2 = 0 then (rf_make_46 F R1 x1 x2 x3 (0 : Int32)) else (if (65536 : Int32) < x1 then (rf_make_46 F R1 x1 x2 x3 (0 : Int32)) else (if x3 < 0 then (rf_make_46 F R1 x1 x2 x3 (0 : Int32)) else (if (8 : Int32) < x3 then (rf_make_46 F R1 x1 x2 x3 (0 : Int32)) else (if x2 < ((-1) : Int32) then (rf_make_46 F R1 x1 x2 x3 (0 : Int32)) else (if (R1.1 1) ≤ x2 then (rf_make_46 F R1 x1 x2 x3 (0 : Int32)) else (rf_make_46 F R1 x1 x2 x3 (1 : Int32)))))))
set_option maxHeartbeats 4000000 in
set_option maxRecDepth 100000 in
theorem rm_make (l : Launch) (F : Nat) (D : va_G) (cI cZ : ClassId) (o : Nat) (q : Nat → Nat) (R : Rst) (x1 : Int32) (x2 : Int32) (x3 : Int32) (r : Int32) (R' : Rst) (hf : rf_make F R x1 x2 x3 = some (r, R'))   : rMet l yX7_make wq_X7_make { frames := 1, cells := 0, slots := 0, locals := 22 } D cI cZ o q [.ref o, .int x1, .int x2, .int x3] R (some (.int r)) R' := by
  refine rMet_of (cc := cX7_make) (maxL := 5) (ret := (some .int)) (by decide) rfl rfl (kw_h kw_X7) (Nat.le_of_ble_eq_true rfl) ?_
  intro p e s m below meth c X hr hlk ls hl hB hS
  have hx := X.1.1
  have hb := X.1.2.1
  have hown := X.1.2.2.2.1
  have hts := X.1.2.2.2.2
  have hl : lv_has ls 5 [(0, .ref o), (1, .int x1), (2, .int x2), (3, .int x3)] := hl
  generalize hargs : ([.ref o, .int x1, .int x2, .int x3] : List Value).toArray = args at X hts hS ⊢
  have J_74 : ∀ (R : Rst) (x1 : Int32) (x2 : Int32) (x3 : Int32) (y0 : Int32), rf_make_74 F R x1 x2 x3 y0 = some (r, R') → ∀ (H : Heap) (locs : List Loc) (ls : Array Slot), rB D cI cZ o q R H → va_S (rA o q) s.heap H locs → lv_has ls 5 [(0, .ref o), (1, .int x1), (2, .int x2), (3, .int x3)] → W p l e { frames := 1, cells := 0, slots := 0, locals := 22 } s m args below meth c H locs 0 0 (MQ below (mq (some (.int r)) (rW D cI cZ o q R') (rA o q)) args s 0 0 (rA o q)) (F0 m 74 ls [.int y0, .ref o]) := by
    intro R x1 x2 x3 y0 hf H locs ls hB hS hl
    unfold rf_make_74 at hf
    refine lv_iconst (v := 1) hx hb dX7_make_74 (by decide) ?_
    obtain ⟨⟨z5v, z5R⟩, hqz5, hf⟩ := bn_s hf
    have hf := st2_s hf
    refine r_callV (As := [.int y0, .int 1]) (rest := []) X hB hS (rm_right l F D cI cZ o q _ _ _  _ _ hqz5) (cwV 2 hts (gd_V km_X7_97 ki_X7_right ks_X7_right kin_RX7 kc_X7_right) rfl rfl rfl (by decide +kernel) ⟨by decide, by decide⟩) hl rfl rfl (Nat.le_of_ble_eq_true rfl) dX7_make_75 ⟨Nat.zero_le _, Nat.zero_le _⟩ rfl (fun H locs hB hS => ?_)
    refine lv_if_ne (tgt := 83) hx hb dX7_make_78 (by decide) (fun hc6 => ?_) (fun hc6 => ?_)
    · have hf := if_f hf hc6
      refine lv_aload_n hx hb dX7_make_83 rfl (lv_at hl 0 rfl) ?_
      refine r_get X hB 1 94 (by decide) (kw_m kf_X7_94) rfl rfl dX7_make_84 ?_
      refine lv_bipush (v := 8) hx hb dX7_make_87 (by decide) ?_
      refine lv_icmp_ne (tgt := 94) hx hb dX7_make_89 (by decide) (fun hc7 => ?_) (fun hc7 => ?_)
      · have hf := if_f hf hc7
        refine lv_aload_n hx hb dX7_make_94 rfl (lv_at hl 0 rfl) ?_
        refine r_get X hB 2 7 (by decide) (kw_m kf_X7_7) rfl rfl dX7_make_95 ?_
        refine lv_aload_n hx hb dX7_make_98 rfl (lv_at hl 0 rfl) ?_
        refine r_get X hB 1 94 (by decide) (kw_m kf_X7_94) rfl rfl dX7_make_99 ?_
        refine lv_iload_n hx hb dX7_make_102 rfl (lv_at hl 1 rfl) ?_
        obtain ⟨R8, eR8, hiR8, hf⟩ := wr_s hf
        refine r_st X hB hS 2 1 (rat_2 cI cZ o q z5R) (rset_2 cI cZ o q z5R _ _) hiR8 dX7_make_103 (fun H locs hB hS => ?_)
        rw [← eR8] at hB
        refine lv_aload_n hx hb dX7_make_104 rfl (lv_at hl 0 rfl) ?_
        refine r_get X hB 3 13 (by decide) (kw_m kf_X7_13) rfl rfl dX7_make_105 ?_
        refine lv_aload_n hx hb dX7_make_108 rfl (lv_at hl 0 rfl) ?_
        refine r_get X hB 1 94 (by decide) (kw_m kf_X7_94) rfl rfl dX7_make_109 ?_
        refine lv_iload_n hx hb dX7_make_112 rfl (lv_at hl 2 rfl) ?_
        obtain ⟨R9, eR9, hiR9, hf⟩ := wr_s hf
        refine r_st X hB hS 3 2 (rat_3 cI cZ o q R8) (rset_3 cI cZ o q R8 _ _) hiR9 dX7_make_113 (fun H locs hB hS => ?_)
        rw [← eR9] at hB
        refine lv_aload_n hx hb dX7_make_114 rfl (lv_at hl 0 rfl) ?_
        refine r_get X hB 4 16 (by decide) (kw_m kf_X7_16) rfl rfl dX7_make_115 ?_
        refine lv_aload_n hx hb dX7_make_118 rfl (lv_at hl 0 rfl) ?_
        refine r_get X hB 1 94 (by decide) (kw_m kf_X7_94) rfl rfl dX7_make_119 ?_
        refine lv_iload_n hx hb dX7_make_122 rfl (lv_at hl 3 rfl) ?_
        obtain ⟨R10, eR10, hiR10, hf⟩ := wr_s hf
        refine r_st X hB hS 4 3 (rat_4 cI cZ o q R9) (rset_4 cI cZ o q R9 _ _) hiR10 dX7_make_123 (fun H locs hB hS => ?_)
        rw [← eR10] at hB
        refine lv_aload_n hx hb dX7_make_124 rfl (lv_at hl 0 rfl) ?_
        refine r_get X hB 7 25 (by decide) (kw_m kf_X7_25) rfl rfl dX7_make_125 ?_
        refine lv_aload_n hx hb dX7_make_128 rfl (lv_at hl 0 rfl) ?_
        refine r_get X hB 1 94 (by decide) (kw_m kf_X7_94) rfl rfl dX7_make_129 ?_
        refine lv_ldc (v := 1073741824) hx hb hown (hts (.constant RX7 106 1073741824) (kw_m kk_X7_106)) dX7_make_132 ?_
        obtain ⟨R11, eR11, hiR11, hf⟩ := wr_s hf
        refine r_st X hB hS 7 6 (rat_7 cI cZ o q R10) (rset_7 cI cZ o q R10 _ _) hiR11 dX7_make_134 (fun H locs hB hS => ?_)
        rw [← eR11] at hB
        refine lv_aload_n hx hb dX7_make_135 rfl (lv_at hl 0 rfl) ?_
        refine lv_dup hx hb dX7_make_136 rfl ?_
        refine r_get X hB 1 94 (by decide) (kw_m kf_X7_94) rfl rfl dX7_make_137 ?_
        refine lv_iconst (v := 1) hx hb dX7_make_140 (by decide) ?_
        refine lv_iadd hx hb dX7_make_141 ?_
        obtain ⟨R12, eR12, hf⟩ := st1_s hf
        refine r_put X hB hS 1 94 (by decide) (kw_m kf_X7_94) rfl rfl rfl (rput_1 cI cZ o q R11 _) dX7_make_142 (fun H locs hB hS => ?_)
        rw [← eR12] at hB
        refine lv_aload_n hx hb dX7_make_145 rfl (lv_at hl 0 rfl) ?_
        refine r_get X hB 1 94 (by decide) (kw_m kf_X7_94) rfl rfl dX7_make_146 ?_
        refine lv_iconst (v := 1) hx hb dX7_make_149 (by decide) ?_
        refine lv_isub hx hb dX7_make_150 ?_
        cases hf
        exact r_iret X hB hS hr hlk dX7_make_151
      · have hf := if_t hf hc7
        refine lv_iconst (v := (-1)) hx hb dX7_make_92 (by decide) ?_
        cases hf
        exact r_iret X hB hS hr hlk dX7_make_93
    · have hf := if_t hf hc6
      refine lv_iconst (v := 0) hx hb dX7_make_81 (by decide) ?_
      cases hf
      exact r_iret X hB hS hr hlk dX7_make_82
  have J_46 : ∀ (R : Rst) (x1 : Int32) (x2 : Int32) (x3 : Int32) (y0 : Int32), rf_make_46 F R x1 x2 x3 y0 = some (r, R') → ∀ (H : Heap) (locs : List Loc) (ls : Array Slot), rB D cI cZ o q R H → va_S (rA o q) s.heap H locs → lv_has ls 5 [(0, .ref o), (1, .int x1), (2, .int x2), (3, .int x3)] → W p l e { frames := 1, cells := 0, slots := 0, locals := 22 } s m args below meth c H locs 0 0 (MQ below (mq (some (.int r)) (rW D cI cZ o q R') (rA o q)) args s 0 0 (rA o q)) (F0 m 46 ls [.int y0]) := by
    intro R x1 x2 x3 y0 hf H locs ls hB hS hl
    unfold rf_make_46 at hf
    refine lv_istore (lv' := [(4, .int y0), (0, .ref o), (1, .int x1), (2, .int x2), (3, .int x3)]) hx hb dX7_make_46 hl (by decide) rfl (fun ls hl => ?_)
    refine lv_aload_n hx hb dX7_make_48 rfl (lv_at hl 1 rfl) ?_
    refine lv_iload hx hb dX7_make_49 (lv_at hl 0 rfl) ?_
    refine lv_if_eq (tgt := 73) hx hb dX7_make_51 (by decide) (fun hc4 => ?_) (fun hc4 => ?_)
    · have hf := if_t hf hc4
      refine lv_iconst (v := 0) hx hb dX7_make_73 (by decide) ?_
      exact J_74 R x1 x2 x3 (0 : Int32) hf _ _ _ hB hS (lv_sub hl [1, 2, 3, 4] rfl)
    · have hf := if_f hf hc4
      refine lv_iload_n hx hb dX7_make_54 rfl (lv_at hl 3 rfl) ?_
      refine lv_iconst (v := (-1)) hx hb dX7_make_55 (by decide) ?_
      refine lv_icmp_eq (tgt := 69) hx hb dX7_make_56 (by decide) (fun hc13 => ?_) (fun hc13 => ?_)
      · have hf := if_t hf hc13
        refine lv_iconst (v := 1) hx hb dX7_make_69 (by decide) ?_
        refine lv_goto (tgt := 74) hx hb dX7_make_70 (by decide) ?_
        exact J_74 R x1 x2 x3 (1 : Int32) hf _ _ _ hB hS (lv_sub hl [1, 2, 3, 4] rfl)
      · have hf := if_f hf hc13
        refine lv_aload_n hx hb dX7_make_59 rfl (lv_at hl 1 rfl) ?_
        refine r_get X hB 2 7 (by decide) (kw_m kf_X7_7) rfl rfl dX7_make_60 ?_
        refine lv_iload_n hx hb dX7_make_63 rfl (lv_at hl 3 rfl) ?_
        obtain ⟨v14, ev14, hiv14, hf⟩ := rd_s hf
        refine r_ld X hB 2 1 (rat_2 cI cZ o q R) hiv14 ev14 dX7_make_64 ?_
        refine lv_iload_n hx hb dX7_make_65 rfl (lv_at hl 2 rfl) ?_
        refine lv_icmp_lt (tgt := 73) hx hb dX7_make_66 (by decide) (fun hc15 => ?_) (fun hc15 => ?_)
        · have hf := if_t hf hc15
          refine lv_iconst (v := 0) hx hb dX7_make_73 (by decide) ?_
          exact J_74 R x1 x2 x3 (0 : Int32) hf _ _ _ hB hS (lv_sub hl [1, 2, 3, 4] rfl)
        · have hf := if_f hf hc15
          refine lv_iconst (v := 1) hx hb dX7_make_69 (by decide) ?_
          refine lv_goto (tgt := 74) hx hb dX7_make_70 (by decide) ?_
          exact J_74 R x1 x2 x3 (1 : Int32) hf _ _ _ hB hS (lv_sub hl [1, 2, 3, 4] rfl)
  unfold rf_make at hf
  refine lv_aload_n hx hb dX7_make_0 rfl (lv_at hl 0 rfl) ?_
  refine lv_iconst (v := 0) hx hb dX7_make_1 (by decide) ?_
  obtain ⟨R1, eR1, hf⟩ := st1_s hf
  refine r_put X hB hS 0 90 (by decide) (kw_m kf_X7_90) rfl rfl rfl (rput_0 cI cZ o q R _) dX7_make_2 (fun H locs hB hS => ?_)
  rw [← eR1] at hB
  refine lv_iload_n hx hb dX7_make_5 rfl (lv_at hl 1 rfl) ?_
  obtain ⟨v2, hqv2, hf⟩ := bn_s hf
  refine r_callS (As := [.int x1]) (rest := []) X hB hS (rm_isPower l F D cI cZ o q _ _  _ hqv2) (va_cwS 1 hts (gd_S km_X7_101 kst_X7_isPower kin_RX7 kc_X7_isPower) rfl rfl rfl (by decide +kernel) ⟨by decide, by decide⟩) hl rfl rfl (Nat.le_of_ble_eq_true rfl) dX7_make_6 ⟨Nat.zero_le _, Nat.zero_le _⟩ rfl (fun H locs hB hS => ?_)
  refine lv_if_eq (tgt := 45) hx hb dX7_make_9 (by decide) (fun hc3 => ?_) (fun hc3 => ?_)
  · have hf := if_t hf hc3
    refine lv_iconst (v := 0) hx hb dX7_make_45 (by decide) ?_
    exact J_46 R1 x1 x2 x3 (0 : Int32) hf _ _ _ hB hS (lv_sub hl [0, 1, 2, 3] rfl)
  · have hf := if_f hf hc3
    refine lv_iload_n hx hb dX7_make_12 rfl (lv_at hl 1 rfl) ?_
    refine lv_ldc (v := 65536) hx hb hown (hts (.constant RX7 105 65536) (kw_m kk_X7_105)) dX7_make_13 ?_
    refine lv_icmp_gt (tgt := 45) hx hb dX7_make_15 (by decide) (fun hc16 => ?_) (fun hc16 => ?_)
    · have hf := if_t hf hc16
      refine lv_iconst (v := 0) hx hb dX7_make_45 (by decide) ?_
      exact J_46 R1 x1 x2 x3 (0 : Int32) hf _ _ _ hB hS (lv_sub hl [0, 1, 2, 3] rfl)
    · have hf := if_f hf hc16
      refine lv_iload_n hx hb dX7_make_18 rfl (lv_at hl 3 rfl) ?_
      refine lv_if_lt (tgt := 45) hx hb dX7_make_19 (by decide) (fun hc17 => ?_) (fun hc17 => ?_)
      · have hf := if_t hf hc17
        refine lv_iconst (v := 0) hx hb dX7_make_45 (by decide) ?_
        exact J_46 R1 x1 x2 x3 (0 : Int32) hf _ _ _ hB hS (lv_sub hl [0, 1, 2, 3] rfl)
      · have hf := if_f hf hc17
        refine lv_iload_n hx hb dX7_make_22 rfl (lv_at hl 3 rfl) ?_
        refine lv_bipush (v := 8) hx hb dX7_make_23 (by decide) ?_
        refine lv_icmp_gt (tgt := 45) hx hb dX7_make_25 (by decide) (fun hc18 => ?_) (fun hc18 => ?_)
        · have hf := if_t hf hc18
          refine lv_iconst (v := 0) hx hb dX7_make_45 (by decide) ?_
          exact J_46 R1 x1 x2 x3 (0 : Int32) hf _ _ _ hB hS (lv_sub hl [0, 1, 2, 3] rfl)
        · have hf := if_f hf hc18
          refine lv_iload_n hx hb dX7_make_28 rfl (lv_at hl 2 rfl) ?_
          refine lv_iconst (v := (-1)) hx hb dX7_make_29 (by decide) ?_
          refine lv_icmp_lt (tgt := 45) hx hb dX7_make_30 (by decide) (fun hc19 => ?_) (fun hc19 => ?_)
          · have hf := if_t hf hc19
            refine lv_iconst (v := 0) hx hb dX7_make_45 (by decide) ?_
            exact J_46 R1 x1 x2 x3 (0 : Int32) hf _ _ _ hB hS (lv_sub hl [0, 1, 2, 3] rfl)
          · have hf := if_f hf hc19
            refine lv_iload_n hx hb dX7_make_33 rfl (lv_at hl 2 rfl) ?_
            refine lv_aload_n hx hb dX7_make_34 rfl (lv_at hl 0 rfl) ?_
            refine r_get X hB 1 94 (by decide) (kw_m kf_X7_94) rfl rfl dX7_make_35 ?_
            refine lv_icmp_ge (tgt := 45) hx hb dX7_make_38 (by decide) (fun hc20 => ?_) (fun hc20 => ?_)
            · have hf := if_t hf hc20
              refine lv_iconst (v := 0) hx hb dX7_make_45 (by decide) ?_
              exact J_46 R1 x1 x2 x3 (0 : Int32) hf _ _ _ hB hS (lv_sub hl [0, 1, 2, 3] rfl)
            · have hf := if_f hf hc20
              refine lv_iconst (v := 1) hx hb dX7_make_41 (by decide) ?_
              refine lv_goto (tgt := 46) hx hb dX7_make_42 (by decide) ?_
              exact J_46 R1 x1 x2 x3 (1 : Int32) hf _ _ _ hB hS (lv_sub hl [0, 1, 2, 3] rfl)
/-! X7_add -/
def rf_add_94 (F : Nat) : Nat → Rst → Int32 → Int32 → Int32 → Int32 → Option (Int32 × Rst)
  | 0 => fun _ _ _ _ _ => none
  | n + 1 => fun R x1 x2 x3 x4 => if (600 : Int32) ≤ x4 then ((rf_addSpan F R x1 x2 x3 (0 : Int32)).bind fun z13 => st2 z13 fun z13v z13R => some ((0 : Int32), z13R)) else (rd R 22 x4 fun v14 => if v14 = 0 then ((rf_add_94 F n) R x1 x2 x3 (x4 + 1)) else (rd R 19 x4 fun v16 => if v16 = x1 then (rd R 20 x4 fun v18 => rd R 21 x4 fun v19 => if (v18 + v19) ≤ x2 then ((rf_add_94 F n) R x1 x2 x3 (x4 + 1)) else (rd R 20 x4 fun v21 => if (x2 + x3) ≤ v21 then ((rf_add_94 F n) R x1 x2 x3 (x4 + 1)) else (some (((-1) : Int32), R)))) else ((rf_add_94 F n) R x1 x2 x3 (x4 + 1))))
def rf_add_42 (F : Nat) (R : Rst) (x1 : Int32) (x2 : Int32) (x3 : Int32) (y0 : Int32) : Option (Int32 × Rst) := (rf_right F R y0 (2 : Int32)).bind fun z4 => st2 z4 fun z4v z4R => if z4v = 0 then (some ((0 : Int32), z4R)) else ((rf_left F z4R ).bind fun v6 => if (40 : Int32) ≤ v6 then (rd z4R 3 x1 fun v8 => if v8 = ((-1) : Int32) then (if x2 < 0 then (some (((-1) : Int32), z4R)) else (if (lg_cmp (x2.toInt64 + x3.toInt64) 1073741824) ≤ 0 then (rf_add_94 F F z4R x1 x2 x3 (0 : Int32)) else (some (((-1) : Int32), z4R)))) else (some (((-1) : Int32), z4R))) else (some (((-2) : Int32), z4R)))
def rf_add (F : Nat) (R : Rst) (x1 : Int32) (x2 : Int32) (x3 : Int32) : Option (Int32 × Rst) := (rf_isArena F R x1).bind fun z1 => st2 z1 fun z1v z1R => if z1v = 0 then (some ((0 : Int32), z1R)) else (if x3 ≤ 0 then (rf_add_42 F z1R x1 x2 x3 (0 : Int32)) else (rd z1R 2 x1 fun v23 => dv v23 (if (x2 - x2 / v23 * v23) = 0 then (rd z1R 2 x1 fun v25 => dv v25 (if (x3 - x3 / v25 * v25) = 0 then (rf_add_42 F z1R x1 x2 x3 (1 : Int32)) else (rf_add_42 F z1R x1 x2 x3 (0 : Int32)))) else (rf_add_42 F z1R x1 x2 x3 (0 : Int32)))))
set_option maxHeartbeats 4000000 in
set_option maxRecDepth 100000 in
theorem rm_add (l : Launch) (F : Nat) (D : va_G) (cI cZ : ClassId) (o : Nat) (q : Nat → Nat) (R : Rst) (x1 : Int32) (x2 : Int32) (x3 : Int32) (r : Int32) (R' : Rst) (hf : rf_add F R x1 x2 x3 = some (r, R'))   : rMet l yX7_add wq_X7_add { frames := 3, cells := 0, slots := 0, locals := 75 } D cI cZ o q [.ref o, .int x1, .int x2, .int x3] R (some (.int r)) R' := by
  refine rMet_of (cc := cX7_add) (maxL := 5) (ret := (some .int)) (by decide) rfl rfl (kw_h kw_X7) (Nat.le_of_ble_eq_true rfl) ?_
  intro p e s m below meth c X hr hlk ls hl hB hS
  have hx := X.1.1
  have hb := X.1.2.1
  have hown := X.1.2.2.2.1
  have hts := X.1.2.2.2.2
  have hl : lv_has ls 5 [(0, .ref o), (1, .int x1), (2, .int x2), (3, .int x3)] := hl
  generalize hargs : ([.ref o, .int x1, .int x2, .int x3] : List Value).toArray = args at X hts hS ⊢
  have J_94 : ∀ (n_94 : Nat) (R : Rst) (x1 : Int32) (x2 : Int32) (x3 : Int32) (x4 : Int32), rf_add_94 F n_94 R x1 x2 x3 x4 = some (r, R') → ∀ (H : Heap) (locs : List Loc) (ls : Array Slot), rB D cI cZ o q R H → va_S (rA o q) s.heap H locs → lv_has ls 5 [(0, .ref o), (1, .int x1), (2, .int x2), (3, .int x3), (4, .int x4)] → W p l e { frames := 3, cells := 0, slots := 0, locals := 75 } s m args below meth c H locs 0 0 (MQ below (mq (some (.int r)) (rW D cI cZ o q R') (rA o q)) args s 0 0 (rA o q)) (F0 m 94 ls []) := by
    intro n_94
    induction n_94 with
    | zero => intro R x1 x2 x3 x4 hf; cases hf
    | succ n_94 ih_94 =>
      intro R x1 x2 x3 x4 hf H locs ls hB hS hl
      rw [rf_add_94] at hf
      refine lv_iload hx hb dX7_add_94 (lv_at hl 4 rfl) ?_
      refine lv_sipush (v := 600) hx hb dX7_add_96 (by decide) ?_
      refine lv_icmp_ge (tgt := 163) hx hb dX7_add_99 (by decide) (fun hc12 => ?_) (fun hc12 => ?_)
      · have hf := if_t hf hc12
        refine lv_aload_n hx hb dX7_add_163 rfl (lv_at hl 0 rfl) ?_
        refine lv_iload_n hx hb dX7_add_164 rfl (lv_at hl 1 rfl) ?_
        refine lv_iload_n hx hb dX7_add_165 rfl (lv_at hl 2 rfl) ?_
        refine lv_iload_n hx hb dX7_add_166 rfl (lv_at hl 3 rfl) ?_
        refine lv_iconst (v := 0) hx hb dX7_add_167 (by decide) ?_
        obtain ⟨⟨z13v, z13R⟩, hqz13, hf⟩ := bn_s hf
        have hf := st2_s hf
        refine r_callV (As := [.int x1, .int x2, .int x3, .int 0]) (rest := []) X hB hS (rm_addSpan l F D cI cZ o q _ _ _ _ _  _ _ hqz13) (cwV 4 hts (gd_V km_X7_141 ki_X7_addSpan ks_X7_addSpan kin_RX7 kc_X7_addSpan) rfl rfl rfl (by decide +kernel) ⟨by decide, by decide⟩) hl rfl rfl (Nat.le_of_ble_eq_true rfl) dX7_add_168 ⟨Nat.zero_le _, Nat.zero_le _⟩ rfl (fun H locs hB hS => ?_)
        refine lv_pop hx hb dX7_add_171 rfl ?_
        refine lv_iconst (v := 0) hx hb dX7_add_172 (by decide) ?_
        cases hf
        exact r_iret X hB hS hr hlk dX7_add_173
      · have hf := if_f hf hc12
        refine lv_aload_n hx hb dX7_add_102 rfl (lv_at hl 0 rfl) ?_
        refine r_get X hB 22 64 (by decide) (kw_m kf_X7_64) rfl rfl dX7_add_103 ?_
        refine lv_iload hx hb dX7_add_106 (lv_at hl 4 rfl) ?_
        obtain ⟨v14, ev14, hiv14, hf⟩ := rd_s hf
        refine r_ldz X hB 22 19 (rat_22 cI cZ o q R) hiv14 ev14 dX7_add_108 ?_
        refine lv_if_eq (tgt := 157) hx hb dX7_add_109 (by decide) (fun hc15 => ?_) (fun hc15 => ?_)
        · have hf := if_t hf hc15
          refine lv_iinc (v := x4 + 1) (lv' := [(4, .int (x4 + 1)), (0, .ref o), (1, .int x1), (2, .int x2), (3, .int x3)]) hx hb dX7_add_157 hl (k := 4) rfl rfl (by decide) rfl (fun ls hl => ?_)
          refine lv_goto (tgt := 94) hx hb dX7_add_160 (by decide) ?_
          exact ih_94 R x1 x2 x3 (x4 + 1) hf _ _ _ hB hS (lv_sub hl [1, 2, 3, 4, 0] rfl)
        · have hf := if_f hf hc15
          refine lv_aload_n hx hb dX7_add_112 rfl (lv_at hl 0 rfl) ?_
          refine r_get X hB 19 55 (by decide) (kw_m kf_X7_55) rfl rfl dX7_add_113 ?_
          refine lv_iload hx hb dX7_add_116 (lv_at hl 4 rfl) ?_
          obtain ⟨v16, ev16, hiv16, hf⟩ := rd_s hf
          refine r_ld X hB 19 16 (rat_19 cI cZ o q R) hiv16 ev16 dX7_add_118 ?_
          refine lv_iload_n hx hb dX7_add_119 rfl (lv_at hl 1 rfl) ?_
          refine lv_icmp_ne (tgt := 157) hx hb dX7_add_120 (by decide) (fun hc17 => ?_) (fun hc17 => ?_)
          · have hf := if_f hf hc17
            refine lv_iinc (v := x4 + 1) (lv' := [(4, .int (x4 + 1)), (0, .ref o), (1, .int x1), (2, .int x2), (3, .int x3)]) hx hb dX7_add_157 hl (k := 4) rfl rfl (by decide) rfl (fun ls hl => ?_)
            refine lv_goto (tgt := 94) hx hb dX7_add_160 (by decide) ?_
            exact ih_94 R x1 x2 x3 (x4 + 1) hf _ _ _ hB hS (lv_sub hl [1, 2, 3, 4, 0] rfl)
          · have hf := if_t hf hc17
            refine lv_iload_n hx hb dX7_add_123 rfl (lv_at hl 2 rfl) ?_
            refine lv_aload_n hx hb dX7_add_124 rfl (lv_at hl 0 rfl) ?_
            refine r_get X hB 20 58 (by decide) (kw_m kf_X7_58) rfl rfl dX7_add_125 ?_
            refine lv_iload hx hb dX7_add_128 (lv_at hl 4 rfl) ?_
            obtain ⟨v18, ev18, hiv18, hf⟩ := rd_s hf
            refine r_ld X hB 20 17 (rat_20 cI cZ o q R) hiv18 ev18 dX7_add_130 ?_
            refine lv_aload_n hx hb dX7_add_131 rfl (lv_at hl 0 rfl) ?_
            refine r_get X hB 21 61 (by decide) (kw_m kf_X7_61) rfl rfl dX7_add_132 ?_
            refine lv_iload hx hb dX7_add_135 (lv_at hl 4 rfl) ?_
            obtain ⟨v19, ev19, hiv19, hf⟩ := rd_s hf
            refine r_ld X hB 21 18 (rat_21 cI cZ o q R) hiv19 ev19 dX7_add_137 ?_
            refine lv_iadd hx hb dX7_add_138 ?_
            refine lv_icmp_ge (tgt := 157) hx hb dX7_add_139 (by decide) (fun hc20 => ?_) (fun hc20 => ?_)
            · have hf := if_t hf hc20
              refine lv_iinc (v := x4 + 1) (lv' := [(4, .int (x4 + 1)), (0, .ref o), (1, .int x1), (2, .int x2), (3, .int x3)]) hx hb dX7_add_157 hl (k := 4) rfl rfl (by decide) rfl (fun ls hl => ?_)
              refine lv_goto (tgt := 94) hx hb dX7_add_160 (by decide) ?_
              exact ih_94 R x1 x2 x3 (x4 + 1) hf _ _ _ hB hS (lv_sub hl [1, 2, 3, 4, 0] rfl)
            · have hf := if_f hf hc20
              refine lv_aload_n hx hb dX7_add_142 rfl (lv_at hl 0 rfl) ?_
              refine r_get X hB 20 58 (by decide) (kw_m kf_X7_58) rfl rfl dX7_add_143 ?_
              refine lv_iload hx hb dX7_add_146 (lv_at hl 4 rfl) ?_
              obtain ⟨v21, ev21, hiv21, hf⟩ := rd_s hf
              refine r_ld X hB 20 17 (rat_20 cI cZ o q R) hiv21 ev21 dX7_add_148 ?_
              refine lv_iload_n hx hb dX7_add_149 rfl (lv_at hl 2 rfl) ?_
              refine lv_iload_n hx hb dX7_add_150 rfl (lv_at hl 3 rfl) ?_
              refine lv_iadd hx hb dX7_add_151 ?_
              refine lv_icmp_ge (tgt := 157) hx hb dX7_add_152 (by decide) (fun hc22 => ?_) (fun hc22 => ?_)
              · have hf := if_t hf hc22
                refine lv_iinc (v := x4 + 1) (lv' := [(4, .int (x4 + 1)), (0, .ref o), (1, .int x1), (2, .int x2), (3, .int x3)]) hx hb dX7_add_157 hl (k := 4) rfl rfl (by decide) rfl (fun ls hl => ?_)
                refine lv_goto (tgt := 94) hx hb dX7_add_160 (by decide) ?_
                exact ih_94 R x1 x2 x3 (x4 + 1) hf _ _ _ hB hS (lv_sub hl [1, 2, 3, 4, 0] rfl)
              · have hf := if_f hf hc22
                refine lv_iconst (v := (-1)) hx hb dX7_add_155 (by decide) ?_
                cases hf
                exact r_iret X hB hS hr hlk dX7_add_156
  have J_42 : ∀ (R : Rst) (x1 : Int32) (x2 : Int32) (x3 : Int32) (y0 : Int32), rf_add_42 F R x1 x2 x3 y0 = some (r, R') → ∀ (H : Heap) (locs : List Loc) (ls : Array Slot), rB D cI cZ o q R H → va_S (rA o q) s.heap H locs → lv_has ls 5 [(0, .ref o), (1, .int x1), (2, .int x2), (3, .int x3)] → W p l e { frames := 3, cells := 0, slots := 0, locals := 75 } s m args below meth c H locs 0 0 (MQ below (mq (some (.int r)) (rW D cI cZ o q R') (rA o q)) args s 0 0 (rA o q)) (F0 m 42 ls [.int y0, .ref o]) := by
    intro R x1 x2 x3 y0 hf H locs ls hB hS hl
    unfold rf_add_42 at hf
    refine lv_iconst (v := 2) hx hb dX7_add_42 (by decide) ?_
    obtain ⟨⟨z4v, z4R⟩, hqz4, hf⟩ := bn_s hf
    have hf := st2_s hf
    refine r_callV (As := [.int y0, .int 2]) (rest := []) X hB hS (rm_right l F D cI cZ o q _ _ _  _ _ hqz4) (cwV 2 hts (gd_V km_X7_97 ki_X7_right ks_X7_right kin_RX7 kc_X7_right) rfl rfl rfl (by decide +kernel) ⟨by decide, by decide⟩) hl rfl rfl (Nat.le_of_ble_eq_true rfl) dX7_add_43 ⟨Nat.zero_le _, Nat.zero_le _⟩ rfl (fun H locs hB hS => ?_)
    refine lv_if_ne (tgt := 51) hx hb dX7_add_46 (by decide) (fun hc5 => ?_) (fun hc5 => ?_)
    · have hf := if_f hf hc5
      refine lv_aload_n hx hb dX7_add_51 rfl (lv_at hl 0 rfl) ?_
      obtain ⟨v6, hqv6, hf⟩ := bn_s hf
      refine r_callV (As := []) (rest := []) X hB hS (rm_left l F D cI cZ o q _  _ hqv6) (cwV 0 hts (gd_V km_X7_135 ki_X7_left ks_X7_left kin_RX7 kc_X7_left) rfl rfl rfl (by decide +kernel) ⟨by decide, by decide⟩) hl rfl rfl (Nat.le_of_ble_eq_true rfl) dX7_add_52 ⟨Nat.zero_le _, Nat.zero_le _⟩ rfl (fun H locs hB hS => ?_)
      refine lv_bipush (v := 40) hx hb dX7_add_55 (by decide) ?_
      refine lv_icmp_ge (tgt := 63) hx hb dX7_add_57 (by decide) (fun hc7 => ?_) (fun hc7 => ?_)
      · have hf := if_t hf hc7
        refine lv_aload_n hx hb dX7_add_63 rfl (lv_at hl 0 rfl) ?_
        refine r_get X hB 3 13 (by decide) (kw_m kf_X7_13) rfl rfl dX7_add_64 ?_
        refine lv_iload_n hx hb dX7_add_67 rfl (lv_at hl 1 rfl) ?_
        obtain ⟨v8, ev8, hiv8, hf⟩ := rd_s hf
        refine r_ld X hB 3 2 (rat_3 cI cZ o q z4R) hiv8 ev8 dX7_add_68 ?_
        refine lv_iconst (v := (-1)) hx hb dX7_add_69 (by decide) ?_
        refine lv_icmp_ne (tgt := 89) hx hb dX7_add_70 (by decide) (fun hc9 => ?_) (fun hc9 => ?_)
        · have hf := if_f hf hc9
          refine lv_iconst (v := (-1)) hx hb dX7_add_89 (by decide) ?_
          cases hf
          exact r_iret X hB hS hr hlk dX7_add_90
        · have hf := if_t hf hc9
          refine lv_iload_n hx hb dX7_add_73 rfl (lv_at hl 2 rfl) ?_
          refine lv_if_lt (tgt := 89) hx hb dX7_add_74 (by decide) (fun hc10 => ?_) (fun hc10 => ?_)
          · have hf := if_t hf hc10
            refine lv_iconst (v := (-1)) hx hb dX7_add_89 (by decide) ?_
            cases hf
            exact r_iret X hB hS hr hlk dX7_add_90
          · have hf := if_f hf hc10
            refine lv_iload_n hx hb dX7_add_77 rfl (lv_at hl 2 rfl) ?_
            refine lv_i2l (v := x2.toInt64) hx hb dX7_add_78 rfl ?_
            refine lv_iload_n hx hb dX7_add_79 rfl (lv_at hl 3 rfl) ?_
            refine lv_i2l (v := x3.toInt64) hx hb dX7_add_80 rfl ?_
            refine lv_ladd hx hb dX7_add_81 ?_
            refine lv_ldc2 (v := 1073741824) hx hb hown (hts (.constantLong RX7 139 1073741824) (kw_m kkl_X7_139)) dX7_add_82 ?_
            refine W.lcmp hx hb dX7_add_85 ?_
            refine lv_if_le (tgt := 91) hx hb dX7_add_86 (by decide) (fun hc11 => ?_) (fun hc11 => ?_)
            · have hf := if_t hf hc11
              refine lv_iconst (v := 0) hx hb dX7_add_91 (by decide) ?_
              refine lv_istore (lv' := [(4, .int 0), (0, .ref o), (1, .int x1), (2, .int x2), (3, .int x3)]) hx hb dX7_add_92 hl (by decide) rfl (fun ls hl => ?_)
              exact J_94 F z4R x1 x2 x3 (0 : Int32) hf _ _ _ hB hS (lv_sub hl [1, 2, 3, 4, 0] rfl)
            · have hf := if_f hf hc11
              refine lv_iconst (v := (-1)) hx hb dX7_add_89 (by decide) ?_
              cases hf
              exact r_iret X hB hS hr hlk dX7_add_90
      · have hf := if_f hf hc7
        refine lv_bipush (v := (-2)) hx hb dX7_add_60 (by decide) ?_
        cases hf
        exact r_iret X hB hS hr hlk dX7_add_62
    · have hf := if_t hf hc5
      refine lv_iconst (v := 0) hx hb dX7_add_49 (by decide) ?_
      cases hf
      exact r_iret X hB hS hr hlk dX7_add_50
  unfold rf_add at hf
  refine lv_aload_n hx hb dX7_add_0 rfl (lv_at hl 0 rfl) ?_
  refine lv_iload_n hx hb dX7_add_1 rfl (lv_at hl 1 rfl) ?_
  obtain ⟨⟨z1v, z1R⟩, hqz1, hf⟩ := bn_s hf
  have hf := st2_s hf
  refine r_callV (As := [.int x1]) (rest := []) X hB hS (rm_isArena l F D cI cZ o q _ _  _ _ hqz1) (cwV 1 hts (gd_V km_X7_132 ki_X7_isArena ks_X7_isArena kin_RX7 kc_X7_isArena) rfl rfl rfl (by decide +kernel) ⟨by decide, by decide⟩) hl rfl rfl (Nat.le_of_ble_eq_true rfl) dX7_add_2 ⟨Nat.zero_le _, Nat.zero_le _⟩ rfl (fun H locs hB hS => ?_)
  refine lv_if_ne (tgt := 10) hx hb dX7_add_5 (by decide) (fun hc2 => ?_) (fun hc2 => ?_)
  · have hf := if_f hf hc2
    refine lv_aload_n hx hb dX7_add_10 rfl (lv_at hl 0 rfl) ?_
    refine lv_iload_n hx hb dX7_add_11 rfl (lv_at hl 3 rfl) ?_
    refine lv_if_le (tgt := 41) hx hb dX7_add_12 (by decide) (fun hc3 => ?_) (fun hc3 => ?_)
    · have hf := if_t hf hc3
      refine lv_iconst (v := 0) hx hb dX7_add_41 (by decide) ?_
      exact J_42 z1R x1 x2 x3 (0 : Int32) hf _ _ _ hB hS (lv_sub hl [0, 1, 2, 3] rfl)
    · have hf := if_f hf hc3
      refine lv_iload_n hx hb dX7_add_15 rfl (lv_at hl 2 rfl) ?_
      refine lv_aload_n hx hb dX7_add_16 rfl (lv_at hl 0 rfl) ?_
      refine r_get X hB 2 7 (by decide) (kw_m kf_X7_7) rfl rfl dX7_add_17 ?_
      refine lv_iload_n hx hb dX7_add_20 rfl (lv_at hl 1 rfl) ?_
      obtain ⟨v23, ev23, hiv23, hf⟩ := rd_s hf
      refine r_ld X hB 2 1 (rat_2 cI cZ o q z1R) hiv23 ev23 dX7_add_21 ?_
      obtain ⟨hd28, hf⟩ := dv_s hf
      refine lv_irem hx hb dX7_add_22 hd28 ?_
      refine lv_if_ne (tgt := 41) hx hb dX7_add_23 (by decide) (fun hc24 => ?_) (fun hc24 => ?_)
      · have hf := if_f hf hc24
        refine lv_iconst (v := 0) hx hb dX7_add_41 (by decide) ?_
        exact J_42 z1R x1 x2 x3 (0 : Int32) hf _ _ _ hB hS (lv_sub hl [0, 1, 2, 3] rfl)
      · have hf := if_t hf hc24
        refine lv_iload_n hx hb dX7_add_26 rfl (lv_at hl 3 rfl) ?_
        refine lv_aload_n hx hb dX7_add_27 rfl (lv_at hl 0 rfl) ?_
        refine r_get X hB 2 7 (by decide) (kw_m kf_X7_7) rfl rfl dX7_add_28 ?_
        refine lv_iload_n hx hb dX7_add_31 rfl (lv_at hl 1 rfl) ?_
        obtain ⟨v25, ev25, hiv25, hf⟩ := rd_s hf
        refine r_ld X hB 2 1 (rat_2 cI cZ o q z1R) hiv25 ev25 dX7_add_32 ?_
        obtain ⟨hd27, hf⟩ := dv_s hf
        refine lv_irem hx hb dX7_add_33 hd27 ?_
        refine lv_if_ne (tgt := 41) hx hb dX7_add_34 (by decide) (fun hc26 => ?_) (fun hc26 => ?_)
        · have hf := if_f hf hc26
          refine lv_iconst (v := 0) hx hb dX7_add_41 (by decide) ?_
          exact J_42 z1R x1 x2 x3 (0 : Int32) hf _ _ _ hB hS (lv_sub hl [0, 1, 2, 3] rfl)
        · have hf := if_t hf hc26
          refine lv_iconst (v := 1) hx hb dX7_add_37 (by decide) ?_
          refine lv_goto (tgt := 42) hx hb dX7_add_38 (by decide) ?_
          exact J_42 z1R x1 x2 x3 (1 : Int32) hf _ _ _ hB hS (lv_sub hl [0, 1, 2, 3] rfl)
  · have hf := if_t hf hc2
    refine lv_iconst (v := 0) hx hb dX7_add_8 (by decide) ?_
    cases hf
    exact r_iret X hB hS hr hlk dX7_add_9
/-! X7_listOf -/
def rf_listOf_21 (F : Nat) (R : Rst) : Nat → Int32 → Int32 → Option Int32
  | 0 => fun _ _ => none
  | n + 1 => fun x2 x3 => if (x2 >>> ((x3 + 1) &&& 31)) ≤ 0 then (some x3) else ((rf_listOf_21 F R n) x2 (x3 + 1))
def rf_listOf (F : Nat) (R : Rst) (x1 : Int32) : Option Int32 := rd R 13 x1 fun v1 => rd R 11 x1 fun v2 => rd R 2 v2 fun v3 => dv v3 (rf_listOf_21 F R F (v1 / v3) (0 : Int32))
set_option maxHeartbeats 4000000 in
set_option maxRecDepth 100000 in
theorem rm_listOf (l : Launch) (F : Nat) (D : va_G) (cI cZ : ClassId) (o : Nat) (q : Nat → Nat) (R : Rst) (x1 : Int32) (r : Int32) (hf : rf_listOf F R x1 = some r)   : rMet l yX7_listOf wq_X7_listOf { frames := 0, cells := 0, slots := 0, locals := 0 } D cI cZ o q [.ref o, .int x1] R (some (.int r)) R := by
  refine rMet_of (cc := cX7_listOf) (maxL := 4) (ret := (some .int)) (by decide) rfl rfl (kw_h kw_X7) (Nat.le_of_ble_eq_true rfl) ?_
  intro p e s m below meth c X hr hlk ls hl hB hS
  have hx := X.1.1
  have hb := X.1.2.1
  have hown := X.1.2.2.2.1
  have hts := X.1.2.2.2.2
  have hl : lv_has ls 4 [(0, .ref o), (1, .int x1)] := hl
  generalize hargs : ([.ref o, .int x1] : List Value).toArray = args at X hts hS ⊢
  have J_21 : ∀ (n_21 : Nat) (x2 : Int32) (x3 : Int32), rf_listOf_21 F R n_21 x2 x3 = some r → ∀ (H : Heap) (locs : List Loc) (ls : Array Slot), rB D cI cZ o q R H → va_S (rA o q) s.heap H locs → lv_has ls 4 [(0, .ref o), (2, .int x2), (3, .int x3)] → W p l e { frames := 0, cells := 0, slots := 0, locals := 0 } s m args below meth c H locs 0 0 (MQ below (mq (some (.int r)) (rW D cI cZ o q R) (rA o q)) args s 0 0 (rA o q)) (F0 m 21 ls []) := by
    intro n_21
    induction n_21 with
    | zero => intro x2 x3 hf; cases hf
    | succ n_21 ih_21 =>
      intro x2 x3 hf H locs ls hB hS hl
      rw [rf_listOf_21] at hf
      refine lv_iload_n hx hb dX7_listOf_21 rfl (lv_at hl 1 rfl) ?_
      refine lv_iload_n hx hb dX7_listOf_22 rfl (lv_at hl 2 rfl) ?_
      refine lv_iconst (v := 1) hx hb dX7_listOf_23 (by decide) ?_
      refine lv_iadd hx hb dX7_listOf_24 ?_
      refine lv_ishr hx hb dX7_listOf_25 ?_
      refine lv_if_le (tgt := 35) hx hb dX7_listOf_26 (by decide) (fun hc4 => ?_) (fun hc4 => ?_)
      · have hf := if_t hf hc4
        refine lv_iload_n hx hb dX7_listOf_35 rfl (lv_at hl 2 rfl) ?_
        cases hf
        exact r_iret X hB hS hr hlk dX7_listOf_36
      · have hf := if_f hf hc4
        refine lv_iinc (v := x3 + 1) (lv' := [(3, .int (x3 + 1)), (0, .ref o), (2, .int x2)]) hx hb dX7_listOf_29 hl (k := 2) rfl rfl (by decide) rfl (fun ls hl => ?_)
        refine lv_goto (tgt := 21) hx hb dX7_listOf_32 (by decide) ?_
        exact ih_21 x2 (x3 + 1) hf _ _ _ hB hS (lv_sub hl [1, 2, 0] rfl)
  unfold rf_listOf at hf
  refine lv_aload_n hx hb dX7_listOf_0 rfl (lv_at hl 0 rfl) ?_
  refine r_get X hB 13 40 (by decide) (kw_m kf_X7_40) rfl rfl dX7_listOf_1 ?_
  refine lv_iload_n hx hb dX7_listOf_4 rfl (lv_at hl 1 rfl) ?_
  obtain ⟨v1, ev1, hiv1, hf⟩ := rd_s hf
  refine r_ld X hB 13 11 (rat_13 cI cZ o q R) hiv1 ev1 dX7_listOf_5 ?_
  refine lv_aload_n hx hb dX7_listOf_6 rfl (lv_at hl 0 rfl) ?_
  refine r_get X hB 2 7 (by decide) (kw_m kf_X7_7) rfl rfl dX7_listOf_7 ?_
  refine lv_aload_n hx hb dX7_listOf_10 rfl (lv_at hl 0 rfl) ?_
  refine r_get X hB 11 34 (by decide) (kw_m kf_X7_34) rfl rfl dX7_listOf_11 ?_
  refine lv_iload_n hx hb dX7_listOf_14 rfl (lv_at hl 1 rfl) ?_
  obtain ⟨v2, ev2, hiv2, hf⟩ := rd_s hf
  refine r_ld X hB 11 9 (rat_11 cI cZ o q R) hiv2 ev2 dX7_listOf_15 ?_
  obtain ⟨v3, ev3, hiv3, hf⟩ := rd_s hf
  refine r_ld X hB 2 1 (rat_2 cI cZ o q R) hiv3 ev3 dX7_listOf_16 ?_
  obtain ⟨hd5, hf⟩ := dv_s hf
  refine lv_idiv hx hb dX7_listOf_17 hd5 ?_
  refine lv_istore_n (lv' := [(2, .int (v1 / v3)), (0, .ref o), (1, .int x1)]) hx hb dX7_listOf_18 rfl hl (by decide) rfl (fun ls hl => ?_)
  refine lv_iconst (v := 0) hx hb dX7_listOf_19 (by decide) ?_
  refine lv_istore_n (lv' := [(3, .int 0), (2, .int (v1 / v3)), (0, .ref o), (1, .int x1)]) hx hb dX7_listOf_20 rfl hl (by decide) rfl (fun ls hl => ?_)
  exact J_21 F (v1 / v3) (0 : Int32) hf _ _ _ hB hS (lv_sub hl [2, 1, 0] rfl)
/-! X7_best -/
def rf_best_5 (F : Nat) (R : Rst) : Nat → Int32 → Int32 → Int32 → Int32 → Option Int32
  | 0 => fun _ _ _ _ => none
  | n + 1 => fun x1 x2 x3 x4 => if (R.1 10) ≤ x4 then (some x3) else (rd R 11 x4 fun v2 => if v2 = x1 then (rd R 14 x4 fun v4 => if v4 = 0 then (rd R 13 x4 fun v6 => if v6 < x2 then ((rf_best_5 F R n) x1 x2 x3 (x4 + 1)) else (if x3 = ((-1) : Int32) then ((rf_best_5 F R n) x1 x2 x4 (x4 + 1)) else (rd R 13 x4 fun v9 => rd R 13 x3 fun v10 => if v10 ≤ v9 then ((rf_best_5 F R n) x1 x2 x3 (x4 + 1)) else ((rf_best_5 F R n) x1 x2 x4 (x4 + 1))))) else ((rf_best_5 F R n) x1 x2 x3 (x4 + 1))) else ((rf_best_5 F R n) x1 x2 x3 (x4 + 1)))
def rf_best (F : Nat) (R : Rst) (x1 : Int32) (x2 : Int32) : Option Int32 := rf_best_5 F R F x1 x2 ((-1) : Int32) (0 : Int32)
set_option maxHeartbeats 4000000 in
set_option maxRecDepth 100000 in
theorem rm_best (l : Launch) (F : Nat) (D : va_G) (cI cZ : ClassId) (o : Nat) (q : Nat → Nat) (R : Rst) (x1 : Int32) (x2 : Int32) (r : Int32) (hf : rf_best F R x1 x2 = some r)   : rMet l yX7_best wq_X7_best { frames := 0, cells := 0, slots := 0, locals := 0 } D cI cZ o q [.ref o, .int x1, .int x2] R (some (.int r)) R := by
  refine rMet_of (cc := cX7_best) (maxL := 5) (ret := (some .int)) (by decide) rfl rfl (kw_h kw_X7) (Nat.le_of_ble_eq_true rfl) ?_
  intro p e s m below meth c X hr hlk ls hl hB hS
  have hx := X.1.1
  have hb := X.1.2.1
  have hown := X.1.2.2.2.1
  have hts := X.1.2.2.2.2
  have hl : lv_has ls 5 [(0, .ref o), (1, .int x1), (2, .int x2)] := hl
  generalize hargs : ([.ref o, .int x1, .int x2] : List Value).toArray = args at X hts hS ⊢
  have J_5 : ∀ (n_5 : Nat) (x1 : Int32) (x2 : Int32) (x3 : Int32) (x4 : Int32), rf_best_5 F R n_5 x1 x2 x3 x4 = some r → ∀ (H : Heap) (locs : List Loc) (ls : Array Slot), rB D cI cZ o q R H → va_S (rA o q) s.heap H locs → lv_has ls 5 [(0, .ref o), (1, .int x1), (2, .int x2), (3, .int x3), (4, .int x4)] → W p l e { frames := 0, cells := 0, slots := 0, locals := 0 } s m args below meth c H locs 0 0 (MQ below (mq (some (.int r)) (rW D cI cZ o q R) (rA o q)) args s 0 0 (rA o q)) (F0 m 5 ls []) := by
    intro n_5
    induction n_5 with
    | zero => intro x1 x2 x3 x4 hf; cases hf
    | succ n_5 ih_5 =>
      intro x1 x2 x3 x4 hf H locs ls hB hS hl
      rw [rf_best_5] at hf
      refine lv_iload hx hb dX7_best_5 (lv_at hl 4 rfl) ?_
      refine lv_aload_n hx hb dX7_best_7 rfl (lv_at hl 0 rfl) ?_
      refine r_get X hB 10 107 (by decide) (kw_m kf_X7_107) rfl rfl dX7_best_8 ?_
      refine lv_icmp_ge (tgt := 76) hx hb dX7_best_11 (by decide) (fun hc1 => ?_) (fun hc1 => ?_)
      · have hf := if_t hf hc1
        refine lv_iload_n hx hb dX7_best_76 rfl (lv_at hl 3 rfl) ?_
        cases hf
        exact r_iret X hB hS hr hlk dX7_best_77
      · have hf := if_f hf hc1
        refine lv_aload_n hx hb dX7_best_14 rfl (lv_at hl 0 rfl) ?_
        refine r_get X hB 11 34 (by decide) (kw_m kf_X7_34) rfl rfl dX7_best_15 ?_
        refine lv_iload hx hb dX7_best_18 (lv_at hl 4 rfl) ?_
        obtain ⟨v2, ev2, hiv2, hf⟩ := rd_s hf
        refine r_ld X hB 11 9 (rat_11 cI cZ o q R) hiv2 ev2 dX7_best_20 ?_
        refine lv_iload_n hx hb dX7_best_21 rfl (lv_at hl 1 rfl) ?_
        refine lv_icmp_ne (tgt := 70) hx hb dX7_best_22 (by decide) (fun hc3 => ?_) (fun hc3 => ?_)
        · have hf := if_f hf hc3
          refine lv_iinc (v := x4 + 1) (lv' := [(4, .int (x4 + 1)), (0, .ref o), (1, .int x1), (2, .int x2), (3, .int x3)]) hx hb dX7_best_70 hl (k := 4) rfl rfl (by decide) rfl (fun ls hl => ?_)
          refine lv_goto (tgt := 5) hx hb dX7_best_73 (by decide) ?_
          exact ih_5 x1 x2 x3 (x4 + 1) hf _ _ _ hB hS (lv_sub hl [1, 2, 3, 4, 0] rfl)
        · have hf := if_t hf hc3
          refine lv_aload_n hx hb dX7_best_25 rfl (lv_at hl 0 rfl) ?_
          refine r_get X hB 14 43 (by decide) (kw_m kf_X7_43) rfl rfl dX7_best_26 ?_
          refine lv_iload hx hb dX7_best_29 (lv_at hl 4 rfl) ?_
          obtain ⟨v4, ev4, hiv4, hf⟩ := rd_s hf
          refine r_ld X hB 14 12 (rat_14 cI cZ o q R) hiv4 ev4 dX7_best_31 ?_
          refine lv_if_ne (tgt := 70) hx hb dX7_best_32 (by decide) (fun hc5 => ?_) (fun hc5 => ?_)
          · have hf := if_f hf hc5
            refine lv_iinc (v := x4 + 1) (lv' := [(4, .int (x4 + 1)), (0, .ref o), (1, .int x1), (2, .int x2), (3, .int x3)]) hx hb dX7_best_70 hl (k := 4) rfl rfl (by decide) rfl (fun ls hl => ?_)
            refine lv_goto (tgt := 5) hx hb dX7_best_73 (by decide) ?_
            exact ih_5 x1 x2 x3 (x4 + 1) hf _ _ _ hB hS (lv_sub hl [1, 2, 3, 4, 0] rfl)
          · have hf := if_t hf hc5
            refine lv_aload_n hx hb dX7_best_35 rfl (lv_at hl 0 rfl) ?_
            refine r_get X hB 13 40 (by decide) (kw_m kf_X7_40) rfl rfl dX7_best_36 ?_
            refine lv_iload hx hb dX7_best_39 (lv_at hl 4 rfl) ?_
            obtain ⟨v6, ev6, hiv6, hf⟩ := rd_s hf
            refine r_ld X hB 13 11 (rat_13 cI cZ o q R) hiv6 ev6 dX7_best_41 ?_
            refine lv_iload_n hx hb dX7_best_42 rfl (lv_at hl 2 rfl) ?_
            refine lv_icmp_lt (tgt := 70) hx hb dX7_best_43 (by decide) (fun hc7 => ?_) (fun hc7 => ?_)
            · have hf := if_t hf hc7
              refine lv_iinc (v := x4 + 1) (lv' := [(4, .int (x4 + 1)), (0, .ref o), (1, .int x1), (2, .int x2), (3, .int x3)]) hx hb dX7_best_70 hl (k := 4) rfl rfl (by decide) rfl (fun ls hl => ?_)
              refine lv_goto (tgt := 5) hx hb dX7_best_73 (by decide) ?_
              exact ih_5 x1 x2 x3 (x4 + 1) hf _ _ _ hB hS (lv_sub hl [1, 2, 3, 4, 0] rfl)
            · have hf := if_f hf hc7
              refine lv_iload_n hx hb dX7_best_46 rfl (lv_at hl 3 rfl) ?_
              refine lv_iconst (v := (-1)) hx hb dX7_best_47 (by decide) ?_
              refine lv_icmp_eq (tgt := 67) hx hb dX7_best_48 (by decide) (fun hc8 => ?_) (fun hc8 => ?_)
              · have hf := if_t hf hc8
                refine lv_iload hx hb dX7_best_67 (lv_at hl 4 rfl) ?_
                refine lv_istore_n (lv' := [(3, .int x4), (0, .ref o), (1, .int x1), (2, .int x2), (4, .int x4)]) hx hb dX7_best_69 rfl hl (by decide) rfl (fun ls hl => ?_)
                refine lv_iinc (v := x4 + 1) (lv' := [(4, .int (x4 + 1)), (3, .int x4), (0, .ref o), (1, .int x1), (2, .int x2)]) hx hb dX7_best_70 hl (k := 4) rfl rfl (by decide) rfl (fun ls hl => ?_)
                refine lv_goto (tgt := 5) hx hb dX7_best_73 (by decide) ?_
                exact ih_5 x1 x2 x4 (x4 + 1) hf _ _ _ hB hS (lv_sub hl [2, 3, 4, 1, 0] rfl)
              · have hf := if_f hf hc8
                refine lv_aload_n hx hb dX7_best_51 rfl (lv_at hl 0 rfl) ?_
                refine r_get X hB 13 40 (by decide) (kw_m kf_X7_40) rfl rfl dX7_best_52 ?_
                refine lv_iload hx hb dX7_best_55 (lv_at hl 4 rfl) ?_
                obtain ⟨v9, ev9, hiv9, hf⟩ := rd_s hf
                refine r_ld X hB 13 11 (rat_13 cI cZ o q R) hiv9 ev9 dX7_best_57 ?_
                refine lv_aload_n hx hb dX7_best_58 rfl (lv_at hl 0 rfl) ?_
                refine r_get X hB 13 40 (by decide) (kw_m kf_X7_40) rfl rfl dX7_best_59 ?_
                refine lv_iload_n hx hb dX7_best_62 rfl (lv_at hl 3 rfl) ?_
                obtain ⟨v10, ev10, hiv10, hf⟩ := rd_s hf
                refine r_ld X hB 13 11 (rat_13 cI cZ o q R) hiv10 ev10 dX7_best_63 ?_
                refine lv_icmp_ge (tgt := 70) hx hb dX7_best_64 (by decide) (fun hc11 => ?_) (fun hc11 => ?_)
                · have hf := if_t hf hc11
                  refine lv_iinc (v := x4 + 1) (lv' := [(4, .int (x4 + 1)), (0, .ref o), (1, .int x1), (2, .int x2), (3, .int x3)]) hx hb dX7_best_70 hl (k := 4) rfl rfl (by decide) rfl (fun ls hl => ?_)
                  refine lv_goto (tgt := 5) hx hb dX7_best_73 (by decide) ?_
                  exact ih_5 x1 x2 x3 (x4 + 1) hf _ _ _ hB hS (lv_sub hl [1, 2, 3, 4, 0] rfl)
                · have hf := if_f hf hc11
                  refine lv_iload hx hb dX7_best_67 (lv_at hl 4 rfl) ?_
                  refine lv_istore_n (lv' := [(3, .int x4), (0, .ref o), (1, .int x1), (2, .int x2), (4, .int x4)]) hx hb dX7_best_69 rfl hl (by decide) rfl (fun ls hl => ?_)
                  refine lv_iinc (v := x4 + 1) (lv' := [(4, .int (x4 + 1)), (3, .int x4), (0, .ref o), (1, .int x1), (2, .int x2)]) hx hb dX7_best_70 hl (k := 4) rfl rfl (by decide) rfl (fun ls hl => ?_)
                  refine lv_goto (tgt := 5) hx hb dX7_best_73 (by decide) ?_
                  exact ih_5 x1 x2 x4 (x4 + 1) hf _ _ _ hB hS (lv_sub hl [2, 3, 4, 1, 0] rfl)
  unfold rf_best at hf
  refine lv_iconst (v := (-1)) hx hb dX7_best_0 (by decide) ?_
  refine lv_istore_n (lv' := [(3, .int (-1)), (0, .ref o), (1, .int x1), (2, .int x2)]) hx hb dX7_best_1 rfl hl (by decide) rfl (fun ls hl => ?_)
  refine lv_iconst (v := 0) hx hb dX7_best_2 (by decide) ?_
  refine lv_istore (lv' := [(4, .int 0), (3, .int (-1)), (0, .ref o), (1, .int x1), (2, .int x2)]) hx hb dX7_best_3 hl (by decide) rfl (fun ls hl => ?_)
  exact J_5 F x1 x2 ((-1) : Int32) (0 : Int32) hf _ _ _ hB hS (lv_sub hl [2, 3, 4, 1, 0] rfl)
/-! X7_instant -/
def rf_instant_29 (F : Nat) (R : Rst) : Nat → Int32 → Int32 → Int32 → Int32 → Option Int32
  | 0 => fun _ _ _ _ => none
  | n + 1 => fun x1 x3 x4 x5 => if (R.1 10) ≤ x5 then (some x4) else (rd R 11 x5 fun v4 => if v4 = x1 then (rd R 14 x5 fun v6 => if v6 = 0 then ((rf_listOf F R x5).bind fun v8 => if x3 ≤ v8 then (if x4 = ((-1) : Int32) then ((rf_instant_29 F R n) x1 x3 x5 (x5 + 1)) else ((rf_listOf F R x5).bind fun v11 => (rf_listOf F R x4).bind fun v12 => if v11 < v12 then ((rf_instant_29 F R n) x1 x3 x5 (x5 + 1)) else ((rf_listOf F R x5).bind fun v14 => (rf_listOf F R x4).bind fun v15 => if v14 = v15 then (rd R 15 x5 fun v17 => rd R 15 x4 fun v18 => if v17 ≤ v18 then ((rf_instant_29 F R n) x1 x3 x4 (x5 + 1)) else ((rf_instant_29 F R n) x1 x3 x5 (x5 + 1))) else ((rf_instant_29 F R n) x1 x3 x4 (x5 + 1))))) else ((rf_instant_29 F R n) x1 x3 x4 (x5 + 1))) else ((rf_instant_29 F R n) x1 x3 x4 (x5 + 1))) else ((rf_instant_29 F R n) x1 x3 x4 (x5 + 1)))
def rf_instant_2 (F : Nat) (R : Rst) : Nat → Int32 → Int32 → Int32 → Option Int32
  | 0 => fun _ _ _ => none
  | n + 1 => fun x1 x2 x3 => rd R 2 x1 fun v1 => if 0 ≤ (lg_cmp (v1.toInt64 <<< (x3.toInt64 &&& 63)) x2.toInt64) then (rf_instant_29 F R F x1 x3 ((-1) : Int32) (0 : Int32)) else ((rf_instant_2 F R n) x1 x2 (x3 + 1))
def rf_instant (F : Nat) (R : Rst) (x1 : Int32) (x2 : Int32) : Option Int32 := rf_instant_2 F R F x1 x2 (0 : Int32)
set_option maxHeartbeats 4000000 in
set_option maxRecDepth 100000 in
theorem rm_instant (l : Launch) (F : Nat) (D : va_G) (cI cZ : ClassId) (o : Nat) (q : Nat → Nat) (R : Rst) (x1 : Int32) (x2 : Int32) (r : Int32) (hf : rf_instant F R x1 x2 = some r)   : rMet l yX7_instant wq_X7_instant { frames := 1, cells := 0, slots := 0, locals := 23 } D cI cZ o q [.ref o, .int x1, .int x2] R (some (.int r)) R := by
  refine rMet_of (cc := cX7_instant) (maxL := 6) (ret := (some .int)) (by decide) rfl rfl (kw_h kw_X7) (Nat.le_of_ble_eq_true rfl) ?_
  intro p e s m below meth c X hr hlk ls hl hB hS
  have hx := X.1.1
  have hb := X.1.2.1
  have hown := X.1.2.2.2.1
  have hts := X.1.2.2.2.2
  have hl : lv_has ls 6 [(0, .ref o), (1, .int x1), (2, .int x2)] := hl
  generalize hargs : ([.ref o, .int x1, .int x2] : List Value).toArray = args at X hts hS ⊢
  have J_29 : ∀ (n_29 : Nat) (x1 : Int32) (x3 : Int32) (x4 : Int32) (x5 : Int32), rf_instant_29 F R n_29 x1 x3 x4 x5 = some r → ∀ (H : Heap) (locs : List Loc) (ls : Array Slot), rB D cI cZ o q R H → va_S (rA o q) s.heap H locs → lv_has ls 6 [(0, .ref o), (1, .int x1), (3, .int x3), (4, .int x4), (5, .int x5)] → W p l e { frames := 1, cells := 0, slots := 0, locals := 23 } s m args below meth c H locs 0 0 (MQ below (mq (some (.int r)) (rW D cI cZ o q R) (rA o q)) args s 0 0 (rA o q)) (F0 m 29 ls []) := by
    intro n_29
    induction n_29 with
    | zero => intro x1 x3 x4 x5 hf; cases hf
    | succ n_29 ih_29 =>
      intro x1 x3 x4 x5 hf H locs ls hB hS hl
      rw [rf_instant_29] at hf
      refine lv_iload hx hb dX7_instant_29 (lv_at hl 4 rfl) ?_
      refine lv_aload_n hx hb dX7_instant_31 rfl (lv_at hl 0 rfl) ?_
      refine r_get X hB 10 107 (by decide) (kw_m kf_X7_107) rfl rfl dX7_instant_32 ?_
      refine lv_icmp_ge (tgt := 135) hx hb dX7_instant_35 (by decide) (fun hc3 => ?_) (fun hc3 => ?_)
      · have hf := if_t hf hc3
        refine lv_iload hx hb dX7_instant_135 (lv_at hl 3 rfl) ?_
        cases hf
        exact r_iret X hB hS hr hlk dX7_instant_137
      · have hf := if_f hf hc3
        refine lv_aload_n hx hb dX7_instant_38 rfl (lv_at hl 0 rfl) ?_
        refine r_get X hB 11 34 (by decide) (kw_m kf_X7_34) rfl rfl dX7_instant_39 ?_
        refine lv_iload hx hb dX7_instant_42 (lv_at hl 4 rfl) ?_
        obtain ⟨v4, ev4, hiv4, hf⟩ := rd_s hf
        refine r_ld X hB 11 9 (rat_11 cI cZ o q R) hiv4 ev4 dX7_instant_44 ?_
        refine lv_iload_n hx hb dX7_instant_45 rfl (lv_at hl 1 rfl) ?_
        refine lv_icmp_ne (tgt := 129) hx hb dX7_instant_46 (by decide) (fun hc5 => ?_) (fun hc5 => ?_)
        · have hf := if_f hf hc5
          refine lv_iinc (v := x5 + 1) (lv' := [(5, .int (x5 + 1)), (0, .ref o), (1, .int x1), (3, .int x3), (4, .int x4)]) hx hb dX7_instant_129 hl (k := 4) rfl rfl (by decide) rfl (fun ls hl => ?_)
          refine lv_goto (tgt := 29) hx hb dX7_instant_132 (by decide) ?_
          exact ih_29 x1 x3 x4 (x5 + 1) hf _ _ _ hB hS (lv_sub hl [1, 2, 3, 4, 0] rfl)
        · have hf := if_t hf hc5
          refine lv_aload_n hx hb dX7_instant_49 rfl (lv_at hl 0 rfl) ?_
          refine r_get X hB 14 43 (by decide) (kw_m kf_X7_43) rfl rfl dX7_instant_50 ?_
          refine lv_iload hx hb dX7_instant_53 (lv_at hl 4 rfl) ?_
          obtain ⟨v6, ev6, hiv6, hf⟩ := rd_s hf
          refine r_ld X hB 14 12 (rat_14 cI cZ o q R) hiv6 ev6 dX7_instant_55 ?_
          refine lv_if_ne (tgt := 129) hx hb dX7_instant_56 (by decide) (fun hc7 => ?_) (fun hc7 => ?_)
          · have hf := if_f hf hc7
            refine lv_iinc (v := x5 + 1) (lv' := [(5, .int (x5 + 1)), (0, .ref o), (1, .int x1), (3, .int x3), (4, .int x4)]) hx hb dX7_instant_129 hl (k := 4) rfl rfl (by decide) rfl (fun ls hl => ?_)
            refine lv_goto (tgt := 29) hx hb dX7_instant_132 (by decide) ?_
            exact ih_29 x1 x3 x4 (x5 + 1) hf _ _ _ hB hS (lv_sub hl [1, 2, 3, 4, 0] rfl)
          · have hf := if_t hf hc7
            refine lv_aload_n hx hb dX7_instant_59 rfl (lv_at hl 0 rfl) ?_
            refine lv_iload hx hb dX7_instant_60 (lv_at hl 4 rfl) ?_
            obtain ⟨v8, hqv8, hf⟩ := bn_s hf
            refine r_callV (As := [.int x5]) (rest := []) X hB hS (rm_listOf l F D cI cZ o q _ _  _ hqv8) (cwV 1 hts (gd_V km_X7_145 ki_X7_listOf ks_X7_listOf kin_RX7 kc_X7_listOf) rfl rfl rfl (by decide +kernel) ⟨by decide, by decide⟩) hl rfl rfl (Nat.le_of_ble_eq_true rfl) dX7_instant_62 ⟨Nat.zero_le _, Nat.zero_le _⟩ rfl (fun H locs hB hS => ?_)
            refine lv_iload_n hx hb dX7_instant_65 rfl (lv_at hl 2 rfl) ?_
            refine lv_icmp_ge (tgt := 72) hx hb dX7_instant_66 (by decide) (fun hc9 => ?_) (fun hc9 => ?_)
            · have hf := if_t hf hc9
              refine lv_iload hx hb dX7_instant_72 (lv_at hl 3 rfl) ?_
              refine lv_iconst (v := (-1)) hx hb dX7_instant_74 (by decide) ?_
              refine lv_icmp_eq (tgt := 125) hx hb dX7_instant_75 (by decide) (fun hc10 => ?_) (fun hc10 => ?_)
              · have hf := if_t hf hc10
                refine lv_iload hx hb dX7_instant_125 (lv_at hl 4 rfl) ?_
                refine lv_istore (lv' := [(4, .int x5), (0, .ref o), (1, .int x1), (3, .int x3), (5, .int x5)]) hx hb dX7_instant_127 hl (by decide) rfl (fun ls hl => ?_)
                refine lv_iinc (v := x5 + 1) (lv' := [(5, .int (x5 + 1)), (4, .int x5), (0, .ref o), (1, .int x1), (3, .int x3)]) hx hb dX7_instant_129 hl (k := 4) rfl rfl (by decide) rfl (fun ls hl => ?_)
                refine lv_goto (tgt := 29) hx hb dX7_instant_132 (by decide) ?_
                exact ih_29 x1 x3 x5 (x5 + 1) hf _ _ _ hB hS (lv_sub hl [2, 3, 4, 1, 0] rfl)
              · have hf := if_f hf hc10
                refine lv_aload_n hx hb dX7_instant_78 rfl (lv_at hl 0 rfl) ?_
                refine lv_iload hx hb dX7_instant_79 (lv_at hl 4 rfl) ?_
                obtain ⟨v11, hqv11, hf⟩ := bn_s hf
                refine r_callV (As := [.int x5]) (rest := []) X hB hS (rm_listOf l F D cI cZ o q _ _  _ hqv11) (cwV 1 hts (gd_V km_X7_145 ki_X7_listOf ks_X7_listOf kin_RX7 kc_X7_listOf) rfl rfl rfl (by decide +kernel) ⟨by decide, by decide⟩) hl rfl rfl (Nat.le_of_ble_eq_true rfl) dX7_instant_81 ⟨Nat.zero_le _, Nat.zero_le _⟩ rfl (fun H locs hB hS => ?_)
                refine lv_aload_n hx hb dX7_instant_84 rfl (lv_at hl 0 rfl) ?_
                refine lv_iload hx hb dX7_instant_85 (lv_at hl 3 rfl) ?_
                obtain ⟨v12, hqv12, hf⟩ := bn_s hf
                refine r_callV (As := [.int x4]) (rest := [.int v11]) X hB hS (rm_listOf l F D cI cZ o q _ _  _ hqv12) (cwV 1 hts (gd_V km_X7_145 ki_X7_listOf ks_X7_listOf kin_RX7 kc_X7_listOf) rfl rfl rfl (by decide +kernel) ⟨by decide, by decide⟩) hl rfl rfl (Nat.le_of_ble_eq_true rfl) dX7_instant_87 ⟨Nat.zero_le _, Nat.zero_le _⟩ rfl (fun H locs hB hS => ?_)
                refine lv_icmp_lt (tgt := 125) hx hb dX7_instant_90 (by decide) (fun hc13 => ?_) (fun hc13 => ?_)
                · have hf := if_t hf hc13
                  refine lv_iload hx hb dX7_instant_125 (lv_at hl 4 rfl) ?_
                  refine lv_istore (lv' := [(4, .int x5), (0, .ref o), (1, .int x1), (3, .int x3), (5, .int x5)]) hx hb dX7_instant_127 hl (by decide) rfl (fun ls hl => ?_)
                  refine lv_iinc (v := x5 + 1) (lv' := [(5, .int (x5 + 1)), (4, .int x5), (0, .ref o), (1, .int x1), (3, .int x3)]) hx hb dX7_instant_129 hl (k := 4) rfl rfl (by decide) rfl (fun ls hl => ?_)
                  refine lv_goto (tgt := 29) hx hb dX7_instant_132 (by decide) ?_
                  exact ih_29 x1 x3 x5 (x5 + 1) hf _ _ _ hB hS (lv_sub hl [2, 3, 4, 1, 0] rfl)
                · have hf := if_f hf hc13
                  refine lv_aload_n hx hb dX7_instant_93 rfl (lv_at hl 0 rfl) ?_
                  refine lv_iload hx hb dX7_instant_94 (lv_at hl 4 rfl) ?_
                  obtain ⟨v14, hqv14, hf⟩ := bn_s hf
                  refine r_callV (As := [.int x5]) (rest := []) X hB hS (rm_listOf l F D cI cZ o q _ _  _ hqv14) (cwV 1 hts (gd_V km_X7_145 ki_X7_listOf ks_X7_listOf kin_RX7 kc_X7_listOf) rfl rfl rfl (by decide +kernel) ⟨by decide, by decide⟩) hl rfl rfl (Nat.le_of_ble_eq_true rfl) dX7_instant_96 ⟨Nat.zero_le _, Nat.zero_le _⟩ rfl (fun H locs hB hS => ?_)
                  refine lv_aload_n hx hb dX7_instant_99 rfl (lv_at hl 0 rfl) ?_
                  refine lv_iload hx hb dX7_instant_100 (lv_at hl 3 rfl) ?_
                  obtain ⟨v15, hqv15, hf⟩ := bn_s hf
                  refine r_callV (As := [.int x4]) (rest := [.int v14]) X hB hS (rm_listOf l F D cI cZ o q _ _  _ hqv15) (cwV 1 hts (gd_V km_X7_145 ki_X7_listOf ks_X7_listOf kin_RX7 kc_X7_listOf) rfl rfl rfl (by decide +kernel) ⟨by decide, by decide⟩) hl rfl rfl (Nat.le_of_ble_eq_true rfl) dX7_instant_102 ⟨Nat.zero_le _, Nat.zero_le _⟩ rfl (fun H locs hB hS => ?_)
                  refine lv_icmp_ne (tgt := 129) hx hb dX7_instant_105 (by decide) (fun hc16 => ?_) (fun hc16 => ?_)
                  · have hf := if_f hf hc16
                    refine lv_iinc (v := x5 + 1) (lv' := [(5, .int (x5 + 1)), (0, .ref o), (1, .int x1), (3, .int x3), (4, .int x4)]) hx hb dX7_instant_129 hl (k := 4) rfl rfl (by decide) rfl (fun ls hl => ?_)
                    refine lv_goto (tgt := 29) hx hb dX7_instant_132 (by decide) ?_
                    exact ih_29 x1 x3 x4 (x5 + 1) hf _ _ _ hB hS (lv_sub hl [1, 2, 3, 4, 0] rfl)
                  · have hf := if_t hf hc16
                    refine lv_aload_n hx hb dX7_instant_108 rfl (lv_at hl 0 rfl) ?_
                    refine r_get X hB 15 46 (by decide) (kw_m kf_X7_46) rfl rfl dX7_instant_109 ?_
                    refine lv_iload hx hb dX7_instant_112 (lv_at hl 4 rfl) ?_
                    obtain ⟨v17, ev17, hiv17, hf⟩ := rd_s hf
                    refine r_ld X hB 15 13 (rat_15 cI cZ o q R) hiv17 ev17 dX7_instant_114 ?_
                    refine lv_aload_n hx hb dX7_instant_115 rfl (lv_at hl 0 rfl) ?_
                    refine r_get X hB 15 46 (by decide) (kw_m kf_X7_46) rfl rfl dX7_instant_116 ?_
                    refine lv_iload hx hb dX7_instant_119 (lv_at hl 3 rfl) ?_
                    obtain ⟨v18, ev18, hiv18, hf⟩ := rd_s hf
                    refine r_ld X hB 15 13 (rat_15 cI cZ o q R) hiv18 ev18 dX7_instant_121 ?_
                    refine lv_icmp_le (tgt := 129) hx hb dX7_instant_122 (by decide) (fun hc19 => ?_) (fun hc19 => ?_)
                    · have hf := if_t hf hc19
                      refine lv_iinc (v := x5 + 1) (lv' := [(5, .int (x5 + 1)), (0, .ref o), (1, .int x1), (3, .int x3), (4, .int x4)]) hx hb dX7_instant_129 hl (k := 4) rfl rfl (by decide) rfl (fun ls hl => ?_)
                      refine lv_goto (tgt := 29) hx hb dX7_instant_132 (by decide) ?_
                      exact ih_29 x1 x3 x4 (x5 + 1) hf _ _ _ hB hS (lv_sub hl [1, 2, 3, 4, 0] rfl)
                    · have hf := if_f hf hc19
                      refine lv_iload hx hb dX7_instant_125 (lv_at hl 4 rfl) ?_
                      refine lv_istore (lv' := [(4, .int x5), (0, .ref o), (1, .int x1), (3, .int x3), (5, .int x5)]) hx hb dX7_instant_127 hl (by decide) rfl (fun ls hl => ?_)
                      refine lv_iinc (v := x5 + 1) (lv' := [(5, .int (x5 + 1)), (4, .int x5), (0, .ref o), (1, .int x1), (3, .int x3)]) hx hb dX7_instant_129 hl (k := 4) rfl rfl (by decide) rfl (fun ls hl => ?_)
                      refine lv_goto (tgt := 29) hx hb dX7_instant_132 (by decide) ?_
                      exact ih_29 x1 x3 x5 (x5 + 1) hf _ _ _ hB hS (lv_sub hl [2, 3, 4, 1, 0] rfl)
            · have hf := if_f hf hc9
              refine lv_goto (tgt := 129) hx hb dX7_instant_69 (by decide) ?_
              refine lv_iinc (v := x5 + 1) (lv' := [(5, .int (x5 + 1)), (0, .ref o), (1, .int x1), (3, .int x3), (4, .int x4)]) hx hb dX7_instant_129 hl (k := 4) rfl rfl (by decide) rfl (fun ls hl => ?_)
              refine lv_goto (tgt := 29) hx hb dX7_instant_132 (by decide) ?_
              exact ih_29 x1 x3 x4 (x5 + 1) hf _ _ _ hB hS (lv_sub hl [1, 2, 3, 4, 0] rfl)
  have J_2 : ∀ (n_2 : Nat) (x1 : Int32) (x2 : Int32) (x3 : Int32), rf_instant_2 F R n_2 x1 x2 x3 = some r → ∀ (H : Heap) (locs : List Loc) (ls : Array Slot), rB D cI cZ o q R H → va_S (rA o q) s.heap H locs → lv_has ls 6 [(0, .ref o), (1, .int x1), (2, .int x2), (3, .int x3)] → W p l e { frames := 1, cells := 0, slots := 0, locals := 23 } s m args below meth c H locs 0 0 (MQ below (mq (some (.int r)) (rW D cI cZ o q R) (rA o q)) args s 0 0 (rA o q)) (F0 m 2 ls []) := by
    intro n_2
    induction n_2 with
    | zero => intro x1 x2 x3 hf; cases hf
    | succ n_2 ih_2 =>
      intro x1 x2 x3 hf H locs ls hB hS hl
      rw [rf_instant_2] at hf
      refine lv_aload_n hx hb dX7_instant_2 rfl (lv_at hl 0 rfl) ?_
      refine r_get X hB 2 7 (by decide) (kw_m kf_X7_7) rfl rfl dX7_instant_3 ?_
      refine lv_iload_n hx hb dX7_instant_6 rfl (lv_at hl 1 rfl) ?_
      obtain ⟨v1, ev1, hiv1, hf⟩ := rd_s hf
      refine r_ld X hB 2 1 (rat_2 cI cZ o q R) hiv1 ev1 dX7_instant_7 ?_
      refine lv_i2l (v := v1.toInt64) hx hb dX7_instant_8 rfl ?_
      refine lv_iload_n hx hb dX7_instant_9 rfl (lv_at hl 3 rfl) ?_
      refine lv_lshl (v := v1.toInt64 <<< (x3.toInt64 &&& 63)) hx hb dX7_instant_10 rfl ?_
      refine lv_iload_n hx hb dX7_instant_11 rfl (lv_at hl 2 rfl) ?_
      refine lv_i2l (v := x2.toInt64) hx hb dX7_instant_12 rfl ?_
      refine W.lcmp hx hb dX7_instant_13 ?_
      refine lv_if_ge (tgt := 23) hx hb dX7_instant_14 (by decide) (fun hc2 => ?_) (fun hc2 => ?_)
      · have hf := if_t hf hc2
        refine lv_iconst (v := (-1)) hx hb dX7_instant_23 (by decide) ?_
        refine lv_istore (lv' := [(4, .int (-1)), (0, .ref o), (1, .int x1), (2, .int x2), (3, .int x3)]) hx hb dX7_instant_24 hl (by decide) rfl (fun ls hl => ?_)
        refine lv_iconst (v := 0) hx hb dX7_instant_26 (by decide) ?_
        refine lv_istore (lv' := [(5, .int 0), (4, .int (-1)), (0, .ref o), (1, .int x1), (2, .int x2), (3, .int x3)]) hx hb dX7_instant_27 hl (by decide) rfl (fun ls hl => ?_)
        exact J_29 F x1 x3 ((-1) : Int32) (0 : Int32) hf _ _ _ hB hS (lv_sub hl [2, 3, 5, 1, 0] rfl)
      · have hf := if_f hf hc2
        refine lv_iinc (v := x3 + 1) (lv' := [(3, .int (x3 + 1)), (0, .ref o), (1, .int x1), (2, .int x2)]) hx hb dX7_instant_17 hl (k := 3) rfl rfl (by decide) rfl (fun ls hl => ?_)
        refine lv_goto (tgt := 2) hx hb dX7_instant_20 (by decide) ?_
        exact ih_2 x1 x2 (x3 + 1) hf _ _ _ hB hS (lv_sub hl [1, 2, 3, 0] rfl)
  unfold rf_instant at hf
  refine lv_iconst (v := 0) hx hb dX7_instant_0 (by decide) ?_
  refine lv_istore_n (lv' := [(3, .int 0), (0, .ref o), (1, .int x1), (2, .int x2)]) hx hb dX7_instant_1 rfl hl (by decide) rfl (fun ls hl => ?_)
  exact J_2 F x1 x2 (0 : Int32) hf _ _ _ hB hS (lv_sub hl [1, 2, 3, 0] rfl)
/-! X7_next -/
def rf_next_5 (F : Nat) (R : Rst) : Nat → Int32 → Int32 → Int32 → Int32 → Option Int32
  | 0 => fun _ _ _ _ => none
  | n + 1 => fun x1 x2 x3 x4 => if (R.1 10) ≤ x4 then (some x3) else (rd R 11 x4 fun v2 => if v2 = x1 then (rd R 14 x4 fun v4 => if v4 = 0 then (rd R 13 x4 fun v6 => if x2 ≤ v6 then (rd R 12 x4 fun v8 => rd R 5 x1 fun v9 => if v8 < v9 then (if x3 = ((-1) : Int32) then ((rf_next_5 F R n) x1 x2 x4 (x4 + 1)) else ((rf_next_5 F R n) x1 x2 x3 (x4 + 1))) else (some x4)) else ((rf_next_5 F R n) x1 x2 x3 (x4 + 1))) else ((rf_next_5 F R n) x1 x2 x3 (x4 + 1))) else ((rf_next_5 F R n) x1 x2 x3 (x4 + 1)))
def rf_next (F : Nat) (R : Rst) (x1 : Int32) (x2 : Int32) : Option Int32 := rf_next_5 F R F x1 x2 ((-1) : Int32) (0 : Int32)
set_option maxHeartbeats 4000000 in
set_option maxRecDepth 100000 in
theorem rm_next (l : Launch) (F : Nat) (D : va_G) (cI cZ : ClassId) (o : Nat) (q : Nat → Nat) (R : Rst) (x1 : Int32) (x2 : Int32) (r : Int32) (hf : rf_next F R x1 x2 = some r)   : rMet l yX7_next wq_X7_next { frames := 0, cells := 0, slots := 0, locals := 0 } D cI cZ o q [.ref o, .int x1, .int x2] R (some (.int r)) R := by
  refine rMet_of (cc := cX7_next) (maxL := 5) (ret := (some .int)) (by decide) rfl rfl (kw_h kw_X7) (Nat.le_of_ble_eq_true rfl) ?_
  intro p e s m below meth c X hr hlk ls hl hB hS
  have hx := X.1.1
  have hb := X.1.2.1
  have hown := X.1.2.2.2.1
  have hts := X.1.2.2.2.2
  have hl : lv_has ls 5 [(0, .ref o), (1, .int x1), (2, .int x2)] := hl
  generalize hargs : ([.ref o, .int x1, .int x2] : List Value).toArray = args at X hts hS ⊢
  have J_5 : ∀ (n_5 : Nat) (x1 : Int32) (x2 : Int32) (x3 : Int32) (x4 : Int32), rf_next_5 F R n_5 x1 x2 x3 x4 = some r → ∀ (H : Heap) (locs : List Loc) (ls : Array Slot), rB D cI cZ o q R H → va_S (rA o q) s.heap H locs → lv_has ls 5 [(0, .ref o), (1, .int x1), (2, .int x2), (3, .int x3), (4, .int x4)] → W p l e { frames := 0, cells := 0, slots := 0, locals := 0 } s m args below meth c H locs 0 0 (MQ below (mq (some (.int r)) (rW D cI cZ o q R) (rA o q)) args s 0 0 (rA o q)) (F0 m 5 ls []) := by
    intro n_5
    induction n_5 with
    | zero => intro x1 x2 x3 x4 hf; cases hf
    | succ n_5 ih_5 =>
      intro x1 x2 x3 x4 hf H locs ls hB hS hl
      rw [rf_next_5] at hf
      refine lv_iload hx hb dX7_next_5 (lv_at hl 4 rfl) ?_
      refine lv_aload_n hx hb dX7_next_7 rfl (lv_at hl 0 rfl) ?_
      refine r_get X hB 10 107 (by decide) (kw_m kf_X7_107) rfl rfl dX7_next_8 ?_
      refine lv_icmp_ge (tgt := 86) hx hb dX7_next_11 (by decide) (fun hc1 => ?_) (fun hc1 => ?_)
      · have hf := if_t hf hc1
        refine lv_iload_n hx hb dX7_next_86 rfl (lv_at hl 3 rfl) ?_
        cases hf
        exact r_iret X hB hS hr hlk dX7_next_87
      · have hf := if_f hf hc1
        refine lv_aload_n hx hb dX7_next_14 rfl (lv_at hl 0 rfl) ?_
        refine r_get X hB 11 34 (by decide) (kw_m kf_X7_34) rfl rfl dX7_next_15 ?_
        refine lv_iload hx hb dX7_next_18 (lv_at hl 4 rfl) ?_
        obtain ⟨v2, ev2, hiv2, hf⟩ := rd_s hf
        refine r_ld X hB 11 9 (rat_11 cI cZ o q R) hiv2 ev2 dX7_next_20 ?_
        refine lv_iload_n hx hb dX7_next_21 rfl (lv_at hl 1 rfl) ?_
        refine lv_icmp_ne (tgt := 80) hx hb dX7_next_22 (by decide) (fun hc3 => ?_) (fun hc3 => ?_)
        · have hf := if_f hf hc3
          refine lv_iinc (v := x4 + 1) (lv' := [(4, .int (x4 + 1)), (0, .ref o), (1, .int x1), (2, .int x2), (3, .int x3)]) hx hb dX7_next_80 hl (k := 4) rfl rfl (by decide) rfl (fun ls hl => ?_)
          refine lv_goto (tgt := 5) hx hb dX7_next_83 (by decide) ?_
          exact ih_5 x1 x2 x3 (x4 + 1) hf _ _ _ hB hS (lv_sub hl [1, 2, 3, 4, 0] rfl)
        · have hf := if_t hf hc3
          refine lv_aload_n hx hb dX7_next_25 rfl (lv_at hl 0 rfl) ?_
          refine r_get X hB 14 43 (by decide) (kw_m kf_X7_43) rfl rfl dX7_next_26 ?_
          refine lv_iload hx hb dX7_next_29 (lv_at hl 4 rfl) ?_
          obtain ⟨v4, ev4, hiv4, hf⟩ := rd_s hf
          refine r_ld X hB 14 12 (rat_14 cI cZ o q R) hiv4 ev4 dX7_next_31 ?_
          refine lv_if_ne (tgt := 80) hx hb dX7_next_32 (by decide) (fun hc5 => ?_) (fun hc5 => ?_)
          · have hf := if_f hf hc5
            refine lv_iinc (v := x4 + 1) (lv' := [(4, .int (x4 + 1)), (0, .ref o), (1, .int x1), (2, .int x2), (3, .int x3)]) hx hb dX7_next_80 hl (k := 4) rfl rfl (by decide) rfl (fun ls hl => ?_)
            refine lv_goto (tgt := 5) hx hb dX7_next_83 (by decide) ?_
            exact ih_5 x1 x2 x3 (x4 + 1) hf _ _ _ hB hS (lv_sub hl [1, 2, 3, 4, 0] rfl)
          · have hf := if_t hf hc5
            refine lv_aload_n hx hb dX7_next_35 rfl (lv_at hl 0 rfl) ?_
            refine r_get X hB 13 40 (by decide) (kw_m kf_X7_40) rfl rfl dX7_next_36 ?_
            refine lv_iload hx hb dX7_next_39 (lv_at hl 4 rfl) ?_
            obtain ⟨v6, ev6, hiv6, hf⟩ := rd_s hf
            refine r_ld X hB 13 11 (rat_13 cI cZ o q R) hiv6 ev6 dX7_next_41 ?_
            refine lv_iload_n hx hb dX7_next_42 rfl (lv_at hl 2 rfl) ?_
            refine lv_icmp_ge (tgt := 49) hx hb dX7_next_43 (by decide) (fun hc7 => ?_) (fun hc7 => ?_)
            · have hf := if_t hf hc7
              refine lv_aload_n hx hb dX7_next_49 rfl (lv_at hl 0 rfl) ?_
              refine r_get X hB 12 37 (by decide) (kw_m kf_X7_37) rfl rfl dX7_next_50 ?_
              refine lv_iload hx hb dX7_next_53 (lv_at hl 4 rfl) ?_
              obtain ⟨v8, ev8, hiv8, hf⟩ := rd_s hf
              refine r_ld X hB 12 10 (rat_12 cI cZ o q R) hiv8 ev8 dX7_next_55 ?_
              refine lv_aload_n hx hb dX7_next_56 rfl (lv_at hl 0 rfl) ?_
              refine r_get X hB 5 19 (by decide) (kw_m kf_X7_19) rfl rfl dX7_next_57 ?_
              refine lv_iload_n hx hb dX7_next_60 rfl (lv_at hl 1 rfl) ?_
              obtain ⟨v9, ev9, hiv9, hf⟩ := rd_s hf
              refine r_ld X hB 5 4 (rat_5 cI cZ o q R) hiv9 ev9 dX7_next_61 ?_
              refine lv_icmp_lt (tgt := 68) hx hb dX7_next_62 (by decide) (fun hc10 => ?_) (fun hc10 => ?_)
              · have hf := if_t hf hc10
                refine lv_iload_n hx hb dX7_next_68 rfl (lv_at hl 3 rfl) ?_
                refine lv_iconst (v := (-1)) hx hb dX7_next_69 (by decide) ?_
                refine lv_icmp_ne (tgt := 78) hx hb dX7_next_70 (by decide) (fun hc11 => ?_) (fun hc11 => ?_)
                · have hf := if_f hf hc11
                  refine lv_iload_n hx hb dX7_next_78 rfl (lv_at hl 3 rfl) ?_
                  refine lv_istore_n (lv' := [(3, .int x3), (0, .ref o), (1, .int x1), (2, .int x2), (4, .int x4)]) hx hb dX7_next_79 rfl hl (by decide) rfl (fun ls hl => ?_)
                  refine lv_iinc (v := x4 + 1) (lv' := [(4, .int (x4 + 1)), (3, .int x3), (0, .ref o), (1, .int x1), (2, .int x2)]) hx hb dX7_next_80 hl (k := 4) rfl rfl (by decide) rfl (fun ls hl => ?_)
                  refine lv_goto (tgt := 5) hx hb dX7_next_83 (by decide) ?_
                  exact ih_5 x1 x2 x3 (x4 + 1) hf _ _ _ hB hS (lv_sub hl [2, 3, 4, 1, 0] rfl)
                · have hf := if_t hf hc11
                  refine lv_iload hx hb dX7_next_73 (lv_at hl 4 rfl) ?_
                  refine lv_goto (tgt := 79) hx hb dX7_next_75 (by decide) ?_
                  refine lv_istore_n (lv' := [(3, .int x4), (0, .ref o), (1, .int x1), (2, .int x2), (4, .int x4)]) hx hb dX7_next_79 rfl hl (by decide) rfl (fun ls hl => ?_)
                  refine lv_iinc (v := x4 + 1) (lv' := [(4, .int (x4 + 1)), (3, .int x4), (0, .ref o), (1, .int x1), (2, .int x2)]) hx hb dX7_next_80 hl (k := 4) rfl rfl (by decide) rfl (fun ls hl => ?_)
                  refine lv_goto (tgt := 5) hx hb dX7_next_83 (by decide) ?_
                  exact ih_5 x1 x2 x4 (x4 + 1) hf _ _ _ hB hS (lv_sub hl [2, 3, 4, 1, 0] rfl)
              · have hf := if_f hf hc10
                refine lv_iload hx hb dX7_next_65 (lv_at hl 4 rfl) ?_
                cases hf
                exact r_iret X hB hS hr hlk dX7_next_67
            · have hf := if_f hf hc7
              refine lv_goto (tgt := 80) hx hb dX7_next_46 (by decide) ?_
              refine lv_iinc (v := x4 + 1) (lv' := [(4, .int (x4 + 1)), (0, .ref o), (1, .int x1), (2, .int x2), (3, .int x3)]) hx hb dX7_next_80 hl (k := 4) rfl rfl (by decide) rfl (fun ls hl => ?_)
              refine lv_goto (tgt := 5) hx hb dX7_next_83 (by decide) ?_
              exact ih_5 x1 x2 x3 (x4 + 1) hf _ _ _ hB hS (lv_sub hl [1, 2, 3, 4, 0] rfl)
  unfold rf_next at hf
  refine lv_iconst (v := (-1)) hx hb dX7_next_0 (by decide) ?_
  refine lv_istore_n (lv' := [(3, .int (-1)), (0, .ref o), (1, .int x1), (2, .int x2)]) hx hb dX7_next_1 rfl hl (by decide) rfl (fun ls hl => ?_)
  refine lv_iconst (v := 0) hx hb dX7_next_2 (by decide) ?_
  refine lv_istore (lv' := [(4, .int 0), (3, .int (-1)), (0, .ref o), (1, .int x1), (2, .int x2)]) hx hb dX7_next_3 hl (by decide) rfl (fun ls hl => ?_)
  exact J_5 F x1 x2 ((-1) : Int32) (0 : Int32) hf _ _ _ hB hS (lv_sub hl [2, 3, 4, 1, 0] rfl)
/-! X7_found -/
def rf_found (F : Nat) (R : Rst) (x1 : Int32) (x2 : Int32) (x3 : Int32) : Option Int32 := if x3 = 0 then ((rf_best F R x1 x2).bind fun v5 => some v5) else (if x3 = (1 : Int32) then ((rf_instant F R x1 x2).bind fun v4 => some v4) else ((rf_next F R x1 x2).bind fun v3 => some v3))
set_option maxHeartbeats 4000000 in
set_option maxRecDepth 100000 in
theorem rm_found (l : Launch) (F : Nat) (D : va_G) (cI cZ : ClassId) (o : Nat) (q : Nat → Nat) (R : Rst) (x1 : Int32) (x2 : Int32) (x3 : Int32) (r : Int32) (hf : rf_found F R x1 x2 x3 = some r)   : rMet l yX7_found wq_X7_found { frames := 2, cells := 0, slots := 0, locals := 48 } D cI cZ o q [.ref o, .int x1, .int x2, .int x3] R (some (.int r)) R := by
  refine rMet_of (cc := cX7_found) (maxL := 4) (ret := (some .int)) (by decide) rfl rfl (kw_h kw_X7) (Nat.le_of_ble_eq_true rfl) ?_
  intro p e s m below meth c X hr hlk ls hl hB hS
  have hx := X.1.1
  have hb := X.1.2.1
  have hown := X.1.2.2.2.1
  have hts := X.1.2.2.2.2
  have hl : lv_has ls 4 [(0, .ref o), (1, .int x1), (2, .int x2), (3, .int x3)] := hl
  generalize hargs : ([.ref o, .int x1, .int x2, .int x3] : List Value).toArray = args at X hts hS ⊢
  unfold rf_found at hf
  refine lv_iload_n hx hb dX7_found_0 rfl (lv_at hl 3 rfl) ?_
  refine lv_if_ne (tgt := 13) hx hb dX7_found_1 (by decide) (fun hc1 => ?_) (fun hc1 => ?_)
  · have hf := if_f hf hc1
    refine lv_iload_n hx hb dX7_found_13 rfl (lv_at hl 3 rfl) ?_
    refine lv_iconst (v := 1) hx hb dX7_found_14 (by decide) ?_
    refine lv_icmp_ne (tgt := 27) hx hb dX7_found_15 (by decide) (fun hc2 => ?_) (fun hc2 => ?_)
    · have hf := if_f hf hc2
      refine lv_aload_n hx hb dX7_found_27 rfl (lv_at hl 0 rfl) ?_
      refine lv_iload_n hx hb dX7_found_28 rfl (lv_at hl 1 rfl) ?_
      refine lv_iload_n hx hb dX7_found_29 rfl (lv_at hl 2 rfl) ?_
      obtain ⟨v3, hqv3, hf⟩ := bn_s hf
      refine r_callV (As := [.int x1, .int x2]) (rest := []) X hB hS (rm_next l F D cI cZ o q _ _ _  _ hqv3) (cwV 2 hts (gd_V km_X7_156 ki_X7_next ks_X7_next kin_RX7 kc_X7_next) rfl rfl rfl (by decide +kernel) ⟨by decide, by decide⟩) hl rfl rfl (Nat.le_of_ble_eq_true rfl) dX7_found_30 ⟨Nat.zero_le _, Nat.zero_le _⟩ rfl (fun H locs hB hS => ?_)
      cases hf
      exact r_iret X hB hS hr hlk dX7_found_33
    · have hf := if_t hf hc2
      refine lv_aload_n hx hb dX7_found_18 rfl (lv_at hl 0 rfl) ?_
      refine lv_iload_n hx hb dX7_found_19 rfl (lv_at hl 1 rfl) ?_
      refine lv_iload_n hx hb dX7_found_20 rfl (lv_at hl 2 rfl) ?_
      obtain ⟨v4, hqv4, hf⟩ := bn_s hf
      refine r_callV (As := [.int x1, .int x2]) (rest := []) X hB hS (rm_instant l F D cI cZ o q _ _ _  _ hqv4) (cwV 2 hts (gd_V km_X7_153 ki_X7_instant ks_X7_instant kin_RX7 kc_X7_instant) rfl rfl rfl (by decide +kernel) ⟨by decide, by decide⟩) hl rfl rfl (Nat.le_of_ble_eq_true rfl) dX7_found_21 ⟨Nat.zero_le _, Nat.zero_le _⟩ rfl (fun H locs hB hS => ?_)
      refine lv_goto (tgt := 33) hx hb dX7_found_24 (by decide) ?_
      cases hf
      exact r_iret X hB hS hr hlk dX7_found_33
  · have hf := if_t hf hc1
    refine lv_aload_n hx hb dX7_found_4 rfl (lv_at hl 0 rfl) ?_
    refine lv_iload_n hx hb dX7_found_5 rfl (lv_at hl 1 rfl) ?_
    refine lv_iload_n hx hb dX7_found_6 rfl (lv_at hl 2 rfl) ?_
    obtain ⟨v5, hqv5, hf⟩ := bn_s hf
    refine r_callV (As := [.int x1, .int x2]) (rest := []) X hB hS (rm_best l F D cI cZ o q _ _ _  _ hqv5) (cwV 2 hts (gd_V km_X7_149 ki_X7_best ks_X7_best kin_RX7 kc_X7_best) rfl rfl rfl (by decide +kernel) ⟨by decide, by decide⟩) hl rfl rfl (Nat.le_of_ble_eq_true rfl) dX7_found_7 ⟨Nat.zero_le _, Nat.zero_le _⟩ rfl (fun H locs hB hS => ?_)
    refine lv_goto (tgt := 33) hx hb dX7_found_10 (by decide) ?_
    cases hf
    exact r_iret X hB hS hr hlk dX7_found_33
/-! X7_cut -/
def rf_cut (F : Nat) (R : Rst) (x1 : Int32) (x2 : Int32) (x3 : Int32) : Option Rst := rd R 13 x1 fun v1 => wr R 13 x1 x2 fun R2 => wr R2 14 x1 x3 fun R3 => if (v1 - x2) ≤ 0 then (some R3) else (rd R3 11 x1 fun v5 => rd R3 12 x1 fun v6 => rd R3 16 x1 fun v7 => (rf_insert F R3 v5 (v6 + x2) (v1 - x2) v7).bind fun z8 => st2 z8 fun z8v z8R => some z8R)
set_option maxHeartbeats 4000000 in
set_option maxRecDepth 100000 in
theorem rm_cut (l : Launch) (F : Nat) (D : va_G) (cI cZ : ClassId) (o : Nat) (q : Nat → Nat) (R : Rst) (x1 : Int32) (x2 : Int32) (x3 : Int32) (R' : Rst) (hf : rf_cut F R x1 x2 x3 = some R')   : rMet l yX7_cut wq_X7_cut { frames := 2, cells := 0, slots := 0, locals := 50 } D cI cZ o q [.ref o, .int x1, .int x2, .int x3] R none R' := by
  refine rMet_of (cc := cX7_cut) (maxL := 5) (ret := none) (by decide) rfl rfl (kw_h kw_X7) (Nat.le_of_ble_eq_true rfl) ?_
  intro p e s m below meth c X hr hlk ls hl hB hS
  have hx := X.1.1
  have hb := X.1.2.1
  have hown := X.1.2.2.2.1
  have hts := X.1.2.2.2.2
  have hl : lv_has ls 5 [(0, .ref o), (1, .int x1), (2, .int x2), (3, .int x3)] := hl
  generalize hargs : ([.ref o, .int x1, .int x2, .int x3] : List Value).toArray = args at X hts hS ⊢
  unfold rf_cut at hf
  refine lv_aload_n hx hb dX7_cut_0 rfl (lv_at hl 0 rfl) ?_
  refine r_get X hB 13 40 (by decide) (kw_m kf_X7_40) rfl rfl dX7_cut_1 ?_
  refine lv_iload_n hx hb dX7_cut_4 rfl (lv_at hl 1 rfl) ?_
  obtain ⟨v1, ev1, hiv1, hf⟩ := rd_s hf
  refine r_ld X hB 13 11 (rat_13 cI cZ o q R) hiv1 ev1 dX7_cut_5 ?_
  refine lv_iload_n hx hb dX7_cut_6 rfl (lv_at hl 2 rfl) ?_
  refine lv_isub hx hb dX7_cut_7 ?_
  refine lv_istore (lv' := [(4, .int (v1 - x2)), (0, .ref o), (1, .int x1), (2, .int x2), (3, .int x3)]) hx hb dX7_cut_8 hl (by decide) rfl (fun ls hl => ?_)
  refine lv_aload_n hx hb dX7_cut_10 rfl (lv_at hl 1 rfl) ?_
  refine r_get X hB 13 40 (by decide) (kw_m kf_X7_40) rfl rfl dX7_cut_11 ?_
  refine lv_iload_n hx hb dX7_cut_14 rfl (lv_at hl 2 rfl) ?_
  refine lv_iload_n hx hb dX7_cut_15 rfl (lv_at hl 3 rfl) ?_
  obtain ⟨R2, eR2, hiR2, hf⟩ := wr_s hf
  refine r_st X hB hS 13 11 (rat_13 cI cZ o q R) (rset_13 cI cZ o q R _ _) hiR2 dX7_cut_16 (fun H locs hB hS => ?_)
  rw [← eR2] at hB
  refine lv_aload_n hx hb dX7_cut_17 rfl (lv_at hl 1 rfl) ?_
  refine r_get X hB 14 43 (by decide) (kw_m kf_X7_43) rfl rfl dX7_cut_18 ?_
  refine lv_iload_n hx hb dX7_cut_21 rfl (lv_at hl 2 rfl) ?_
  refine lv_iload_n hx hb dX7_cut_22 rfl (lv_at hl 4 rfl) ?_
  obtain ⟨R3, eR3, hiR3, hf⟩ := wr_s hf
  refine r_st X hB hS 14 12 (rat_14 cI cZ o q R2) (rset_14 cI cZ o q R2 _ _) hiR3 dX7_cut_23 (fun H locs hB hS => ?_)
  rw [← eR3] at hB
  refine lv_iload hx hb dX7_cut_24 (lv_at hl 0 rfl) ?_
  refine lv_if_le (tgt := 56) hx hb dX7_cut_26 (by decide) (fun hc4 => ?_) (fun hc4 => ?_)
  · have hf := if_t hf hc4
    cases hf
    exact r_vret X hB hS hr hlk dX7_cut_56
  · have hf := if_f hf hc4
    refine lv_aload_n hx hb dX7_cut_29 rfl (lv_at hl 1 rfl) ?_
    refine lv_aload_n hx hb dX7_cut_30 rfl (lv_at hl 1 rfl) ?_
    refine r_get X hB 11 34 (by decide) (kw_m kf_X7_34) rfl rfl dX7_cut_31 ?_
    refine lv_iload_n hx hb dX7_cut_34 rfl (lv_at hl 2 rfl) ?_
    obtain ⟨v5, ev5, hiv5, hf⟩ := rd_s hf
    refine r_ld X hB 11 9 (rat_11 cI cZ o q R3) hiv5 ev5 dX7_cut_35 ?_
    refine lv_aload_n hx hb dX7_cut_36 rfl (lv_at hl 1 rfl) ?_
    refine r_get X hB 12 37 (by decide) (kw_m kf_X7_37) rfl rfl dX7_cut_37 ?_
    refine lv_iload_n hx hb dX7_cut_40 rfl (lv_at hl 2 rfl) ?_
    obtain ⟨v6, ev6, hiv6, hf⟩ := rd_s hf
    refine r_ld X hB 12 10 (rat_12 cI cZ o q R3) hiv6 ev6 dX7_cut_41 ?_
    refine lv_iload_n hx hb dX7_cut_42 rfl (lv_at hl 3 rfl) ?_
    refine lv_iadd hx hb dX7_cut_43 ?_
    refine lv_iload hx hb dX7_cut_44 (lv_at hl 0 rfl) ?_
    refine lv_aload_n hx hb dX7_cut_46 rfl (lv_at hl 1 rfl) ?_
    refine r_get X hB 16 49 (by decide) (kw_m kf_X7_49) rfl rfl dX7_cut_47 ?_
    refine lv_iload_n hx hb dX7_cut_50 rfl (lv_at hl 2 rfl) ?_
    obtain ⟨v7, ev7, hiv7, hf⟩ := rd_s hf
    refine r_ld X hB 16 14 (rat_16 cI cZ o q R3) hiv7 ev7 dX7_cut_51 ?_
    obtain ⟨⟨z8v, z8R⟩, hqz8, hf⟩ := bn_s hf
    have hf := st2_s hf
    refine r_callV (As := [.int v5, .int (v6 + x2), .int (v1 - x2), .int v7]) (rest := []) X hB hS (rm_insert l F D cI cZ o q _ _ _ _ _  _ _ hqz8) (cwV 4 hts (gd_V km_X7_128 ki_X7_insert ks_X7_insert kin_RX7 kc_X7_insert) rfl rfl rfl (by decide +kernel) ⟨by decide, by decide⟩) hl rfl rfl (Nat.le_of_ble_eq_true rfl) dX7_cut_52 ⟨Nat.zero_le _, Nat.zero_le _⟩ rfl (fun H locs hB hS => ?_)
    refine lv_pop hx hb dX7_cut_55 rfl ?_
    cases hf
    exact r_vret X hB hS hr hlk dX7_cut_56
/-! X7_imported -/
def rf_imported (F : Nat) (kT : Rst → Int32 → Int64 → Int32 → Int32 → Option (Int32 × Rst)) (R : Rst) (x1 : Int32) (x2 : Int32) : Option (Int32 × Rst) := rd R 3 x1 fun v1 => if v1 = ((-1) : Int32) then (some (((-1) : Int32), R)) else (rd R 3 x1 fun v3 => rd R 2 v3 fun v4 => dvl v4.toInt64 (rd R 3 x1 fun v5 => (kT R v5 ((((x2.toInt64 + v4.toInt64) - 1) / v4.toInt64) * v4.toInt64) (1 : Int32) (3 : Int32)).bind fun z6 => st2 z6 fun z6v z6R => if z6v = ((-1) : Int32) then (some (((-1) : Int32), z6R)) else ((rf_addSpan F z6R x1 z6v (((((x2.toInt64 + v4.toInt64) - 1) / v4.toInt64) * v4.toInt64).toInt32) (1 : Int32)).bind fun z8 => st2 z8 fun z8v z8R => (rf_position F z8R x1 z6v.toInt64).bind fun v9 => some (v9, z8R))))
set_option maxHeartbeats 4000000 in
set_option maxRecDepth 100000 in
theorem rm_imported (l : Launch) (F : Nat) (kT : Rst → Int32 → Int64 → Int32 → Int32 → Option (Int32 × Rst)) (fr lo : Nat) (D : va_G) (cI cZ : ClassId) (o : Nat) (q : Nat → Nat) (hkT : ∀ (R : Rst) (a0 : Int32) (a1 : Int64) (a2 : Int32) (a3 : Int32) (r : Int32) (R' : Rst), kT R a0 a1 a2 a3 = some (r, R') → rMet l yX7_takes (wq_X7_takes) { frames := fr, cells := 0, slots := 0, locals := lo } D cI cZ o q [.ref o, .int a0, .long a1, .int a2, .int a3] R (some (.int r)) R') (hfr : 30 ≤ fr) (hlo : 1200 ≤ lo) (R : Rst) (x1 : Int32) (x2 : Int32) (r : Int32) (R' : Rst) (hf : rf_imported F kT R x1 x2 = some (r, R'))   : rMet l yX7_imported wq_X7_imported { frames := fr + 1, cells := 0, slots := 0, locals := lo + 60 } D cI cZ o q [.ref o, .int x1, .int x2] R (some (.int r)) R' := by
  refine rMet_of (cc := cX7_imported) (maxL := 8) (ret := (some .int)) (by decide) rfl rfl (kw_h kw_X7) (Nat.le_of_ble_eq_true rfl) ?_
  intro p e s m below meth c X hr hlk ls hl hB hS
  have hx := X.1.1
  have hb := X.1.2.1
  have hown := X.1.2.2.2.1
  have hts := X.1.2.2.2.2
  have hl : lv_has ls 8 [(0, .ref o), (1, .int x1), (2, .int x2)] := hl
  generalize hargs : ([.ref o, .int x1, .int x2] : List Value).toArray = args at X hts hS ⊢
  unfold rf_imported at hf
  refine lv_aload_n hx hb dX7_imported_0 rfl (lv_at hl 0 rfl) ?_
  refine r_get X hB 3 13 (by decide) (kw_m kf_X7_13) rfl rfl dX7_imported_1 ?_
  refine lv_iload_n hx hb dX7_imported_4 rfl (lv_at hl 1 rfl) ?_
  obtain ⟨v1, ev1, hiv1, hf⟩ := rd_s hf
  refine r_ld X hB 3 2 (rat_3 cI cZ o q R) hiv1 ev1 dX7_imported_5 ?_
  refine lv_iconst (v := (-1)) hx hb dX7_imported_6 (by decide) ?_
  refine lv_icmp_ne (tgt := 12) hx hb dX7_imported_7 (by decide) (fun hc2 => ?_) (fun hc2 => ?_)
  · have hf := if_f hf hc2
    refine lv_aload_n hx hb dX7_imported_12 rfl (lv_at hl 0 rfl) ?_
    refine r_get X hB 2 7 (by decide) (kw_m kf_X7_7) rfl rfl dX7_imported_13 ?_
    refine lv_aload_n hx hb dX7_imported_16 rfl (lv_at hl 0 rfl) ?_
    refine r_get X hB 3 13 (by decide) (kw_m kf_X7_13) rfl rfl dX7_imported_17 ?_
    refine lv_iload_n hx hb dX7_imported_20 rfl (lv_at hl 1 rfl) ?_
    obtain ⟨v3, ev3, hiv3, hf⟩ := rd_s hf
    refine r_ld X hB 3 2 (rat_3 cI cZ o q R) hiv3 ev3 dX7_imported_21 ?_
    obtain ⟨v4, ev4, hiv4, hf⟩ := rd_s hf
    refine r_ld X hB 2 1 (rat_2 cI cZ o q R) hiv4 ev4 dX7_imported_22 ?_
    refine lv_i2l (v := v4.toInt64) hx hb dX7_imported_23 rfl ?_
    refine lv_lstore_n (lv' := [(3, .long v4.toInt64), (0, .ref o), (1, .int x1), (2, .int x2)]) hx hb dX7_imported_24 rfl hl (by decide) rfl (fun ls hl => ?_)
    refine lv_iload_n hx hb dX7_imported_25 rfl (lv_at hl 3 rfl) ?_
    refine lv_i2l (v := x2.toInt64) hx hb dX7_imported_26 rfl ?_
    refine lv_lload_n hx hb dX7_imported_27 rfl (lv_at hl 0 rfl) ?_
    refine lv_ladd hx hb dX7_imported_28 ?_
    refine lv_lconst (v := 1) hx hb dX7_imported_29 (by decide) ?_
    refine lv_lsub hx hb dX7_imported_30 ?_
    refine lv_lload_n hx hb dX7_imported_31 rfl (lv_at hl 0 rfl) ?_
    obtain ⟨hd10, hf⟩ := dvl_s hf
    refine lv_ldiv hx hb dX7_imported_32 hd10 ?_
    refine lv_lload_n hx hb dX7_imported_33 rfl (lv_at hl 0 rfl) ?_
    refine lv_lmul hx hb dX7_imported_34 ?_
    refine lv_lstore (lv' := [(5, .long ((((x2.toInt64 + v4.toInt64) - 1) / v4.toInt64) * v4.toInt64)), (3, .long v4.toInt64), (0, .ref o), (1, .int x1), (2, .int x2)]) hx hb dX7_imported_35 hl (by decide) rfl (fun ls hl => ?_)
    refine lv_aload_n hx hb dX7_imported_37 rfl (lv_at hl 2 rfl) ?_
    refine lv_aload_n hx hb dX7_imported_38 rfl (lv_at hl 2 rfl) ?_
    refine r_get X hB 3 13 (by decide) (kw_m kf_X7_13) rfl rfl dX7_imported_39 ?_
    refine lv_iload_n hx hb dX7_imported_42 rfl (lv_at hl 3 rfl) ?_
    obtain ⟨v5, ev5, hiv5, hf⟩ := rd_s hf
    refine r_ld X hB 3 2 (rat_3 cI cZ o q R) hiv5 ev5 dX7_imported_43 ?_
    refine lv_lload hx hb dX7_imported_44 (lv_at hl 0 rfl) ?_
    refine lv_iconst (v := 1) hx hb dX7_imported_46 (by decide) ?_
    refine lv_iconst (v := 3) hx hb dX7_imported_47 (by decide) ?_
    obtain ⟨⟨z6v, z6R⟩, hqz6, hf⟩ := bn_s hf
    have hf := st2_s hf
    refine r_callV (As := [.int v5, .long ((((x2.toInt64 + v4.toInt64) - 1) / v4.toInt64) * v4.toInt64), .int 1, .int 3]) (rest := []) X hB hS (hkT _ _ _ _ _  _ _ hqz6) (cwV 4 hts (gd_V km_X7_173 ki_X7_takes ks_X7_takes kin_RX7 kc_X7_takes) rfl rfl rfl (by decide +kernel) ⟨by dsimp only; omega, by dsimp only; omega⟩) hl rfl rfl (Nat.le_of_ble_eq_true rfl) dX7_imported_48 ⟨Nat.zero_le _, Nat.zero_le _⟩ rfl (fun H locs hB hS => ?_)
    refine lv_istore (lv' := [(7, .int z6v), (5, .long ((((x2.toInt64 + v4.toInt64) - 1) / v4.toInt64) * v4.toInt64)), (3, .long v4.toInt64), (0, .ref o), (1, .int x1), (2, .int x2)]) hx hb dX7_imported_51 hl (by decide) rfl (fun ls hl => ?_)
    refine lv_iload hx hb dX7_imported_53 (lv_at hl 0 rfl) ?_
    refine lv_iconst (v := (-1)) hx hb dX7_imported_55 (by decide) ?_
    refine lv_icmp_ne (tgt := 61) hx hb dX7_imported_56 (by decide) (fun hc7 => ?_) (fun hc7 => ?_)
    · have hf := if_f hf hc7
      refine lv_aload_n hx hb dX7_imported_61 rfl (lv_at hl 3 rfl) ?_
      refine lv_iload_n hx hb dX7_imported_62 rfl (lv_at hl 4 rfl) ?_
      refine lv_iload hx hb dX7_imported_63 (lv_at hl 0 rfl) ?_
      refine lv_lload hx hb dX7_imported_65 (lv_at hl 1 rfl) ?_
      refine lv_l2i (v := ((((x2.toInt64 + v4.toInt64) - 1) / v4.toInt64) * v4.toInt64).toInt32) hx hb dX7_imported_67 rfl ?_
      refine lv_iconst (v := 1) hx hb dX7_imported_68 (by decide) ?_
      obtain ⟨⟨z8v, z8R⟩, hqz8, hf⟩ := bn_s hf
      have hf := st2_s hf
      refine r_callV (As := [.int x1, .int z6v, .int (((((x2.toInt64 + v4.toInt64) - 1) / v4.toInt64) * v4.toInt64).toInt32), .int 1]) (rest := []) X hB hS (rm_addSpan l F D cI cZ o q _ _ _ _ _  _ _ hqz8) (cwV 4 hts (gd_V km_X7_141 ki_X7_addSpan ks_X7_addSpan kin_RX7 kc_X7_addSpan) rfl rfl rfl (by decide +kernel) ⟨by dsimp only; omega, by dsimp only; omega⟩) hl rfl rfl (Nat.le_of_ble_eq_true rfl) dX7_imported_69 ⟨Nat.zero_le _, Nat.zero_le _⟩ rfl (fun H locs hB hS => ?_)
      refine lv_pop hx hb dX7_imported_72 rfl ?_
      refine lv_aload_n hx hb dX7_imported_73 rfl (lv_at hl 3 rfl) ?_
      refine lv_iload_n hx hb dX7_imported_74 rfl (lv_at hl 4 rfl) ?_
      refine lv_iload hx hb dX7_imported_75 (lv_at hl 0 rfl) ?_
      refine lv_i2l (v := z6v.toInt64) hx hb dX7_imported_77 rfl ?_
      obtain ⟨v9, hqv9, hf⟩ := bn_s hf
      refine r_callV (As := [.int x1, .long z6v.toInt64]) (rest := []) X hB hS (rm_position l F D cI cZ o q _ _ _  _ hqv9) (cwV 2 hts (gd_V km_X7_113 ki_X7_position ks_X7_position kin_RX7 kc_X7_position) rfl rfl rfl (by decide +kernel) ⟨by dsimp only; omega, by dsimp only; omega⟩) hl rfl rfl (Nat.le_of_ble_eq_true rfl) dX7_imported_78 ⟨Nat.zero_le _, Nat.zero_le _⟩ rfl (fun H locs hB hS => ?_)
      cases hf
      exact r_iret X hB hS hr hlk dX7_imported_81
    · have hf := if_t hf hc7
      refine lv_iconst (v := (-1)) hx hb dX7_imported_59 (by decide) ?_
      cases hf
      exact r_iret X hB hS hr hlk dX7_imported_60
  · have hf := if_t hf hc2
    refine lv_iconst (v := (-1)) hx hb dX7_imported_10 (by decide) ?_
    cases hf
    exact r_iret X hB hS hr hlk dX7_imported_11
