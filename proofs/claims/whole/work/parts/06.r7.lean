/-! X7_ahead -/
def rf_ahead_4 (F : Nat) (R : Rst) : Nat → Int32 → Int32 → Int32 → Option Int32
  | 0 => fun _ _ _ => none
  | n + 1 => fun x1 x2 x3 => if (R.1 10) ≤ x3 then (some x2) else (rd R 11 x3 fun v2 => rd R 11 x1 fun v3 => if v2 = v3 then (rd R 14 x3 fun v5 => if v5 = 0 then ((rf_listOf F R x3).bind fun v7 => (rf_listOf F R x1).bind fun v8 => if v7 = v8 then (rd R 15 x3 fun v10 => rd R 15 x1 fun v11 => if v10 ≤ v11 then ((rf_ahead_4 F R n) x1 x2 (x3 + 1)) else ((rf_ahead_4 F R n) x1 (x2 + 1) (x3 + 1))) else ((rf_ahead_4 F R n) x1 x2 (x3 + 1))) else ((rf_ahead_4 F R n) x1 x2 (x3 + 1))) else ((rf_ahead_4 F R n) x1 x2 (x3 + 1)))
def rf_ahead (F : Nat) (R : Rst) (x1 : Int32) : Option Int32 := rf_ahead_4 F R F x1 (0 : Int32) (0 : Int32)
set_option maxHeartbeats 4000000 in
set_option maxRecDepth 100000 in
theorem rm_ahead (l : Launch) (F : Nat) (D : va_G) (cI cZ : ClassId) (o : Nat) (q : Nat → Nat) (R : Rst) (x1 : Int32) (r : Int32) (hf : rf_ahead F R x1 = some r)   : rMet l yX7_ahead wq_X7_ahead { frames := 1, cells := 0, slots := 0, locals := 23 } D cI cZ o q [.ref o, .int x1] R (some (.int r)) R := by
  refine rMet_of (cc := cX7_ahead) (maxL := 4) (ret := (some .int)) (by decide) rfl rfl (kw_h kw_X7) (Nat.le_of_ble_eq_true rfl) ?_
  intro p e s m below meth c X hr hlk ls hl hB hS
  have hx := X.1.1
  have hb := X.1.2.1
  have hown := X.1.2.2.2.1
  have hts := X.1.2.2.2.2
  have hl : lv_has ls 4 [(0, .ref o), (1, .int x1)] := hl
  generalize hargs : ([.ref o, .int x1] : List Value).toArray = args at X hts hS ⊢
  have J_4 : ∀ (n_4 : Nat) (x1 : Int32) (x2 : Int32) (x3 : Int32), rf_ahead_4 F R n_4 x1 x2 x3 = some r → ∀ (H : Heap) (locs : List Loc) (ls : Array Slot), rB D cI cZ o q R H → va_S (rA o q) s.heap H locs → lv_has ls 4 [(0, .ref o), (1, .int x1), (2, .int x2), (3, .int x3)] → W p l e { frames := 1, cells := 0, slots := 0, locals := 23 } s m args below meth c H locs 0 0 (MQ below (mq (some (.int r)) (rW D cI cZ o q R) (rA o q)) args s 0 0 (rA o q)) (F0 m 4 ls []) := by
    intro n_4
    induction n_4 with
    | zero => intro x1 x2 x3 hf; cases hf
    | succ n_4 ih_4 =>
      intro x1 x2 x3 hf H locs ls hB hS hl
      rw [rf_ahead_4] at hf
      refine lv_iload_n hx hb dX7_ahead_4 rfl (lv_at hl 3 rfl) ?_
      refine lv_aload_n hx hb dX7_ahead_5 rfl (lv_at hl 0 rfl) ?_
      refine r_get X hB 10 107 (by decide) (kw_m kf_X7_107) rfl rfl dX7_ahead_6 ?_
      refine lv_icmp_ge (tgt := 73) hx hb dX7_ahead_9 (by decide) (fun hc1 => ?_) (fun hc1 => ?_)
      · have hf := if_t hf hc1
        refine lv_iload_n hx hb dX7_ahead_73 rfl (lv_at hl 2 rfl) ?_
        cases hf
        exact r_iret X hB hS hr hlk dX7_ahead_74
      · have hf := if_f hf hc1
        refine lv_aload_n hx hb dX7_ahead_12 rfl (lv_at hl 0 rfl) ?_
        refine r_get X hB 11 34 (by decide) (kw_m kf_X7_34) rfl rfl dX7_ahead_13 ?_
        refine lv_iload_n hx hb dX7_ahead_16 rfl (lv_at hl 3 rfl) ?_
        obtain ⟨v2, ev2, hiv2, hf⟩ := rd_s hf
        refine r_ld X hB 11 9 (rat_11 cI cZ o q R) hiv2 ev2 dX7_ahead_17 ?_
        refine lv_aload_n hx hb dX7_ahead_18 rfl (lv_at hl 0 rfl) ?_
        refine r_get X hB 11 34 (by decide) (kw_m kf_X7_34) rfl rfl dX7_ahead_19 ?_
        refine lv_iload_n hx hb dX7_ahead_22 rfl (lv_at hl 1 rfl) ?_
        obtain ⟨v3, ev3, hiv3, hf⟩ := rd_s hf
        refine r_ld X hB 11 9 (rat_11 cI cZ o q R) hiv3 ev3 dX7_ahead_23 ?_
        refine lv_icmp_ne (tgt := 67) hx hb dX7_ahead_24 (by decide) (fun hc4 => ?_) (fun hc4 => ?_)
        · have hf := if_f hf hc4
          refine lv_iinc (v := x3 + 1) (lv' := [(3, .int (x3 + 1)), (0, .ref o), (1, .int x1), (2, .int x2)]) hx hb dX7_ahead_67 hl (k := 3) rfl rfl (by decide) rfl (fun ls hl => ?_)
          refine lv_goto (tgt := 4) hx hb dX7_ahead_70 (by decide) ?_
          exact ih_4 x1 x2 (x3 + 1) hf _ _ _ hB hS (lv_sub hl [1, 2, 3, 0] rfl)
        · have hf := if_t hf hc4
          refine lv_aload_n hx hb dX7_ahead_27 rfl (lv_at hl 0 rfl) ?_
          refine r_get X hB 14 43 (by decide) (kw_m kf_X7_43) rfl rfl dX7_ahead_28 ?_
          refine lv_iload_n hx hb dX7_ahead_31 rfl (lv_at hl 3 rfl) ?_
          obtain ⟨v5, ev5, hiv5, hf⟩ := rd_s hf
          refine r_ld X hB 14 12 (rat_14 cI cZ o q R) hiv5 ev5 dX7_ahead_32 ?_
          refine lv_if_ne (tgt := 67) hx hb dX7_ahead_33 (by decide) (fun hc6 => ?_) (fun hc6 => ?_)
          · have hf := if_f hf hc6
            refine lv_iinc (v := x3 + 1) (lv' := [(3, .int (x3 + 1)), (0, .ref o), (1, .int x1), (2, .int x2)]) hx hb dX7_ahead_67 hl (k := 3) rfl rfl (by decide) rfl (fun ls hl => ?_)
            refine lv_goto (tgt := 4) hx hb dX7_ahead_70 (by decide) ?_
            exact ih_4 x1 x2 (x3 + 1) hf _ _ _ hB hS (lv_sub hl [1, 2, 3, 0] rfl)
          · have hf := if_t hf hc6
            refine lv_aload_n hx hb dX7_ahead_36 rfl (lv_at hl 0 rfl) ?_
            refine lv_iload_n hx hb dX7_ahead_37 rfl (lv_at hl 3 rfl) ?_
            obtain ⟨v7, hqv7, hf⟩ := bn_s hf
            refine r_callV (As := [.int x3]) (rest := []) X hB hS (rm_listOf l F D cI cZ o q _ _  _ hqv7) (cwV 1 hts (gd_V km_X7_145 ki_X7_listOf ks_X7_listOf kin_RX7 kc_X7_listOf) rfl rfl rfl (by decide +kernel) ⟨by decide, by decide⟩) hl rfl rfl (Nat.le_of_ble_eq_true rfl) dX7_ahead_38 ⟨Nat.zero_le _, Nat.zero_le _⟩ rfl (fun H locs hB hS => ?_)
            refine lv_aload_n hx hb dX7_ahead_41 rfl (lv_at hl 0 rfl) ?_
            refine lv_iload_n hx hb dX7_ahead_42 rfl (lv_at hl 1 rfl) ?_
            obtain ⟨v8, hqv8, hf⟩ := bn_s hf
            refine r_callV (As := [.int x1]) (rest := [.int v7]) X hB hS (rm_listOf l F D cI cZ o q _ _  _ hqv8) (cwV 1 hts (gd_V km_X7_145 ki_X7_listOf ks_X7_listOf kin_RX7 kc_X7_listOf) rfl rfl rfl (by decide +kernel) ⟨by decide, by decide⟩) hl rfl rfl (Nat.le_of_ble_eq_true rfl) dX7_ahead_43 ⟨Nat.zero_le _, Nat.zero_le _⟩ rfl (fun H locs hB hS => ?_)
            refine lv_icmp_ne (tgt := 67) hx hb dX7_ahead_46 (by decide) (fun hc9 => ?_) (fun hc9 => ?_)
            · have hf := if_f hf hc9
              refine lv_iinc (v := x3 + 1) (lv' := [(3, .int (x3 + 1)), (0, .ref o), (1, .int x1), (2, .int x2)]) hx hb dX7_ahead_67 hl (k := 3) rfl rfl (by decide) rfl (fun ls hl => ?_)
              refine lv_goto (tgt := 4) hx hb dX7_ahead_70 (by decide) ?_
              exact ih_4 x1 x2 (x3 + 1) hf _ _ _ hB hS (lv_sub hl [1, 2, 3, 0] rfl)
            · have hf := if_t hf hc9
              refine lv_aload_n hx hb dX7_ahead_49 rfl (lv_at hl 0 rfl) ?_
              refine r_get X hB 15 46 (by decide) (kw_m kf_X7_46) rfl rfl dX7_ahead_50 ?_
              refine lv_iload_n hx hb dX7_ahead_53 rfl (lv_at hl 3 rfl) ?_
              obtain ⟨v10, ev10, hiv10, hf⟩ := rd_s hf
              refine r_ld X hB 15 13 (rat_15 cI cZ o q R) hiv10 ev10 dX7_ahead_54 ?_
              refine lv_aload_n hx hb dX7_ahead_55 rfl (lv_at hl 0 rfl) ?_
              refine r_get X hB 15 46 (by decide) (kw_m kf_X7_46) rfl rfl dX7_ahead_56 ?_
              refine lv_iload_n hx hb dX7_ahead_59 rfl (lv_at hl 1 rfl) ?_
              obtain ⟨v11, ev11, hiv11, hf⟩ := rd_s hf
              refine r_ld X hB 15 13 (rat_15 cI cZ o q R) hiv11 ev11 dX7_ahead_60 ?_
              refine lv_icmp_le (tgt := 67) hx hb dX7_ahead_61 (by decide) (fun hc12 => ?_) (fun hc12 => ?_)
              · have hf := if_t hf hc12
                refine lv_iinc (v := x3 + 1) (lv' := [(3, .int (x3 + 1)), (0, .ref o), (1, .int x1), (2, .int x2)]) hx hb dX7_ahead_67 hl (k := 3) rfl rfl (by decide) rfl (fun ls hl => ?_)
                refine lv_goto (tgt := 4) hx hb dX7_ahead_70 (by decide) ?_
                exact ih_4 x1 x2 (x3 + 1) hf _ _ _ hB hS (lv_sub hl [1, 2, 3, 0] rfl)
              · have hf := if_f hf hc12
                refine lv_iinc (v := x2 + 1) (lv' := [(2, .int (x2 + 1)), (0, .ref o), (1, .int x1), (3, .int x3)]) hx hb dX7_ahead_64 hl (k := 2) rfl rfl (by decide) rfl (fun ls hl => ?_)
                refine lv_iinc (v := x3 + 1) (lv' := [(3, .int (x3 + 1)), (2, .int (x2 + 1)), (0, .ref o), (1, .int x1)]) hx hb dX7_ahead_67 hl (k := 3) rfl rfl (by decide) rfl (fun ls hl => ?_)
                refine lv_goto (tgt := 4) hx hb dX7_ahead_70 (by decide) ?_
                exact ih_4 x1 (x2 + 1) (x3 + 1) hf _ _ _ hB hS (lv_sub hl [2, 3, 1, 0] rfl)
  unfold rf_ahead at hf
  refine lv_iconst (v := 0) hx hb dX7_ahead_0 (by decide) ?_
  refine lv_istore_n (lv' := [(2, .int 0), (0, .ref o), (1, .int x1)]) hx hb dX7_ahead_1 rfl hl (by decide) rfl (fun ls hl => ?_)
  refine lv_iconst (v := 0) hx hb dX7_ahead_2 (by decide) ?_
  refine lv_istore_n (lv' := [(3, .int 0), (2, .int 0), (0, .ref o), (1, .int x1)]) hx hb dX7_ahead_3 rfl hl (by decide) rfl (fun ls hl => ?_)
  exact J_4 F x1 (0 : Int32) (0 : Int32) hf _ _ _ hB hS (lv_sub hl [2, 3, 1, 0] rfl)
/-! X7_segment -/
def rf_segment_54 (F : Nat) (R : Rst) (x3 : Int32) (x4 : Int32) (y0 : Int32) : Option (Int32 × Rst) := (rf_right F R y0 (2 : Int32)).bind fun z5 => st2 z5 fun z5v z5R => if z5v = 0 then (some ((0 : Int32), z5R)) else (if x3 = 0 then (rd z5R 12 x4 fun v10 => some (v10, z5R)) else (if x3 = 1 then (rd z5R 13 x4 fun v11 => some (v11, z5R)) else (if x3 = 2 then (rd z5R 14 x4 fun v12 => some (v12, z5R)) else (if x3 = 3 then (rd z5R 14 x4 fun v13 => if v13 = 0 then ((rf_listOf F z5R x4).bind fun v15 => some (v15, z5R)) else (some (((-1) : Int32), z5R))) else (if x3 = 4 then (rd z5R 14 x4 fun v16 => if v16 = 0 then ((rf_ahead F z5R x4).bind fun v18 => some (v18, z5R)) else (some (((-1) : Int32), z5R))) else (if x3 = 5 then (rd z5R 16 x4 fun v19 => rd z5R 20 v19 fun v20 => some (v20, z5R)) else (if x3 = 6 then (rd z5R 16 x4 fun v21 => rd z5R 21 v21 fun v22 => some (v22, z5R)) else (rd z5R 16 x4 fun v7 => rd z5R 23 v7 fun v8 => if v8 = 0 then (some ((0 : Int32), z5R)) else (some ((1 : Int32), z5R))))))))))
def rf_segment (F : Nat) (R : Rst) (x1 : Int32) (x2 : Int32) (x3 : Int32) : Option (Int32 × Rst) := (rf_isArena F R x1).bind fun z1 => st2 z1 fun z1v z1R => if z1v = 0 then (some ((0 : Int32), z1R)) else ((rf_position F z1R x1 ((-2147483648) : Int64)).bind fun v3 => if x2 < 0 then (rf_segment_54 F z1R x3 (v3 + x2) (0 : Int32)) else ((rf_of F z1R x1 (9 : Int32) (0 : Int32)).bind fun v30 => if v30 ≤ x2 then (rf_segment_54 F z1R x3 (v3 + x2) (0 : Int32)) else (if x3 < 0 then (rf_segment_54 F z1R x3 (v3 + x2) (0 : Int32)) else (if (7 : Int32) < x3 then (rf_segment_54 F z1R x3 (v3 + x2) (0 : Int32)) else (rf_segment_54 F z1R x3 (v3 + x2) (1 : Int32))))))
set_option maxHeartbeats 4000000 in
set_option maxRecDepth 100000 in
theorem rm_segment (l : Launch) (F : Nat) (D : va_G) (cI cZ : ClassId) (o : Nat) (q : Nat → Nat) (R : Rst) (x1 : Int32) (x2 : Int32) (x3 : Int32) (r : Int32) (R' : Rst) (hf : rf_segment F R x1 x2 x3 = some (r, R'))   : rMet l yX7_segment wq_X7_segment { frames := 2, cells := 0, slots := 0, locals := 46 } D cI cZ o q [.ref o, .int x1, .int x2, .int x3] R (some (.int r)) R' := by
  refine rMet_of (cc := cX7_segment) (maxL := 5) (ret := (some .int)) (by decide) rfl rfl (kw_h kw_X7) (Nat.le_of_ble_eq_true rfl) ?_
  intro p e s m below meth c X hr hlk ls hl hB hS
  have hx := X.1.1
  have hb := X.1.2.1
  have hown := X.1.2.2.2.1
  have hts := X.1.2.2.2.2
  have hl : lv_has ls 5 [(0, .ref o), (1, .int x1), (2, .int x2), (3, .int x3)] := hl
  generalize hargs : ([.ref o, .int x1, .int x2, .int x3] : List Value).toArray = args at X hts hS ⊢
  have J_54 : ∀ (R : Rst) (x3 : Int32) (x4 : Int32) (y0 : Int32), rf_segment_54 F R x3 x4 y0 = some (r, R') → ∀ (H : Heap) (locs : List Loc) (ls : Array Slot), rB D cI cZ o q R H → va_S (rA o q) s.heap H locs → lv_has ls 5 [(0, .ref o), (3, .int x3), (4, .int x4)] → W p l e { frames := 2, cells := 0, slots := 0, locals := 46 } s m args below meth c H locs 0 0 (MQ below (mq (some (.int r)) (rW D cI cZ o q R') (rA o q)) args s 0 0 (rA o q)) (F0 m 54 ls [.int y0, .ref o]) := by
    intro R x3 x4 y0 hf H locs ls hB hS hl
    unfold rf_segment_54 at hf
    refine lv_iconst (v := 2) hx hb dX7_segment_54 (by decide) ?_
    obtain ⟨⟨z5v, z5R⟩, hqz5, hf⟩ := bn_s hf
    have hf := st2_s hf
    refine r_callV (As := [.int y0, .int 2]) (rest := []) X hB hS (rm_right l F D cI cZ o q _ _ _  _ _ hqz5) (cwV 2 hts (gd_V km_X7_97 ki_X7_right ks_X7_right kin_RX7 kc_X7_right) rfl rfl rfl (by decide +kernel) ⟨by decide, by decide⟩) hl rfl rfl (Nat.le_of_ble_eq_true rfl) dX7_segment_55 ⟨Nat.zero_le _, Nat.zero_le _⟩ rfl (fun H locs hB hS => ?_)
    refine lv_if_ne (tgt := 63) hx hb dX7_segment_58 (by decide) (fun hc6 => ?_) (fun hc6 => ?_)
    · have hf := if_f hf hc6
      refine lv_iload_n hx hb dX7_segment_63 rfl (lv_at hl 1 rfl) ?_
      by_cases hc23 : x3 = 0
      · have hf := if_t hf hc23
        refine lv_tableIn (tgt := 108) hx hb dX7_segment_64 (by rw [hc23]; decide) (by rw [hc23]; decide) (off := 44) (by rw [hc23]; decide) (by decide) ?_
        refine lv_aload_n hx hb dX7_segment_108 rfl (lv_at hl 0 rfl) ?_
        refine r_get X hB 12 37 (by decide) (kw_m kf_X7_37) rfl rfl dX7_segment_109 ?_
        refine lv_iload hx hb dX7_segment_112 (lv_at hl 2 rfl) ?_
        obtain ⟨v10, ev10, hiv10, hf⟩ := rd_s hf
        refine r_ld X hB 12 10 (rat_12 cI cZ o q z5R) hiv10 ev10 dX7_segment_114 ?_
        cases hf
        exact r_iret X hB hS hr hlk dX7_segment_115
      have hf := if_f hf hc23
      by_cases hc24 : x3 = 1
      · have hf := if_t hf hc24
        refine lv_tableIn (tgt := 116) hx hb dX7_segment_64 (by rw [hc24]; decide) (by rw [hc24]; decide) (off := 52) (by rw [hc24]; decide) (by decide) ?_
        refine lv_aload_n hx hb dX7_segment_116 rfl (lv_at hl 0 rfl) ?_
        refine r_get X hB 13 40 (by decide) (kw_m kf_X7_40) rfl rfl dX7_segment_117 ?_
        refine lv_iload hx hb dX7_segment_120 (lv_at hl 2 rfl) ?_
        obtain ⟨v11, ev11, hiv11, hf⟩ := rd_s hf
        refine r_ld X hB 13 11 (rat_13 cI cZ o q z5R) hiv11 ev11 dX7_segment_122 ?_
        cases hf
        exact r_iret X hB hS hr hlk dX7_segment_123
      have hf := if_f hf hc24
      by_cases hc25 : x3 = 2
      · have hf := if_t hf hc25
        refine lv_tableIn (tgt := 124) hx hb dX7_segment_64 (by rw [hc25]; decide) (by rw [hc25]; decide) (off := 60) (by rw [hc25]; decide) (by decide) ?_
        refine lv_aload_n hx hb dX7_segment_124 rfl (lv_at hl 0 rfl) ?_
        refine r_get X hB 14 43 (by decide) (kw_m kf_X7_43) rfl rfl dX7_segment_125 ?_
        refine lv_iload hx hb dX7_segment_128 (lv_at hl 2 rfl) ?_
        obtain ⟨v12, ev12, hiv12, hf⟩ := rd_s hf
        refine r_ld X hB 14 12 (rat_14 cI cZ o q z5R) hiv12 ev12 dX7_segment_130 ?_
        cases hf
        exact r_iret X hB hS hr hlk dX7_segment_131
      have hf := if_f hf hc25
      by_cases hc26 : x3 = 3
      · have hf := if_t hf hc26
        refine lv_tableIn (tgt := 132) hx hb dX7_segment_64 (by rw [hc26]; decide) (by rw [hc26]; decide) (off := 68) (by rw [hc26]; decide) (by decide) ?_
        refine lv_aload_n hx hb dX7_segment_132 rfl (lv_at hl 0 rfl) ?_
        refine r_get X hB 14 43 (by decide) (kw_m kf_X7_43) rfl rfl dX7_segment_133 ?_
        refine lv_iload hx hb dX7_segment_136 (lv_at hl 2 rfl) ?_
        obtain ⟨v13, ev13, hiv13, hf⟩ := rd_s hf
        refine r_ld X hB 14 12 (rat_14 cI cZ o q z5R) hiv13 ev13 dX7_segment_138 ?_
        refine lv_if_ne (tgt := 151) hx hb dX7_segment_139 (by decide) (fun hc14 => ?_) (fun hc14 => ?_)
        · have hf := if_f hf hc14
          refine lv_iconst (v := (-1)) hx hb dX7_segment_151 (by decide) ?_
          cases hf
          exact r_iret X hB hS hr hlk dX7_segment_152
        · have hf := if_t hf hc14
          refine lv_aload_n hx hb dX7_segment_142 rfl (lv_at hl 0 rfl) ?_
          refine lv_iload hx hb dX7_segment_143 (lv_at hl 2 rfl) ?_
          obtain ⟨v15, hqv15, hf⟩ := bn_s hf
          refine r_callV (As := [.int x4]) (rest := []) X hB hS (rm_listOf l F D cI cZ o q _ _  _ hqv15) (cwV 1 hts (gd_V km_X7_145 ki_X7_listOf ks_X7_listOf kin_RX7 kc_X7_listOf) rfl rfl rfl (by decide +kernel) ⟨by decide, by decide⟩) hl rfl rfl (Nat.le_of_ble_eq_true rfl) dX7_segment_145 ⟨Nat.zero_le _, Nat.zero_le _⟩ rfl (fun H locs hB hS => ?_)
          refine lv_goto (tgt := 152) hx hb dX7_segment_148 (by decide) ?_
          cases hf
          exact r_iret X hB hS hr hlk dX7_segment_152
      have hf := if_f hf hc26
      by_cases hc27 : x3 = 4
      · have hf := if_t hf hc27
        refine lv_tableIn (tgt := 153) hx hb dX7_segment_64 (by rw [hc27]; decide) (by rw [hc27]; decide) (off := 89) (by rw [hc27]; decide) (by decide) ?_
        refine lv_aload_n hx hb dX7_segment_153 rfl (lv_at hl 0 rfl) ?_
        refine r_get X hB 14 43 (by decide) (kw_m kf_X7_43) rfl rfl dX7_segment_154 ?_
        refine lv_iload hx hb dX7_segment_157 (lv_at hl 2 rfl) ?_
        obtain ⟨v16, ev16, hiv16, hf⟩ := rd_s hf
        refine r_ld X hB 14 12 (rat_14 cI cZ o q z5R) hiv16 ev16 dX7_segment_159 ?_
        refine lv_if_ne (tgt := 172) hx hb dX7_segment_160 (by decide) (fun hc17 => ?_) (fun hc17 => ?_)
        · have hf := if_f hf hc17
          refine lv_iconst (v := (-1)) hx hb dX7_segment_172 (by decide) ?_
          cases hf
          exact r_iret X hB hS hr hlk dX7_segment_173
        · have hf := if_t hf hc17
          refine lv_aload_n hx hb dX7_segment_163 rfl (lv_at hl 0 rfl) ?_
          refine lv_iload hx hb dX7_segment_164 (lv_at hl 2 rfl) ?_
          obtain ⟨v18, hqv18, hf⟩ := bn_s hf
          refine r_callV (As := [.int x4]) (rest := []) X hB hS (rm_ahead l F D cI cZ o q _ _  _ hqv18) (cwV 1 hts (gd_V km_X7_270 ki_X7_ahead ks_X7_ahead kin_RX7 kc_X7_ahead) rfl rfl rfl (by decide +kernel) ⟨by decide, by decide⟩) hl rfl rfl (Nat.le_of_ble_eq_true rfl) dX7_segment_166 ⟨Nat.zero_le _, Nat.zero_le _⟩ rfl (fun H locs hB hS => ?_)
          refine lv_goto (tgt := 173) hx hb dX7_segment_169 (by decide) ?_
          cases hf
          exact r_iret X hB hS hr hlk dX7_segment_173
      have hf := if_f hf hc27
      by_cases hc28 : x3 = 5
      · have hf := if_t hf hc28
        refine lv_tableIn (tgt := 174) hx hb dX7_segment_64 (by rw [hc28]; decide) (by rw [hc28]; decide) (off := 110) (by rw [hc28]; decide) (by decide) ?_
        refine lv_aload_n hx hb dX7_segment_174 rfl (lv_at hl 0 rfl) ?_
        refine r_get X hB 20 58 (by decide) (kw_m kf_X7_58) rfl rfl dX7_segment_175 ?_
        refine lv_aload_n hx hb dX7_segment_178 rfl (lv_at hl 0 rfl) ?_
        refine r_get X hB 16 49 (by decide) (kw_m kf_X7_49) rfl rfl dX7_segment_179 ?_
        refine lv_iload hx hb dX7_segment_182 (lv_at hl 2 rfl) ?_
        obtain ⟨v19, ev19, hiv19, hf⟩ := rd_s hf
        refine r_ld X hB 16 14 (rat_16 cI cZ o q z5R) hiv19 ev19 dX7_segment_184 ?_
        obtain ⟨v20, ev20, hiv20, hf⟩ := rd_s hf
        refine r_ld X hB 20 17 (rat_20 cI cZ o q z5R) hiv20 ev20 dX7_segment_185 ?_
        cases hf
        exact r_iret X hB hS hr hlk dX7_segment_186
      have hf := if_f hf hc28
      by_cases hc29 : x3 = 6
      · have hf := if_t hf hc29
        refine lv_tableIn (tgt := 187) hx hb dX7_segment_64 (by rw [hc29]; decide) (by rw [hc29]; decide) (off := 123) (by rw [hc29]; decide) (by decide) ?_
        refine lv_aload_n hx hb dX7_segment_187 rfl (lv_at hl 0 rfl) ?_
        refine r_get X hB 21 61 (by decide) (kw_m kf_X7_61) rfl rfl dX7_segment_188 ?_
        refine lv_aload_n hx hb dX7_segment_191 rfl (lv_at hl 0 rfl) ?_
        refine r_get X hB 16 49 (by decide) (kw_m kf_X7_49) rfl rfl dX7_segment_192 ?_
        refine lv_iload hx hb dX7_segment_195 (lv_at hl 2 rfl) ?_
        obtain ⟨v21, ev21, hiv21, hf⟩ := rd_s hf
        refine r_ld X hB 16 14 (rat_16 cI cZ o q z5R) hiv21 ev21 dX7_segment_197 ?_
        obtain ⟨v22, ev22, hiv22, hf⟩ := rd_s hf
        refine r_ld X hB 21 18 (rat_21 cI cZ o q z5R) hiv22 ev22 dX7_segment_198 ?_
        cases hf
        exact r_iret X hB hS hr hlk dX7_segment_199
      have hf := if_f hf hc29
      refine lv_tableOut (tgt := 200) hx hb dX7_segment_64 (by have zhc23 := lv_neT hc23 (a := 0) (by decide); have zhc24 := lv_neT hc24 (a := 1) (by decide); have zhc25 := lv_neT hc25 (a := 2) (by decide); have zhc26 := lv_neT hc26 (a := 3) (by decide); have zhc27 := lv_neT hc27 (a := 4) (by decide); have zhc28 := lv_neT hc28 (a := 5) (by decide); have zhc29 := lv_neT hc29 (a := 6) (by decide); omega) (by decide) ?_
      refine lv_aload_n hx hb dX7_segment_200 rfl (lv_at hl 0 rfl) ?_
      refine r_get X hB 23 68 (by decide) (kw_m kf_X7_68) rfl rfl dX7_segment_201 ?_
      refine lv_aload_n hx hb dX7_segment_204 rfl (lv_at hl 0 rfl) ?_
      refine r_get X hB 16 49 (by decide) (kw_m kf_X7_49) rfl rfl dX7_segment_205 ?_
      refine lv_iload hx hb dX7_segment_208 (lv_at hl 2 rfl) ?_
      obtain ⟨v7, ev7, hiv7, hf⟩ := rd_s hf
      refine r_ld X hB 16 14 (rat_16 cI cZ o q z5R) hiv7 ev7 dX7_segment_210 ?_
      obtain ⟨v8, ev8, hiv8, hf⟩ := rd_s hf
      refine r_ldz X hB 23 20 (rat_23 cI cZ o q z5R) hiv8 ev8 dX7_segment_211 ?_
      refine lv_if_eq (tgt := 219) hx hb dX7_segment_212 (by decide) (fun hc9 => ?_) (fun hc9 => ?_)
      · have hf := if_t hf hc9
        refine lv_iconst (v := 0) hx hb dX7_segment_219 (by decide) ?_
        cases hf
        exact r_iret X hB hS hr hlk dX7_segment_220
      · have hf := if_f hf hc9
        refine lv_iconst (v := 1) hx hb dX7_segment_215 (by decide) ?_
        refine lv_goto (tgt := 220) hx hb dX7_segment_216 (by decide) ?_
        cases hf
        exact r_iret X hB hS hr hlk dX7_segment_220
    · have hf := if_t hf hc6
      refine lv_iconst (v := 0) hx hb dX7_segment_61 (by decide) ?_
      cases hf
      exact r_iret X hB hS hr hlk dX7_segment_62
  unfold rf_segment at hf
  refine lv_aload_n hx hb dX7_segment_0 rfl (lv_at hl 0 rfl) ?_
  refine lv_iload_n hx hb dX7_segment_1 rfl (lv_at hl 1 rfl) ?_
  obtain ⟨⟨z1v, z1R⟩, hqz1, hf⟩ := bn_s hf
  have hf := st2_s hf
  refine r_callV (As := [.int x1]) (rest := []) X hB hS (rm_isArena l F D cI cZ o q _ _  _ _ hqz1) (cwV 1 hts (gd_V km_X7_132 ki_X7_isArena ks_X7_isArena kin_RX7 kc_X7_isArena) rfl rfl rfl (by decide +kernel) ⟨by decide, by decide⟩) hl rfl rfl (Nat.le_of_ble_eq_true rfl) dX7_segment_2 ⟨Nat.zero_le _, Nat.zero_le _⟩ rfl (fun H locs hB hS => ?_)
  refine lv_if_ne (tgt := 10) hx hb dX7_segment_5 (by decide) (fun hc2 => ?_) (fun hc2 => ?_)
  · have hf := if_f hf hc2
    refine lv_aload_n hx hb dX7_segment_10 rfl (lv_at hl 0 rfl) ?_
    refine lv_iload_n hx hb dX7_segment_11 rfl (lv_at hl 1 rfl) ?_
    refine lv_ldc2 (v := (-2147483648)) hx hb hown (hts (.constantLong RX7 268 (-2147483648)) (kw_m kkl_X7_268)) dX7_segment_12 ?_
    obtain ⟨v3, hqv3, hf⟩ := bn_s hf
    refine r_callV (As := [.int x1, .long (-2147483648)]) (rest := []) X hB hS (rm_position l F D cI cZ o q _ _ _  _ hqv3) (cwV 2 hts (gd_V km_X7_113 ki_X7_position ks_X7_position kin_RX7 kc_X7_position) rfl rfl rfl (by decide +kernel) ⟨by decide, by decide⟩) hl rfl rfl (Nat.le_of_ble_eq_true rfl) dX7_segment_15 ⟨Nat.zero_le _, Nat.zero_le _⟩ rfl (fun H locs hB hS => ?_)
    refine lv_iload_n hx hb dX7_segment_18 rfl (lv_at hl 2 rfl) ?_
    refine lv_iadd hx hb dX7_segment_19 ?_
    refine lv_istore (lv' := [(4, .int (v3 + x2)), (0, .ref o), (1, .int x1), (2, .int x2), (3, .int x3)]) hx hb dX7_segment_20 hl (by decide) rfl (fun ls hl => ?_)
    refine lv_aload_n hx hb dX7_segment_22 rfl (lv_at hl 1 rfl) ?_
    refine lv_iload_n hx hb dX7_segment_23 rfl (lv_at hl 3 rfl) ?_
    refine lv_if_lt (tgt := 53) hx hb dX7_segment_24 (by decide) (fun hc4 => ?_) (fun hc4 => ?_)
    · have hf := if_t hf hc4
      refine lv_iconst (v := 0) hx hb dX7_segment_53 (by decide) ?_
      exact J_54 z1R x3 (v3 + x2) (0 : Int32) hf _ _ _ hB hS (lv_sub hl [1, 4, 0] rfl)
    · have hf := if_f hf hc4
      refine lv_iload_n hx hb dX7_segment_27 rfl (lv_at hl 3 rfl) ?_
      refine lv_aload_n hx hb dX7_segment_28 rfl (lv_at hl 1 rfl) ?_
      refine lv_iload_n hx hb dX7_segment_29 rfl (lv_at hl 2 rfl) ?_
      refine lv_bipush (v := 9) hx hb dX7_segment_30 (by decide) ?_
      refine lv_iconst (v := 0) hx hb dX7_segment_32 (by decide) ?_
      obtain ⟨v30, hqv30, hf⟩ := bn_s hf
      refine r_callV (As := [.int x1, .int 9, .int 0]) (rest := [.int x2, .ref o]) X hB hS (rm_of l F D cI cZ o q _ _ _ _  _ hqv30) (cwV 3 hts (gd_V km_X7_259 ki_X7_of ks_X7_of kin_RX7 kc_X7_of) rfl rfl rfl (by decide +kernel) ⟨by decide, by decide⟩) hl rfl rfl (Nat.le_of_ble_eq_true rfl) dX7_segment_33 ⟨Nat.zero_le _, Nat.zero_le _⟩ rfl (fun H locs hB hS => ?_)
      refine lv_icmp_ge (tgt := 53) hx hb dX7_segment_36 (by decide) (fun hc31 => ?_) (fun hc31 => ?_)
      · have hf := if_t hf hc31
        refine lv_iconst (v := 0) hx hb dX7_segment_53 (by decide) ?_
        exact J_54 z1R x3 (v3 + x2) (0 : Int32) hf _ _ _ hB hS (lv_sub hl [1, 4, 0] rfl)
      · have hf := if_f hf hc31
        refine lv_iload_n hx hb dX7_segment_39 rfl (lv_at hl 4 rfl) ?_
        refine lv_if_lt (tgt := 53) hx hb dX7_segment_40 (by decide) (fun hc32 => ?_) (fun hc32 => ?_)
        · have hf := if_t hf hc32
          refine lv_iconst (v := 0) hx hb dX7_segment_53 (by decide) ?_
          exact J_54 z1R x3 (v3 + x2) (0 : Int32) hf _ _ _ hB hS (lv_sub hl [1, 4, 0] rfl)
        · have hf := if_f hf hc32
          refine lv_iload_n hx hb dX7_segment_43 rfl (lv_at hl 4 rfl) ?_
          refine lv_bipush (v := 7) hx hb dX7_segment_44 (by decide) ?_
          refine lv_icmp_gt (tgt := 53) hx hb dX7_segment_46 (by decide) (fun hc33 => ?_) (fun hc33 => ?_)
          · have hf := if_t hf hc33
            refine lv_iconst (v := 0) hx hb dX7_segment_53 (by decide) ?_
            exact J_54 z1R x3 (v3 + x2) (0 : Int32) hf _ _ _ hB hS (lv_sub hl [1, 4, 0] rfl)
          · have hf := if_f hf hc33
            refine lv_iconst (v := 1) hx hb dX7_segment_49 (by decide) ?_
            refine lv_goto (tgt := 54) hx hb dX7_segment_50 (by decide) ?_
            exact J_54 z1R x3 (v3 + x2) (1 : Int32) hf _ _ _ hB hS (lv_sub hl [1, 4, 0] rfl)
  · have hf := if_t hf hc2
    refine lv_iconst (v := 0) hx hb dX7_segment_8 (by decide) ?_
    cases hf
    exact r_iret X hB hS hr hlk dX7_segment_9
/-! X7_counted -/
def rf_counted_41 (F : Nat) (k_12 : Int32 → Int32 → Int32 → Int32 → Int32 → Int32 → Int32 → Option Int32) (R : Rst) : Nat → Int32 → Int32 → Int32 → Int32 → Int32 → Int32 → Int32 → Int32 → Option Int32
  | 0 => fun _ _ _ _ _ _ _ _ => none
  | n + 1 => fun x1 x2 x3 x4 x5 x6 x7 x8 => (rf_objectsOf F R x1 x2).bind fun v6 => if v6 ≤ x8 then (k_12 x1 x2 x3 x4 x5 x6 (x7 + 1)) else (rd R 12 x7 fun v8 => rd R 2 x1 fun v9 => (rf_isHeld F R x1 (v8 + ((x8 * x2) * v9))).bind fun v10 => if v10 = 0 then ((rf_isIn F R x1 x2 (v8 + ((x8 * x2) * v9))).bind fun v12 => if v12 = 0 then ((rf_counted_41 F k_12 R n) x1 x2 x3 x4 x5 x6 x7 (x8 + 1)) else ((rf_counted_41 F k_12 R n) x1 x2 x3 x4 (x5 + 1) x6 x7 (x8 + 1))) else ((rf_counted_41 F k_12 R n) x1 x2 x3 (x4 + 1) x5 x6 x7 (x8 + 1)))
def rf_counted_12 (F : Nat) (R : Rst) : Nat → Int32 → Int32 → Int32 → Int32 → Int32 → Int32 → Int32 → Option Int32
  | 0 => fun _ _ _ _ _ _ _ => none
  | n + 1 => fun x1 x2 x3 x4 x5 x6 x7 => if (R.1 10) ≤ x7 then (if x3 = 0 then (some x4) else (if x3 = (6 : Int32) then (some x5) else (some x6))) else ((rf_isSlab F R x7 x1 x2).bind fun v4 => if v4 = 0 then ((rf_counted_12 F R n) x1 x2 x3 x4 x5 x6 (x7 + 1)) else (rf_counted_41 F (rf_counted_12 F R n) R F x1 x2 x3 x4 x5 (x6 + 1) x7 (0 : Int32)))
def rf_counted (F : Nat) (R : Rst) (x1 : Int32) (x2 : Int32) (x3 : Int32) : Option Int32 := rf_counted_12 F R F x1 x2 x3 (0 : Int32) (0 : Int32) (0 : Int32) (0 : Int32)
set_option maxHeartbeats 4000000 in
set_option maxRecDepth 100000 in
theorem rm_counted (l : Launch) (F : Nat) (D : va_G) (cI cZ : ClassId) (o : Nat) (q : Nat → Nat) (R : Rst) (x1 : Int32) (x2 : Int32) (x3 : Int32) (r : Int32) (hf : rf_counted F R x1 x2 x3 = some r)   : rMet l yX7_counted wq_X7_counted { frames := 2, cells := 0, slots := 0, locals := 48 } D cI cZ o q [.ref o, .int x1, .int x2, .int x3] R (some (.int r)) R := by
  refine rMet_of (cc := cX7_counted) (maxL := 10) (ret := (some .int)) (by decide) rfl rfl (kw_h kw_X7) (Nat.le_of_ble_eq_true rfl) ?_
  intro p e s m below meth c X hr hlk ls hl hB hS
  have hx := X.1.1
  have hb := X.1.2.1
  have hown := X.1.2.2.2.1
  have hts := X.1.2.2.2.2
  have hl : lv_has ls 10 [(0, .ref o), (1, .int x1), (2, .int x2), (3, .int x3)] := hl
  generalize hargs : ([.ref o, .int x1, .int x2, .int x3] : List Value).toArray = args at X hts hS ⊢
  have J_12 : ∀ (n_12 : Nat) (x1 : Int32) (x2 : Int32) (x3 : Int32) (x4 : Int32) (x5 : Int32) (x6 : Int32) (x7 : Int32), rf_counted_12 F R n_12 x1 x2 x3 x4 x5 x6 x7 = some r → ∀ (H : Heap) (locs : List Loc) (ls : Array Slot), rB D cI cZ o q R H → va_S (rA o q) s.heap H locs → lv_has ls 10 [(0, .ref o), (1, .int x1), (2, .int x2), (3, .int x3), (4, .int x4), (5, .int x5), (6, .int x6), (7, .int x7)] → W p l e { frames := 2, cells := 0, slots := 0, locals := 48 } s m args below meth c H locs 0 0 (MQ below (mq (some (.int r)) (rW D cI cZ o q R) (rA o q)) args s 0 0 (rA o q)) (F0 m 12 ls []) := by
    intro n_12
    induction n_12 with
    | zero => intro x1 x2 x3 x4 x5 x6 x7 hf; cases hf
    | succ n_12 ih_12 =>
      intro x1 x2 x3 x4 x5 x6 x7 hf H locs ls hB hS hl
      rw [rf_counted_12] at hf
      have J_41 : ∀ (n_41 : Nat) (x1 : Int32) (x2 : Int32) (x3 : Int32) (x4 : Int32) (x5 : Int32) (x6 : Int32) (x7 : Int32) (x8 : Int32), rf_counted_41 F (rf_counted_12 F R n_12) R n_41 x1 x2 x3 x4 x5 x6 x7 x8 = some r → ∀ (H : Heap) (locs : List Loc) (ls : Array Slot), rB D cI cZ o q R H → va_S (rA o q) s.heap H locs → lv_has ls 10 [(0, .ref o), (1, .int x1), (2, .int x2), (3, .int x3), (4, .int x4), (5, .int x5), (6, .int x6), (7, .int x7), (8, .int x8)] → W p l e { frames := 2, cells := 0, slots := 0, locals := 48 } s m args below meth c H locs 0 0 (MQ below (mq (some (.int r)) (rW D cI cZ o q R) (rA o q)) args s 0 0 (rA o q)) (F0 m 41 ls []) := by
        intro n_41
        induction n_41 with
        | zero => intro x1 x2 x3 x4 x5 x6 x7 x8 hf; cases hf
        | succ n_41 ih_41 =>
          intro x1 x2 x3 x4 x5 x6 x7 x8 hf H locs ls hB hS hl
          rw [rf_counted_41] at hf
          refine lv_iload hx hb dX7_counted_41 (lv_at hl 8 rfl) ?_
          refine lv_aload_n hx hb dX7_counted_43 rfl (lv_at hl 0 rfl) ?_
          refine lv_iload_n hx hb dX7_counted_44 rfl (lv_at hl 1 rfl) ?_
          refine lv_iload_n hx hb dX7_counted_45 rfl (lv_at hl 2 rfl) ?_
          obtain ⟨v6, hqv6, hf⟩ := bn_s hf
          refine r_callV (As := [.int x1, .int x2]) (rest := [.int x8]) X hB hS (rm_objectsOf l F D cI cZ o q _ _ _  _ hqv6) (cwV 2 hts (gd_V km_X7_200 ki_X7_objectsOf ks_X7_objectsOf kin_RX7 kc_X7_objectsOf) rfl rfl rfl (by decide +kernel) ⟨by decide, by decide⟩) hl rfl rfl (Nat.le_of_ble_eq_true rfl) dX7_counted_46 ⟨Nat.zero_le _, Nat.zero_le _⟩ rfl (fun H locs hB hS => ?_)
          refine lv_icmp_ge (tgt := 109) hx hb dX7_counted_49 (by decide) (fun hc7 => ?_) (fun hc7 => ?_)
          · have hf := if_t hf hc7
            refine lv_iinc (v := x7 + 1) (lv' := [(7, .int (x7 + 1)), (0, .ref o), (1, .int x1), (2, .int x2), (3, .int x3), (4, .int x4), (5, .int x5), (6, .int x6), (8, .int x8)]) hx hb dX7_counted_109 hl (k := 7) rfl rfl (by decide) rfl (fun ls hl => ?_)
            refine lv_goto (tgt := 12) hx hb dX7_counted_112 (by decide) ?_
            exact ih_12 x1 x2 x3 x4 x5 x6 (x7 + 1) hf _ _ _ hB hS (lv_sub hl [1, 2, 3, 4, 5, 6, 7, 0] rfl)
          · have hf := if_f hf hc7
            refine lv_aload_n hx hb dX7_counted_52 rfl (lv_at hl 0 rfl) ?_
            refine r_get X hB 12 37 (by decide) (kw_m kf_X7_37) rfl rfl dX7_counted_53 ?_
            refine lv_iload hx hb dX7_counted_56 (lv_at hl 7 rfl) ?_
            obtain ⟨v8, ev8, hiv8, hf⟩ := rd_s hf
            refine r_ld X hB 12 10 (rat_12 cI cZ o q R) hiv8 ev8 dX7_counted_58 ?_
            refine lv_iload hx hb dX7_counted_59 (lv_at hl 8 rfl) ?_
            refine lv_iload_n hx hb dX7_counted_61 rfl (lv_at hl 2 rfl) ?_
            refine lv_imul hx hb dX7_counted_62 ?_
            refine lv_aload_n hx hb dX7_counted_63 rfl (lv_at hl 0 rfl) ?_
            refine r_get X hB 2 7 (by decide) (kw_m kf_X7_7) rfl rfl dX7_counted_64 ?_
            refine lv_iload_n hx hb dX7_counted_67 rfl (lv_at hl 1 rfl) ?_
            obtain ⟨v9, ev9, hiv9, hf⟩ := rd_s hf
            refine r_ld X hB 2 1 (rat_2 cI cZ o q R) hiv9 ev9 dX7_counted_68 ?_
            refine lv_imul hx hb dX7_counted_69 ?_
            refine lv_iadd hx hb dX7_counted_70 ?_
            refine lv_istore (lv' := [(9, .int (v8 + ((x8 * x2) * v9))), (0, .ref o), (1, .int x1), (2, .int x2), (3, .int x3), (4, .int x4), (5, .int x5), (6, .int x6), (7, .int x7), (8, .int x8)]) hx hb dX7_counted_71 hl (by decide) rfl (fun ls hl => ?_)
            refine lv_aload_n hx hb dX7_counted_73 rfl (lv_at hl 1 rfl) ?_
            refine lv_iload_n hx hb dX7_counted_74 rfl (lv_at hl 2 rfl) ?_
            refine lv_iload hx hb dX7_counted_75 (lv_at hl 0 rfl) ?_
            obtain ⟨v10, hqv10, hf⟩ := bn_s hf
            refine r_callV (As := [.int x1, .int (v8 + ((x8 * x2) * v9))]) (rest := []) X hB hS (rm_isHeld l F D cI cZ o q _ _ _  _ hqv10) (cwV 2 hts (gd_V km_X7_186 ki_X7_isHeld ks_X7_isHeld kin_RX7 kc_X7_isHeld) rfl rfl rfl (by decide +kernel) ⟨by decide, by decide⟩) hl rfl rfl (Nat.le_of_ble_eq_true rfl) dX7_counted_77 ⟨Nat.zero_le _, Nat.zero_le _⟩ rfl (fun H locs hB hS => ?_)
            refine lv_if_eq (tgt := 89) hx hb dX7_counted_80 (by decide) (fun hc11 => ?_) (fun hc11 => ?_)
            · have hf := if_t hf hc11
              refine lv_aload_n hx hb dX7_counted_89 rfl (lv_at hl 1 rfl) ?_
              refine lv_iload_n hx hb dX7_counted_90 rfl (lv_at hl 2 rfl) ?_
              refine lv_iload_n hx hb dX7_counted_91 rfl (lv_at hl 3 rfl) ?_
              refine lv_iload hx hb dX7_counted_92 (lv_at hl 0 rfl) ?_
              obtain ⟨v12, hqv12, hf⟩ := bn_s hf
              refine r_callV (As := [.int x1, .int x2, .int (v8 + ((x8 * x2) * v9))]) (rest := []) X hB hS (rm_isIn l F D cI cZ o q _ _ _ _  _ hqv12) (cwV 3 hts (gd_V km_X7_203 ki_X7_isIn ks_X7_isIn kin_RX7 kc_X7_isIn) rfl rfl rfl (by decide +kernel) ⟨by decide, by decide⟩) hl rfl rfl (Nat.le_of_ble_eq_true rfl) dX7_counted_94 ⟨Nat.zero_le _, Nat.zero_le _⟩ rfl (fun H locs hB hS => ?_)
              refine lv_if_eq (tgt := 103) hx hb dX7_counted_97 (by decide) (fun hc13 => ?_) (fun hc13 => ?_)
              · have hf := if_t hf hc13
                refine lv_iinc (v := x8 + 1) (lv' := [(8, .int (x8 + 1)), (9, .int (v8 + ((x8 * x2) * v9))), (0, .ref o), (1, .int x1), (2, .int x2), (3, .int x3), (4, .int x4), (5, .int x5), (6, .int x6), (7, .int x7)]) hx hb dX7_counted_103 hl (k := 9) rfl rfl (by decide) rfl (fun ls hl => ?_)
                refine lv_goto (tgt := 41) hx hb dX7_counted_106 (by decide) ?_
                exact ih_41 x1 x2 x3 x4 x5 x6 x7 (x8 + 1) hf _ _ _ hB hS (lv_sub hl [2, 3, 4, 5, 6, 7, 8, 9, 0] rfl)
              · have hf := if_f hf hc13
                refine lv_iinc (v := x5 + 1) (lv' := [(5, .int (x5 + 1)), (9, .int (v8 + ((x8 * x2) * v9))), (0, .ref o), (1, .int x1), (2, .int x2), (3, .int x3), (4, .int x4), (6, .int x6), (7, .int x7), (8, .int x8)]) hx hb dX7_counted_100 hl (k := 6) rfl rfl (by decide) rfl (fun ls hl => ?_)
                refine lv_iinc (v := x8 + 1) (lv' := [(8, .int (x8 + 1)), (5, .int (x5 + 1)), (9, .int (v8 + ((x8 * x2) * v9))), (0, .ref o), (1, .int x1), (2, .int x2), (3, .int x3), (4, .int x4), (6, .int x6), (7, .int x7)]) hx hb dX7_counted_103 hl (k := 9) rfl rfl (by decide) rfl (fun ls hl => ?_)
                refine lv_goto (tgt := 41) hx hb dX7_counted_106 (by decide) ?_
                exact ih_41 x1 x2 x3 x4 (x5 + 1) x6 x7 (x8 + 1) hf _ _ _ hB hS (lv_sub hl [3, 4, 5, 6, 7, 1, 8, 9, 0] rfl)
            · have hf := if_f hf hc11
              refine lv_iinc (v := x4 + 1) (lv' := [(4, .int (x4 + 1)), (9, .int (v8 + ((x8 * x2) * v9))), (0, .ref o), (1, .int x1), (2, .int x2), (3, .int x3), (5, .int x5), (6, .int x6), (7, .int x7), (8, .int x8)]) hx hb dX7_counted_83 hl (k := 5) rfl rfl (by decide) rfl (fun ls hl => ?_)
              refine lv_goto (tgt := 103) hx hb dX7_counted_86 (by decide) ?_
              refine lv_iinc (v := x8 + 1) (lv' := [(8, .int (x8 + 1)), (4, .int (x4 + 1)), (9, .int (v8 + ((x8 * x2) * v9))), (0, .ref o), (1, .int x1), (2, .int x2), (3, .int x3), (5, .int x5), (6, .int x6), (7, .int x7)]) hx hb dX7_counted_103 hl (k := 9) rfl rfl (by decide) rfl (fun ls hl => ?_)
              refine lv_goto (tgt := 41) hx hb dX7_counted_106 (by decide) ?_
              exact ih_41 x1 x2 x3 (x4 + 1) x5 x6 x7 (x8 + 1) hf _ _ _ hB hS (lv_sub hl [3, 4, 5, 6, 1, 7, 8, 9, 0] rfl)
      refine lv_iload hx hb dX7_counted_12 (lv_at hl 7 rfl) ?_
      refine lv_aload_n hx hb dX7_counted_14 rfl (lv_at hl 0 rfl) ?_
      refine r_get X hB 10 107 (by decide) (kw_m kf_X7_107) rfl rfl dX7_counted_15 ?_
      refine lv_icmp_ge (tgt := 115) hx hb dX7_counted_18 (by decide) (fun hc1 => ?_) (fun hc1 => ?_)
      · have hf := if_t hf hc1
        refine lv_iload_n hx hb dX7_counted_115 rfl (lv_at hl 3 rfl) ?_
        refine lv_if_ne (tgt := 124) hx hb dX7_counted_116 (by decide) (fun hc2 => ?_) (fun hc2 => ?_)
        · have hf := if_f hf hc2
          refine lv_iload_n hx hb dX7_counted_124 rfl (lv_at hl 3 rfl) ?_
          refine lv_bipush (v := 6) hx hb dX7_counted_125 (by decide) ?_
          refine lv_icmp_ne (tgt := 135) hx hb dX7_counted_127 (by decide) (fun hc3 => ?_) (fun hc3 => ?_)
          · have hf := if_f hf hc3
            refine lv_iload hx hb dX7_counted_135 (lv_at hl 6 rfl) ?_
            cases hf
            exact r_iret X hB hS hr hlk dX7_counted_137
          · have hf := if_t hf hc3
            refine lv_iload hx hb dX7_counted_130 (lv_at hl 5 rfl) ?_
            refine lv_goto (tgt := 137) hx hb dX7_counted_132 (by decide) ?_
            cases hf
            exact r_iret X hB hS hr hlk dX7_counted_137
        · have hf := if_t hf hc2
          refine lv_iload hx hb dX7_counted_119 (lv_at hl 4 rfl) ?_
          refine lv_goto (tgt := 137) hx hb dX7_counted_121 (by decide) ?_
          cases hf
          exact r_iret X hB hS hr hlk dX7_counted_137
      · have hf := if_f hf hc1
        refine lv_aload_n hx hb dX7_counted_21 rfl (lv_at hl 0 rfl) ?_
        refine lv_iload hx hb dX7_counted_22 (lv_at hl 7 rfl) ?_
        refine lv_iload_n hx hb dX7_counted_24 rfl (lv_at hl 1 rfl) ?_
        refine lv_iload_n hx hb dX7_counted_25 rfl (lv_at hl 2 rfl) ?_
        obtain ⟨v4, hqv4, hf⟩ := bn_s hf
        refine r_callV (As := [.int x7, .int x1, .int x2]) (rest := []) X hB hS (rm_isSlab l F D cI cZ o q _ _ _ _  _ hqv4) (cwV 3 hts (gd_V km_X7_196 ki_X7_isSlab ks_X7_isSlab kin_RX7 kc_X7_isSlab) rfl rfl rfl (by decide +kernel) ⟨by decide, by decide⟩) hl rfl rfl (Nat.le_of_ble_eq_true rfl) dX7_counted_26 ⟨Nat.zero_le _, Nat.zero_le _⟩ rfl (fun H locs hB hS => ?_)
        refine lv_if_ne (tgt := 35) hx hb dX7_counted_29 (by decide) (fun hc5 => ?_) (fun hc5 => ?_)
        · have hf := if_f hf hc5
          refine lv_iinc (v := x6 + 1) (lv' := [(6, .int (x6 + 1)), (0, .ref o), (1, .int x1), (2, .int x2), (3, .int x3), (4, .int x4), (5, .int x5), (7, .int x7)]) hx hb dX7_counted_35 hl (k := 6) rfl rfl (by decide) rfl (fun ls hl => ?_)
          refine lv_iconst (v := 0) hx hb dX7_counted_38 (by decide) ?_
          refine lv_istore (lv' := [(8, .int 0), (6, .int (x6 + 1)), (0, .ref o), (1, .int x1), (2, .int x2), (3, .int x3), (4, .int x4), (5, .int x5), (7, .int x7)]) hx hb dX7_counted_39 hl (by decide) rfl (fun ls hl => ?_)
          exact J_41 F x1 x2 x3 x4 x5 (x6 + 1) x7 (0 : Int32) hf _ _ _ hB hS (lv_sub hl [2, 3, 4, 5, 6, 7, 1, 8, 0] rfl)
        · have hf := if_t hf hc5
          refine lv_goto (tgt := 109) hx hb dX7_counted_32 (by decide) ?_
          refine lv_iinc (v := x7 + 1) (lv' := [(7, .int (x7 + 1)), (0, .ref o), (1, .int x1), (2, .int x2), (3, .int x3), (4, .int x4), (5, .int x5), (6, .int x6)]) hx hb dX7_counted_109 hl (k := 7) rfl rfl (by decide) rfl (fun ls hl => ?_)
          refine lv_goto (tgt := 12) hx hb dX7_counted_112 (by decide) ?_
          exact ih_12 x1 x2 x3 x4 x5 x6 (x7 + 1) hf _ _ _ hB hS (lv_sub hl [1, 2, 3, 4, 5, 6, 7, 0] rfl)
  unfold rf_counted at hf
  refine lv_iconst (v := 0) hx hb dX7_counted_0 (by decide) ?_
  refine lv_istore (lv' := [(4, .int 0), (0, .ref o), (1, .int x1), (2, .int x2), (3, .int x3)]) hx hb dX7_counted_1 hl (by decide) rfl (fun ls hl => ?_)
  refine lv_iconst (v := 0) hx hb dX7_counted_3 (by decide) ?_
  refine lv_istore (lv' := [(5, .int 0), (4, .int 0), (0, .ref o), (1, .int x1), (2, .int x2), (3, .int x3)]) hx hb dX7_counted_4 hl (by decide) rfl (fun ls hl => ?_)
  refine lv_iconst (v := 0) hx hb dX7_counted_6 (by decide) ?_
  refine lv_istore (lv' := [(6, .int 0), (5, .int 0), (4, .int 0), (0, .ref o), (1, .int x1), (2, .int x2), (3, .int x3)]) hx hb dX7_counted_7 hl (by decide) rfl (fun ls hl => ?_)
  refine lv_iconst (v := 0) hx hb dX7_counted_9 (by decide) ?_
  refine lv_istore (lv' := [(7, .int 0), (6, .int 0), (5, .int 0), (4, .int 0), (0, .ref o), (1, .int x1), (2, .int x2), (3, .int x3)]) hx hb dX7_counted_10 hl (by decide) rfl (fun ls hl => ?_)
  exact J_12 F x1 x2 x3 (0 : Int32) (0 : Int32) (0 : Int32) (0 : Int32) hf _ _ _ hB hS (lv_sub hl [4, 5, 6, 7, 3, 2, 1, 0] rfl)
/-! X7_cache -/
def rf_cache_155 (F : Nat) (R : Rst) (y0 : Int32) : Option (Int32 × Rst) := rd R 28 y0 fun v8 => if v8 ≤ 0 then (some (((-1) : Int32), R)) else (rd R 28 y0 fun v10 => rd R 29 (((3 * y0) + v10) - 1) fun v11 => some (v11, R))
def rf_cache_41 (F : Nat) (R : Rst) (x1 : Int32) (x2 : Int32) (x3 : Int32) (y0 : Int32) : Option (Int32 × Rst) := (rf_right F R y0 (2 : Int32)).bind fun z4 => st2 z4 fun z4v z4R => if z4v = 0 then (some ((0 : Int32), z4R)) else ((rf_magazine F z4R x1 x2 (0 : Int32) (0 : Int32)).bind fun v6 => if x3 = 0 then ((rf_counted F z4R x1 x2 x3).bind fun v12 => some (v12, z4R)) else (if x3 = 1 then (rd z4R 28 ((v6 + x3) - 1) fun v13 => some (v13, z4R)) else (if x3 = 2 then (rd z4R 28 ((v6 + x3) - 1) fun v14 => some (v14, z4R)) else (if x3 = 3 then (rd z4R 28 ((v6 + x3) - 1) fun v15 => some (v15, z4R)) else (if x3 = 4 then (rd z4R 28 ((v6 + x3) - 1) fun v16 => some (v16, z4R)) else (if x3 = 5 then (rd z4R 30 ((9 * x1) + x2) fun v17 => some (v17, z4R)) else (if x3 = 6 then ((rf_counted F z4R x1 x2 x3).bind fun v18 => some (v18, z4R)) else (if x3 = 7 then ((rf_counted F z4R x1 x2 x3).bind fun v19 => some (v19, z4R)) else (if x3 = (8 : Int32) then (rf_cache_155 F z4R v6) else (rf_cache_155 F z4R (v6 + 2)))))))))))
def rf_cache (F : Nat) (R : Rst) (x1 : Int32) (x2 : Int32) (x3 : Int32) : Option (Int32 × Rst) := (rf_isArena F R x1).bind fun z1 => st2 z1 fun z1v z1R => if z1v = 0 then (some ((0 : Int32), z1R)) else (if x2 < (1 : Int32) then (rf_cache_41 F z1R x1 x2 x3 (0 : Int32)) else (rd z1R 4 x1 fun v28 => if v28 < x2 then (rf_cache_41 F z1R x1 x2 x3 (0 : Int32)) else (if x3 < 0 then (rf_cache_41 F z1R x1 x2 x3 (0 : Int32)) else (if (9 : Int32) < x3 then (rf_cache_41 F z1R x1 x2 x3 (0 : Int32)) else (rf_cache_41 F z1R x1 x2 x3 (1 : Int32))))))
set_option maxHeartbeats 4000000 in
set_option maxRecDepth 100000 in
theorem rm_cache (l : Launch) (F : Nat) (D : va_G) (cI cZ : ClassId) (o : Nat) (q : Nat → Nat) (R : Rst) (x1 : Int32) (x2 : Int32) (x3 : Int32) (r : Int32) (R' : Rst) (hf : rf_cache F R x1 x2 x3 = some (r, R'))   : rMet l yX7_cache wq_X7_cache { frames := 3, cells := 0, slots := 0, locals := 77 } D cI cZ o q [.ref o, .int x1, .int x2, .int x3] R (some (.int r)) R' := by
  refine rMet_of (cc := cX7_cache) (maxL := 6) (ret := (some .int)) (by decide) rfl rfl (kw_h kw_X7) (Nat.le_of_ble_eq_true rfl) ?_
  intro p e s m below meth c X hr hlk ls hl hB hS
  have hx := X.1.1
  have hb := X.1.2.1
  have hown := X.1.2.2.2.1
  have hts := X.1.2.2.2.2
  have hl : lv_has ls 6 [(0, .ref o), (1, .int x1), (2, .int x2), (3, .int x3)] := hl
  generalize hargs : ([.ref o, .int x1, .int x2, .int x3] : List Value).toArray = args at X hts hS ⊢
  have J_155 : ∀ (R : Rst) (y0 : Int32), rf_cache_155 F R y0 = some (r, R') → ∀ (H : Heap) (locs : List Loc) (ls : Array Slot), rB D cI cZ o q R H → va_S (rA o q) s.heap H locs → lv_has ls 6 [(0, .ref o)] → W p l e { frames := 3, cells := 0, slots := 0, locals := 77 } s m args below meth c H locs 0 0 (MQ below (mq (some (.int r)) (rW D cI cZ o q R') (rA o q)) args s 0 0 (rA o q)) (F0 m 155 ls [.int y0]) := by
    intro R y0 hf H locs ls hB hS hl
    unfold rf_cache_155 at hf
    refine lv_istore (lv' := [(5, .int y0), (0, .ref o)]) hx hb dX7_cache_155 hl (by decide) rfl (fun ls hl => ?_)
    refine lv_aload_n hx hb dX7_cache_157 rfl (lv_at hl 1 rfl) ?_
    refine r_get X hB 28 78 (by decide) (kw_m kf_X7_78) rfl rfl dX7_cache_158 ?_
    refine lv_iload hx hb dX7_cache_161 (lv_at hl 0 rfl) ?_
    obtain ⟨v8, ev8, hiv8, hf⟩ := rd_s hf
    refine r_ld X hB 28 23 (rat_28 cI cZ o q R) hiv8 ev8 dX7_cache_163 ?_
    refine lv_if_le (tgt := 189) hx hb dX7_cache_164 (by decide) (fun hc9 => ?_) (fun hc9 => ?_)
    · have hf := if_t hf hc9
      refine lv_iconst (v := (-1)) hx hb dX7_cache_189 (by decide) ?_
      cases hf
      exact r_iret X hB hS hr hlk dX7_cache_190
    · have hf := if_f hf hc9
      refine lv_aload_n hx hb dX7_cache_167 rfl (lv_at hl 1 rfl) ?_
      refine r_get X hB 29 81 (by decide) (kw_m kf_X7_81) rfl rfl dX7_cache_168 ?_
      refine lv_iconst (v := 3) hx hb dX7_cache_171 (by decide) ?_
      refine lv_iload hx hb dX7_cache_172 (lv_at hl 0 rfl) ?_
      refine lv_imul hx hb dX7_cache_174 ?_
      refine lv_aload_n hx hb dX7_cache_175 rfl (lv_at hl 1 rfl) ?_
      refine r_get X hB 28 78 (by decide) (kw_m kf_X7_78) rfl rfl dX7_cache_176 ?_
      refine lv_iload hx hb dX7_cache_179 (lv_at hl 0 rfl) ?_
      obtain ⟨v10, ev10, hiv10, hf⟩ := rd_s hf
      refine r_ld X hB 28 23 (rat_28 cI cZ o q R) hiv10 ev10 dX7_cache_181 ?_
      refine lv_iadd hx hb dX7_cache_182 ?_
      refine lv_iconst (v := 1) hx hb dX7_cache_183 (by decide) ?_
      refine lv_isub hx hb dX7_cache_184 ?_
      obtain ⟨v11, ev11, hiv11, hf⟩ := rd_s hf
      refine r_ld X hB 29 24 (rat_29 cI cZ o q R) hiv11 ev11 dX7_cache_185 ?_
      refine lv_goto (tgt := 190) hx hb dX7_cache_186 (by decide) ?_
      cases hf
      exact r_iret X hB hS hr hlk dX7_cache_190
  have J_41 : ∀ (R : Rst) (x1 : Int32) (x2 : Int32) (x3 : Int32) (y0 : Int32), rf_cache_41 F R x1 x2 x3 y0 = some (r, R') → ∀ (H : Heap) (locs : List Loc) (ls : Array Slot), rB D cI cZ o q R H → va_S (rA o q) s.heap H locs → lv_has ls 6 [(0, .ref o), (1, .int x1), (2, .int x2), (3, .int x3)] → W p l e { frames := 3, cells := 0, slots := 0, locals := 77 } s m args below meth c H locs 0 0 (MQ below (mq (some (.int r)) (rW D cI cZ o q R') (rA o q)) args s 0 0 (rA o q)) (F0 m 41 ls [.int y0, .ref o]) := by
    intro R x1 x2 x3 y0 hf H locs ls hB hS hl
    unfold rf_cache_41 at hf
    refine lv_iconst (v := 2) hx hb dX7_cache_41 (by decide) ?_
    obtain ⟨⟨z4v, z4R⟩, hqz4, hf⟩ := bn_s hf
    have hf := st2_s hf
    refine r_callV (As := [.int y0, .int 2]) (rest := []) X hB hS (rm_right l F D cI cZ o q _ _ _  _ _ hqz4) (cwV 2 hts (gd_V km_X7_97 ki_X7_right ks_X7_right kin_RX7 kc_X7_right) rfl rfl rfl (by decide +kernel) ⟨by decide, by decide⟩) hl rfl rfl (Nat.le_of_ble_eq_true rfl) dX7_cache_42 ⟨Nat.zero_le _, Nat.zero_le _⟩ rfl (fun H locs hB hS => ?_)
    refine lv_if_ne (tgt := 50) hx hb dX7_cache_45 (by decide) (fun hc5 => ?_) (fun hc5 => ?_)
    · have hf := if_f hf hc5
      refine lv_iload_n hx hb dX7_cache_50 rfl (lv_at hl 1 rfl) ?_
      refine lv_iload_n hx hb dX7_cache_51 rfl (lv_at hl 2 rfl) ?_
      refine lv_iconst (v := 0) hx hb dX7_cache_52 (by decide) ?_
      refine lv_iconst (v := 0) hx hb dX7_cache_53 (by decide) ?_
      obtain ⟨v6, hqv6, hf⟩ := bn_s hf
      refine r_callS (As := [.int x1, .int x2, .int 0, .int 0]) (rest := []) X hB hS (rm_magazine l F D cI cZ o q _ _ _ _ _  _ hqv6) (va_cwS 4 hts (gd_S km_X7_190 kst_X7_magazine kin_RX7 kc_X7_magazine) rfl rfl rfl (by decide +kernel) ⟨by decide, by decide⟩) hl rfl rfl (Nat.le_of_ble_eq_true rfl) dX7_cache_54 ⟨Nat.zero_le _, Nat.zero_le _⟩ rfl (fun H locs hB hS => ?_)
      refine lv_istore (lv' := [(4, .int v6), (0, .ref o), (1, .int x1), (2, .int x2), (3, .int x3)]) hx hb dX7_cache_57 hl (by decide) rfl (fun ls hl => ?_)
      refine lv_iload_n hx hb dX7_cache_59 rfl (lv_at hl 4 rfl) ?_
      by_cases hc20 : x3 = 0
      · have hf := if_t hf hc20
        refine lv_tableIn (tgt := 108) hx hb dX7_cache_60 (by rw [hc20]; decide) (by rw [hc20]; decide) (off := 48) (by rw [hc20]; decide) (by decide) ?_
        refine lv_aload_n hx hb dX7_cache_108 rfl (lv_at hl 1 rfl) ?_
        refine lv_iload_n hx hb dX7_cache_109 rfl (lv_at hl 2 rfl) ?_
        refine lv_iload_n hx hb dX7_cache_110 rfl (lv_at hl 3 rfl) ?_
        refine lv_iload_n hx hb dX7_cache_111 rfl (lv_at hl 4 rfl) ?_
        obtain ⟨v12, hqv12, hf⟩ := bn_s hf
        refine r_callV (As := [.int x1, .int x2, .int x3]) (rest := []) X hB hS (rm_counted l F D cI cZ o q _ _ _ _  _ hqv12) (cwV 3 hts (gd_V km_X7_273 ki_X7_counted ks_X7_counted kin_RX7 kc_X7_counted) rfl rfl rfl (by decide +kernel) ⟨by decide, by decide⟩) hl rfl rfl (Nat.le_of_ble_eq_true rfl) dX7_cache_112 ⟨Nat.zero_le _, Nat.zero_le _⟩ rfl (fun H locs hB hS => ?_)
        cases hf
        exact r_iret X hB hS hr hlk dX7_cache_115
      have hf := if_f hf hc20
      by_cases hc21 : x3 = 1
      · have hf := if_t hf hc21
        refine lv_tableIn (tgt := 116) hx hb dX7_cache_60 (by rw [hc21]; decide) (by rw [hc21]; decide) (off := 56) (by rw [hc21]; decide) (by decide) ?_
        refine lv_aload_n hx hb dX7_cache_116 rfl (lv_at hl 1 rfl) ?_
        refine r_get X hB 28 78 (by decide) (kw_m kf_X7_78) rfl rfl dX7_cache_117 ?_
        refine lv_iload hx hb dX7_cache_120 (lv_at hl 0 rfl) ?_
        refine lv_iload_n hx hb dX7_cache_122 rfl (lv_at hl 4 rfl) ?_
        refine lv_iadd hx hb dX7_cache_123 ?_
        refine lv_iconst (v := 1) hx hb dX7_cache_124 (by decide) ?_
        refine lv_isub hx hb dX7_cache_125 ?_
        obtain ⟨v13, ev13, hiv13, hf⟩ := rd_s hf
        refine r_ld X hB 28 23 (rat_28 cI cZ o q z4R) hiv13 ev13 dX7_cache_126 ?_
        cases hf
        exact r_iret X hB hS hr hlk dX7_cache_127
      have hf := if_f hf hc21
      by_cases hc22 : x3 = 2
      · have hf := if_t hf hc22
        refine lv_tableIn (tgt := 116) hx hb dX7_cache_60 (by rw [hc22]; decide) (by rw [hc22]; decide) (off := 56) (by rw [hc22]; decide) (by decide) ?_
        refine lv_aload_n hx hb dX7_cache_116 rfl (lv_at hl 1 rfl) ?_
        refine r_get X hB 28 78 (by decide) (kw_m kf_X7_78) rfl rfl dX7_cache_117 ?_
        refine lv_iload hx hb dX7_cache_120 (lv_at hl 0 rfl) ?_
        refine lv_iload_n hx hb dX7_cache_122 rfl (lv_at hl 4 rfl) ?_
        refine lv_iadd hx hb dX7_cache_123 ?_
        refine lv_iconst (v := 1) hx hb dX7_cache_124 (by decide) ?_
        refine lv_isub hx hb dX7_cache_125 ?_
        obtain ⟨v14, ev14, hiv14, hf⟩ := rd_s hf
        refine r_ld X hB 28 23 (rat_28 cI cZ o q z4R) hiv14 ev14 dX7_cache_126 ?_
        cases hf
        exact r_iret X hB hS hr hlk dX7_cache_127
      have hf := if_f hf hc22
      by_cases hc23 : x3 = 3
      · have hf := if_t hf hc23
        refine lv_tableIn (tgt := 116) hx hb dX7_cache_60 (by rw [hc23]; decide) (by rw [hc23]; decide) (off := 56) (by rw [hc23]; decide) (by decide) ?_
        refine lv_aload_n hx hb dX7_cache_116 rfl (lv_at hl 1 rfl) ?_
        refine r_get X hB 28 78 (by decide) (kw_m kf_X7_78) rfl rfl dX7_cache_117 ?_
        refine lv_iload hx hb dX7_cache_120 (lv_at hl 0 rfl) ?_
        refine lv_iload_n hx hb dX7_cache_122 rfl (lv_at hl 4 rfl) ?_
        refine lv_iadd hx hb dX7_cache_123 ?_
        refine lv_iconst (v := 1) hx hb dX7_cache_124 (by decide) ?_
        refine lv_isub hx hb dX7_cache_125 ?_
        obtain ⟨v15, ev15, hiv15, hf⟩ := rd_s hf
        refine r_ld X hB 28 23 (rat_28 cI cZ o q z4R) hiv15 ev15 dX7_cache_126 ?_
        cases hf
        exact r_iret X hB hS hr hlk dX7_cache_127
      have hf := if_f hf hc23
      by_cases hc24 : x3 = 4
      · have hf := if_t hf hc24
        refine lv_tableIn (tgt := 116) hx hb dX7_cache_60 (by rw [hc24]; decide) (by rw [hc24]; decide) (off := 56) (by rw [hc24]; decide) (by decide) ?_
        refine lv_aload_n hx hb dX7_cache_116 rfl (lv_at hl 1 rfl) ?_
        refine r_get X hB 28 78 (by decide) (kw_m kf_X7_78) rfl rfl dX7_cache_117 ?_
        refine lv_iload hx hb dX7_cache_120 (lv_at hl 0 rfl) ?_
        refine lv_iload_n hx hb dX7_cache_122 rfl (lv_at hl 4 rfl) ?_
        refine lv_iadd hx hb dX7_cache_123 ?_
        refine lv_iconst (v := 1) hx hb dX7_cache_124 (by decide) ?_
        refine lv_isub hx hb dX7_cache_125 ?_
        obtain ⟨v16, ev16, hiv16, hf⟩ := rd_s hf
        refine r_ld X hB 28 23 (rat_28 cI cZ o q z4R) hiv16 ev16 dX7_cache_126 ?_
        cases hf
        exact r_iret X hB hS hr hlk dX7_cache_127
      have hf := if_f hf hc24
      by_cases hc25 : x3 = 5
      · have hf := if_t hf hc25
        refine lv_tableIn (tgt := 128) hx hb dX7_cache_60 (by rw [hc25]; decide) (by rw [hc25]; decide) (off := 68) (by rw [hc25]; decide) (by decide) ?_
        refine lv_aload_n hx hb dX7_cache_128 rfl (lv_at hl 1 rfl) ?_
        refine r_get X hB 30 84 (by decide) (kw_m kf_X7_84) rfl rfl dX7_cache_129 ?_
        refine lv_bipush (v := 9) hx hb dX7_cache_132 (by decide) ?_
        refine lv_iload_n hx hb dX7_cache_134 rfl (lv_at hl 2 rfl) ?_
        refine lv_imul hx hb dX7_cache_135 ?_
        refine lv_iload_n hx hb dX7_cache_136 rfl (lv_at hl 3 rfl) ?_
        refine lv_iadd hx hb dX7_cache_137 ?_
        obtain ⟨v17, ev17, hiv17, hf⟩ := rd_s hf
        refine r_ld X hB 30 25 (rat_30 cI cZ o q z4R) hiv17 ev17 dX7_cache_138 ?_
        cases hf
        exact r_iret X hB hS hr hlk dX7_cache_139
      have hf := if_f hf hc25
      by_cases hc26 : x3 = 6
      · have hf := if_t hf hc26
        refine lv_tableIn (tgt := 108) hx hb dX7_cache_60 (by rw [hc26]; decide) (by rw [hc26]; decide) (off := 48) (by rw [hc26]; decide) (by decide) ?_
        refine lv_aload_n hx hb dX7_cache_108 rfl (lv_at hl 1 rfl) ?_
        refine lv_iload_n hx hb dX7_cache_109 rfl (lv_at hl 2 rfl) ?_
        refine lv_iload_n hx hb dX7_cache_110 rfl (lv_at hl 3 rfl) ?_
        refine lv_iload_n hx hb dX7_cache_111 rfl (lv_at hl 4 rfl) ?_
        obtain ⟨v18, hqv18, hf⟩ := bn_s hf
        refine r_callV (As := [.int x1, .int x2, .int x3]) (rest := []) X hB hS (rm_counted l F D cI cZ o q _ _ _ _  _ hqv18) (cwV 3 hts (gd_V km_X7_273 ki_X7_counted ks_X7_counted kin_RX7 kc_X7_counted) rfl rfl rfl (by decide +kernel) ⟨by decide, by decide⟩) hl rfl rfl (Nat.le_of_ble_eq_true rfl) dX7_cache_112 ⟨Nat.zero_le _, Nat.zero_le _⟩ rfl (fun H locs hB hS => ?_)
        cases hf
        exact r_iret X hB hS hr hlk dX7_cache_115
      have hf := if_f hf hc26
      by_cases hc27 : x3 = 7
      · have hf := if_t hf hc27
        refine lv_tableIn (tgt := 108) hx hb dX7_cache_60 (by rw [hc27]; decide) (by rw [hc27]; decide) (off := 48) (by rw [hc27]; decide) (by decide) ?_
        refine lv_aload_n hx hb dX7_cache_108 rfl (lv_at hl 1 rfl) ?_
        refine lv_iload_n hx hb dX7_cache_109 rfl (lv_at hl 2 rfl) ?_
        refine lv_iload_n hx hb dX7_cache_110 rfl (lv_at hl 3 rfl) ?_
        refine lv_iload_n hx hb dX7_cache_111 rfl (lv_at hl 4 rfl) ?_
        obtain ⟨v19, hqv19, hf⟩ := bn_s hf
        refine r_callV (As := [.int x1, .int x2, .int x3]) (rest := []) X hB hS (rm_counted l F D cI cZ o q _ _ _ _  _ hqv19) (cwV 3 hts (gd_V km_X7_273 ki_X7_counted ks_X7_counted kin_RX7 kc_X7_counted) rfl rfl rfl (by decide +kernel) ⟨by decide, by decide⟩) hl rfl rfl (Nat.le_of_ble_eq_true rfl) dX7_cache_112 ⟨Nat.zero_le _, Nat.zero_le _⟩ rfl (fun H locs hB hS => ?_)
        cases hf
        exact r_iret X hB hS hr hlk dX7_cache_115
      have hf := if_f hf hc27
      refine lv_tableOut (tgt := 140) hx hb dX7_cache_60 (by have zhc20 := lv_neT hc20 (a := 0) (by decide); have zhc21 := lv_neT hc21 (a := 1) (by decide); have zhc22 := lv_neT hc22 (a := 2) (by decide); have zhc23 := lv_neT hc23 (a := 3) (by decide); have zhc24 := lv_neT hc24 (a := 4) (by decide); have zhc25 := lv_neT hc25 (a := 5) (by decide); have zhc26 := lv_neT hc26 (a := 6) (by decide); have zhc27 := lv_neT hc27 (a := 7) (by decide); omega) (by decide) ?_
      refine lv_iload_n hx hb dX7_cache_140 rfl (lv_at hl 4 rfl) ?_
      refine lv_bipush (v := 8) hx hb dX7_cache_141 (by decide) ?_
      refine lv_icmp_ne (tgt := 151) hx hb dX7_cache_143 (by decide) (fun hc7 => ?_) (fun hc7 => ?_)
      · have hf := if_f hf hc7
        refine lv_iload hx hb dX7_cache_151 (lv_at hl 0 rfl) ?_
        refine lv_iconst (v := 2) hx hb dX7_cache_153 (by decide) ?_
        refine lv_iadd hx hb dX7_cache_154 ?_
        exact J_155 z4R (v6 + 2) hf _ _ _ hB hS (lv_sub hl [1] rfl)
      · have hf := if_t hf hc7
        refine lv_iload hx hb dX7_cache_146 (lv_at hl 0 rfl) ?_
        refine lv_goto (tgt := 155) hx hb dX7_cache_148 (by decide) ?_
        exact J_155 z4R v6 hf _ _ _ hB hS (lv_sub hl [1] rfl)
    · have hf := if_t hf hc5
      refine lv_iconst (v := 0) hx hb dX7_cache_48 (by decide) ?_
      cases hf
      exact r_iret X hB hS hr hlk dX7_cache_49
  unfold rf_cache at hf
  refine lv_aload_n hx hb dX7_cache_0 rfl (lv_at hl 0 rfl) ?_
  refine lv_iload_n hx hb dX7_cache_1 rfl (lv_at hl 1 rfl) ?_
  obtain ⟨⟨z1v, z1R⟩, hqz1, hf⟩ := bn_s hf
  have hf := st2_s hf
  refine r_callV (As := [.int x1]) (rest := []) X hB hS (rm_isArena l F D cI cZ o q _ _  _ _ hqz1) (cwV 1 hts (gd_V km_X7_132 ki_X7_isArena ks_X7_isArena kin_RX7 kc_X7_isArena) rfl rfl rfl (by decide +kernel) ⟨by decide, by decide⟩) hl rfl rfl (Nat.le_of_ble_eq_true rfl) dX7_cache_2 ⟨Nat.zero_le _, Nat.zero_le _⟩ rfl (fun H locs hB hS => ?_)
  refine lv_if_ne (tgt := 10) hx hb dX7_cache_5 (by decide) (fun hc2 => ?_) (fun hc2 => ?_)
  · have hf := if_f hf hc2
    refine lv_aload_n hx hb dX7_cache_10 rfl (lv_at hl 0 rfl) ?_
    refine lv_iload_n hx hb dX7_cache_11 rfl (lv_at hl 2 rfl) ?_
    refine lv_iconst (v := 1) hx hb dX7_cache_12 (by decide) ?_
    refine lv_icmp_lt (tgt := 40) hx hb dX7_cache_13 (by decide) (fun hc3 => ?_) (fun hc3 => ?_)
    · have hf := if_t hf hc3
      refine lv_iconst (v := 0) hx hb dX7_cache_40 (by decide) ?_
      exact J_41 z1R x1 x2 x3 (0 : Int32) hf _ _ _ hB hS (lv_sub hl [0, 1, 2, 3] rfl)
    · have hf := if_f hf hc3
      refine lv_iload_n hx hb dX7_cache_16 rfl (lv_at hl 2 rfl) ?_
      refine lv_aload_n hx hb dX7_cache_17 rfl (lv_at hl 0 rfl) ?_
      refine r_get X hB 4 16 (by decide) (kw_m kf_X7_16) rfl rfl dX7_cache_18 ?_
      refine lv_iload_n hx hb dX7_cache_21 rfl (lv_at hl 1 rfl) ?_
      obtain ⟨v28, ev28, hiv28, hf⟩ := rd_s hf
      refine r_ld X hB 4 3 (rat_4 cI cZ o q z1R) hiv28 ev28 dX7_cache_22 ?_
      refine lv_icmp_gt (tgt := 40) hx hb dX7_cache_23 (by decide) (fun hc29 => ?_) (fun hc29 => ?_)
      · have hf := if_t hf hc29
        refine lv_iconst (v := 0) hx hb dX7_cache_40 (by decide) ?_
        exact J_41 z1R x1 x2 x3 (0 : Int32) hf _ _ _ hB hS (lv_sub hl [0, 1, 2, 3] rfl)
      · have hf := if_f hf hc29
        refine lv_iload_n hx hb dX7_cache_26 rfl (lv_at hl 3 rfl) ?_
        refine lv_if_lt (tgt := 40) hx hb dX7_cache_27 (by decide) (fun hc30 => ?_) (fun hc30 => ?_)
        · have hf := if_t hf hc30
          refine lv_iconst (v := 0) hx hb dX7_cache_40 (by decide) ?_
          exact J_41 z1R x1 x2 x3 (0 : Int32) hf _ _ _ hB hS (lv_sub hl [0, 1, 2, 3] rfl)
        · have hf := if_f hf hc30
          refine lv_iload_n hx hb dX7_cache_30 rfl (lv_at hl 3 rfl) ?_
          refine lv_bipush (v := 9) hx hb dX7_cache_31 (by decide) ?_
          refine lv_icmp_gt (tgt := 40) hx hb dX7_cache_33 (by decide) (fun hc31 => ?_) (fun hc31 => ?_)
          · have hf := if_t hf hc31
            refine lv_iconst (v := 0) hx hb dX7_cache_40 (by decide) ?_
            exact J_41 z1R x1 x2 x3 (0 : Int32) hf _ _ _ hB hS (lv_sub hl [0, 1, 2, 3] rfl)
          · have hf := if_f hf hc31
            refine lv_iconst (v := 1) hx hb dX7_cache_36 (by decide) ?_
            refine lv_goto (tgt := 41) hx hb dX7_cache_37 (by decide) ?_
            exact J_41 z1R x1 x2 x3 (1 : Int32) hf _ _ _ hB hS (lv_sub hl [0, 1, 2, 3] rfl)
  · have hf := if_t hf hc2
    refine lv_iconst (v := 0) hx hb dX7_cache_8 (by decide) ?_
    cases hf
    exact r_iret X hB hS hr hlk dX7_cache_9
/-! X7_where -/
def rf_where_12 (F : Nat) : Nat → Rst → Int32 → Int32 → Int32 → Option (Int32 × Rst)
  | 0 => fun _ _ _ _ => none
  | n + 1 => fun R x1 x2 x3 => if (R.1 10) ≤ x3 then (some (((-1) : Int32), R)) else (rd R 11 x3 fun v4 => if v4 = x1 then (rd R 12 x3 fun v6 => if x2 < v6 then ((rf_where_12 F n) R x1 x2 (x3 + 1)) else (rd R 12 x3 fun v8 => rd R 13 x3 fun v9 => if x2 < (v8 + v9) then (rd R 14 x3 fun v11 => if v11 = (2 : Int32) then (rd R 17 x3 fun v13 => rd R 2 x1 fun v14 => rd R 12 x3 fun v15 => rd R 12 x3 fun v16 => dv (v13 * v14) ((rf_isHeld F R x1 (v15 + (((x2 - v16) / (v13 * v14)) * (v13 * v14)))).bind fun v17 => if v17 = 0 then (some ((2 : Int32), R)) else (some ((1 : Int32), R)))) else (rd R 14 x3 fun v20 => some (v20, R))) else ((rf_where_12 F n) R x1 x2 (x3 + 1)))) else ((rf_where_12 F n) R x1 x2 (x3 + 1)))
def rf_where (F : Nat) (R : Rst) (x1 : Int32) (x2 : Int32) : Option (Int32 × Rst) := (rf_isArena F R x1).bind fun z1 => st2 z1 fun z1v z1R => if z1v = 0 then (some ((0 : Int32), z1R)) else (rf_where_12 F F z1R x1 x2 (0 : Int32))
set_option maxHeartbeats 4000000 in
set_option maxRecDepth 100000 in
theorem rm_where (l : Launch) (F : Nat) (D : va_G) (cI cZ : ClassId) (o : Nat) (q : Nat → Nat) (R : Rst) (x1 : Int32) (x2 : Int32) (r : Int32) (R' : Rst) (hf : rf_where F R x1 x2 = some (r, R'))   : rMet l yX7_where wq_X7_where { frames := 2, cells := 0, slots := 0, locals := 43 } D cI cZ o q [.ref o, .int x1, .int x2] R (some (.int r)) R' := by
  refine rMet_of (cc := cX7_where) (maxL := 6) (ret := (some .int)) (by decide) rfl rfl (kw_h kw_X7) (Nat.le_of_ble_eq_true rfl) ?_
  intro p e s m below meth c X hr hlk ls hl hB hS
  have hx := X.1.1
  have hb := X.1.2.1
  have hown := X.1.2.2.2.1
  have hts := X.1.2.2.2.2
  have hl : lv_has ls 6 [(0, .ref o), (1, .int x1), (2, .int x2)] := hl
  generalize hargs : ([.ref o, .int x1, .int x2] : List Value).toArray = args at X hts hS ⊢
  have J_12 : ∀ (n_12 : Nat) (R : Rst) (x1 : Int32) (x2 : Int32) (x3 : Int32), rf_where_12 F n_12 R x1 x2 x3 = some (r, R') → ∀ (H : Heap) (locs : List Loc) (ls : Array Slot), rB D cI cZ o q R H → va_S (rA o q) s.heap H locs → lv_has ls 6 [(0, .ref o), (1, .int x1), (2, .int x2), (3, .int x3)] → W p l e { frames := 2, cells := 0, slots := 0, locals := 43 } s m args below meth c H locs 0 0 (MQ below (mq (some (.int r)) (rW D cI cZ o q R') (rA o q)) args s 0 0 (rA o q)) (F0 m 12 ls []) := by
    intro n_12
    induction n_12 with
    | zero => intro R x1 x2 x3 hf; cases hf
    | succ n_12 ih_12 =>
      intro R x1 x2 x3 hf H locs ls hB hS hl
      rw [rf_where_12] at hf
      refine lv_iload_n hx hb dX7_where_12 rfl (lv_at hl 3 rfl) ?_
      refine lv_aload_n hx hb dX7_where_13 rfl (lv_at hl 0 rfl) ?_
      refine r_get X hB 10 107 (by decide) (kw_m kf_X7_107) rfl rfl dX7_where_14 ?_
      refine lv_icmp_ge (tgt := 137) hx hb dX7_where_17 (by decide) (fun hc3 => ?_) (fun hc3 => ?_)
      · have hf := if_t hf hc3
        refine lv_iconst (v := (-1)) hx hb dX7_where_137 (by decide) ?_
        cases hf
        exact r_iret X hB hS hr hlk dX7_where_138
      · have hf := if_f hf hc3
        refine lv_aload_n hx hb dX7_where_20 rfl (lv_at hl 0 rfl) ?_
        refine r_get X hB 11 34 (by decide) (kw_m kf_X7_34) rfl rfl dX7_where_21 ?_
        refine lv_iload_n hx hb dX7_where_24 rfl (lv_at hl 3 rfl) ?_
        obtain ⟨v4, ev4, hiv4, hf⟩ := rd_s hf
        refine r_ld X hB 11 9 (rat_11 cI cZ o q R) hiv4 ev4 dX7_where_25 ?_
        refine lv_iload_n hx hb dX7_where_26 rfl (lv_at hl 1 rfl) ?_
        refine lv_icmp_ne (tgt := 131) hx hb dX7_where_27 (by decide) (fun hc5 => ?_) (fun hc5 => ?_)
        · have hf := if_f hf hc5
          refine lv_iinc (v := x3 + 1) (lv' := [(3, .int (x3 + 1)), (0, .ref o), (1, .int x1), (2, .int x2)]) hx hb dX7_where_131 hl (k := 3) rfl rfl (by decide) rfl (fun ls hl => ?_)
          refine lv_goto (tgt := 12) hx hb dX7_where_134 (by decide) ?_
          exact ih_12 R x1 x2 (x3 + 1) hf _ _ _ hB hS (lv_sub hl [1, 2, 3, 0] rfl)
        · have hf := if_t hf hc5
          refine lv_iload_n hx hb dX7_where_30 rfl (lv_at hl 2 rfl) ?_
          refine lv_aload_n hx hb dX7_where_31 rfl (lv_at hl 0 rfl) ?_
          refine r_get X hB 12 37 (by decide) (kw_m kf_X7_37) rfl rfl dX7_where_32 ?_
          refine lv_iload_n hx hb dX7_where_35 rfl (lv_at hl 3 rfl) ?_
          obtain ⟨v6, ev6, hiv6, hf⟩ := rd_s hf
          refine r_ld X hB 12 10 (rat_12 cI cZ o q R) hiv6 ev6 dX7_where_36 ?_
          refine lv_icmp_lt (tgt := 131) hx hb dX7_where_37 (by decide) (fun hc7 => ?_) (fun hc7 => ?_)
          · have hf := if_t hf hc7
            refine lv_iinc (v := x3 + 1) (lv' := [(3, .int (x3 + 1)), (0, .ref o), (1, .int x1), (2, .int x2)]) hx hb dX7_where_131 hl (k := 3) rfl rfl (by decide) rfl (fun ls hl => ?_)
            refine lv_goto (tgt := 12) hx hb dX7_where_134 (by decide) ?_
            exact ih_12 R x1 x2 (x3 + 1) hf _ _ _ hB hS (lv_sub hl [1, 2, 3, 0] rfl)
          · have hf := if_f hf hc7
            refine lv_iload_n hx hb dX7_where_40 rfl (lv_at hl 2 rfl) ?_
            refine lv_aload_n hx hb dX7_where_41 rfl (lv_at hl 0 rfl) ?_
            refine r_get X hB 12 37 (by decide) (kw_m kf_X7_37) rfl rfl dX7_where_42 ?_
            refine lv_iload_n hx hb dX7_where_45 rfl (lv_at hl 3 rfl) ?_
            obtain ⟨v8, ev8, hiv8, hf⟩ := rd_s hf
            refine r_ld X hB 12 10 (rat_12 cI cZ o q R) hiv8 ev8 dX7_where_46 ?_
            refine lv_aload_n hx hb dX7_where_47 rfl (lv_at hl 0 rfl) ?_
            refine r_get X hB 13 40 (by decide) (kw_m kf_X7_40) rfl rfl dX7_where_48 ?_
            refine lv_iload_n hx hb dX7_where_51 rfl (lv_at hl 3 rfl) ?_
            obtain ⟨v9, ev9, hiv9, hf⟩ := rd_s hf
            refine r_ld X hB 13 11 (rat_13 cI cZ o q R) hiv9 ev9 dX7_where_52 ?_
            refine lv_iadd hx hb dX7_where_53 ?_
            refine lv_icmp_lt (tgt := 60) hx hb dX7_where_54 (by decide) (fun hc10 => ?_) (fun hc10 => ?_)
            · have hf := if_t hf hc10
              refine lv_aload_n hx hb dX7_where_60 rfl (lv_at hl 0 rfl) ?_
              refine r_get X hB 14 43 (by decide) (kw_m kf_X7_43) rfl rfl dX7_where_61 ?_
              refine lv_iload_n hx hb dX7_where_64 rfl (lv_at hl 3 rfl) ?_
              obtain ⟨v11, ev11, hiv11, hf⟩ := rd_s hf
              refine r_ld X hB 14 12 (rat_14 cI cZ o q R) hiv11 ev11 dX7_where_65 ?_
              refine lv_iconst (v := 2) hx hb dX7_where_66 (by decide) ?_
              refine lv_icmp_eq (tgt := 77) hx hb dX7_where_67 (by decide) (fun hc12 => ?_) (fun hc12 => ?_)
              · have hf := if_t hf hc12
                refine lv_aload_n hx hb dX7_where_77 rfl (lv_at hl 0 rfl) ?_
                refine r_get X hB 17 52 (by decide) (kw_m kf_X7_52) rfl rfl dX7_where_78 ?_
                refine lv_iload_n hx hb dX7_where_81 rfl (lv_at hl 3 rfl) ?_
                obtain ⟨v13, ev13, hiv13, hf⟩ := rd_s hf
                refine r_ld X hB 17 15 (rat_17 cI cZ o q R) hiv13 ev13 dX7_where_82 ?_
                refine lv_aload_n hx hb dX7_where_83 rfl (lv_at hl 0 rfl) ?_
                refine r_get X hB 2 7 (by decide) (kw_m kf_X7_7) rfl rfl dX7_where_84 ?_
                refine lv_iload_n hx hb dX7_where_87 rfl (lv_at hl 1 rfl) ?_
                obtain ⟨v14, ev14, hiv14, hf⟩ := rd_s hf
                refine r_ld X hB 2 1 (rat_2 cI cZ o q R) hiv14 ev14 dX7_where_88 ?_
                refine lv_imul hx hb dX7_where_89 ?_
                refine lv_istore (lv' := [(4, .int (v13 * v14)), (0, .ref o), (1, .int x1), (2, .int x2), (3, .int x3)]) hx hb dX7_where_90 hl (by decide) rfl (fun ls hl => ?_)
                refine lv_aload_n hx hb dX7_where_92 rfl (lv_at hl 1 rfl) ?_
                refine r_get X hB 12 37 (by decide) (kw_m kf_X7_37) rfl rfl dX7_where_93 ?_
                refine lv_iload_n hx hb dX7_where_96 rfl (lv_at hl 4 rfl) ?_
                obtain ⟨v15, ev15, hiv15, hf⟩ := rd_s hf
                refine r_ld X hB 12 10 (rat_12 cI cZ o q R) hiv15 ev15 dX7_where_97 ?_
                refine lv_iload_n hx hb dX7_where_98 rfl (lv_at hl 3 rfl) ?_
                refine lv_aload_n hx hb dX7_where_99 rfl (lv_at hl 1 rfl) ?_
                refine r_get X hB 12 37 (by decide) (kw_m kf_X7_37) rfl rfl dX7_where_100 ?_
                refine lv_iload_n hx hb dX7_where_103 rfl (lv_at hl 4 rfl) ?_
                obtain ⟨v16, ev16, hiv16, hf⟩ := rd_s hf
                refine r_ld X hB 12 10 (rat_12 cI cZ o q R) hiv16 ev16 dX7_where_104 ?_
                refine lv_isub hx hb dX7_where_105 ?_
                refine lv_iload hx hb dX7_where_106 (lv_at hl 0 rfl) ?_
                obtain ⟨hd19, hf⟩ := dv_s hf
                refine lv_idiv hx hb dX7_where_108 hd19 ?_
                refine lv_iload hx hb dX7_where_109 (lv_at hl 0 rfl) ?_
                refine lv_imul hx hb dX7_where_111 ?_
                refine lv_iadd hx hb dX7_where_112 ?_
                refine lv_istore (lv' := [(5, .int (v15 + (((x2 - v16) / (v13 * v14)) * (v13 * v14)))), (4, .int (v13 * v14)), (0, .ref o), (1, .int x1), (2, .int x2), (3, .int x3)]) hx hb dX7_where_113 hl (by decide) rfl (fun ls hl => ?_)
                refine lv_aload_n hx hb dX7_where_115 rfl (lv_at hl 2 rfl) ?_
                refine lv_iload_n hx hb dX7_where_116 rfl (lv_at hl 3 rfl) ?_
                refine lv_iload hx hb dX7_where_117 (lv_at hl 0 rfl) ?_
                obtain ⟨v17, hqv17, hf⟩ := bn_s hf
                refine r_callV (As := [.int x1, .int (v15 + (((x2 - v16) / (v13 * v14)) * (v13 * v14)))]) (rest := []) X hB hS (rm_isHeld l F D cI cZ o q _ _ _  _ hqv17) (cwV 2 hts (gd_V km_X7_186 ki_X7_isHeld ks_X7_isHeld kin_RX7 kc_X7_isHeld) rfl rfl rfl (by decide +kernel) ⟨by decide, by decide⟩) hl rfl rfl (Nat.le_of_ble_eq_true rfl) dX7_where_119 ⟨Nat.zero_le _, Nat.zero_le _⟩ rfl (fun H locs hB hS => ?_)
                refine lv_if_eq (tgt := 129) hx hb dX7_where_122 (by decide) (fun hc18 => ?_) (fun hc18 => ?_)
                · have hf := if_t hf hc18
                  refine lv_iconst (v := 2) hx hb dX7_where_129 (by decide) ?_
                  cases hf
                  exact r_iret X hB hS hr hlk dX7_where_130
                · have hf := if_f hf hc18
                  refine lv_iconst (v := 1) hx hb dX7_where_125 (by decide) ?_
                  refine lv_goto (tgt := 130) hx hb dX7_where_126 (by decide) ?_
                  cases hf
                  exact r_iret X hB hS hr hlk dX7_where_130
              · have hf := if_f hf hc12
                refine lv_aload_n hx hb dX7_where_70 rfl (lv_at hl 0 rfl) ?_
                refine r_get X hB 14 43 (by decide) (kw_m kf_X7_43) rfl rfl dX7_where_71 ?_
                refine lv_iload_n hx hb dX7_where_74 rfl (lv_at hl 3 rfl) ?_
                obtain ⟨v20, ev20, hiv20, hf⟩ := rd_s hf
                refine r_ld X hB 14 12 (rat_14 cI cZ o q R) hiv20 ev20 dX7_where_75 ?_
                cases hf
                exact r_iret X hB hS hr hlk dX7_where_76
            · have hf := if_f hf hc10
              refine lv_goto (tgt := 131) hx hb dX7_where_57 (by decide) ?_
              refine lv_iinc (v := x3 + 1) (lv' := [(3, .int (x3 + 1)), (0, .ref o), (1, .int x1), (2, .int x2)]) hx hb dX7_where_131 hl (k := 3) rfl rfl (by decide) rfl (fun ls hl => ?_)
              refine lv_goto (tgt := 12) hx hb dX7_where_134 (by decide) ?_
              exact ih_12 R x1 x2 (x3 + 1) hf _ _ _ hB hS (lv_sub hl [1, 2, 3, 0] rfl)
  unfold rf_where at hf
  refine lv_aload_n hx hb dX7_where_0 rfl (lv_at hl 0 rfl) ?_
  refine lv_iload_n hx hb dX7_where_1 rfl (lv_at hl 1 rfl) ?_
  obtain ⟨⟨z1v, z1R⟩, hqz1, hf⟩ := bn_s hf
  have hf := st2_s hf
  refine r_callV (As := [.int x1]) (rest := []) X hB hS (rm_isArena l F D cI cZ o q _ _  _ _ hqz1) (cwV 1 hts (gd_V km_X7_132 ki_X7_isArena ks_X7_isArena kin_RX7 kc_X7_isArena) rfl rfl rfl (by decide +kernel) ⟨by decide, by decide⟩) hl rfl rfl (Nat.le_of_ble_eq_true rfl) dX7_where_2 ⟨Nat.zero_le _, Nat.zero_le _⟩ rfl (fun H locs hB hS => ?_)
  refine lv_if_ne (tgt := 10) hx hb dX7_where_5 (by decide) (fun hc2 => ?_) (fun hc2 => ?_)
  · have hf := if_f hf hc2
    refine lv_iconst (v := 0) hx hb dX7_where_10 (by decide) ?_
    refine lv_istore_n (lv' := [(3, .int 0), (0, .ref o), (1, .int x1), (2, .int x2)]) hx hb dX7_where_11 rfl hl (by decide) rfl (fun ls hl => ?_)
    exact J_12 F z1R x1 x2 (0 : Int32) hf _ _ _ hB hS (lv_sub hl [1, 2, 3, 0] rfl)
  · have hf := if_t hf hc2
    refine lv_iconst (v := 0) hx hb dX7_where_8 (by decide) ?_
    cases hf
    exact r_iret X hB hS hr hlk dX7_where_9
