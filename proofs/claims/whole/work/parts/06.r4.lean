/-! X7_isIn -/
def rf_isIn_88 (F : Nat) (R : Rst) : Nat → Int32 → Int32 → Int32 → Option Int32
  | 0 => fun _ _ _ => none
  | n + 1 => fun x3 x4 x5 => rd R 30 x4 fun v6 => if (3 * v6) ≤ x5 then (some (1 : Int32)) else (rd R 31 ((12 * x4) + x5) fun v8 => if v8 = x3 then (some (0 : Int32)) else ((rf_isIn_88 F R n) x3 x4 (x5 + 1)))
def rf_isIn_35 (F : Nat) (k_20 : Int32 → Int32 → Int32 → Int32 → Option Int32) (R : Rst) : Nat → Int32 → Int32 → Int32 → Int32 → Int32 → Option Int32
  | 0 => fun _ _ _ _ _ => none
  | n + 1 => fun x1 x2 x3 x4 x5 => rd R 28 x4 fun v10 => if v10 ≤ x5 then (k_20 x1 x2 x3 (x4 + 1)) else (rd R 29 ((3 * x4) + x5) fun v12 => if v12 = x3 then (some (0 : Int32)) else ((rf_isIn_35 F k_20 R n) x1 x2 x3 x4 (x5 + 1)))
def rf_isIn_20 (F : Nat) (R : Rst) : Nat → Int32 → Int32 → Int32 → Int32 → Option Int32
  | 0 => fun _ _ _ _ => none
  | n + 1 => fun x1 x2 x3 x4 => (rf_magazine F R x1 x2 (1 : Int32) (1 : Int32)).bind fun v4 => if v4 < x4 then (rf_isIn_88 F R F x3 ((9 * x1) + x2) (0 : Int32)) else (rf_isIn_35 F (rf_isIn_20 F R n) R F x1 x2 x3 x4 (0 : Int32))
def rf_isIn (F : Nat) (R : Rst) (x1 : Int32) (x2 : Int32) (x3 : Int32) : Option Int32 := (rf_isHeld F R x1 x3).bind fun v1 => if v1 = 0 then ((rf_magazine F R x1 x2 (0 : Int32) (0 : Int32)).bind fun v3 => rf_isIn_20 F R F x1 x2 x3 v3) else (some (0 : Int32))
set_option maxHeartbeats 4000000 in
set_option maxRecDepth 100000 in
theorem rm_isIn (l : Launch) (F : Nat) (D : va_G) (cI cZ : ClassId) (o : Nat) (q : Nat → Nat) (R : Rst) (x1 : Int32) (x2 : Int32) (x3 : Int32) (r : Int32) (hf : rf_isIn F R x1 x2 x3 = some r)   : rMet l yX7_isIn wq_X7_isIn { frames := 1, cells := 0, slots := 0, locals := 23 } D cI cZ o q [.ref o, .int x1, .int x2, .int x3] R (some (.int r)) R := by
  refine rMet_of (cc := cX7_isIn) (maxL := 6) (ret := (some .boolean)) (by decide) rfl rfl (kw_h kw_X7) (Nat.le_of_ble_eq_true rfl) ?_
  intro p e s m below meth c X hr hlk ls hl hB hS
  have hx := X.1.1
  have hb := X.1.2.1
  have hown := X.1.2.2.2.1
  have hts := X.1.2.2.2.2
  have hl : lv_has ls 6 [(0, .ref o), (1, .int x1), (2, .int x2), (3, .int x3)] := hl
  generalize hargs : ([.ref o, .int x1, .int x2, .int x3] : List Value).toArray = args at X hts hS ⊢
  have J_88 : ∀ (n_88 : Nat) (x3 : Int32) (x4 : Int32) (x5 : Int32), rf_isIn_88 F R n_88 x3 x4 x5 = some r → ∀ (H : Heap) (locs : List Loc) (ls : Array Slot), rB D cI cZ o q R H → va_S (rA o q) s.heap H locs → lv_has ls 6 [(0, .ref o), (3, .int x3), (4, .int x4), (5, .int x5)] → W p l e { frames := 1, cells := 0, slots := 0, locals := 23 } s m args below meth c H locs 0 0 (MQ below (mq (some (.int r)) (rW D cI cZ o q R) (rA o q)) args s 0 0 (rA o q)) (F0 m 88 ls []) := by
    intro n_88
    induction n_88 with
    | zero => intro x3 x4 x5 hf; cases hf
    | succ n_88 ih_88 =>
      intro x3 x4 x5 hf H locs ls hB hS hl
      rw [rf_isIn_88] at hf
      refine lv_iload hx hb dX7_isIn_88 (lv_at hl 3 rfl) ?_
      refine lv_iconst (v := 3) hx hb dX7_isIn_90 (by decide) ?_
      refine lv_aload_n hx hb dX7_isIn_91 rfl (lv_at hl 0 rfl) ?_
      refine r_get X hB 30 84 (by decide) (kw_m kf_X7_84) rfl rfl dX7_isIn_92 ?_
      refine lv_iload hx hb dX7_isIn_95 (lv_at hl 2 rfl) ?_
      obtain ⟨v6, ev6, hiv6, hf⟩ := rd_s hf
      refine r_ld X hB 30 25 (rat_30 cI cZ o q R) hiv6 ev6 dX7_isIn_97 ?_
      refine lv_imul hx hb dX7_isIn_98 ?_
      refine lv_icmp_ge (tgt := 127) hx hb dX7_isIn_99 (by decide) (fun hc7 => ?_) (fun hc7 => ?_)
      · have hf := if_t hf hc7
        refine lv_iconst (v := 1) hx hb dX7_isIn_127 (by decide) ?_
        cases hf
        exact r_zret X hB hS hr hlk rfl dX7_isIn_128
      · have hf := if_f hf hc7
        refine lv_aload_n hx hb dX7_isIn_102 rfl (lv_at hl 0 rfl) ?_
        refine r_get X hB 31 87 (by decide) (kw_m kf_X7_87) rfl rfl dX7_isIn_103 ?_
        refine lv_bipush (v := 12) hx hb dX7_isIn_106 (by decide) ?_
        refine lv_iload hx hb dX7_isIn_108 (lv_at hl 2 rfl) ?_
        refine lv_imul hx hb dX7_isIn_110 ?_
        refine lv_iload hx hb dX7_isIn_111 (lv_at hl 3 rfl) ?_
        refine lv_iadd hx hb dX7_isIn_113 ?_
        obtain ⟨v8, ev8, hiv8, hf⟩ := rd_s hf
        refine r_ld X hB 31 26 (rat_31 cI cZ o q R) hiv8 ev8 dX7_isIn_114 ?_
        refine lv_iload_n hx hb dX7_isIn_115 rfl (lv_at hl 1 rfl) ?_
        refine lv_icmp_ne (tgt := 121) hx hb dX7_isIn_116 (by decide) (fun hc9 => ?_) (fun hc9 => ?_)
        · have hf := if_f hf hc9
          refine lv_iinc (v := x5 + 1) (lv' := [(5, .int (x5 + 1)), (0, .ref o), (3, .int x3), (4, .int x4)]) hx hb dX7_isIn_121 hl (k := 3) rfl rfl (by decide) rfl (fun ls hl => ?_)
          refine lv_goto (tgt := 88) hx hb dX7_isIn_124 (by decide) ?_
          exact ih_88 x3 x4 (x5 + 1) hf _ _ _ hB hS (lv_sub hl [1, 2, 3, 0] rfl)
        · have hf := if_t hf hc9
          refine lv_iconst (v := 0) hx hb dX7_isIn_119 (by decide) ?_
          cases hf
          exact r_zret X hB hS hr hlk rfl dX7_isIn_120
  have J_20 : ∀ (n_20 : Nat) (x1 : Int32) (x2 : Int32) (x3 : Int32) (x4 : Int32), rf_isIn_20 F R n_20 x1 x2 x3 x4 = some r → ∀ (H : Heap) (locs : List Loc) (ls : Array Slot), rB D cI cZ o q R H → va_S (rA o q) s.heap H locs → lv_has ls 6 [(0, .ref o), (1, .int x1), (2, .int x2), (3, .int x3), (4, .int x4)] → W p l e { frames := 1, cells := 0, slots := 0, locals := 23 } s m args below meth c H locs 0 0 (MQ below (mq (some (.int r)) (rW D cI cZ o q R) (rA o q)) args s 0 0 (rA o q)) (F0 m 20 ls []) := by
    intro n_20
    induction n_20 with
    | zero => intro x1 x2 x3 x4 hf; cases hf
    | succ n_20 ih_20 =>
      intro x1 x2 x3 x4 hf H locs ls hB hS hl
      rw [rf_isIn_20] at hf
      have J_35 : ∀ (n_35 : Nat) (x1 : Int32) (x2 : Int32) (x3 : Int32) (x4 : Int32) (x5 : Int32), rf_isIn_35 F (rf_isIn_20 F R n_20) R n_35 x1 x2 x3 x4 x5 = some r → ∀ (H : Heap) (locs : List Loc) (ls : Array Slot), rB D cI cZ o q R H → va_S (rA o q) s.heap H locs → lv_has ls 6 [(0, .ref o), (1, .int x1), (2, .int x2), (3, .int x3), (4, .int x4), (5, .int x5)] → W p l e { frames := 1, cells := 0, slots := 0, locals := 23 } s m args below meth c H locs 0 0 (MQ below (mq (some (.int r)) (rW D cI cZ o q R) (rA o q)) args s 0 0 (rA o q)) (F0 m 35 ls []) := by
        intro n_35
        induction n_35 with
        | zero => intro x1 x2 x3 x4 x5 hf; cases hf
        | succ n_35 ih_35 =>
          intro x1 x2 x3 x4 x5 hf H locs ls hB hS hl
          rw [rf_isIn_35] at hf
          refine lv_iload hx hb dX7_isIn_35 (lv_at hl 5 rfl) ?_
          refine lv_aload_n hx hb dX7_isIn_37 rfl (lv_at hl 0 rfl) ?_
          refine r_get X hB 28 78 (by decide) (kw_m kf_X7_78) rfl rfl dX7_isIn_38 ?_
          refine lv_iload hx hb dX7_isIn_41 (lv_at hl 4 rfl) ?_
          obtain ⟨v10, ev10, hiv10, hf⟩ := rd_s hf
          refine r_ld X hB 28 23 (rat_28 cI cZ o q R) hiv10 ev10 dX7_isIn_43 ?_
          refine lv_icmp_ge (tgt := 71) hx hb dX7_isIn_44 (by decide) (fun hc11 => ?_) (fun hc11 => ?_)
          · have hf := if_t hf hc11
            refine lv_iinc (v := x4 + 1) (lv' := [(4, .int (x4 + 1)), (0, .ref o), (1, .int x1), (2, .int x2), (3, .int x3), (5, .int x5)]) hx hb dX7_isIn_71 hl (k := 4) rfl rfl (by decide) rfl (fun ls hl => ?_)
            refine lv_goto (tgt := 20) hx hb dX7_isIn_74 (by decide) ?_
            exact ih_20 x1 x2 x3 (x4 + 1) hf _ _ _ hB hS (lv_sub hl [1, 2, 3, 4, 0] rfl)
          · have hf := if_f hf hc11
            refine lv_aload_n hx hb dX7_isIn_47 rfl (lv_at hl 0 rfl) ?_
            refine r_get X hB 29 81 (by decide) (kw_m kf_X7_81) rfl rfl dX7_isIn_48 ?_
            refine lv_iconst (v := 3) hx hb dX7_isIn_51 (by decide) ?_
            refine lv_iload hx hb dX7_isIn_52 (lv_at hl 4 rfl) ?_
            refine lv_imul hx hb dX7_isIn_54 ?_
            refine lv_iload hx hb dX7_isIn_55 (lv_at hl 5 rfl) ?_
            refine lv_iadd hx hb dX7_isIn_57 ?_
            obtain ⟨v12, ev12, hiv12, hf⟩ := rd_s hf
            refine r_ld X hB 29 24 (rat_29 cI cZ o q R) hiv12 ev12 dX7_isIn_58 ?_
            refine lv_iload_n hx hb dX7_isIn_59 rfl (lv_at hl 3 rfl) ?_
            refine lv_icmp_ne (tgt := 65) hx hb dX7_isIn_60 (by decide) (fun hc13 => ?_) (fun hc13 => ?_)
            · have hf := if_f hf hc13
              refine lv_iinc (v := x5 + 1) (lv' := [(5, .int (x5 + 1)), (0, .ref o), (1, .int x1), (2, .int x2), (3, .int x3), (4, .int x4)]) hx hb dX7_isIn_65 hl (k := 5) rfl rfl (by decide) rfl (fun ls hl => ?_)
              refine lv_goto (tgt := 35) hx hb dX7_isIn_68 (by decide) ?_
              exact ih_35 x1 x2 x3 x4 (x5 + 1) hf _ _ _ hB hS (lv_sub hl [1, 2, 3, 4, 5, 0] rfl)
            · have hf := if_t hf hc13
              refine lv_iconst (v := 0) hx hb dX7_isIn_63 (by decide) ?_
              cases hf
              exact r_zret X hB hS hr hlk rfl dX7_isIn_64
      refine lv_iload hx hb dX7_isIn_20 (lv_at hl 4 rfl) ?_
      refine lv_iload_n hx hb dX7_isIn_22 rfl (lv_at hl 1 rfl) ?_
      refine lv_iload_n hx hb dX7_isIn_23 rfl (lv_at hl 2 rfl) ?_
      refine lv_iconst (v := 1) hx hb dX7_isIn_24 (by decide) ?_
      refine lv_iconst (v := 1) hx hb dX7_isIn_25 (by decide) ?_
      obtain ⟨v4, hqv4, hf⟩ := bn_s hf
      refine r_callS (As := [.int x1, .int x2, .int 1, .int 1]) (rest := [.int x4]) X hB hS (rm_magazine l F D cI cZ o q _ _ _ _ _  _ hqv4) (va_cwS 4 hts (gd_S km_X7_190 kst_X7_magazine kin_RX7 kc_X7_magazine) rfl rfl rfl (by decide +kernel) ⟨by decide, by decide⟩) hl rfl rfl (Nat.le_of_ble_eq_true rfl) dX7_isIn_26 ⟨Nat.zero_le _, Nat.zero_le _⟩ rfl (fun H locs hB hS => ?_)
      refine lv_icmp_gt (tgt := 77) hx hb dX7_isIn_29 (by decide) (fun hc5 => ?_) (fun hc5 => ?_)
      · have hf := if_t hf hc5
        refine lv_bipush (v := 9) hx hb dX7_isIn_77 (by decide) ?_
        refine lv_iload_n hx hb dX7_isIn_79 rfl (lv_at hl 1 rfl) ?_
        refine lv_imul hx hb dX7_isIn_80 ?_
        refine lv_iload_n hx hb dX7_isIn_81 rfl (lv_at hl 2 rfl) ?_
        refine lv_iadd hx hb dX7_isIn_82 ?_
        refine lv_istore (lv' := [(4, .int ((9 * x1) + x2)), (0, .ref o), (1, .int x1), (2, .int x2), (3, .int x3)]) hx hb dX7_isIn_83 hl (by decide) rfl (fun ls hl => ?_)
        refine lv_iconst (v := 0) hx hb dX7_isIn_85 (by decide) ?_
        refine lv_istore (lv' := [(5, .int 0), (4, .int ((9 * x1) + x2)), (0, .ref o), (1, .int x1), (2, .int x2), (3, .int x3)]) hx hb dX7_isIn_86 hl (by decide) rfl (fun ls hl => ?_)
        exact J_88 F x3 ((9 * x1) + x2) (0 : Int32) hf _ _ _ hB hS (lv_sub hl [2, 5, 1, 0] rfl)
      · have hf := if_f hf hc5
        refine lv_iconst (v := 0) hx hb dX7_isIn_32 (by decide) ?_
        refine lv_istore (lv' := [(5, .int 0), (0, .ref o), (1, .int x1), (2, .int x2), (3, .int x3), (4, .int x4)]) hx hb dX7_isIn_33 hl (by decide) rfl (fun ls hl => ?_)
        exact J_35 F x1 x2 x3 x4 (0 : Int32) hf _ _ _ hB hS (lv_sub hl [1, 2, 3, 4, 5, 0] rfl)
  unfold rf_isIn at hf
  refine lv_aload_n hx hb dX7_isIn_0 rfl (lv_at hl 0 rfl) ?_
  refine lv_iload_n hx hb dX7_isIn_1 rfl (lv_at hl 1 rfl) ?_
  refine lv_iload_n hx hb dX7_isIn_2 rfl (lv_at hl 3 rfl) ?_
  obtain ⟨v1, hqv1, hf⟩ := bn_s hf
  refine r_callV (As := [.int x1, .int x3]) (rest := []) X hB hS (rm_isHeld l F D cI cZ o q _ _ _  _ hqv1) (cwV 2 hts (gd_V km_X7_186 ki_X7_isHeld ks_X7_isHeld kin_RX7 kc_X7_isHeld) rfl rfl rfl (by decide +kernel) ⟨by decide, by decide⟩) hl rfl rfl (Nat.le_of_ble_eq_true rfl) dX7_isIn_3 ⟨Nat.zero_le _, Nat.zero_le _⟩ rfl (fun H locs hB hS => ?_)
  refine lv_if_eq (tgt := 11) hx hb dX7_isIn_6 (by decide) (fun hc2 => ?_) (fun hc2 => ?_)
  · have hf := if_t hf hc2
    refine lv_iload_n hx hb dX7_isIn_11 rfl (lv_at hl 1 rfl) ?_
    refine lv_iload_n hx hb dX7_isIn_12 rfl (lv_at hl 2 rfl) ?_
    refine lv_iconst (v := 0) hx hb dX7_isIn_13 (by decide) ?_
    refine lv_iconst (v := 0) hx hb dX7_isIn_14 (by decide) ?_
    obtain ⟨v3, hqv3, hf⟩ := bn_s hf
    refine r_callS (As := [.int x1, .int x2, .int 0, .int 0]) (rest := []) X hB hS (rm_magazine l F D cI cZ o q _ _ _ _ _  _ hqv3) (va_cwS 4 hts (gd_S km_X7_190 kst_X7_magazine kin_RX7 kc_X7_magazine) rfl rfl rfl (by decide +kernel) ⟨by decide, by decide⟩) hl rfl rfl (Nat.le_of_ble_eq_true rfl) dX7_isIn_15 ⟨Nat.zero_le _, Nat.zero_le _⟩ rfl (fun H locs hB hS => ?_)
    refine lv_istore (lv' := [(4, .int v3), (0, .ref o), (1, .int x1), (2, .int x2), (3, .int x3)]) hx hb dX7_isIn_18 hl (by decide) rfl (fun ls hl => ?_)
    exact J_20 F x1 x2 x3 v3 hf _ _ _ hB hS (lv_sub hl [1, 2, 3, 4, 0] rfl)
  · have hf := if_f hf hc2
    refine lv_iconst (v := 0) hx hb dX7_isIn_9 (by decide) ?_
    cases hf
    exact r_zret X hB hS hr hlk rfl dX7_isIn_10
/-! X7_lowest -/
def rf_lowest_38 (F : Nat) (k_12 : Int32 → Int32 → Int32 → Int32 → Option Int32) (R : Rst) : Nat → Int32 → Int32 → Int32 → Int32 → Int32 → Option Int32
  | 0 => fun _ _ _ _ _ => none
  | n + 1 => fun x1 x2 x3 x4 x5 => (rf_objectsOf F R x1 x2).bind fun v5 => if v5 ≤ x5 then (k_12 x1 x2 x3 (x4 + 1)) else (rd R 12 x4 fun v7 => (rf_isIn F R x1 x2 (v7 + (x5 * x3))).bind fun v8 => if v8 = 0 then ((rf_lowest_38 F k_12 R n) x1 x2 x3 x4 (x5 + 1)) else (rd R 12 x4 fun v10 => some (v10 + (x5 * x3))))
def rf_lowest_12 (F : Nat) (R : Rst) : Nat → Int32 → Int32 → Int32 → Int32 → Option Int32
  | 0 => fun _ _ _ _ => none
  | n + 1 => fun x1 x2 x3 x4 => if (R.1 10) ≤ x4 then (some ((-1) : Int32)) else ((rf_isSlab F R x4 x1 x2).bind fun v3 => if v3 = 0 then ((rf_lowest_12 F R n) x1 x2 x3 (x4 + 1)) else (rf_lowest_38 F (rf_lowest_12 F R n) R F x1 x2 x3 x4 (0 : Int32)))
def rf_lowest (F : Nat) (R : Rst) (x1 : Int32) (x2 : Int32) : Option Int32 := rd R 2 x1 fun v1 => rf_lowest_12 F R F x1 x2 (x2 * v1) (0 : Int32)
set_option maxHeartbeats 4000000 in
set_option maxRecDepth 100000 in
theorem rm_lowest (l : Launch) (F : Nat) (D : va_G) (cI cZ : ClassId) (o : Nat) (q : Nat → Nat) (R : Rst) (x1 : Int32) (x2 : Int32) (r : Int32) (hf : rf_lowest F R x1 x2 = some r)   : rMet l yX7_lowest wq_X7_lowest { frames := 2, cells := 0, slots := 0, locals := 48 } D cI cZ o q [.ref o, .int x1, .int x2] R (some (.int r)) R := by
  refine rMet_of (cc := cX7_lowest) (maxL := 6) (ret := (some .int)) (by decide) rfl rfl (kw_h kw_X7) (Nat.le_of_ble_eq_true rfl) ?_
  intro p e s m below meth c X hr hlk ls hl hB hS
  have hx := X.1.1
  have hb := X.1.2.1
  have hown := X.1.2.2.2.1
  have hts := X.1.2.2.2.2
  have hl : lv_has ls 6 [(0, .ref o), (1, .int x1), (2, .int x2)] := hl
  generalize hargs : ([.ref o, .int x1, .int x2] : List Value).toArray = args at X hts hS ⊢
  have J_12 : ∀ (n_12 : Nat) (x1 : Int32) (x2 : Int32) (x3 : Int32) (x4 : Int32), rf_lowest_12 F R n_12 x1 x2 x3 x4 = some r → ∀ (H : Heap) (locs : List Loc) (ls : Array Slot), rB D cI cZ o q R H → va_S (rA o q) s.heap H locs → lv_has ls 6 [(0, .ref o), (1, .int x1), (2, .int x2), (3, .int x3), (4, .int x4)] → W p l e { frames := 2, cells := 0, slots := 0, locals := 48 } s m args below meth c H locs 0 0 (MQ below (mq (some (.int r)) (rW D cI cZ o q R) (rA o q)) args s 0 0 (rA o q)) (F0 m 12 ls []) := by
    intro n_12
    induction n_12 with
    | zero => intro x1 x2 x3 x4 hf; cases hf
    | succ n_12 ih_12 =>
      intro x1 x2 x3 x4 hf H locs ls hB hS hl
      rw [rf_lowest_12] at hf
      have J_38 : ∀ (n_38 : Nat) (x1 : Int32) (x2 : Int32) (x3 : Int32) (x4 : Int32) (x5 : Int32), rf_lowest_38 F (rf_lowest_12 F R n_12) R n_38 x1 x2 x3 x4 x5 = some r → ∀ (H : Heap) (locs : List Loc) (ls : Array Slot), rB D cI cZ o q R H → va_S (rA o q) s.heap H locs → lv_has ls 6 [(0, .ref o), (1, .int x1), (2, .int x2), (3, .int x3), (4, .int x4), (5, .int x5)] → W p l e { frames := 2, cells := 0, slots := 0, locals := 48 } s m args below meth c H locs 0 0 (MQ below (mq (some (.int r)) (rW D cI cZ o q R) (rA o q)) args s 0 0 (rA o q)) (F0 m 38 ls []) := by
        intro n_38
        induction n_38 with
        | zero => intro x1 x2 x3 x4 x5 hf; cases hf
        | succ n_38 ih_38 =>
          intro x1 x2 x3 x4 x5 hf H locs ls hB hS hl
          rw [rf_lowest_38] at hf
          refine lv_iload hx hb dX7_lowest_38 (lv_at hl 5 rfl) ?_
          refine lv_aload_n hx hb dX7_lowest_40 rfl (lv_at hl 0 rfl) ?_
          refine lv_iload_n hx hb dX7_lowest_41 rfl (lv_at hl 1 rfl) ?_
          refine lv_iload_n hx hb dX7_lowest_42 rfl (lv_at hl 2 rfl) ?_
          obtain ⟨v5, hqv5, hf⟩ := bn_s hf
          refine r_callV (As := [.int x1, .int x2]) (rest := [.int x5]) X hB hS (rm_objectsOf l F D cI cZ o q _ _ _  _ hqv5) (cwV 2 hts (gd_V km_X7_200 ki_X7_objectsOf ks_X7_objectsOf kin_RX7 kc_X7_objectsOf) rfl rfl rfl (by decide +kernel) ⟨by decide, by decide⟩) hl rfl rfl (Nat.le_of_ble_eq_true rfl) dX7_lowest_43 ⟨Nat.zero_le _, Nat.zero_le _⟩ rfl (fun H locs hB hS => ?_)
          refine lv_icmp_ge (tgt := 89) hx hb dX7_lowest_46 (by decide) (fun hc6 => ?_) (fun hc6 => ?_)
          · have hf := if_t hf hc6
            refine lv_iinc (v := x4 + 1) (lv' := [(4, .int (x4 + 1)), (0, .ref o), (1, .int x1), (2, .int x2), (3, .int x3), (5, .int x5)]) hx hb dX7_lowest_89 hl (k := 4) rfl rfl (by decide) rfl (fun ls hl => ?_)
            refine lv_goto (tgt := 12) hx hb dX7_lowest_92 (by decide) ?_
            exact ih_12 x1 x2 x3 (x4 + 1) hf _ _ _ hB hS (lv_sub hl [1, 2, 3, 4, 0] rfl)
          · have hf := if_f hf hc6
            refine lv_aload_n hx hb dX7_lowest_49 rfl (lv_at hl 0 rfl) ?_
            refine lv_iload_n hx hb dX7_lowest_50 rfl (lv_at hl 1 rfl) ?_
            refine lv_iload_n hx hb dX7_lowest_51 rfl (lv_at hl 2 rfl) ?_
            refine lv_aload_n hx hb dX7_lowest_52 rfl (lv_at hl 0 rfl) ?_
            refine r_get X hB 12 37 (by decide) (kw_m kf_X7_37) rfl rfl dX7_lowest_53 ?_
            refine lv_iload hx hb dX7_lowest_56 (lv_at hl 4 rfl) ?_
            obtain ⟨v7, ev7, hiv7, hf⟩ := rd_s hf
            refine r_ld X hB 12 10 (rat_12 cI cZ o q R) hiv7 ev7 dX7_lowest_58 ?_
            refine lv_iload hx hb dX7_lowest_59 (lv_at hl 5 rfl) ?_
            refine lv_iload_n hx hb dX7_lowest_61 rfl (lv_at hl 3 rfl) ?_
            refine lv_imul hx hb dX7_lowest_62 ?_
            refine lv_iadd hx hb dX7_lowest_63 ?_
            obtain ⟨v8, hqv8, hf⟩ := bn_s hf
            refine r_callV (As := [.int x1, .int x2, .int (v7 + (x5 * x3))]) (rest := []) X hB hS (rm_isIn l F D cI cZ o q _ _ _ _  _ hqv8) (cwV 3 hts (gd_V km_X7_203 ki_X7_isIn ks_X7_isIn kin_RX7 kc_X7_isIn) rfl rfl rfl (by decide +kernel) ⟨by decide, by decide⟩) hl rfl rfl (Nat.le_of_ble_eq_true rfl) dX7_lowest_64 ⟨Nat.zero_le _, Nat.zero_le _⟩ rfl (fun H locs hB hS => ?_)
            refine lv_if_eq (tgt := 83) hx hb dX7_lowest_67 (by decide) (fun hc9 => ?_) (fun hc9 => ?_)
            · have hf := if_t hf hc9
              refine lv_iinc (v := x5 + 1) (lv' := [(5, .int (x5 + 1)), (0, .ref o), (1, .int x1), (2, .int x2), (3, .int x3), (4, .int x4)]) hx hb dX7_lowest_83 hl (k := 5) rfl rfl (by decide) rfl (fun ls hl => ?_)
              refine lv_goto (tgt := 38) hx hb dX7_lowest_86 (by decide) ?_
              exact ih_38 x1 x2 x3 x4 (x5 + 1) hf _ _ _ hB hS (lv_sub hl [1, 2, 3, 4, 5, 0] rfl)
            · have hf := if_f hf hc9
              refine lv_aload_n hx hb dX7_lowest_70 rfl (lv_at hl 0 rfl) ?_
              refine r_get X hB 12 37 (by decide) (kw_m kf_X7_37) rfl rfl dX7_lowest_71 ?_
              refine lv_iload hx hb dX7_lowest_74 (lv_at hl 4 rfl) ?_
              obtain ⟨v10, ev10, hiv10, hf⟩ := rd_s hf
              refine r_ld X hB 12 10 (rat_12 cI cZ o q R) hiv10 ev10 dX7_lowest_76 ?_
              refine lv_iload hx hb dX7_lowest_77 (lv_at hl 5 rfl) ?_
              refine lv_iload_n hx hb dX7_lowest_79 rfl (lv_at hl 3 rfl) ?_
              refine lv_imul hx hb dX7_lowest_80 ?_
              refine lv_iadd hx hb dX7_lowest_81 ?_
              cases hf
              exact r_iret X hB hS hr hlk dX7_lowest_82
      refine lv_iload hx hb dX7_lowest_12 (lv_at hl 4 rfl) ?_
      refine lv_aload_n hx hb dX7_lowest_14 rfl (lv_at hl 0 rfl) ?_
      refine r_get X hB 10 107 (by decide) (kw_m kf_X7_107) rfl rfl dX7_lowest_15 ?_
      refine lv_icmp_ge (tgt := 95) hx hb dX7_lowest_18 (by decide) (fun hc2 => ?_) (fun hc2 => ?_)
      · have hf := if_t hf hc2
        refine lv_iconst (v := (-1)) hx hb dX7_lowest_95 (by decide) ?_
        cases hf
        exact r_iret X hB hS hr hlk dX7_lowest_96
      · have hf := if_f hf hc2
        refine lv_aload_n hx hb dX7_lowest_21 rfl (lv_at hl 0 rfl) ?_
        refine lv_iload hx hb dX7_lowest_22 (lv_at hl 4 rfl) ?_
        refine lv_iload_n hx hb dX7_lowest_24 rfl (lv_at hl 1 rfl) ?_
        refine lv_iload_n hx hb dX7_lowest_25 rfl (lv_at hl 2 rfl) ?_
        obtain ⟨v3, hqv3, hf⟩ := bn_s hf
        refine r_callV (As := [.int x4, .int x1, .int x2]) (rest := []) X hB hS (rm_isSlab l F D cI cZ o q _ _ _ _  _ hqv3) (cwV 3 hts (gd_V km_X7_196 ki_X7_isSlab ks_X7_isSlab kin_RX7 kc_X7_isSlab) rfl rfl rfl (by decide +kernel) ⟨by decide, by decide⟩) hl rfl rfl (Nat.le_of_ble_eq_true rfl) dX7_lowest_26 ⟨Nat.zero_le _, Nat.zero_le _⟩ rfl (fun H locs hB hS => ?_)
        refine lv_if_ne (tgt := 35) hx hb dX7_lowest_29 (by decide) (fun hc4 => ?_) (fun hc4 => ?_)
        · have hf := if_f hf hc4
          refine lv_iconst (v := 0) hx hb dX7_lowest_35 (by decide) ?_
          refine lv_istore (lv' := [(5, .int 0), (0, .ref o), (1, .int x1), (2, .int x2), (3, .int x3), (4, .int x4)]) hx hb dX7_lowest_36 hl (by decide) rfl (fun ls hl => ?_)
          exact J_38 F x1 x2 x3 x4 (0 : Int32) hf _ _ _ hB hS (lv_sub hl [1, 2, 3, 4, 5, 0] rfl)
        · have hf := if_t hf hc4
          refine lv_goto (tgt := 89) hx hb dX7_lowest_32 (by decide) ?_
          refine lv_iinc (v := x4 + 1) (lv' := [(4, .int (x4 + 1)), (0, .ref o), (1, .int x1), (2, .int x2), (3, .int x3)]) hx hb dX7_lowest_89 hl (k := 4) rfl rfl (by decide) rfl (fun ls hl => ?_)
          refine lv_goto (tgt := 12) hx hb dX7_lowest_92 (by decide) ?_
          exact ih_12 x1 x2 x3 (x4 + 1) hf _ _ _ hB hS (lv_sub hl [1, 2, 3, 4, 0] rfl)
  unfold rf_lowest at hf
  refine lv_iload_n hx hb dX7_lowest_0 rfl (lv_at hl 2 rfl) ?_
  refine lv_aload_n hx hb dX7_lowest_1 rfl (lv_at hl 0 rfl) ?_
  refine r_get X hB 2 7 (by decide) (kw_m kf_X7_7) rfl rfl dX7_lowest_2 ?_
  refine lv_iload_n hx hb dX7_lowest_5 rfl (lv_at hl 1 rfl) ?_
  obtain ⟨v1, ev1, hiv1, hf⟩ := rd_s hf
  refine r_ld X hB 2 1 (rat_2 cI cZ o q R) hiv1 ev1 dX7_lowest_6 ?_
  refine lv_imul hx hb dX7_lowest_7 ?_
  refine lv_istore_n (lv' := [(3, .int (x2 * v1)), (0, .ref o), (1, .int x1), (2, .int x2)]) hx hb dX7_lowest_8 rfl hl (by decide) rfl (fun ls hl => ?_)
  refine lv_iconst (v := 0) hx hb dX7_lowest_9 (by decide) ?_
  refine lv_istore (lv' := [(4, .int 0), (3, .int (x2 * v1)), (0, .ref o), (1, .int x1), (2, .int x2)]) hx hb dX7_lowest_10 hl (by decide) rfl (fun ls hl => ?_)
  exact J_12 F x1 x2 (x2 * v1) (0 : Int32) hf _ _ _ hB hS (lv_sub hl [2, 3, 4, 1, 0] rfl)
/-! X7_exchange -/
def rf_exchange_2 (F : Nat) : Nat → Rst → Int32 → Int32 → Int32 → Option Rst
  | 0 => fun _ _ _ _ => none
  | n + 1 => fun R x1 x2 x3 => if (3 : Int32) ≤ x3 then (rd R 28 x1 fun v2 => rd R 28 x2 fun v3 => wr R 28 x1 v3 fun R4 => wr R4 28 x2 v2 fun R5 => some R5) else (rd R 29 ((3 * x1) + x3) fun v6 => rd R 29 ((3 * x2) + x3) fun v7 => wr R 29 ((3 * x1) + x3) v7 fun R8 => wr R8 29 ((3 * x2) + x3) v6 fun R9 => (rf_exchange_2 F n) R9 x1 x2 (x3 + 1))
def rf_exchange (F : Nat) (R : Rst) (x1 : Int32) (x2 : Int32) : Option Rst := rf_exchange_2 F F R x1 x2 (0 : Int32)
set_option maxHeartbeats 4000000 in
set_option maxRecDepth 100000 in
theorem rm_exchange (l : Launch) (F : Nat) (D : va_G) (cI cZ : ClassId) (o : Nat) (q : Nat → Nat) (R : Rst) (x1 : Int32) (x2 : Int32) (R' : Rst) (hf : rf_exchange F R x1 x2 = some R')   : rMet l yX7_exchange wq_X7_exchange { frames := 0, cells := 0, slots := 0, locals := 0 } D cI cZ o q [.ref o, .int x1, .int x2] R none R' := by
  refine rMet_of (cc := cX7_exchange) (maxL := 5) (ret := none) (by decide) rfl rfl (kw_h kw_X7) (Nat.le_of_ble_eq_true rfl) ?_
  intro p e s m below meth c X hr hlk ls hl hB hS
  have hx := X.1.1
  have hb := X.1.2.1
  have hown := X.1.2.2.2.1
  have hts := X.1.2.2.2.2
  have hl : lv_has ls 5 [(0, .ref o), (1, .int x1), (2, .int x2)] := hl
  generalize hargs : ([.ref o, .int x1, .int x2] : List Value).toArray = args at X hts hS ⊢
  have J_2 : ∀ (n_2 : Nat) (R : Rst) (x1 : Int32) (x2 : Int32) (x3 : Int32), rf_exchange_2 F n_2 R x1 x2 x3 = some R' → ∀ (H : Heap) (locs : List Loc) (ls : Array Slot), rB D cI cZ o q R H → va_S (rA o q) s.heap H locs → lv_has ls 5 [(0, .ref o), (1, .int x1), (2, .int x2), (3, .int x3)] → W p l e { frames := 0, cells := 0, slots := 0, locals := 0 } s m args below meth c H locs 0 0 (MQ below (mq none (rW D cI cZ o q R') (rA o q)) args s 0 0 (rA o q)) (F0 m 2 ls []) := by
    intro n_2
    induction n_2 with
    | zero => intro R x1 x2 x3 hf; cases hf
    | succ n_2 ih_2 =>
      intro R x1 x2 x3 hf H locs ls hB hS hl
      rw [rf_exchange_2] at hf
      refine lv_iload_n hx hb dX7_exchange_2 rfl (lv_at hl 3 rfl) ?_
      refine lv_iconst (v := 3) hx hb dX7_exchange_3 (by decide) ?_
      refine lv_icmp_ge (tgt := 57) hx hb dX7_exchange_4 (by decide) (fun hc1 => ?_) (fun hc1 => ?_)
      · have hf := if_t hf hc1
        refine lv_aload_n hx hb dX7_exchange_57 rfl (lv_at hl 0 rfl) ?_
        refine r_get X hB 28 78 (by decide) (kw_m kf_X7_78) rfl rfl dX7_exchange_58 ?_
        refine lv_iload_n hx hb dX7_exchange_61 rfl (lv_at hl 1 rfl) ?_
        obtain ⟨v2, ev2, hiv2, hf⟩ := rd_s hf
        refine r_ld X hB 28 23 (rat_28 cI cZ o q R) hiv2 ev2 dX7_exchange_62 ?_
        refine lv_istore_n (lv' := [(3, .int v2), (0, .ref o), (1, .int x1), (2, .int x2)]) hx hb dX7_exchange_63 rfl hl (by decide) rfl (fun ls hl => ?_)
        refine lv_aload_n hx hb dX7_exchange_64 rfl (lv_at hl 1 rfl) ?_
        refine r_get X hB 28 78 (by decide) (kw_m kf_X7_78) rfl rfl dX7_exchange_65 ?_
        refine lv_iload_n hx hb dX7_exchange_68 rfl (lv_at hl 2 rfl) ?_
        refine lv_aload_n hx hb dX7_exchange_69 rfl (lv_at hl 1 rfl) ?_
        refine r_get X hB 28 78 (by decide) (kw_m kf_X7_78) rfl rfl dX7_exchange_70 ?_
        refine lv_iload_n hx hb dX7_exchange_73 rfl (lv_at hl 3 rfl) ?_
        obtain ⟨v3, ev3, hiv3, hf⟩ := rd_s hf
        refine r_ld X hB 28 23 (rat_28 cI cZ o q R) hiv3 ev3 dX7_exchange_74 ?_
        obtain ⟨R4, eR4, hiR4, hf⟩ := wr_s hf
        refine r_st X hB hS 28 23 (rat_28 cI cZ o q R) (rset_28 cI cZ o q R _ _) hiR4 dX7_exchange_75 (fun H locs hB hS => ?_)
        rw [← eR4] at hB
        refine lv_aload_n hx hb dX7_exchange_76 rfl (lv_at hl 1 rfl) ?_
        refine r_get X hB 28 78 (by decide) (kw_m kf_X7_78) rfl rfl dX7_exchange_77 ?_
        refine lv_iload_n hx hb dX7_exchange_80 rfl (lv_at hl 3 rfl) ?_
        refine lv_iload_n hx hb dX7_exchange_81 rfl (lv_at hl 0 rfl) ?_
        obtain ⟨R5, eR5, hiR5, hf⟩ := wr_s hf
        refine r_st X hB hS 28 23 (rat_28 cI cZ o q R4) (rset_28 cI cZ o q R4 _ _) hiR5 dX7_exchange_82 (fun H locs hB hS => ?_)
        rw [← eR5] at hB
        cases hf
        exact r_vret X hB hS hr hlk dX7_exchange_83
      · have hf := if_f hf hc1
        refine lv_aload_n hx hb dX7_exchange_7 rfl (lv_at hl 0 rfl) ?_
        refine r_get X hB 29 81 (by decide) (kw_m kf_X7_81) rfl rfl dX7_exchange_8 ?_
        refine lv_iconst (v := 3) hx hb dX7_exchange_11 (by decide) ?_
        refine lv_iload_n hx hb dX7_exchange_12 rfl (lv_at hl 1 rfl) ?_
        refine lv_imul hx hb dX7_exchange_13 ?_
        refine lv_iload_n hx hb dX7_exchange_14 rfl (lv_at hl 3 rfl) ?_
        refine lv_iadd hx hb dX7_exchange_15 ?_
        obtain ⟨v6, ev6, hiv6, hf⟩ := rd_s hf
        refine r_ld X hB 29 24 (rat_29 cI cZ o q R) hiv6 ev6 dX7_exchange_16 ?_
        refine lv_istore (lv' := [(4, .int v6), (0, .ref o), (1, .int x1), (2, .int x2), (3, .int x3)]) hx hb dX7_exchange_17 hl (by decide) rfl (fun ls hl => ?_)
        refine lv_aload_n hx hb dX7_exchange_19 rfl (lv_at hl 1 rfl) ?_
        refine r_get X hB 29 81 (by decide) (kw_m kf_X7_81) rfl rfl dX7_exchange_20 ?_
        refine lv_iconst (v := 3) hx hb dX7_exchange_23 (by decide) ?_
        refine lv_iload_n hx hb dX7_exchange_24 rfl (lv_at hl 2 rfl) ?_
        refine lv_imul hx hb dX7_exchange_25 ?_
        refine lv_iload_n hx hb dX7_exchange_26 rfl (lv_at hl 4 rfl) ?_
        refine lv_iadd hx hb dX7_exchange_27 ?_
        refine lv_aload_n hx hb dX7_exchange_28 rfl (lv_at hl 1 rfl) ?_
        refine r_get X hB 29 81 (by decide) (kw_m kf_X7_81) rfl rfl dX7_exchange_29 ?_
        refine lv_iconst (v := 3) hx hb dX7_exchange_32 (by decide) ?_
        refine lv_iload_n hx hb dX7_exchange_33 rfl (lv_at hl 3 rfl) ?_
        refine lv_imul hx hb dX7_exchange_34 ?_
        refine lv_iload_n hx hb dX7_exchange_35 rfl (lv_at hl 4 rfl) ?_
        refine lv_iadd hx hb dX7_exchange_36 ?_
        obtain ⟨v7, ev7, hiv7, hf⟩ := rd_s hf
        refine r_ld X hB 29 24 (rat_29 cI cZ o q R) hiv7 ev7 dX7_exchange_37 ?_
        obtain ⟨R8, eR8, hiR8, hf⟩ := wr_s hf
        refine r_st X hB hS 29 24 (rat_29 cI cZ o q R) (rset_29 cI cZ o q R _ _) hiR8 dX7_exchange_38 (fun H locs hB hS => ?_)
        rw [← eR8] at hB
        refine lv_aload_n hx hb dX7_exchange_39 rfl (lv_at hl 1 rfl) ?_
        refine r_get X hB 29 81 (by decide) (kw_m kf_X7_81) rfl rfl dX7_exchange_40 ?_
        refine lv_iconst (v := 3) hx hb dX7_exchange_43 (by decide) ?_
        refine lv_iload_n hx hb dX7_exchange_44 rfl (lv_at hl 3 rfl) ?_
        refine lv_imul hx hb dX7_exchange_45 ?_
        refine lv_iload_n hx hb dX7_exchange_46 rfl (lv_at hl 4 rfl) ?_
        refine lv_iadd hx hb dX7_exchange_47 ?_
        refine lv_iload hx hb dX7_exchange_48 (lv_at hl 0 rfl) ?_
        obtain ⟨R9, eR9, hiR9, hf⟩ := wr_s hf
        refine r_st X hB hS 29 24 (rat_29 cI cZ o q R8) (rset_29 cI cZ o q R8 _ _) hiR9 dX7_exchange_50 (fun H locs hB hS => ?_)
        rw [← eR9] at hB
        refine lv_iinc (v := x3 + 1) (lv' := [(3, .int (x3 + 1)), (4, .int v6), (0, .ref o), (1, .int x1), (2, .int x2)]) hx hb dX7_exchange_51 hl (k := 4) rfl rfl (by decide) rfl (fun ls hl => ?_)
        refine lv_goto (tgt := 2) hx hb dX7_exchange_54 (by decide) ?_
        exact ih_2 R9 x1 x2 (x3 + 1) hf _ _ _ hB hS (lv_sub hl [2, 3, 4, 0] rfl)
  unfold rf_exchange at hf
  refine lv_iconst (v := 0) hx hb dX7_exchange_0 (by decide) ?_
  refine lv_istore_n (lv' := [(3, .int 0), (0, .ref o), (1, .int x1), (2, .int x2)]) hx hb dX7_exchange_1 rfl hl (by decide) rfl (fun ls hl => ?_)
  exact J_2 F R x1 x2 (0 : Int32) hf _ _ _ hB hS (lv_sub hl [1, 2, 3, 0] rfl)
/-! X7_out -/
def rf_out_151 (F : Nat) (R : Rst) (x1 : Int32) (x2 : Int32) (x4 : Int32) : Option (Int32 × Rst) := rd R 28 x4 fun v6 => if v6 ≤ 0 then ((rf_lowest F R x1 x2).bind fun v8 => if v8 = ((-1) : Int32) then ((rf_slabSize F R x1).bind fun v10 => rd R 2 x1 fun v11 => (rf_takes F 9 R x1 (v10.toInt64 * v11.toInt64) (1 : Int32) (2 : Int32)).bind fun z12 => st2 z12 fun z12v z12R => if z12v = ((-1) : Int32) then (some (z12v, z12R)) else ((rf_position F z12R x1 z12v.toInt64).bind fun v14 => wr z12R 17 v14 x2 fun R15 => some (z12v, R15))) else (some (v8, R))) else (rd R 28 x4 fun v16 => wr R 28 x4 (v16 - 1) fun R17 => rd R17 28 x4 fun v18 => rd R17 29 ((3 * x4) + v18) fun v19 => some (v19, R17))
def rf_out_96 (F : Nat) : Nat → Rst → Int32 → Int32 → Int32 → Int32 → Int32 → Option (Int32 × Rst)
  | 0 => fun _ _ _ _ _ _ => none
  | n + 1 => fun R x1 x2 x4 x6 x7 => if (3 : Int32) ≤ x7 then (wr R 28 x4 (3 : Int32) fun R26 => rf_out_151 F R26 x1 x2 x4) else (rd R 30 x6 fun v27 => rd R 31 (((12 * x6) + (3 * v27)) + x7) fun v28 => wr R 29 ((3 * x4) + x7) v28 fun R29 => (rf_out_96 F n) R29 x1 x2 x4 x6 (x7 + 1))
def rf_out_54 (F : Nat) (R : Rst) (x1 : Int32) (x2 : Int32) (x4 : Int32) (x5 : Int32) (x6 : Int32) : Option (Int32 × Rst) := rd R 28 x4 fun v4 => if v4 = 0 then (rd R 30 x6 fun v20 => if v20 ≤ 0 then (rf_out_151 F R x1 x2 x4) else ((rf_exchange F R x4 x5).bind fun R22 => rd R22 30 x6 fun v23 => wr R22 30 x6 (v23 - 1) fun R24 => rf_out_96 F F R24 x1 x2 x4 x6 (0 : Int32))) else (rf_out_151 F R x1 x2 x4)
def rf_out (F : Nat) (R : Rst) (x1 : Int32) (x2 : Int32) (x3 : Int32) : Option (Int32 × Rst) := (rf_magazine F R x1 x2 x3 (0 : Int32)).bind fun v1 => rd R 28 v1 fun v2 => if v2 = 0 then (rd R 28 (v1 + 1) fun v30 => if v30 ≤ 0 then (rf_out_54 F R x1 x2 v1 (v1 + 1) ((9 * x1) + x2)) else ((rf_exchange F R v1 (v1 + 1)).bind fun R32 => rf_out_151 F R32 x1 x2 v1)) else (rf_out_54 F R x1 x2 v1 (v1 + 1) ((9 * x1) + x2))
set_option maxHeartbeats 4000000 in
set_option maxRecDepth 100000 in
theorem rm_out (l : Launch) (F : Nat) (D : va_G) (cI cZ : ClassId) (o : Nat) (q : Nat → Nat) (R : Rst) (x1 : Int32) (x2 : Int32) (x3 : Int32) (r : Int32) (R' : Rst) (hf : rf_out F R x1 x2 x3 = some (r, R'))   : rMet l yX7_out wq_X7_out { frames := 49, cells := 0, slots := 0, locals := 2308 } D cI cZ o q [.ref o, .int x1, .int x2, .int x3] R (some (.int r)) R' := by
  refine rMet_of (cc := cX7_out) (maxL := 8) (ret := (some .int)) (by decide) rfl rfl (kw_h kw_X7) (Nat.le_of_ble_eq_true rfl) ?_
  intro p e s m below meth c X hr hlk ls hl hB hS
  have hx := X.1.1
  have hb := X.1.2.1
  have hown := X.1.2.2.2.1
  have hts := X.1.2.2.2.2
  have hl : lv_has ls 8 [(0, .ref o), (1, .int x1), (2, .int x2), (3, .int x3)] := hl
  generalize hargs : ([.ref o, .int x1, .int x2, .int x3] : List Value).toArray = args at X hts hS ⊢
  have J_151 : ∀ (R : Rst) (x1 : Int32) (x2 : Int32) (x4 : Int32), rf_out_151 F R x1 x2 x4 = some (r, R') → ∀ (H : Heap) (locs : List Loc) (ls : Array Slot), rB D cI cZ o q R H → va_S (rA o q) s.heap H locs → lv_has ls 8 [(0, .ref o), (1, .int x1), (2, .int x2), (4, .int x4)] → W p l e { frames := 49, cells := 0, slots := 0, locals := 2308 } s m args below meth c H locs 0 0 (MQ below (mq (some (.int r)) (rW D cI cZ o q R') (rA o q)) args s 0 0 (rA o q)) (F0 m 151 ls []) := by
    intro R x1 x2 x4 hf H locs ls hB hS hl
    unfold rf_out_151 at hf
    refine lv_aload_n hx hb dX7_out_151 rfl (lv_at hl 0 rfl) ?_
    refine r_get X hB 28 78 (by decide) (kw_m kf_X7_78) rfl rfl dX7_out_152 ?_
    refine lv_iload hx hb dX7_out_155 (lv_at hl 3 rfl) ?_
    obtain ⟨v6, ev6, hiv6, hf⟩ := rd_s hf
    refine r_ld X hB 28 23 (rat_28 cI cZ o q R) hiv6 ev6 dX7_out_157 ?_
    refine lv_if_le (tgt := 190) hx hb dX7_out_158 (by decide) (fun hc7 => ?_) (fun hc7 => ?_)
    · have hf := if_t hf hc7
      refine lv_aload_n hx hb dX7_out_190 rfl (lv_at hl 0 rfl) ?_
      refine lv_iload_n hx hb dX7_out_191 rfl (lv_at hl 1 rfl) ?_
      refine lv_iload_n hx hb dX7_out_192 rfl (lv_at hl 2 rfl) ?_
      obtain ⟨v8, hqv8, hf⟩ := bn_s hf
      refine r_callV (As := [.int x1, .int x2]) (rest := []) X hB hS (rm_lowest l F D cI cZ o q _ _ _  _ hqv8) (cwV 2 hts (gd_V km_X7_209 ki_X7_lowest ks_X7_lowest kin_RX7 kc_X7_lowest) rfl rfl rfl (by decide +kernel) ⟨by decide, by decide⟩) hl rfl rfl (Nat.le_of_ble_eq_true rfl) dX7_out_193 ⟨Nat.zero_le _, Nat.zero_le _⟩ rfl (fun H locs hB hS => ?_)
      refine lv_istore (lv' := [(7, .int v8), (0, .ref o), (1, .int x1), (2, .int x2), (4, .int x4)]) hx hb dX7_out_196 hl (by decide) rfl (fun ls hl => ?_)
      refine lv_iload hx hb dX7_out_198 (lv_at hl 0 rfl) ?_
      refine lv_iconst (v := (-1)) hx hb dX7_out_200 (by decide) ?_
      refine lv_icmp_eq (tgt := 207) hx hb dX7_out_201 (by decide) (fun hc9 => ?_) (fun hc9 => ?_)
      · have hf := if_t hf hc9
        refine lv_aload_n hx hb dX7_out_207 rfl (lv_at hl 1 rfl) ?_
        refine lv_iload_n hx hb dX7_out_208 rfl (lv_at hl 2 rfl) ?_
        refine lv_aload_n hx hb dX7_out_209 rfl (lv_at hl 1 rfl) ?_
        refine lv_iload_n hx hb dX7_out_210 rfl (lv_at hl 2 rfl) ?_
        obtain ⟨v10, hqv10, hf⟩ := bn_s hf
        refine r_callV (As := [.int x1]) (rest := [.int x1, .ref o]) X hB hS (rm_slabSize l F D cI cZ o q _ _  _ hqv10) (cwV 1 hts (gd_V km_X7_193 ki_X7_slabSize ks_X7_slabSize kin_RX7 kc_X7_slabSize) rfl rfl rfl (by decide +kernel) ⟨by decide, by decide⟩) hl rfl rfl (Nat.le_of_ble_eq_true rfl) dX7_out_211 ⟨Nat.zero_le _, Nat.zero_le _⟩ rfl (fun H locs hB hS => ?_)
        refine lv_i2l (v := v10.toInt64) hx hb dX7_out_214 rfl ?_
        refine lv_aload_n hx hb dX7_out_215 rfl (lv_at hl 1 rfl) ?_
        refine r_get X hB 2 7 (by decide) (kw_m kf_X7_7) rfl rfl dX7_out_216 ?_
        refine lv_iload_n hx hb dX7_out_219 rfl (lv_at hl 2 rfl) ?_
        obtain ⟨v11, ev11, hiv11, hf⟩ := rd_s hf
        refine r_ld X hB 2 1 (rat_2 cI cZ o q R) hiv11 ev11 dX7_out_220 ?_
        refine lv_i2l (v := v11.toInt64) hx hb dX7_out_221 rfl ?_
        refine lv_lmul hx hb dX7_out_222 ?_
        refine lv_iconst (v := 1) hx hb dX7_out_223 (by decide) ?_
        refine lv_iconst (v := 2) hx hb dX7_out_224 (by decide) ?_
        obtain ⟨⟨z12v, z12R⟩, hqz12, hf⟩ := bn_s hf
        have hf := st2_s hf
        refine r_callV (As := [.int x1, .long (v10.toInt64 * v11.toInt64), .int 1, .int 2]) (rest := []) X hB hS (rm_takes l F 9 D cI cZ o q _ _ _ _ _  _ _ hqz12) (cwV 4 hts (gd_V km_X7_173 ki_X7_takes ks_X7_takes kin_RX7 kc_X7_takes) rfl rfl rfl (by decide +kernel) ⟨by decide, by decide⟩) hl rfl rfl (Nat.le_of_ble_eq_true rfl) dX7_out_225 ⟨Nat.zero_le _, Nat.zero_le _⟩ rfl (fun H locs hB hS => ?_)
        refine lv_istore (lv' := [(7, .int z12v), (0, .ref o), (1, .int x1), (2, .int x2), (4, .int x4)]) hx hb dX7_out_228 hl (by decide) rfl (fun ls hl => ?_)
        refine lv_iload hx hb dX7_out_230 (lv_at hl 0 rfl) ?_
        refine lv_iconst (v := (-1)) hx hb dX7_out_232 (by decide) ?_
        refine lv_icmp_eq (tgt := 250) hx hb dX7_out_233 (by decide) (fun hc13 => ?_) (fun hc13 => ?_)
        · have hf := if_t hf hc13
          refine lv_iload hx hb dX7_out_250 (lv_at hl 0 rfl) ?_
          cases hf
          exact r_iret X hB hS hr hlk dX7_out_252
        · have hf := if_f hf hc13
          refine lv_aload_n hx hb dX7_out_236 rfl (lv_at hl 1 rfl) ?_
          refine r_get X hB 17 52 (by decide) (kw_m kf_X7_52) rfl rfl dX7_out_237 ?_
          refine lv_aload_n hx hb dX7_out_240 rfl (lv_at hl 1 rfl) ?_
          refine lv_iload_n hx hb dX7_out_241 rfl (lv_at hl 2 rfl) ?_
          refine lv_iload hx hb dX7_out_242 (lv_at hl 0 rfl) ?_
          refine lv_i2l (v := z12v.toInt64) hx hb dX7_out_244 rfl ?_
          obtain ⟨v14, hqv14, hf⟩ := bn_s hf
          refine r_callV (As := [.int x1, .long z12v.toInt64]) (rest := [.ref (q 17)]) X hB hS (rm_position l F D cI cZ o q _ _ _  _ hqv14) (cwV 2 hts (gd_V km_X7_113 ki_X7_position ks_X7_position kin_RX7 kc_X7_position) rfl rfl rfl (by decide +kernel) ⟨by decide, by decide⟩) hl rfl rfl (Nat.le_of_ble_eq_true rfl) dX7_out_245 ⟨Nat.zero_le _, Nat.zero_le _⟩ rfl (fun H locs hB hS => ?_)
          refine lv_iload_n hx hb dX7_out_248 rfl (lv_at hl 3 rfl) ?_
          obtain ⟨R15, eR15, hiR15, hf⟩ := wr_s hf
          refine r_st X hB hS 17 15 (rat_17 cI cZ o q z12R) (rset_17 cI cZ o q z12R _ _) hiR15 dX7_out_249 (fun H locs hB hS => ?_)
          rw [← eR15] at hB
          refine lv_iload hx hb dX7_out_250 (lv_at hl 0 rfl) ?_
          cases hf
          exact r_iret X hB hS hr hlk dX7_out_252
      · have hf := if_f hf hc9
        refine lv_iload hx hb dX7_out_204 (lv_at hl 0 rfl) ?_
        cases hf
        exact r_iret X hB hS hr hlk dX7_out_206
    · have hf := if_f hf hc7
      refine lv_aload_n hx hb dX7_out_161 rfl (lv_at hl 0 rfl) ?_
      refine r_get X hB 28 78 (by decide) (kw_m kf_X7_78) rfl rfl dX7_out_162 ?_
      refine lv_iload hx hb dX7_out_165 (lv_at hl 3 rfl) ?_
      refine lv_dup2_11 hx hb dX7_out_167 rfl rfl ?_
      obtain ⟨v16, ev16, hiv16, hf⟩ := rd_s hf
      refine r_ld X hB 28 23 (rat_28 cI cZ o q R) hiv16 ev16 dX7_out_168 ?_
      refine lv_iconst (v := 1) hx hb dX7_out_169 (by decide) ?_
      refine lv_isub hx hb dX7_out_170 ?_
      obtain ⟨R17, eR17, hiR17, hf⟩ := wr_s hf
      refine r_st X hB hS 28 23 (rat_28 cI cZ o q R) (rset_28 cI cZ o q R _ _) hiR17 dX7_out_171 (fun H locs hB hS => ?_)
      rw [← eR17] at hB
      refine lv_aload_n hx hb dX7_out_172 rfl (lv_at hl 0 rfl) ?_
      refine r_get X hB 29 81 (by decide) (kw_m kf_X7_81) rfl rfl dX7_out_173 ?_
      refine lv_iconst (v := 3) hx hb dX7_out_176 (by decide) ?_
      refine lv_iload hx hb dX7_out_177 (lv_at hl 3 rfl) ?_
      refine lv_imul hx hb dX7_out_179 ?_
      refine lv_aload_n hx hb dX7_out_180 rfl (lv_at hl 0 rfl) ?_
      refine r_get X hB 28 78 (by decide) (kw_m kf_X7_78) rfl rfl dX7_out_181 ?_
      refine lv_iload hx hb dX7_out_184 (lv_at hl 3 rfl) ?_
      obtain ⟨v18, ev18, hiv18, hf⟩ := rd_s hf
      refine r_ld X hB 28 23 (rat_28 cI cZ o q R17) hiv18 ev18 dX7_out_186 ?_
      refine lv_iadd hx hb dX7_out_187 ?_
      obtain ⟨v19, ev19, hiv19, hf⟩ := rd_s hf
      refine r_ld X hB 29 24 (rat_29 cI cZ o q R17) hiv19 ev19 dX7_out_188 ?_
      cases hf
      exact r_iret X hB hS hr hlk dX7_out_189
  have J_96 : ∀ (n_96 : Nat) (R : Rst) (x1 : Int32) (x2 : Int32) (x4 : Int32) (x6 : Int32) (x7 : Int32), rf_out_96 F n_96 R x1 x2 x4 x6 x7 = some (r, R') → ∀ (H : Heap) (locs : List Loc) (ls : Array Slot), rB D cI cZ o q R H → va_S (rA o q) s.heap H locs → lv_has ls 8 [(0, .ref o), (1, .int x1), (2, .int x2), (4, .int x4), (6, .int x6), (7, .int x7)] → W p l e { frames := 49, cells := 0, slots := 0, locals := 2308 } s m args below meth c H locs 0 0 (MQ below (mq (some (.int r)) (rW D cI cZ o q R') (rA o q)) args s 0 0 (rA o q)) (F0 m 96 ls []) := by
    intro n_96
    induction n_96 with
    | zero => intro R x1 x2 x4 x6 x7 hf; cases hf
    | succ n_96 ih_96 =>
      intro R x1 x2 x4 x6 x7 hf H locs ls hB hS hl
      rw [rf_out_96] at hf
      refine lv_iload hx hb dX7_out_96 (lv_at hl 5 rfl) ?_
      refine lv_iconst (v := 3) hx hb dX7_out_98 (by decide) ?_
      refine lv_icmp_ge (tgt := 143) hx hb dX7_out_99 (by decide) (fun hc25 => ?_) (fun hc25 => ?_)
      · have hf := if_t hf hc25
        refine lv_aload_n hx hb dX7_out_143 rfl (lv_at hl 0 rfl) ?_
        refine r_get X hB 28 78 (by decide) (kw_m kf_X7_78) rfl rfl dX7_out_144 ?_
        refine lv_iload hx hb dX7_out_147 (lv_at hl 3 rfl) ?_
        refine lv_iconst (v := 3) hx hb dX7_out_149 (by decide) ?_
        obtain ⟨R26, eR26, hiR26, hf⟩ := wr_s hf
        refine r_st X hB hS 28 23 (rat_28 cI cZ o q R) (rset_28 cI cZ o q R _ _) hiR26 dX7_out_150 (fun H locs hB hS => ?_)
        rw [← eR26] at hB
        exact J_151 R26 x1 x2 x4 hf _ _ _ hB hS (lv_sub hl [0, 1, 2, 3] rfl)
      · have hf := if_f hf hc25
        refine lv_aload_n hx hb dX7_out_102 rfl (lv_at hl 0 rfl) ?_
        refine r_get X hB 29 81 (by decide) (kw_m kf_X7_81) rfl rfl dX7_out_103 ?_
        refine lv_iconst (v := 3) hx hb dX7_out_106 (by decide) ?_
        refine lv_iload hx hb dX7_out_107 (lv_at hl 3 rfl) ?_
        refine lv_imul hx hb dX7_out_109 ?_
        refine lv_iload hx hb dX7_out_110 (lv_at hl 5 rfl) ?_
        refine lv_iadd hx hb dX7_out_112 ?_
        refine lv_aload_n hx hb dX7_out_113 rfl (lv_at hl 0 rfl) ?_
        refine r_get X hB 31 87 (by decide) (kw_m kf_X7_87) rfl rfl dX7_out_114 ?_
        refine lv_bipush (v := 12) hx hb dX7_out_117 (by decide) ?_
        refine lv_iload hx hb dX7_out_119 (lv_at hl 4 rfl) ?_
        refine lv_imul hx hb dX7_out_121 ?_
        refine lv_iconst (v := 3) hx hb dX7_out_122 (by decide) ?_
        refine lv_aload_n hx hb dX7_out_123 rfl (lv_at hl 0 rfl) ?_
        refine r_get X hB 30 84 (by decide) (kw_m kf_X7_84) rfl rfl dX7_out_124 ?_
        refine lv_iload hx hb dX7_out_127 (lv_at hl 4 rfl) ?_
        obtain ⟨v27, ev27, hiv27, hf⟩ := rd_s hf
        refine r_ld X hB 30 25 (rat_30 cI cZ o q R) hiv27 ev27 dX7_out_129 ?_
        refine lv_imul hx hb dX7_out_130 ?_
        refine lv_iadd hx hb dX7_out_131 ?_
        refine lv_iload hx hb dX7_out_132 (lv_at hl 5 rfl) ?_
        refine lv_iadd hx hb dX7_out_134 ?_
        obtain ⟨v28, ev28, hiv28, hf⟩ := rd_s hf
        refine r_ld X hB 31 26 (rat_31 cI cZ o q R) hiv28 ev28 dX7_out_135 ?_
        obtain ⟨R29, eR29, hiR29, hf⟩ := wr_s hf
        refine r_st X hB hS 29 24 (rat_29 cI cZ o q R) (rset_29 cI cZ o q R _ _) hiR29 dX7_out_136 (fun H locs hB hS => ?_)
        rw [← eR29] at hB
        refine lv_iinc (v := x7 + 1) (lv' := [(7, .int (x7 + 1)), (0, .ref o), (1, .int x1), (2, .int x2), (4, .int x4), (6, .int x6)]) hx hb dX7_out_137 hl (k := 5) rfl rfl (by decide) rfl (fun ls hl => ?_)
        refine lv_goto (tgt := 96) hx hb dX7_out_140 (by decide) ?_
        exact ih_96 R29 x1 x2 x4 x6 (x7 + 1) hf _ _ _ hB hS (lv_sub hl [1, 2, 3, 4, 5, 0] rfl)
  have J_54 : ∀ (R : Rst) (x1 : Int32) (x2 : Int32) (x4 : Int32) (x5 : Int32) (x6 : Int32), rf_out_54 F R x1 x2 x4 x5 x6 = some (r, R') → ∀ (H : Heap) (locs : List Loc) (ls : Array Slot), rB D cI cZ o q R H → va_S (rA o q) s.heap H locs → lv_has ls 8 [(0, .ref o), (1, .int x1), (2, .int x2), (4, .int x4), (5, .int x5), (6, .int x6)] → W p l e { frames := 49, cells := 0, slots := 0, locals := 2308 } s m args below meth c H locs 0 0 (MQ below (mq (some (.int r)) (rW D cI cZ o q R') (rA o q)) args s 0 0 (rA o q)) (F0 m 54 ls []) := by
    intro R x1 x2 x4 x5 x6 hf H locs ls hB hS hl
    unfold rf_out_54 at hf
    refine lv_aload_n hx hb dX7_out_54 rfl (lv_at hl 0 rfl) ?_
    refine r_get X hB 28 78 (by decide) (kw_m kf_X7_78) rfl rfl dX7_out_55 ?_
    refine lv_iload hx hb dX7_out_58 (lv_at hl 3 rfl) ?_
    obtain ⟨v4, ev4, hiv4, hf⟩ := rd_s hf
    refine r_ld X hB 28 23 (rat_28 cI cZ o q R) hiv4 ev4 dX7_out_60 ?_
    refine lv_if_ne (tgt := 151) hx hb dX7_out_61 (by decide) (fun hc5 => ?_) (fun hc5 => ?_)
    · have hf := if_f hf hc5
      exact J_151 R x1 x2 x4 hf _ _ _ hB hS (lv_sub hl [0, 1, 2, 3] rfl)
    · have hf := if_t hf hc5
      refine lv_aload_n hx hb dX7_out_64 rfl (lv_at hl 0 rfl) ?_
      refine r_get X hB 30 84 (by decide) (kw_m kf_X7_84) rfl rfl dX7_out_65 ?_
      refine lv_iload hx hb dX7_out_68 (lv_at hl 5 rfl) ?_
      obtain ⟨v20, ev20, hiv20, hf⟩ := rd_s hf
      refine r_ld X hB 30 25 (rat_30 cI cZ o q R) hiv20 ev20 dX7_out_70 ?_
      refine lv_if_le (tgt := 151) hx hb dX7_out_71 (by decide) (fun hc21 => ?_) (fun hc21 => ?_)
      · have hf := if_t hf hc21
        exact J_151 R x1 x2 x4 hf _ _ _ hB hS (lv_sub hl [0, 1, 2, 3] rfl)
      · have hf := if_f hf hc21
        refine lv_aload_n hx hb dX7_out_74 rfl (lv_at hl 0 rfl) ?_
        refine lv_iload hx hb dX7_out_75 (lv_at hl 3 rfl) ?_
        refine lv_iload hx hb dX7_out_77 (lv_at hl 4 rfl) ?_
        obtain ⟨R22, hqR22, hf⟩ := bn_s hf
        refine r_callV (As := [.int x4, .int x5]) (rest := []) X hB hS (rm_exchange l F D cI cZ o q _ _ _  _ hqR22) (cwV 2 hts (gd_V km_X7_206 ki_X7_exchange ks_X7_exchange kin_RX7 kc_X7_exchange) rfl rfl rfl (by decide +kernel) ⟨by decide, by decide⟩) hl rfl rfl (Nat.le_of_ble_eq_true rfl) dX7_out_79 ⟨Nat.zero_le _, Nat.zero_le _⟩ rfl (fun H locs hB hS => ?_)
        refine lv_aload_n hx hb dX7_out_82 rfl (lv_at hl 0 rfl) ?_
        refine r_get X hB 30 84 (by decide) (kw_m kf_X7_84) rfl rfl dX7_out_83 ?_
        refine lv_iload hx hb dX7_out_86 (lv_at hl 5 rfl) ?_
        refine lv_dup2_11 hx hb dX7_out_88 rfl rfl ?_
        obtain ⟨v23, ev23, hiv23, hf⟩ := rd_s hf
        refine r_ld X hB 30 25 (rat_30 cI cZ o q R22) hiv23 ev23 dX7_out_89 ?_
        refine lv_iconst (v := 1) hx hb dX7_out_90 (by decide) ?_
        refine lv_isub hx hb dX7_out_91 ?_
        obtain ⟨R24, eR24, hiR24, hf⟩ := wr_s hf
        refine r_st X hB hS 30 25 (rat_30 cI cZ o q R22) (rset_30 cI cZ o q R22 _ _) hiR24 dX7_out_92 (fun H locs hB hS => ?_)
        rw [← eR24] at hB
        refine lv_iconst (v := 0) hx hb dX7_out_93 (by decide) ?_
        refine lv_istore (lv' := [(7, .int 0), (0, .ref o), (1, .int x1), (2, .int x2), (4, .int x4), (5, .int x5), (6, .int x6)]) hx hb dX7_out_94 hl (by decide) rfl (fun ls hl => ?_)
        exact J_96 F R24 x1 x2 x4 x6 (0 : Int32) hf _ _ _ hB hS (lv_sub hl [1, 2, 3, 4, 6, 0] rfl)
  unfold rf_out at hf
  refine lv_iload_n hx hb dX7_out_0 rfl (lv_at hl 1 rfl) ?_
  refine lv_iload_n hx hb dX7_out_1 rfl (lv_at hl 2 rfl) ?_
  refine lv_iload_n hx hb dX7_out_2 rfl (lv_at hl 3 rfl) ?_
  refine lv_iconst (v := 0) hx hb dX7_out_3 (by decide) ?_
  obtain ⟨v1, hqv1, hf⟩ := bn_s hf
  refine r_callS (As := [.int x1, .int x2, .int x3, .int 0]) (rest := []) X hB hS (rm_magazine l F D cI cZ o q _ _ _ _ _  _ hqv1) (va_cwS 4 hts (gd_S km_X7_190 kst_X7_magazine kin_RX7 kc_X7_magazine) rfl rfl rfl (by decide +kernel) ⟨by decide, by decide⟩) hl rfl rfl (Nat.le_of_ble_eq_true rfl) dX7_out_4 ⟨Nat.zero_le _, Nat.zero_le _⟩ rfl (fun H locs hB hS => ?_)
  refine lv_istore (lv' := [(4, .int v1), (0, .ref o), (1, .int x1), (2, .int x2), (3, .int x3)]) hx hb dX7_out_7 hl (by decide) rfl (fun ls hl => ?_)
  refine lv_iload hx hb dX7_out_9 (lv_at hl 0 rfl) ?_
  refine lv_iconst (v := 1) hx hb dX7_out_11 (by decide) ?_
  refine lv_iadd hx hb dX7_out_12 ?_
  refine lv_istore (lv' := [(5, .int (v1 + 1)), (4, .int v1), (0, .ref o), (1, .int x1), (2, .int x2), (3, .int x3)]) hx hb dX7_out_13 hl (by decide) rfl (fun ls hl => ?_)
  refine lv_bipush (v := 9) hx hb dX7_out_15 (by decide) ?_
  refine lv_iload_n hx hb dX7_out_17 rfl (lv_at hl 3 rfl) ?_
  refine lv_imul hx hb dX7_out_18 ?_
  refine lv_iload_n hx hb dX7_out_19 rfl (lv_at hl 4 rfl) ?_
  refine lv_iadd hx hb dX7_out_20 ?_
  refine lv_istore (lv' := [(6, .int ((9 * x1) + x2)), (5, .int (v1 + 1)), (4, .int v1), (0, .ref o), (1, .int x1), (2, .int x2), (3, .int x3)]) hx hb dX7_out_21 hl (by decide) rfl (fun ls hl => ?_)
  refine lv_aload_n hx hb dX7_out_23 rfl (lv_at hl 3 rfl) ?_
  refine r_get X hB 28 78 (by decide) (kw_m kf_X7_78) rfl rfl dX7_out_24 ?_
  refine lv_iload hx hb dX7_out_27 (lv_at hl 2 rfl) ?_
  obtain ⟨v2, ev2, hiv2, hf⟩ := rd_s hf
  refine r_ld X hB 28 23 (rat_28 cI cZ o q R) hiv2 ev2 dX7_out_29 ?_
  refine lv_if_ne (tgt := 54) hx hb dX7_out_30 (by decide) (fun hc3 => ?_) (fun hc3 => ?_)
  · have hf := if_f hf hc3
    exact J_54 R x1 x2 v1 (v1 + 1) ((9 * x1) + x2) hf _ _ _ hB hS (lv_sub hl [3, 4, 5, 2, 1, 0] rfl)
  · have hf := if_t hf hc3
    refine lv_aload_n hx hb dX7_out_33 rfl (lv_at hl 3 rfl) ?_
    refine r_get X hB 28 78 (by decide) (kw_m kf_X7_78) rfl rfl dX7_out_34 ?_
    refine lv_iload hx hb dX7_out_37 (lv_at hl 1 rfl) ?_
    obtain ⟨v30, ev30, hiv30, hf⟩ := rd_s hf
    refine r_ld X hB 28 23 (rat_28 cI cZ o q R) hiv30 ev30 dX7_out_39 ?_
    refine lv_if_le (tgt := 54) hx hb dX7_out_40 (by decide) (fun hc31 => ?_) (fun hc31 => ?_)
    · have hf := if_t hf hc31
      exact J_54 R x1 x2 v1 (v1 + 1) ((9 * x1) + x2) hf _ _ _ hB hS (lv_sub hl [3, 4, 5, 2, 1, 0] rfl)
    · have hf := if_f hf hc31
      refine lv_aload_n hx hb dX7_out_43 rfl (lv_at hl 3 rfl) ?_
      refine lv_iload hx hb dX7_out_44 (lv_at hl 2 rfl) ?_
      refine lv_iload hx hb dX7_out_46 (lv_at hl 1 rfl) ?_
      obtain ⟨R32, hqR32, hf⟩ := bn_s hf
      refine r_callV (As := [.int v1, .int (v1 + 1)]) (rest := []) X hB hS (rm_exchange l F D cI cZ o q _ _ _  _ hqR32) (cwV 2 hts (gd_V km_X7_206 ki_X7_exchange ks_X7_exchange kin_RX7 kc_X7_exchange) rfl rfl rfl (by decide +kernel) ⟨by decide, by decide⟩) hl rfl rfl (Nat.le_of_ble_eq_true rfl) dX7_out_48 ⟨Nat.zero_le _, Nat.zero_le _⟩ rfl (fun H locs hB hS => ?_)
      refine lv_goto (tgt := 151) hx hb dX7_out_51 (by decide) ?_
      exact J_151 R32 x1 x2 v1 hf _ _ _ hB hS (lv_sub hl [3, 4, 5, 2] rfl)
/-! X7_into -/
def rf_into_164 (F : Nat) (R : Rst) (x4 : Int32) (x5 : Int32) : Option Rst := rd R 28 x5 fun v6 => wr R 29 ((3 * x5) + v6) x4 fun R7 => rd R7 28 x5 fun v8 => wr R7 28 x5 (v8 + 1) fun R9 => some R9
def rf_into_90 (F : Nat) : Nat → Rst → Int32 → Int32 → Int32 → Int32 → Int32 → Option Rst
  | 0 => fun _ _ _ _ _ _ => none
  | n + 1 => fun R x4 x5 x6 x7 x8 => if (3 : Int32) ≤ x8 then (rd R 30 x7 fun v13 => wr R 30 x7 (v13 + 1) fun R14 => wr R14 28 x6 (0 : Int32) fun R15 => (rf_exchange F R15 x5 x6).bind fun R16 => rf_into_164 F R16 x4 x5) else (rd R 30 x7 fun v17 => rd R 29 ((3 * x6) + x8) fun v18 => wr R 31 (((12 * x7) + (3 * v17)) + x8) v18 fun R19 => (rf_into_90 F n) R19 x4 x5 x6 x7 (x8 + 1))
def rf_into_64 (F : Nat) (R : Rst) (x4 : Int32) (x5 : Int32) (x6 : Int32) (x7 : Int32) : Option Rst := rd R 28 x5 fun v4 => if v4 = (3 : Int32) then (rd R 30 x7 fun v10 => if v10 = (4 : Int32) then (some R) else (rf_into_90 F F R x4 x5 x6 x7 (0 : Int32))) else (rf_into_164 F R x4 x5)
def rf_into (F : Nat) (R : Rst) (x1 : Int32) (x2 : Int32) (x3 : Int32) (x4 : Int32) : Option Rst := (rf_magazine F R x1 x2 x3 (0 : Int32)).bind fun v1 => rd R 28 v1 fun v2 => if v2 = (3 : Int32) then (rd R 28 (v1 + 1) fun v20 => if (3 : Int32) ≤ v20 then (rf_into_64 F R x4 v1 (v1 + 1) ((9 * x1) + x2)) else (wr R 28 (v1 + 1) (0 : Int32) fun R22 => (rf_exchange F R22 v1 (v1 + 1)).bind fun R23 => rf_into_164 F R23 x4 v1)) else (rf_into_64 F R x4 v1 (v1 + 1) ((9 * x1) + x2))
set_option maxHeartbeats 4000000 in
set_option maxRecDepth 100000 in
theorem rm_into (l : Launch) (F : Nat) (D : va_G) (cI cZ : ClassId) (o : Nat) (q : Nat → Nat) (R : Rst) (x1 : Int32) (x2 : Int32) (x3 : Int32) (x4 : Int32) (R' : Rst) (hf : rf_into F R x1 x2 x3 x4 = some R')   : rMet l yX7_into wq_X7_into { frames := 1, cells := 0, slots := 0, locals := 24 } D cI cZ o q [.ref o, .int x1, .int x2, .int x3, .int x4] R none R' := by
  refine rMet_of (cc := cX7_into) (maxL := 9) (ret := none) (by decide) rfl rfl (kw_h kw_X7) (Nat.le_of_ble_eq_true rfl) ?_
  intro p e s m below meth c X hr hlk ls hl hB hS
  have hx := X.1.1
  have hb := X.1.2.1
  have hown := X.1.2.2.2.1
  have hts := X.1.2.2.2.2
  have hl : lv_has ls 9 [(0, .ref o), (1, .int x1), (2, .int x2), (3, .int x3), (4, .int x4)] := hl
  generalize hargs : ([.ref o, .int x1, .int x2, .int x3, .int x4] : List Value).toArray = args at X hts hS ⊢
  have J_164 : ∀ (R : Rst) (x4 : Int32) (x5 : Int32), rf_into_164 F R x4 x5 = some R' → ∀ (H : Heap) (locs : List Loc) (ls : Array Slot), rB D cI cZ o q R H → va_S (rA o q) s.heap H locs → lv_has ls 9 [(0, .ref o), (4, .int x4), (5, .int x5)] → W p l e { frames := 1, cells := 0, slots := 0, locals := 24 } s m args below meth c H locs 0 0 (MQ below (mq none (rW D cI cZ o q R') (rA o q)) args s 0 0 (rA o q)) (F0 m 164 ls []) := by
    intro R x4 x5 hf H locs ls hB hS hl
    unfold rf_into_164 at hf
    refine lv_aload_n hx hb dX7_into_164 rfl (lv_at hl 0 rfl) ?_
    refine r_get X hB 29 81 (by decide) (kw_m kf_X7_81) rfl rfl dX7_into_165 ?_
    refine lv_iconst (v := 3) hx hb dX7_into_168 (by decide) ?_
    refine lv_iload hx hb dX7_into_169 (lv_at hl 2 rfl) ?_
    refine lv_imul hx hb dX7_into_171 ?_
    refine lv_aload_n hx hb dX7_into_172 rfl (lv_at hl 0 rfl) ?_
    refine r_get X hB 28 78 (by decide) (kw_m kf_X7_78) rfl rfl dX7_into_173 ?_
    refine lv_iload hx hb dX7_into_176 (lv_at hl 2 rfl) ?_
    obtain ⟨v6, ev6, hiv6, hf⟩ := rd_s hf
    refine r_ld X hB 28 23 (rat_28 cI cZ o q R) hiv6 ev6 dX7_into_178 ?_
    refine lv_iadd hx hb dX7_into_179 ?_
    refine lv_iload hx hb dX7_into_180 (lv_at hl 1 rfl) ?_
    obtain ⟨R7, eR7, hiR7, hf⟩ := wr_s hf
    refine r_st X hB hS 29 24 (rat_29 cI cZ o q R) (rset_29 cI cZ o q R _ _) hiR7 dX7_into_182 (fun H locs hB hS => ?_)
    rw [← eR7] at hB
    refine lv_aload_n hx hb dX7_into_183 rfl (lv_at hl 0 rfl) ?_
    refine r_get X hB 28 78 (by decide) (kw_m kf_X7_78) rfl rfl dX7_into_184 ?_
    refine lv_iload hx hb dX7_into_187 (lv_at hl 2 rfl) ?_
    refine lv_dup2_11 hx hb dX7_into_189 rfl rfl ?_
    obtain ⟨v8, ev8, hiv8, hf⟩ := rd_s hf
    refine r_ld X hB 28 23 (rat_28 cI cZ o q R7) hiv8 ev8 dX7_into_190 ?_
    refine lv_iconst (v := 1) hx hb dX7_into_191 (by decide) ?_
    refine lv_iadd hx hb dX7_into_192 ?_
    obtain ⟨R9, eR9, hiR9, hf⟩ := wr_s hf
    refine r_st X hB hS 28 23 (rat_28 cI cZ o q R7) (rset_28 cI cZ o q R7 _ _) hiR9 dX7_into_193 (fun H locs hB hS => ?_)
    rw [← eR9] at hB
    cases hf
    exact r_vret X hB hS hr hlk dX7_into_194
  have J_90 : ∀ (n_90 : Nat) (R : Rst) (x4 : Int32) (x5 : Int32) (x6 : Int32) (x7 : Int32) (x8 : Int32), rf_into_90 F n_90 R x4 x5 x6 x7 x8 = some R' → ∀ (H : Heap) (locs : List Loc) (ls : Array Slot), rB D cI cZ o q R H → va_S (rA o q) s.heap H locs → lv_has ls 9 [(0, .ref o), (4, .int x4), (5, .int x5), (6, .int x6), (7, .int x7), (8, .int x8)] → W p l e { frames := 1, cells := 0, slots := 0, locals := 24 } s m args below meth c H locs 0 0 (MQ below (mq none (rW D cI cZ o q R') (rA o q)) args s 0 0 (rA o q)) (F0 m 90 ls []) := by
    intro n_90
    induction n_90 with
    | zero => intro R x4 x5 x6 x7 x8 hf; cases hf
    | succ n_90 ih_90 =>
      intro R x4 x5 x6 x7 x8 hf H locs ls hB hS hl
      rw [rf_into_90] at hf
      refine lv_iload hx hb dX7_into_90 (lv_at hl 5 rfl) ?_
      refine lv_iconst (v := 3) hx hb dX7_into_92 (by decide) ?_
      refine lv_icmp_ge (tgt := 137) hx hb dX7_into_93 (by decide) (fun hc12 => ?_) (fun hc12 => ?_)
      · have hf := if_t hf hc12
        refine lv_aload_n hx hb dX7_into_137 rfl (lv_at hl 0 rfl) ?_
        refine r_get X hB 30 84 (by decide) (kw_m kf_X7_84) rfl rfl dX7_into_138 ?_
        refine lv_iload hx hb dX7_into_141 (lv_at hl 4 rfl) ?_
        refine lv_dup2_11 hx hb dX7_into_143 rfl rfl ?_
        obtain ⟨v13, ev13, hiv13, hf⟩ := rd_s hf
        refine r_ld X hB 30 25 (rat_30 cI cZ o q R) hiv13 ev13 dX7_into_144 ?_
        refine lv_iconst (v := 1) hx hb dX7_into_145 (by decide) ?_
        refine lv_iadd hx hb dX7_into_146 ?_
        obtain ⟨R14, eR14, hiR14, hf⟩ := wr_s hf
        refine r_st X hB hS 30 25 (rat_30 cI cZ o q R) (rset_30 cI cZ o q R _ _) hiR14 dX7_into_147 (fun H locs hB hS => ?_)
        rw [← eR14] at hB
        refine lv_aload_n hx hb dX7_into_148 rfl (lv_at hl 0 rfl) ?_
        refine r_get X hB 28 78 (by decide) (kw_m kf_X7_78) rfl rfl dX7_into_149 ?_
        refine lv_iload hx hb dX7_into_152 (lv_at hl 3 rfl) ?_
        refine lv_iconst (v := 0) hx hb dX7_into_154 (by decide) ?_
        obtain ⟨R15, eR15, hiR15, hf⟩ := wr_s hf
        refine r_st X hB hS 28 23 (rat_28 cI cZ o q R14) (rset_28 cI cZ o q R14 _ _) hiR15 dX7_into_155 (fun H locs hB hS => ?_)
        rw [← eR15] at hB
        refine lv_aload_n hx hb dX7_into_156 rfl (lv_at hl 0 rfl) ?_
        refine lv_iload hx hb dX7_into_157 (lv_at hl 2 rfl) ?_
        refine lv_iload hx hb dX7_into_159 (lv_at hl 3 rfl) ?_
        obtain ⟨R16, hqR16, hf⟩ := bn_s hf
        refine r_callV (As := [.int x5, .int x6]) (rest := []) X hB hS (rm_exchange l F D cI cZ o q _ _ _  _ hqR16) (cwV 2 hts (gd_V km_X7_206 ki_X7_exchange ks_X7_exchange kin_RX7 kc_X7_exchange) rfl rfl rfl (by decide +kernel) ⟨by decide, by decide⟩) hl rfl rfl (Nat.le_of_ble_eq_true rfl) dX7_into_161 ⟨Nat.zero_le _, Nat.zero_le _⟩ rfl (fun H locs hB hS => ?_)
        exact J_164 R16 x4 x5 hf _ _ _ hB hS (lv_sub hl [0, 1, 2] rfl)
      · have hf := if_f hf hc12
        refine lv_aload_n hx hb dX7_into_96 rfl (lv_at hl 0 rfl) ?_
        refine r_get X hB 31 87 (by decide) (kw_m kf_X7_87) rfl rfl dX7_into_97 ?_
        refine lv_bipush (v := 12) hx hb dX7_into_100 (by decide) ?_
        refine lv_iload hx hb dX7_into_102 (lv_at hl 4 rfl) ?_
        refine lv_imul hx hb dX7_into_104 ?_
        refine lv_iconst (v := 3) hx hb dX7_into_105 (by decide) ?_
        refine lv_aload_n hx hb dX7_into_106 rfl (lv_at hl 0 rfl) ?_
        refine r_get X hB 30 84 (by decide) (kw_m kf_X7_84) rfl rfl dX7_into_107 ?_
        refine lv_iload hx hb dX7_into_110 (lv_at hl 4 rfl) ?_
        obtain ⟨v17, ev17, hiv17, hf⟩ := rd_s hf
        refine r_ld X hB 30 25 (rat_30 cI cZ o q R) hiv17 ev17 dX7_into_112 ?_
        refine lv_imul hx hb dX7_into_113 ?_
        refine lv_iadd hx hb dX7_into_114 ?_
        refine lv_iload hx hb dX7_into_115 (lv_at hl 5 rfl) ?_
        refine lv_iadd hx hb dX7_into_117 ?_
        refine lv_aload_n hx hb dX7_into_118 rfl (lv_at hl 0 rfl) ?_
        refine r_get X hB 29 81 (by decide) (kw_m kf_X7_81) rfl rfl dX7_into_119 ?_
        refine lv_iconst (v := 3) hx hb dX7_into_122 (by decide) ?_
        refine lv_iload hx hb dX7_into_123 (lv_at hl 3 rfl) ?_
        refine lv_imul hx hb dX7_into_125 ?_
        refine lv_iload hx hb dX7_into_126 (lv_at hl 5 rfl) ?_
        refine lv_iadd hx hb dX7_into_128 ?_
        obtain ⟨v18, ev18, hiv18, hf⟩ := rd_s hf
        refine r_ld X hB 29 24 (rat_29 cI cZ o q R) hiv18 ev18 dX7_into_129 ?_
        obtain ⟨R19, eR19, hiR19, hf⟩ := wr_s hf
        refine r_st X hB hS 31 26 (rat_31 cI cZ o q R) (rset_31 cI cZ o q R _ _) hiR19 dX7_into_130 (fun H locs hB hS => ?_)
        rw [← eR19] at hB
        refine lv_iinc (v := x8 + 1) (lv' := [(8, .int (x8 + 1)), (0, .ref o), (4, .int x4), (5, .int x5), (6, .int x6), (7, .int x7)]) hx hb dX7_into_131 hl (k := 5) rfl rfl (by decide) rfl (fun ls hl => ?_)
        refine lv_goto (tgt := 90) hx hb dX7_into_134 (by decide) ?_
        exact ih_90 R19 x4 x5 x6 x7 (x8 + 1) hf _ _ _ hB hS (lv_sub hl [1, 2, 3, 4, 5, 0] rfl)
  have J_64 : ∀ (R : Rst) (x4 : Int32) (x5 : Int32) (x6 : Int32) (x7 : Int32), rf_into_64 F R x4 x5 x6 x7 = some R' → ∀ (H : Heap) (locs : List Loc) (ls : Array Slot), rB D cI cZ o q R H → va_S (rA o q) s.heap H locs → lv_has ls 9 [(0, .ref o), (4, .int x4), (5, .int x5), (6, .int x6), (7, .int x7)] → W p l e { frames := 1, cells := 0, slots := 0, locals := 24 } s m args below meth c H locs 0 0 (MQ below (mq none (rW D cI cZ o q R') (rA o q)) args s 0 0 (rA o q)) (F0 m 64 ls []) := by
    intro R x4 x5 x6 x7 hf H locs ls hB hS hl
    unfold rf_into_64 at hf
    refine lv_aload_n hx hb dX7_into_64 rfl (lv_at hl 0 rfl) ?_
    refine r_get X hB 28 78 (by decide) (kw_m kf_X7_78) rfl rfl dX7_into_65 ?_
    refine lv_iload hx hb dX7_into_68 (lv_at hl 2 rfl) ?_
    obtain ⟨v4, ev4, hiv4, hf⟩ := rd_s hf
    refine r_ld X hB 28 23 (rat_28 cI cZ o q R) hiv4 ev4 dX7_into_70 ?_
    refine lv_iconst (v := 3) hx hb dX7_into_71 (by decide) ?_
    refine lv_icmp_ne (tgt := 164) hx hb dX7_into_72 (by decide) (fun hc5 => ?_) (fun hc5 => ?_)
    · have hf := if_f hf hc5
      exact J_164 R x4 x5 hf _ _ _ hB hS (lv_sub hl [0, 1, 2] rfl)
    · have hf := if_t hf hc5
      refine lv_aload_n hx hb dX7_into_75 rfl (lv_at hl 0 rfl) ?_
      refine r_get X hB 30 84 (by decide) (kw_m kf_X7_84) rfl rfl dX7_into_76 ?_
      refine lv_iload hx hb dX7_into_79 (lv_at hl 4 rfl) ?_
      obtain ⟨v10, ev10, hiv10, hf⟩ := rd_s hf
      refine r_ld X hB 30 25 (rat_30 cI cZ o q R) hiv10 ev10 dX7_into_81 ?_
      refine lv_iconst (v := 4) hx hb dX7_into_82 (by decide) ?_
      refine lv_icmp_ne (tgt := 87) hx hb dX7_into_83 (by decide) (fun hc11 => ?_) (fun hc11 => ?_)
      · have hf := if_f hf hc11
        refine lv_iconst (v := 0) hx hb dX7_into_87 (by decide) ?_
        refine lv_istore (lv' := [(8, .int 0), (0, .ref o), (4, .int x4), (5, .int x5), (6, .int x6), (7, .int x7)]) hx hb dX7_into_88 hl (by decide) rfl (fun ls hl => ?_)
        exact J_90 F R x4 x5 x6 x7 (0 : Int32) hf _ _ _ hB hS (lv_sub hl [1, 2, 3, 4, 5, 0] rfl)
      · have hf := if_t hf hc11
        cases hf
        exact r_vret X hB hS hr hlk dX7_into_86
  unfold rf_into at hf
  refine lv_iload_n hx hb dX7_into_0 rfl (lv_at hl 1 rfl) ?_
  refine lv_iload_n hx hb dX7_into_1 rfl (lv_at hl 2 rfl) ?_
  refine lv_iload_n hx hb dX7_into_2 rfl (lv_at hl 3 rfl) ?_
  refine lv_iconst (v := 0) hx hb dX7_into_3 (by decide) ?_
  obtain ⟨v1, hqv1, hf⟩ := bn_s hf
  refine r_callS (As := [.int x1, .int x2, .int x3, .int 0]) (rest := []) X hB hS (rm_magazine l F D cI cZ o q _ _ _ _ _  _ hqv1) (va_cwS 4 hts (gd_S km_X7_190 kst_X7_magazine kin_RX7 kc_X7_magazine) rfl rfl rfl (by decide +kernel) ⟨by decide, by decide⟩) hl rfl rfl (Nat.le_of_ble_eq_true rfl) dX7_into_4 ⟨Nat.zero_le _, Nat.zero_le _⟩ rfl (fun H locs hB hS => ?_)
  refine lv_istore (lv' := [(5, .int v1), (0, .ref o), (1, .int x1), (2, .int x2), (3, .int x3), (4, .int x4)]) hx hb dX7_into_7 hl (by decide) rfl (fun ls hl => ?_)
  refine lv_iload hx hb dX7_into_9 (lv_at hl 0 rfl) ?_
  refine lv_iconst (v := 1) hx hb dX7_into_11 (by decide) ?_
  refine lv_iadd hx hb dX7_into_12 ?_
  refine lv_istore (lv' := [(6, .int (v1 + 1)), (5, .int v1), (0, .ref o), (1, .int x1), (2, .int x2), (3, .int x3), (4, .int x4)]) hx hb dX7_into_13 hl (by decide) rfl (fun ls hl => ?_)
  refine lv_bipush (v := 9) hx hb dX7_into_15 (by decide) ?_
  refine lv_iload_n hx hb dX7_into_17 rfl (lv_at hl 3 rfl) ?_
  refine lv_imul hx hb dX7_into_18 ?_
  refine lv_iload_n hx hb dX7_into_19 rfl (lv_at hl 4 rfl) ?_
  refine lv_iadd hx hb dX7_into_20 ?_
  refine lv_istore (lv' := [(7, .int ((9 * x1) + x2)), (6, .int (v1 + 1)), (5, .int v1), (0, .ref o), (1, .int x1), (2, .int x2), (3, .int x3), (4, .int x4)]) hx hb dX7_into_21 hl (by decide) rfl (fun ls hl => ?_)
  refine lv_aload_n hx hb dX7_into_23 rfl (lv_at hl 3 rfl) ?_
  refine r_get X hB 28 78 (by decide) (kw_m kf_X7_78) rfl rfl dX7_into_24 ?_
  refine lv_iload hx hb dX7_into_27 (lv_at hl 2 rfl) ?_
  obtain ⟨v2, ev2, hiv2, hf⟩ := rd_s hf
  refine r_ld X hB 28 23 (rat_28 cI cZ o q R) hiv2 ev2 dX7_into_29 ?_
  refine lv_iconst (v := 3) hx hb dX7_into_30 (by decide) ?_
  refine lv_icmp_ne (tgt := 64) hx hb dX7_into_31 (by decide) (fun hc3 => ?_) (fun hc3 => ?_)
  · have hf := if_f hf hc3
    exact J_64 R x4 v1 (v1 + 1) ((9 * x1) + x2) hf _ _ _ hB hS (lv_sub hl [3, 7, 2, 1, 0] rfl)
  · have hf := if_t hf hc3
    refine lv_aload_n hx hb dX7_into_34 rfl (lv_at hl 3 rfl) ?_
    refine r_get X hB 28 78 (by decide) (kw_m kf_X7_78) rfl rfl dX7_into_35 ?_
    refine lv_iload hx hb dX7_into_38 (lv_at hl 1 rfl) ?_
    obtain ⟨v20, ev20, hiv20, hf⟩ := rd_s hf
    refine r_ld X hB 28 23 (rat_28 cI cZ o q R) hiv20 ev20 dX7_into_40 ?_
    refine lv_iconst (v := 3) hx hb dX7_into_41 (by decide) ?_
    refine lv_icmp_ge (tgt := 64) hx hb dX7_into_42 (by decide) (fun hc21 => ?_) (fun hc21 => ?_)
    · have hf := if_t hf hc21
      exact J_64 R x4 v1 (v1 + 1) ((9 * x1) + x2) hf _ _ _ hB hS (lv_sub hl [3, 7, 2, 1, 0] rfl)
    · have hf := if_f hf hc21
      refine lv_aload_n hx hb dX7_into_45 rfl (lv_at hl 3 rfl) ?_
      refine r_get X hB 28 78 (by decide) (kw_m kf_X7_78) rfl rfl dX7_into_46 ?_
      refine lv_iload hx hb dX7_into_49 (lv_at hl 1 rfl) ?_
      refine lv_iconst (v := 0) hx hb dX7_into_51 (by decide) ?_
      obtain ⟨R22, eR22, hiR22, hf⟩ := wr_s hf
      refine r_st X hB hS 28 23 (rat_28 cI cZ o q R) (rset_28 cI cZ o q R _ _) hiR22 dX7_into_52 (fun H locs hB hS => ?_)
      rw [← eR22] at hB
      refine lv_aload_n hx hb dX7_into_53 rfl (lv_at hl 3 rfl) ?_
      refine lv_iload hx hb dX7_into_54 (lv_at hl 2 rfl) ?_
      refine lv_iload hx hb dX7_into_56 (lv_at hl 1 rfl) ?_
      obtain ⟨R23, hqR23, hf⟩ := bn_s hf
      refine r_callV (As := [.int v1, .int (v1 + 1)]) (rest := []) X hB hS (rm_exchange l F D cI cZ o q _ _ _  _ hqR23) (cwV 2 hts (gd_V km_X7_206 ki_X7_exchange ks_X7_exchange kin_RX7 kc_X7_exchange) rfl rfl rfl (by decide +kernel) ⟨by decide, by decide⟩) hl rfl rfl (Nat.le_of_ble_eq_true rfl) dX7_into_58 ⟨Nat.zero_le _, Nat.zero_le _⟩ rfl (fun H locs hB hS => ?_)
      refine lv_goto (tgt := 164) hx hb dX7_into_61 (by decide) ?_
      exact J_164 R23 x4 v1 hf _ _ _ hB hS (lv_sub hl [3, 7, 2] rfl)
/-! X7_rounded -/
def rf_rounded (F : Nat) (R : Rst) (x1 : Int32) (x2 : Int32) : Option Int64 := rd R 2 x1 fun v1 => dvl v1.toInt64 (some ((((x2.toInt64 + v1.toInt64) - 1) / v1.toInt64) * v1.toInt64))
set_option maxHeartbeats 4000000 in
set_option maxRecDepth 100000 in
theorem rm_rounded (l : Launch) (F : Nat) (D : va_G) (cI cZ : ClassId) (o : Nat) (q : Nat → Nat) (R : Rst) (x1 : Int32) (x2 : Int32) (r : Int64) (hf : rf_rounded F R x1 x2 = some r)   : rMet l yX7_rounded wq_X7_rounded { frames := 0, cells := 0, slots := 0, locals := 0 } D cI cZ o q [.ref o, .int x1, .int x2] R (some (.long r)) R := by
  refine rMet_of (cc := cX7_rounded) (maxL := 5) (ret := (some .long)) (by decide) rfl rfl (kw_h kw_X7) (Nat.le_of_ble_eq_true rfl) ?_
  intro p e s m below meth c X hr hlk ls hl hB hS
  have hx := X.1.1
  have hb := X.1.2.1
  have hown := X.1.2.2.2.1
  have hts := X.1.2.2.2.2
  have hl : lv_has ls 5 [(0, .ref o), (1, .int x1), (2, .int x2)] := hl
  generalize hargs : ([.ref o, .int x1, .int x2] : List Value).toArray = args at X hts hS ⊢
  unfold rf_rounded at hf
  refine lv_aload_n hx hb dX7_rounded_0 rfl (lv_at hl 0 rfl) ?_
  refine r_get X hB 2 7 (by decide) (kw_m kf_X7_7) rfl rfl dX7_rounded_1 ?_
  refine lv_iload_n hx hb dX7_rounded_4 rfl (lv_at hl 1 rfl) ?_
  obtain ⟨v1, ev1, hiv1, hf⟩ := rd_s hf
  refine r_ld X hB 2 1 (rat_2 cI cZ o q R) hiv1 ev1 dX7_rounded_5 ?_
  refine lv_i2l (v := v1.toInt64) hx hb dX7_rounded_6 rfl ?_
  refine lv_lstore_n (lv' := [(3, .long v1.toInt64), (0, .ref o), (1, .int x1), (2, .int x2)]) hx hb dX7_rounded_7 rfl hl (by decide) rfl (fun ls hl => ?_)
  refine lv_iload_n hx hb dX7_rounded_8 rfl (lv_at hl 3 rfl) ?_
  refine lv_i2l (v := x2.toInt64) hx hb dX7_rounded_9 rfl ?_
  refine lv_lload_n hx hb dX7_rounded_10 rfl (lv_at hl 0 rfl) ?_
  refine lv_ladd hx hb dX7_rounded_11 ?_
  refine lv_lconst (v := 1) hx hb dX7_rounded_12 (by decide) ?_
  refine lv_lsub hx hb dX7_rounded_13 ?_
  refine lv_lload_n hx hb dX7_rounded_14 rfl (lv_at hl 0 rfl) ?_
  obtain ⟨hd2, hf⟩ := dvl_s hf
  refine lv_ldiv hx hb dX7_rounded_15 hd2 ?_
  refine lv_lload_n hx hb dX7_rounded_16 rfl (lv_at hl 0 rfl) ?_
  refine lv_lmul hx hb dX7_rounded_17 ?_
  cases hf
  exact r_lret X hB hS hr hlk dX7_rounded_18
/-! X7_take -/
def rf_take_40 (F : Nat) (R : Rst) (x1 : Int32) (x2 : Int32) (x3 : Int32) (x4 : Int32) (y0 : Int32) : Option (Int32 × Rst) := (rf_right F R y0 (2 : Int32)).bind fun z4 => st2 z4 fun z4v z4R => if z4v = 0 then (some ((0 : Int32), z4R)) else ((rf_left F z4R ).bind fun v6 => if (40 : Int32) ≤ v6 then ((rf_rounded F z4R x1 x2).bind fun v8 => rd z4R 4 x1 fun v9 => rd z4R 2 x1 fun v10 => if (lg_cmp v8 (v9.toInt64 * v10.toInt64)) ≤ 0 then (rd z4R 2 x1 fun v12 => dvl v12.toInt64 ((rf_out F z4R x1 ((v8 / v12.toInt64).toInt32) x4).bind fun z13 => st2 z13 fun z13v z13R => if z13v = ((-1) : Int32) then (some (((-1) : Int32), z13R)) else (wr z13R 26 (z13R.1 25) x1 fun R15 => wr R15 27 (R15.1 25) z13v fun R16 => st1 (rput R16 25 ((R16.1 25) + 1)) fun R17 => some (z13v, R17)))) else ((rf_takes F 9 z4R x1 v8 x3 (1 : Int32)).bind fun z19 => st2 z19 fun z19v z19R => some (z19v, z19R))) else (some (((-2) : Int32), z4R)))
def rf_take (F : Nat) (R : Rst) (x1 : Int32) (x2 : Int32) (x3 : Int32) (x4 : Int32) : Option (Int32 × Rst) := (rf_isArena F R x1).bind fun z1 => st2 z1 fun z1v z1R => if z1v = 0 then (some ((0 : Int32), z1R)) else (if x2 ≤ 0 then (rf_take_40 F z1R x1 x2 x3 x4 (0 : Int32)) else (if x3 < 0 then (rf_take_40 F z1R x1 x2 x3 x4 (0 : Int32)) else (if (2 : Int32) < x3 then (rf_take_40 F z1R x1 x2 x3 x4 (0 : Int32)) else (if x4 = 0 then (rf_take_40 F z1R x1 x2 x3 x4 (1 : Int32)) else (if x4 = (1 : Int32) then (rf_take_40 F z1R x1 x2 x3 x4 (1 : Int32)) else (rf_take_40 F z1R x1 x2 x3 x4 (0 : Int32)))))))
set_option maxHeartbeats 4000000 in
set_option maxRecDepth 100000 in
theorem rm_take (l : Launch) (F : Nat) (D : va_G) (cI cZ : ClassId) (o : Nat) (q : Nat → Nat) (R : Rst) (x1 : Int32) (x2 : Int32) (x3 : Int32) (x4 : Int32) (r : Int32) (R' : Rst) (hf : rf_take F R x1 x2 x3 x4 = some (r, R'))   : rMet l yX7_take wq_X7_take { frames := 50, cells := 0, slots := 0, locals := 2335 } D cI cZ o q [.ref o, .int x1, .int x2, .int x3, .int x4] R (some (.int r)) R' := by
  refine rMet_of (cc := cX7_take) (maxL := 8) (ret := (some .int)) (by decide) rfl rfl (kw_h kw_X7) (Nat.le_of_ble_eq_true rfl) ?_
  intro p e s m below meth c X hr hlk ls hl hB hS
  have hx := X.1.1
  have hb := X.1.2.1
  have hown := X.1.2.2.2.1
  have hts := X.1.2.2.2.2
  have hl : lv_has ls 8 [(0, .ref o), (1, .int x1), (2, .int x2), (3, .int x3), (4, .int x4)] := hl
  generalize hargs : ([.ref o, .int x1, .int x2, .int x3, .int x4] : List Value).toArray = args at X hts hS ⊢
  have J_40 : ∀ (R : Rst) (x1 : Int32) (x2 : Int32) (x3 : Int32) (x4 : Int32) (y0 : Int32), rf_take_40 F R x1 x2 x3 x4 y0 = some (r, R') → ∀ (H : Heap) (locs : List Loc) (ls : Array Slot), rB D cI cZ o q R H → va_S (rA o q) s.heap H locs → lv_has ls 8 [(0, .ref o), (1, .int x1), (2, .int x2), (3, .int x3), (4, .int x4)] → W p l e { frames := 50, cells := 0, slots := 0, locals := 2335 } s m args below meth c H locs 0 0 (MQ below (mq (some (.int r)) (rW D cI cZ o q R') (rA o q)) args s 0 0 (rA o q)) (F0 m 40 ls [.int y0, .ref o]) := by
    intro R x1 x2 x3 x4 y0 hf H locs ls hB hS hl
    unfold rf_take_40 at hf
    refine lv_iconst (v := 2) hx hb dX7_take_40 (by decide) ?_
    obtain ⟨⟨z4v, z4R⟩, hqz4, hf⟩ := bn_s hf
    have hf := st2_s hf
    refine r_callV (As := [.int y0, .int 2]) (rest := []) X hB hS (rm_right l F D cI cZ o q _ _ _  _ _ hqz4) (cwV 2 hts (gd_V km_X7_97 ki_X7_right ks_X7_right kin_RX7 kc_X7_right) rfl rfl rfl (by decide +kernel) ⟨by decide, by decide⟩) hl rfl rfl (Nat.le_of_ble_eq_true rfl) dX7_take_41 ⟨Nat.zero_le _, Nat.zero_le _⟩ rfl (fun H locs hB hS => ?_)
    refine lv_if_ne (tgt := 49) hx hb dX7_take_44 (by decide) (fun hc5 => ?_) (fun hc5 => ?_)
    · have hf := if_f hf hc5
      refine lv_aload_n hx hb dX7_take_49 rfl (lv_at hl 0 rfl) ?_
      obtain ⟨v6, hqv6, hf⟩ := bn_s hf
      refine r_callV (As := []) (rest := []) X hB hS (rm_left l F D cI cZ o q _  _ hqv6) (cwV 0 hts (gd_V km_X7_135 ki_X7_left ks_X7_left kin_RX7 kc_X7_left) rfl rfl rfl (by decide +kernel) ⟨by decide, by decide⟩) hl rfl rfl (Nat.le_of_ble_eq_true rfl) dX7_take_50 ⟨Nat.zero_le _, Nat.zero_le _⟩ rfl (fun H locs hB hS => ?_)
      refine lv_bipush (v := 40) hx hb dX7_take_53 (by decide) ?_
      refine lv_icmp_ge (tgt := 61) hx hb dX7_take_55 (by decide) (fun hc7 => ?_) (fun hc7 => ?_)
      · have hf := if_t hf hc7
        refine lv_aload_n hx hb dX7_take_61 rfl (lv_at hl 0 rfl) ?_
        refine lv_iload_n hx hb dX7_take_62 rfl (lv_at hl 1 rfl) ?_
        refine lv_iload_n hx hb dX7_take_63 rfl (lv_at hl 2 rfl) ?_
        obtain ⟨v8, hqv8, hf⟩ := bn_s hf
        refine r_callV (As := [.int x1, .int x2]) (rest := []) X hB hS (rm_rounded l F D cI cZ o q _ _ _  _ hqv8) (cwV 2 hts (gd_V km_X7_215 ki_X7_rounded ks_X7_rounded kin_RX7 kc_X7_rounded) rfl rfl rfl (by decide +kernel) ⟨by decide, by decide⟩) hl rfl rfl (Nat.le_of_ble_eq_true rfl) dX7_take_64 ⟨Nat.zero_le _, Nat.zero_le _⟩ rfl (fun H locs hB hS => ?_)
        refine lv_lstore (lv' := [(5, .long v8), (0, .ref o), (1, .int x1), (2, .int x2), (3, .int x3), (4, .int x4)]) hx hb dX7_take_67 hl (by decide) rfl (fun ls hl => ?_)
        refine lv_lload hx hb dX7_take_69 (lv_at hl 0 rfl) ?_
        refine lv_aload_n hx hb dX7_take_71 rfl (lv_at hl 1 rfl) ?_
        refine r_get X hB 4 16 (by decide) (kw_m kf_X7_16) rfl rfl dX7_take_72 ?_
        refine lv_iload_n hx hb dX7_take_75 rfl (lv_at hl 2 rfl) ?_
        obtain ⟨v9, ev9, hiv9, hf⟩ := rd_s hf
        refine r_ld X hB 4 3 (rat_4 cI cZ o q z4R) hiv9 ev9 dX7_take_76 ?_
        refine lv_i2l (v := v9.toInt64) hx hb dX7_take_77 rfl ?_
        refine lv_aload_n hx hb dX7_take_78 rfl (lv_at hl 1 rfl) ?_
        refine r_get X hB 2 7 (by decide) (kw_m kf_X7_7) rfl rfl dX7_take_79 ?_
        refine lv_iload_n hx hb dX7_take_82 rfl (lv_at hl 2 rfl) ?_
        obtain ⟨v10, ev10, hiv10, hf⟩ := rd_s hf
        refine r_ld X hB 2 1 (rat_2 cI cZ o q z4R) hiv10 ev10 dX7_take_83 ?_
        refine lv_i2l (v := v10.toInt64) hx hb dX7_take_84 rfl ?_
        refine lv_lmul hx hb dX7_take_85 ?_
        refine W.lcmp hx hb dX7_take_86 ?_
        refine lv_if_le (tgt := 100) hx hb dX7_take_87 (by decide) (fun hc11 => ?_) (fun hc11 => ?_)
        · have hf := if_t hf hc11
          refine lv_aload_n hx hb dX7_take_100 rfl (lv_at hl 1 rfl) ?_
          refine lv_iload_n hx hb dX7_take_101 rfl (lv_at hl 2 rfl) ?_
          refine lv_lload hx hb dX7_take_102 (lv_at hl 0 rfl) ?_
          refine lv_aload_n hx hb dX7_take_104 rfl (lv_at hl 1 rfl) ?_
          refine r_get X hB 2 7 (by decide) (kw_m kf_X7_7) rfl rfl dX7_take_105 ?_
          refine lv_iload_n hx hb dX7_take_108 rfl (lv_at hl 2 rfl) ?_
          obtain ⟨v12, ev12, hiv12, hf⟩ := rd_s hf
          refine r_ld X hB 2 1 (rat_2 cI cZ o q z4R) hiv12 ev12 dX7_take_109 ?_
          refine lv_i2l (v := v12.toInt64) hx hb dX7_take_110 rfl ?_
          obtain ⟨hd18, hf⟩ := dvl_s hf
          refine lv_ldiv hx hb dX7_take_111 hd18 ?_
          refine lv_l2i (v := (v8 / v12.toInt64).toInt32) hx hb dX7_take_112 rfl ?_
          refine lv_iload hx hb dX7_take_113 (lv_at hl 5 rfl) ?_
          obtain ⟨⟨z13v, z13R⟩, hqz13, hf⟩ := bn_s hf
          have hf := st2_s hf
          refine r_callV (As := [.int x1, .int ((v8 / v12.toInt64).toInt32), .int x4]) (rest := []) X hB hS (rm_out l F D cI cZ o q _ _ _ _  _ _ hqz13) (cwV 3 hts (gd_V km_X7_219 ki_X7_out ks_X7_out kin_RX7 kc_X7_out) rfl rfl rfl (by decide +kernel) ⟨by decide, by decide⟩) hl rfl rfl (Nat.le_of_ble_eq_true rfl) dX7_take_115 ⟨Nat.zero_le _, Nat.zero_le _⟩ rfl (fun H locs hB hS => ?_)
          refine lv_istore (lv' := [(7, .int z13v), (5, .long v8), (0, .ref o), (1, .int x1), (2, .int x2), (3, .int x3), (4, .int x4)]) hx hb dX7_take_118 hl (by decide) rfl (fun ls hl => ?_)
          refine lv_iload hx hb dX7_take_120 (lv_at hl 0 rfl) ?_
          refine lv_iconst (v := (-1)) hx hb dX7_take_122 (by decide) ?_
          refine lv_icmp_ne (tgt := 128) hx hb dX7_take_123 (by decide) (fun hc14 => ?_) (fun hc14 => ?_)
          · have hf := if_f hf hc14
            refine lv_aload_n hx hb dX7_take_128 rfl (lv_at hl 2 rfl) ?_
            refine r_get X hB 26 72 (by decide) (kw_m kf_X7_72) rfl rfl dX7_take_129 ?_
            refine lv_aload_n hx hb dX7_take_132 rfl (lv_at hl 2 rfl) ?_
            refine r_get X hB 25 183 (by decide) (kw_m kf_X7_183) rfl rfl dX7_take_133 ?_
            refine lv_iload_n hx hb dX7_take_136 rfl (lv_at hl 3 rfl) ?_
            obtain ⟨R15, eR15, hiR15, hf⟩ := wr_s hf
            refine r_st X hB hS 26 21 (rat_26 cI cZ o q z13R) (rset_26 cI cZ o q z13R _ _) hiR15 dX7_take_137 (fun H locs hB hS => ?_)
            rw [← eR15] at hB
            refine lv_aload_n hx hb dX7_take_138 rfl (lv_at hl 2 rfl) ?_
            refine r_get X hB 27 75 (by decide) (kw_m kf_X7_75) rfl rfl dX7_take_139 ?_
            refine lv_aload_n hx hb dX7_take_142 rfl (lv_at hl 2 rfl) ?_
            refine r_get X hB 25 183 (by decide) (kw_m kf_X7_183) rfl rfl dX7_take_143 ?_
            refine lv_iload hx hb dX7_take_146 (lv_at hl 0 rfl) ?_
            obtain ⟨R16, eR16, hiR16, hf⟩ := wr_s hf
            refine r_st X hB hS 27 22 (rat_27 cI cZ o q R15) (rset_27 cI cZ o q R15 _ _) hiR16 dX7_take_148 (fun H locs hB hS => ?_)
            rw [← eR16] at hB
            refine lv_aload_n hx hb dX7_take_149 rfl (lv_at hl 2 rfl) ?_
            refine lv_dup hx hb dX7_take_150 rfl ?_
            refine r_get X hB 25 183 (by decide) (kw_m kf_X7_183) rfl rfl dX7_take_151 ?_
            refine lv_iconst (v := 1) hx hb dX7_take_154 (by decide) ?_
            refine lv_iadd hx hb dX7_take_155 ?_
            obtain ⟨R17, eR17, hf⟩ := st1_s hf
            refine r_put X hB hS 25 183 (by decide) (kw_m kf_X7_183) rfl rfl rfl (rput_25 cI cZ o q R16 _) dX7_take_156 (fun H locs hB hS => ?_)
            rw [← eR17] at hB
            refine lv_iload hx hb dX7_take_159 (lv_at hl 0 rfl) ?_
            cases hf
            exact r_iret X hB hS hr hlk dX7_take_161
          · have hf := if_t hf hc14
            refine lv_iconst (v := (-1)) hx hb dX7_take_126 (by decide) ?_
            cases hf
            exact r_iret X hB hS hr hlk dX7_take_127
        · have hf := if_f hf hc11
          refine lv_aload_n hx hb dX7_take_90 rfl (lv_at hl 1 rfl) ?_
          refine lv_iload_n hx hb dX7_take_91 rfl (lv_at hl 2 rfl) ?_
          refine lv_lload hx hb dX7_take_92 (lv_at hl 0 rfl) ?_
          refine lv_iload_n hx hb dX7_take_94 rfl (lv_at hl 4 rfl) ?_
          refine lv_iconst (v := 1) hx hb dX7_take_95 (by decide) ?_
          obtain ⟨⟨z19v, z19R⟩, hqz19, hf⟩ := bn_s hf
          have hf := st2_s hf
          refine r_callV (As := [.int x1, .long v8, .int x3, .int 1]) (rest := []) X hB hS (rm_takes l F 9 D cI cZ o q _ _ _ _ _  _ _ hqz19) (cwV 4 hts (gd_V km_X7_173 ki_X7_takes ks_X7_takes kin_RX7 kc_X7_takes) rfl rfl rfl (by decide +kernel) ⟨by decide, by decide⟩) hl rfl rfl (Nat.le_of_ble_eq_true rfl) dX7_take_96 ⟨Nat.zero_le _, Nat.zero_le _⟩ rfl (fun H locs hB hS => ?_)
          cases hf
          exact r_iret X hB hS hr hlk dX7_take_99
      · have hf := if_f hf hc7
        refine lv_bipush (v := (-2)) hx hb dX7_take_58 (by decide) ?_
        cases hf
        exact r_iret X hB hS hr hlk dX7_take_60
    · have hf := if_t hf hc5
      refine lv_iconst (v := 0) hx hb dX7_take_47 (by decide) ?_
      cases hf
      exact r_iret X hB hS hr hlk dX7_take_48
  unfold rf_take at hf
  refine lv_aload_n hx hb dX7_take_0 rfl (lv_at hl 0 rfl) ?_
  refine lv_iload_n hx hb dX7_take_1 rfl (lv_at hl 1 rfl) ?_
  obtain ⟨⟨z1v, z1R⟩, hqz1, hf⟩ := bn_s hf
  have hf := st2_s hf
  refine r_callV (As := [.int x1]) (rest := []) X hB hS (rm_isArena l F D cI cZ o q _ _  _ _ hqz1) (cwV 1 hts (gd_V km_X7_132 ki_X7_isArena ks_X7_isArena kin_RX7 kc_X7_isArena) rfl rfl rfl (by decide +kernel) ⟨by decide, by decide⟩) hl rfl rfl (Nat.le_of_ble_eq_true rfl) dX7_take_2 ⟨Nat.zero_le _, Nat.zero_le _⟩ rfl (fun H locs hB hS => ?_)
  refine lv_if_ne (tgt := 10) hx hb dX7_take_5 (by decide) (fun hc2 => ?_) (fun hc2 => ?_)
  · have hf := if_f hf hc2
    refine lv_aload_n hx hb dX7_take_10 rfl (lv_at hl 0 rfl) ?_
    refine lv_iload_n hx hb dX7_take_11 rfl (lv_at hl 2 rfl) ?_
    refine lv_if_le (tgt := 39) hx hb dX7_take_12 (by decide) (fun hc3 => ?_) (fun hc3 => ?_)
    · have hf := if_t hf hc3
      refine lv_iconst (v := 0) hx hb dX7_take_39 (by decide) ?_
      exact J_40 z1R x1 x2 x3 x4 (0 : Int32) hf _ _ _ hB hS (lv_sub hl [0, 1, 2, 3, 4] rfl)
    · have hf := if_f hf hc3
      refine lv_iload_n hx hb dX7_take_15 rfl (lv_at hl 3 rfl) ?_
      refine lv_if_lt (tgt := 39) hx hb dX7_take_16 (by decide) (fun hc20 => ?_) (fun hc20 => ?_)
      · have hf := if_t hf hc20
        refine lv_iconst (v := 0) hx hb dX7_take_39 (by decide) ?_
        exact J_40 z1R x1 x2 x3 x4 (0 : Int32) hf _ _ _ hB hS (lv_sub hl [0, 1, 2, 3, 4] rfl)
      · have hf := if_f hf hc20
        refine lv_iload_n hx hb dX7_take_19 rfl (lv_at hl 3 rfl) ?_
        refine lv_iconst (v := 2) hx hb dX7_take_20 (by decide) ?_
        refine lv_icmp_gt (tgt := 39) hx hb dX7_take_21 (by decide) (fun hc21 => ?_) (fun hc21 => ?_)
        · have hf := if_t hf hc21
          refine lv_iconst (v := 0) hx hb dX7_take_39 (by decide) ?_
          exact J_40 z1R x1 x2 x3 x4 (0 : Int32) hf _ _ _ hB hS (lv_sub hl [0, 1, 2, 3, 4] rfl)
        · have hf := if_f hf hc21
          refine lv_iload hx hb dX7_take_24 (lv_at hl 4 rfl) ?_
          refine lv_if_eq (tgt := 35) hx hb dX7_take_26 (by decide) (fun hc22 => ?_) (fun hc22 => ?_)
          · have hf := if_t hf hc22
            refine lv_iconst (v := 1) hx hb dX7_take_35 (by decide) ?_
            refine lv_goto (tgt := 40) hx hb dX7_take_36 (by decide) ?_
            exact J_40 z1R x1 x2 x3 x4 (1 : Int32) hf _ _ _ hB hS (lv_sub hl [0, 1, 2, 3, 4] rfl)
          · have hf := if_f hf hc22
            refine lv_iload hx hb dX7_take_29 (lv_at hl 4 rfl) ?_
            refine lv_iconst (v := 1) hx hb dX7_take_31 (by decide) ?_
            refine lv_icmp_ne (tgt := 39) hx hb dX7_take_32 (by decide) (fun hc23 => ?_) (fun hc23 => ?_)
            · have hf := if_f hf hc23
              refine lv_iconst (v := 0) hx hb dX7_take_39 (by decide) ?_
              exact J_40 z1R x1 x2 x3 x4 (0 : Int32) hf _ _ _ hB hS (lv_sub hl [0, 1, 2, 3, 4] rfl)
            · have hf := if_t hf hc23
              refine lv_iconst (v := 1) hx hb dX7_take_35 (by decide) ?_
              refine lv_goto (tgt := 40) hx hb dX7_take_36 (by decide) ?_
              exact J_40 z1R x1 x2 x3 x4 (1 : Int32) hf _ _ _ hB hS (lv_sub hl [0, 1, 2, 3, 4] rfl)
  · have hf := if_t hf hc2
    refine lv_iconst (v := 0) hx hb dX7_take_8 (by decide) ?_
    cases hf
    exact r_iret X hB hS hr hlk dX7_take_9
