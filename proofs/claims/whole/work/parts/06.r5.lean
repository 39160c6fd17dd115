/-! X7_slabAt -/
def rf_slabAt_2 (F : Nat) (R : Rst) : Nat → Int32 → Int32 → Int32 → Option Int32
  | 0 => fun _ _ _ => none
  | n + 1 => fun x1 x2 x3 => if (R.1 10) ≤ x3 then (some ((-1) : Int32)) else (rd R 11 x3 fun v2 => if v2 = x1 then (rd R 14 x3 fun v4 => if v4 = (2 : Int32) then (rd R 12 x3 fun v6 => if x2 < v6 then ((rf_slabAt_2 F R n) x1 x2 (x3 + 1)) else (rd R 12 x3 fun v8 => rd R 13 x3 fun v9 => if (v8 + v9) ≤ x2 then ((rf_slabAt_2 F R n) x1 x2 (x3 + 1)) else (some x3))) else ((rf_slabAt_2 F R n) x1 x2 (x3 + 1))) else ((rf_slabAt_2 F R n) x1 x2 (x3 + 1)))
def rf_slabAt (F : Nat) (R : Rst) (x1 : Int32) (x2 : Int32) : Option Int32 := rf_slabAt_2 F R F x1 x2 (0 : Int32)
set_option maxHeartbeats 4000000 in
set_option maxRecDepth 100000 in
theorem rm_slabAt (l : Launch) (F : Nat) (D : va_G) (cI cZ : ClassId) (o : Nat) (q : Nat → Nat) (R : Rst) (x1 : Int32) (x2 : Int32) (r : Int32) (hf : rf_slabAt F R x1 x2 = some r)   : rMet l yX7_slabAt wq_X7_slabAt { frames := 0, cells := 0, slots := 0, locals := 0 } D cI cZ o q [.ref o, .int x1, .int x2] R (some (.int r)) R := by
  refine rMet_of (cc := cX7_slabAt) (maxL := 4) (ret := (some .int)) (by decide) rfl rfl (kw_h kw_X7) (Nat.le_of_ble_eq_true rfl) ?_
  intro p e s m below meth c X hr hlk ls hl hB hS
  have hx := X.1.1
  have hb := X.1.2.1
  have hown := X.1.2.2.2.1
  have hts := X.1.2.2.2.2
  have hl : lv_has ls 4 [(0, .ref o), (1, .int x1), (2, .int x2)] := hl
  generalize hargs : ([.ref o, .int x1, .int x2] : List Value).toArray = args at X hts hS ⊢
  have J_2 : ∀ (n_2 : Nat) (x1 : Int32) (x2 : Int32) (x3 : Int32), rf_slabAt_2 F R n_2 x1 x2 x3 = some r → ∀ (H : Heap) (locs : List Loc) (ls : Array Slot), rB D cI cZ o q R H → va_S (rA o q) s.heap H locs → lv_has ls 4 [(0, .ref o), (1, .int x1), (2, .int x2), (3, .int x3)] → W p l e { frames := 0, cells := 0, slots := 0, locals := 0 } s m args below meth c H locs 0 0 (MQ below (mq (some (.int r)) (rW D cI cZ o q R) (rA o q)) args s 0 0 (rA o q)) (F0 m 2 ls []) := by
    intro n_2
    induction n_2 with
    | zero => intro x1 x2 x3 hf; cases hf
    | succ n_2 ih_2 =>
      intro x1 x2 x3 hf H locs ls hB hS hl
      rw [rf_slabAt_2] at hf
      refine lv_iload_n hx hb dX7_slabAt_2 rfl (lv_at hl 3 rfl) ?_
      refine lv_aload_n hx hb dX7_slabAt_3 rfl (lv_at hl 0 rfl) ?_
      refine r_get X hB 10 107 (by decide) (kw_m kf_X7_107) rfl rfl dX7_slabAt_4 ?_
      refine lv_icmp_ge (tgt := 65) hx hb dX7_slabAt_7 (by decide) (fun hc1 => ?_) (fun hc1 => ?_)
      · have hf := if_t hf hc1
        refine lv_iconst (v := (-1)) hx hb dX7_slabAt_65 (by decide) ?_
        cases hf
        exact r_iret X hB hS hr hlk dX7_slabAt_66
      · have hf := if_f hf hc1
        refine lv_aload_n hx hb dX7_slabAt_10 rfl (lv_at hl 0 rfl) ?_
        refine r_get X hB 11 34 (by decide) (kw_m kf_X7_34) rfl rfl dX7_slabAt_11 ?_
        refine lv_iload_n hx hb dX7_slabAt_14 rfl (lv_at hl 3 rfl) ?_
        obtain ⟨v2, ev2, hiv2, hf⟩ := rd_s hf
        refine r_ld X hB 11 9 (rat_11 cI cZ o q R) hiv2 ev2 dX7_slabAt_15 ?_
        refine lv_iload_n hx hb dX7_slabAt_16 rfl (lv_at hl 1 rfl) ?_
        refine lv_icmp_ne (tgt := 59) hx hb dX7_slabAt_17 (by decide) (fun hc3 => ?_) (fun hc3 => ?_)
        · have hf := if_f hf hc3
          refine lv_iinc (v := x3 + 1) (lv' := [(3, .int (x3 + 1)), (0, .ref o), (1, .int x1), (2, .int x2)]) hx hb dX7_slabAt_59 hl (k := 3) rfl rfl (by decide) rfl (fun ls hl => ?_)
          refine lv_goto (tgt := 2) hx hb dX7_slabAt_62 (by decide) ?_
          exact ih_2 x1 x2 (x3 + 1) hf _ _ _ hB hS (lv_sub hl [1, 2, 3, 0] rfl)
        · have hf := if_t hf hc3
          refine lv_aload_n hx hb dX7_slabAt_20 rfl (lv_at hl 0 rfl) ?_
          refine r_get X hB 14 43 (by decide) (kw_m kf_X7_43) rfl rfl dX7_slabAt_21 ?_
          refine lv_iload_n hx hb dX7_slabAt_24 rfl (lv_at hl 3 rfl) ?_
          obtain ⟨v4, ev4, hiv4, hf⟩ := rd_s hf
          refine r_ld X hB 14 12 (rat_14 cI cZ o q R) hiv4 ev4 dX7_slabAt_25 ?_
          refine lv_iconst (v := 2) hx hb dX7_slabAt_26 (by decide) ?_
          refine lv_icmp_ne (tgt := 59) hx hb dX7_slabAt_27 (by decide) (fun hc5 => ?_) (fun hc5 => ?_)
          · have hf := if_f hf hc5
            refine lv_iinc (v := x3 + 1) (lv' := [(3, .int (x3 + 1)), (0, .ref o), (1, .int x1), (2, .int x2)]) hx hb dX7_slabAt_59 hl (k := 3) rfl rfl (by decide) rfl (fun ls hl => ?_)
            refine lv_goto (tgt := 2) hx hb dX7_slabAt_62 (by decide) ?_
            exact ih_2 x1 x2 (x3 + 1) hf _ _ _ hB hS (lv_sub hl [1, 2, 3, 0] rfl)
          · have hf := if_t hf hc5
            refine lv_aload_n hx hb dX7_slabAt_30 rfl (lv_at hl 0 rfl) ?_
            refine r_get X hB 12 37 (by decide) (kw_m kf_X7_37) rfl rfl dX7_slabAt_31 ?_
            refine lv_iload_n hx hb dX7_slabAt_34 rfl (lv_at hl 3 rfl) ?_
            obtain ⟨v6, ev6, hiv6, hf⟩ := rd_s hf
            refine r_ld X hB 12 10 (rat_12 cI cZ o q R) hiv6 ev6 dX7_slabAt_35 ?_
            refine lv_iload_n hx hb dX7_slabAt_36 rfl (lv_at hl 2 rfl) ?_
            refine lv_icmp_gt (tgt := 59) hx hb dX7_slabAt_37 (by decide) (fun hc7 => ?_) (fun hc7 => ?_)
            · have hf := if_t hf hc7
              refine lv_iinc (v := x3 + 1) (lv' := [(3, .int (x3 + 1)), (0, .ref o), (1, .int x1), (2, .int x2)]) hx hb dX7_slabAt_59 hl (k := 3) rfl rfl (by decide) rfl (fun ls hl => ?_)
              refine lv_goto (tgt := 2) hx hb dX7_slabAt_62 (by decide) ?_
              exact ih_2 x1 x2 (x3 + 1) hf _ _ _ hB hS (lv_sub hl [1, 2, 3, 0] rfl)
            · have hf := if_f hf hc7
              refine lv_iload_n hx hb dX7_slabAt_40 rfl (lv_at hl 2 rfl) ?_
              refine lv_aload_n hx hb dX7_slabAt_41 rfl (lv_at hl 0 rfl) ?_
              refine r_get X hB 12 37 (by decide) (kw_m kf_X7_37) rfl rfl dX7_slabAt_42 ?_
              refine lv_iload_n hx hb dX7_slabAt_45 rfl (lv_at hl 3 rfl) ?_
              obtain ⟨v8, ev8, hiv8, hf⟩ := rd_s hf
              refine r_ld X hB 12 10 (rat_12 cI cZ o q R) hiv8 ev8 dX7_slabAt_46 ?_
              refine lv_aload_n hx hb dX7_slabAt_47 rfl (lv_at hl 0 rfl) ?_
              refine r_get X hB 13 40 (by decide) (kw_m kf_X7_40) rfl rfl dX7_slabAt_48 ?_
              refine lv_iload_n hx hb dX7_slabAt_51 rfl (lv_at hl 3 rfl) ?_
              obtain ⟨v9, ev9, hiv9, hf⟩ := rd_s hf
              refine r_ld X hB 13 11 (rat_13 cI cZ o q R) hiv9 ev9 dX7_slabAt_52 ?_
              refine lv_iadd hx hb dX7_slabAt_53 ?_
              refine lv_icmp_ge (tgt := 59) hx hb dX7_slabAt_54 (by decide) (fun hc10 => ?_) (fun hc10 => ?_)
              · have hf := if_t hf hc10
                refine lv_iinc (v := x3 + 1) (lv' := [(3, .int (x3 + 1)), (0, .ref o), (1, .int x1), (2, .int x2)]) hx hb dX7_slabAt_59 hl (k := 3) rfl rfl (by decide) rfl (fun ls hl => ?_)
                refine lv_goto (tgt := 2) hx hb dX7_slabAt_62 (by decide) ?_
                exact ih_2 x1 x2 (x3 + 1) hf _ _ _ hB hS (lv_sub hl [1, 2, 3, 0] rfl)
              · have hf := if_f hf hc10
                refine lv_iload_n hx hb dX7_slabAt_57 rfl (lv_at hl 3 rfl) ?_
                cases hf
                exact r_iret X hB hS hr hlk dX7_slabAt_58
  unfold rf_slabAt at hf
  refine lv_iconst (v := 0) hx hb dX7_slabAt_0 (by decide) ?_
  refine lv_istore_n (lv' := [(3, .int 0), (0, .ref o), (1, .int x1), (2, .int x2)]) hx hb dX7_slabAt_1 rfl hl (by decide) rfl (fun ls hl => ?_)
  exact J_2 F x1 x2 (0 : Int32) hf _ _ _ hB hS (lv_sub hl [1, 2, 3, 0] rfl)
/-! X7_heldAt -/
def rf_heldAt_51 (F : Nat) (R : Rst) : Nat → Int32 → Int32 → Int32 → Option Int32
  | 0 => fun _ _ _ => none
  | n + 1 => fun x1 x2 x5 => if (R.1 25) ≤ x5 then (some ((-1) : Int32)) else (rd R 26 x5 fun v9 => if v9 = x1 then (rd R 27 x5 fun v11 => if v11 = x2 then (some x5) else ((rf_heldAt_51 F R n) x1 x2 (x5 + 1))) else ((rf_heldAt_51 F R n) x1 x2 (x5 + 1)))
def rf_heldAt (F : Nat) (R : Rst) (x1 : Int32) (x2 : Int32) (x3 : Int32) : Option Int32 := (rf_slabAt F R x1 x2).bind fun v1 => if v1 = ((-1) : Int32) then (some ((-1) : Int32)) else (rd R 17 v1 fun v3 => if v3 = x3 then (rd R 12 v1 fun v5 => rd R 2 x1 fun v6 => dv (x3 * v6) (if ((x2 - v5) - (x2 - v5) / (x3 * v6) * (x3 * v6)) = 0 then (rf_heldAt_51 F R F x1 x2 (0 : Int32)) else (some ((-1) : Int32)))) else (some ((-1) : Int32)))
set_option maxHeartbeats 4000000 in
set_option maxRecDepth 100000 in
theorem rm_heldAt (l : Launch) (F : Nat) (D : va_G) (cI cZ : ClassId) (o : Nat) (q : Nat → Nat) (R : Rst) (x1 : Int32) (x2 : Int32) (x3 : Int32) (r : Int32) (hf : rf_heldAt F R x1 x2 x3 = some r)   : rMet l yX7_heldAt wq_X7_heldAt { frames := 1, cells := 0, slots := 0, locals := 23 } D cI cZ o q [.ref o, .int x1, .int x2, .int x3] R (some (.int r)) R := by
  refine rMet_of (cc := cX7_heldAt) (maxL := 6) (ret := (some .int)) (by decide) rfl rfl (kw_h kw_X7) (Nat.le_of_ble_eq_true rfl) ?_
  intro p e s m below meth c X hr hlk ls hl hB hS
  have hx := X.1.1
  have hb := X.1.2.1
  have hown := X.1.2.2.2.1
  have hts := X.1.2.2.2.2
  have hl : lv_has ls 6 [(0, .ref o), (1, .int x1), (2, .int x2), (3, .int x3)] := hl
  generalize hargs : ([.ref o, .int x1, .int x2, .int x3] : List Value).toArray = args at X hts hS ⊢
  have J_51 : ∀ (n_51 : Nat) (x1 : Int32) (x2 : Int32) (x5 : Int32), rf_heldAt_51 F R n_51 x1 x2 x5 = some r → ∀ (H : Heap) (locs : List Loc) (ls : Array Slot), rB D cI cZ o q R H → va_S (rA o q) s.heap H locs → lv_has ls 6 [(0, .ref o), (1, .int x1), (2, .int x2), (5, .int x5)] → W p l e { frames := 1, cells := 0, slots := 0, locals := 23 } s m args below meth c H locs 0 0 (MQ below (mq (some (.int r)) (rW D cI cZ o q R) (rA o q)) args s 0 0 (rA o q)) (F0 m 51 ls []) := by
    intro n_51
    induction n_51 with
    | zero => intro x1 x2 x5 hf; cases hf
    | succ n_51 ih_51 =>
      intro x1 x2 x5 hf H locs ls hB hS hl
      rw [rf_heldAt_51] at hf
      refine lv_iload hx hb dX7_heldAt_51 (lv_at hl 3 rfl) ?_
      refine lv_aload_n hx hb dX7_heldAt_53 rfl (lv_at hl 0 rfl) ?_
      refine r_get X hB 25 183 (by decide) (kw_m kf_X7_183) rfl rfl dX7_heldAt_54 ?_
      refine lv_icmp_ge (tgt := 91) hx hb dX7_heldAt_57 (by decide) (fun hc8 => ?_) (fun hc8 => ?_)
      · have hf := if_t hf hc8
        refine lv_iconst (v := (-1)) hx hb dX7_heldAt_91 (by decide) ?_
        cases hf
        exact r_iret X hB hS hr hlk dX7_heldAt_92
      · have hf := if_f hf hc8
        refine lv_aload_n hx hb dX7_heldAt_60 rfl (lv_at hl 0 rfl) ?_
        refine r_get X hB 26 72 (by decide) (kw_m kf_X7_72) rfl rfl dX7_heldAt_61 ?_
        refine lv_iload hx hb dX7_heldAt_64 (lv_at hl 3 rfl) ?_
        obtain ⟨v9, ev9, hiv9, hf⟩ := rd_s hf
        refine r_ld X hB 26 21 (rat_26 cI cZ o q R) hiv9 ev9 dX7_heldAt_66 ?_
        refine lv_iload_n hx hb dX7_heldAt_67 rfl (lv_at hl 1 rfl) ?_
        refine lv_icmp_ne (tgt := 85) hx hb dX7_heldAt_68 (by decide) (fun hc10 => ?_) (fun hc10 => ?_)
        · have hf := if_f hf hc10
          refine lv_iinc (v := x5 + 1) (lv' := [(5, .int (x5 + 1)), (0, .ref o), (1, .int x1), (2, .int x2)]) hx hb dX7_heldAt_85 hl (k := 3) rfl rfl (by decide) rfl (fun ls hl => ?_)
          refine lv_goto (tgt := 51) hx hb dX7_heldAt_88 (by decide) ?_
          exact ih_51 x1 x2 (x5 + 1) hf _ _ _ hB hS (lv_sub hl [1, 2, 3, 0] rfl)
        · have hf := if_t hf hc10
          refine lv_aload_n hx hb dX7_heldAt_71 rfl (lv_at hl 0 rfl) ?_
          refine r_get X hB 27 75 (by decide) (kw_m kf_X7_75) rfl rfl dX7_heldAt_72 ?_
          refine lv_iload hx hb dX7_heldAt_75 (lv_at hl 3 rfl) ?_
          obtain ⟨v11, ev11, hiv11, hf⟩ := rd_s hf
          refine r_ld X hB 27 22 (rat_27 cI cZ o q R) hiv11 ev11 dX7_heldAt_77 ?_
          refine lv_iload_n hx hb dX7_heldAt_78 rfl (lv_at hl 2 rfl) ?_
          refine lv_icmp_ne (tgt := 85) hx hb dX7_heldAt_79 (by decide) (fun hc12 => ?_) (fun hc12 => ?_)
          · have hf := if_f hf hc12
            refine lv_iinc (v := x5 + 1) (lv' := [(5, .int (x5 + 1)), (0, .ref o), (1, .int x1), (2, .int x2)]) hx hb dX7_heldAt_85 hl (k := 3) rfl rfl (by decide) rfl (fun ls hl => ?_)
            refine lv_goto (tgt := 51) hx hb dX7_heldAt_88 (by decide) ?_
            exact ih_51 x1 x2 (x5 + 1) hf _ _ _ hB hS (lv_sub hl [1, 2, 3, 0] rfl)
          · have hf := if_t hf hc12
            refine lv_iload hx hb dX7_heldAt_82 (lv_at hl 3 rfl) ?_
            cases hf
            exact r_iret X hB hS hr hlk dX7_heldAt_84
  unfold rf_heldAt at hf
  refine lv_aload_n hx hb dX7_heldAt_0 rfl (lv_at hl 0 rfl) ?_
  refine lv_iload_n hx hb dX7_heldAt_1 rfl (lv_at hl 1 rfl) ?_
  refine lv_iload_n hx hb dX7_heldAt_2 rfl (lv_at hl 2 rfl) ?_
  obtain ⟨v1, hqv1, hf⟩ := bn_s hf
  refine r_callV (As := [.int x1, .int x2]) (rest := []) X hB hS (rm_slabAt l F D cI cZ o q _ _ _  _ hqv1) (cwV 2 hts (gd_V km_X7_222 ki_X7_slabAt ks_X7_slabAt kin_RX7 kc_X7_slabAt) rfl rfl rfl (by decide +kernel) ⟨by decide, by decide⟩) hl rfl rfl (Nat.le_of_ble_eq_true rfl) dX7_heldAt_3 ⟨Nat.zero_le _, Nat.zero_le _⟩ rfl (fun H locs hB hS => ?_)
  refine lv_istore (lv' := [(4, .int v1), (0, .ref o), (1, .int x1), (2, .int x2), (3, .int x3)]) hx hb dX7_heldAt_6 hl (by decide) rfl (fun ls hl => ?_)
  refine lv_iload hx hb dX7_heldAt_8 (lv_at hl 0 rfl) ?_
  refine lv_iconst (v := (-1)) hx hb dX7_heldAt_10 (by decide) ?_
  refine lv_icmp_eq (tgt := 46) hx hb dX7_heldAt_11 (by decide) (fun hc2 => ?_) (fun hc2 => ?_)
  · have hf := if_t hf hc2
    refine lv_iconst (v := (-1)) hx hb dX7_heldAt_46 (by decide) ?_
    cases hf
    exact r_iret X hB hS hr hlk dX7_heldAt_47
  · have hf := if_f hf hc2
    refine lv_aload_n hx hb dX7_heldAt_14 rfl (lv_at hl 1 rfl) ?_
    refine r_get X hB 17 52 (by decide) (kw_m kf_X7_52) rfl rfl dX7_heldAt_15 ?_
    refine lv_iload hx hb dX7_heldAt_18 (lv_at hl 0 rfl) ?_
    obtain ⟨v3, ev3, hiv3, hf⟩ := rd_s hf
    refine r_ld X hB 17 15 (rat_17 cI cZ o q R) hiv3 ev3 dX7_heldAt_20 ?_
    refine lv_iload_n hx hb dX7_heldAt_21 rfl (lv_at hl 4 rfl) ?_
    refine lv_icmp_ne (tgt := 46) hx hb dX7_heldAt_22 (by decide) (fun hc4 => ?_) (fun hc4 => ?_)
    · have hf := if_f hf hc4
      refine lv_iconst (v := (-1)) hx hb dX7_heldAt_46 (by decide) ?_
      cases hf
      exact r_iret X hB hS hr hlk dX7_heldAt_47
    · have hf := if_t hf hc4
      refine lv_iload_n hx hb dX7_heldAt_25 rfl (lv_at hl 3 rfl) ?_
      refine lv_aload_n hx hb dX7_heldAt_26 rfl (lv_at hl 1 rfl) ?_
      refine r_get X hB 12 37 (by decide) (kw_m kf_X7_37) rfl rfl dX7_heldAt_27 ?_
      refine lv_iload hx hb dX7_heldAt_30 (lv_at hl 0 rfl) ?_
      obtain ⟨v5, ev5, hiv5, hf⟩ := rd_s hf
      refine r_ld X hB 12 10 (rat_12 cI cZ o q R) hiv5 ev5 dX7_heldAt_32 ?_
      refine lv_isub hx hb dX7_heldAt_33 ?_
      refine lv_iload_n hx hb dX7_heldAt_34 rfl (lv_at hl 4 rfl) ?_
      refine lv_aload_n hx hb dX7_heldAt_35 rfl (lv_at hl 1 rfl) ?_
      refine r_get X hB 2 7 (by decide) (kw_m kf_X7_7) rfl rfl dX7_heldAt_36 ?_
      refine lv_iload_n hx hb dX7_heldAt_39 rfl (lv_at hl 2 rfl) ?_
      obtain ⟨v6, ev6, hiv6, hf⟩ := rd_s hf
      refine r_ld X hB 2 1 (rat_2 cI cZ o q R) hiv6 ev6 dX7_heldAt_40 ?_
      refine lv_imul hx hb dX7_heldAt_41 ?_
      obtain ⟨hd13, hf⟩ := dv_s hf
      refine lv_irem hx hb dX7_heldAt_42 hd13 ?_
      refine lv_if_eq (tgt := 48) hx hb dX7_heldAt_43 (by decide) (fun hc7 => ?_) (fun hc7 => ?_)
      · have hf := if_t hf hc7
        refine lv_iconst (v := 0) hx hb dX7_heldAt_48 (by decide) ?_
        refine lv_istore (lv' := [(5, .int 0), (4, .int v1), (0, .ref o), (1, .int x1), (2, .int x2), (3, .int x3)]) hx hb dX7_heldAt_49 hl (by decide) rfl (fun ls hl => ?_)
        exact J_51 F x1 x2 (0 : Int32) hf _ _ _ hB hS (lv_sub hl [2, 3, 4, 0] rfl)
      · have hf := if_f hf hc7
        refine lv_iconst (v := (-1)) hx hb dX7_heldAt_46 (by decide) ?_
        cases hf
        exact r_iret X hB hS hr hlk dX7_heldAt_47
/-! X7_just -/
def rf_just (F : Nat) (R : Rst) (x1 : Int32) (x2 : Int32) (x3 : Int64) (x5 : Int32) : Option Int32 := (rf_position F R x1 x2.toInt64).bind fun v1 => if (R.1 10) ≤ v1 then (some ((-1) : Int32)) else (rd R 11 v1 fun v3 => if v3 = x1 then (rd R 12 v1 fun v5 => if v5 = x2 then (rd R 13 v1 fun v7 => if (lg_cmp v7.toInt64 x3) = 0 then (rd R 14 v1 fun v9 => if v9 = x5 then (some v1) else (some ((-1) : Int32))) else (some ((-1) : Int32))) else (some ((-1) : Int32))) else (some ((-1) : Int32)))
set_option maxHeartbeats 4000000 in
set_option maxRecDepth 100000 in
theorem rm_just (l : Launch) (F : Nat) (D : va_G) (cI cZ : ClassId) (o : Nat) (q : Nat → Nat) (R : Rst) (x1 : Int32) (x2 : Int32) (x3 : Int64) (x5 : Int32) (r : Int32) (hf : rf_just F R x1 x2 x3 x5 = some r)   : rMet l yX7_just wq_X7_just { frames := 1, cells := 0, slots := 0, locals := 24 } D cI cZ o q [.ref o, .int x1, .int x2, .long x3, .int x5] R (some (.int r)) R := by
  refine rMet_of (cc := cX7_just) (maxL := 7) (ret := (some .int)) (by decide) rfl rfl (kw_h kw_X7) (Nat.le_of_ble_eq_true rfl) ?_
  intro p e s m below meth c X hr hlk ls hl hB hS
  have hx := X.1.1
  have hb := X.1.2.1
  have hown := X.1.2.2.2.1
  have hts := X.1.2.2.2.2
  have hl : lv_has ls 7 [(0, .ref o), (1, .int x1), (2, .int x2), (3, .long x3), (5, .int x5)] := hl
  generalize hargs : ([.ref o, .int x1, .int x2, .long x3, .int x5] : List Value).toArray = args at X hts hS ⊢
  unfold rf_just at hf
  refine lv_aload_n hx hb dX7_just_0 rfl (lv_at hl 0 rfl) ?_
  refine lv_iload_n hx hb dX7_just_1 rfl (lv_at hl 1 rfl) ?_
  refine lv_iload_n hx hb dX7_just_2 rfl (lv_at hl 2 rfl) ?_
  refine lv_i2l (v := x2.toInt64) hx hb dX7_just_3 rfl ?_
  obtain ⟨v1, hqv1, hf⟩ := bn_s hf
  refine r_callV (As := [.int x1, .long x2.toInt64]) (rest := []) X hB hS (rm_position l F D cI cZ o q _ _ _  _ hqv1) (cwV 2 hts (gd_V km_X7_113 ki_X7_position ks_X7_position kin_RX7 kc_X7_position) rfl rfl rfl (by decide +kernel) ⟨by decide, by decide⟩) hl rfl rfl (Nat.le_of_ble_eq_true rfl) dX7_just_4 ⟨Nat.zero_le _, Nat.zero_le _⟩ rfl (fun H locs hB hS => ?_)
  refine lv_istore (lv' := [(6, .int v1), (0, .ref o), (1, .int x1), (2, .int x2), (3, .long x3), (5, .int x5)]) hx hb dX7_just_7 hl (by decide) rfl (fun ls hl => ?_)
  refine lv_iload hx hb dX7_just_9 (lv_at hl 0 rfl) ?_
  refine lv_aload_n hx hb dX7_just_11 rfl (lv_at hl 1 rfl) ?_
  refine r_get X hB 10 107 (by decide) (kw_m kf_X7_107) rfl rfl dX7_just_12 ?_
  refine lv_icmp_ge (tgt := 70) hx hb dX7_just_15 (by decide) (fun hc2 => ?_) (fun hc2 => ?_)
  · have hf := if_t hf hc2
    refine lv_iconst (v := (-1)) hx hb dX7_just_70 (by decide) ?_
    cases hf
    exact r_iret X hB hS hr hlk dX7_just_71
  · have hf := if_f hf hc2
    refine lv_aload_n hx hb dX7_just_18 rfl (lv_at hl 1 rfl) ?_
    refine r_get X hB 11 34 (by decide) (kw_m kf_X7_34) rfl rfl dX7_just_19 ?_
    refine lv_iload hx hb dX7_just_22 (lv_at hl 0 rfl) ?_
    obtain ⟨v3, ev3, hiv3, hf⟩ := rd_s hf
    refine r_ld X hB 11 9 (rat_11 cI cZ o q R) hiv3 ev3 dX7_just_24 ?_
    refine lv_iload_n hx hb dX7_just_25 rfl (lv_at hl 2 rfl) ?_
    refine lv_icmp_ne (tgt := 70) hx hb dX7_just_26 (by decide) (fun hc4 => ?_) (fun hc4 => ?_)
    · have hf := if_f hf hc4
      refine lv_iconst (v := (-1)) hx hb dX7_just_70 (by decide) ?_
      cases hf
      exact r_iret X hB hS hr hlk dX7_just_71
    · have hf := if_t hf hc4
      refine lv_aload_n hx hb dX7_just_29 rfl (lv_at hl 1 rfl) ?_
      refine r_get X hB 12 37 (by decide) (kw_m kf_X7_37) rfl rfl dX7_just_30 ?_
      refine lv_iload hx hb dX7_just_33 (lv_at hl 0 rfl) ?_
      obtain ⟨v5, ev5, hiv5, hf⟩ := rd_s hf
      refine r_ld X hB 12 10 (rat_12 cI cZ o q R) hiv5 ev5 dX7_just_35 ?_
      refine lv_iload_n hx hb dX7_just_36 rfl (lv_at hl 3 rfl) ?_
      refine lv_icmp_ne (tgt := 70) hx hb dX7_just_37 (by decide) (fun hc6 => ?_) (fun hc6 => ?_)
      · have hf := if_f hf hc6
        refine lv_iconst (v := (-1)) hx hb dX7_just_70 (by decide) ?_
        cases hf
        exact r_iret X hB hS hr hlk dX7_just_71
      · have hf := if_t hf hc6
        refine lv_aload_n hx hb dX7_just_40 rfl (lv_at hl 1 rfl) ?_
        refine r_get X hB 13 40 (by decide) (kw_m kf_X7_40) rfl rfl dX7_just_41 ?_
        refine lv_iload hx hb dX7_just_44 (lv_at hl 0 rfl) ?_
        obtain ⟨v7, ev7, hiv7, hf⟩ := rd_s hf
        refine r_ld X hB 13 11 (rat_13 cI cZ o q R) hiv7 ev7 dX7_just_46 ?_
        refine lv_i2l (v := v7.toInt64) hx hb dX7_just_47 rfl ?_
        refine lv_lload_n hx hb dX7_just_48 rfl (lv_at hl 4 rfl) ?_
        refine W.lcmp hx hb dX7_just_49 ?_
        refine lv_if_ne (tgt := 70) hx hb dX7_just_50 (by decide) (fun hc8 => ?_) (fun hc8 => ?_)
        · have hf := if_f hf hc8
          refine lv_iconst (v := (-1)) hx hb dX7_just_70 (by decide) ?_
          cases hf
          exact r_iret X hB hS hr hlk dX7_just_71
        · have hf := if_t hf hc8
          refine lv_aload_n hx hb dX7_just_53 rfl (lv_at hl 1 rfl) ?_
          refine r_get X hB 14 43 (by decide) (kw_m kf_X7_43) rfl rfl dX7_just_54 ?_
          refine lv_iload hx hb dX7_just_57 (lv_at hl 0 rfl) ?_
          obtain ⟨v9, ev9, hiv9, hf⟩ := rd_s hf
          refine r_ld X hB 14 12 (rat_14 cI cZ o q R) hiv9 ev9 dX7_just_59 ?_
          refine lv_iload hx hb dX7_just_60 (lv_at hl 5 rfl) ?_
          refine lv_icmp_ne (tgt := 70) hx hb dX7_just_62 (by decide) (fun hc10 => ?_) (fun hc10 => ?_)
          · have hf := if_f hf hc10
            refine lv_iconst (v := (-1)) hx hb dX7_just_70 (by decide) ?_
            cases hf
            exact r_iret X hB hS hr hlk dX7_just_71
          · have hf := if_t hf hc10
            refine lv_iload hx hb dX7_just_65 (lv_at hl 0 rfl) ?_
            refine lv_goto (tgt := 71) hx hb dX7_just_67 (by decide) ?_
            cases hf
            exact r_iret X hB hS hr hlk dX7_just_71
/-! X7_give -/
def rf_give_138 (F : Nat) (R : Rst) (x1 : Int32) (x2 : Int32) (x4 : Int32) (x7 : Int32) (x8 : Int32) (y0 : Int32) : Option (Int32 × Rst) := (rf_right F R y0 (2 : Int32)).bind fun z13 => st2 z13 fun z13v z13R => if z13v = 0 then (some ((0 : Int32), z13R)) else (st1 (rput z13R 25 ((z13R.1 25) - 1)) fun R15 => rd R15 26 (R15.1 25) fun v16 => wr R15 26 x8 v16 fun R17 => rd R17 27 (R17.1 25) fun v18 => wr R17 27 x8 v18 fun R19 => (rf_into F R19 x1 x7 x4 x2).bind fun R20 => some ((0 : Int32), R20))
def rf_give_88 (F : Nat) (R : Rst) (x1 : Int32) (x2 : Int32) (y0 : Int32) : Option (Int32 × Rst) := (rf_right F R y0 (2 : Int32)).bind fun z24 => st2 z24 fun z24v z24R => if z24v = 0 then (some ((0 : Int32), z24R)) else ((rf_gives F 9 z24R x1 x2).bind fun R26 => some ((0 : Int32), R26))
def rf_give_31 (F : Nat) (R : Rst) (x1 : Int32) (x2 : Int32) (x3 : Int32) (x4 : Int32) (y0 : Int32) : Option (Int32 × Rst) := (rf_right F R y0 (2 : Int32)).bind fun z4 => st2 z4 fun z4v z4R => if z4v = 0 then (some ((0 : Int32), z4R)) else ((rf_rounded F z4R x1 x3).bind fun v6 => rd z4R 4 x1 fun v7 => rd z4R 2 x1 fun v8 => if (lg_cmp v6 (v7.toInt64 * v8.toInt64)) ≤ 0 then (rd z4R 2 x1 fun v10 => dvl v10.toInt64 ((rf_heldAt F z4R x1 x2 ((v6 / v10.toInt64).toInt32)).bind fun v11 => if v11 = ((-1) : Int32) then (rf_give_138 F z4R x1 x2 x4 ((v6 / v10.toInt64).toInt32) v11 (0 : Int32)) else (rf_give_138 F z4R x1 x2 x4 ((v6 / v10.toInt64).toInt32) v11 (1 : Int32)))) else ((rf_just F z4R x1 x2 v6 (1 : Int32)).bind fun v22 => if v22 = ((-1) : Int32) then (rf_give_88 F z4R x1 x2 (0 : Int32)) else (rf_give_88 F z4R x1 x2 (1 : Int32))))
def rf_give (F : Nat) (R : Rst) (x1 : Int32) (x2 : Int32) (x3 : Int32) (x4 : Int32) : Option (Int32 × Rst) := (rf_isArena F R x1).bind fun z1 => st2 z1 fun z1v z1R => if z1v = 0 then (some ((0 : Int32), z1R)) else (if x3 ≤ 0 then (rf_give_31 F z1R x1 x2 x3 x4 (0 : Int32)) else (if x4 = 0 then (rf_give_31 F z1R x1 x2 x3 x4 (1 : Int32)) else (if x4 = (1 : Int32) then (rf_give_31 F z1R x1 x2 x3 x4 (1 : Int32)) else (rf_give_31 F z1R x1 x2 x3 x4 (0 : Int32)))))
set_option maxHeartbeats 4000000 in
set_option maxRecDepth 100000 in
theorem rm_give (l : Launch) (F : Nat) (D : va_G) (cI cZ : ClassId) (o : Nat) (q : Nat → Nat) (R : Rst) (x1 : Int32) (x2 : Int32) (x3 : Int32) (x4 : Int32) (r : Int32) (R' : Rst) (hf : rf_give F R x1 x2 x3 x4 = some (r, R'))   : rMet l yX7_give wq_X7_give { frames := 18, cells := 0, slots := 0, locals := 864 } D cI cZ o q [.ref o, .int x1, .int x2, .int x3, .int x4] R (some (.int r)) R' := by
  refine rMet_of (cc := cX7_give) (maxL := 9) (ret := (some .int)) (by decide) rfl rfl (kw_h kw_X7) (Nat.le_of_ble_eq_true rfl) ?_
  intro p e s m below meth c X hr hlk ls hl hB hS
  have hx := X.1.1
  have hb := X.1.2.1
  have hown := X.1.2.2.2.1
  have hts := X.1.2.2.2.2
  have hl : lv_has ls 9 [(0, .ref o), (1, .int x1), (2, .int x2), (3, .int x3), (4, .int x4)] := hl
  generalize hargs : ([.ref o, .int x1, .int x2, .int x3, .int x4] : List Value).toArray = args at X hts hS ⊢
  have J_138 : ∀ (R : Rst) (x1 : Int32) (x2 : Int32) (x4 : Int32) (x7 : Int32) (x8 : Int32) (y0 : Int32), rf_give_138 F R x1 x2 x4 x7 x8 y0 = some (r, R') → ∀ (H : Heap) (locs : List Loc) (ls : Array Slot), rB D cI cZ o q R H → va_S (rA o q) s.heap H locs → lv_has ls 9 [(0, .ref o), (1, .int x1), (2, .int x2), (4, .int x4), (7, .int x7), (8, .int x8)] → W p l e { frames := 18, cells := 0, slots := 0, locals := 864 } s m args below meth c H locs 0 0 (MQ below (mq (some (.int r)) (rW D cI cZ o q R') (rA o q)) args s 0 0 (rA o q)) (F0 m 138 ls [.int y0, .ref o]) := by
    intro R x1 x2 x4 x7 x8 y0 hf H locs ls hB hS hl
    unfold rf_give_138 at hf
    refine lv_iconst (v := 2) hx hb dX7_give_138 (by decide) ?_
    obtain ⟨⟨z13v, z13R⟩, hqz13, hf⟩ := bn_s hf
    have hf := st2_s hf
    refine r_callV (As := [.int y0, .int 2]) (rest := []) X hB hS (rm_right l F D cI cZ o q _ _ _  _ _ hqz13) (cwV 2 hts (gd_V km_X7_97 ki_X7_right ks_X7_right kin_RX7 kc_X7_right) rfl rfl rfl (by decide +kernel) ⟨by decide, by decide⟩) hl rfl rfl (Nat.le_of_ble_eq_true rfl) dX7_give_139 ⟨Nat.zero_le _, Nat.zero_le _⟩ rfl (fun H locs hB hS => ?_)
    refine lv_if_ne (tgt := 147) hx hb dX7_give_142 (by decide) (fun hc14 => ?_) (fun hc14 => ?_)
    · have hf := if_f hf hc14
      refine lv_aload_n hx hb dX7_give_147 rfl (lv_at hl 0 rfl) ?_
      refine lv_dup hx hb dX7_give_148 rfl ?_
      refine r_get X hB 25 183 (by decide) (kw_m kf_X7_183) rfl rfl dX7_give_149 ?_
      refine lv_iconst (v := 1) hx hb dX7_give_152 (by decide) ?_
      refine lv_isub hx hb dX7_give_153 ?_
      obtain ⟨R15, eR15, hf⟩ := st1_s hf
      refine r_put X hB hS 25 183 (by decide) (kw_m kf_X7_183) rfl rfl rfl (rput_25 cI cZ o q z13R _) dX7_give_154 (fun H locs hB hS => ?_)
      rw [← eR15] at hB
      refine lv_aload_n hx hb dX7_give_157 rfl (lv_at hl 0 rfl) ?_
      refine r_get X hB 26 72 (by decide) (kw_m kf_X7_72) rfl rfl dX7_give_158 ?_
      refine lv_iload hx hb dX7_give_161 (lv_at hl 5 rfl) ?_
      refine lv_aload_n hx hb dX7_give_163 rfl (lv_at hl 0 rfl) ?_
      refine r_get X hB 26 72 (by decide) (kw_m kf_X7_72) rfl rfl dX7_give_164 ?_
      refine lv_aload_n hx hb dX7_give_167 rfl (lv_at hl 0 rfl) ?_
      refine r_get X hB 25 183 (by decide) (kw_m kf_X7_183) rfl rfl dX7_give_168 ?_
      obtain ⟨v16, ev16, hiv16, hf⟩ := rd_s hf
      refine r_ld X hB 26 21 (rat_26 cI cZ o q R15) hiv16 ev16 dX7_give_171 ?_
      obtain ⟨R17, eR17, hiR17, hf⟩ := wr_s hf
      refine r_st X hB hS 26 21 (rat_26 cI cZ o q R15) (rset_26 cI cZ o q R15 _ _) hiR17 dX7_give_172 (fun H locs hB hS => ?_)
      rw [← eR17] at hB
      refine lv_aload_n hx hb dX7_give_173 rfl (lv_at hl 0 rfl) ?_
      refine r_get X hB 27 75 (by decide) (kw_m kf_X7_75) rfl rfl dX7_give_174 ?_
      refine lv_iload hx hb dX7_give_177 (lv_at hl 5 rfl) ?_
      refine lv_aload_n hx hb dX7_give_179 rfl (lv_at hl 0 rfl) ?_
      refine r_get X hB 27 75 (by decide) (kw_m kf_X7_75) rfl rfl dX7_give_180 ?_
      refine lv_aload_n hx hb dX7_give_183 rfl (lv_at hl 0 rfl) ?_
      refine r_get X hB 25 183 (by decide) (kw_m kf_X7_183) rfl rfl dX7_give_184 ?_
      obtain ⟨v18, ev18, hiv18, hf⟩ := rd_s hf
      refine r_ld X hB 27 22 (rat_27 cI cZ o q R17) hiv18 ev18 dX7_give_187 ?_
      obtain ⟨R19, eR19, hiR19, hf⟩ := wr_s hf
      refine r_st X hB hS 27 22 (rat_27 cI cZ o q R17) (rset_27 cI cZ o q R17 _ _) hiR19 dX7_give_188 (fun H locs hB hS => ?_)
      rw [← eR19] at hB
      refine lv_aload_n hx hb dX7_give_189 rfl (lv_at hl 0 rfl) ?_
      refine lv_iload_n hx hb dX7_give_190 rfl (lv_at hl 1 rfl) ?_
      refine lv_iload hx hb dX7_give_191 (lv_at hl 4 rfl) ?_
      refine lv_iload hx hb dX7_give_193 (lv_at hl 3 rfl) ?_
      refine lv_iload_n hx hb dX7_give_195 rfl (lv_at hl 2 rfl) ?_
      obtain ⟨R20, hqR20, hf⟩ := bn_s hf
      refine r_callV (As := [.int x1, .int x7, .int x4, .int x2]) (rest := []) X hB hS (rm_into l F D cI cZ o q _ _ _ _ _  _ hqR20) (cwV 4 hts (gd_V km_X7_232 ki_X7_into ks_X7_into kin_RX7 kc_X7_into) rfl rfl rfl (by decide +kernel) ⟨by decide, by decide⟩) hl rfl rfl (Nat.le_of_ble_eq_true rfl) dX7_give_196 ⟨Nat.zero_le _, Nat.zero_le _⟩ rfl (fun H locs hB hS => ?_)
      refine lv_iconst (v := 0) hx hb dX7_give_199 (by decide) ?_
      cases hf
      exact r_iret X hB hS hr hlk dX7_give_200
    · have hf := if_t hf hc14
      refine lv_iconst (v := 0) hx hb dX7_give_145 (by decide) ?_
      cases hf
      exact r_iret X hB hS hr hlk dX7_give_146
  have J_88 : ∀ (R : Rst) (x1 : Int32) (x2 : Int32) (y0 : Int32), rf_give_88 F R x1 x2 y0 = some (r, R') → ∀ (H : Heap) (locs : List Loc) (ls : Array Slot), rB D cI cZ o q R H → va_S (rA o q) s.heap H locs → lv_has ls 9 [(0, .ref o), (1, .int x1), (2, .int x2)] → W p l e { frames := 18, cells := 0, slots := 0, locals := 864 } s m args below meth c H locs 0 0 (MQ below (mq (some (.int r)) (rW D cI cZ o q R') (rA o q)) args s 0 0 (rA o q)) (F0 m 88 ls [.int y0, .ref o]) := by
    intro R x1 x2 y0 hf H locs ls hB hS hl
    unfold rf_give_88 at hf
    refine lv_iconst (v := 2) hx hb dX7_give_88 (by decide) ?_
    obtain ⟨⟨z24v, z24R⟩, hqz24, hf⟩ := bn_s hf
    have hf := st2_s hf
    refine r_callV (As := [.int y0, .int 2]) (rest := []) X hB hS (rm_right l F D cI cZ o q _ _ _  _ _ hqz24) (cwV 2 hts (gd_V km_X7_97 ki_X7_right ks_X7_right kin_RX7 kc_X7_right) rfl rfl rfl (by decide +kernel) ⟨by decide, by decide⟩) hl rfl rfl (Nat.le_of_ble_eq_true rfl) dX7_give_89 ⟨Nat.zero_le _, Nat.zero_le _⟩ rfl (fun H locs hB hS => ?_)
    refine lv_if_eq (tgt := 101) hx hb dX7_give_92 (by decide) (fun hc25 => ?_) (fun hc25 => ?_)
    · have hf := if_t hf hc25
      refine lv_iconst (v := 0) hx hb dX7_give_101 (by decide) ?_
      cases hf
      exact r_iret X hB hS hr hlk dX7_give_102
    · have hf := if_f hf hc25
      refine lv_aload_n hx hb dX7_give_95 rfl (lv_at hl 0 rfl) ?_
      refine lv_iload_n hx hb dX7_give_96 rfl (lv_at hl 1 rfl) ?_
      refine lv_iload_n hx hb dX7_give_97 rfl (lv_at hl 2 rfl) ?_
      obtain ⟨R26, hqR26, hf⟩ := bn_s hf
      refine r_callV (As := [.int x1, .int x2]) (rest := []) X hB hS (rm_gives l F 9 D cI cZ o q _ _ _  _ hqR26) (cwV 2 hts (gd_V km_X7_180 ki_X7_gives ks_X7_gives kin_RX7 kc_X7_gives) rfl rfl rfl (by decide +kernel) ⟨by decide, by decide⟩) hl rfl rfl (Nat.le_of_ble_eq_true rfl) dX7_give_98 ⟨Nat.zero_le _, Nat.zero_le _⟩ rfl (fun H locs hB hS => ?_)
      refine lv_iconst (v := 0) hx hb dX7_give_101 (by decide) ?_
      cases hf
      exact r_iret X hB hS hr hlk dX7_give_102
  have J_31 : ∀ (R : Rst) (x1 : Int32) (x2 : Int32) (x3 : Int32) (x4 : Int32) (y0 : Int32), rf_give_31 F R x1 x2 x3 x4 y0 = some (r, R') → ∀ (H : Heap) (locs : List Loc) (ls : Array Slot), rB D cI cZ o q R H → va_S (rA o q) s.heap H locs → lv_has ls 9 [(0, .ref o), (1, .int x1), (2, .int x2), (3, .int x3), (4, .int x4)] → W p l e { frames := 18, cells := 0, slots := 0, locals := 864 } s m args below meth c H locs 0 0 (MQ below (mq (some (.int r)) (rW D cI cZ o q R') (rA o q)) args s 0 0 (rA o q)) (F0 m 31 ls [.int y0, .ref o]) := by
    intro R x1 x2 x3 x4 y0 hf H locs ls hB hS hl
    unfold rf_give_31 at hf
    refine lv_iconst (v := 2) hx hb dX7_give_31 (by decide) ?_
    obtain ⟨⟨z4v, z4R⟩, hqz4, hf⟩ := bn_s hf
    have hf := st2_s hf
    refine r_callV (As := [.int y0, .int 2]) (rest := []) X hB hS (rm_right l F D cI cZ o q _ _ _  _ _ hqz4) (cwV 2 hts (gd_V km_X7_97 ki_X7_right ks_X7_right kin_RX7 kc_X7_right) rfl rfl rfl (by decide +kernel) ⟨by decide, by decide⟩) hl rfl rfl (Nat.le_of_ble_eq_true rfl) dX7_give_32 ⟨Nat.zero_le _, Nat.zero_le _⟩ rfl (fun H locs hB hS => ?_)
    refine lv_if_ne (tgt := 40) hx hb dX7_give_35 (by decide) (fun hc5 => ?_) (fun hc5 => ?_)
    · have hf := if_f hf hc5
      refine lv_aload_n hx hb dX7_give_40 rfl (lv_at hl 0 rfl) ?_
      refine lv_iload_n hx hb dX7_give_41 rfl (lv_at hl 1 rfl) ?_
      refine lv_iload_n hx hb dX7_give_42 rfl (lv_at hl 3 rfl) ?_
      obtain ⟨v6, hqv6, hf⟩ := bn_s hf
      refine r_callV (As := [.int x1, .int x3]) (rest := []) X hB hS (rm_rounded l F D cI cZ o q _ _ _  _ hqv6) (cwV 2 hts (gd_V km_X7_215 ki_X7_rounded ks_X7_rounded kin_RX7 kc_X7_rounded) rfl rfl rfl (by decide +kernel) ⟨by decide, by decide⟩) hl rfl rfl (Nat.le_of_ble_eq_true rfl) dX7_give_43 ⟨Nat.zero_le _, Nat.zero_le _⟩ rfl (fun H locs hB hS => ?_)
      refine lv_lstore (lv' := [(5, .long v6), (0, .ref o), (1, .int x1), (2, .int x2), (3, .int x3), (4, .int x4)]) hx hb dX7_give_46 hl (by decide) rfl (fun ls hl => ?_)
      refine lv_lload hx hb dX7_give_48 (lv_at hl 0 rfl) ?_
      refine lv_aload_n hx hb dX7_give_50 rfl (lv_at hl 1 rfl) ?_
      refine r_get X hB 4 16 (by decide) (kw_m kf_X7_16) rfl rfl dX7_give_51 ?_
      refine lv_iload_n hx hb dX7_give_54 rfl (lv_at hl 2 rfl) ?_
      obtain ⟨v7, ev7, hiv7, hf⟩ := rd_s hf
      refine r_ld X hB 4 3 (rat_4 cI cZ o q z4R) hiv7 ev7 dX7_give_55 ?_
      refine lv_i2l (v := v7.toInt64) hx hb dX7_give_56 rfl ?_
      refine lv_aload_n hx hb dX7_give_57 rfl (lv_at hl 1 rfl) ?_
      refine r_get X hB 2 7 (by decide) (kw_m kf_X7_7) rfl rfl dX7_give_58 ?_
      refine lv_iload_n hx hb dX7_give_61 rfl (lv_at hl 2 rfl) ?_
      obtain ⟨v8, ev8, hiv8, hf⟩ := rd_s hf
      refine r_ld X hB 2 1 (rat_2 cI cZ o q z4R) hiv8 ev8 dX7_give_62 ?_
      refine lv_i2l (v := v8.toInt64) hx hb dX7_give_63 rfl ?_
      refine lv_lmul hx hb dX7_give_64 ?_
      refine W.lcmp hx hb dX7_give_65 ?_
      refine lv_if_le (tgt := 103) hx hb dX7_give_66 (by decide) (fun hc9 => ?_) (fun hc9 => ?_)
      · have hf := if_t hf hc9
        refine lv_lload hx hb dX7_give_103 (lv_at hl 0 rfl) ?_
        refine lv_aload_n hx hb dX7_give_105 rfl (lv_at hl 1 rfl) ?_
        refine r_get X hB 2 7 (by decide) (kw_m kf_X7_7) rfl rfl dX7_give_106 ?_
        refine lv_iload_n hx hb dX7_give_109 rfl (lv_at hl 2 rfl) ?_
        obtain ⟨v10, ev10, hiv10, hf⟩ := rd_s hf
        refine r_ld X hB 2 1 (rat_2 cI cZ o q z4R) hiv10 ev10 dX7_give_110 ?_
        refine lv_i2l (v := v10.toInt64) hx hb dX7_give_111 rfl ?_
        obtain ⟨hd21, hf⟩ := dvl_s hf
        refine lv_ldiv hx hb dX7_give_112 hd21 ?_
        refine lv_l2i (v := (v6 / v10.toInt64).toInt32) hx hb dX7_give_113 rfl ?_
        refine lv_istore (lv' := [(7, .int ((v6 / v10.toInt64).toInt32)), (5, .long v6), (0, .ref o), (1, .int x1), (2, .int x2), (3, .int x3), (4, .int x4)]) hx hb dX7_give_114 hl (by decide) rfl (fun ls hl => ?_)
        refine lv_aload_n hx hb dX7_give_116 rfl (lv_at hl 2 rfl) ?_
        refine lv_iload_n hx hb dX7_give_117 rfl (lv_at hl 3 rfl) ?_
        refine lv_iload_n hx hb dX7_give_118 rfl (lv_at hl 4 rfl) ?_
        refine lv_iload hx hb dX7_give_119 (lv_at hl 0 rfl) ?_
        obtain ⟨v11, hqv11, hf⟩ := bn_s hf
        refine r_callV (As := [.int x1, .int x2, .int ((v6 / v10.toInt64).toInt32)]) (rest := []) X hB hS (rm_heldAt l F D cI cZ o q _ _ _ _  _ hqv11) (cwV 3 hts (gd_V km_X7_229 ki_X7_heldAt ks_X7_heldAt kin_RX7 kc_X7_heldAt) rfl rfl rfl (by decide +kernel) ⟨by decide, by decide⟩) hl rfl rfl (Nat.le_of_ble_eq_true rfl) dX7_give_121 ⟨Nat.zero_le _, Nat.zero_le _⟩ rfl (fun H locs hB hS => ?_)
        refine lv_istore (lv' := [(8, .int v11), (7, .int ((v6 / v10.toInt64).toInt32)), (5, .long v6), (0, .ref o), (1, .int x1), (2, .int x2), (3, .int x3), (4, .int x4)]) hx hb dX7_give_124 hl (by decide) rfl (fun ls hl => ?_)
        refine lv_aload_n hx hb dX7_give_126 rfl (lv_at hl 3 rfl) ?_
        refine lv_iload hx hb dX7_give_127 (lv_at hl 0 rfl) ?_
        refine lv_iconst (v := (-1)) hx hb dX7_give_129 (by decide) ?_
        refine lv_icmp_eq (tgt := 137) hx hb dX7_give_130 (by decide) (fun hc12 => ?_) (fun hc12 => ?_)
        · have hf := if_t hf hc12
          refine lv_iconst (v := 0) hx hb dX7_give_137 (by decide) ?_
          exact J_138 z4R x1 x2 x4 ((v6 / v10.toInt64).toInt32) v11 (0 : Int32) hf _ _ _ hB hS (lv_sub hl [3, 4, 5, 7, 1, 0] rfl)
        · have hf := if_f hf hc12
          refine lv_iconst (v := 1) hx hb dX7_give_133 (by decide) ?_
          refine lv_goto (tgt := 138) hx hb dX7_give_134 (by decide) ?_
          exact J_138 z4R x1 x2 x4 ((v6 / v10.toInt64).toInt32) v11 (1 : Int32) hf _ _ _ hB hS (lv_sub hl [3, 4, 5, 7, 1, 0] rfl)
      · have hf := if_f hf hc9
        refine lv_aload_n hx hb dX7_give_69 rfl (lv_at hl 1 rfl) ?_
        refine lv_aload_n hx hb dX7_give_70 rfl (lv_at hl 1 rfl) ?_
        refine lv_iload_n hx hb dX7_give_71 rfl (lv_at hl 2 rfl) ?_
        refine lv_iload_n hx hb dX7_give_72 rfl (lv_at hl 3 rfl) ?_
        refine lv_lload hx hb dX7_give_73 (lv_at hl 0 rfl) ?_
        refine lv_iconst (v := 1) hx hb dX7_give_75 (by decide) ?_
        obtain ⟨v22, hqv22, hf⟩ := bn_s hf
        refine r_callV (As := [.int x1, .int x2, .long v6, .int 1]) (rest := [.ref o]) X hB hS (rm_just l F D cI cZ o q _ _ _ _ _  _ hqv22) (cwV 4 hts (gd_V km_X7_225 ki_X7_just ks_X7_just kin_RX7 kc_X7_just) rfl rfl rfl (by decide +kernel) ⟨by decide, by decide⟩) hl rfl rfl (Nat.le_of_ble_eq_true rfl) dX7_give_76 ⟨Nat.zero_le _, Nat.zero_le _⟩ rfl (fun H locs hB hS => ?_)
        refine lv_iconst (v := (-1)) hx hb dX7_give_79 (by decide) ?_
        refine lv_icmp_eq (tgt := 87) hx hb dX7_give_80 (by decide) (fun hc23 => ?_) (fun hc23 => ?_)
        · have hf := if_t hf hc23
          refine lv_iconst (v := 0) hx hb dX7_give_87 (by decide) ?_
          exact J_88 z4R x1 x2 (0 : Int32) hf _ _ _ hB hS (lv_sub hl [1, 2, 3] rfl)
        · have hf := if_f hf hc23
          refine lv_iconst (v := 1) hx hb dX7_give_83 (by decide) ?_
          refine lv_goto (tgt := 88) hx hb dX7_give_84 (by decide) ?_
          exact J_88 z4R x1 x2 (1 : Int32) hf _ _ _ hB hS (lv_sub hl [1, 2, 3] rfl)
    · have hf := if_t hf hc5
      refine lv_iconst (v := 0) hx hb dX7_give_38 (by decide) ?_
      cases hf
      exact r_iret X hB hS hr hlk dX7_give_39
  unfold rf_give at hf
  refine lv_aload_n hx hb dX7_give_0 rfl (lv_at hl 0 rfl) ?_
  refine lv_iload_n hx hb dX7_give_1 rfl (lv_at hl 1 rfl) ?_
  obtain ⟨⟨z1v, z1R⟩, hqz1, hf⟩ := bn_s hf
  have hf := st2_s hf
  refine r_callV (As := [.int x1]) (rest := []) X hB hS (rm_isArena l F D cI cZ o q _ _  _ _ hqz1) (cwV 1 hts (gd_V km_X7_132 ki_X7_isArena ks_X7_isArena kin_RX7 kc_X7_isArena) rfl rfl rfl (by decide +kernel) ⟨by decide, by decide⟩) hl rfl rfl (Nat.le_of_ble_eq_true rfl) dX7_give_2 ⟨Nat.zero_le _, Nat.zero_le _⟩ rfl (fun H locs hB hS => ?_)
  refine lv_if_ne (tgt := 10) hx hb dX7_give_5 (by decide) (fun hc2 => ?_) (fun hc2 => ?_)
  · have hf := if_f hf hc2
    refine lv_aload_n hx hb dX7_give_10 rfl (lv_at hl 0 rfl) ?_
    refine lv_iload_n hx hb dX7_give_11 rfl (lv_at hl 3 rfl) ?_
    refine lv_if_le (tgt := 30) hx hb dX7_give_12 (by decide) (fun hc3 => ?_) (fun hc3 => ?_)
    · have hf := if_t hf hc3
      refine lv_iconst (v := 0) hx hb dX7_give_30 (by decide) ?_
      exact J_31 z1R x1 x2 x3 x4 (0 : Int32) hf _ _ _ hB hS (lv_sub hl [0, 1, 2, 3, 4] rfl)
    · have hf := if_f hf hc3
      refine lv_iload hx hb dX7_give_15 (lv_at hl 4 rfl) ?_
      refine lv_if_eq (tgt := 26) hx hb dX7_give_17 (by decide) (fun hc27 => ?_) (fun hc27 => ?_)
      · have hf := if_t hf hc27
        refine lv_iconst (v := 1) hx hb dX7_give_26 (by decide) ?_
        refine lv_goto (tgt := 31) hx hb dX7_give_27 (by decide) ?_
        exact J_31 z1R x1 x2 x3 x4 (1 : Int32) hf _ _ _ hB hS (lv_sub hl [0, 1, 2, 3, 4] rfl)
      · have hf := if_f hf hc27
        refine lv_iload hx hb dX7_give_20 (lv_at hl 4 rfl) ?_
        refine lv_iconst (v := 1) hx hb dX7_give_22 (by decide) ?_
        refine lv_icmp_ne (tgt := 30) hx hb dX7_give_23 (by decide) (fun hc28 => ?_) (fun hc28 => ?_)
        · have hf := if_f hf hc28
          refine lv_iconst (v := 0) hx hb dX7_give_30 (by decide) ?_
          exact J_31 z1R x1 x2 x3 x4 (0 : Int32) hf _ _ _ hB hS (lv_sub hl [0, 1, 2, 3, 4] rfl)
        · have hf := if_t hf hc28
          refine lv_iconst (v := 1) hx hb dX7_give_26 (by decide) ?_
          refine lv_goto (tgt := 31) hx hb dX7_give_27 (by decide) ?_
          exact J_31 z1R x1 x2 x3 x4 (1 : Int32) hf _ _ _ hB hS (lv_sub hl [0, 1, 2, 3, 4] rfl)
  · have hf := if_t hf hc2
    refine lv_iconst (v := 0) hx hb dX7_give_8 (by decide) ?_
    cases hf
    exact r_iret X hB hS hr hlk dX7_give_9
/-! X7_within -/
def rf_within_180 (F : Nat) (R : Rst) (x2 : Int64) (x13 : Int64) (x15 : Int64) : Option Int64 := if 0 < (lg_cmp (x15 + x2) x13) then (some ((-1) : Int64)) else (some x15)
def rf_within_158 (F : Nat) (R : Rst) (x2 : Int64) (x8 : Int64) (x13 : Int64) (x15 : Int64) : Option Int64 := dvl x8 (dvl x8 (if (lg_cmp (x15 / x8) (((x15 + x2) - 1) / x8)) = 0 then (rf_within_180 F R x2 x13 x15) else (some ((-1) : Int64))))
def rf_within_88 (F : Nat) (R : Rst) (x2 : Int64) (x4 : Int64) (x6 : Int64) (x8 : Int64) (x13 : Int64) (x15 : Int64) : Option Int64 := if (lg_cmp x8 0) = 0 then (rf_within_180 F R x2 x13 x15) else (dvl x8 (dvl x8 (if (lg_cmp (x15 / x8) (((x15 + x2) - 1) / x8)) = 0 then (rf_within_180 F R x2 x13 x15) else (dvl x8 (dvl x4 (if 0 < (lg_cmp (((x15 / x8) + 1) * x8) x6) then (rf_within_158 F R x2 x8 x13 (((((((((x15 / x8) + 1) * x8) - x6) + x4) - 1) / x4) * x4) + x6)) else (rf_within_158 F R x2 x8 x13 x6)))))))
def rf_within (F : Nat) (R : Rst) (x1 : Int32) (x2 : Int64) (x4 : Int64) (x6 : Int64) (x8 : Int64) : Option Int64 := rd R 11 x1 fun v1 => rd R 12 x1 fun v2 => rd R 6 v1 fun v3 => st1 (if v2 < v3 then v3 else v2) fun v4 => rd R 12 x1 fun v5 => rd R 13 x1 fun v6 => rd R 7 v1 fun v7 => st1 (if v7.toInt64 < (v5.toInt64 + v6.toInt64) then v7.toInt64 else (v5.toInt64 + v6.toInt64)) fun v8 => dvl x4 (if 0 < (lg_cmp v4.toInt64 x6) then (rf_within_88 F R x2 x4 x6 x8 v8 ((((((v4.toInt64 - x6) + x4) - 1) / x4) * x4) + x6)) else (rf_within_88 F R x2 x4 x6 x8 v8 x6))
set_option maxHeartbeats 4000000 in
set_option maxRecDepth 100000 in
theorem rm_within (l : Launch) (F : Nat) (D : va_G) (cI cZ : ClassId) (o : Nat) (q : Nat → Nat) (R : Rst) (x1 : Int32) (x2 : Int64) (x4 : Int64) (x6 : Int64) (x8 : Int64) (r : Int64) (hf : rf_within F R x1 x2 x4 x6 x8 = some r)   : rMet l yX7_within wq_X7_within { frames := 1, cells := 0, slots := 0, locals := 40 } D cI cZ o q [.ref o, .int x1, .long x2, .long x4, .long x6, .long x8] R (some (.long r)) R := by
  refine rMet_of (cc := cX7_within) (maxL := 19) (ret := (some .long)) (by decide) rfl rfl (kw_h kw_X7) (Nat.le_of_ble_eq_true rfl) ?_
  intro p e s m below meth c X hr hlk ls hl hB hS
  have hx := X.1.1
  have hb := X.1.2.1
  have hown := X.1.2.2.2.1
  have hts := X.1.2.2.2.2
  have hl : lv_has ls 19 [(0, .ref o), (1, .int x1), (2, .long x2), (4, .long x4), (6, .long x6), (8, .long x8)] := hl
  generalize hargs : ([.ref o, .int x1, .long x2, .long x4, .long x6, .long x8] : List Value).toArray = args at X hts hS ⊢
  have J_180 : ∀ (x2 : Int64) (x13 : Int64) (x15 : Int64), rf_within_180 F R x2 x13 x15 = some r → ∀ (H : Heap) (locs : List Loc) (ls : Array Slot), rB D cI cZ o q R H → va_S (rA o q) s.heap H locs → lv_has ls 19 [(0, .ref o), (2, .long x2), (13, .long x13), (15, .long x15)] → W p l e { frames := 1, cells := 0, slots := 0, locals := 40 } s m args below meth c H locs 0 0 (MQ below (mq (some (.long r)) (rW D cI cZ o q R) (rA o q)) args s 0 0 (rA o q)) (F0 m 180 ls []) := by
    intro x2 x13 x15 hf H locs ls hB hS hl
    unfold rf_within_180 at hf
    refine lv_lload hx hb dX7_within_180 (lv_at hl 3 rfl) ?_
    refine lv_lload_n hx hb dX7_within_182 rfl (lv_at hl 1 rfl) ?_
    refine lv_ladd hx hb dX7_within_183 ?_
    refine lv_lload hx hb dX7_within_184 (lv_at hl 2 rfl) ?_
    refine W.lcmp hx hb dX7_within_186 ?_
    refine lv_if_gt (tgt := 195) hx hb dX7_within_187 (by decide) (fun hc11 => ?_) (fun hc11 => ?_)
    · have hf := if_t hf hc11
      refine lv_ldc2 (v := (-1)) hx hb hown (hts (.constantLong RX7 245 (-1)) (kw_m kkl_X7_245)) dX7_within_195 ?_
      cases hf
      exact r_lret X hB hS hr hlk dX7_within_198
    · have hf := if_f hf hc11
      refine lv_lload hx hb dX7_within_190 (lv_at hl 3 rfl) ?_
      refine lv_goto (tgt := 198) hx hb dX7_within_192 (by decide) ?_
      cases hf
      exact r_lret X hB hS hr hlk dX7_within_198
  have J_158 : ∀ (x2 : Int64) (x8 : Int64) (x13 : Int64) (x15 : Int64), rf_within_158 F R x2 x8 x13 x15 = some r → ∀ (H : Heap) (locs : List Loc) (ls : Array Slot), rB D cI cZ o q R H → va_S (rA o q) s.heap H locs → lv_has ls 19 [(0, .ref o), (2, .long x2), (8, .long x8), (13, .long x13), (15, .long x15)] → W p l e { frames := 1, cells := 0, slots := 0, locals := 40 } s m args below meth c H locs 0 0 (MQ below (mq (some (.long r)) (rW D cI cZ o q R) (rA o q)) args s 0 0 (rA o q)) (F0 m 158 ls []) := by
    intro x2 x8 x13 x15 hf H locs ls hB hS hl
    unfold rf_within_158 at hf
    refine lv_lload hx hb dX7_within_158 (lv_at hl 4 rfl) ?_
    refine lv_lload hx hb dX7_within_160 (lv_at hl 2 rfl) ?_
    obtain ⟨hd16, hf⟩ := dvl_s hf
    refine lv_ldiv hx hb dX7_within_162 hd16 ?_
    refine lv_lload hx hb dX7_within_163 (lv_at hl 4 rfl) ?_
    refine lv_lload_n hx hb dX7_within_165 rfl (lv_at hl 1 rfl) ?_
    refine lv_ladd hx hb dX7_within_166 ?_
    refine lv_lconst (v := 1) hx hb dX7_within_167 (by decide) ?_
    refine lv_lsub hx hb dX7_within_168 ?_
    refine lv_lload hx hb dX7_within_169 (lv_at hl 2 rfl) ?_
    obtain ⟨hd15, hf⟩ := dvl_s hf
    refine lv_ldiv hx hb dX7_within_171 hd15 ?_
    refine W.lcmp hx hb dX7_within_172 ?_
    refine lv_if_eq (tgt := 180) hx hb dX7_within_173 (by decide) (fun hc14 => ?_) (fun hc14 => ?_)
    · have hf := if_t hf hc14
      exact J_180 x2 x13 x15 hf _ _ _ hB hS (lv_sub hl [0, 1, 3, 4] rfl)
    · have hf := if_f hf hc14
      refine lv_ldc2 (v := (-1)) hx hb hown (hts (.constantLong RX7 245 (-1)) (kw_m kkl_X7_245)) dX7_within_176 ?_
      cases hf
      exact r_lret X hB hS hr hlk dX7_within_179
  have J_88 : ∀ (x2 : Int64) (x4 : Int64) (x6 : Int64) (x8 : Int64) (x13 : Int64) (x15 : Int64), rf_within_88 F R x2 x4 x6 x8 x13 x15 = some r → ∀ (H : Heap) (locs : List Loc) (ls : Array Slot), rB D cI cZ o q R H → va_S (rA o q) s.heap H locs → lv_has ls 19 [(0, .ref o), (2, .long x2), (4, .long x4), (6, .long x6), (8, .long x8), (13, .long x13), (15, .long x15)] → W p l e { frames := 1, cells := 0, slots := 0, locals := 40 } s m args below meth c H locs 0 0 (MQ below (mq (some (.long r)) (rW D cI cZ o q R) (rA o q)) args s 0 0 (rA o q)) (F0 m 88 ls []) := by
    intro x2 x4 x6 x8 x13 x15 hf H locs ls hB hS hl
    unfold rf_within_88 at hf
    refine lv_lload hx hb dX7_within_88 (lv_at hl 4 rfl) ?_
    refine lv_lconst (v := 0) hx hb dX7_within_90 (by decide) ?_
    refine W.lcmp hx hb dX7_within_91 ?_
    refine lv_if_eq (tgt := 180) hx hb dX7_within_92 (by decide) (fun hc10 => ?_) (fun hc10 => ?_)
    · have hf := if_t hf hc10
      exact J_180 x2 x13 x15 hf _ _ _ hB hS (lv_sub hl [0, 1, 5, 6] rfl)
    · have hf := if_f hf hc10
      refine lv_lload hx hb dX7_within_95 (lv_at hl 6 rfl) ?_
      refine lv_lload hx hb dX7_within_97 (lv_at hl 4 rfl) ?_
      obtain ⟨hd20, hf⟩ := dvl_s hf
      refine lv_ldiv hx hb dX7_within_99 hd20 ?_
      refine lv_lload hx hb dX7_within_100 (lv_at hl 6 rfl) ?_
      refine lv_lload_n hx hb dX7_within_102 rfl (lv_at hl 1 rfl) ?_
      refine lv_ladd hx hb dX7_within_103 ?_
      refine lv_lconst (v := 1) hx hb dX7_within_104 (by decide) ?_
      refine lv_lsub hx hb dX7_within_105 ?_
      refine lv_lload hx hb dX7_within_106 (lv_at hl 4 rfl) ?_
      obtain ⟨hd19, hf⟩ := dvl_s hf
      refine lv_ldiv hx hb dX7_within_108 hd19 ?_
      refine W.lcmp hx hb dX7_within_109 ?_
      refine lv_if_eq (tgt := 180) hx hb dX7_within_110 (by decide) (fun hc12 => ?_) (fun hc12 => ?_)
      · have hf := if_t hf hc12
        exact J_180 x2 x13 x15 hf _ _ _ hB hS (lv_sub hl [0, 1, 5, 6] rfl)
      · have hf := if_f hf hc12
        refine lv_lload hx hb dX7_within_113 (lv_at hl 6 rfl) ?_
        refine lv_lload hx hb dX7_within_115 (lv_at hl 4 rfl) ?_
        obtain ⟨hd18, hf⟩ := dvl_s hf
        refine lv_ldiv hx hb dX7_within_117 hd18 ?_
        refine lv_lconst (v := 1) hx hb dX7_within_118 (by decide) ?_
        refine lv_ladd hx hb dX7_within_119 ?_
        refine lv_lload hx hb dX7_within_120 (lv_at hl 4 rfl) ?_
        refine lv_lmul hx hb dX7_within_122 ?_
        refine lv_lstore (lv' := [(17, .long (((x15 / x8) + 1) * x8)), (0, .ref o), (2, .long x2), (4, .long x4), (6, .long x6), (8, .long x8), (13, .long x13), (15, .long x15)]) hx hb dX7_within_123 hl (by decide) rfl (fun ls hl => ?_)
        refine lv_lload hx hb dX7_within_125 (lv_at hl 0 rfl) ?_
        refine lv_lload hx hb dX7_within_127 (lv_at hl 4 rfl) ?_
        refine lv_lsub hx hb dX7_within_129 ?_
        refine lv_lload hx hb dX7_within_130 (lv_at hl 3 rfl) ?_
        refine lv_ladd hx hb dX7_within_132 ?_
        refine lv_lconst (v := 1) hx hb dX7_within_133 (by decide) ?_
        refine lv_lsub hx hb dX7_within_134 ?_
        refine lv_lload hx hb dX7_within_135 (lv_at hl 3 rfl) ?_
        obtain ⟨hd17, hf⟩ := dvl_s hf
        refine lv_ldiv hx hb dX7_within_137 hd17 ?_
        refine lv_lload hx hb dX7_within_138 (lv_at hl 3 rfl) ?_
        refine lv_lmul hx hb dX7_within_140 ?_
        refine lv_lload hx hb dX7_within_141 (lv_at hl 4 rfl) ?_
        refine lv_ladd hx hb dX7_within_143 ?_
        refine lv_lstore (lv' := [(15, .long (((((((((x15 / x8) + 1) * x8) - x6) + x4) - 1) / x4) * x4) + x6)), (17, .long (((x15 / x8) + 1) * x8)), (0, .ref o), (2, .long x2), (4, .long x4), (6, .long x6), (8, .long x8), (13, .long x13)]) hx hb dX7_within_144 hl (by decide) rfl (fun ls hl => ?_)
        refine lv_lload hx hb dX7_within_146 (lv_at hl 1 rfl) ?_
        refine lv_lload hx hb dX7_within_148 (lv_at hl 5 rfl) ?_
        refine W.lcmp hx hb dX7_within_150 ?_
        refine lv_if_gt (tgt := 158) hx hb dX7_within_151 (by decide) (fun hc13 => ?_) (fun hc13 => ?_)
        · have hf := if_t hf hc13
          exact J_158 x2 x8 x13 (((((((((x15 / x8) + 1) * x8) - x6) + x4) - 1) / x4) * x4) + x6) hf _ _ _ hB hS (lv_sub hl [2, 3, 6, 7, 0] rfl)
        · have hf := if_f hf hc13
          refine lv_lload hx hb dX7_within_154 (lv_at hl 5 rfl) ?_
          refine lv_lstore (lv' := [(15, .long x6), (17, .long (((x15 / x8) + 1) * x8)), (0, .ref o), (2, .long x2), (4, .long x4), (6, .long x6), (8, .long x8), (13, .long x13)]) hx hb dX7_within_156 hl (by decide) rfl (fun ls hl => ?_)
          exact J_158 x2 x8 x13 x6 hf _ _ _ hB hS (lv_sub hl [2, 3, 6, 7, 0] rfl)
  unfold rf_within at hf
  refine lv_aload_n hx hb dX7_within_0 rfl (lv_at hl 0 rfl) ?_
  refine r_get X hB 11 34 (by decide) (kw_m kf_X7_34) rfl rfl dX7_within_1 ?_
  refine lv_iload_n hx hb dX7_within_4 rfl (lv_at hl 1 rfl) ?_
  obtain ⟨v1, ev1, hiv1, hf⟩ := rd_s hf
  refine r_ld X hB 11 9 (rat_11 cI cZ o q R) hiv1 ev1 dX7_within_5 ?_
  refine lv_istore (lv' := [(10, .int v1), (0, .ref o), (1, .int x1), (2, .long x2), (4, .long x4), (6, .long x6), (8, .long x8)]) hx hb dX7_within_6 hl (by decide) rfl (fun ls hl => ?_)
  refine lv_aload_n hx hb dX7_within_8 rfl (lv_at hl 1 rfl) ?_
  refine r_get X hB 12 37 (by decide) (kw_m kf_X7_37) rfl rfl dX7_within_9 ?_
  refine lv_iload_n hx hb dX7_within_12 rfl (lv_at hl 2 rfl) ?_
  obtain ⟨v2, ev2, hiv2, hf⟩ := rd_s hf
  refine r_ld X hB 12 10 (rat_12 cI cZ o q R) hiv2 ev2 dX7_within_13 ?_
  refine lv_aload_n hx hb dX7_within_14 rfl (lv_at hl 1 rfl) ?_
  refine r_get X hB 6 22 (by decide) (kw_m kf_X7_22) rfl rfl dX7_within_15 ?_
  refine lv_iload hx hb dX7_within_18 (lv_at hl 0 rfl) ?_
  obtain ⟨v3, ev3, hiv3, hf⟩ := rd_s hf
  refine r_ld X hB 6 5 (rat_6 cI cZ o q R) hiv3 ev3 dX7_within_20 ?_
  refine va_mmax hx hb (X.1.2.2.1.trans hl.1.symm) hown (hts _ (kw_m km_X7_236)) (hts _ (kw_m kx_Cond_static_Lib_Math_max_name)) (hts _ (kw_m kin_java_lang_Math)) (hts _ (kw_m kx_Cond_code_Lib_Math_max_name_Lib_Math_max_code_2_some_int)) (by decide) (Nat.le_of_ble_eq_true rfl) (Nat.zero_le _) (Nat.zero_le _) dX7_within_21 ?_
  obtain ⟨v4, ev4, hf⟩ := st1_s hf
  rw [← ev4]
  refine lv_i2l (v := v4.toInt64) hx hb dX7_within_24 rfl ?_
  refine lv_lstore (lv' := [(11, .long v4.toInt64), (10, .int v1), (0, .ref o), (1, .int x1), (2, .long x2), (4, .long x4), (6, .long x6), (8, .long x8)]) hx hb dX7_within_25 hl (by decide) rfl (fun ls hl => ?_)
  refine lv_aload_n hx hb dX7_within_27 rfl (lv_at hl 2 rfl) ?_
  refine r_get X hB 12 37 (by decide) (kw_m kf_X7_37) rfl rfl dX7_within_28 ?_
  refine lv_iload_n hx hb dX7_within_31 rfl (lv_at hl 3 rfl) ?_
  obtain ⟨v5, ev5, hiv5, hf⟩ := rd_s hf
  refine r_ld X hB 12 10 (rat_12 cI cZ o q R) hiv5 ev5 dX7_within_32 ?_
  refine lv_i2l (v := v5.toInt64) hx hb dX7_within_33 rfl ?_
  refine lv_aload_n hx hb dX7_within_34 rfl (lv_at hl 2 rfl) ?_
  refine r_get X hB 13 40 (by decide) (kw_m kf_X7_40) rfl rfl dX7_within_35 ?_
  refine lv_iload_n hx hb dX7_within_38 rfl (lv_at hl 3 rfl) ?_
  obtain ⟨v6, ev6, hiv6, hf⟩ := rd_s hf
  refine r_ld X hB 13 11 (rat_13 cI cZ o q R) hiv6 ev6 dX7_within_39 ?_
  refine lv_i2l (v := v6.toInt64) hx hb dX7_within_40 rfl ?_
  refine lv_ladd hx hb dX7_within_41 ?_
  refine lv_aload_n hx hb dX7_within_42 rfl (lv_at hl 2 rfl) ?_
  refine r_get X hB 7 25 (by decide) (kw_m kf_X7_25) rfl rfl dX7_within_43 ?_
  refine lv_iload hx hb dX7_within_46 (lv_at hl 1 rfl) ?_
  obtain ⟨v7, ev7, hiv7, hf⟩ := rd_s hf
  refine r_ld X hB 7 6 (rat_7 cI cZ o q R) hiv7 ev7 dX7_within_48 ?_
  refine lv_i2l (v := v7.toInt64) hx hb dX7_within_49 rfl ?_
  refine va_mmin_long hx hb (X.1.2.2.1.trans hl.1.symm) hown (hts _ (kw_m km_X7_241)) (hts _ (kw_m kx_Cond_static_Lib_MathLoose_min_long_x)) (hts _ (kw_m kin_java_lang_Math)) (hts _ (kw_m kx_Cond_code_Lib_MathLoose_min_long_x_Lib_MathLoose_min_long_co)) (by decide) (Nat.le_of_ble_eq_true rfl) (Nat.zero_le _) (Nat.zero_le _) dX7_within_50 ?_
  obtain ⟨v8, ev8, hf⟩ := st1_s hf
  rw [← ev8]
  refine lv_lstore (lv' := [(13, .long v8), (11, .long v4.toInt64), (10, .int v1), (0, .ref o), (1, .int x1), (2, .long x2), (4, .long x4), (6, .long x6), (8, .long x8)]) hx hb dX7_within_53 hl (by decide) rfl (fun ls hl => ?_)
  refine lv_lload hx hb dX7_within_55 (lv_at hl 1 rfl) ?_
  refine lv_lload hx hb dX7_within_57 (lv_at hl 7 rfl) ?_
  refine lv_lsub hx hb dX7_within_59 ?_
  refine lv_lload hx hb dX7_within_60 (lv_at hl 6 rfl) ?_
  refine lv_ladd hx hb dX7_within_62 ?_
  refine lv_lconst (v := 1) hx hb dX7_within_63 (by decide) ?_
  refine lv_lsub hx hb dX7_within_64 ?_
  refine lv_lload hx hb dX7_within_65 (lv_at hl 6 rfl) ?_
  obtain ⟨hd21, hf⟩ := dvl_s hf
  refine lv_ldiv hx hb dX7_within_67 hd21 ?_
  refine lv_lload hx hb dX7_within_68 (lv_at hl 6 rfl) ?_
  refine lv_lmul hx hb dX7_within_70 ?_
  refine lv_lload hx hb dX7_within_71 (lv_at hl 7 rfl) ?_
  refine lv_ladd hx hb dX7_within_73 ?_
  refine lv_lstore (lv' := [(15, .long ((((((v4.toInt64 - x6) + x4) - 1) / x4) * x4) + x6)), (13, .long v8), (11, .long v4.toInt64), (10, .int v1), (0, .ref o), (1, .int x1), (2, .long x2), (4, .long x4), (6, .long x6), (8, .long x8)]) hx hb dX7_within_74 hl (by decide) rfl (fun ls hl => ?_)
  refine lv_lload hx hb dX7_within_76 (lv_at hl 2 rfl) ?_
  refine lv_lload hx hb dX7_within_78 (lv_at hl 8 rfl) ?_
  refine W.lcmp hx hb dX7_within_80 ?_
  refine lv_if_gt (tgt := 88) hx hb dX7_within_81 (by decide) (fun hc9 => ?_) (fun hc9 => ?_)
  · have hf := if_t hf hc9
    exact J_88 x2 x4 x6 x8 v8 ((((((v4.toInt64 - x6) + x4) - 1) / x4) * x4) + x6) hf _ _ _ hB hS (lv_sub hl [4, 6, 7, 8, 9, 1, 0] rfl)
  · have hf := if_f hf hc9
    refine lv_lload hx hb dX7_within_84 (lv_at hl 8 rfl) ?_
    refine lv_lstore (lv' := [(15, .long x6), (13, .long v8), (11, .long v4.toInt64), (10, .int v1), (0, .ref o), (1, .int x1), (2, .long x2), (4, .long x4), (6, .long x6), (8, .long x8)]) hx hb dX7_within_86 hl (by decide) rfl (fun ls hl => ?_)
    exact J_88 x2 x4 x6 x8 v8 x6 hf _ _ _ hB hS (lv_sub hl [4, 6, 7, 8, 9, 1, 0] rfl)
/-! X7_narrow -/
def rf_narrow_75 (F : Nat) (k_6 : Int32 → Int64 → Int32 → Int32 → Int32 → Int32 → Int32 → Option Int32) (R : Rst) (x1 : Int32) (x2 : Int64) (x4 : Int32) (x5 : Int32) (x6 : Int32) (x7 : Int32) (x8 : Int32) : Option Int32 := (rf_within F R x8 x2 x4.toInt64 x5.toInt64 x6.toInt64).bind fun v9 => if (lg_cmp v9 (-1)) = 0 then (k_6 x1 x2 x4 x5 x6 x7 (x8 + 1)) else (k_6 x1 x2 x4 x5 x6 x8 (x8 + 1))
def rf_narrow_6 (F : Nat) (R : Rst) : Nat → Int32 → Int64 → Int32 → Int32 → Int32 → Int32 → Int32 → Option Int32
  | 0 => fun _ _ _ _ _ _ _ => none
  | n + 1 => fun x1 x2 x4 x5 x6 x7 x8 => if (R.1 10) ≤ x8 then (some x7) else (rd R 11 x8 fun v2 => if v2 = x1 then (rd R 14 x8 fun v4 => if v4 = 0 then (rd R 13 x8 fun v6 => if (lg_cmp v6.toInt64 x2) < 0 then ((rf_narrow_6 F R n) x1 x2 x4 x5 x6 x7 (x8 + 1)) else (if x7 = ((-1) : Int32) then (rf_narrow_75 F (rf_narrow_6 F R n) R x1 x2 x4 x5 x6 x7 x8) else (rd R 13 x8 fun v11 => rd R 13 x7 fun v12 => if v11 < v12 then (rf_narrow_75 F (rf_narrow_6 F R n) R x1 x2 x4 x5 x6 x7 x8) else ((rf_narrow_6 F R n) x1 x2 x4 x5 x6 x7 (x8 + 1))))) else ((rf_narrow_6 F R n) x1 x2 x4 x5 x6 x7 (x8 + 1))) else ((rf_narrow_6 F R n) x1 x2 x4 x5 x6 x7 (x8 + 1)))
def rf_narrow (F : Nat) (R : Rst) (x1 : Int32) (x2 : Int64) (x4 : Int32) (x5 : Int32) (x6 : Int32) : Option Int32 := rf_narrow_6 F R F x1 x2 x4 x5 x6 ((-1) : Int32) (0 : Int32)
set_option maxHeartbeats 4000000 in
set_option maxRecDepth 100000 in
theorem rm_narrow (l : Launch) (F : Nat) (D : va_G) (cI cZ : ClassId) (o : Nat) (q : Nat → Nat) (R : Rst) (x1 : Int32) (x2 : Int64) (x4 : Int32) (x5 : Int32) (x6 : Int32) (r : Int32) (hf : rf_narrow F R x1 x2 x4 x5 x6 = some r)   : rMet l yX7_narrow wq_X7_narrow { frames := 2, cells := 0, slots := 0, locals := 78 } D cI cZ o q [.ref o, .int x1, .long x2, .int x4, .int x5, .int x6] R (some (.int r)) R := by
  refine rMet_of (cc := cX7_narrow) (maxL := 9) (ret := (some .int)) (by decide) rfl rfl (kw_h kw_X7) (Nat.le_of_ble_eq_true rfl) ?_
  intro p e s m below meth c X hr hlk ls hl hB hS
  have hx := X.1.1
  have hb := X.1.2.1
  have hown := X.1.2.2.2.1
  have hts := X.1.2.2.2.2
  have hl : lv_has ls 9 [(0, .ref o), (1, .int x1), (2, .long x2), (4, .int x4), (5, .int x5), (6, .int x6)] := hl
  generalize hargs : ([.ref o, .int x1, .long x2, .int x4, .int x5, .int x6] : List Value).toArray = args at X hts hS ⊢
  have J_6 : ∀ (n_6 : Nat) (x1 : Int32) (x2 : Int64) (x4 : Int32) (x5 : Int32) (x6 : Int32) (x7 : Int32) (x8 : Int32), rf_narrow_6 F R n_6 x1 x2 x4 x5 x6 x7 x8 = some r → ∀ (H : Heap) (locs : List Loc) (ls : Array Slot), rB D cI cZ o q R H → va_S (rA o q) s.heap H locs → lv_has ls 9 [(0, .ref o), (1, .int x1), (2, .long x2), (4, .int x4), (5, .int x5), (6, .int x6), (7, .int x7), (8, .int x8)] → W p l e { frames := 2, cells := 0, slots := 0, locals := 78 } s m args below meth c H locs 0 0 (MQ below (mq (some (.int r)) (rW D cI cZ o q R) (rA o q)) args s 0 0 (rA o q)) (F0 m 6 ls []) := by
    intro n_6
    induction n_6 with
    | zero => intro x1 x2 x4 x5 x6 x7 x8 hf; cases hf
    | succ n_6 ih_6 =>
      intro x1 x2 x4 x5 x6 x7 x8 hf H locs ls hB hS hl
      rw [rf_narrow_6] at hf
      have J_75 : ∀ (x1 : Int32) (x2 : Int64) (x4 : Int32) (x5 : Int32) (x6 : Int32) (x7 : Int32) (x8 : Int32), rf_narrow_75 F (rf_narrow_6 F R n_6) R x1 x2 x4 x5 x6 x7 x8 = some r → ∀ (H : Heap) (locs : List Loc) (ls : Array Slot), rB D cI cZ o q R H → va_S (rA o q) s.heap H locs → lv_has ls 9 [(0, .ref o), (1, .int x1), (2, .long x2), (4, .int x4), (5, .int x5), (6, .int x6), (7, .int x7), (8, .int x8)] → W p l e { frames := 2, cells := 0, slots := 0, locals := 78 } s m args below meth c H locs 0 0 (MQ below (mq (some (.int r)) (rW D cI cZ o q R) (rA o q)) args s 0 0 (rA o q)) (F0 m 75 ls []) := by
        intro x1 x2 x4 x5 x6 x7 x8 hf H locs ls hB hS hl
        unfold rf_narrow_75 at hf
        refine lv_aload_n hx hb dX7_narrow_75 rfl (lv_at hl 0 rfl) ?_
        refine lv_iload hx hb dX7_narrow_76 (lv_at hl 7 rfl) ?_
        refine lv_lload_n hx hb dX7_narrow_78 rfl (lv_at hl 2 rfl) ?_
        refine lv_iload hx hb dX7_narrow_79 (lv_at hl 3 rfl) ?_
        refine lv_i2l (v := x4.toInt64) hx hb dX7_narrow_81 rfl ?_
        refine lv_iload hx hb dX7_narrow_82 (lv_at hl 4 rfl) ?_
        refine lv_i2l (v := x5.toInt64) hx hb dX7_narrow_84 rfl ?_
        refine lv_iload hx hb dX7_narrow_85 (lv_at hl 5 rfl) ?_
        refine lv_i2l (v := x6.toInt64) hx hb dX7_narrow_87 rfl ?_
        obtain ⟨v9, hqv9, hf⟩ := bn_s hf
        refine r_callV (As := [.int x8, .long x2, .long x4.toInt64, .long x5.toInt64, .long x6.toInt64]) (rest := []) X hB hS (rm_within l F D cI cZ o q _ _ _ _ _ _  _ hqv9) (cwV 5 hts (gd_V km_X7_247 ki_X7_within ks_X7_within kin_RX7 kc_X7_within) rfl rfl rfl (by decide +kernel) ⟨by decide, by decide⟩) hl rfl rfl (Nat.le_of_ble_eq_true rfl) dX7_narrow_88 ⟨Nat.zero_le _, Nat.zero_le _⟩ rfl (fun H locs hB hS => ?_)
        refine lv_ldc2 (v := (-1)) hx hb hown (hts (.constantLong RX7 245 (-1)) (kw_m kkl_X7_245)) dX7_narrow_91 ?_
        refine W.lcmp hx hb dX7_narrow_94 ?_
        refine lv_if_eq (tgt := 102) hx hb dX7_narrow_95 (by decide) (fun hc10 => ?_) (fun hc10 => ?_)
        · have hf := if_t hf hc10
          refine lv_iinc (v := x8 + 1) (lv' := [(8, .int (x8 + 1)), (0, .ref o), (1, .int x1), (2, .long x2), (4, .int x4), (5, .int x5), (6, .int x6), (7, .int x7)]) hx hb dX7_narrow_102 hl (k := 7) rfl rfl (by decide) rfl (fun ls hl => ?_)
          refine lv_goto (tgt := 6) hx hb dX7_narrow_105 (by decide) ?_
          exact ih_6 x1 x2 x4 x5 x6 x7 (x8 + 1) hf _ _ _ hB hS (lv_sub hl [1, 2, 3, 4, 5, 6, 7, 0] rfl)
        · have hf := if_f hf hc10
          refine lv_iload hx hb dX7_narrow_98 (lv_at hl 7 rfl) ?_
          refine lv_istore (lv' := [(7, .int x8), (0, .ref o), (1, .int x1), (2, .long x2), (4, .int x4), (5, .int x5), (6, .int x6), (8, .int x8)]) hx hb dX7_narrow_100 hl (by decide) rfl (fun ls hl => ?_)
          refine lv_iinc (v := x8 + 1) (lv' := [(8, .int (x8 + 1)), (7, .int x8), (0, .ref o), (1, .int x1), (2, .long x2), (4, .int x4), (5, .int x5), (6, .int x6)]) hx hb dX7_narrow_102 hl (k := 7) rfl rfl (by decide) rfl (fun ls hl => ?_)
          refine lv_goto (tgt := 6) hx hb dX7_narrow_105 (by decide) ?_
          exact ih_6 x1 x2 x4 x5 x6 x8 (x8 + 1) hf _ _ _ hB hS (lv_sub hl [2, 3, 4, 5, 6, 7, 1, 0] rfl)
      refine lv_iload hx hb dX7_narrow_6 (lv_at hl 7 rfl) ?_
      refine lv_aload_n hx hb dX7_narrow_8 rfl (lv_at hl 0 rfl) ?_
      refine r_get X hB 10 107 (by decide) (kw_m kf_X7_107) rfl rfl dX7_narrow_9 ?_
      refine lv_icmp_ge (tgt := 108) hx hb dX7_narrow_12 (by decide) (fun hc1 => ?_) (fun hc1 => ?_)
      · have hf := if_t hf hc1
        refine lv_iload hx hb dX7_narrow_108 (lv_at hl 6 rfl) ?_
        cases hf
        exact r_iret X hB hS hr hlk dX7_narrow_110
      · have hf := if_f hf hc1
        refine lv_aload_n hx hb dX7_narrow_15 rfl (lv_at hl 0 rfl) ?_
        refine r_get X hB 11 34 (by decide) (kw_m kf_X7_34) rfl rfl dX7_narrow_16 ?_
        refine lv_iload hx hb dX7_narrow_19 (lv_at hl 7 rfl) ?_
        obtain ⟨v2, ev2, hiv2, hf⟩ := rd_s hf
        refine r_ld X hB 11 9 (rat_11 cI cZ o q R) hiv2 ev2 dX7_narrow_21 ?_
        refine lv_iload_n hx hb dX7_narrow_22 rfl (lv_at hl 1 rfl) ?_
        refine lv_icmp_ne (tgt := 102) hx hb dX7_narrow_23 (by decide) (fun hc3 => ?_) (fun hc3 => ?_)
        · have hf := if_f hf hc3
          refine lv_iinc (v := x8 + 1) (lv' := [(8, .int (x8 + 1)), (0, .ref o), (1, .int x1), (2, .long x2), (4, .int x4), (5, .int x5), (6, .int x6), (7, .int x7)]) hx hb dX7_narrow_102 hl (k := 7) rfl rfl (by decide) rfl (fun ls hl => ?_)
          refine lv_goto (tgt := 6) hx hb dX7_narrow_105 (by decide) ?_
          exact ih_6 x1 x2 x4 x5 x6 x7 (x8 + 1) hf _ _ _ hB hS (lv_sub hl [1, 2, 3, 4, 5, 6, 7, 0] rfl)
        · have hf := if_t hf hc3
          refine lv_aload_n hx hb dX7_narrow_26 rfl (lv_at hl 0 rfl) ?_
          refine r_get X hB 14 43 (by decide) (kw_m kf_X7_43) rfl rfl dX7_narrow_27 ?_
          refine lv_iload hx hb dX7_narrow_30 (lv_at hl 7 rfl) ?_
          obtain ⟨v4, ev4, hiv4, hf⟩ := rd_s hf
          refine r_ld X hB 14 12 (rat_14 cI cZ o q R) hiv4 ev4 dX7_narrow_32 ?_
          refine lv_if_ne (tgt := 102) hx hb dX7_narrow_33 (by decide) (fun hc5 => ?_) (fun hc5 => ?_)
          · have hf := if_f hf hc5
            refine lv_iinc (v := x8 + 1) (lv' := [(8, .int (x8 + 1)), (0, .ref o), (1, .int x1), (2, .long x2), (4, .int x4), (5, .int x5), (6, .int x6), (7, .int x7)]) hx hb dX7_narrow_102 hl (k := 7) rfl rfl (by decide) rfl (fun ls hl => ?_)
            refine lv_goto (tgt := 6) hx hb dX7_narrow_105 (by decide) ?_
            exact ih_6 x1 x2 x4 x5 x6 x7 (x8 + 1) hf _ _ _ hB hS (lv_sub hl [1, 2, 3, 4, 5, 6, 7, 0] rfl)
          · have hf := if_t hf hc5
            refine lv_aload_n hx hb dX7_narrow_36 rfl (lv_at hl 0 rfl) ?_
            refine r_get X hB 13 40 (by decide) (kw_m kf_X7_40) rfl rfl dX7_narrow_37 ?_
            refine lv_iload hx hb dX7_narrow_40 (lv_at hl 7 rfl) ?_
            obtain ⟨v6, ev6, hiv6, hf⟩ := rd_s hf
            refine r_ld X hB 13 11 (rat_13 cI cZ o q R) hiv6 ev6 dX7_narrow_42 ?_
            refine lv_i2l (v := v6.toInt64) hx hb dX7_narrow_43 rfl ?_
            refine lv_lload_n hx hb dX7_narrow_44 rfl (lv_at hl 2 rfl) ?_
            refine W.lcmp hx hb dX7_narrow_45 ?_
            refine lv_if_lt (tgt := 102) hx hb dX7_narrow_46 (by decide) (fun hc7 => ?_) (fun hc7 => ?_)
            · have hf := if_t hf hc7
              refine lv_iinc (v := x8 + 1) (lv' := [(8, .int (x8 + 1)), (0, .ref o), (1, .int x1), (2, .long x2), (4, .int x4), (5, .int x5), (6, .int x6), (7, .int x7)]) hx hb dX7_narrow_102 hl (k := 7) rfl rfl (by decide) rfl (fun ls hl => ?_)
              refine lv_goto (tgt := 6) hx hb dX7_narrow_105 (by decide) ?_
              exact ih_6 x1 x2 x4 x5 x6 x7 (x8 + 1) hf _ _ _ hB hS (lv_sub hl [1, 2, 3, 4, 5, 6, 7, 0] rfl)
            · have hf := if_f hf hc7
              refine lv_iload hx hb dX7_narrow_49 (lv_at hl 6 rfl) ?_
              refine lv_iconst (v := (-1)) hx hb dX7_narrow_51 (by decide) ?_
              refine lv_icmp_eq (tgt := 75) hx hb dX7_narrow_52 (by decide) (fun hc8 => ?_) (fun hc8 => ?_)
              · have hf := if_t hf hc8
                exact J_75 x1 x2 x4 x5 x6 x7 x8 hf _ _ _ hB hS (lv_sub hl [0, 1, 2, 3, 4, 5, 6, 7] rfl)
              · have hf := if_f hf hc8
                refine lv_aload_n hx hb dX7_narrow_55 rfl (lv_at hl 0 rfl) ?_
                refine r_get X hB 13 40 (by decide) (kw_m kf_X7_40) rfl rfl dX7_narrow_56 ?_
                refine lv_iload hx hb dX7_narrow_59 (lv_at hl 7 rfl) ?_
                obtain ⟨v11, ev11, hiv11, hf⟩ := rd_s hf
                refine r_ld X hB 13 11 (rat_13 cI cZ o q R) hiv11 ev11 dX7_narrow_61 ?_
                refine lv_aload_n hx hb dX7_narrow_62 rfl (lv_at hl 0 rfl) ?_
                refine r_get X hB 13 40 (by decide) (kw_m kf_X7_40) rfl rfl dX7_narrow_63 ?_
                refine lv_iload hx hb dX7_narrow_66 (lv_at hl 6 rfl) ?_
                obtain ⟨v12, ev12, hiv12, hf⟩ := rd_s hf
                refine r_ld X hB 13 11 (rat_13 cI cZ o q R) hiv12 ev12 dX7_narrow_68 ?_
                refine lv_icmp_lt (tgt := 75) hx hb dX7_narrow_69 (by decide) (fun hc13 => ?_) (fun hc13 => ?_)
                · have hf := if_t hf hc13
                  exact J_75 x1 x2 x4 x5 x6 x7 x8 hf _ _ _ hB hS (lv_sub hl [0, 1, 2, 3, 4, 5, 6, 7] rfl)
                · have hf := if_f hf hc13
                  refine lv_goto (tgt := 102) hx hb dX7_narrow_72 (by decide) ?_
                  refine lv_iinc (v := x8 + 1) (lv' := [(8, .int (x8 + 1)), (0, .ref o), (1, .int x1), (2, .long x2), (4, .int x4), (5, .int x5), (6, .int x6), (7, .int x7)]) hx hb dX7_narrow_102 hl (k := 7) rfl rfl (by decide) rfl (fun ls hl => ?_)
                  refine lv_goto (tgt := 6) hx hb dX7_narrow_105 (by decide) ?_
                  exact ih_6 x1 x2 x4 x5 x6 x7 (x8 + 1) hf _ _ _ hB hS (lv_sub hl [1, 2, 3, 4, 5, 6, 7, 0] rfl)
  unfold rf_narrow at hf
  refine lv_iconst (v := (-1)) hx hb dX7_narrow_0 (by decide) ?_
  refine lv_istore (lv' := [(7, .int (-1)), (0, .ref o), (1, .int x1), (2, .long x2), (4, .int x4), (5, .int x5), (6, .int x6)]) hx hb dX7_narrow_1 hl (by decide) rfl (fun ls hl => ?_)
  refine lv_iconst (v := 0) hx hb dX7_narrow_3 (by decide) ?_
  refine lv_istore (lv' := [(8, .int 0), (7, .int (-1)), (0, .ref o), (1, .int x1), (2, .long x2), (4, .int x4), (5, .int x5), (6, .int x6)]) hx hb dX7_narrow_4 hl (by decide) rfl (fun ls hl => ?_)
  exact J_6 F x1 x2 x4 x5 x6 ((-1) : Int32) (0 : Int32) hf _ _ _ hB hS (lv_sub hl [2, 3, 4, 5, 6, 7, 1, 0] rfl)
/-! X7_takeWithin -/
def rf_takeWithin_163 (F : Nat) (R : Rst) (x1 : Int32) (x3 : Int32) (x4 : Int32) (x5 : Int32) (x8 : Int64) (x10 : Int32) : Option (Int32 × Rst) := if x10 = ((-1) : Int32) then (some (((-1) : Int32), R)) else ((rf_within F R x10 x8 x3.toInt64 x4.toInt64 x5.toInt64).bind fun v14 => rd R 12 x10 fun v15 => rd R 13 x10 fun v16 => rd R 16 x10 fun v17 => rd R 12 x10 fun v18 => if (v14.toInt32 - v18) ≤ 0 then ((rf_cut F R x10 x8.toInt32 (4 : Int32)).bind fun R20 => some (v14.toInt32, R20)) else (wr R 13 x10 (v14.toInt32 - v18) fun R21 => (rf_frees F R21 x10).bind fun R22 => (rf_insert F R22 x1 v14.toInt32 ((v15 + v16) - v14.toInt32) v17).bind fun z23 => st2 z23 fun z23v z23R => (rf_cut F z23R z23v x8.toInt32 (4 : Int32)).bind fun R24 => some (v14.toInt32, R24)))
def rf_takeWithin_92 (F : Nat) (R : Rst) (x1 : Int32) (x2 : Int32) (x3 : Int32) (x4 : Int32) (x5 : Int32) (y0 : Int32) : Option (Int32 × Rst) := (rf_right F R y0 (2 : Int32)).bind fun z6 => st2 z6 fun z6v z6R => if z6v = 0 then (some ((0 : Int32), z6R)) else ((rf_left F z6R ).bind fun v8 => if (40 : Int32) ≤ v8 then ((rf_rounded F z6R x1 x2).bind fun v10 => (rf_narrow F z6R x1 v10 x3 x4 x5).bind fun v11 => if v11 = ((-1) : Int32) then ((rf_purges F z6R x1).bind fun z25 => st2 z25 fun z25v z25R => if z25v ≤ 0 then (rf_takeWithin_163 F z25R x1 x3 x4 x5 v10 v11) else ((rf_narrow F z25R x1 v10 x3 x4 x5).bind fun v27 => rf_takeWithin_163 F z25R x1 x3 x4 x5 v10 v27)) else (rf_takeWithin_163 F z6R x1 x3 x4 x5 v10 v11)) else (some (((-2) : Int32), z6R)))
def rf_takeWithin_60 (F : Nat) (R : Rst) (x1 : Int32) (x2 : Int32) (x3 : Int32) (x4 : Int32) (x5 : Int32) (x6 : Int32) (y0 : Int32) : Option (Int32 × Rst) := if y0 = 0 then (rf_takeWithin_92 F R x1 x2 x3 x4 x5 (0 : Int32)) else (if x4 < 0 then (rf_takeWithin_92 F R x1 x2 x3 x4 x5 (0 : Int32)) else (if x3 ≤ x4 then (rf_takeWithin_92 F R x1 x2 x3 x4 x5 (0 : Int32)) else (dv x6 (if (x4 - x4 / x6 * x6) = 0 then (rf_takeWithin_92 F R x1 x2 x3 x4 x5 (1 : Int32)) else (rf_takeWithin_92 F R x1 x2 x3 x4 x5 (0 : Int32))))))
def rf_takeWithin (F : Nat) (R : Rst) (x1 : Int32) (x2 : Int32) (x3 : Int32) (x4 : Int32) (x5 : Int32) : Option (Int32 × Rst) := (rf_isArena F R x1).bind fun z1 => st2 z1 fun z1v z1R => if z1v = 0 then (some ((0 : Int32), z1R)) else (rd z1R 2 x1 fun v3 => if x2 ≤ 0 then (rf_takeWithin_60 F z1R x1 x2 x3 x4 x5 v3 (0 : Int32)) else ((rf_isPower F z1R x3).bind fun v32 => if v32 = 0 then (rf_takeWithin_60 F z1R x1 x2 x3 x4 x5 v3 (0 : Int32)) else (if x3 < v3 then (rf_takeWithin_60 F z1R x1 x2 x3 x4 x5 v3 (0 : Int32)) else (if x5 = 0 then (rf_takeWithin_60 F z1R x1 x2 x3 x4 x5 v3 (1 : Int32)) else ((rf_isPower F z1R x5).bind fun v36 => if v36 = 0 then (rf_takeWithin_60 F z1R x1 x2 x3 x4 x5 v3 (0 : Int32)) else (if x5 < v3 then (rf_takeWithin_60 F z1R x1 x2 x3 x4 x5 v3 (0 : Int32)) else (rf_takeWithin_60 F z1R x1 x2 x3 x4 x5 v3 (1 : Int32))))))))
set_option maxHeartbeats 4000000 in
set_option maxRecDepth 100000 in
theorem rm_takeWithin (l : Launch) (F : Nat) (D : va_G) (cI cZ : ClassId) (o : Nat) (q : Nat → Nat) (R : Rst) (x1 : Int32) (x2 : Int32) (x3 : Int32) (x4 : Int32) (x5 : Int32) (r : Int32) (R' : Rst) (hf : rf_takeWithin F R x1 x2 x3 x4 x5 = some (r, R'))   : rMet l yX7_takeWithin wq_X7_takeWithin { frames := 19, cells := 0, slots := 0, locals := 889 } D cI cZ o q [.ref o, .int x1, .int x2, .int x3, .int x4, .int x5] R (some (.int r)) R' := by
  refine rMet_of (cc := cX7_takeWithin) (maxL := 15) (ret := (some .int)) (by decide) rfl rfl (kw_h kw_X7) (Nat.le_of_ble_eq_true rfl) ?_
  intro p e s m below meth c X hr hlk ls hl hB hS
  have hx := X.1.1
  have hb := X.1.2.1
  have hown := X.1.2.2.2.1
  have hts := X.1.2.2.2.2
  have hl : lv_has ls 15 [(0, .ref o), (1, .int x1), (2, .int x2), (3, .int x3), (4, .int x4), (5, .int x5)] := hl
  generalize hargs : ([.ref o, .int x1, .int x2, .int x3, .int x4, .int x5] : List Value).toArray = args at X hts hS ⊢
  have J_163 : ∀ (R : Rst) (x1 : Int32) (x3 : Int32) (x4 : Int32) (x5 : Int32) (x8 : Int64) (x10 : Int32), rf_takeWithin_163 F R x1 x3 x4 x5 x8 x10 = some (r, R') → ∀ (H : Heap) (locs : List Loc) (ls : Array Slot), rB D cI cZ o q R H → va_S (rA o q) s.heap H locs → lv_has ls 15 [(0, .ref o), (1, .int x1), (3, .int x3), (4, .int x4), (5, .int x5), (8, .long x8), (10, .int x10)] → W p l e { frames := 19, cells := 0, slots := 0, locals := 889 } s m args below meth c H locs 0 0 (MQ below (mq (some (.int r)) (rW D cI cZ o q R') (rA o q)) args s 0 0 (rA o q)) (F0 m 163 ls []) := by
    intro R x1 x3 x4 x5 x8 x10 hf H locs ls hB hS hl
    unfold rf_takeWithin_163 at hf
    refine lv_iload hx hb dX7_takeWithin_163 (lv_at hl 6 rfl) ?_
    refine lv_iconst (v := (-1)) hx hb dX7_takeWithin_165 (by decide) ?_
    refine lv_icmp_ne (tgt := 171) hx hb dX7_takeWithin_166 (by decide) (fun hc13 => ?_) (fun hc13 => ?_)
    · have hf := if_f hf hc13
      refine lv_aload_n hx hb dX7_takeWithin_171 rfl (lv_at hl 0 rfl) ?_
      refine lv_iload hx hb dX7_takeWithin_172 (lv_at hl 6 rfl) ?_
      refine lv_lload hx hb dX7_takeWithin_174 (lv_at hl 5 rfl) ?_
      refine lv_iload_n hx hb dX7_takeWithin_176 rfl (lv_at hl 2 rfl) ?_
      refine lv_i2l (v := x3.toInt64) hx hb dX7_takeWithin_177 rfl ?_
      refine lv_iload hx hb dX7_takeWithin_178 (lv_at hl 3 rfl) ?_
      refine lv_i2l (v := x4.toInt64) hx hb dX7_takeWithin_180 rfl ?_
      refine lv_iload hx hb dX7_takeWithin_181 (lv_at hl 4 rfl) ?_
      refine lv_i2l (v := x5.toInt64) hx hb dX7_takeWithin_183 rfl ?_
      obtain ⟨v14, hqv14, hf⟩ := bn_s hf
      refine r_callV (As := [.int x10, .long x8, .long x3.toInt64, .long x4.toInt64, .long x5.toInt64]) (rest := []) X hB hS (rm_within l F D cI cZ o q _ _ _ _ _ _  _ hqv14) (cwV 5 hts (gd_V km_X7_247 ki_X7_within ks_X7_within kin_RX7 kc_X7_within) rfl rfl rfl (by decide +kernel) ⟨by decide, by decide⟩) hl rfl rfl (Nat.le_of_ble_eq_true rfl) dX7_takeWithin_184 ⟨Nat.zero_le _, Nat.zero_le _⟩ rfl (fun H locs hB hS => ?_)
      refine lv_l2i (v := v14.toInt32) hx hb dX7_takeWithin_187 rfl ?_
      refine lv_istore (lv' := [(11, .int v14.toInt32), (0, .ref o), (1, .int x1), (3, .int x3), (4, .int x4), (5, .int x5), (8, .long x8), (10, .int x10)]) hx hb dX7_takeWithin_188 hl (by decide) rfl (fun ls hl => ?_)
      refine lv_aload_n hx hb dX7_takeWithin_190 rfl (lv_at hl 1 rfl) ?_
      refine r_get X hB 12 37 (by decide) (kw_m kf_X7_37) rfl rfl dX7_takeWithin_191 ?_
      refine lv_iload hx hb dX7_takeWithin_194 (lv_at hl 7 rfl) ?_
      obtain ⟨v15, ev15, hiv15, hf⟩ := rd_s hf
      refine r_ld X hB 12 10 (rat_12 cI cZ o q R) hiv15 ev15 dX7_takeWithin_196 ?_
      refine lv_aload_n hx hb dX7_takeWithin_197 rfl (lv_at hl 1 rfl) ?_
      refine r_get X hB 13 40 (by decide) (kw_m kf_X7_40) rfl rfl dX7_takeWithin_198 ?_
      refine lv_iload hx hb dX7_takeWithin_201 (lv_at hl 7 rfl) ?_
      obtain ⟨v16, ev16, hiv16, hf⟩ := rd_s hf
      refine r_ld X hB 13 11 (rat_13 cI cZ o q R) hiv16 ev16 dX7_takeWithin_203 ?_
      refine lv_iadd hx hb dX7_takeWithin_204 ?_
      refine lv_istore (lv' := [(12, .int (v15 + v16)), (11, .int v14.toInt32), (0, .ref o), (1, .int x1), (3, .int x3), (4, .int x4), (5, .int x5), (8, .long x8), (10, .int x10)]) hx hb dX7_takeWithin_205 hl (by decide) rfl (fun ls hl => ?_)
      refine lv_aload_n hx hb dX7_takeWithin_207 rfl (lv_at hl 2 rfl) ?_
      refine r_get X hB 16 49 (by decide) (kw_m kf_X7_49) rfl rfl dX7_takeWithin_208 ?_
      refine lv_iload hx hb dX7_takeWithin_211 (lv_at hl 8 rfl) ?_
      obtain ⟨v17, ev17, hiv17, hf⟩ := rd_s hf
      refine r_ld X hB 16 14 (rat_16 cI cZ o q R) hiv17 ev17 dX7_takeWithin_213 ?_
      refine lv_istore (lv' := [(13, .int v17), (12, .int (v15 + v16)), (11, .int v14.toInt32), (0, .ref o), (1, .int x1), (3, .int x3), (4, .int x4), (5, .int x5), (8, .long x8), (10, .int x10)]) hx hb dX7_takeWithin_214 hl (by decide) rfl (fun ls hl => ?_)
      refine lv_iload hx hb dX7_takeWithin_216 (lv_at hl 2 rfl) ?_
      refine lv_aload_n hx hb dX7_takeWithin_218 rfl (lv_at hl 3 rfl) ?_
      refine r_get X hB 12 37 (by decide) (kw_m kf_X7_37) rfl rfl dX7_takeWithin_219 ?_
      refine lv_iload hx hb dX7_takeWithin_222 (lv_at hl 9 rfl) ?_
      obtain ⟨v18, ev18, hiv18, hf⟩ := rd_s hf
      refine r_ld X hB 12 10 (rat_12 cI cZ o q R) hiv18 ev18 dX7_takeWithin_224 ?_
      refine lv_isub hx hb dX7_takeWithin_225 ?_
      refine lv_istore (lv' := [(14, .int (v14.toInt32 - v18)), (13, .int v17), (12, .int (v15 + v16)), (11, .int v14.toInt32), (0, .ref o), (1, .int x1), (3, .int x3), (4, .int x4), (5, .int x5), (8, .long x8), (10, .int x10)]) hx hb dX7_takeWithin_226 hl (by decide) rfl (fun ls hl => ?_)
      refine lv_iload hx hb dX7_takeWithin_228 (lv_at hl 0 rfl) ?_
      refine lv_if_le (tgt := 264) hx hb dX7_takeWithin_230 (by decide) (fun hc19 => ?_) (fun hc19 => ?_)
      · have hf := if_t hf hc19
        refine lv_aload_n hx hb dX7_takeWithin_264 rfl (lv_at hl 4 rfl) ?_
        refine lv_iload hx hb dX7_takeWithin_265 (lv_at hl 10 rfl) ?_
        refine lv_lload hx hb dX7_takeWithin_267 (lv_at hl 9 rfl) ?_
        refine lv_l2i (v := x8.toInt32) hx hb dX7_takeWithin_269 rfl ?_
        refine lv_iconst (v := 4) hx hb dX7_takeWithin_270 (by decide) ?_
        obtain ⟨R20, hqR20, hf⟩ := bn_s hf
        refine r_callV (As := [.int x10, .int x8.toInt32, .int 4]) (rest := []) X hB hS (rm_cut l F D cI cZ o q _ _ _ _  _ hqR20) (cwV 3 hts (gd_V km_X7_169 ki_X7_cut ks_X7_cut kin_RX7 kc_X7_cut) rfl rfl rfl (by decide +kernel) ⟨by decide, by decide⟩) hl rfl rfl (Nat.le_of_ble_eq_true rfl) dX7_takeWithin_271 ⟨Nat.zero_le _, Nat.zero_le _⟩ rfl (fun H locs hB hS => ?_)
        refine lv_iload hx hb dX7_takeWithin_274 (lv_at hl 3 rfl) ?_
        cases hf
        exact r_iret X hB hS hr hlk dX7_takeWithin_276
      · have hf := if_f hf hc19
        refine lv_aload_n hx hb dX7_takeWithin_233 rfl (lv_at hl 4 rfl) ?_
        refine r_get X hB 13 40 (by decide) (kw_m kf_X7_40) rfl rfl dX7_takeWithin_234 ?_
        refine lv_iload hx hb dX7_takeWithin_237 (lv_at hl 10 rfl) ?_
        refine lv_iload hx hb dX7_takeWithin_239 (lv_at hl 0 rfl) ?_
        obtain ⟨R21, eR21, hiR21, hf⟩ := wr_s hf
        refine r_st X hB hS 13 11 (rat_13 cI cZ o q R) (rset_13 cI cZ o q R _ _) hiR21 dX7_takeWithin_241 (fun H locs hB hS => ?_)
        rw [← eR21] at hB
        refine lv_aload_n hx hb dX7_takeWithin_242 rfl (lv_at hl 4 rfl) ?_
        refine lv_iload hx hb dX7_takeWithin_243 (lv_at hl 10 rfl) ?_
        obtain ⟨R22, hqR22, hf⟩ := bn_s hf
        refine r_callV (As := [.int x10]) (rest := []) X hB hS (rm_frees l F D cI cZ o q _ _  _ hqR22) (cwV 1 hts (gd_V km_X7_121 ki_X7_frees ks_X7_frees kin_RX7 kc_X7_frees) rfl rfl rfl (by decide +kernel) ⟨by decide, by decide⟩) hl rfl rfl (Nat.le_of_ble_eq_true rfl) dX7_takeWithin_245 ⟨Nat.zero_le _, Nat.zero_le _⟩ rfl (fun H locs hB hS => ?_)
        refine lv_aload_n hx hb dX7_takeWithin_248 rfl (lv_at hl 4 rfl) ?_
        refine lv_iload_n hx hb dX7_takeWithin_249 rfl (lv_at hl 5 rfl) ?_
        refine lv_iload hx hb dX7_takeWithin_250 (lv_at hl 3 rfl) ?_
        refine lv_iload hx hb dX7_takeWithin_252 (lv_at hl 2 rfl) ?_
        refine lv_iload hx hb dX7_takeWithin_254 (lv_at hl 3 rfl) ?_
        refine lv_isub hx hb dX7_takeWithin_256 ?_
        refine lv_iload hx hb dX7_takeWithin_257 (lv_at hl 1 rfl) ?_
        obtain ⟨⟨z23v, z23R⟩, hqz23, hf⟩ := bn_s hf
        have hf := st2_s hf
        refine r_callV (As := [.int x1, .int v14.toInt32, .int ((v15 + v16) - v14.toInt32), .int v17]) (rest := []) X hB hS (rm_insert l F D cI cZ o q _ _ _ _ _  _ _ hqz23) (cwV 4 hts (gd_V km_X7_128 ki_X7_insert ks_X7_insert kin_RX7 kc_X7_insert) rfl rfl rfl (by decide +kernel) ⟨by decide, by decide⟩) hl rfl rfl (Nat.le_of_ble_eq_true rfl) dX7_takeWithin_259 ⟨Nat.zero_le _, Nat.zero_le _⟩ rfl (fun H locs hB hS => ?_)
        refine lv_istore (lv' := [(10, .int z23v), (14, .int (v14.toInt32 - v18)), (13, .int v17), (12, .int (v15 + v16)), (11, .int v14.toInt32), (0, .ref o), (1, .int x1), (3, .int x3), (4, .int x4), (5, .int x5), (8, .long x8)]) hx hb dX7_takeWithin_262 hl (by decide) rfl (fun ls hl => ?_)
        refine lv_aload_n hx hb dX7_takeWithin_264 rfl (lv_at hl 5 rfl) ?_
        refine lv_iload hx hb dX7_takeWithin_265 (lv_at hl 0 rfl) ?_
        refine lv_lload hx hb dX7_takeWithin_267 (lv_at hl 10 rfl) ?_
        refine lv_l2i (v := x8.toInt32) hx hb dX7_takeWithin_269 rfl ?_
        refine lv_iconst (v := 4) hx hb dX7_takeWithin_270 (by decide) ?_
        obtain ⟨R24, hqR24, hf⟩ := bn_s hf
        refine r_callV (As := [.int z23v, .int x8.toInt32, .int 4]) (rest := []) X hB hS (rm_cut l F D cI cZ o q _ _ _ _  _ hqR24) (cwV 3 hts (gd_V km_X7_169 ki_X7_cut ks_X7_cut kin_RX7 kc_X7_cut) rfl rfl rfl (by decide +kernel) ⟨by decide, by decide⟩) hl rfl rfl (Nat.le_of_ble_eq_true rfl) dX7_takeWithin_271 ⟨Nat.zero_le _, Nat.zero_le _⟩ rfl (fun H locs hB hS => ?_)
        refine lv_iload hx hb dX7_takeWithin_274 (lv_at hl 4 rfl) ?_
        cases hf
        exact r_iret X hB hS hr hlk dX7_takeWithin_276
    · have hf := if_t hf hc13
      refine lv_iconst (v := (-1)) hx hb dX7_takeWithin_169 (by decide) ?_
      cases hf
      exact r_iret X hB hS hr hlk dX7_takeWithin_170
  have J_92 : ∀ (R : Rst) (x1 : Int32) (x2 : Int32) (x3 : Int32) (x4 : Int32) (x5 : Int32) (y0 : Int32), rf_takeWithin_92 F R x1 x2 x3 x4 x5 y0 = some (r, R') → ∀ (H : Heap) (locs : List Loc) (ls : Array Slot), rB D cI cZ o q R H → va_S (rA o q) s.heap H locs → lv_has ls 15 [(0, .ref o), (1, .int x1), (2, .int x2), (3, .int x3), (4, .int x4), (5, .int x5)] → W p l e { frames := 19, cells := 0, slots := 0, locals := 889 } s m args below meth c H locs 0 0 (MQ below (mq (some (.int r)) (rW D cI cZ o q R') (rA o q)) args s 0 0 (rA o q)) (F0 m 92 ls [.int y0, .ref o]) := by
    intro R x1 x2 x3 x4 x5 y0 hf H locs ls hB hS hl
    unfold rf_takeWithin_92 at hf
    refine lv_iconst (v := 2) hx hb dX7_takeWithin_92 (by decide) ?_
    obtain ⟨⟨z6v, z6R⟩, hqz6, hf⟩ := bn_s hf
    have hf := st2_s hf
    refine r_callV (As := [.int y0, .int 2]) (rest := []) X hB hS (rm_right l F D cI cZ o q _ _ _  _ _ hqz6) (cwV 2 hts (gd_V km_X7_97 ki_X7_right ks_X7_right kin_RX7 kc_X7_right) rfl rfl rfl (by decide +kernel) ⟨by decide, by decide⟩) hl rfl rfl (Nat.le_of_ble_eq_true rfl) dX7_takeWithin_93 ⟨Nat.zero_le _, Nat.zero_le _⟩ rfl (fun H locs hB hS => ?_)
    refine lv_if_ne (tgt := 101) hx hb dX7_takeWithin_96 (by decide) (fun hc7 => ?_) (fun hc7 => ?_)
    · have hf := if_f hf hc7
      refine lv_aload_n hx hb dX7_takeWithin_101 rfl (lv_at hl 0 rfl) ?_
      obtain ⟨v8, hqv8, hf⟩ := bn_s hf
      refine r_callV (As := []) (rest := []) X hB hS (rm_left l F D cI cZ o q _  _ hqv8) (cwV 0 hts (gd_V km_X7_135 ki_X7_left ks_X7_left kin_RX7 kc_X7_left) rfl rfl rfl (by decide +kernel) ⟨by decide, by decide⟩) hl rfl rfl (Nat.le_of_ble_eq_true rfl) dX7_takeWithin_102 ⟨Nat.zero_le _, Nat.zero_le _⟩ rfl (fun H locs hB hS => ?_)
      refine lv_bipush (v := 40) hx hb dX7_takeWithin_105 (by decide) ?_
      refine lv_icmp_ge (tgt := 113) hx hb dX7_takeWithin_107 (by decide) (fun hc9 => ?_) (fun hc9 => ?_)
      · have hf := if_t hf hc9
        refine lv_aload_n hx hb dX7_takeWithin_113 rfl (lv_at hl 0 rfl) ?_
        refine lv_iload_n hx hb dX7_takeWithin_114 rfl (lv_at hl 1 rfl) ?_
        refine lv_iload_n hx hb dX7_takeWithin_115 rfl (lv_at hl 2 rfl) ?_
        obtain ⟨v10, hqv10, hf⟩ := bn_s hf
        refine r_callV (As := [.int x1, .int x2]) (rest := []) X hB hS (rm_rounded l F D cI cZ o q _ _ _  _ hqv10) (cwV 2 hts (gd_V km_X7_215 ki_X7_rounded ks_X7_rounded kin_RX7 kc_X7_rounded) rfl rfl rfl (by decide +kernel) ⟨by decide, by decide⟩) hl rfl rfl (Nat.le_of_ble_eq_true rfl) dX7_takeWithin_116 ⟨Nat.zero_le _, Nat.zero_le _⟩ rfl (fun H locs hB hS => ?_)
        refine lv_lstore (lv' := [(8, .long v10), (0, .ref o), (1, .int x1), (2, .int x2), (3, .int x3), (4, .int x4), (5, .int x5)]) hx hb dX7_takeWithin_119 hl (by decide) rfl (fun ls hl => ?_)
        refine lv_aload_n hx hb dX7_takeWithin_121 rfl (lv_at hl 1 rfl) ?_
        refine lv_iload_n hx hb dX7_takeWithin_122 rfl (lv_at hl 2 rfl) ?_
        refine lv_lload hx hb dX7_takeWithin_123 (lv_at hl 0 rfl) ?_
        refine lv_iload_n hx hb dX7_takeWithin_125 rfl (lv_at hl 4 rfl) ?_
        refine lv_iload hx hb dX7_takeWithin_126 (lv_at hl 5 rfl) ?_
        refine lv_iload hx hb dX7_takeWithin_128 (lv_at hl 6 rfl) ?_
        obtain ⟨v11, hqv11, hf⟩ := bn_s hf
        refine r_callV (As := [.int x1, .long v10, .int x3, .int x4, .int x5]) (rest := []) X hB hS (rm_narrow l F D cI cZ o q _ _ _ _ _ _  _ hqv11) (cwV 5 hts (gd_V km_X7_251 ki_X7_narrow ks_X7_narrow kin_RX7 kc_X7_narrow) rfl rfl rfl (by decide +kernel) ⟨by decide, by decide⟩) hl rfl rfl (Nat.le_of_ble_eq_true rfl) dX7_takeWithin_130 ⟨Nat.zero_le _, Nat.zero_le _⟩ rfl (fun H locs hB hS => ?_)
        refine lv_istore (lv' := [(10, .int v11), (8, .long v10), (0, .ref o), (1, .int x1), (2, .int x2), (3, .int x3), (4, .int x4), (5, .int x5)]) hx hb dX7_takeWithin_133 hl (by decide) rfl (fun ls hl => ?_)
        refine lv_iload hx hb dX7_takeWithin_135 (lv_at hl 0 rfl) ?_
        refine lv_iconst (v := (-1)) hx hb dX7_takeWithin_137 (by decide) ?_
        refine lv_icmp_ne (tgt := 163) hx hb dX7_takeWithin_138 (by decide) (fun hc12 => ?_) (fun hc12 => ?_)
        · have hf := if_f hf hc12
          exact J_163 z6R x1 x3 x4 x5 v10 v11 hf _ _ _ hB hS (lv_sub hl [2, 3, 5, 6, 7, 1, 0] rfl)
        · have hf := if_t hf hc12
          refine lv_aload_n hx hb dX7_takeWithin_141 rfl (lv_at hl 2 rfl) ?_
          refine lv_iload_n hx hb dX7_takeWithin_142 rfl (lv_at hl 3 rfl) ?_
          obtain ⟨⟨z25v, z25R⟩, hqz25, hf⟩ := bn_s hf
          have hf := st2_s hf
          refine r_callV (As := [.int x1]) (rest := []) X hB hS (rm_purges l F D cI cZ o q _ _  _ _ hqz25) (cwV 1 hts (gd_V km_X7_166 ki_X7_purges ks_X7_purges kin_RX7 kc_X7_purges) rfl rfl rfl (by decide +kernel) ⟨by decide, by decide⟩) hl rfl rfl (Nat.le_of_ble_eq_true rfl) dX7_takeWithin_143 ⟨Nat.zero_le _, Nat.zero_le _⟩ rfl (fun H locs hB hS => ?_)
          refine lv_if_le (tgt := 163) hx hb dX7_takeWithin_146 (by decide) (fun hc26 => ?_) (fun hc26 => ?_)
          · have hf := if_t hf hc26
            exact J_163 z25R x1 x3 x4 x5 v10 v11 hf _ _ _ hB hS (lv_sub hl [2, 3, 5, 6, 7, 1, 0] rfl)
          · have hf := if_f hf hc26
            refine lv_aload_n hx hb dX7_takeWithin_149 rfl (lv_at hl 2 rfl) ?_
            refine lv_iload_n hx hb dX7_takeWithin_150 rfl (lv_at hl 3 rfl) ?_
            refine lv_lload hx hb dX7_takeWithin_151 (lv_at hl 1 rfl) ?_
            refine lv_iload_n hx hb dX7_takeWithin_153 rfl (lv_at hl 5 rfl) ?_
            refine lv_iload hx hb dX7_takeWithin_154 (lv_at hl 6 rfl) ?_
            refine lv_iload hx hb dX7_takeWithin_156 (lv_at hl 7 rfl) ?_
            obtain ⟨v27, hqv27, hf⟩ := bn_s hf
            refine r_callV (As := [.int x1, .long v10, .int x3, .int x4, .int x5]) (rest := []) X hB hS (rm_narrow l F D cI cZ o q _ _ _ _ _ _  _ hqv27) (cwV 5 hts (gd_V km_X7_251 ki_X7_narrow ks_X7_narrow kin_RX7 kc_X7_narrow) rfl rfl rfl (by decide +kernel) ⟨by decide, by decide⟩) hl rfl rfl (Nat.le_of_ble_eq_true rfl) dX7_takeWithin_158 ⟨Nat.zero_le _, Nat.zero_le _⟩ rfl (fun H locs hB hS => ?_)
            refine lv_istore (lv' := [(10, .int v27), (8, .long v10), (0, .ref o), (1, .int x1), (2, .int x2), (3, .int x3), (4, .int x4), (5, .int x5)]) hx hb dX7_takeWithin_161 hl (by decide) rfl (fun ls hl => ?_)
            exact J_163 z25R x1 x3 x4 x5 v10 v27 hf _ _ _ hB hS (lv_sub hl [2, 3, 5, 6, 7, 1, 0] rfl)
      · have hf := if_f hf hc9
        refine lv_bipush (v := (-2)) hx hb dX7_takeWithin_110 (by decide) ?_
        cases hf
        exact r_iret X hB hS hr hlk dX7_takeWithin_112
    · have hf := if_t hf hc7
      refine lv_iconst (v := 0) hx hb dX7_takeWithin_99 (by decide) ?_
      cases hf
      exact r_iret X hB hS hr hlk dX7_takeWithin_100
  have J_60 : ∀ (R : Rst) (x1 : Int32) (x2 : Int32) (x3 : Int32) (x4 : Int32) (x5 : Int32) (x6 : Int32) (y0 : Int32), rf_takeWithin_60 F R x1 x2 x3 x4 x5 x6 y0 = some (r, R') → ∀ (H : Heap) (locs : List Loc) (ls : Array Slot), rB D cI cZ o q R H → va_S (rA o q) s.heap H locs → lv_has ls 15 [(0, .ref o), (1, .int x1), (2, .int x2), (3, .int x3), (4, .int x4), (5, .int x5), (6, .int x6)] → W p l e { frames := 19, cells := 0, slots := 0, locals := 889 } s m args below meth c H locs 0 0 (MQ below (mq (some (.int r)) (rW D cI cZ o q R') (rA o q)) args s 0 0 (rA o q)) (F0 m 60 ls [.int y0]) := by
    intro R x1 x2 x3 x4 x5 x6 y0 hf H locs ls hB hS hl
    unfold rf_takeWithin_60 at hf
    refine lv_istore (lv' := [(7, .int y0), (0, .ref o), (1, .int x1), (2, .int x2), (3, .int x3), (4, .int x4), (5, .int x5), (6, .int x6)]) hx hb dX7_takeWithin_60 hl (by decide) rfl (fun ls hl => ?_)
    refine lv_aload_n hx hb dX7_takeWithin_62 rfl (lv_at hl 1 rfl) ?_
    refine lv_iload hx hb dX7_takeWithin_63 (lv_at hl 0 rfl) ?_
    refine lv_if_eq (tgt := 91) hx hb dX7_takeWithin_65 (by decide) (fun hc5 => ?_) (fun hc5 => ?_)
    · have hf := if_t hf hc5
      refine lv_iconst (v := 0) hx hb dX7_takeWithin_91 (by decide) ?_
      exact J_92 R x1 x2 x3 x4 x5 (0 : Int32) hf _ _ _ hB hS (lv_sub hl [1, 2, 3, 4, 5, 6] rfl)
    · have hf := if_f hf hc5
      refine lv_iload hx hb dX7_takeWithin_68 (lv_at hl 5 rfl) ?_
      refine lv_if_lt (tgt := 91) hx hb dX7_takeWithin_70 (by decide) (fun hc28 => ?_) (fun hc28 => ?_)
      · have hf := if_t hf hc28
        refine lv_iconst (v := 0) hx hb dX7_takeWithin_91 (by decide) ?_
        exact J_92 R x1 x2 x3 x4 x5 (0 : Int32) hf _ _ _ hB hS (lv_sub hl [1, 2, 3, 4, 5, 6] rfl)
      · have hf := if_f hf hc28
        refine lv_iload hx hb dX7_takeWithin_73 (lv_at hl 5 rfl) ?_
        refine lv_iload_n hx hb dX7_takeWithin_75 rfl (lv_at hl 4 rfl) ?_
        refine lv_icmp_ge (tgt := 91) hx hb dX7_takeWithin_76 (by decide) (fun hc29 => ?_) (fun hc29 => ?_)
        · have hf := if_t hf hc29
          refine lv_iconst (v := 0) hx hb dX7_takeWithin_91 (by decide) ?_
          exact J_92 R x1 x2 x3 x4 x5 (0 : Int32) hf _ _ _ hB hS (lv_sub hl [1, 2, 3, 4, 5, 6] rfl)
        · have hf := if_f hf hc29
          refine lv_iload hx hb dX7_takeWithin_79 (lv_at hl 5 rfl) ?_
          refine lv_iload hx hb dX7_takeWithin_81 (lv_at hl 7 rfl) ?_
          obtain ⟨hd31, hf⟩ := dv_s hf
          refine lv_irem hx hb dX7_takeWithin_83 hd31 ?_
          refine lv_if_ne (tgt := 91) hx hb dX7_takeWithin_84 (by decide) (fun hc30 => ?_) (fun hc30 => ?_)
          · have hf := if_f hf hc30
            refine lv_iconst (v := 0) hx hb dX7_takeWithin_91 (by decide) ?_
            exact J_92 R x1 x2 x3 x4 x5 (0 : Int32) hf _ _ _ hB hS (lv_sub hl [1, 2, 3, 4, 5, 6] rfl)
          · have hf := if_t hf hc30
            refine lv_iconst (v := 1) hx hb dX7_takeWithin_87 (by decide) ?_
            refine lv_goto (tgt := 92) hx hb dX7_takeWithin_88 (by decide) ?_
            exact J_92 R x1 x2 x3 x4 x5 (1 : Int32) hf _ _ _ hB hS (lv_sub hl [1, 2, 3, 4, 5, 6] rfl)
  unfold rf_takeWithin at hf
  refine lv_aload_n hx hb dX7_takeWithin_0 rfl (lv_at hl 0 rfl) ?_
  refine lv_iload_n hx hb dX7_takeWithin_1 rfl (lv_at hl 1 rfl) ?_
  obtain ⟨⟨z1v, z1R⟩, hqz1, hf⟩ := bn_s hf
  have hf := st2_s hf
  refine r_callV (As := [.int x1]) (rest := []) X hB hS (rm_isArena l F D cI cZ o q _ _  _ _ hqz1) (cwV 1 hts (gd_V km_X7_132 ki_X7_isArena ks_X7_isArena kin_RX7 kc_X7_isArena) rfl rfl rfl (by decide +kernel) ⟨by decide, by decide⟩) hl rfl rfl (Nat.le_of_ble_eq_true rfl) dX7_takeWithin_2 ⟨Nat.zero_le _, Nat.zero_le _⟩ rfl (fun H locs hB hS => ?_)
  refine lv_if_ne (tgt := 10) hx hb dX7_takeWithin_5 (by decide) (fun hc2 => ?_) (fun hc2 => ?_)
  · have hf := if_f hf hc2
    refine lv_aload_n hx hb dX7_takeWithin_10 rfl (lv_at hl 0 rfl) ?_
    refine r_get X hB 2 7 (by decide) (kw_m kf_X7_7) rfl rfl dX7_takeWithin_11 ?_
    refine lv_iload_n hx hb dX7_takeWithin_14 rfl (lv_at hl 1 rfl) ?_
    obtain ⟨v3, ev3, hiv3, hf⟩ := rd_s hf
    refine r_ld X hB 2 1 (rat_2 cI cZ o q z1R) hiv3 ev3 dX7_takeWithin_15 ?_
    refine lv_istore (lv' := [(6, .int v3), (0, .ref o), (1, .int x1), (2, .int x2), (3, .int x3), (4, .int x4), (5, .int x5)]) hx hb dX7_takeWithin_16 hl (by decide) rfl (fun ls hl => ?_)
    refine lv_iload_n hx hb dX7_takeWithin_18 rfl (lv_at hl 3 rfl) ?_
    refine lv_if_le (tgt := 59) hx hb dX7_takeWithin_19 (by decide) (fun hc4 => ?_) (fun hc4 => ?_)
    · have hf := if_t hf hc4
      refine lv_iconst (v := 0) hx hb dX7_takeWithin_59 (by decide) ?_
      exact J_60 z1R x1 x2 x3 x4 x5 v3 (0 : Int32) hf _ _ _ hB hS (lv_sub hl [1, 2, 3, 4, 5, 6, 0] rfl)
    · have hf := if_f hf hc4
      refine lv_iload_n hx hb dX7_takeWithin_22 rfl (lv_at hl 4 rfl) ?_
      obtain ⟨v32, hqv32, hf⟩ := bn_s hf
      refine r_callS (As := [.int x3]) (rest := []) X hB hS (rm_isPower l F D cI cZ o q _ _  _ hqv32) (va_cwS 1 hts (gd_S km_X7_101 kst_X7_isPower kin_RX7 kc_X7_isPower) rfl rfl rfl (by decide +kernel) ⟨by decide, by decide⟩) hl rfl rfl (Nat.le_of_ble_eq_true rfl) dX7_takeWithin_23 ⟨Nat.zero_le _, Nat.zero_le _⟩ rfl (fun H locs hB hS => ?_)
      refine lv_if_eq (tgt := 59) hx hb dX7_takeWithin_26 (by decide) (fun hc33 => ?_) (fun hc33 => ?_)
      · have hf := if_t hf hc33
        refine lv_iconst (v := 0) hx hb dX7_takeWithin_59 (by decide) ?_
        exact J_60 z1R x1 x2 x3 x4 x5 v3 (0 : Int32) hf _ _ _ hB hS (lv_sub hl [1, 2, 3, 4, 5, 6, 0] rfl)
      · have hf := if_f hf hc33
        refine lv_iload_n hx hb dX7_takeWithin_29 rfl (lv_at hl 4 rfl) ?_
        refine lv_iload hx hb dX7_takeWithin_30 (lv_at hl 0 rfl) ?_
        refine lv_icmp_lt (tgt := 59) hx hb dX7_takeWithin_32 (by decide) (fun hc34 => ?_) (fun hc34 => ?_)
        · have hf := if_t hf hc34
          refine lv_iconst (v := 0) hx hb dX7_takeWithin_59 (by decide) ?_
          exact J_60 z1R x1 x2 x3 x4 x5 v3 (0 : Int32) hf _ _ _ hB hS (lv_sub hl [1, 2, 3, 4, 5, 6, 0] rfl)
        · have hf := if_f hf hc34
          refine lv_iload hx hb dX7_takeWithin_35 (lv_at hl 6 rfl) ?_
          refine lv_if_eq (tgt := 55) hx hb dX7_takeWithin_37 (by decide) (fun hc35 => ?_) (fun hc35 => ?_)
          · have hf := if_t hf hc35
            refine lv_iconst (v := 1) hx hb dX7_takeWithin_55 (by decide) ?_
            refine lv_goto (tgt := 60) hx hb dX7_takeWithin_56 (by decide) ?_
            exact J_60 z1R x1 x2 x3 x4 x5 v3 (1 : Int32) hf _ _ _ hB hS (lv_sub hl [1, 2, 3, 4, 5, 6, 0] rfl)
          · have hf := if_f hf hc35
            refine lv_iload hx hb dX7_takeWithin_40 (lv_at hl 6 rfl) ?_
            obtain ⟨v36, hqv36, hf⟩ := bn_s hf
            refine r_callS (As := [.int x5]) (rest := []) X hB hS (rm_isPower l F D cI cZ o q _ _  _ hqv36) (va_cwS 1 hts (gd_S km_X7_101 kst_X7_isPower kin_RX7 kc_X7_isPower) rfl rfl rfl (by decide +kernel) ⟨by decide, by decide⟩) hl rfl rfl (Nat.le_of_ble_eq_true rfl) dX7_takeWithin_42 ⟨Nat.zero_le _, Nat.zero_le _⟩ rfl (fun H locs hB hS => ?_)
            refine lv_if_eq (tgt := 59) hx hb dX7_takeWithin_45 (by decide) (fun hc37 => ?_) (fun hc37 => ?_)
            · have hf := if_t hf hc37
              refine lv_iconst (v := 0) hx hb dX7_takeWithin_59 (by decide) ?_
              exact J_60 z1R x1 x2 x3 x4 x5 v3 (0 : Int32) hf _ _ _ hB hS (lv_sub hl [1, 2, 3, 4, 5, 6, 0] rfl)
            · have hf := if_f hf hc37
              refine lv_iload hx hb dX7_takeWithin_48 (lv_at hl 6 rfl) ?_
              refine lv_iload hx hb dX7_takeWithin_50 (lv_at hl 0 rfl) ?_
              refine lv_icmp_lt (tgt := 59) hx hb dX7_takeWithin_52 (by decide) (fun hc38 => ?_) (fun hc38 => ?_)
              · have hf := if_t hf hc38
                refine lv_iconst (v := 0) hx hb dX7_takeWithin_59 (by decide) ?_
                exact J_60 z1R x1 x2 x3 x4 x5 v3 (0 : Int32) hf _ _ _ hB hS (lv_sub hl [1, 2, 3, 4, 5, 6, 0] rfl)
              · have hf := if_f hf hc38
                refine lv_iconst (v := 1) hx hb dX7_takeWithin_55 (by decide) ?_
                refine lv_goto (tgt := 60) hx hb dX7_takeWithin_56 (by decide) ?_
                exact J_60 z1R x1 x2 x3 x4 x5 v3 (1 : Int32) hf _ _ _ hB hS (lv_sub hl [1, 2, 3, 4, 5, 6, 0] rfl)
  · have hf := if_t hf hc2
    refine lv_iconst (v := 0) hx hb dX7_takeWithin_8 (by decide) ?_
    cases hf
    exact r_iret X hB hS hr hlk dX7_takeWithin_9
