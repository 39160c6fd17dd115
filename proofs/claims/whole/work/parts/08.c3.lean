/-! X0_slabWithLying -/
def cf_X0_slabWithLying_5 (F : Nat) (this : Nat) (S : Cst) : Nat → Option Nat → Option Nat → Option (Option Nat)
  | 0 => fun _ _ => none
  | n + 1 => fun x1 x2 => nc x2 (some none) (fun b2 => (cf_X5_isSlabOf F S b2 x1).bind fun v3 => if v3 = 0 then (st1 (gP S 87 b2) fun q5 => (cf_X0_slabWithLying_5 F this S n) x1 q5) else (if (gI S 90 b2) = 0 then (st1 (gP S 87 b2) fun q7 => (cf_X0_slabWithLying_5 F this S n) x1 q7) else (some (some b2))))
def cf_X0_slabWithLying (F : Nat) (S : Cst) (this : Nat) (x1 : Option Nat) : Option (Option Nat) := st1 (gP S 7 this) fun q1 => cf_X0_slabWithLying_5 F this S F x1 q1
set_option maxHeartbeats 4000000 in
set_option maxRecDepth 100000 in
theorem cm_X0_slabWithLying (l : Launch) (F : Nat) (D : va_G) (ct : ClassId × ClassId × ClassId) (G : Gam) (S : Cst) (this : Nat) (x1 : Option Nat) (hk_this : ty G 0 this) (hk_x1 : tyo G 2 x1) (r : Option Nat) (hf : cf_X0_slabWithLying F S this x1 = some r) : cMet l yX0_slabWithLying cq_X0_slabWithLying { frames := 1, cells := 0, slots := 0, locals := 21 } D ct G [.ref this, va_rf x1] S (some (va_rf r)) (cF D ct G (fun G => tyo G 5 r) S) (0) (0) := by
  refine cMet_of (own := RX0) (cc := cX0_slabWithLying) (maxL := 3) (ret := (some (.object "RangeArenas$Segment"))) (by decide) rfl rfl (by rcases x1 with _ | _ <;> exact (Nat.le_of_ble_eq_true rfl)) ?_
  intro p e s m below meth c X hr hlk hnm ls A hl hB hA hS
  have hx := X.1.1
  have hb := X.1.2.1
  have hown := X.1.2.2.2.1
  have hts := X.1.2.2.2.2
  have hl : lv_has ls 3 [(0, .ref this), (1, va_rf x1)] := (by rcases x1 with _ | _ <;> exact hl)
  generalize hargs : ([.ref this, va_rf x1] : List Value).toArray = args at X hts hS ⊢
  have J_5 : ∀ (n_5 : Nat) (x1 : Option Nat) (x2 : Option Nat), cf_X0_slabWithLying_5 F this S n_5 x1 x2 = some r → ∀ (H : Heap) (locs : List Loc) (ls : Array Slot), tyo G 2 x1 → tyo G 5 x2 → cB D ct G A S H → va_S A s.heap H locs → lv_has ls 3 [(1, va_rf x1), (2, va_rf x2)] → W p l e { frames := 1, cells := 0, slots := 0, locals := 21 } s m args below meth c H locs (0) (0) (MQ below (mq (some (va_rf r)) (cF D ct G (fun G => tyo G 5 r) S) A) args s (0) (0) A) (F0 m 5 ls []) := by
    intro n_5
    induction n_5 with
    | zero => intro x1 x2 hf; cases hf
    | succ n_5 ih_5 =>
      intro x1 x2 hf H locs ls hk_x1 hk_x2 hB hS hl
      rw [cf_X0_slabWithLying_5] at hf
      refine lv_aload_nq hx hb dX0_slabWithLying_5 rfl (lv_at hl 1 rfl) ?_
      rcases x2 with _ | b2
      · have hf := nc_n hf
        have hl : lv_has ls 3 [(1, va_rf x1), (2, .null)] := hl
        refine lv_ifnullN (tgt := 34) hx hb dX0_slabWithLying_6 (by decide) ?_
        refine lv_null hx hb dX0_slabWithLying_34 ?_
        obtain rfl := Option.some.inj hf
        exact W.aret hx hb hr (Or.inl ⟨_, rfl⟩) (Or.inl rfl) (fun t ht hW => c_endF X hB tyo_none hS ht hW) hS.2.2 dX0_slabWithLying_35 hlk
      · have hf := nc_b hf
        have hk_b2 := hk_x2 b2 rfl
        have hl : lv_has ls 3 [(1, va_rf x1), (2, .ref b2)] := hl
        refine lv_ifnull hx hb dX0_slabWithLying_6 ?_
        refine lv_aload_n hx hb dX0_slabWithLying_9 rfl (lv_at hl 1 rfl) ?_
        refine lv_aload_nq hx hb dX0_slabWithLying_10 rfl (lv_at hl 0 rfl) ?_
        obtain ⟨v3, hqv3, hf⟩ := bn_s hf
        refine c_doF hB hS hA (va_runV (As := [va_rf x1]) (rest := []) X.1 (cm_X5_isSlabOf l F D ct _ _ b2 x1 hk_b2 hk_x1 _ hqv3) (cwV 1 hts (gd_V km_X0_167 ki_X5_isSlabOf ks_X5_isSlabOf kin_RX5 kc_X5_isSlabOf) rfl rfl rfl (by decide +kernel) ⟨by dsimp only; omega, by dsimp only; omega⟩) (c_preV X hB hk_b2 rfl rfl) rfl rfl hl.1 rfl (lv_room (Nat.le_of_ble_eq_true rfl)) dX0_slabWithLying_11 ⟨by dsimp only; omega, by dsimp only; omega⟩) rfl (fun H locs hB hT hS => ?_)
        refine lv_if_eq (tgt := 26) hx hb dX0_slabWithLying_14 (by decide) (fun hc4 => ?_) (fun hc4 => ?_)
        · have hf := if_t hf hc4
          refine lv_aload_n hx hb dX0_slabWithLying_26 rfl (lv_at hl 1 rfl) ?_
          refine c_get X hB hk_b2 rfl rfl kw_X5 7 76 (by decide) kf_X0_76 rfl rfl dX0_slabWithLying_27 ?_
          obtain ⟨q5, eq5, hf⟩ := st1_s hf
          rw [← eq5]
          have hk_q5 : tyo G 5 q5 := by rw [eq5]; exact hB.2.2.2.1 (5, 87, 5) (by decide) _ hk_b2
          refine lv_astore_nq (lv' := [(2, va_rf q5), (1, va_rf x1)]) hx hb dX0_slabWithLying_30 rfl hl (by decide) (by rcases x1 with _ | _ <;> exact rfl) (fun ls hl => ?_)
          refine lv_goto (tgt := 5) hx hb dX0_slabWithLying_31 (by decide) ?_
          exact ih_5 x1 q5 hf _ _ _ hk_x1 hk_q5 hB hS (lv_sub hl [1, 0] rfl)
        · have hf := if_f hf hc4
          refine lv_aload_n hx hb dX0_slabWithLying_17 rfl (lv_at hl 1 rfl) ?_
          refine c_get X hB hk_b2 rfl rfl kw_X5 10 171 (by decide) kf_X0_171 rfl rfl dX0_slabWithLying_18 ?_
          refine lv_if_eq (tgt := 26) hx hb dX0_slabWithLying_21 (by decide) (fun hc6 => ?_) (fun hc6 => ?_)
          · have hf := if_t hf hc6
            refine lv_aload_n hx hb dX0_slabWithLying_26 rfl (lv_at hl 1 rfl) ?_
            refine c_get X hB hk_b2 rfl rfl kw_X5 7 76 (by decide) kf_X0_76 rfl rfl dX0_slabWithLying_27 ?_
            obtain ⟨q7, eq7, hf⟩ := st1_s hf
            rw [← eq7]
            have hk_q7 : tyo G 5 q7 := by rw [eq7]; exact hB.2.2.2.1 (5, 87, 5) (by decide) _ hk_b2
            refine lv_astore_nq (lv' := [(2, va_rf q7), (1, va_rf x1)]) hx hb dX0_slabWithLying_30 rfl hl (by decide) (by rcases x1 with _ | _ <;> exact rfl) (fun ls hl => ?_)
            refine lv_goto (tgt := 5) hx hb dX0_slabWithLying_31 (by decide) ?_
            exact ih_5 x1 q7 hf _ _ _ hk_x1 hk_q7 hB hS (lv_sub hl [1, 0] rfl)
          · have hf := if_f hf hc6
            refine lv_aload_n hx hb dX0_slabWithLying_24 rfl (lv_at hl 1 rfl) ?_
            have hT := (tyo_some hk_b2)
            obtain rfl := Option.some.inj hf
            exact W.aret hx hb hr (Or.inl ⟨_, rfl⟩) (Or.inr ⟨_, rfl⟩) (fun t ht hW => c_endF X hB hT hS ht hW) hS.2.2 dX0_slabWithLying_25 hlk
  unfold cf_X0_slabWithLying at hf
  refine lv_aload_n hx hb dX0_slabWithLying_0 rfl (lv_at hl 0 rfl) ?_
  refine c_get X hB hk_this rfl rfl kw_X0 7 64 (by decide) kf_X0_64 rfl rfl dX0_slabWithLying_1 ?_
  obtain ⟨q1, eq1, hf⟩ := st1_s hf
  rw [← eq1]
  have hk_q1 : tyo G 5 q1 := by rw [eq1]; exact hB.2.2.2.1 (0, 7, 5) (by decide) _ hk_this
  refine lv_astore_nq (lv' := [(2, va_rf q1), (0, .ref this), (1, va_rf x1)]) hx hb dX0_slabWithLying_4 rfl hl (by decide) (by rcases x1 with _ | _ <;> exact rfl) (fun ls hl => ?_)
  exact J_5 F x1 q1 hf _ _ _ hk_x1 hk_q1 hB hS (lv_sub hl [2, 0] rfl)
/-! J6_bitCount_0f7a4 -/
def cf_J6_bitCount_0f7a4 (F : Nat) (S : Cst) (x0 : Int32) : Option Int32 := some ((((((((x0 - (((x0.toUInt32 >>> ((1 : Int32).toUInt32 &&& Int32.toUInt32 31)).toInt32) &&& 1431655765)) &&& 858993459) + ((((x0 - (((x0.toUInt32 >>> ((1 : Int32).toUInt32 &&& Int32.toUInt32 31)).toInt32) &&& 1431655765)).toUInt32 >>> ((2 : Int32).toUInt32 &&& Int32.toUInt32 31)).toInt32) &&& 858993459)) + (((((x0 - (((x0.toUInt32 >>> ((1 : Int32).toUInt32 &&& Int32.toUInt32 31)).toInt32) &&& 1431655765)) &&& 858993459) + ((((x0 - (((x0.toUInt32 >>> ((1 : Int32).toUInt32 &&& Int32.toUInt32 31)).toInt32) &&& 1431655765)).toUInt32 >>> ((2 : Int32).toUInt32 &&& Int32.toUInt32 31)).toInt32) &&& 858993459)).toUInt32 >>> ((4 : Int32).toUInt32 &&& Int32.toUInt32 31)).toInt32)) &&& 252645135) + (((((((x0 - (((x0.toUInt32 >>> ((1 : Int32).toUInt32 &&& Int32.toUInt32 31)).toInt32) &&& 1431655765)) &&& 858993459) + ((((x0 - (((x0.toUInt32 >>> ((1 : Int32).toUInt32 &&& Int32.toUInt32 31)).toInt32) &&& 1431655765)).toUInt32 >>> ((2 : Int32).toUInt32 &&& Int32.toUInt32 31)).toInt32) &&& 858993459)) + (((((x0 - (((x0.toUInt32 >>> ((1 : Int32).toUInt32 &&& Int32.toUInt32 31)).toInt32) &&& 1431655765)) &&& 858993459) + ((((x0 - (((x0.toUInt32 >>> ((1 : Int32).toUInt32 &&& Int32.toUInt32 31)).toInt32) &&& 1431655765)).toUInt32 >>> ((2 : Int32).toUInt32 &&& Int32.toUInt32 31)).toInt32) &&& 858993459)).toUInt32 >>> ((4 : Int32).toUInt32 &&& Int32.toUInt32 31)).toInt32)) &&& 252645135).toUInt32 >>> ((8 : Int32).toUInt32 &&& Int32.toUInt32 31)).toInt32)) + ((((((((x0 - (((x0.toUInt32 >>> ((1 : Int32).toUInt32 &&& Int32.toUInt32 31)).toInt32) &&& 1431655765)) &&& 858993459) + ((((x0 - (((x0.toUInt32 >>> ((1 : Int32).toUInt32 &&& Int32.toUInt32 31)).toInt32) &&& 1431655765)).toUInt32 >>> ((2 : Int32).toUInt32 &&& Int32.toUInt32 31)).toInt32) &&& 858993459)) + (((((x0 - (((x0.toUInt32 >>> ((1 : Int32).toUInt32 &&& Int32.toUInt32 31)).toInt32) &&& 1431655765)) &&& 858993459) + ((((x0 - (((x0.toUInt32 >>> ((1 : Int32).toUInt32 &&& Int32.toUInt32 31)).toInt32) &&& 1431655765)).toUInt32 >>> ((2 : Int32).toUInt32 &&& Int32.toUInt32 31)).toInt32) &&& 858993459)).toUInt32 >>> ((4 : Int32).toUInt32 &&& Int32.toUInt32 31)).toInt32)) &&& 252645135) + (((((((x0 - (((x0.toUInt32 >>> ((1 : Int32).toUInt32 &&& Int32.toUInt32 31)).toInt32) &&& 1431655765)) &&& 858993459) + ((((x0 - (((x0.toUInt32 >>> ((1 : Int32).toUInt32 &&& Int32.toUInt32 31)).toInt32) &&& 1431655765)).toUInt32 >>> ((2 : Int32).toUInt32 &&& Int32.toUInt32 31)).toInt32) &&& 858993459)) + (((((x0 - (((x0.toUInt32 >>> ((1 : Int32).toUInt32 &&& Int32.toUInt32 31)).toInt32) &&& 1431655765)) &&& 858993459) + ((((x0 - (((x0.toUInt32 >>> ((1 : Int32).toUInt32 &&& Int32.toUInt32 31)).toInt32) &&& 1431655765)).toUInt32 >>> ((2 : Int32).toUInt32 &&& Int32.toUInt32 31)).toInt32) &&& 858993459)).toUInt32 >>> ((4 : Int32).toUInt32 &&& Int32.toUInt32 31)).toInt32)) &&& 252645135).toUInt32 >>> ((8 : Int32).toUInt32 &&& Int32.toUInt32 31)).toInt32)).toUInt32 >>> ((16 : Int32).toUInt32 &&& Int32.toUInt32 31)).toInt32)) &&& 63)
set_option maxHeartbeats 4000000 in
set_option maxRecDepth 100000 in
theorem cm_J6_bitCount_0f7a4 (l : Launch) (F : Nat) (D : va_G) (ct : ClassId × ClassId × ClassId) (G : Gam) (S : Cst) (x0 : Int32)  (r : Int32) (hf : cf_J6_bitCount_0f7a4 F S x0 = some r) : cMet l yJ6_bitCount_0f7a4 cq_J6_bitCount_0f7a4 { frames := 0, cells := 0, slots := 0, locals := 0 } D ct G [.int x0] S (some (.int r)) (cF D ct G (fun _ => True) S) (0) (0) := by
  refine cMet_of (own := RJ6) (cc := cJ6_bitCount_0f7a4) (maxL := 1) (ret := (some .int)) (by decide) rfl rfl (Nat.le_of_ble_eq_true rfl) ?_
  intro p e s m below meth c X hr hlk hnm ls A hl hB hA hS
  have hx := X.1.1
  have hb := X.1.2.1
  have hown := X.1.2.2.2.1
  have hts := X.1.2.2.2.2
  have hl : lv_has ls 1 [(0, .int x0)] := hl
  generalize hargs : ([.int x0] : List Value).toArray = args at X hts hS ⊢
  unfold cf_J6_bitCount_0f7a4 at hf
  refine lv_iload_n hx hb dJ6_bitCount_0f7a4_0 rfl (lv_at hl 0 rfl) ?_
  refine lv_iload_n hx hb dJ6_bitCount_0f7a4_1 rfl (lv_at hl 0 rfl) ?_
  refine lv_iconst (v := 1) hx hb dJ6_bitCount_0f7a4_2 (by decide) ?_
  refine lv_iushr (v := (x0.toUInt32 >>> ((1 : Int32).toUInt32 &&& Int32.toUInt32 31)).toInt32) hx hb dJ6_bitCount_0f7a4_3 rfl ?_
  refine lv_ldcw (v := 1431655765) hx hb hown (hts (.constant RJ6 265 1431655765) (kw_m kk_J6_265)) dJ6_bitCount_0f7a4_4 ?_
  refine lv_iand hx hb dJ6_bitCount_0f7a4_7 ?_
  refine lv_isub hx hb dJ6_bitCount_0f7a4_8 ?_
  refine lv_istore_n (lv' := [(0, .int (x0 - (((x0.toUInt32 >>> ((1 : Int32).toUInt32 &&& Int32.toUInt32 31)).toInt32) &&& 1431655765)))]) hx hb dJ6_bitCount_0f7a4_9 rfl hl (by decide) rfl (fun ls hl => ?_)
  refine lv_iload_n hx hb dJ6_bitCount_0f7a4_10 rfl (lv_at hl 0 rfl) ?_
  refine lv_ldcw (v := 858993459) hx hb hown (hts (.constant RJ6 266 858993459) (kw_m kk_J6_266)) dJ6_bitCount_0f7a4_11 ?_
  refine lv_iand hx hb dJ6_bitCount_0f7a4_14 ?_
  refine lv_iload_n hx hb dJ6_bitCount_0f7a4_15 rfl (lv_at hl 0 rfl) ?_
  refine lv_iconst (v := 2) hx hb dJ6_bitCount_0f7a4_16 (by decide) ?_
  refine lv_iushr (v := ((x0 - (((x0.toUInt32 >>> ((1 : Int32).toUInt32 &&& Int32.toUInt32 31)).toInt32) &&& 1431655765)).toUInt32 >>> ((2 : Int32).toUInt32 &&& Int32.toUInt32 31)).toInt32) hx hb dJ6_bitCount_0f7a4_17 rfl ?_
  refine lv_ldcw (v := 858993459) hx hb hown (hts (.constant RJ6 266 858993459) (kw_m kk_J6_266)) dJ6_bitCount_0f7a4_18 ?_
  refine lv_iand hx hb dJ6_bitCount_0f7a4_21 ?_
  refine lv_iadd hx hb dJ6_bitCount_0f7a4_22 ?_
  refine lv_istore_n (lv' := [(0, .int (((x0 - (((x0.toUInt32 >>> ((1 : Int32).toUInt32 &&& Int32.toUInt32 31)).toInt32) &&& 1431655765)) &&& 858993459) + ((((x0 - (((x0.toUInt32 >>> ((1 : Int32).toUInt32 &&& Int32.toUInt32 31)).toInt32) &&& 1431655765)).toUInt32 >>> ((2 : Int32).toUInt32 &&& Int32.toUInt32 31)).toInt32) &&& 858993459)))]) hx hb dJ6_bitCount_0f7a4_23 rfl hl (by decide) rfl (fun ls hl => ?_)
  refine lv_iload_n hx hb dJ6_bitCount_0f7a4_24 rfl (lv_at hl 0 rfl) ?_
  refine lv_iload_n hx hb dJ6_bitCount_0f7a4_25 rfl (lv_at hl 0 rfl) ?_
  refine lv_iconst (v := 4) hx hb dJ6_bitCount_0f7a4_26 (by decide) ?_
  refine lv_iushr (v := ((((x0 - (((x0.toUInt32 >>> ((1 : Int32).toUInt32 &&& Int32.toUInt32 31)).toInt32) &&& 1431655765)) &&& 858993459) + ((((x0 - (((x0.toUInt32 >>> ((1 : Int32).toUInt32 &&& Int32.toUInt32 31)).toInt32) &&& 1431655765)).toUInt32 >>> ((2 : Int32).toUInt32 &&& Int32.toUInt32 31)).toInt32) &&& 858993459)).toUInt32 >>> ((4 : Int32).toUInt32 &&& Int32.toUInt32 31)).toInt32) hx hb dJ6_bitCount_0f7a4_27 rfl ?_
  refine lv_iadd hx hb dJ6_bitCount_0f7a4_28 ?_
  refine lv_ldcw (v := 252645135) hx hb hown (hts (.constant RJ6 267 252645135) (kw_m kk_J6_267)) dJ6_bitCount_0f7a4_29 ?_
  refine lv_iand hx hb dJ6_bitCount_0f7a4_32 ?_
  refine lv_istore_n (lv' := [(0, .int (((((x0 - (((x0.toUInt32 >>> ((1 : Int32).toUInt32 &&& Int32.toUInt32 31)).toInt32) &&& 1431655765)) &&& 858993459) + ((((x0 - (((x0.toUInt32 >>> ((1 : Int32).toUInt32 &&& Int32.toUInt32 31)).toInt32) &&& 1431655765)).toUInt32 >>> ((2 : Int32).toUInt32 &&& Int32.toUInt32 31)).toInt32) &&& 858993459)) + (((((x0 - (((x0.toUInt32 >>> ((1 : Int32).toUInt32 &&& Int32.toUInt32 31)).toInt32) &&& 1431655765)) &&& 858993459) + ((((x0 - (((x0.toUInt32 >>> ((1 : Int32).toUInt32 &&& Int32.toUInt32 31)).toInt32) &&& 1431655765)).toUInt32 >>> ((2 : Int32).toUInt32 &&& Int32.toUInt32 31)).toInt32) &&& 858993459)).toUInt32 >>> ((4 : Int32).toUInt32 &&& Int32.toUInt32 31)).toInt32)) &&& 252645135))]) hx hb dJ6_bitCount_0f7a4_33 rfl hl (by decide) rfl (fun ls hl => ?_)
  refine lv_iload_n hx hb dJ6_bitCount_0f7a4_34 rfl (lv_at hl 0 rfl) ?_
  refine lv_iload_n hx hb dJ6_bitCount_0f7a4_35 rfl (lv_at hl 0 rfl) ?_
  refine lv_bipush (v := 8) hx hb dJ6_bitCount_0f7a4_36 (by decide) ?_
  refine lv_iushr (v := ((((((x0 - (((x0.toUInt32 >>> ((1 : Int32).toUInt32 &&& Int32.toUInt32 31)).toInt32) &&& 1431655765)) &&& 858993459) + ((((x0 - (((x0.toUInt32 >>> ((1 : Int32).toUInt32 &&& Int32.toUInt32 31)).toInt32) &&& 1431655765)).toUInt32 >>> ((2 : Int32).toUInt32 &&& Int32.toUInt32 31)).toInt32) &&& 858993459)) + (((((x0 - (((x0.toUInt32 >>> ((1 : Int32).toUInt32 &&& Int32.toUInt32 31)).toInt32) &&& 1431655765)) &&& 858993459) + ((((x0 - (((x0.toUInt32 >>> ((1 : Int32).toUInt32 &&& Int32.toUInt32 31)).toInt32) &&& 1431655765)).toUInt32 >>> ((2 : Int32).toUInt32 &&& Int32.toUInt32 31)).toInt32) &&& 858993459)).toUInt32 >>> ((4 : Int32).toUInt32 &&& Int32.toUInt32 31)).toInt32)) &&& 252645135).toUInt32 >>> ((8 : Int32).toUInt32 &&& Int32.toUInt32 31)).toInt32) hx hb dJ6_bitCount_0f7a4_38 rfl ?_
  refine lv_iadd hx hb dJ6_bitCount_0f7a4_39 ?_
  refine lv_istore_n (lv' := [(0, .int ((((((x0 - (((x0.toUInt32 >>> ((1 : Int32).toUInt32 &&& Int32.toUInt32 31)).toInt32) &&& 1431655765)) &&& 858993459) + ((((x0 - (((x0.toUInt32 >>> ((1 : Int32).toUInt32 &&& Int32.toUInt32 31)).toInt32) &&& 1431655765)).toUInt32 >>> ((2 : Int32).toUInt32 &&& Int32.toUInt32 31)).toInt32) &&& 858993459)) + (((((x0 - (((x0.toUInt32 >>> ((1 : Int32).toUInt32 &&& Int32.toUInt32 31)).toInt32) &&& 1431655765)) &&& 858993459) + ((((x0 - (((x0.toUInt32 >>> ((1 : Int32).toUInt32 &&& Int32.toUInt32 31)).toInt32) &&& 1431655765)).toUInt32 >>> ((2 : Int32).toUInt32 &&& Int32.toUInt32 31)).toInt32) &&& 858993459)).toUInt32 >>> ((4 : Int32).toUInt32 &&& Int32.toUInt32 31)).toInt32)) &&& 252645135) + (((((((x0 - (((x0.toUInt32 >>> ((1 : Int32).toUInt32 &&& Int32.toUInt32 31)).toInt32) &&& 1431655765)) &&& 858993459) + ((((x0 - (((x0.toUInt32 >>> ((1 : Int32).toUInt32 &&& Int32.toUInt32 31)).toInt32) &&& 1431655765)).toUInt32 >>> ((2 : Int32).toUInt32 &&& Int32.toUInt32 31)).toInt32) &&& 858993459)) + (((((x0 - (((x0.toUInt32 >>> ((1 : Int32).toUInt32 &&& Int32.toUInt32 31)).toInt32) &&& 1431655765)) &&& 858993459) + ((((x0 - (((x0.toUInt32 >>> ((1 : Int32).toUInt32 &&& Int32.toUInt32 31)).toInt32) &&& 1431655765)).toUInt32 >>> ((2 : Int32).toUInt32 &&& Int32.toUInt32 31)).toInt32) &&& 858993459)).toUInt32 >>> ((4 : Int32).toUInt32 &&& Int32.toUInt32 31)).toInt32)) &&& 252645135).toUInt32 >>> ((8 : Int32).toUInt32 &&& Int32.toUInt32 31)).toInt32)))]) hx hb dJ6_bitCount_0f7a4_40 rfl hl (by decide) rfl (fun ls hl => ?_)
  refine lv_iload_n hx hb dJ6_bitCount_0f7a4_41 rfl (lv_at hl 0 rfl) ?_
  refine lv_iload_n hx hb dJ6_bitCount_0f7a4_42 rfl (lv_at hl 0 rfl) ?_
  refine lv_bipush (v := 16) hx hb dJ6_bitCount_0f7a4_43 (by decide) ?_
  refine lv_iushr (v := (((((((x0 - (((x0.toUInt32 >>> ((1 : Int32).toUInt32 &&& Int32.toUInt32 31)).toInt32) &&& 1431655765)) &&& 858993459) + ((((x0 - (((x0.toUInt32 >>> ((1 : Int32).toUInt32 &&& Int32.toUInt32 31)).toInt32) &&& 1431655765)).toUInt32 >>> ((2 : Int32).toUInt32 &&& Int32.toUInt32 31)).toInt32) &&& 858993459)) + (((((x0 - (((x0.toUInt32 >>> ((1 : Int32).toUInt32 &&& Int32.toUInt32 31)).toInt32) &&& 1431655765)) &&& 858993459) + ((((x0 - (((x0.toUInt32 >>> ((1 : Int32).toUInt32 &&& Int32.toUInt32 31)).toInt32) &&& 1431655765)).toUInt32 >>> ((2 : Int32).toUInt32 &&& Int32.toUInt32 31)).toInt32) &&& 858993459)).toUInt32 >>> ((4 : Int32).toUInt32 &&& Int32.toUInt32 31)).toInt32)) &&& 252645135) + (((((((x0 - (((x0.toUInt32 >>> ((1 : Int32).toUInt32 &&& Int32.toUInt32 31)).toInt32) &&& 1431655765)) &&& 858993459) + ((((x0 - (((x0.toUInt32 >>> ((1 : Int32).toUInt32 &&& Int32.toUInt32 31)).toInt32) &&& 1431655765)).toUInt32 >>> ((2 : Int32).toUInt32 &&& Int32.toUInt32 31)).toInt32) &&& 858993459)) + (((((x0 - (((x0.toUInt32 >>> ((1 : Int32).toUInt32 &&& Int32.toUInt32 31)).toInt32) &&& 1431655765)) &&& 858993459) + ((((x0 - (((x0.toUInt32 >>> ((1 : Int32).toUInt32 &&& Int32.toUInt32 31)).toInt32) &&& 1431655765)).toUInt32 >>> ((2 : Int32).toUInt32 &&& Int32.toUInt32 31)).toInt32) &&& 858993459)).toUInt32 >>> ((4 : Int32).toUInt32 &&& Int32.toUInt32 31)).toInt32)) &&& 252645135).toUInt32 >>> ((8 : Int32).toUInt32 &&& Int32.toUInt32 31)).toInt32)).toUInt32 >>> ((16 : Int32).toUInt32 &&& Int32.toUInt32 31)).toInt32) hx hb dJ6_bitCount_0f7a4_45 rfl ?_
  refine lv_iadd hx hb dJ6_bitCount_0f7a4_46 ?_
  refine lv_istore_n (lv' := [(0, .int (((((((x0 - (((x0.toUInt32 >>> ((1 : Int32).toUInt32 &&& Int32.toUInt32 31)).toInt32) &&& 1431655765)) &&& 858993459) + ((((x0 - (((x0.toUInt32 >>> ((1 : Int32).toUInt32 &&& Int32.toUInt32 31)).toInt32) &&& 1431655765)).toUInt32 >>> ((2 : Int32).toUInt32 &&& Int32.toUInt32 31)).toInt32) &&& 858993459)) + (((((x0 - (((x0.toUInt32 >>> ((1 : Int32).toUInt32 &&& Int32.toUInt32 31)).toInt32) &&& 1431655765)) &&& 858993459) + ((((x0 - (((x0.toUInt32 >>> ((1 : Int32).toUInt32 &&& Int32.toUInt32 31)).toInt32) &&& 1431655765)).toUInt32 >>> ((2 : Int32).toUInt32 &&& Int32.toUInt32 31)).toInt32) &&& 858993459)).toUInt32 >>> ((4 : Int32).toUInt32 &&& Int32.toUInt32 31)).toInt32)) &&& 252645135) + (((((((x0 - (((x0.toUInt32 >>> ((1 : Int32).toUInt32 &&& Int32.toUInt32 31)).toInt32) &&& 1431655765)) &&& 858993459) + ((((x0 - (((x0.toUInt32 >>> ((1 : Int32).toUInt32 &&& Int32.toUInt32 31)).toInt32) &&& 1431655765)).toUInt32 >>> ((2 : Int32).toUInt32 &&& Int32.toUInt32 31)).toInt32) &&& 858993459)) + (((((x0 - (((x0.toUInt32 >>> ((1 : Int32).toUInt32 &&& Int32.toUInt32 31)).toInt32) &&& 1431655765)) &&& 858993459) + ((((x0 - (((x0.toUInt32 >>> ((1 : Int32).toUInt32 &&& Int32.toUInt32 31)).toInt32) &&& 1431655765)).toUInt32 >>> ((2 : Int32).toUInt32 &&& Int32.toUInt32 31)).toInt32) &&& 858993459)).toUInt32 >>> ((4 : Int32).toUInt32 &&& Int32.toUInt32 31)).toInt32)) &&& 252645135).toUInt32 >>> ((8 : Int32).toUInt32 &&& Int32.toUInt32 31)).toInt32)) + ((((((((x0 - (((x0.toUInt32 >>> ((1 : Int32).toUInt32 &&& Int32.toUInt32 31)).toInt32) &&& 1431655765)) &&& 858993459) + ((((x0 - (((x0.toUInt32 >>> ((1 : Int32).toUInt32 &&& Int32.toUInt32 31)).toInt32) &&& 1431655765)).toUInt32 >>> ((2 : Int32).toUInt32 &&& Int32.toUInt32 31)).toInt32) &&& 858993459)) + (((((x0 - (((x0.toUInt32 >>> ((1 : Int32).toUInt32 &&& Int32.toUInt32 31)).toInt32) &&& 1431655765)) &&& 858993459) + ((((x0 - (((x0.toUInt32 >>> ((1 : Int32).toUInt32 &&& Int32.toUInt32 31)).toInt32) &&& 1431655765)).toUInt32 >>> ((2 : Int32).toUInt32 &&& Int32.toUInt32 31)).toInt32) &&& 858993459)).toUInt32 >>> ((4 : Int32).toUInt32 &&& Int32.toUInt32 31)).toInt32)) &&& 252645135) + (((((((x0 - (((x0.toUInt32 >>> ((1 : Int32).toUInt32 &&& Int32.toUInt32 31)).toInt32) &&& 1431655765)) &&& 858993459) + ((((x0 - (((x0.toUInt32 >>> ((1 : Int32).toUInt32 &&& Int32.toUInt32 31)).toInt32) &&& 1431655765)).toUInt32 >>> ((2 : Int32).toUInt32 &&& Int32.toUInt32 31)).toInt32) &&& 858993459)) + (((((x0 - (((x0.toUInt32 >>> ((1 : Int32).toUInt32 &&& Int32.toUInt32 31)).toInt32) &&& 1431655765)) &&& 858993459) + ((((x0 - (((x0.toUInt32 >>> ((1 : Int32).toUInt32 &&& Int32.toUInt32 31)).toInt32) &&& 1431655765)).toUInt32 >>> ((2 : Int32).toUInt32 &&& Int32.toUInt32 31)).toInt32) &&& 858993459)).toUInt32 >>> ((4 : Int32).toUInt32 &&& Int32.toUInt32 31)).toInt32)) &&& 252645135).toUInt32 >>> ((8 : Int32).toUInt32 &&& Int32.toUInt32 31)).toInt32)).toUInt32 >>> ((16 : Int32).toUInt32 &&& Int32.toUInt32 31)).toInt32)))]) hx hb dJ6_bitCount_0f7a4_47 rfl hl (by decide) rfl (fun ls hl => ?_)
  refine lv_iload_n hx hb dJ6_bitCount_0f7a4_48 rfl (lv_at hl 0 rfl) ?_
  refine lv_bipush (v := 63) hx hb dJ6_bitCount_0f7a4_49 (by decide) ?_
  refine lv_iand hx hb dJ6_bitCount_0f7a4_51 ?_
  obtain rfl := Option.some.inj hf
  exact W.iret hx hb hr (fun t ht hW => c_endF X hB trivial hS ht hW) hS.2.2 dJ6_bitCount_0f7a4_52 hlk
/-! X0_idleSlab -/
def cf_X0_idleSlab_5 (F : Nat) (this : Nat) (S : Cst) : Nat → Option Nat → Option Nat → Option (Option Nat)
  | 0 => fun _ _ => none
  | n + 1 => fun x1 x2 => nc x2 (some none) (fun b2 => (cf_X5_isSlabOf F S b2 x1).bind fun v3 => if v3 = 0 then (st1 (gP S 87 b2) fun q5 => (cf_X0_idleSlab_5 F this S n) x1 q5) else ((cf_J6_bitCount_0f7a4 F S (gI S 90 b2)).bind fun v6 => if v6 = (gI S 89 b2) then (some (some b2)) else (st1 (gP S 87 b2) fun q8 => (cf_X0_idleSlab_5 F this S n) x1 q8)))
def cf_X0_idleSlab (F : Nat) (S : Cst) (this : Nat) (x1 : Option Nat) : Option (Option Nat) := st1 (gP S 7 this) fun q1 => cf_X0_idleSlab_5 F this S F x1 q1
set_option maxHeartbeats 4000000 in
set_option maxRecDepth 100000 in
theorem cm_X0_idleSlab (l : Launch) (F : Nat) (D : va_G) (ct : ClassId × ClassId × ClassId) (G : Gam) (S : Cst) (this : Nat) (x1 : Option Nat) (hk_this : ty G 0 this) (hk_x1 : tyo G 2 x1) (r : Option Nat) (hf : cf_X0_idleSlab F S this x1 = some r) : cMet l yX0_idleSlab cq_X0_idleSlab { frames := 1, cells := 0, slots := 0, locals := 21 } D ct G [.ref this, va_rf x1] S (some (va_rf r)) (cF D ct G (fun G => tyo G 5 r) S) (0) (0) := by
  refine cMet_of (own := RX0) (cc := cX0_idleSlab) (maxL := 3) (ret := (some (.object "RangeArenas$Segment"))) (by decide) rfl rfl (by rcases x1 with _ | _ <;> exact (Nat.le_of_ble_eq_true rfl)) ?_
  intro p e s m below meth c X hr hlk hnm ls A hl hB hA hS
  have hx := X.1.1
  have hb := X.1.2.1
  have hown := X.1.2.2.2.1
  have hts := X.1.2.2.2.2
  have hl : lv_has ls 3 [(0, .ref this), (1, va_rf x1)] := (by rcases x1 with _ | _ <;> exact hl)
  generalize hargs : ([.ref this, va_rf x1] : List Value).toArray = args at X hts hS ⊢
  have J_5 : ∀ (n_5 : Nat) (x1 : Option Nat) (x2 : Option Nat), cf_X0_idleSlab_5 F this S n_5 x1 x2 = some r → ∀ (H : Heap) (locs : List Loc) (ls : Array Slot), tyo G 2 x1 → tyo G 5 x2 → cB D ct G A S H → va_S A s.heap H locs → lv_has ls 3 [(1, va_rf x1), (2, va_rf x2)] → W p l e { frames := 1, cells := 0, slots := 0, locals := 21 } s m args below meth c H locs (0) (0) (MQ below (mq (some (va_rf r)) (cF D ct G (fun G => tyo G 5 r) S) A) args s (0) (0) A) (F0 m 5 ls []) := by
    intro n_5
    induction n_5 with
    | zero => intro x1 x2 hf; cases hf
    | succ n_5 ih_5 =>
      intro x1 x2 hf H locs ls hk_x1 hk_x2 hB hS hl
      rw [cf_X0_idleSlab_5] at hf
      refine lv_aload_nq hx hb dX0_idleSlab_5 rfl (lv_at hl 1 rfl) ?_
      rcases x2 with _ | b2
      · have hf := nc_n hf
        have hl : lv_has ls 3 [(1, va_rf x1), (2, .null)] := hl
        refine lv_ifnullN (tgt := 41) hx hb dX0_idleSlab_6 (by decide) ?_
        refine lv_null hx hb dX0_idleSlab_41 ?_
        obtain rfl := Option.some.inj hf
        exact W.aret hx hb hr (Or.inl ⟨_, rfl⟩) (Or.inl rfl) (fun t ht hW => c_endF X hB tyo_none hS ht hW) hS.2.2 dX0_idleSlab_42 hlk
      · have hf := nc_b hf
        have hk_b2 := hk_x2 b2 rfl
        have hl : lv_has ls 3 [(1, va_rf x1), (2, .ref b2)] := hl
        refine lv_ifnull hx hb dX0_idleSlab_6 ?_
        refine lv_aload_n hx hb dX0_idleSlab_9 rfl (lv_at hl 1 rfl) ?_
        refine lv_aload_nq hx hb dX0_idleSlab_10 rfl (lv_at hl 0 rfl) ?_
        obtain ⟨v3, hqv3, hf⟩ := bn_s hf
        refine c_doF hB hS hA (va_runV (As := [va_rf x1]) (rest := []) X.1 (cm_X5_isSlabOf l F D ct _ _ b2 x1 hk_b2 hk_x1 _ hqv3) (cwV 1 hts (gd_V km_X0_167 ki_X5_isSlabOf ks_X5_isSlabOf kin_RX5 kc_X5_isSlabOf) rfl rfl rfl (by decide +kernel) ⟨by dsimp only; omega, by dsimp only; omega⟩) (c_preV X hB hk_b2 rfl rfl) rfl rfl hl.1 rfl (lv_room (Nat.le_of_ble_eq_true rfl)) dX0_idleSlab_11 ⟨by dsimp only; omega, by dsimp only; omega⟩) rfl (fun H locs hB hT hS => ?_)
        refine lv_if_eq (tgt := 33) hx hb dX0_idleSlab_14 (by decide) (fun hc4 => ?_) (fun hc4 => ?_)
        · have hf := if_t hf hc4
          refine lv_aload_n hx hb dX0_idleSlab_33 rfl (lv_at hl 1 rfl) ?_
          refine c_get X hB hk_b2 rfl rfl kw_X5 7 76 (by decide) kf_X0_76 rfl rfl dX0_idleSlab_34 ?_
          obtain ⟨q5, eq5, hf⟩ := st1_s hf
          rw [← eq5]
          have hk_q5 : tyo G 5 q5 := by rw [eq5]; exact hB.2.2.2.1 (5, 87, 5) (by decide) _ hk_b2
          refine lv_astore_nq (lv' := [(2, va_rf q5), (1, va_rf x1)]) hx hb dX0_idleSlab_37 rfl hl (by decide) (by rcases x1 with _ | _ <;> exact rfl) (fun ls hl => ?_)
          refine lv_goto (tgt := 5) hx hb dX0_idleSlab_38 (by decide) ?_
          exact ih_5 x1 q5 hf _ _ _ hk_x1 hk_q5 hB hS (lv_sub hl [1, 0] rfl)
        · have hf := if_f hf hc4
          refine lv_aload_n hx hb dX0_idleSlab_17 rfl (lv_at hl 1 rfl) ?_
          refine c_get X hB hk_b2 rfl rfl kw_X5 10 171 (by decide) kf_X0_171 rfl rfl dX0_idleSlab_18 ?_
          obtain ⟨v6, hqv6, hf⟩ := bn_s hf
          refine c_doF hB hS hA (va_runS (As := [.int (gI S 90 b2)]) (rest := []) X.1 (cm_J6_bitCount_0f7a4 l F D ct _ _ (gI S 90 b2) _ hqv6) (va_cwS 1 hts (gd_S km_X0_174 kst_J6_bitCount_0f7a4 kin_RJ6 kc_J6_bitCount_0f7a4) rfl rfl rfl (by decide +kernel) ⟨by dsimp only; omega, by dsimp only; omega⟩) (c_preS X hB) rfl rfl hl.1 rfl (lv_room (Nat.le_of_ble_eq_true rfl)) dX0_idleSlab_21 ⟨by dsimp only; omega, by dsimp only; omega⟩) rfl (fun H locs hB hT hS => ?_)
          refine lv_aload_n hx hb dX0_idleSlab_24 rfl (lv_at hl 1 rfl) ?_
          refine c_get X hB hk_b2 rfl rfl kw_X5 9 177 (by decide) kf_X0_177 rfl rfl dX0_idleSlab_25 ?_
          refine lv_icmp_ne (tgt := 33) hx hb dX0_idleSlab_28 (by decide) (fun hc7 => ?_) (fun hc7 => ?_)
          · have hf := if_f hf hc7
            refine lv_aload_n hx hb dX0_idleSlab_33 rfl (lv_at hl 1 rfl) ?_
            refine c_get X hB hk_b2 rfl rfl kw_X5 7 76 (by decide) kf_X0_76 rfl rfl dX0_idleSlab_34 ?_
            obtain ⟨q8, eq8, hf⟩ := st1_s hf
            rw [← eq8]
            have hk_q8 : tyo G 5 q8 := by rw [eq8]; exact hB.2.2.2.1 (5, 87, 5) (by decide) _ hk_b2
            refine lv_astore_nq (lv' := [(2, va_rf q8), (1, va_rf x1)]) hx hb dX0_idleSlab_37 rfl hl (by decide) (by rcases x1 with _ | _ <;> exact rfl) (fun ls hl => ?_)
            refine lv_goto (tgt := 5) hx hb dX0_idleSlab_38 (by decide) ?_
            exact ih_5 x1 q8 hf _ _ _ hk_x1 hk_q8 hB hS (lv_sub hl [1, 0] rfl)
          · have hf := if_t hf hc7
            refine lv_aload_n hx hb dX0_idleSlab_31 rfl (lv_at hl 1 rfl) ?_
            have hT := (tyo_some hk_b2)
            obtain rfl := Option.some.inj hf
            exact W.aret hx hb hr (Or.inl ⟨_, rfl⟩) (Or.inr ⟨_, rfl⟩) (fun t ht hW => c_endF X hB hT hS ht hW) hS.2.2 dX0_idleSlab_32 hlk
  unfold cf_X0_idleSlab at hf
  refine lv_aload_n hx hb dX0_idleSlab_0 rfl (lv_at hl 0 rfl) ?_
  refine c_get X hB hk_this rfl rfl kw_X0 7 64 (by decide) kf_X0_64 rfl rfl dX0_idleSlab_1 ?_
  obtain ⟨q1, eq1, hf⟩ := st1_s hf
  rw [← eq1]
  have hk_q1 : tyo G 5 q1 := by rw [eq1]; exact hB.2.2.2.1 (0, 7, 5) (by decide) _ hk_this
  refine lv_astore_nq (lv' := [(2, va_rf q1), (0, .ref this), (1, va_rf x1)]) hx hb dX0_idleSlab_4 rfl hl (by decide) (by rcases x1 with _ | _ <;> exact rfl) (fun ls hl => ?_)
  exact J_5 F x1 q1 hf _ _ _ hk_x1 hk_q1 hB hS (lv_sub hl [2, 0] rfl)
/-! X0_aheadOf -/
def cf_X0_aheadOf_17 (F : Nat) (this : Nat) (S : Cst) : Nat → Option Nat → Int32 → Int32 → Option Nat → Option Int32
  | 0 => fun _ _ _ _ => none
  | n + 1 => fun x1 x2 x3 x4 => nc x4 (some x3) (fun b4 => if (gI S 82 b4) = 0 then ((cf_X0_listOf F S this (gI S 81 b4)).bind fun v7 => if v7 = x2 then (nn x1 fun b10 => if (gI S 83 b4) ≤ (gI S 83 b10) then (st1 (gP S 87 b4) fun q12 => (cf_X0_aheadOf_17 F this S n) (some b10) x2 x3 q12) else (st1 (gP S 87 b4) fun q13 => (cf_X0_aheadOf_17 F this S n) (some b10) x2 (x3 + 1) q13)) else (st1 (gP S 87 b4) fun q9 => (cf_X0_aheadOf_17 F this S n) x1 x2 x3 q9)) else (st1 (gP S 87 b4) fun q6 => (cf_X0_aheadOf_17 F this S n) x1 x2 x3 q6))
def cf_X0_aheadOf (F : Nat) (S : Cst) (this : Nat) (x1 : Option Nat) : Option Int32 := nn x1 fun b1 => (cf_X0_listOf F S this (gI S 81 b1)).bind fun v2 => st1 (gP S 7 this) fun q3 => cf_X0_aheadOf_17 F this S F (some b1) v2 (0 : Int32) q3
set_option maxHeartbeats 4000000 in
set_option maxRecDepth 100000 in
theorem cm_X0_aheadOf (l : Launch) (F : Nat) (D : va_G) (ct : ClassId × ClassId × ClassId) (G : Gam) (S : Cst) (this : Nat) (x1 : Option Nat) (hk_this : ty G 0 this) (hk_x1 : tyo G 5 x1) (r : Int32) (hf : cf_X0_aheadOf F S this x1 = some r) : cMet l yX0_aheadOf cq_X0_aheadOf { frames := 2, cells := 0, slots := 0, locals := 42 } D ct G [.ref this, va_rf x1] S (some (.int r)) (cF D ct G (fun _ => True) S) (0) (0) := by
  refine cMet_of (own := RX0) (cc := cX0_aheadOf) (maxL := 5) (ret := (some .int)) (by decide) rfl rfl (by rcases x1 with _ | _ <;> exact (Nat.le_of_ble_eq_true rfl)) ?_
  intro p e s m below meth c X hr hlk hnm ls A hl hB hA hS
  have hx := X.1.1
  have hb := X.1.2.1
  have hown := X.1.2.2.2.1
  have hts := X.1.2.2.2.2
  have hl : lv_has ls 5 [(0, .ref this), (1, va_rf x1)] := (by rcases x1 with _ | _ <;> exact hl)
  generalize hargs : ([.ref this, va_rf x1] : List Value).toArray = args at X hts hS ⊢
  have J_17 : ∀ (n_17 : Nat) (x1 : Option Nat) (x2 : Int32) (x3 : Int32) (x4 : Option Nat), cf_X0_aheadOf_17 F this S n_17 x1 x2 x3 x4 = some r → ∀ (H : Heap) (locs : List Loc) (ls : Array Slot), tyo G 5 x1 → tyo G 5 x4 → cB D ct G A S H → va_S A s.heap H locs → lv_has ls 5 [(0, .ref this), (1, va_rf x1), (2, .int x2), (3, .int x3), (4, va_rf x4)] → W p l e { frames := 2, cells := 0, slots := 0, locals := 42 } s m args below meth c H locs (0) (0) (MQ below (mq (some (.int r)) (cF D ct G (fun _ => True) S) A) args s (0) (0) A) (F0 m 17 ls []) := by
    intro n_17
    induction n_17 with
    | zero => intro x1 x2 x3 x4 hf; cases hf
    | succ n_17 ih_17 =>
      intro x1 x2 x3 x4 hf H locs ls hk_x1 hk_x4 hB hS hl
      rw [cf_X0_aheadOf_17] at hf
      refine lv_aloadq hx hb dX0_aheadOf_17 (lv_at hl 4 rfl) ?_
      rcases x4 with _ | b4
      · have hf := nc_n hf
        have hl : lv_has ls 5 [(0, .ref this), (1, va_rf x1), (2, .int x2), (3, .int x3), (4, .null)] := hl
        refine lv_ifnullN (tgt := 68) hx hb dX0_aheadOf_19 (by decide) ?_
        refine lv_iload_n hx hb dX0_aheadOf_68 rfl (lv_at hl 3 rfl) ?_
        obtain rfl := Option.some.inj hf
        exact W.iret hx hb hr (fun t ht hW => c_endF X hB trivial hS ht hW) hS.2.2 dX0_aheadOf_69 hlk
      · have hf := nc_b hf
        have hk_b4 := hk_x4 b4 rfl
        have hl : lv_has ls 5 [(0, .ref this), (1, va_rf x1), (2, .int x2), (3, .int x3), (4, .ref b4)] := hl
        refine lv_ifnull hx hb dX0_aheadOf_19 ?_
        refine lv_aload hx hb dX0_aheadOf_22 (lv_at hl 4 rfl) ?_
        refine c_get X hB hk_b4 rfl rfl kw_X5 2 116 (by decide) kf_X0_116 rfl rfl dX0_aheadOf_24 ?_
        refine lv_if_ne (tgt := 58) hx hb dX0_aheadOf_27 (by decide) (fun hc5 => ?_) (fun hc5 => ?_)
        · have hf := if_f hf hc5
          refine lv_aload hx hb dX0_aheadOf_58 (lv_at hl 4 rfl) ?_
          refine c_get X hB hk_b4 rfl rfl kw_X5 7 76 (by decide) kf_X0_76 rfl rfl dX0_aheadOf_60 ?_
          obtain ⟨q6, eq6, hf⟩ := st1_s hf
          rw [← eq6]
          have hk_q6 : tyo G 5 q6 := by rw [eq6]; exact hB.2.2.2.1 (5, 87, 5) (by decide) _ hk_b4
          refine lv_astoreq (lv' := [(4, va_rf q6), (0, .ref this), (1, va_rf x1), (2, .int x2), (3, .int x3)]) hx hb dX0_aheadOf_63 hl (by decide) rfl (fun ls hl => ?_)
          refine lv_goto (tgt := 17) hx hb dX0_aheadOf_65 (by decide) ?_
          exact ih_17 x1 x2 x3 q6 hf _ _ _ hk_x1 hk_q6 hB hS (lv_sub hl [1, 2, 3, 4, 0] rfl)
        · have hf := if_t hf hc5
          refine lv_aload_n hx hb dX0_aheadOf_30 rfl (lv_at hl 0 rfl) ?_
          refine lv_aload hx hb dX0_aheadOf_31 (lv_at hl 4 rfl) ?_
          refine c_get X hB hk_b4 rfl rfl kw_X5 1 73 (by decide) kf_X0_73 rfl rfl dX0_aheadOf_33 ?_
          obtain ⟨v7, hqv7, hf⟩ := bn_s hf
          refine c_doF hB hS hA (va_runV (As := [.int (gI S 81 b4)]) (rest := []) X.1 (cm_X0_listOf l F D ct _ _ this (gI S 81 b4) hk_this _ hqv7) (cwV 1 hts (gd_V km_X0_143 ki_X0_listOf ks_X0_listOf kin_RX0 kc_X0_listOf) rfl rfl rfl (by decide +kernel) ⟨by dsimp only; omega, by dsimp only; omega⟩) (c_preV X hB hk_this rfl rfl) rfl rfl hl.1 rfl (lv_room (Nat.le_of_ble_eq_true rfl)) dX0_aheadOf_36 ⟨by dsimp only; omega, by dsimp only; omega⟩) rfl (fun H locs hB hT hS => ?_)
          refine lv_iload_n hx hb dX0_aheadOf_39 rfl (lv_at hl 2 rfl) ?_
          refine lv_icmp_ne (tgt := 58) hx hb dX0_aheadOf_40 (by decide) (fun hc8 => ?_) (fun hc8 => ?_)
          · have hf := if_f hf hc8
            refine lv_aload hx hb dX0_aheadOf_58 (lv_at hl 4 rfl) ?_
            refine c_get X hB hk_b4 rfl rfl kw_X5 7 76 (by decide) kf_X0_76 rfl rfl dX0_aheadOf_60 ?_
            obtain ⟨q9, eq9, hf⟩ := st1_s hf
            rw [← eq9]
            have hk_q9 : tyo G 5 q9 := by rw [eq9]; exact hB.2.2.2.1 (5, 87, 5) (by decide) _ hk_b4
            refine lv_astoreq (lv' := [(4, va_rf q9), (0, .ref this), (1, va_rf x1), (2, .int x2), (3, .int x3)]) hx hb dX0_aheadOf_63 hl (by decide) rfl (fun ls hl => ?_)
            refine lv_goto (tgt := 17) hx hb dX0_aheadOf_65 (by decide) ?_
            exact ih_17 x1 x2 x3 q9 hf _ _ _ hk_x1 hk_q9 hB hS (lv_sub hl [1, 2, 3, 4, 0] rfl)
          · have hf := if_t hf hc8
            refine lv_aload hx hb dX0_aheadOf_43 (lv_at hl 4 rfl) ?_
            refine c_get X hB hk_b4 rfl rfl kw_X5 3 86 (by decide) kf_X0_86 rfl rfl dX0_aheadOf_45 ?_
            refine lv_aload_nq hx hb dX0_aheadOf_48 rfl (lv_at hl 1 rfl) ?_
            obtain ⟨b10, eb10, hf2⟩ := nn_s hf
            clear hf
            subst eb10
            have hf := hf2
            clear hf2
            have hk_b10 := hk_x1 b10 rfl
            have hl : lv_has ls 5 [(0, .ref this), (1, .ref b10), (2, .int x2), (3, .int x3), (4, .ref b4)] := hl
            refine c_get X hB hk_b10 rfl rfl kw_X5 3 86 (by decide) kf_X0_86 rfl rfl dX0_aheadOf_49 ?_
            refine lv_icmp_le (tgt := 58) hx hb dX0_aheadOf_52 (by decide) (fun hc11 => ?_) (fun hc11 => ?_)
            · have hf := if_t hf hc11
              refine lv_aload hx hb dX0_aheadOf_58 (lv_at hl 4 rfl) ?_
              refine c_get X hB hk_b4 rfl rfl kw_X5 7 76 (by decide) kf_X0_76 rfl rfl dX0_aheadOf_60 ?_
              obtain ⟨q12, eq12, hf⟩ := st1_s hf
              rw [← eq12]
              have hk_q12 : tyo G 5 q12 := by rw [eq12]; exact hB.2.2.2.1 (5, 87, 5) (by decide) _ hk_b4
              refine lv_astoreq (lv' := [(4, va_rf q12), (0, .ref this), (1, .ref b10), (2, .int x2), (3, .int x3)]) hx hb dX0_aheadOf_63 hl (by decide) rfl (fun ls hl => ?_)
              refine lv_goto (tgt := 17) hx hb dX0_aheadOf_65 (by decide) ?_
              exact ih_17 (some b10) x2 x3 q12 hf _ _ _ (tyo_some hk_b10) hk_q12 hB hS (lv_sub hl [1, 2, 3, 4, 0] rfl)
            · have hf := if_f hf hc11
              refine lv_iinc (v := x3 + 1) (lv' := [(3, .int (x3 + 1)), (0, .ref this), (1, .ref b10), (2, .int x2), (4, .ref b4)]) hx hb dX0_aheadOf_55 hl (k := 3) rfl rfl (by decide) rfl (fun ls hl => ?_)
              refine lv_aload hx hb dX0_aheadOf_58 (lv_at hl 4 rfl) ?_
              refine c_get X hB hk_b4 rfl rfl kw_X5 7 76 (by decide) kf_X0_76 rfl rfl dX0_aheadOf_60 ?_
              obtain ⟨q13, eq13, hf⟩ := st1_s hf
              rw [← eq13]
              have hk_q13 : tyo G 5 q13 := by rw [eq13]; exact hB.2.2.2.1 (5, 87, 5) (by decide) _ hk_b4
              refine lv_astoreq (lv' := [(4, va_rf q13), (3, .int (x3 + 1)), (0, .ref this), (1, .ref b10), (2, .int x2)]) hx hb dX0_aheadOf_63 hl (by decide) rfl (fun ls hl => ?_)
              refine lv_goto (tgt := 17) hx hb dX0_aheadOf_65 (by decide) ?_
              exact ih_17 (some b10) x2 (x3 + 1) q13 hf _ _ _ (tyo_some hk_b10) hk_q13 hB hS (lv_sub hl [2, 3, 4, 1, 0] rfl)
  unfold cf_X0_aheadOf at hf
  refine lv_aload_n hx hb dX0_aheadOf_0 rfl (lv_at hl 0 rfl) ?_
  refine lv_aload_nq hx hb dX0_aheadOf_1 rfl (lv_at hl 1 rfl) ?_
  obtain ⟨b1, eb1, hf2⟩ := nn_s hf
  clear hf
  subst eb1
  have hf := hf2
  clear hf2
  have hk_b1 := hk_x1 b1 rfl
  have hl : lv_has ls 5 [(0, .ref this), (1, .ref b1)] := hl
  refine c_get X hB hk_b1 rfl rfl kw_X5 1 73 (by decide) kf_X0_73 rfl rfl dX0_aheadOf_2 ?_
  obtain ⟨v2, hqv2, hf⟩ := bn_s hf
  refine c_doF hB hS hA (va_runV (As := [.int (gI S 81 b1)]) (rest := []) X.1 (cm_X0_listOf l F D ct _ _ this (gI S 81 b1) hk_this _ hqv2) (cwV 1 hts (gd_V km_X0_143 ki_X0_listOf ks_X0_listOf kin_RX0 kc_X0_listOf) rfl rfl rfl (by decide +kernel) ⟨by dsimp only; omega, by dsimp only; omega⟩) (c_preV X hB hk_this rfl rfl) rfl rfl hl.1 rfl (lv_room (Nat.le_of_ble_eq_true rfl)) dX0_aheadOf_5 ⟨by dsimp only; omega, by dsimp only; omega⟩) rfl (fun H locs hB hT hS => ?_)
  refine lv_istore_n (lv' := [(2, .int v2), (0, .ref this), (1, .ref b1)]) hx hb dX0_aheadOf_8 rfl hl (by decide) rfl (fun ls hl => ?_)
  refine lv_iconst (v := 0) hx hb dX0_aheadOf_9 (by decide) ?_
  refine lv_istore_n (lv' := [(3, .int 0), (2, .int v2), (0, .ref this), (1, .ref b1)]) hx hb dX0_aheadOf_10 rfl hl (by decide) rfl (fun ls hl => ?_)
  refine lv_aload_n hx hb dX0_aheadOf_11 rfl (lv_at hl 2 rfl) ?_
  refine c_get X hB hk_this rfl rfl kw_X0 7 64 (by decide) kf_X0_64 rfl rfl dX0_aheadOf_12 ?_
  obtain ⟨q3, eq3, hf⟩ := st1_s hf
  rw [← eq3]
  have hk_q3 : tyo G 5 q3 := by rw [eq3]; exact hB.2.2.2.1 (0, 7, 5) (by decide) _ hk_this
  refine lv_astoreq (lv' := [(4, va_rf q3), (3, .int 0), (2, .int v2), (0, .ref this), (1, .ref b1)]) hx hb dX0_aheadOf_15 hl (by decide) rfl (fun ls hl => ?_)
  exact J_17 F (some b1) v2 (0 : Int32) q3 hf _ _ _ (tyo_some hk_b1) hk_q3 hB hS (lv_sub hl [3, 4, 2, 1, 0] rfl)
/-! X0_segmentsOf -/
def cf_X0_segmentsOf_7 (F : Nat) (this : Nat) (S : Cst) : Nat → Int32 → Int32 → Option Nat → Option Int32
  | 0 => fun _ _ _ => none
  | n + 1 => fun x1 x2 x3 => nc x3 (some x2) (fun b2 => if (gI S 82 b2) = x1 then (st1 (gP S 87 b2) fun q5 => (cf_X0_segmentsOf_7 F this S n) x1 (x2 + 1) q5) else (st1 (gP S 87 b2) fun q4 => (cf_X0_segmentsOf_7 F this S n) x1 (x2 + 0) q4))
def cf_X0_segmentsOf (F : Nat) (S : Cst) (this : Nat) (x1 : Int32) : Option Int32 := st1 (gP S 7 this) fun q1 => cf_X0_segmentsOf_7 F this S F x1 (0 : Int32) q1
set_option maxHeartbeats 4000000 in
set_option maxRecDepth 100000 in
theorem cm_X0_segmentsOf (l : Launch) (F : Nat) (D : va_G) (ct : ClassId × ClassId × ClassId) (G : Gam) (S : Cst) (this : Nat) (x1 : Int32) (hk_this : ty G 0 this) (r : Int32) (hf : cf_X0_segmentsOf F S this x1 = some r) : cMet l yX0_segmentsOf cq_X0_segmentsOf { frames := 0, cells := 0, slots := 0, locals := 0 } D ct G [.ref this, .int x1] S (some (.int r)) (cF D ct G (fun _ => True) S) (0) (0) := by
  refine cMet_of (own := RX0) (cc := cX0_segmentsOf) (maxL := 4) (ret := (some .int)) (by decide) rfl rfl (Nat.le_of_ble_eq_true rfl) ?_
  intro p e s m below meth c X hr hlk hnm ls A hl hB hA hS
  have hx := X.1.1
  have hb := X.1.2.1
  have hown := X.1.2.2.2.1
  have hts := X.1.2.2.2.2
  have hl : lv_has ls 4 [(0, .ref this), (1, .int x1)] := hl
  generalize hargs : ([.ref this, .int x1] : List Value).toArray = args at X hts hS ⊢
  have J_7 : ∀ (n_7 : Nat) (x1 : Int32) (x2 : Int32) (x3 : Option Nat), cf_X0_segmentsOf_7 F this S n_7 x1 x2 x3 = some r → ∀ (H : Heap) (locs : List Loc) (ls : Array Slot), tyo G 5 x3 → cB D ct G A S H → va_S A s.heap H locs → lv_has ls 4 [(1, .int x1), (2, .int x2), (3, va_rf x3)] → W p l e { frames := 0, cells := 0, slots := 0, locals := 0 } s m args below meth c H locs (0) (0) (MQ below (mq (some (.int r)) (cF D ct G (fun _ => True) S) A) args s (0) (0) A) (F0 m 7 ls []) := by
    intro n_7
    induction n_7 with
    | zero => intro x1 x2 x3 hf; cases hf
    | succ n_7 ih_7 =>
      intro x1 x2 x3 hf H locs ls hk_x3 hB hS hl
      rw [cf_X0_segmentsOf_7] at hf
      refine lv_aload_nq hx hb dX0_segmentsOf_7 rfl (lv_at hl 2 rfl) ?_
      rcases x3 with _ | b2
      · have hf := nc_n hf
        have hl : lv_has ls 4 [(1, .int x1), (2, .int x2), (3, .null)] := hl
        refine lv_ifnullN (tgt := 35) hx hb dX0_segmentsOf_8 (by decide) ?_
        refine lv_iload_n hx hb dX0_segmentsOf_35 rfl (lv_at hl 1 rfl) ?_
        obtain rfl := Option.some.inj hf
        exact W.iret hx hb hr (fun t ht hW => c_endF X hB trivial hS ht hW) hS.2.2 dX0_segmentsOf_36 hlk
      · have hf := nc_b hf
        have hk_b2 := hk_x3 b2 rfl
        have hl : lv_has ls 4 [(1, .int x1), (2, .int x2), (3, .ref b2)] := hl
        refine lv_ifnull hx hb dX0_segmentsOf_8 ?_
        refine lv_iload_n hx hb dX0_segmentsOf_11 rfl (lv_at hl 1 rfl) ?_
        refine lv_aload_n hx hb dX0_segmentsOf_12 rfl (lv_at hl 2 rfl) ?_
        refine c_get X hB hk_b2 rfl rfl kw_X5 2 116 (by decide) kf_X0_116 rfl rfl dX0_segmentsOf_13 ?_
        refine lv_iload_n hx hb dX0_segmentsOf_16 rfl (lv_at hl 0 rfl) ?_
        refine lv_icmp_ne (tgt := 24) hx hb dX0_segmentsOf_17 (by decide) (fun hc3 => ?_) (fun hc3 => ?_)
        · have hf := if_f hf hc3
          refine lv_iconst (v := 0) hx hb dX0_segmentsOf_24 (by decide) ?_
          refine lv_iadd hx hb dX0_segmentsOf_25 ?_
          refine lv_istore_n (lv' := [(2, .int (x2 + 0)), (1, .int x1), (3, .ref b2)]) hx hb dX0_segmentsOf_26 rfl hl (by decide) rfl (fun ls hl => ?_)
          refine lv_aload_n hx hb dX0_segmentsOf_27 rfl (lv_at hl 2 rfl) ?_
          refine c_get X hB hk_b2 rfl rfl kw_X5 7 76 (by decide) kf_X0_76 rfl rfl dX0_segmentsOf_28 ?_
          obtain ⟨q4, eq4, hf⟩ := st1_s hf
          rw [← eq4]
          have hk_q4 : tyo G 5 q4 := by rw [eq4]; exact hB.2.2.2.1 (5, 87, 5) (by decide) _ hk_b2
          refine lv_astore_nq (lv' := [(3, va_rf q4), (2, .int (x2 + 0)), (1, .int x1)]) hx hb dX0_segmentsOf_31 rfl hl (by decide) rfl (fun ls hl => ?_)
          refine lv_goto (tgt := 7) hx hb dX0_segmentsOf_32 (by decide) ?_
          exact ih_7 x1 (x2 + 0) q4 hf _ _ _ hk_q4 hB hS (lv_sub hl [2, 1, 0] rfl)
        · have hf := if_t hf hc3
          refine lv_iconst (v := 1) hx hb dX0_segmentsOf_20 (by decide) ?_
          refine lv_goto (tgt := 25) hx hb dX0_segmentsOf_21 (by decide) ?_
          refine lv_iadd hx hb dX0_segmentsOf_25 ?_
          refine lv_istore_n (lv' := [(2, .int (x2 + 1)), (1, .int x1), (3, .ref b2)]) hx hb dX0_segmentsOf_26 rfl hl (by decide) rfl (fun ls hl => ?_)
          refine lv_aload_n hx hb dX0_segmentsOf_27 rfl (lv_at hl 2 rfl) ?_
          refine c_get X hB hk_b2 rfl rfl kw_X5 7 76 (by decide) kf_X0_76 rfl rfl dX0_segmentsOf_28 ?_
          obtain ⟨q5, eq5, hf⟩ := st1_s hf
          rw [← eq5]
          have hk_q5 : tyo G 5 q5 := by rw [eq5]; exact hB.2.2.2.1 (5, 87, 5) (by decide) _ hk_b2
          refine lv_astore_nq (lv' := [(3, va_rf q5), (2, .int (x2 + 1)), (1, .int x1)]) hx hb dX0_segmentsOf_31 rfl hl (by decide) rfl (fun ls hl => ?_)
          refine lv_goto (tgt := 7) hx hb dX0_segmentsOf_32 (by decide) ?_
          exact ih_7 x1 (x2 + 1) q5 hf _ _ _ hk_q5 hB hS (lv_sub hl [2, 1, 0] rfl)
  unfold cf_X0_segmentsOf at hf
  refine lv_iconst (v := 0) hx hb dX0_segmentsOf_0 (by decide) ?_
  refine lv_istore_n (lv' := [(2, .int 0), (0, .ref this), (1, .int x1)]) hx hb dX0_segmentsOf_1 rfl hl (by decide) rfl (fun ls hl => ?_)
  refine lv_aload_n hx hb dX0_segmentsOf_2 rfl (lv_at hl 1 rfl) ?_
  refine c_get X hB hk_this rfl rfl kw_X0 7 64 (by decide) kf_X0_64 rfl rfl dX0_segmentsOf_3 ?_
  obtain ⟨q1, eq1, hf⟩ := st1_s hf
  rw [← eq1]
  have hk_q1 : tyo G 5 q1 := by rw [eq1]; exact hB.2.2.2.1 (0, 7, 5) (by decide) _ hk_this
  refine lv_astore_nq (lv' := [(3, va_rf q1), (2, .int 0), (0, .ref this), (1, .int x1)]) hx hb dX0_segmentsOf_6 rfl hl (by decide) rfl (fun ls hl => ?_)
  exact J_7 F x1 (0 : Int32) q1 hf _ _ _ hk_q1 hB hS (lv_sub hl [3, 1, 0] rfl)
/-! X0_numbersOf -/
def cf_X0_numbersOf_7 (F : Nat) (this : Nat) (S : Cst) : Nat → Int32 → Int32 → Option Nat → Option Int32
  | 0 => fun _ _ _ => none
  | n + 1 => fun x1 x2 x3 => nc x3 (some x2) (fun b2 => if (gI S 82 b2) = x1 then (st1 (gP S 87 b2) fun q5 => (cf_X0_numbersOf_7 F this S n) x1 (x2 + (gI S 81 b2)) q5) else (st1 (gP S 87 b2) fun q4 => (cf_X0_numbersOf_7 F this S n) x1 (x2 + 0) q4))
def cf_X0_numbersOf (F : Nat) (S : Cst) (this : Nat) (x1 : Int32) : Option Int32 := st1 (gP S 7 this) fun q1 => cf_X0_numbersOf_7 F this S F x1 (0 : Int32) q1
set_option maxHeartbeats 4000000 in
set_option maxRecDepth 100000 in
theorem cm_X0_numbersOf (l : Launch) (F : Nat) (D : va_G) (ct : ClassId × ClassId × ClassId) (G : Gam) (S : Cst) (this : Nat) (x1 : Int32) (hk_this : ty G 0 this) (r : Int32) (hf : cf_X0_numbersOf F S this x1 = some r) : cMet l yX0_numbersOf cq_X0_numbersOf { frames := 0, cells := 0, slots := 0, locals := 0 } D ct G [.ref this, .int x1] S (some (.int r)) (cF D ct G (fun _ => True) S) (0) (0) := by
  refine cMet_of (own := RX0) (cc := cX0_numbersOf) (maxL := 4) (ret := (some .int)) (by decide) rfl rfl (Nat.le_of_ble_eq_true rfl) ?_
  intro p e s m below meth c X hr hlk hnm ls A hl hB hA hS
  have hx := X.1.1
  have hb := X.1.2.1
  have hown := X.1.2.2.2.1
  have hts := X.1.2.2.2.2
  have hl : lv_has ls 4 [(0, .ref this), (1, .int x1)] := hl
  generalize hargs : ([.ref this, .int x1] : List Value).toArray = args at X hts hS ⊢
  have J_7 : ∀ (n_7 : Nat) (x1 : Int32) (x2 : Int32) (x3 : Option Nat), cf_X0_numbersOf_7 F this S n_7 x1 x2 x3 = some r → ∀ (H : Heap) (locs : List Loc) (ls : Array Slot), tyo G 5 x3 → cB D ct G A S H → va_S A s.heap H locs → lv_has ls 4 [(1, .int x1), (2, .int x2), (3, va_rf x3)] → W p l e { frames := 0, cells := 0, slots := 0, locals := 0 } s m args below meth c H locs (0) (0) (MQ below (mq (some (.int r)) (cF D ct G (fun _ => True) S) A) args s (0) (0) A) (F0 m 7 ls []) := by
    intro n_7
    induction n_7 with
    | zero => intro x1 x2 x3 hf; cases hf
    | succ n_7 ih_7 =>
      intro x1 x2 x3 hf H locs ls hk_x3 hB hS hl
      rw [cf_X0_numbersOf_7] at hf
      refine lv_aload_nq hx hb dX0_numbersOf_7 rfl (lv_at hl 2 rfl) ?_
      rcases x3 with _ | b2
      · have hf := nc_n hf
        have hl : lv_has ls 4 [(1, .int x1), (2, .int x2), (3, .null)] := hl
        refine lv_ifnullN (tgt := 38) hx hb dX0_numbersOf_8 (by decide) ?_
        refine lv_iload_n hx hb dX0_numbersOf_38 rfl (lv_at hl 1 rfl) ?_
        obtain rfl := Option.some.inj hf
        exact W.iret hx hb hr (fun t ht hW => c_endF X hB trivial hS ht hW) hS.2.2 dX0_numbersOf_39 hlk
      · have hf := nc_b hf
        have hk_b2 := hk_x3 b2 rfl
        have hl : lv_has ls 4 [(1, .int x1), (2, .int x2), (3, .ref b2)] := hl
        refine lv_ifnull hx hb dX0_numbersOf_8 ?_
        refine lv_iload_n hx hb dX0_numbersOf_11 rfl (lv_at hl 1 rfl) ?_
        refine lv_aload_n hx hb dX0_numbersOf_12 rfl (lv_at hl 2 rfl) ?_
        refine c_get X hB hk_b2 rfl rfl kw_X5 2 116 (by decide) kf_X0_116 rfl rfl dX0_numbersOf_13 ?_
        refine lv_iload_n hx hb dX0_numbersOf_16 rfl (lv_at hl 0 rfl) ?_
        refine lv_icmp_ne (tgt := 27) hx hb dX0_numbersOf_17 (by decide) (fun hc3 => ?_) (fun hc3 => ?_)
        · have hf := if_f hf hc3
          refine lv_iconst (v := 0) hx hb dX0_numbersOf_27 (by decide) ?_
          refine lv_iadd hx hb dX0_numbersOf_28 ?_
          refine lv_istore_n (lv' := [(2, .int (x2 + 0)), (1, .int x1), (3, .ref b2)]) hx hb dX0_numbersOf_29 rfl hl (by decide) rfl (fun ls hl => ?_)
          refine lv_aload_n hx hb dX0_numbersOf_30 rfl (lv_at hl 2 rfl) ?_
          refine c_get X hB hk_b2 rfl rfl kw_X5 7 76 (by decide) kf_X0_76 rfl rfl dX0_numbersOf_31 ?_
          obtain ⟨q4, eq4, hf⟩ := st1_s hf
          rw [← eq4]
          have hk_q4 : tyo G 5 q4 := by rw [eq4]; exact hB.2.2.2.1 (5, 87, 5) (by decide) _ hk_b2
          refine lv_astore_nq (lv' := [(3, va_rf q4), (2, .int (x2 + 0)), (1, .int x1)]) hx hb dX0_numbersOf_34 rfl hl (by decide) rfl (fun ls hl => ?_)
          refine lv_goto (tgt := 7) hx hb dX0_numbersOf_35 (by decide) ?_
          exact ih_7 x1 (x2 + 0) q4 hf _ _ _ hk_q4 hB hS (lv_sub hl [2, 1, 0] rfl)
        · have hf := if_t hf hc3
          refine lv_aload_n hx hb dX0_numbersOf_20 rfl (lv_at hl 2 rfl) ?_
          refine c_get X hB hk_b2 rfl rfl kw_X5 1 73 (by decide) kf_X0_73 rfl rfl dX0_numbersOf_21 ?_
          refine lv_goto (tgt := 28) hx hb dX0_numbersOf_24 (by decide) ?_
          refine lv_iadd hx hb dX0_numbersOf_28 ?_
          refine lv_istore_n (lv' := [(2, .int (x2 + (gI S 81 b2))), (1, .int x1), (3, .ref b2)]) hx hb dX0_numbersOf_29 rfl hl (by decide) rfl (fun ls hl => ?_)
          refine lv_aload_n hx hb dX0_numbersOf_30 rfl (lv_at hl 2 rfl) ?_
          refine c_get X hB hk_b2 rfl rfl kw_X5 7 76 (by decide) kf_X0_76 rfl rfl dX0_numbersOf_31 ?_
          obtain ⟨q5, eq5, hf⟩ := st1_s hf
          rw [← eq5]
          have hk_q5 : tyo G 5 q5 := by rw [eq5]; exact hB.2.2.2.1 (5, 87, 5) (by decide) _ hk_b2
          refine lv_astore_nq (lv' := [(3, va_rf q5), (2, .int (x2 + (gI S 81 b2))), (1, .int x1)]) hx hb dX0_numbersOf_34 rfl hl (by decide) rfl (fun ls hl => ?_)
          refine lv_goto (tgt := 7) hx hb dX0_numbersOf_35 (by decide) ?_
          exact ih_7 x1 (x2 + (gI S 81 b2)) q5 hf _ _ _ hk_q5 hB hS (lv_sub hl [2, 1, 0] rfl)
  unfold cf_X0_numbersOf at hf
  refine lv_iconst (v := 0) hx hb dX0_numbersOf_0 (by decide) ?_
  refine lv_istore_n (lv' := [(2, .int 0), (0, .ref this), (1, .int x1)]) hx hb dX0_numbersOf_1 rfl hl (by decide) rfl (fun ls hl => ?_)
  refine lv_aload_n hx hb dX0_numbersOf_2 rfl (lv_at hl 1 rfl) ?_
  refine c_get X hB hk_this rfl rfl kw_X0 7 64 (by decide) kf_X0_64 rfl rfl dX0_numbersOf_3 ?_
  obtain ⟨q1, eq1, hf⟩ := st1_s hf
  rw [← eq1]
  have hk_q1 : tyo G 5 q1 := by rw [eq1]; exact hB.2.2.2.1 (0, 7, 5) (by decide) _ hk_this
  refine lv_astore_nq (lv' := [(3, va_rf q1), (2, .int 0), (0, .ref this), (1, .int x1)]) hx hb dX0_numbersOf_6 rfl hl (by decide) rfl (fun ls hl => ?_)
  exact J_7 F x1 (0 : Int32) q1 hf _ _ _ hk_q1 hB hS (lv_sub hl [3, 1, 0] rfl)
/-! X0_numbersInHeldObjects -/
def cf_X0_numbersInHeldObjects_7 (F : Nat) (this : Nat) (S : Cst) : Nat → Int32 → Option Nat → Option Int32
  | 0 => fun _ _ => none
  | n + 1 => fun x1 x2 => nc x2 (some x1) (fun b2 => if (gI S 82 b2) = (2 : Int32) then ((cf_J6_bitCount_0f7a4 F S (gI S 91 b2)).bind fun v5 => st1 (gP S 87 b2) fun q6 => (cf_X0_numbersInHeldObjects_7 F this S n) (x1 + (v5 * (gI S 88 b2))) q6) else (st1 (gP S 87 b2) fun q4 => (cf_X0_numbersInHeldObjects_7 F this S n) (x1 + 0) q4))
def cf_X0_numbersInHeldObjects (F : Nat) (S : Cst) (this : Nat) : Option Int32 := st1 (gP S 7 this) fun q1 => cf_X0_numbersInHeldObjects_7 F this S F (0 : Int32) q1
set_option maxHeartbeats 4000000 in
set_option maxRecDepth 100000 in
theorem cm_X0_numbersInHeldObjects (l : Launch) (F : Nat) (D : va_G) (ct : ClassId × ClassId × ClassId) (G : Gam) (S : Cst) (this : Nat) (hk_this : ty G 0 this) (r : Int32) (hf : cf_X0_numbersInHeldObjects F S this = some r) : cMet l yX0_numbersInHeldObjects cq_X0_numbersInHeldObjects { frames := 1, cells := 0, slots := 0, locals := 20 } D ct G [.ref this] S (some (.int r)) (cF D ct G (fun _ => True) S) (0) (0) := by
  refine cMet_of (own := RX0) (cc := cX0_numbersInHeldObjects) (maxL := 3) (ret := (some .int)) (by decide) rfl rfl (Nat.le_of_ble_eq_true rfl) ?_
  intro p e s m below meth c X hr hlk hnm ls A hl hB hA hS
  have hx := X.1.1
  have hb := X.1.2.1
  have hown := X.1.2.2.2.1
  have hts := X.1.2.2.2.2
  have hl : lv_has ls 3 [(0, .ref this)] := hl
  generalize hargs : ([.ref this] : List Value).toArray = args at X hts hS ⊢
  have J_7 : ∀ (n_7 : Nat) (x1 : Int32) (x2 : Option Nat), cf_X0_numbersInHeldObjects_7 F this S n_7 x1 x2 = some r → ∀ (H : Heap) (locs : List Loc) (ls : Array Slot), tyo G 5 x2 → cB D ct G A S H → va_S A s.heap H locs → lv_has ls 3 [(1, .int x1), (2, va_rf x2)] → W p l e { frames := 1, cells := 0, slots := 0, locals := 20 } s m args below meth c H locs (0) (0) (MQ below (mq (some (.int r)) (cF D ct G (fun _ => True) S) A) args s (0) (0) A) (F0 m 7 ls []) := by
    intro n_7
    induction n_7 with
    | zero => intro x1 x2 hf; cases hf
    | succ n_7 ih_7 =>
      intro x1 x2 hf H locs ls hk_x2 hB hS hl
      rw [cf_X0_numbersInHeldObjects_7] at hf
      refine lv_aload_nq hx hb dX0_numbersInHeldObjects_7 rfl (lv_at hl 1 rfl) ?_
      rcases x2 with _ | b2
      · have hf := nc_n hf
        have hl : lv_has ls 3 [(1, .int x1), (2, .null)] := hl
        refine lv_ifnullN (tgt := 46) hx hb dX0_numbersInHeldObjects_8 (by decide) ?_
        refine lv_iload_n hx hb dX0_numbersInHeldObjects_46 rfl (lv_at hl 0 rfl) ?_
        obtain rfl := Option.some.inj hf
        exact W.iret hx hb hr (fun t ht hW => c_endF X hB trivial hS ht hW) hS.2.2 dX0_numbersInHeldObjects_47 hlk
      · have hf := nc_b hf
        have hk_b2 := hk_x2 b2 rfl
        have hl : lv_has ls 3 [(1, .int x1), (2, .ref b2)] := hl
        refine lv_ifnull hx hb dX0_numbersInHeldObjects_8 ?_
        refine lv_iload_n hx hb dX0_numbersInHeldObjects_11 rfl (lv_at hl 0 rfl) ?_
        refine lv_aload_n hx hb dX0_numbersInHeldObjects_12 rfl (lv_at hl 1 rfl) ?_
        refine c_get X hB hk_b2 rfl rfl kw_X5 2 116 (by decide) kf_X0_116 rfl rfl dX0_numbersInHeldObjects_13 ?_
        refine lv_iconst (v := 2) hx hb dX0_numbersInHeldObjects_16 (by decide) ?_
        refine lv_icmp_ne (tgt := 35) hx hb dX0_numbersInHeldObjects_17 (by decide) (fun hc3 => ?_) (fun hc3 => ?_)
        · have hf := if_f hf hc3
          refine lv_iconst (v := 0) hx hb dX0_numbersInHeldObjects_35 (by decide) ?_
          refine lv_iadd hx hb dX0_numbersInHeldObjects_36 ?_
          refine lv_istore_n (lv' := [(1, .int (x1 + 0)), (2, .ref b2)]) hx hb dX0_numbersInHeldObjects_37 rfl hl (by decide) rfl (fun ls hl => ?_)
          refine lv_aload_n hx hb dX0_numbersInHeldObjects_38 rfl (lv_at hl 1 rfl) ?_
          refine c_get X hB hk_b2 rfl rfl kw_X5 7 76 (by decide) kf_X0_76 rfl rfl dX0_numbersInHeldObjects_39 ?_
          obtain ⟨q4, eq4, hf⟩ := st1_s hf
          rw [← eq4]
          have hk_q4 : tyo G 5 q4 := by rw [eq4]; exact hB.2.2.2.1 (5, 87, 5) (by decide) _ hk_b2
          refine lv_astore_nq (lv' := [(2, va_rf q4), (1, .int (x1 + 0))]) hx hb dX0_numbersInHeldObjects_42 rfl hl (by decide) rfl (fun ls hl => ?_)
          refine lv_goto (tgt := 7) hx hb dX0_numbersInHeldObjects_43 (by decide) ?_
          exact ih_7 (x1 + 0) q4 hf _ _ _ hk_q4 hB hS (lv_sub hl [1, 0] rfl)
        · have hf := if_t hf hc3
          refine lv_aload_n hx hb dX0_numbersInHeldObjects_20 rfl (lv_at hl 1 rfl) ?_
          refine c_get X hB hk_b2 rfl rfl kw_X5 11 180 (by decide) kf_X0_180 rfl rfl dX0_numbersInHeldObjects_21 ?_
          obtain ⟨v5, hqv5, hf⟩ := bn_s hf
          refine c_doF hB hS hA (va_runS (As := [.int (gI S 91 b2)]) (rest := [.int x1]) X.1 (cm_J6_bitCount_0f7a4 l F D ct _ _ (gI S 91 b2) _ hqv5) (va_cwS 1 hts (gd_S km_X0_174 kst_J6_bitCount_0f7a4 kin_RJ6 kc_J6_bitCount_0f7a4) rfl rfl rfl (by decide +kernel) ⟨by dsimp only; omega, by dsimp only; omega⟩) (c_preS X hB) rfl rfl hl.1 rfl (lv_room (Nat.le_of_ble_eq_true rfl)) dX0_numbersInHeldObjects_24 ⟨by dsimp only; omega, by dsimp only; omega⟩) rfl (fun H locs hB hT hS => ?_)
          refine lv_aload_n hx hb dX0_numbersInHeldObjects_27 rfl (lv_at hl 1 rfl) ?_
          refine c_get X hB hk_b2 rfl rfl kw_X5 8 183 (by decide) kf_X0_183 rfl rfl dX0_numbersInHeldObjects_28 ?_
          refine lv_imul hx hb dX0_numbersInHeldObjects_31 ?_
          refine lv_goto (tgt := 36) hx hb dX0_numbersInHeldObjects_32 (by decide) ?_
          refine lv_iadd hx hb dX0_numbersInHeldObjects_36 ?_
          refine lv_istore_n (lv' := [(1, .int (x1 + (v5 * (gI S 88 b2)))), (2, .ref b2)]) hx hb dX0_numbersInHeldObjects_37 rfl hl (by decide) rfl (fun ls hl => ?_)
          refine lv_aload_n hx hb dX0_numbersInHeldObjects_38 rfl (lv_at hl 1 rfl) ?_
          refine c_get X hB hk_b2 rfl rfl kw_X5 7 76 (by decide) kf_X0_76 rfl rfl dX0_numbersInHeldObjects_39 ?_
          obtain ⟨q6, eq6, hf⟩ := st1_s hf
          rw [← eq6]
          have hk_q6 : tyo G 5 q6 := by rw [eq6]; exact hB.2.2.2.1 (5, 87, 5) (by decide) _ hk_b2
          refine lv_astore_nq (lv' := [(2, va_rf q6), (1, .int (x1 + (v5 * (gI S 88 b2))))]) hx hb dX0_numbersInHeldObjects_42 rfl hl (by decide) rfl (fun ls hl => ?_)
          refine lv_goto (tgt := 7) hx hb dX0_numbersInHeldObjects_43 (by decide) ?_
          exact ih_7 (x1 + (v5 * (gI S 88 b2))) q6 hf _ _ _ hk_q6 hB hS (lv_sub hl [1, 0] rfl)
  unfold cf_X0_numbersInHeldObjects at hf
  refine lv_iconst (v := 0) hx hb dX0_numbersInHeldObjects_0 (by decide) ?_
  refine lv_istore_n (lv' := [(1, .int 0), (0, .ref this)]) hx hb dX0_numbersInHeldObjects_1 rfl hl (by decide) rfl (fun ls hl => ?_)
  refine lv_aload_n hx hb dX0_numbersInHeldObjects_2 rfl (lv_at hl 1 rfl) ?_
  refine c_get X hB hk_this rfl rfl kw_X0 7 64 (by decide) kf_X0_64 rfl rfl dX0_numbersInHeldObjects_3 ?_
  obtain ⟨q1, eq1, hf⟩ := st1_s hf
  rw [← eq1]
  have hk_q1 : tyo G 5 q1 := by rw [eq1]; exact hB.2.2.2.1 (0, 7, 5) (by decide) _ hk_this
  refine lv_astore_nq (lv' := [(2, va_rf q1), (1, .int 0), (0, .ref this)]) hx hb dX0_numbersInHeldObjects_6 rfl hl (by decide) rfl (fun ls hl => ?_)
  exact J_7 F (0 : Int32) q1 hf _ _ _ hk_q1 hB hS (lv_sub hl [1, 0] rfl)
/-! X0_objectsHeld -/
def cf_X0_objectsHeld_7 (F : Nat) (this : Nat) (S : Cst) : Nat → Option Nat → Int32 → Option Nat → Option Int32
  | 0 => fun _ _ _ => none
  | n + 1 => fun x1 x2 x3 => nc x3 (some x2) (fun b2 => (cf_X5_isSlabOf F S b2 x1).bind fun v3 => if v3 = 0 then (st1 (gP S 87 b2) fun q5 => (cf_X0_objectsHeld_7 F this S n) x1 (x2 + 0) q5) else ((cf_J6_bitCount_0f7a4 F S (gI S 91 b2)).bind fun v6 => st1 (gP S 87 b2) fun q7 => (cf_X0_objectsHeld_7 F this S n) x1 (x2 + v6) q7))
def cf_X0_objectsHeld (F : Nat) (S : Cst) (this : Nat) (x1 : Option Nat) : Option Int32 := st1 (gP S 7 this) fun q1 => cf_X0_objectsHeld_7 F this S F x1 (0 : Int32) q1
set_option maxHeartbeats 4000000 in
set_option maxRecDepth 100000 in
theorem cm_X0_objectsHeld (l : Launch) (F : Nat) (D : va_G) (ct : ClassId × ClassId × ClassId) (G : Gam) (S : Cst) (this : Nat) (x1 : Option Nat) (hk_this : ty G 0 this) (hk_x1 : tyo G 2 x1) (r : Int32) (hf : cf_X0_objectsHeld F S this x1 = some r) : cMet l yX0_objectsHeld cq_X0_objectsHeld { frames := 1, cells := 0, slots := 0, locals := 21 } D ct G [.ref this, va_rf x1] S (some (.int r)) (cF D ct G (fun _ => True) S) (0) (0) := by
  refine cMet_of (own := RX0) (cc := cX0_objectsHeld) (maxL := 4) (ret := (some .int)) (by decide) rfl rfl (by rcases x1 with _ | _ <;> exact (Nat.le_of_ble_eq_true rfl)) ?_
  intro p e s m below meth c X hr hlk hnm ls A hl hB hA hS
  have hx := X.1.1
  have hb := X.1.2.1
  have hown := X.1.2.2.2.1
  have hts := X.1.2.2.2.2
  have hl : lv_has ls 4 [(0, .ref this), (1, va_rf x1)] := (by rcases x1 with _ | _ <;> exact hl)
  generalize hargs : ([.ref this, va_rf x1] : List Value).toArray = args at X hts hS ⊢
  have J_7 : ∀ (n_7 : Nat) (x1 : Option Nat) (x2 : Int32) (x3 : Option Nat), cf_X0_objectsHeld_7 F this S n_7 x1 x2 x3 = some r → ∀ (H : Heap) (locs : List Loc) (ls : Array Slot), tyo G 2 x1 → tyo G 5 x3 → cB D ct G A S H → va_S A s.heap H locs → lv_has ls 4 [(1, va_rf x1), (2, .int x2), (3, va_rf x3)] → W p l e { frames := 1, cells := 0, slots := 0, locals := 21 } s m args below meth c H locs (0) (0) (MQ below (mq (some (.int r)) (cF D ct G (fun _ => True) S) A) args s (0) (0) A) (F0 m 7 ls []) := by
    intro n_7
    induction n_7 with
    | zero => intro x1 x2 x3 hf; cases hf
    | succ n_7 ih_7 =>
      intro x1 x2 x3 hf H locs ls hk_x1 hk_x3 hB hS hl
      rw [cf_X0_objectsHeld_7] at hf
      refine lv_aload_nq hx hb dX0_objectsHeld_7 rfl (lv_at hl 2 rfl) ?_
      rcases x3 with _ | b2
      · have hf := nc_n hf
        have hl : lv_has ls 4 [(1, va_rf x1), (2, .int x2), (3, .null)] := hl
        refine lv_ifnullN (tgt := 41) hx hb dX0_objectsHeld_8 (by decide) ?_
        refine lv_iload_n hx hb dX0_objectsHeld_41 rfl (lv_at hl 1 rfl) ?_
        obtain rfl := Option.some.inj hf
        exact W.iret hx hb hr (fun t ht hW => c_endF X hB trivial hS ht hW) hS.2.2 dX0_objectsHeld_42 hlk
      · have hf := nc_b hf
        have hk_b2 := hk_x3 b2 rfl
        have hl : lv_has ls 4 [(1, va_rf x1), (2, .int x2), (3, .ref b2)] := hl
        refine lv_ifnull hx hb dX0_objectsHeld_8 ?_
        refine lv_iload_n hx hb dX0_objectsHeld_11 rfl (lv_at hl 1 rfl) ?_
        refine lv_aload_n hx hb dX0_objectsHeld_12 rfl (lv_at hl 2 rfl) ?_
        refine lv_aload_nq hx hb dX0_objectsHeld_13 rfl (lv_at hl 0 rfl) ?_
        obtain ⟨v3, hqv3, hf⟩ := bn_s hf
        refine c_doF hB hS hA (va_runV (As := [va_rf x1]) (rest := [.int x2]) X.1 (cm_X5_isSlabOf l F D ct _ _ b2 x1 hk_b2 hk_x1 _ hqv3) (cwV 1 hts (gd_V km_X0_167 ki_X5_isSlabOf ks_X5_isSlabOf kin_RX5 kc_X5_isSlabOf) rfl rfl rfl (by decide +kernel) ⟨by dsimp only; omega, by dsimp only; omega⟩) (c_preV X hB hk_b2 rfl rfl) rfl rfl hl.1 rfl (lv_room (Nat.le_of_ble_eq_true rfl)) dX0_objectsHeld_14 ⟨by dsimp only; omega, by dsimp only; omega⟩) rfl (fun H locs hB hT hS => ?_)
        refine lv_if_eq (tgt := 30) hx hb dX0_objectsHeld_17 (by decide) (fun hc4 => ?_) (fun hc4 => ?_)
        · have hf := if_t hf hc4
          refine lv_iconst (v := 0) hx hb dX0_objectsHeld_30 (by decide) ?_
          refine lv_iadd hx hb dX0_objectsHeld_31 ?_
          refine lv_istore_n (lv' := [(2, .int (x2 + 0)), (1, va_rf x1), (3, .ref b2)]) hx hb dX0_objectsHeld_32 rfl hl (by decide) (by rcases x1 with _ | _ <;> exact rfl) (fun ls hl => ?_)
          refine lv_aload_n hx hb dX0_objectsHeld_33 rfl (lv_at hl 2 rfl) ?_
          refine c_get X hB hk_b2 rfl rfl kw_X5 7 76 (by decide) kf_X0_76 rfl rfl dX0_objectsHeld_34 ?_
          obtain ⟨q5, eq5, hf⟩ := st1_s hf
          rw [← eq5]
          have hk_q5 : tyo G 5 q5 := by rw [eq5]; exact hB.2.2.2.1 (5, 87, 5) (by decide) _ hk_b2
          refine lv_astore_nq (lv' := [(3, va_rf q5), (2, .int (x2 + 0)), (1, va_rf x1)]) hx hb dX0_objectsHeld_37 rfl hl (by decide) rfl (fun ls hl => ?_)
          refine lv_goto (tgt := 7) hx hb dX0_objectsHeld_38 (by decide) ?_
          exact ih_7 x1 (x2 + 0) q5 hf _ _ _ hk_x1 hk_q5 hB hS (lv_sub hl [2, 1, 0] rfl)
        · have hf := if_f hf hc4
          refine lv_aload_n hx hb dX0_objectsHeld_20 rfl (lv_at hl 2 rfl) ?_
          refine c_get X hB hk_b2 rfl rfl kw_X5 11 180 (by decide) kf_X0_180 rfl rfl dX0_objectsHeld_21 ?_
          obtain ⟨v6, hqv6, hf⟩ := bn_s hf
          refine c_doF hB hS hA (va_runS (As := [.int (gI S 91 b2)]) (rest := [.int x2]) X.1 (cm_J6_bitCount_0f7a4 l F D ct _ _ (gI S 91 b2) _ hqv6) (va_cwS 1 hts (gd_S km_X0_174 kst_J6_bitCount_0f7a4 kin_RJ6 kc_J6_bitCount_0f7a4) rfl rfl rfl (by decide +kernel) ⟨by dsimp only; omega, by dsimp only; omega⟩) (c_preS X hB) rfl rfl hl.1 rfl (lv_room (Nat.le_of_ble_eq_true rfl)) dX0_objectsHeld_24 ⟨by dsimp only; omega, by dsimp only; omega⟩) rfl (fun H locs hB hT hS => ?_)
          refine lv_goto (tgt := 31) hx hb dX0_objectsHeld_27 (by decide) ?_
          refine lv_iadd hx hb dX0_objectsHeld_31 ?_
          refine lv_istore_n (lv' := [(2, .int (x2 + v6)), (1, va_rf x1), (3, .ref b2)]) hx hb dX0_objectsHeld_32 rfl hl (by decide) (by rcases x1 with _ | _ <;> exact rfl) (fun ls hl => ?_)
          refine lv_aload_n hx hb dX0_objectsHeld_33 rfl (lv_at hl 2 rfl) ?_
          refine c_get X hB hk_b2 rfl rfl kw_X5 7 76 (by decide) kf_X0_76 rfl rfl dX0_objectsHeld_34 ?_
          obtain ⟨q7, eq7, hf⟩ := st1_s hf
          rw [← eq7]
          have hk_q7 : tyo G 5 q7 := by rw [eq7]; exact hB.2.2.2.1 (5, 87, 5) (by decide) _ hk_b2
          refine lv_astore_nq (lv' := [(3, va_rf q7), (2, .int (x2 + v6)), (1, va_rf x1)]) hx hb dX0_objectsHeld_37 rfl hl (by decide) rfl (fun ls hl => ?_)
          refine lv_goto (tgt := 7) hx hb dX0_objectsHeld_38 (by decide) ?_
          exact ih_7 x1 (x2 + v6) q7 hf _ _ _ hk_x1 hk_q7 hB hS (lv_sub hl [2, 1, 0] rfl)
  unfold cf_X0_objectsHeld at hf
  refine lv_iconst (v := 0) hx hb dX0_objectsHeld_0 (by decide) ?_
  refine lv_istore_n (lv' := [(2, .int 0), (0, .ref this), (1, va_rf x1)]) hx hb dX0_objectsHeld_1 rfl hl (by decide) (by rcases x1 with _ | _ <;> exact rfl) (fun ls hl => ?_)
  refine lv_aload_n hx hb dX0_objectsHeld_2 rfl (lv_at hl 1 rfl) ?_
  refine c_get X hB hk_this rfl rfl kw_X0 7 64 (by decide) kf_X0_64 rfl rfl dX0_objectsHeld_3 ?_
  obtain ⟨q1, eq1, hf⟩ := st1_s hf
  rw [← eq1]
  have hk_q1 : tyo G 5 q1 := by rw [eq1]; exact hB.2.2.2.1 (0, 7, 5) (by decide) _ hk_this
  refine lv_astore_nq (lv' := [(3, va_rf q1), (2, .int 0), (0, .ref this), (1, va_rf x1)]) hx hb dX0_objectsHeld_6 rfl hl (by decide) rfl (fun ls hl => ?_)
  exact J_7 F x1 (0 : Int32) q1 hf _ _ _ hk_x1 hk_q1 hB hS (lv_sub hl [3, 1, 0] rfl)
/-! X0_objectsLying -/
def cf_X0_objectsLying_7 (F : Nat) (this : Nat) (S : Cst) : Nat → Option Nat → Int32 → Option Nat → Option Int32
  | 0 => fun _ _ _ => none
  | n + 1 => fun x1 x2 x3 => nc x3 (some x2) (fun b2 => (cf_X5_isSlabOf F S b2 x1).bind fun v3 => if v3 = 0 then (st1 (gP S 87 b2) fun q5 => (cf_X0_objectsLying_7 F this S n) x1 (x2 + 0) q5) else ((cf_J6_bitCount_0f7a4 F S (gI S 90 b2)).bind fun v6 => st1 (gP S 87 b2) fun q7 => (cf_X0_objectsLying_7 F this S n) x1 (x2 + v6) q7))
def cf_X0_objectsLying (F : Nat) (S : Cst) (this : Nat) (x1 : Option Nat) : Option Int32 := st1 (gP S 7 this) fun q1 => cf_X0_objectsLying_7 F this S F x1 (0 : Int32) q1
set_option maxHeartbeats 4000000 in
set_option maxRecDepth 100000 in
theorem cm_X0_objectsLying (l : Launch) (F : Nat) (D : va_G) (ct : ClassId × ClassId × ClassId) (G : Gam) (S : Cst) (this : Nat) (x1 : Option Nat) (hk_this : ty G 0 this) (hk_x1 : tyo G 2 x1) (r : Int32) (hf : cf_X0_objectsLying F S this x1 = some r) : cMet l yX0_objectsLying cq_X0_objectsLying { frames := 1, cells := 0, slots := 0, locals := 21 } D ct G [.ref this, va_rf x1] S (some (.int r)) (cF D ct G (fun _ => True) S) (0) (0) := by
  refine cMet_of (own := RX0) (cc := cX0_objectsLying) (maxL := 4) (ret := (some .int)) (by decide) rfl rfl (by rcases x1 with _ | _ <;> exact (Nat.le_of_ble_eq_true rfl)) ?_
  intro p e s m below meth c X hr hlk hnm ls A hl hB hA hS
  have hx := X.1.1
  have hb := X.1.2.1
  have hown := X.1.2.2.2.1
  have hts := X.1.2.2.2.2
  have hl : lv_has ls 4 [(0, .ref this), (1, va_rf x1)] := (by rcases x1 with _ | _ <;> exact hl)
  generalize hargs : ([.ref this, va_rf x1] : List Value).toArray = args at X hts hS ⊢
  have J_7 : ∀ (n_7 : Nat) (x1 : Option Nat) (x2 : Int32) (x3 : Option Nat), cf_X0_objectsLying_7 F this S n_7 x1 x2 x3 = some r → ∀ (H : Heap) (locs : List Loc) (ls : Array Slot), tyo G 2 x1 → tyo G 5 x3 → cB D ct G A S H → va_S A s.heap H locs → lv_has ls 4 [(1, va_rf x1), (2, .int x2), (3, va_rf x3)] → W p l e { frames := 1, cells := 0, slots := 0, locals := 21 } s m args below meth c H locs (0) (0) (MQ below (mq (some (.int r)) (cF D ct G (fun _ => True) S) A) args s (0) (0) A) (F0 m 7 ls []) := by
    intro n_7
    induction n_7 with
    | zero => intro x1 x2 x3 hf; cases hf
    | succ n_7 ih_7 =>
      intro x1 x2 x3 hf H locs ls hk_x1 hk_x3 hB hS hl
      rw [cf_X0_objectsLying_7] at hf
      refine lv_aload_nq hx hb dX0_objectsLying_7 rfl (lv_at hl 2 rfl) ?_
      rcases x3 with _ | b2
      · have hf := nc_n hf
        have hl : lv_has ls 4 [(1, va_rf x1), (2, .int x2), (3, .null)] := hl
        refine lv_ifnullN (tgt := 41) hx hb dX0_objectsLying_8 (by decide) ?_
        refine lv_iload_n hx hb dX0_objectsLying_41 rfl (lv_at hl 1 rfl) ?_
        obtain rfl := Option.some.inj hf
        exact W.iret hx hb hr (fun t ht hW => c_endF X hB trivial hS ht hW) hS.2.2 dX0_objectsLying_42 hlk
      · have hf := nc_b hf
        have hk_b2 := hk_x3 b2 rfl
        have hl : lv_has ls 4 [(1, va_rf x1), (2, .int x2), (3, .ref b2)] := hl
        refine lv_ifnull hx hb dX0_objectsLying_8 ?_
        refine lv_iload_n hx hb dX0_objectsLying_11 rfl (lv_at hl 1 rfl) ?_
        refine lv_aload_n hx hb dX0_objectsLying_12 rfl (lv_at hl 2 rfl) ?_
        refine lv_aload_nq hx hb dX0_objectsLying_13 rfl (lv_at hl 0 rfl) ?_
        obtain ⟨v3, hqv3, hf⟩ := bn_s hf
        refine c_doF hB hS hA (va_runV (As := [va_rf x1]) (rest := [.int x2]) X.1 (cm_X5_isSlabOf l F D ct _ _ b2 x1 hk_b2 hk_x1 _ hqv3) (cwV 1 hts (gd_V km_X0_167 ki_X5_isSlabOf ks_X5_isSlabOf kin_RX5 kc_X5_isSlabOf) rfl rfl rfl (by decide +kernel) ⟨by dsimp only; omega, by dsimp only; omega⟩) (c_preV X hB hk_b2 rfl rfl) rfl rfl hl.1 rfl (lv_room (Nat.le_of_ble_eq_true rfl)) dX0_objectsLying_14 ⟨by dsimp only; omega, by dsimp only; omega⟩) rfl (fun H locs hB hT hS => ?_)
        refine lv_if_eq (tgt := 30) hx hb dX0_objectsLying_17 (by decide) (fun hc4 => ?_) (fun hc4 => ?_)
        · have hf := if_t hf hc4
          refine lv_iconst (v := 0) hx hb dX0_objectsLying_30 (by decide) ?_
          refine lv_iadd hx hb dX0_objectsLying_31 ?_
          refine lv_istore_n (lv' := [(2, .int (x2 + 0)), (1, va_rf x1), (3, .ref b2)]) hx hb dX0_objectsLying_32 rfl hl (by decide) (by rcases x1 with _ | _ <;> exact rfl) (fun ls hl => ?_)
          refine lv_aload_n hx hb dX0_objectsLying_33 rfl (lv_at hl 2 rfl) ?_
          refine c_get X hB hk_b2 rfl rfl kw_X5 7 76 (by decide) kf_X0_76 rfl rfl dX0_objectsLying_34 ?_
          obtain ⟨q5, eq5, hf⟩ := st1_s hf
          rw [← eq5]
          have hk_q5 : tyo G 5 q5 := by rw [eq5]; exact hB.2.2.2.1 (5, 87, 5) (by decide) _ hk_b2
          refine lv_astore_nq (lv' := [(3, va_rf q5), (2, .int (x2 + 0)), (1, va_rf x1)]) hx hb dX0_objectsLying_37 rfl hl (by decide) rfl (fun ls hl => ?_)
          refine lv_goto (tgt := 7) hx hb dX0_objectsLying_38 (by decide) ?_
          exact ih_7 x1 (x2 + 0) q5 hf _ _ _ hk_x1 hk_q5 hB hS (lv_sub hl [2, 1, 0] rfl)
        · have hf := if_f hf hc4
          refine lv_aload_n hx hb dX0_objectsLying_20 rfl (lv_at hl 2 rfl) ?_
          refine c_get X hB hk_b2 rfl rfl kw_X5 10 171 (by decide) kf_X0_171 rfl rfl dX0_objectsLying_21 ?_
          obtain ⟨v6, hqv6, hf⟩ := bn_s hf
          refine c_doF hB hS hA (va_runS (As := [.int (gI S 90 b2)]) (rest := [.int x2]) X.1 (cm_J6_bitCount_0f7a4 l F D ct _ _ (gI S 90 b2) _ hqv6) (va_cwS 1 hts (gd_S km_X0_174 kst_J6_bitCount_0f7a4 kin_RJ6 kc_J6_bitCount_0f7a4) rfl rfl rfl (by decide +kernel) ⟨by dsimp only; omega, by dsimp only; omega⟩) (c_preS X hB) rfl rfl hl.1 rfl (lv_room (Nat.le_of_ble_eq_true rfl)) dX0_objectsLying_24 ⟨by dsimp only; omega, by dsimp only; omega⟩) rfl (fun H locs hB hT hS => ?_)
          refine lv_goto (tgt := 31) hx hb dX0_objectsLying_27 (by decide) ?_
          refine lv_iadd hx hb dX0_objectsLying_31 ?_
          refine lv_istore_n (lv' := [(2, .int (x2 + v6)), (1, va_rf x1), (3, .ref b2)]) hx hb dX0_objectsLying_32 rfl hl (by decide) (by rcases x1 with _ | _ <;> exact rfl) (fun ls hl => ?_)
          refine lv_aload_n hx hb dX0_objectsLying_33 rfl (lv_at hl 2 rfl) ?_
          refine c_get X hB hk_b2 rfl rfl kw_X5 7 76 (by decide) kf_X0_76 rfl rfl dX0_objectsLying_34 ?_
          obtain ⟨q7, eq7, hf⟩ := st1_s hf
          rw [← eq7]
          have hk_q7 : tyo G 5 q7 := by rw [eq7]; exact hB.2.2.2.1 (5, 87, 5) (by decide) _ hk_b2
          refine lv_astore_nq (lv' := [(3, va_rf q7), (2, .int (x2 + v6)), (1, va_rf x1)]) hx hb dX0_objectsLying_37 rfl hl (by decide) rfl (fun ls hl => ?_)
          refine lv_goto (tgt := 7) hx hb dX0_objectsLying_38 (by decide) ?_
          exact ih_7 x1 (x2 + v6) q7 hf _ _ _ hk_x1 hk_q7 hB hS (lv_sub hl [2, 1, 0] rfl)
  unfold cf_X0_objectsLying at hf
  refine lv_iconst (v := 0) hx hb dX0_objectsLying_0 (by decide) ?_
  refine lv_istore_n (lv' := [(2, .int 0), (0, .ref this), (1, va_rf x1)]) hx hb dX0_objectsLying_1 rfl hl (by decide) (by rcases x1 with _ | _ <;> exact rfl) (fun ls hl => ?_)
  refine lv_aload_n hx hb dX0_objectsLying_2 rfl (lv_at hl 1 rfl) ?_
  refine c_get X hB hk_this rfl rfl kw_X0 7 64 (by decide) kf_X0_64 rfl rfl dX0_objectsLying_3 ?_
  obtain ⟨q1, eq1, hf⟩ := st1_s hf
  rw [← eq1]
  have hk_q1 : tyo G 5 q1 := by rw [eq1]; exact hB.2.2.2.1 (0, 7, 5) (by decide) _ hk_this
  refine lv_astore_nq (lv' := [(3, va_rf q1), (2, .int 0), (0, .ref this), (1, va_rf x1)]) hx hb dX0_objectsLying_6 rfl hl (by decide) rfl (fun ls hl => ?_)
  exact J_7 F x1 (0 : Int32) q1 hf _ _ _ hk_x1 hk_q1 hB hS (lv_sub hl [3, 1, 0] rfl)
/-! X0_slabsOf -/
def cf_X0_slabsOf_7 (F : Nat) (this : Nat) (S : Cst) : Nat → Option Nat → Int32 → Option Nat → Option Int32
  | 0 => fun _ _ _ => none
  | n + 1 => fun x1 x2 x3 => nc x3 (some x2) (fun b2 => (cf_X5_isSlabOf F S b2 x1).bind fun v3 => if v3 = 0 then (st1 (gP S 87 b2) fun q5 => (cf_X0_slabsOf_7 F this S n) x1 (x2 + 0) q5) else (st1 (gP S 87 b2) fun q6 => (cf_X0_slabsOf_7 F this S n) x1 (x2 + 1) q6))
def cf_X0_slabsOf (F : Nat) (S : Cst) (this : Nat) (x1 : Option Nat) : Option Int32 := st1 (gP S 7 this) fun q1 => cf_X0_slabsOf_7 F this S F x1 (0 : Int32) q1
set_option maxHeartbeats 4000000 in
set_option maxRecDepth 100000 in
theorem cm_X0_slabsOf (l : Launch) (F : Nat) (D : va_G) (ct : ClassId × ClassId × ClassId) (G : Gam) (S : Cst) (this : Nat) (x1 : Option Nat) (hk_this : ty G 0 this) (hk_x1 : tyo G 2 x1) (r : Int32) (hf : cf_X0_slabsOf F S this x1 = some r) : cMet l yX0_slabsOf cq_X0_slabsOf { frames := 1, cells := 0, slots := 0, locals := 21 } D ct G [.ref this, va_rf x1] S (some (.int r)) (cF D ct G (fun _ => True) S) (0) (0) := by
  refine cMet_of (own := RX0) (cc := cX0_slabsOf) (maxL := 4) (ret := (some .int)) (by decide) rfl rfl (by rcases x1 with _ | _ <;> exact (Nat.le_of_ble_eq_true rfl)) ?_
  intro p e s m below meth c X hr hlk hnm ls A hl hB hA hS
  have hx := X.1.1
  have hb := X.1.2.1
  have hown := X.1.2.2.2.1
  have hts := X.1.2.2.2.2
  have hl : lv_has ls 4 [(0, .ref this), (1, va_rf x1)] := (by rcases x1 with _ | _ <;> exact hl)
  generalize hargs : ([.ref this, va_rf x1] : List Value).toArray = args at X hts hS ⊢
  have J_7 : ∀ (n_7 : Nat) (x1 : Option Nat) (x2 : Int32) (x3 : Option Nat), cf_X0_slabsOf_7 F this S n_7 x1 x2 x3 = some r → ∀ (H : Heap) (locs : List Loc) (ls : Array Slot), tyo G 2 x1 → tyo G 5 x3 → cB D ct G A S H → va_S A s.heap H locs → lv_has ls 4 [(1, va_rf x1), (2, .int x2), (3, va_rf x3)] → W p l e { frames := 1, cells := 0, slots := 0, locals := 21 } s m args below meth c H locs (0) (0) (MQ below (mq (some (.int r)) (cF D ct G (fun _ => True) S) A) args s (0) (0) A) (F0 m 7 ls []) := by
    intro n_7
    induction n_7 with
    | zero => intro x1 x2 x3 hf; cases hf
    | succ n_7 ih_7 =>
      intro x1 x2 x3 hf H locs ls hk_x1 hk_x3 hB hS hl
      rw [cf_X0_slabsOf_7] at hf
      refine lv_aload_nq hx hb dX0_slabsOf_7 rfl (lv_at hl 2 rfl) ?_
      rcases x3 with _ | b2
      · have hf := nc_n hf
        have hl : lv_has ls 4 [(1, va_rf x1), (2, .int x2), (3, .null)] := hl
        refine lv_ifnullN (tgt := 35) hx hb dX0_slabsOf_8 (by decide) ?_
        refine lv_iload_n hx hb dX0_slabsOf_35 rfl (lv_at hl 1 rfl) ?_
        obtain rfl := Option.some.inj hf
        exact W.iret hx hb hr (fun t ht hW => c_endF X hB trivial hS ht hW) hS.2.2 dX0_slabsOf_36 hlk
      · have hf := nc_b hf
        have hk_b2 := hk_x3 b2 rfl
        have hl : lv_has ls 4 [(1, va_rf x1), (2, .int x2), (3, .ref b2)] := hl
        refine lv_ifnull hx hb dX0_slabsOf_8 ?_
        refine lv_iload_n hx hb dX0_slabsOf_11 rfl (lv_at hl 1 rfl) ?_
        refine lv_aload_n hx hb dX0_slabsOf_12 rfl (lv_at hl 2 rfl) ?_
        refine lv_aload_nq hx hb dX0_slabsOf_13 rfl (lv_at hl 0 rfl) ?_
        obtain ⟨v3, hqv3, hf⟩ := bn_s hf
        refine c_doF hB hS hA (va_runV (As := [va_rf x1]) (rest := [.int x2]) X.1 (cm_X5_isSlabOf l F D ct _ _ b2 x1 hk_b2 hk_x1 _ hqv3) (cwV 1 hts (gd_V km_X0_167 ki_X5_isSlabOf ks_X5_isSlabOf kin_RX5 kc_X5_isSlabOf) rfl rfl rfl (by decide +kernel) ⟨by dsimp only; omega, by dsimp only; omega⟩) (c_preV X hB hk_b2 rfl rfl) rfl rfl hl.1 rfl (lv_room (Nat.le_of_ble_eq_true rfl)) dX0_slabsOf_14 ⟨by dsimp only; omega, by dsimp only; omega⟩) rfl (fun H locs hB hT hS => ?_)
        refine lv_if_eq (tgt := 24) hx hb dX0_slabsOf_17 (by decide) (fun hc4 => ?_) (fun hc4 => ?_)
        · have hf := if_t hf hc4
          refine lv_iconst (v := 0) hx hb dX0_slabsOf_24 (by decide) ?_
          refine lv_iadd hx hb dX0_slabsOf_25 ?_
          refine lv_istore_n (lv' := [(2, .int (x2 + 0)), (1, va_rf x1), (3, .ref b2)]) hx hb dX0_slabsOf_26 rfl hl (by decide) (by rcases x1 with _ | _ <;> exact rfl) (fun ls hl => ?_)
          refine lv_aload_n hx hb dX0_slabsOf_27 rfl (lv_at hl 2 rfl) ?_
          refine c_get X hB hk_b2 rfl rfl kw_X5 7 76 (by decide) kf_X0_76 rfl rfl dX0_slabsOf_28 ?_
          obtain ⟨q5, eq5, hf⟩ := st1_s hf
          rw [← eq5]
          have hk_q5 : tyo G 5 q5 := by rw [eq5]; exact hB.2.2.2.1 (5, 87, 5) (by decide) _ hk_b2
          refine lv_astore_nq (lv' := [(3, va_rf q5), (2, .int (x2 + 0)), (1, va_rf x1)]) hx hb dX0_slabsOf_31 rfl hl (by decide) rfl (fun ls hl => ?_)
          refine lv_goto (tgt := 7) hx hb dX0_slabsOf_32 (by decide) ?_
          exact ih_7 x1 (x2 + 0) q5 hf _ _ _ hk_x1 hk_q5 hB hS (lv_sub hl [2, 1, 0] rfl)
        · have hf := if_f hf hc4
          refine lv_iconst (v := 1) hx hb dX0_slabsOf_20 (by decide) ?_
          refine lv_goto (tgt := 25) hx hb dX0_slabsOf_21 (by decide) ?_
          refine lv_iadd hx hb dX0_slabsOf_25 ?_
          refine lv_istore_n (lv' := [(2, .int (x2 + 1)), (1, va_rf x1), (3, .ref b2)]) hx hb dX0_slabsOf_26 rfl hl (by decide) (by rcases x1 with _ | _ <;> exact rfl) (fun ls hl => ?_)
          refine lv_aload_n hx hb dX0_slabsOf_27 rfl (lv_at hl 2 rfl) ?_
          refine c_get X hB hk_b2 rfl rfl kw_X5 7 76 (by decide) kf_X0_76 rfl rfl dX0_slabsOf_28 ?_
          obtain ⟨q6, eq6, hf⟩ := st1_s hf
          rw [← eq6]
          have hk_q6 : tyo G 5 q6 := by rw [eq6]; exact hB.2.2.2.1 (5, 87, 5) (by decide) _ hk_b2
          refine lv_astore_nq (lv' := [(3, va_rf q6), (2, .int (x2 + 1)), (1, va_rf x1)]) hx hb dX0_slabsOf_31 rfl hl (by decide) rfl (fun ls hl => ?_)
          refine lv_goto (tgt := 7) hx hb dX0_slabsOf_32 (by decide) ?_
          exact ih_7 x1 (x2 + 1) q6 hf _ _ _ hk_x1 hk_q6 hB hS (lv_sub hl [2, 1, 0] rfl)
  unfold cf_X0_slabsOf at hf
  refine lv_iconst (v := 0) hx hb dX0_slabsOf_0 (by decide) ?_
  refine lv_istore_n (lv' := [(2, .int 0), (0, .ref this), (1, va_rf x1)]) hx hb dX0_slabsOf_1 rfl hl (by decide) (by rcases x1 with _ | _ <;> exact rfl) (fun ls hl => ?_)
  refine lv_aload_n hx hb dX0_slabsOf_2 rfl (lv_at hl 1 rfl) ?_
  refine c_get X hB hk_this rfl rfl kw_X0 7 64 (by decide) kf_X0_64 rfl rfl dX0_slabsOf_3 ?_
  obtain ⟨q1, eq1, hf⟩ := st1_s hf
  rw [← eq1]
  have hk_q1 : tyo G 5 q1 := by rw [eq1]; exact hB.2.2.2.1 (0, 7, 5) (by decide) _ hk_this
  refine lv_astore_nq (lv' := [(3, va_rf q1), (2, .int 0), (0, .ref this), (1, va_rf x1)]) hx hb dX0_slabsOf_6 rfl hl (by decide) rfl (fun ls hl => ?_)
  exact J_7 F x1 (0 : Int32) q1 hf _ _ _ hk_x1 hk_q1 hB hS (lv_sub hl [3, 1, 0] rfl)
/-! X1_init -/
def cf_X1_init (F : Nat) (S : Cst) (this : Nat) (x1 : Option Nat) (x2 : Int32) (x3 : Int32) (x4 : Int32) (x5 : Int32) : Option Cst := nn x1 fun b1 => (cf_X0_roundUp F S b1 x2).bind fun v2 => st1 (sJ S 16 this v2) fun S3 => st1 (sI S3 17 this x3) fun S4 => st1 (sI S4 18 this x4) fun S5 => st1 (sI S5 19 this x5) fun S6 => st1 (sI S6 20 this (gI S6 12 b1)) fun S7 => st1 (sI S7 21 this (gI S7 13 b1)) fun S8 => some S8
set_option maxHeartbeats 4000000 in
set_option maxRecDepth 100000 in
theorem cm_X1_init (l : Launch) (F : Nat) (D : va_G) (ct : ClassId × ClassId × ClassId) (G : Gam) (S : Cst) (this : Nat) (x1 : Option Nat) (x2 : Int32) (x3 : Int32) (x4 : Int32) (x5 : Int32) (hk_this : ty G 1 this) (hk_x1 : tyo G 0 x1) (S' : Cst) (hf : cf_X1_init F S this x1 x2 x3 x4 x5 = some S') : cMet l yX1_init cq_X1_init { frames := 1, cells := 0, slots := 0, locals := 40 } D ct G [.ref this, va_rf x1, .int x2, .int x3, .int x4, .int x5] S none (cF D ct G (fun _ => True) S') (0) (0) := by
  refine cMet_of (own := RX1) (cc := cX1_init) (maxL := 6) (ret := none) (by decide) rfl rfl (by rcases x1 with _ | _ <;> exact (Nat.le_of_ble_eq_true rfl)) ?_
  intro p e s m below meth c X hr hlk hnm ls A hl hB hA hS
  have hx := X.1.1
  have hb := X.1.2.1
  have hown := X.1.2.2.2.1
  have hts := X.1.2.2.2.2
  have hl : lv_has ls 6 [(0, .ref this), (1, va_rf x1), (2, .int x2), (3, .int x3), (4, .int x4), (5, .int x5)] := (by rcases x1 with _ | _ <;> exact hl)
  generalize hargs : ([.ref this, va_rf x1, .int x2, .int x3, .int x4, .int x5] : List Value).toArray = args at X hts hS ⊢
  unfold cf_X1_init at hf
  refine lv_aload_n hx hb dX1_init_0 rfl (lv_at hl 0 rfl) ?_
  refine W.objInit hx hb hown (hts _ (kw_m km_X1_3)) (hts _ (kw_m kx_Cond_instanceMethod_objectInit)) (hts _ (kw_m kx_Cond_code_objectInit_0xb1_1_none)) rfl (by rw [X.1.2.2.1]; exact hl.1) rfl dX1_init_1 (by decide) (Nat.le_of_ble_eq_true rfl) ?_
  refine W.eq (g2 := F0 m 4 ls []) rfl ?_
  refine lv_aload_n hx hb dX1_init_4 rfl (lv_at hl 0 rfl) ?_
  refine lv_aload_nq hx hb dX1_init_5 rfl (lv_at hl 1 rfl) ?_
  refine lv_iload_n hx hb dX1_init_6 rfl (lv_at hl 2 rfl) ?_
  obtain ⟨b1, eb1, hf2⟩ := nn_s hf
  clear hf
  subst eb1
  have hf := hf2
  clear hf2
  have hk_b1 := hk_x1 b1 rfl
  have hl : lv_has ls 6 [(0, .ref this), (1, .ref b1), (2, .int x2), (3, .int x3), (4, .int x4), (5, .int x5)] := hl
  obtain ⟨v2, hqv2, hf⟩ := bn_s hf
  refine c_doF hB hS hA (va_runV (As := [.int x2]) (rest := [.ref this]) X.1 (cm_X0_roundUp l F D ct _ _ b1 x2 hk_b1 _ hqv2) (cwV 1 hts (gd_V km_X1_9 ki_X0_roundUp ks_X0_roundUp kin_RX0 kc_X0_roundUp) rfl rfl rfl (by decide +kernel) ⟨by dsimp only; omega, by dsimp only; omega⟩) (c_preV X hB hk_b1 rfl rfl) rfl rfl hl.1 rfl (lv_room (Nat.le_of_ble_eq_true rfl)) dX1_init_7 ⟨by dsimp only; omega, by dsimp only; omega⟩) rfl (fun H locs hB hT hS => ?_)
  obtain ⟨S3, eS3, hf⟩ := st1_s hf
  refine c_put X hB hS hk_this rfl rfl kw_X1 tyX1 tyX1_ok nmX1 0 15 (by decide) kf_X1_15 rfl (Or.inr ⟨rfl, hnm, rfl⟩) (fty := .long) rfl rfl rfl (Nat.le_of_ble_eq_true rfl) (cp_1_0 _) (fun κ b h => ccell_sJ κ b h) rfl hB.2.2.2 dX1_init_10 (fun H locs hB hS => ?_)
  rw [← eS3] at hB
  refine lv_aload_n hx hb dX1_init_13 rfl (lv_at hl 0 rfl) ?_
  refine lv_iload_n hx hb dX1_init_14 rfl (lv_at hl 3 rfl) ?_
  obtain ⟨S4, eS4, hf⟩ := st1_s hf
  refine c_put X hB hS hk_this rfl rfl kw_X1 tyX1 tyX1_ok nmX1 1 21 (by decide) kf_X1_21 rfl (Or.inr ⟨rfl, hnm, rfl⟩) (fty := .int) rfl rfl rfl (Nat.le_of_ble_eq_true rfl) (cp_1_1 _) (fun κ b h => ccell_sI κ b h) rfl hB.2.2.2 dX1_init_15 (fun H locs hB hS => ?_)
  rw [← eS4] at hB
  refine lv_aload_n hx hb dX1_init_18 rfl (lv_at hl 0 rfl) ?_
  refine lv_iload hx hb dX1_init_19 (lv_at hl 4 rfl) ?_
  obtain ⟨S5, eS5, hf⟩ := st1_s hf
  refine c_put X hB hS hk_this rfl rfl kw_X1 tyX1 tyX1_ok nmX1 2 25 (by decide) kf_X1_25 rfl (Or.inr ⟨rfl, hnm, rfl⟩) (fty := .int) rfl rfl rfl (Nat.le_of_ble_eq_true rfl) (cp_1_2 _) (fun κ b h => ccell_sI κ b h) rfl hB.2.2.2 dX1_init_21 (fun H locs hB hS => ?_)
  rw [← eS5] at hB
  refine lv_aload_n hx hb dX1_init_24 rfl (lv_at hl 0 rfl) ?_
  refine lv_iload hx hb dX1_init_25 (lv_at hl 5 rfl) ?_
  obtain ⟨S6, eS6, hf⟩ := st1_s hf
  refine c_put X hB hS hk_this rfl rfl kw_X1 tyX1 tyX1_ok nmX1 3 28 (by decide) kf_X1_28 rfl (Or.inr ⟨rfl, hnm, rfl⟩) (fty := .int) rfl rfl rfl (Nat.le_of_ble_eq_true rfl) (cp_1_3 _) (fun κ b h => ccell_sI κ b h) rfl hB.2.2.2 dX1_init_27 (fun H locs hB hS => ?_)
  rw [← eS6] at hB
  refine lv_aload_n hx hb dX1_init_30 rfl (lv_at hl 0 rfl) ?_
  refine lv_aload_n hx hb dX1_init_31 rfl (lv_at hl 1 rfl) ?_
  refine c_get X hB hk_b1 rfl rfl kw_X0 12 31 (by decide) kf_X1_31 rfl rfl dX1_init_32 ?_
  obtain ⟨S7, eS7, hf⟩ := st1_s hf
  refine c_put X hB hS hk_this rfl rfl kw_X1 tyX1 tyX1_ok nmX1 4 34 (by decide) kf_X1_34 rfl (Or.inr ⟨rfl, hnm, rfl⟩) (fty := .int) rfl rfl rfl (Nat.le_of_ble_eq_true rfl) (cp_1_4 _) (fun κ b h => ccell_sI κ b h) rfl hB.2.2.2 dX1_init_35 (fun H locs hB hS => ?_)
  rw [← eS7] at hB
  refine lv_aload_n hx hb dX1_init_38 rfl (lv_at hl 0 rfl) ?_
  refine lv_aload_n hx hb dX1_init_39 rfl (lv_at hl 1 rfl) ?_
  refine c_get X hB hk_b1 rfl rfl kw_X0 13 35 (by decide) kf_X1_35 rfl rfl dX1_init_40 ?_
  obtain ⟨S8, eS8, hf⟩ := st1_s hf
  refine c_put X hB hS hk_this rfl rfl kw_X1 tyX1 tyX1_ok nmX1 5 38 (by decide) kf_X1_38 rfl (Or.inr ⟨rfl, hnm, rfl⟩) (fty := .int) rfl rfl rfl (Nat.le_of_ble_eq_true rfl) (cp_1_5 _) (fun κ b h => ccell_sI κ b h) rfl hB.2.2.2 dX1_init_43 (fun H locs hB hS => ?_)
  rw [← eS8] at hB
  obtain rfl := Option.some.inj hf
  exact W.vret hx hb hr (fun t ht hW => c_endF X hB trivial hS ht hW) hS.2.2 dX1_init_46 hlk
/-! X2_deskAt -/
def cf_X2_deskAt (F : Nat) (S : Cst) (this : Nat) (x1 : Int32) : Option (Option Nat) := if x1 = 0 then (st1 (gP S 33 this) fun q3 => some q3) else (st1 (gP S 34 this) fun q2 => some q2)
set_option maxHeartbeats 4000000 in
set_option maxRecDepth 100000 in
theorem cm_X2_deskAt (l : Launch) (F : Nat) (D : va_G) (ct : ClassId × ClassId × ClassId) (G : Gam) (S : Cst) (this : Nat) (x1 : Int32) (hk_this : ty G 2 this) (r : Option Nat) (hf : cf_X2_deskAt F S this x1 = some r) : cMet l yX2_deskAt cq_X2_deskAt { frames := 0, cells := 0, slots := 0, locals := 0 } D ct G [.ref this, .int x1] S (some (va_rf r)) (cF D ct G (fun G => tyo G 3 r) S) (0) (0) := by
  refine cMet_of (own := RX2) (cc := cX2_deskAt) (maxL := 2) (ret := (some (.object "RangeArenas$Desk"))) (by decide) rfl rfl (Nat.le_of_ble_eq_true rfl) ?_
  intro p e s m below meth c X hr hlk hnm ls A hl hB hA hS
  have hx := X.1.1
  have hb := X.1.2.1
  have hown := X.1.2.2.2.1
  have hts := X.1.2.2.2.2
  have hl : lv_has ls 2 [(0, .ref this), (1, .int x1)] := hl
  generalize hargs : ([.ref this, .int x1] : List Value).toArray = args at X hts hS ⊢
  unfold cf_X2_deskAt at hf
  refine lv_iload_n hx hb dX2_deskAt_0 rfl (lv_at hl 1 rfl) ?_
  refine lv_if_ne (tgt := 11) hx hb dX2_deskAt_1 (by decide) (fun hc1 => ?_) (fun hc1 => ?_)
  · have hf := if_f hf hc1
    refine lv_aload_n hx hb dX2_deskAt_11 rfl (lv_at hl 0 rfl) ?_
    refine c_get X hB hk_this rfl rfl kw_X2 2 20 (by decide) kf_X2_20 rfl rfl dX2_deskAt_12 ?_
    obtain ⟨q2, eq2, hf⟩ := st1_s hf
    rw [← eq2]
    have hk_q2 : tyo G 3 q2 := by rw [eq2]; exact hB.2.2.2.1 (2, 34, 3) (by decide) _ hk_this
    have hT := hk_q2
    obtain rfl := Option.some.inj hf
    exact W.aret hx hb hr (Or.inl ⟨_, rfl⟩) (va_rf_or _) (fun t ht hW => c_endF X hB hT hS ht hW) hS.2.2 dX2_deskAt_15 hlk
  · have hf := if_t hf hc1
    refine lv_aload_n hx hb dX2_deskAt_4 rfl (lv_at hl 0 rfl) ?_
    refine c_get X hB hk_this rfl rfl kw_X2 1 16 (by decide) kf_X2_16 rfl rfl dX2_deskAt_5 ?_
    obtain ⟨q3, eq3, hf⟩ := st1_s hf
    rw [← eq3]
    have hk_q3 : tyo G 3 q3 := by rw [eq3]; exact hB.2.2.2.1 (2, 33, 3) (by decide) _ hk_this
    refine lv_goto (tgt := 15) hx hb dX2_deskAt_8 (by decide) ?_
    have hT := hk_q3
    obtain rfl := Option.some.inj hf
    exact W.aret hx hb hr (Or.inl ⟨_, rfl⟩) (va_rf_or _) (fun t ht hW => c_endF X hB hT hS ht hW) hS.2.2 dX2_deskAt_15 hlk
/-! X3_exchange -/
def cf_X3_exchange (F : Nat) (S : Cst) (this : Nat) : Option Cst := st1 (gP S 48 this) fun q1 => st1 (gP S 49 this) fun q2 => st1 (sP S 48 this q2) fun S3 => st1 (sP S3 49 this q1) fun S4 => some S4
set_option maxHeartbeats 4000000 in
set_option maxRecDepth 100000 in
theorem cm_X3_exchange (l : Launch) (F : Nat) (D : va_G) (ct : ClassId × ClassId × ClassId) (G : Gam) (S : Cst) (this : Nat) (hk_this : ty G 3 this) (S' : Cst) (hf : cf_X3_exchange F S this = some S') : cMet l yX3_exchange cq_X3_exchange { frames := 0, cells := 0, slots := 0, locals := 0 } D ct G [.ref this] S none (cF D ct G (fun _ => True) S') (0) (0) := by
  refine cMet_of (own := RX3) (cc := cX3_exchange) (maxL := 2) (ret := none) (by decide) rfl rfl (Nat.le_of_ble_eq_true rfl) ?_
  intro p e s m below meth c X hr hlk hnm ls A hl hB hA hS
  have hx := X.1.1
  have hb := X.1.2.1
  have hown := X.1.2.2.2.1
  have hts := X.1.2.2.2.2
  have hl : lv_has ls 2 [(0, .ref this)] := hl
  generalize hargs : ([.ref this] : List Value).toArray = args at X hts hS ⊢
  unfold cf_X3_exchange at hf
  refine lv_aload_n hx hb dX3_exchange_0 rfl (lv_at hl 0 rfl) ?_
  refine c_get X hB hk_this rfl rfl kw_X3 0 12 (by decide) kf_X3_12 rfl rfl dX3_exchange_1 ?_
  obtain ⟨q1, eq1, hf⟩ := st1_s hf
  rw [← eq1]
  have hk_q1 : tyo G 4 q1 := by rw [eq1]; exact hB.2.2.2.1 (3, 48, 4) (by decide) _ hk_this
  refine lv_astore_nq (lv' := [(1, va_rf q1), (0, .ref this)]) hx hb dX3_exchange_4 rfl hl (by decide) rfl (fun ls hl => ?_)
  refine lv_aload_n hx hb dX3_exchange_5 rfl (lv_at hl 1 rfl) ?_
  refine lv_aload_n hx hb dX3_exchange_6 rfl (lv_at hl 1 rfl) ?_
  refine c_get X hB hk_this rfl rfl kw_X3 1 18 (by decide) kf_X3_18 rfl rfl dX3_exchange_7 ?_
  obtain ⟨q2, eq2, hf⟩ := st1_s hf
  rw [← eq2]
  have hk_q2 : tyo G 4 q2 := by rw [eq2]; exact hB.2.2.2.1 (3, 49, 4) (by decide) _ hk_this
  obtain ⟨S3, eS3, hf⟩ := st1_s hf
  refine c_put X hB hS hk_this rfl rfl kw_X3 tyX3 tyX3_ok nmX3 0 12 (by decide) kf_X3_12 rfl (Or.inl rfl) (fty := tyX3 0) (tyX3_ok 0 (by decide)) (fr_f (tyX3 0) (Or.inl ⟨_, rfl⟩) q2).1 (fr_f (tyX3 0) (Or.inl ⟨_, rfl⟩) q2).2 (Nat.le_of_ble_eq_true rfl) (cp_3_0 q2) (fun κ b h => ccell_sP κ b h) rfl (wt_sP (κ := 4) hB.2.2.2 (by decide) hk_q2) dX3_exchange_10 (fun H locs hB hS => ?_)
  rw [← eS3] at hB
  refine lv_aload_n hx hb dX3_exchange_13 rfl (lv_at hl 1 rfl) ?_
  refine lv_aload_nq hx hb dX3_exchange_14 rfl (lv_at hl 0 rfl) ?_
  obtain ⟨S4, eS4, hf⟩ := st1_s hf
  refine c_put X hB hS hk_this rfl rfl kw_X3 tyX3 tyX3_ok nmX3 1 18 (by decide) kf_X3_18 rfl (Or.inl rfl) (fty := tyX3 1) (tyX3_ok 1 (by decide)) (fr_f (tyX3 1) (Or.inl ⟨_, rfl⟩) q1).1 (fr_f (tyX3 1) (Or.inl ⟨_, rfl⟩) q1).2 (Nat.le_of_ble_eq_true rfl) (cp_3_1 q1) (fun κ b h => ccell_sP κ b h) rfl (wt_sP (κ := 4) hB.2.2.2 (by decide) hk_q1) dX3_exchange_15 (fun H locs hB hS => ?_)
  rw [← eS4] at hB
  obtain rfl := Option.some.inj hf
  exact W.vret hx hb hr (fun t ht hW => c_endF X hB trivial hS ht hW) hS.2.2 dX3_exchange_18 hlk
/-! X4_top -/
def cf_X4_top (F : Nat) (S : Cst) (this : Nat) : Option Int32 := if (gI S 65 this) ≤ 0 then (some ((-1) : Int32)) else (st1 (gP S 64 this) fun q2 => nn q2 fun b3 => if (Int32.ofNat (gN S b3)) < (gI S 65 this) then (some ((-1) : Int32)) else (st1 (gP S 64 this) fun q5 => nn q5 fun b6 => crd S b6 ((gI S 65 this) - 1) fun v7 => some v7))
set_option maxHeartbeats 4000000 in
set_option maxRecDepth 100000 in
theorem cm_X4_top (l : Launch) (F : Nat) (D : va_G) (ct : ClassId × ClassId × ClassId) (G : Gam) (S : Cst) (this : Nat) (hk_this : ty G 4 this) (r : Int32) (hf : cf_X4_top F S this = some r) : cMet l yX4_top cq_X4_top { frames := 0, cells := 0, slots := 0, locals := 0 } D ct G [.ref this] S (some (.int r)) (cF D ct G (fun _ => True) S) (0) (0) := by
  refine cMet_of (own := RX4) (cc := cX4_top) (maxL := 1) (ret := (some .int)) (by decide) rfl rfl (Nat.le_of_ble_eq_true rfl) ?_
  intro p e s m below meth c X hr hlk hnm ls A hl hB hA hS
  have hx := X.1.1
  have hb := X.1.2.1
  have hown := X.1.2.2.2.1
  have hts := X.1.2.2.2.2
  have hl : lv_has ls 1 [(0, .ref this)] := hl
  generalize hargs : ([.ref this] : List Value).toArray = args at X hts hS ⊢
  unfold cf_X4_top at hf
  refine lv_aload_n hx hb dX4_top_0 rfl (lv_at hl 0 rfl) ?_
  refine c_get X hB hk_this rfl rfl kw_X4 1 15 (by decide) kf_X4_15 rfl rfl dX4_top_1 ?_
  refine lv_if_le (tgt := 33) hx hb dX4_top_4 (by decide) (fun hc1 => ?_) (fun hc1 => ?_)
  · have hf := if_t hf hc1
    refine lv_iconst (v := (-1)) hx hb dX4_top_33 (by decide) ?_
    obtain rfl := Option.some.inj hf
    exact W.iret hx hb hr (fun t ht hW => c_endF X hB trivial hS ht hW) hS.2.2 dX4_top_34 hlk
  · have hf := if_f hf hc1
    refine lv_aload_n hx hb dX4_top_7 rfl (lv_at hl 0 rfl) ?_
    refine c_get X hB hk_this rfl rfl kw_X4 1 15 (by decide) kf_X4_15 rfl rfl dX4_top_8 ?_
    refine lv_aload_n hx hb dX4_top_11 rfl (lv_at hl 0 rfl) ?_
    refine c_get X hB hk_this rfl rfl kw_X4 0 9 (by decide) kf_X4_9 rfl rfl dX4_top_12 ?_
    obtain ⟨q2, eq2, hf⟩ := st1_s hf
    rw [← eq2]
    have hk_q2 : tyo G 8 q2 := by rw [eq2]; exact hB.2.2.2.1 (4, 64, 8) (by decide) _ hk_this
    obtain ⟨b3, eb3, hf2⟩ := nn_s hf
    clear hf
    subst eb3
    have hf := hf2
    clear hf2
    have hk_b3 := hk_q2 b3 rfl
    have hl : lv_has ls 1 [(0, .ref this)] := hl
    refine c_alen X hB hk_b3 0 rfl rfl rfl dX4_top_15 ?_
    refine lv_icmp_gt (tgt := 33) hx hb dX4_top_16 (by decide) (fun hc4 => ?_) (fun hc4 => ?_)
    · have hf := if_t hf hc4
      refine lv_iconst (v := (-1)) hx hb dX4_top_33 (by decide) ?_
      obtain rfl := Option.some.inj hf
      exact W.iret hx hb hr (fun t ht hW => c_endF X hB trivial hS ht hW) hS.2.2 dX4_top_34 hlk
    · have hf := if_f hf hc4
      refine lv_aload_n hx hb dX4_top_19 rfl (lv_at hl 0 rfl) ?_
      refine c_get X hB hk_this rfl rfl kw_X4 0 9 (by decide) kf_X4_9 rfl rfl dX4_top_20 ?_
      obtain ⟨q5, eq5, hf⟩ := st1_s hf
      rw [← eq5]
      have hk_q5 : tyo G 8 q5 := by rw [eq5]; exact hB.2.2.2.1 (4, 64, 8) (by decide) _ hk_this
      refine lv_aload_n hx hb dX4_top_23 rfl (lv_at hl 0 rfl) ?_
      refine c_get X hB hk_this rfl rfl kw_X4 1 15 (by decide) kf_X4_15 rfl rfl dX4_top_24 ?_
      refine lv_iconst (v := 1) hx hb dX4_top_27 (by decide) ?_
      refine lv_isub hx hb dX4_top_28 ?_
      obtain ⟨b6, eb6, hf2⟩ := nn_s hf
      clear hf
      subst eb6
      have hf := hf2
      clear hf2
      have hk_b6 := hk_q5 b6 rfl
      have hl : lv_has ls 1 [(0, .ref this)] := hl
      obtain ⟨v7, ev7, hiv7, hf⟩ := crd_s hf
      refine c_iald X hB hk_b6 hiv7 ev7 dX4_top_29 ?_
      refine lv_goto (tgt := 34) hx hb dX4_top_30 (by decide) ?_
      obtain rfl := Option.some.inj hf
      exact W.iret hx hb hr (fun t ht hW => c_endF X hB trivial hS ht hW) hS.2.2 dX4_top_34 hlk
/-! X4_pull -/
def cf_X4_pull (F : Nat) (S : Cst) (this : Nat) : Option (Int32 × Cst) := (cf_X4_top F S this).bind fun v1 => if v1 = ((-1) : Int32) then (some (v1, S)) else (st1 (sI S 65 this ((gI S 65 this) - 1)) fun S3 => some (v1, S3))
set_option maxHeartbeats 4000000 in
set_option maxRecDepth 100000 in
theorem cm_X4_pull (l : Launch) (F : Nat) (D : va_G) (ct : ClassId × ClassId × ClassId) (G : Gam) (S : Cst) (this : Nat) (hk_this : ty G 4 this) (r : Int32) (S' : Cst) (hf : cf_X4_pull F S this = some (r, S')) : cMet l yX4_pull cq_X4_pull { frames := 1, cells := 0, slots := 0, locals := 20 } D ct G [.ref this] S (some (.int r)) (cF D ct G (fun _ => True) S') (0) (0) := by
  refine cMet_of (own := RX4) (cc := cX4_pull) (maxL := 2) (ret := (some .int)) (by decide) rfl rfl (Nat.le_of_ble_eq_true rfl) ?_
  intro p e s m below meth c X hr hlk hnm ls A hl hB hA hS
  have hx := X.1.1
  have hb := X.1.2.1
  have hown := X.1.2.2.2.1
  have hts := X.1.2.2.2.2
  have hl : lv_has ls 2 [(0, .ref this)] := hl
  generalize hargs : ([.ref this] : List Value).toArray = args at X hts hS ⊢
  unfold cf_X4_pull at hf
  refine lv_aload_n hx hb dX4_pull_0 rfl (lv_at hl 0 rfl) ?_
  obtain ⟨v1, hqv1, hf⟩ := bn_s hf
  refine c_doF hB hS hA (va_runV (As := []) (rest := []) X.1 (cm_X4_top l F D ct _ _ this hk_this _ hqv1) (cwV 0 hts (gd_V km_X4_19 ki_X4_top ks_X4_top kin_RX4 kc_X4_top) rfl rfl rfl (by decide +kernel) ⟨by dsimp only; omega, by dsimp only; omega⟩) (c_preV X hB hk_this rfl rfl) rfl rfl hl.1 rfl (lv_room (Nat.le_of_ble_eq_true rfl)) dX4_pull_1 ⟨by dsimp only; omega, by dsimp only; omega⟩) rfl (fun H locs hB hT hS => ?_)
  refine lv_istore_n (lv' := [(1, .int v1), (0, .ref this)]) hx hb dX4_pull_4 rfl hl (by decide) rfl (fun ls hl => ?_)
  refine lv_iload_n hx hb dX4_pull_5 rfl (lv_at hl 0 rfl) ?_
  refine lv_iconst (v := (-1)) hx hb dX4_pull_6 (by decide) ?_
  refine lv_icmp_eq (tgt := 20) hx hb dX4_pull_7 (by decide) (fun hc2 => ?_) (fun hc2 => ?_)
  · have hf := if_t hf hc2
    refine lv_iload_n hx hb dX4_pull_20 rfl (lv_at hl 0 rfl) ?_
    obtain ⟨rfl, rfl⟩ := Prod.mk.inj (Option.some.inj hf)
    exact W.iret hx hb hr (fun t ht hW => c_endF X hB trivial hS ht hW) hS.2.2 dX4_pull_21 hlk
  · have hf := if_f hf hc2
    refine lv_aload_n hx hb dX4_pull_10 rfl (lv_at hl 1 rfl) ?_
    refine lv_dup hx hb dX4_pull_11 rfl ?_
    refine c_get X hB hk_this rfl rfl kw_X4 1 15 (by decide) kf_X4_15 rfl rfl dX4_pull_12 ?_
    refine lv_iconst (v := 1) hx hb dX4_pull_15 (by decide) ?_
    refine lv_isub hx hb dX4_pull_16 ?_
    obtain ⟨S3, eS3, hf⟩ := st1_s hf
    refine c_put X hB hS hk_this rfl rfl kw_X4 tyX4 tyX4_ok nmX4 1 15 (by decide) kf_X4_15 rfl (Or.inl rfl) (fty := .int) rfl rfl rfl (Nat.le_of_ble_eq_true rfl) (cp_4_1 _) (fun κ b h => ccell_sI κ b h) rfl hB.2.2.2 dX4_pull_17 (fun H locs hB hS => ?_)
    rw [← eS3] at hB
    refine lv_iload_n hx hb dX4_pull_20 rfl (lv_at hl 0 rfl) ?_
    obtain ⟨rfl, rfl⟩ := Prod.mk.inj (Option.some.inj hf)
    exact W.iret hx hb hr (fun t ht hW => c_endF X hB trivial hS ht hW) hS.2.2 dX4_pull_21 hlk
/-! X4_put -/
def cf_X4_put (F : Nat) (S : Cst) (this : Nat) (x1 : Int32) : Option Cst := if (gI S 65 this) < 0 then (some S) else (st1 (gP S 64 this) fun q2 => nn q2 fun b3 => if (Int32.ofNat (gN S b3)) ≤ (gI S 65 this) then (some S) else (st1 (gP S 64 this) fun q5 => nn q5 fun b6 => cwr S b6 (gI S 65 this) x1 fun S7 => st1 (sI S7 65 this ((gI S7 65 this) + 1)) fun S8 => some S8))
set_option maxHeartbeats 4000000 in
set_option maxRecDepth 100000 in
theorem cm_X4_put (l : Launch) (F : Nat) (D : va_G) (ct : ClassId × ClassId × ClassId) (G : Gam) (S : Cst) (this : Nat) (x1 : Int32) (hk_this : ty G 4 this) (S' : Cst) (hf : cf_X4_put F S this x1 = some S') : cMet l yX4_put cq_X4_put { frames := 0, cells := 0, slots := 0, locals := 0 } D ct G [.ref this, .int x1] S none (cF D ct G (fun _ => True) S') (0) (0) := by
  refine cMet_of (own := RX4) (cc := cX4_put) (maxL := 2) (ret := none) (by decide) rfl rfl (Nat.le_of_ble_eq_true rfl) ?_
  intro p e s m below meth c X hr hlk hnm ls A hl hB hA hS
  have hx := X.1.1
  have hb := X.1.2.1
  have hown := X.1.2.2.2.1
  have hts := X.1.2.2.2.2
  have hl : lv_has ls 2 [(0, .ref this), (1, .int x1)] := hl
  generalize hargs : ([.ref this, .int x1] : List Value).toArray = args at X hts hS ⊢
  unfold cf_X4_put at hf
  refine lv_aload_n hx hb dX4_put_0 rfl (lv_at hl 0 rfl) ?_
  refine c_get X hB hk_this rfl rfl kw_X4 1 15 (by decide) kf_X4_15 rfl rfl dX4_put_1 ?_
  refine lv_if_lt (tgt := 39) hx hb dX4_put_4 (by decide) (fun hc1 => ?_) (fun hc1 => ?_)
  · have hf := if_t hf hc1
    obtain rfl := Option.some.inj hf
    exact W.vret hx hb hr (fun t ht hW => c_endF X hB trivial hS ht hW) hS.2.2 dX4_put_39 hlk
  · have hf := if_f hf hc1
    refine lv_aload_n hx hb dX4_put_7 rfl (lv_at hl 0 rfl) ?_
    refine c_get X hB hk_this rfl rfl kw_X4 1 15 (by decide) kf_X4_15 rfl rfl dX4_put_8 ?_
    refine lv_aload_n hx hb dX4_put_11 rfl (lv_at hl 0 rfl) ?_
    refine c_get X hB hk_this rfl rfl kw_X4 0 9 (by decide) kf_X4_9 rfl rfl dX4_put_12 ?_
    obtain ⟨q2, eq2, hf⟩ := st1_s hf
    rw [← eq2]
    have hk_q2 : tyo G 8 q2 := by rw [eq2]; exact hB.2.2.2.1 (4, 64, 8) (by decide) _ hk_this
    obtain ⟨b3, eb3, hf2⟩ := nn_s hf
    clear hf
    subst eb3
    have hf := hf2
    clear hf2
    have hk_b3 := hk_q2 b3 rfl
    have hl : lv_has ls 2 [(0, .ref this), (1, .int x1)] := hl
    refine c_alen X hB hk_b3 0 rfl rfl rfl dX4_put_15 ?_
    refine lv_icmp_ge (tgt := 39) hx hb dX4_put_16 (by decide) (fun hc4 => ?_) (fun hc4 => ?_)
    · have hf := if_t hf hc4
      obtain rfl := Option.some.inj hf
      exact W.vret hx hb hr (fun t ht hW => c_endF X hB trivial hS ht hW) hS.2.2 dX4_put_39 hlk
    · have hf := if_f hf hc4
      refine lv_aload_n hx hb dX4_put_19 rfl (lv_at hl 0 rfl) ?_
      refine c_get X hB hk_this rfl rfl kw_X4 0 9 (by decide) kf_X4_9 rfl rfl dX4_put_20 ?_
      obtain ⟨q5, eq5, hf⟩ := st1_s hf
      rw [← eq5]
      have hk_q5 : tyo G 8 q5 := by rw [eq5]; exact hB.2.2.2.1 (4, 64, 8) (by decide) _ hk_this
      refine lv_aload_n hx hb dX4_put_23 rfl (lv_at hl 0 rfl) ?_
      refine c_get X hB hk_this rfl rfl kw_X4 1 15 (by decide) kf_X4_15 rfl rfl dX4_put_24 ?_
      refine lv_iload_n hx hb dX4_put_27 rfl (lv_at hl 1 rfl) ?_
      obtain ⟨b6, eb6, hf2⟩ := nn_s hf
      clear hf
      subst eb6
      have hf := hf2
      clear hf2
      have hk_b6 := hk_q5 b6 rfl
      have hl : lv_has ls 2 [(0, .ref this), (1, .int x1)] := hl
      obtain ⟨S7, eS7, hiS7, hf⟩ := cwr_s hf
      refine c_iast X hB hS hk_b6 hiS7 dX4_put_28 (fun H locs hB hS => ?_)
      rw [← eS7] at hB
      refine lv_aload_n hx hb dX4_put_29 rfl (lv_at hl 0 rfl) ?_
      refine lv_dup hx hb dX4_put_30 rfl ?_
      refine c_get X hB hk_this rfl rfl kw_X4 1 15 (by decide) kf_X4_15 rfl rfl dX4_put_31 ?_
      refine lv_iconst (v := 1) hx hb dX4_put_34 (by decide) ?_
      refine lv_iadd hx hb dX4_put_35 ?_
      obtain ⟨S8, eS8, hf⟩ := st1_s hf
      refine c_put X hB hS hk_this rfl rfl kw_X4 tyX4 tyX4_ok nmX4 1 15 (by decide) kf_X4_15 rfl (Or.inl rfl) (fty := .int) rfl rfl rfl (Nat.le_of_ble_eq_true rfl) (cp_4_1 _) (fun κ b h => ccell_sI κ b h) rfl hB.2.2.2 dX4_put_36 (fun H locs hB hS => ?_)
      rw [← eS8] at hB
      obtain rfl := Option.some.inj hf
      exact W.vret hx hb hr (fun t ht hW => c_endF X hB trivial hS ht hW) hS.2.2 dX4_put_39 hlk
/-! X4_moveMagazine -/
def cf_X4_moveMagazine_2 (F : Nat) (this : Nat) : Nat → Cst → Option Nat → Int32 → Option Cst
  | 0 => fun _ _ _ => none
  | n + 1 => fun S x1 x2 => if (3 : Int32) ≤ x2 then (some S) else (if (gI S 65 this) ≤ 0 then (some S) else ((cf_X4_pull F S this).bind fun z3 => st2 z3 fun z3v z3S => nn x1 fun b4 => (cf_X4_put F z3S b4 z3v).bind fun S5 => (cf_X4_moveMagazine_2 F this n) S5 (some b4) (x2 + 1)))
def cf_X4_moveMagazine (F : Nat) (S : Cst) (this : Nat) (x1 : Option Nat) : Option Cst := cf_X4_moveMagazine_2 F this F S x1 (0 : Int32)
set_option maxHeartbeats 4000000 in
set_option maxRecDepth 100000 in
theorem cm_X4_moveMagazine (l : Launch) (F : Nat) (D : va_G) (ct : ClassId × ClassId × ClassId) (G : Gam) (S : Cst) (this : Nat) (x1 : Option Nat) (hk_this : ty G 4 this) (hk_x1 : tyo G 4 x1) (S' : Cst) (hf : cf_X4_moveMagazine F S this x1 = some S') : cMet l yX4_moveMagazine cq_X4_moveMagazine { frames := 2, cells := 0, slots := 0, locals := 41 } D ct G [.ref this, va_rf x1] S none (cF D ct G (fun _ => True) S') (0) (0) := by
  refine cMet_of (own := RX4) (cc := cX4_moveMagazine) (maxL := 3) (ret := none) (by decide) rfl rfl (by rcases x1 with _ | _ <;> exact (Nat.le_of_ble_eq_true rfl)) ?_
  intro p e s m below meth c X hr hlk hnm ls A hl hB hA hS
  have hx := X.1.1
  have hb := X.1.2.1
  have hown := X.1.2.2.2.1
  have hts := X.1.2.2.2.2
  have hl : lv_has ls 3 [(0, .ref this), (1, va_rf x1)] := (by rcases x1 with _ | _ <;> exact hl)
  generalize hargs : ([.ref this, va_rf x1] : List Value).toArray = args at X hts hS ⊢
  have J_2 : ∀ (n_2 : Nat) (S : Cst) (x1 : Option Nat) (x2 : Int32), cf_X4_moveMagazine_2 F this n_2 S x1 x2 = some S' → ∀ (H : Heap) (locs : List Loc) (ls : Array Slot), tyo G 4 x1 → cB D ct G A S H → va_S A s.heap H locs → lv_has ls 3 [(0, .ref this), (1, va_rf x1), (2, .int x2)] → W p l e { frames := 2, cells := 0, slots := 0, locals := 41 } s m args below meth c H locs (0) (0) (MQ below (mq none (cF D ct G (fun _ => True) S') A) args s (0) (0) A) (F0 m 2 ls []) := by
    intro n_2
    induction n_2 with
    | zero => intro S x1 x2 hf; cases hf
    | succ n_2 ih_2 =>
      intro S x1 x2 hf H locs ls hk_x1 hB hS hl
      rw [cf_X4_moveMagazine_2] at hf
      refine lv_iload_n hx hb dX4_moveMagazine_2 rfl (lv_at hl 2 rfl) ?_
      refine lv_iconst (v := 3) hx hb dX4_moveMagazine_3 (by decide) ?_
      refine lv_icmp_ge (tgt := 28) hx hb dX4_moveMagazine_4 (by decide) (fun hc1 => ?_) (fun hc1 => ?_)
      · have hf := if_t hf hc1
        obtain rfl := Option.some.inj hf
        exact W.vret hx hb hr (fun t ht hW => c_endF X hB trivial hS ht hW) hS.2.2 dX4_moveMagazine_28 hlk
      · have hf := if_f hf hc1
        refine lv_aload_n hx hb dX4_moveMagazine_7 rfl (lv_at hl 0 rfl) ?_
        refine c_get X hB hk_this rfl rfl kw_X4 1 15 (by decide) kf_X4_15 rfl rfl dX4_moveMagazine_8 ?_
        refine lv_if_le (tgt := 28) hx hb dX4_moveMagazine_11 (by decide) (fun hc2 => ?_) (fun hc2 => ?_)
        · have hf := if_t hf hc2
          obtain rfl := Option.some.inj hf
          exact W.vret hx hb hr (fun t ht hW => c_endF X hB trivial hS ht hW) hS.2.2 dX4_moveMagazine_28 hlk
        · have hf := if_f hf hc2
          refine lv_aload_nq hx hb dX4_moveMagazine_14 rfl (lv_at hl 1 rfl) ?_
          refine lv_aload_n hx hb dX4_moveMagazine_15 rfl (lv_at hl 0 rfl) ?_
          obtain ⟨⟨z3v, z3S⟩, hqz3, hf⟩ := bn_s hf
          have hf := st2_s hf
          refine c_doF hB hS hA (va_runV (As := []) (rest := [va_rf x1]) X.1 (cm_X4_pull l F D ct _ _ this hk_this _ _ hqz3) (cwV 0 hts (gd_V km_X4_23 ki_X4_pull ks_X4_pull kin_RX4 kc_X4_pull) rfl rfl rfl (by decide +kernel) ⟨by dsimp only; omega, by dsimp only; omega⟩) (c_preV X hB hk_this rfl rfl) rfl rfl hl.1 rfl (lv_room (by rcases x1 with _ | _ <;> exact (Nat.le_of_ble_eq_true rfl))) dX4_moveMagazine_16 ⟨by dsimp only; omega, by dsimp only; omega⟩) rfl (fun H locs hB hT hS => ?_)
          obtain ⟨b4, eb4, hf2⟩ := nn_s hf
          clear hf
          subst eb4
          have hf := hf2
          clear hf2
          have hk_b4 := hk_x1 b4 rfl
          have hl : lv_has ls 3 [(0, .ref this), (1, .ref b4), (2, .int x2)] := hl
          obtain ⟨S5, hqS5, hf⟩ := bn_s hf
          refine c_doF hB hS hA (va_runV (As := [.int z3v]) (rest := []) X.1 (cm_X4_put l F D ct _ _ b4 z3v hk_b4 _ hqS5) (cwV 1 hts (gd_V km_X4_26 ki_X4_put ks_X4_put kin_RX4 kc_X4_put) rfl rfl rfl (by decide +kernel) ⟨by dsimp only; omega, by dsimp only; omega⟩) (c_preV X hB hk_b4 rfl rfl) rfl rfl hl.1 rfl (lv_room (Nat.le_of_ble_eq_true rfl)) dX4_moveMagazine_19 ⟨by dsimp only; omega, by dsimp only; omega⟩) rfl (fun H locs hB hT hS => ?_)
          refine lv_iinc (v := x2 + 1) (lv' := [(2, .int (x2 + 1)), (0, .ref this), (1, .ref b4)]) hx hb dX4_moveMagazine_22 hl (k := 2) rfl rfl (by decide) rfl (fun ls hl => ?_)
          refine lv_goto (tgt := 2) hx hb dX4_moveMagazine_25 (by decide) ?_
          exact ih_2 S5 (some b4) (x2 + 1) hf _ _ _ (tyo_some hk_b4) hB hS (lv_sub hl [1, 2, 0] rfl)
  unfold cf_X4_moveMagazine at hf
  refine lv_iconst (v := 0) hx hb dX4_moveMagazine_0 (by decide) ?_
  refine lv_istore_n (lv' := [(2, .int 0), (0, .ref this), (1, va_rf x1)]) hx hb dX4_moveMagazine_1 rfl hl (by decide) (by rcases x1 with _ | _ <;> exact rfl) (fun ls hl => ?_)
  exact J_2 F S x1 (0 : Int32) hf _ _ _ hk_x1 hB hS (lv_sub hl [1, 2, 0] rfl)
/-! X3_load -/
def cf_X3_load (F : Nat) (S : Cst) (this : Nat) (x1 : Option Nat) : Option Cst := st1 (gP S 48 this) fun q1 => nn q1 fun b2 => if (gI S 65 b2) ≤ 0 then (st1 (gP S 49 this) fun q4 => nn q4 fun b5 => if (gI S 65 b5) = 0 then (st1 (gP S 49 this) fun q8 => nn x1 fun b9 => (cf_X4_moveMagazine F S b9 q8).bind fun S10 => (cf_X3_exchange F S10 this).bind fun S11 => some S11) else ((cf_X3_exchange F S this).bind fun S7 => some S7)) else (some S)
set_option maxHeartbeats 4000000 in
set_option maxRecDepth 100000 in
theorem cm_X3_load (l : Launch) (F : Nat) (D : va_G) (ct : ClassId × ClassId × ClassId) (G : Gam) (S : Cst) (this : Nat) (x1 : Option Nat) (hk_this : ty G 3 this) (hk_x1 : tyo G 4 x1) (S' : Cst) (hf : cf_X3_load F S this x1 = some S') : cMet l yX3_load cq_X3_load { frames := 3, cells := 0, slots := 0, locals := 63 } D ct G [.ref this, va_rf x1] S none (cF D ct G (fun _ => True) S') (0) (0) := by
  refine cMet_of (own := RX3) (cc := cX3_load) (maxL := 2) (ret := none) (by decide) rfl rfl (by rcases x1 with _ | _ <;> exact (Nat.le_of_ble_eq_true rfl)) ?_
  intro p e s m below meth c X hr hlk hnm ls A hl hB hA hS
  have hx := X.1.1
  have hb := X.1.2.1
  have hown := X.1.2.2.2.1
  have hts := X.1.2.2.2.2
  have hl : lv_has ls 2 [(0, .ref this), (1, va_rf x1)] := (by rcases x1 with _ | _ <;> exact hl)
  generalize hargs : ([.ref this, va_rf x1] : List Value).toArray = args at X hts hS ⊢
  unfold cf_X3_load at hf
  refine lv_aload_n hx hb dX3_load_0 rfl (lv_at hl 0 rfl) ?_
  refine c_get X hB hk_this rfl rfl kw_X3 0 12 (by decide) kf_X3_12 rfl rfl dX3_load_1 ?_
  obtain ⟨q1, eq1, hf⟩ := st1_s hf
  rw [← eq1]
  have hk_q1 : tyo G 4 q1 := by rw [eq1]; exact hB.2.2.2.1 (3, 48, 4) (by decide) _ hk_this
  obtain ⟨b2, eb2, hf2⟩ := nn_s hf
  clear hf
  subst eb2
  have hf := hf2
  clear hf2
  have hk_b2 := hk_q1 b2 rfl
  have hl : lv_has ls 2 [(0, .ref this), (1, va_rf x1)] := hl
  refine c_get X hB hk_b2 rfl rfl kw_X4 1 21 (by decide) kf_X3_21 rfl rfl dX3_load_4 ?_
  refine lv_if_le (tgt := 11) hx hb dX3_load_7 (by decide) (fun hc3 => ?_) (fun hc3 => ?_)
  · have hf := if_t hf hc3
    refine lv_aload_n hx hb dX3_load_11 rfl (lv_at hl 0 rfl) ?_
    refine c_get X hB hk_this rfl rfl kw_X3 1 18 (by decide) kf_X3_18 rfl rfl dX3_load_12 ?_
    obtain ⟨q4, eq4, hf⟩ := st1_s hf
    rw [← eq4]
    have hk_q4 : tyo G 4 q4 := by rw [eq4]; exact hB.2.2.2.1 (3, 49, 4) (by decide) _ hk_this
    obtain ⟨b5, eb5, hf2⟩ := nn_s hf
    clear hf
    subst eb5
    have hf := hf2
    clear hf2
    have hk_b5 := hk_q4 b5 rfl
    have hl : lv_has ls 2 [(0, .ref this), (1, va_rf x1)] := hl
    refine c_get X hB hk_b5 rfl rfl kw_X4 1 21 (by decide) kf_X3_21 rfl rfl dX3_load_15 ?_
    refine lv_if_ne (tgt := 29) hx hb dX3_load_18 (by decide) (fun hc6 => ?_) (fun hc6 => ?_)
    · have hf := if_f hf hc6
      refine lv_aload_n hx hb dX3_load_29 rfl (lv_at hl 0 rfl) ?_
      obtain ⟨S7, hqS7, hf⟩ := bn_s hf
      refine c_doF hB hS hA (va_runV (As := []) (rest := []) X.1 (cm_X3_exchange l F D ct _ _ this hk_this _ hqS7) (cwV 0 hts (gd_V km_X3_29 ki_X3_exchange ks_X3_exchange kin_RX3 kc_X3_exchange) rfl rfl rfl (by decide +kernel) ⟨by dsimp only; omega, by dsimp only; omega⟩) (c_preV X hB hk_this rfl rfl) rfl rfl hl.1 rfl (lv_room (Nat.le_of_ble_eq_true rfl)) dX3_load_30 ⟨by dsimp only; omega, by dsimp only; omega⟩) rfl (fun H locs hB hT hS => ?_)
      obtain rfl := Option.some.inj hf
      exact W.vret hx hb hr (fun t ht hW => c_endF X hB trivial hS ht hW) hS.2.2 dX3_load_33 hlk
    · have hf := if_t hf hc6
      refine lv_aload_nq hx hb dX3_load_21 rfl (lv_at hl 1 rfl) ?_
      refine lv_aload_n hx hb dX3_load_22 rfl (lv_at hl 0 rfl) ?_
      refine c_get X hB hk_this rfl rfl kw_X3 1 18 (by decide) kf_X3_18 rfl rfl dX3_load_23 ?_
      obtain ⟨q8, eq8, hf⟩ := st1_s hf
      rw [← eq8]
      have hk_q8 : tyo G 4 q8 := by rw [eq8]; exact hB.2.2.2.1 (3, 49, 4) (by decide) _ hk_this
      obtain ⟨b9, eb9, hf2⟩ := nn_s hf
      clear hf
      subst eb9
      have hf := hf2
      clear hf2
      have hk_b9 := hk_x1 b9 rfl
      have hl : lv_has ls 2 [(0, .ref this), (1, .ref b9)] := hl
      obtain ⟨S10, hqS10, hf⟩ := bn_s hf
      refine c_doF hB hS hA (va_runV (As := [va_rf q8]) (rest := []) X.1 (cm_X4_moveMagazine l F D ct _ _ b9 q8 hk_b9 hk_q8 _ hqS10) (cwV 1 hts (gd_V km_X3_25 ki_X4_moveMagazine ks_X4_moveMagazine kin_RX4 kc_X4_moveMagazine) rfl rfl rfl (by decide +kernel) ⟨by dsimp only; omega, by dsimp only; omega⟩) (c_preV X hB hk_b9 rfl rfl) rfl rfl hl.1 rfl (lv_room (Nat.le_of_ble_eq_true rfl)) dX3_load_26 ⟨by dsimp only; omega, by dsimp only; omega⟩) rfl (fun H locs hB hT hS => ?_)
      refine lv_aload_n hx hb dX3_load_29 rfl (lv_at hl 0 rfl) ?_
      obtain ⟨S11, hqS11, hf⟩ := bn_s hf
      refine c_doF hB hS hA (va_runV (As := []) (rest := []) X.1 (cm_X3_exchange l F D ct _ _ this hk_this _ hqS11) (cwV 0 hts (gd_V km_X3_29 ki_X3_exchange ks_X3_exchange kin_RX3 kc_X3_exchange) rfl rfl rfl (by decide +kernel) ⟨by dsimp only; omega, by dsimp only; omega⟩) (c_preV X hB hk_this rfl rfl) rfl rfl hl.1 rfl (lv_room (Nat.le_of_ble_eq_true rfl)) dX3_load_30 ⟨by dsimp only; omega, by dsimp only; omega⟩) rfl (fun H locs hB hT hS => ?_)
      obtain rfl := Option.some.inj hf
      exact W.vret hx hb hr (fun t ht hW => c_endF X hB trivial hS ht hW) hS.2.2 dX3_load_33 hlk
  · have hf := if_f hf hc3
    obtain rfl := Option.some.inj hf
    exact W.vret hx hb hr (fun t ht hW => c_endF X hB trivial hS ht hW) hS.2.2 dX3_load_10 hlk
/-! X3_makeRoom -/
def cf_X3_makeRoom_39 (F : Nat) (this : Nat) (S : Cst) : Option Cst := st1 (gP S 49 this) fun q7 => nn q7 fun b8 => if (gI S 65 b8) = 0 then ((cf_X3_exchange F S this).bind fun S10 => some S10) else (some S)
def cf_X3_makeRoom (F : Nat) (S : Cst) (this : Nat) (x1 : Option Nat) : Option Cst := st1 (gP S 48 this) fun q1 => nn q1 fun b2 => if (3 : Int32) ≤ (gI S 65 b2) then (st1 (gP S 49 this) fun q4 => nn q4 fun b5 => if (gI S 65 b5) ≤ 0 then (cf_X3_makeRoom_39 F this S) else (nn x1 fun b11 => if (12 : Int32) ≤ (gI S 65 b11) then (cf_X3_makeRoom_39 F this S) else (st1 (gP S 49 this) fun q13 => nn q13 fun b14 => (cf_X4_moveMagazine F S b14 (some b11)).bind fun S15 => cf_X3_makeRoom_39 F this S15))) else (some S)
set_option maxHeartbeats 4000000 in
set_option maxRecDepth 100000 in
theorem cm_X3_makeRoom (l : Launch) (F : Nat) (D : va_G) (ct : ClassId × ClassId × ClassId) (G : Gam) (S : Cst) (this : Nat) (x1 : Option Nat) (hk_this : ty G 3 this) (hk_x1 : tyo G 4 x1) (S' : Cst) (hf : cf_X3_makeRoom F S this x1 = some S') : cMet l yX3_makeRoom cq_X3_makeRoom { frames := 3, cells := 0, slots := 0, locals := 63 } D ct G [.ref this, va_rf x1] S none (cF D ct G (fun _ => True) S') (0) (0) := by
  refine cMet_of (own := RX3) (cc := cX3_makeRoom) (maxL := 2) (ret := none) (by decide) rfl rfl (by rcases x1 with _ | _ <;> exact (Nat.le_of_ble_eq_true rfl)) ?_
  intro p e s m below meth c X hr hlk hnm ls A hl hB hA hS
  have hx := X.1.1
  have hb := X.1.2.1
  have hown := X.1.2.2.2.1
  have hts := X.1.2.2.2.2
  have hl : lv_has ls 2 [(0, .ref this), (1, va_rf x1)] := (by rcases x1 with _ | _ <;> exact hl)
  generalize hargs : ([.ref this, va_rf x1] : List Value).toArray = args at X hts hS ⊢
  have J_39 : ∀ (S : Cst), cf_X3_makeRoom_39 F this S = some S' → ∀ (H : Heap) (locs : List Loc) (ls : Array Slot), cB D ct G A S H → va_S A s.heap H locs → lv_has ls 2 [(0, .ref this)] → W p l e { frames := 3, cells := 0, slots := 0, locals := 63 } s m args below meth c H locs (0) (0) (MQ below (mq none (cF D ct G (fun _ => True) S') A) args s (0) (0) A) (F0 m 39 ls []) := by
    intro S hf H locs ls hB hS hl
    unfold cf_X3_makeRoom_39 at hf
    refine lv_aload_n hx hb dX3_makeRoom_39 rfl (lv_at hl 0 rfl) ?_
    refine c_get X hB hk_this rfl rfl kw_X3 1 18 (by decide) kf_X3_18 rfl rfl dX3_makeRoom_40 ?_
    obtain ⟨q7, eq7, hf⟩ := st1_s hf
    rw [← eq7]
    have hk_q7 : tyo G 4 q7 := by rw [eq7]; exact hB.2.2.2.1 (3, 49, 4) (by decide) _ hk_this
    obtain ⟨b8, eb8, hf2⟩ := nn_s hf
    clear hf
    subst eb8
    have hf := hf2
    clear hf2
    have hk_b8 := hk_q7 b8 rfl
    have hl : lv_has ls 2 [(0, .ref this)] := hl
    refine c_get X hB hk_b8 rfl rfl kw_X4 1 21 (by decide) kf_X3_21 rfl rfl dX3_makeRoom_43 ?_
    refine lv_if_ne (tgt := 53) hx hb dX3_makeRoom_46 (by decide) (fun hc9 => ?_) (fun hc9 => ?_)
    · have hf := if_f hf hc9
      obtain rfl := Option.some.inj hf
      exact W.vret hx hb hr (fun t ht hW => c_endF X hB trivial hS ht hW) hS.2.2 dX3_makeRoom_53 hlk
    · have hf := if_t hf hc9
      refine lv_aload_n hx hb dX3_makeRoom_49 rfl (lv_at hl 0 rfl) ?_
      obtain ⟨S10, hqS10, hf⟩ := bn_s hf
      refine c_doF hB hS hA (va_runV (As := []) (rest := []) X.1 (cm_X3_exchange l F D ct _ _ this hk_this _ hqS10) (cwV 0 hts (gd_V km_X3_29 ki_X3_exchange ks_X3_exchange kin_RX3 kc_X3_exchange) rfl rfl rfl (by decide +kernel) ⟨by dsimp only; omega, by dsimp only; omega⟩) (c_preV X hB hk_this rfl rfl) rfl rfl hl.1 rfl (lv_room (Nat.le_of_ble_eq_true rfl)) dX3_makeRoom_50 ⟨by dsimp only; omega, by dsimp only; omega⟩) rfl (fun H locs hB hT hS => ?_)
      obtain rfl := Option.some.inj hf
      exact W.vret hx hb hr (fun t ht hW => c_endF X hB trivial hS ht hW) hS.2.2 dX3_makeRoom_53 hlk
  unfold cf_X3_makeRoom at hf
  refine lv_aload_n hx hb dX3_makeRoom_0 rfl (lv_at hl 0 rfl) ?_
  refine c_get X hB hk_this rfl rfl kw_X3 0 12 (by decide) kf_X3_12 rfl rfl dX3_makeRoom_1 ?_
  obtain ⟨q1, eq1, hf⟩ := st1_s hf
  rw [← eq1]
  have hk_q1 : tyo G 4 q1 := by rw [eq1]; exact hB.2.2.2.1 (3, 48, 4) (by decide) _ hk_this
  obtain ⟨b2, eb2, hf2⟩ := nn_s hf
  clear hf
  subst eb2
  have hf := hf2
  clear hf2
  have hk_b2 := hk_q1 b2 rfl
  have hl : lv_has ls 2 [(0, .ref this), (1, va_rf x1)] := hl
  refine c_get X hB hk_b2 rfl rfl kw_X4 1 21 (by decide) kf_X3_21 rfl rfl dX3_makeRoom_4 ?_
  refine lv_iconst (v := 3) hx hb dX3_makeRoom_7 (by decide) ?_
  refine lv_icmp_ge (tgt := 12) hx hb dX3_makeRoom_8 (by decide) (fun hc3 => ?_) (fun hc3 => ?_)
  · have hf := if_t hf hc3
    refine lv_aload_n hx hb dX3_makeRoom_12 rfl (lv_at hl 0 rfl) ?_
    refine c_get X hB hk_this rfl rfl kw_X3 1 18 (by decide) kf_X3_18 rfl rfl dX3_makeRoom_13 ?_
    obtain ⟨q4, eq4, hf⟩ := st1_s hf
    rw [← eq4]
    have hk_q4 : tyo G 4 q4 := by rw [eq4]; exact hB.2.2.2.1 (3, 49, 4) (by decide) _ hk_this
    obtain ⟨b5, eb5, hf2⟩ := nn_s hf
    clear hf
    subst eb5
    have hf := hf2
    clear hf2
    have hk_b5 := hk_q4 b5 rfl
    have hl : lv_has ls 2 [(0, .ref this), (1, va_rf x1)] := hl
    refine c_get X hB hk_b5 rfl rfl kw_X4 1 21 (by decide) kf_X3_21 rfl rfl dX3_makeRoom_16 ?_
    refine lv_if_le (tgt := 39) hx hb dX3_makeRoom_19 (by decide) (fun hc6 => ?_) (fun hc6 => ?_)
    · have hf := if_t hf hc6
      exact J_39 S hf _ _ _ hB hS (lv_sub hl [0] rfl)
    · have hf := if_f hf hc6
      refine lv_aload_nq hx hb dX3_makeRoom_22 rfl (lv_at hl 1 rfl) ?_
      obtain ⟨b11, eb11, hf2⟩ := nn_s hf
      clear hf
      subst eb11
      have hf := hf2
      clear hf2
      have hk_b11 := hk_x1 b11 rfl
      have hl : lv_has ls 2 [(0, .ref this), (1, .ref b11)] := hl
      refine c_get X hB hk_b11 rfl rfl kw_X4 1 21 (by decide) kf_X3_21 rfl rfl dX3_makeRoom_23 ?_
      refine lv_bipush (v := 12) hx hb dX3_makeRoom_26 (by decide) ?_
      refine lv_icmp_ge (tgt := 39) hx hb dX3_makeRoom_28 (by decide) (fun hc12 => ?_) (fun hc12 => ?_)
      · have hf := if_t hf hc12
        exact J_39 S hf _ _ _ hB hS (lv_sub hl [0] rfl)
      · have hf := if_f hf hc12
        refine lv_aload_n hx hb dX3_makeRoom_31 rfl (lv_at hl 0 rfl) ?_
        refine c_get X hB hk_this rfl rfl kw_X3 1 18 (by decide) kf_X3_18 rfl rfl dX3_makeRoom_32 ?_
        obtain ⟨q13, eq13, hf⟩ := st1_s hf
        rw [← eq13]
        have hk_q13 : tyo G 4 q13 := by rw [eq13]; exact hB.2.2.2.1 (3, 49, 4) (by decide) _ hk_this
        refine lv_aload_n hx hb dX3_makeRoom_35 rfl (lv_at hl 1 rfl) ?_
        obtain ⟨b14, eb14, hf2⟩ := nn_s hf
        clear hf
        subst eb14
        have hf := hf2
        clear hf2
        have hk_b14 := hk_q13 b14 rfl
        have hl : lv_has ls 2 [(0, .ref this), (1, .ref b11)] := hl
        obtain ⟨S15, hqS15, hf⟩ := bn_s hf
        refine c_doF hB hS hA (va_runV (As := [va_rf (some b11)]) (rest := []) X.1 (cm_X4_moveMagazine l F D ct _ _ b14 (some b11) hk_b14 (tyo_some hk_b11) _ hqS15) (cwV 1 hts (gd_V km_X3_25 ki_X4_moveMagazine ks_X4_moveMagazine kin_RX4 kc_X4_moveMagazine) rfl rfl rfl (by decide +kernel) ⟨by dsimp only; omega, by dsimp only; omega⟩) (c_preV X hB hk_b14 rfl rfl) rfl rfl hl.1 rfl (lv_room (Nat.le_of_ble_eq_true rfl)) dX3_makeRoom_36 ⟨by dsimp only; omega, by dsimp only; omega⟩) rfl (fun H locs hB hT hS => ?_)
        exact J_39 S15 hf _ _ _ hB hS (lv_sub hl [0] rfl)
  · have hf := if_f hf hc3
    obtain rfl := Option.some.inj hf
    exact W.vret hx hb hr (fun t ht hW => c_endF X hB trivial hS ht hW) hS.2.2 dX3_makeRoom_11 hlk
/-! X5_fill -/
def cf_X5_fill_25 (F : Nat) (this : Nat) (S : Cst) (y0 : Int32) : Option Cst := st1 (sI S 89 this y0) fun S3 => if (gI S3 89 this) ≤ 0 then (st1 (sI S3 90 this (0 : Int32)) fun S5 => st1 (sI S5 91 this (0 : Int32)) fun S6 => some S6) else (st1 (sI S3 90 this ((((-1) : Int32).toUInt32 >>> ((32 - (gI S3 89 this)).toUInt32 &&& Int32.toUInt32 31)).toInt32)) fun S7 => st1 (sI S7 91 this (0 : Int32)) fun S8 => some S8)
def cf_X5_fill (F : Nat) (S : Cst) (this : Nat) (x1 : Int32) : Option Cst := st1 (sI S 88 this x1) fun S1 => if x1 ≤ 0 then (cf_X5_fill_25 F this S1 (0 : Int32)) else (dv x1 (st1 (if (32 : Int32) < ((gI S1 81 this) / x1) then (32 : Int32) else ((gI S1 81 this) / x1)) fun v9 => cf_X5_fill_25 F this S1 v9))
set_option maxHeartbeats 4000000 in
set_option maxRecDepth 100000 in
theorem cm_X5_fill (l : Launch) (F : Nat) (D : va_G) (ct : ClassId × ClassId × ClassId) (G : Gam) (S : Cst) (this : Nat) (x1 : Int32) (hk_this : ty G 5 this) (S' : Cst) (hf : cf_X5_fill F S this x1 = some S') : cMet l yX5_fill cq_X5_fill { frames := 1, cells := 0, slots := 0, locals := 40 } D ct G [.ref this, .int x1] S none (cF D ct G (fun _ => True) S') (0) (0) := by
  refine cMet_of (own := RX5) (cc := cX5_fill) (maxL := 2) (ret := none) (by decide) rfl rfl (Nat.le_of_ble_eq_true rfl) ?_
  intro p e s m below meth c X hr hlk hnm ls A hl hB hA hS
  have hx := X.1.1
  have hb := X.1.2.1
  have hown := X.1.2.2.2.1
  have hts := X.1.2.2.2.2
  have hl : lv_has ls 2 [(0, .ref this), (1, .int x1)] := hl
  generalize hargs : ([.ref this, .int x1] : List Value).toArray = args at X hts hS ⊢
  have J_25 : ∀ (S : Cst) (y0 : Int32), cf_X5_fill_25 F this S y0 = some S' → ∀ (H : Heap) (locs : List Loc) (ls : Array Slot), cB D ct G A S H → va_S A s.heap H locs → lv_has ls 2 [(0, .ref this)] → W p l e { frames := 1, cells := 0, slots := 0, locals := 40 } s m args below meth c H locs (0) (0) (MQ below (mq none (cF D ct G (fun _ => True) S') A) args s (0) (0) A) (F0 m 25 ls [.int y0, .ref this]) := by
    intro S y0 hf H locs ls hB hS hl
    unfold cf_X5_fill_25 at hf
    obtain ⟨S3, eS3, hf⟩ := st1_s hf
    refine c_put X hB hS hk_this rfl rfl kw_X5 tyX5 tyX5_ok nmX5 9 39 (by decide) kf_X5_39 rfl (Or.inl rfl) (fty := .int) rfl rfl rfl (Nat.le_of_ble_eq_true rfl) (cp_5_9 _) (fun κ b h => ccell_sI κ b h) rfl hB.2.2.2 dX5_fill_25 (fun H locs hB hS => ?_)
    rw [← eS3] at hB
    refine lv_aload_n hx hb dX5_fill_28 rfl (lv_at hl 0 rfl) ?_
    refine lv_aload_n hx hb dX5_fill_29 rfl (lv_at hl 0 rfl) ?_
    refine c_get X hB hk_this rfl rfl kw_X5 9 39 (by decide) kf_X5_39 rfl rfl dX5_fill_30 ?_
    refine lv_if_le (tgt := 48) hx hb dX5_fill_33 (by decide) (fun hc4 => ?_) (fun hc4 => ?_)
    · have hf := if_t hf hc4
      refine lv_iconst (v := 0) hx hb dX5_fill_48 (by decide) ?_
      obtain ⟨S5, eS5, hf⟩ := st1_s hf
      refine c_put X hB hS hk_this rfl rfl kw_X5 tyX5 tyX5_ok nmX5 10 42 (by decide) kf_X5_42 rfl (Or.inl rfl) (fty := .int) rfl rfl rfl (Nat.le_of_ble_eq_true rfl) (cp_5_10 _) (fun κ b h => ccell_sI κ b h) rfl hB.2.2.2 dX5_fill_49 (fun H locs hB hS => ?_)
      rw [← eS5] at hB
      refine lv_aload_n hx hb dX5_fill_52 rfl (lv_at hl 0 rfl) ?_
      refine lv_iconst (v := 0) hx hb dX5_fill_53 (by decide) ?_
      obtain ⟨S6, eS6, hf⟩ := st1_s hf
      refine c_put X hB hS hk_this rfl rfl kw_X5 tyX5 tyX5_ok nmX5 11 45 (by decide) kf_X5_45 rfl (Or.inl rfl) (fty := .int) rfl rfl rfl (Nat.le_of_ble_eq_true rfl) (cp_5_11 _) (fun κ b h => ccell_sI κ b h) rfl hB.2.2.2 dX5_fill_54 (fun H locs hB hS => ?_)
      rw [← eS6] at hB
      obtain rfl := Option.some.inj hf
      exact W.vret hx hb hr (fun t ht hW => c_endF X hB trivial hS ht hW) hS.2.2 dX5_fill_57 hlk
    · have hf := if_f hf hc4
      refine lv_iconst (v := (-1)) hx hb dX5_fill_36 (by decide) ?_
      refine lv_bipush (v := 32) hx hb dX5_fill_37 (by decide) ?_
      refine lv_aload_n hx hb dX5_fill_39 rfl (lv_at hl 0 rfl) ?_
      refine c_get X hB hk_this rfl rfl kw_X5 9 39 (by decide) kf_X5_39 rfl rfl dX5_fill_40 ?_
      refine lv_isub hx hb dX5_fill_43 ?_
      refine lv_iushr (v := (((-1) : Int32).toUInt32 >>> ((32 - (gI S3 89 this)).toUInt32 &&& Int32.toUInt32 31)).toInt32) hx hb dX5_fill_44 rfl ?_
      refine lv_goto (tgt := 49) hx hb dX5_fill_45 (by decide) ?_
      obtain ⟨S7, eS7, hf⟩ := st1_s hf
      refine c_put X hB hS hk_this rfl rfl kw_X5 tyX5 tyX5_ok nmX5 10 42 (by decide) kf_X5_42 rfl (Or.inl rfl) (fty := .int) rfl rfl rfl (Nat.le_of_ble_eq_true rfl) (cp_5_10 _) (fun κ b h => ccell_sI κ b h) rfl hB.2.2.2 dX5_fill_49 (fun H locs hB hS => ?_)
      rw [← eS7] at hB
      refine lv_aload_n hx hb dX5_fill_52 rfl (lv_at hl 0 rfl) ?_
      refine lv_iconst (v := 0) hx hb dX5_fill_53 (by decide) ?_
      obtain ⟨S8, eS8, hf⟩ := st1_s hf
      refine c_put X hB hS hk_this rfl rfl kw_X5 tyX5 tyX5_ok nmX5 11 45 (by decide) kf_X5_45 rfl (Or.inl rfl) (fty := .int) rfl rfl rfl (Nat.le_of_ble_eq_true rfl) (cp_5_11 _) (fun κ b h => ccell_sI κ b h) rfl hB.2.2.2 dX5_fill_54 (fun H locs hB hS => ?_)
      rw [← eS8] at hB
      obtain rfl := Option.some.inj hf
      exact W.vret hx hb hr (fun t ht hW => c_endF X hB trivial hS ht hW) hS.2.2 dX5_fill_57 hlk
  unfold cf_X5_fill at hf
  refine lv_aload_n hx hb dX5_fill_0 rfl (lv_at hl 0 rfl) ?_
  refine lv_iload_n hx hb dX5_fill_1 rfl (lv_at hl 1 rfl) ?_
  obtain ⟨S1, eS1, hf⟩ := st1_s hf
  refine c_put X hB hS hk_this rfl rfl kw_X5 tyX5 tyX5_ok nmX5 8 27 (by decide) kf_X5_27 rfl (Or.inl rfl) (fty := .int) rfl rfl rfl (Nat.le_of_ble_eq_true rfl) (cp_5_8 _) (fun κ b h => ccell_sI κ b h) rfl hB.2.2.2 dX5_fill_2 (fun H locs hB hS => ?_)
  rw [← eS1] at hB
  refine lv_aload_n hx hb dX5_fill_5 rfl (lv_at hl 0 rfl) ?_
  refine lv_iload_n hx hb dX5_fill_6 rfl (lv_at hl 1 rfl) ?_
  refine lv_if_le (tgt := 24) hx hb dX5_fill_7 (by decide) (fun hc2 => ?_) (fun hc2 => ?_)
  · have hf := if_t hf hc2
    refine lv_iconst (v := 0) hx hb dX5_fill_24 (by decide) ?_
    exact J_25 S1 (0 : Int32) hf _ _ _ hB hS (lv_sub hl [0] rfl)
  · have hf := if_f hf hc2
    refine lv_aload_n hx hb dX5_fill_10 rfl (lv_at hl 0 rfl) ?_
    refine c_get X hB hk_this rfl rfl kw_X5 1 15 (by decide) kf_X5_15 rfl rfl dX5_fill_11 ?_
    refine lv_iload_n hx hb dX5_fill_14 rfl (lv_at hl 1 rfl) ?_
    obtain ⟨hd10, hf⟩ := dv_s hf
    refine lv_idiv hx hb dX5_fill_15 hd10 ?_
    refine lv_bipush (v := 32) hx hb dX5_fill_16 (by decide) ?_
    refine va_mmin hx hb (X.1.2.2.1.trans hl.1.symm) hown (hts _ (kw_m km_X5_33)) (hts _ (kw_m kx_Cond_static_Lib_Math_min_name)) (hts _ (kw_m kin_java_lang_Math)) (hts _ (kw_m kx_Cond_code_Lib_Math_min_name_Lib_Math_min_code_2_some_int)) (by decide) (Nat.le_of_ble_eq_true rfl) (Nat.zero_le _) (Nat.zero_le _) dX5_fill_18 ?_
    obtain ⟨v9, ev9, hf⟩ := st1_s hf
    rw [← ev9]
    refine lv_goto (tgt := 25) hx hb dX5_fill_21 (by decide) ?_
    exact J_25 S1 v9 hf _ _ _ hB hS (lv_sub hl [0] rfl)
/-! X5_objectAt -/
def cf_X5_objectAt (F : Nat) (S : Cst) (this : Nat) (x1 : Int32) : Option Int32 := if (gI S 88 this) ≤ 0 then (some ((-1) : Int32)) else (if (gI S 80 this) ≤ x1 then (dv (gI S 88 this) (if (gI S 89 this) ≤ ((x1 - (gI S 80 this)) / (gI S 88 this)) then (some ((-1) : Int32)) else (some ((x1 - (gI S 80 this)) / (gI S 88 this))))) else (some ((-1) : Int32)))
set_option maxHeartbeats 4000000 in
set_option maxRecDepth 100000 in
theorem cm_X5_objectAt (l : Launch) (F : Nat) (D : va_G) (ct : ClassId × ClassId × ClassId) (G : Gam) (S : Cst) (this : Nat) (x1 : Int32) (hk_this : ty G 5 this) (r : Int32) (hf : cf_X5_objectAt F S this x1 = some r) : cMet l yX5_objectAt cq_X5_objectAt { frames := 0, cells := 0, slots := 0, locals := 0 } D ct G [.ref this, .int x1] S (some (.int r)) (cF D ct G (fun _ => True) S) (0) (0) := by
  refine cMet_of (own := RX5) (cc := cX5_objectAt) (maxL := 3) (ret := (some .int)) (by decide) rfl rfl (Nat.le_of_ble_eq_true rfl) ?_
  intro p e s m below meth c X hr hlk hnm ls A hl hB hA hS
  have hx := X.1.1
  have hb := X.1.2.1
  have hown := X.1.2.2.2.1
  have hts := X.1.2.2.2.2
  have hl : lv_has ls 3 [(0, .ref this), (1, .int x1)] := hl
  generalize hargs : ([.ref this, .int x1] : List Value).toArray = args at X hts hS ⊢
  unfold cf_X5_objectAt at hf
  refine lv_aload_n hx hb dX5_objectAt_0 rfl (lv_at hl 0 rfl) ?_
  refine c_get X hB hk_this rfl rfl kw_X5 8 27 (by decide) kf_X5_27 rfl rfl dX5_objectAt_1 ?_
  refine lv_if_le (tgt := 15) hx hb dX5_objectAt_4 (by decide) (fun hc1 => ?_) (fun hc1 => ?_)
  · have hf := if_t hf hc1
    refine lv_iconst (v := (-1)) hx hb dX5_objectAt_15 (by decide) ?_
    obtain rfl := Option.some.inj hf
    exact W.iret hx hb hr (fun t ht hW => c_endF X hB trivial hS ht hW) hS.2.2 dX5_objectAt_16 hlk
  · have hf := if_f hf hc1
    refine lv_iload_n hx hb dX5_objectAt_7 rfl (lv_at hl 1 rfl) ?_
    refine lv_aload_n hx hb dX5_objectAt_8 rfl (lv_at hl 0 rfl) ?_
    refine c_get X hB hk_this rfl rfl kw_X5 0 9 (by decide) kf_X5_9 rfl rfl dX5_objectAt_9 ?_
    refine lv_icmp_ge (tgt := 17) hx hb dX5_objectAt_12 (by decide) (fun hc2 => ?_) (fun hc2 => ?_)
    · have hf := if_t hf hc2
      refine lv_iload_n hx hb dX5_objectAt_17 rfl (lv_at hl 1 rfl) ?_
      refine lv_aload_n hx hb dX5_objectAt_18 rfl (lv_at hl 0 rfl) ?_
      refine c_get X hB hk_this rfl rfl kw_X5 0 9 (by decide) kf_X5_9 rfl rfl dX5_objectAt_19 ?_
      refine lv_isub hx hb dX5_objectAt_22 ?_
      refine lv_aload_n hx hb dX5_objectAt_23 rfl (lv_at hl 0 rfl) ?_
      refine c_get X hB hk_this rfl rfl kw_X5 8 27 (by decide) kf_X5_27 rfl rfl dX5_objectAt_24 ?_
      obtain ⟨hd4, hf⟩ := dv_s hf
      refine lv_idiv hx hb dX5_objectAt_27 hd4 ?_
      refine lv_istore_n (lv' := [(2, .int ((x1 - (gI S 80 this)) / (gI S 88 this))), (0, .ref this), (1, .int x1)]) hx hb dX5_objectAt_28 rfl hl (by decide) rfl (fun ls hl => ?_)
      refine lv_iload_n hx hb dX5_objectAt_29 rfl (lv_at hl 0 rfl) ?_
      refine lv_aload_n hx hb dX5_objectAt_30 rfl (lv_at hl 1 rfl) ?_
      refine c_get X hB hk_this rfl rfl kw_X5 9 39 (by decide) kf_X5_39 rfl rfl dX5_objectAt_31 ?_
      refine lv_icmp_ge (tgt := 41) hx hb dX5_objectAt_34 (by decide) (fun hc3 => ?_) (fun hc3 => ?_)
      · have hf := if_t hf hc3
        refine lv_iconst (v := (-1)) hx hb dX5_objectAt_41 (by decide) ?_
        obtain rfl := Option.some.inj hf
        exact W.iret hx hb hr (fun t ht hW => c_endF X hB trivial hS ht hW) hS.2.2 dX5_objectAt_42 hlk
      · have hf := if_f hf hc3
        refine lv_iload_n hx hb dX5_objectAt_37 rfl (lv_at hl 0 rfl) ?_
        refine lv_goto (tgt := 42) hx hb dX5_objectAt_38 (by decide) ?_
        obtain rfl := Option.some.inj hf
        exact W.iret hx hb hr (fun t ht hW => c_endF X hB trivial hS ht hW) hS.2.2 dX5_objectAt_42 hlk
    · have hf := if_f hf hc2
      refine lv_iconst (v := (-1)) hx hb dX5_objectAt_15 (by decide) ?_
      obtain rfl := Option.some.inj hf
      exact W.iret hx hb hr (fun t ht hW => c_endF X hB trivial hS ht hW) hS.2.2 dX5_objectAt_16 hlk
