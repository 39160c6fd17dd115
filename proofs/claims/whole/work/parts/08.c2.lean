/-! X0_split -/
def cf_X0_split (F : Nat) (S : Cst) (this : Nat) (x1 : Option Nat) (x2 : Int32) : Option (Option Nat × Cst) := st1 (nx S) fun a1 => st1 (nO S) fun S2 => nn x1 fun b3 => (cf_X5_init F S2 a1 ((gI S2 80 b3) + x2) ((gI S2 81 b3) - x2) (gI S2 84 b3) (gI S2 85 b3)).bind fun S4 => (cf_X0_tick F S4 this).bind fun z5 => st2 z5 fun z5v z5S => st1 (sI z5S 83 a1 z5v) fun S6 => st1 (sI S6 81 b3 x2) fun S7 => (cf_X0_link F S7 this (some a1) (some b3)).bind fun S8 => some ((some a1), S8)
set_option maxHeartbeats 4000000 in
set_option maxRecDepth 100000 in
theorem cm_X0_split (l : Launch) (F : Nat) (D : va_G) (ct : ClassId × ClassId × ClassId) (G : Gam) (S : Cst) (this : Nat) (x1 : Option Nat) (x2 : Int32) (hk_this : ty G 0 this) (hk_x1 : tyo G 5 x1) (r : Option Nat) (S' : Cst) (hf : cf_X0_split F S this x1 x2 = some (r, S')) : cMet l yX0_split cq_X0_split { frames := 2, cells := 1, slots := 12, locals := 64 } D ct G [.ref this, va_rf x1, .int x2] S (some (va_rf r)) (cE D ct G (nx S) (fun G => tyo G 5 r) S') (1) (12) := by
  refine cMet_of (own := RX0) (cc := cX0_split) (maxL := 4) (ret := (some (.object "RangeArenas$Segment"))) (by decide) rfl rfl (by rcases x1 with _ | _ <;> exact (Nat.le_of_ble_eq_true rfl)) ?_
  intro p e s m below meth c X hr hlk hnm ls A hl hB hA hS
  have hx := X.1.1
  have hb := X.1.2.1
  have hown := X.1.2.2.2.1
  have hts := X.1.2.2.2.2
  have hl : lv_has ls 4 [(0, .ref this), (1, va_rf x1), (2, .int x2)] := (by rcases x1 with _ | _ <;> exact hl)
  generalize hargs : ([.ref this, va_rf x1, .int x2] : List Value).toArray = args at X hts hS ⊢
  have hsz := hB.2.2.1
  obtain ⟨G0, eG0⟩ : ∃ z, z = G := ⟨_, rfl⟩
  obtain ⟨S0, eS0⟩ : ∃ z, z = S := ⟨_, rfl⟩
  have hext : ext G0 (nx S0) G := by rw [eG0]; exact ext_rf
  rw [← eS0] at hsz
  suffices hgoal : W p l e { frames := 2, cells := 1, slots := 12, locals := 64 } s m args below meth c s.heap [] 0 0 (MQ below (mq (some (va_rf r)) (cE D ct G0 (nx S0) (fun G => tyo G 5 r) S') A) args s (1) (12) A) (F0 m 0 ls []) by rw [eG0, eS0] at hgoal; exact hgoal
  unfold cf_X0_split at hf
  obtain ⟨a1, ea1, hf⟩ := st1_s hf
  obtain ⟨S2, eS2, hf⟩ := st1_s hf
  have hle : nx S0 ≤ nx S := by rw [← hsz, ← hB.2.2.1]; exact hS.1
  refine c_newG X hB hS hA 5 rfl kw_X5 tyX5 tyX5_ok kcl_X0_69 kit_RX5 kin_RX5 (hd_5 ct S) (hdv_5) (by decide) (by dsimp only; omega) (by dsimp only; omega) dX0_split_0 (fun G H hx1 hk_a1 hB2 hS => ?_)
  have hext := hext.trans hx1 hle
  have hk_this := hx1.1 _ _ hk_this
  have hk_x1 := hx1.o hk_x1
  rw [← ea1] at hk_a1 ⊢
  rw [← eS2] at hB2
  have hB := hB2
  clear hB2
  refine lv_dup hx hb dX0_split_3 rfl ?_
  refine lv_aload_nq hx hb dX0_split_4 rfl (lv_at hl 1 rfl) ?_
  obtain ⟨b3, eb3, hf2⟩ := nn_s hf
  clear hf
  subst eb3
  have hf := hf2
  clear hf2
  have hk_b3 := hk_x1 b3 rfl
  have hl : lv_has ls 4 [(0, .ref this), (1, .ref b3), (2, .int x2)] := hl
  refine c_get X hB hk_b3 rfl rfl kw_X5 0 68 (by decide) kf_X0_68 rfl rfl dX0_split_5 ?_
  refine lv_iload_n hx hb dX0_split_8 rfl (lv_at hl 2 rfl) ?_
  refine lv_iadd hx hb dX0_split_9 ?_
  refine lv_aload_n hx hb dX0_split_10 rfl (lv_at hl 1 rfl) ?_
  refine c_get X hB hk_b3 rfl rfl kw_X5 1 73 (by decide) kf_X0_73 rfl rfl dX0_split_11 ?_
  refine lv_iload_n hx hb dX0_split_14 rfl (lv_at hl 2 rfl) ?_
  refine lv_isub hx hb dX0_split_15 ?_
  refine lv_aload_n hx hb dX0_split_16 rfl (lv_at hl 1 rfl) ?_
  refine c_get X hB hk_b3 rfl rfl kw_X5 4 106 (by decide) kf_X0_106 rfl rfl dX0_split_17 ?_
  refine lv_aload_n hx hb dX0_split_20 rfl (lv_at hl 1 rfl) ?_
  refine c_get X hB hk_b3 rfl rfl kw_X5 5 109 (by decide) kf_X0_109 rfl rfl dX0_split_21 ?_
  obtain ⟨S4, hqS4, hf⟩ := bn_s hf
  refine c_doF hB hS hA (va_runI (As := [.int ((gI S2 80 b3) + x2), .int ((gI S2 81 b3) - x2), .int (gI S2 84 b3), .int (gI S2 85 b3)]) (rest := [.ref a1]) X.1 (cm_X5_init l F D ct _ _ a1 ((gI S2 80 b3) + x2) ((gI S2 81 b3) - x2) (gI S2 84 b3) (gI S2 85 b3) hk_a1 _ hqS4) (cwI 4 hts (gd_w kc_X5_init) rfl rfl rfl (hts _ (kw_m kin_RX5)) (hts _ (kw_m km_X0_79)) (hts _ (kw_m ki_X5_init)) rfl (by decide +kernel) ⟨by dsimp only; omega, by dsimp only; omega⟩) (c_preS X hB) rfl rfl hl.1 rfl (lv_room (Nat.le_of_ble_eq_true rfl)) dX0_split_24 ⟨by dsimp only; omega, by dsimp only; omega⟩) rfl (fun H locs hB hT hS => ?_)
  refine lv_astore_n (lv' := [(3, .ref a1), (0, .ref this), (1, .ref b3), (2, .int x2)]) hx hb dX0_split_27 rfl hl (by decide) rfl (fun ls hl => ?_)
  refine lv_aload_n hx hb dX0_split_28 rfl (lv_at hl 0 rfl) ?_
  refine lv_aload_n hx hb dX0_split_29 rfl (lv_at hl 1 rfl) ?_
  obtain ⟨⟨z5v, z5S⟩, hqz5, hf⟩ := bn_s hf
  have hf := st2_s hf
  refine c_doF hB hS hA (va_runV (As := []) (rest := [.ref a1]) X.1 (cm_X0_tick l F D ct _ _ this hk_this _ _ hqz5) (cwV 0 hts (gd_V km_X0_82 ki_X0_tick ks_X0_tick kin_RX0 kc_X0_tick) rfl rfl rfl (by decide +kernel) ⟨by dsimp only; omega, by dsimp only; omega⟩) (c_preV X hB hk_this rfl rfl) rfl rfl hl.1 rfl (lv_room (Nat.le_of_ble_eq_true rfl)) dX0_split_30 ⟨by dsimp only; omega, by dsimp only; omega⟩) rfl (fun H locs hB hT hS => ?_)
  obtain ⟨S6, eS6, hf⟩ := st1_s hf
  refine c_put X hB hS hk_a1 rfl rfl kw_X5 tyX5 tyX5_ok nmX5 3 86 (by decide) kf_X0_86 rfl (Or.inl rfl) (fty := .int) rfl rfl rfl (Nat.le_of_ble_eq_true rfl) (cp_5_3 _) (fun κ b h => ccell_sI κ b h) rfl hB.2.2.2 dX0_split_33 (fun H locs hB hS => ?_)
  rw [← eS6] at hB
  refine lv_aload_n hx hb dX0_split_36 rfl (lv_at hl 2 rfl) ?_
  refine lv_iload_n hx hb dX0_split_37 rfl (lv_at hl 3 rfl) ?_
  obtain ⟨S7, eS7, hf⟩ := st1_s hf
  refine c_put X hB hS hk_b3 rfl rfl kw_X5 tyX5 tyX5_ok nmX5 1 73 (by decide) kf_X0_73 rfl (Or.inl rfl) (fty := .int) rfl rfl rfl (Nat.le_of_ble_eq_true rfl) (cp_5_1 _) (fun κ b h => ccell_sI κ b h) rfl hB.2.2.2 dX0_split_38 (fun H locs hB hS => ?_)
  rw [← eS7] at hB
  refine lv_aload_n hx hb dX0_split_41 rfl (lv_at hl 1 rfl) ?_
  refine lv_aload_n hx hb dX0_split_42 rfl (lv_at hl 0 rfl) ?_
  refine lv_aload_n hx hb dX0_split_43 rfl (lv_at hl 2 rfl) ?_
  obtain ⟨S8, hqS8, hf⟩ := bn_s hf
  refine c_doF hB hS hA (va_runV (As := [va_rf (some a1), va_rf (some b3)]) (rest := []) X.1 (cm_X0_link l F D ct _ _ this (some a1) (some b3) hk_this (tyo_some hk_a1) (tyo_some hk_b3) _ hqS8) (cwV 2 hts (gd_V km_X0_89 ki_X0_link ks_X0_link kin_RX0 kc_X0_link) rfl rfl rfl (by decide +kernel) ⟨by dsimp only; omega, by dsimp only; omega⟩) (c_preV X hB hk_this rfl rfl) rfl rfl hl.1 rfl (lv_room (Nat.le_of_ble_eq_true rfl)) dX0_split_44 ⟨by dsimp only; omega, by dsimp only; omega⟩) rfl (fun H locs hB hT hS => ?_)
  refine lv_aload_n hx hb dX0_split_47 rfl (lv_at hl 0 rfl) ?_
  have hT := (tyo_some hk_a1)
  obtain ⟨rfl, rfl⟩ := Prod.mk.inj (Option.some.inj hf)
  refine W.widen (k := 1) (n := 12) (by omega) (by omega) ?_
  exact W.aret hx hb hr (Or.inl ⟨_, rfl⟩) (Or.inr ⟨_, rfl⟩) (fun t ht hW => c_endE X hext hB hT hS ht hW) hS.2.2 dX0_split_48 hlk
/-! X0_occupy -/
def cf_X0_occupy (F : Nat) (S : Cst) (this : Nat) (x1 : Option Nat) (x2 : Int32) (x3 : Int32) : Option Cst := nn x1 fun b1 => if (gI S 81 b1) ≤ x2 then (st1 (sI S 82 b1 x3) fun S3 => some S3) else ((cf_X0_split F S this (some b1) x2).bind fun z4 => st2 z4 fun z4v z4S => st1 (sI z4S 82 b1 x3) fun S5 => some S5)
set_option maxHeartbeats 4000000 in
set_option maxRecDepth 100000 in
theorem cm_X0_occupy (l : Launch) (F : Nat) (D : va_G) (ct : ClassId × ClassId × ClassId) (G : Gam) (S : Cst) (this : Nat) (x1 : Option Nat) (x2 : Int32) (x3 : Int32) (hk_this : ty G 0 this) (hk_x1 : tyo G 5 x1) (S' : Cst) (hf : cf_X0_occupy F S this x1 x2 x3 = some S') : cMet l yX0_occupy cq_X0_occupy { frames := 3, cells := 1, slots := 12, locals := 87 } D ct G [.ref this, va_rf x1, .int x2, .int x3] S none (cE D ct G (nx S) (fun _ => True) S') (1) (12) := by
  refine cMet_of (own := RX0) (cc := cX0_occupy) (maxL := 4) (ret := none) (by decide) rfl rfl (by rcases x1 with _ | _ <;> exact (Nat.le_of_ble_eq_true rfl)) ?_
  intro p e s m below meth c X hr hlk hnm ls A hl hB hA hS
  have hx := X.1.1
  have hb := X.1.2.1
  have hown := X.1.2.2.2.1
  have hts := X.1.2.2.2.2
  have hl : lv_has ls 4 [(0, .ref this), (1, va_rf x1), (2, .int x2), (3, .int x3)] := (by rcases x1 with _ | _ <;> exact hl)
  generalize hargs : ([.ref this, va_rf x1, .int x2, .int x3] : List Value).toArray = args at X hts hS ⊢
  have hsz := hB.2.2.1
  obtain ⟨G0, eG0⟩ : ∃ z, z = G := ⟨_, rfl⟩
  obtain ⟨S0, eS0⟩ : ∃ z, z = S := ⟨_, rfl⟩
  have hext : ext G0 (nx S0) G := by rw [eG0]; exact ext_rf
  rw [← eS0] at hsz
  suffices hgoal : W p l e { frames := 3, cells := 1, slots := 12, locals := 87 } s m args below meth c s.heap [] 0 0 (MQ below (mq none (cE D ct G0 (nx S0) (fun _ => True) S') A) args s (1) (12) A) (F0 m 0 ls []) by rw [eG0, eS0] at hgoal; exact hgoal
  unfold cf_X0_occupy at hf
  refine lv_aload_nq hx hb dX0_occupy_0 rfl (lv_at hl 1 rfl) ?_
  obtain ⟨b1, eb1, hf2⟩ := nn_s hf
  clear hf
  subst eb1
  have hf := hf2
  clear hf2
  have hk_b1 := hk_x1 b1 rfl
  have hl : lv_has ls 4 [(0, .ref this), (1, .ref b1), (2, .int x2), (3, .int x3)] := hl
  refine c_get X hB hk_b1 rfl rfl kw_X5 1 73 (by decide) kf_X0_73 rfl rfl dX0_occupy_1 ?_
  refine lv_iload_n hx hb dX0_occupy_4 rfl (lv_at hl 2 rfl) ?_
  refine lv_icmp_le (tgt := 15) hx hb dX0_occupy_5 (by decide) (fun hc2 => ?_) (fun hc2 => ?_)
  · have hf := if_t hf hc2
    refine lv_aload_n hx hb dX0_occupy_15 rfl (lv_at hl 1 rfl) ?_
    refine lv_iload_n hx hb dX0_occupy_16 rfl (lv_at hl 3 rfl) ?_
    obtain ⟨S3, eS3, hf⟩ := st1_s hf
    refine c_put X hB hS hk_b1 rfl rfl kw_X5 tyX5 tyX5_ok nmX5 2 116 (by decide) kf_X0_116 rfl (Or.inl rfl) (fty := .int) rfl rfl rfl (Nat.le_of_ble_eq_true rfl) (cp_5_2 _) (fun κ b h => ccell_sI κ b h) rfl hB.2.2.2 dX0_occupy_17 (fun H locs hB hS => ?_)
    rw [← eS3] at hB
    obtain rfl := Option.some.inj hf
    refine W.widen (k := 1) (n := 12) (by omega) (by omega) ?_
    exact W.vret hx hb hr (fun t ht hW => c_endE X hext hB trivial hS ht hW) hS.2.2 dX0_occupy_20 hlk
  · have hf := if_f hf hc2
    refine lv_aload_n hx hb dX0_occupy_8 rfl (lv_at hl 0 rfl) ?_
    refine lv_aload_n hx hb dX0_occupy_9 rfl (lv_at hl 1 rfl) ?_
    refine lv_iload_n hx hb dX0_occupy_10 rfl (lv_at hl 2 rfl) ?_
    obtain ⟨⟨z4v, z4S⟩, hqz4, hf⟩ := bn_s hf
    have hf := st2_s hf
    have hle : nx S0 ≤ nx S := by rw [← hsz, ← hB.2.2.1]; exact hS.1
    refine c_doE hB hS hA (va_runV (As := [va_rf (some b1), .int x2]) (rest := []) X.1 (cm_X0_split l F D ct _ _ this (some b1) x2 hk_this (tyo_some hk_b1) _ _ hqz4) (cwV 2 hts (gd_V km_X0_112 ki_X0_split ks_X0_split kin_RX0 kc_X0_split) rfl rfl rfl (by decide +kernel) ⟨by dsimp only; omega, by dsimp only; omega⟩) (c_preV X hB hk_this rfl rfl) rfl rfl hl.1 rfl (lv_room (Nat.le_of_ble_eq_true rfl)) dX0_occupy_11 ⟨by dsimp only; omega, by dsimp only; omega⟩) rfl (fun G H locs hx1 hB2 hT hS => ?_)
    have hext := hext.trans hx1 hle
    have hk_this := hx1.1 _ _ hk_this
    have hk_b1 := hx1.1 _ _ hk_b1
    have hB := hB2
    clear hB2
    have hk_z4v := hT
    refine W.widen (k := 1) (n := 12) (by omega) (by omega) ?_
    refine lv_pop hx hb dX0_occupy_14 (cat_rf _) ?_
    refine lv_aload_n hx hb dX0_occupy_15 rfl (lv_at hl 1 rfl) ?_
    refine lv_iload_n hx hb dX0_occupy_16 rfl (lv_at hl 3 rfl) ?_
    obtain ⟨S5, eS5, hf⟩ := st1_s hf
    refine c_put X hB hS hk_b1 rfl rfl kw_X5 tyX5 tyX5_ok nmX5 2 116 (by decide) kf_X0_116 rfl (Or.inl rfl) (fty := .int) rfl rfl rfl (Nat.le_of_ble_eq_true rfl) (cp_5_2 _) (fun κ b h => ccell_sI κ b h) rfl hB.2.2.2 dX0_occupy_17 (fun H locs hB hS => ?_)
    rw [← eS5] at hB
    obtain rfl := Option.some.inj hf
    refine W.widen (k := 1) (n := 12) (by omega) (by omega) ?_
    exact W.vret hx hb hr (fun t ht hW => c_endE X hext hB trivial hS ht hW) hS.2.2 dX0_occupy_20 hlk
/-! X0_carve -/
def cf_X0_carve (F : Nat) (S : Cst) (this : Nat) (x1 : Option Nat) (x2 : Int32) (x3 : Int32) : Option (Option Nat × Cst) := nn x1 fun b1 => if x2 ≤ (gI S 80 b1) then ((cf_X0_occupy F S this (some b1) x3 (4 : Int32)).bind fun S3 => some ((some b1), S3)) else ((cf_X0_split F S this (some b1) (x2 - (gI S 80 b1))).bind fun z4 => st2 z4 fun z4v z4S => (cf_X0_tick F z4S this).bind fun z5 => st2 z5 fun z5v z5S => st1 (sI z5S 83 b1 z5v) fun S6 => (cf_X0_occupy F S6 this z4v x3 (4 : Int32)).bind fun S7 => some (z4v, S7))
set_option maxHeartbeats 4000000 in
set_option maxRecDepth 100000 in
theorem cm_X0_carve (l : Launch) (F : Nat) (D : va_G) (ct : ClassId × ClassId × ClassId) (G : Gam) (S : Cst) (this : Nat) (x1 : Option Nat) (x2 : Int32) (x3 : Int32) (hk_this : ty G 0 this) (hk_x1 : tyo G 5 x1) (r : Option Nat) (S' : Cst) (hf : cf_X0_carve F S this x1 x2 x3 = some (r, S')) : cMet l yX0_carve cq_X0_carve { frames := 4, cells := 2, slots := 24, locals := 110 } D ct G [.ref this, va_rf x1, .int x2, .int x3] S (some (va_rf r)) (cE D ct G (nx S) (fun G => tyo G 5 r) S') (2) (24) := by
  refine cMet_of (own := RX0) (cc := cX0_carve) (maxL := 5) (ret := (some (.object "RangeArenas$Segment"))) (by decide) rfl rfl (by rcases x1 with _ | _ <;> exact (Nat.le_of_ble_eq_true rfl)) ?_
  intro p e s m below meth c X hr hlk hnm ls A hl hB hA hS
  have hx := X.1.1
  have hb := X.1.2.1
  have hown := X.1.2.2.2.1
  have hts := X.1.2.2.2.2
  have hl : lv_has ls 5 [(0, .ref this), (1, va_rf x1), (2, .int x2), (3, .int x3)] := (by rcases x1 with _ | _ <;> exact hl)
  generalize hargs : ([.ref this, va_rf x1, .int x2, .int x3] : List Value).toArray = args at X hts hS ⊢
  have hsz := hB.2.2.1
  obtain ⟨G0, eG0⟩ : ∃ z, z = G := ⟨_, rfl⟩
  obtain ⟨S0, eS0⟩ : ∃ z, z = S := ⟨_, rfl⟩
  have hext : ext G0 (nx S0) G := by rw [eG0]; exact ext_rf
  rw [← eS0] at hsz
  suffices hgoal : W p l e { frames := 4, cells := 2, slots := 24, locals := 110 } s m args below meth c s.heap [] 0 0 (MQ below (mq (some (va_rf r)) (cE D ct G0 (nx S0) (fun G => tyo G 5 r) S') A) args s (2) (24) A) (F0 m 0 ls []) by rw [eG0, eS0] at hgoal; exact hgoal
  unfold cf_X0_carve at hf
  refine lv_aload_nq hx hb dX0_carve_0 rfl (lv_at hl 1 rfl) ?_
  refine lv_astoreq (lv' := [(4, va_rf x1), (0, .ref this), (1, va_rf x1), (2, .int x2), (3, .int x3)]) hx hb dX0_carve_1 hl (by decide) rfl (fun ls hl => ?_)
  refine lv_iload_n hx hb dX0_carve_3 rfl (lv_at hl 3 rfl) ?_
  refine lv_aload_nq hx hb dX0_carve_4 rfl (lv_at hl 2 rfl) ?_
  obtain ⟨b1, eb1, hf2⟩ := nn_s hf
  clear hf
  subst eb1
  have hf := hf2
  clear hf2
  have hk_b1 := hk_x1 b1 rfl
  have hl : lv_has ls 5 [(4, .ref b1), (0, .ref this), (1, .ref b1), (2, .int x2), (3, .int x3)] := hl
  refine c_get X hB hk_b1 rfl rfl kw_X5 0 68 (by decide) kf_X0_68 rfl rfl dX0_carve_5 ?_
  refine lv_icmp_le (tgt := 32) hx hb dX0_carve_8 (by decide) (fun hc2 => ?_) (fun hc2 => ?_)
  · have hf := if_t hf hc2
    refine lv_aload_n hx hb dX0_carve_32 rfl (lv_at hl 1 rfl) ?_
    refine lv_aload hx hb dX0_carve_33 (lv_at hl 0 rfl) ?_
    refine lv_iload_n hx hb dX0_carve_35 rfl (lv_at hl 4 rfl) ?_
    refine lv_iconst (v := 4) hx hb dX0_carve_36 (by decide) ?_
    obtain ⟨S3, hqS3, hf⟩ := bn_s hf
    have hle : nx S0 ≤ nx S := by rw [← hsz, ← hB.2.2.1]; exact hS.1
    refine c_doE hB hS hA (va_runV (As := [va_rf (some b1), .int x3, .int 4]) (rest := []) X.1 (cm_X0_occupy l F D ct _ _ this (some b1) x3 (4 : Int32) hk_this (tyo_some hk_b1) _ hqS3) (cwV 3 hts (gd_V km_X0_119 ki_X0_occupy ks_X0_occupy kin_RX0 kc_X0_occupy) rfl rfl rfl (by decide +kernel) ⟨by dsimp only; omega, by dsimp only; omega⟩) (c_preV X hB hk_this rfl rfl) rfl rfl hl.1 rfl (lv_room (Nat.le_of_ble_eq_true rfl)) dX0_carve_37 ⟨by dsimp only; omega, by dsimp only; omega⟩) rfl (fun G H locs hx1 hB2 hT hS => ?_)
    have hext := hext.trans hx1 hle
    have hk_b1 := hx1.1 _ _ hk_b1
    have hk_this := hx1.1 _ _ hk_this
    have hB := hB2
    clear hB2
    refine W.widen (k := 1) (n := 12) (by omega) (by omega) ?_
    refine lv_aload hx hb dX0_carve_40 (lv_at hl 0 rfl) ?_
    have hT := (tyo_some hk_b1)
    obtain ⟨rfl, rfl⟩ := Prod.mk.inj (Option.some.inj hf)
    refine W.widen (k := 2) (n := 24) (by omega) (by omega) ?_
    exact W.aret hx hb hr (Or.inl ⟨_, rfl⟩) (Or.inr ⟨_, rfl⟩) (fun t ht hW => c_endE X hext hB hT hS ht hW) hS.2.2 dX0_carve_42 hlk
  · have hf := if_f hf hc2
    refine lv_aload_n hx hb dX0_carve_11 rfl (lv_at hl 1 rfl) ?_
    refine lv_aload_n hx hb dX0_carve_12 rfl (lv_at hl 2 rfl) ?_
    refine lv_iload_n hx hb dX0_carve_13 rfl (lv_at hl 3 rfl) ?_
    refine lv_aload_n hx hb dX0_carve_14 rfl (lv_at hl 2 rfl) ?_
    refine c_get X hB hk_b1 rfl rfl kw_X5 0 68 (by decide) kf_X0_68 rfl rfl dX0_carve_15 ?_
    refine lv_isub hx hb dX0_carve_18 ?_
    obtain ⟨⟨z4v, z4S⟩, hqz4, hf⟩ := bn_s hf
    have hf := st2_s hf
    have hle : nx S0 ≤ nx S := by rw [← hsz, ← hB.2.2.1]; exact hS.1
    refine c_doE hB hS hA (va_runV (As := [va_rf (some b1), .int (x2 - (gI S 80 b1))]) (rest := []) X.1 (cm_X0_split l F D ct _ _ this (some b1) (x2 - (gI S 80 b1)) hk_this (tyo_some hk_b1) _ _ hqz4) (cwV 2 hts (gd_V km_X0_112 ki_X0_split ks_X0_split kin_RX0 kc_X0_split) rfl rfl rfl (by decide +kernel) ⟨by dsimp only; omega, by dsimp only; omega⟩) (c_preV X hB hk_this rfl rfl) rfl rfl hl.1 rfl (lv_room (Nat.le_of_ble_eq_true rfl)) dX0_carve_19 ⟨by dsimp only; omega, by dsimp only; omega⟩) rfl (fun G H locs hx1 hB2 hT hS => ?_)
    have hext := hext.trans hx1 hle
    have hk_b1 := hx1.1 _ _ hk_b1
    have hk_this := hx1.1 _ _ hk_this
    have hB := hB2
    clear hB2
    have hk_z4v := hT
    refine W.widen (k := 1) (n := 12) (by omega) (by omega) ?_
    refine lv_astoreq (lv' := [(4, va_rf z4v), (0, .ref this), (1, .ref b1), (2, .int x2), (3, .int x3)]) hx hb dX0_carve_22 hl (by decide) rfl (fun ls hl => ?_)
    refine lv_aload_n hx hb dX0_carve_24 rfl (lv_at hl 2 rfl) ?_
    refine lv_aload_n hx hb dX0_carve_25 rfl (lv_at hl 1 rfl) ?_
    obtain ⟨⟨z5v, z5S⟩, hqz5, hf⟩ := bn_s hf
    have hf := st2_s hf
    refine c_doF hB hS hA (va_runV (As := []) (rest := [.ref b1]) X.1 (cm_X0_tick l F D ct _ _ this hk_this _ _ hqz5) (cwV 0 hts (gd_V km_X0_82 ki_X0_tick ks_X0_tick kin_RX0 kc_X0_tick) rfl rfl rfl (by decide +kernel) ⟨by dsimp only; omega, by dsimp only; omega⟩) (c_preV X hB hk_this rfl rfl) rfl rfl hl.1 rfl (lv_room (Nat.le_of_ble_eq_true rfl)) dX0_carve_26 ⟨by dsimp only; omega, by dsimp only; omega⟩) rfl (fun H locs hB hT hS => ?_)
    obtain ⟨S6, eS6, hf⟩ := st1_s hf
    refine c_put X hB hS hk_b1 rfl rfl kw_X5 tyX5 tyX5_ok nmX5 3 86 (by decide) kf_X0_86 rfl (Or.inl rfl) (fty := .int) rfl rfl rfl (Nat.le_of_ble_eq_true rfl) (cp_5_3 _) (fun κ b h => ccell_sI κ b h) rfl hB.2.2.2 dX0_carve_29 (fun H locs hB hS => ?_)
    rw [← eS6] at hB
    refine lv_aload_n hx hb dX0_carve_32 rfl (lv_at hl 1 rfl) ?_
    refine lv_aloadq hx hb dX0_carve_33 (lv_at hl 0 rfl) ?_
    refine lv_iload_n hx hb dX0_carve_35 rfl (lv_at hl 4 rfl) ?_
    refine lv_iconst (v := 4) hx hb dX0_carve_36 (by decide) ?_
    obtain ⟨S7, hqS7, hf⟩ := bn_s hf
    have hle : nx S0 ≤ nx S6 := by rw [← hsz, ← hB.2.2.1]; exact hS.1
    refine c_doE hB hS hA (va_runV (As := [va_rf z4v, .int x3, .int 4]) (rest := []) X.1 (cm_X0_occupy l F D ct _ _ this z4v x3 (4 : Int32) hk_this hk_z4v _ hqS7) (cwV 3 hts (gd_V km_X0_119 ki_X0_occupy ks_X0_occupy kin_RX0 kc_X0_occupy) rfl rfl rfl (by decide +kernel) ⟨by dsimp only; omega, by dsimp only; omega⟩) (c_preV X hB hk_this rfl rfl) rfl rfl hl.1 rfl (lv_room (Nat.le_of_ble_eq_true rfl)) dX0_carve_37 ⟨by dsimp only; omega, by dsimp only; omega⟩) rfl (fun G H locs hx1 hB2 hT hS => ?_)
    have hext := hext.trans hx1 hle
    have hk_z4v := hx1.o hk_z4v
    have hk_this := hx1.1 _ _ hk_this
    have hk_b1 := hx1.1 _ _ hk_b1
    have hB := hB2
    clear hB2
    refine W.widen (k := 2) (n := 24) (by omega) (by omega) ?_
    refine lv_aloadq hx hb dX0_carve_40 (lv_at hl 0 rfl) ?_
    have hT := hk_z4v
    obtain ⟨rfl, rfl⟩ := Prod.mk.inj (Option.some.inj hf)
    refine W.widen (k := 2) (n := 24) (by omega) (by omega) ?_
    exact W.aret hx hb hr (Or.inl ⟨_, rfl⟩) (va_rf_or _) (fun t ht hW => c_endE X hext hB hT hS ht hW) hS.2.2 dX0_carve_42 hlk
/-! X5_isFreeIn -/
def cf_X5_isFreeIn (F : Nat) (S : Cst) (this : Nat) (x1 : Int32) : Option Int32 := if (gI S 82 this) = 0 then (if (gI S 84 this) = x1 then (some (1 : Int32)) else (some (0 : Int32))) else (some (0 : Int32))
set_option maxHeartbeats 4000000 in
set_option maxRecDepth 100000 in
theorem cm_X5_isFreeIn (l : Launch) (F : Nat) (D : va_G) (ct : ClassId × ClassId × ClassId) (G : Gam) (S : Cst) (this : Nat) (x1 : Int32) (hk_this : ty G 5 this) (r : Int32) (hf : cf_X5_isFreeIn F S this x1 = some r) : cMet l yX5_isFreeIn cq_X5_isFreeIn { frames := 0, cells := 0, slots := 0, locals := 0 } D ct G [.ref this, .int x1] S (some (.int r)) (cF D ct G (fun _ => True) S) (0) (0) := by
  refine cMet_of (own := RX5) (cc := cX5_isFreeIn) (maxL := 2) (ret := (some .boolean)) (by decide) rfl rfl (Nat.le_of_ble_eq_true rfl) ?_
  intro p e s m below meth c X hr hlk hnm ls A hl hB hA hS
  have hx := X.1.1
  have hb := X.1.2.1
  have hown := X.1.2.2.2.1
  have hts := X.1.2.2.2.2
  have hl : lv_has ls 2 [(0, .ref this), (1, .int x1)] := hl
  generalize hargs : ([.ref this, .int x1] : List Value).toArray = args at X hts hS ⊢
  unfold cf_X5_isFreeIn at hf
  refine lv_aload_n hx hb dX5_isFreeIn_0 rfl (lv_at hl 0 rfl) ?_
  refine c_get X hB hk_this rfl rfl kw_X5 2 24 (by decide) kf_X5_24 rfl rfl dX5_isFreeIn_1 ?_
  refine lv_if_ne (tgt := 19) hx hb dX5_isFreeIn_4 (by decide) (fun hc1 => ?_) (fun hc1 => ?_)
  · have hf := if_f hf hc1
    refine lv_iconst (v := 0) hx hb dX5_isFreeIn_19 (by decide) ?_
    obtain rfl := Option.some.inj hf
    exact W.zret hx hb hr rfl (fun t ht hW => c_endF X hB trivial hS ht hW) hS.2.2 dX5_isFreeIn_20 hlk
  · have hf := if_t hf hc1
    refine lv_aload_n hx hb dX5_isFreeIn_7 rfl (lv_at hl 0 rfl) ?_
    refine c_get X hB hk_this rfl rfl kw_X5 4 18 (by decide) kf_X5_18 rfl rfl dX5_isFreeIn_8 ?_
    refine lv_iload_n hx hb dX5_isFreeIn_11 rfl (lv_at hl 1 rfl) ?_
    refine lv_icmp_ne (tgt := 19) hx hb dX5_isFreeIn_12 (by decide) (fun hc2 => ?_) (fun hc2 => ?_)
    · have hf := if_f hf hc2
      refine lv_iconst (v := 0) hx hb dX5_isFreeIn_19 (by decide) ?_
      obtain rfl := Option.some.inj hf
      exact W.zret hx hb hr rfl (fun t ht hW => c_endF X hB trivial hS ht hW) hS.2.2 dX5_isFreeIn_20 hlk
    · have hf := if_t hf hc2
      refine lv_iconst (v := 1) hx hb dX5_isFreeIn_15 (by decide) ?_
      refine lv_goto (tgt := 20) hx hb dX5_isFreeIn_16 (by decide) ?_
      obtain rfl := Option.some.inj hf
      exact W.zret hx hb hr rfl (fun t ht hW => c_endF X hB trivial hS ht hW) hS.2.2 dX5_isFreeIn_20 hlk
/-! X0_free -/
def cf_X0_free_43 (F : Nat) (this : Nat) (S : Cst) (x1 : Option Nat) : Option Cst := nn x1 fun b5 => st1 (gP S 86 b5) fun q6 => nc q6 ((cf_X0_tick F S this).bind fun z8 => st2 z8 fun z8v z8S => st1 (sI z8S 83 b5 z8v) fun S9 => some S9) (fun b7 => (cf_X5_isFreeIn F S b7 (gI S 84 b5)).bind fun v10 => if v10 = 0 then ((cf_X0_tick F S this).bind fun z12 => st2 z12 fun z12v z12S => st1 (sI z12S 83 b5 z12v) fun S13 => some S13) else (st1 (sI S 80 b5 (gI S 80 b7)) fun S14 => st1 (sI S14 81 b5 ((gI S14 81 b5) + (gI S14 81 b7))) fun S15 => (cf_X0_unlink F S15 this (some b7)).bind fun S16 => (cf_X0_tick F S16 this).bind fun z17 => st2 z17 fun z17v z17S => st1 (sI z17S 83 b5 z17v) fun S18 => some S18))
def cf_X0_free (F : Nat) (S : Cst) (this : Nat) (x1 : Option Nat) : Option Cst := nn x1 fun b1 => st1 (sI S 82 b1 (0 : Int32)) fun S2 => st1 (gP S2 87 b1) fun q3 => nc q3 (cf_X0_free_43 F this S2 (some b1)) (fun b4 => (cf_X5_isFreeIn F S2 b4 (gI S2 84 b1)).bind fun v19 => if v19 = 0 then (cf_X0_free_43 F this S2 (some b1)) else (st1 (sI S2 81 b1 ((gI S2 81 b1) + (gI S2 81 b4))) fun S21 => (cf_X0_unlink F S21 this (some b4)).bind fun S22 => cf_X0_free_43 F this S22 (some b1)))
set_option maxHeartbeats 4000000 in
set_option maxRecDepth 100000 in
theorem cm_X0_free (l : Launch) (F : Nat) (D : va_G) (ct : ClassId × ClassId × ClassId) (G : Gam) (S : Cst) (this : Nat) (x1 : Option Nat) (hk_this : ty G 0 this) (hk_x1 : tyo G 5 x1) (S' : Cst) (hf : cf_X0_free F S this x1 = some S') : cMet l yX0_free cq_X0_free { frames := 1, cells := 0, slots := 0, locals := 23 } D ct G [.ref this, va_rf x1] S none (cF D ct G (fun _ => True) S') (0) (0) := by
  refine cMet_of (own := RX0) (cc := cX0_free) (maxL := 4) (ret := none) (by decide) rfl rfl (by rcases x1 with _ | _ <;> exact (Nat.le_of_ble_eq_true rfl)) ?_
  intro p e s m below meth c X hr hlk hnm ls A hl hB hA hS
  have hx := X.1.1
  have hb := X.1.2.1
  have hown := X.1.2.2.2.1
  have hts := X.1.2.2.2.2
  have hl : lv_has ls 4 [(0, .ref this), (1, va_rf x1)] := (by rcases x1 with _ | _ <;> exact hl)
  generalize hargs : ([.ref this, va_rf x1] : List Value).toArray = args at X hts hS ⊢
  have J_43 : ∀ (S : Cst) (x1 : Option Nat), cf_X0_free_43 F this S x1 = some S' → ∀ (H : Heap) (locs : List Loc) (ls : Array Slot), tyo G 5 x1 → cB D ct G A S H → va_S A s.heap H locs → lv_has ls 4 [(0, .ref this), (1, va_rf x1)] → W p l e { frames := 1, cells := 0, slots := 0, locals := 23 } s m args below meth c H locs (0) (0) (MQ below (mq none (cF D ct G (fun _ => True) S') A) args s (0) (0) A) (F0 m 43 ls []) := by
    intro S x1 hf H locs ls hk_x1 hB hS hl
    unfold cf_X0_free_43 at hf
    refine lv_aload_nq hx hb dX0_free_43 rfl (lv_at hl 1 rfl) ?_
    obtain ⟨b5, eb5, hf2⟩ := nn_s hf
    clear hf
    subst eb5
    have hf := hf2
    clear hf2
    have hk_b5 := hk_x1 b5 rfl
    have hl : lv_has ls 4 [(0, .ref this), (1, .ref b5)] := hl
    refine c_get X hB hk_b5 rfl rfl kw_X5 6 100 (by decide) kf_X0_100 rfl rfl dX0_free_44 ?_
    obtain ⟨q6, eq6, hf⟩ := st1_s hf
    rw [← eq6]
    have hk_q6 : tyo G 5 q6 := by rw [eq6]; exact hB.2.2.2.1 (5, 86, 5) (by decide) _ hk_b5
    refine lv_astore_nq (lv' := [(3, va_rf q6), (0, .ref this), (1, .ref b5)]) hx hb dX0_free_47 rfl hl (by decide) rfl (fun ls hl => ?_)
    refine lv_aload_nq hx hb dX0_free_48 rfl (lv_at hl 0 rfl) ?_
    rcases q6 with _ | b7
    · have hf := nc_n hf
      have hl : lv_has ls 4 [(3, .null), (0, .ref this), (1, .ref b5)] := hl
      refine lv_ifnullN (tgt := 89) hx hb dX0_free_49 (by decide) ?_
      refine lv_aload_n hx hb dX0_free_89 rfl (lv_at hl 2 rfl) ?_
      refine lv_aload_n hx hb dX0_free_90 rfl (lv_at hl 1 rfl) ?_
      obtain ⟨⟨z8v, z8S⟩, hqz8, hf⟩ := bn_s hf
      have hf := st2_s hf
      refine c_doF hB hS hA (va_runV (As := []) (rest := [.ref b5]) X.1 (cm_X0_tick l F D ct _ _ this hk_this _ _ hqz8) (cwV 0 hts (gd_V km_X0_82 ki_X0_tick ks_X0_tick kin_RX0 kc_X0_tick) rfl rfl rfl (by decide +kernel) ⟨by dsimp only; omega, by dsimp only; omega⟩) (c_preV X hB hk_this rfl rfl) rfl rfl hl.1 rfl (lv_room (Nat.le_of_ble_eq_true rfl)) dX0_free_91 ⟨by dsimp only; omega, by dsimp only; omega⟩) rfl (fun H locs hB hT hS => ?_)
      obtain ⟨S9, eS9, hf⟩ := st1_s hf
      refine c_put X hB hS hk_b5 rfl rfl kw_X5 tyX5 tyX5_ok nmX5 3 86 (by decide) kf_X0_86 rfl (Or.inl rfl) (fty := .int) rfl rfl rfl (Nat.le_of_ble_eq_true rfl) (cp_5_3 _) (fun κ b h => ccell_sI κ b h) rfl hB.2.2.2 dX0_free_94 (fun H locs hB hS => ?_)
      rw [← eS9] at hB
      obtain rfl := Option.some.inj hf
      exact W.vret hx hb hr (fun t ht hW => c_endF X hB trivial hS ht hW) hS.2.2 dX0_free_97 hlk
    · have hf := nc_b hf
      have hk_b7 := hk_q6 b7 rfl
      have hl : lv_has ls 4 [(3, .ref b7), (0, .ref this), (1, .ref b5)] := hl
      refine lv_ifnull hx hb dX0_free_49 ?_
      refine lv_aload_n hx hb dX0_free_52 rfl (lv_at hl 0 rfl) ?_
      refine lv_aload_n hx hb dX0_free_53 rfl (lv_at hl 2 rfl) ?_
      refine c_get X hB hk_b5 rfl rfl kw_X5 4 106 (by decide) kf_X0_106 rfl rfl dX0_free_54 ?_
      obtain ⟨v10, hqv10, hf⟩ := bn_s hf
      refine c_doF hB hS hA (va_runV (As := [.int (gI S 84 b5)]) (rest := []) X.1 (cm_X5_isFreeIn l F D ct _ _ b7 (gI S 84 b5) hk_b7 _ hqv10) (cwV 1 hts (gd_V km_X0_123 ki_X5_isFreeIn ks_X5_isFreeIn kin_RX5 kc_X5_isFreeIn) rfl rfl rfl (by decide +kernel) ⟨by dsimp only; omega, by dsimp only; omega⟩) (c_preV X hB hk_b7 rfl rfl) rfl rfl hl.1 rfl (lv_room (Nat.le_of_ble_eq_true rfl)) dX0_free_57 ⟨by dsimp only; omega, by dsimp only; omega⟩) rfl (fun H locs hB hT hS => ?_)
      refine lv_if_eq (tgt := 89) hx hb dX0_free_60 (by decide) (fun hc11 => ?_) (fun hc11 => ?_)
      · have hf := if_t hf hc11
        refine lv_aload_n hx hb dX0_free_89 rfl (lv_at hl 2 rfl) ?_
        refine lv_aload_n hx hb dX0_free_90 rfl (lv_at hl 1 rfl) ?_
        obtain ⟨⟨z12v, z12S⟩, hqz12, hf⟩ := bn_s hf
        have hf := st2_s hf
        refine c_doF hB hS hA (va_runV (As := []) (rest := [.ref b5]) X.1 (cm_X0_tick l F D ct _ _ this hk_this _ _ hqz12) (cwV 0 hts (gd_V km_X0_82 ki_X0_tick ks_X0_tick kin_RX0 kc_X0_tick) rfl rfl rfl (by decide +kernel) ⟨by dsimp only; omega, by dsimp only; omega⟩) (c_preV X hB hk_this rfl rfl) rfl rfl hl.1 rfl (lv_room (Nat.le_of_ble_eq_true rfl)) dX0_free_91 ⟨by dsimp only; omega, by dsimp only; omega⟩) rfl (fun H locs hB hT hS => ?_)
        obtain ⟨S13, eS13, hf⟩ := st1_s hf
        refine c_put X hB hS hk_b5 rfl rfl kw_X5 tyX5 tyX5_ok nmX5 3 86 (by decide) kf_X0_86 rfl (Or.inl rfl) (fty := .int) rfl rfl rfl (Nat.le_of_ble_eq_true rfl) (cp_5_3 _) (fun κ b h => ccell_sI κ b h) rfl hB.2.2.2 dX0_free_94 (fun H locs hB hS => ?_)
        rw [← eS13] at hB
        obtain rfl := Option.some.inj hf
        exact W.vret hx hb hr (fun t ht hW => c_endF X hB trivial hS ht hW) hS.2.2 dX0_free_97 hlk
      · have hf := if_f hf hc11
        refine lv_aload_n hx hb dX0_free_63 rfl (lv_at hl 2 rfl) ?_
        refine lv_aload_n hx hb dX0_free_64 rfl (lv_at hl 0 rfl) ?_
        refine c_get X hB hk_b7 rfl rfl kw_X5 0 68 (by decide) kf_X0_68 rfl rfl dX0_free_65 ?_
        obtain ⟨S14, eS14, hf⟩ := st1_s hf
        refine c_put X hB hS hk_b5 rfl rfl kw_X5 tyX5 tyX5_ok nmX5 0 68 (by decide) kf_X0_68 rfl (Or.inl rfl) (fty := .int) rfl rfl rfl (Nat.le_of_ble_eq_true rfl) (cp_5_0 _) (fun κ b h => ccell_sI κ b h) rfl hB.2.2.2 dX0_free_68 (fun H locs hB hS => ?_)
        rw [← eS14] at hB
        refine lv_aload_n hx hb dX0_free_71 rfl (lv_at hl 2 rfl) ?_
        refine lv_dup hx hb dX0_free_72 rfl ?_
        refine c_get X hB hk_b5 rfl rfl kw_X5 1 73 (by decide) kf_X0_73 rfl rfl dX0_free_73 ?_
        refine lv_aload_n hx hb dX0_free_76 rfl (lv_at hl 0 rfl) ?_
        refine c_get X hB hk_b7 rfl rfl kw_X5 1 73 (by decide) kf_X0_73 rfl rfl dX0_free_77 ?_
        refine lv_iadd hx hb dX0_free_80 ?_
        obtain ⟨S15, eS15, hf⟩ := st1_s hf
        refine c_put X hB hS hk_b5 rfl rfl kw_X5 tyX5 tyX5_ok nmX5 1 73 (by decide) kf_X0_73 rfl (Or.inl rfl) (fty := .int) rfl rfl rfl (Nat.le_of_ble_eq_true rfl) (cp_5_1 _) (fun κ b h => ccell_sI κ b h) rfl hB.2.2.2 dX0_free_81 (fun H locs hB hS => ?_)
        rw [← eS15] at hB
        refine lv_aload_n hx hb dX0_free_84 rfl (lv_at hl 1 rfl) ?_
        refine lv_aload_n hx hb dX0_free_85 rfl (lv_at hl 0 rfl) ?_
        obtain ⟨S16, hqS16, hf⟩ := bn_s hf
        refine c_doF hB hS hA (va_runV (As := [va_rf (some b7)]) (rest := []) X.1 (cm_X0_unlink l F D ct _ _ this (some b7) hk_this (tyo_some hk_b7) _ hqS16) (cwV 1 hts (gd_V km_X0_96 ki_X0_unlink ks_X0_unlink kin_RX0 kc_X0_unlink) rfl rfl rfl (by decide +kernel) ⟨by dsimp only; omega, by dsimp only; omega⟩) (c_preV X hB hk_this rfl rfl) rfl rfl hl.1 rfl (lv_room (Nat.le_of_ble_eq_true rfl)) dX0_free_86 ⟨by dsimp only; omega, by dsimp only; omega⟩) rfl (fun H locs hB hT hS => ?_)
        refine lv_aload_n hx hb dX0_free_89 rfl (lv_at hl 2 rfl) ?_
        refine lv_aload_n hx hb dX0_free_90 rfl (lv_at hl 1 rfl) ?_
        obtain ⟨⟨z17v, z17S⟩, hqz17, hf⟩ := bn_s hf
        have hf := st2_s hf
        refine c_doF hB hS hA (va_runV (As := []) (rest := [.ref b5]) X.1 (cm_X0_tick l F D ct _ _ this hk_this _ _ hqz17) (cwV 0 hts (gd_V km_X0_82 ki_X0_tick ks_X0_tick kin_RX0 kc_X0_tick) rfl rfl rfl (by decide +kernel) ⟨by dsimp only; omega, by dsimp only; omega⟩) (c_preV X hB hk_this rfl rfl) rfl rfl hl.1 rfl (lv_room (Nat.le_of_ble_eq_true rfl)) dX0_free_91 ⟨by dsimp only; omega, by dsimp only; omega⟩) rfl (fun H locs hB hT hS => ?_)
        obtain ⟨S18, eS18, hf⟩ := st1_s hf
        refine c_put X hB hS hk_b5 rfl rfl kw_X5 tyX5 tyX5_ok nmX5 3 86 (by decide) kf_X0_86 rfl (Or.inl rfl) (fty := .int) rfl rfl rfl (Nat.le_of_ble_eq_true rfl) (cp_5_3 _) (fun κ b h => ccell_sI κ b h) rfl hB.2.2.2 dX0_free_94 (fun H locs hB hS => ?_)
        rw [← eS18] at hB
        obtain rfl := Option.some.inj hf
        exact W.vret hx hb hr (fun t ht hW => c_endF X hB trivial hS ht hW) hS.2.2 dX0_free_97 hlk
  unfold cf_X0_free at hf
  refine lv_aload_nq hx hb dX0_free_0 rfl (lv_at hl 1 rfl) ?_
  refine lv_iconst (v := 0) hx hb dX0_free_1 (by decide) ?_
  obtain ⟨b1, eb1, hf2⟩ := nn_s hf
  clear hf
  subst eb1
  have hf := hf2
  clear hf2
  have hk_b1 := hk_x1 b1 rfl
  have hl : lv_has ls 4 [(0, .ref this), (1, .ref b1)] := hl
  obtain ⟨S2, eS2, hf⟩ := st1_s hf
  refine c_put X hB hS hk_b1 rfl rfl kw_X5 tyX5 tyX5_ok nmX5 2 116 (by decide) kf_X0_116 rfl (Or.inl rfl) (fty := .int) rfl rfl rfl (Nat.le_of_ble_eq_true rfl) (cp_5_2 _) (fun κ b h => ccell_sI κ b h) rfl hB.2.2.2 dX0_free_2 (fun H locs hB hS => ?_)
  rw [← eS2] at hB
  refine lv_aload_n hx hb dX0_free_5 rfl (lv_at hl 1 rfl) ?_
  refine c_get X hB hk_b1 rfl rfl kw_X5 7 76 (by decide) kf_X0_76 rfl rfl dX0_free_6 ?_
  obtain ⟨q3, eq3, hf⟩ := st1_s hf
  rw [← eq3]
  have hk_q3 : tyo G 5 q3 := by rw [eq3]; exact hB.2.2.2.1 (5, 87, 5) (by decide) _ hk_b1
  refine lv_astore_nq (lv' := [(2, va_rf q3), (0, .ref this), (1, .ref b1)]) hx hb dX0_free_9 rfl hl (by decide) rfl (fun ls hl => ?_)
  refine lv_aload_nq hx hb dX0_free_10 rfl (lv_at hl 0 rfl) ?_
  rcases q3 with _ | b4
  · have hf := nc_n hf
    have hl : lv_has ls 4 [(2, .null), (0, .ref this), (1, .ref b1)] := hl
    refine lv_ifnullN (tgt := 43) hx hb dX0_free_11 (by decide) ?_
    exact J_43 S2 (some b1) hf _ _ _ (tyo_some hk_b1) hB hS (lv_sub hl [1, 2] rfl)
  · have hf := nc_b hf
    have hk_b4 := hk_q3 b4 rfl
    have hl : lv_has ls 4 [(2, .ref b4), (0, .ref this), (1, .ref b1)] := hl
    refine lv_ifnull hx hb dX0_free_11 ?_
    refine lv_aload_n hx hb dX0_free_14 rfl (lv_at hl 0 rfl) ?_
    refine lv_aload_n hx hb dX0_free_15 rfl (lv_at hl 2 rfl) ?_
    refine c_get X hB hk_b1 rfl rfl kw_X5 4 106 (by decide) kf_X0_106 rfl rfl dX0_free_16 ?_
    obtain ⟨v19, hqv19, hf⟩ := bn_s hf
    refine c_doF hB hS hA (va_runV (As := [.int (gI S2 84 b1)]) (rest := []) X.1 (cm_X5_isFreeIn l F D ct _ _ b4 (gI S2 84 b1) hk_b4 _ hqv19) (cwV 1 hts (gd_V km_X0_123 ki_X5_isFreeIn ks_X5_isFreeIn kin_RX5 kc_X5_isFreeIn) rfl rfl rfl (by decide +kernel) ⟨by dsimp only; omega, by dsimp only; omega⟩) (c_preV X hB hk_b4 rfl rfl) rfl rfl hl.1 rfl (lv_room (Nat.le_of_ble_eq_true rfl)) dX0_free_19 ⟨by dsimp only; omega, by dsimp only; omega⟩) rfl (fun H locs hB hT hS => ?_)
    refine lv_if_eq (tgt := 43) hx hb dX0_free_22 (by decide) (fun hc20 => ?_) (fun hc20 => ?_)
    · have hf := if_t hf hc20
      exact J_43 S2 (some b1) hf _ _ _ (tyo_some hk_b1) hB hS (lv_sub hl [1, 2] rfl)
    · have hf := if_f hf hc20
      refine lv_aload_n hx hb dX0_free_25 rfl (lv_at hl 2 rfl) ?_
      refine lv_dup hx hb dX0_free_26 rfl ?_
      refine c_get X hB hk_b1 rfl rfl kw_X5 1 73 (by decide) kf_X0_73 rfl rfl dX0_free_27 ?_
      refine lv_aload_n hx hb dX0_free_30 rfl (lv_at hl 0 rfl) ?_
      refine c_get X hB hk_b4 rfl rfl kw_X5 1 73 (by decide) kf_X0_73 rfl rfl dX0_free_31 ?_
      refine lv_iadd hx hb dX0_free_34 ?_
      obtain ⟨S21, eS21, hf⟩ := st1_s hf
      refine c_put X hB hS hk_b1 rfl rfl kw_X5 tyX5 tyX5_ok nmX5 1 73 (by decide) kf_X0_73 rfl (Or.inl rfl) (fty := .int) rfl rfl rfl (Nat.le_of_ble_eq_true rfl) (cp_5_1 _) (fun κ b h => ccell_sI κ b h) rfl hB.2.2.2 dX0_free_35 (fun H locs hB hS => ?_)
      rw [← eS21] at hB
      refine lv_aload_n hx hb dX0_free_38 rfl (lv_at hl 1 rfl) ?_
      refine lv_aload_n hx hb dX0_free_39 rfl (lv_at hl 0 rfl) ?_
      obtain ⟨S22, hqS22, hf⟩ := bn_s hf
      refine c_doF hB hS hA (va_runV (As := [va_rf (some b4)]) (rest := []) X.1 (cm_X0_unlink l F D ct _ _ this (some b4) hk_this (tyo_some hk_b4) _ hqS22) (cwV 1 hts (gd_V km_X0_96 ki_X0_unlink ks_X0_unlink kin_RX0 kc_X0_unlink) rfl rfl rfl (by decide +kernel) ⟨by dsimp only; omega, by dsimp only; omega⟩) (c_preV X hB hk_this rfl rfl) rfl rfl hl.1 rfl (lv_room (Nat.le_of_ble_eq_true rfl)) dX0_free_40 ⟨by dsimp only; omega, by dsimp only; omega⟩) rfl (fun H locs hB hT hS => ?_)
      exact J_43 S22 (some b1) hf _ _ _ (tyo_some hk_b1) hB hS (lv_sub hl [1, 2] rfl)
/-! X5_isFreeFor -/
def cf_X5_isFreeFor (F : Nat) (S : Cst) (this : Nat) (x1 : Int64) : Option Int32 := if (gI S 82 this) = 0 then (if (lg_cmp ((gI S 81 this).toInt64) x1) < 0 then (some (0 : Int32)) else (some (1 : Int32))) else (some (0 : Int32))
set_option maxHeartbeats 4000000 in
set_option maxRecDepth 100000 in
theorem cm_X5_isFreeFor (l : Launch) (F : Nat) (D : va_G) (ct : ClassId × ClassId × ClassId) (G : Gam) (S : Cst) (this : Nat) (x1 : Int64) (hk_this : ty G 5 this) (r : Int32) (hf : cf_X5_isFreeFor F S this x1 = some r) : cMet l yX5_isFreeFor cq_X5_isFreeFor { frames := 0, cells := 0, slots := 0, locals := 0 } D ct G [.ref this, .long x1] S (some (.int r)) (cF D ct G (fun _ => True) S) (0) (0) := by
  refine cMet_of (own := RX5) (cc := cX5_isFreeFor) (maxL := 3) (ret := (some .boolean)) (by decide) rfl rfl (Nat.le_of_ble_eq_true rfl) ?_
  intro p e s m below meth c X hr hlk hnm ls A hl hB hA hS
  have hx := X.1.1
  have hb := X.1.2.1
  have hown := X.1.2.2.2.1
  have hts := X.1.2.2.2.2
  have hl : lv_has ls 3 [(0, .ref this), (1, .long x1)] := hl
  generalize hargs : ([.ref this, .long x1] : List Value).toArray = args at X hts hS ⊢
  unfold cf_X5_isFreeFor at hf
  refine lv_aload_n hx hb dX5_isFreeFor_0 rfl (lv_at hl 0 rfl) ?_
  refine c_get X hB hk_this rfl rfl kw_X5 2 24 (by decide) kf_X5_24 rfl rfl dX5_isFreeFor_1 ?_
  refine lv_if_ne (tgt := 21) hx hb dX5_isFreeFor_4 (by decide) (fun hc1 => ?_) (fun hc1 => ?_)
  · have hf := if_f hf hc1
    refine lv_iconst (v := 0) hx hb dX5_isFreeFor_21 (by decide) ?_
    obtain rfl := Option.some.inj hf
    exact W.zret hx hb hr rfl (fun t ht hW => c_endF X hB trivial hS ht hW) hS.2.2 dX5_isFreeFor_22 hlk
  · have hf := if_t hf hc1
    refine lv_aload_n hx hb dX5_isFreeFor_7 rfl (lv_at hl 0 rfl) ?_
    refine c_get X hB hk_this rfl rfl kw_X5 1 15 (by decide) kf_X5_15 rfl rfl dX5_isFreeFor_8 ?_
    refine lv_i2l (v := (gI S 81 this).toInt64) hx hb dX5_isFreeFor_11 rfl ?_
    refine lv_lload_n hx hb dX5_isFreeFor_12 rfl (lv_at hl 1 rfl) ?_
    refine W.lcmp hx hb dX5_isFreeFor_13 ?_
    refine lv_if_lt (tgt := 21) hx hb dX5_isFreeFor_14 (by decide) (fun hc2 => ?_) (fun hc2 => ?_)
    · have hf := if_t hf hc2
      refine lv_iconst (v := 0) hx hb dX5_isFreeFor_21 (by decide) ?_
      obtain rfl := Option.some.inj hf
      exact W.zret hx hb hr rfl (fun t ht hW => c_endF X hB trivial hS ht hW) hS.2.2 dX5_isFreeFor_22 hlk
    · have hf := if_f hf hc2
      refine lv_iconst (v := 1) hx hb dX5_isFreeFor_17 (by decide) ?_
      refine lv_goto (tgt := 22) hx hb dX5_isFreeFor_18 (by decide) ?_
      obtain rfl := Option.some.inj hf
      exact W.zret hx hb hr rfl (fun t ht hW => c_endF X hB trivial hS ht hW) hS.2.2 dX5_isFreeFor_22 hlk
/-! X0_findBest -/
def cf_X0_findBest_7 (F : Nat) (this : Nat) (S : Cst) : Nat → Int32 → Option Nat → Option Nat → Option (Option Nat)
  | 0 => fun _ _ _ => none
  | n + 1 => fun x1 x2 x3 => nc x3 (some x2) (fun b2 => (cf_X5_isFreeFor F S b2 x1.toInt64).bind fun v3 => if v3 = 0 then (st1 (gP S 87 b2) fun q5 => (cf_X0_findBest_7 F this S n) x1 x2 q5) else (nc x2 (st1 (gP S 87 b2) fun q7 => (cf_X0_findBest_7 F this S n) x1 (some b2) q7) (fun b6 => if (gI S 81 b6) ≤ (gI S 81 b2) then (st1 (gP S 87 b2) fun q9 => (cf_X0_findBest_7 F this S n) x1 (some b6) q9) else (st1 (gP S 87 b2) fun q10 => (cf_X0_findBest_7 F this S n) x1 (some b2) q10))))
def cf_X0_findBest (F : Nat) (S : Cst) (this : Nat) (x1 : Int32) : Option (Option Nat) := st1 (gP S 7 this) fun q1 => cf_X0_findBest_7 F this S F x1 none q1
set_option maxHeartbeats 4000000 in
set_option maxRecDepth 100000 in
theorem cm_X0_findBest (l : Launch) (F : Nat) (D : va_G) (ct : ClassId × ClassId × ClassId) (G : Gam) (S : Cst) (this : Nat) (x1 : Int32) (hk_this : ty G 0 this) (r : Option Nat) (hf : cf_X0_findBest F S this x1 = some r) : cMet l yX0_findBest cq_X0_findBest { frames := 1, cells := 0, slots := 0, locals := 22 } D ct G [.ref this, .int x1] S (some (va_rf r)) (cF D ct G (fun G => tyo G 5 r) S) (0) (0) := by
  refine cMet_of (own := RX0) (cc := cX0_findBest) (maxL := 4) (ret := (some (.object "RangeArenas$Segment"))) (by decide) rfl rfl (Nat.le_of_ble_eq_true rfl) ?_
  intro p e s m below meth c X hr hlk hnm ls A hl hB hA hS
  have hx := X.1.1
  have hb := X.1.2.1
  have hown := X.1.2.2.2.1
  have hts := X.1.2.2.2.2
  have hl : lv_has ls 4 [(0, .ref this), (1, .int x1)] := hl
  generalize hargs : ([.ref this, .int x1] : List Value).toArray = args at X hts hS ⊢
  have J_7 : ∀ (n_7 : Nat) (x1 : Int32) (x2 : Option Nat) (x3 : Option Nat), cf_X0_findBest_7 F this S n_7 x1 x2 x3 = some r → ∀ (H : Heap) (locs : List Loc) (ls : Array Slot), tyo G 5 x2 → tyo G 5 x3 → cB D ct G A S H → va_S A s.heap H locs → lv_has ls 4 [(1, .int x1), (2, va_rf x2), (3, va_rf x3)] → W p l e { frames := 1, cells := 0, slots := 0, locals := 22 } s m args below meth c H locs (0) (0) (MQ below (mq (some (va_rf r)) (cF D ct G (fun G => tyo G 5 r) S) A) args s (0) (0) A) (F0 m 7 ls []) := by
    intro n_7
    induction n_7 with
    | zero => intro x1 x2 x3 hf; cases hf
    | succ n_7 ih_7 =>
      intro x1 x2 x3 hf H locs ls hk_x2 hk_x3 hB hS hl
      rw [cf_X0_findBest_7] at hf
      refine lv_aload_nq hx hb dX0_findBest_7 rfl (lv_at hl 2 rfl) ?_
      rcases x3 with _ | b2
      · have hf := nc_n hf
        have hl : lv_has ls 4 [(1, .int x1), (2, va_rf x2), (3, .null)] := hl
        refine lv_ifnullN (tgt := 45) hx hb dX0_findBest_8 (by decide) ?_
        refine lv_aload_nq hx hb dX0_findBest_45 rfl (lv_at hl 1 rfl) ?_
        have hT := hk_x2
        obtain rfl := Option.some.inj hf
        exact W.aret hx hb hr (Or.inl ⟨_, rfl⟩) (va_rf_or _) (fun t ht hW => c_endF X hB hT hS ht hW) hS.2.2 dX0_findBest_46 hlk
      · have hf := nc_b hf
        have hk_b2 := hk_x3 b2 rfl
        have hl : lv_has ls 4 [(1, .int x1), (2, va_rf x2), (3, .ref b2)] := hl
        refine lv_ifnull hx hb dX0_findBest_8 ?_
        refine lv_aload_n hx hb dX0_findBest_11 rfl (lv_at hl 2 rfl) ?_
        refine lv_iload_n hx hb dX0_findBest_12 rfl (lv_at hl 0 rfl) ?_
        refine lv_i2l (v := x1.toInt64) hx hb dX0_findBest_13 rfl ?_
        obtain ⟨v3, hqv3, hf⟩ := bn_s hf
        refine c_doF hB hS hA (va_runV (As := [.long x1.toInt64]) (rest := []) X.1 (cm_X5_isFreeFor l F D ct _ _ b2 x1.toInt64 hk_b2 _ hqv3) (cwV 1 hts (gd_V km_X0_136 ki_X5_isFreeFor ks_X5_isFreeFor kin_RX5 kc_X5_isFreeFor) rfl rfl rfl (by decide +kernel) ⟨by dsimp only; omega, by dsimp only; omega⟩) (c_preV X hB hk_b2 rfl rfl) rfl rfl hl.1 rfl (lv_room (Nat.le_of_ble_eq_true rfl)) dX0_findBest_14 ⟨by dsimp only; omega, by dsimp only; omega⟩) rfl (fun H locs hB hT hS => ?_)
        refine lv_if_eq (tgt := 37) hx hb dX0_findBest_17 (by decide) (fun hc4 => ?_) (fun hc4 => ?_)
        · have hf := if_t hf hc4
          refine lv_aload_n hx hb dX0_findBest_37 rfl (lv_at hl 2 rfl) ?_
          refine c_get X hB hk_b2 rfl rfl kw_X5 7 76 (by decide) kf_X0_76 rfl rfl dX0_findBest_38 ?_
          obtain ⟨q5, eq5, hf⟩ := st1_s hf
          rw [← eq5]
          have hk_q5 : tyo G 5 q5 := by rw [eq5]; exact hB.2.2.2.1 (5, 87, 5) (by decide) _ hk_b2
          refine lv_astore_nq (lv' := [(3, va_rf q5), (1, .int x1), (2, va_rf x2)]) hx hb dX0_findBest_41 rfl hl (by decide) (by rcases x2 with _ | _ <;> exact rfl) (fun ls hl => ?_)
          refine lv_goto (tgt := 7) hx hb dX0_findBest_42 (by decide) ?_
          exact ih_7 x1 x2 q5 hf _ _ _ hk_x2 hk_q5 hB hS (lv_sub hl [1, 2, 0] rfl)
        · have hf := if_f hf hc4
          refine lv_aload_nq hx hb dX0_findBest_20 rfl (lv_at hl 1 rfl) ?_
          rcases x2 with _ | b6
          · have hf := nc_n hf
            have hl : lv_has ls 4 [(1, .int x1), (2, .null), (3, .ref b2)] := hl
            refine lv_ifnullN (tgt := 35) hx hb dX0_findBest_21 (by decide) ?_
            refine lv_aload_n hx hb dX0_findBest_35 rfl (lv_at hl 2 rfl) ?_
            refine lv_astore_n (lv' := [(2, .ref b2), (1, .int x1), (3, .ref b2)]) hx hb dX0_findBest_36 rfl hl (by decide) rfl (fun ls hl => ?_)
            refine lv_aload_n hx hb dX0_findBest_37 rfl (lv_at hl 2 rfl) ?_
            refine c_get X hB hk_b2 rfl rfl kw_X5 7 76 (by decide) kf_X0_76 rfl rfl dX0_findBest_38 ?_
            obtain ⟨q7, eq7, hf⟩ := st1_s hf
            rw [← eq7]
            have hk_q7 : tyo G 5 q7 := by rw [eq7]; exact hB.2.2.2.1 (5, 87, 5) (by decide) _ hk_b2
            refine lv_astore_nq (lv' := [(3, va_rf q7), (2, .ref b2), (1, .int x1)]) hx hb dX0_findBest_41 rfl hl (by decide) rfl (fun ls hl => ?_)
            refine lv_goto (tgt := 7) hx hb dX0_findBest_42 (by decide) ?_
            exact ih_7 x1 (some b2) q7 hf _ _ _ (tyo_some hk_b2) hk_q7 hB hS (lv_sub hl [2, 1, 0] rfl)
          · have hf := nc_b hf
            have hk_b6 := hk_x2 b6 rfl
            have hl : lv_has ls 4 [(1, .int x1), (2, .ref b6), (3, .ref b2)] := hl
            refine lv_ifnull hx hb dX0_findBest_21 ?_
            refine lv_aload_n hx hb dX0_findBest_24 rfl (lv_at hl 2 rfl) ?_
            refine c_get X hB hk_b2 rfl rfl kw_X5 1 73 (by decide) kf_X0_73 rfl rfl dX0_findBest_25 ?_
            refine lv_aload_n hx hb dX0_findBest_28 rfl (lv_at hl 1 rfl) ?_
            refine c_get X hB hk_b6 rfl rfl kw_X5 1 73 (by decide) kf_X0_73 rfl rfl dX0_findBest_29 ?_
            refine lv_icmp_ge (tgt := 37) hx hb dX0_findBest_32 (by decide) (fun hc8 => ?_) (fun hc8 => ?_)
            · have hf := if_t hf hc8
              refine lv_aload_n hx hb dX0_findBest_37 rfl (lv_at hl 2 rfl) ?_
              refine c_get X hB hk_b2 rfl rfl kw_X5 7 76 (by decide) kf_X0_76 rfl rfl dX0_findBest_38 ?_
              obtain ⟨q9, eq9, hf⟩ := st1_s hf
              rw [← eq9]
              have hk_q9 : tyo G 5 q9 := by rw [eq9]; exact hB.2.2.2.1 (5, 87, 5) (by decide) _ hk_b2
              refine lv_astore_nq (lv' := [(3, va_rf q9), (1, .int x1), (2, .ref b6)]) hx hb dX0_findBest_41 rfl hl (by decide) rfl (fun ls hl => ?_)
              refine lv_goto (tgt := 7) hx hb dX0_findBest_42 (by decide) ?_
              exact ih_7 x1 (some b6) q9 hf _ _ _ (tyo_some hk_b6) hk_q9 hB hS (lv_sub hl [1, 2, 0] rfl)
            · have hf := if_f hf hc8
              refine lv_aload_n hx hb dX0_findBest_35 rfl (lv_at hl 2 rfl) ?_
              refine lv_astore_n (lv' := [(2, .ref b2), (1, .int x1), (3, .ref b2)]) hx hb dX0_findBest_36 rfl hl (by decide) rfl (fun ls hl => ?_)
              refine lv_aload_n hx hb dX0_findBest_37 rfl (lv_at hl 2 rfl) ?_
              refine c_get X hB hk_b2 rfl rfl kw_X5 7 76 (by decide) kf_X0_76 rfl rfl dX0_findBest_38 ?_
              obtain ⟨q10, eq10, hf⟩ := st1_s hf
              rw [← eq10]
              have hk_q10 : tyo G 5 q10 := by rw [eq10]; exact hB.2.2.2.1 (5, 87, 5) (by decide) _ hk_b2
              refine lv_astore_nq (lv' := [(3, va_rf q10), (2, .ref b2), (1, .int x1)]) hx hb dX0_findBest_41 rfl hl (by decide) rfl (fun ls hl => ?_)
              refine lv_goto (tgt := 7) hx hb dX0_findBest_42 (by decide) ?_
              exact ih_7 x1 (some b2) q10 hf _ _ _ (tyo_some hk_b2) hk_q10 hB hS (lv_sub hl [2, 1, 0] rfl)
  unfold cf_X0_findBest at hf
  refine lv_null hx hb dX0_findBest_0 ?_
  refine lv_astore_nN (lv' := [(2, .null), (0, .ref this), (1, .int x1)]) hx hb dX0_findBest_1 rfl hl (by decide) rfl (fun ls hl => ?_)
  refine lv_aload_n hx hb dX0_findBest_2 rfl (lv_at hl 1 rfl) ?_
  refine c_get X hB hk_this rfl rfl kw_X0 7 64 (by decide) kf_X0_64 rfl rfl dX0_findBest_3 ?_
  obtain ⟨q1, eq1, hf⟩ := st1_s hf
  rw [← eq1]
  have hk_q1 : tyo G 5 q1 := by rw [eq1]; exact hB.2.2.2.1 (0, 7, 5) (by decide) _ hk_this
  refine lv_astore_nq (lv' := [(3, va_rf q1), (2, .null), (0, .ref this), (1, .int x1)]) hx hb dX0_findBest_6 rfl hl (by decide) rfl (fun ls hl => ?_)
  exact J_7 F x1 none q1 hf _ _ _ tyo_none hk_q1 hB hS (lv_sub hl [3, 1, 0] rfl)
/-! X0_isAhead -/
def cf_X0_isAhead (F : Nat) (S : Cst) (this : Nat) (x1 : Option Nat) (x2 : Option Nat) : Option Int32 := nn x1 fun b1 => (cf_X0_listOf F S this (gI S 81 b1)).bind fun v2 => nn x2 fun b3 => (cf_X0_listOf F S this (gI S 81 b3)).bind fun v4 => if v2 < v4 then (some (1 : Int32)) else (if v2 = v4 then (if (gI S 83 b1) ≤ (gI S 83 b3) then (some (0 : Int32)) else (some (1 : Int32))) else (some (0 : Int32)))
set_option maxHeartbeats 4000000 in
set_option maxRecDepth 100000 in
theorem cm_X0_isAhead (l : Launch) (F : Nat) (D : va_G) (ct : ClassId × ClassId × ClassId) (G : Gam) (S : Cst) (this : Nat) (x1 : Option Nat) (x2 : Option Nat) (hk_this : ty G 0 this) (hk_x1 : tyo G 5 x1) (hk_x2 : tyo G 5 x2) (r : Int32) (hf : cf_X0_isAhead F S this x1 x2 = some r) : cMet l yX0_isAhead cq_X0_isAhead { frames := 2, cells := 0, slots := 0, locals := 42 } D ct G [.ref this, va_rf x1, va_rf x2] S (some (.int r)) (cF D ct G (fun _ => True) S) (0) (0) := by
  refine cMet_of (own := RX0) (cc := cX0_isAhead) (maxL := 5) (ret := (some .boolean)) (by decide) rfl rfl (by rcases x1 with _ | _ <;> rcases x2 with _ | _ <;> exact (Nat.le_of_ble_eq_true rfl)) ?_
  intro p e s m below meth c X hr hlk hnm ls A hl hB hA hS
  have hx := X.1.1
  have hb := X.1.2.1
  have hown := X.1.2.2.2.1
  have hts := X.1.2.2.2.2
  have hl : lv_has ls 5 [(0, .ref this), (1, va_rf x1), (2, va_rf x2)] := (by rcases x1 with _ | _ <;> rcases x2 with _ | _ <;> exact hl)
  generalize hargs : ([.ref this, va_rf x1, va_rf x2] : List Value).toArray = args at X hts hS ⊢
  unfold cf_X0_isAhead at hf
  refine lv_aload_n hx hb dX0_isAhead_0 rfl (lv_at hl 0 rfl) ?_
  refine lv_aload_nq hx hb dX0_isAhead_1 rfl (lv_at hl 1 rfl) ?_
  obtain ⟨b1, eb1, hf2⟩ := nn_s hf
  clear hf
  subst eb1
  have hf := hf2
  clear hf2
  have hk_b1 := hk_x1 b1 rfl
  have hl : lv_has ls 5 [(0, .ref this), (1, .ref b1), (2, va_rf x2)] := hl
  refine c_get X hB hk_b1 rfl rfl kw_X5 1 73 (by decide) kf_X0_73 rfl rfl dX0_isAhead_2 ?_
  obtain ⟨v2, hqv2, hf⟩ := bn_s hf
  refine c_doF hB hS hA (va_runV (As := [.int (gI S 81 b1)]) (rest := []) X.1 (cm_X0_listOf l F D ct _ _ this (gI S 81 b1) hk_this _ hqv2) (cwV 1 hts (gd_V km_X0_143 ki_X0_listOf ks_X0_listOf kin_RX0 kc_X0_listOf) rfl rfl rfl (by decide +kernel) ⟨by dsimp only; omega, by dsimp only; omega⟩) (c_preV X hB hk_this rfl rfl) rfl rfl hl.1 rfl (lv_room (Nat.le_of_ble_eq_true rfl)) dX0_isAhead_5 ⟨by dsimp only; omega, by dsimp only; omega⟩) rfl (fun H locs hB hT hS => ?_)
  refine lv_istore_n (lv' := [(3, .int v2), (0, .ref this), (1, .ref b1), (2, va_rf x2)]) hx hb dX0_isAhead_8 rfl hl (by decide) (by rcases x2 with _ | _ <;> exact rfl) (fun ls hl => ?_)
  refine lv_aload_n hx hb dX0_isAhead_9 rfl (lv_at hl 1 rfl) ?_
  refine lv_aload_nq hx hb dX0_isAhead_10 rfl (lv_at hl 3 rfl) ?_
  obtain ⟨b3, eb3, hf2⟩ := nn_s hf
  clear hf
  subst eb3
  have hf := hf2
  clear hf2
  have hk_b3 := hk_x2 b3 rfl
  have hl : lv_has ls 5 [(3, .int v2), (0, .ref this), (1, .ref b1), (2, .ref b3)] := hl
  refine c_get X hB hk_b3 rfl rfl kw_X5 1 73 (by decide) kf_X0_73 rfl rfl dX0_isAhead_11 ?_
  obtain ⟨v4, hqv4, hf⟩ := bn_s hf
  refine c_doF hB hS hA (va_runV (As := [.int (gI S 81 b3)]) (rest := []) X.1 (cm_X0_listOf l F D ct _ _ this (gI S 81 b3) hk_this _ hqv4) (cwV 1 hts (gd_V km_X0_143 ki_X0_listOf ks_X0_listOf kin_RX0 kc_X0_listOf) rfl rfl rfl (by decide +kernel) ⟨by dsimp only; omega, by dsimp only; omega⟩) (c_preV X hB hk_this rfl rfl) rfl rfl hl.1 rfl (lv_room (Nat.le_of_ble_eq_true rfl)) dX0_isAhead_14 ⟨by dsimp only; omega, by dsimp only; omega⟩) rfl (fun H locs hB hT hS => ?_)
  refine lv_istore (lv' := [(4, .int v4), (3, .int v2), (0, .ref this), (1, .ref b1), (2, .ref b3)]) hx hb dX0_isAhead_17 hl (by decide) rfl (fun ls hl => ?_)
  refine lv_iload_n hx hb dX0_isAhead_19 rfl (lv_at hl 1 rfl) ?_
  refine lv_iload hx hb dX0_isAhead_20 (lv_at hl 0 rfl) ?_
  refine lv_icmp_lt (tgt := 42) hx hb dX0_isAhead_22 (by decide) (fun hc5 => ?_) (fun hc5 => ?_)
  · have hf := if_t hf hc5
    refine lv_iconst (v := 1) hx hb dX0_isAhead_42 (by decide) ?_
    refine lv_goto (tgt := 47) hx hb dX0_isAhead_43 (by decide) ?_
    obtain rfl := Option.some.inj hf
    exact W.zret hx hb hr rfl (fun t ht hW => c_endF X hB trivial hS ht hW) hS.2.2 dX0_isAhead_47 hlk
  · have hf := if_f hf hc5
    refine lv_iload_n hx hb dX0_isAhead_25 rfl (lv_at hl 1 rfl) ?_
    refine lv_iload hx hb dX0_isAhead_26 (lv_at hl 0 rfl) ?_
    refine lv_icmp_ne (tgt := 46) hx hb dX0_isAhead_28 (by decide) (fun hc6 => ?_) (fun hc6 => ?_)
    · have hf := if_f hf hc6
      refine lv_iconst (v := 0) hx hb dX0_isAhead_46 (by decide) ?_
      obtain rfl := Option.some.inj hf
      exact W.zret hx hb hr rfl (fun t ht hW => c_endF X hB trivial hS ht hW) hS.2.2 dX0_isAhead_47 hlk
    · have hf := if_t hf hc6
      refine lv_aload_n hx hb dX0_isAhead_31 rfl (lv_at hl 3 rfl) ?_
      refine c_get X hB hk_b1 rfl rfl kw_X5 3 86 (by decide) kf_X0_86 rfl rfl dX0_isAhead_32 ?_
      refine lv_aload_n hx hb dX0_isAhead_35 rfl (lv_at hl 4 rfl) ?_
      refine c_get X hB hk_b3 rfl rfl kw_X5 3 86 (by decide) kf_X0_86 rfl rfl dX0_isAhead_36 ?_
      refine lv_icmp_le (tgt := 46) hx hb dX0_isAhead_39 (by decide) (fun hc7 => ?_) (fun hc7 => ?_)
      · have hf := if_t hf hc7
        refine lv_iconst (v := 0) hx hb dX0_isAhead_46 (by decide) ?_
        obtain rfl := Option.some.inj hf
        exact W.zret hx hb hr rfl (fun t ht hW => c_endF X hB trivial hS ht hW) hS.2.2 dX0_isAhead_47 hlk
      · have hf := if_f hf hc7
        refine lv_iconst (v := 1) hx hb dX0_isAhead_42 (by decide) ?_
        refine lv_goto (tgt := 47) hx hb dX0_isAhead_43 (by decide) ?_
        obtain rfl := Option.some.inj hf
        exact W.zret hx hb hr rfl (fun t ht hW => c_endF X hB trivial hS ht hW) hS.2.2 dX0_isAhead_47 hlk
/-! X0_findInstant -/
def cf_X0_findInstant_14 (F : Nat) (this : Nat) (S : Cst) : Nat → Int32 → Option Nat → Option Nat → Option (Option Nat)
  | 0 => fun _ _ _ => none
  | n + 1 => fun x2 x3 x4 => nc x4 (some x3) (fun b3 => if (gI S 82 b3) = 0 then ((cf_X0_listOf F S this (gI S 81 b3)).bind fun v6 => if v6 < x2 then (st1 (gP S 87 b3) fun q8 => (cf_X0_findInstant_14 F this S n) x2 x3 q8) else (nc x3 (st1 (gP S 87 b3) fun q10 => (cf_X0_findInstant_14 F this S n) x2 (some b3) q10) (fun b9 => (cf_X0_isAhead F S this (some b3) (some b9)).bind fun v11 => if v11 = 0 then (st1 (gP S 87 b3) fun q13 => (cf_X0_findInstant_14 F this S n) x2 (some b9) q13) else (st1 (gP S 87 b3) fun q14 => (cf_X0_findInstant_14 F this S n) x2 (some b3) q14)))) else (st1 (gP S 87 b3) fun q5 => (cf_X0_findInstant_14 F this S n) x2 x3 q5))
def cf_X0_findInstant (F : Nat) (S : Cst) (this : Nat) (x1 : Int32) : Option (Option Nat) := (cf_X0_listFor F S this x1).bind fun v1 => st1 (gP S 7 this) fun q2 => cf_X0_findInstant_14 F this S F v1 none q2
set_option maxHeartbeats 4000000 in
set_option maxRecDepth 100000 in
theorem cm_X0_findInstant (l : Launch) (F : Nat) (D : va_G) (ct : ClassId × ClassId × ClassId) (G : Gam) (S : Cst) (this : Nat) (x1 : Int32) (hk_this : ty G 0 this) (r : Option Nat) (hf : cf_X0_findInstant F S this x1 = some r) : cMet l yX0_findInstant cq_X0_findInstant { frames := 3, cells := 0, slots := 0, locals := 66 } D ct G [.ref this, .int x1] S (some (va_rf r)) (cF D ct G (fun G => tyo G 5 r) S) (0) (0) := by
  refine cMet_of (own := RX0) (cc := cX0_findInstant) (maxL := 5) (ret := (some (.object "RangeArenas$Segment"))) (by decide) rfl rfl (Nat.le_of_ble_eq_true rfl) ?_
  intro p e s m below meth c X hr hlk hnm ls A hl hB hA hS
  have hx := X.1.1
  have hb := X.1.2.1
  have hown := X.1.2.2.2.1
  have hts := X.1.2.2.2.2
  have hl : lv_has ls 5 [(0, .ref this), (1, .int x1)] := hl
  generalize hargs : ([.ref this, .int x1] : List Value).toArray = args at X hts hS ⊢
  have J_14 : ∀ (n_14 : Nat) (x2 : Int32) (x3 : Option Nat) (x4 : Option Nat), cf_X0_findInstant_14 F this S n_14 x2 x3 x4 = some r → ∀ (H : Heap) (locs : List Loc) (ls : Array Slot), tyo G 5 x3 → tyo G 5 x4 → cB D ct G A S H → va_S A s.heap H locs → lv_has ls 5 [(0, .ref this), (2, .int x2), (3, va_rf x3), (4, va_rf x4)] → W p l e { frames := 3, cells := 0, slots := 0, locals := 66 } s m args below meth c H locs (0) (0) (MQ below (mq (some (va_rf r)) (cF D ct G (fun G => tyo G 5 r) S) A) args s (0) (0) A) (F0 m 14 ls []) := by
    intro n_14
    induction n_14 with
    | zero => intro x2 x3 x4 hf; cases hf
    | succ n_14 ih_14 =>
      intro x2 x3 x4 hf H locs ls hk_x3 hk_x4 hB hS hl
      rw [cf_X0_findInstant_14] at hf
      refine lv_aloadq hx hb dX0_findInstant_14 (lv_at hl 3 rfl) ?_
      rcases x4 with _ | b3
      · have hf := nc_n hf
        have hl : lv_has ls 5 [(0, .ref this), (2, .int x2), (3, va_rf x3), (4, .null)] := hl
        refine lv_ifnullN (tgt := 67) hx hb dX0_findInstant_16 (by decide) ?_
        refine lv_aload_nq hx hb dX0_findInstant_67 rfl (lv_at hl 2 rfl) ?_
        have hT := hk_x3
        obtain rfl := Option.some.inj hf
        exact W.aret hx hb hr (Or.inl ⟨_, rfl⟩) (va_rf_or _) (fun t ht hW => c_endF X hB hT hS ht hW) hS.2.2 dX0_findInstant_68 hlk
      · have hf := nc_b hf
        have hk_b3 := hk_x4 b3 rfl
        have hl : lv_has ls 5 [(0, .ref this), (2, .int x2), (3, va_rf x3), (4, .ref b3)] := hl
        refine lv_ifnull hx hb dX0_findInstant_16 ?_
        refine lv_aload hx hb dX0_findInstant_19 (lv_at hl 3 rfl) ?_
        refine c_get X hB hk_b3 rfl rfl kw_X5 2 116 (by decide) kf_X0_116 rfl rfl dX0_findInstant_21 ?_
        refine lv_if_ne (tgt := 57) hx hb dX0_findInstant_24 (by decide) (fun hc4 => ?_) (fun hc4 => ?_)
        · have hf := if_f hf hc4
          refine lv_aload hx hb dX0_findInstant_57 (lv_at hl 3 rfl) ?_
          refine c_get X hB hk_b3 rfl rfl kw_X5 7 76 (by decide) kf_X0_76 rfl rfl dX0_findInstant_59 ?_
          obtain ⟨q5, eq5, hf⟩ := st1_s hf
          rw [← eq5]
          have hk_q5 : tyo G 5 q5 := by rw [eq5]; exact hB.2.2.2.1 (5, 87, 5) (by decide) _ hk_b3
          refine lv_astoreq (lv' := [(4, va_rf q5), (0, .ref this), (2, .int x2), (3, va_rf x3)]) hx hb dX0_findInstant_62 hl (by decide) (by rcases x3 with _ | _ <;> exact rfl) (fun ls hl => ?_)
          refine lv_goto (tgt := 14) hx hb dX0_findInstant_64 (by decide) ?_
          exact ih_14 x2 x3 q5 hf _ _ _ hk_x3 hk_q5 hB hS (lv_sub hl [1, 2, 3, 0] rfl)
        · have hf := if_t hf hc4
          refine lv_aload_n hx hb dX0_findInstant_27 rfl (lv_at hl 0 rfl) ?_
          refine lv_aload hx hb dX0_findInstant_28 (lv_at hl 3 rfl) ?_
          refine c_get X hB hk_b3 rfl rfl kw_X5 1 73 (by decide) kf_X0_73 rfl rfl dX0_findInstant_30 ?_
          obtain ⟨v6, hqv6, hf⟩ := bn_s hf
          refine c_doF hB hS hA (va_runV (As := [.int (gI S 81 b3)]) (rest := []) X.1 (cm_X0_listOf l F D ct _ _ this (gI S 81 b3) hk_this _ hqv6) (cwV 1 hts (gd_V km_X0_143 ki_X0_listOf ks_X0_listOf kin_RX0 kc_X0_listOf) rfl rfl rfl (by decide +kernel) ⟨by dsimp only; omega, by dsimp only; omega⟩) (c_preV X hB hk_this rfl rfl) rfl rfl hl.1 rfl (lv_room (Nat.le_of_ble_eq_true rfl)) dX0_findInstant_33 ⟨by dsimp only; omega, by dsimp only; omega⟩) rfl (fun H locs hB hT hS => ?_)
          refine lv_iload_n hx hb dX0_findInstant_36 rfl (lv_at hl 1 rfl) ?_
          refine lv_icmp_lt (tgt := 57) hx hb dX0_findInstant_37 (by decide) (fun hc7 => ?_) (fun hc7 => ?_)
          · have hf := if_t hf hc7
            refine lv_aload hx hb dX0_findInstant_57 (lv_at hl 3 rfl) ?_
            refine c_get X hB hk_b3 rfl rfl kw_X5 7 76 (by decide) kf_X0_76 rfl rfl dX0_findInstant_59 ?_
            obtain ⟨q8, eq8, hf⟩ := st1_s hf
            rw [← eq8]
            have hk_q8 : tyo G 5 q8 := by rw [eq8]; exact hB.2.2.2.1 (5, 87, 5) (by decide) _ hk_b3
            refine lv_astoreq (lv' := [(4, va_rf q8), (0, .ref this), (2, .int x2), (3, va_rf x3)]) hx hb dX0_findInstant_62 hl (by decide) (by rcases x3 with _ | _ <;> exact rfl) (fun ls hl => ?_)
            refine lv_goto (tgt := 14) hx hb dX0_findInstant_64 (by decide) ?_
            exact ih_14 x2 x3 q8 hf _ _ _ hk_x3 hk_q8 hB hS (lv_sub hl [1, 2, 3, 0] rfl)
          · have hf := if_f hf hc7
            refine lv_aload_nq hx hb dX0_findInstant_40 rfl (lv_at hl 2 rfl) ?_
            rcases x3 with _ | b9
            · have hf := nc_n hf
              have hl : lv_has ls 5 [(0, .ref this), (2, .int x2), (3, .null), (4, .ref b3)] := hl
              refine lv_ifnullN (tgt := 54) hx hb dX0_findInstant_41 (by decide) ?_
              refine lv_aload hx hb dX0_findInstant_54 (lv_at hl 3 rfl) ?_
              refine lv_astore_n (lv' := [(3, .ref b3), (0, .ref this), (2, .int x2), (4, .ref b3)]) hx hb dX0_findInstant_56 rfl hl (by decide) rfl (fun ls hl => ?_)
              refine lv_aload hx hb dX0_findInstant_57 (lv_at hl 3 rfl) ?_
              refine c_get X hB hk_b3 rfl rfl kw_X5 7 76 (by decide) kf_X0_76 rfl rfl dX0_findInstant_59 ?_
              obtain ⟨q10, eq10, hf⟩ := st1_s hf
              rw [← eq10]
              have hk_q10 : tyo G 5 q10 := by rw [eq10]; exact hB.2.2.2.1 (5, 87, 5) (by decide) _ hk_b3
              refine lv_astoreq (lv' := [(4, va_rf q10), (3, .ref b3), (0, .ref this), (2, .int x2)]) hx hb dX0_findInstant_62 hl (by decide) rfl (fun ls hl => ?_)
              refine lv_goto (tgt := 14) hx hb dX0_findInstant_64 (by decide) ?_
              exact ih_14 x2 (some b3) q10 hf _ _ _ (tyo_some hk_b3) hk_q10 hB hS (lv_sub hl [2, 3, 1, 0] rfl)
            · have hf := nc_b hf
              have hk_b9 := hk_x3 b9 rfl
              have hl : lv_has ls 5 [(0, .ref this), (2, .int x2), (3, .ref b9), (4, .ref b3)] := hl
              refine lv_ifnull hx hb dX0_findInstant_41 ?_
              refine lv_aload_n hx hb dX0_findInstant_44 rfl (lv_at hl 0 rfl) ?_
              refine lv_aload hx hb dX0_findInstant_45 (lv_at hl 3 rfl) ?_
              refine lv_aload_n hx hb dX0_findInstant_47 rfl (lv_at hl 2 rfl) ?_
              obtain ⟨v11, hqv11, hf⟩ := bn_s hf
              refine c_doF hB hS hA (va_runV (As := [va_rf (some b3), va_rf (some b9)]) (rest := []) X.1 (cm_X0_isAhead l F D ct _ _ this (some b3) (some b9) hk_this (tyo_some hk_b3) (tyo_some hk_b9) _ hqv11) (cwV 2 hts (gd_V km_X0_146 ki_X0_isAhead ks_X0_isAhead kin_RX0 kc_X0_isAhead) rfl rfl rfl (by decide +kernel) ⟨by dsimp only; omega, by dsimp only; omega⟩) (c_preV X hB hk_this rfl rfl) rfl rfl hl.1 rfl (lv_room (Nat.le_of_ble_eq_true rfl)) dX0_findInstant_48 ⟨by dsimp only; omega, by dsimp only; omega⟩) rfl (fun H locs hB hT hS => ?_)
              refine lv_if_eq (tgt := 57) hx hb dX0_findInstant_51 (by decide) (fun hc12 => ?_) (fun hc12 => ?_)
              · have hf := if_t hf hc12
                refine lv_aload hx hb dX0_findInstant_57 (lv_at hl 3 rfl) ?_
                refine c_get X hB hk_b3 rfl rfl kw_X5 7 76 (by decide) kf_X0_76 rfl rfl dX0_findInstant_59 ?_
                obtain ⟨q13, eq13, hf⟩ := st1_s hf
                rw [← eq13]
                have hk_q13 : tyo G 5 q13 := by rw [eq13]; exact hB.2.2.2.1 (5, 87, 5) (by decide) _ hk_b3
                refine lv_astoreq (lv' := [(4, va_rf q13), (0, .ref this), (2, .int x2), (3, .ref b9)]) hx hb dX0_findInstant_62 hl (by decide) rfl (fun ls hl => ?_)
                refine lv_goto (tgt := 14) hx hb dX0_findInstant_64 (by decide) ?_
                exact ih_14 x2 (some b9) q13 hf _ _ _ (tyo_some hk_b9) hk_q13 hB hS (lv_sub hl [1, 2, 3, 0] rfl)
              · have hf := if_f hf hc12
                refine lv_aload hx hb dX0_findInstant_54 (lv_at hl 3 rfl) ?_
                refine lv_astore_n (lv' := [(3, .ref b3), (0, .ref this), (2, .int x2), (4, .ref b3)]) hx hb dX0_findInstant_56 rfl hl (by decide) rfl (fun ls hl => ?_)
                refine lv_aload hx hb dX0_findInstant_57 (lv_at hl 3 rfl) ?_
                refine c_get X hB hk_b3 rfl rfl kw_X5 7 76 (by decide) kf_X0_76 rfl rfl dX0_findInstant_59 ?_
                obtain ⟨q14, eq14, hf⟩ := st1_s hf
                rw [← eq14]
                have hk_q14 : tyo G 5 q14 := by rw [eq14]; exact hB.2.2.2.1 (5, 87, 5) (by decide) _ hk_b3
                refine lv_astoreq (lv' := [(4, va_rf q14), (3, .ref b3), (0, .ref this), (2, .int x2)]) hx hb dX0_findInstant_62 hl (by decide) rfl (fun ls hl => ?_)
                refine lv_goto (tgt := 14) hx hb dX0_findInstant_64 (by decide) ?_
                exact ih_14 x2 (some b3) q14 hf _ _ _ (tyo_some hk_b3) hk_q14 hB hS (lv_sub hl [2, 3, 1, 0] rfl)
  unfold cf_X0_findInstant at hf
  refine lv_aload_n hx hb dX0_findInstant_0 rfl (lv_at hl 0 rfl) ?_
  refine lv_iload_n hx hb dX0_findInstant_1 rfl (lv_at hl 1 rfl) ?_
  obtain ⟨v1, hqv1, hf⟩ := bn_s hf
  refine c_doF hB hS hA (va_runV (As := [.int x1]) (rest := []) X.1 (cm_X0_listFor l F D ct _ _ this x1 hk_this _ hqv1) (cwV 1 hts (gd_V km_X0_140 ki_X0_listFor ks_X0_listFor kin_RX0 kc_X0_listFor) rfl rfl rfl (by decide +kernel) ⟨by dsimp only; omega, by dsimp only; omega⟩) (c_preV X hB hk_this rfl rfl) rfl rfl hl.1 rfl (lv_room (Nat.le_of_ble_eq_true rfl)) dX0_findInstant_2 ⟨by dsimp only; omega, by dsimp only; omega⟩) rfl (fun H locs hB hT hS => ?_)
  refine lv_istore_n (lv' := [(2, .int v1), (0, .ref this), (1, .int x1)]) hx hb dX0_findInstant_5 rfl hl (by decide) rfl (fun ls hl => ?_)
  refine lv_null hx hb dX0_findInstant_6 ?_
  refine lv_astore_nN (lv' := [(3, .null), (2, .int v1), (0, .ref this), (1, .int x1)]) hx hb dX0_findInstant_7 rfl hl (by decide) rfl (fun ls hl => ?_)
  refine lv_aload_n hx hb dX0_findInstant_8 rfl (lv_at hl 2 rfl) ?_
  refine c_get X hB hk_this rfl rfl kw_X0 7 64 (by decide) kf_X0_64 rfl rfl dX0_findInstant_9 ?_
  obtain ⟨q2, eq2, hf⟩ := st1_s hf
  rw [← eq2]
  have hk_q2 : tyo G 5 q2 := by rw [eq2]; exact hB.2.2.2.1 (0, 7, 5) (by decide) _ hk_this
  refine lv_astoreq (lv' := [(4, va_rf q2), (3, .null), (2, .int v1), (0, .ref this), (1, .int x1)]) hx hb dX0_findInstant_12 hl (by decide) rfl (fun ls hl => ?_)
  exact J_14 F v1 none q2 hf _ _ _ tyo_none hk_q2 hB hS (lv_sub hl [3, 2, 1, 0] rfl)
/-! X0_findNext -/
def cf_X0_findNext_7 (F : Nat) (this : Nat) (S : Cst) : Nat → Int32 → Option Nat → Option Nat → Option (Option Nat)
  | 0 => fun _ _ _ => none
  | n + 1 => fun x1 x2 x3 => nc x3 (some x2) (fun b2 => (cf_X5_isFreeFor F S b2 x1.toInt64).bind fun v3 => if v3 = 0 then (st1 (gP S 87 b2) fun q5 => (cf_X0_findNext_7 F this S n) x1 x2 q5) else (if (gI S 80 b2) < (gI S 11 this) then (nc x2 (st1 (gP S 87 b2) fun q8 => (cf_X0_findNext_7 F this S n) x1 (some b2) q8) (fun b7 => st1 (gP S 87 b2) fun q9 => (cf_X0_findNext_7 F this S n) x1 (some b7) q9)) else (some (some b2))))
def cf_X0_findNext (F : Nat) (S : Cst) (this : Nat) (x1 : Int32) : Option (Option Nat) := st1 (gP S 7 this) fun q1 => cf_X0_findNext_7 F this S F x1 none q1
set_option maxHeartbeats 4000000 in
set_option maxRecDepth 100000 in
theorem cm_X0_findNext (l : Launch) (F : Nat) (D : va_G) (ct : ClassId × ClassId × ClassId) (G : Gam) (S : Cst) (this : Nat) (x1 : Int32) (hk_this : ty G 0 this) (r : Option Nat) (hf : cf_X0_findNext F S this x1 = some r) : cMet l yX0_findNext cq_X0_findNext { frames := 1, cells := 0, slots := 0, locals := 22 } D ct G [.ref this, .int x1] S (some (va_rf r)) (cF D ct G (fun G => tyo G 5 r) S) (0) (0) := by
  refine cMet_of (own := RX0) (cc := cX0_findNext) (maxL := 4) (ret := (some (.object "RangeArenas$Segment"))) (by decide) rfl rfl (Nat.le_of_ble_eq_true rfl) ?_
  intro p e s m below meth c X hr hlk hnm ls A hl hB hA hS
  have hx := X.1.1
  have hb := X.1.2.1
  have hown := X.1.2.2.2.1
  have hts := X.1.2.2.2.2
  have hl : lv_has ls 4 [(0, .ref this), (1, .int x1)] := hl
  generalize hargs : ([.ref this, .int x1] : List Value).toArray = args at X hts hS ⊢
  have J_7 : ∀ (n_7 : Nat) (x1 : Int32) (x2 : Option Nat) (x3 : Option Nat), cf_X0_findNext_7 F this S n_7 x1 x2 x3 = some r → ∀ (H : Heap) (locs : List Loc) (ls : Array Slot), tyo G 5 x2 → tyo G 5 x3 → cB D ct G A S H → va_S A s.heap H locs → lv_has ls 4 [(0, .ref this), (1, .int x1), (2, va_rf x2), (3, va_rf x3)] → W p l e { frames := 1, cells := 0, slots := 0, locals := 22 } s m args below meth c H locs (0) (0) (MQ below (mq (some (va_rf r)) (cF D ct G (fun G => tyo G 5 r) S) A) args s (0) (0) A) (F0 m 7 ls []) := by
    intro n_7
    induction n_7 with
    | zero => intro x1 x2 x3 hf; cases hf
    | succ n_7 ih_7 =>
      intro x1 x2 x3 hf H locs ls hk_x2 hk_x3 hB hS hl
      rw [cf_X0_findNext_7] at hf
      refine lv_aload_nq hx hb dX0_findNext_7 rfl (lv_at hl 3 rfl) ?_
      rcases x3 with _ | b2
      · have hf := nc_n hf
        have hl : lv_has ls 4 [(0, .ref this), (1, .int x1), (2, va_rf x2), (3, .null)] := hl
        refine lv_ifnullN (tgt := 47) hx hb dX0_findNext_8 (by decide) ?_
        refine lv_aload_nq hx hb dX0_findNext_47 rfl (lv_at hl 2 rfl) ?_
        have hT := hk_x2
        obtain rfl := Option.some.inj hf
        exact W.aret hx hb hr (Or.inl ⟨_, rfl⟩) (va_rf_or _) (fun t ht hW => c_endF X hB hT hS ht hW) hS.2.2 dX0_findNext_48 hlk
      · have hf := nc_b hf
        have hk_b2 := hk_x3 b2 rfl
        have hl : lv_has ls 4 [(0, .ref this), (1, .int x1), (2, va_rf x2), (3, .ref b2)] := hl
        refine lv_ifnull hx hb dX0_findNext_8 ?_
        refine lv_aload_n hx hb dX0_findNext_11 rfl (lv_at hl 3 rfl) ?_
        refine lv_iload_n hx hb dX0_findNext_12 rfl (lv_at hl 1 rfl) ?_
        refine lv_i2l (v := x1.toInt64) hx hb dX0_findNext_13 rfl ?_
        obtain ⟨v3, hqv3, hf⟩ := bn_s hf
        refine c_doF hB hS hA (va_runV (As := [.long x1.toInt64]) (rest := []) X.1 (cm_X5_isFreeFor l F D ct _ _ b2 x1.toInt64 hk_b2 _ hqv3) (cwV 1 hts (gd_V km_X0_136 ki_X5_isFreeFor ks_X5_isFreeFor kin_RX5 kc_X5_isFreeFor) rfl rfl rfl (by decide +kernel) ⟨by dsimp only; omega, by dsimp only; omega⟩) (c_preV X hB hk_b2 rfl rfl) rfl rfl hl.1 rfl (lv_room (Nat.le_of_ble_eq_true rfl)) dX0_findNext_14 ⟨by dsimp only; omega, by dsimp only; omega⟩) rfl (fun H locs hB hT hS => ?_)
        refine lv_if_eq (tgt := 39) hx hb dX0_findNext_17 (by decide) (fun hc4 => ?_) (fun hc4 => ?_)
        · have hf := if_t hf hc4
          refine lv_aload_n hx hb dX0_findNext_39 rfl (lv_at hl 3 rfl) ?_
          refine c_get X hB hk_b2 rfl rfl kw_X5 7 76 (by decide) kf_X0_76 rfl rfl dX0_findNext_40 ?_
          obtain ⟨q5, eq5, hf⟩ := st1_s hf
          rw [← eq5]
          have hk_q5 : tyo G 5 q5 := by rw [eq5]; exact hB.2.2.2.1 (5, 87, 5) (by decide) _ hk_b2
          refine lv_astore_nq (lv' := [(3, va_rf q5), (0, .ref this), (1, .int x1), (2, va_rf x2)]) hx hb dX0_findNext_43 rfl hl (by decide) (by rcases x2 with _ | _ <;> exact rfl) (fun ls hl => ?_)
          refine lv_goto (tgt := 7) hx hb dX0_findNext_44 (by decide) ?_
          exact ih_7 x1 x2 q5 hf _ _ _ hk_x2 hk_q5 hB hS (lv_sub hl [1, 2, 3, 0] rfl)
        · have hf := if_f hf hc4
          refine lv_aload_n hx hb dX0_findNext_20 rfl (lv_at hl 3 rfl) ?_
          refine c_get X hB hk_b2 rfl rfl kw_X5 0 68 (by decide) kf_X0_68 rfl rfl dX0_findNext_21 ?_
          refine lv_aload_n hx hb dX0_findNext_24 rfl (lv_at hl 0 rfl) ?_
          refine c_get X hB hk_this rfl rfl kw_X0 11 150 (by decide) kf_X0_150 rfl rfl dX0_findNext_25 ?_
          refine lv_icmp_lt (tgt := 33) hx hb dX0_findNext_28 (by decide) (fun hc6 => ?_) (fun hc6 => ?_)
          · have hf := if_t hf hc6
            refine lv_aload_nq hx hb dX0_findNext_33 rfl (lv_at hl 2 rfl) ?_
            rcases x2 with _ | b7
            · have hf := nc_n hf
              have hl : lv_has ls 4 [(0, .ref this), (1, .int x1), (2, .null), (3, .ref b2)] := hl
              refine lv_ifnonnullN hx hb dX0_findNext_34 ?_
              refine lv_aload_n hx hb dX0_findNext_37 rfl (lv_at hl 3 rfl) ?_
              refine lv_astore_n (lv' := [(2, .ref b2), (0, .ref this), (1, .int x1), (3, .ref b2)]) hx hb dX0_findNext_38 rfl hl (by decide) rfl (fun ls hl => ?_)
              refine lv_aload_n hx hb dX0_findNext_39 rfl (lv_at hl 3 rfl) ?_
              refine c_get X hB hk_b2 rfl rfl kw_X5 7 76 (by decide) kf_X0_76 rfl rfl dX0_findNext_40 ?_
              obtain ⟨q8, eq8, hf⟩ := st1_s hf
              rw [← eq8]
              have hk_q8 : tyo G 5 q8 := by rw [eq8]; exact hB.2.2.2.1 (5, 87, 5) (by decide) _ hk_b2
              refine lv_astore_nq (lv' := [(3, va_rf q8), (2, .ref b2), (0, .ref this), (1, .int x1)]) hx hb dX0_findNext_43 rfl hl (by decide) rfl (fun ls hl => ?_)
              refine lv_goto (tgt := 7) hx hb dX0_findNext_44 (by decide) ?_
              exact ih_7 x1 (some b2) q8 hf _ _ _ (tyo_some hk_b2) hk_q8 hB hS (lv_sub hl [2, 3, 1, 0] rfl)
            · have hf := nc_b hf
              have hk_b7 := hk_x2 b7 rfl
              have hl : lv_has ls 4 [(0, .ref this), (1, .int x1), (2, .ref b7), (3, .ref b2)] := hl
              refine lv_ifnonnull (tgt := 39) hx hb dX0_findNext_34 (by decide) ?_
              refine lv_aload_n hx hb dX0_findNext_39 rfl (lv_at hl 3 rfl) ?_
              refine c_get X hB hk_b2 rfl rfl kw_X5 7 76 (by decide) kf_X0_76 rfl rfl dX0_findNext_40 ?_
              obtain ⟨q9, eq9, hf⟩ := st1_s hf
              rw [← eq9]
              have hk_q9 : tyo G 5 q9 := by rw [eq9]; exact hB.2.2.2.1 (5, 87, 5) (by decide) _ hk_b2
              refine lv_astore_nq (lv' := [(3, va_rf q9), (0, .ref this), (1, .int x1), (2, .ref b7)]) hx hb dX0_findNext_43 rfl hl (by decide) rfl (fun ls hl => ?_)
              refine lv_goto (tgt := 7) hx hb dX0_findNext_44 (by decide) ?_
              exact ih_7 x1 (some b7) q9 hf _ _ _ (tyo_some hk_b7) hk_q9 hB hS (lv_sub hl [1, 2, 3, 0] rfl)
          · have hf := if_f hf hc6
            refine lv_aload_n hx hb dX0_findNext_31 rfl (lv_at hl 3 rfl) ?_
            have hT := (tyo_some hk_b2)
            obtain rfl := Option.some.inj hf
            exact W.aret hx hb hr (Or.inl ⟨_, rfl⟩) (Or.inr ⟨_, rfl⟩) (fun t ht hW => c_endF X hB hT hS ht hW) hS.2.2 dX0_findNext_32 hlk
  unfold cf_X0_findNext at hf
  refine lv_null hx hb dX0_findNext_0 ?_
  refine lv_astore_nN (lv' := [(2, .null), (0, .ref this), (1, .int x1)]) hx hb dX0_findNext_1 rfl hl (by decide) rfl (fun ls hl => ?_)
  refine lv_aload_n hx hb dX0_findNext_2 rfl (lv_at hl 1 rfl) ?_
  refine c_get X hB hk_this rfl rfl kw_X0 7 64 (by decide) kf_X0_64 rfl rfl dX0_findNext_3 ?_
  obtain ⟨q1, eq1, hf⟩ := st1_s hf
  rw [← eq1]
  have hk_q1 : tyo G 5 q1 := by rw [eq1]; exact hB.2.2.2.1 (0, 7, 5) (by decide) _ hk_this
  refine lv_astore_nq (lv' := [(3, va_rf q1), (2, .null), (0, .ref this), (1, .int x1)]) hx hb dX0_findNext_6 rfl hl (by decide) rfl (fun ls hl => ?_)
  exact J_7 F x1 none q1 hf _ _ _ tyo_none hk_q1 hB hS (lv_sub hl [2, 3, 1, 0] rfl)
/-! X0_find -/
def cf_X0_find (F : Nat) (S : Cst) (this : Nat) (x1 : Int32) (x2 : Int32) : Option (Option Nat) := if x2 = 0 then ((cf_X0_findBest F S this x1).bind fun q5 => some q5) else (if x2 = (1 : Int32) then ((cf_X0_findInstant F S this x1).bind fun q4 => some q4) else ((cf_X0_findNext F S this x1).bind fun q3 => some q3))
set_option maxHeartbeats 4000000 in
set_option maxRecDepth 100000 in
theorem cm_X0_find (l : Launch) (F : Nat) (D : va_G) (ct : ClassId × ClassId × ClassId) (G : Gam) (S : Cst) (this : Nat) (x1 : Int32) (x2 : Int32) (hk_this : ty G 0 this) (r : Option Nat) (hf : cf_X0_find F S this x1 x2 = some r) : cMet l yX0_find cq_X0_find { frames := 4, cells := 0, slots := 0, locals := 90 } D ct G [.ref this, .int x1, .int x2] S (some (va_rf r)) (cF D ct G (fun G => tyo G 5 r) S) (0) (0) := by
  refine cMet_of (own := RX0) (cc := cX0_find) (maxL := 3) (ret := (some (.object "RangeArenas$Segment"))) (by decide) rfl rfl (Nat.le_of_ble_eq_true rfl) ?_
  intro p e s m below meth c X hr hlk hnm ls A hl hB hA hS
  have hx := X.1.1
  have hb := X.1.2.1
  have hown := X.1.2.2.2.1
  have hts := X.1.2.2.2.2
  have hl : lv_has ls 3 [(0, .ref this), (1, .int x1), (2, .int x2)] := hl
  generalize hargs : ([.ref this, .int x1, .int x2] : List Value).toArray = args at X hts hS ⊢
  unfold cf_X0_find at hf
  refine lv_iload_n hx hb dX0_find_0 rfl (lv_at hl 2 rfl) ?_
  refine lv_if_ne (tgt := 10) hx hb dX0_find_1 (by decide) (fun hc1 => ?_) (fun hc1 => ?_)
  · have hf := if_f hf hc1
    refine lv_iload_n hx hb dX0_find_10 rfl (lv_at hl 2 rfl) ?_
    refine lv_iconst (v := 1) hx hb dX0_find_11 (by decide) ?_
    refine lv_icmp_ne (tgt := 23) hx hb dX0_find_12 (by decide) (fun hc2 => ?_) (fun hc2 => ?_)
    · have hf := if_f hf hc2
      refine lv_aload_n hx hb dX0_find_23 rfl (lv_at hl 0 rfl) ?_
      refine lv_iload_n hx hb dX0_find_24 rfl (lv_at hl 1 rfl) ?_
      obtain ⟨q3, hqq3, hf⟩ := bn_s hf
      refine c_doF hB hS hA (va_runV (As := [.int x1]) (rest := []) X.1 (cm_X0_findNext l F D ct _ _ this x1 hk_this _ hqq3) (cwV 1 hts (gd_V km_X0_133 ki_X0_findNext ks_X0_findNext kin_RX0 kc_X0_findNext) rfl rfl rfl (by decide +kernel) ⟨by dsimp only; omega, by dsimp only; omega⟩) (c_preV X hB hk_this rfl rfl) rfl rfl hl.1 rfl (lv_room (Nat.le_of_ble_eq_true rfl)) dX0_find_25 ⟨by dsimp only; omega, by dsimp only; omega⟩) rfl (fun H locs hB hT hS => ?_)
      have hk_q3 := hT
      have hT := hk_q3
      obtain rfl := Option.some.inj hf
      exact W.aret hx hb hr (Or.inl ⟨_, rfl⟩) (va_rf_or _) (fun t ht hW => c_endF X hB hT hS ht hW) hS.2.2 dX0_find_28 hlk
    · have hf := if_t hf hc2
      refine lv_aload_n hx hb dX0_find_15 rfl (lv_at hl 0 rfl) ?_
      refine lv_iload_n hx hb dX0_find_16 rfl (lv_at hl 1 rfl) ?_
      obtain ⟨q4, hqq4, hf⟩ := bn_s hf
      refine c_doF hB hS hA (va_runV (As := [.int x1]) (rest := []) X.1 (cm_X0_findInstant l F D ct _ _ this x1 hk_this _ hqq4) (cwV 1 hts (gd_V km_X0_130 ki_X0_findInstant ks_X0_findInstant kin_RX0 kc_X0_findInstant) rfl rfl rfl (by decide +kernel) ⟨by dsimp only; omega, by dsimp only; omega⟩) (c_preV X hB hk_this rfl rfl) rfl rfl hl.1 rfl (lv_room (Nat.le_of_ble_eq_true rfl)) dX0_find_17 ⟨by dsimp only; omega, by dsimp only; omega⟩) rfl (fun H locs hB hT hS => ?_)
      have hk_q4 := hT
      refine lv_goto (tgt := 28) hx hb dX0_find_20 (by decide) ?_
      have hT := hk_q4
      obtain rfl := Option.some.inj hf
      exact W.aret hx hb hr (Or.inl ⟨_, rfl⟩) (va_rf_or _) (fun t ht hW => c_endF X hB hT hS ht hW) hS.2.2 dX0_find_28 hlk
  · have hf := if_t hf hc1
    refine lv_aload_n hx hb dX0_find_4 rfl (lv_at hl 0 rfl) ?_
    refine lv_iload_n hx hb dX0_find_5 rfl (lv_at hl 1 rfl) ?_
    obtain ⟨q5, hqq5, hf⟩ := bn_s hf
    refine c_doF hB hS hA (va_runV (As := [.int x1]) (rest := []) X.1 (cm_X0_findBest l F D ct _ _ this x1 hk_this _ hqq5) (cwV 1 hts (gd_V km_X0_126 ki_X0_findBest ks_X0_findBest kin_RX0 kc_X0_findBest) rfl rfl rfl (by decide +kernel) ⟨by dsimp only; omega, by dsimp only; omega⟩) (c_preV X hB hk_this rfl rfl) rfl rfl hl.1 rfl (lv_room (Nat.le_of_ble_eq_true rfl)) dX0_find_6 ⟨by dsimp only; omega, by dsimp only; omega⟩) rfl (fun H locs hB hT hS => ?_)
    have hk_q5 := hT
    have hT := hk_q5
    obtain rfl := Option.some.inj hf
    exact W.aret hx hb hr (Or.inl ⟨_, rfl⟩) (va_rf_or _) (fun t ht hW => c_endF X hB hT hS ht hW) hS.2.2 dX0_find_9 hlk
/-! X1_alignedFrom -/
def cf_X1_alignedFrom (F : Nat) (S : Cst) (this : Nat) (x1 : Int64) : Option Int64 := some (x1 + ((((gI S 18 this).toInt64) - x1) &&& (((gI S 17 this).toInt64) - 1)))
set_option maxHeartbeats 4000000 in
set_option maxRecDepth 100000 in
theorem cm_X1_alignedFrom (l : Launch) (F : Nat) (D : va_G) (ct : ClassId × ClassId × ClassId) (G : Gam) (S : Cst) (this : Nat) (x1 : Int64) (hk_this : ty G 1 this) (r : Int64) (hf : cf_X1_alignedFrom F S this x1 = some r) : cMet l yX1_alignedFrom cq_X1_alignedFrom { frames := 0, cells := 0, slots := 0, locals := 0 } D ct G [.ref this, .long x1] S (some (.long r)) (cF D ct G (fun _ => True) S) (0) (0) := by
  refine cMet_of (own := RX1) (cc := cX1_alignedFrom) (maxL := 3) (ret := (some .long)) (by decide) rfl rfl (Nat.le_of_ble_eq_true rfl) ?_
  intro p e s m below meth c X hr hlk hnm ls A hl hB hA hS
  have hx := X.1.1
  have hb := X.1.2.1
  have hown := X.1.2.2.2.1
  have hts := X.1.2.2.2.2
  have hl : lv_has ls 3 [(0, .ref this), (1, .long x1)] := hl
  generalize hargs : ([.ref this, .long x1] : List Value).toArray = args at X hts hS ⊢
  unfold cf_X1_alignedFrom at hf
  refine lv_lload_n hx hb dX1_alignedFrom_0 rfl (lv_at hl 1 rfl) ?_
  refine lv_aload_n hx hb dX1_alignedFrom_1 rfl (lv_at hl 0 rfl) ?_
  refine c_get X hB hk_this rfl rfl kw_X1 2 25 (by decide) kf_X1_25 rfl rfl dX1_alignedFrom_2 ?_
  refine lv_i2l (v := (gI S 18 this).toInt64) hx hb dX1_alignedFrom_5 rfl ?_
  refine lv_lload_n hx hb dX1_alignedFrom_6 rfl (lv_at hl 1 rfl) ?_
  refine lv_lsub hx hb dX1_alignedFrom_7 ?_
  refine lv_aload_n hx hb dX1_alignedFrom_8 rfl (lv_at hl 0 rfl) ?_
  refine c_get X hB hk_this rfl rfl kw_X1 1 21 (by decide) kf_X1_21 rfl rfl dX1_alignedFrom_9 ?_
  refine lv_i2l (v := (gI S 17 this).toInt64) hx hb dX1_alignedFrom_12 rfl ?_
  refine lv_lconst (v := 1) hx hb dX1_alignedFrom_13 (by decide) ?_
  refine lv_lsub hx hb dX1_alignedFrom_14 ?_
  refine lv_land hx hb dX1_alignedFrom_15 ?_
  refine lv_ladd hx hb dX1_alignedFrom_16 ?_
  obtain rfl := Option.some.inj hf
  exact W.lret hx hb hr (fun t ht hW => c_endF X hB trivial hS ht hW) hS.2.2 dX1_alignedFrom_17 hlk
/-! X1_multipleAbove -/
def cf_X1_multipleAbove (F : Nat) (S : Cst) (this : Nat) (x1 : Int64) : Option Int64 := some ((x1 ||| (((gI S 19 this).toInt64) - 1)) + 1)
set_option maxHeartbeats 4000000 in
set_option maxRecDepth 100000 in
theorem cm_X1_multipleAbove (l : Launch) (F : Nat) (D : va_G) (ct : ClassId × ClassId × ClassId) (G : Gam) (S : Cst) (this : Nat) (x1 : Int64) (hk_this : ty G 1 this) (r : Int64) (hf : cf_X1_multipleAbove F S this x1 = some r) : cMet l yX1_multipleAbove cq_X1_multipleAbove { frames := 0, cells := 0, slots := 0, locals := 0 } D ct G [.ref this, .long x1] S (some (.long r)) (cF D ct G (fun _ => True) S) (0) (0) := by
  refine cMet_of (own := RX1) (cc := cX1_multipleAbove) (maxL := 3) (ret := (some .long)) (by decide) rfl rfl (Nat.le_of_ble_eq_true rfl) ?_
  intro p e s m below meth c X hr hlk hnm ls A hl hB hA hS
  have hx := X.1.1
  have hb := X.1.2.1
  have hown := X.1.2.2.2.1
  have hts := X.1.2.2.2.2
  have hl : lv_has ls 3 [(0, .ref this), (1, .long x1)] := hl
  generalize hargs : ([.ref this, .long x1] : List Value).toArray = args at X hts hS ⊢
  unfold cf_X1_multipleAbove at hf
  refine lv_lload_n hx hb dX1_multipleAbove_0 rfl (lv_at hl 1 rfl) ?_
  refine lv_aload_n hx hb dX1_multipleAbove_1 rfl (lv_at hl 0 rfl) ?_
  refine c_get X hB hk_this rfl rfl kw_X1 3 28 (by decide) kf_X1_28 rfl rfl dX1_multipleAbove_2 ?_
  refine lv_i2l (v := (gI S 19 this).toInt64) hx hb dX1_multipleAbove_5 rfl ?_
  refine lv_lconst (v := 1) hx hb dX1_multipleAbove_6 (by decide) ?_
  refine lv_lsub hx hb dX1_multipleAbove_7 ?_
  refine lv_lor hx hb dX1_multipleAbove_8 ?_
  refine lv_lconst (v := 1) hx hb dX1_multipleAbove_9 (by decide) ?_
  refine lv_ladd hx hb dX1_multipleAbove_10 ?_
  obtain rfl := Option.some.inj hf
  exact W.lret hx hb hr (fun t ht hW => c_endF X hB trivial hS ht hW) hS.2.2 dX1_multipleAbove_11 hlk
/-! X1_crosses -/
def cf_X1_crosses (F : Nat) (S : Cst) (this : Nat) (x1 : Int64) : Option Int32 := if (gI S 19 this) = 0 then (some (0 : Int32)) else ((cf_X1_multipleAbove F S this x1).bind fun v2 => if 0 ≤ (lg_cmp v2 (x1 + (gJ S 16 this))) then (some (0 : Int32)) else (some (1 : Int32)))
set_option maxHeartbeats 4000000 in
set_option maxRecDepth 100000 in
theorem cm_X1_crosses (l : Launch) (F : Nat) (D : va_G) (ct : ClassId × ClassId × ClassId) (G : Gam) (S : Cst) (this : Nat) (x1 : Int64) (hk_this : ty G 1 this) (r : Int32) (hf : cf_X1_crosses F S this x1 = some r) : cMet l yX1_crosses cq_X1_crosses { frames := 1, cells := 0, slots := 0, locals := 22 } D ct G [.ref this, .long x1] S (some (.int r)) (cF D ct G (fun _ => True) S) (0) (0) := by
  refine cMet_of (own := RX1) (cc := cX1_crosses) (maxL := 3) (ret := (some .boolean)) (by decide) rfl rfl (Nat.le_of_ble_eq_true rfl) ?_
  intro p e s m below meth c X hr hlk hnm ls A hl hB hA hS
  have hx := X.1.1
  have hb := X.1.2.1
  have hown := X.1.2.2.2.1
  have hts := X.1.2.2.2.2
  have hl : lv_has ls 3 [(0, .ref this), (1, .long x1)] := hl
  generalize hargs : ([.ref this, .long x1] : List Value).toArray = args at X hts hS ⊢
  unfold cf_X1_crosses at hf
  refine lv_aload_n hx hb dX1_crosses_0 rfl (lv_at hl 0 rfl) ?_
  refine c_get X hB hk_this rfl rfl kw_X1 3 28 (by decide) kf_X1_28 rfl rfl dX1_crosses_1 ?_
  refine lv_if_eq (tgt := 26) hx hb dX1_crosses_4 (by decide) (fun hc1 => ?_) (fun hc1 => ?_)
  · have hf := if_t hf hc1
    refine lv_iconst (v := 0) hx hb dX1_crosses_26 (by decide) ?_
    obtain rfl := Option.some.inj hf
    exact W.zret hx hb hr rfl (fun t ht hW => c_endF X hB trivial hS ht hW) hS.2.2 dX1_crosses_27 hlk
  · have hf := if_f hf hc1
    refine lv_aload_n hx hb dX1_crosses_7 rfl (lv_at hl 0 rfl) ?_
    refine lv_lload_n hx hb dX1_crosses_8 rfl (lv_at hl 1 rfl) ?_
    obtain ⟨v2, hqv2, hf⟩ := bn_s hf
    refine c_doF hB hS hA (va_runV (As := [.long x1]) (rest := []) X.1 (cm_X1_multipleAbove l F D ct _ _ this x1 hk_this _ hqv2) (cwV 1 hts (gd_V km_X1_58 ki_X1_multipleAbove ks_X1_multipleAbove kin_RX1 kc_X1_multipleAbove) rfl rfl rfl (by decide +kernel) ⟨by dsimp only; omega, by dsimp only; omega⟩) (c_preV X hB hk_this rfl rfl) rfl rfl hl.1 rfl (lv_room (Nat.le_of_ble_eq_true rfl)) dX1_crosses_9 ⟨by dsimp only; omega, by dsimp only; omega⟩) rfl (fun H locs hB hT hS => ?_)
    refine lv_lload_n hx hb dX1_crosses_12 rfl (lv_at hl 1 rfl) ?_
    refine lv_aload_n hx hb dX1_crosses_13 rfl (lv_at hl 0 rfl) ?_
    refine c_get X hB hk_this rfl rfl kw_X1 0 15 (by decide) kf_X1_15 rfl rfl dX1_crosses_14 ?_
    refine lv_ladd hx hb dX1_crosses_17 ?_
    refine W.lcmp hx hb dX1_crosses_18 ?_
    refine lv_if_ge (tgt := 26) hx hb dX1_crosses_19 (by decide) (fun hc3 => ?_) (fun hc3 => ?_)
    · have hf := if_t hf hc3
      refine lv_iconst (v := 0) hx hb dX1_crosses_26 (by decide) ?_
      obtain rfl := Option.some.inj hf
      exact W.zret hx hb hr rfl (fun t ht hW => c_endF X hB trivial hS ht hW) hS.2.2 dX1_crosses_27 hlk
    · have hf := if_f hf hc3
      refine lv_iconst (v := 1) hx hb dX1_crosses_22 (by decide) ?_
      refine lv_goto (tgt := 27) hx hb dX1_crosses_23 (by decide) ?_
      obtain rfl := Option.some.inj hf
      exact W.zret hx hb hr rfl (fun t ht hW => c_endF X hB trivial hS ht hW) hS.2.2 dX1_crosses_27 hlk
/-! X1_baseIn -/
def cf_X1_baseIn_35 (F : Nat) (this : Nat) (S : Cst) (x1 : Option Nat) (x2 : Int64) : Option Int64 := nn x1 fun b6 => st1 (if (gI S 21 this) < ((gI S 80 b6) + (gI S 81 b6)) then (gI S 21 this) else ((gI S 80 b6) + (gI S 81 b6))) fun v7 => (cf_X1_crosses F S this x2).bind fun v8 => if v8 = 0 then (if (lg_cmp (x2 + (gJ S 16 this)) v7.toInt64) ≤ 0 then (some x2) else (some ((-1) : Int64))) else (some ((-1) : Int64))
def cf_X1_baseIn (F : Nat) (S : Cst) (this : Nat) (x1 : Option Nat) : Option Int64 := nn x1 fun b1 => st1 (if (gI S 80 b1) < (gI S 20 this) then (gI S 20 this) else (gI S 80 b1)) fun v2 => (cf_X1_alignedFrom F S this v2.toInt64).bind fun v3 => (cf_X1_crosses F S this v3).bind fun v4 => if v4 = 0 then (cf_X1_baseIn_35 F this S (some b1) v3) else ((cf_X1_multipleAbove F S this v3).bind fun v11 => (cf_X1_alignedFrom F S this v11).bind fun v12 => cf_X1_baseIn_35 F this S (some b1) v12)
set_option maxHeartbeats 4000000 in
set_option maxRecDepth 100000 in
theorem cm_X1_baseIn (l : Launch) (F : Nat) (D : va_G) (ct : ClassId × ClassId × ClassId) (G : Gam) (S : Cst) (this : Nat) (x1 : Option Nat) (hk_this : ty G 1 this) (hk_x1 : tyo G 5 x1) (r : Int64) (hf : cf_X1_baseIn F S this x1 = some r) : cMet l yX1_baseIn cq_X1_baseIn { frames := 2, cells := 0, slots := 0, locals := 44 } D ct G [.ref this, va_rf x1] S (some (.long r)) (cF D ct G (fun _ => True) S) (0) (0) := by
  refine cMet_of (own := RX1) (cc := cX1_baseIn) (maxL := 6) (ret := (some .long)) (by decide) rfl rfl (by rcases x1 with _ | _ <;> exact (Nat.le_of_ble_eq_true rfl)) ?_
  intro p e s m below meth c X hr hlk hnm ls A hl hB hA hS
  have hx := X.1.1
  have hb := X.1.2.1
  have hown := X.1.2.2.2.1
  have hts := X.1.2.2.2.2
  have hl : lv_has ls 6 [(0, .ref this), (1, va_rf x1)] := (by rcases x1 with _ | _ <;> exact hl)
  generalize hargs : ([.ref this, va_rf x1] : List Value).toArray = args at X hts hS ⊢
  have J_35 : ∀ (x1 : Option Nat) (x2 : Int64), cf_X1_baseIn_35 F this S x1 x2 = some r → ∀ (H : Heap) (locs : List Loc) (ls : Array Slot), tyo G 5 x1 → cB D ct G A S H → va_S A s.heap H locs → lv_has ls 6 [(0, .ref this), (1, va_rf x1), (2, .long x2)] → W p l e { frames := 2, cells := 0, slots := 0, locals := 44 } s m args below meth c H locs (0) (0) (MQ below (mq (some (.long r)) (cF D ct G (fun _ => True) S) A) args s (0) (0) A) (F0 m 35 ls []) := by
    intro x1 x2 hf H locs ls hk_x1 hB hS hl
    unfold cf_X1_baseIn_35 at hf
    refine lv_aload_nq hx hb dX1_baseIn_35 rfl (lv_at hl 1 rfl) ?_
    obtain ⟨b6, eb6, hf2⟩ := nn_s hf
    clear hf
    subst eb6
    have hf := hf2
    clear hf2
    have hk_b6 := hk_x1 b6 rfl
    have hl : lv_has ls 6 [(0, .ref this), (1, .ref b6), (2, .long x2)] := hl
    refine c_get X hB hk_b6 rfl rfl kw_X5 0 39 (by decide) kf_X1_39 rfl rfl dX1_baseIn_36 ?_
    refine lv_aload_n hx hb dX1_baseIn_39 rfl (lv_at hl 1 rfl) ?_
    refine c_get X hB hk_b6 rfl rfl kw_X5 1 61 (by decide) kf_X1_61 rfl rfl dX1_baseIn_40 ?_
    refine lv_iadd hx hb dX1_baseIn_43 ?_
    refine lv_aload_n hx hb dX1_baseIn_44 rfl (lv_at hl 0 rfl) ?_
    refine c_get X hB hk_this rfl rfl kw_X1 5 38 (by decide) kf_X1_38 rfl rfl dX1_baseIn_45 ?_
    refine va_mmin hx hb (X.1.2.2.1.trans hl.1.symm) hown (hts _ (kw_m km_X1_63)) (hts _ (kw_m kx_Cond_static_Lib_Math_min_name)) (hts _ (kw_m kin_java_lang_Math)) (hts _ (kw_m kx_Cond_code_Lib_Math_min_name_Lib_Math_min_code_2_some_int)) (by decide) (Nat.le_of_ble_eq_true rfl) (Nat.zero_le _) (Nat.zero_le _) dX1_baseIn_48 ?_
    obtain ⟨v7, ev7, hf⟩ := st1_s hf
    rw [← ev7]
    refine lv_i2l (v := v7.toInt64) hx hb dX1_baseIn_51 rfl ?_
    refine lv_lstore (lv' := [(4, .long v7.toInt64), (0, .ref this), (1, .ref b6), (2, .long x2)]) hx hb dX1_baseIn_52 hl (by decide) rfl (fun ls hl => ?_)
    refine lv_aload_n hx hb dX1_baseIn_54 rfl (lv_at hl 1 rfl) ?_
    refine lv_lload_n hx hb dX1_baseIn_55 rfl (lv_at hl 3 rfl) ?_
    obtain ⟨v8, hqv8, hf⟩ := bn_s hf
    refine c_doF hB hS hA (va_runV (As := [.long x2]) (rest := []) X.1 (cm_X1_crosses l F D ct _ _ this x2 hk_this _ hqv8) (cwV 1 hts (gd_V km_X1_54 ki_X1_crosses ks_X1_crosses kin_RX1 kc_X1_crosses) rfl rfl rfl (by decide +kernel) ⟨by dsimp only; omega, by dsimp only; omega⟩) (c_preV X hB hk_this rfl rfl) rfl rfl hl.1 rfl (lv_room (Nat.le_of_ble_eq_true rfl)) dX1_baseIn_56 ⟨by dsimp only; omega, by dsimp only; omega⟩) rfl (fun H locs hB hT hS => ?_)
    refine lv_if_ne (tgt := 74) hx hb dX1_baseIn_59 (by decide) (fun hc9 => ?_) (fun hc9 => ?_)
    · have hf := if_f hf hc9
      refine lv_ldc2 (v := (-1)) hx hb hown (hts (.constantLong RX1 66 (-1)) (kw_m kkl_X1_66)) dX1_baseIn_74 ?_
      refine lv_goto (tgt := 81) hx hb dX1_baseIn_77 (by decide) ?_
      obtain rfl := Option.some.inj hf
      exact W.lret hx hb hr (fun t ht hW => c_endF X hB trivial hS ht hW) hS.2.2 dX1_baseIn_81 hlk
    · have hf := if_t hf hc9
      refine lv_lload_n hx hb dX1_baseIn_62 rfl (lv_at hl 3 rfl) ?_
      refine lv_aload_n hx hb dX1_baseIn_63 rfl (lv_at hl 1 rfl) ?_
      refine c_get X hB hk_this rfl rfl kw_X1 0 15 (by decide) kf_X1_15 rfl rfl dX1_baseIn_64 ?_
      refine lv_ladd hx hb dX1_baseIn_67 ?_
      refine lv_lload hx hb dX1_baseIn_68 (lv_at hl 0 rfl) ?_
      refine W.lcmp hx hb dX1_baseIn_70 ?_
      refine lv_if_le (tgt := 80) hx hb dX1_baseIn_71 (by decide) (fun hc10 => ?_) (fun hc10 => ?_)
      · have hf := if_t hf hc10
        refine lv_lload_n hx hb dX1_baseIn_80 rfl (lv_at hl 3 rfl) ?_
        obtain rfl := Option.some.inj hf
        exact W.lret hx hb hr (fun t ht hW => c_endF X hB trivial hS ht hW) hS.2.2 dX1_baseIn_81 hlk
      · have hf := if_f hf hc10
        refine lv_ldc2 (v := (-1)) hx hb hown (hts (.constantLong RX1 66 (-1)) (kw_m kkl_X1_66)) dX1_baseIn_74 ?_
        refine lv_goto (tgt := 81) hx hb dX1_baseIn_77 (by decide) ?_
        obtain rfl := Option.some.inj hf
        exact W.lret hx hb hr (fun t ht hW => c_endF X hB trivial hS ht hW) hS.2.2 dX1_baseIn_81 hlk
  unfold cf_X1_baseIn at hf
  refine lv_aload_n hx hb dX1_baseIn_0 rfl (lv_at hl 0 rfl) ?_
  refine lv_aload_nq hx hb dX1_baseIn_1 rfl (lv_at hl 1 rfl) ?_
  obtain ⟨b1, eb1, hf2⟩ := nn_s hf
  clear hf
  subst eb1
  have hf := hf2
  clear hf2
  have hk_b1 := hk_x1 b1 rfl
  have hl : lv_has ls 6 [(0, .ref this), (1, .ref b1)] := hl
  refine c_get X hB hk_b1 rfl rfl kw_X5 0 39 (by decide) kf_X1_39 rfl rfl dX1_baseIn_2 ?_
  refine lv_aload_n hx hb dX1_baseIn_5 rfl (lv_at hl 0 rfl) ?_
  refine c_get X hB hk_this rfl rfl kw_X1 4 34 (by decide) kf_X1_34 rfl rfl dX1_baseIn_6 ?_
  refine va_mmax hx hb (X.1.2.2.1.trans hl.1.symm) hown (hts _ (kw_m km_X1_44)) (hts _ (kw_m kx_Cond_static_Lib_Math_max_name)) (hts _ (kw_m kin_java_lang_Math)) (hts _ (kw_m kx_Cond_code_Lib_Math_max_name_Lib_Math_max_code_2_some_int)) (by decide) (Nat.le_of_ble_eq_true rfl) (Nat.zero_le _) (Nat.zero_le _) dX1_baseIn_9 ?_
  obtain ⟨v2, ev2, hf⟩ := st1_s hf
  rw [← ev2]
  refine lv_i2l (v := v2.toInt64) hx hb dX1_baseIn_12 rfl ?_
  obtain ⟨v3, hqv3, hf⟩ := bn_s hf
  refine c_doF hB hS hA (va_runV (As := [.long v2.toInt64]) (rest := []) X.1 (cm_X1_alignedFrom l F D ct _ _ this v2.toInt64 hk_this _ hqv3) (cwV 1 hts (gd_V km_X1_50 ki_X1_alignedFrom ks_X1_alignedFrom kin_RX1 kc_X1_alignedFrom) rfl rfl rfl (by decide +kernel) ⟨by dsimp only; omega, by dsimp only; omega⟩) (c_preV X hB hk_this rfl rfl) rfl rfl hl.1 rfl (lv_room (Nat.le_of_ble_eq_true rfl)) dX1_baseIn_13 ⟨by dsimp only; omega, by dsimp only; omega⟩) rfl (fun H locs hB hT hS => ?_)
  refine lv_lstore_n (lv' := [(2, .long v3), (0, .ref this), (1, .ref b1)]) hx hb dX1_baseIn_16 rfl hl (by decide) rfl (fun ls hl => ?_)
  refine lv_aload_n hx hb dX1_baseIn_17 rfl (lv_at hl 1 rfl) ?_
  refine lv_lload_n hx hb dX1_baseIn_18 rfl (lv_at hl 0 rfl) ?_
  obtain ⟨v4, hqv4, hf⟩ := bn_s hf
  refine c_doF hB hS hA (va_runV (As := [.long v3]) (rest := []) X.1 (cm_X1_crosses l F D ct _ _ this v3 hk_this _ hqv4) (cwV 1 hts (gd_V km_X1_54 ki_X1_crosses ks_X1_crosses kin_RX1 kc_X1_crosses) rfl rfl rfl (by decide +kernel) ⟨by dsimp only; omega, by dsimp only; omega⟩) (c_preV X hB hk_this rfl rfl) rfl rfl hl.1 rfl (lv_room (Nat.le_of_ble_eq_true rfl)) dX1_baseIn_19 ⟨by dsimp only; omega, by dsimp only; omega⟩) rfl (fun H locs hB hT hS => ?_)
  refine lv_if_eq (tgt := 35) hx hb dX1_baseIn_22 (by decide) (fun hc5 => ?_) (fun hc5 => ?_)
  · have hf := if_t hf hc5
    exact J_35 (some b1) v3 hf _ _ _ (tyo_some hk_b1) hB hS (lv_sub hl [1, 2, 0] rfl)
  · have hf := if_f hf hc5
    refine lv_aload_n hx hb dX1_baseIn_25 rfl (lv_at hl 1 rfl) ?_
    refine lv_aload_n hx hb dX1_baseIn_26 rfl (lv_at hl 1 rfl) ?_
    refine lv_lload_n hx hb dX1_baseIn_27 rfl (lv_at hl 0 rfl) ?_
    obtain ⟨v11, hqv11, hf⟩ := bn_s hf
    refine c_doF hB hS hA (va_runV (As := [.long v3]) (rest := [.ref this]) X.1 (cm_X1_multipleAbove l F D ct _ _ this v3 hk_this _ hqv11) (cwV 1 hts (gd_V km_X1_58 ki_X1_multipleAbove ks_X1_multipleAbove kin_RX1 kc_X1_multipleAbove) rfl rfl rfl (by decide +kernel) ⟨by dsimp only; omega, by dsimp only; omega⟩) (c_preV X hB hk_this rfl rfl) rfl rfl hl.1 rfl (lv_room (Nat.le_of_ble_eq_true rfl)) dX1_baseIn_28 ⟨by dsimp only; omega, by dsimp only; omega⟩) rfl (fun H locs hB hT hS => ?_)
    obtain ⟨v12, hqv12, hf⟩ := bn_s hf
    refine c_doF hB hS hA (va_runV (As := [.long v11]) (rest := []) X.1 (cm_X1_alignedFrom l F D ct _ _ this v11 hk_this _ hqv12) (cwV 1 hts (gd_V km_X1_50 ki_X1_alignedFrom ks_X1_alignedFrom kin_RX1 kc_X1_alignedFrom) rfl rfl rfl (by decide +kernel) ⟨by dsimp only; omega, by dsimp only; omega⟩) (c_preV X hB hk_this rfl rfl) rfl rfl hl.1 rfl (lv_room (Nat.le_of_ble_eq_true rfl)) dX1_baseIn_31 ⟨by dsimp only; omega, by dsimp only; omega⟩) rfl (fun H locs hB hT hS => ?_)
    refine lv_lstore_n (lv' := [(2, .long v12), (0, .ref this), (1, .ref b1)]) hx hb dX1_baseIn_34 rfl hl (by decide) rfl (fun ls hl => ?_)
    exact J_35 (some b1) v12 hf _ _ _ (tyo_some hk_b1) hB hS (lv_sub hl [1, 2, 0] rfl)
/-! X0_leastWithin -/
def cf_X0_leastWithin_42 (F : Nat) (this : Nat) (k_7 : Option Nat → Option Nat → Option Nat → Option (Option Nat)) (S : Cst) (x1 : Option Nat) (x2 : Option Nat) (x3 : Option Nat) (y0 : Int32) : Option (Option Nat) := if y0 = 0 then (nn x3 fun b7 => st1 (gP S 87 b7) fun q8 => k_7 x1 x2 q8) else (nn x1 fun b9 => (cf_X1_baseIn F S b9 x3).bind fun v10 => if (lg_cmp v10 (-1)) = 0 then (nn x3 fun b12 => st1 (gP S 87 b12) fun q13 => k_7 (some b9) x2 q13) else (nn x3 fun b14 => st1 (gP S 87 b14) fun q15 => k_7 (some b9) (some b14) q15))
def cf_X0_leastWithin_7 (F : Nat) (this : Nat) (S : Cst) : Nat → Option Nat → Option Nat → Option Nat → Option (Option Nat)
  | 0 => fun _ _ _ => none
  | n + 1 => fun x1 x2 x3 => nc x3 (some x2) (fun b2 => nn x1 fun b3 => (cf_X5_isFreeFor F S b2 (gJ S 16 b3)).bind fun v4 => if v4 = 0 then (cf_X0_leastWithin_42 F this (cf_X0_leastWithin_7 F this S n) S (some b3) x2 (some b2) (0 : Int32)) else (nc x2 (cf_X0_leastWithin_42 F this (cf_X0_leastWithin_7 F this S n) S (some b3) none (some b2) (1 : Int32)) (fun b16 => if (gI S 81 b16) ≤ (gI S 81 b2) then (cf_X0_leastWithin_42 F this (cf_X0_leastWithin_7 F this S n) S (some b3) (some b16) (some b2) (0 : Int32)) else (cf_X0_leastWithin_42 F this (cf_X0_leastWithin_7 F this S n) S (some b3) (some b16) (some b2) (1 : Int32)))))
def cf_X0_leastWithin (F : Nat) (S : Cst) (this : Nat) (x1 : Option Nat) : Option (Option Nat) := st1 (gP S 7 this) fun q1 => cf_X0_leastWithin_7 F this S F x1 none q1
set_option maxHeartbeats 4000000 in
set_option maxRecDepth 100000 in
theorem cm_X0_leastWithin (l : Launch) (F : Nat) (D : va_G) (ct : ClassId × ClassId × ClassId) (G : Gam) (S : Cst) (this : Nat) (x1 : Option Nat) (hk_this : ty G 0 this) (hk_x1 : tyo G 1 x1) (r : Option Nat) (hf : cf_X0_leastWithin F S this x1 = some r) : cMet l yX0_leastWithin cq_X0_leastWithin { frames := 3, cells := 0, slots := 0, locals := 69 } D ct G [.ref this, va_rf x1] S (some (va_rf r)) (cF D ct G (fun G => tyo G 5 r) S) (0) (0) := by
  refine cMet_of (own := RX0) (cc := cX0_leastWithin) (maxL := 5) (ret := (some (.object "RangeArenas$Segment"))) (by decide) rfl rfl (by rcases x1 with _ | _ <;> exact (Nat.le_of_ble_eq_true rfl)) ?_
  intro p e s m below meth c X hr hlk hnm ls A hl hB hA hS
  have hx := X.1.1
  have hb := X.1.2.1
  have hown := X.1.2.2.2.1
  have hts := X.1.2.2.2.2
  have hl : lv_has ls 5 [(0, .ref this), (1, va_rf x1)] := (by rcases x1 with _ | _ <;> exact hl)
  generalize hargs : ([.ref this, va_rf x1] : List Value).toArray = args at X hts hS ⊢
  have J_7 : ∀ (n_7 : Nat) (x1 : Option Nat) (x2 : Option Nat) (x3 : Option Nat), cf_X0_leastWithin_7 F this S n_7 x1 x2 x3 = some r → ∀ (H : Heap) (locs : List Loc) (ls : Array Slot), tyo G 1 x1 → tyo G 5 x2 → tyo G 5 x3 → cB D ct G A S H → va_S A s.heap H locs → lv_has ls 5 [(1, va_rf x1), (2, va_rf x2), (3, va_rf x3)] → W p l e { frames := 3, cells := 0, slots := 0, locals := 69 } s m args below meth c H locs (0) (0) (MQ below (mq (some (va_rf r)) (cF D ct G (fun G => tyo G 5 r) S) A) args s (0) (0) A) (F0 m 7 ls []) := by
    intro n_7
    induction n_7 with
    | zero => intro x1 x2 x3 hf; cases hf
    | succ n_7 ih_7 =>
      intro x1 x2 x3 hf H locs ls hk_x1 hk_x2 hk_x3 hB hS hl
      rw [cf_X0_leastWithin_7] at hf
      have J_42 : ∀ (x1 : Option Nat) (x2 : Option Nat) (x3 : Option Nat) (y0 : Int32), cf_X0_leastWithin_42 F this (cf_X0_leastWithin_7 F this S n_7) S x1 x2 x3 y0 = some r → ∀ (H : Heap) (locs : List Loc) (ls : Array Slot), tyo G 1 x1 → tyo G 5 x2 → tyo G 5 x3 → cB D ct G A S H → va_S A s.heap H locs → lv_has ls 5 [(1, va_rf x1), (2, va_rf x2), (3, va_rf x3)] → W p l e { frames := 3, cells := 0, slots := 0, locals := 69 } s m args below meth c H locs (0) (0) (MQ below (mq (some (va_rf r)) (cF D ct G (fun G => tyo G 5 r) S) A) args s (0) (0) A) (F0 m 42 ls [.int y0]) := by
        intro x1 x2 x3 y0 hf H locs ls hk_x1 hk_x2 hk_x3 hB hS hl
        unfold cf_X0_leastWithin_42 at hf
        refine lv_istore (lv' := [(4, .int y0), (1, va_rf x1), (2, va_rf x2), (3, va_rf x3)]) hx hb dX0_leastWithin_42 hl (by decide) (by rcases x3 with _ | _ <;> exact rfl) (fun ls hl => ?_)
        refine lv_iload hx hb dX0_leastWithin_44 (lv_at hl 0 rfl) ?_
        refine lv_if_eq (tgt := 63) hx hb dX0_leastWithin_46 (by decide) (fun hc6 => ?_) (fun hc6 => ?_)
        · have hf := if_t hf hc6
          refine lv_aload_nq hx hb dX0_leastWithin_63 rfl (lv_at hl 3 rfl) ?_
          obtain ⟨b7, eb7, hf2⟩ := nn_s hf
          clear hf
          subst eb7
          have hf := hf2
          clear hf2
          have hk_b7 := hk_x3 b7 rfl
          have hl : lv_has ls 5 [(4, .int y0), (1, va_rf x1), (2, va_rf x2), (3, .ref b7)] := hl
          refine c_get X hB hk_b7 rfl rfl kw_X5 7 76 (by decide) kf_X0_76 rfl rfl dX0_leastWithin_64 ?_
          obtain ⟨q8, eq8, hf⟩ := st1_s hf
          rw [← eq8]
          have hk_q8 : tyo G 5 q8 := by rw [eq8]; exact hB.2.2.2.1 (5, 87, 5) (by decide) _ hk_b7
          refine lv_astore_nq (lv' := [(3, va_rf q8), (4, .int y0), (1, va_rf x1), (2, va_rf x2)]) hx hb dX0_leastWithin_67 rfl hl (by decide) (by rcases x2 with _ | _ <;> exact rfl) (fun ls hl => ?_)
          refine lv_goto (tgt := 7) hx hb dX0_leastWithin_68 (by decide) ?_
          exact ih_7 x1 x2 q8 hf _ _ _ hk_x1 hk_x2 hk_q8 hB hS (lv_sub hl [2, 3, 0] rfl)
        · have hf := if_f hf hc6
          refine lv_aload_nq hx hb dX0_leastWithin_49 rfl (lv_at hl 1 rfl) ?_
          refine lv_aload_nq hx hb dX0_leastWithin_50 rfl (lv_at hl 3 rfl) ?_
          obtain ⟨b9, eb9, hf2⟩ := nn_s hf
          clear hf
          subst eb9
          have hf := hf2
          clear hf2
          have hk_b9 := hk_x1 b9 rfl
          have hl : lv_has ls 5 [(4, .int y0), (1, .ref b9), (2, va_rf x2), (3, va_rf x3)] := hl
          obtain ⟨v10, hqv10, hf⟩ := bn_s hf
          refine c_doF hB hS hA (va_runV (As := [va_rf x3]) (rest := []) X.1 (cm_X1_baseIn l F D ct _ _ b9 x3 hk_b9 hk_x3 _ hqv10) (cwV 1 hts (gd_V km_X0_158 ki_X1_baseIn ks_X1_baseIn kin_RX1 kc_X1_baseIn) rfl rfl rfl (by decide +kernel) ⟨by dsimp only; omega, by dsimp only; omega⟩) (c_preV X hB hk_b9 rfl rfl) rfl rfl hl.1 rfl (lv_room (Nat.le_of_ble_eq_true rfl)) dX0_leastWithin_51 ⟨by dsimp only; omega, by dsimp only; omega⟩) rfl (fun H locs hB hT hS => ?_)
          refine lv_ldc2 (v := (-1)) hx hb hown (hts (.constantLong RX0 162 (-1)) (kw_m kkl_X0_162)) dX0_leastWithin_54 ?_
          refine W.lcmp hx hb dX0_leastWithin_57 ?_
          refine lv_if_eq (tgt := 63) hx hb dX0_leastWithin_58 (by decide) (fun hc11 => ?_) (fun hc11 => ?_)
          · have hf := if_t hf hc11
            refine lv_aload_nq hx hb dX0_leastWithin_63 rfl (lv_at hl 3 rfl) ?_
            obtain ⟨b12, eb12, hf2⟩ := nn_s hf
            clear hf
            subst eb12
            have hf := hf2
            clear hf2
            have hk_b12 := hk_x3 b12 rfl
            have hl : lv_has ls 5 [(4, .int y0), (1, .ref b9), (2, va_rf x2), (3, .ref b12)] := hl
            refine c_get X hB hk_b12 rfl rfl kw_X5 7 76 (by decide) kf_X0_76 rfl rfl dX0_leastWithin_64 ?_
            obtain ⟨q13, eq13, hf⟩ := st1_s hf
            rw [← eq13]
            have hk_q13 : tyo G 5 q13 := by rw [eq13]; exact hB.2.2.2.1 (5, 87, 5) (by decide) _ hk_b12
            refine lv_astore_nq (lv' := [(3, va_rf q13), (4, .int y0), (1, .ref b9), (2, va_rf x2)]) hx hb dX0_leastWithin_67 rfl hl (by decide) (by rcases x2 with _ | _ <;> exact rfl) (fun ls hl => ?_)
            refine lv_goto (tgt := 7) hx hb dX0_leastWithin_68 (by decide) ?_
            exact ih_7 (some b9) x2 q13 hf _ _ _ (tyo_some hk_b9) hk_x2 hk_q13 hB hS (lv_sub hl [2, 3, 0] rfl)
          · have hf := if_f hf hc11
            refine lv_aload_nq hx hb dX0_leastWithin_61 rfl (lv_at hl 3 rfl) ?_
            refine lv_astore_nq (lv' := [(2, va_rf x3), (4, .int y0), (1, .ref b9), (3, va_rf x3)]) hx hb dX0_leastWithin_62 rfl hl (by decide) rfl (fun ls hl => ?_)
            refine lv_aload_nq hx hb dX0_leastWithin_63 rfl (lv_at hl 3 rfl) ?_
            obtain ⟨b14, eb14, hf2⟩ := nn_s hf
            clear hf
            subst eb14
            have hf := hf2
            clear hf2
            have hk_b14 := hk_x3 b14 rfl
            have hl : lv_has ls 5 [(2, .ref b14), (4, .int y0), (1, .ref b9), (3, .ref b14)] := hl
            refine c_get X hB hk_b14 rfl rfl kw_X5 7 76 (by decide) kf_X0_76 rfl rfl dX0_leastWithin_64 ?_
            obtain ⟨q15, eq15, hf⟩ := st1_s hf
            rw [← eq15]
            have hk_q15 : tyo G 5 q15 := by rw [eq15]; exact hB.2.2.2.1 (5, 87, 5) (by decide) _ hk_b14
            refine lv_astore_nq (lv' := [(3, va_rf q15), (2, .ref b14), (4, .int y0), (1, .ref b9)]) hx hb dX0_leastWithin_67 rfl hl (by decide) rfl (fun ls hl => ?_)
            refine lv_goto (tgt := 7) hx hb dX0_leastWithin_68 (by decide) ?_
            exact ih_7 (some b9) (some b14) q15 hf _ _ _ (tyo_some hk_b9) (tyo_some hk_b14) hk_q15 hB hS (lv_sub hl [3, 1, 0] rfl)
      refine lv_aload_nq hx hb dX0_leastWithin_7 rfl (lv_at hl 2 rfl) ?_
      rcases x3 with _ | b2
      · have hf := nc_n hf
        have hl : lv_has ls 5 [(1, va_rf x1), (2, va_rf x2), (3, .null)] := hl
        refine lv_ifnullN (tgt := 71) hx hb dX0_leastWithin_8 (by decide) ?_
        refine lv_aload_nq hx hb dX0_leastWithin_71 rfl (lv_at hl 1 rfl) ?_
        have hT := hk_x2
        obtain rfl := Option.some.inj hf
        exact W.aret hx hb hr (Or.inl ⟨_, rfl⟩) (va_rf_or _) (fun t ht hW => c_endF X hB hT hS ht hW) hS.2.2 dX0_leastWithin_72 hlk
      · have hf := nc_b hf
        have hk_b2 := hk_x3 b2 rfl
        have hl : lv_has ls 5 [(1, va_rf x1), (2, va_rf x2), (3, .ref b2)] := hl
        refine lv_ifnull hx hb dX0_leastWithin_8 ?_
        refine lv_aload_n hx hb dX0_leastWithin_11 rfl (lv_at hl 2 rfl) ?_
        refine lv_aload_nq hx hb dX0_leastWithin_12 rfl (lv_at hl 0 rfl) ?_
        obtain ⟨b3, eb3, hf2⟩ := nn_s hf
        clear hf
        subst eb3
        have hf := hf2
        clear hf2
        have hk_b3 := hk_x1 b3 rfl
        have hl : lv_has ls 5 [(1, .ref b3), (2, va_rf x2), (3, .ref b2)] := hl
        refine c_get X hB hk_b3 rfl rfl kw_X1 0 153 (by decide) kf_X0_153 rfl rfl dX0_leastWithin_13 ?_
        obtain ⟨v4, hqv4, hf⟩ := bn_s hf
        refine c_doF hB hS hA (va_runV (As := [.long (gJ S 16 b3)]) (rest := []) X.1 (cm_X5_isFreeFor l F D ct _ _ b2 (gJ S 16 b3) hk_b2 _ hqv4) (cwV 1 hts (gd_V km_X0_136 ki_X5_isFreeFor ks_X5_isFreeFor kin_RX5 kc_X5_isFreeFor) rfl rfl rfl (by decide +kernel) ⟨by dsimp only; omega, by dsimp only; omega⟩) (c_preV X hB hk_b2 rfl rfl) rfl rfl hl.1 rfl (lv_room (Nat.le_of_ble_eq_true rfl)) dX0_leastWithin_16 ⟨by dsimp only; omega, by dsimp only; omega⟩) rfl (fun H locs hB hT hS => ?_)
        refine lv_if_eq (tgt := 41) hx hb dX0_leastWithin_19 (by decide) (fun hc5 => ?_) (fun hc5 => ?_)
        · have hf := if_t hf hc5
          refine lv_iconst (v := 0) hx hb dX0_leastWithin_41 (by decide) ?_
          exact J_42 (some b3) x2 (some b2) (0 : Int32) hf _ _ _ (tyo_some hk_b3) hk_x2 (tyo_some hk_b2) hB hS (lv_sub hl [0, 1, 2] rfl)
        · have hf := if_f hf hc5
          refine lv_aload_nq hx hb dX0_leastWithin_22 rfl (lv_at hl 1 rfl) ?_
          rcases x2 with _ | b16
          · have hf := nc_n hf
            have hl : lv_has ls 5 [(1, .ref b3), (2, .null), (3, .ref b2)] := hl
            refine lv_ifnullN (tgt := 37) hx hb dX0_leastWithin_23 (by decide) ?_
            refine lv_iconst (v := 1) hx hb dX0_leastWithin_37 (by decide) ?_
            refine lv_goto (tgt := 42) hx hb dX0_leastWithin_38 (by decide) ?_
            exact J_42 (some b3) none (some b2) (1 : Int32) hf _ _ _ (tyo_some hk_b3) tyo_none (tyo_some hk_b2) hB hS (lv_sub hl [0, 1, 2] rfl)
          · have hf := nc_b hf
            have hk_b16 := hk_x2 b16 rfl
            have hl : lv_has ls 5 [(1, .ref b3), (2, .ref b16), (3, .ref b2)] := hl
            refine lv_ifnull hx hb dX0_leastWithin_23 ?_
            refine lv_aload_n hx hb dX0_leastWithin_26 rfl (lv_at hl 2 rfl) ?_
            refine c_get X hB hk_b2 rfl rfl kw_X5 1 73 (by decide) kf_X0_73 rfl rfl dX0_leastWithin_27 ?_
            refine lv_aload_n hx hb dX0_leastWithin_30 rfl (lv_at hl 1 rfl) ?_
            refine c_get X hB hk_b16 rfl rfl kw_X5 1 73 (by decide) kf_X0_73 rfl rfl dX0_leastWithin_31 ?_
            refine lv_icmp_ge (tgt := 41) hx hb dX0_leastWithin_34 (by decide) (fun hc17 => ?_) (fun hc17 => ?_)
            · have hf := if_t hf hc17
              refine lv_iconst (v := 0) hx hb dX0_leastWithin_41 (by decide) ?_
              exact J_42 (some b3) (some b16) (some b2) (0 : Int32) hf _ _ _ (tyo_some hk_b3) (tyo_some hk_b16) (tyo_some hk_b2) hB hS (lv_sub hl [0, 1, 2] rfl)
            · have hf := if_f hf hc17
              refine lv_iconst (v := 1) hx hb dX0_leastWithin_37 (by decide) ?_
              refine lv_goto (tgt := 42) hx hb dX0_leastWithin_38 (by decide) ?_
              exact J_42 (some b3) (some b16) (some b2) (1 : Int32) hf _ _ _ (tyo_some hk_b3) (tyo_some hk_b16) (tyo_some hk_b2) hB hS (lv_sub hl [0, 1, 2] rfl)
  unfold cf_X0_leastWithin at hf
  refine lv_null hx hb dX0_leastWithin_0 ?_
  refine lv_astore_nN (lv' := [(2, .null), (0, .ref this), (1, va_rf x1)]) hx hb dX0_leastWithin_1 rfl hl (by decide) (by rcases x1 with _ | _ <;> exact rfl) (fun ls hl => ?_)
  refine lv_aload_n hx hb dX0_leastWithin_2 rfl (lv_at hl 1 rfl) ?_
  refine c_get X hB hk_this rfl rfl kw_X0 7 64 (by decide) kf_X0_64 rfl rfl dX0_leastWithin_3 ?_
  obtain ⟨q1, eq1, hf⟩ := st1_s hf
  rw [← eq1]
  have hk_q1 : tyo G 5 q1 := by rw [eq1]; exact hB.2.2.2.1 (0, 7, 5) (by decide) _ hk_this
  refine lv_astore_nq (lv' := [(3, va_rf q1), (2, .null), (0, .ref this), (1, va_rf x1)]) hx hb dX0_leastWithin_6 rfl hl (by decide) rfl (fun ls hl => ?_)
  exact J_7 F x1 none q1 hf _ _ _ hk_x1 tyo_none hk_q1 hB hS (lv_sub hl [3, 1, 0] rfl)
/-! X0_nth -/
def cf_X0_nth_7 (F : Nat) (this : Nat) (S : Cst) : Nat → Int32 → Option Nat → Option (Option Nat)
  | 0 => fun _ _ => none
  | n + 1 => fun x2 x3 => nc x3 (some none) (fun b2 => if x2 < 0 then (some none) else (if x2 = 0 then (some (some b2)) else (st1 (gP S 87 b2) fun q5 => (cf_X0_nth_7 F this S n) (x2 + (-1)) q5)))
def cf_X0_nth (F : Nat) (S : Cst) (this : Nat) (x1 : Int32) : Option (Option Nat) := st1 (gP S 7 this) fun q1 => cf_X0_nth_7 F this S F x1 q1
set_option maxHeartbeats 4000000 in
set_option maxRecDepth 100000 in
theorem cm_X0_nth (l : Launch) (F : Nat) (D : va_G) (ct : ClassId × ClassId × ClassId) (G : Gam) (S : Cst) (this : Nat) (x1 : Int32) (hk_this : ty G 0 this) (r : Option Nat) (hf : cf_X0_nth F S this x1 = some r) : cMet l yX0_nth cq_X0_nth { frames := 0, cells := 0, slots := 0, locals := 0 } D ct G [.ref this, .int x1] S (some (va_rf r)) (cF D ct G (fun G => tyo G 5 r) S) (0) (0) := by
  refine cMet_of (own := RX0) (cc := cX0_nth) (maxL := 4) (ret := (some (.object "RangeArenas$Segment"))) (by decide) rfl rfl (Nat.le_of_ble_eq_true rfl) ?_
  intro p e s m below meth c X hr hlk hnm ls A hl hB hA hS
  have hx := X.1.1
  have hb := X.1.2.1
  have hown := X.1.2.2.2.1
  have hts := X.1.2.2.2.2
  have hl : lv_has ls 4 [(0, .ref this), (1, .int x1)] := hl
  generalize hargs : ([.ref this, .int x1] : List Value).toArray = args at X hts hS ⊢
  have J_7 : ∀ (n_7 : Nat) (x2 : Int32) (x3 : Option Nat), cf_X0_nth_7 F this S n_7 x2 x3 = some r → ∀ (H : Heap) (locs : List Loc) (ls : Array Slot), tyo G 5 x3 → cB D ct G A S H → va_S A s.heap H locs → lv_has ls 4 [(2, .int x2), (3, va_rf x3)] → W p l e { frames := 0, cells := 0, slots := 0, locals := 0 } s m args below meth c H locs (0) (0) (MQ below (mq (some (va_rf r)) (cF D ct G (fun G => tyo G 5 r) S) A) args s (0) (0) A) (F0 m 7 ls []) := by
    intro n_7
    induction n_7 with
    | zero => intro x2 x3 hf; cases hf
    | succ n_7 ih_7 =>
      intro x2 x3 hf H locs ls hk_x3 hB hS hl
      rw [cf_X0_nth_7] at hf
      refine lv_aload_nq hx hb dX0_nth_7 rfl (lv_at hl 1 rfl) ?_
      rcases x3 with _ | b2
      · have hf := nc_n hf
        have hl : lv_has ls 4 [(2, .int x2), (3, .null)] := hl
        refine lv_ifnullN (tgt := 32) hx hb dX0_nth_8 (by decide) ?_
        refine lv_null hx hb dX0_nth_32 ?_
        obtain rfl := Option.some.inj hf
        exact W.aret hx hb hr (Or.inl ⟨_, rfl⟩) (Or.inl rfl) (fun t ht hW => c_endF X hB tyo_none hS ht hW) hS.2.2 dX0_nth_33 hlk
      · have hf := nc_b hf
        have hk_b2 := hk_x3 b2 rfl
        have hl : lv_has ls 4 [(2, .int x2), (3, .ref b2)] := hl
        refine lv_ifnull hx hb dX0_nth_8 ?_
        refine lv_iload_n hx hb dX0_nth_11 rfl (lv_at hl 0 rfl) ?_
        refine lv_if_lt (tgt := 32) hx hb dX0_nth_12 (by decide) (fun hc3 => ?_) (fun hc3 => ?_)
        · have hf := if_t hf hc3
          refine lv_null hx hb dX0_nth_32 ?_
          obtain rfl := Option.some.inj hf
          exact W.aret hx hb hr (Or.inl ⟨_, rfl⟩) (Or.inl rfl) (fun t ht hW => c_endF X hB tyo_none hS ht hW) hS.2.2 dX0_nth_33 hlk
        · have hf := if_f hf hc3
          refine lv_iload_n hx hb dX0_nth_15 rfl (lv_at hl 0 rfl) ?_
          refine lv_if_ne (tgt := 21) hx hb dX0_nth_16 (by decide) (fun hc4 => ?_) (fun hc4 => ?_)
          · have hf := if_f hf hc4
            refine lv_iinc (v := x2 + (-1)) (lv' := [(2, .int (x2 + (-1))), (3, .ref b2)]) hx hb dX0_nth_21 hl (k := 0) rfl rfl (by decide) rfl (fun ls hl => ?_)
            refine lv_aload_n hx hb dX0_nth_24 rfl (lv_at hl 1 rfl) ?_
            refine c_get X hB hk_b2 rfl rfl kw_X5 7 76 (by decide) kf_X0_76 rfl rfl dX0_nth_25 ?_
            obtain ⟨q5, eq5, hf⟩ := st1_s hf
            rw [← eq5]
            have hk_q5 : tyo G 5 q5 := by rw [eq5]; exact hB.2.2.2.1 (5, 87, 5) (by decide) _ hk_b2
            refine lv_astore_nq (lv' := [(3, va_rf q5), (2, .int (x2 + (-1)))]) hx hb dX0_nth_28 rfl hl (by decide) rfl (fun ls hl => ?_)
            refine lv_goto (tgt := 7) hx hb dX0_nth_29 (by decide) ?_
            exact ih_7 (x2 + (-1)) q5 hf _ _ _ hk_q5 hB hS (lv_sub hl [1, 0] rfl)
          · have hf := if_t hf hc4
            refine lv_aload_n hx hb dX0_nth_19 rfl (lv_at hl 1 rfl) ?_
            have hT := (tyo_some hk_b2)
            obtain rfl := Option.some.inj hf
            exact W.aret hx hb hr (Or.inl ⟨_, rfl⟩) (Or.inr ⟨_, rfl⟩) (fun t ht hW => c_endF X hB hT hS ht hW) hS.2.2 dX0_nth_20 hlk
  unfold cf_X0_nth at hf
  refine lv_iload_n hx hb dX0_nth_0 rfl (lv_at hl 1 rfl) ?_
  refine lv_istore_n (lv' := [(2, .int x1), (0, .ref this), (1, .int x1)]) hx hb dX0_nth_1 rfl hl (by decide) rfl (fun ls hl => ?_)
  refine lv_aload_n hx hb dX0_nth_2 rfl (lv_at hl 1 rfl) ?_
  refine c_get X hB hk_this rfl rfl kw_X0 7 64 (by decide) kf_X0_64 rfl rfl dX0_nth_3 ?_
  obtain ⟨q1, eq1, hf⟩ := st1_s hf
  rw [← eq1]
  have hk_q1 : tyo G 5 q1 := by rw [eq1]; exact hB.2.2.2.1 (0, 7, 5) (by decide) _ hk_this
  refine lv_astore_nq (lv' := [(3, va_rf q1), (2, .int x1), (0, .ref this), (1, .int x1)]) hx hb dX0_nth_6 rfl hl (by decide) rfl (fun ls hl => ?_)
  exact J_7 F x1 q1 hf _ _ _ hk_q1 hB hS (lv_sub hl [1, 0] rfl)
/-! X0_holding -/
def cf_X0_holding_5 (F : Nat) (this : Nat) (S : Cst) : Nat → Int32 → Option Nat → Option (Option Nat)
  | 0 => fun _ _ => none
  | n + 1 => fun x1 x2 => nc x2 (some none) (fun b2 => if x1 < (gI S 80 b2) then (st1 (gP S 87 b2) fun q4 => (cf_X0_holding_5 F this S n) x1 q4) else (if (gI S 81 b2) ≤ (x1 - (gI S 80 b2)) then (st1 (gP S 87 b2) fun q6 => (cf_X0_holding_5 F this S n) x1 q6) else (some (some b2))))
def cf_X0_holding (F : Nat) (S : Cst) (this : Nat) (x1 : Int32) : Option (Option Nat) := st1 (gP S 7 this) fun q1 => cf_X0_holding_5 F this S F x1 q1
set_option maxHeartbeats 4000000 in
set_option maxRecDepth 100000 in
theorem cm_X0_holding (l : Launch) (F : Nat) (D : va_G) (ct : ClassId × ClassId × ClassId) (G : Gam) (S : Cst) (this : Nat) (x1 : Int32) (hk_this : ty G 0 this) (r : Option Nat) (hf : cf_X0_holding F S this x1 = some r) : cMet l yX0_holding cq_X0_holding { frames := 0, cells := 0, slots := 0, locals := 0 } D ct G [.ref this, .int x1] S (some (va_rf r)) (cF D ct G (fun G => tyo G 5 r) S) (0) (0) := by
  refine cMet_of (own := RX0) (cc := cX0_holding) (maxL := 3) (ret := (some (.object "RangeArenas$Segment"))) (by decide) rfl rfl (Nat.le_of_ble_eq_true rfl) ?_
  intro p e s m below meth c X hr hlk hnm ls A hl hB hA hS
  have hx := X.1.1
  have hb := X.1.2.1
  have hown := X.1.2.2.2.1
  have hts := X.1.2.2.2.2
  have hl : lv_has ls 3 [(0, .ref this), (1, .int x1)] := hl
  generalize hargs : ([.ref this, .int x1] : List Value).toArray = args at X hts hS ⊢
  have J_5 : ∀ (n_5 : Nat) (x1 : Int32) (x2 : Option Nat), cf_X0_holding_5 F this S n_5 x1 x2 = some r → ∀ (H : Heap) (locs : List Loc) (ls : Array Slot), tyo G 5 x2 → cB D ct G A S H → va_S A s.heap H locs → lv_has ls 3 [(1, .int x1), (2, va_rf x2)] → W p l e { frames := 0, cells := 0, slots := 0, locals := 0 } s m args below meth c H locs (0) (0) (MQ below (mq (some (va_rf r)) (cF D ct G (fun G => tyo G 5 r) S) A) args s (0) (0) A) (F0 m 5 ls []) := by
    intro n_5
    induction n_5 with
    | zero => intro x1 x2 hf; cases hf
    | succ n_5 ih_5 =>
      intro x1 x2 hf H locs ls hk_x2 hB hS hl
      rw [cf_X0_holding_5] at hf
      refine lv_aload_nq hx hb dX0_holding_5 rfl (lv_at hl 1 rfl) ?_
      rcases x2 with _ | b2
      · have hf := nc_n hf
        have hl : lv_has ls 3 [(1, .int x1), (2, .null)] := hl
        refine lv_ifnullN (tgt := 40) hx hb dX0_holding_6 (by decide) ?_
        refine lv_null hx hb dX0_holding_40 ?_
        obtain rfl := Option.some.inj hf
        exact W.aret hx hb hr (Or.inl ⟨_, rfl⟩) (Or.inl rfl) (fun t ht hW => c_endF X hB tyo_none hS ht hW) hS.2.2 dX0_holding_41 hlk
      · have hf := nc_b hf
        have hk_b2 := hk_x2 b2 rfl
        have hl : lv_has ls 3 [(1, .int x1), (2, .ref b2)] := hl
        refine lv_ifnull hx hb dX0_holding_6 ?_
        refine lv_iload_n hx hb dX0_holding_9 rfl (lv_at hl 0 rfl) ?_
        refine lv_aload_n hx hb dX0_holding_10 rfl (lv_at hl 1 rfl) ?_
        refine c_get X hB hk_b2 rfl rfl kw_X5 0 68 (by decide) kf_X0_68 rfl rfl dX0_holding_11 ?_
        refine lv_icmp_lt (tgt := 32) hx hb dX0_holding_14 (by decide) (fun hc3 => ?_) (fun hc3 => ?_)
        · have hf := if_t hf hc3
          refine lv_aload_n hx hb dX0_holding_32 rfl (lv_at hl 1 rfl) ?_
          refine c_get X hB hk_b2 rfl rfl kw_X5 7 76 (by decide) kf_X0_76 rfl rfl dX0_holding_33 ?_
          obtain ⟨q4, eq4, hf⟩ := st1_s hf
          rw [← eq4]
          have hk_q4 : tyo G 5 q4 := by rw [eq4]; exact hB.2.2.2.1 (5, 87, 5) (by decide) _ hk_b2
          refine lv_astore_nq (lv' := [(2, va_rf q4), (1, .int x1)]) hx hb dX0_holding_36 rfl hl (by decide) rfl (fun ls hl => ?_)
          refine lv_goto (tgt := 5) hx hb dX0_holding_37 (by decide) ?_
          exact ih_5 x1 q4 hf _ _ _ hk_q4 hB hS (lv_sub hl [1, 0] rfl)
        · have hf := if_f hf hc3
          refine lv_iload_n hx hb dX0_holding_17 rfl (lv_at hl 0 rfl) ?_
          refine lv_aload_n hx hb dX0_holding_18 rfl (lv_at hl 1 rfl) ?_
          refine c_get X hB hk_b2 rfl rfl kw_X5 0 68 (by decide) kf_X0_68 rfl rfl dX0_holding_19 ?_
          refine lv_isub hx hb dX0_holding_22 ?_
          refine lv_aload_n hx hb dX0_holding_23 rfl (lv_at hl 1 rfl) ?_
          refine c_get X hB hk_b2 rfl rfl kw_X5 1 73 (by decide) kf_X0_73 rfl rfl dX0_holding_24 ?_
          refine lv_icmp_ge (tgt := 32) hx hb dX0_holding_27 (by decide) (fun hc5 => ?_) (fun hc5 => ?_)
          · have hf := if_t hf hc5
            refine lv_aload_n hx hb dX0_holding_32 rfl (lv_at hl 1 rfl) ?_
            refine c_get X hB hk_b2 rfl rfl kw_X5 7 76 (by decide) kf_X0_76 rfl rfl dX0_holding_33 ?_
            obtain ⟨q6, eq6, hf⟩ := st1_s hf
            rw [← eq6]
            have hk_q6 : tyo G 5 q6 := by rw [eq6]; exact hB.2.2.2.1 (5, 87, 5) (by decide) _ hk_b2
            refine lv_astore_nq (lv' := [(2, va_rf q6), (1, .int x1)]) hx hb dX0_holding_36 rfl hl (by decide) rfl (fun ls hl => ?_)
            refine lv_goto (tgt := 5) hx hb dX0_holding_37 (by decide) ?_
            exact ih_5 x1 q6 hf _ _ _ hk_q6 hB hS (lv_sub hl [1, 0] rfl)
          · have hf := if_f hf hc5
            refine lv_aload_n hx hb dX0_holding_30 rfl (lv_at hl 1 rfl) ?_
            have hT := (tyo_some hk_b2)
            obtain rfl := Option.some.inj hf
            exact W.aret hx hb hr (Or.inl ⟨_, rfl⟩) (Or.inr ⟨_, rfl⟩) (fun t ht hW => c_endF X hB hT hS ht hW) hS.2.2 dX0_holding_31 hlk
  unfold cf_X0_holding at hf
  refine lv_aload_n hx hb dX0_holding_0 rfl (lv_at hl 0 rfl) ?_
  refine c_get X hB hk_this rfl rfl kw_X0 7 64 (by decide) kf_X0_64 rfl rfl dX0_holding_1 ?_
  obtain ⟨q1, eq1, hf⟩ := st1_s hf
  rw [← eq1]
  have hk_q1 : tyo G 5 q1 := by rw [eq1]; exact hB.2.2.2.1 (0, 7, 5) (by decide) _ hk_this
  refine lv_astore_nq (lv' := [(2, va_rf q1), (0, .ref this), (1, .int x1)]) hx hb dX0_holding_4 rfl hl (by decide) rfl (fun ls hl => ?_)
  exact J_5 F x1 q1 hf _ _ _ hk_q1 hB hS (lv_sub hl [2, 0] rfl)
/-! X0_segmentFrom -/
def cf_X0_segmentFrom_47 (F : Nat) (this : Nat) (S : Cst) (x5 : Option Nat) (y0 : Int32) : Option (Option Nat) := if y0 = 0 then (some none) else (some x5)
def cf_X0_segmentFrom (F : Nat) (S : Cst) (this : Nat) (x1 : Int32) (x2 : Int64) (x4 : Int32) : Option (Option Nat) := (cf_X0_holding F S this x1).bind fun q1 => nc q1 (cf_X0_segmentFrom_47 F this S none (0 : Int32)) (fun b2 => if (gI S 80 b2) = x1 then (if (lg_cmp ((gI S 81 b2).toInt64) x2) = 0 then (if (gI S 82 b2) = x4 then (cf_X0_segmentFrom_47 F this S (some b2) (1 : Int32)) else (cf_X0_segmentFrom_47 F this S (some b2) (0 : Int32))) else (cf_X0_segmentFrom_47 F this S (some b2) (0 : Int32))) else (cf_X0_segmentFrom_47 F this S (some b2) (0 : Int32)))
set_option maxHeartbeats 4000000 in
set_option maxRecDepth 100000 in
theorem cm_X0_segmentFrom (l : Launch) (F : Nat) (D : va_G) (ct : ClassId × ClassId × ClassId) (G : Gam) (S : Cst) (this : Nat) (x1 : Int32) (x2 : Int64) (x4 : Int32) (hk_this : ty G 0 this) (r : Option Nat) (hf : cf_X0_segmentFrom F S this x1 x2 x4 = some r) : cMet l yX0_segmentFrom cq_X0_segmentFrom { frames := 1, cells := 0, slots := 0, locals := 22 } D ct G [.ref this, .int x1, .long x2, .int x4] S (some (va_rf r)) (cF D ct G (fun G => tyo G 5 r) S) (0) (0) := by
  refine cMet_of (own := RX0) (cc := cX0_segmentFrom) (maxL := 7) (ret := (some (.object "RangeArenas$Segment"))) (by decide) rfl rfl (Nat.le_of_ble_eq_true rfl) ?_
  intro p e s m below meth c X hr hlk hnm ls A hl hB hA hS
  have hx := X.1.1
  have hb := X.1.2.1
  have hown := X.1.2.2.2.1
  have hts := X.1.2.2.2.2
  have hl : lv_has ls 7 [(0, .ref this), (1, .int x1), (2, .long x2), (4, .int x4)] := hl
  generalize hargs : ([.ref this, .int x1, .long x2, .int x4] : List Value).toArray = args at X hts hS ⊢
  have J_47 : ∀ (x5 : Option Nat) (y0 : Int32), cf_X0_segmentFrom_47 F this S x5 y0 = some r → ∀ (H : Heap) (locs : List Loc) (ls : Array Slot), tyo G 5 x5 → cB D ct G A S H → va_S A s.heap H locs → lv_has ls 7 [(5, va_rf x5)] → W p l e { frames := 1, cells := 0, slots := 0, locals := 22 } s m args below meth c H locs (0) (0) (MQ below (mq (some (va_rf r)) (cF D ct G (fun G => tyo G 5 r) S) A) args s (0) (0) A) (F0 m 47 ls [.int y0]) := by
    intro x5 y0 hf H locs ls hk_x5 hB hS hl
    unfold cf_X0_segmentFrom_47 at hf
    refine lv_istore (lv' := [(6, .int y0), (5, va_rf x5)]) hx hb dX0_segmentFrom_47 hl (by decide) (by rcases x5 with _ | _ <;> exact rfl) (fun ls hl => ?_)
    refine lv_iload hx hb dX0_segmentFrom_49 (lv_at hl 0 rfl) ?_
    refine lv_if_eq (tgt := 59) hx hb dX0_segmentFrom_51 (by decide) (fun hc3 => ?_) (fun hc3 => ?_)
    · have hf := if_t hf hc3
      refine lv_null hx hb dX0_segmentFrom_59 ?_
      obtain rfl := Option.some.inj hf
      exact W.aret hx hb hr (Or.inl ⟨_, rfl⟩) (Or.inl rfl) (fun t ht hW => c_endF X hB tyo_none hS ht hW) hS.2.2 dX0_segmentFrom_60 hlk
    · have hf := if_f hf hc3
      refine lv_aloadq hx hb dX0_segmentFrom_54 (lv_at hl 1 rfl) ?_
      refine lv_goto (tgt := 60) hx hb dX0_segmentFrom_56 (by decide) ?_
      have hT := hk_x5
      obtain rfl := Option.some.inj hf
      exact W.aret hx hb hr (Or.inl ⟨_, rfl⟩) (va_rf_or _) (fun t ht hW => c_endF X hB hT hS ht hW) hS.2.2 dX0_segmentFrom_60 hlk
  unfold cf_X0_segmentFrom at hf
  refine lv_aload_n hx hb dX0_segmentFrom_0 rfl (lv_at hl 0 rfl) ?_
  refine lv_iload_n hx hb dX0_segmentFrom_1 rfl (lv_at hl 1 rfl) ?_
  obtain ⟨q1, hqq1, hf⟩ := bn_s hf
  refine c_doF hB hS hA (va_runV (As := [.int x1]) (rest := []) X.1 (cm_X0_holding l F D ct _ _ this x1 hk_this _ hqq1) (cwV 1 hts (gd_V km_X0_164 ki_X0_holding ks_X0_holding kin_RX0 kc_X0_holding) rfl rfl rfl (by decide +kernel) ⟨by dsimp only; omega, by dsimp only; omega⟩) (c_preV X hB hk_this rfl rfl) rfl rfl hl.1 rfl (lv_room (Nat.le_of_ble_eq_true rfl)) dX0_segmentFrom_2 ⟨by dsimp only; omega, by dsimp only; omega⟩) rfl (fun H locs hB hT hS => ?_)
  have hk_q1 := hT
  refine lv_astoreq (lv' := [(5, va_rf q1), (0, .ref this), (1, .int x1), (2, .long x2), (4, .int x4)]) hx hb dX0_segmentFrom_5 hl (by decide) rfl (fun ls hl => ?_)
  refine lv_aloadq hx hb dX0_segmentFrom_7 (lv_at hl 0 rfl) ?_
  rcases q1 with _ | b2
  · have hf := nc_n hf
    have hl : lv_has ls 7 [(5, .null), (0, .ref this), (1, .int x1), (2, .long x2), (4, .int x4)] := hl
    refine lv_ifnullN (tgt := 46) hx hb dX0_segmentFrom_9 (by decide) ?_
    refine lv_iconst (v := 0) hx hb dX0_segmentFrom_46 (by decide) ?_
    exact J_47 none (0 : Int32) hf _ _ _ tyo_none hB hS (lv_sub hl [0] rfl)
  · have hf := nc_b hf
    have hk_b2 := hk_q1 b2 rfl
    have hl : lv_has ls 7 [(5, .ref b2), (0, .ref this), (1, .int x1), (2, .long x2), (4, .int x4)] := hl
    refine lv_ifnull hx hb dX0_segmentFrom_9 ?_
    refine lv_aload hx hb dX0_segmentFrom_12 (lv_at hl 0 rfl) ?_
    refine c_get X hB hk_b2 rfl rfl kw_X5 0 68 (by decide) kf_X0_68 rfl rfl dX0_segmentFrom_14 ?_
    refine lv_iload_n hx hb dX0_segmentFrom_17 rfl (lv_at hl 2 rfl) ?_
    refine lv_icmp_ne (tgt := 46) hx hb dX0_segmentFrom_18 (by decide) (fun hc4 => ?_) (fun hc4 => ?_)
    · have hf := if_f hf hc4
      refine lv_iconst (v := 0) hx hb dX0_segmentFrom_46 (by decide) ?_
      exact J_47 (some b2) (0 : Int32) hf _ _ _ (tyo_some hk_b2) hB hS (lv_sub hl [0] rfl)
    · have hf := if_t hf hc4
      refine lv_aload hx hb dX0_segmentFrom_21 (lv_at hl 0 rfl) ?_
      refine c_get X hB hk_b2 rfl rfl kw_X5 1 73 (by decide) kf_X0_73 rfl rfl dX0_segmentFrom_23 ?_
      refine lv_i2l (v := (gI S 81 b2).toInt64) hx hb dX0_segmentFrom_26 rfl ?_
      refine lv_lload_n hx hb dX0_segmentFrom_27 rfl (lv_at hl 3 rfl) ?_
      refine W.lcmp hx hb dX0_segmentFrom_28 ?_
      refine lv_if_ne (tgt := 46) hx hb dX0_segmentFrom_29 (by decide) (fun hc5 => ?_) (fun hc5 => ?_)
      · have hf := if_f hf hc5
        refine lv_iconst (v := 0) hx hb dX0_segmentFrom_46 (by decide) ?_
        exact J_47 (some b2) (0 : Int32) hf _ _ _ (tyo_some hk_b2) hB hS (lv_sub hl [0] rfl)
      · have hf := if_t hf hc5
        refine lv_aload hx hb dX0_segmentFrom_32 (lv_at hl 0 rfl) ?_
        refine c_get X hB hk_b2 rfl rfl kw_X5 2 116 (by decide) kf_X0_116 rfl rfl dX0_segmentFrom_34 ?_
        refine lv_iload hx hb dX0_segmentFrom_37 (lv_at hl 4 rfl) ?_
        refine lv_icmp_ne (tgt := 46) hx hb dX0_segmentFrom_39 (by decide) (fun hc6 => ?_) (fun hc6 => ?_)
        · have hf := if_f hf hc6
          refine lv_iconst (v := 0) hx hb dX0_segmentFrom_46 (by decide) ?_
          exact J_47 (some b2) (0 : Int32) hf _ _ _ (tyo_some hk_b2) hB hS (lv_sub hl [0] rfl)
        · have hf := if_t hf hc6
          refine lv_iconst (v := 1) hx hb dX0_segmentFrom_42 (by decide) ?_
          refine lv_goto (tgt := 47) hx hb dX0_segmentFrom_43 (by decide) ?_
          exact J_47 (some b2) (1 : Int32) hf _ _ _ (tyo_some hk_b2) hB hS (lv_sub hl [0] rfl)
/-! X5_isSlabOf -/
def cf_X5_isSlabOf (F : Nat) (S : Cst) (this : Nat) (x1 : Option Nat) : Option Int32 := if (gI S 82 this) = (2 : Int32) then (nn x1 fun b2 => if (gI S 88 this) = (gI S 32 b2) then (some (1 : Int32)) else (some (0 : Int32))) else (some (0 : Int32))
set_option maxHeartbeats 4000000 in
set_option maxRecDepth 100000 in
theorem cm_X5_isSlabOf (l : Launch) (F : Nat) (D : va_G) (ct : ClassId × ClassId × ClassId) (G : Gam) (S : Cst) (this : Nat) (x1 : Option Nat) (hk_this : ty G 5 this) (hk_x1 : tyo G 2 x1) (r : Int32) (hf : cf_X5_isSlabOf F S this x1 = some r) : cMet l yX5_isSlabOf cq_X5_isSlabOf { frames := 0, cells := 0, slots := 0, locals := 0 } D ct G [.ref this, va_rf x1] S (some (.int r)) (cF D ct G (fun _ => True) S) (0) (0) := by
  refine cMet_of (own := RX5) (cc := cX5_isSlabOf) (maxL := 2) (ret := (some .boolean)) (by decide) rfl rfl (by rcases x1 with _ | _ <;> exact (Nat.le_of_ble_eq_true rfl)) ?_
  intro p e s m below meth c X hr hlk hnm ls A hl hB hA hS
  have hx := X.1.1
  have hb := X.1.2.1
  have hown := X.1.2.2.2.1
  have hts := X.1.2.2.2.2
  have hl : lv_has ls 2 [(0, .ref this), (1, va_rf x1)] := (by rcases x1 with _ | _ <;> exact hl)
  generalize hargs : ([.ref this, va_rf x1] : List Value).toArray = args at X hts hS ⊢
  unfold cf_X5_isSlabOf at hf
  refine lv_aload_n hx hb dX5_isSlabOf_0 rfl (lv_at hl 0 rfl) ?_
  refine c_get X hB hk_this rfl rfl kw_X5 2 24 (by decide) kf_X5_24 rfl rfl dX5_isSlabOf_1 ?_
  refine lv_iconst (v := 2) hx hb dX5_isSlabOf_4 (by decide) ?_
  refine lv_icmp_ne (tgt := 23) hx hb dX5_isSlabOf_5 (by decide) (fun hc1 => ?_) (fun hc1 => ?_)
  · have hf := if_f hf hc1
    refine lv_iconst (v := 0) hx hb dX5_isSlabOf_23 (by decide) ?_
    obtain rfl := Option.some.inj hf
    exact W.zret hx hb hr rfl (fun t ht hW => c_endF X hB trivial hS ht hW) hS.2.2 dX5_isSlabOf_24 hlk
  · have hf := if_t hf hc1
    refine lv_aload_n hx hb dX5_isSlabOf_8 rfl (lv_at hl 0 rfl) ?_
    refine c_get X hB hk_this rfl rfl kw_X5 8 27 (by decide) kf_X5_27 rfl rfl dX5_isSlabOf_9 ?_
    refine lv_aload_nq hx hb dX5_isSlabOf_12 rfl (lv_at hl 1 rfl) ?_
    obtain ⟨b2, eb2, hf2⟩ := nn_s hf
    clear hf
    subst eb2
    have hf := hf2
    clear hf2
    have hk_b2 := hk_x1 b2 rfl
    have hl : lv_has ls 2 [(0, .ref this), (1, .ref b2)] := hl
    refine c_get X hB hk_b2 rfl rfl kw_X2 0 30 (by decide) kf_X5_30 rfl rfl dX5_isSlabOf_13 ?_
    refine lv_icmp_ne (tgt := 23) hx hb dX5_isSlabOf_16 (by decide) (fun hc3 => ?_) (fun hc3 => ?_)
    · have hf := if_f hf hc3
      refine lv_iconst (v := 0) hx hb dX5_isSlabOf_23 (by decide) ?_
      obtain rfl := Option.some.inj hf
      exact W.zret hx hb hr rfl (fun t ht hW => c_endF X hB trivial hS ht hW) hS.2.2 dX5_isSlabOf_24 hlk
    · have hf := if_t hf hc3
      refine lv_iconst (v := 1) hx hb dX5_isSlabOf_19 (by decide) ?_
      refine lv_goto (tgt := 24) hx hb dX5_isSlabOf_20 (by decide) ?_
      obtain rfl := Option.some.inj hf
      exact W.zret hx hb hr rfl (fun t ht hW => c_endF X hB trivial hS ht hW) hS.2.2 dX5_isSlabOf_24 hlk
/-! X0_slabHolding -/
def cf_X0_slabHolding (F : Nat) (S : Cst) (this : Nat) (x1 : Option Nat) (x2 : Int32) : Option (Option Nat) := (cf_X0_holding F S this x2).bind fun q1 => nc q1 (some none) (fun b2 => (cf_X5_isSlabOf F S b2 x1).bind fun v3 => if v3 = 0 then (some none) else (some (some b2)))
set_option maxHeartbeats 4000000 in
set_option maxRecDepth 100000 in
theorem cm_X0_slabHolding (l : Launch) (F : Nat) (D : va_G) (ct : ClassId × ClassId × ClassId) (G : Gam) (S : Cst) (this : Nat) (x1 : Option Nat) (x2 : Int32) (hk_this : ty G 0 this) (hk_x1 : tyo G 2 x1) (r : Option Nat) (hf : cf_X0_slabHolding F S this x1 x2 = some r) : cMet l yX0_slabHolding cq_X0_slabHolding { frames := 1, cells := 0, slots := 0, locals := 22 } D ct G [.ref this, va_rf x1, .int x2] S (some (va_rf r)) (cF D ct G (fun G => tyo G 5 r) S) (0) (0) := by
  refine cMet_of (own := RX0) (cc := cX0_slabHolding) (maxL := 4) (ret := (some (.object "RangeArenas$Segment"))) (by decide) rfl rfl (by rcases x1 with _ | _ <;> exact (Nat.le_of_ble_eq_true rfl)) ?_
  intro p e s m below meth c X hr hlk hnm ls A hl hB hA hS
  have hx := X.1.1
  have hb := X.1.2.1
  have hown := X.1.2.2.2.1
  have hts := X.1.2.2.2.2
  have hl : lv_has ls 4 [(0, .ref this), (1, va_rf x1), (2, .int x2)] := (by rcases x1 with _ | _ <;> exact hl)
  generalize hargs : ([.ref this, va_rf x1, .int x2] : List Value).toArray = args at X hts hS ⊢
  unfold cf_X0_slabHolding at hf
  refine lv_aload_n hx hb dX0_slabHolding_0 rfl (lv_at hl 0 rfl) ?_
  refine lv_iload_n hx hb dX0_slabHolding_1 rfl (lv_at hl 2 rfl) ?_
  obtain ⟨q1, hqq1, hf⟩ := bn_s hf
  refine c_doF hB hS hA (va_runV (As := [.int x2]) (rest := []) X.1 (cm_X0_holding l F D ct _ _ this x2 hk_this _ hqq1) (cwV 1 hts (gd_V km_X0_164 ki_X0_holding ks_X0_holding kin_RX0 kc_X0_holding) rfl rfl rfl (by decide +kernel) ⟨by dsimp only; omega, by dsimp only; omega⟩) (c_preV X hB hk_this rfl rfl) rfl rfl hl.1 rfl (lv_room (Nat.le_of_ble_eq_true rfl)) dX0_slabHolding_2 ⟨by dsimp only; omega, by dsimp only; omega⟩) rfl (fun H locs hB hT hS => ?_)
  have hk_q1 := hT
  refine lv_astore_nq (lv' := [(3, va_rf q1), (0, .ref this), (1, va_rf x1), (2, .int x2)]) hx hb dX0_slabHolding_5 rfl hl (by decide) rfl (fun ls hl => ?_)
  refine lv_aload_nq hx hb dX0_slabHolding_6 rfl (lv_at hl 0 rfl) ?_
  rcases q1 with _ | b2
  · have hf := nc_n hf
    have hl : lv_has ls 4 [(3, .null), (0, .ref this), (1, va_rf x1), (2, .int x2)] := hl
    refine lv_ifnullN (tgt := 22) hx hb dX0_slabHolding_7 (by decide) ?_
    refine lv_null hx hb dX0_slabHolding_22 ?_
    obtain rfl := Option.some.inj hf
    exact W.aret hx hb hr (Or.inl ⟨_, rfl⟩) (Or.inl rfl) (fun t ht hW => c_endF X hB tyo_none hS ht hW) hS.2.2 dX0_slabHolding_23 hlk
  · have hf := nc_b hf
    have hk_b2 := hk_q1 b2 rfl
    have hl : lv_has ls 4 [(3, .ref b2), (0, .ref this), (1, va_rf x1), (2, .int x2)] := hl
    refine lv_ifnull hx hb dX0_slabHolding_7 ?_
    refine lv_aload_n hx hb dX0_slabHolding_10 rfl (lv_at hl 0 rfl) ?_
    refine lv_aload_nq hx hb dX0_slabHolding_11 rfl (lv_at hl 2 rfl) ?_
    obtain ⟨v3, hqv3, hf⟩ := bn_s hf
    refine c_doF hB hS hA (va_runV (As := [va_rf x1]) (rest := []) X.1 (cm_X5_isSlabOf l F D ct _ _ b2 x1 hk_b2 hk_x1 _ hqv3) (cwV 1 hts (gd_V km_X0_167 ki_X5_isSlabOf ks_X5_isSlabOf kin_RX5 kc_X5_isSlabOf) rfl rfl rfl (by decide +kernel) ⟨by dsimp only; omega, by dsimp only; omega⟩) (c_preV X hB hk_b2 rfl rfl) rfl rfl hl.1 rfl (lv_room (Nat.le_of_ble_eq_true rfl)) dX0_slabHolding_12 ⟨by dsimp only; omega, by dsimp only; omega⟩) rfl (fun H locs hB hT hS => ?_)
    refine lv_if_eq (tgt := 22) hx hb dX0_slabHolding_15 (by decide) (fun hc4 => ?_) (fun hc4 => ?_)
    · have hf := if_t hf hc4
      refine lv_null hx hb dX0_slabHolding_22 ?_
      obtain rfl := Option.some.inj hf
      exact W.aret hx hb hr (Or.inl ⟨_, rfl⟩) (Or.inl rfl) (fun t ht hW => c_endF X hB tyo_none hS ht hW) hS.2.2 dX0_slabHolding_23 hlk
    · have hf := if_f hf hc4
      refine lv_aload_n hx hb dX0_slabHolding_18 rfl (lv_at hl 0 rfl) ?_
      refine lv_goto (tgt := 23) hx hb dX0_slabHolding_19 (by decide) ?_
      have hT := (tyo_some hk_b2)
      obtain rfl := Option.some.inj hf
      exact W.aret hx hb hr (Or.inl ⟨_, rfl⟩) (Or.inr ⟨_, rfl⟩) (fun t ht hW => c_endF X hB hT hS ht hW) hS.2.2 dX0_slabHolding_23 hlk
