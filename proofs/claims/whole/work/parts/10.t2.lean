/-! X6_giveWithin -/
def cf_X6_giveWithin (F : Nat) (S : Cst) (this : Nat) (x1 : Int32) (x2 : Int32) (x3 : Int32) : Option (Thr Int32) := (cf_X6_arenaAt F S this x1).bind fun z1 => tr z1 fun z1v z1S => if x3 ≤ 0 then (some (.inl (2, z1S))) else (nn z1v fun b3 => (cf_X0_roundUp F z1S b3 x3).bind fun v4 => (cf_X6_giveSegment F z1S (some b3) x2 v4 (4 : Int32)).bind fun z5 => st2 z5 fun z5v z5S => if z5v = 0 then (some (.inl (2, z5S))) else (some (.inr ((0 : Int32), z5S))))
set_option maxHeartbeats 4000000 in
set_option maxRecDepth 100000 in
theorem cm_X6_giveWithin (l : Launch) (F : Nat) (hl0 : l.stackTraces = false) (D : va_G) (ct : ClassId × ClassId × ClassId) (b0 : Nat) (G : Gam) (S : Cst) (this : Nat) (x1 : Int32) (x2 : Int32) (x3 : Int32) (hk_this : ty G 6 this) (hb : ∀ a ∈ G.1, b0 ≤ a) (hbn : b0 ≤ nx S) (res : Thr Int32) (hf : cf_X6_giveWithin F S this x1 x2 x3 = some res) : xMet l yX6_giveWithin cq_X6_giveWithin { frames := 7, cells := 2, slots := 12, locals := 122 } D ct G b0 [.ref this, .int x1, .int x2, .int x3] S (fun r : Int32 => some (.int r)) (fun _ _ => True) res 2 12 := by
  refine xMet_of (own := RX6) (cc := cX6_giveWithin) (maxL := 5) (ret := (some .int)) hb hbn (by decide) rfl rfl (Nat.le_of_ble_eq_true rfl) ?_
  intro p e s m below meth c X hr hlk htab Z ls A hl hB hA hAb hS
  have hx := X.1.1
  have hb := X.1.2.1
  have hown := X.1.2.2.2.1
  have hts := X.1.2.2.2.2
  have hl : lv_has ls 5 [(0, .ref this), (1, .int x1), (2, .int x2), (3, .int x3)] := hl
  generalize hargs : ([.ref this, .int x1, .int x2, .int x3] : List Value).toArray = args at X hts hS ⊢
  have hsz := hB.2.2.1
  obtain ⟨G0, eG0⟩ : ∃ z, z = G := ⟨_, rfl⟩
  obtain ⟨S0, eS0⟩ : ∃ z, z = S := ⟨_, rfl⟩
  have hext : ext G0 (nx S0) G := by rw [eG0]; exact ext_rf
  rw [← eS0] at hsz
  suffices hgoal : W p l e { frames := 7, cells := 2, slots := 12, locals := 122 } s m args below meth c s.heap [] (0) (0) (vx_MQ below (tQ (fun r : Int32 => some (.int r)) D ct G0 (nx S0) (fun _ _ => True) A res) (tX D ct G0 (nx S0) A res) args s 2 12 A) (F0 m 0 ls []) by rw [eG0, eS0] at hgoal; exact hgoal
  unfold cf_X6_giveWithin at hf
  refine lv_aload_n hx hb dX6_giveWithin_0 rfl (lv_at hl 0 rfl) ?_
  refine lv_iload_n hx hb dX6_giveWithin_1 rfl (lv_at hl 1 rfl) ?_
  obtain ⟨z1, hqz1, hf⟩ := bn_s hf
  have hle : nx S0 ≤ nx S := by rw [← hsz, ← hB.2.2.1]; exact hS.1
  refine t_do hB hS hA hext hle htab hlk (vx_runV (As := [.int x1]) (rest := []) X.1 (cm_X6_arenaAt l F hl0 D ct b0 _ _ this x1 hk_this (fun a ha => hAb a (c_in hB ha)) (hAb _ (hA _ (by rw [← hB.2.2.1]; exact hS.1))) _ hqz1) (cwV 1 hts (gd_V km_X6_43 ki_X6_arenaAt ks_X6_arenaAt kin_RX6 kc_X6_arenaAt) rfl rfl rfl (by decide +kernel) ⟨by dsimp only; omega, by dsimp only; omega⟩) (t_preV X Z hB hS hAb hk_this rfl rfl) rfl rfl hl.1 rfl (lv_room (Nat.le_of_ble_eq_true rfl)) dX6_giveWithin_2 ⟨by dsimp only; omega, by dsimp only; omega⟩) (fun w hw => by subst hw; exact tr_l hf) (by omega) (by omega) (fun z1v z1S hz G H locs hx1 hB2 hT hS => ?_)
  subst hz
  have hf := tr_r hf
  have hext := hext.trans hx1 hle
  have hk_this := hx1.1 _ _ hk_this
  have hB := hB2
  clear hB2
  have hk_z1v := hT
  refine W.widen (k := 1) (n := 6) (by omega) (by omega) ?_
  refine W.eq (g2 := F0 m 5 ls [va_rf z1v]) rfl ?_
  refine lv_astoreq (lv' := [(4, va_rf z1v), (0, .ref this), (1, .int x1), (2, .int x2), (3, .int x3)]) hx hb dX6_giveWithin_5 hl (by decide) rfl (fun ls hl => ?_)
  refine lv_iload_n hx hb dX6_giveWithin_7 rfl (lv_at hl 4 rfl) ?_
  refine lv_if_le (tgt := 27) hx hb dX6_giveWithin_8 (by decide) (fun hc2 => ?_) (fun hc2 => ?_)
  · have hf := if_t hf hc2
    obtain rfl := Option.some.inj hf
    exact t_throw X Z hl0 hB hS hext hAb htab hlk hl 2 rfl (text := "no such range by takeWithin") (is := 142) (by decide +kernel) (by decide +kernel) kcl_X6_24 kin_java_lang_IllegalArgumentException Z.2.1.1 th_w_IAE th_n_IAE th_g_IAE dX6_giveWithin_27 dX6_giveWithin_30 dX6_giveWithin_31 dX6_giveWithin_33 dX6_giveWithin_36 (by decide) (Nat.le_of_ble_eq_true rfl) (by dsimp only; omega) (by dsimp only; omega) (by omega) (by omega)
  · have hf := if_f hf hc2
    refine lv_aloadq hx hb dX6_giveWithin_11 (lv_at hl 0 rfl) ?_
    refine lv_iload_n hx hb dX6_giveWithin_13 rfl (lv_at hl 3 rfl) ?_
    refine lv_aloadq hx hb dX6_giveWithin_14 (lv_at hl 0 rfl) ?_
    refine lv_iload_n hx hb dX6_giveWithin_16 rfl (lv_at hl 4 rfl) ?_
    obtain ⟨b3, eb3, hf2⟩ := nn_s hf
    clear hf
    subst eb3
    have hf := hf2
    clear hf2
    have hk_b3 := hk_z1v b3 rfl
    have hl : lv_has ls 5 [(4, .ref b3), (0, .ref this), (1, .int x1), (2, .int x2), (3, .int x3)] := hl
    obtain ⟨v4, hqv4, hf⟩ := bn_s hf
    refine c_doF hB hS hA (va_runV (As := [.int x3]) (rest := [.int x2, .ref b3]) X.1 (cm_X0_roundUp l F D ct _ _ b3 x3 hk_b3 _ hqv4) (cwV 1 hts (gd_V km_X6_73 ki_X0_roundUp ks_X0_roundUp kin_RX0 kc_X0_roundUp) rfl rfl rfl (by decide +kernel) ⟨by dsimp only; omega, by dsimp only; omega⟩) (c_preV X hB hk_b3 rfl rfl) rfl rfl hl.1 rfl (lv_room (Nat.le_of_ble_eq_true rfl)) dX6_giveWithin_17 ⟨by dsimp only; omega, by dsimp only; omega⟩) rfl (fun H locs hB hT hS => ?_)
    refine lv_iconst (v := 4) hx hb dX6_giveWithin_20 (by decide) ?_
    obtain ⟨⟨z5v, z5S⟩, hqz5, hf⟩ := bn_s hf
    have hf := st2_s hf
    refine c_doF hB hS hA (va_runS (As := [va_rf (some b3), .int x2, .long v4, .int 4]) (rest := []) X.1 (cm_X6_giveSegment l F D ct _ _ (some b3) x2 v4 (4 : Int32) (tyo_some hk_b3) _ _ hqz5) (va_cwS 4 hts (gd_S km_X6_100 kst_X6_giveSegment kin_RX6 kc_X6_giveSegment) rfl rfl rfl (by decide +kernel) ⟨by dsimp only; omega, by dsimp only; omega⟩) (c_preS X hB) rfl rfl hl.1 rfl (lv_room (Nat.le_of_ble_eq_true rfl)) dX6_giveWithin_21 ⟨by dsimp only; omega, by dsimp only; omega⟩) rfl (fun H locs hB hT hS => ?_)
    refine lv_if_ne (tgt := 37) hx hb dX6_giveWithin_24 (by decide) (fun hc6 => ?_) (fun hc6 => ?_)
    · have hf := if_f hf hc6
      refine lv_iconst (v := 0) hx hb dX6_giveWithin_37 (by decide) ?_
      obtain rfl := Option.some.inj hf
      refine W.widen (k := 2) (n := 12) (by omega) (by omega) ?_
      refine vx_ret ?_
      exact W.iret hx hb hr (fun t ht hW => c_endE X hext hB trivial hS ht hW) hS.2.2 dX6_giveWithin_38 hlk
    · have hf := if_t hf hc6
      obtain rfl := Option.some.inj hf
      exact t_throw X Z hl0 hB hS hext hAb htab hlk hl 2 rfl (text := "no such range by takeWithin") (is := 142) (by decide +kernel) (by decide +kernel) kcl_X6_24 kin_java_lang_IllegalArgumentException Z.2.1.1 th_w_IAE th_n_IAE th_g_IAE dX6_giveWithin_27 dX6_giveWithin_30 dX6_giveWithin_31 dX6_giveWithin_33 dX6_giveWithin_36 (by decide) (Nat.le_of_ble_eq_true rfl) (by dsimp only; omega) (by dsimp only; omega) (by omega) (by omega)
/-! X6_make -/
def cf_X6_make_72 (F : Nat) (this : Nat) (S : Cst) (x1 : Int32) (x3 : Int32) (x4 : Option Nat) : Option (Thr Int32) := if (gI S 97 this) < 0 then (some (.inr (((-1) : Int32), S))) else (st1 (gP S 96 this) fun q10 => nn q10 fun b11 => if (gI S 97 this) < (Int32.ofNat (gN S b11)) then (st1 (gP S 96 this) fun q13 => st1 (nx S) fun a14 => st1 (nO S) fun S15 => (cf_X0_init F S15 a14 (gI S 97 this) x1 x4 x3).bind fun S16 => nn q13 fun b17 => cqw S16 b17 (gI S 97 this) (some a14) fun S18 => st1 (sI S18 97 this ((gI S 97 this) + 1)) fun S19 => some (.inr ((gI S 97 this), S19))) else (some (.inr (((-1) : Int32), S))))
def cf_X6_make (F : Nat) (S : Cst) (this : Nat) (x1 : Int32) (x2 : Int32) (x3 : Int32) : Option (Thr Int32) := (cf_X6_isPowerOfTwo F S x1).bind fun v1 => if v1 = 0 then (some (.inl (2, S))) else (if (65536 : Int32) < x1 then (some (.inl (2, S))) else (if x3 < 0 then (some (.inl (2, S))) else (if x3 ≤ (8 : Int32) then ((cf_X6_arenaOrNull F S this x2).bind fun q6 => nc q6 (if x2 = ((-1) : Int32) then (cf_X6_make_72 F this S x1 x3 none) else (some (.inl (2, S)))) (fun b7 => if x1 ≤ (gI S 1 b7) then (cf_X6_make_72 F this S x1 x3 (some b7)) else (some (.inl (2, S))))) else (some (.inl (2, S))))))
set_option maxHeartbeats 4000000 in
set_option maxRecDepth 100000 in
theorem cm_X6_make (l : Launch) (F : Nat) (hl0 : l.stackTraces = false) (D : va_G) (ct : ClassId × ClassId × ClassId) (b0 : Nat) (G : Gam) (S : Cst) (this : Nat) (x1 : Int32) (x2 : Int32) (x3 : Int32) (hk_this : ty G 6 this) (hb : ∀ a ∈ G.1, b0 ≤ a) (hbn : b0 ≤ nx S) (res : Thr Int32) (hf : cf_X6_make F S this x1 x2 x3 = some res) : xMet l yX6_make cq_X6_make { frames := 6, cells := 120, slots := 740, locals := 127 } D ct G b0 [.ref this, .int x1, .int x2, .int x3] S (fun r : Int32 => some (.int r)) (fun _ _ => True) res 120 740 := by
  refine xMet_of (own := RX6) (cc := cX6_make) (maxL := 6) (ret := (some .int)) hb hbn (by decide) rfl rfl (Nat.le_of_ble_eq_true rfl) ?_
  intro p e s m below meth c X hr hlk htab Z ls A hl hB hA hAb hS
  have hx := X.1.1
  have hb := X.1.2.1
  have hown := X.1.2.2.2.1
  have hts := X.1.2.2.2.2
  have hl : lv_has ls 6 [(0, .ref this), (1, .int x1), (2, .int x2), (3, .int x3)] := hl
  generalize hargs : ([.ref this, .int x1, .int x2, .int x3] : List Value).toArray = args at X hts hS ⊢
  have hsz := hB.2.2.1
  obtain ⟨G0, eG0⟩ : ∃ z, z = G := ⟨_, rfl⟩
  obtain ⟨S0, eS0⟩ : ∃ z, z = S := ⟨_, rfl⟩
  have hext : ext G0 (nx S0) G := by rw [eG0]; exact ext_rf
  rw [← eS0] at hsz
  suffices hgoal : W p l e { frames := 6, cells := 120, slots := 740, locals := 127 } s m args below meth c s.heap [] (0) (0) (vx_MQ below (tQ (fun r : Int32 => some (.int r)) D ct G0 (nx S0) (fun _ _ => True) A res) (tX D ct G0 (nx S0) A res) args s 120 740 A) (F0 m 0 ls []) by rw [eG0, eS0] at hgoal; exact hgoal
  have J_72 : ∀ (G : Gam) (S : Cst) (x1 : Int32) (x3 : Int32) (x4 : Option Nat), cf_X6_make_72 F this S x1 x3 x4 = some res → ∀ (H : Heap) (locs : List Loc) (ls : Array Slot), ext G0 (nx S0) G → ty G 6 this → tyo G 0 x4 → cB D ct G A S H → va_S A s.heap H locs → lv_has ls 6 [(0, .ref this), (1, .int x1), (3, .int x3), (4, va_rf x4)] → W p l e { frames := 6, cells := 120, slots := 740, locals := 127 } s m args below meth c H locs (0) (0) (vx_MQ below (tQ (fun r : Int32 => some (.int r)) D ct G0 (nx S0) (fun _ _ => True) A res) (tX D ct G0 (nx S0) A res) args s 120 740 A) (F0 m 72 ls []) := by
    intro G S x1 x3 x4 hf H locs ls hext hk_this hk_x4 hB hS hl
    unfold cf_X6_make_72 at hf
    refine lv_aload_n hx hb dX6_make_72 rfl (lv_at hl 0 rfl) ?_
    refine c_get X hB hk_this rfl rfl kw_X6 1 15 (by decide) kf_X6_15 rfl rfl dX6_make_73 ?_
    refine lv_istore (lv' := [(5, .int (gI S 97 this)), (0, .ref this), (1, .int x1), (3, .int x3), (4, va_rf x4)]) hx hb dX6_make_76 hl (by decide) (by rcases x4 with _ | _ <;> exact rfl) (fun ls hl => ?_)
    refine lv_iload hx hb dX6_make_78 (lv_at hl 0 rfl) ?_
    refine lv_if_lt (tgt := 93) hx hb dX6_make_80 (by decide) (fun hc9 => ?_) (fun hc9 => ?_)
    · have hf := if_t hf hc9
      refine lv_iconst (v := (-1)) hx hb dX6_make_93 (by decide) ?_
      obtain rfl := Option.some.inj hf
      refine W.widen (k := 120) (n := 740) (by omega) (by omega) ?_
      refine vx_ret ?_
      exact W.iret hx hb hr (fun t ht hW => c_endE X hext hB trivial hS ht hW) hS.2.2 dX6_make_94 hlk
    · have hf := if_f hf hc9
      refine lv_iload hx hb dX6_make_83 (lv_at hl 0 rfl) ?_
      refine lv_aload_n hx hb dX6_make_85 rfl (lv_at hl 1 rfl) ?_
      refine c_get X hB hk_this rfl rfl kw_X6 0 11 (by decide) kf_X6_11 rfl rfl dX6_make_86 ?_
      obtain ⟨q10, eq10, hf⟩ := st1_s hf
      rw [← eq10]
      have hk_q10 : tyo G 10 q10 := by rw [eq10]; exact hB.2.2.2.1 (6, 96, 10) (by decide) _ hk_this
      obtain ⟨b11, eb11, hf2⟩ := nn_s hf
      clear hf
      subst eb11
      have hf := hf2
      clear hf2
      have hk_b11 := hk_q10 b11 rfl
      have hl : lv_has ls 6 [(5, .int (gI S 97 this)), (0, .ref this), (1, .int x1), (3, .int x3), (4, va_rf x4)] := hl
      refine c_alen X hB hk_b11 1 rfl rfl rfl dX6_make_89 ?_
      refine lv_icmp_lt (tgt := 95) hx hb dX6_make_90 (by decide) (fun hc12 => ?_) (fun hc12 => ?_)
      · have hf := if_t hf hc12
        refine lv_aload_n hx hb dX6_make_95 rfl (lv_at hl 1 rfl) ?_
        refine c_get X hB hk_this rfl rfl kw_X6 0 11 (by decide) kf_X6_11 rfl rfl dX6_make_96 ?_
        obtain ⟨q13, eq13, hf⟩ := st1_s hf
        rw [← eq13]
        have hk_q13 : tyo G 10 q13 := by rw [eq13]; exact hB.2.2.2.1 (6, 96, 10) (by decide) _ hk_this
        refine lv_iload hx hb dX6_make_99 (lv_at hl 0 rfl) ?_
        obtain ⟨a14, ea14, hf⟩ := st1_s hf
        obtain ⟨S15, eS15, hf⟩ := st1_s hf
        have hle : nx S0 ≤ nx S := by rw [← hsz, ← hB.2.2.1]; exact hS.1
        refine c_newG X hB hS hA 0 rfl kw_X0 tyX0 tyX0_ok kcl_X6_9 kit_RX0 kin_RX0 (hd_0 ct S) (hdv_0) (by decide) (by dsimp only; omega) (by dsimp only; omega) dX6_make_101 (fun G H hx1 hk_a14 hB2 hS => ?_)
        have hext := hext.trans hx1 hle
        have hk_q13 := hx1.o hk_q13
        have hk_this := hx1.1 _ _ hk_this
        have hk_x4 := hx1.o hk_x4
        rw [← ea14] at hk_a14 ⊢
        rw [← eS15] at hB2
        have hB := hB2
        clear hB2
        refine lv_dup hx hb dX6_make_104 rfl ?_
        refine lv_iload hx hb dX6_make_105 (lv_at hl 0 rfl) ?_
        refine lv_iload_n hx hb dX6_make_107 rfl (lv_at hl 2 rfl) ?_
        refine lv_aloadq hx hb dX6_make_108 (lv_at hl 4 rfl) ?_
        refine lv_iload_n hx hb dX6_make_110 rfl (lv_at hl 3 rfl) ?_
        obtain ⟨S16, hqS16, hf⟩ := bn_s hf
        have hle : nx S0 ≤ nx S15 := by rw [← hsz, ← hB.2.2.1]; exact hS.1
        refine c_doE hB hS hA (va_runI (As := [.int (gI S 97 this), .int x1, va_rf x4, .int x3]) (rest := [.ref a14, .int (gI S 97 this), va_rf q13]) X.1 (cm_X0_init l F D ct _ _ a14 (gI S 97 this) x1 x4 x3 hk_a14 hk_x4 _ hqS16) (cwI 4 hts (gd_w kc_X0_init) rfl rfl rfl (hts _ (kw_m kin_RX0)) (hts _ (kw_m km_X6_40)) (hts _ (kw_m ki_X0_init)) rfl (by decide +kernel) ⟨by dsimp only; omega, by dsimp only; omega⟩) (c_preS X hB) rfl rfl hl.1 rfl (lv_room (by rcases q13 with _ | _ <;> exact (Nat.le_of_ble_eq_true rfl))) dX6_make_111 ⟨by dsimp only; omega, by dsimp only; omega⟩) rfl (fun G H locs hx1 hB2 hT hS => ?_)
        have hext := hext.trans hx1 hle
        have hk_a14 := hx1.1 _ _ hk_a14
        have hk_q13 := hx1.o hk_q13
        have hk_this := hx1.1 _ _ hk_this
        have hk_x4 := hx1.o hk_x4
        have hB := hB2
        clear hB2
        refine W.widen (k := 119) (n := 726) (by omega) (by omega) ?_
        obtain ⟨b17, eb17, hf2⟩ := nn_s hf
        clear hf
        subst eb17
        have hf := hf2
        clear hf2
        have hk_b17 := hk_q13 b17 rfl
        have hl : lv_has ls 6 [(5, .int (gI S 97 this)), (0, .ref this), (1, .int x1), (3, .int x3), (4, va_rf x4)] := hl
        obtain ⟨S18, eS18, hiS18, hf⟩ := cqw_s hf
        refine c_aast X hB hS hk_b17 1 (fun _ => rfl) rfl hk_a14 rfl rfl hiS18 (wt_sQ hB.2.2.2 (fun _ => tyo_some hk_a14) (fun h => by cases h.fn hk_b17)) dX6_make_114 (fun H locs hB hS => ?_)
        rw [← eS18] at hB
        refine lv_aload_n hx hb dX6_make_115 rfl (lv_at hl 1 rfl) ?_
        refine lv_iload hx hb dX6_make_116 (lv_at hl 0 rfl) ?_
        refine lv_iconst (v := 1) hx hb dX6_make_118 (by decide) ?_
        refine lv_iadd hx hb dX6_make_119 ?_
        obtain ⟨S19, eS19, hf⟩ := st1_s hf
        refine c_put X hB hS hk_this rfl rfl kw_X6 tyX6 tyX6_ok nmX6 1 15 (by decide) kf_X6_15 rfl (Or.inl rfl) (fty := .int) rfl rfl rfl (Nat.le_of_ble_eq_true rfl) (cp_6_1 _) (fun κ b h => ccell_sI κ b h) rfl hB.2.2.2 dX6_make_120 (fun H locs hB hS => ?_)
        rw [← eS19] at hB
        refine lv_iload hx hb dX6_make_123 (lv_at hl 0 rfl) ?_
        obtain rfl := Option.some.inj hf
        refine W.widen (k := 120) (n := 740) (by omega) (by omega) ?_
        refine vx_ret ?_
        exact W.iret hx hb hr (fun t ht hW => c_endE X hext hB trivial hS ht hW) hS.2.2 dX6_make_125 hlk
      · have hf := if_f hf hc12
        refine lv_iconst (v := (-1)) hx hb dX6_make_93 (by decide) ?_
        obtain rfl := Option.some.inj hf
        refine W.widen (k := 120) (n := 740) (by omega) (by omega) ?_
        refine vx_ret ?_
        exact W.iret hx hb hr (fun t ht hW => c_endE X hext hB trivial hS ht hW) hS.2.2 dX6_make_94 hlk
  unfold cf_X6_make at hf
  refine lv_iload_n hx hb dX6_make_0 rfl (lv_at hl 1 rfl) ?_
  obtain ⟨v1, hqv1, hf⟩ := bn_s hf
  refine c_doF hB hS hA (va_runS (As := [.int x1]) (rest := []) X.1 (cm_X6_isPowerOfTwo l F D ct _ _ x1 _ hqv1) (va_cwS 1 hts (gd_S km_X6_19 kst_X6_isPowerOfTwo kin_RX6 kc_X6_isPowerOfTwo) rfl rfl rfl (by decide +kernel) ⟨by dsimp only; omega, by dsimp only; omega⟩) (c_preS X hB) rfl rfl hl.1 rfl (lv_room (Nat.le_of_ble_eq_true rfl)) dX6_make_1 ⟨by dsimp only; omega, by dsimp only; omega⟩) rfl (fun H locs hB hT hS => ?_)
  refine lv_if_eq (tgt := 23) hx hb dX6_make_4 (by decide) (fun hc2 => ?_) (fun hc2 => ?_)
  · have hf := if_t hf hc2
    obtain rfl := Option.some.inj hf
    exact t_throw X Z hl0 hB hS hext hAb htab hlk hl 2 rfl (text := "quantum or cached") (is := 26) (by decide +kernel) (by decide +kernel) kcl_X6_24 kin_java_lang_IllegalArgumentException Z.2.1.1 th_w_IAE th_n_IAE th_g_IAE dX6_make_23 dX6_make_26 dX6_make_27 dX6_make_29 dX6_make_32 (by decide) (Nat.le_of_ble_eq_true rfl) (by dsimp only; omega) (by dsimp only; omega) (by omega) (by omega)
  · have hf := if_f hf hc2
    refine lv_iload_n hx hb dX6_make_7 rfl (lv_at hl 1 rfl) ?_
    refine lv_ldc (v := 65536) hx hb hown (hts (.constant RX6 23 65536) (kw_m kk_X6_23)) dX6_make_8 ?_
    refine lv_icmp_gt (tgt := 23) hx hb dX6_make_10 (by decide) (fun hc3 => ?_) (fun hc3 => ?_)
    · have hf := if_t hf hc3
      obtain rfl := Option.some.inj hf
      exact t_throw X Z hl0 hB hS hext hAb htab hlk hl 2 rfl (text := "quantum or cached") (is := 26) (by decide +kernel) (by decide +kernel) kcl_X6_24 kin_java_lang_IllegalArgumentException Z.2.1.1 th_w_IAE th_n_IAE th_g_IAE dX6_make_23 dX6_make_26 dX6_make_27 dX6_make_29 dX6_make_32 (by decide) (Nat.le_of_ble_eq_true rfl) (by dsimp only; omega) (by dsimp only; omega) (by omega) (by omega)
    · have hf := if_f hf hc3
      refine lv_iload_n hx hb dX6_make_13 rfl (lv_at hl 3 rfl) ?_
      refine lv_if_lt (tgt := 23) hx hb dX6_make_14 (by decide) (fun hc4 => ?_) (fun hc4 => ?_)
      · have hf := if_t hf hc4
        obtain rfl := Option.some.inj hf
        exact t_throw X Z hl0 hB hS hext hAb htab hlk hl 2 rfl (text := "quantum or cached") (is := 26) (by decide +kernel) (by decide +kernel) kcl_X6_24 kin_java_lang_IllegalArgumentException Z.2.1.1 th_w_IAE th_n_IAE th_g_IAE dX6_make_23 dX6_make_26 dX6_make_27 dX6_make_29 dX6_make_32 (by decide) (Nat.le_of_ble_eq_true rfl) (by dsimp only; omega) (by dsimp only; omega) (by omega) (by omega)
      · have hf := if_f hf hc4
        refine lv_iload_n hx hb dX6_make_17 rfl (lv_at hl 3 rfl) ?_
        refine lv_bipush (v := 8) hx hb dX6_make_18 (by decide) ?_
        refine lv_icmp_le (tgt := 33) hx hb dX6_make_20 (by decide) (fun hc5 => ?_) (fun hc5 => ?_)
        · have hf := if_t hf hc5
          refine lv_aload_n hx hb dX6_make_33 rfl (lv_at hl 0 rfl) ?_
          refine lv_iload_n hx hb dX6_make_34 rfl (lv_at hl 2 rfl) ?_
          obtain ⟨q6, hqq6, hf⟩ := bn_s hf
          refine c_doF hB hS hA (va_runV (As := [.int x2]) (rest := []) X.1 (cm_X6_arenaOrNull l F D ct _ _ this x2 hk_this _ hqq6) (cwV 1 hts (gd_V km_X6_31 ki_X6_arenaOrNull ks_X6_arenaOrNull kin_RX6 kc_X6_arenaOrNull) rfl rfl rfl (by decide +kernel) ⟨by dsimp only; omega, by dsimp only; omega⟩) (c_preV X hB hk_this rfl rfl) rfl rfl hl.1 rfl (lv_room (Nat.le_of_ble_eq_true rfl)) dX6_make_35 ⟨by dsimp only; omega, by dsimp only; omega⟩) rfl (fun H locs hB hT hS => ?_)
          have hk_q6 := hT
          refine lv_astoreq (lv' := [(4, va_rf q6), (0, .ref this), (1, .int x1), (2, .int x2), (3, .int x3)]) hx hb dX6_make_38 hl (by decide) rfl (fun ls hl => ?_)
          refine lv_aloadq hx hb dX6_make_40 (lv_at hl 0 rfl) ?_
          rcases q6 with _ | b7
          · have hf := nc_n hf
            have hl : lv_has ls 6 [(4, .null), (0, .ref this), (1, .int x1), (2, .int x2), (3, .int x3)] := hl
            refine lv_ifnonnullN hx hb dX6_make_42 ?_
            refine lv_iload_n hx hb dX6_make_45 rfl (lv_at hl 3 rfl) ?_
            refine lv_iconst (v := (-1)) hx hb dX6_make_46 (by decide) ?_
            refine lv_icmp_eq (tgt := 72) hx hb dX6_make_47 (by decide) (fun hc8 => ?_) (fun hc8 => ?_)
            · have hf := if_t hf hc8
              exact J_72 _ S x1 x3 none hf _ _ _ hext hk_this tyo_none hB hS (lv_sub hl [1, 2, 4, 0] rfl)
            · have hf := if_f hf hc8
              refine lv_goto (tgt := 62) hx hb dX6_make_50 (by decide) ?_
              obtain rfl := Option.some.inj hf
              exact t_throw X Z hl0 hB hS hext hAb htab hlk hl 2 rfl (text := "source") (is := 38) (by decide +kernel) (by decide +kernel) kcl_X6_24 kin_java_lang_IllegalArgumentException Z.2.1.1 th_w_IAE th_n_IAE th_g_IAE dX6_make_62 dX6_make_65 dX6_make_66 dX6_make_68 dX6_make_71 (by decide) (Nat.le_of_ble_eq_true rfl) (by dsimp only; omega) (by dsimp only; omega) (by omega) (by omega)
          · have hf := nc_b hf
            have hk_b7 := hk_q6 b7 rfl
            have hl : lv_has ls 6 [(4, .ref b7), (0, .ref this), (1, .int x1), (2, .int x2), (3, .int x3)] := hl
            refine lv_ifnonnull (tgt := 53) hx hb dX6_make_42 (by decide) ?_
            refine lv_aload hx hb dX6_make_53 (lv_at hl 0 rfl) ?_
            refine c_get X hB hk_b7 rfl rfl kw_X0 1 35 (by decide) kf_X6_35 rfl rfl dX6_make_55 ?_
            refine lv_iload_n hx hb dX6_make_58 rfl (lv_at hl 2 rfl) ?_
            refine lv_icmp_ge (tgt := 72) hx hb dX6_make_59 (by decide) (fun hc20 => ?_) (fun hc20 => ?_)
            · have hf := if_t hf hc20
              exact J_72 _ S x1 x3 (some b7) hf _ _ _ hext hk_this (tyo_some hk_b7) hB hS (lv_sub hl [1, 2, 4, 0] rfl)
            · have hf := if_f hf hc20
              obtain rfl := Option.some.inj hf
              exact t_throw X Z hl0 hB hS hext hAb htab hlk hl 2 rfl (text := "source") (is := 38) (by decide +kernel) (by decide +kernel) kcl_X6_24 kin_java_lang_IllegalArgumentException Z.2.1.1 th_w_IAE th_n_IAE th_g_IAE dX6_make_62 dX6_make_65 dX6_make_66 dX6_make_68 dX6_make_71 (by decide) (Nat.le_of_ble_eq_true rfl) (by dsimp only; omega) (by dsimp only; omega) (by omega) (by omega)
        · have hf := if_f hf hc5
          obtain rfl := Option.some.inj hf
          exact t_throw X Z hl0 hB hS hext hAb htab hlk hl 2 rfl (text := "quantum or cached") (is := 26) (by decide +kernel) (by decide +kernel) kcl_X6_24 kin_java_lang_IllegalArgumentException Z.2.1.1 th_w_IAE th_n_IAE th_g_IAE dX6_make_23 dX6_make_26 dX6_make_27 dX6_make_29 dX6_make_32 (by decide) (Nat.le_of_ble_eq_true rfl) (by dsimp only; omega) (by dsimp only; omega) (by omega) (by omega)
/-! X6_purge -/
def cf_X6_purge (F : Nat) (S : Cst) (this : Nat) (x1 : Int32) : Option (Thr Int32) := (cf_X6_arenaAt F S this x1).bind fun z1 => tr z1 fun z1v z1S => (cf_X6_sweep F z1S z1v).bind fun z2 => st2 z2 fun z2v z2S => some (.inr (z2v, z2S))
set_option maxHeartbeats 4000000 in
set_option maxRecDepth 100000 in
theorem cm_X6_purge (l : Launch) (F : Nat) (hl0 : l.stackTraces = false) (D : va_G) (ct : ClassId × ClassId × ClassId) (b0 : Nat) (G : Gam) (S : Cst) (this : Nat) (x1 : Int32) (hk_this : ty G 6 this) (hb : ∀ a ∈ G.1, b0 ≤ a) (hbn : b0 ≤ nx S) (res : Thr Int32) (hf : cf_X6_purge F S this x1 = some res) : xMet l yX6_purge cq_X6_purge { frames := 7, cells := 1, slots := 6, locals := 122 } D ct G b0 [.ref this, .int x1] S (fun r : Int32 => some (.int r)) (fun _ _ => True) res 1 6 := by
  refine xMet_of (own := RX6) (cc := cX6_purge) (maxL := 2) (ret := (some .int)) hb hbn (by decide) rfl rfl (Nat.le_of_ble_eq_true rfl) ?_
  intro p e s m below meth c X hr hlk htab Z ls A hl hB hA hAb hS
  have hx := X.1.1
  have hb := X.1.2.1
  have hown := X.1.2.2.2.1
  have hts := X.1.2.2.2.2
  have hl : lv_has ls 2 [(0, .ref this), (1, .int x1)] := hl
  generalize hargs : ([.ref this, .int x1] : List Value).toArray = args at X hts hS ⊢
  have hsz := hB.2.2.1
  obtain ⟨G0, eG0⟩ : ∃ z, z = G := ⟨_, rfl⟩
  obtain ⟨S0, eS0⟩ : ∃ z, z = S := ⟨_, rfl⟩
  have hext : ext G0 (nx S0) G := by rw [eG0]; exact ext_rf
  rw [← eS0] at hsz
  suffices hgoal : W p l e { frames := 7, cells := 1, slots := 6, locals := 122 } s m args below meth c s.heap [] (0) (0) (vx_MQ below (tQ (fun r : Int32 => some (.int r)) D ct G0 (nx S0) (fun _ _ => True) A res) (tX D ct G0 (nx S0) A res) args s 1 6 A) (F0 m 0 ls []) by rw [eG0, eS0] at hgoal; exact hgoal
  unfold cf_X6_purge at hf
  refine lv_aload_n hx hb dX6_purge_0 rfl (lv_at hl 0 rfl) ?_
  refine lv_iload_n hx hb dX6_purge_1 rfl (lv_at hl 1 rfl) ?_
  obtain ⟨z1, hqz1, hf⟩ := bn_s hf
  have hle : nx S0 ≤ nx S := by rw [← hsz, ← hB.2.2.1]; exact hS.1
  refine t_do hB hS hA hext hle htab hlk (vx_runV (As := [.int x1]) (rest := []) X.1 (cm_X6_arenaAt l F hl0 D ct b0 _ _ this x1 hk_this (fun a ha => hAb a (c_in hB ha)) (hAb _ (hA _ (by rw [← hB.2.2.1]; exact hS.1))) _ hqz1) (cwV 1 hts (gd_V km_X6_43 ki_X6_arenaAt ks_X6_arenaAt kin_RX6 kc_X6_arenaAt) rfl rfl rfl (by decide +kernel) ⟨by dsimp only; omega, by dsimp only; omega⟩) (t_preV X Z hB hS hAb hk_this rfl rfl) rfl rfl hl.1 rfl (lv_room (Nat.le_of_ble_eq_true rfl)) dX6_purge_2 ⟨by dsimp only; omega, by dsimp only; omega⟩) (fun w hw => by subst hw; exact tr_l hf) (by omega) (by omega) (fun z1v z1S hz G H locs hx1 hB2 hT hS => ?_)
  subst hz
  have hf := tr_r hf
  have hext := hext.trans hx1 hle
  have hk_this := hx1.1 _ _ hk_this
  have hB := hB2
  clear hB2
  have hk_z1v := hT
  refine W.widen (k := 1) (n := 6) (by omega) (by omega) ?_
  refine W.eq (g2 := F0 m 5 ls [va_rf z1v]) rfl ?_
  obtain ⟨⟨z2v, z2S⟩, hqz2, hf⟩ := bn_s hf
  have hf := st2_s hf
  refine c_doF hB hS hA (va_runS (As := [va_rf z1v]) (rest := []) X.1 (cm_X6_sweep l F D ct _ _ z1v hk_z1v _ _ hqz2) (va_cwS 1 hts (gd_S km_X6_126 kst_X6_sweep kin_RX6 kc_X6_sweep) rfl rfl rfl (by decide +kernel) ⟨by dsimp only; omega, by dsimp only; omega⟩) (c_preS X hB) rfl rfl hl.1 rfl (lv_room (Nat.le_of_ble_eq_true rfl)) dX6_purge_5 ⟨by dsimp only; omega, by dsimp only; omega⟩) rfl (fun H locs hB hT hS => ?_)
  obtain rfl := Option.some.inj hf
  refine W.widen (k := 1) (n := 6) (by omega) (by omega) ?_
  refine vx_ret ?_
  exact W.iret hx hb hr (fun t ht hW => c_endE X hext hB trivial hS ht hW) hS.2.2 dX6_purge_8 hlk
/-! X6_segment -/
def cf_X6_segment (F : Nat) (S : Cst) (this : Nat) (x1 : Int32) (x2 : Int32) (x3 : Int32) : Option (Thr Int32) := (cf_X6_arenaAt F S this x1).bind fun z1 => tr z1 fun z1v z1S => nn z1v fun b2 => (cf_X0_nth F z1S b2 x2).bind fun q3 => nc q3 (some (.inl (3, z1S))) (fun b4 => if x3 = 0 then (some (.inr ((gI z1S 80 b4), z1S))) else (if x3 = 1 then (some (.inr ((gI z1S 81 b4), z1S))) else (if x3 = 2 then (some (.inr ((gI z1S 82 b4), z1S))) else (if x3 = 3 then (if (gI z1S 82 b4) = 0 then ((cf_X0_listOf F z1S b2 (gI z1S 81 b4)).bind fun v6 => some (.inr (v6, z1S))) else (some (.inr (((-1) : Int32), z1S)))) else (if x3 = 4 then (if (gI z1S 82 b4) = 0 then ((cf_X0_aheadOf F z1S b2 (some b4)).bind fun v8 => some (.inr (v8, z1S))) else (some (.inr (((-1) : Int32), z1S)))) else (if x3 = 5 then (some (.inr ((gI z1S 84 b4), z1S))) else (if x3 = 6 then (some (.inr ((gI z1S 85 b4), z1S))) else (if x3 = 7 then (st1 (gP z1S 3 b2) fun q9 => nc q9 (some (.inr ((0 : Int32), z1S))) (fun b10 => some (.inr ((1 : Int32), z1S)))) else (some (.inl (3, z1S)))))))))))
set_option maxHeartbeats 4000000 in
set_option maxRecDepth 100000 in
theorem cm_X6_segment (l : Launch) (F : Nat) (hl0 : l.stackTraces = false) (D : va_G) (ct : ClassId × ClassId × ClassId) (b0 : Nat) (G : Gam) (S : Cst) (this : Nat) (x1 : Int32) (x2 : Int32) (x3 : Int32) (hk_this : ty G 6 this) (hb : ∀ a ∈ G.1, b0 ≤ a) (hbn : b0 ≤ nx S) (res : Thr Int32) (hf : cf_X6_segment F S this x1 x2 x3 = some res) : xMet l yX6_segment cq_X6_segment { frames := 7, cells := 2, slots := 12, locals := 122 } D ct G b0 [.ref this, .int x1, .int x2, .int x3] S (fun r : Int32 => some (.int r)) (fun _ _ => True) res 2 12 := by
  refine xMet_of (own := RX6) (cc := cX6_segment) (maxL := 6) (ret := (some .int)) hb hbn (by decide) rfl rfl (Nat.le_of_ble_eq_true rfl) ?_
  intro p e s m below meth c X hr hlk htab Z ls A hl hB hA hAb hS
  have hx := X.1.1
  have hb := X.1.2.1
  have hown := X.1.2.2.2.1
  have hts := X.1.2.2.2.2
  have hl : lv_has ls 6 [(0, .ref this), (1, .int x1), (2, .int x2), (3, .int x3)] := hl
  generalize hargs : ([.ref this, .int x1, .int x2, .int x3] : List Value).toArray = args at X hts hS ⊢
  have hsz := hB.2.2.1
  obtain ⟨G0, eG0⟩ : ∃ z, z = G := ⟨_, rfl⟩
  obtain ⟨S0, eS0⟩ : ∃ z, z = S := ⟨_, rfl⟩
  have hext : ext G0 (nx S0) G := by rw [eG0]; exact ext_rf
  rw [← eS0] at hsz
  suffices hgoal : W p l e { frames := 7, cells := 2, slots := 12, locals := 122 } s m args below meth c s.heap [] (0) (0) (vx_MQ below (tQ (fun r : Int32 => some (.int r)) D ct G0 (nx S0) (fun _ _ => True) A res) (tX D ct G0 (nx S0) A res) args s 2 12 A) (F0 m 0 ls []) by rw [eG0, eS0] at hgoal; exact hgoal
  unfold cf_X6_segment at hf
  refine lv_aload_n hx hb dX6_segment_0 rfl (lv_at hl 0 rfl) ?_
  refine lv_iload_n hx hb dX6_segment_1 rfl (lv_at hl 1 rfl) ?_
  obtain ⟨z1, hqz1, hf⟩ := bn_s hf
  have hle : nx S0 ≤ nx S := by rw [← hsz, ← hB.2.2.1]; exact hS.1
  refine t_do hB hS hA hext hle htab hlk (vx_runV (As := [.int x1]) (rest := []) X.1 (cm_X6_arenaAt l F hl0 D ct b0 _ _ this x1 hk_this (fun a ha => hAb a (c_in hB ha)) (hAb _ (hA _ (by rw [← hB.2.2.1]; exact hS.1))) _ hqz1) (cwV 1 hts (gd_V km_X6_43 ki_X6_arenaAt ks_X6_arenaAt kin_RX6 kc_X6_arenaAt) rfl rfl rfl (by decide +kernel) ⟨by dsimp only; omega, by dsimp only; omega⟩) (t_preV X Z hB hS hAb hk_this rfl rfl) rfl rfl hl.1 rfl (lv_room (Nat.le_of_ble_eq_true rfl)) dX6_segment_2 ⟨by dsimp only; omega, by dsimp only; omega⟩) (fun w hw => by subst hw; exact tr_l hf) (by omega) (by omega) (fun z1v z1S hz G H locs hx1 hB2 hT hS => ?_)
  subst hz
  have hf := tr_r hf
  have hext := hext.trans hx1 hle
  have hk_this := hx1.1 _ _ hk_this
  have hB := hB2
  clear hB2
  have hk_z1v := hT
  refine W.widen (k := 1) (n := 6) (by omega) (by omega) ?_
  refine W.eq (g2 := F0 m 5 ls [va_rf z1v]) rfl ?_
  refine lv_astoreq (lv' := [(4, va_rf z1v), (0, .ref this), (1, .int x1), (2, .int x2), (3, .int x3)]) hx hb dX6_segment_5 hl (by decide) rfl (fun ls hl => ?_)
  refine lv_aloadq hx hb dX6_segment_7 (lv_at hl 0 rfl) ?_
  refine lv_iload_n hx hb dX6_segment_9 rfl (lv_at hl 3 rfl) ?_
  obtain ⟨b2, eb2, hf2⟩ := nn_s hf
  clear hf
  subst eb2
  have hf := hf2
  clear hf2
  have hk_b2 := hk_z1v b2 rfl
  have hl : lv_has ls 6 [(4, .ref b2), (0, .ref this), (1, .int x1), (2, .int x2), (3, .int x3)] := hl
  obtain ⟨q3, hqq3, hf⟩ := bn_s hf
  refine c_doF hB hS hA (va_runV (As := [.int x2]) (rest := []) X.1 (cm_X0_nth l F D ct _ _ b2 x2 hk_b2 _ hqq3) (cwV 1 hts (gd_V km_X6_193 ki_X0_nth ks_X0_nth kin_RX0 kc_X0_nth) rfl rfl rfl (by decide +kernel) ⟨by dsimp only; omega, by dsimp only; omega⟩) (c_preV X hB hk_b2 rfl rfl) rfl rfl hl.1 rfl (lv_room (Nat.le_of_ble_eq_true rfl)) dX6_segment_10 ⟨by dsimp only; omega, by dsimp only; omega⟩) rfl (fun H locs hB hT hS => ?_)
  have hk_q3 := hT
  refine lv_astoreq (lv' := [(5, va_rf q3), (4, .ref b2), (0, .ref this), (1, .int x1), (2, .int x2), (3, .int x3)]) hx hb dX6_segment_13 hl (by decide) rfl (fun ls hl => ?_)
  refine lv_aloadq hx hb dX6_segment_15 (lv_at hl 0 rfl) ?_
  rcases q3 with _ | b4
  · have hf := nc_n hf
    have hl : lv_has ls 6 [(5, .null), (4, .ref b2), (0, .ref this), (1, .int x1), (2, .int x2), (3, .int x3)] := hl
    refine lv_ifnonnullN hx hb dX6_segment_17 ?_
    obtain rfl := Option.some.inj hf
    exact t_throwN X Z hl0 hB hS hext hAb htab hlk hl 3 rfl (text := "no such segment") (is := 197) (by decide +kernel) (by decide +kernel) kcl_X6_188 kin_java_util_NoSuchElementException Z.2.1.2.2.1 th_w_NSE th_n_NSE th_g_NSE dX6_segment_20 dX6_segment_23 dX6_segment_24 dX6_segment_26 dX6_segment_29 (by decide) (Nat.le_of_ble_eq_true rfl) (by dsimp only; omega) (by dsimp only; omega) (by omega) (by omega)
  · have hf := nc_b hf
    have hk_b4 := hk_q3 b4 rfl
    have hl : lv_has ls 6 [(5, .ref b4), (4, .ref b2), (0, .ref this), (1, .int x1), (2, .int x2), (3, .int x3)] := hl
    refine lv_ifnonnull (tgt := 30) hx hb dX6_segment_17 (by decide) ?_
    refine lv_iload_n hx hb dX6_segment_30 rfl (lv_at hl 5 rfl) ?_
    by_cases hc11 : x3 = 0
    · have hf := if_t hf hc11
      refine lv_tableIn (tgt := 76) hx hb dX6_segment_31 (by rw [hc11]; decide) (by rw [hc11]; decide) (off := 45) (by rw [hc11]; decide) (by decide) ?_
      refine lv_aload hx hb dX6_segment_76 (lv_at hl 0 rfl) ?_
      refine c_get X hB hk_b4 rfl rfl kw_X5 0 93 (by decide) kf_X6_93 rfl rfl dX6_segment_78 ?_
      obtain rfl := Option.some.inj hf
      refine W.widen (k := 2) (n := 12) (by omega) (by omega) ?_
      refine vx_ret ?_
      exact W.iret hx hb hr (fun t ht hW => c_endE X hext hB trivial hS ht hW) hS.2.2 dX6_segment_81 hlk
    have hf := if_f hf hc11
    by_cases hc12 : x3 = 1
    · have hf := if_t hf hc12
      refine lv_tableIn (tgt := 82) hx hb dX6_segment_31 (by rw [hc12]; decide) (by rw [hc12]; decide) (off := 51) (by rw [hc12]; decide) (by decide) ?_
      refine lv_aload hx hb dX6_segment_82 (lv_at hl 0 rfl) ?_
      refine c_get X hB hk_b4 rfl rfl kw_X5 1 199 (by decide) kf_X6_199 rfl rfl dX6_segment_84 ?_
      obtain rfl := Option.some.inj hf
      refine W.widen (k := 2) (n := 12) (by omega) (by omega) ?_
      refine vx_ret ?_
      exact W.iret hx hb hr (fun t ht hW => c_endE X hext hB trivial hS ht hW) hS.2.2 dX6_segment_87 hlk
    have hf := if_f hf hc12
    by_cases hc13 : x3 = 2
    · have hf := if_t hf hc13
      refine lv_tableIn (tgt := 88) hx hb dX6_segment_31 (by rw [hc13]; decide) (by rw [hc13]; decide) (off := 57) (by rw [hc13]; decide) (by decide) ?_
      refine lv_aload hx hb dX6_segment_88 (lv_at hl 0 rfl) ?_
      refine c_get X hB hk_b4 rfl rfl kw_X5 2 201 (by decide) kf_X6_201 rfl rfl dX6_segment_90 ?_
      obtain rfl := Option.some.inj hf
      refine W.widen (k := 2) (n := 12) (by omega) (by omega) ?_
      refine vx_ret ?_
      exact W.iret hx hb hr (fun t ht hW => c_endE X hext hB trivial hS ht hW) hS.2.2 dX6_segment_93 hlk
    have hf := if_f hf hc13
    by_cases hc14 : x3 = 3
    · have hf := if_t hf hc14
      refine lv_tableIn (tgt := 94) hx hb dX6_segment_31 (by rw [hc14]; decide) (by rw [hc14]; decide) (off := 63) (by rw [hc14]; decide) (by decide) ?_
      refine lv_aload hx hb dX6_segment_94 (lv_at hl 0 rfl) ?_
      refine c_get X hB hk_b4 rfl rfl kw_X5 2 201 (by decide) kf_X6_201 rfl rfl dX6_segment_96 ?_
      refine lv_if_ne (tgt := 115) hx hb dX6_segment_99 (by decide) (fun hc5 => ?_) (fun hc5 => ?_)
      · have hf := if_f hf hc5
        refine lv_iconst (v := (-1)) hx hb dX6_segment_115 (by decide) ?_
        obtain rfl := Option.some.inj hf
        refine W.widen (k := 2) (n := 12) (by omega) (by omega) ?_
        refine vx_ret ?_
        exact W.iret hx hb hr (fun t ht hW => c_endE X hext hB trivial hS ht hW) hS.2.2 dX6_segment_116 hlk
      · have hf := if_t hf hc5
        refine lv_aload hx hb dX6_segment_102 (lv_at hl 1 rfl) ?_
        refine lv_aload hx hb dX6_segment_104 (lv_at hl 0 rfl) ?_
        refine c_get X hB hk_b4 rfl rfl kw_X5 1 199 (by decide) kf_X6_199 rfl rfl dX6_segment_106 ?_
        obtain ⟨v6, hqv6, hf⟩ := bn_s hf
        refine c_doF hB hS hA (va_runV (As := [.int (gI z1S 81 b4)]) (rest := []) X.1 (cm_X0_listOf l F D ct _ _ b2 (gI z1S 81 b4) hk_b2 _ hqv6) (cwV 1 hts (gd_V km_X6_204 ki_X0_listOf ks_X0_listOf kin_RX0 kc_X0_listOf) rfl rfl rfl (by decide +kernel) ⟨by dsimp only; omega, by dsimp only; omega⟩) (c_preV X hB hk_b2 rfl rfl) rfl rfl hl.1 rfl (lv_room (Nat.le_of_ble_eq_true rfl)) dX6_segment_109 ⟨by dsimp only; omega, by dsimp only; omega⟩) rfl (fun H locs hB hT hS => ?_)
        refine lv_goto (tgt := 116) hx hb dX6_segment_112 (by decide) ?_
        obtain rfl := Option.some.inj hf
        refine W.widen (k := 2) (n := 12) (by omega) (by omega) ?_
        refine vx_ret ?_
        exact W.iret hx hb hr (fun t ht hW => c_endE X hext hB trivial hS ht hW) hS.2.2 dX6_segment_116 hlk
    have hf := if_f hf hc14
    by_cases hc15 : x3 = 4
    · have hf := if_t hf hc15
      refine lv_tableIn (tgt := 117) hx hb dX6_segment_31 (by rw [hc15]; decide) (by rw [hc15]; decide) (off := 86) (by rw [hc15]; decide) (by decide) ?_
      refine lv_aload hx hb dX6_segment_117 (lv_at hl 0 rfl) ?_
      refine c_get X hB hk_b4 rfl rfl kw_X5 2 201 (by decide) kf_X6_201 rfl rfl dX6_segment_119 ?_
      refine lv_if_ne (tgt := 135) hx hb dX6_segment_122 (by decide) (fun hc7 => ?_) (fun hc7 => ?_)
      · have hf := if_f hf hc7
        refine lv_iconst (v := (-1)) hx hb dX6_segment_135 (by decide) ?_
        obtain rfl := Option.some.inj hf
        refine W.widen (k := 2) (n := 12) (by omega) (by omega) ?_
        refine vx_ret ?_
        exact W.iret hx hb hr (fun t ht hW => c_endE X hext hB trivial hS ht hW) hS.2.2 dX6_segment_136 hlk
      · have hf := if_t hf hc7
        refine lv_aload hx hb dX6_segment_125 (lv_at hl 1 rfl) ?_
        refine lv_aload hx hb dX6_segment_127 (lv_at hl 0 rfl) ?_
        obtain ⟨v8, hqv8, hf⟩ := bn_s hf
        refine c_doF hB hS hA (va_runV (As := [va_rf (some b4)]) (rest := []) X.1 (cm_X0_aheadOf l F D ct _ _ b2 (some b4) hk_b2 (tyo_some hk_b4) _ hqv8) (cwV 1 hts (gd_V km_X6_207 ki_X0_aheadOf ks_X0_aheadOf kin_RX0 kc_X0_aheadOf) rfl rfl rfl (by decide +kernel) ⟨by dsimp only; omega, by dsimp only; omega⟩) (c_preV X hB hk_b2 rfl rfl) rfl rfl hl.1 rfl (lv_room (Nat.le_of_ble_eq_true rfl)) dX6_segment_129 ⟨by dsimp only; omega, by dsimp only; omega⟩) rfl (fun H locs hB hT hS => ?_)
        refine lv_goto (tgt := 136) hx hb dX6_segment_132 (by decide) ?_
        obtain rfl := Option.some.inj hf
        refine W.widen (k := 2) (n := 12) (by omega) (by omega) ?_
        refine vx_ret ?_
        exact W.iret hx hb hr (fun t ht hW => c_endE X hext hB trivial hS ht hW) hS.2.2 dX6_segment_136 hlk
    have hf := if_f hf hc15
    by_cases hc16 : x3 = 5
    · have hf := if_t hf hc16
      refine lv_tableIn (tgt := 137) hx hb dX6_segment_31 (by rw [hc16]; decide) (by rw [hc16]; decide) (off := 106) (by rw [hc16]; decide) (by decide) ?_
      refine lv_aload hx hb dX6_segment_137 (lv_at hl 0 rfl) ?_
      refine c_get X hB hk_b4 rfl rfl kw_X5 4 211 (by decide) kf_X6_211 rfl rfl dX6_segment_139 ?_
      obtain rfl := Option.some.inj hf
      refine W.widen (k := 2) (n := 12) (by omega) (by omega) ?_
      refine vx_ret ?_
      exact W.iret hx hb hr (fun t ht hW => c_endE X hext hB trivial hS ht hW) hS.2.2 dX6_segment_142 hlk
    have hf := if_f hf hc16
    by_cases hc17 : x3 = 6
    · have hf := if_t hf hc17
      refine lv_tableIn (tgt := 143) hx hb dX6_segment_31 (by rw [hc17]; decide) (by rw [hc17]; decide) (off := 112) (by rw [hc17]; decide) (by decide) ?_
      refine lv_aload hx hb dX6_segment_143 (lv_at hl 0 rfl) ?_
      refine c_get X hB hk_b4 rfl rfl kw_X5 5 214 (by decide) kf_X6_214 rfl rfl dX6_segment_145 ?_
      obtain rfl := Option.some.inj hf
      refine W.widen (k := 2) (n := 12) (by omega) (by omega) ?_
      refine vx_ret ?_
      exact W.iret hx hb hr (fun t ht hW => c_endE X hext hB trivial hS ht hW) hS.2.2 dX6_segment_148 hlk
    have hf := if_f hf hc17
    by_cases hc18 : x3 = 7
    · have hf := if_t hf hc18
      refine lv_tableIn (tgt := 149) hx hb dX6_segment_31 (by rw [hc18]; decide) (by rw [hc18]; decide) (off := 118) (by rw [hc18]; decide) (by decide) ?_
      refine lv_aload hx hb dX6_segment_149 (lv_at hl 1 rfl) ?_
      refine c_get X hB hk_b2 rfl rfl kw_X0 3 57 (by decide) kf_X6_57 rfl rfl dX6_segment_151 ?_
      obtain ⟨q9, eq9, hf⟩ := st1_s hf
      rw [← eq9]
      have hk_q9 : tyo G 0 q9 := by rw [eq9]; exact hB.2.2.2.1 (0, 3, 0) (by decide) _ hk_b2
      rcases q9 with _ | b10
      · have hf := nc_n hf
        have hl : lv_has ls 6 [(5, .ref b4), (4, .ref b2), (0, .ref this), (1, .int x1), (2, .int x2), (3, .int x3)] := hl
        refine lv_ifnonnullN hx hb dX6_segment_154 ?_
        refine lv_iconst (v := 0) hx hb dX6_segment_157 (by decide) ?_
        refine lv_goto (tgt := 162) hx hb dX6_segment_158 (by decide) ?_
        obtain rfl := Option.some.inj hf
        refine W.widen (k := 2) (n := 12) (by omega) (by omega) ?_
        refine vx_ret ?_
        exact W.iret hx hb hr (fun t ht hW => c_endE X hext hB trivial hS ht hW) hS.2.2 dX6_segment_162 hlk
      · have hf := nc_b hf
        have hk_b10 := hk_q9 b10 rfl
        have hl : lv_has ls 6 [(5, .ref b4), (4, .ref b2), (0, .ref this), (1, .int x1), (2, .int x2), (3, .int x3)] := hl
        refine lv_ifnonnull (tgt := 161) hx hb dX6_segment_154 (by decide) ?_
        refine lv_iconst (v := 1) hx hb dX6_segment_161 (by decide) ?_
        obtain rfl := Option.some.inj hf
        refine W.widen (k := 2) (n := 12) (by omega) (by omega) ?_
        refine vx_ret ?_
        exact W.iret hx hb hr (fun t ht hW => c_endE X hext hB trivial hS ht hW) hS.2.2 dX6_segment_162 hlk
    have hf := if_f hf hc18
    refine lv_tableOut (tgt := 163) hx hb dX6_segment_31 (by have zhc11 := lv_neT hc11 (a := 0) (by decide); have zhc12 := lv_neT hc12 (a := 1) (by decide); have zhc13 := lv_neT hc13 (a := 2) (by decide); have zhc14 := lv_neT hc14 (a := 3) (by decide); have zhc15 := lv_neT hc15 (a := 4) (by decide); have zhc16 := lv_neT hc16 (a := 5) (by decide); have zhc17 := lv_neT hc17 (a := 6) (by decide); have zhc18 := lv_neT hc18 (a := 7) (by decide); omega) (by decide) ?_
    obtain rfl := Option.some.inj hf
    exact t_throwN X Z hl0 hB hS hext hAb htab hlk hl 3 rfl (text := "no such thing of a segment") (is := 217) (by decide +kernel) (by decide +kernel) kcl_X6_188 kin_java_util_NoSuchElementException Z.2.1.2.2.1 th_w_NSE th_n_NSE th_g_NSE dX6_segment_163 dX6_segment_166 dX6_segment_167 dX6_segment_169 dX6_segment_172 (by decide) (Nat.le_of_ble_eq_true rfl) (by dsimp only; omega) (by dsimp only; omega) (by omega) (by omega)
/-! X6_take -/
def cf_X6_take (F : Nat) (S : Cst) (this : Nat) (x1 : Int32) (x2 : Int32) (x3 : Int32) (x4 : Int32) : Option (Thr Int32) := (cf_X6_arenaAt F S this x1).bind fun z1 => tr z1 fun z1v z1S => if x2 ≤ 0 then (some (.inl (2, z1S))) else (if x3 < 0 then (some (.inl (2, z1S))) else (if (2 : Int32) < x3 then (some (.inl (2, z1S))) else ((cf_X6_isDesk F z1S x4).bind fun v5 => if v5 = 0 then (some (.inl (2, z1S))) else ((cf_X6_isFull F z1S this).bind fun v7 => if v7 = 0 then (nn z1v fun b9 => (cf_X0_roundUp F z1S b9 x2).bind fun v10 => (cf_X0_cacheFor F z1S b9 v10).bind fun q11 => nc q11 ((cf_X6_obtain F 9 z1S (some b9) v10 x3 (1 : Int32) (0 : Int32)).bind fun z13 => st2 z13 fun z13v z13S => nc z13v (some (.inr (((-1) : Int32), z13S))) (fun b14 => some (.inr ((gI z13S 80 b14), z13S)))) (fun b12 => (cf_X6_takeLoaded F z1S (some b9) (some b12) x4).bind fun z15 => st2 z15 fun z15v z15S => if z15v = ((-1) : Int32) then ((cf_X6_takeLying F z15S (some b9) (some b12)).bind fun z17 => st2 z17 fun z17v z17S => some (.inr (z17v, z17S))) else (some (.inr (z15v, z15S))))) else (some (.inr (((-2) : Int32), z1S)))))))
set_option maxHeartbeats 4000000 in
set_option maxRecDepth 100000 in
theorem cm_X6_take (l : Launch) (F : Nat) (hl0 : l.stackTraces = false) (D : va_G) (ct : ClassId × ClassId × ClassId) (b0 : Nat) (G : Gam) (S : Cst) (this : Nat) (x1 : Int32) (x2 : Int32) (x3 : Int32) (x4 : Int32) (hk_this : ty G 6 this) (hb : ∀ a ∈ G.1, b0 ≤ a) (hbn : b0 ≤ nx S) (res : Thr Int32) (hf : cf_X6_take F S this x1 x2 x3 x4 = some res) : xMet l yX6_take cq_X6_take { frames := 50, cells := 19, slots := 222, locals := 2329 } D ct G b0 [.ref this, .int x1, .int x2, .int x3, .int x4] S (fun r : Int32 => some (.int r)) (fun _ _ => True) res 19 222 := by
  refine xMet_of (own := RX6) (cc := cX6_take) (maxL := 10) (ret := (some .int)) hb hbn (by decide) rfl rfl (Nat.le_of_ble_eq_true rfl) ?_
  intro p e s m below meth c X hr hlk htab Z ls A hl hB hA hAb hS
  have hx := X.1.1
  have hb := X.1.2.1
  have hown := X.1.2.2.2.1
  have hts := X.1.2.2.2.2
  have hl : lv_has ls 10 [(0, .ref this), (1, .int x1), (2, .int x2), (3, .int x3), (4, .int x4)] := hl
  generalize hargs : ([.ref this, .int x1, .int x2, .int x3, .int x4] : List Value).toArray = args at X hts hS ⊢
  have hsz := hB.2.2.1
  obtain ⟨G0, eG0⟩ : ∃ z, z = G := ⟨_, rfl⟩
  obtain ⟨S0, eS0⟩ : ∃ z, z = S := ⟨_, rfl⟩
  have hext : ext G0 (nx S0) G := by rw [eG0]; exact ext_rf
  rw [← eS0] at hsz
  suffices hgoal : W p l e { frames := 50, cells := 19, slots := 222, locals := 2329 } s m args below meth c s.heap [] (0) (0) (vx_MQ below (tQ (fun r : Int32 => some (.int r)) D ct G0 (nx S0) (fun _ _ => True) A res) (tX D ct G0 (nx S0) A res) args s 19 222 A) (F0 m 0 ls []) by rw [eG0, eS0] at hgoal; exact hgoal
  unfold cf_X6_take at hf
  refine lv_aload_n hx hb dX6_take_0 rfl (lv_at hl 0 rfl) ?_
  refine lv_iload_n hx hb dX6_take_1 rfl (lv_at hl 1 rfl) ?_
  obtain ⟨z1, hqz1, hf⟩ := bn_s hf
  have hle : nx S0 ≤ nx S := by rw [← hsz, ← hB.2.2.1]; exact hS.1
  refine t_do hB hS hA hext hle htab hlk (vx_runV (As := [.int x1]) (rest := []) X.1 (cm_X6_arenaAt l F hl0 D ct b0 _ _ this x1 hk_this (fun a ha => hAb a (c_in hB ha)) (hAb _ (hA _ (by rw [← hB.2.2.1]; exact hS.1))) _ hqz1) (cwV 1 hts (gd_V km_X6_43 ki_X6_arenaAt ks_X6_arenaAt kin_RX6 kc_X6_arenaAt) rfl rfl rfl (by decide +kernel) ⟨by dsimp only; omega, by dsimp only; omega⟩) (t_preV X Z hB hS hAb hk_this rfl rfl) rfl rfl hl.1 rfl (lv_room (Nat.le_of_ble_eq_true rfl)) dX6_take_2 ⟨by dsimp only; omega, by dsimp only; omega⟩) (fun w hw => by subst hw; exact tr_l hf) (by omega) (by omega) (fun z1v z1S hz G H locs hx1 hB2 hT hS => ?_)
  subst hz
  have hf := tr_r hf
  have hext := hext.trans hx1 hle
  have hk_this := hx1.1 _ _ hk_this
  have hB := hB2
  clear hB2
  have hk_z1v := hT
  refine W.widen (k := 1) (n := 6) (by omega) (by omega) ?_
  refine W.eq (g2 := F0 m 5 ls [va_rf z1v]) rfl ?_
  refine lv_astoreq (lv' := [(5, va_rf z1v), (0, .ref this), (1, .int x1), (2, .int x2), (3, .int x3), (4, .int x4)]) hx hb dX6_take_5 hl (by decide) rfl (fun ls hl => ?_)
  refine lv_iload_n hx hb dX6_take_7 rfl (lv_at hl 3 rfl) ?_
  refine lv_if_le (tgt := 28) hx hb dX6_take_8 (by decide) (fun hc2 => ?_) (fun hc2 => ?_)
  · have hf := if_t hf hc2
    obtain rfl := Option.some.inj hf
    exact t_throw X Z hl0 hB hS hext hAb htab hlk hl 2 rfl (text := "size, way or desk") (is := 71) (by decide +kernel) (by decide +kernel) kcl_X6_24 kin_java_lang_IllegalArgumentException Z.2.1.1 th_w_IAE th_n_IAE th_g_IAE dX6_take_28 dX6_take_31 dX6_take_32 dX6_take_34 dX6_take_37 (by decide) (Nat.le_of_ble_eq_true rfl) (by dsimp only; omega) (by dsimp only; omega) (by omega) (by omega)
  · have hf := if_f hf hc2
    refine lv_iload_n hx hb dX6_take_11 rfl (lv_at hl 4 rfl) ?_
    refine lv_if_lt (tgt := 28) hx hb dX6_take_12 (by decide) (fun hc3 => ?_) (fun hc3 => ?_)
    · have hf := if_t hf hc3
      obtain rfl := Option.some.inj hf
      exact t_throw X Z hl0 hB hS hext hAb htab hlk hl 2 rfl (text := "size, way or desk") (is := 71) (by decide +kernel) (by decide +kernel) kcl_X6_24 kin_java_lang_IllegalArgumentException Z.2.1.1 th_w_IAE th_n_IAE th_g_IAE dX6_take_28 dX6_take_31 dX6_take_32 dX6_take_34 dX6_take_37 (by decide) (Nat.le_of_ble_eq_true rfl) (by dsimp only; omega) (by dsimp only; omega) (by omega) (by omega)
    · have hf := if_f hf hc3
      refine lv_iload_n hx hb dX6_take_15 rfl (lv_at hl 4 rfl) ?_
      refine lv_iconst (v := 2) hx hb dX6_take_16 (by decide) ?_
      refine lv_icmp_gt (tgt := 28) hx hb dX6_take_17 (by decide) (fun hc4 => ?_) (fun hc4 => ?_)
      · have hf := if_t hf hc4
        obtain rfl := Option.some.inj hf
        exact t_throw X Z hl0 hB hS hext hAb htab hlk hl 2 rfl (text := "size, way or desk") (is := 71) (by decide +kernel) (by decide +kernel) kcl_X6_24 kin_java_lang_IllegalArgumentException Z.2.1.1 th_w_IAE th_n_IAE th_g_IAE dX6_take_28 dX6_take_31 dX6_take_32 dX6_take_34 dX6_take_37 (by decide) (Nat.le_of_ble_eq_true rfl) (by dsimp only; omega) (by dsimp only; omega) (by omega) (by omega)
      · have hf := if_f hf hc4
        refine lv_iload hx hb dX6_take_20 (lv_at hl 5 rfl) ?_
        obtain ⟨v5, hqv5, hf⟩ := bn_s hf
        refine c_doF hB hS hA (va_runS (As := [.int x4]) (rest := []) X.1 (cm_X6_isDesk l F D ct _ _ x4 _ hqv5) (va_cwS 1 hts (gd_S km_X6_68 kst_X6_isDesk kin_RX6 kc_X6_isDesk) rfl rfl rfl (by decide +kernel) ⟨by dsimp only; omega, by dsimp only; omega⟩) (c_preS X hB) rfl rfl hl.1 rfl (lv_room (Nat.le_of_ble_eq_true rfl)) dX6_take_22 ⟨by dsimp only; omega, by dsimp only; omega⟩) rfl (fun H locs hB hT hS => ?_)
        refine lv_if_ne (tgt := 38) hx hb dX6_take_25 (by decide) (fun hc6 => ?_) (fun hc6 => ?_)
        · have hf := if_f hf hc6
          refine lv_aload_n hx hb dX6_take_38 rfl (lv_at hl 1 rfl) ?_
          obtain ⟨v7, hqv7, hf⟩ := bn_s hf
          refine c_doF hB hS hA (va_runV (As := []) (rest := []) X.1 (cm_X6_isFull l F D ct _ _ this hk_this _ hqv7) (cwV 0 hts (gd_V km_X6_51 ki_X6_isFull ks_X6_isFull kin_RX6 kc_X6_isFull) rfl rfl rfl (by decide +kernel) ⟨by dsimp only; omega, by dsimp only; omega⟩) (c_preV X hB hk_this rfl rfl) rfl rfl hl.1 rfl (lv_room (Nat.le_of_ble_eq_true rfl)) dX6_take_39 ⟨by dsimp only; omega, by dsimp only; omega⟩) rfl (fun H locs hB hT hS => ?_)
          refine lv_if_eq (tgt := 48) hx hb dX6_take_42 (by decide) (fun hc8 => ?_) (fun hc8 => ?_)
          · have hf := if_t hf hc8
            refine lv_aloadq hx hb dX6_take_48 (lv_at hl 0 rfl) ?_
            refine lv_iload_n hx hb dX6_take_50 rfl (lv_at hl 3 rfl) ?_
            obtain ⟨b9, eb9, hf2⟩ := nn_s hf
            clear hf
            subst eb9
            have hf := hf2
            clear hf2
            have hk_b9 := hk_z1v b9 rfl
            have hl : lv_has ls 10 [(5, .ref b9), (0, .ref this), (1, .int x1), (2, .int x2), (3, .int x3), (4, .int x4)] := hl
            obtain ⟨v10, hqv10, hf⟩ := bn_s hf
            refine c_doF hB hS hA (va_runV (As := [.int x2]) (rest := []) X.1 (cm_X0_roundUp l F D ct _ _ b9 x2 hk_b9 _ hqv10) (cwV 1 hts (gd_V km_X6_73 ki_X0_roundUp ks_X0_roundUp kin_RX0 kc_X0_roundUp) rfl rfl rfl (by decide +kernel) ⟨by dsimp only; omega, by dsimp only; omega⟩) (c_preV X hB hk_b9 rfl rfl) rfl rfl hl.1 rfl (lv_room (Nat.le_of_ble_eq_true rfl)) dX6_take_51 ⟨by dsimp only; omega, by dsimp only; omega⟩) rfl (fun H locs hB hT hS => ?_)
            refine lv_lstore (lv' := [(6, .long v10), (5, .ref b9), (0, .ref this), (1, .int x1), (2, .int x2), (3, .int x3), (4, .int x4)]) hx hb dX6_take_54 hl (by decide) rfl (fun ls hl => ?_)
            refine lv_aload hx hb dX6_take_56 (lv_at hl 1 rfl) ?_
            refine lv_lload hx hb dX6_take_58 (lv_at hl 0 rfl) ?_
            obtain ⟨q11, hqq11, hf⟩ := bn_s hf
            refine c_doF hB hS hA (va_runV (As := [.long v10]) (rest := []) X.1 (cm_X0_cacheFor l F D ct _ _ b9 v10 hk_b9 _ hqq11) (cwV 1 hts (gd_V km_X6_77 ki_X0_cacheFor ks_X0_cacheFor kin_RX0 kc_X0_cacheFor) rfl rfl rfl (by decide +kernel) ⟨by dsimp only; omega, by dsimp only; omega⟩) (c_preV X hB hk_b9 rfl rfl) rfl rfl hl.1 rfl (lv_room (Nat.le_of_ble_eq_true rfl)) dX6_take_60 ⟨by dsimp only; omega, by dsimp only; omega⟩) rfl (fun H locs hB hT hS => ?_)
            have hk_q11 := hT
            refine lv_astoreq (lv' := [(8, va_rf q11), (6, .long v10), (5, .ref b9), (0, .ref this), (1, .int x1), (2, .int x2), (3, .int x3), (4, .int x4)]) hx hb dX6_take_63 hl (by decide) rfl (fun ls hl => ?_)
            refine lv_aloadq hx hb dX6_take_65 (lv_at hl 0 rfl) ?_
            rcases q11 with _ | b12
            · have hf := nc_n hf
              have hl : lv_has ls 10 [(8, .null), (6, .long v10), (5, .ref b9), (0, .ref this), (1, .int x1), (2, .int x2), (3, .int x3), (4, .int x4)] := hl
              refine lv_ifnullN (tgt := 100) hx hb dX6_take_67 (by decide) ?_
              refine lv_aload hx hb dX6_take_100 (lv_at hl 2 rfl) ?_
              refine lv_lload hx hb dX6_take_102 (lv_at hl 1 rfl) ?_
              refine lv_iload_n hx hb dX6_take_104 rfl (lv_at hl 6 rfl) ?_
              refine lv_iconst (v := 1) hx hb dX6_take_105 (by decide) ?_
              refine lv_iconst (v := 0) hx hb dX6_take_106 (by decide) ?_
              obtain ⟨⟨z13v, z13S⟩, hqz13, hf⟩ := bn_s hf
              have hf := st2_s hf
              have hle : nx S0 ≤ nx z1S := by rw [← hsz, ← hB.2.2.1]; exact hS.1
              refine c_doE hB hS hA (va_runS (As := [va_rf (some b9), .long v10, .int x3, .int 1, .int 0]) (rest := []) X.1 (cm_X6_obtain l F 9 D ct _ _ (some b9) v10 x3 (1 : Int32) (0 : Int32) (tyo_some hk_b9) _ _ hqz13) (va_cwS 5 hts (gd_S km_X6_89 kst_X6_obtain kin_RX6 kc_X6_obtain) rfl rfl rfl (by decide +kernel) ⟨by dsimp only; omega, by dsimp only; omega⟩) (c_preS X hB) rfl rfl hl.1 rfl (lv_room (Nat.le_of_ble_eq_true rfl)) dX6_take_107 ⟨by dsimp only; omega, by dsimp only; omega⟩) rfl (fun G H locs hx1 hB2 hT hS => ?_)
              have hext := hext.trans hx1 hle
              have hk_b9 := hx1.1 _ _ hk_b9
              have hk_this := hx1.1 _ _ hk_this
              have hB := hB2
              clear hB2
              have hk_z13v := hT
              refine W.widen (k := 19) (n := 222) (by omega) (by omega) ?_
              refine lv_astoreq (lv' := [(9, va_rf z13v), (8, .null), (6, .long v10), (5, .ref b9), (0, .ref this), (1, .int x1), (2, .int x2), (3, .int x3), (4, .int x4)]) hx hb dX6_take_110 hl (by decide) rfl (fun ls hl => ?_)
              refine lv_aloadq hx hb dX6_take_112 (lv_at hl 0 rfl) ?_
              rcases z13v with _ | b14
              · have hf := nc_n hf
                have hl : lv_has ls 10 [(9, .null), (8, .null), (6, .long v10), (5, .ref b9), (0, .ref this), (1, .int x1), (2, .int x2), (3, .int x3), (4, .int x4)] := hl
                refine lv_ifnonnullN hx hb dX6_take_114 ?_
                refine lv_iconst (v := (-1)) hx hb dX6_take_117 (by decide) ?_
                refine lv_goto (tgt := 126) hx hb dX6_take_118 (by decide) ?_
                obtain rfl := Option.some.inj hf
                refine W.widen (k := 19) (n := 222) (by omega) (by omega) ?_
                refine vx_ret ?_
                exact W.iret hx hb hr (fun t ht hW => c_endE X hext hB trivial hS ht hW) hS.2.2 dX6_take_126 hlk
              · have hf := nc_b hf
                have hk_b14 := hk_z13v b14 rfl
                have hl : lv_has ls 10 [(9, .ref b14), (8, .null), (6, .long v10), (5, .ref b9), (0, .ref this), (1, .int x1), (2, .int x2), (3, .int x3), (4, .int x4)] := hl
                refine lv_ifnonnull (tgt := 121) hx hb dX6_take_114 (by decide) ?_
                refine lv_aload hx hb dX6_take_121 (lv_at hl 0 rfl) ?_
                refine c_get X hB hk_b14 rfl rfl kw_X5 0 93 (by decide) kf_X6_93 rfl rfl dX6_take_123 ?_
                obtain rfl := Option.some.inj hf
                refine W.widen (k := 19) (n := 222) (by omega) (by omega) ?_
                refine vx_ret ?_
                exact W.iret hx hb hr (fun t ht hW => c_endE X hext hB trivial hS ht hW) hS.2.2 dX6_take_126 hlk
            · have hf := nc_b hf
              have hk_b12 := hk_q11 b12 rfl
              have hl : lv_has ls 10 [(8, .ref b12), (6, .long v10), (5, .ref b9), (0, .ref this), (1, .int x1), (2, .int x2), (3, .int x3), (4, .int x4)] := hl
              refine lv_ifnull hx hb dX6_take_67 ?_
              refine lv_aload hx hb dX6_take_70 (lv_at hl 2 rfl) ?_
              refine lv_aload hx hb dX6_take_72 (lv_at hl 0 rfl) ?_
              refine lv_iload hx hb dX6_take_74 (lv_at hl 7 rfl) ?_
              obtain ⟨⟨z15v, z15S⟩, hqz15, hf⟩ := bn_s hf
              have hf := st2_s hf
              refine c_doF hB hS hA (va_runS (As := [va_rf (some b9), va_rf (some b12), .int x4]) (rest := []) X.1 (cm_X6_takeLoaded l F D ct _ _ (some b9) (some b12) x4 (tyo_some hk_b9) (tyo_some hk_b12) _ _ hqz15) (va_cwS 3 hts (gd_S km_X6_81 kst_X6_takeLoaded kin_RX6 kc_X6_takeLoaded) rfl rfl rfl (by decide +kernel) ⟨by dsimp only; omega, by dsimp only; omega⟩) (c_preS X hB) rfl rfl hl.1 rfl (lv_room (Nat.le_of_ble_eq_true rfl)) dX6_take_76 ⟨by dsimp only; omega, by dsimp only; omega⟩) rfl (fun H locs hB hT hS => ?_)
              refine lv_istore (lv' := [(9, .int z15v), (8, .ref b12), (6, .long v10), (5, .ref b9), (0, .ref this), (1, .int x1), (2, .int x2), (3, .int x3), (4, .int x4)]) hx hb dX6_take_79 hl (by decide) rfl (fun ls hl => ?_)
              refine lv_iload hx hb dX6_take_81 (lv_at hl 0 rfl) ?_
              refine lv_iconst (v := (-1)) hx hb dX6_take_83 (by decide) ?_
              refine lv_icmp_eq (tgt := 92) hx hb dX6_take_84 (by decide) (fun hc16 => ?_) (fun hc16 => ?_)
              · have hf := if_t hf hc16
                refine lv_aload hx hb dX6_take_92 (lv_at hl 3 rfl) ?_
                refine lv_aload hx hb dX6_take_94 (lv_at hl 1 rfl) ?_
                obtain ⟨⟨z17v, z17S⟩, hqz17, hf⟩ := bn_s hf
                have hf := st2_s hf
                have hle : nx S0 ≤ nx z15S := by rw [← hsz, ← hB.2.2.1]; exact hS.1
                refine c_doE hB hS hA (va_runS (As := [va_rf (some b9), va_rf (some b12)]) (rest := []) X.1 (cm_X6_takeLying l F D ct _ _ (some b9) (some b12) (tyo_some hk_b9) (tyo_some hk_b12) _ _ hqz17) (va_cwS 2 hts (gd_S km_X6_85 kst_X6_takeLying kin_RX6 kc_X6_takeLying) rfl rfl rfl (by decide +kernel) ⟨by dsimp only; omega, by dsimp only; omega⟩) (c_preS X hB) rfl rfl hl.1 rfl (lv_room (Nat.le_of_ble_eq_true rfl)) dX6_take_96 ⟨by dsimp only; omega, by dsimp only; omega⟩) rfl (fun G H locs hx1 hB2 hT hS => ?_)
                have hext := hext.trans hx1 hle
                have hk_b12 := hx1.1 _ _ hk_b12
                have hk_b9 := hx1.1 _ _ hk_b9
                have hk_this := hx1.1 _ _ hk_this
                have hB := hB2
                clear hB2
                refine W.widen (k := 19) (n := 222) (by omega) (by omega) ?_
                obtain rfl := Option.some.inj hf
                refine W.widen (k := 19) (n := 222) (by omega) (by omega) ?_
                refine vx_ret ?_
                exact W.iret hx hb hr (fun t ht hW => c_endE X hext hB trivial hS ht hW) hS.2.2 dX6_take_99 hlk
              · have hf := if_f hf hc16
                refine lv_iload hx hb dX6_take_87 (lv_at hl 0 rfl) ?_
                refine lv_goto (tgt := 99) hx hb dX6_take_89 (by decide) ?_
                obtain rfl := Option.some.inj hf
                refine W.widen (k := 19) (n := 222) (by omega) (by omega) ?_
                refine vx_ret ?_
                exact W.iret hx hb hr (fun t ht hW => c_endE X hext hB trivial hS ht hW) hS.2.2 dX6_take_99 hlk
          · have hf := if_f hf hc8
            refine lv_bipush (v := (-2)) hx hb dX6_take_45 (by decide) ?_
            obtain rfl := Option.some.inj hf
            refine W.widen (k := 19) (n := 222) (by omega) (by omega) ?_
            refine vx_ret ?_
            exact W.iret hx hb hr (fun t ht hW => c_endE X hext hB trivial hS ht hW) hS.2.2 dX6_take_47 hlk
        · have hf := if_t hf hc6
          obtain rfl := Option.some.inj hf
          exact t_throw X Z hl0 hB hS hext hAb htab hlk hl 2 rfl (text := "size, way or desk") (is := 71) (by decide +kernel) (by decide +kernel) kcl_X6_24 kin_java_lang_IllegalArgumentException Z.2.1.1 th_w_IAE th_n_IAE th_g_IAE dX6_take_28 dX6_take_31 dX6_take_32 dX6_take_34 dX6_take_37 (by decide) (Nat.le_of_ble_eq_true rfl) (by dsimp only; omega) (by dsimp only; omega) (by omega) (by omega)
/-! X6_takeWithin -/
def cf_X6_takeWithin_134 (F : Nat) (this : Nat) (S : Cst) (x6 : Option Nat) (x7 : Option Nat) (x8 : Option Nat) : Option (Thr Int32) := nc x8 (some (.inr (((-1) : Int32), S))) (fun b21 => nn x7 fun b22 => (cf_X1_baseIn F S b22 (some b21)).bind fun v23 => nn x6 fun b24 => (cf_X0_carve F S b24 (some b21) v23.toInt32 ((gJ S 16 b22).toInt32)).bind fun z25 => st2 z25 fun z25v z25S => nn z25v fun b26 => some (.inr ((gI z25S 80 b26), z25S)))
def cf_X6_takeWithin_45 (F : Nat) (this : Nat) (S : Cst) (x2 : Int32) (x3 : Int32) (x4 : Int32) (x5 : Int32) (x6 : Option Nat) : Option (Thr Int32) := if x4 < 0 then (some (.inl (2, S))) else (if x3 ≤ x4 then (some (.inl (2, S))) else (nn x6 fun b9 => (cf_X0_isMultiple F S b9 x4).bind fun v10 => if v10 = 0 then (some (.inl (2, S))) else ((cf_X6_isFull F S this).bind fun v12 => if v12 = 0 then (st1 (nx S) fun a14 => st1 (nO S) fun S15 => (cf_X1_init F S15 a14 (some b9) x2 x3 x4 x5).bind fun S16 => (cf_X0_leastWithin F S16 b9 (some a14)).bind fun q17 => nc q17 ((cf_X6_sweep F S16 (some b9)).bind fun z19 => st2 z19 fun z19v z19S => if z19v ≤ 0 then (cf_X6_takeWithin_134 F this z19S (some b9) (some a14) none) else ((cf_X0_leastWithin F z19S b9 (some a14)).bind fun q27 => cf_X6_takeWithin_134 F this z19S (some b9) (some a14) q27)) (fun b18 => cf_X6_takeWithin_134 F this S16 (some b9) (some a14) (some b18))) else (some (.inr (((-2) : Int32), S))))))
def cf_X6_takeWithin (F : Nat) (S : Cst) (this : Nat) (x1 : Int32) (x2 : Int32) (x3 : Int32) (x4 : Int32) (x5 : Int32) : Option (Thr Int32) := (cf_X6_arenaAt F S this x1).bind fun z1 => tr z1 fun z1v z1S => if x2 ≤ 0 then (some (.inl (2, z1S))) else (nn z1v fun b3 => (cf_X0_isUnit F z1S b3 x3).bind fun v4 => if v4 = 0 then (some (.inl (2, z1S))) else (if x5 = 0 then (cf_X6_takeWithin_45 F this z1S x2 x3 x4 x5 (some b3)) else ((cf_X0_isUnit F z1S b3 x5).bind fun v28 => if v28 = 0 then (some (.inl (2, z1S))) else (cf_X6_takeWithin_45 F this z1S x2 x3 x4 x5 (some b3)))))
set_option maxHeartbeats 4000000 in
set_option maxRecDepth 100000 in
theorem cm_X6_takeWithin (l : Launch) (F : Nat) (hl0 : l.stackTraces = false) (D : va_G) (ct : ClassId × ClassId × ClassId) (b0 : Nat) (G : Gam) (S : Cst) (this : Nat) (x1 : Int32) (x2 : Int32) (x3 : Int32) (x4 : Int32) (x5 : Int32) (hk_this : ty G 6 this) (hb : ∀ a ∈ G.1, b0 ≤ a) (hbn : b0 ≤ nx S) (res : Thr Int32) (hf : cf_X6_takeWithin F S this x1 x2 x3 x4 x5 = some res) : xMet l yX6_takeWithin cq_X6_takeWithin { frames := 7, cells := 4, slots := 36, locals := 134 } D ct G b0 [.ref this, .int x1, .int x2, .int x3, .int x4, .int x5] S (fun r : Int32 => some (.int r)) (fun _ _ => True) res 4 36 := by
  refine xMet_of (own := RX6) (cc := cX6_takeWithin) (maxL := 9) (ret := (some .int)) hb hbn (by decide) rfl rfl (Nat.le_of_ble_eq_true rfl) ?_
  intro p e s m below meth c X hr hlk htab Z ls A hl hB hA hAb hS
  have hx := X.1.1
  have hb := X.1.2.1
  have hown := X.1.2.2.2.1
  have hts := X.1.2.2.2.2
  have hl : lv_has ls 9 [(0, .ref this), (1, .int x1), (2, .int x2), (3, .int x3), (4, .int x4), (5, .int x5)] := hl
  generalize hargs : ([.ref this, .int x1, .int x2, .int x3, .int x4, .int x5] : List Value).toArray = args at X hts hS ⊢
  have hsz := hB.2.2.1
  obtain ⟨G0, eG0⟩ : ∃ z, z = G := ⟨_, rfl⟩
  obtain ⟨S0, eS0⟩ : ∃ z, z = S := ⟨_, rfl⟩
  have hext : ext G0 (nx S0) G := by rw [eG0]; exact ext_rf
  rw [← eS0] at hsz
  suffices hgoal : W p l e { frames := 7, cells := 4, slots := 36, locals := 134 } s m args below meth c s.heap [] (0) (0) (vx_MQ below (tQ (fun r : Int32 => some (.int r)) D ct G0 (nx S0) (fun _ _ => True) A res) (tX D ct G0 (nx S0) A res) args s 4 36 A) (F0 m 0 ls []) by rw [eG0, eS0] at hgoal; exact hgoal
  have J_134 : ∀ (G : Gam) (S : Cst) (x6 : Option Nat) (x7 : Option Nat) (x8 : Option Nat), cf_X6_takeWithin_134 F this S x6 x7 x8 = some res → ∀ (H : Heap) (locs : List Loc) (ls : Array Slot), ext G0 (nx S0) G → ty G 6 this → tyo G 0 x6 → tyo G 1 x7 → tyo G 5 x8 → cB D ct G A S H → va_S A s.heap H locs → lv_has ls 9 [(6, va_rf x6), (7, va_rf x7), (8, va_rf x8)] → W p l e { frames := 7, cells := 4, slots := 36, locals := 134 } s m args below meth c H locs (2) (12) (vx_MQ below (tQ (fun r : Int32 => some (.int r)) D ct G0 (nx S0) (fun _ _ => True) A res) (tX D ct G0 (nx S0) A res) args s 4 36 A) (F0 m 134 ls []) := by
    intro G S x6 x7 x8 hf H locs ls hext hk_this hk_x6 hk_x7 hk_x8 hB hS hl
    unfold cf_X6_takeWithin_134 at hf
    refine lv_aloadq hx hb dX6_takeWithin_134 (lv_at hl 2 rfl) ?_
    rcases x8 with _ | b21
    · have hf := nc_n hf
      have hl : lv_has ls 9 [(6, va_rf x6), (7, va_rf x7), (8, .null)] := hl
      refine lv_ifnonnullN hx hb dX6_takeWithin_136 ?_
      refine lv_iconst (v := (-1)) hx hb dX6_takeWithin_139 (by decide) ?_
      obtain rfl := Option.some.inj hf
      refine W.widen (k := 4) (n := 36) (by omega) (by omega) ?_
      refine vx_ret ?_
      exact W.iret hx hb hr (fun t ht hW => c_endE X hext hB trivial hS ht hW) hS.2.2 dX6_takeWithin_140 hlk
    · have hf := nc_b hf
      have hk_b21 := hk_x8 b21 rfl
      have hl : lv_has ls 9 [(6, va_rf x6), (7, va_rf x7), (8, .ref b21)] := hl
      refine lv_ifnonnull (tgt := 141) hx hb dX6_takeWithin_136 (by decide) ?_
      refine lv_aloadq hx hb dX6_takeWithin_141 (lv_at hl 0 rfl) ?_
      refine lv_aload hx hb dX6_takeWithin_143 (lv_at hl 2 rfl) ?_
      refine lv_aloadq hx hb dX6_takeWithin_145 (lv_at hl 1 rfl) ?_
      refine lv_aload hx hb dX6_takeWithin_147 (lv_at hl 2 rfl) ?_
      obtain ⟨b22, eb22, hf2⟩ := nn_s hf
      clear hf
      subst eb22
      have hf := hf2
      clear hf2
      have hk_b22 := hk_x7 b22 rfl
      have hl : lv_has ls 9 [(6, va_rf x6), (7, .ref b22), (8, .ref b21)] := hl
      obtain ⟨v23, hqv23, hf⟩ := bn_s hf
      refine c_doF hB hS hA (va_runV (As := [va_rf (some b21)]) (rest := [.ref b21, va_rf x6]) X.1 (cm_X1_baseIn l F D ct _ _ b22 (some b21) hk_b22 (tyo_some hk_b21) _ hqv23) (cwV 1 hts (gd_V km_X6_130 ki_X1_baseIn ks_X1_baseIn kin_RX1 kc_X1_baseIn) rfl rfl rfl (by decide +kernel) ⟨by dsimp only; omega, by dsimp only; omega⟩) (c_preV X hB hk_b22 rfl rfl) rfl rfl hl.1 rfl (lv_room (by rcases x6 with _ | _ <;> exact (Nat.le_of_ble_eq_true rfl))) dX6_takeWithin_149 ⟨by dsimp only; omega, by dsimp only; omega⟩) rfl (fun H locs hB hT hS => ?_)
      refine lv_l2i (v := v23.toInt32) hx hb dX6_takeWithin_152 rfl ?_
      refine lv_aload hx hb dX6_takeWithin_153 (lv_at hl 1 rfl) ?_
      refine c_get X hB hk_b22 rfl rfl kw_X1 0 134 (by decide) kf_X6_134 rfl rfl dX6_takeWithin_155 ?_
      refine lv_l2i (v := (gJ S 16 b22).toInt32) hx hb dX6_takeWithin_158 rfl ?_
      obtain ⟨b24, eb24, hf2⟩ := nn_s hf
      clear hf
      subst eb24
      have hf := hf2
      clear hf2
      have hk_b24 := hk_x6 b24 rfl
      have hl : lv_has ls 9 [(6, .ref b24), (7, .ref b22), (8, .ref b21)] := hl
      obtain ⟨⟨z25v, z25S⟩, hqz25, hf⟩ := bn_s hf
      have hf := st2_s hf
      have hle : nx S0 ≤ nx S := by rw [← hsz, ← hB.2.2.1]; exact hS.1
      refine c_doE hB hS hA (va_runV (As := [va_rf (some b21), .int v23.toInt32, .int ((gJ S 16 b22).toInt32)]) (rest := []) X.1 (cm_X0_carve l F D ct _ _ b24 (some b21) v23.toInt32 ((gJ S 16 b22).toInt32) hk_b24 (tyo_some hk_b21) _ _ hqz25) (cwV 3 hts (gd_V km_X6_138 ki_X0_carve ks_X0_carve kin_RX0 kc_X0_carve) rfl rfl rfl (by decide +kernel) ⟨by dsimp only; omega, by dsimp only; omega⟩) (c_preV X hB hk_b24 rfl rfl) rfl rfl hl.1 rfl (lv_room (Nat.le_of_ble_eq_true rfl)) dX6_takeWithin_159 ⟨by dsimp only; omega, by dsimp only; omega⟩) rfl (fun G H locs hx1 hB2 hT hS => ?_)
      have hext := hext.trans hx1 hle
      have hk_b24 := hx1.1 _ _ hk_b24
      have hk_b22 := hx1.1 _ _ hk_b22
      have hk_b21 := hx1.1 _ _ hk_b21
      have hk_this := hx1.1 _ _ hk_this
      have hB := hB2
      clear hB2
      have hk_z25v := hT
      refine W.widen (k := 4) (n := 36) (by omega) (by omega) ?_
      obtain ⟨b26, eb26, hf2⟩ := nn_s hf
      clear hf
      subst eb26
      have hf := hf2
      clear hf2
      have hk_b26 := hk_z25v b26 rfl
      have hl : lv_has ls 9 [(6, .ref b24), (7, .ref b22), (8, .ref b21)] := hl
      refine c_get X hB hk_b26 rfl rfl kw_X5 0 93 (by decide) kf_X6_93 rfl rfl dX6_takeWithin_162 ?_
      obtain rfl := Option.some.inj hf
      refine W.widen (k := 4) (n := 36) (by omega) (by omega) ?_
      refine vx_ret ?_
      exact W.iret hx hb hr (fun t ht hW => c_endE X hext hB trivial hS ht hW) hS.2.2 dX6_takeWithin_165 hlk
  have J_45 : ∀ (G : Gam) (S : Cst) (x2 : Int32) (x3 : Int32) (x4 : Int32) (x5 : Int32) (x6 : Option Nat), cf_X6_takeWithin_45 F this S x2 x3 x4 x5 x6 = some res → ∀ (H : Heap) (locs : List Loc) (ls : Array Slot), ext G0 (nx S0) G → ty G 6 this → tyo G 0 x6 → cB D ct G A S H → va_S A s.heap H locs → lv_has ls 9 [(0, .ref this), (2, .int x2), (3, .int x3), (4, .int x4), (5, .int x5), (6, va_rf x6)] → W p l e { frames := 7, cells := 4, slots := 36, locals := 134 } s m args below meth c H locs (1) (6) (vx_MQ below (tQ (fun r : Int32 => some (.int r)) D ct G0 (nx S0) (fun _ _ => True) A res) (tX D ct G0 (nx S0) A res) args s 4 36 A) (F0 m 45 ls []) := by
    intro G S x2 x3 x4 x5 x6 hf H locs ls hext hk_this hk_x6 hB hS hl
    unfold cf_X6_takeWithin_45 at hf
    refine lv_iload hx hb dX6_takeWithin_45 (lv_at hl 3 rfl) ?_
    refine lv_if_lt (tgt := 66) hx hb dX6_takeWithin_47 (by decide) (fun hc7 => ?_) (fun hc7 => ?_)
    · have hf := if_t hf hc7
      obtain rfl := Option.some.inj hf
      exact t_throw X Z hl0 hB hS hext hAb htab hlk hl 2 rfl (text := "phase") (is := 115) (by decide +kernel) (by decide +kernel) kcl_X6_24 kin_java_lang_IllegalArgumentException Z.2.1.1 th_w_IAE th_n_IAE th_g_IAE dX6_takeWithin_66 dX6_takeWithin_69 dX6_takeWithin_70 dX6_takeWithin_72 dX6_takeWithin_75 (by decide) (Nat.le_of_ble_eq_true rfl) (by dsimp only; omega) (by dsimp only; omega) (by omega) (by omega)
    · have hf := if_f hf hc7
      refine lv_iload hx hb dX6_takeWithin_50 (lv_at hl 3 rfl) ?_
      refine lv_iload_n hx hb dX6_takeWithin_52 rfl (lv_at hl 2 rfl) ?_
      refine lv_icmp_ge (tgt := 66) hx hb dX6_takeWithin_53 (by decide) (fun hc8 => ?_) (fun hc8 => ?_)
      · have hf := if_t hf hc8
        obtain rfl := Option.some.inj hf
        exact t_throw X Z hl0 hB hS hext hAb htab hlk hl 2 rfl (text := "phase") (is := 115) (by decide +kernel) (by decide +kernel) kcl_X6_24 kin_java_lang_IllegalArgumentException Z.2.1.1 th_w_IAE th_n_IAE th_g_IAE dX6_takeWithin_66 dX6_takeWithin_69 dX6_takeWithin_70 dX6_takeWithin_72 dX6_takeWithin_75 (by decide) (Nat.le_of_ble_eq_true rfl) (by dsimp only; omega) (by dsimp only; omega) (by omega) (by omega)
      · have hf := if_f hf hc8
        refine lv_aloadq hx hb dX6_takeWithin_56 (lv_at hl 5 rfl) ?_
        refine lv_iload hx hb dX6_takeWithin_58 (lv_at hl 3 rfl) ?_
        obtain ⟨b9, eb9, hf2⟩ := nn_s hf
        clear hf
        subst eb9
        have hf := hf2
        clear hf2
        have hk_b9 := hk_x6 b9 rfl
        have hl : lv_has ls 9 [(0, .ref this), (2, .int x2), (3, .int x3), (4, .int x4), (5, .int x5), (6, .ref b9)] := hl
        obtain ⟨v10, hqv10, hf⟩ := bn_s hf
        refine c_doF hB hS hA (va_runV (As := [.int x4]) (rest := []) X.1 (cm_X0_isMultiple l F D ct _ _ b9 x4 hk_b9 _ hqv10) (cwV 1 hts (gd_V km_X6_46 ki_X0_isMultiple ks_X0_isMultiple kin_RX0 kc_X0_isMultiple) rfl rfl rfl (by decide +kernel) ⟨by dsimp only; omega, by dsimp only; omega⟩) (c_preV X hB hk_b9 rfl rfl) rfl rfl hl.1 rfl (lv_room (Nat.le_of_ble_eq_true rfl)) dX6_takeWithin_60 ⟨by dsimp only; omega, by dsimp only; omega⟩) rfl (fun H locs hB hT hS => ?_)
        refine lv_if_ne (tgt := 76) hx hb dX6_takeWithin_63 (by decide) (fun hc11 => ?_) (fun hc11 => ?_)
        · have hf := if_f hf hc11
          refine lv_aload_n hx hb dX6_takeWithin_76 rfl (lv_at hl 0 rfl) ?_
          obtain ⟨v12, hqv12, hf⟩ := bn_s hf
          refine c_doF hB hS hA (va_runV (As := []) (rest := []) X.1 (cm_X6_isFull l F D ct _ _ this hk_this _ hqv12) (cwV 0 hts (gd_V km_X6_51 ki_X6_isFull ks_X6_isFull kin_RX6 kc_X6_isFull) rfl rfl rfl (by decide +kernel) ⟨by dsimp only; omega, by dsimp only; omega⟩) (c_preV X hB hk_this rfl rfl) rfl rfl hl.1 rfl (lv_room (Nat.le_of_ble_eq_true rfl)) dX6_takeWithin_77 ⟨by dsimp only; omega, by dsimp only; omega⟩) rfl (fun H locs hB hT hS => ?_)
          refine lv_if_eq (tgt := 86) hx hb dX6_takeWithin_80 (by decide) (fun hc13 => ?_) (fun hc13 => ?_)
          · have hf := if_t hf hc13
            obtain ⟨a14, ea14, hf⟩ := st1_s hf
            obtain ⟨S15, eS15, hf⟩ := st1_s hf
            have hle : nx S0 ≤ nx S := by rw [← hsz, ← hB.2.2.1]; exact hS.1
            refine c_newG X hB hS hA 1 rfl kw_X1 tyX1 tyX1_ok kcl_X6_117 kit_RX1 kin_RX1 (hd_1 ct S) (hdv_1) (by decide) (by dsimp only; omega) (by dsimp only; omega) dX6_takeWithin_86 (fun G H hx1 hk_a14 hB2 hS => ?_)
            have hext := hext.trans hx1 hle
            have hk_this := hx1.1 _ _ hk_this
            have hk_b9 := hx1.1 _ _ hk_b9
            rw [← ea14] at hk_a14 ⊢
            rw [← eS15] at hB2
            have hB := hB2
            clear hB2
            refine lv_dup hx hb dX6_takeWithin_89 rfl ?_
            refine lv_aload hx hb dX6_takeWithin_90 (lv_at hl 5 rfl) ?_
            refine lv_iload_n hx hb dX6_takeWithin_92 rfl (lv_at hl 1 rfl) ?_
            refine lv_iload_n hx hb dX6_takeWithin_93 rfl (lv_at hl 2 rfl) ?_
            refine lv_iload hx hb dX6_takeWithin_94 (lv_at hl 3 rfl) ?_
            refine lv_iload hx hb dX6_takeWithin_96 (lv_at hl 4 rfl) ?_
            obtain ⟨S16, hqS16, hf⟩ := bn_s hf
            refine c_doF hB hS hA (va_runI (As := [va_rf (some b9), .int x2, .int x3, .int x4, .int x5]) (rest := [.ref a14]) X.1 (cm_X1_init l F D ct _ _ a14 (some b9) x2 x3 x4 x5 hk_a14 (tyo_some hk_b9) _ hqS16) (cwI 5 hts (gd_w kc_X1_init) rfl rfl rfl (hts _ (kw_m kin_RX1)) (hts _ (kw_m km_X6_119)) (hts _ (kw_m ki_X1_init)) rfl (by decide +kernel) ⟨by dsimp only; omega, by dsimp only; omega⟩) (c_preS X hB) rfl rfl hl.1 rfl (lv_room (Nat.le_of_ble_eq_true rfl)) dX6_takeWithin_98 ⟨by dsimp only; omega, by dsimp only; omega⟩) rfl (fun H locs hB hT hS => ?_)
            refine lv_astore (lv' := [(7, .ref a14), (0, .ref this), (2, .int x2), (3, .int x3), (4, .int x4), (5, .int x5), (6, .ref b9)]) hx hb dX6_takeWithin_101 hl (by decide) rfl (fun ls hl => ?_)
            refine lv_aload hx hb dX6_takeWithin_103 (lv_at hl 6 rfl) ?_
            refine lv_aload hx hb dX6_takeWithin_105 (lv_at hl 0 rfl) ?_
            obtain ⟨q17, hqq17, hf⟩ := bn_s hf
            refine c_doF hB hS hA (va_runV (As := [va_rf (some a14)]) (rest := []) X.1 (cm_X0_leastWithin l F D ct _ _ b9 (some a14) hk_b9 (tyo_some hk_a14) _ hqq17) (cwV 1 hts (gd_V km_X6_122 ki_X0_leastWithin ks_X0_leastWithin kin_RX0 kc_X0_leastWithin) rfl rfl rfl (by decide +kernel) ⟨by dsimp only; omega, by dsimp only; omega⟩) (c_preV X hB hk_b9 rfl rfl) rfl rfl hl.1 rfl (lv_room (Nat.le_of_ble_eq_true rfl)) dX6_takeWithin_107 ⟨by dsimp only; omega, by dsimp only; omega⟩) rfl (fun H locs hB hT hS => ?_)
            have hk_q17 := hT
            refine lv_astoreq (lv' := [(8, va_rf q17), (7, .ref a14), (0, .ref this), (2, .int x2), (3, .int x3), (4, .int x4), (5, .int x5), (6, .ref b9)]) hx hb dX6_takeWithin_110 hl (by decide) rfl (fun ls hl => ?_)
            refine lv_aloadq hx hb dX6_takeWithin_112 (lv_at hl 0 rfl) ?_
            rcases q17 with _ | b18
            · have hf := nc_n hf
              have hl : lv_has ls 9 [(8, .null), (7, .ref a14), (0, .ref this), (2, .int x2), (3, .int x3), (4, .int x4), (5, .int x5), (6, .ref b9)] := hl
              refine lv_ifnonnullN hx hb dX6_takeWithin_114 ?_
              refine lv_aload hx hb dX6_takeWithin_117 (lv_at hl 7 rfl) ?_
              obtain ⟨⟨z19v, z19S⟩, hqz19, hf⟩ := bn_s hf
              have hf := st2_s hf
              refine c_doF hB hS hA (va_runS (As := [va_rf (some b9)]) (rest := []) X.1 (cm_X6_sweep l F D ct _ _ (some b9) (tyo_some hk_b9) _ _ hqz19) (va_cwS 1 hts (gd_S km_X6_126 kst_X6_sweep kin_RX6 kc_X6_sweep) rfl rfl rfl (by decide +kernel) ⟨by dsimp only; omega, by dsimp only; omega⟩) (c_preS X hB) rfl rfl hl.1 rfl (lv_room (Nat.le_of_ble_eq_true rfl)) dX6_takeWithin_119 ⟨by dsimp only; omega, by dsimp only; omega⟩) rfl (fun H locs hB hT hS => ?_)
              refine lv_if_le (tgt := 134) hx hb dX6_takeWithin_122 (by decide) (fun hc20 => ?_) (fun hc20 => ?_)
              · have hf := if_t hf hc20
                exact J_134 _ z19S (some b9) (some a14) none hf _ _ _ hext hk_this (tyo_some hk_b9) (tyo_some hk_a14) tyo_none hB hS (lv_sub hl [7, 1, 0] rfl)
              · have hf := if_f hf hc20
                refine lv_aload hx hb dX6_takeWithin_125 (lv_at hl 7 rfl) ?_
                refine lv_aload hx hb dX6_takeWithin_127 (lv_at hl 1 rfl) ?_
                obtain ⟨q27, hqq27, hf⟩ := bn_s hf
                refine c_doF hB hS hA (va_runV (As := [va_rf (some a14)]) (rest := []) X.1 (cm_X0_leastWithin l F D ct _ _ b9 (some a14) hk_b9 (tyo_some hk_a14) _ hqq27) (cwV 1 hts (gd_V km_X6_122 ki_X0_leastWithin ks_X0_leastWithin kin_RX0 kc_X0_leastWithin) rfl rfl rfl (by decide +kernel) ⟨by dsimp only; omega, by dsimp only; omega⟩) (c_preV X hB hk_b9 rfl rfl) rfl rfl hl.1 rfl (lv_room (Nat.le_of_ble_eq_true rfl)) dX6_takeWithin_129 ⟨by dsimp only; omega, by dsimp only; omega⟩) rfl (fun H locs hB hT hS => ?_)
                have hk_q27 := hT
                refine lv_astoreq (lv' := [(8, va_rf q27), (7, .ref a14), (0, .ref this), (2, .int x2), (3, .int x3), (4, .int x4), (5, .int x5), (6, .ref b9)]) hx hb dX6_takeWithin_132 hl (by decide) rfl (fun ls hl => ?_)
                exact J_134 _ z19S (some b9) (some a14) q27 hf _ _ _ hext hk_this (tyo_some hk_b9) (tyo_some hk_a14) hk_q27 hB hS (lv_sub hl [7, 1, 0] rfl)
            · have hf := nc_b hf
              have hk_b18 := hk_q17 b18 rfl
              have hl : lv_has ls 9 [(8, .ref b18), (7, .ref a14), (0, .ref this), (2, .int x2), (3, .int x3), (4, .int x4), (5, .int x5), (6, .ref b9)] := hl
              refine lv_ifnonnull (tgt := 134) hx hb dX6_takeWithin_114 (by decide) ?_
              exact J_134 _ S16 (some b9) (some a14) (some b18) hf _ _ _ hext hk_this (tyo_some hk_b9) (tyo_some hk_a14) (tyo_some hk_b18) hB hS (lv_sub hl [7, 1, 0] rfl)
          · have hf := if_f hf hc13
            refine lv_bipush (v := (-2)) hx hb dX6_takeWithin_83 (by decide) ?_
            obtain rfl := Option.some.inj hf
            refine W.widen (k := 4) (n := 36) (by omega) (by omega) ?_
            refine vx_ret ?_
            exact W.iret hx hb hr (fun t ht hW => c_endE X hext hB trivial hS ht hW) hS.2.2 dX6_takeWithin_85 hlk
        · have hf := if_t hf hc11
          obtain rfl := Option.some.inj hf
          exact t_throw X Z hl0 hB hS hext hAb htab hlk hl 2 rfl (text := "phase") (is := 115) (by decide +kernel) (by decide +kernel) kcl_X6_24 kin_java_lang_IllegalArgumentException Z.2.1.1 th_w_IAE th_n_IAE th_g_IAE dX6_takeWithin_66 dX6_takeWithin_69 dX6_takeWithin_70 dX6_takeWithin_72 dX6_takeWithin_75 (by decide) (Nat.le_of_ble_eq_true rfl) (by dsimp only; omega) (by dsimp only; omega) (by omega) (by omega)
  unfold cf_X6_takeWithin at hf
  refine lv_aload_n hx hb dX6_takeWithin_0 rfl (lv_at hl 0 rfl) ?_
  refine lv_iload_n hx hb dX6_takeWithin_1 rfl (lv_at hl 1 rfl) ?_
  obtain ⟨z1, hqz1, hf⟩ := bn_s hf
  have hle : nx S0 ≤ nx S := by rw [← hsz, ← hB.2.2.1]; exact hS.1
  refine t_do hB hS hA hext hle htab hlk (vx_runV (As := [.int x1]) (rest := []) X.1 (cm_X6_arenaAt l F hl0 D ct b0 _ _ this x1 hk_this (fun a ha => hAb a (c_in hB ha)) (hAb _ (hA _ (by rw [← hB.2.2.1]; exact hS.1))) _ hqz1) (cwV 1 hts (gd_V km_X6_43 ki_X6_arenaAt ks_X6_arenaAt kin_RX6 kc_X6_arenaAt) rfl rfl rfl (by decide +kernel) ⟨by dsimp only; omega, by dsimp only; omega⟩) (t_preV X Z hB hS hAb hk_this rfl rfl) rfl rfl hl.1 rfl (lv_room (Nat.le_of_ble_eq_true rfl)) dX6_takeWithin_2 ⟨by dsimp only; omega, by dsimp only; omega⟩) (fun w hw => by subst hw; exact tr_l hf) (by omega) (by omega) (fun z1v z1S hz G H locs hx1 hB2 hT hS => ?_)
  subst hz
  have hf := tr_r hf
  have hext := hext.trans hx1 hle
  have hk_this := hx1.1 _ _ hk_this
  have hB := hB2
  clear hB2
  have hk_z1v := hT
  refine W.widen (k := 1) (n := 6) (by omega) (by omega) ?_
  refine W.eq (g2 := F0 m 5 ls [va_rf z1v]) rfl ?_
  refine lv_astoreq (lv' := [(6, va_rf z1v), (0, .ref this), (1, .int x1), (2, .int x2), (3, .int x3), (4, .int x4), (5, .int x5)]) hx hb dX6_takeWithin_5 hl (by decide) rfl (fun ls hl => ?_)
  refine lv_iload_n hx hb dX6_takeWithin_7 rfl (lv_at hl 3 rfl) ?_
  refine lv_if_le (tgt := 35) hx hb dX6_takeWithin_8 (by decide) (fun hc2 => ?_) (fun hc2 => ?_)
  · have hf := if_t hf hc2
    obtain rfl := Option.some.inj hf
    exact t_throw X Z hl0 hB hS hext hAb htab hlk hl 2 rfl (text := "size, align or cross") (is := 113) (by decide +kernel) (by decide +kernel) kcl_X6_24 kin_java_lang_IllegalArgumentException Z.2.1.1 th_w_IAE th_n_IAE th_g_IAE dX6_takeWithin_35 dX6_takeWithin_38 dX6_takeWithin_39 dX6_takeWithin_41 dX6_takeWithin_44 (by decide) (Nat.le_of_ble_eq_true rfl) (by dsimp only; omega) (by dsimp only; omega) (by omega) (by omega)
  · have hf := if_f hf hc2
    refine lv_aloadq hx hb dX6_takeWithin_11 (lv_at hl 0 rfl) ?_
    refine lv_iload_n hx hb dX6_takeWithin_13 rfl (lv_at hl 4 rfl) ?_
    obtain ⟨b3, eb3, hf2⟩ := nn_s hf
    clear hf
    subst eb3
    have hf := hf2
    clear hf2
    have hk_b3 := hk_z1v b3 rfl
    have hl : lv_has ls 9 [(6, .ref b3), (0, .ref this), (1, .int x1), (2, .int x2), (3, .int x3), (4, .int x4), (5, .int x5)] := hl
    obtain ⟨v4, hqv4, hf⟩ := bn_s hf
    refine c_doF hB hS hA (va_runV (As := [.int x3]) (rest := []) X.1 (cm_X0_isUnit l F D ct _ _ b3 x3 hk_b3 _ hqv4) (cwV 1 hts (gd_V km_X6_110 ki_X0_isUnit ks_X0_isUnit kin_RX0 kc_X0_isUnit) rfl rfl rfl (by decide +kernel) ⟨by dsimp only; omega, by dsimp only; omega⟩) (c_preV X hB hk_b3 rfl rfl) rfl rfl hl.1 rfl (lv_room (Nat.le_of_ble_eq_true rfl)) dX6_takeWithin_14 ⟨by dsimp only; omega, by dsimp only; omega⟩) rfl (fun H locs hB hT hS => ?_)
    refine lv_if_eq (tgt := 35) hx hb dX6_takeWithin_17 (by decide) (fun hc5 => ?_) (fun hc5 => ?_)
    · have hf := if_t hf hc5
      obtain rfl := Option.some.inj hf
      exact t_throw X Z hl0 hB hS hext hAb htab hlk hl 2 rfl (text := "size, align or cross") (is := 113) (by decide +kernel) (by decide +kernel) kcl_X6_24 kin_java_lang_IllegalArgumentException Z.2.1.1 th_w_IAE th_n_IAE th_g_IAE dX6_takeWithin_35 dX6_takeWithin_38 dX6_takeWithin_39 dX6_takeWithin_41 dX6_takeWithin_44 (by decide) (Nat.le_of_ble_eq_true rfl) (by dsimp only; omega) (by dsimp only; omega) (by omega) (by omega)
    · have hf := if_f hf hc5
      refine lv_iload hx hb dX6_takeWithin_20 (lv_at hl 6 rfl) ?_
      refine lv_if_eq (tgt := 45) hx hb dX6_takeWithin_22 (by decide) (fun hc6 => ?_) (fun hc6 => ?_)
      · have hf := if_t hf hc6
        exact J_45 _ z1S x2 x3 x4 x5 (some b3) hf _ _ _ hext hk_this (tyo_some hk_b3) hB hS (lv_sub hl [1, 3, 4, 5, 6, 0] rfl)
      · have hf := if_f hf hc6
        refine lv_aload hx hb dX6_takeWithin_25 (lv_at hl 0 rfl) ?_
        refine lv_iload hx hb dX6_takeWithin_27 (lv_at hl 6 rfl) ?_
        obtain ⟨v28, hqv28, hf⟩ := bn_s hf
        refine c_doF hB hS hA (va_runV (As := [.int x5]) (rest := []) X.1 (cm_X0_isUnit l F D ct _ _ b3 x5 hk_b3 _ hqv28) (cwV 1 hts (gd_V km_X6_110 ki_X0_isUnit ks_X0_isUnit kin_RX0 kc_X0_isUnit) rfl rfl rfl (by decide +kernel) ⟨by dsimp only; omega, by dsimp only; omega⟩) (c_preV X hB hk_b3 rfl rfl) rfl rfl hl.1 rfl (lv_room (Nat.le_of_ble_eq_true rfl)) dX6_takeWithin_29 ⟨by dsimp only; omega, by dsimp only; omega⟩) rfl (fun H locs hB hT hS => ?_)
        refine lv_if_ne (tgt := 45) hx hb dX6_takeWithin_32 (by decide) (fun hc29 => ?_) (fun hc29 => ?_)
        · have hf := if_f hf hc29
          exact J_45 _ z1S x2 x3 x4 x5 (some b3) hf _ _ _ hext hk_this (tyo_some hk_b3) hB hS (lv_sub hl [1, 3, 4, 5, 6, 0] rfl)
        · have hf := if_t hf hc29
          obtain rfl := Option.some.inj hf
          exact t_throw X Z hl0 hB hS hext hAb htab hlk hl 2 rfl (text := "size, align or cross") (is := 113) (by decide +kernel) (by decide +kernel) kcl_X6_24 kin_java_lang_IllegalArgumentException Z.2.1.1 th_w_IAE th_n_IAE th_g_IAE dX6_takeWithin_35 dX6_takeWithin_38 dX6_takeWithin_39 dX6_takeWithin_41 dX6_takeWithin_44 (by decide) (Nat.le_of_ble_eq_true rfl) (by dsimp only; omega) (by dsimp only; omega) (by omega) (by omega)
/-! X6_where -/
def cf_X6_where (F : Nat) (S : Cst) (this : Nat) (x1 : Int32) (x2 : Int32) : Option (Thr Int32) := (cf_X6_arenaAt F S this x1).bind fun z1 => tr z1 fun z1v z1S => nn z1v fun b2 => (cf_X0_holding F z1S b2 x2).bind fun q3 => nc q3 (some (.inr (((-1) : Int32), z1S))) (fun b4 => if (gI z1S 82 b4) = (2 : Int32) then ((cf_X5_objectAt F z1S b4 x2).bind fun v6 => (cf_X5_isHeld F z1S b4 v6).bind fun v7 => if v7 = 0 then (some (.inr ((gI z1S 82 b4), z1S))) else (some (.inr ((1 : Int32), z1S)))) else (some (.inr ((gI z1S 82 b4), z1S))))
set_option maxHeartbeats 4000000 in
set_option maxRecDepth 100000 in
theorem cm_X6_where (l : Launch) (F : Nat) (hl0 : l.stackTraces = false) (D : va_G) (ct : ClassId × ClassId × ClassId) (b0 : Nat) (G : Gam) (S : Cst) (this : Nat) (x1 : Int32) (x2 : Int32) (hk_this : ty G 6 this) (hb : ∀ a ∈ G.1, b0 ≤ a) (hbn : b0 ≤ nx S) (res : Thr Int32) (hf : cf_X6_where F S this x1 x2 = some res) : xMet l yX6_where cq_X6_where { frames := 7, cells := 1, slots := 6, locals := 122 } D ct G b0 [.ref this, .int x1, .int x2] S (fun r : Int32 => some (.int r)) (fun _ _ => True) res 1 6 := by
  refine xMet_of (own := RX6) (cc := cX6_where) (maxL := 4) (ret := (some .int)) hb hbn (by decide) rfl rfl (Nat.le_of_ble_eq_true rfl) ?_
  intro p e s m below meth c X hr hlk htab Z ls A hl hB hA hAb hS
  have hx := X.1.1
  have hb := X.1.2.1
  have hown := X.1.2.2.2.1
  have hts := X.1.2.2.2.2
  have hl : lv_has ls 4 [(0, .ref this), (1, .int x1), (2, .int x2)] := hl
  generalize hargs : ([.ref this, .int x1, .int x2] : List Value).toArray = args at X hts hS ⊢
  have hsz := hB.2.2.1
  obtain ⟨G0, eG0⟩ : ∃ z, z = G := ⟨_, rfl⟩
  obtain ⟨S0, eS0⟩ : ∃ z, z = S := ⟨_, rfl⟩
  have hext : ext G0 (nx S0) G := by rw [eG0]; exact ext_rf
  rw [← eS0] at hsz
  suffices hgoal : W p l e { frames := 7, cells := 1, slots := 6, locals := 122 } s m args below meth c s.heap [] (0) (0) (vx_MQ below (tQ (fun r : Int32 => some (.int r)) D ct G0 (nx S0) (fun _ _ => True) A res) (tX D ct G0 (nx S0) A res) args s 1 6 A) (F0 m 0 ls []) by rw [eG0, eS0] at hgoal; exact hgoal
  unfold cf_X6_where at hf
  refine lv_aload_n hx hb dX6_where_0 rfl (lv_at hl 0 rfl) ?_
  refine lv_iload_n hx hb dX6_where_1 rfl (lv_at hl 1 rfl) ?_
  obtain ⟨z1, hqz1, hf⟩ := bn_s hf
  have hle : nx S0 ≤ nx S := by rw [← hsz, ← hB.2.2.1]; exact hS.1
  refine t_do hB hS hA hext hle htab hlk (vx_runV (As := [.int x1]) (rest := []) X.1 (cm_X6_arenaAt l F hl0 D ct b0 _ _ this x1 hk_this (fun a ha => hAb a (c_in hB ha)) (hAb _ (hA _ (by rw [← hB.2.2.1]; exact hS.1))) _ hqz1) (cwV 1 hts (gd_V km_X6_43 ki_X6_arenaAt ks_X6_arenaAt kin_RX6 kc_X6_arenaAt) rfl rfl rfl (by decide +kernel) ⟨by dsimp only; omega, by dsimp only; omega⟩) (t_preV X Z hB hS hAb hk_this rfl rfl) rfl rfl hl.1 rfl (lv_room (Nat.le_of_ble_eq_true rfl)) dX6_where_2 ⟨by dsimp only; omega, by dsimp only; omega⟩) (fun w hw => by subst hw; exact tr_l hf) (by omega) (by omega) (fun z1v z1S hz G H locs hx1 hB2 hT hS => ?_)
  subst hz
  have hf := tr_r hf
  have hext := hext.trans hx1 hle
  have hk_this := hx1.1 _ _ hk_this
  have hB := hB2
  clear hB2
  have hk_z1v := hT
  refine W.widen (k := 1) (n := 6) (by omega) (by omega) ?_
  refine W.eq (g2 := F0 m 5 ls [va_rf z1v]) rfl ?_
  refine lv_iload_n hx hb dX6_where_5 rfl (lv_at hl 2 rfl) ?_
  obtain ⟨b2, eb2, hf2⟩ := nn_s hf
  clear hf
  subst eb2
  have hf := hf2
  clear hf2
  have hk_b2 := hk_z1v b2 rfl
  have hl : lv_has ls 4 [(0, .ref this), (1, .int x1), (2, .int x2)] := hl
  obtain ⟨q3, hqq3, hf⟩ := bn_s hf
  refine c_doF hB hS hA (va_runV (As := [.int x2]) (rest := []) X.1 (cm_X0_holding l F D ct _ _ b2 x2 hk_b2 _ hqq3) (cwV 1 hts (gd_V km_X6_266 ki_X0_holding ks_X0_holding kin_RX0 kc_X0_holding) rfl rfl rfl (by decide +kernel) ⟨by dsimp only; omega, by dsimp only; omega⟩) (c_preV X hB hk_b2 rfl rfl) rfl rfl hl.1 rfl (lv_room (Nat.le_of_ble_eq_true rfl)) dX6_where_6 ⟨by dsimp only; omega, by dsimp only; omega⟩) rfl (fun H locs hB hT hS => ?_)
  have hk_q3 := hT
  refine lv_astore_nq (lv' := [(3, va_rf q3), (0, .ref this), (1, .int x1), (2, .int x2)]) hx hb dX6_where_9 rfl hl (by decide) rfl (fun ls hl => ?_)
  refine lv_aload_nq hx hb dX6_where_10 rfl (lv_at hl 0 rfl) ?_
  rcases q3 with _ | b4
  · have hf := nc_n hf
    have hl : lv_has ls 4 [(3, .null), (0, .ref this), (1, .int x1), (2, .int x2)] := hl
    refine lv_ifnonnullN hx hb dX6_where_11 ?_
    refine lv_iconst (v := (-1)) hx hb dX6_where_14 (by decide) ?_
    obtain rfl := Option.some.inj hf
    refine W.widen (k := 1) (n := 6) (by omega) (by omega) ?_
    refine vx_ret ?_
    exact W.iret hx hb hr (fun t ht hW => c_endE X hext hB trivial hS ht hW) hS.2.2 dX6_where_15 hlk
  · have hf := nc_b hf
    have hk_b4 := hk_q3 b4 rfl
    have hl : lv_has ls 4 [(3, .ref b4), (0, .ref this), (1, .int x1), (2, .int x2)] := hl
    refine lv_ifnonnull (tgt := 16) hx hb dX6_where_11 (by decide) ?_
    refine lv_aload_n hx hb dX6_where_16 rfl (lv_at hl 0 rfl) ?_
    refine c_get X hB hk_b4 rfl rfl kw_X5 2 201 (by decide) kf_X6_201 rfl rfl dX6_where_17 ?_
    refine lv_iconst (v := 2) hx hb dX6_where_20 (by decide) ?_
    refine lv_icmp_ne (tgt := 40) hx hb dX6_where_21 (by decide) (fun hc5 => ?_) (fun hc5 => ?_)
    · have hf := if_f hf hc5
      refine lv_aload_n hx hb dX6_where_40 rfl (lv_at hl 0 rfl) ?_
      refine c_get X hB hk_b4 rfl rfl kw_X5 2 201 (by decide) kf_X6_201 rfl rfl dX6_where_41 ?_
      obtain rfl := Option.some.inj hf
      refine W.widen (k := 1) (n := 6) (by omega) (by omega) ?_
      refine vx_ret ?_
      exact W.iret hx hb hr (fun t ht hW => c_endE X hext hB trivial hS ht hW) hS.2.2 dX6_where_44 hlk
    · have hf := if_t hf hc5
      refine lv_aload_n hx hb dX6_where_24 rfl (lv_at hl 0 rfl) ?_
      refine lv_aload_n hx hb dX6_where_25 rfl (lv_at hl 0 rfl) ?_
      refine lv_iload_n hx hb dX6_where_26 rfl (lv_at hl 3 rfl) ?_
      obtain ⟨v6, hqv6, hf⟩ := bn_s hf
      refine c_doF hB hS hA (va_runV (As := [.int x2]) (rest := [.ref b4]) X.1 (cm_X5_objectAt l F D ct _ _ b4 x2 hk_b4 _ hqv6) (cwV 1 hts (gd_V km_X6_269 ki_X5_objectAt ks_X5_objectAt kin_RX5 kc_X5_objectAt) rfl rfl rfl (by decide +kernel) ⟨by dsimp only; omega, by dsimp only; omega⟩) (c_preV X hB hk_b4 rfl rfl) rfl rfl hl.1 rfl (lv_room (Nat.le_of_ble_eq_true rfl)) dX6_where_27 ⟨by dsimp only; omega, by dsimp only; omega⟩) rfl (fun H locs hB hT hS => ?_)
      obtain ⟨v7, hqv7, hf⟩ := bn_s hf
      refine c_doF hB hS hA (va_runV (As := [.int v6]) (rest := []) X.1 (cm_X5_isHeld l F D ct _ _ b4 v6 hk_b4 _ hqv7) (cwV 1 hts (gd_V km_X6_272 ki_X5_isHeld ks_X5_isHeld kin_RX5 kc_X5_isHeld) rfl rfl rfl (by decide +kernel) ⟨by dsimp only; omega, by dsimp only; omega⟩) (c_preV X hB hk_b4 rfl rfl) rfl rfl hl.1 rfl (lv_room (Nat.le_of_ble_eq_true rfl)) dX6_where_30 ⟨by dsimp only; omega, by dsimp only; omega⟩) rfl (fun H locs hB hT hS => ?_)
      refine lv_if_eq (tgt := 40) hx hb dX6_where_33 (by decide) (fun hc8 => ?_) (fun hc8 => ?_)
      · have hf := if_t hf hc8
        refine lv_aload_n hx hb dX6_where_40 rfl (lv_at hl 0 rfl) ?_
        refine c_get X hB hk_b4 rfl rfl kw_X5 2 201 (by decide) kf_X6_201 rfl rfl dX6_where_41 ?_
        obtain rfl := Option.some.inj hf
        refine W.widen (k := 1) (n := 6) (by omega) (by omega) ?_
        refine vx_ret ?_
        exact W.iret hx hb hr (fun t ht hW => c_endE X hext hB trivial hS ht hW) hS.2.2 dX6_where_44 hlk
      · have hf := if_f hf hc8
        refine lv_iconst (v := 1) hx hb dX6_where_36 (by decide) ?_
        refine lv_goto (tgt := 44) hx hb dX6_where_37 (by decide) ?_
        obtain rfl := Option.some.inj hf
        refine W.widen (k := 1) (n := 6) (by omega) (by omega) ?_
        refine vx_ret ?_
        exact W.iret hx hb hr (fun t ht hW => c_endE X hext hB trivial hS ht hW) hS.2.2 dX6_where_44 hlk
