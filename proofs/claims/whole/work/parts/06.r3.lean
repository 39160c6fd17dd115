/-! X7_gives -/
def rf_gives_153 (F : Nat) (kG : Rst → Int32 → Int32 → Option Rst) (R : Rst) (x1 : Int32) (x3 : Int32) : Option Rst := (rf_frees F R x3).bind fun R4 => rd R4 16 x3 fun v5 => rd R4 23 v5 fun v6 => if v6 = 0 then (some R4) else (rd R4 13 x3 fun v8 => rd R4 21 v5 fun v9 => if v8 = v9 then ((rf_remove F R4 x3).bind fun R11 => wr R11 22 v5 (vp_nar .boolean (0 : Int32)) fun R12 => st1 (rput R12 24 ((R12.1 24) - 1)) fun R13 => rd R13 3 x1 fun v14 => rd R13 20 v5 fun v15 => (kG R13 v14 v15).bind fun R16 => some R16) else (some R4))
def rf_gives_82 (F : Nat) (kG : Rst → Int32 → Int32 → Option Rst) (R : Rst) (x1 : Int32) (x3 : Int32) : Option Rst := if x3 ≤ 0 then (rf_gives_153 F kG R x1 x3) else (rd R 11 (x3 - 1) fun v17 => if v17 = x1 then (rd R 16 (x3 - 1) fun v19 => rd R 16 x3 fun v20 => if v19 = v20 then (rd R 14 (x3 - 1) fun v22 => if v22 = 0 then (rd R 13 (x3 + (-1)) fun v24 => rd R 13 ((x3 + (-1)) + 1) fun v25 => wr R 13 (x3 + (-1)) (v24 + v25) fun R26 => (rf_remove F R26 ((x3 + (-1)) + 1)).bind fun R27 => rf_gives_153 F kG R27 x1 (x3 + (-1))) else (rf_gives_153 F kG R x1 x3)) else (rf_gives_153 F kG R x1 x3)) else (rf_gives_153 F kG R x1 x3))
def rf_givesB (F : Nat) (kG : Rst → Int32 → Int32 → Option Rst) (R : Rst) (x1 : Int32) (x2 : Int32) : Option Rst := (rf_position F R x1 x2.toInt64).bind fun v1 => if (R.1 10) ≤ (v1 + 1) then (rf_gives_82 F kG R x1 v1) else (rd R 11 (v1 + 1) fun v28 => if v28 = x1 then (rd R 16 (v1 + 1) fun v30 => rd R 16 v1 fun v31 => if v30 = v31 then (rd R 14 (v1 + 1) fun v33 => if v33 = 0 then (rd R 13 v1 fun v35 => rd R 13 (v1 + 1) fun v36 => wr R 13 v1 (v35 + v36) fun R37 => (rf_remove F R37 (v1 + 1)).bind fun R38 => rf_gives_82 F kG R38 x1 v1) else (rf_gives_82 F kG R x1 v1)) else (rf_gives_82 F kG R x1 v1)) else (rf_gives_82 F kG R x1 v1))
set_option maxHeartbeats 4000000 in
set_option maxRecDepth 100000 in
theorem rm_givesB (l : Launch) (F : Nat) (kG : Rst → Int32 → Int32 → Option Rst) (fr lo : Nat) (D : va_G) (cI cZ : ClassId) (o : Nat) (q : Nat → Nat) (hkG : ∀ (R : Rst) (a0 : Int32) (a1 : Int32) (R' : Rst), kG R a0 a1 = some R' → rMet l yX7_gives (wq_X7_gives) { frames := fr, cells := 0, slots := 0, locals := lo } D cI cZ o q [.ref o, .int a0, .int a1] R none R') (hfr : 8 ≤ fr) (hlo : 300 ≤ lo) (R : Rst) (x1 : Int32) (x2 : Int32) (R' : Rst) (hf : rf_givesB F kG R x1 x2 = some R')   : rMet l yX7_gives wq_X7_gives { frames := fr + 1, cells := 0, slots := 0, locals := lo + 60 } D cI cZ o q [.ref o, .int x1, .int x2] R none R' := by
  refine rMet_of (cc := cX7_gives) (maxL := 5) (ret := none) (by decide) rfl rfl (kw_h kw_X7) (Nat.le_of_ble_eq_true rfl) ?_
  intro p e s m below meth c X hr hlk ls hl hB hS
  have hx := X.1.1
  have hb := X.1.2.1
  have hown := X.1.2.2.2.1
  have hts := X.1.2.2.2.2
  have hl : lv_has ls 5 [(0, .ref o), (1, .int x1), (2, .int x2)] := hl
  generalize hargs : ([.ref o, .int x1, .int x2] : List Value).toArray = args at X hts hS ⊢
  have J_153 : ∀ (R : Rst) (x1 : Int32) (x3 : Int32), rf_gives_153 F kG R x1 x3 = some R' → ∀ (H : Heap) (locs : List Loc) (ls : Array Slot), rB D cI cZ o q R H → va_S (rA o q) s.heap H locs → lv_has ls 5 [(0, .ref o), (1, .int x1), (3, .int x3)] → W p l e { frames := fr + 1, cells := 0, slots := 0, locals := lo + 60 } s m args below meth c H locs 0 0 (MQ below (mq none (rW D cI cZ o q R') (rA o q)) args s 0 0 (rA o q)) (F0 m 153 ls []) := by
    intro R x1 x3 hf H locs ls hB hS hl
    unfold rf_gives_153 at hf
    refine lv_aload_n hx hb dX7_gives_153 rfl (lv_at hl 0 rfl) ?_
    refine lv_iload_n hx hb dX7_gives_154 rfl (lv_at hl 2 rfl) ?_
    obtain ⟨R4, hqR4, hf⟩ := bn_s hf
    refine r_callV (As := [.int x3]) (rest := []) X hB hS (rm_frees l F D cI cZ o q _ _  _ hqR4) (cwV 1 hts (gd_V km_X7_121 ki_X7_frees ks_X7_frees kin_RX7 kc_X7_frees) rfl rfl rfl (by decide +kernel) ⟨by dsimp only; omega, by dsimp only; omega⟩) hl rfl rfl (Nat.le_of_ble_eq_true rfl) dX7_gives_155 ⟨Nat.zero_le _, Nat.zero_le _⟩ rfl (fun H locs hB hS => ?_)
    refine lv_aload_n hx hb dX7_gives_158 rfl (lv_at hl 0 rfl) ?_
    refine r_get X hB 16 49 (by decide) (kw_m kf_X7_49) rfl rfl dX7_gives_159 ?_
    refine lv_iload_n hx hb dX7_gives_162 rfl (lv_at hl 2 rfl) ?_
    obtain ⟨v5, ev5, hiv5, hf⟩ := rd_s hf
    refine r_ld X hB 16 14 (rat_16 cI cZ o q R4) hiv5 ev5 dX7_gives_163 ?_
    refine lv_istore (lv' := [(4, .int v5), (0, .ref o), (1, .int x1), (3, .int x3)]) hx hb dX7_gives_164 hl (by decide) rfl (fun ls hl => ?_)
    refine lv_aload_n hx hb dX7_gives_166 rfl (lv_at hl 1 rfl) ?_
    refine r_get X hB 23 68 (by decide) (kw_m kf_X7_68) rfl rfl dX7_gives_167 ?_
    refine lv_iload hx hb dX7_gives_170 (lv_at hl 0 rfl) ?_
    obtain ⟨v6, ev6, hiv6, hf⟩ := rd_s hf
    refine r_ldz X hB 23 20 (rat_23 cI cZ o q R4) hiv6 ev6 dX7_gives_172 ?_
    refine lv_if_eq (tgt := 192) hx hb dX7_gives_173 (by decide) (fun hc7 => ?_) (fun hc7 => ?_)
    · have hf := if_t hf hc7
      cases hf
      exact r_vret X hB hS hr hlk dX7_gives_192
    · have hf := if_f hf hc7
      refine lv_aload_n hx hb dX7_gives_176 rfl (lv_at hl 1 rfl) ?_
      refine r_get X hB 13 40 (by decide) (kw_m kf_X7_40) rfl rfl dX7_gives_177 ?_
      refine lv_iload_n hx hb dX7_gives_180 rfl (lv_at hl 3 rfl) ?_
      obtain ⟨v8, ev8, hiv8, hf⟩ := rd_s hf
      refine r_ld X hB 13 11 (rat_13 cI cZ o q R4) hiv8 ev8 dX7_gives_181 ?_
      refine lv_aload_n hx hb dX7_gives_182 rfl (lv_at hl 1 rfl) ?_
      refine r_get X hB 21 61 (by decide) (kw_m kf_X7_61) rfl rfl dX7_gives_183 ?_
      refine lv_iload hx hb dX7_gives_186 (lv_at hl 0 rfl) ?_
      obtain ⟨v9, ev9, hiv9, hf⟩ := rd_s hf
      refine r_ld X hB 21 18 (rat_21 cI cZ o q R4) hiv9 ev9 dX7_gives_188 ?_
      refine lv_icmp_eq (tgt := 193) hx hb dX7_gives_189 (by decide) (fun hc10 => ?_) (fun hc10 => ?_)
      · have hf := if_t hf hc10
        refine lv_aload_n hx hb dX7_gives_193 rfl (lv_at hl 1 rfl) ?_
        refine lv_iload_n hx hb dX7_gives_194 rfl (lv_at hl 3 rfl) ?_
        obtain ⟨R11, hqR11, hf⟩ := bn_s hf
        refine r_callV (As := [.int x3]) (rest := []) X hB hS (rm_remove l F D cI cZ o q _ _  _ hqR11) (cwV 1 hts (gd_V km_X7_177 ki_X7_remove ks_X7_remove kin_RX7 kc_X7_remove) rfl rfl rfl (by decide +kernel) ⟨by dsimp only; omega, by dsimp only; omega⟩) hl rfl rfl (Nat.le_of_ble_eq_true rfl) dX7_gives_195 ⟨Nat.zero_le _, Nat.zero_le _⟩ rfl (fun H locs hB hS => ?_)
        refine lv_aload_n hx hb dX7_gives_198 rfl (lv_at hl 1 rfl) ?_
        refine r_get X hB 22 64 (by decide) (kw_m kf_X7_64) rfl rfl dX7_gives_199 ?_
        refine lv_iload hx hb dX7_gives_202 (lv_at hl 0 rfl) ?_
        refine lv_iconst (v := 0) hx hb dX7_gives_204 (by decide) ?_
        obtain ⟨R12, eR12, hiR12, hf⟩ := wr_s hf
        refine r_stz X hB hS 22 19 (rat_22 cI cZ o q R11) (rset_22 cI cZ o q R11 _ _) hiR12 dX7_gives_205 (fun H locs hB hS => ?_)
        rw [← eR12] at hB
        refine lv_aload_n hx hb dX7_gives_206 rfl (lv_at hl 1 rfl) ?_
        refine lv_dup hx hb dX7_gives_207 rfl ?_
        refine r_get X hB 24 110 (by decide) (kw_m kf_X7_110) rfl rfl dX7_gives_208 ?_
        refine lv_iconst (v := 1) hx hb dX7_gives_211 (by decide) ?_
        refine lv_isub hx hb dX7_gives_212 ?_
        obtain ⟨R13, eR13, hf⟩ := st1_s hf
        refine r_put X hB hS 24 110 (by decide) (kw_m kf_X7_110) rfl rfl rfl (rput_24 cI cZ o q R12 _) dX7_gives_213 (fun H locs hB hS => ?_)
        rw [← eR13] at hB
        refine lv_aload_n hx hb dX7_gives_216 rfl (lv_at hl 1 rfl) ?_
        refine lv_aload_n hx hb dX7_gives_217 rfl (lv_at hl 1 rfl) ?_
        refine r_get X hB 3 13 (by decide) (kw_m kf_X7_13) rfl rfl dX7_gives_218 ?_
        refine lv_iload_n hx hb dX7_gives_221 rfl (lv_at hl 2 rfl) ?_
        obtain ⟨v14, ev14, hiv14, hf⟩ := rd_s hf
        refine r_ld X hB 3 2 (rat_3 cI cZ o q R13) hiv14 ev14 dX7_gives_222 ?_
        refine lv_aload_n hx hb dX7_gives_223 rfl (lv_at hl 1 rfl) ?_
        refine r_get X hB 20 58 (by decide) (kw_m kf_X7_58) rfl rfl dX7_gives_224 ?_
        refine lv_iload hx hb dX7_gives_227 (lv_at hl 0 rfl) ?_
        obtain ⟨v15, ev15, hiv15, hf⟩ := rd_s hf
        refine r_ld X hB 20 17 (rat_20 cI cZ o q R13) hiv15 ev15 dX7_gives_229 ?_
        obtain ⟨R16, hqR16, hf⟩ := bn_s hf
        refine r_callV (As := [.int v14, .int v15]) (rest := []) X hB hS (hkG _ _ _  _ hqR16) (cwV 2 hts (gd_V km_X7_180 ki_X7_gives ks_X7_gives kin_RX7 kc_X7_gives) rfl rfl rfl (by decide +kernel) ⟨by dsimp only; omega, by dsimp only; omega⟩) hl rfl rfl (Nat.le_of_ble_eq_true rfl) dX7_gives_230 ⟨Nat.zero_le _, Nat.zero_le _⟩ rfl (fun H locs hB hS => ?_)
        cases hf
        exact r_vret X hB hS hr hlk dX7_gives_233
      · have hf := if_f hf hc10
        cases hf
        exact r_vret X hB hS hr hlk dX7_gives_192
  have J_82 : ∀ (R : Rst) (x1 : Int32) (x3 : Int32), rf_gives_82 F kG R x1 x3 = some R' → ∀ (H : Heap) (locs : List Loc) (ls : Array Slot), rB D cI cZ o q R H → va_S (rA o q) s.heap H locs → lv_has ls 5 [(0, .ref o), (1, .int x1), (3, .int x3)] → W p l e { frames := fr + 1, cells := 0, slots := 0, locals := lo + 60 } s m args below meth c H locs 0 0 (MQ below (mq none (rW D cI cZ o q R') (rA o q)) args s 0 0 (rA o q)) (F0 m 82 ls []) := by
    intro R x1 x3 hf H locs ls hB hS hl
    unfold rf_gives_82 at hf
    refine lv_iload_n hx hb dX7_gives_82 rfl (lv_at hl 2 rfl) ?_
    refine lv_if_le (tgt := 153) hx hb dX7_gives_83 (by decide) (fun hc3 => ?_) (fun hc3 => ?_)
    · have hf := if_t hf hc3
      exact J_153 R x1 x3 hf _ _ _ hB hS (lv_sub hl [0, 1, 2] rfl)
    · have hf := if_f hf hc3
      refine lv_aload_n hx hb dX7_gives_86 rfl (lv_at hl 0 rfl) ?_
      refine r_get X hB 11 34 (by decide) (kw_m kf_X7_34) rfl rfl dX7_gives_87 ?_
      refine lv_iload_n hx hb dX7_gives_90 rfl (lv_at hl 2 rfl) ?_
      refine lv_iconst (v := 1) hx hb dX7_gives_91 (by decide) ?_
      refine lv_isub hx hb dX7_gives_92 ?_
      obtain ⟨v17, ev17, hiv17, hf⟩ := rd_s hf
      refine r_ld X hB 11 9 (rat_11 cI cZ o q R) hiv17 ev17 dX7_gives_93 ?_
      refine lv_iload_n hx hb dX7_gives_94 rfl (lv_at hl 1 rfl) ?_
      refine lv_icmp_ne (tgt := 153) hx hb dX7_gives_95 (by decide) (fun hc18 => ?_) (fun hc18 => ?_)
      · have hf := if_f hf hc18
        exact J_153 R x1 x3 hf _ _ _ hB hS (lv_sub hl [0, 1, 2] rfl)
      · have hf := if_t hf hc18
        refine lv_aload_n hx hb dX7_gives_98 rfl (lv_at hl 0 rfl) ?_
        refine r_get X hB 16 49 (by decide) (kw_m kf_X7_49) rfl rfl dX7_gives_99 ?_
        refine lv_iload_n hx hb dX7_gives_102 rfl (lv_at hl 2 rfl) ?_
        refine lv_iconst (v := 1) hx hb dX7_gives_103 (by decide) ?_
        refine lv_isub hx hb dX7_gives_104 ?_
        obtain ⟨v19, ev19, hiv19, hf⟩ := rd_s hf
        refine r_ld X hB 16 14 (rat_16 cI cZ o q R) hiv19 ev19 dX7_gives_105 ?_
        refine lv_aload_n hx hb dX7_gives_106 rfl (lv_at hl 0 rfl) ?_
        refine r_get X hB 16 49 (by decide) (kw_m kf_X7_49) rfl rfl dX7_gives_107 ?_
        refine lv_iload_n hx hb dX7_gives_110 rfl (lv_at hl 2 rfl) ?_
        obtain ⟨v20, ev20, hiv20, hf⟩ := rd_s hf
        refine r_ld X hB 16 14 (rat_16 cI cZ o q R) hiv20 ev20 dX7_gives_111 ?_
        refine lv_icmp_ne (tgt := 153) hx hb dX7_gives_112 (by decide) (fun hc21 => ?_) (fun hc21 => ?_)
        · have hf := if_f hf hc21
          exact J_153 R x1 x3 hf _ _ _ hB hS (lv_sub hl [0, 1, 2] rfl)
        · have hf := if_t hf hc21
          refine lv_aload_n hx hb dX7_gives_115 rfl (lv_at hl 0 rfl) ?_
          refine r_get X hB 14 43 (by decide) (kw_m kf_X7_43) rfl rfl dX7_gives_116 ?_
          refine lv_iload_n hx hb dX7_gives_119 rfl (lv_at hl 2 rfl) ?_
          refine lv_iconst (v := 1) hx hb dX7_gives_120 (by decide) ?_
          refine lv_isub hx hb dX7_gives_121 ?_
          obtain ⟨v22, ev22, hiv22, hf⟩ := rd_s hf
          refine r_ld X hB 14 12 (rat_14 cI cZ o q R) hiv22 ev22 dX7_gives_122 ?_
          refine lv_if_ne (tgt := 153) hx hb dX7_gives_123 (by decide) (fun hc23 => ?_) (fun hc23 => ?_)
          · have hf := if_f hf hc23
            exact J_153 R x1 x3 hf _ _ _ hB hS (lv_sub hl [0, 1, 2] rfl)
          · have hf := if_t hf hc23
            refine lv_iinc (v := x3 + (-1)) (lv' := [(3, .int (x3 + (-1))), (0, .ref o), (1, .int x1)]) hx hb dX7_gives_126 hl (k := 2) rfl rfl (by decide) rfl (fun ls hl => ?_)
            refine lv_aload_n hx hb dX7_gives_129 rfl (lv_at hl 1 rfl) ?_
            refine r_get X hB 13 40 (by decide) (kw_m kf_X7_40) rfl rfl dX7_gives_130 ?_
            refine lv_iload_n hx hb dX7_gives_133 rfl (lv_at hl 0 rfl) ?_
            refine lv_dup2_11 hx hb dX7_gives_134 rfl rfl ?_
            obtain ⟨v24, ev24, hiv24, hf⟩ := rd_s hf
            refine r_ld X hB 13 11 (rat_13 cI cZ o q R) hiv24 ev24 dX7_gives_135 ?_
            refine lv_aload_n hx hb dX7_gives_136 rfl (lv_at hl 1 rfl) ?_
            refine r_get X hB 13 40 (by decide) (kw_m kf_X7_40) rfl rfl dX7_gives_137 ?_
            refine lv_iload_n hx hb dX7_gives_140 rfl (lv_at hl 0 rfl) ?_
            refine lv_iconst (v := 1) hx hb dX7_gives_141 (by decide) ?_
            refine lv_iadd hx hb dX7_gives_142 ?_
            obtain ⟨v25, ev25, hiv25, hf⟩ := rd_s hf
            refine r_ld X hB 13 11 (rat_13 cI cZ o q R) hiv25 ev25 dX7_gives_143 ?_
            refine lv_iadd hx hb dX7_gives_144 ?_
            obtain ⟨R26, eR26, hiR26, hf⟩ := wr_s hf
            refine r_st X hB hS 13 11 (rat_13 cI cZ o q R) (rset_13 cI cZ o q R _ _) hiR26 dX7_gives_145 (fun H locs hB hS => ?_)
            rw [← eR26] at hB
            refine lv_aload_n hx hb dX7_gives_146 rfl (lv_at hl 1 rfl) ?_
            refine lv_iload_n hx hb dX7_gives_147 rfl (lv_at hl 0 rfl) ?_
            refine lv_iconst (v := 1) hx hb dX7_gives_148 (by decide) ?_
            refine lv_iadd hx hb dX7_gives_149 ?_
            obtain ⟨R27, hqR27, hf⟩ := bn_s hf
            refine r_callV (As := [.int ((x3 + (-1)) + 1)]) (rest := []) X hB hS (rm_remove l F D cI cZ o q _ _  _ hqR27) (cwV 1 hts (gd_V km_X7_177 ki_X7_remove ks_X7_remove kin_RX7 kc_X7_remove) rfl rfl rfl (by decide +kernel) ⟨by dsimp only; omega, by dsimp only; omega⟩) hl rfl rfl (Nat.le_of_ble_eq_true rfl) dX7_gives_150 ⟨Nat.zero_le _, Nat.zero_le _⟩ rfl (fun H locs hB hS => ?_)
            exact J_153 R27 x1 (x3 + (-1)) hf _ _ _ hB hS (lv_sub hl [1, 2, 0] rfl)
  unfold rf_givesB at hf
  refine lv_aload_n hx hb dX7_gives_0 rfl (lv_at hl 0 rfl) ?_
  refine lv_iload_n hx hb dX7_gives_1 rfl (lv_at hl 1 rfl) ?_
  refine lv_iload_n hx hb dX7_gives_2 rfl (lv_at hl 2 rfl) ?_
  refine lv_i2l (v := x2.toInt64) hx hb dX7_gives_3 rfl ?_
  obtain ⟨v1, hqv1, hf⟩ := bn_s hf
  refine r_callV (As := [.int x1, .long x2.toInt64]) (rest := []) X hB hS (rm_position l F D cI cZ o q _ _ _  _ hqv1) (cwV 2 hts (gd_V km_X7_113 ki_X7_position ks_X7_position kin_RX7 kc_X7_position) rfl rfl rfl (by decide +kernel) ⟨by dsimp only; omega, by dsimp only; omega⟩) hl rfl rfl (Nat.le_of_ble_eq_true rfl) dX7_gives_4 ⟨Nat.zero_le _, Nat.zero_le _⟩ rfl (fun H locs hB hS => ?_)
  refine lv_istore_n (lv' := [(3, .int v1), (0, .ref o), (1, .int x1), (2, .int x2)]) hx hb dX7_gives_7 rfl hl (by decide) rfl (fun ls hl => ?_)
  refine lv_iload_n hx hb dX7_gives_8 rfl (lv_at hl 0 rfl) ?_
  refine lv_iconst (v := 1) hx hb dX7_gives_9 (by decide) ?_
  refine lv_iadd hx hb dX7_gives_10 ?_
  refine lv_aload_n hx hb dX7_gives_11 rfl (lv_at hl 1 rfl) ?_
  refine r_get X hB 10 107 (by decide) (kw_m kf_X7_107) rfl rfl dX7_gives_12 ?_
  refine lv_icmp_ge (tgt := 82) hx hb dX7_gives_15 (by decide) (fun hc2 => ?_) (fun hc2 => ?_)
  · have hf := if_t hf hc2
    exact J_82 R x1 v1 hf _ _ _ hB hS (lv_sub hl [1, 2, 0] rfl)
  · have hf := if_f hf hc2
    refine lv_aload_n hx hb dX7_gives_18 rfl (lv_at hl 1 rfl) ?_
    refine r_get X hB 11 34 (by decide) (kw_m kf_X7_34) rfl rfl dX7_gives_19 ?_
    refine lv_iload_n hx hb dX7_gives_22 rfl (lv_at hl 0 rfl) ?_
    refine lv_iconst (v := 1) hx hb dX7_gives_23 (by decide) ?_
    refine lv_iadd hx hb dX7_gives_24 ?_
    obtain ⟨v28, ev28, hiv28, hf⟩ := rd_s hf
    refine r_ld X hB 11 9 (rat_11 cI cZ o q R) hiv28 ev28 dX7_gives_25 ?_
    refine lv_iload_n hx hb dX7_gives_26 rfl (lv_at hl 2 rfl) ?_
    refine lv_icmp_ne (tgt := 82) hx hb dX7_gives_27 (by decide) (fun hc29 => ?_) (fun hc29 => ?_)
    · have hf := if_f hf hc29
      exact J_82 R x1 v1 hf _ _ _ hB hS (lv_sub hl [1, 2, 0] rfl)
    · have hf := if_t hf hc29
      refine lv_aload_n hx hb dX7_gives_30 rfl (lv_at hl 1 rfl) ?_
      refine r_get X hB 16 49 (by decide) (kw_m kf_X7_49) rfl rfl dX7_gives_31 ?_
      refine lv_iload_n hx hb dX7_gives_34 rfl (lv_at hl 0 rfl) ?_
      refine lv_iconst (v := 1) hx hb dX7_gives_35 (by decide) ?_
      refine lv_iadd hx hb dX7_gives_36 ?_
      obtain ⟨v30, ev30, hiv30, hf⟩ := rd_s hf
      refine r_ld X hB 16 14 (rat_16 cI cZ o q R) hiv30 ev30 dX7_gives_37 ?_
      refine lv_aload_n hx hb dX7_gives_38 rfl (lv_at hl 1 rfl) ?_
      refine r_get X hB 16 49 (by decide) (kw_m kf_X7_49) rfl rfl dX7_gives_39 ?_
      refine lv_iload_n hx hb dX7_gives_42 rfl (lv_at hl 0 rfl) ?_
      obtain ⟨v31, ev31, hiv31, hf⟩ := rd_s hf
      refine r_ld X hB 16 14 (rat_16 cI cZ o q R) hiv31 ev31 dX7_gives_43 ?_
      refine lv_icmp_ne (tgt := 82) hx hb dX7_gives_44 (by decide) (fun hc32 => ?_) (fun hc32 => ?_)
      · have hf := if_f hf hc32
        exact J_82 R x1 v1 hf _ _ _ hB hS (lv_sub hl [1, 2, 0] rfl)
      · have hf := if_t hf hc32
        refine lv_aload_n hx hb dX7_gives_47 rfl (lv_at hl 1 rfl) ?_
        refine r_get X hB 14 43 (by decide) (kw_m kf_X7_43) rfl rfl dX7_gives_48 ?_
        refine lv_iload_n hx hb dX7_gives_51 rfl (lv_at hl 0 rfl) ?_
        refine lv_iconst (v := 1) hx hb dX7_gives_52 (by decide) ?_
        refine lv_iadd hx hb dX7_gives_53 ?_
        obtain ⟨v33, ev33, hiv33, hf⟩ := rd_s hf
        refine r_ld X hB 14 12 (rat_14 cI cZ o q R) hiv33 ev33 dX7_gives_54 ?_
        refine lv_if_ne (tgt := 82) hx hb dX7_gives_55 (by decide) (fun hc34 => ?_) (fun hc34 => ?_)
        · have hf := if_f hf hc34
          exact J_82 R x1 v1 hf _ _ _ hB hS (lv_sub hl [1, 2, 0] rfl)
        · have hf := if_t hf hc34
          refine lv_aload_n hx hb dX7_gives_58 rfl (lv_at hl 1 rfl) ?_
          refine r_get X hB 13 40 (by decide) (kw_m kf_X7_40) rfl rfl dX7_gives_59 ?_
          refine lv_iload_n hx hb dX7_gives_62 rfl (lv_at hl 0 rfl) ?_
          refine lv_dup2_11 hx hb dX7_gives_63 rfl rfl ?_
          obtain ⟨v35, ev35, hiv35, hf⟩ := rd_s hf
          refine r_ld X hB 13 11 (rat_13 cI cZ o q R) hiv35 ev35 dX7_gives_64 ?_
          refine lv_aload_n hx hb dX7_gives_65 rfl (lv_at hl 1 rfl) ?_
          refine r_get X hB 13 40 (by decide) (kw_m kf_X7_40) rfl rfl dX7_gives_66 ?_
          refine lv_iload_n hx hb dX7_gives_69 rfl (lv_at hl 0 rfl) ?_
          refine lv_iconst (v := 1) hx hb dX7_gives_70 (by decide) ?_
          refine lv_iadd hx hb dX7_gives_71 ?_
          obtain ⟨v36, ev36, hiv36, hf⟩ := rd_s hf
          refine r_ld X hB 13 11 (rat_13 cI cZ o q R) hiv36 ev36 dX7_gives_72 ?_
          refine lv_iadd hx hb dX7_gives_73 ?_
          obtain ⟨R37, eR37, hiR37, hf⟩ := wr_s hf
          refine r_st X hB hS 13 11 (rat_13 cI cZ o q R) (rset_13 cI cZ o q R _ _) hiR37 dX7_gives_74 (fun H locs hB hS => ?_)
          rw [← eR37] at hB
          refine lv_aload_n hx hb dX7_gives_75 rfl (lv_at hl 1 rfl) ?_
          refine lv_iload_n hx hb dX7_gives_76 rfl (lv_at hl 0 rfl) ?_
          refine lv_iconst (v := 1) hx hb dX7_gives_77 (by decide) ?_
          refine lv_iadd hx hb dX7_gives_78 ?_
          obtain ⟨R38, hqR38, hf⟩ := bn_s hf
          refine r_callV (As := [.int (v1 + 1)]) (rest := []) X hB hS (rm_remove l F D cI cZ o q _ _  _ hqR38) (cwV 1 hts (gd_V km_X7_177 ki_X7_remove ks_X7_remove kin_RX7 kc_X7_remove) rfl rfl rfl (by decide +kernel) ⟨by dsimp only; omega, by dsimp only; omega⟩) hl rfl rfl (Nat.le_of_ble_eq_true rfl) dX7_gives_79 ⟨Nat.zero_le _, Nat.zero_le _⟩ rfl (fun H locs hB hS => ?_)
          exact J_82 R38 x1 v1 hf _ _ _ hB hS (lv_sub hl [1, 2, 0] rfl)
def rf_gives (F : Nat) : Nat → Rst → Int32 → Int32 → Option Rst
  | 0 => fun _ _ _ => none
  | d + 1 => rf_givesB F (rf_gives F d)
theorem rm_gives (l : Launch) (F d : Nat) (D : va_G) (cI cZ : ClassId) (o : Nat) (q : Nat → Nat) : ∀ (R : Rst) (x1 x2 : Int32) (R' : Rst), rf_gives F d R x1 x2 = some R' → rMet l yX7_gives wq_X7_gives { frames := 8 + d, cells := 0, slots := 0, locals := 300 + 60 * d } D cI cZ o q [.ref o, .int x1, .int x2] R none R' := by
  induction d with
  | zero => intro R x1 x2 R' hf; cases hf
  | succ d ih =>
    intro R x1 x2 R' hf
    rw [show 8 + (d + 1) = 8 + d + 1 from by omega, show 300 + 60 * (d + 1) = 300 + 60 * d + 60 from by omega]
    exact rm_givesB l F (rf_gives F d) _ _ D cI cZ o q ih (by omega) (by omega) R x1 x2 R' hf
/-! X7_isSlab -/
def rf_isSlab (F : Nat) (R : Rst) (x1 : Int32) (x2 : Int32) (x3 : Int32) : Option Int32 := rd R 11 x1 fun v1 => if v1 = x2 then (rd R 14 x1 fun v3 => if v3 = (2 : Int32) then (rd R 17 x1 fun v5 => if v5 = x3 then (some (1 : Int32)) else (some (0 : Int32))) else (some (0 : Int32))) else (some (0 : Int32))
set_option maxHeartbeats 4000000 in
set_option maxRecDepth 100000 in
theorem rm_isSlab (l : Launch) (F : Nat) (D : va_G) (cI cZ : ClassId) (o : Nat) (q : Nat → Nat) (R : Rst) (x1 : Int32) (x2 : Int32) (x3 : Int32) (r : Int32) (hf : rf_isSlab F R x1 x2 x3 = some r)   : rMet l yX7_isSlab wq_X7_isSlab { frames := 0, cells := 0, slots := 0, locals := 0 } D cI cZ o q [.ref o, .int x1, .int x2, .int x3] R (some (.int r)) R := by
  refine rMet_of (cc := cX7_isSlab) (maxL := 4) (ret := (some .boolean)) (by decide) rfl rfl (kw_h kw_X7) (Nat.le_of_ble_eq_true rfl) ?_
  intro p e s m below meth c X hr hlk ls hl hB hS
  have hx := X.1.1
  have hb := X.1.2.1
  have hown := X.1.2.2.2.1
  have hts := X.1.2.2.2.2
  have hl : lv_has ls 4 [(0, .ref o), (1, .int x1), (2, .int x2), (3, .int x3)] := hl
  generalize hargs : ([.ref o, .int x1, .int x2, .int x3] : List Value).toArray = args at X hts hS ⊢
  unfold rf_isSlab at hf
  refine lv_aload_n hx hb dX7_isSlab_0 rfl (lv_at hl 0 rfl) ?_
  refine r_get X hB 11 34 (by decide) (kw_m kf_X7_34) rfl rfl dX7_isSlab_1 ?_
  refine lv_iload_n hx hb dX7_isSlab_4 rfl (lv_at hl 1 rfl) ?_
  obtain ⟨v1, ev1, hiv1, hf⟩ := rd_s hf
  refine r_ld X hB 11 9 (rat_11 cI cZ o q R) hiv1 ev1 dX7_isSlab_5 ?_
  refine lv_iload_n hx hb dX7_isSlab_6 rfl (lv_at hl 2 rfl) ?_
  refine lv_icmp_ne (tgt := 34) hx hb dX7_isSlab_7 (by decide) (fun hc2 => ?_) (fun hc2 => ?_)
  · have hf := if_f hf hc2
    refine lv_iconst (v := 0) hx hb dX7_isSlab_34 (by decide) ?_
    cases hf
    exact r_zret X hB hS hr hlk rfl dX7_isSlab_35
  · have hf := if_t hf hc2
    refine lv_aload_n hx hb dX7_isSlab_10 rfl (lv_at hl 0 rfl) ?_
    refine r_get X hB 14 43 (by decide) (kw_m kf_X7_43) rfl rfl dX7_isSlab_11 ?_
    refine lv_iload_n hx hb dX7_isSlab_14 rfl (lv_at hl 1 rfl) ?_
    obtain ⟨v3, ev3, hiv3, hf⟩ := rd_s hf
    refine r_ld X hB 14 12 (rat_14 cI cZ o q R) hiv3 ev3 dX7_isSlab_15 ?_
    refine lv_iconst (v := 2) hx hb dX7_isSlab_16 (by decide) ?_
    refine lv_icmp_ne (tgt := 34) hx hb dX7_isSlab_17 (by decide) (fun hc4 => ?_) (fun hc4 => ?_)
    · have hf := if_f hf hc4
      refine lv_iconst (v := 0) hx hb dX7_isSlab_34 (by decide) ?_
      cases hf
      exact r_zret X hB hS hr hlk rfl dX7_isSlab_35
    · have hf := if_t hf hc4
      refine lv_aload_n hx hb dX7_isSlab_20 rfl (lv_at hl 0 rfl) ?_
      refine r_get X hB 17 52 (by decide) (kw_m kf_X7_52) rfl rfl dX7_isSlab_21 ?_
      refine lv_iload_n hx hb dX7_isSlab_24 rfl (lv_at hl 1 rfl) ?_
      obtain ⟨v5, ev5, hiv5, hf⟩ := rd_s hf
      refine r_ld X hB 17 15 (rat_17 cI cZ o q R) hiv5 ev5 dX7_isSlab_25 ?_
      refine lv_iload_n hx hb dX7_isSlab_26 rfl (lv_at hl 3 rfl) ?_
      refine lv_icmp_ne (tgt := 34) hx hb dX7_isSlab_27 (by decide) (fun hc6 => ?_) (fun hc6 => ?_)
      · have hf := if_f hf hc6
        refine lv_iconst (v := 0) hx hb dX7_isSlab_34 (by decide) ?_
        cases hf
        exact r_zret X hB hS hr hlk rfl dX7_isSlab_35
      · have hf := if_t hf hc6
        refine lv_iconst (v := 1) hx hb dX7_isSlab_30 (by decide) ?_
        refine lv_goto (tgt := 35) hx hb dX7_isSlab_31 (by decide) ?_
        cases hf
        exact r_zret X hB hS hr hlk rfl dX7_isSlab_35
/-! X7_isHeld -/
def rf_isHeld_2 (F : Nat) (R : Rst) : Nat → Int32 → Int32 → Int32 → Option Int32
  | 0 => fun _ _ _ => none
  | n + 1 => fun x1 x2 x3 => if (R.1 25) ≤ x3 then (some (0 : Int32)) else (rd R 26 x3 fun v2 => if v2 = x1 then (rd R 27 x3 fun v4 => if v4 = x2 then (some (1 : Int32)) else ((rf_isHeld_2 F R n) x1 x2 (x3 + 1))) else ((rf_isHeld_2 F R n) x1 x2 (x3 + 1)))
def rf_isHeld (F : Nat) (R : Rst) (x1 : Int32) (x2 : Int32) : Option Int32 := rf_isHeld_2 F R F x1 x2 (0 : Int32)
set_option maxHeartbeats 4000000 in
set_option maxRecDepth 100000 in
theorem rm_isHeld (l : Launch) (F : Nat) (D : va_G) (cI cZ : ClassId) (o : Nat) (q : Nat → Nat) (R : Rst) (x1 : Int32) (x2 : Int32) (r : Int32) (hf : rf_isHeld F R x1 x2 = some r)   : rMet l yX7_isHeld wq_X7_isHeld { frames := 0, cells := 0, slots := 0, locals := 0 } D cI cZ o q [.ref o, .int x1, .int x2] R (some (.int r)) R := by
  refine rMet_of (cc := cX7_isHeld) (maxL := 4) (ret := (some .boolean)) (by decide) rfl rfl (kw_h kw_X7) (Nat.le_of_ble_eq_true rfl) ?_
  intro p e s m below meth c X hr hlk ls hl hB hS
  have hx := X.1.1
  have hb := X.1.2.1
  have hown := X.1.2.2.2.1
  have hts := X.1.2.2.2.2
  have hl : lv_has ls 4 [(0, .ref o), (1, .int x1), (2, .int x2)] := hl
  generalize hargs : ([.ref o, .int x1, .int x2] : List Value).toArray = args at X hts hS ⊢
  have J_2 : ∀ (n_2 : Nat) (x1 : Int32) (x2 : Int32) (x3 : Int32), rf_isHeld_2 F R n_2 x1 x2 x3 = some r → ∀ (H : Heap) (locs : List Loc) (ls : Array Slot), rB D cI cZ o q R H → va_S (rA o q) s.heap H locs → lv_has ls 4 [(0, .ref o), (1, .int x1), (2, .int x2), (3, .int x3)] → W p l e { frames := 0, cells := 0, slots := 0, locals := 0 } s m args below meth c H locs 0 0 (MQ below (mq (some (.int r)) (rW D cI cZ o q R) (rA o q)) args s 0 0 (rA o q)) (F0 m 2 ls []) := by
    intro n_2
    induction n_2 with
    | zero => intro x1 x2 x3 hf; cases hf
    | succ n_2 ih_2 =>
      intro x1 x2 x3 hf H locs ls hB hS hl
      rw [rf_isHeld_2] at hf
      refine lv_iload_n hx hb dX7_isHeld_2 rfl (lv_at hl 3 rfl) ?_
      refine lv_aload_n hx hb dX7_isHeld_3 rfl (lv_at hl 0 rfl) ?_
      refine r_get X hB 25 183 (by decide) (kw_m kf_X7_183) rfl rfl dX7_isHeld_4 ?_
      refine lv_icmp_ge (tgt := 38) hx hb dX7_isHeld_7 (by decide) (fun hc1 => ?_) (fun hc1 => ?_)
      · have hf := if_t hf hc1
        refine lv_iconst (v := 0) hx hb dX7_isHeld_38 (by decide) ?_
        cases hf
        exact r_zret X hB hS hr hlk rfl dX7_isHeld_39
      · have hf := if_f hf hc1
        refine lv_aload_n hx hb dX7_isHeld_10 rfl (lv_at hl 0 rfl) ?_
        refine r_get X hB 26 72 (by decide) (kw_m kf_X7_72) rfl rfl dX7_isHeld_11 ?_
        refine lv_iload_n hx hb dX7_isHeld_14 rfl (lv_at hl 3 rfl) ?_
        obtain ⟨v2, ev2, hiv2, hf⟩ := rd_s hf
        refine r_ld X hB 26 21 (rat_26 cI cZ o q R) hiv2 ev2 dX7_isHeld_15 ?_
        refine lv_iload_n hx hb dX7_isHeld_16 rfl (lv_at hl 1 rfl) ?_
        refine lv_icmp_ne (tgt := 32) hx hb dX7_isHeld_17 (by decide) (fun hc3 => ?_) (fun hc3 => ?_)
        · have hf := if_f hf hc3
          refine lv_iinc (v := x3 + 1) (lv' := [(3, .int (x3 + 1)), (0, .ref o), (1, .int x1), (2, .int x2)]) hx hb dX7_isHeld_32 hl (k := 3) rfl rfl (by decide) rfl (fun ls hl => ?_)
          refine lv_goto (tgt := 2) hx hb dX7_isHeld_35 (by decide) ?_
          exact ih_2 x1 x2 (x3 + 1) hf _ _ _ hB hS (lv_sub hl [1, 2, 3, 0] rfl)
        · have hf := if_t hf hc3
          refine lv_aload_n hx hb dX7_isHeld_20 rfl (lv_at hl 0 rfl) ?_
          refine r_get X hB 27 75 (by decide) (kw_m kf_X7_75) rfl rfl dX7_isHeld_21 ?_
          refine lv_iload_n hx hb dX7_isHeld_24 rfl (lv_at hl 3 rfl) ?_
          obtain ⟨v4, ev4, hiv4, hf⟩ := rd_s hf
          refine r_ld X hB 27 22 (rat_27 cI cZ o q R) hiv4 ev4 dX7_isHeld_25 ?_
          refine lv_iload_n hx hb dX7_isHeld_26 rfl (lv_at hl 2 rfl) ?_
          refine lv_icmp_ne (tgt := 32) hx hb dX7_isHeld_27 (by decide) (fun hc5 => ?_) (fun hc5 => ?_)
          · have hf := if_f hf hc5
            refine lv_iinc (v := x3 + 1) (lv' := [(3, .int (x3 + 1)), (0, .ref o), (1, .int x1), (2, .int x2)]) hx hb dX7_isHeld_32 hl (k := 3) rfl rfl (by decide) rfl (fun ls hl => ?_)
            refine lv_goto (tgt := 2) hx hb dX7_isHeld_35 (by decide) ?_
            exact ih_2 x1 x2 (x3 + 1) hf _ _ _ hB hS (lv_sub hl [1, 2, 3, 0] rfl)
          · have hf := if_t hf hc5
            refine lv_iconst (v := 1) hx hb dX7_isHeld_30 (by decide) ?_
            cases hf
            exact r_zret X hB hS hr hlk rfl dX7_isHeld_31
  unfold rf_isHeld at hf
  refine lv_iconst (v := 0) hx hb dX7_isHeld_0 (by decide) ?_
  refine lv_istore_n (lv' := [(3, .int 0), (0, .ref o), (1, .int x1), (2, .int x2)]) hx hb dX7_isHeld_1 rfl hl (by decide) rfl (fun ls hl => ?_)
  exact J_2 F x1 x2 (0 : Int32) hf _ _ _ hB hS (lv_sub hl [1, 2, 3, 0] rfl)
/-! X7_slabSize -/
def rf_slabSize_2 (F : Nat) (R : Rst) : Nat → Int32 → Int32 → Option Int32
  | 0 => fun _ _ => none
  | n + 1 => fun x1 x2 => rd R 4 x1 fun v1 => if (3 * v1) ≤ x2 then (some x2) else ((rf_slabSize_2 F R n) x1 (x2 * 2))
def rf_slabSize (F : Nat) (R : Rst) (x1 : Int32) : Option Int32 := rf_slabSize_2 F R F x1 (1 : Int32)
set_option maxHeartbeats 4000000 in
set_option maxRecDepth 100000 in
theorem rm_slabSize (l : Launch) (F : Nat) (D : va_G) (cI cZ : ClassId) (o : Nat) (q : Nat → Nat) (R : Rst) (x1 : Int32) (r : Int32) (hf : rf_slabSize F R x1 = some r)   : rMet l yX7_slabSize wq_X7_slabSize { frames := 0, cells := 0, slots := 0, locals := 0 } D cI cZ o q [.ref o, .int x1] R (some (.int r)) R := by
  refine rMet_of (cc := cX7_slabSize) (maxL := 3) (ret := (some .int)) (by decide) rfl rfl (kw_h kw_X7) (Nat.le_of_ble_eq_true rfl) ?_
  intro p e s m below meth c X hr hlk ls hl hB hS
  have hx := X.1.1
  have hb := X.1.2.1
  have hown := X.1.2.2.2.1
  have hts := X.1.2.2.2.2
  have hl : lv_has ls 3 [(0, .ref o), (1, .int x1)] := hl
  generalize hargs : ([.ref o, .int x1] : List Value).toArray = args at X hts hS ⊢
  have J_2 : ∀ (n_2 : Nat) (x1 : Int32) (x2 : Int32), rf_slabSize_2 F R n_2 x1 x2 = some r → ∀ (H : Heap) (locs : List Loc) (ls : Array Slot), rB D cI cZ o q R H → va_S (rA o q) s.heap H locs → lv_has ls 3 [(0, .ref o), (1, .int x1), (2, .int x2)] → W p l e { frames := 0, cells := 0, slots := 0, locals := 0 } s m args below meth c H locs 0 0 (MQ below (mq (some (.int r)) (rW D cI cZ o q R) (rA o q)) args s 0 0 (rA o q)) (F0 m 2 ls []) := by
    intro n_2
    induction n_2 with
    | zero => intro x1 x2 hf; cases hf
    | succ n_2 ih_2 =>
      intro x1 x2 hf H locs ls hB hS hl
      rw [rf_slabSize_2] at hf
      refine lv_iload_n hx hb dX7_slabSize_2 rfl (lv_at hl 2 rfl) ?_
      refine lv_iconst (v := 3) hx hb dX7_slabSize_3 (by decide) ?_
      refine lv_aload_n hx hb dX7_slabSize_4 rfl (lv_at hl 0 rfl) ?_
      refine r_get X hB 4 16 (by decide) (kw_m kf_X7_16) rfl rfl dX7_slabSize_5 ?_
      refine lv_iload_n hx hb dX7_slabSize_8 rfl (lv_at hl 1 rfl) ?_
      obtain ⟨v1, ev1, hiv1, hf⟩ := rd_s hf
      refine r_ld X hB 4 3 (rat_4 cI cZ o q R) hiv1 ev1 dX7_slabSize_9 ?_
      refine lv_imul hx hb dX7_slabSize_10 ?_
      refine lv_icmp_ge (tgt := 21) hx hb dX7_slabSize_11 (by decide) (fun hc2 => ?_) (fun hc2 => ?_)
      · have hf := if_t hf hc2
        refine lv_iload_n hx hb dX7_slabSize_21 rfl (lv_at hl 2 rfl) ?_
        cases hf
        exact r_iret X hB hS hr hlk dX7_slabSize_22
      · have hf := if_f hf hc2
        refine lv_iload_n hx hb dX7_slabSize_14 rfl (lv_at hl 2 rfl) ?_
        refine lv_iconst (v := 2) hx hb dX7_slabSize_15 (by decide) ?_
        refine lv_imul hx hb dX7_slabSize_16 ?_
        refine lv_istore_n (lv' := [(2, .int (x2 * 2)), (0, .ref o), (1, .int x1)]) hx hb dX7_slabSize_17 rfl hl (by decide) rfl (fun ls hl => ?_)
        refine lv_goto (tgt := 2) hx hb dX7_slabSize_18 (by decide) ?_
        exact ih_2 x1 (x2 * 2) hf _ _ _ hB hS (lv_sub hl [1, 2, 0] rfl)
  unfold rf_slabSize at hf
  refine lv_iconst (v := 1) hx hb dX7_slabSize_0 (by decide) ?_
  refine lv_istore_n (lv' := [(2, .int 1), (0, .ref o), (1, .int x1)]) hx hb dX7_slabSize_1 rfl hl (by decide) rfl (fun ls hl => ?_)
  exact J_2 F x1 (1 : Int32) hf _ _ _ hB hS (lv_sub hl [1, 2, 0] rfl)
/-! X7_objectsOf -/
def rf_objectsOf (F : Nat) (R : Rst) (x1 : Int32) (x2 : Int32) : Option Int32 := (rf_slabSize F R x1).bind fun v1 => dv x2 (some (v1 / x2))
set_option maxHeartbeats 4000000 in
set_option maxRecDepth 100000 in
theorem rm_objectsOf (l : Launch) (F : Nat) (D : va_G) (cI cZ : ClassId) (o : Nat) (q : Nat → Nat) (R : Rst) (x1 : Int32) (x2 : Int32) (r : Int32) (hf : rf_objectsOf F R x1 x2 = some r)   : rMet l yX7_objectsOf wq_X7_objectsOf { frames := 1, cells := 0, slots := 0, locals := 22 } D cI cZ o q [.ref o, .int x1, .int x2] R (some (.int r)) R := by
  refine rMet_of (cc := cX7_objectsOf) (maxL := 3) (ret := (some .int)) (by decide) rfl rfl (kw_h kw_X7) (Nat.le_of_ble_eq_true rfl) ?_
  intro p e s m below meth c X hr hlk ls hl hB hS
  have hx := X.1.1
  have hb := X.1.2.1
  have hown := X.1.2.2.2.1
  have hts := X.1.2.2.2.2
  have hl : lv_has ls 3 [(0, .ref o), (1, .int x1), (2, .int x2)] := hl
  generalize hargs : ([.ref o, .int x1, .int x2] : List Value).toArray = args at X hts hS ⊢
  unfold rf_objectsOf at hf
  refine lv_aload_n hx hb dX7_objectsOf_0 rfl (lv_at hl 0 rfl) ?_
  refine lv_iload_n hx hb dX7_objectsOf_1 rfl (lv_at hl 1 rfl) ?_
  obtain ⟨v1, hqv1, hf⟩ := bn_s hf
  refine r_callV (As := [.int x1]) (rest := []) X hB hS (rm_slabSize l F D cI cZ o q _ _  _ hqv1) (cwV 1 hts (gd_V km_X7_193 ki_X7_slabSize ks_X7_slabSize kin_RX7 kc_X7_slabSize) rfl rfl rfl (by decide +kernel) ⟨by decide, by decide⟩) hl rfl rfl (Nat.le_of_ble_eq_true rfl) dX7_objectsOf_2 ⟨Nat.zero_le _, Nat.zero_le _⟩ rfl (fun H locs hB hS => ?_)
  refine lv_iload_n hx hb dX7_objectsOf_5 rfl (lv_at hl 2 rfl) ?_
  obtain ⟨hd2, hf⟩ := dv_s hf
  refine lv_idiv hx hb dX7_objectsOf_6 hd2 ?_
  cases hf
  exact r_iret X hB hS hr hlk dX7_objectsOf_7
/-! X7_isWhole -/
def rf_isWhole_3 (F : Nat) (R : Rst) : Nat → Int32 → Int32 → Int32 → Int32 → Option Int32
  | 0 => fun _ _ _ _ => none
  | n + 1 => fun x1 x2 x3 x4 => (rf_objectsOf F R x2 x3).bind fun v1 => if v1 ≤ x4 then (some (1 : Int32)) else (rd R 12 x1 fun v3 => rd R 2 x2 fun v4 => (rf_isHeld F R x2 (v3 + ((x4 * x3) * v4))).bind fun v5 => if v5 = 0 then ((rf_isWhole_3 F R n) x1 x2 x3 (x4 + 1)) else (some (0 : Int32)))
def rf_isWhole (F : Nat) (R : Rst) (x1 : Int32) (x2 : Int32) (x3 : Int32) : Option Int32 := rf_isWhole_3 F R F x1 x2 x3 (0 : Int32)
set_option maxHeartbeats 4000000 in
set_option maxRecDepth 100000 in
theorem rm_isWhole (l : Launch) (F : Nat) (D : va_G) (cI cZ : ClassId) (o : Nat) (q : Nat → Nat) (R : Rst) (x1 : Int32) (x2 : Int32) (x3 : Int32) (r : Int32) (hf : rf_isWhole F R x1 x2 x3 = some r)   : rMet l yX7_isWhole wq_X7_isWhole { frames := 2, cells := 0, slots := 0, locals := 44 } D cI cZ o q [.ref o, .int x1, .int x2, .int x3] R (some (.int r)) R := by
  refine rMet_of (cc := cX7_isWhole) (maxL := 5) (ret := (some .boolean)) (by decide) rfl rfl (kw_h kw_X7) (Nat.le_of_ble_eq_true rfl) ?_
  intro p e s m below meth c X hr hlk ls hl hB hS
  have hx := X.1.1
  have hb := X.1.2.1
  have hown := X.1.2.2.2.1
  have hts := X.1.2.2.2.2
  have hl : lv_has ls 5 [(0, .ref o), (1, .int x1), (2, .int x2), (3, .int x3)] := hl
  generalize hargs : ([.ref o, .int x1, .int x2, .int x3] : List Value).toArray = args at X hts hS ⊢
  have J_3 : ∀ (n_3 : Nat) (x1 : Int32) (x2 : Int32) (x3 : Int32) (x4 : Int32), rf_isWhole_3 F R n_3 x1 x2 x3 x4 = some r → ∀ (H : Heap) (locs : List Loc) (ls : Array Slot), rB D cI cZ o q R H → va_S (rA o q) s.heap H locs → lv_has ls 5 [(0, .ref o), (1, .int x1), (2, .int x2), (3, .int x3), (4, .int x4)] → W p l e { frames := 2, cells := 0, slots := 0, locals := 44 } s m args below meth c H locs 0 0 (MQ below (mq (some (.int r)) (rW D cI cZ o q R) (rA o q)) args s 0 0 (rA o q)) (F0 m 3 ls []) := by
    intro n_3
    induction n_3 with
    | zero => intro x1 x2 x3 x4 hf; cases hf
    | succ n_3 ih_3 =>
      intro x1 x2 x3 x4 hf H locs ls hB hS hl
      rw [rf_isWhole_3] at hf
      refine lv_iload hx hb dX7_isWhole_3 (lv_at hl 4 rfl) ?_
      refine lv_aload_n hx hb dX7_isWhole_5 rfl (lv_at hl 0 rfl) ?_
      refine lv_iload_n hx hb dX7_isWhole_6 rfl (lv_at hl 2 rfl) ?_
      refine lv_iload_n hx hb dX7_isWhole_7 rfl (lv_at hl 3 rfl) ?_
      obtain ⟨v1, hqv1, hf⟩ := bn_s hf
      refine r_callV (As := [.int x2, .int x3]) (rest := [.int x4]) X hB hS (rm_objectsOf l F D cI cZ o q _ _ _  _ hqv1) (cwV 2 hts (gd_V km_X7_200 ki_X7_objectsOf ks_X7_objectsOf kin_RX7 kc_X7_objectsOf) rfl rfl rfl (by decide +kernel) ⟨by decide, by decide⟩) hl rfl rfl (Nat.le_of_ble_eq_true rfl) dX7_isWhole_8 ⟨Nat.zero_le _, Nat.zero_le _⟩ rfl (fun H locs hB hS => ?_)
      refine lv_icmp_ge (tgt := 48) hx hb dX7_isWhole_11 (by decide) (fun hc2 => ?_) (fun hc2 => ?_)
      · have hf := if_t hf hc2
        refine lv_iconst (v := 1) hx hb dX7_isWhole_48 (by decide) ?_
        cases hf
        exact r_zret X hB hS hr hlk rfl dX7_isWhole_49
      · have hf := if_f hf hc2
        refine lv_aload_n hx hb dX7_isWhole_14 rfl (lv_at hl 0 rfl) ?_
        refine lv_iload_n hx hb dX7_isWhole_15 rfl (lv_at hl 2 rfl) ?_
        refine lv_aload_n hx hb dX7_isWhole_16 rfl (lv_at hl 0 rfl) ?_
        refine r_get X hB 12 37 (by decide) (kw_m kf_X7_37) rfl rfl dX7_isWhole_17 ?_
        refine lv_iload_n hx hb dX7_isWhole_20 rfl (lv_at hl 1 rfl) ?_
        obtain ⟨v3, ev3, hiv3, hf⟩ := rd_s hf
        refine r_ld X hB 12 10 (rat_12 cI cZ o q R) hiv3 ev3 dX7_isWhole_21 ?_
        refine lv_iload hx hb dX7_isWhole_22 (lv_at hl 4 rfl) ?_
        refine lv_iload_n hx hb dX7_isWhole_24 rfl (lv_at hl 3 rfl) ?_
        refine lv_imul hx hb dX7_isWhole_25 ?_
        refine lv_aload_n hx hb dX7_isWhole_26 rfl (lv_at hl 0 rfl) ?_
        refine r_get X hB 2 7 (by decide) (kw_m kf_X7_7) rfl rfl dX7_isWhole_27 ?_
        refine lv_iload_n hx hb dX7_isWhole_30 rfl (lv_at hl 2 rfl) ?_
        obtain ⟨v4, ev4, hiv4, hf⟩ := rd_s hf
        refine r_ld X hB 2 1 (rat_2 cI cZ o q R) hiv4 ev4 dX7_isWhole_31 ?_
        refine lv_imul hx hb dX7_isWhole_32 ?_
        refine lv_iadd hx hb dX7_isWhole_33 ?_
        obtain ⟨v5, hqv5, hf⟩ := bn_s hf
        refine r_callV (As := [.int x2, .int (v3 + ((x4 * x3) * v4))]) (rest := []) X hB hS (rm_isHeld l F D cI cZ o q _ _ _  _ hqv5) (cwV 2 hts (gd_V km_X7_186 ki_X7_isHeld ks_X7_isHeld kin_RX7 kc_X7_isHeld) rfl rfl rfl (by decide +kernel) ⟨by decide, by decide⟩) hl rfl rfl (Nat.le_of_ble_eq_true rfl) dX7_isWhole_34 ⟨Nat.zero_le _, Nat.zero_le _⟩ rfl (fun H locs hB hS => ?_)
        refine lv_if_eq (tgt := 42) hx hb dX7_isWhole_37 (by decide) (fun hc6 => ?_) (fun hc6 => ?_)
        · have hf := if_t hf hc6
          refine lv_iinc (v := x4 + 1) (lv' := [(4, .int (x4 + 1)), (0, .ref o), (1, .int x1), (2, .int x2), (3, .int x3)]) hx hb dX7_isWhole_42 hl (k := 4) rfl rfl (by decide) rfl (fun ls hl => ?_)
          refine lv_goto (tgt := 3) hx hb dX7_isWhole_45 (by decide) ?_
          exact ih_3 x1 x2 x3 (x4 + 1) hf _ _ _ hB hS (lv_sub hl [1, 2, 3, 4, 0] rfl)
        · have hf := if_f hf hc6
          refine lv_iconst (v := 0) hx hb dX7_isWhole_40 (by decide) ?_
          cases hf
          exact r_zret X hB hS hr hlk rfl dX7_isWhole_41
  unfold rf_isWhole at hf
  refine lv_iconst (v := 0) hx hb dX7_isWhole_0 (by decide) ?_
  refine lv_istore (lv' := [(4, .int 0), (0, .ref o), (1, .int x1), (2, .int x2), (3, .int x3)]) hx hb dX7_isWhole_1 hl (by decide) rfl (fun ls hl => ?_)
  exact J_3 F x1 x2 x3 (0 : Int32) hf _ _ _ hB hS (lv_sub hl [1, 2, 3, 4, 0] rfl)
/-! X7_magazine -/
def rf_magazine (F : Nat) (R : Rst) (x0 : Int32) (x1 : Int32) (x2 : Int32) (x3 : Int32) : Option Int32 := some (((4 * ((9 * x0) + x1)) + (2 * x2)) + x3)
set_option maxHeartbeats 4000000 in
set_option maxRecDepth 100000 in
theorem rm_magazine (l : Launch) (F : Nat) (D : va_G) (cI cZ : ClassId) (o : Nat) (q : Nat → Nat) (R : Rst) (x0 : Int32) (x1 : Int32) (x2 : Int32) (x3 : Int32) (r : Int32) (hf : rf_magazine F R x0 x1 x2 x3 = some r)   : rMet l yX7_magazine wq_X7_magazine { frames := 0, cells := 0, slots := 0, locals := 0 } D cI cZ o q [.int x0, .int x1, .int x2, .int x3] R (some (.int r)) R := by
  refine rMet_of (cc := cX7_magazine) (maxL := 4) (ret := (some .int)) (by decide) rfl rfl (kw_h kw_X7) (Nat.le_of_ble_eq_true rfl) ?_
  intro p e s m below meth c X hr hlk ls hl hB hS
  have hx := X.1.1
  have hb := X.1.2.1
  have hown := X.1.2.2.2.1
  have hts := X.1.2.2.2.2
  have hl : lv_has ls 4 [(0, .int x0), (1, .int x1), (2, .int x2), (3, .int x3)] := hl
  generalize hargs : ([.int x0, .int x1, .int x2, .int x3] : List Value).toArray = args at X hts hS ⊢
  unfold rf_magazine at hf
  refine lv_iconst (v := 4) hx hb dX7_magazine_0 (by decide) ?_
  refine lv_bipush (v := 9) hx hb dX7_magazine_1 (by decide) ?_
  refine lv_iload_n hx hb dX7_magazine_3 rfl (lv_at hl 0 rfl) ?_
  refine lv_imul hx hb dX7_magazine_4 ?_
  refine lv_iload_n hx hb dX7_magazine_5 rfl (lv_at hl 1 rfl) ?_
  refine lv_iadd hx hb dX7_magazine_6 ?_
  refine lv_imul hx hb dX7_magazine_7 ?_
  refine lv_iconst (v := 2) hx hb dX7_magazine_8 (by decide) ?_
  refine lv_iload_n hx hb dX7_magazine_9 rfl (lv_at hl 2 rfl) ?_
  refine lv_imul hx hb dX7_magazine_10 ?_
  refine lv_iadd hx hb dX7_magazine_11 ?_
  refine lv_iload_n hx hb dX7_magazine_12 rfl (lv_at hl 3 rfl) ?_
  refine lv_iadd hx hb dX7_magazine_13 ?_
  cases hf
  exact r_iret X hB hS hr hlk dX7_magazine_14
/-! X7_purges -/
def rf_purges_74 (F : Nat) (k_14 : Rst → Int32 → Int32 → Int32 → Option (Int32 × Rst)) : Nat → Rst → Int32 → Int32 → Int32 → Int32 → Option (Int32 × Rst)
  | 0 => fun _ _ _ _ _ => none
  | n + 1 => fun R x1 x2 x3 x4 => if (R.1 10) ≤ x4 then (k_14 R x1 x2 (x3 + 1)) else ((rf_isSlab F R x4 x1 x3).bind fun v10 => if v10 = 0 then ((rf_purges_74 F k_14 n) R x1 x2 x3 (x4 + 1)) else ((rf_isWhole F R x4 x1 x3).bind fun v12 => if v12 = 0 then ((rf_purges_74 F k_14 n) R x1 x2 x3 (x4 + 1)) else (rd R 12 x4 fun v14 => wr R 17 x4 (0 : Int32) fun R15 => (rf_gives F 9 R15 x1 v14).bind fun R16 => (rf_position F R16 x1 v14.toInt64).bind fun v17 => (rf_purges_74 F k_14 n) R16 x1 (x2 + 1) x3 v17)))
def rf_purges_33 (F : Nat) (k_14 : Rst → Int32 → Int32 → Int32 → Option (Int32 × Rst)) : Nat → Rst → Int32 → Int32 → Int32 → Int32 → Option (Int32 × Rst)
  | 0 => fun _ _ _ _ _ => none
  | n + 1 => fun R x1 x2 x3 x4 => (rf_magazine F R x1 x3 (1 : Int32) (1 : Int32)).bind fun v6 => if v6 < x4 then (wr R 30 ((9 * x1) + x3) (0 : Int32) fun R8 => rf_purges_74 F k_14 F R8 x1 x2 x3 (0 : Int32)) else (wr R 28 x4 (0 : Int32) fun R18 => (rf_purges_33 F k_14 n) R18 x1 x2 x3 (x4 + 1))
def rf_purges_14 (F : Nat) : Nat → Rst → Int32 → Int32 → Int32 → Option (Int32 × Rst)
  | 0 => fun _ _ _ _ => none
  | n + 1 => fun R x1 x2 x3 => rd R 4 x1 fun v3 => if v3 < x3 then (some (x2, R)) else ((rf_magazine F R x1 x3 (0 : Int32) (0 : Int32)).bind fun v5 => rf_purges_33 F (rf_purges_14 F n) F R x1 x2 x3 v5)
def rf_purges (F : Nat) (R : Rst) (x1 : Int32) : Option (Int32 × Rst) := rd R 9 x1 fun v1 => wr R 9 x1 (v1 + 1) fun R2 => rf_purges_14 F F R2 x1 (0 : Int32) (1 : Int32)
set_option maxHeartbeats 4000000 in
set_option maxRecDepth 100000 in
theorem rm_purges (l : Launch) (F : Nat) (D : va_G) (cI cZ : ClassId) (o : Nat) (q : Nat → Nat) (R : Rst) (x1 : Int32) (r : Int32) (R' : Rst) (hf : rf_purges F R x1 = some (r, R'))   : rMet l yX7_purges wq_X7_purges { frames := 18, cells := 0, slots := 0, locals := 864 } D cI cZ o q [.ref o, .int x1] R (some (.int r)) R' := by
  refine rMet_of (cc := cX7_purges) (maxL := 6) (ret := (some .int)) (by decide) rfl rfl (kw_h kw_X7) (Nat.le_of_ble_eq_true rfl) ?_
  intro p e s m below meth c X hr hlk ls hl hB hS
  have hx := X.1.1
  have hb := X.1.2.1
  have hown := X.1.2.2.2.1
  have hts := X.1.2.2.2.2
  have hl : lv_has ls 6 [(0, .ref o), (1, .int x1)] := hl
  generalize hargs : ([.ref o, .int x1] : List Value).toArray = args at X hts hS ⊢
  have J_14 : ∀ (n_14 : Nat) (R : Rst) (x1 : Int32) (x2 : Int32) (x3 : Int32), rf_purges_14 F n_14 R x1 x2 x3 = some (r, R') → ∀ (H : Heap) (locs : List Loc) (ls : Array Slot), rB D cI cZ o q R H → va_S (rA o q) s.heap H locs → lv_has ls 6 [(0, .ref o), (1, .int x1), (2, .int x2), (3, .int x3)] → W p l e { frames := 18, cells := 0, slots := 0, locals := 864 } s m args below meth c H locs 0 0 (MQ below (mq (some (.int r)) (rW D cI cZ o q R') (rA o q)) args s 0 0 (rA o q)) (F0 m 14 ls []) := by
    intro n_14
    induction n_14 with
    | zero => intro R x1 x2 x3 hf; cases hf
    | succ n_14 ih_14 =>
      intro R x1 x2 x3 hf H locs ls hB hS hl
      rw [rf_purges_14] at hf
      have J_74 : ∀ (n_74 : Nat) (R : Rst) (x1 : Int32) (x2 : Int32) (x3 : Int32) (x4 : Int32), rf_purges_74 F (rf_purges_14 F n_14) n_74 R x1 x2 x3 x4 = some (r, R') → ∀ (H : Heap) (locs : List Loc) (ls : Array Slot), rB D cI cZ o q R H → va_S (rA o q) s.heap H locs → lv_has ls 6 [(0, .ref o), (1, .int x1), (2, .int x2), (3, .int x3), (4, .int x4)] → W p l e { frames := 18, cells := 0, slots := 0, locals := 864 } s m args below meth c H locs 0 0 (MQ below (mq (some (.int r)) (rW D cI cZ o q R') (rA o q)) args s 0 0 (rA o q)) (F0 m 74 ls []) := by
        intro n_74
        induction n_74 with
        | zero => intro R x1 x2 x3 x4 hf; cases hf
        | succ n_74 ih_74 =>
          intro R x1 x2 x3 x4 hf H locs ls hB hS hl
          rw [rf_purges_74] at hf
          refine lv_iload hx hb dX7_purges_74 (lv_at hl 4 rfl) ?_
          refine lv_aload_n hx hb dX7_purges_76 rfl (lv_at hl 0 rfl) ?_
          refine r_get X hB 10 107 (by decide) (kw_m kf_X7_107) rfl rfl dX7_purges_77 ?_
          refine lv_icmp_ge (tgt := 151) hx hb dX7_purges_80 (by decide) (fun hc9 => ?_) (fun hc9 => ?_)
          · have hf := if_t hf hc9
            refine lv_iinc (v := x3 + 1) (lv' := [(3, .int (x3 + 1)), (0, .ref o), (1, .int x1), (2, .int x2), (4, .int x4)]) hx hb dX7_purges_151 hl (k := 3) rfl rfl (by decide) rfl (fun ls hl => ?_)
            refine lv_goto (tgt := 14) hx hb dX7_purges_154 (by decide) ?_
            exact ih_14 R x1 x2 (x3 + 1) hf _ _ _ hB hS (lv_sub hl [1, 2, 3, 0] rfl)
          · have hf := if_f hf hc9
            refine lv_aload_n hx hb dX7_purges_83 rfl (lv_at hl 0 rfl) ?_
            refine lv_iload hx hb dX7_purges_84 (lv_at hl 4 rfl) ?_
            refine lv_iload_n hx hb dX7_purges_86 rfl (lv_at hl 1 rfl) ?_
            refine lv_iload_n hx hb dX7_purges_87 rfl (lv_at hl 3 rfl) ?_
            obtain ⟨v10, hqv10, hf⟩ := bn_s hf
            refine r_callV (As := [.int x4, .int x1, .int x3]) (rest := []) X hB hS (rm_isSlab l F D cI cZ o q _ _ _ _  _ hqv10) (cwV 3 hts (gd_V km_X7_196 ki_X7_isSlab ks_X7_isSlab kin_RX7 kc_X7_isSlab) rfl rfl rfl (by decide +kernel) ⟨by decide, by decide⟩) hl rfl rfl (Nat.le_of_ble_eq_true rfl) dX7_purges_88 ⟨Nat.zero_le _, Nat.zero_le _⟩ rfl (fun H locs hB hS => ?_)
            refine lv_if_eq (tgt := 145) hx hb dX7_purges_91 (by decide) (fun hc11 => ?_) (fun hc11 => ?_)
            · have hf := if_t hf hc11
              refine lv_iinc (v := x4 + 1) (lv' := [(4, .int (x4 + 1)), (0, .ref o), (1, .int x1), (2, .int x2), (3, .int x3)]) hx hb dX7_purges_145 hl (k := 4) rfl rfl (by decide) rfl (fun ls hl => ?_)
              refine lv_goto (tgt := 74) hx hb dX7_purges_148 (by decide) ?_
              exact ih_74 R x1 x2 x3 (x4 + 1) hf _ _ _ hB hS (lv_sub hl [1, 2, 3, 4, 0] rfl)
            · have hf := if_f hf hc11
              refine lv_aload_n hx hb dX7_purges_94 rfl (lv_at hl 0 rfl) ?_
              refine lv_iload hx hb dX7_purges_95 (lv_at hl 4 rfl) ?_
              refine lv_iload_n hx hb dX7_purges_97 rfl (lv_at hl 1 rfl) ?_
              refine lv_iload_n hx hb dX7_purges_98 rfl (lv_at hl 3 rfl) ?_
              obtain ⟨v12, hqv12, hf⟩ := bn_s hf
              refine r_callV (As := [.int x4, .int x1, .int x3]) (rest := []) X hB hS (rm_isWhole l F D cI cZ o q _ _ _ _  _ hqv12) (cwV 3 hts (gd_V km_X7_212 ki_X7_isWhole ks_X7_isWhole kin_RX7 kc_X7_isWhole) rfl rfl rfl (by decide +kernel) ⟨by decide, by decide⟩) hl rfl rfl (Nat.le_of_ble_eq_true rfl) dX7_purges_99 ⟨Nat.zero_le _, Nat.zero_le _⟩ rfl (fun H locs hB hS => ?_)
              refine lv_if_eq (tgt := 145) hx hb dX7_purges_102 (by decide) (fun hc13 => ?_) (fun hc13 => ?_)
              · have hf := if_t hf hc13
                refine lv_iinc (v := x4 + 1) (lv' := [(4, .int (x4 + 1)), (0, .ref o), (1, .int x1), (2, .int x2), (3, .int x3)]) hx hb dX7_purges_145 hl (k := 4) rfl rfl (by decide) rfl (fun ls hl => ?_)
                refine lv_goto (tgt := 74) hx hb dX7_purges_148 (by decide) ?_
                exact ih_74 R x1 x2 x3 (x4 + 1) hf _ _ _ hB hS (lv_sub hl [1, 2, 3, 4, 0] rfl)
              · have hf := if_f hf hc13
                refine lv_aload_n hx hb dX7_purges_105 rfl (lv_at hl 0 rfl) ?_
                refine r_get X hB 12 37 (by decide) (kw_m kf_X7_37) rfl rfl dX7_purges_106 ?_
                refine lv_iload hx hb dX7_purges_109 (lv_at hl 4 rfl) ?_
                obtain ⟨v14, ev14, hiv14, hf⟩ := rd_s hf
                refine r_ld X hB 12 10 (rat_12 cI cZ o q R) hiv14 ev14 dX7_purges_111 ?_
                refine lv_istore (lv' := [(5, .int v14), (0, .ref o), (1, .int x1), (2, .int x2), (3, .int x3), (4, .int x4)]) hx hb dX7_purges_112 hl (by decide) rfl (fun ls hl => ?_)
                refine lv_aload_n hx hb dX7_purges_114 rfl (lv_at hl 1 rfl) ?_
                refine r_get X hB 17 52 (by decide) (kw_m kf_X7_52) rfl rfl dX7_purges_115 ?_
                refine lv_iload hx hb dX7_purges_118 (lv_at hl 5 rfl) ?_
                refine lv_iconst (v := 0) hx hb dX7_purges_120 (by decide) ?_
                obtain ⟨R15, eR15, hiR15, hf⟩ := wr_s hf
                refine r_st X hB hS 17 15 (rat_17 cI cZ o q R) (rset_17 cI cZ o q R _ _) hiR15 dX7_purges_121 (fun H locs hB hS => ?_)
                rw [← eR15] at hB
                refine lv_aload_n hx hb dX7_purges_122 rfl (lv_at hl 1 rfl) ?_
                refine lv_iload_n hx hb dX7_purges_123 rfl (lv_at hl 2 rfl) ?_
                refine lv_iload hx hb dX7_purges_124 (lv_at hl 0 rfl) ?_
                obtain ⟨R16, hqR16, hf⟩ := bn_s hf
                refine r_callV (As := [.int x1, .int v14]) (rest := []) X hB hS (rm_gives l F 9 D cI cZ o q _ _ _  _ hqR16) (cwV 2 hts (gd_V km_X7_180 ki_X7_gives ks_X7_gives kin_RX7 kc_X7_gives) rfl rfl rfl (by decide +kernel) ⟨by decide, by decide⟩) hl rfl rfl (Nat.le_of_ble_eq_true rfl) dX7_purges_126 ⟨Nat.zero_le _, Nat.zero_le _⟩ rfl (fun H locs hB hS => ?_)
                refine lv_iinc (v := x2 + 1) (lv' := [(2, .int (x2 + 1)), (5, .int v14), (0, .ref o), (1, .int x1), (3, .int x3), (4, .int x4)]) hx hb dX7_purges_129 hl (k := 3) rfl rfl (by decide) rfl (fun ls hl => ?_)
                refine lv_aload_n hx hb dX7_purges_132 rfl (lv_at hl 2 rfl) ?_
                refine lv_iload_n hx hb dX7_purges_133 rfl (lv_at hl 3 rfl) ?_
                refine lv_iload hx hb dX7_purges_134 (lv_at hl 1 rfl) ?_
                refine lv_i2l (v := v14.toInt64) hx hb dX7_purges_136 rfl ?_
                obtain ⟨v17, hqv17, hf⟩ := bn_s hf
                refine r_callV (As := [.int x1, .long v14.toInt64]) (rest := []) X hB hS (rm_position l F D cI cZ o q _ _ _  _ hqv17) (cwV 2 hts (gd_V km_X7_113 ki_X7_position ks_X7_position kin_RX7 kc_X7_position) rfl rfl rfl (by decide +kernel) ⟨by decide, by decide⟩) hl rfl rfl (Nat.le_of_ble_eq_true rfl) dX7_purges_137 ⟨Nat.zero_le _, Nat.zero_le _⟩ rfl (fun H locs hB hS => ?_)
                refine lv_istore (lv' := [(4, .int v17), (2, .int (x2 + 1)), (5, .int v14), (0, .ref o), (1, .int x1), (3, .int x3)]) hx hb dX7_purges_140 hl (by decide) rfl (fun ls hl => ?_)
                refine lv_goto (tgt := 74) hx hb dX7_purges_142 (by decide) ?_
                exact ih_74 R16 x1 (x2 + 1) x3 v17 hf _ _ _ hB hS (lv_sub hl [3, 4, 1, 5, 0] rfl)
      have J_33 : ∀ (n_33 : Nat) (R : Rst) (x1 : Int32) (x2 : Int32) (x3 : Int32) (x4 : Int32), rf_purges_33 F (rf_purges_14 F n_14) n_33 R x1 x2 x3 x4 = some (r, R') → ∀ (H : Heap) (locs : List Loc) (ls : Array Slot), rB D cI cZ o q R H → va_S (rA o q) s.heap H locs → lv_has ls 6 [(0, .ref o), (1, .int x1), (2, .int x2), (3, .int x3), (4, .int x4)] → W p l e { frames := 18, cells := 0, slots := 0, locals := 864 } s m args below meth c H locs 0 0 (MQ below (mq (some (.int r)) (rW D cI cZ o q R') (rA o q)) args s 0 0 (rA o q)) (F0 m 33 ls []) := by
        intro n_33
        induction n_33 with
        | zero => intro R x1 x2 x3 x4 hf; cases hf
        | succ n_33 ih_33 =>
          intro R x1 x2 x3 x4 hf H locs ls hB hS hl
          rw [rf_purges_33] at hf
          refine lv_iload hx hb dX7_purges_33 (lv_at hl 4 rfl) ?_
          refine lv_iload_n hx hb dX7_purges_35 rfl (lv_at hl 1 rfl) ?_
          refine lv_iload_n hx hb dX7_purges_36 rfl (lv_at hl 3 rfl) ?_
          refine lv_iconst (v := 1) hx hb dX7_purges_37 (by decide) ?_
          refine lv_iconst (v := 1) hx hb dX7_purges_38 (by decide) ?_
          obtain ⟨v6, hqv6, hf⟩ := bn_s hf
          refine r_callS (As := [.int x1, .int x3, .int 1, .int 1]) (rest := [.int x4]) X hB hS (rm_magazine l F D cI cZ o q _ _ _ _ _  _ hqv6) (va_cwS 4 hts (gd_S km_X7_190 kst_X7_magazine kin_RX7 kc_X7_magazine) rfl rfl rfl (by decide +kernel) ⟨by decide, by decide⟩) hl rfl rfl (Nat.le_of_ble_eq_true rfl) dX7_purges_39 ⟨Nat.zero_le _, Nat.zero_le _⟩ rfl (fun H locs hB hS => ?_)
          refine lv_icmp_gt (tgt := 59) hx hb dX7_purges_42 (by decide) (fun hc7 => ?_) (fun hc7 => ?_)
          · have hf := if_t hf hc7
            refine lv_aload_n hx hb dX7_purges_59 rfl (lv_at hl 0 rfl) ?_
            refine r_get X hB 30 84 (by decide) (kw_m kf_X7_84) rfl rfl dX7_purges_60 ?_
            refine lv_bipush (v := 9) hx hb dX7_purges_63 (by decide) ?_
            refine lv_iload_n hx hb dX7_purges_65 rfl (lv_at hl 1 rfl) ?_
            refine lv_imul hx hb dX7_purges_66 ?_
            refine lv_iload_n hx hb dX7_purges_67 rfl (lv_at hl 3 rfl) ?_
            refine lv_iadd hx hb dX7_purges_68 ?_
            refine lv_iconst (v := 0) hx hb dX7_purges_69 (by decide) ?_
            obtain ⟨R8, eR8, hiR8, hf⟩ := wr_s hf
            refine r_st X hB hS 30 25 (rat_30 cI cZ o q R) (rset_30 cI cZ o q R _ _) hiR8 dX7_purges_70 (fun H locs hB hS => ?_)
            rw [← eR8] at hB
            refine lv_iconst (v := 0) hx hb dX7_purges_71 (by decide) ?_
            refine lv_istore (lv' := [(4, .int 0), (0, .ref o), (1, .int x1), (2, .int x2), (3, .int x3)]) hx hb dX7_purges_72 hl (by decide) rfl (fun ls hl => ?_)
            exact J_74 F R8 x1 x2 x3 (0 : Int32) hf _ _ _ hB hS (lv_sub hl [1, 2, 3, 4, 0] rfl)
          · have hf := if_f hf hc7
            refine lv_aload_n hx hb dX7_purges_45 rfl (lv_at hl 0 rfl) ?_
            refine r_get X hB 28 78 (by decide) (kw_m kf_X7_78) rfl rfl dX7_purges_46 ?_
            refine lv_iload hx hb dX7_purges_49 (lv_at hl 4 rfl) ?_
            refine lv_iconst (v := 0) hx hb dX7_purges_51 (by decide) ?_
            obtain ⟨R18, eR18, hiR18, hf⟩ := wr_s hf
            refine r_st X hB hS 28 23 (rat_28 cI cZ o q R) (rset_28 cI cZ o q R _ _) hiR18 dX7_purges_52 (fun H locs hB hS => ?_)
            rw [← eR18] at hB
            refine lv_iinc (v := x4 + 1) (lv' := [(4, .int (x4 + 1)), (0, .ref o), (1, .int x1), (2, .int x2), (3, .int x3)]) hx hb dX7_purges_53 hl (k := 4) rfl rfl (by decide) rfl (fun ls hl => ?_)
            refine lv_goto (tgt := 33) hx hb dX7_purges_56 (by decide) ?_
            exact ih_33 R18 x1 x2 x3 (x4 + 1) hf _ _ _ hB hS (lv_sub hl [1, 2, 3, 4, 0] rfl)
      refine lv_iload_n hx hb dX7_purges_14 rfl (lv_at hl 3 rfl) ?_
      refine lv_aload_n hx hb dX7_purges_15 rfl (lv_at hl 0 rfl) ?_
      refine r_get X hB 4 16 (by decide) (kw_m kf_X7_16) rfl rfl dX7_purges_16 ?_
      refine lv_iload_n hx hb dX7_purges_19 rfl (lv_at hl 1 rfl) ?_
      obtain ⟨v3, ev3, hiv3, hf⟩ := rd_s hf
      refine r_ld X hB 4 3 (rat_4 cI cZ o q R) hiv3 ev3 dX7_purges_20 ?_
      refine lv_icmp_gt (tgt := 157) hx hb dX7_purges_21 (by decide) (fun hc4 => ?_) (fun hc4 => ?_)
      · have hf := if_t hf hc4
        refine lv_iload_n hx hb dX7_purges_157 rfl (lv_at hl 2 rfl) ?_
        cases hf
        exact r_iret X hB hS hr hlk dX7_purges_158
      · have hf := if_f hf hc4
        refine lv_iload_n hx hb dX7_purges_24 rfl (lv_at hl 1 rfl) ?_
        refine lv_iload_n hx hb dX7_purges_25 rfl (lv_at hl 3 rfl) ?_
        refine lv_iconst (v := 0) hx hb dX7_purges_26 (by decide) ?_
        refine lv_iconst (v := 0) hx hb dX7_purges_27 (by decide) ?_
        obtain ⟨v5, hqv5, hf⟩ := bn_s hf
        refine r_callS (As := [.int x1, .int x3, .int 0, .int 0]) (rest := []) X hB hS (rm_magazine l F D cI cZ o q _ _ _ _ _  _ hqv5) (va_cwS 4 hts (gd_S km_X7_190 kst_X7_magazine kin_RX7 kc_X7_magazine) rfl rfl rfl (by decide +kernel) ⟨by decide, by decide⟩) hl rfl rfl (Nat.le_of_ble_eq_true rfl) dX7_purges_28 ⟨Nat.zero_le _, Nat.zero_le _⟩ rfl (fun H locs hB hS => ?_)
        refine lv_istore (lv' := [(4, .int v5), (0, .ref o), (1, .int x1), (2, .int x2), (3, .int x3)]) hx hb dX7_purges_31 hl (by decide) rfl (fun ls hl => ?_)
        exact J_33 F R x1 x2 x3 v5 hf _ _ _ hB hS (lv_sub hl [1, 2, 3, 4, 0] rfl)
  unfold rf_purges at hf
  refine lv_aload_n hx hb dX7_purges_0 rfl (lv_at hl 0 rfl) ?_
  refine r_get X hB 9 31 (by decide) (kw_m kf_X7_31) rfl rfl dX7_purges_1 ?_
  refine lv_iload_n hx hb dX7_purges_4 rfl (lv_at hl 1 rfl) ?_
  refine lv_dup2_11 hx hb dX7_purges_5 rfl rfl ?_
  obtain ⟨v1, ev1, hiv1, hf⟩ := rd_s hf
  refine r_ld X hB 9 8 (rat_9 cI cZ o q R) hiv1 ev1 dX7_purges_6 ?_
  refine lv_iconst (v := 1) hx hb dX7_purges_7 (by decide) ?_
  refine lv_iadd hx hb dX7_purges_8 ?_
  obtain ⟨R2, eR2, hiR2, hf⟩ := wr_s hf
  refine r_st X hB hS 9 8 (rat_9 cI cZ o q R) (rset_9 cI cZ o q R _ _) hiR2 dX7_purges_9 (fun H locs hB hS => ?_)
  rw [← eR2] at hB
  refine lv_iconst (v := 0) hx hb dX7_purges_10 (by decide) ?_
  refine lv_istore_n (lv' := [(2, .int 0), (0, .ref o), (1, .int x1)]) hx hb dX7_purges_11 rfl hl (by decide) rfl (fun ls hl => ?_)
  refine lv_iconst (v := 1) hx hb dX7_purges_12 (by decide) ?_
  refine lv_istore_n (lv' := [(3, .int 1), (2, .int 0), (0, .ref o), (1, .int x1)]) hx hb dX7_purges_13 rfl hl (by decide) rfl (fun ls hl => ?_)
  exact J_14 F R2 x1 (0 : Int32) (1 : Int32) hf _ _ _ hB hS (lv_sub hl [2, 3, 1, 0] rfl)
/-! X7_takes -/
def rf_takes_75 (F : Nat) (kT : Rst → Int32 → Int64 → Int32 → Int32 → Option (Int32 × Rst)) (R : Rst) (x1 : Int32) (x4 : Int32) (x5 : Int32) (x6 : Int32) (x7 : Int32) : Option (Int32 × Rst) := if x7 = ((-1) : Int32) then (rd R 8 x1 fun v10 => wr R 8 x1 (v10 + 1) fun R11 => some (((-1) : Int32), R11)) else (rd R 12 x7 fun v6 => (rf_cut F R x7 x6 x5).bind fun R7 => if x4 = (2 : Int32) then (wr R7 5 x1 (v6 + x6) fun R9 => some (v6, R9)) else (some (v6, R7)))
def rf_takes_50 (F : Nat) (kT : Rst → Int32 → Int64 → Int32 → Int32 → Option (Int32 × Rst)) (R : Rst) (x1 : Int32) (x4 : Int32) (x5 : Int32) (x6 : Int32) (x7 : Int32) : Option (Int32 × Rst) := if x7 = ((-1) : Int32) then ((rf_purges F R x1).bind fun z12 => st2 z12 fun z12v z12R => if z12v ≤ 0 then (rf_takes_75 F kT z12R x1 x4 x5 x6 x7) else ((rf_found F z12R x1 x6 x4).bind fun v14 => rf_takes_75 F kT z12R x1 x4 x5 x6 v14)) else (rf_takes_75 F kT R x1 x4 x5 x6 x7)
def rf_takesB (F : Nat) (kT : Rst → Int32 → Int64 → Int32 → Int32 → Option (Int32 × Rst)) (R : Rst) (x1 : Int32) (x2 : Int64) (x4 : Int32) (x5 : Int32) : Option (Int32 × Rst) := if (lg_cmp x2 1073741824) ≤ 0 then ((rf_found F R x1 x2.toInt32 x4).bind fun v2 => if v2 = ((-1) : Int32) then ((rf_imported F kT R x1 x2.toInt32).bind fun z15 => st2 z15 fun z15v z15R => rf_takes_50 F kT z15R x1 x4 x5 x2.toInt32 z15v) else (rf_takes_50 F kT R x1 x4 x5 x2.toInt32 v2)) else (rd R 8 x1 fun v16 => wr R 8 x1 (v16 + 1) fun R17 => some (((-1) : Int32), R17))
set_option maxHeartbeats 4000000 in
set_option maxRecDepth 100000 in
theorem rm_takesB (l : Launch) (F : Nat) (kT : Rst → Int32 → Int64 → Int32 → Int32 → Option (Int32 × Rst)) (fr lo : Nat) (D : va_G) (cI cZ : ClassId) (o : Nat) (q : Nat → Nat) (hkT : ∀ (R : Rst) (a0 : Int32) (a1 : Int64) (a2 : Int32) (a3 : Int32) (r : Int32) (R' : Rst), kT R a0 a1 a2 a3 = some (r, R') → rMet l yX7_takes (wq_X7_takes) { frames := fr, cells := 0, slots := 0, locals := lo } D cI cZ o q [.ref o, .int a0, .long a1, .int a2, .int a3] R (some (.int r)) R') (hfr : 30 ≤ fr) (hlo : 1200 ≤ lo) (R : Rst) (x1 : Int32) (x2 : Int64) (x4 : Int32) (x5 : Int32) (r : Int32) (R' : Rst) (hf : rf_takesB F kT R x1 x2 x4 x5 = some (r, R'))   : rMet l yX7_takes wq_X7_takes { frames := fr + 2, cells := 0, slots := 0, locals := lo + 120 } D cI cZ o q [.ref o, .int x1, .long x2, .int x4, .int x5] R (some (.int r)) R' := by
  refine rMet_of (cc := cX7_takes) (maxL := 9) (ret := (some .int)) (by decide) rfl rfl (kw_h kw_X7) (Nat.le_of_ble_eq_true rfl) ?_
  intro p e s m below meth c X hr hlk ls hl hB hS
  have hx := X.1.1
  have hb := X.1.2.1
  have hown := X.1.2.2.2.1
  have hts := X.1.2.2.2.2
  have hl : lv_has ls 9 [(0, .ref o), (1, .int x1), (2, .long x2), (4, .int x4), (5, .int x5)] := hl
  generalize hargs : ([.ref o, .int x1, .long x2, .int x4, .int x5] : List Value).toArray = args at X hts hS ⊢
  have J_75 : ∀ (R : Rst) (x1 : Int32) (x4 : Int32) (x5 : Int32) (x6 : Int32) (x7 : Int32), rf_takes_75 F kT R x1 x4 x5 x6 x7 = some (r, R') → ∀ (H : Heap) (locs : List Loc) (ls : Array Slot), rB D cI cZ o q R H → va_S (rA o q) s.heap H locs → lv_has ls 9 [(0, .ref o), (1, .int x1), (4, .int x4), (5, .int x5), (6, .int x6), (7, .int x7)] → W p l e { frames := fr + 2, cells := 0, slots := 0, locals := lo + 120 } s m args below meth c H locs 0 0 (MQ below (mq (some (.int r)) (rW D cI cZ o q R') (rA o q)) args s 0 0 (rA o q)) (F0 m 75 ls []) := by
    intro R x1 x4 x5 x6 x7 hf H locs ls hB hS hl
    unfold rf_takes_75 at hf
    refine lv_iload hx hb dX7_takes_75 (lv_at hl 5 rfl) ?_
    refine lv_iconst (v := (-1)) hx hb dX7_takes_77 (by decide) ?_
    refine lv_icmp_ne (tgt := 93) hx hb dX7_takes_78 (by decide) (fun hc5 => ?_) (fun hc5 => ?_)
    · have hf := if_f hf hc5
      refine lv_aload_n hx hb dX7_takes_93 rfl (lv_at hl 0 rfl) ?_
      refine r_get X hB 12 37 (by decide) (kw_m kf_X7_37) rfl rfl dX7_takes_94 ?_
      refine lv_iload hx hb dX7_takes_97 (lv_at hl 5 rfl) ?_
      obtain ⟨v6, ev6, hiv6, hf⟩ := rd_s hf
      refine r_ld X hB 12 10 (rat_12 cI cZ o q R) hiv6 ev6 dX7_takes_99 ?_
      refine lv_istore (lv' := [(8, .int v6), (0, .ref o), (1, .int x1), (4, .int x4), (5, .int x5), (6, .int x6), (7, .int x7)]) hx hb dX7_takes_100 hl (by decide) rfl (fun ls hl => ?_)
      refine lv_aload_n hx hb dX7_takes_102 rfl (lv_at hl 1 rfl) ?_
      refine lv_iload hx hb dX7_takes_103 (lv_at hl 6 rfl) ?_
      refine lv_iload hx hb dX7_takes_105 (lv_at hl 5 rfl) ?_
      refine lv_iload hx hb dX7_takes_107 (lv_at hl 4 rfl) ?_
      obtain ⟨R7, hqR7, hf⟩ := bn_s hf
      refine r_callV (As := [.int x7, .int x6, .int x5]) (rest := []) X hB hS (rm_cut l F D cI cZ o q _ _ _ _  _ hqR7) (cwV 3 hts (gd_V km_X7_169 ki_X7_cut ks_X7_cut kin_RX7 kc_X7_cut) rfl rfl rfl (by decide +kernel) ⟨by dsimp only; omega, by dsimp only; omega⟩) hl rfl rfl (Nat.le_of_ble_eq_true rfl) dX7_takes_109 ⟨Nat.zero_le _, Nat.zero_le _⟩ rfl (fun H locs hB hS => ?_)
      refine lv_iload hx hb dX7_takes_112 (lv_at hl 3 rfl) ?_
      refine lv_iconst (v := 2) hx hb dX7_takes_114 (by decide) ?_
      refine lv_icmp_ne (tgt := 129) hx hb dX7_takes_115 (by decide) (fun hc8 => ?_) (fun hc8 => ?_)
      · have hf := if_f hf hc8
        refine lv_iload hx hb dX7_takes_129 (lv_at hl 0 rfl) ?_
        cases hf
        exact r_iret X hB hS hr hlk dX7_takes_131
      · have hf := if_t hf hc8
        refine lv_aload_n hx hb dX7_takes_118 rfl (lv_at hl 1 rfl) ?_
        refine r_get X hB 5 19 (by decide) (kw_m kf_X7_19) rfl rfl dX7_takes_119 ?_
        refine lv_iload_n hx hb dX7_takes_122 rfl (lv_at hl 2 rfl) ?_
        refine lv_iload hx hb dX7_takes_123 (lv_at hl 0 rfl) ?_
        refine lv_iload hx hb dX7_takes_125 (lv_at hl 5 rfl) ?_
        refine lv_iadd hx hb dX7_takes_127 ?_
        obtain ⟨R9, eR9, hiR9, hf⟩ := wr_s hf
        refine r_st X hB hS 5 4 (rat_5 cI cZ o q R7) (rset_5 cI cZ o q R7 _ _) hiR9 dX7_takes_128 (fun H locs hB hS => ?_)
        rw [← eR9] at hB
        refine lv_iload hx hb dX7_takes_129 (lv_at hl 0 rfl) ?_
        cases hf
        exact r_iret X hB hS hr hlk dX7_takes_131
    · have hf := if_t hf hc5
      refine lv_aload_n hx hb dX7_takes_81 rfl (lv_at hl 0 rfl) ?_
      refine r_get X hB 8 28 (by decide) (kw_m kf_X7_28) rfl rfl dX7_takes_82 ?_
      refine lv_iload_n hx hb dX7_takes_85 rfl (lv_at hl 1 rfl) ?_
      refine lv_dup2_11 hx hb dX7_takes_86 rfl rfl ?_
      obtain ⟨v10, ev10, hiv10, hf⟩ := rd_s hf
      refine r_ld X hB 8 7 (rat_8 cI cZ o q R) hiv10 ev10 dX7_takes_87 ?_
      refine lv_iconst (v := 1) hx hb dX7_takes_88 (by decide) ?_
      refine lv_iadd hx hb dX7_takes_89 ?_
      obtain ⟨R11, eR11, hiR11, hf⟩ := wr_s hf
      refine r_st X hB hS 8 7 (rat_8 cI cZ o q R) (rset_8 cI cZ o q R _ _) hiR11 dX7_takes_90 (fun H locs hB hS => ?_)
      rw [← eR11] at hB
      refine lv_iconst (v := (-1)) hx hb dX7_takes_91 (by decide) ?_
      cases hf
      exact r_iret X hB hS hr hlk dX7_takes_92
  have J_50 : ∀ (R : Rst) (x1 : Int32) (x4 : Int32) (x5 : Int32) (x6 : Int32) (x7 : Int32), rf_takes_50 F kT R x1 x4 x5 x6 x7 = some (r, R') → ∀ (H : Heap) (locs : List Loc) (ls : Array Slot), rB D cI cZ o q R H → va_S (rA o q) s.heap H locs → lv_has ls 9 [(0, .ref o), (1, .int x1), (4, .int x4), (5, .int x5), (6, .int x6), (7, .int x7)] → W p l e { frames := fr + 2, cells := 0, slots := 0, locals := lo + 120 } s m args below meth c H locs 0 0 (MQ below (mq (some (.int r)) (rW D cI cZ o q R') (rA o q)) args s 0 0 (rA o q)) (F0 m 50 ls []) := by
    intro R x1 x4 x5 x6 x7 hf H locs ls hB hS hl
    unfold rf_takes_50 at hf
    refine lv_iload hx hb dX7_takes_50 (lv_at hl 5 rfl) ?_
    refine lv_iconst (v := (-1)) hx hb dX7_takes_52 (by decide) ?_
    refine lv_icmp_ne (tgt := 75) hx hb dX7_takes_53 (by decide) (fun hc4 => ?_) (fun hc4 => ?_)
    · have hf := if_f hf hc4
      exact J_75 R x1 x4 x5 x6 x7 hf _ _ _ hB hS (lv_sub hl [0, 1, 2, 3, 4, 5] rfl)
    · have hf := if_t hf hc4
      refine lv_aload_n hx hb dX7_takes_56 rfl (lv_at hl 0 rfl) ?_
      refine lv_iload_n hx hb dX7_takes_57 rfl (lv_at hl 1 rfl) ?_
      obtain ⟨⟨z12v, z12R⟩, hqz12, hf⟩ := bn_s hf
      have hf := st2_s hf
      refine r_callV (As := [.int x1]) (rest := []) X hB hS (rm_purges l F D cI cZ o q _ _  _ _ hqz12) (cwV 1 hts (gd_V km_X7_166 ki_X7_purges ks_X7_purges kin_RX7 kc_X7_purges) rfl rfl rfl (by decide +kernel) ⟨by dsimp only; omega, by dsimp only; omega⟩) hl rfl rfl (Nat.le_of_ble_eq_true rfl) dX7_takes_58 ⟨Nat.zero_le _, Nat.zero_le _⟩ rfl (fun H locs hB hS => ?_)
      refine lv_if_le (tgt := 75) hx hb dX7_takes_61 (by decide) (fun hc13 => ?_) (fun hc13 => ?_)
      · have hf := if_t hf hc13
        exact J_75 z12R x1 x4 x5 x6 x7 hf _ _ _ hB hS (lv_sub hl [0, 1, 2, 3, 4, 5] rfl)
      · have hf := if_f hf hc13
        refine lv_aload_n hx hb dX7_takes_64 rfl (lv_at hl 0 rfl) ?_
        refine lv_iload_n hx hb dX7_takes_65 rfl (lv_at hl 1 rfl) ?_
        refine lv_iload hx hb dX7_takes_66 (lv_at hl 4 rfl) ?_
        refine lv_iload hx hb dX7_takes_68 (lv_at hl 2 rfl) ?_
        obtain ⟨v14, hqv14, hf⟩ := bn_s hf
        refine r_callV (As := [.int x1, .int x6, .int x4]) (rest := []) X hB hS (rm_found l F D cI cZ o q _ _ _ _  _ hqv14) (cwV 3 hts (gd_V km_X7_159 ki_X7_found ks_X7_found kin_RX7 kc_X7_found) rfl rfl rfl (by decide +kernel) ⟨by dsimp only; omega, by dsimp only; omega⟩) hl rfl rfl (Nat.le_of_ble_eq_true rfl) dX7_takes_70 ⟨Nat.zero_le _, Nat.zero_le _⟩ rfl (fun H locs hB hS => ?_)
        refine lv_istore (lv' := [(7, .int v14), (0, .ref o), (1, .int x1), (4, .int x4), (5, .int x5), (6, .int x6)]) hx hb dX7_takes_73 hl (by decide) rfl (fun ls hl => ?_)
        exact J_75 z12R x1 x4 x5 x6 v14 hf _ _ _ hB hS (lv_sub hl [1, 2, 3, 4, 5, 0] rfl)
  unfold rf_takesB at hf
  refine lv_lload_n hx hb dX7_takes_0 rfl (lv_at hl 2 rfl) ?_
  refine lv_ldc2 (v := 1073741824) hx hb hown (hts (.constantLong RX7 139 1073741824) (kw_m kkl_X7_139)) dX7_takes_1 ?_
  refine W.lcmp hx hb dX7_takes_4 ?_
  refine lv_if_le (tgt := 20) hx hb dX7_takes_5 (by decide) (fun hc1 => ?_) (fun hc1 => ?_)
  · have hf := if_t hf hc1
    refine lv_lload_n hx hb dX7_takes_20 rfl (lv_at hl 2 rfl) ?_
    refine lv_l2i (v := x2.toInt32) hx hb dX7_takes_21 rfl ?_
    refine lv_istore (lv' := [(6, .int x2.toInt32), (0, .ref o), (1, .int x1), (2, .long x2), (4, .int x4), (5, .int x5)]) hx hb dX7_takes_22 hl (by decide) rfl (fun ls hl => ?_)
    refine lv_aload_n hx hb dX7_takes_24 rfl (lv_at hl 1 rfl) ?_
    refine lv_iload_n hx hb dX7_takes_25 rfl (lv_at hl 2 rfl) ?_
    refine lv_iload hx hb dX7_takes_26 (lv_at hl 0 rfl) ?_
    refine lv_iload hx hb dX7_takes_28 (lv_at hl 4 rfl) ?_
    obtain ⟨v2, hqv2, hf⟩ := bn_s hf
    refine r_callV (As := [.int x1, .int x2.toInt32, .int x4]) (rest := []) X hB hS (rm_found l F D cI cZ o q _ _ _ _  _ hqv2) (cwV 3 hts (gd_V km_X7_159 ki_X7_found ks_X7_found kin_RX7 kc_X7_found) rfl rfl rfl (by decide +kernel) ⟨by dsimp only; omega, by dsimp only; omega⟩) hl rfl rfl (Nat.le_of_ble_eq_true rfl) dX7_takes_30 ⟨Nat.zero_le _, Nat.zero_le _⟩ rfl (fun H locs hB hS => ?_)
    refine lv_istore (lv' := [(7, .int v2), (6, .int x2.toInt32), (0, .ref o), (1, .int x1), (2, .long x2), (4, .int x4), (5, .int x5)]) hx hb dX7_takes_33 hl (by decide) rfl (fun ls hl => ?_)
    refine lv_iload hx hb dX7_takes_35 (lv_at hl 0 rfl) ?_
    refine lv_iconst (v := (-1)) hx hb dX7_takes_37 (by decide) ?_
    refine lv_icmp_ne (tgt := 50) hx hb dX7_takes_38 (by decide) (fun hc3 => ?_) (fun hc3 => ?_)
    · have hf := if_f hf hc3
      exact J_50 R x1 x4 x5 x2.toInt32 v2 hf _ _ _ hB hS (lv_sub hl [2, 3, 5, 6, 1, 0] rfl)
    · have hf := if_t hf hc3
      refine lv_aload_n hx hb dX7_takes_41 rfl (lv_at hl 2 rfl) ?_
      refine lv_iload_n hx hb dX7_takes_42 rfl (lv_at hl 3 rfl) ?_
      refine lv_iload hx hb dX7_takes_43 (lv_at hl 1 rfl) ?_
      obtain ⟨⟨z15v, z15R⟩, hqz15, hf⟩ := bn_s hf
      have hf := st2_s hf
      refine r_callV (As := [.int x1, .int x2.toInt32]) (rest := []) X hB hS (rm_imported l F kT fr lo D cI cZ o q hkT hfr hlo _ _ _  _ _ hqz15) (cwV 2 hts (gd_V km_X7_163 ki_X7_imported ks_X7_imported kin_RX7 kc_X7_imported) rfl rfl rfl (by decide +kernel) ⟨by dsimp only; omega, by dsimp only; omega⟩) hl rfl rfl (Nat.le_of_ble_eq_true rfl) dX7_takes_45 ⟨Nat.zero_le _, Nat.zero_le _⟩ rfl (fun H locs hB hS => ?_)
      refine lv_istore (lv' := [(7, .int z15v), (6, .int x2.toInt32), (0, .ref o), (1, .int x1), (2, .long x2), (4, .int x4), (5, .int x5)]) hx hb dX7_takes_48 hl (by decide) rfl (fun ls hl => ?_)
      exact J_50 z15R x1 x4 x5 x2.toInt32 z15v hf _ _ _ hB hS (lv_sub hl [2, 3, 5, 6, 1, 0] rfl)
  · have hf := if_f hf hc1
    refine lv_aload_n hx hb dX7_takes_8 rfl (lv_at hl 0 rfl) ?_
    refine r_get X hB 8 28 (by decide) (kw_m kf_X7_28) rfl rfl dX7_takes_9 ?_
    refine lv_iload_n hx hb dX7_takes_12 rfl (lv_at hl 1 rfl) ?_
    refine lv_dup2_11 hx hb dX7_takes_13 rfl rfl ?_
    obtain ⟨v16, ev16, hiv16, hf⟩ := rd_s hf
    refine r_ld X hB 8 7 (rat_8 cI cZ o q R) hiv16 ev16 dX7_takes_14 ?_
    refine lv_iconst (v := 1) hx hb dX7_takes_15 (by decide) ?_
    refine lv_iadd hx hb dX7_takes_16 ?_
    obtain ⟨R17, eR17, hiR17, hf⟩ := wr_s hf
    refine r_st X hB hS 8 7 (rat_8 cI cZ o q R) (rset_8 cI cZ o q R _ _) hiR17 dX7_takes_17 (fun H locs hB hS => ?_)
    rw [← eR17] at hB
    refine lv_iconst (v := (-1)) hx hb dX7_takes_18 (by decide) ?_
    cases hf
    exact r_iret X hB hS hr hlk dX7_takes_19
def rf_takes (F : Nat) : Nat → Rst → Int32 → Int64 → Int32 → Int32 → Option (Int32 × Rst)
  | 0 => fun _ _ _ _ _ => none
  | d + 1 => rf_takesB F (rf_takes F d)
theorem rm_takes (l : Launch) (F d : Nat) (D : va_G) (cI cZ : ClassId) (o : Nat) (q : Nat → Nat) : ∀ (R : Rst) (x1 : Int32) (x2 : Int64) (x4 x5 : Int32) (r : Int32) (R' : Rst), rf_takes F d R x1 x2 x4 x5 = some (r, R') → rMet l yX7_takes wq_X7_takes { frames := 30 + 2 * d, cells := 0, slots := 0, locals := 1200 + 120 * d } D cI cZ o q [.ref o, .int x1, .long x2, .int x4, .int x5] R (some (.int r)) R' := by
  induction d with
  | zero => intro R x1 x2 x4 x5 r R' hf; cases hf
  | succ d ih =>
    intro R x1 x2 x4 x5 r R' hf
    rw [show 30 + 2 * (d + 1) = 30 + 2 * d + 2 from by omega, show 1200 + 120 * (d + 1) = 1200 + 120 * d + 120 from by omega]
    exact rm_takesB l F (rf_takes F d) _ _ D cI cZ o q ih (by omega) (by omega) R x1 x2 x4 x5 r R' hf
