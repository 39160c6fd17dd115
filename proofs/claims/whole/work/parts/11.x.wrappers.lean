set_option maxHeartbeats 4000000 in
set_option maxRecDepth 100000 in
theorem wm_make (l : Launch) (F : Nat) (hl0 : l.stackTraces = false) (D : va_G) (ct : ClassId × ClassId × ClassId) (cJ : ClassId) (b0 : Nat) (G : Gam) (S : Cst) (this u : Nat) (f : Nat → Int64) (x1 : Int32) (x2 : Int32) (x3 : Int32) (hk_this : ty G 6 this) (hb : ∀ a ∈ G.1, b0 ≤ a) (hbn : b0 ≤ nx S) (hbu : b0 ≤ u) (res : Thr Int32) (hf : cf_X6_make F S this x1 x2 x3 = some res) (hk : ∀ w, res = .inl w → w.1 = 2) : lMet l yL_make wq_L_make { frames := 7, cells := 120, slots := 740, locals := 152 } D ct cJ G b0 [.ref this, .int x1, .int x2, .int x3, .ref u] S u f (tO f res) (wk1 res) res 120 740 := by
  refine lMet_of (own := RL) (cc := cL_make) (maxL := 6) (ret := (some .int)) (hh := [(0, 12, 15, 13)]) hb hbn hbu (by decide) rfl rfl (Nat.le_of_ble_eq_true rfl) ?_
  intro p e s m below meth c X hr hlk htab Z ls A hl hB hA hAb hAu hu hug hS
  have hx := X.1.1
  have hb := X.1.2.1
  have hown := X.1.2.2.2.1
  have hts := X.1.2.2.2.2
  have hl : lv_has ls 6 [(0, .ref this), (1, .int x1), (2, .int x2), (3, .int x3), (4, .ref u)] := hl
  generalize hargs : ([.ref this, .int x1, .int x2, .int x3, .ref u] : List Value).toArray = args at X hts hS ⊢
  refine lv_aload hx hb dL_make_0 (lv_at hl 4 rfl) ?_
  refine lv_iconst (v := 0) hx hb dL_make_2 (by decide) ?_
  refine lv_aload_n hx hb dL_make_3 rfl (lv_at hl 0 rfl) ?_
  refine lv_iload_n hx hb dL_make_4 rfl (lv_at hl 1 rfl) ?_
  refine lv_iload_n hx hb dL_make_5 rfl (lv_at hl 2 rfl) ?_
  refine lv_iload_n hx hb dL_make_6 rfl (lv_at hl 3 rfl) ?_
  refine w_do hB hS hA hu hug (vx_runV (As := [.int x1, .int x2, .int x3]) (rest := [.int 0, .ref u]) X.1 (cm_X6_make l F hl0 D ct b0 G S this x1 x2 x3 hk_this (fun a ha => hAb a (c_in hB ha)) (hAb _ (hA _ (by rw [← hB.2.2.1]; exact hS.1))) res hf) (cwV 3 hts (gd_V km_L_7 ki_X6_make ks_X6_make kin_RX6 kc_X6_make) rfl rfl rfl (by decide +kernel) ⟨by decide, by decide⟩) (t_preV X Z.1 hB hS hAb hk_this rfl rfl) rfl rfl hl.1 rfl (lv_room (Nat.le_of_ble_eq_true rfl)) dL_make_7 ⟨by decide, by decide⟩) (fun v S1 hz G1 H locs hx1 hB2 hu hug hS => ?_) (fun k S1 hz G1 H locs q ce hx1 hB2 hle hu hug hS hce hcv hcl => ?_)
  · subst hz
    refine W.eq (g2 := F0 m 10 ls [.int v, .int 0, .ref u]) rfl ?_
    refine lv_i2l (v := v.toInt64) hx hb dL_make_10 rfl ?_
    refine w_last X Z.2.2.2 hB2 hS hu hug hAu dL_make_11 (fun H locs hB hu hS => ?_)
    refine lv_goto (tgt := 19) hx hb dL_make_12 (by decide) ?_
    refine lv_iconst (v := 0) hx hb dL_make_19 (by decide) ?_
    have hB3 : cB D ct G1 A (sN S1 H.size) H := by rw [hB.2.2.1, sN_self]; exact hB
    refine W.widen (k := 120) (n := 740) (by omega) (by omega) ?_
    exact vx_ret (W.iret hx hb hr (fun t ht hW => w_end (res := .inr (v, S1)) hx1 hB3 (by rw [hB.2.2.1]; exact Nat.le_refl _) hu hug hS ht) hS.2.2 dL_make_20 hlk)
  · subst hz
    have hk := hk _ rfl
    subst hk
    refine vx_catch (E := "java/lang/IllegalArgumentException") (name := "java/lang/IllegalArgumentException") hown [] ⟨0, 12, 15, 13⟩ [] (htab.trans rfl) (fun z hz => by cases hz) (by decide) (by decide) (hts _ (kw_m kcl_L_13)) (va_Nw.use rfl Z.1.2.1.1) hce hcv hcl ?_
    refine lv_astore (lv' := [(5, .ref q), (0, .ref this), (1, .int x1), (2, .int x2), (3, .int x3), (4, .ref u)]) hx hb dL_make_15 hl (by decide) rfl (fun ls hl => ?_)
    refine lv_iconst (v := 1) hx hb dL_make_17 (by decide) ?_
    refine W.widen (k := 120) (n := 740) (by omega) (by omega) ?_
    exact vx_ret (W.iret hx hb hr (fun t ht hW => w_end (res := .inl (2, S1)) hx1 hB2 hle hu hug hS ht) hS.2.2 dL_make_18 hlk)
set_option maxHeartbeats 4000000 in
set_option maxRecDepth 100000 in
theorem wm_add (l : Launch) (F : Nat) (hl0 : l.stackTraces = false) (D : va_G) (ct : ClassId × ClassId × ClassId) (cJ : ClassId) (b0 : Nat) (G : Gam) (S : Cst) (this u : Nat) (f : Nat → Int64) (x1 : Int32) (x2 : Int32) (x3 : Int32) (hk_this : ty G 6 this) (hb : ∀ a ∈ G.1, b0 ≤ a) (hbn : b0 ≤ nx S) (hbu : b0 ≤ u) (res : Thr Int32) (hf : cf_X6_add F S this x1 x2 x3 = some res) (hk : ∀ w, res = .inl w → w.1 = 1 ∨ w.1 = 2) : lMet l yL_add wq_L_add { frames := 8, cells := 2, slots := 18, locals := 147 } D ct cJ G b0 [.ref this, .int x1, .int x2, .int x3, .ref u] S u f (tO f res) (wk2 res) res 2 18 := by
  refine lMet_of (own := RL) (cc := cL_add) (maxL := 6) (ret := (some .int)) (hh := [(0, 12, 15, 18), (0, 12, 19, 13)]) hb hbn hbu (by decide) rfl rfl (Nat.le_of_ble_eq_true rfl) ?_
  intro p e s m below meth c X hr hlk htab Z ls A hl hB hA hAb hAu hu hug hS
  have hx := X.1.1
  have hb := X.1.2.1
  have hown := X.1.2.2.2.1
  have hts := X.1.2.2.2.2
  have hl : lv_has ls 6 [(0, .ref this), (1, .int x1), (2, .int x2), (3, .int x3), (4, .ref u)] := hl
  generalize hargs : ([.ref this, .int x1, .int x2, .int x3, .ref u] : List Value).toArray = args at X hts hS ⊢
  refine lv_aload hx hb dL_add_0 (lv_at hl 4 rfl) ?_
  refine lv_iconst (v := 0) hx hb dL_add_2 (by decide) ?_
  refine lv_aload_n hx hb dL_add_3 rfl (lv_at hl 0 rfl) ?_
  refine lv_iload_n hx hb dL_add_4 rfl (lv_at hl 1 rfl) ?_
  refine lv_iload_n hx hb dL_add_5 rfl (lv_at hl 2 rfl) ?_
  refine lv_iload_n hx hb dL_add_6 rfl (lv_at hl 3 rfl) ?_
  refine w_do hB hS hA hu hug (vx_runV (As := [.int x1, .int x2, .int x3]) (rest := [.int 0, .ref u]) X.1 (cm_X6_add l F hl0 D ct b0 G S this x1 x2 x3 hk_this (fun a ha => hAb a (c_in hB ha)) (hAb _ (hA _ (by rw [← hB.2.2.1]; exact hS.1))) res hf) (cwV 3 hts (gd_V km_L_15 ki_X6_add ks_X6_add kin_RX6 kc_X6_add) rfl rfl rfl (by decide +kernel) ⟨by decide, by decide⟩) (t_preV X Z.1 hB hS hAb hk_this rfl rfl) rfl rfl hl.1 rfl (lv_room (Nat.le_of_ble_eq_true rfl)) dL_add_7 ⟨by decide, by decide⟩) (fun v S1 hz G1 H locs hx1 hB2 hu hug hS => ?_) (fun k S1 hz G1 H locs q ce hx1 hB2 hle hu hug hS hce hcv hcl => ?_)
  · subst hz
    refine W.eq (g2 := F0 m 10 ls [.int v, .int 0, .ref u]) rfl ?_
    refine lv_i2l (v := v.toInt64) hx hb dL_add_10 rfl ?_
    refine w_last X Z.2.2.2 hB2 hS hu hug hAu dL_add_11 (fun H locs hB hu hS => ?_)
    refine lv_goto (tgt := 23) hx hb dL_add_12 (by decide) ?_
    refine lv_iconst (v := 0) hx hb dL_add_23 (by decide) ?_
    have hB3 : cB D ct G1 A (sN S1 H.size) H := by rw [hB.2.2.1, sN_self]; exact hB
    refine W.widen (k := 2) (n := 18) (by omega) (by omega) ?_
    exact vx_ret (W.iret hx hb hr (fun t ht hW => w_end (res := .inr (v, S1)) hx1 hB3 (by rw [hB.2.2.1]; exact Nat.le_refl _) hu hug hS ht) hS.2.2 dL_add_24 hlk)
  · subst hz
    have hk := hk _ rfl
    rcases hk with hk | hk
    · subst hk
      refine vx_catch (E := "java/lang/IndexOutOfBoundsException") (name := "java/lang/IndexOutOfBoundsException") hown [] ⟨0, 12, 15, 18⟩ [⟨0, 12, 19, 13⟩] (htab.trans rfl) (fun z hz => by cases hz) (by decide) (by decide) (hts _ (kw_m kcl_L_18)) (va_Nw.use rfl Z.1.2.1.2.1) hce hcv hcl ?_
      refine lv_astore (lv' := [(5, .ref q), (0, .ref this), (1, .int x1), (2, .int x2), (3, .int x3), (4, .ref u)]) hx hb dL_add_15 hl (by decide) rfl (fun ls hl => ?_)
      refine lv_iconst (v := 1) hx hb dL_add_17 (by decide) ?_
      refine W.widen (k := 2) (n := 18) (by omega) (by omega) ?_
      exact vx_ret (W.iret hx hb hr (fun t ht hW => w_end (res := .inl (1, S1)) hx1 hB2 hle hu hug hS ht) hS.2.2 dL_add_18 hlk)
    · subst hk
      refine vx_catch (E := "java/lang/IllegalArgumentException") (name := "java/lang/IllegalArgumentException") hown [⟨0, 12, 15, 18⟩] ⟨0, 12, 19, 13⟩ [] (htab.trans rfl) (fun z hz => by cases List.mem_singleton.mp hz; exact Or.inr ⟨by decide, "java/lang/IndexOutOfBoundsException", hts _ (kw_m kcl_L_18), Z.2.1⟩) (by decide) (by decide) (hts _ (kw_m kcl_L_13)) (va_Nw.use rfl Z.1.2.1.1) hce hcv hcl ?_
      refine lv_astore (lv' := [(5, .ref q), (0, .ref this), (1, .int x1), (2, .int x2), (3, .int x3), (4, .ref u)]) hx hb dL_add_19 hl (by decide) rfl (fun ls hl => ?_)
      refine lv_iconst (v := 2) hx hb dL_add_21 (by decide) ?_
      refine W.widen (k := 2) (n := 18) (by omega) (by omega) ?_
      exact vx_ret (W.iret hx hb hr (fun t ht hW => w_end (res := .inl (2, S1)) hx1 hB2 hle hu hug hS ht) hS.2.2 dL_add_22 hlk)
set_option maxHeartbeats 4000000 in
set_option maxRecDepth 100000 in
theorem wm_take (l : Launch) (F : Nat) (hl0 : l.stackTraces = false) (D : va_G) (ct : ClassId × ClassId × ClassId) (cJ : ClassId) (b0 : Nat) (G : Gam) (S : Cst) (this u : Nat) (f : Nat → Int64) (x1 : Int32) (x2 : Int32) (x3 : Int32) (x4 : Int32) (hk_this : ty G 6 this) (hb : ∀ a ∈ G.1, b0 ≤ a) (hbn : b0 ≤ nx S) (hbu : b0 ≤ u) (res : Thr Int32) (hf : cf_X6_take F S this x1 x2 x3 x4 = some res) (hk : ∀ w, res = .inl w → w.1 = 1 ∨ w.1 = 2) : lMet l yL_take wq_L_take { frames := 51, cells := 19, slots := 222, locals := 2358 } D ct cJ G b0 [.ref this, .int x1, .int x2, .int x3, .int x4, .ref u] S u f (tO f res) (wk2 res) res 19 222 := by
  refine lMet_of (own := RL) (cc := cL_take) (maxL := 7) (ret := (some .int)) (hh := [(0, 14, 17, 18), (0, 14, 21, 13)]) hb hbn hbu (by decide) rfl rfl (Nat.le_of_ble_eq_true rfl) ?_
  intro p e s m below meth c X hr hlk htab Z ls A hl hB hA hAb hAu hu hug hS
  have hx := X.1.1
  have hb := X.1.2.1
  have hown := X.1.2.2.2.1
  have hts := X.1.2.2.2.2
  have hl : lv_has ls 7 [(0, .ref this), (1, .int x1), (2, .int x2), (3, .int x3), (4, .int x4), (5, .ref u)] := hl
  generalize hargs : ([.ref this, .int x1, .int x2, .int x3, .int x4, .ref u] : List Value).toArray = args at X hts hS ⊢
  refine lv_aload hx hb dL_take_0 (lv_at hl 5 rfl) ?_
  refine lv_iconst (v := 0) hx hb dL_take_2 (by decide) ?_
  refine lv_aload_n hx hb dL_take_3 rfl (lv_at hl 0 rfl) ?_
  refine lv_iload_n hx hb dL_take_4 rfl (lv_at hl 1 rfl) ?_
  refine lv_iload_n hx hb dL_take_5 rfl (lv_at hl 2 rfl) ?_
  refine lv_iload_n hx hb dL_take_6 rfl (lv_at hl 3 rfl) ?_
  refine lv_iload hx hb dL_take_7 (lv_at hl 4 rfl) ?_
  refine w_do hB hS hA hu hug (vx_runV (As := [.int x1, .int x2, .int x3, .int x4]) (rest := [.int 0, .ref u]) X.1 (cm_X6_take l F hl0 D ct b0 G S this x1 x2 x3 x4 hk_this (fun a ha => hAb a (c_in hB ha)) (hAb _ (hA _ (by rw [← hB.2.2.1]; exact hS.1))) res hf) (cwV 4 hts (gd_V km_L_20 ki_X6_take ks_X6_take kin_RX6 kc_X6_take) rfl rfl rfl (by decide +kernel) ⟨by decide, by decide⟩) (t_preV X Z.1 hB hS hAb hk_this rfl rfl) rfl rfl hl.1 rfl (lv_room (Nat.le_of_ble_eq_true rfl)) dL_take_9 ⟨by decide, by decide⟩) (fun v S1 hz G1 H locs hx1 hB2 hu hug hS => ?_) (fun k S1 hz G1 H locs q ce hx1 hB2 hle hu hug hS hce hcv hcl => ?_)
  · subst hz
    refine W.eq (g2 := F0 m 12 ls [.int v, .int 0, .ref u]) rfl ?_
    refine lv_i2l (v := v.toInt64) hx hb dL_take_12 rfl ?_
    refine w_last X Z.2.2.2 hB2 hS hu hug hAu dL_take_13 (fun H locs hB hu hS => ?_)
    refine lv_goto (tgt := 25) hx hb dL_take_14 (by decide) ?_
    refine lv_iconst (v := 0) hx hb dL_take_25 (by decide) ?_
    have hB3 : cB D ct G1 A (sN S1 H.size) H := by rw [hB.2.2.1, sN_self]; exact hB
    refine W.widen (k := 19) (n := 222) (by omega) (by omega) ?_
    exact vx_ret (W.iret hx hb hr (fun t ht hW => w_end (res := .inr (v, S1)) hx1 hB3 (by rw [hB.2.2.1]; exact Nat.le_refl _) hu hug hS ht) hS.2.2 dL_take_26 hlk)
  · subst hz
    have hk := hk _ rfl
    rcases hk with hk | hk
    · subst hk
      refine vx_catch (E := "java/lang/IndexOutOfBoundsException") (name := "java/lang/IndexOutOfBoundsException") hown [] ⟨0, 14, 17, 18⟩ [⟨0, 14, 21, 13⟩] (htab.trans rfl) (fun z hz => by cases hz) (by decide) (by decide) (hts _ (kw_m kcl_L_18)) (va_Nw.use rfl Z.1.2.1.2.1) hce hcv hcl ?_
      refine lv_astore (lv' := [(6, .ref q), (0, .ref this), (1, .int x1), (2, .int x2), (3, .int x3), (4, .int x4), (5, .ref u)]) hx hb dL_take_17 hl (by decide) rfl (fun ls hl => ?_)
      refine lv_iconst (v := 1) hx hb dL_take_19 (by decide) ?_
      refine W.widen (k := 19) (n := 222) (by omega) (by omega) ?_
      exact vx_ret (W.iret hx hb hr (fun t ht hW => w_end (res := .inl (1, S1)) hx1 hB2 hle hu hug hS ht) hS.2.2 dL_take_20 hlk)
    · subst hk
      refine vx_catch (E := "java/lang/IllegalArgumentException") (name := "java/lang/IllegalArgumentException") hown [⟨0, 14, 17, 18⟩] ⟨0, 14, 21, 13⟩ [] (htab.trans rfl) (fun z hz => by cases List.mem_singleton.mp hz; exact Or.inr ⟨by decide, "java/lang/IndexOutOfBoundsException", hts _ (kw_m kcl_L_18), Z.2.1⟩) (by decide) (by decide) (hts _ (kw_m kcl_L_13)) (va_Nw.use rfl Z.1.2.1.1) hce hcv hcl ?_
      refine lv_astore (lv' := [(6, .ref q), (0, .ref this), (1, .int x1), (2, .int x2), (3, .int x3), (4, .int x4), (5, .ref u)]) hx hb dL_take_21 hl (by decide) rfl (fun ls hl => ?_)
      refine lv_iconst (v := 2) hx hb dL_take_23 (by decide) ?_
      refine W.widen (k := 19) (n := 222) (by omega) (by omega) ?_
      exact vx_ret (W.iret hx hb hr (fun t ht hW => w_end (res := .inl (2, S1)) hx1 hB2 hle hu hug hS ht) hS.2.2 dL_take_24 hlk)
set_option maxHeartbeats 4000000 in
set_option maxRecDepth 100000 in
theorem wm_give (l : Launch) (F : Nat) (hl0 : l.stackTraces = false) (D : va_G) (ct : ClassId × ClassId × ClassId) (cJ : ClassId) (b0 : Nat) (G : Gam) (S : Cst) (this u : Nat) (f : Nat → Int64) (x1 : Int32) (x2 : Int32) (x3 : Int32) (x4 : Int32) (hk_this : ty G 6 this) (hb : ∀ a ∈ G.1, b0 ≤ a) (hbn : b0 ≤ nx S) (hbu : b0 ≤ u) (res : Thr Int32) (hf : cf_X6_give F S this x1 x2 x3 x4 = some res) (hk : ∀ w, res = .inl w → w.1 = 1 ∨ w.1 = 2) : lMet l yL_give wq_L_give { frames := 8, cells := 2, slots := 12, locals := 151 } D ct cJ G b0 [.ref this, .int x1, .int x2, .int x3, .int x4, .ref u] S u f (tO f res) (wk2 res) res 2 12 := by
  refine lMet_of (own := RL) (cc := cL_give) (maxL := 7) (ret := (some .int)) (hh := [(0, 14, 17, 18), (0, 14, 21, 13)]) hb hbn hbu (by decide) rfl rfl (Nat.le_of_ble_eq_true rfl) ?_
  intro p e s m below meth c X hr hlk htab Z ls A hl hB hA hAb hAu hu hug hS
  have hx := X.1.1
  have hb := X.1.2.1
  have hown := X.1.2.2.2.1
  have hts := X.1.2.2.2.2
  have hl : lv_has ls 7 [(0, .ref this), (1, .int x1), (2, .int x2), (3, .int x3), (4, .int x4), (5, .ref u)] := hl
  generalize hargs : ([.ref this, .int x1, .int x2, .int x3, .int x4, .ref u] : List Value).toArray = args at X hts hS ⊢
  refine lv_aload hx hb dL_give_0 (lv_at hl 5 rfl) ?_
  refine lv_iconst (v := 0) hx hb dL_give_2 (by decide) ?_
  refine lv_aload_n hx hb dL_give_3 rfl (lv_at hl 0 rfl) ?_
  refine lv_iload_n hx hb dL_give_4 rfl (lv_at hl 1 rfl) ?_
  refine lv_iload_n hx hb dL_give_5 rfl (lv_at hl 2 rfl) ?_
  refine lv_iload_n hx hb dL_give_6 rfl (lv_at hl 3 rfl) ?_
  refine lv_iload hx hb dL_give_7 (lv_at hl 4 rfl) ?_
  refine w_do hB hS hA hu hug (vx_runV (As := [.int x1, .int x2, .int x3, .int x4]) (rest := [.int 0, .ref u]) X.1 (cm_X6_give l F hl0 D ct b0 G S this x1 x2 x3 x4 hk_this (fun a ha => hAb a (c_in hB ha)) (hAb _ (hA _ (by rw [← hB.2.2.1]; exact hS.1))) res hf) (cwV 4 hts (gd_V km_L_24 ki_X6_give ks_X6_give kin_RX6 kc_X6_give) rfl rfl rfl (by decide +kernel) ⟨by decide, by decide⟩) (t_preV X Z.1 hB hS hAb hk_this rfl rfl) rfl rfl hl.1 rfl (lv_room (Nat.le_of_ble_eq_true rfl)) dL_give_9 ⟨by decide, by decide⟩) (fun v S1 hz G1 H locs hx1 hB2 hu hug hS => ?_) (fun k S1 hz G1 H locs q ce hx1 hB2 hle hu hug hS hce hcv hcl => ?_)
  · subst hz
    refine W.eq (g2 := F0 m 12 ls [.int v, .int 0, .ref u]) rfl ?_
    refine lv_i2l (v := v.toInt64) hx hb dL_give_12 rfl ?_
    refine w_last X Z.2.2.2 hB2 hS hu hug hAu dL_give_13 (fun H locs hB hu hS => ?_)
    refine lv_goto (tgt := 25) hx hb dL_give_14 (by decide) ?_
    refine lv_iconst (v := 0) hx hb dL_give_25 (by decide) ?_
    have hB3 : cB D ct G1 A (sN S1 H.size) H := by rw [hB.2.2.1, sN_self]; exact hB
    refine W.widen (k := 2) (n := 12) (by omega) (by omega) ?_
    exact vx_ret (W.iret hx hb hr (fun t ht hW => w_end (res := .inr (v, S1)) hx1 hB3 (by rw [hB.2.2.1]; exact Nat.le_refl _) hu hug hS ht) hS.2.2 dL_give_26 hlk)
  · subst hz
    have hk := hk _ rfl
    rcases hk with hk | hk
    · subst hk
      refine vx_catch (E := "java/lang/IndexOutOfBoundsException") (name := "java/lang/IndexOutOfBoundsException") hown [] ⟨0, 14, 17, 18⟩ [⟨0, 14, 21, 13⟩] (htab.trans rfl) (fun z hz => by cases hz) (by decide) (by decide) (hts _ (kw_m kcl_L_18)) (va_Nw.use rfl Z.1.2.1.2.1) hce hcv hcl ?_
      refine lv_astore (lv' := [(6, .ref q), (0, .ref this), (1, .int x1), (2, .int x2), (3, .int x3), (4, .int x4), (5, .ref u)]) hx hb dL_give_17 hl (by decide) rfl (fun ls hl => ?_)
      refine lv_iconst (v := 1) hx hb dL_give_19 (by decide) ?_
      refine W.widen (k := 2) (n := 12) (by omega) (by omega) ?_
      exact vx_ret (W.iret hx hb hr (fun t ht hW => w_end (res := .inl (1, S1)) hx1 hB2 hle hu hug hS ht) hS.2.2 dL_give_20 hlk)
    · subst hk
      refine vx_catch (E := "java/lang/IllegalArgumentException") (name := "java/lang/IllegalArgumentException") hown [⟨0, 14, 17, 18⟩] ⟨0, 14, 21, 13⟩ [] (htab.trans rfl) (fun z hz => by cases List.mem_singleton.mp hz; exact Or.inr ⟨by decide, "java/lang/IndexOutOfBoundsException", hts _ (kw_m kcl_L_18), Z.2.1⟩) (by decide) (by decide) (hts _ (kw_m kcl_L_13)) (va_Nw.use rfl Z.1.2.1.1) hce hcv hcl ?_
      refine lv_astore (lv' := [(6, .ref q), (0, .ref this), (1, .int x1), (2, .int x2), (3, .int x3), (4, .int x4), (5, .ref u)]) hx hb dL_give_21 hl (by decide) rfl (fun ls hl => ?_)
      refine lv_iconst (v := 2) hx hb dL_give_23 (by decide) ?_
      refine W.widen (k := 2) (n := 12) (by omega) (by omega) ?_
      exact vx_ret (W.iret hx hb hr (fun t ht hW => w_end (res := .inl (2, S1)) hx1 hB2 hle hu hug hS ht) hS.2.2 dL_give_24 hlk)
set_option maxHeartbeats 4000000 in
set_option maxRecDepth 100000 in
theorem wm_takeWithin (l : Launch) (F : Nat) (hl0 : l.stackTraces = false) (D : va_G) (ct : ClassId × ClassId × ClassId) (cJ : ClassId) (b0 : Nat) (G : Gam) (S : Cst) (this u : Nat) (f : Nat → Int64) (x1 : Int32) (x2 : Int32) (x3 : Int32) (x4 : Int32) (x5 : Int32) (hk_this : ty G 6 this) (hb : ∀ a ∈ G.1, b0 ≤ a) (hbn : b0 ≤ nx S) (hbu : b0 ≤ u) (res : Thr Int32) (hf : cf_X6_takeWithin F S this x1 x2 x3 x4 x5 = some res) (hk : ∀ w, res = .inl w → w.1 = 1 ∨ w.1 = 2) : lMet l yL_takeWithin wq_L_takeWithin { frames := 8, cells := 4, slots := 36, locals := 162 } D ct cJ G b0 [.ref this, .int x1, .int x2, .int x3, .int x4, .int x5, .ref u] S u f (tO f res) (wk2 res) res 4 36 := by
  refine lMet_of (own := RL) (cc := cL_takeWithin) (maxL := 8) (ret := (some .int)) (hh := [(0, 16, 19, 18), (0, 16, 23, 13)]) hb hbn hbu (by decide) rfl rfl (Nat.le_of_ble_eq_true rfl) ?_
  intro p e s m below meth c X hr hlk htab Z ls A hl hB hA hAb hAu hu hug hS
  have hx := X.1.1
  have hb := X.1.2.1
  have hown := X.1.2.2.2.1
  have hts := X.1.2.2.2.2
  have hl : lv_has ls 8 [(0, .ref this), (1, .int x1), (2, .int x2), (3, .int x3), (4, .int x4), (5, .int x5), (6, .ref u)] := hl
  generalize hargs : ([.ref this, .int x1, .int x2, .int x3, .int x4, .int x5, .ref u] : List Value).toArray = args at X hts hS ⊢
  refine lv_aload hx hb dL_takeWithin_0 (lv_at hl 6 rfl) ?_
  refine lv_iconst (v := 0) hx hb dL_takeWithin_2 (by decide) ?_
  refine lv_aload_n hx hb dL_takeWithin_3 rfl (lv_at hl 0 rfl) ?_
  refine lv_iload_n hx hb dL_takeWithin_4 rfl (lv_at hl 1 rfl) ?_
  refine lv_iload_n hx hb dL_takeWithin_5 rfl (lv_at hl 2 rfl) ?_
  refine lv_iload_n hx hb dL_takeWithin_6 rfl (lv_at hl 3 rfl) ?_
  refine lv_iload hx hb dL_takeWithin_7 (lv_at hl 4 rfl) ?_
  refine lv_iload hx hb dL_takeWithin_9 (lv_at hl 5 rfl) ?_
  refine w_do hB hS hA hu hug (vx_runV (As := [.int x1, .int x2, .int x3, .int x4, .int x5]) (rest := [.int 0, .ref u]) X.1 (cm_X6_takeWithin l F hl0 D ct b0 G S this x1 x2 x3 x4 x5 hk_this (fun a ha => hAb a (c_in hB ha)) (hAb _ (hA _ (by rw [← hB.2.2.1]; exact hS.1))) res hf) (cwV 5 hts (gd_V km_L_27 ki_X6_takeWithin ks_X6_takeWithin kin_RX6 kc_X6_takeWithin) rfl rfl rfl (by decide +kernel) ⟨by decide, by decide⟩) (t_preV X Z.1 hB hS hAb hk_this rfl rfl) rfl rfl hl.1 rfl (lv_room (Nat.le_of_ble_eq_true rfl)) dL_takeWithin_11 ⟨by decide, by decide⟩) (fun v S1 hz G1 H locs hx1 hB2 hu hug hS => ?_) (fun k S1 hz G1 H locs q ce hx1 hB2 hle hu hug hS hce hcv hcl => ?_)
  · subst hz
    refine W.eq (g2 := F0 m 14 ls [.int v, .int 0, .ref u]) rfl ?_
    refine lv_i2l (v := v.toInt64) hx hb dL_takeWithin_14 rfl ?_
    refine w_last X Z.2.2.2 hB2 hS hu hug hAu dL_takeWithin_15 (fun H locs hB hu hS => ?_)
    refine lv_goto (tgt := 27) hx hb dL_takeWithin_16 (by decide) ?_
    refine lv_iconst (v := 0) hx hb dL_takeWithin_27 (by decide) ?_
    have hB3 : cB D ct G1 A (sN S1 H.size) H := by rw [hB.2.2.1, sN_self]; exact hB
    refine W.widen (k := 4) (n := 36) (by omega) (by omega) ?_
    exact vx_ret (W.iret hx hb hr (fun t ht hW => w_end (res := .inr (v, S1)) hx1 hB3 (by rw [hB.2.2.1]; exact Nat.le_refl _) hu hug hS ht) hS.2.2 dL_takeWithin_28 hlk)
  · subst hz
    have hk := hk _ rfl
    rcases hk with hk | hk
    · subst hk
      refine vx_catch (E := "java/lang/IndexOutOfBoundsException") (name := "java/lang/IndexOutOfBoundsException") hown [] ⟨0, 16, 19, 18⟩ [⟨0, 16, 23, 13⟩] (htab.trans rfl) (fun z hz => by cases hz) (by decide) (by decide) (hts _ (kw_m kcl_L_18)) (va_Nw.use rfl Z.1.2.1.2.1) hce hcv hcl ?_
      refine lv_astore (lv' := [(7, .ref q), (0, .ref this), (1, .int x1), (2, .int x2), (3, .int x3), (4, .int x4), (5, .int x5), (6, .ref u)]) hx hb dL_takeWithin_19 hl (by decide) rfl (fun ls hl => ?_)
      refine lv_iconst (v := 1) hx hb dL_takeWithin_21 (by decide) ?_
      refine W.widen (k := 4) (n := 36) (by omega) (by omega) ?_
      exact vx_ret (W.iret hx hb hr (fun t ht hW => w_end (res := .inl (1, S1)) hx1 hB2 hle hu hug hS ht) hS.2.2 dL_takeWithin_22 hlk)
    · subst hk
      refine vx_catch (E := "java/lang/IllegalArgumentException") (name := "java/lang/IllegalArgumentException") hown [⟨0, 16, 19, 18⟩] ⟨0, 16, 23, 13⟩ [] (htab.trans rfl) (fun z hz => by cases List.mem_singleton.mp hz; exact Or.inr ⟨by decide, "java/lang/IndexOutOfBoundsException", hts _ (kw_m kcl_L_18), Z.2.1⟩) (by decide) (by decide) (hts _ (kw_m kcl_L_13)) (va_Nw.use rfl Z.1.2.1.1) hce hcv hcl ?_
      refine lv_astore (lv' := [(7, .ref q), (0, .ref this), (1, .int x1), (2, .int x2), (3, .int x3), (4, .int x4), (5, .int x5), (6, .ref u)]) hx hb dL_takeWithin_23 hl (by decide) rfl (fun ls hl => ?_)
      refine lv_iconst (v := 2) hx hb dL_takeWithin_25 (by decide) ?_
      refine W.widen (k := 4) (n := 36) (by omega) (by omega) ?_
      exact vx_ret (W.iret hx hb hr (fun t ht hW => w_end (res := .inl (2, S1)) hx1 hB2 hle hu hug hS ht) hS.2.2 dL_takeWithin_26 hlk)
set_option maxHeartbeats 4000000 in
set_option maxRecDepth 100000 in
theorem wm_giveWithin (l : Launch) (F : Nat) (hl0 : l.stackTraces = false) (D : va_G) (ct : ClassId × ClassId × ClassId) (cJ : ClassId) (b0 : Nat) (G : Gam) (S : Cst) (this u : Nat) (f : Nat → Int64) (x1 : Int32) (x2 : Int32) (x3 : Int32) (hk_this : ty G 6 this) (hb : ∀ a ∈ G.1, b0 ≤ a) (hbn : b0 ≤ nx S) (hbu : b0 ≤ u) (res : Thr Int32) (hf : cf_X6_giveWithin F S this x1 x2 x3 = some res) (hk : ∀ w, res = .inl w → w.1 = 1 ∨ w.1 = 2) : lMet l yL_giveWithin wq_L_giveWithin { frames := 8, cells := 2, slots := 12, locals := 146 } D ct cJ G b0 [.ref this, .int x1, .int x2, .int x3, .ref u] S u f (tO f res) (wk2 res) res 2 12 := by
  refine lMet_of (own := RL) (cc := cL_giveWithin) (maxL := 6) (ret := (some .int)) (hh := [(0, 12, 15, 18), (0, 12, 19, 13)]) hb hbn hbu (by decide) rfl rfl (Nat.le_of_ble_eq_true rfl) ?_
  intro p e s m below meth c X hr hlk htab Z ls A hl hB hA hAb hAu hu hug hS
  have hx := X.1.1
  have hb := X.1.2.1
  have hown := X.1.2.2.2.1
  have hts := X.1.2.2.2.2
  have hl : lv_has ls 6 [(0, .ref this), (1, .int x1), (2, .int x2), (3, .int x3), (4, .ref u)] := hl
  generalize hargs : ([.ref this, .int x1, .int x2, .int x3, .ref u] : List Value).toArray = args at X hts hS ⊢
  refine lv_aload hx hb dL_giveWithin_0 (lv_at hl 4 rfl) ?_
  refine lv_iconst (v := 0) hx hb dL_giveWithin_2 (by decide) ?_
  refine lv_aload_n hx hb dL_giveWithin_3 rfl (lv_at hl 0 rfl) ?_
  refine lv_iload_n hx hb dL_giveWithin_4 rfl (lv_at hl 1 rfl) ?_
  refine lv_iload_n hx hb dL_giveWithin_5 rfl (lv_at hl 2 rfl) ?_
  refine lv_iload_n hx hb dL_giveWithin_6 rfl (lv_at hl 3 rfl) ?_
  refine w_do hB hS hA hu hug (vx_runV (As := [.int x1, .int x2, .int x3]) (rest := [.int 0, .ref u]) X.1 (cm_X6_giveWithin l F hl0 D ct b0 G S this x1 x2 x3 hk_this (fun a ha => hAb a (c_in hB ha)) (hAb _ (hA _ (by rw [← hB.2.2.1]; exact hS.1))) res hf) (cwV 3 hts (gd_V km_L_31 ki_X6_giveWithin ks_X6_giveWithin kin_RX6 kc_X6_giveWithin) rfl rfl rfl (by decide +kernel) ⟨by decide, by decide⟩) (t_preV X Z.1 hB hS hAb hk_this rfl rfl) rfl rfl hl.1 rfl (lv_room (Nat.le_of_ble_eq_true rfl)) dL_giveWithin_7 ⟨by decide, by decide⟩) (fun v S1 hz G1 H locs hx1 hB2 hu hug hS => ?_) (fun k S1 hz G1 H locs q ce hx1 hB2 hle hu hug hS hce hcv hcl => ?_)
  · subst hz
    refine W.eq (g2 := F0 m 10 ls [.int v, .int 0, .ref u]) rfl ?_
    refine lv_i2l (v := v.toInt64) hx hb dL_giveWithin_10 rfl ?_
    refine w_last X Z.2.2.2 hB2 hS hu hug hAu dL_giveWithin_11 (fun H locs hB hu hS => ?_)
    refine lv_goto (tgt := 23) hx hb dL_giveWithin_12 (by decide) ?_
    refine lv_iconst (v := 0) hx hb dL_giveWithin_23 (by decide) ?_
    have hB3 : cB D ct G1 A (sN S1 H.size) H := by rw [hB.2.2.1, sN_self]; exact hB
    refine W.widen (k := 2) (n := 12) (by omega) (by omega) ?_
    exact vx_ret (W.iret hx hb hr (fun t ht hW => w_end (res := .inr (v, S1)) hx1 hB3 (by rw [hB.2.2.1]; exact Nat.le_refl _) hu hug hS ht) hS.2.2 dL_giveWithin_24 hlk)
  · subst hz
    have hk := hk _ rfl
    rcases hk with hk | hk
    · subst hk
      refine vx_catch (E := "java/lang/IndexOutOfBoundsException") (name := "java/lang/IndexOutOfBoundsException") hown [] ⟨0, 12, 15, 18⟩ [⟨0, 12, 19, 13⟩] (htab.trans rfl) (fun z hz => by cases hz) (by decide) (by decide) (hts _ (kw_m kcl_L_18)) (va_Nw.use rfl Z.1.2.1.2.1) hce hcv hcl ?_
      refine lv_astore (lv' := [(5, .ref q), (0, .ref this), (1, .int x1), (2, .int x2), (3, .int x3), (4, .ref u)]) hx hb dL_giveWithin_15 hl (by decide) rfl (fun ls hl => ?_)
      refine lv_iconst (v := 1) hx hb dL_giveWithin_17 (by decide) ?_
      refine W.widen (k := 2) (n := 12) (by omega) (by omega) ?_
      exact vx_ret (W.iret hx hb hr (fun t ht hW => w_end (res := .inl (1, S1)) hx1 hB2 hle hu hug hS ht) hS.2.2 dL_giveWithin_18 hlk)
    · subst hk
      refine vx_catch (E := "java/lang/IllegalArgumentException") (name := "java/lang/IllegalArgumentException") hown [⟨0, 12, 15, 18⟩] ⟨0, 12, 19, 13⟩ [] (htab.trans rfl) (fun z hz => by cases List.mem_singleton.mp hz; exact Or.inr ⟨by decide, "java/lang/IndexOutOfBoundsException", hts _ (kw_m kcl_L_18), Z.2.1⟩) (by decide) (by decide) (hts _ (kw_m kcl_L_13)) (va_Nw.use rfl Z.1.2.1.1) hce hcv hcl ?_
      refine lv_astore (lv' := [(5, .ref q), (0, .ref this), (1, .int x1), (2, .int x2), (3, .int x3), (4, .ref u)]) hx hb dL_giveWithin_19 hl (by decide) rfl (fun ls hl => ?_)
      refine lv_iconst (v := 2) hx hb dL_giveWithin_21 (by decide) ?_
      refine W.widen (k := 2) (n := 12) (by omega) (by omega) ?_
      exact vx_ret (W.iret hx hb hr (fun t ht hW => w_end (res := .inl (2, S1)) hx1 hB2 hle hu hug hS ht) hS.2.2 dL_giveWithin_22 hlk)
set_option maxHeartbeats 4000000 in
set_option maxRecDepth 100000 in
theorem wm_bounds (l : Launch) (F : Nat) (hl0 : l.stackTraces = false) (D : va_G) (ct : ClassId × ClassId × ClassId) (cJ : ClassId) (b0 : Nat) (G : Gam) (S : Cst) (this u : Nat) (f : Nat → Int64) (x1 : Int32) (x2 : Int32) (x3 : Int32) (hk_this : ty G 6 this) (hb : ∀ a ∈ G.1, b0 ≤ a) (hbn : b0 ≤ nx S) (hbu : b0 ≤ u) (res : Thr Unit) (hf : cf_X6_bounds F S this x1 x2 x3 = some res) (hk : ∀ w, res = .inl w → w.1 = 1 ∨ w.1 = 2) : lMet l yL_bounds wq_L_bounds { frames := 8, cells := 2, slots := 12, locals := 146 } D ct cJ G b0 [.ref this, .int x1, .int x2, .int x3] S u f f (wk2 res) res 2 12 := by
  refine lMet_of (own := RL) (cc := cL_bounds) (maxL := 5) (ret := (some .int)) (hh := [(0, 7, 10, 18), (0, 7, 14, 13)]) hb hbn hbu (by decide) rfl rfl (Nat.le_of_ble_eq_true rfl) ?_
  intro p e s m below meth c X hr hlk htab Z ls A hl hB hA hAb hAu hu hug hS
  have hx := X.1.1
  have hb := X.1.2.1
  have hown := X.1.2.2.2.1
  have hts := X.1.2.2.2.2
  have hl : lv_has ls 5 [(0, .ref this), (1, .int x1), (2, .int x2), (3, .int x3)] := hl
  generalize hargs : ([.ref this, .int x1, .int x2, .int x3] : List Value).toArray = args at X hts hS ⊢
  refine lv_aload_n hx hb dL_bounds_0 rfl (lv_at hl 0 rfl) ?_
  refine lv_iload_n hx hb dL_bounds_1 rfl (lv_at hl 1 rfl) ?_
  refine lv_iload_n hx hb dL_bounds_2 rfl (lv_at hl 2 rfl) ?_
  refine lv_iload_n hx hb dL_bounds_3 rfl (lv_at hl 3 rfl) ?_
  refine w_do hB hS hA hu hug (vx_runV (As := [.int x1, .int x2, .int x3]) (rest := []) X.1 (cm_X6_bounds l F hl0 D ct b0 G S this x1 x2 x3 hk_this (fun a ha => hAb a (c_in hB ha)) (hAb _ (hA _ (by rw [← hB.2.2.1]; exact hS.1))) res hf) (cwV 3 hts (gd_V km_L_34 ki_X6_bounds ks_X6_bounds kin_RX6 kc_X6_bounds) rfl rfl rfl (by decide +kernel) ⟨by decide, by decide⟩) (t_preV X Z.1 hB hS hAb hk_this rfl rfl) rfl rfl hl.1 rfl (lv_room (Nat.le_of_ble_eq_true rfl)) dL_bounds_4 ⟨by decide, by decide⟩) (fun v S1 hz G1 H locs hx1 hB2 hu hug hS => ?_) (fun k S1 hz G1 H locs q ce hx1 hB2 hle hu hug hS hce hcv hcl => ?_)
  · subst hz
    refine W.eq (g2 := F0 m 7 ls []) rfl ?_
    have hB := hB2
    refine lv_goto (tgt := 18) hx hb dL_bounds_7 (by decide) ?_
    refine lv_iconst (v := 0) hx hb dL_bounds_18 (by decide) ?_
    have hB3 : cB D ct G1 A (sN S1 H.size) H := by rw [hB.2.2.1, sN_self]; exact hB
    refine W.widen (k := 2) (n := 12) (by omega) (by omega) ?_
    exact vx_ret (W.iret hx hb hr (fun t ht hW => w_end (res := .inr (v, S1)) hx1 hB3 (by rw [hB.2.2.1]; exact Nat.le_refl _) hu hug hS ht) hS.2.2 dL_bounds_19 hlk)
  · subst hz
    have hk := hk _ rfl
    rcases hk with hk | hk
    · subst hk
      refine vx_catch (E := "java/lang/IndexOutOfBoundsException") (name := "java/lang/IndexOutOfBoundsException") hown [] ⟨0, 7, 10, 18⟩ [⟨0, 7, 14, 13⟩] (htab.trans rfl) (fun z hz => by cases hz) (by decide) (by decide) (hts _ (kw_m kcl_L_18)) (va_Nw.use rfl Z.1.2.1.2.1) hce hcv hcl ?_
      refine lv_astore (lv' := [(4, .ref q), (0, .ref this), (1, .int x1), (2, .int x2), (3, .int x3)]) hx hb dL_bounds_10 hl (by decide) rfl (fun ls hl => ?_)
      refine lv_iconst (v := 1) hx hb dL_bounds_12 (by decide) ?_
      refine W.widen (k := 2) (n := 12) (by omega) (by omega) ?_
      exact vx_ret (W.iret hx hb hr (fun t ht hW => w_end (res := .inl (1, S1)) hx1 hB2 hle hu hug hS ht) hS.2.2 dL_bounds_13 hlk)
    · subst hk
      refine vx_catch (E := "java/lang/IllegalArgumentException") (name := "java/lang/IllegalArgumentException") hown [⟨0, 7, 10, 18⟩] ⟨0, 7, 14, 13⟩ [] (htab.trans rfl) (fun z hz => by cases List.mem_singleton.mp hz; exact Or.inr ⟨by decide, "java/lang/IndexOutOfBoundsException", hts _ (kw_m kcl_L_18), Z.2.1⟩) (by decide) (by decide) (hts _ (kw_m kcl_L_13)) (va_Nw.use rfl Z.1.2.1.1) hce hcv hcl ?_
      refine lv_astore (lv' := [(4, .ref q), (0, .ref this), (1, .int x1), (2, .int x2), (3, .int x3)]) hx hb dL_bounds_14 hl (by decide) rfl (fun ls hl => ?_)
      refine lv_iconst (v := 2) hx hb dL_bounds_16 (by decide) ?_
      refine W.widen (k := 2) (n := 12) (by omega) (by omega) ?_
      exact vx_ret (W.iret hx hb hr (fun t ht hW => w_end (res := .inl (2, S1)) hx1 hB2 hle hu hug hS ht) hS.2.2 dL_bounds_17 hlk)
set_option maxHeartbeats 4000000 in
set_option maxRecDepth 100000 in
theorem wm_purge (l : Launch) (F : Nat) (hl0 : l.stackTraces = false) (D : va_G) (ct : ClassId × ClassId × ClassId) (cJ : ClassId) (b0 : Nat) (G : Gam) (S : Cst) (this u : Nat) (f : Nat → Int64) (x1 : Int32) (hk_this : ty G 6 this) (hb : ∀ a ∈ G.1, b0 ≤ a) (hbn : b0 ≤ nx S) (hbu : b0 ≤ u) (res : Thr Int32) (hf : cf_X6_purge F S this x1 = some res) (hk : ∀ w, res = .inl w → w.1 = 1) : lMet l yL_purge wq_L_purge { frames := 8, cells := 1, slots := 6, locals := 143 } D ct cJ G b0 [.ref this, .int x1, .ref u] S u f (tO f res) (wk1 res) res 1 6 := by
  refine lMet_of (own := RL) (cc := cL_purge) (maxL := 4) (ret := (some .int)) (hh := [(0, 9, 12, 18)]) hb hbn hbu (by decide) rfl rfl (Nat.le_of_ble_eq_true rfl) ?_
  intro p e s m below meth c X hr hlk htab Z ls A hl hB hA hAb hAu hu hug hS
  have hx := X.1.1
  have hb := X.1.2.1
  have hown := X.1.2.2.2.1
  have hts := X.1.2.2.2.2
  have hl : lv_has ls 4 [(0, .ref this), (1, .int x1), (2, .ref u)] := hl
  generalize hargs : ([.ref this, .int x1, .ref u] : List Value).toArray = args at X hts hS ⊢
  refine lv_aload_n hx hb dL_purge_0 rfl (lv_at hl 2 rfl) ?_
  refine lv_iconst (v := 0) hx hb dL_purge_1 (by decide) ?_
  refine lv_aload_n hx hb dL_purge_2 rfl (lv_at hl 0 rfl) ?_
  refine lv_iload_n hx hb dL_purge_3 rfl (lv_at hl 1 rfl) ?_
  refine w_do hB hS hA hu hug (vx_runV (As := [.int x1]) (rest := [.int 0, .ref u]) X.1 (cm_X6_purge l F hl0 D ct b0 G S this x1 hk_this (fun a ha => hAb a (c_in hB ha)) (hAb _ (hA _ (by rw [← hB.2.2.1]; exact hS.1))) res hf) (cwV 1 hts (gd_V km_L_38 ki_X6_purge ks_X6_purge kin_RX6 kc_X6_purge) rfl rfl rfl (by decide +kernel) ⟨by decide, by decide⟩) (t_preV X Z.1 hB hS hAb hk_this rfl rfl) rfl rfl hl.1 rfl (lv_room (Nat.le_of_ble_eq_true rfl)) dL_purge_4 ⟨by decide, by decide⟩) (fun v S1 hz G1 H locs hx1 hB2 hu hug hS => ?_) (fun k S1 hz G1 H locs q ce hx1 hB2 hle hu hug hS hce hcv hcl => ?_)
  · subst hz
    refine W.eq (g2 := F0 m 7 ls [.int v, .int 0, .ref u]) rfl ?_
    refine lv_i2l (v := v.toInt64) hx hb dL_purge_7 rfl ?_
    refine w_last X Z.2.2.2 hB2 hS hu hug hAu dL_purge_8 (fun H locs hB hu hS => ?_)
    refine lv_goto (tgt := 15) hx hb dL_purge_9 (by decide) ?_
    refine lv_iconst (v := 0) hx hb dL_purge_15 (by decide) ?_
    have hB3 : cB D ct G1 A (sN S1 H.size) H := by rw [hB.2.2.1, sN_self]; exact hB
    refine W.widen (k := 1) (n := 6) (by omega) (by omega) ?_
    exact vx_ret (W.iret hx hb hr (fun t ht hW => w_end (res := .inr (v, S1)) hx1 hB3 (by rw [hB.2.2.1]; exact Nat.le_refl _) hu hug hS ht) hS.2.2 dL_purge_16 hlk)
  · subst hz
    have hk := hk _ rfl
    subst hk
    refine vx_catch (E := "java/lang/IndexOutOfBoundsException") (name := "java/lang/IndexOutOfBoundsException") hown [] ⟨0, 9, 12, 18⟩ [] (htab.trans rfl) (fun z hz => by cases hz) (by decide) (by decide) (hts _ (kw_m kcl_L_18)) (va_Nw.use rfl Z.1.2.1.2.1) hce hcv hcl ?_
    refine lv_astore_n (lv' := [(3, .ref q), (0, .ref this), (1, .int x1), (2, .ref u)]) hx hb dL_purge_12 rfl hl (by decide) rfl (fun ls hl => ?_)
    refine lv_iconst (v := 1) hx hb dL_purge_13 (by decide) ?_
    refine W.widen (k := 1) (n := 6) (by omega) (by omega) ?_
    exact vx_ret (W.iret hx hb hr (fun t ht hW => w_end (res := .inl (1, S1)) hx1 hB2 hle hu hug hS ht) hS.2.2 dL_purge_14 hlk)
set_option maxHeartbeats 4000000 in
set_option maxRecDepth 100000 in
theorem wm_count (l : Launch) (F : Nat) (hl0 : l.stackTraces = false) (D : va_G) (ct : ClassId × ClassId × ClassId) (cJ : ClassId) (b0 : Nat) (G : Gam) (S : Cst) (this u : Nat) (f : Nat → Int64) (x1 : Int32) (x2 : Int32) (hk_this : ty G 6 this) (hb : ∀ a ∈ G.1, b0 ≤ a) (hbn : b0 ≤ nx S) (hbu : b0 ≤ u) (res : Thr Int32) (hf : cf_X6_count F S this x1 x2 = some res) (hk : ∀ w, res = .inl w → w.1 = 1 ∨ w.1 = 3) : lMet l yL_count wq_L_count { frames := 8, cells := 2, slots := 12, locals := 145 } D ct cJ G b0 [.ref this, .int x1, .int x2, .ref u] S u f (tO f res) (wk2 res) res 2 12 := by
  refine lMet_of (own := RL) (cc := cL_count) (maxL := 5) (ret := (some .int)) (hh := [(0, 10, 13, 18), (0, 10, 17, 46)]) hb hbn hbu (by decide) rfl rfl (Nat.le_of_ble_eq_true rfl) ?_
  intro p e s m below meth c X hr hlk htab Z ls A hl hB hA hAb hAu hu hug hS
  have hx := X.1.1
  have hb := X.1.2.1
  have hown := X.1.2.2.2.1
  have hts := X.1.2.2.2.2
  have hl : lv_has ls 5 [(0, .ref this), (1, .int x1), (2, .int x2), (3, .ref u)] := hl
  generalize hargs : ([.ref this, .int x1, .int x2, .ref u] : List Value).toArray = args at X hts hS ⊢
  refine lv_aload_n hx hb dL_count_0 rfl (lv_at hl 3 rfl) ?_
  refine lv_iconst (v := 0) hx hb dL_count_1 (by decide) ?_
  refine lv_aload_n hx hb dL_count_2 rfl (lv_at hl 0 rfl) ?_
  refine lv_iload_n hx hb dL_count_3 rfl (lv_at hl 1 rfl) ?_
  refine lv_iload_n hx hb dL_count_4 rfl (lv_at hl 2 rfl) ?_
  refine w_do hB hS hA hu hug (vx_runV (As := [.int x1, .int x2]) (rest := [.int 0, .ref u]) X.1 (cm_X6_count l F hl0 D ct b0 G S this x1 x2 hk_this (fun a ha => hAb a (c_in hB ha)) (hAb _ (hA _ (by rw [← hB.2.2.1]; exact hS.1))) res hf) (cwV 2 hts (gd_V km_L_42 ki_X6_count ks_X6_count kin_RX6 kc_X6_count) rfl rfl rfl (by decide +kernel) ⟨by decide, by decide⟩) (t_preV X Z.1 hB hS hAb hk_this rfl rfl) rfl rfl hl.1 rfl (lv_room (Nat.le_of_ble_eq_true rfl)) dL_count_5 ⟨by decide, by decide⟩) (fun v S1 hz G1 H locs hx1 hB2 hu hug hS => ?_) (fun k S1 hz G1 H locs q ce hx1 hB2 hle hu hug hS hce hcv hcl => ?_)
  · subst hz
    refine W.eq (g2 := F0 m 8 ls [.int v, .int 0, .ref u]) rfl ?_
    refine lv_i2l (v := v.toInt64) hx hb dL_count_8 rfl ?_
    refine w_last X Z.2.2.2 hB2 hS hu hug hAu dL_count_9 (fun H locs hB hu hS => ?_)
    refine lv_goto (tgt := 21) hx hb dL_count_10 (by decide) ?_
    refine lv_iconst (v := 0) hx hb dL_count_21 (by decide) ?_
    have hB3 : cB D ct G1 A (sN S1 H.size) H := by rw [hB.2.2.1, sN_self]; exact hB
    refine W.widen (k := 2) (n := 12) (by omega) (by omega) ?_
    exact vx_ret (W.iret hx hb hr (fun t ht hW => w_end (res := .inr (v, S1)) hx1 hB3 (by rw [hB.2.2.1]; exact Nat.le_refl _) hu hug hS ht) hS.2.2 dL_count_22 hlk)
  · subst hz
    have hk := hk _ rfl
    rcases hk with hk | hk
    · subst hk
      refine vx_catch (E := "java/lang/IndexOutOfBoundsException") (name := "java/lang/IndexOutOfBoundsException") hown [] ⟨0, 10, 13, 18⟩ [⟨0, 10, 17, 46⟩] (htab.trans rfl) (fun z hz => by cases hz) (by decide) (by decide) (hts _ (kw_m kcl_L_18)) (va_Nw.use rfl Z.1.2.1.2.1) hce hcv hcl ?_
      refine lv_astore (lv' := [(4, .ref q), (0, .ref this), (1, .int x1), (2, .int x2), (3, .ref u)]) hx hb dL_count_13 hl (by decide) rfl (fun ls hl => ?_)
      refine lv_iconst (v := 1) hx hb dL_count_15 (by decide) ?_
      refine W.widen (k := 2) (n := 12) (by omega) (by omega) ?_
      exact vx_ret (W.iret hx hb hr (fun t ht hW => w_end (res := .inl (1, S1)) hx1 hB2 hle hu hug hS ht) hS.2.2 dL_count_16 hlk)
    · subst hk
      refine vx_catch (E := "java/util/NoSuchElementException") (name := "java/util/NoSuchElementException") hown [⟨0, 10, 13, 18⟩] ⟨0, 10, 17, 46⟩ [] (htab.trans rfl) (fun z hz => by cases List.mem_singleton.mp hz; exact Or.inr ⟨by decide, "java/lang/IndexOutOfBoundsException", hts _ (kw_m kcl_L_18), Z.2.2.1⟩) (by decide) (by decide) (hts _ (kw_m kcl_L_46)) (va_Nw.use rfl Z.1.2.1.2.2.1) hce hcv hcl ?_
      refine lv_astore (lv' := [(4, .ref q), (0, .ref this), (1, .int x1), (2, .int x2), (3, .ref u)]) hx hb dL_count_17 hl (by decide) rfl (fun ls hl => ?_)
      refine lv_iconst (v := 2) hx hb dL_count_19 (by decide) ?_
      refine W.widen (k := 2) (n := 12) (by omega) (by omega) ?_
      exact vx_ret (W.iret hx hb hr (fun t ht hW => w_end (res := .inl (3, S1)) hx1 hB2 hle hu hug hS ht) hS.2.2 dL_count_20 hlk)
set_option maxHeartbeats 4000000 in
set_option maxRecDepth 100000 in
theorem wm_segment (l : Launch) (F : Nat) (hl0 : l.stackTraces = false) (D : va_G) (ct : ClassId × ClassId × ClassId) (cJ : ClassId) (b0 : Nat) (G : Gam) (S : Cst) (this u : Nat) (f : Nat → Int64) (x1 : Int32) (x2 : Int32) (x3 : Int32) (hk_this : ty G 6 this) (hb : ∀ a ∈ G.1, b0 ≤ a) (hbn : b0 ≤ nx S) (hbu : b0 ≤ u) (res : Thr Int32) (hf : cf_X6_segment F S this x1 x2 x3 = some res) (hk : ∀ w, res = .inl w → w.1 = 1 ∨ w.1 = 3) : lMet l yL_segment wq_L_segment { frames := 8, cells := 2, slots := 12, locals := 147 } D ct cJ G b0 [.ref this, .int x1, .int x2, .int x3, .ref u] S u f (tO f res) (wk2 res) res 2 12 := by
  refine lMet_of (own := RL) (cc := cL_segment) (maxL := 6) (ret := (some .int)) (hh := [(0, 12, 15, 18), (0, 12, 19, 46)]) hb hbn hbu (by decide) rfl rfl (Nat.le_of_ble_eq_true rfl) ?_
  intro p e s m below meth c X hr hlk htab Z ls A hl hB hA hAb hAu hu hug hS
  have hx := X.1.1
  have hb := X.1.2.1
  have hown := X.1.2.2.2.1
  have hts := X.1.2.2.2.2
  have hl : lv_has ls 6 [(0, .ref this), (1, .int x1), (2, .int x2), (3, .int x3), (4, .ref u)] := hl
  generalize hargs : ([.ref this, .int x1, .int x2, .int x3, .ref u] : List Value).toArray = args at X hts hS ⊢
  refine lv_aload hx hb dL_segment_0 (lv_at hl 4 rfl) ?_
  refine lv_iconst (v := 0) hx hb dL_segment_2 (by decide) ?_
  refine lv_aload_n hx hb dL_segment_3 rfl (lv_at hl 0 rfl) ?_
  refine lv_iload_n hx hb dL_segment_4 rfl (lv_at hl 1 rfl) ?_
  refine lv_iload_n hx hb dL_segment_5 rfl (lv_at hl 2 rfl) ?_
  refine lv_iload_n hx hb dL_segment_6 rfl (lv_at hl 3 rfl) ?_
  refine w_do hB hS hA hu hug (vx_runV (As := [.int x1, .int x2, .int x3]) (rest := [.int 0, .ref u]) X.1 (cm_X6_segment l F hl0 D ct b0 G S this x1 x2 x3 hk_this (fun a ha => hAb a (c_in hB ha)) (hAb _ (hA _ (by rw [← hB.2.2.1]; exact hS.1))) res hf) (cwV 3 hts (gd_V km_L_48 ki_X6_segment ks_X6_segment kin_RX6 kc_X6_segment) rfl rfl rfl (by decide +kernel) ⟨by decide, by decide⟩) (t_preV X Z.1 hB hS hAb hk_this rfl rfl) rfl rfl hl.1 rfl (lv_room (Nat.le_of_ble_eq_true rfl)) dL_segment_7 ⟨by decide, by decide⟩) (fun v S1 hz G1 H locs hx1 hB2 hu hug hS => ?_) (fun k S1 hz G1 H locs q ce hx1 hB2 hle hu hug hS hce hcv hcl => ?_)
  · subst hz
    refine W.eq (g2 := F0 m 10 ls [.int v, .int 0, .ref u]) rfl ?_
    refine lv_i2l (v := v.toInt64) hx hb dL_segment_10 rfl ?_
    refine w_last X Z.2.2.2 hB2 hS hu hug hAu dL_segment_11 (fun H locs hB hu hS => ?_)
    refine lv_goto (tgt := 23) hx hb dL_segment_12 (by decide) ?_
    refine lv_iconst (v := 0) hx hb dL_segment_23 (by decide) ?_
    have hB3 : cB D ct G1 A (sN S1 H.size) H := by rw [hB.2.2.1, sN_self]; exact hB
    refine W.widen (k := 2) (n := 12) (by omega) (by omega) ?_
    exact vx_ret (W.iret hx hb hr (fun t ht hW => w_end (res := .inr (v, S1)) hx1 hB3 (by rw [hB.2.2.1]; exact Nat.le_refl _) hu hug hS ht) hS.2.2 dL_segment_24 hlk)
  · subst hz
    have hk := hk _ rfl
    rcases hk with hk | hk
    · subst hk
      refine vx_catch (E := "java/lang/IndexOutOfBoundsException") (name := "java/lang/IndexOutOfBoundsException") hown [] ⟨0, 12, 15, 18⟩ [⟨0, 12, 19, 46⟩] (htab.trans rfl) (fun z hz => by cases hz) (by decide) (by decide) (hts _ (kw_m kcl_L_18)) (va_Nw.use rfl Z.1.2.1.2.1) hce hcv hcl ?_
      refine lv_astore (lv' := [(5, .ref q), (0, .ref this), (1, .int x1), (2, .int x2), (3, .int x3), (4, .ref u)]) hx hb dL_segment_15 hl (by decide) rfl (fun ls hl => ?_)
      refine lv_iconst (v := 1) hx hb dL_segment_17 (by decide) ?_
      refine W.widen (k := 2) (n := 12) (by omega) (by omega) ?_
      exact vx_ret (W.iret hx hb hr (fun t ht hW => w_end (res := .inl (1, S1)) hx1 hB2 hle hu hug hS ht) hS.2.2 dL_segment_18 hlk)
    · subst hk
      refine vx_catch (E := "java/util/NoSuchElementException") (name := "java/util/NoSuchElementException") hown [⟨0, 12, 15, 18⟩] ⟨0, 12, 19, 46⟩ [] (htab.trans rfl) (fun z hz => by cases List.mem_singleton.mp hz; exact Or.inr ⟨by decide, "java/lang/IndexOutOfBoundsException", hts _ (kw_m kcl_L_18), Z.2.2.1⟩) (by decide) (by decide) (hts _ (kw_m kcl_L_46)) (va_Nw.use rfl Z.1.2.1.2.2.1) hce hcv hcl ?_
      refine lv_astore (lv' := [(5, .ref q), (0, .ref this), (1, .int x1), (2, .int x2), (3, .int x3), (4, .ref u)]) hx hb dL_segment_19 hl (by decide) rfl (fun ls hl => ?_)
      refine lv_iconst (v := 2) hx hb dL_segment_21 (by decide) ?_
      refine W.widen (k := 2) (n := 12) (by omega) (by omega) ?_
      exact vx_ret (W.iret hx hb hr (fun t ht hW => w_end (res := .inl (3, S1)) hx1 hB2 hle hu hug hS ht) hS.2.2 dL_segment_22 hlk)
set_option maxHeartbeats 4000000 in
set_option maxRecDepth 100000 in
theorem wm_cache (l : Launch) (F : Nat) (hl0 : l.stackTraces = false) (D : va_G) (ct : ClassId × ClassId × ClassId) (cJ : ClassId) (b0 : Nat) (G : Gam) (S : Cst) (this u : Nat) (f : Nat → Int64) (x1 : Int32) (x2 : Int32) (x3 : Int32) (hk_this : ty G 6 this) (hb : ∀ a ∈ G.1, b0 ≤ a) (hbn : b0 ≤ nx S) (hbu : b0 ≤ u) (res : Thr Int32) (hf : cf_X6_cache F S this x1 x2 x3 = some res) (hk : ∀ w, res = .inl w → w.1 = 1 ∨ w.1 = 3) : lMet l yL_cache wq_L_cache { frames := 8, cells := 2, slots := 12, locals := 147 } D ct cJ G b0 [.ref this, .int x1, .int x2, .int x3, .ref u] S u f (tO f res) (wk2 res) res 2 12 := by
  refine lMet_of (own := RL) (cc := cL_cache) (maxL := 6) (ret := (some .int)) (hh := [(0, 12, 15, 18), (0, 12, 19, 46)]) hb hbn hbu (by decide) rfl rfl (Nat.le_of_ble_eq_true rfl) ?_
  intro p e s m below meth c X hr hlk htab Z ls A hl hB hA hAb hAu hu hug hS
  have hx := X.1.1
  have hb := X.1.2.1
  have hown := X.1.2.2.2.1
  have hts := X.1.2.2.2.2
  have hl : lv_has ls 6 [(0, .ref this), (1, .int x1), (2, .int x2), (3, .int x3), (4, .ref u)] := hl
  generalize hargs : ([.ref this, .int x1, .int x2, .int x3, .ref u] : List Value).toArray = args at X hts hS ⊢
  refine lv_aload hx hb dL_cache_0 (lv_at hl 4 rfl) ?_
  refine lv_iconst (v := 0) hx hb dL_cache_2 (by decide) ?_
  refine lv_aload_n hx hb dL_cache_3 rfl (lv_at hl 0 rfl) ?_
  refine lv_iload_n hx hb dL_cache_4 rfl (lv_at hl 1 rfl) ?_
  refine lv_iload_n hx hb dL_cache_5 rfl (lv_at hl 2 rfl) ?_
  refine lv_iload_n hx hb dL_cache_6 rfl (lv_at hl 3 rfl) ?_
  refine w_do hB hS hA hu hug (vx_runV (As := [.int x1, .int x2, .int x3]) (rest := [.int 0, .ref u]) X.1 (cm_X6_cache l F hl0 D ct b0 G S this x1 x2 x3 hk_this (fun a ha => hAb a (c_in hB ha)) (hAb _ (hA _ (by rw [← hB.2.2.1]; exact hS.1))) res hf) (cwV 3 hts (gd_V km_L_51 ki_X6_cache ks_X6_cache kin_RX6 kc_X6_cache) rfl rfl rfl (by decide +kernel) ⟨by decide, by decide⟩) (t_preV X Z.1 hB hS hAb hk_this rfl rfl) rfl rfl hl.1 rfl (lv_room (Nat.le_of_ble_eq_true rfl)) dL_cache_7 ⟨by decide, by decide⟩) (fun v S1 hz G1 H locs hx1 hB2 hu hug hS => ?_) (fun k S1 hz G1 H locs q ce hx1 hB2 hle hu hug hS hce hcv hcl => ?_)
  · subst hz
    refine W.eq (g2 := F0 m 10 ls [.int v, .int 0, .ref u]) rfl ?_
    refine lv_i2l (v := v.toInt64) hx hb dL_cache_10 rfl ?_
    refine w_last X Z.2.2.2 hB2 hS hu hug hAu dL_cache_11 (fun H locs hB hu hS => ?_)
    refine lv_goto (tgt := 23) hx hb dL_cache_12 (by decide) ?_
    refine lv_iconst (v := 0) hx hb dL_cache_23 (by decide) ?_
    have hB3 : cB D ct G1 A (sN S1 H.size) H := by rw [hB.2.2.1, sN_self]; exact hB
    refine W.widen (k := 2) (n := 12) (by omega) (by omega) ?_
    exact vx_ret (W.iret hx hb hr (fun t ht hW => w_end (res := .inr (v, S1)) hx1 hB3 (by rw [hB.2.2.1]; exact Nat.le_refl _) hu hug hS ht) hS.2.2 dL_cache_24 hlk)
  · subst hz
    have hk := hk _ rfl
    rcases hk with hk | hk
    · subst hk
      refine vx_catch (E := "java/lang/IndexOutOfBoundsException") (name := "java/lang/IndexOutOfBoundsException") hown [] ⟨0, 12, 15, 18⟩ [⟨0, 12, 19, 46⟩] (htab.trans rfl) (fun z hz => by cases hz) (by decide) (by decide) (hts _ (kw_m kcl_L_18)) (va_Nw.use rfl Z.1.2.1.2.1) hce hcv hcl ?_
      refine lv_astore (lv' := [(5, .ref q), (0, .ref this), (1, .int x1), (2, .int x2), (3, .int x3), (4, .ref u)]) hx hb dL_cache_15 hl (by decide) rfl (fun ls hl => ?_)
      refine lv_iconst (v := 1) hx hb dL_cache_17 (by decide) ?_
      refine W.widen (k := 2) (n := 12) (by omega) (by omega) ?_
      exact vx_ret (W.iret hx hb hr (fun t ht hW => w_end (res := .inl (1, S1)) hx1 hB2 hle hu hug hS ht) hS.2.2 dL_cache_18 hlk)
    · subst hk
      refine vx_catch (E := "java/util/NoSuchElementException") (name := "java/util/NoSuchElementException") hown [⟨0, 12, 15, 18⟩] ⟨0, 12, 19, 46⟩ [] (htab.trans rfl) (fun z hz => by cases List.mem_singleton.mp hz; exact Or.inr ⟨by decide, "java/lang/IndexOutOfBoundsException", hts _ (kw_m kcl_L_18), Z.2.2.1⟩) (by decide) (by decide) (hts _ (kw_m kcl_L_46)) (va_Nw.use rfl Z.1.2.1.2.2.1) hce hcv hcl ?_
      refine lv_astore (lv' := [(5, .ref q), (0, .ref this), (1, .int x1), (2, .int x2), (3, .int x3), (4, .ref u)]) hx hb dL_cache_19 hl (by decide) rfl (fun ls hl => ?_)
      refine lv_iconst (v := 2) hx hb dL_cache_21 (by decide) ?_
      refine W.widen (k := 2) (n := 12) (by omega) (by omega) ?_
      exact vx_ret (W.iret hx hb hr (fun t ht hW => w_end (res := .inl (3, S1)) hx1 hB2 hle hu hug hS ht) hS.2.2 dL_cache_22 hlk)
set_option maxHeartbeats 4000000 in
set_option maxRecDepth 100000 in
theorem wm_where (l : Launch) (F : Nat) (hl0 : l.stackTraces = false) (D : va_G) (ct : ClassId × ClassId × ClassId) (cJ : ClassId) (b0 : Nat) (G : Gam) (S : Cst) (this u : Nat) (f : Nat → Int64) (x1 : Int32) (x2 : Int32) (hk_this : ty G 6 this) (hb : ∀ a ∈ G.1, b0 ≤ a) (hbn : b0 ≤ nx S) (hbu : b0 ≤ u) (res : Thr Int32) (hf : cf_X6_where F S this x1 x2 = some res) (hk : ∀ w, res = .inl w → w.1 = 1) : lMet l yL_where wq_L_where { frames := 8, cells := 1, slots := 6, locals := 145 } D ct cJ G b0 [.ref this, .int x1, .int x2, .ref u] S u f (tO f res) (wk1 res) res 1 6 := by
  refine lMet_of (own := RL) (cc := cL_where) (maxL := 5) (ret := (some .int)) (hh := [(0, 10, 13, 18)]) hb hbn hbu (by decide) rfl rfl (Nat.le_of_ble_eq_true rfl) ?_
  intro p e s m below meth c X hr hlk htab Z ls A hl hB hA hAb hAu hu hug hS
  have hx := X.1.1
  have hb := X.1.2.1
  have hown := X.1.2.2.2.1
  have hts := X.1.2.2.2.2
  have hl : lv_has ls 5 [(0, .ref this), (1, .int x1), (2, .int x2), (3, .ref u)] := hl
  generalize hargs : ([.ref this, .int x1, .int x2, .ref u] : List Value).toArray = args at X hts hS ⊢
  refine lv_aload_n hx hb dL_where_0 rfl (lv_at hl 3 rfl) ?_
  refine lv_iconst (v := 0) hx hb dL_where_1 (by decide) ?_
  refine lv_aload_n hx hb dL_where_2 rfl (lv_at hl 0 rfl) ?_
  refine lv_iload_n hx hb dL_where_3 rfl (lv_at hl 1 rfl) ?_
  refine lv_iload_n hx hb dL_where_4 rfl (lv_at hl 2 rfl) ?_
  refine w_do hB hS hA hu hug (vx_runV (As := [.int x1, .int x2]) (rest := [.int 0, .ref u]) X.1 (cm_X6_where l F hl0 D ct b0 G S this x1 x2 hk_this (fun a ha => hAb a (c_in hB ha)) (hAb _ (hA _ (by rw [← hB.2.2.1]; exact hS.1))) res hf) (cwV 2 hts (gd_V km_L_54 ki_X6_where ks_X6_where kin_RX6 kc_X6_where) rfl rfl rfl (by decide +kernel) ⟨by decide, by decide⟩) (t_preV X Z.1 hB hS hAb hk_this rfl rfl) rfl rfl hl.1 rfl (lv_room (Nat.le_of_ble_eq_true rfl)) dL_where_5 ⟨by decide, by decide⟩) (fun v S1 hz G1 H locs hx1 hB2 hu hug hS => ?_) (fun k S1 hz G1 H locs q ce hx1 hB2 hle hu hug hS hce hcv hcl => ?_)
  · subst hz
    refine W.eq (g2 := F0 m 8 ls [.int v, .int 0, .ref u]) rfl ?_
    refine lv_i2l (v := v.toInt64) hx hb dL_where_8 rfl ?_
    refine w_last X Z.2.2.2 hB2 hS hu hug hAu dL_where_9 (fun H locs hB hu hS => ?_)
    refine lv_goto (tgt := 17) hx hb dL_where_10 (by decide) ?_
    refine lv_iconst (v := 0) hx hb dL_where_17 (by decide) ?_
    have hB3 : cB D ct G1 A (sN S1 H.size) H := by rw [hB.2.2.1, sN_self]; exact hB
    refine W.widen (k := 1) (n := 6) (by omega) (by omega) ?_
    exact vx_ret (W.iret hx hb hr (fun t ht hW => w_end (res := .inr (v, S1)) hx1 hB3 (by rw [hB.2.2.1]; exact Nat.le_refl _) hu hug hS ht) hS.2.2 dL_where_18 hlk)
  · subst hz
    have hk := hk _ rfl
    subst hk
    refine vx_catch (E := "java/lang/IndexOutOfBoundsException") (name := "java/lang/IndexOutOfBoundsException") hown [] ⟨0, 10, 13, 18⟩ [] (htab.trans rfl) (fun z hz => by cases hz) (by decide) (by decide) (hts _ (kw_m kcl_L_18)) (va_Nw.use rfl Z.1.2.1.2.1) hce hcv hcl ?_
    refine lv_astore (lv' := [(4, .ref q), (0, .ref this), (1, .int x1), (2, .int x2), (3, .ref u)]) hx hb dL_where_13 hl (by decide) rfl (fun ls hl => ?_)
    refine lv_iconst (v := 1) hx hb dL_where_15 (by decide) ?_
    refine W.widen (k := 1) (n := 6) (by omega) (by omega) ?_
    exact vx_ret (W.iret hx hb hr (fun t ht hW => w_end (res := .inl (1, S1)) hx1 hB2 hle hu hug hS ht) hS.2.2 dL_where_16 hlk)
