/-! ===== pure part: the calls give, where ===== -/
set_option maxHeartbeats 1000000 in
theorem sim_give {n x : Nat} {S : Cst} {R : Rst} (F : Nat) (hF : 1000000 ≤ F) (x1 x2 x3 x4 : Int32) (h : Sim (n + 1) x S R) : SimOp n x wk2 (fun k => k = 1 ∨ k = 2) (cf_X6_give F S x x1 x2 x3 x4) (rf_give F R x1 x2 x3 x4) := by
  have h0 := h
  obtain ⟨P, L, M, Q, H, t, hA, ht, hH⟩ := h
  obtain ⟨b1, b2, b3, b4, b5⟩ := bud ht
  clear ht
  have hFt : 1000 ≤ F := Nat.le_trans (by decide) hF
  have hR := hA.1
  have hS := hA.2.1
  unfold cf_X6_give rf_give
  rcases arena_ok (F := F) x1 hR hS with ⟨a, ha, rfl, c1, c2⟩ | ⟨c1, c2, _⟩
  · rw [c1, c2, Option.bind_some, Option.bind_some]
    simp only [tr, st2]
    rw [if_neg (show ¬ (1 : Int32) = 0 by decide)]
    have t31 : ∀ x3 x4, rf_give_31 F (rput R 0 0) (nI a) x2 x3 x4 0 = some (0, rput R 0 2) := by
      intro x3 x4
      unfold rf_give_31
      rw [right_0 put0 (by decide), put00, Option.bind_some]
      simp only [st2]
      rw [if_pos trivial]
    by_cases h3 : x3 ≤ 0
    · rw [if_pos h3, if_pos h3]
      exact op_thr h0 (Or.inr rfl) rfl rfl (t31 _ _)
    · rw [if_neg h3, if_neg h3]
      rcases desk_ok (F := F) (S := S) x4 with ⟨d, hd, rfl, d1⟩ | ⟨d1, d2, d3⟩
      · rw [d1, Option.bind_some, if_neg (show ¬ (1 : Int32) = 0 by decide), nnS]
        have hd01 : (if nI d = 0 then rf_give_31 F (rput R 0 0) (nI a) x2 x3 (nI d) 1 else if nI d = 1 then rf_give_31 F (rput R 0 0) (nI a) x2 x3 (nI d) 1 else rf_give_31 F (rput R 0 0) (nI a) x2 x3 (nI d) 0) = rf_give_31 F (rput R 0 0) (nI a) x2 x3 (nI d) 1 := by
          rcases (by omega : d = 0 ∨ d = 1) with rfl | rfl
          · rw [if_pos (by decide)]
          · rw [if_neg (by decide), if_pos (by decide)]
        rw [hd01]
        unfold rf_give_31
        rw [right_1 put0, Option.bind_some]
        simp only [st2]
        rw [if_neg (show ¬ (1 : Int32) = 0 by decide)]
        obtain ⟨z, z1, z2, rfl⟩ := pos_nI h3
        obtain ⟨u1, u2, u3⟩ := rup_ok (a := a) hR ha z1
        have hp16 := pw16 (hR.2.2 a ha).1
        have ha8 : a < 8 := by have := hR.1; omega
        rw [cround hR hS ha z1 z2, rround_ok hR ha z1 z2, Option.bind_some, Option.bind_some, cfor_ok hR hS ha u1 (by omega), Option.bind_some, rd_n (f := 4) (show a < rlen 4 from ha8), rd_n (f := 2) (show a < rlen 2 from ha8), (hR.2.2 a ha).2.2.2.1, (hR.2.2 a ha).2.2.1]
        obtain ⟨r1, r2, r3⟩ := rfor_ok (m := rup P a z) hR ha (by omega)
        by_cases hm : rup P a z ≤ pch P a
        · rw [if_pos hm, if_pos (r1.mpr hm), ncS, rd_n (f := 2) (show a < rlen 2 from ha8), (hR.2.2 a ha).2.2.1, r2]
          unfold dvl
          rw [if_neg r3]
          have hv : vd P a (rup P a z) := ⟨ha, u1, hm⟩
          rcases heldAt_ok (b := x2) hFt hA hv with ⟨w1, A1, B1, w2, w3⟩ | ⟨w1, w2⟩
          · obtain ⟨S', R', M', Q', H', o1, o2, o3, o4⟩ := jgobj hFt hA hv hd w1 w2
            have hlA : A1.length < H.length := by rw [w2]; simp
            have hH512 := hA.2.2.2.2.2.2.2.2.2.2.1
            have h25 : (rput R 0 0).1 25 = nI H.length := hA.2.2.2.2.2.2.2.2.2.1
            rw [o1, w3, Option.bind_some, Option.bind_some, if_neg (nI_nm1 (by omega))]
            refine op_ok (fun w => rfl) o3 b5 (by omega) (r := 0) (by unfold cf_X6_give_73; rw [if_neg (show ¬ (1 : Int32) = 0 by decide)]) ?_
            unfold rf_give_138
            rw [right_1 put0, Option.bind_some]
            simp only [st2, st1]
            rw [if_neg (show ¬ (1 : Int32) = 0 by decide), h25]
            obtain ⟨k, hk⟩ : ∃ k, H.length = k + 1 := ⟨H.length - 1, by omega⟩
            rw [hk] at o2
            rw [Nat.add_sub_cancel] at o2
            rw [hk, nI_pred]
            have e25 : (rput (rput R 0 0) 25 (nI k)).1 25 = nI k := by rw [rput_g, if_pos rfl]
            rw [e25, rd_n (f := 26) (show k < rlen 26 by show k < 40000; omega), wr_n (f := 26) (show A1.length < rlen 26 by show _ < 40000; omega), rset_1, e25, rd_n (f := 27) (show k < rlen 27 by show k < 40000; omega), wr_n (f := 27) (show A1.length < rlen 27 by show _ < 40000; omega), rset_f (by decide)]
            have o2' : rf_into F (rset (rset (rput (rput R 0 0) 25 (nI k)) 26 A1.length ((rput (rput R 0 0) 25 (nI k)).2 26 k)) 27 A1.length ((rput (rput R 0 0) 25 (nI k)).2 27 k)) (nI a) (nI (rup P a z)) (nI d) x2 = some R' := o2
            rw [o2', Option.bind_some]
          · rw [gobj_n hFt hA hv w1, w2, Option.bind_some, Option.bind_some, if_pos rfl]
            refine op_thr (v := 2) h0 (Or.inr rfl) rfl (by unfold cf_X6_give_73; rw [if_pos rfl]) (r := 0) ?_
            unfold rf_give_138
            rw [right_0 put0 (by decide), put00, Option.bind_some]
            simp only [st2]
            rw [if_pos trivial]
        · rw [if_neg hm, if_neg (fun q => hm (r1.mp q)), ncN]
          unfold cf_X6_giveSegment
          simp only [nnS]
          rcases just_ok (b := x2) (w := 1) (Z := lN (rup P a z * 2 ^ psh P a)) hFt hA ha with ⟨j1, j2⟩ | ⟨A, e, B, e1, e2, e3, e4, j1, j2⟩
          · rw [j1, j2, Option.bind_some, Option.bind_some, ncN, if_pos rfl, Option.bind_some]
            refine op_thr (v := 2) h0 (Or.inr rfl) rfl (by unfold cf_X6_give_73; rw [if_pos rfl]) (r := 0) ?_
            unfold rf_give_88
            rw [right_0 put0 (by decide), put00, Option.bind_some]
            simp only [st2]
            rw [if_pos trivial]
          · subst e1 e3
            have hlA : A.length < 600 := by
              have := hA.2.2.2.1.2.2.1.2.1
              simp at this; omega
            obtain ⟨S', R', L', k1, k2, k3⟩ := jgive hFt hA ha e2 (by rw [e4]; decide) (by rw [e4]; decide) b2
            rw [j1, j2, Option.bind_some, Option.bind_some, ncS, if_neg (nI_nm1 (by omega)), k1, Option.bind_some, Option.bind_some]
            refine op_ok (fun w => rfl) k3 b1 (by omega) (r := 0) (by unfold cf_X6_give_73; rw [if_neg (show ¬ (1 : Int32) = 0 by decide)]) ?_
            unfold rf_give_88
            rw [right_1 put0, Option.bind_some]
            simp only [st2]
            rw [if_neg (show ¬ (1 : Int32) = 0 by decide), k2, Option.bind_some]
      · rw [d3, Option.bind_some, if_pos rfl, if_neg d1, if_neg d2]
        exact op_thr h0 (Or.inr rfl) rfl rfl (t31 _ _)
  · rw [c1, c2, Option.bind_some, Option.bind_some]
    simp only [tr, st2]
    rw [if_pos trivial]
    exact op_thr h0 (Or.inl rfl) rfl rfl rfl
/-! where -/
theorem where_lp {F : Nat} {P : Par} {S : Cst} {R : Rst} {L : List En} {t a : Nat} {num : Int32} (hG : uG P S R L t) : ∀ (B A : List En) (n : Nat), L = A ++ B → (∀ f ∈ A, eA f = nI a → inR num f = false) → B.length < n → (∃ A1 e B1 m, L = A1 ++ e :: B1 ∧ eA e = nI a ∧ inR num e = true ∧ rf_where_12 F n R (nI a) num (nI A.length) = rf_where_12 F (m + 1) R (nI a) num (nI A1.length)) ∨ ((∀ e ∈ L, eA e = nI a → inR num e = false) ∧ rf_where_12 F n R (nI a) num (nI A.length) = some (-1, R)) := by
  intro B
  induction B with
  | nil =>
    intro A n hL hA hn
    obtain ⟨n, rfl⟩ : ∃ m, n = m + 1 := ⟨n - 1, by simp at hn; omega⟩
    right
    rw [List.append_nil] at hL
    refine ⟨fun e he => hA e (by rw [← hL]; exact he), ?_⟩
    simp only [rf_where_12]
    rw [if_pos (wk_nil (by rw [← hL]; exact hG.2.2.1))]
  | cons e B ih =>
    intro A n hL hA hn
    obtain ⟨n, rfl⟩ : ∃ m, n = m + 1 := ⟨n - 1, by simp at hn; omega⟩
    have hRL := hG.2.2.1
    rw [hL] at hRL
    obtain ⟨k1, k2, g1, g2, g3, g4, g5, g6, g7⟩ := uRL_g hRL (k := A.length) (e := e) get_mid
    have hsp := uEl_sp (hG.1.1 e (by rw [hL]; simp))
    have e1 : eb e = (eB e).toInt := rfl
    have e2 : ez e = (eZ e).toInt := rfl
    have hsum : (eB e + eZ e).toInt = eb e + ez e := i32_add (by omega) (by omega)
    have skip : (eA e = nI a → inR num e = false) → rf_where_12 F (n + 1) R (nI a) num (nI A.length) = rf_where_12 F n R (nI a) num (nI A.length + 1) → (∃ A1 e B1 m, L = A1 ++ e :: B1 ∧ eA e = nI a ∧ inR num e = true ∧ rf_where_12 F (n + 1) R (nI a) num (nI A.length) = rf_where_12 F (m + 1) R (nI a) num (nI A1.length)) ∨ ((∀ e ∈ L, eA e = nI a → inR num e = false) ∧ rf_where_12 F (n + 1) R (nI a) num (nI A.length) = some (-1, R)) := by
      intro h1 h2
      rw [h2, sn_len (e := e)]
      refine ih (A ++ [e]) n (by rw [hL]; simp) (fun f hf => ?_) (by simp at hn; omega)
      rcases List.mem_append.mp hf with hf | hf
      · exact hA f hf
      · simp at hf; subst hf; exact h1
    by_cases h1 : eA e = nI a
    · by_cases h3 : num < eB e
      · refine skip (fun _ => ?_) ?_
        · rw [Int32.lt_iff_toInt_lt] at h3
          unfold inR; simp; omega
        · simp only [rf_where_12]
          rw [if_neg (wk_cons hRL), rd_n (f := 11) k2, g1, if_pos h1, rd_n (f := 12) k2, g2, if_pos h3]
      · by_cases h4 : num < eB e + eZ e
        · left
          refine ⟨A, e, B, n, hL, h1, ?_, rfl⟩
          rw [Int32.lt_iff_toInt_lt] at h3
          rw [Int32.lt_iff_toInt_lt, hsum] at h4
          unfold inR; simp; omega
        · refine skip (fun _ => ?_) ?_
          · rw [Int32.lt_iff_toInt_lt, hsum] at h4
            unfold inR; simp; omega
          · simp only [rf_where_12]
            rw [if_neg (wk_cons hRL), rd_n (f := 11) k2, g1, if_pos h1, rd_n (f := 12) k2, g2, if_neg h3, rd_n (f := 12) k2, rd_n (f := 13) k2, g2, g3, if_neg h4]
    · refine skip (fun q => absurd q h1) ?_
      simp only [rf_where_12]
      rw [if_neg (wk_cons hRL), rd_n (f := 11) k2, g1, if_neg h1]
set_option maxHeartbeats 1000000 in
theorem sim_where {n x : Nat} {S : Cst} {R : Rst} (F : Nat) (hF : 1000000 ≤ F) (x1 x2 : Int32) (h : Sim (n + 1) x S R) : SimOp n x wk1 (fun k => k = 1) (cf_X6_where F S x x1 x2) (rf_where F R x1 x2) := by
  have h0 := h
  obtain ⟨P, L, M, Q, H, t, hA, ht, hH⟩ := h
  obtain ⟨b1, b2, b3, b4, b5⟩ := bud ht
  clear ht
  have hFt : 1000 ≤ F := Nat.le_trans (by decide) hF
  have hR := hA.1
  have hS := hA.2.1
  have hG := hA.2.2.2.1
  have hK := hA.2.2.2.2.1
  have hr := hA.2.2.2.2.2
  have h8 := H8 hR hK.2.2
  unfold cf_X6_where rf_where
  rcases arena_ok (F := F) x1 hR hS with ⟨a, ha, rfl, c1, c2⟩ | ⟨c1, c2, _⟩
  · rw [c1, c2, Option.bind_some, Option.bind_some]
    simp only [tr, st2]
    rw [if_neg (show ¬ (1 : Int32) = 0 by decide), nnS, hold_ok hFt hG ha, Option.bind_some]
    have ha8 : a < 8 := by have := hR.1; omega
    have hw := where_lp (F := F) (a := a) (num := x2) hG L [] F rfl (fun f hf => (by cases hf)) (by have := hG.2.2.1.2.1; omega)
    have e0 : nI ([] : List En).length = 0 := rfl
    rw [e0] at hw
    rcases hw with ⟨A, e, B, m, hL, hea, hin, hw⟩ | ⟨hno, hw⟩
    · have he : e ∈ L := by rw [hL]; simp
      have hfd := hG.2.2.2.1.1 e he
      have hRL := hG.2.2.1
      rw [hL] at hRL
      obtain ⟨k1, k2, g1, g2, g3, g4, g5, g6, g7⟩ := uRL_g hRL (k := A.length) (e := e) get_mid
      have hsp := uEl_sp (hG.1.1 e he)
      have e1 : eb e = (eB e).toInt := rfl
      have e2 : ez e = (eZ e).toInt := rfl
      have hsum : (eB e + eZ e).toInt = eb e + ez e := i32_add (by omega) (by omega)
      have hin0 := hin
      unfold inR at hin0
      simp at hin0
      have n1 : ¬ x2 < eB e := by rw [Int32.lt_iff_toInt_lt]; omega
      have n2 : x2 < eB e + eZ e := by rw [Int32.lt_iff_toInt_lt, hsum]; omega
      rw [find_in hG.1 he hea hin, Option.map_some, ncS, hfd.2.2.2.1, hw]
      simp only [rf_where_12]
      rw [if_neg (wk_cons hRL), rd_n (f := 11) k2, g1, if_pos hea, rd_n (f := 12) k2, g2, if_neg n1, rd_n (f := 12) k2, rd_n (f := 13) k2, g2, g3, if_pos n2, rd_n (f := 14) k2, g4]
      by_cases ho : eO e = 2
      · rw [if_pos ho, if_pos ho]
        obtain ⟨i, hsl⟩ := sl_of hR hG.1 he ha hea (hK.2.2.2.2.2.2.2 e he ho)
        have hn := sl_num hR hsl.1
        obtain ⟨k, kb, kl, ko⟩ := objAt_g (F := F) hA.w hsl hin
        have hsub : x2 - eB e = nI k := by rw [kb]; grind
        rw [rd_n (f := 17) k2, g7, hsl.2.2.2, rd_n (f := 2) (show a < rlen 2 from ha8), (hR.2.2 a ha).2.2.1, rd_n (f := 12) k2, rd_n (f := 12) k2, g2, pk_mul, hsub]
        have ho0 : 0 < i * 2 ^ psh P a := hn.2.2.2.2.1
        have ho1 : i * 2 ^ psh P a ≤ 524288 := hn.2.2.2.2.2.1
        unfold dv
        have hkd : k / (i * 2 ^ psh P a) ≤ k := Nat.div_le_self _ _
        rw [if_neg (nI_ne0 ho0 (by omega)), pk_div (by omega) ho0 (by omega), pk_mul]
        have hob : eB e + nI (k / (i * 2 ^ psh P a) * (i * 2 ^ psh P a)) = ob P a i e (k / osz P a i) := rfl
        rw [hob, held_ok hFt hr h8 ha8, Option.bind_some, ko, Option.bind_some]
        have hbit := (hK.2.1 a i e hsl).2.2.1
        by_cases hq : k / osz P a i < onm P a i
        · rw [if_pos hq]
          by_cases hh : (a, ob P a i e (k / osz P a i)) ∈ H
          · rw [isHeld_y (by omega) ((hbit _ (by omega)).mpr ⟨hq, hh⟩), Option.bind_some, if_neg (show ¬ (1 : Int32) = 0 by decide), if_pos hh, if_neg (show ¬ (1 : Int32) = 0 by decide)]
            exact op_ok (fun w => rfl) hA b5 (by omega) rfl rfl
          · rw [isHeld_n (by omega) (fun z => hh ((hbit _ (by omega)).mp z).2), Option.bind_some, if_pos rfl, if_neg hh, if_pos rfl, ho]
            exact op_ok (fun w => rfl) hA b5 (by omega) rfl rfl
        · rw [if_neg hq, isHeld_m, Option.bind_some, if_pos rfl, ho]
          have hh : (a, ob P a i e (k / osz P a i)) ∉ H := by
            intro hm
            obtain ⟨i2, e2', j2, w1, w2, w3⟩ := hK.2.2.1 a _ hm
            have h5 := ob_in hR hG.1 w1 w2
            rw [← w3] at h5
            unfold inR at h5
            simp at h5
            have hle : k / osz P a i * osz P a i ≤ k := Nat.div_mul_le_self _ _
            have hobi : (ob P a i e (k / osz P a i)).toInt = eb e + ((k / osz P a i * osz P a i : Nat) : Int) := by
              unfold ob
              rw [i32_add (by rw [nI_toInt (by omega)]; omega) (by rw [nI_toInt (by omega)]; omega), nI_toInt (by omega)]
              rfl
            have hkz : (k : Int) < ez e := by
              have := congrArg Int32.toInt hsub
              rw [i32_sub (by omega) (by omega), nI_toInt (by omega)] at this
              omega
            have : e2' = e := uLs_uq hG.1 w1.2.1 he (w1.2.2.1.trans hea.symm) (by omega) (by omega)
            subst this
            have hi2 : i2 = i := by
              have z1 := (sl_num hR w1.1).2.2.2.2.2.2
              exact (nI_eq (by omega) (by omega)).mp (w1.2.2.2.symm.trans hsl.2.2.2)
            subst hi2
            have hj := (ob_ok hR hG.1 w1 w2).1
            rw [← w3, hobi] at hj
            have : k / osz P a i2 * osz P a i2 = j2 * osz P a i2 := by omega
            have := Nat.eq_of_mul_eq_mul_right hn.2.2.2.2.1 this
            omega
          rw [if_neg hh, if_pos rfl]
          exact op_ok (fun w => rfl) hA b5 (by omega) rfl rfl
      · rw [if_neg ho, if_neg ho, rd_n (f := 14) k2, g4]
        exact op_ok (fun w => rfl) hA b5 (by omega) rfl rfl
    · have hf : (uOf a L).find? (inR x2) = none := by
        rw [List.find?_eq_none]
        intro f hf
        rw [hno f (uOf_mem.mp hf).1 (uOf_mem.mp hf).2]; decide
      rw [hf, hw]
      exact op_ok (fun w => rfl) hA b5 (by omega) rfl rfl
  · rw [c1, c2, Option.bind_some, Option.bind_some]
    simp only [tr, st2]
    rw [if_pos trivial]
    exact op_thr h0 rfl rfl rfl rfl
