/-! ===== pure part: give back ===== -/
set_option maxHeartbeats 1000000 in
theorem jroomK {F : Nat} {P : Par} {S : Cst} {R : Rst} {M : Pil} {Q : Pad} {H : List (Nat × Int32)} {a i d : Nat} (b : Int32) (hF : 1000 ≤ F) (hR : uStR P R) (hp : uKp P S M Q) (hr : uKr P R M H) (hnm : ∀ z ∈ fl M a i, z ≠ -1) (hv : vd P a i) (hd : d < 2) :
    ∃ S' R' Q' l s dp, cf_X3_makeRoom F S (pdk P a i d) (some (Q a i 4).1) = some S' ∧ (uKp P S' (m3 M a i d l s dp) Q' ∧ uKr P R' (m3 M a i d l s dp) H) ∧ uPF S S' ∧ uCR R R' ∧ (∀ a' i', vd P a' i' → (fl (m3 M a i d l s dp) a' i').Perm (fl M a' i')) ∧ ((l.length < 3 ∧ rf_into F R (nI a) (nI i) (nI d) b = rf_into_164 F R' b (nI (4 * (9 * a + i) + 2 * d))) ∨ (l.length = 3 ∧ rf_into F R (nI a) (nI i) (nI d) b = some R')) := by
  have ha8 : a < 8 := by have := hR.1; have := hv.1; omega
  have hi8 : i ≤ 8 := (sl_num hR hv).2.2.2.2.2.2
  have hr' : uKr P R (m3 M a i d (M a i (2 * d)) (M a i (2 * d + 1)) (M a i 4)) H := by rw [m3_self]; exact hr
  obtain ⟨⟨l1, l2, l3⟩, ⟨s1, s2, s3⟩, D, d1, d2, d3, d4⟩ := uKr_gl hr' ha8 hi8 hd
  obtain ⟨k1, k2, k3⟩ := hp.2.1 a i d hv hd
  have pl := hp.2.2.1 a i (2 * d) hv (by omega)
  have ps := hp.2.2.1 a i (2 * d + 1) hv (by omega)
  have pd := hp.2.2.1 a i 4 hv (by omega)
  have hm : 4 * (9 * a + i) + 2 * d < rlen 28 := by show _ < 288; omega
  have hm1 : 4 * (9 * a + i) + 2 * d + 1 < rlen 28 := by show _ < 288; omega
  have hdd : 9 * a + i < rlen 30 := by show _ < 72; omega
  have mg : rf_magazine F R (nI a) (nI i) (nI d) 0 = some (nI (4 * (9 * a + i) + 2 * d)) := mag_ok (w := 0)
  unfold cf_X3_makeRoom rf_into
  simp only [st1]
  rw [k2, nnS, pl.2.2.1, mg, Option.bind_some, rd_n hm, l1]
  by_cases hl : (M a i (2 * d)).length < 3
  · rw [if_neg (show ¬ (3 : Int32) ≤ nI _ from nI_ge (b := 3) hl (by omega)), if_neg (fun z => by have := (eqL (K := 3) (k := 3) rfl (by omega) (by omega)).mp z; omega)]
    unfold rf_into_64
    rw [rd_n hm, l1, if_neg (fun z => by have := (eqL (K := 3) (k := 3) rfl (by omega) (by omega)).mp z; omega)]
    exact ⟨S, R, Q, M a i (2 * d), M a i (2 * d + 1), M a i 4, rfl, by rw [m3_self]; exact ⟨hp, hr⟩, uPF.rf, uCR.rf, by rw [m3_self]; exact fun _ _ _ => List.Perm.refl _, Or.inl ⟨hl, rfl⟩⟩
  · have hl3 : (M a i (2 * d)).length = 3 := by omega
    rw [hl3, if_pos (show (3 : Int32) ≤ nI 3 by decide), k3, nnS, ps.2.2.1, if_pos (show nI 3 = (3 : Int32) by decide), nI_1, rd_n hm1, s1]
    by_cases hs : M a i (2 * d + 1) = []
    · have hs0 : (M a i (2 * d + 1)).length = 0 := by rw [hs]; rfl
      rw [hs0, if_pos (show nI 0 ≤ 0 by decide), if_neg (show ¬ (3 : Int32) ≤ nI 0 by decide), wr_n hm1]
      unfold cf_X3_makeRoom_39
      simp only [st1]
      rw [k3, nnS, ps.2.2.1, hs0, if_pos (show nI 0 = 0 by decide)]
      obtain ⟨S', c1, c2, c3⟩ := cxch (F := F) hp hv hd
      have e : mxch M a i d = m3 M a i d [] (M a i (2 * d)) (M a i 4) := by
        have := m3_x (M := M) (a := a) (i := i) (l := M a i (2 * d)) (s := M a i (2 * d + 1)) (dp := M a i 4) hd
        rw [m3_self, hs] at this; exact this
      rw [e] at c2
      have hr2 : uKr P (rset R 28 (4 * (9 * a + i) + 2 * d + 1) 0) (m3 M a i d (M a i (2 * d)) [] (M a i 4)) H := by
        rw [hs] at hr'
        refine uKr_m3 hr' ha8 hv.1 hi8 hd ⟨by rw [rset_g, if_neg (by omega)]; exact l1, l2, by rw [rset_f (by decide)]; exact l3⟩ ⟨by rw [rset_g, if_pos ⟨rfl, rfl⟩]; rfl, Or.inl rfl, fun j z hj => by simp at hj⟩ ⟨D, d1, d2, by rw [rset_f (by decide)]; exact d3, by rw [rset_f (by decide)]; exact d4⟩ (fun k _ k2 => by rw [rset_g, if_neg (fun z => k2 z.2)]) (fun k _ => by rw [rset_f (by decide)]) (fun k _ => by rw [rset_f (by decide)]) (fun k _ => by rw [rset_f (by decide)]) ⟨rfl, rset_f (by decide), rset_f (by decide)⟩
      obtain ⟨R1, r1, r2, r3⟩ := rxch hF hr2 ha8 hv.1 hi8 hd (Or.inr hl3)
      rw [c1, r1, Option.bind_some, Option.bind_some]
      have pm := m3_pm (P := P) (M := M) (a := a) (i := i) (l := []) (s := M a i (2 * d)) (dp := M a i 4) hd (fun z => by rw [hs]; simp)
      refine ⟨S', R1, qxch Q a i d, [], M a i (2 * d), M a i 4, rfl, ?_, c3, (uCR_set (by decide) (by decide)).tr r3, pm, Or.inl ⟨by simp, rfl⟩⟩
      exact ⟨c2, r2⟩
    · have hs3 : (M a i (2 * d + 1)).length = 3 := by
        rcases s2 with q | q
        · exact absurd (List.eq_nil_of_length_eq_zero q) hs
        · exact q
      rw [hs3, if_neg (show ¬ nI 3 ≤ 0 by decide), if_pos (show (3 : Int32) ≤ nI 3 by decide), nnS, pd.2.2.1, d2]
      unfold rf_into_64
      rw [rd_n hm, l1, hl3, if_pos (show nI 3 = (3 : Int32) by decide), d9x, rd_n hdd, d3]
      by_cases hD4 : D = 4
      · subst hD4
        rw [if_pos (show (12 : Int32) ≤ nI (3 * 4) by decide), if_pos (show nI 4 = (4 : Int32) by decide)]
        unfold cf_X3_makeRoom_39
        simp only [st1]
        rw [k3, nnS, ps.2.2.1, hs3, if_neg (show ¬ nI 3 = 0 by decide)]
        exact ⟨S, R, Q, M a i (2 * d), M a i (2 * d + 1), M a i 4, rfl, by rw [m3_self]; exact ⟨hp, hr⟩, uPF.rf, uCR.rf, by rw [m3_self]; exact fun _ _ _ => List.Perm.refl _, Or.inr ⟨hl3, rfl⟩⟩
      · rw [if_neg (show ¬ (12 : Int32) ≤ nI (3 * D) from nI_ge (b := 12) (by omega) (by omega)), if_neg (fun z => by have := (eqL (K := 4) (k := 4) rfl (by omega) (by omega)).mp z; omega)]
        obtain ⟨u, v, w, e⟩ := ls3 hs3
        have nm : ∀ z, z ∈ [u, v, w] → z ≠ -1 := fun z hz => hnm z (fl_mem (k := 2 * d + 1) (by omega) (by rw [e]; exact hz))
        obtain ⟨S1, a1, a2, a3⟩ := mv3 (F := F) (k := 2 * d + 1) (k' := 4) (l := []) (u := u) (v := v) (w := w) hF hp hv (by omega) (by decide) (by omega) e (by simp) (by omega) (nm u (by simp)) (nm v (by simp)) (nm w (by simp))
        have e1 : mset (mset M a i (2 * d + 1) []) a i 4 (M a i 4 ++ [w, v, u]) = m3 M a i d (M a i (2 * d)) [] (M a i 4 ++ [w, v, u]) := by
          have q1 := m3_s (M := M) (a := a) (i := i) (d := d) (l := M a i (2 * d)) (s := M a i (2 * d + 1)) (s' := []) (dp := M a i 4)
          rw [m3_self] at q1
          rw [q1, m3_d hd]
        rw [e1] at a2
        obtain ⟨S', c1, c2, c3⟩ := cxch (F := F) a2 hv hd
        rw [m3_x hd] at c2
        rw [nnS, a1, Option.bind_some]
        unfold cf_X3_makeRoom_39
        simp only [st1]
        have k3' := (a2.2.1 a i d hv hd).2.2
        have ps' := a2.2.2.1 a i (2 * d + 1) hv (by omega)
        rw [m3_gs] at ps'
        rw [k3', nnS, ps'.2.2.1, if_pos (show nI ([] : List Int32).length = 0 by decide), c1, Option.bind_some]
        rw [e] at hr'
        obtain ⟨R1, r1, r2, r3⟩ := rspd (b := b) hF hr' ha8 hv.1 hi8 hd (by omega)
        obtain ⟨R2, t1, t2, t3⟩ := rxch hF r2 ha8 hv.1 hi8 hd (Or.inr hl3)
        rw [r1, t1, Option.bind_some]
        have pm := m3_pm (P := P) (M := M) (a := a) (i := i) (l := []) (s := M a i (2 * d)) (dp := M a i 4 ++ [w, v, u]) hd (fun z => by rw [e]; simp [List.count_cons]; omega)
        refine ⟨S', R2, qxch Q a i d, [], M a i (2 * d), M a i 4 ++ [w, v, u], rfl, ?_, a3.tr c3, r3.tr t3, pm, Or.inl ⟨by simp, rfl⟩⟩
        exact ⟨c2, t2⟩
theorem just_ok {F : Nat} {P : Par} {x : Nat} {S : Cst} {R : Rst} {L : List En} {M : Pil} {Q : Pad} {H : List (Nat × Int32)} {t a : Nat} {b w : Int32} {Z : Int64} (hF : 1000 ≤ F) (hA : uA P x S R L M Q H t) (ha : a < pn P) : (cf_X0_segmentFrom F S (par P a) b Z w = some none ∧ rf_just F R (nI a) b Z w = some (-1)) ∨ (∃ A e B, L = A ++ e :: B ∧ eA e = nI a ∧ eB e = b ∧ eO e = w ∧ cf_X0_segmentFrom F S (par P a) b Z w = some (some e.1) ∧ rf_just F R (nI a) b Z w = some (nI A.length)) := by
  have hG := hA.2.2.2.1
  have hRL := hG.2.2.1
  by_cases hex : ∃ e ∈ L, eA e = nI a ∧ eB e = b
  · obtain ⟨e, he, hea, rfl⟩ := hex
    obtain ⟨A, B, hL⟩ := List.append_of_mem he
    have hfd := hG.2.2.2.1.1 e he
    have hin : inR (eB e) e = true := by
      unfold inR
      have := uEl_sp (hG.1.1 e he)
      have e1 : eb e = (eB e).toInt := rfl
      simp; omega
    have hLs := hG.1
    rw [hL] at hRL hLs
    have hpos := pos_at hF hLs hRL
    rw [hea] at hpos
    obtain ⟨k1, k2, g1, g2, g3, g4, g5, g6, g7⟩ := uRL_g hRL (k := A.length) (e := e) get_mid
    unfold cf_X0_segmentFrom rf_just
    rw [hold_ok hF hG ha, find_in hG.1 he hea hin, Option.bind_some, Option.map_some, ncS, hfd.2.1, hfd.2.2.1, hfd.2.2.2.1, if_pos rfl, hpos, Option.bind_some, if_neg (wk_cons hRL), rd_n (f := 11) k2, g1, if_pos hea, rd_n (f := 12) k2, g2, if_pos rfl, rd_n (f := 13) k2, g3]
    by_cases hz : lg_cmp (eZ e).toInt64 Z = 0
    · rw [if_pos hz, if_pos hz, rd_n (f := 14) k2, g4]
      by_cases hw : eO e = w
      · rw [if_pos hw, if_pos hw]
        exact Or.inr ⟨A, e, B, hL, hea, rfl, hw, rfl, rfl⟩
      · rw [if_neg hw, if_neg hw]
        exact Or.inl ⟨rfl, rfl⟩
    · rw [if_neg hz, if_neg hz]
      exact Or.inl ⟨rfl, rfl⟩
  · left
    constructor
    · unfold cf_X0_segmentFrom
      rw [hold_ok hF hG ha, Option.bind_some]
      cases hf : (uOf a L).find? (inR b) with
      | none => rfl
      | some f =>
        have hm := uOf_mem.mp (List.mem_of_find?_eq_some hf)
        rw [Option.map_some, ncS, (hG.2.2.2.1.1 f hm.1).2.1, if_neg (fun z => hex ⟨f, hm.1, hm.2, z⟩)]
        rfl
    · obtain ⟨A, B, s1, s2, s3⟩ := split_p (p := uP (nI a) b.toInt64) L
      unfold rf_just
      rw [pos_ok hF hRL s1 s2 s3, Option.bind_some]
      cases B with
      | nil =>
        rw [List.append_nil] at s1
        rw [if_pos (wk_nil (by rw [← s1]; exact hRL))]
      | cons e B =>
        rw [s1] at hRL
        obtain ⟨k1, k2, g1, g2, g3, g4, g5, g6, g7⟩ := uRL_g hRL (k := A.length) (e := e) get_mid
        rw [if_neg (wk_cons hRL), rd_n (f := 11) k2, g1]
        by_cases h1 : eA e = nI a
        · rw [if_pos h1, rd_n (f := 12) k2, g2, if_neg (fun z => hex ⟨e, by rw [s1]; simp, h1, z⟩)]
        · rw [if_neg h1]
theorem jgive {F : Nat} {P : Par} {x : Nat} {S : Cst} {R : Rst} {A B : List En} {M : Pil} {Q : Pad} {H : List (Nat × Int32)} {t a : Nat} {e : En} (hF : 1000 ≤ F) (hA : uA P x S R (A ++ e :: B) M Q H t) (ha : a < pn P) (hea : eA e = nI a) (h2 : eO e ≠ 2) (h3 : eO e ≠ 3) (ht : t + 50000 < 2147483648) : ∃ S' R' L', cf_X6_release F S (some (par P a)) (some e.1) = some S' ∧ rf_gives F 9 R (nI a) (eB e) = some R' ∧ uA P x S' R' L' M Q H (t + 50000) := by
  have hG := hA.2.2.2.1
  have ha8 : a < 8 := by have := hA.1.1; omega
  obtain ⟨S', R', L', k1, k2, k3, k4, k5, k6, k7, k8⟩ := jrel (x := x) hF a (δ := 0) (d := 9) (n := F) hA.1 hA.2.1 hG ha hea (eC0 (hG.1.1 e (by simp)) h2) (nol hA.1.1 hG (by simp) ha hea h3) (by omega) (by omega) (by omega) (by omega)
  refine ⟨S', R', L', k1, k2, uA_mono (uA_F hA k3 k4 k5 k6 (fun f hf ho => ?_)) (by omega)⟩
  have := k8 f hf ho
  simp only [List.mem_append, List.mem_cons] at this ⊢
  rcases this with h | h
  · exact Or.inl h
  · exact Or.inr (Or.inr h)
theorem sim_giveWithin {n x : Nat} {S : Cst} {R : Rst} (F : Nat) (hF : 1000000 ≤ F) (x1 x2 x3 : Int32) (h : Sim (n + 1) x S R) : SimOp n x wk2 (fun k => k = 1 ∨ k = 2) (cf_X6_giveWithin F S x x1 x2 x3) (rf_giveWithin F R x1 x2 x3) := by
  have h0 := h
  obtain ⟨P, L, M, Q, H, t, hA, ht, hH⟩ := h
  obtain ⟨b1, b2, b3, b4, b5⟩ := bud ht
  clear ht
  have hFt : 1000 ≤ F := Nat.le_trans (by decide) hF
  have hR := hA.1
  have hS := hA.2.1
  unfold cf_X6_giveWithin rf_giveWithin
  rcases arena_ok (F := F) x1 hR hS with ⟨a, ha, rfl, c1, c2⟩ | ⟨c1, c2, _⟩
  · rw [c1, c2, Option.bind_some, Option.bind_some]
    simp only [tr, st2]
    rw [if_neg (show ¬ (1 : Int32) = 0 by decide)]
    have t37 : rf_giveWithin_37 F (rput R 0 0) (nI a) x2 0 = some (0, rput R 0 2) := by
      unfold rf_giveWithin_37
      rw [right_0 put0 (by decide), put00, Option.bind_some]
      simp only [st2]
      rw [if_pos trivial]
    by_cases h3 : x3 ≤ 0
    · rw [if_pos h3, if_pos h3]
      exact op_thr h0 (Or.inr rfl) rfl rfl t37
    · rw [if_neg h3, if_neg h3, nnS]
      obtain ⟨z, z1, z2, rfl⟩ := pos_nI h3
      rw [cround hR hS ha z1 z2, rround_ok hR ha z1 z2, Option.bind_some, Option.bind_some]
      unfold cf_X6_giveSegment
      simp only [nnS]
      rcases just_ok (b := x2) (w := 4) (Z := lN (rup P a z * 2 ^ psh P a)) hFt hA ha with ⟨j1, j2⟩ | ⟨A, e, B, e1, e2, e3, e4, j1, j2⟩
      · rw [j1, j2, Option.bind_some, Option.bind_some, ncN, if_pos rfl, Option.bind_some]
        simp only []
        rw [if_pos trivial]
        exact op_thr h0 (Or.inr rfl) rfl rfl t37
      · subst e1 e3
        have hlA : A.length < 600 := by
          have := hA.2.2.2.1.2.2.1.2.1
          simp at this; omega
        obtain ⟨S', R', L', k1, k2, k3⟩ := jgive hFt hA ha e2 (by rw [e4]; decide) (by rw [e4]; decide) b2
        rw [j1, j2, Option.bind_some, Option.bind_some, ncS, if_neg (nI_nm1 (by omega)), k1, Option.bind_some, Option.bind_some]
        simp only []
        rw [if_neg (show ¬ (1 : Int32) = 0 by decide)]
        refine op_ok (fun w => rfl) k3 b1 (by omega) rfl ?_
        unfold rf_giveWithin_37
        rw [right_1 put0, Option.bind_some]
        simp only [st2]
        rw [if_neg (show ¬ (1 : Int32) = 0 by decide), k2, Option.bind_some]
  · rw [c1, c2, Option.bind_some, Option.bind_some]
    simp only [tr, st2]
    rw [if_pos trivial]
    exact op_thr h0 (Or.inl rfl) rfl rfl rfl
/-! which slab, which object -/
theorem slabAt_lp {F : Nat} {P : Par} {S : Cst} {R : Rst} {L : List En} {t a : Nat} {num : Int32} (hG : uG P S R L t) : ∀ (B A : List En) (n : Nat), L = A ++ B → B.length < n → (∃ A1 e B1, L = A1 ++ e :: B1 ∧ eA e = nI a ∧ eO e = 2 ∧ inR num e = true ∧ rf_slabAt_2 F R n (nI a) num (nI A.length) = some (nI A1.length)) ∨ ((∀ e ∈ B, eA e = nI a → eO e = 2 → inR num e = false) ∧ rf_slabAt_2 F R n (nI a) num (nI A.length) = some (-1)) := by
  intro B
  induction B with
  | nil =>
    intro A n hL hn
    obtain ⟨n, rfl⟩ : ∃ m, n = m + 1 := ⟨n - 1, by simp at hn; omega⟩
    right
    rw [List.append_nil] at hL
    refine ⟨fun e he => (by cases he), ?_⟩
    simp only [rf_slabAt_2]
    rw [if_pos (wk_nil (by rw [← hL]; exact hG.2.2.1))]
  | cons e B ih =>
    intro A n hL hn
    obtain ⟨n, rfl⟩ : ∃ m, n = m + 1 := ⟨n - 1, by simp at hn; omega⟩
    have hRL := hG.2.2.1
    rw [hL] at hRL
    obtain ⟨k1, k2, g1, g2, g3, g4, g5, g6, g7⟩ := uRL_g hRL (k := A.length) (e := e) get_mid
    have hsp := uEl_sp (hG.1.1 e (by rw [hL]; simp))
    have e1 : eb e = (eB e).toInt := rfl
    have e2 : ez e = (eZ e).toInt := rfl
    have hsum : (eB e + eZ e).toInt = eb e + ez e := i32_add (by omega) (by omega)
    have hr := ih (A ++ [e]) n (by rw [hL]; simp) (by simp at hn; omega)
    have skip : (eA e = nI a → eO e = 2 → inR num e = false) → rf_slabAt_2 F R (n + 1) (nI a) num (nI A.length) = rf_slabAt_2 F R n (nI a) num (nI (A ++ [e]).length) → (∃ A1 e B1, L = A1 ++ e :: B1 ∧ eA e = nI a ∧ eO e = 2 ∧ inR num e = true ∧ rf_slabAt_2 F R (n + 1) (nI a) num (nI A.length) = some (nI A1.length)) ∨ ((∀ f ∈ e :: B, eA f = nI a → eO f = 2 → inR num f = false) ∧ rf_slabAt_2 F R (n + 1) (nI a) num (nI A.length) = some (-1)) := by
      intro h1 h2
      rw [h2]
      rcases hr with h | ⟨h3, h4⟩
      · exact Or.inl h
      · refine Or.inr ⟨fun f hf => ?_, h4⟩
        rcases List.mem_cons.mp hf with rfl | hf
        · exact h1
        · exact h3 f hf
    have st : rf_slabAt_2 F R (n + 1) (nI a) num (nI A.length) = (if eA e = nI a then (if eO e = 2 then (if num < eB e then rf_slabAt_2 F R n (nI a) num (nI (A ++ [e]).length) else if eB e + eZ e ≤ num then rf_slabAt_2 F R n (nI a) num (nI (A ++ [e]).length) else some (nI A.length)) else rf_slabAt_2 F R n (nI a) num (nI (A ++ [e]).length)) else rf_slabAt_2 F R n (nI a) num (nI (A ++ [e]).length)) := by
      simp only [rf_slabAt_2]
      rw [if_neg (wk_cons hRL), rd_n (f := 11) k2, g1, sn_len (e := e), rd_n (f := 14) k2, g4, rd_n (f := 12) k2, g2, rd_n (f := 12) k2, g2, rd_n (f := 13) k2, g3]
    by_cases h1 : eA e = nI a
    · by_cases h2 : eO e = 2
      · by_cases h3 : num < eB e
        · refine skip (fun _ _ => ?_) (by rw [st, if_pos h1, if_pos h2, if_pos h3])
          rw [Int32.lt_iff_toInt_lt] at h3
          unfold inR; simp; omega
        · by_cases h4 : eB e + eZ e ≤ num
          · refine skip (fun _ _ => ?_) (by rw [st, if_pos h1, if_pos h2, if_neg h3, if_pos h4])
            rw [Int32.le_iff_toInt_le, hsum] at h4
            unfold inR; simp; omega
          · left
            refine ⟨A, e, B, hL, h1, h2, ?_, by rw [st, if_pos h1, if_pos h2, if_neg h3, if_neg h4]⟩
            rw [Int32.lt_iff_toInt_lt] at h3
            rw [Int32.le_iff_toInt_le, hsum] at h4
            unfold inR; simp; omega
      · exact skip (fun _ q => absurd q h2) (by rw [st, if_pos h1, if_neg h2])
    · exact skip (fun q => absurd q h1) (by rw [st, if_neg h1])
theorem slabAt_ok {F : Nat} {P : Par} {S : Cst} {R : Rst} {L : List En} {t a : Nat} {num : Int32} (hF : 1000 ≤ F) (hG : uG P S R L t) : (∃ A e B, L = A ++ e :: B ∧ eA e = nI a ∧ eO e = 2 ∧ inR num e = true ∧ rf_slabAt F R (nI a) num = some (nI A.length)) ∨ ((∀ e ∈ L, eA e = nI a → eO e = 2 → inR num e = false) ∧ rf_slabAt F R (nI a) num = some (-1)) :=
  slabAt_lp hG L [] F rfl (by have := hG.2.2.1.2.1; omega)
/-- the object of any number in a slab -/
theorem objAt_g {F : Nat} {P : Par} {S : Cst} {R : Rst} {L : List En} {t a i : Nat} {e : En} {num : Int32} (hW : uW P S R L t) (h : isSl P L a i e) (hin : inR num e = true) : ∃ k, num = eB e + nI k ∧ k < 2097153 ∧ cf_X5_objectAt F S e.1 num = some (if k / osz P a i < onm P a i then nI (k / osz P a i) else -1) := by
  obtain ⟨hR, hG, w1, w2, w3⟩ := hW
  have hfd := hG.2.2.2.1.1 e h.2.1
  obtain ⟨n1, n2, n3, n4, n5, n6, n7⟩ := sl_num hR h.1
  obtain ⟨s1, s2⟩ := w1 a i e h
  obtain ⟨o1, o2⟩ := sl_ent hR hG.1 h
  have hp16 := pw16 (hR.2.2 a h.1.1).1
  have hz : slb (pch P a) * 2 ^ psh P a ≤ 32 * 65536 := Nat.mul_le_mul n4 hp16
  have hsp := uEl_sp (hG.1.1 e h.2.1)
  have e1 : eb e = (eB e).toInt := rfl
  unfold inR at hin
  simp at hin
  have hsub : (num - eB e).toInt = num.toInt - (eB e).toInt := i32_sub (by omega) (by omega)
  have hk : num - eB e = nI (num - eB e).toInt.toNat := i32_nn (by omega)
  obtain ⟨k, hkk⟩ : ∃ k, k = (num - eB e).toInt.toNat := ⟨_, rfl⟩
  rw [← hkk] at hk
  refine ⟨k, ?_, by omega, ?_⟩
  · rw [← hk]; grind
  · unfold cf_X5_objectAt
    rw [s1, s2, hfd.2.1, if_neg (nI_nle n5 (by omega)), if_pos (by rw [Int32.le_iff_toInt_le]; omega)]
    unfold dv
    rw [if_neg (nI_ne0 n5 (by omega)), hk]
    have hkb : k < 2097153 := by omega
    have hd : k / osz P a i ≤ k := Nat.div_le_self _ _
    rw [pk_div (by omega) n5 (by omega)]
    by_cases q : k / osz P a i < onm P a i
    · rw [if_neg (nI_ge q (by omega)), if_pos q]
    · rw [if_pos (nI_le (by omega) (by omega)), if_neg q]
theorem isHeld_y {F : Nat} {S : Cst} {p j : Nat} (hj : j < 32) (h : bt (gI S 91 p) j = true) : cf_X5_isHeld F S p (nI j) = some 1 := by
  unfold cf_X5_isHeld
  rw [if_neg (nI_pos (by omega)), if_pos ((b_tst hj).mpr h)]
theorem isHeld_n {F : Nat} {S : Cst} {p j : Nat} (hj : j < 32) (h : ¬ bt (gI S 91 p) j = true) : cf_X5_isHeld F S p (nI j) = some 0 := by
  unfold cf_X5_isHeld
  rw [if_neg (nI_pos (by omega)), if_neg (fun z => h ((b_tst hj).mp z))]
theorem isHeld_m {F : Nat} {S : Cst} {p : Nat} : cf_X5_isHeld F S p (-1) = some 0 := by
  unfold cf_X5_isHeld
  rw [if_pos (by decide)]
theorem hAt_lp {F : Nat} {P : Par} {R : Rst} {M : Pil} {H : List (Nat × Int32)} {a : Nat} {b : Int32} (h : uKr P R M H) (h8 : ∀ p ∈ H, p.1 < 8) (ha : a < 8) : ∀ (B A : List (Nat × Int32)) (n : Nat), H = A ++ B → (a, b) ∉ A → B.length < n → (∃ A1 B1, H = A1 ++ (a, b) :: B1 ∧ rf_heldAt_51 F R n (nI a) b (nI A.length) = some (nI A1.length)) ∨ ((a, b) ∉ H ∧ rf_heldAt_51 F R n (nI a) b (nI A.length) = some (-1)) := by
  intro B
  induction B with
  | nil =>
    intro A n hH hA hn
    obtain ⟨n, rfl⟩ : ∃ m, n = m + 1 := ⟨n - 1, by simp at hn; omega⟩
    right
    rw [List.append_nil] at hH
    refine ⟨by rw [hH]; exact hA, ?_⟩
    simp only [rf_heldAt_51]
    rw [h.2.2.2.2.1, hH, if_pos (nI_le (Nat.le_refl _) (by have := h.2.2.2.2.2.1; rw [hH] at this; omega))]
  | cons p B ih =>
    intro A n hH hA hn
    obtain ⟨n, rfl⟩ : ∃ m, n = m + 1 := ⟨n - 1, by simp at hn; omega⟩
    have h512 := h.2.2.2.2.2.1
    have hl : A.length < H.length := by rw [hH]; simp
    obtain ⟨g1, g2⟩ := h.2.2.2.2.2.2 A.length p.1 p.2 (by rw [hH]; simp)
    have hk : A.length < 40000 := by omega
    have hp8 := h8 p (by rw [hH]; simp)
    have e1 : nI (A ++ [p]).length = nI A.length + 1 := by rw [nI_1]; simp
    by_cases c : p = (a, b)
    · left
      refine ⟨A, B, by rw [hH, c], ?_⟩
      simp only [rf_heldAt_51]
      rw [h.2.2.2.2.1, if_neg (nI_ge hl (by omega)), rd_n (f := 26) hk, rd_n (f := 27) hk, g1, g2, c, if_pos rfl, if_pos rfl]
    · have hr := ih (A ++ [p]) n (by rw [hH]; simp) (by simp; exact ⟨hA, fun z => c z.symm⟩) (by simp at hn; omega)
      rw [e1] at hr
      have st : rf_heldAt_51 F R (n + 1) (nI a) b (nI A.length) = rf_heldAt_51 F R n (nI a) b (nI A.length + 1) := by
        simp only [rf_heldAt_51]
        rw [h.2.2.2.2.1, if_neg (nI_ge hl (by omega)), rd_n (f := 26) hk, rd_n (f := 27) hk, g1, g2]
        by_cases c1 : p.1 = a
        · rw [if_pos (by rw [c1]), if_neg (fun z => c (Prod.ext c1 z))]
        · rw [if_neg (fun z => c1 ((nI_eq (by omega) (by omega)).mp z))]
      rw [st]; exact hr
