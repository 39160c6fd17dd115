/-! ===== pure part: OUT and INTO at a desk ===== -/
theorem uA_P {P : Par} {x : Nat} {S S' : Cst} {R R' : Rst} {L : List En} {M M' : Pil} {Q Q' : Pad} {H : List (Nat × Int32)} {t : Nat} (h : uA P x S R L M Q H t) (g : uPF S S') (k : uCR R R') (hp : uKp P S' M' Q') (hr : uKr P R' M' H) (hm : ∀ a i, vd P a i → (fl M' a i).Perm (fl M a i)) : uA P x S' R' L M' Q' H t := by
  refine uA_C h g.c k ⟨hp, ?_, uKo_perm h.2.2.2.2.1.2.2 hm⟩ hr
  exact uKs_same h.2.2.2.2.1.2.1 (fun f p h1 h2 => g.2.1 f p (by omega)) (fun _ => Iff.rfl) (fun a i v hv => (hm a i hv).mem_iff)
theorem fl_nm1 {P : Par} {x : Nat} {S : Cst} {R : Rst} {L : List En} {M : Pil} {Q : Pad} {H : List (Nat × Int32)} {t a i : Nat} {b : Int32} (h : uA P x S R L M Q H t) (hv : vd P a i) (hb : b ∈ fl M a i) : b ≠ -1 := by
  obtain ⟨e, j, h1, h2, h3⟩ := h.2.2.2.2.1.2.2.2.1 a i b hv hb
  rw [h3]
  exact ob_nm1 h.1 h.2.2.2.1.1 h1 h2
theorem fl_mem {M : Pil} {a i k : Nat} {b : Int32} (hk : k < 5) (hb : b ∈ M a i k) : b ∈ fl M a i := by
  unfold fl
  simp only [List.mem_append]
  rcases (by omega : k = 0 ∨ k = 1 ∨ k = 2 ∨ k = 3 ∨ k = 4) with rfl | rfl | rfl | rfl | rfl <;> simp [hb]
theorem m3_pm {M : Pil} {a i d : Nat} {P : Par} {l s dp : List Int32} (hd : d < 2) (h : ∀ v, List.count v l + List.count v s + List.count v dp = List.count v (M a i (2 * d)) + List.count v (M a i (2 * d + 1)) + List.count v (M a i 4)) : ∀ a' i', vd P a' i' → (fl (m3 M a i d l s dp) a' i').Perm (fl M a' i') := by
  intro a' i' _
  by_cases c : a' = a ∧ i' = i
  · obtain ⟨rfl, rfl⟩ := c
    have := m3_perm (M := M) (a := a') (i := i') (d := d) (l' := l) (s' := s) (dp' := dp) hd h
    rw [m3_self] at this; exact this
  · rw [m3_fl c]
theorem cxch {F : Nat} {P : Par} {S : Cst} {M : Pil} {Q : Pad} {a i d : Nat} (h : uKp P S M Q) (hv : vd P a i) (hd : d < 2) : ∃ S', cf_X3_exchange F S (pdk P a i d) = some S' ∧ uKp P S' (mxch M a i d) (qxch Q a i d) ∧ uPF S S' := by
  obtain ⟨q1, q2, q3⟩ := h.2.1 a i d hv hd
  refine ⟨_, ?_, uKp_xch h hv hd, ⟨rfl, fun _ _ _ => rfl, fun f p f1 f2 => ?_, rfl, rfl⟩⟩
  · unfold cf_X3_exchange
    simp only [st1]
    rw [q2, q3]
  · rw [gP_sP, if_neg (fun z => f2 z.1), gP_sP, if_neg (fun z => f1 z.1)]
theorem ls3 {s : List Int32} (h : s.length = 3) : ∃ u v w, s = [u, v, w] := by
  match s, h with
  | [u, v, w], _ => exact ⟨u, v, w, rfl⟩
theorem ls3e {s : List Int32} {D : Nat} (h : s.length = 3 * (D + 1)) : ∃ l u v w, s = l ++ [u, v, w] ∧ l.length = 3 * D := by
  refine ⟨s.take (3 * D), ?_⟩
  have h1 : (s.drop (3 * D)).length = 3 := by simp; omega
  obtain ⟨u, v, w, e⟩ := ls3 h1
  exact ⟨u, v, w, by rw [← e]; simp, by simp; omega⟩
set_option maxHeartbeats 1000000 in
theorem jload {F : Nat} {P : Par} {x : Nat} {S : Cst} {R : Rst} {L : List En} {M : Pil} {Q : Pad} {H : List (Nat × Int32)} {t a i d : Nat} (hF : 1000 ≤ F) (hA : uA P x S R L M Q H t) (hv : vd P a i) (hd : d < 2) :
    ∃ S' R' Q' l s dp, cf_X3_load F S (pdk P a i d) (some (Q a i 4).1) = some S' ∧ rf_out F R (nI a) (nI i) (nI d) = rf_out_151 F R' (nI a) (nI i) (nI (4 * (9 * a + i) + 2 * d)) ∧ uA P x S' R' L (m3 M a i d l s dp) Q' H t ∧ (l = [] → s = [] ∧ dp = []) ∧ uCR R R' := by
  have hA0 := hA
  obtain ⟨hR, hS, hD, hG, hK, hr⟩ := hA
  have hp := hK.1
  have ha8 : a < 8 := by have := hR.1; have := hv.1; omega
  have hi8 : i ≤ 8 := (sl_num hR hv).2.2.2.2.2.2
  have hr' : uKr P R (m3 M a i d (M a i (2 * d)) (M a i (2 * d + 1)) (M a i 4)) H := by rw [m3_self]; exact hr
  obtain ⟨⟨l1, l2, l3⟩, ⟨s1, s2, s3⟩, D, d1, d2, d3, d4⟩ := uKr_gl hr' ha8 hi8 hd
  obtain ⟨k1, k2, k3⟩ := hp.2.1 a i d hv hd
  have pl := hp.2.2.1 a i (2 * d) hv (by omega)
  have ps := hp.2.2.1 a i (2 * d + 1) hv (by omega)
  have pd := hp.2.2.1 a i 4 hv (by omega)
  have hm : 4 * (9 * a + i) + 2 * d < rlen 28 := by show _ < 288; omega
  have hm1 : 4 * (9 * a + i) + 2 * d + 1 < rlen 28 := by show _ < 288; omega
  have hdd : 9 * a + i < rlen 30 := by show _ < 72; omega
  have mg : rf_magazine F R (nI a) (nI i) (nI d) 0 = some (nI (4 * (9 * a + i) + 2 * d)) := mag_ok (w := 0)
  unfold cf_X3_load rf_out
  simp only [st1]
  rw [k2, nnS, pl.2.2.1, mg, Option.bind_some, rd_n hm, l1]
  by_cases hl : M a i (2 * d) = []
  · have hl0 : (M a i (2 * d)).length = 0 := by rw [hl]; rfl
    rw [hl0, if_pos (show nI 0 ≤ 0 by decide), k3, nnS, ps.2.2.1, if_pos (show nI 0 = 0 by decide), nI_1, rd_n hm1, s1]
    by_cases hs : M a i (2 * d + 1) = []
    · have hs0 : (M a i (2 * d + 1)).length = 0 := by rw [hs]; rfl
      rw [hs0, if_pos (show nI 0 = 0 by decide), if_pos (show nI 0 ≤ 0 by decide), nnS]
      unfold rf_out_54
      rw [rd_n hm, l1, hl0, if_pos (show nI 0 = 0 by decide), d9x, rd_n hdd, d3]
      cases D with
      | zero =>
        have hd0 : M a i 4 = [] := List.eq_nil_of_length_eq_zero (by omega)
        rw [mv0 hF hp hv (by decide) hd0, Option.bind_some, if_pos (show nI 0 ≤ 0 by decide)]
        obtain ⟨S', c1, c2, c3⟩ := cxch (F := F) hp hv hd
        have e : mxch M a i d = m3 M a i d [] [] [] := by
          have := m3_x (M := M) (a := a) (i := i) (l := M a i (2 * d)) (s := M a i (2 * d + 1)) (dp := M a i 4) hd
          rw [m3_self, hl, hs, hd0] at this; exact this
        rw [e] at c2
        have e' : m3 M a i d [] [] [] = M := by
          have := m3_self (M := M) (a := a) (i := i) (d := d)
          rw [hl, hs, hd0] at this; exact this
        refine ⟨S', R, qxch Q a i d, [], [], [], by rw [c1]; rfl, rfl, ?_, fun _ => ⟨rfl, rfl⟩, uCR.rf⟩
        exact uA_P hA0 c3 uCR.rf c2 (by rw [e']; exact hr) (by rw [e']; exact fun _ _ _ => List.Perm.refl _)
      | succ D =>
        obtain ⟨dp, u, v, w, e, edl⟩ := ls3e d2
        rw [if_neg (nI_nle (by omega) (by omega))]
        have nm : ∀ z, z ∈ [u, v, w] → z ≠ -1 := fun z hz => fl_nm1 hA0 hv (fl_mem (k := 4) (by decide) (by rw [e]; simp at hz ⊢; exact Or.inr hz))
        obtain ⟨S1, a1, a2, a3⟩ := mv3 (F := F) (k := 4) (k' := 2 * d + 1) (l := dp) (u := u) (v := v) (w := w) hF hp hv (by decide) (by omega) (by omega) e (by omega) (by rw [hs]; simp) (nm u (by simp)) (nm v (by simp)) (nm w (by simp))
        obtain ⟨S', c1, c2, c3⟩ := cxch (F := F) a2 hv hd
        have e2 : mxch (mset (mset M a i 4 dp) a i (2 * d + 1) (M a i (2 * d + 1) ++ [w, v, u])) a i d = m3 M a i d [w, v, u] [] dp := by
          have q1 := m3_d (M := M) (a := a) (i := i) (d := d) (l := M a i (2 * d)) (s := M a i (2 * d + 1)) (dp := M a i 4) (dp' := dp) hd
          rw [m3_self] at q1
          rw [q1, m3_s, m3_x hd, hl, hs]; rfl
        rw [e2] at c2
        rw [a1, Option.bind_some, c1, Option.bind_some]
        rw [hl, hs, e] at hr'
        obtain ⟨R1, r1, r2, r3⟩ := rxch hF hr' ha8 hv.1 hi8 hd (Or.inl rfl)
        rw [r1, Option.bind_some]
        rw [rd_n hdd, wr_n hdd]
        obtain ⟨R2, t1, t2, t3⟩ := rdep hF r2 ha8 hv.1 hi8 hd
        refine ⟨S', R2, qxch Q a i d, [w, v, u], [], dp, rfl, t1, ?_, fun z => (by cases z), r3.tr t3⟩
        refine uA_P hA0 (a3.tr c3) (r3.tr t3) c2 t2 (m3_pm hd (fun z => ?_))
        rw [hl, hs, e]; simp [List.count_cons]; omega
    · have hs3 : (M a i (2 * d + 1)).length = 3 := by
        rcases s2 with q | q
        · exact absurd (List.eq_nil_of_length_eq_zero q) hs
        · exact q
      rw [hs3, if_neg (show ¬ nI 3 = 0 by decide), if_neg (show ¬ nI 3 ≤ 0 by decide)]
      obtain ⟨S', c1, c2, c3⟩ := cxch (F := F) hp hv hd
      have e : mxch M a i d = m3 M a i d (M a i (2 * d + 1)) [] (M a i 4) := by
        have := m3_x (M := M) (a := a) (i := i) (l := M a i (2 * d)) (s := M a i (2 * d + 1)) (dp := M a i 4) hd
        rw [m3_self, hl] at this; exact this
      rw [e] at c2
      rw [hl] at hr'
      obtain ⟨R1, r1, r2, r3⟩ := rxch hF hr' ha8 hv.1 hi8 hd (Or.inl rfl)
      rw [c1, r1, Option.bind_some, Option.bind_some]
      refine ⟨S', R1, qxch Q a i d, M a i (2 * d + 1), [], M a i 4, rfl, rfl, ?_, fun z => absurd z hs, r3⟩
      refine uA_P hA0 c3 r3 c2 r2 (m3_pm hd (fun z => ?_))
      rw [hl]; simp
  · have hl0 : 0 < (M a i (2 * d)).length := List.length_pos_iff.mpr hl
    rw [if_neg (nI_nle hl0 (by omega)), if_neg (nI_ne0 hl0 (by omega))]
    unfold rf_out_54
    rw [rd_n hm, l1, if_neg (nI_ne0 hl0 (by omega))]
    exact ⟨S, R, Q, M a i (2 * d), M a i (2 * d + 1), M a i 4, rfl, rfl, by rw [m3_self]; exact hA0, fun z => absurd z hl, uCR.rf⟩
/-- SPARE goes to the DEPOT -/
theorem i90_st {F n m m' dd D k : Nat} {b : Int32} {R : Rst} (hm' : m' < 288) (hdd : dd < 72) (hD : D < 4) (h30 : R.2 30 dd = nI D) (hk : k < 3) : rf_into_90 F (n + 1) R b (nI m) (nI m') (nI dd) (nI k) = rf_into_90 F n (rset R 31 (12 * dd + 3 * D + k) (R.2 29 (3 * m' + k))) b (nI m) (nI m') (nI dd) (nI (k + 1)) := by
  have h1 : 3 * m' + k < rlen 29 := by show _ < 864; omega
  have h2 : 12 * dd + 3 * D + k < rlen 31 := by show _ < 864; omega
  have h3 : dd < rlen 30 := hdd
  simp only [rf_into_90]
  rw [if_neg (show ¬ (3 : Int32) ≤ nI k from nI_ge (b := 3) hk (by omega)), rd_n h3, h30, m3x, rd_n h1, show (12 : Int32) * nI dd + 3 * nI D + nI k = nI (12 * dd + 3 * D + k) by rw [show (12 : Int32) = nI 12 from rfl, show (3 : Int32) = nI 3 from rfl, pk_mul, pk_mul, nI_add, nI_add], wr_n h2, nI_1]
theorem rspd {F : Nat} {P : Par} {R : Rst} {M : Pil} {H : List (Nat × Int32)} {a i d : Nat} {l dp : List Int32} {u v w b : Int32} (hF : 1000 ≤ F) (h : uKr P R (m3 M a i d l [u, v, w] dp) H) (ha : a < 8) (hap : a < pn P) (hi : i ≤ 8) (hd : d < 2) (hdp : dp.length < 12) :
    ∃ R', rf_into_90 F F R b (nI (4 * (9 * a + i) + 2 * d)) (nI (4 * (9 * a + i) + 2 * d + 1)) (nI (9 * a + i)) 0 = ((rf_exchange F R' (nI (4 * (9 * a + i) + 2 * d)) (nI (4 * (9 * a + i) + 2 * d + 1))).bind fun R16 => rf_into_164 F R16 b (nI (4 * (9 * a + i) + 2 * d))) ∧ uKr P R' (m3 M a i d l [] (dp ++ [w, v, u])) H ∧ uCR R R' := by
  obtain ⟨⟨l1, l2, l3⟩, ⟨s1, s2, s3⟩, D, d1, d2, d3, d4⟩ := uKr_gl h ha hi hd
  obtain ⟨n, hn⟩ : ∃ n, F = n + 1 + 1 + 1 + 1 := ⟨F - 4, by omega⟩
  have hm : 4 * (9 * a + i) + 2 * d + 1 < 288 := by omega
  have hdd : 9 * a + i < 72 := by omega
  have g0 : R.2 29 (3 * (4 * (9 * a + i) + 2 * d + 1) + 0) = u := s3 0 u rfl
  have g1 : R.2 29 (3 * (4 * (9 * a + i) + 2 * d + 1) + 1) = v := s3 1 v rfl
  have g2 : R.2 29 (3 * (4 * (9 * a + i) + 2 * d + 1) + 2) = w := s3 2 w rfl
  have st : rf_into_90 F F R b (nI (4 * (9 * a + i) + 2 * d)) (nI (4 * (9 * a + i) + 2 * d + 1)) (nI (9 * a + i)) 0 = rf_into_90 F (n + 1) (rset (rset (rset R 31 (12 * (9 * a + i) + 3 * D + 0) u) 31 (12 * (9 * a + i) + 3 * D + 1) v) 31 (12 * (9 * a + i) + 3 * D + 2) w) b (nI (4 * (9 * a + i) + 2 * d)) (nI (4 * (9 * a + i) + 2 * d + 1)) (nI (9 * a + i)) (nI 3) := by
    have q := i90_st (F := F) (n := n + 1 + 1 + 1) (m := 4 * (9 * a + i) + 2 * d) (b := b) (k := 0) (R := R) hm hdd (by omega) d3 (by decide)
    rw [← hn, nI_0] at q
    rw [q, g0]
    rw [i90_st (D := D) (k := 0 + 1) hm hdd (by omega) (by rw [rset_f (by decide)]; exact d3) (by decide), rset_f (by decide), g1]
    rw [i90_st (D := D) (k := 0 + 1 + 1) hm hdd (by omega) (by rw [rset_f (by decide), rset_f (by decide)]; exact d3) (by decide), rset_f (by decide), rset_f (by decide), g2]
  rw [st]
  simp only [rf_into_90]
  rw [if_pos (by decide), rd_n (f := 30) (show 9 * a + i < rlen 30 from hdd), wr_n (f := 30) (show 9 * a + i < rlen 30 from hdd), wr_n (f := 28) (show 4 * (9 * a + i) + 2 * d + 1 < rlen 28 from hm), rset_f (by decide), rset_f (by decide), rset_f (by decide), d3, nI_1]
  refine ⟨_, rfl, ?_, ?_⟩
  · refine uKr_m3 h ha hap hi hd ⟨?_, l2, fun j z hj => ?_⟩ ⟨by rw [rset_g, if_pos ⟨rfl, rfl⟩]; rfl, Or.inl rfl, fun j z hj => by simp at hj⟩ ⟨D + 1, by omega, by simp; omega, ?_, fun m l' z hm' hl' hz => ?_⟩ (fun k k1 k2 => ?_) (fun k hk => ?_) (fun k hk => ?_) (fun k hk => ?_) ⟨rfl, ?_, ?_⟩
    · rw [rset_g, if_neg (by omega), rset_f (by decide), rset_f (by decide), rset_f (by decide), rset_f (by decide)]; exact l1
    · rw [rset_f (by decide), rset_f (by decide), rset_f (by decide), rset_f (by decide), rset_f (by decide)]; exact l3 j z hj
    · rw [rset_f (by decide), rset_g, if_pos ⟨rfl, rfl⟩]
    · rw [rset_f (by decide), rset_f (by decide)]
      simp only [rset_g, true_and]
      by_cases hmD : m = D
      · subst hmD
        rw [List.getElem?_append_right (by omega), d2] at hz
        rcases (by omega : l' = 0 ∨ l' = 1 ∨ l' = 2) with rfl | rfl | rfl
        · rw [if_neg (by omega), if_neg (by omega), if_pos rfl]; simp at hz; exact hz
        · rw [if_neg (by omega), if_pos rfl]; simp at hz; exact hz
        · rw [if_pos rfl]; simp at hz; exact hz
      · rw [if_neg (by omega), if_neg (by omega), if_neg (by omega)]
        refine d4 m l' z (by omega) hl' ?_
        rw [List.getElem?_append_left (by omega)] at hz; exact hz
    · rw [rset_g, if_neg (fun z => k2 z.2), rset_f (by decide), rset_f (by decide), rset_f (by decide), rset_f (by decide)]
    · rw [rset_f (by decide), rset_f (by decide), rset_f (by decide), rset_f (by decide), rset_f (by decide)]
    · rw [rset_f (by decide), rset_g, if_neg (fun z => hk z.2), rset_f (by decide), rset_f (by decide), rset_f (by decide)]
    · rw [rset_f (by decide), rset_f (by decide)]
      simp only [rset_g, true_and]
      rw [if_neg (by omega), if_neg (by omega), if_neg (by omega)]
    · rw [rset_f (by decide), rset_f (by decide), rset_f (by decide), rset_f (by decide), rset_f (by decide)]
    · rw [rset_f (by decide), rset_f (by decide), rset_f (by decide), rset_f (by decide), rset_f (by decide)]
  · exact (((uCR_set (by decide) (by decide)).tr (uCR_set (by decide) (by decide))).tr ((uCR_set (by decide) (by decide)).tr (uCR_set (by decide) (by decide)))).tr (uCR_set (by decide) (by decide))
set_option maxHeartbeats 1000000 in
theorem jroom {F : Nat} {P : Par} {x : Nat} {S : Cst} {R : Rst} {L : List En} {M : Pil} {Q : Pad} {H : List (Nat × Int32)} {t a i d : Nat} (b : Int32) (hF : 1000 ≤ F) (hA : uA P x S R L M Q H t) (hv : vd P a i) (hd : d < 2) :
    ∃ S' R' Q' l s dp, cf_X3_makeRoom F S (pdk P a i d) (some (Q a i 4).1) = some S' ∧ uA P x S' R' L (m3 M a i d l s dp) Q' H t ∧ uPF S S' ∧ uCR R R' ∧ (∀ a' i', vd P a' i' → (fl (m3 M a i d l s dp) a' i').Perm (fl M a' i')) ∧ ((l.length < 3 ∧ rf_into F R (nI a) (nI i) (nI d) b = rf_into_164 F R' b (nI (4 * (9 * a + i) + 2 * d))) ∨ (l.length = 3 ∧ rf_into F R (nI a) (nI i) (nI d) b = some R')) := by
  have hA0 := hA
  obtain ⟨hR, hS, hD, hG, hK, hr⟩ := hA
  have hp := hK.1
  have ha8 : a < 8 := by have := hR.1; have := hv.1; omega
  have hi8 : i ≤ 8 := (sl_num hR hv).2.2.2.2.2.2
  have hr' : uKr P R (m3 M a i d (M a i (2 * d)) (M a i (2 * d + 1)) (M a i 4)) H := by rw [m3_self]; exact hr
  obtain ⟨⟨l1, l2, l3⟩, ⟨s1, s2, s3⟩, D, d1, d2, d3, d4⟩ := uKr_gl hr' ha8 hi8 hd
  obtain ⟨k1, k2, k3⟩ := hp.2.1 a i d hv hd
  have pl := hp.2.2.1 a i (2 * d) hv (by omega)
  have ps := hp.2.2.1 a i (2 * d + 1) hv (by omega)
  have pd := hp.2.2.1 a i 4 hv (by omega)
  have hm : 4 * (9 * a + i) + 2 * d < rlen 28 := by show _ < 288; omega
  have hm1 : 4 * (9 * a + i) + 2 * d + 1 < rlen 28 := by show _ < 288; omega
  have hdd : 9 * a + i < rlen 30 := by show _ < 72; omega
  have mg : rf_magazine F R (nI a) (nI i) (nI d) 0 = some (nI (4 * (9 * a + i) + 2 * d)) := mag_ok (w := 0)
  unfold cf_X3_makeRoom rf_into
  simp only [st1]
  rw [k2, nnS, pl.2.2.1, mg, Option.bind_some, rd_n hm, l1]
  by_cases hl : (M a i (2 * d)).length < 3
  · rw [if_neg (show ¬ (3 : Int32) ≤ nI _ from nI_ge (b := 3) hl (by omega)), if_neg (fun z => by have := (eqL (K := 3) (k := 3) rfl (by omega) (by omega)).mp z; omega)]
    unfold rf_into_64
    rw [rd_n hm, l1, if_neg (fun z => by have := (eqL (K := 3) (k := 3) rfl (by omega) (by omega)).mp z; omega)]
    exact ⟨S, R, Q, M a i (2 * d), M a i (2 * d + 1), M a i 4, rfl, by rw [m3_self]; exact hA0, uPF.rf, uCR.rf, by rw [m3_self]; exact fun _ _ _ => List.Perm.refl _, Or.inl ⟨hl, rfl⟩⟩
  · have hl3 : (M a i (2 * d)).length = 3 := by omega
    rw [hl3, if_pos (show (3 : Int32) ≤ nI 3 by decide), k3, nnS, ps.2.2.1, if_pos (show nI 3 = (3 : Int32) by decide), nI_1, rd_n hm1, s1]
    by_cases hs : M a i (2 * d + 1) = []
    · have hs0 : (M a i (2 * d + 1)).length = 0 := by rw [hs]; rfl
      rw [hs0, if_pos (show nI 0 ≤ 0 by decide), if_neg (show ¬ (3 : Int32) ≤ nI 0 by decide), wr_n hm1]
      unfold cf_X3_makeRoom_39
      simp only [st1]
      rw [k3, nnS, ps.2.2.1, hs0, if_pos (show nI 0 = 0 by decide)]
      obtain ⟨S', c1, c2, c3⟩ := cxch (F := F) hp hv hd
      have e : mxch M a i d = m3 M a i d [] (M a i (2 * d)) (M a i 4) := by
        have := m3_x (M := M) (a := a) (i := i) (l := M a i (2 * d)) (s := M a i (2 * d + 1)) (dp := M a i 4) hd
        rw [m3_self, hs] at this; exact this
      rw [e] at c2
      have hr2 : uKr P (rset R 28 (4 * (9 * a + i) + 2 * d + 1) 0) (m3 M a i d (M a i (2 * d)) [] (M a i 4)) H := by
        rw [hs] at hr'
        refine uKr_m3 hr' ha8 hv.1 hi8 hd ⟨by rw [rset_g, if_neg (by omega)]; exact l1, l2, by rw [rset_f (by decide)]; exact l3⟩ ⟨by rw [rset_g, if_pos ⟨rfl, rfl⟩]; rfl, Or.inl rfl, fun j z hj => by simp at hj⟩ ⟨D, d1, d2, by rw [rset_f (by decide)]; exact d3, by rw [rset_f (by decide)]; exact d4⟩ (fun k _ k2 => by rw [rset_g, if_neg (fun z => k2 z.2)]) (fun k _ => by rw [rset_f (by decide)]) (fun k _ => by rw [rset_f (by decide)]) (fun k _ => by rw [rset_f (by decide)]) ⟨rfl, rset_f (by decide), rset_f (by decide)⟩
      obtain ⟨R1, r1, r2, r3⟩ := rxch hF hr2 ha8 hv.1 hi8 hd (Or.inr hl3)
      rw [c1, r1, Option.bind_some, Option.bind_some]
      have pm := m3_pm (P := P) (M := M) (a := a) (i := i) (l := []) (s := M a i (2 * d)) (dp := M a i 4) hd (fun z => by rw [hs]; simp)
      refine ⟨S', R1, qxch Q a i d, [], M a i (2 * d), M a i 4, rfl, ?_, c3, (uCR_set (by decide) (by decide)).tr r3, pm, Or.inl ⟨by simp, rfl⟩⟩
      exact uA_P hA0 c3 ((uCR_set (by decide) (by decide)).tr r3) c2 r2 pm
    · have hs3 : (M a i (2 * d + 1)).length = 3 := by
        rcases s2 with q | q
        · exact absurd (List.eq_nil_of_length_eq_zero q) hs
        · exact q
      rw [hs3, if_neg (show ¬ nI 3 ≤ 0 by decide), if_pos (show (3 : Int32) ≤ nI 3 by decide), nnS, pd.2.2.1, d2]
      unfold rf_into_64
      rw [rd_n hm, l1, hl3, if_pos (show nI 3 = (3 : Int32) by decide), d9x, rd_n hdd, d3]
      by_cases hD4 : D = 4
      · subst hD4
        rw [if_pos (show (12 : Int32) ≤ nI (3 * 4) by decide), if_pos (show nI 4 = (4 : Int32) by decide)]
        unfold cf_X3_makeRoom_39
        simp only [st1]
        rw [k3, nnS, ps.2.2.1, hs3, if_neg (show ¬ nI 3 = 0 by decide)]
        exact ⟨S, R, Q, M a i (2 * d), M a i (2 * d + 1), M a i 4, rfl, by rw [m3_self]; exact hA0, uPF.rf, uCR.rf, by rw [m3_self]; exact fun _ _ _ => List.Perm.refl _, Or.inr ⟨hl3, rfl⟩⟩
      · rw [if_neg (show ¬ (12 : Int32) ≤ nI (3 * D) from nI_ge (b := 12) (by omega) (by omega)), if_neg (fun z => by have := (eqL (K := 4) (k := 4) rfl (by omega) (by omega)).mp z; omega)]
        obtain ⟨u, v, w, e⟩ := ls3 hs3
        have nm : ∀ z, z ∈ [u, v, w] → z ≠ -1 := fun z hz => fl_nm1 hA0 hv (fl_mem (k := 2 * d + 1) (by omega) (by rw [e]; exact hz))
        obtain ⟨S1, a1, a2, a3⟩ := mv3 (F := F) (k := 2 * d + 1) (k' := 4) (l := []) (u := u) (v := v) (w := w) hF hp hv (by omega) (by decide) (by omega) e (by simp) (by omega) (nm u (by simp)) (nm v (by simp)) (nm w (by simp))
        have e1 : mset (mset M a i (2 * d + 1) []) a i 4 (M a i 4 ++ [w, v, u]) = m3 M a i d (M a i (2 * d)) [] (M a i 4 ++ [w, v, u]) := by
          have q1 := m3_s (M := M) (a := a) (i := i) (d := d) (l := M a i (2 * d)) (s := M a i (2 * d + 1)) (s' := []) (dp := M a i 4)
          rw [m3_self] at q1
          rw [q1, m3_d hd]
        rw [e1] at a2
        obtain ⟨S', c1, c2, c3⟩ := cxch (F := F) a2 hv hd
        rw [m3_x hd] at c2
        rw [nnS, a1, Option.bind_some]
        unfold cf_X3_makeRoom_39
        simp only [st1]
        have k3' := (a2.2.1 a i d hv hd).2.2
        have ps' := a2.2.2.1 a i (2 * d + 1) hv (by omega)
        rw [m3_gs] at ps'
        rw [k3', nnS, ps'.2.2.1, if_pos (show nI ([] : List Int32).length = 0 by decide), c1, Option.bind_some]
        rw [e] at hr'
        obtain ⟨R1, r1, r2, r3⟩ := rspd (b := b) hF hr' ha8 hv.1 hi8 hd (by omega)
        obtain ⟨R2, t1, t2, t3⟩ := rxch hF r2 ha8 hv.1 hi8 hd (Or.inr hl3)
        rw [r1, t1, Option.bind_some]
        have pm := m3_pm (P := P) (M := M) (a := a) (i := i) (l := []) (s := M a i (2 * d)) (dp := M a i 4 ++ [w, v, u]) hd (fun z => by rw [e]; simp [List.count_cons]; omega)
        refine ⟨S', R2, qxch Q a i d, [], M a i (2 * d), M a i 4 ++ [w, v, u], rfl, ?_, a3.tr c3, r3.tr t3, pm, Or.inl ⟨by simp, rfl⟩⟩
        exact uA_P hA0 (a3.tr c3) (r3.tr t3) c2 t2 pm
