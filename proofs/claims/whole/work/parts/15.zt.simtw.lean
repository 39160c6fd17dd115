/-! ===== pure part: the call takeWithin ===== -/
theorem unit_ok {F : Nat} {P : Par} {x0 : Nat} {S : Cst} {R : Rst} {a : Nat} (hR : uStR P R) (hS : uStS P x0 S) (ha : a < pn P) (x : Int32) :
    (∃ A, A < 31 ∧ psh P a ≤ A ∧ x = nI (2 ^ A) ∧ cf_X0_isUnit F S (par P a) x = some 1 ∧ rf_isPower F R x = some 1 ∧ ¬ x < nI (2 ^ psh P a)) ∨ (cf_X0_isUnit F S (par P a) x = some 0 ∧ (rf_isPower F R x = some 0 ∨ (rf_isPower F R x = some 1 ∧ x < nI (2 ^ psh P a)))) := by
  have hp16 := pw16 (hR.2.2 a ha).1
  have hp0 := Nat.two_pow_pos (psh P a)
  unfold cf_X0_isUnit rf_isPower cf_X6_isPowerOfTwo
  rw [(hS.2.2.2.2 a ha).2.2.1]
  by_cases h0 : x ≤ 0
  · right
    rw [if_pos h0]
    refine ⟨?_, Or.inl rfl⟩
    by_cases h1 : x < nI (2 ^ psh P a)
    · rw [if_pos h1]
    · rw [if_neg h1]; rfl
  · rw [if_neg h0]
    by_cases h2 : x &&& (x - 1) = 0
    · rw [if_pos h2]
      by_cases h1 : x < nI (2 ^ psh P a)
      · right
        rw [if_pos h1]
        exact ⟨rfl, Or.inr ⟨rfl, h1⟩⟩
      · left
        obtain ⟨A, hA, rfl⟩ := pow_ok h0 h2
        refine ⟨A, hA, ?_, rfl, by rw [if_neg h1]; rfl, rfl, h1⟩
        have hA2 : 2 ^ A < 2 ^ 31 := Nat.pow_lt_pow_right (by decide) hA
        have : ¬ 2 ^ A < 2 ^ psh P a := fun z => h1 ((nI_ltI (by omega) (by omega)).mpr z)
        apply Classical.byContradiction
        intro z
        exact this (Nat.pow_lt_pow_right (by decide) (by omega))
    · right
      rw [if_neg h2]
      refine ⟨?_, Or.inl rfl⟩
      by_cases h1 : x < nI (2 ^ psh P a)
      · rw [if_pos h1]
      · rw [if_neg h1]; rfl
theorem nar_ok {F : Nat} {P : Par} {x : Nat} {S : Cst} {R : Rst} {L : List En} {M : Pil} {Q : Pad} {H : List (Nat × Int32)} {a t q0 l h z A0 ph c : Nat} (hF : 1000 ≤ F) (hA : uA P x S R L M Q H t) (ha : a < pn P) (hq : uBd S q0 l h z A0 ph c) (h6 : R.2 6 a = nI l) (h7 : R.2 7 a = nI h) (hl : l ≤ 1073741824) (hh : h ≤ 1073741824) (hz : z < 2 ^ 34) (hz1 : 1 ≤ z) (hA0 : A0 < 31) (hp : ph < 2 ^ A0) (hc : c = 0 ∨ ∃ C, C < 31 ∧ c = 2 ^ C) :
    ∃ r q, rf_narrow F R (nI a) (lN z) (nI (2 ^ A0)) (nI ph) (nI c) = some r ∧ cf_X0_leastWithin F S (par P a) (some q0) = some q ∧ uFw L a l h z (2 ^ A0) ph c r q := by
  have ha8 : a < 8 := by have := hA.1.1; omega
  have hG := hA.2.2.2.1
  have hcs := (hG.2.2.2.1.2.2 a ha).1
  have hle := uOf_le (a := a) (L := L)
  have h600 := hG.2.2.1.2.1
  obtain ⟨r, q, r1, r2, r3⟩ := least_lp (F := F) hG ha8 hq h6 h7 hl hh hz hz1 hA0 hp hc L [] F F none (-1) none rfl hcs.2 (by omega) (by omega) (Or.inl ⟨rfl, rfl⟩)
  refine ⟨r, q, r1, ?_, r3⟩
  unfold cf_X0_leastWithin
  simp only [st1]
  rw [hcs.1]
  exact r2
set_option maxHeartbeats 2000000 in
theorem tw_core {n x : Nat} {S : Cst} {R : Rst} {P : Par} {L : List En} {M : Pil} {Q : Pad} {H : List (Nat × Int32)} {t a A0 c : Nat} (F : Nat) (hF : 1000000 ≤ F) (x2 x4 : Int32) (h0 : Sim (n + 1) x S R) (hA : uA P x S (rput R 0 0) L M Q H t) (hH : H.length + (n + 1) ≤ 512) (b1 : t + 50000 + 50000 * n < 2147483648) (b2 : t + 50000 < 2147483648) (b3 : t + 5400 < 2147483648) (b5 : t + 50000 * n < 2147483648) (ha : a < pn P) (h2 : ¬ x2 ≤ 0) (hA0 : A0 < 31) (hpA : psh P a ≤ A0) (hc : c = 0 ∨ ∃ C, C < 31 ∧ c = 2 ^ C) :
    SimOp n x wk2 (fun k => k = 1 ∨ k = 2) (cf_X6_takeWithin_45 F x S x2 (nI (2 ^ A0)) x4 (nI c) (some (par P a))) (rf_takeWithin_60 F (rput R 0 0) (nI a) x2 (nI (2 ^ A0)) x4 (nI c) (nI (2 ^ psh P a)) 1) := by
  have hFt : 1000 ≤ F := Nat.le_trans (by decide) hF
  have hR := hA.1
  have hS := hA.2.1
  have hs16 := (hR.2.2 a ha).1
  have hp16 := pw16 hs16
  have hp0 := Nat.two_pow_pos (psh P a)
  have ha8 : a < 8 := by have := hR.1; omega
  have hA2 : 2 ^ A0 < 2 ^ 31 := Nat.pow_lt_pow_right (by decide) hA0
  have thr : rf_right F (rput R 0 0) 0 2 = some (0, rput R 0 2) := by rw [right_0 put0 (by decide), put00]
  have t92 : rf_takeWithin_92 F (rput R 0 0) (nI a) x2 (nI (2 ^ A0)) x4 (nI c) 0 = some (0, rput R 0 2) := by
    unfold rf_takeWithin_92
    rw [thr, Option.bind_some]
    simp only [st2]
    rw [if_pos trivial]
  unfold cf_X6_takeWithin_45 rf_takeWithin_60
  rw [if_neg (show ¬ (1 : Int32) = 0 by decide)]
  by_cases h4 : x4 < 0
  · rw [if_pos h4, if_pos h4]
    exact op_thr h0 (Or.inr rfl) rfl rfl t92
  · rw [if_neg h4, if_neg h4]
    by_cases h4' : nI (2 ^ A0) ≤ x4
    · rw [if_pos h4', if_pos h4']
      exact op_thr h0 (Or.inr rfl) rfl rfl t92
    · rw [if_neg h4', if_neg h4', nnS]
      obtain ⟨ph, hph, rfl⟩ := nI_of h4
      have hp : ph < 2 ^ A0 := by
        apply Classical.byContradiction
        intro z
        exact h4' ((nI_leI (by omega) (by omega)).mpr (by omega))
      have tph : (nI ph).toInt = (ph : Int) := nI_toInt (by omega)
      unfold dv cf_X0_isMultiple
      rw [if_neg (show ¬ nI (2 ^ psh P a) = 0 from nI_ne0 hp0 (by omega)), (hS.2.2.2.2 a ha).2.2.1]
      by_cases hm : ((2 ^ psh P a : Nat) : Int) ∣ (nI ph).toInt
      · rw [if_pos ((mult_c hs16).mpr hm), if_pos ((mult_r hs16).mpr hm), Option.bind_some, if_neg (show ¬ (1 : Int32) = 0 by decide)]
        have hdp : 2 ^ psh P a ∣ ph := by rw [tph] at hm; exact Int.natCast_dvd_natCast.mp hm
        unfold rf_takeWithin_92
        rw [right_1 put0, Option.bind_some]
        simp only [st2]
        rw [if_neg (show ¬ (1 : Int32) = 0 by decide)]
        rcases full_ok hFt hA with ⟨hlen, f1, v, f2, f3⟩ | ⟨f1, v, f2, f3⟩
        · rw [f1, f2, Option.bind_some, Option.bind_some, if_pos rfl, if_pos f3]
          obtain ⟨zz, z1, z2, rfl⟩ := pos_nI h2
          obtain ⟨u1, u2, u3⟩ := rup_ok (a := a) hR ha z1
          rw [rround_ok hR ha z1 z2, Option.bind_some]
          obtain ⟨d1, d2, d3, d4, d5, d6, d7, d8⟩ := hA.2.2.1.1 a ha
          have e6 := i32_n d6
          have e7 := i32_n (show 0 ≤ ((rput R 0 0).2 7 a).toInt by omega)
          have hl : ((rput R 0 0).2 6 a).toInt.toNat ≤ 1073741824 := by omega
          have hh : ((rput R 0 0).2 7 a).toInt.toNat ≤ 1073741824 := by omega
          generalize ((rput R 0 0).2 6 a).toInt.toNat = l at e6 hl
          generalize ((rput R 0 0).2 7 a).toInt.toNat = h at e7 hh
          obtain ⟨S16, s1, s2, s3⟩ := jbound (F := F) (A0 := A0) (ph := ph) (c := c) hA ha z1 z2 (d2.trans e6) (d3.trans e7)
          simp only [st1]
          rw [s1, Option.bind_some]
          have hz : rup P a zz * 2 ^ psh P a < 2 ^ 34 := by omega
          have hz1 : 1 ≤ rup P a zz * 2 ^ psh P a := by omega
          have hdz : 2 ^ psh P a ∣ rup P a zz * 2 ^ psh P a := Nat.dvd_mul_left _ _
          generalize rup P a zz * 2 ^ psh P a = z at *
          obtain ⟨r, q, r1, r2, r3⟩ := nar_ok (F := F) hFt s2 ha s3 e6 e7 hl hh hz hz1 hA0 hp hc
          rw [r1, r2, Option.bind_some, Option.bind_some]
          have r3' := r3
          rcases r3' with ⟨rfl, rfl⟩ | ⟨A, e, B, w, w1, rfl, rfl, _⟩
          · rw [if_pos rfl, ncN]
            obtain ⟨S', R', L', M', g, p1, p2, p3, p4, p5⟩ := jpurge hF s2 ha b3
            rw [p1, p2, Option.bind_some, Option.bind_some]
            simp only []
            have fx := bx_sweep p2
            have s3' := uBd_bx fx s3
            have d2' := (s2.2.2.1.1 a ha).2.1
            have d3' := (s2.2.2.1.1 a ha).2.2.1
            have e6' : R'.2 6 a = nI l := by
              rw [← (p3.2.2.1.1 a ha).2.1, fx.2 12 _ (by decide), d2']; exact e6
            have e7' : R'.2 7 a = nI h := by
              rw [← (p3.2.2.1.1 a ha).2.2.1, fx.2 13 _ (by decide), d3']; exact e7
            by_cases hg : nI g ≤ 0
            · rw [if_pos hg, if_pos hg]
              obtain ⟨S2, R2, L2, v2, j1, j2, j3⟩ := jtw (F := F) hFt p3 ha s3' e6' e7' hl hh hz hz1 hdz hA0 hpA hp hdp hc (by omega) (by omega) (Or.inl ⟨rfl, rfl⟩)
              exact op_ok (fun w => rfl) (uA_mono (t' := t + 50000) j3 (by omega)) b1 (by omega) j2 j1
            · rw [if_neg hg, if_neg hg]
              obtain ⟨r', q', r1', r2', r3'⟩ := nar_ok (F := F) hFt p3 ha s3' e6' e7' hl hh hz hz1 hA0 hp hc
              rw [r1', r2', Option.bind_some, Option.bind_some]
              obtain ⟨S2, R2, L2, v2, j1, j2, j3⟩ := jtw (F := F) hFt p3 ha s3' e6' e7' hl hh hz hz1 hdz hA0 hpA hp hdp hc (by omega) (by omega) r3'
              exact op_ok (fun w => rfl) (uA_mono (t' := t + 50000) j3 (by omega)) b1 (by omega) j2 j1
          · have hA600 : A.length < 600 := by
              have := s2.2.2.2.1.2.2.1.2.1
              rw [w1] at this; simp at this; omega
            rw [if_neg (nI_nm1 (k := A.length) (by omega)), ncS]
            obtain ⟨S2, R2, L2, v2, j1, j2, j3⟩ := jtw (F := F) hFt s2 ha s3 e6 e7 hl hh hz hz1 hdz hA0 hpA hp hdp hc hlen (by omega) r3
            exact op_ok (fun w => rfl) (uA_mono (t' := t + 50000) j3 (by omega)) b1 (by omega) j2 j1
        · rw [f1, f2, Option.bind_some, Option.bind_some, if_neg (by decide), if_neg f3]
          exact op_ok (fun w => rfl) hA b5 (by omega) rfl rfl
      · rw [if_neg (fun z => hm ((mult_c hs16).mp z)), if_neg (fun z => hm ((mult_r hs16).mp z)), Option.bind_some, if_pos rfl]
        exact op_thr h0 (Or.inr rfl) rfl rfl t92
set_option maxHeartbeats 2000000 in
theorem sim_takeWithin {n x : Nat} {S : Cst} {R : Rst} (F : Nat) (hF : 1000000 ≤ F) (x1 x2 x3 x4 x5 : Int32) (h : Sim (n + 1) x S R) : SimOp n x wk2 (fun k => k = 1 ∨ k = 2) (cf_X6_takeWithin F S x x1 x2 x3 x4 x5) (rf_takeWithin F R x1 x2 x3 x4 x5) := by
  have h0 := h
  obtain ⟨P, L, M, Q, H, t, hA, ht, hH⟩ := h
  obtain ⟨b1, b2, b3, b4, b5⟩ := bud ht
  clear ht
  have hR := hA.1
  have hS := hA.2.1
  have thr : rf_right F (rput R 0 0) 0 2 = some (0, rput R 0 2) := by rw [right_0 put0 (by decide), put00]
  unfold cf_X6_takeWithin rf_takeWithin
  rcases arena_ok (F := F) x1 hR hS with ⟨a, ha, rfl, c1, c2⟩ | ⟨c1, c2, _⟩
  · rw [c1, c2, Option.bind_some, Option.bind_some]
    simp only [tr, st2, nnS]
    have ha8 : a < 8 := by have := hR.1; omega
    rw [if_neg (show ¬ (1 : Int32) = 0 by decide), rd_n (f := 2) (show a < rlen 2 from ha8), (hR.2.2 a ha).2.2.1]
    have t60 : rf_takeWithin_60 F (rput R 0 0) (nI a) x2 x3 x4 x5 (nI (2 ^ psh P a)) 0 = some (0, rput R 0 2) := by
      unfold rf_takeWithin_60 rf_takeWithin_92
      rw [if_pos rfl, thr, Option.bind_some]
      simp only [st2]
      rw [if_pos trivial]
    by_cases h2 : x2 ≤ 0
    · rw [if_pos h2, if_pos h2]
      exact op_thr h0 (Or.inr rfl) rfl rfl t60
    · rw [if_neg h2, if_neg h2]
      rcases unit_ok (F := F) hR hS ha x3 with ⟨A0, hA0, hpA, rfl, c3, c4, c5⟩ | ⟨c3, c4⟩
      · rw [c3, c4, Option.bind_some, Option.bind_some, if_neg (show ¬ (1 : Int32) = 0 by decide), if_neg (show ¬ (1 : Int32) = 0 by decide), if_neg c5]
        by_cases h5 : x5 = 0
        · subst h5
          rw [if_pos rfl, if_pos rfl]
          exact tw_core (c := 0) F hF x2 x4 h0 hA hH b1 b2 b3 b5 ha h2 hA0 hpA (Or.inl rfl)
        · rw [if_neg h5, if_neg h5]
          rcases unit_ok (F := F) hR hS ha x5 with ⟨C, hC, hpC, rfl, c6, c7, c8⟩ | ⟨c6, c7⟩
          · rw [c6, c7, Option.bind_some, Option.bind_some, if_neg (show ¬ (1 : Int32) = 0 by decide), if_neg (show ¬ (1 : Int32) = 0 by decide), if_neg c8]
            exact tw_core (c := 2 ^ C) F hF x2 x4 h0 hA hH b1 b2 b3 b5 ha h2 hA0 hpA (Or.inr ⟨C, hC, rfl⟩)
          · rw [c6, Option.bind_some, if_pos rfl]
            refine op_thr (r := 0) (v := 2) h0 (Or.inr rfl) rfl rfl ?_
            rcases c7 with c7 | ⟨c7, c8⟩
            · rw [c7, Option.bind_some, if_pos rfl, t60]
            · rw [c7, Option.bind_some, if_neg (show ¬ (1 : Int32) = 0 by decide), if_pos c8, t60]
      · rw [c3, Option.bind_some, if_pos rfl]
        refine op_thr (r := 0) (v := 2) h0 (Or.inr rfl) rfl rfl ?_
        rcases c4 with c4 | ⟨c4, c5⟩
        · rw [c4, Option.bind_some, if_pos rfl, t60]
        · rw [c4, Option.bind_some, if_neg (show ¬ (1 : Int32) = 0 by decide), if_pos c5, t60]
  · rw [c1, c2, Option.bind_some, Option.bind_some]
    simp only [tr, st2]
    rw [if_pos trivial]
    exact op_thr h0 (Or.inl rfl) rfl rfl rfl
