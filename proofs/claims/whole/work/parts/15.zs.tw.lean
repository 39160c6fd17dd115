/-! ===== pure part: TO TAKE WITHIN, Bounds and the taking ===== -/
set_option maxHeartbeats 1000000 in
theorem jbound {F : Nat} {P : Par} {x : Nat} {S : Cst} {R : Rst} {L : List En} {M : Pil} {Q : Pad} {H : List (Nat × Int32)} {t a zz l h A0 ph c : Nat} (hA : uA P x S R L M Q H t) (ha : a < pn P) (hz : 1 ≤ zz) (hz2 : zz < 2147483648) (h12 : gI S 12 (par P a) = nI l) (h13 : gI S 13 (par P a) = nI h) :
    ∃ S', cf_X1_init F (nO S) (nx S) (some (par P a)) (nI zz) (nI (2 ^ A0)) (nI ph) (nI c) = some S' ∧ uA P x S' R L M Q H t ∧ uBd S' (nx S) l h (rup P a zz * 2 ^ psh P a) A0 ph c := by
  have hS := hA.2.1
  have hpl := (hS.2.2.2.2 a ha).1
  have sf0 : uSF S (nO S) := ⟨Nat.le_succ _, fun f p hp _ _ _ _ => by rw [gI_nO, if_neg (by omega)], fun f p hp _ _ _ => by rw [gP_nO, if_neg (by omega)], rfl, rfl, rfl⟩
  unfold cf_X1_init
  rw [nnS, cround hA.1 (uStS_F hS sf0) ha hz hz2, Option.bind_some]
  simp only [st1]
  generalize hS' : sI (sI (sI (sI (sI (sJ (nO S) 16 (nx S) (lN (rup P a zz * 2 ^ psh P a))) 17 (nx S) (nI (2 ^ A0))) 18 (nx S) (nI ph)) 19 (nx S) (nI c)) 20 (nx S) (gI (sI (sI (sI (sJ (nO S) 16 (nx S) (lN (rup P a zz * 2 ^ psh P a))) 17 (nx S) (nI (2 ^ A0))) 18 (nx S) (nI ph)) 19 (nx S) (nI c)) 12 (par P a))) 21 (nx S) (gI (sI (sI (sI (sI (sJ (nO S) 16 (nx S) (lN (rup P a zz * 2 ^ psh P a))) 17 (nx S) (nI (2 ^ A0))) 18 (nx S) (nI ph)) 19 (nx S) (nI c)) 20 (nx S) (gI (sI (sI (sI (sJ (nO S) 16 (nx S) (lN (rup P a zz * 2 ^ psh P a))) 17 (nx S) (nI (2 ^ A0))) 18 (nx S) (nI ph)) 19 (nx S) (nI c)) 12 (par P a))) 13 (par P a)) = S'
  have gIJ : ∀ f p, gI (sJ (nO S) 16 (nx S) (lN (rup P a zz * 2 ^ psh P a))) f p = gI (nO S) f p := fun _ _ => rfl
  have hx : nx S' = nx S + 1 := by rw [← hS']; rfl
  have hI : ∀ f p, p < nx S → gI S' f p = gI S f p := by
    intro f p hp
    have hne : p ≠ nx S := by omega
    rw [← hS']
    simp only [gI_sI, gIJ, gI_nO, hne, and_false, if_false]
  have hP : ∀ f p, p < nx S → gP S' f p = gP S f p := by
    intro f p hp
    have hne : p ≠ nx S := by omega
    rw [← hS']
    show gP (nO S) f p = _
    rw [gP_nO, if_neg hne]
  have hN : gN S' = gN S := by rw [← hS']; rfl
  have hRr : gR S' = gR S := by rw [← hS']; rfl
  have hQ : gQ S' = gQ S := by rw [← hS']; rfl
  have hpne : par P a ≠ nx S := by omega
  have bd : uBd S' (nx S) l h (rup P a zz * 2 ^ psh P a) A0 ph c := by
    rw [← hS']
    unfold uBd
    simp only [gI_sI, gIJ, gI_nO, hpne, and_false, if_false, h12, h13]
    simp
    simp only [gJ_sI]
    show up2 _ 16 (nx S) _ 16 (nx S) = _
    unfold up2 va_up
    simp
  clear hS'
  refine ⟨S', rfl, ?_, bd⟩
  have hG' : uG P S' R L t := uG_X (by omega) (fun f p hp _ => hI f p hp) (fun f p hp _ => hP f p hp) (fun b hb => (hS.2.2.2.2 b hb).1) ⟨rfl, rfl, rfl⟩ (fun _ _ => rfl) hA.2.2.2.1
  exact uA_F hA hG' ⟨by omega, fun f p hp _ _ _ _ => hI f p hp, fun f p hp _ _ _ => hP f p hp, hN, hRr, hQ⟩ uRF.rf uSl.rf (fun f hf _ => hf)
theorem pow_n {v : Nat} (h0 : 0 < v) (h : v &&& (v - 1) = 0) : ∃ A, v = 2 ^ A := by
  have h1 : 2 ^ v.log2 ≤ v := Nat.log2_self_le (by omega)
  have h2 : v < 2 ^ (v.log2 + 1) := Nat.lt_log2_self
  generalize v.log2 = A at *
  refine ⟨A, ?_⟩
  apply Classical.byContradiction
  intro hne
  have hp := Nat.two_pow_pos A
  rw [Nat.pow_succ] at h2
  have t1 : v.testBit A = true := by
    rw [Nat.testBit_eq_decide_div_mod_eq, Nat.div_eq_of_lt_le (k := 1) (by omega) (by omega)]; rfl
  have t2 : (v - 1).testBit A = true := by
    rw [Nat.testBit_eq_decide_div_mod_eq, Nat.div_eq_of_lt_le (k := 1) (by omega) (by omega)]; rfl
  have := Nat.testBit_and v (v - 1) A
  rw [h, t1, t2] at this
  simp at this
theorem pow_ok {x : Int32} (h : ¬ x ≤ 0) (h2 : x &&& (x - 1) = 0) : ∃ A, A < 31 ∧ x = nI (2 ^ A) := by
  obtain ⟨v, v1, v2, rfl⟩ := pos_nI h
  obtain ⟨w, rfl⟩ : ∃ w, v = w + 1 := ⟨v - 1, by omega⟩
  rw [nI_pred, fa_and] at h2
  have hle : (w + 1) &&& w ≤ w := Nat.and_le_right
  have : (w + 1) &&& w = 0 := by
    have := (nI_eq (a := (w + 1) &&& w) (b := 0) (by omega) (by omega)).mp h2
    exact this
  obtain ⟨A, hA⟩ := pow_n (v := w + 1) (by omega) this
  refine ⟨A, ?_, by rw [hA]⟩
  apply Classical.byContradiction
  intro hge
  have := Nat.pow_le_pow_right (n := 2) (by decide) (show 31 ≤ A by omega)
  omega
set_option maxHeartbeats 2000000 in
theorem jtw {F : Nat} {P : Par} {x : Nat} {S : Cst} {R : Rst} {L : List En} {M : Pil} {Q : Pad} {H : List (Nat × Int32)} {t a q0 l h z A0 ph c : Nat} {r : Int32} {q : Option Nat} (hF : 1000 ≤ F) (hA : uA P x S R L M Q H t) (ha : a < pn P) (hq : uBd S q0 l h z A0 ph c) (h6 : R.2 6 a = nI l) (h7 : R.2 7 a = nI h) (hl : l ≤ 1073741824) (hh : h ≤ 1073741824) (hz : z < 2 ^ 34) (hz1 : 1 ≤ z) (hdz : 2 ^ psh P a ∣ z) (hA0 : A0 < 31) (hpA : psh P a ≤ A0) (hp : ph < 2 ^ A0) (hdp : 2 ^ psh P a ∣ ph) (hc : c = 0 ∨ ∃ C, C < 31 ∧ c = 2 ^ C) (hlen : L.length + (liv R).length ≤ 560) (ht : t + 3 < 2147483648) (hw : uFw L a l h z (2 ^ A0) ph c r q) :
    ∃ S' R' L' v, rf_takeWithin_163 F R (nI a) (nI (2 ^ A0)) (nI ph) (nI c) (lN z) r = some (v, R') ∧ cf_X6_takeWithin_134 F x S (some (par P a)) (some q0) q = some (.inr (v, S')) ∧ uA P x S' R' L' M Q H (t + 3) := by
  have ha8 : a < 8 := by have := hA.1.1; omega
  have hA2 : 2 ^ A0 < 2 ^ 31 := Nat.pow_lt_pow_right (by decide) hA0
  have hc31 : c < 2 ^ 31 := by
    rcases hc with rfl | ⟨C, hC, rfl⟩
    · decide
    · exact Nat.pow_lt_pow_right (by decide) hC
  unfold rf_takeWithin_163 cf_X6_takeWithin_134
  rcases hw with ⟨rfl, rfl⟩ | ⟨A, e, B, v, rfl, rfl, rfl, hea, hO, hv⟩
  · rw [if_pos rfl, ncN]
    exact ⟨S, R, L, -1, rfl, rfl, uA_mono hA (by omega)⟩
  · have hG := hA.2.2.2.1
    have hRL := hG.2.2.1
    obtain ⟨k1, k2, g1, g2, g3, g4, g5, g6, g7⟩ := uRL_g hRL (k := A.length) (e := e) get_mid
    have hfd := hG.2.2.2.1.1 e (by simp)
    have hE := hG.1.1 e (by simp)
    obtain ⟨n1, n2, n3, n4, n5, n6⟩ := bz_ok hE
    obtain ⟨dv1, dv2⟩ := uEl_dv hA.1.1 ha hE hea
    have win : rf_within F R (nI A.length) (lN z) (nI (2 ^ A0)).toInt64 (nI ph).toInt64 (nI c).toInt64 = some (w64 (wv l h z (2 ^ A0) ph c e)) := by
      rw [nI_l (by omega), nI_l (by omega), nI_l (by omega)]
      exact within_ok hRL ha8 hea n1 n2 h6 h7 n3 hl hh hz hz1 hA2 hp (by omega)
    have bin : cf_X1_baseIn F S q0 (some e.1) = some (w64 (wv l h z (2 ^ A0) ph c e)) := baseIn_ok hq (by rw [hfd.2.1]; exact n1) (by rw [hfd.2.2.1]; exact n2) n3 hl hh hz hz1 hA0 hp hc
    obtain ⟨w1, w2, kk, w3⟩ := wres_s hp hv
    have hbv : bN e ≤ v := by
      by_cases hq : bN e < l
      · rw [if_pos hq] at w1; omega
      · rw [if_neg hq] at w1; exact w1
    have hvz : v + z ≤ bN e + zN e := by
      by_cases hq : h < bN e + zN e
      · rw [if_pos hq] at w2; omega
      · rw [if_neg hq] at w2; exact w2
    have hdv : 2 ^ psh P a ∣ v := by
      rw [w3]
      exact Nat.dvd_add (Nat.dvd_trans (Nat.pow_dvd_pow 2 hpA) (Nat.dvd_mul_left _ _)) hdp
    have hdb : 2 ^ psh P a ∣ bN e := by rw [← n4] at dv1; exact Int.natCast_dvd_natCast.mp dv1
    rw [if_neg (nI_nm1 (k := A.length) (by omega)), win, Option.bind_some, rd_n (f := 12) k2, rd_n (f := 13) k2, rd_n (f := 16) k2, rd_n (f := 12) k2, g2, g3, g6, hv, ncS, nnS, bin, Option.bind_some, hv, nnS, hq.1]
    simp only [w64, lN_32]
    have tz : (nI z).toInt = (z : Int) := nI_toInt (by omega)
    have tv : (nI v).toInt = (v : Int) := nI_toInt (by omega)
    have hd : ((2 ^ psh P a : Nat) : Int) ∣ (nI z).toInt := by rw [tz]; exact Int.natCast_dvd_natCast.mpr hdz
    have hsub : nI v - eB e = nI (v - bN e) := by
      rw [n1]
      have : nI v = nI (v - bN e) + nI (bN e) := by rw [nI_add, Nat.sub_add_cancel hbv]
      rw [this]; grind
    simp only [hsub]
    by_cases hvb : v = bN e
    · have hvB : nI v = eB e := by rw [n1, hvb]
      rw [if_pos (show nI (v - bN e) ≤ 0 by rw [hvb, Nat.sub_self]; decide)]
      obtain ⟨S', R', B', j1, j2, j3, j4, j5, j6, j7, j8, j9⟩ := jcut (F := F) (w := 4) (n := nI z) hF hA.1 hA.2.1 hG ha hea hO (by rw [tz]; omega) (by rw [tz, ← n5]; omega) hd (by omega) (by omega)
      unfold cf_X0_carve
      rw [nnS, hfd.2.1, hvB, if_pos (by rw [Int32.le_iff_toInt_le]; exact Int.le_refl _), j1, j2, Option.bind_some, Option.bind_some, Option.bind_some]
      simp only [st2, nnS]
      have h80 := (j3.2.2.2.1.1 (e.1, (eA e, eB e, nI z, 4, eT e, eS e, eC e)) (by simp)).2.1
      refine ⟨S', R', _, eB e, rfl, by rw [show gI S' 80 e.1 = eB e from h80], uA_mono (uA_F hA j3 j4 j5.u j6 (fun f hf ho => ?_)) (by omega)⟩
      simp only [List.mem_append, List.mem_cons] at hf ⊢
      rcases hf with hf | rfl | hf
      · exact Or.inl hf
      · cases ho
      · rcases j7 f hf with hf | hf
        · exact Or.inr (Or.inr hf)
        · rw [hf] at ho; cases ho
    · have tm : (nI (v - bN e)).toInt = ((v - bN e : Nat) : Int) := nI_toInt (by omega)
      have hB : eB e + nI (v - bN e) = nI v := by rw [n1, nI_add]; exact congrArg nI (by omega)
      have hZ : (eB e + eZ e) - nI v = eZ e - nI (v - bN e) := by rw [← hB]; grind
      rw [if_neg (show ¬ nI (v - bN e) ≤ 0 from nI_nle (by omega) (by omega)), hZ]
      obtain ⟨S', R', L', j1, j2, j3, j4, j5, j6, j7, j8⟩ := jcarve (F := F) (m := nI (v - bN e)) (n := nI z) hF hA.1 hA.2.1 hG ha hea hO (by rw [tm]; omega) (by rw [tz]; omega) (by rw [tz, tm, ← n5]; omega) (by rw [tm]; exact Int.natCast_dvd_natCast.mpr (Nat.dvd_sub hdv hdb)) hd (by omega) ht
      rw [hB] at j1 j2 j3
      rw [hea] at j3
      rw [wr_n (f := 13) k2] at j3 ⊢
      have e1 : ((rf_frees F (rset R 13 A.length (nI (v - bN e))) (nI A.length)).bind fun R22 => (rf_insert F R22 (nI a) (nI v) (eZ e - nI (v - bN e)) (eS e)).bind fun z23 => st2 z23 fun z23v z23R => (rf_cut F z23R z23v (nI z) 4).bind fun R24 => some (nI v, R24)) = (((rf_frees F (rset R 13 A.length (nI (v - bN e))) (nI A.length)).bind fun R22 => (rf_insert F R22 (nI a) (nI v) (eZ e - nI (v - bN e)) (eS e)).bind fun w => rf_cut F w.2 w.1 (nI z) 4)).bind fun R24 => some (nI v, R24) := by
        simp only [Option.bind_assoc, st2]
      rw [e1, j3, j1, Option.bind_some, Option.bind_some]
      simp only [st2, nnS]
      exact ⟨S', R', L', nI v, rfl, by rw [j2], uA_F hA j4 j5 j6.u j7 j8⟩
