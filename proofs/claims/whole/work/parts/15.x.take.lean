/-! ===== pure part: TO TAKE ===== -/
theorem lN_32 (n : Nat) : (lN n).toInt32 = nI n := by
  apply Int32.toBitVec_inj.mp
  show (BitVec.ofNat 64 n).signExtend 32 = BitVec.ofNat 32 n
  apply BitVec.eq_of_getLsbD_eq
  intro i hi
  rw [BitVec.getLsbD_signExtend, BitVec.getLsbD_ofNat, BitVec.getLsbD_ofNat]
  have : i < 64 := by omega
  simp [hi, this]
theorem lg30 {z : Nat} (hz : z < 8589934592) : lg_cmp (lN z) 1073741824 ≤ 0 ↔ z ≤ 1073741824 := by
  rw [lg_le0, pk_lT (by omega), show (1073741824 : Int64).toInt = 1073741824 by decide]
  omega
theorem lg30' {z : Nat} (hz : z < 8589934592) : 0 < lg_cmp (lN z) 1073741824 ↔ 1073741824 < z := by
  rw [lg_0lt, pk_lT (by omega), show (1073741824 : Int64).toInt = 1073741824 by decide]
  omega
/-- found or not, before it is taken -/
def uFo (F : Nat) (P : Par) (x : Nat) (Q : Pad) (H : List (Nat × Int32)) (a z : Nat) (way w : Int32) (kO : Cst → Option Nat → Int64 → Int32 → Int32 → Int32 → Option (Option Nat × Cst)) (kT : Rst → Int32 → Int64 → Int32 → Int32 → Option (Int32 × Rst)) (c : Option (Option Nat × Cst)) (r : Option (Int32 × Rst)) (len t : Nat) : Prop :=
  ∃ S1 R1 L1 M1, uA P x S1 R1 L1 M1 Q H t ∧ L1.length + (liv R1).length ≤ len ∧ ((c = cf_X6_obtain_67 F kO S1 (some (par P a)) (lN z) way w none ∧ r = rf_takes_75 F kT R1 (nI a) way w (nI z) (-1)) ∨ (∃ A e B, L1 = A ++ e :: B ∧ eA e = nI a ∧ eO e = 0 ∧ (z : Int) ≤ ez e ∧ c = cf_X6_obtain_67 F kO S1 (some (par P a)) (lN z) way w (some e.1) ∧ r = rf_takes_75 F kT R1 (nI a) way w (nI z) (nI A.length)))
theorem uFo_of {F : Nat} {P : Par} {x : Nat} {S : Cst} {R : Rst} {L : List En} {M : Pil} {Q : Pad} {H : List (Nat × Int32)} {t a z len : Nat} {way w ρ : Int32} {κ : Option Nat} {kO : Cst → Option Nat → Int64 → Int32 → Int32 → Int32 → Option (Option Nat × Cst)} {kT : Rst → Int32 → Int64 → Int32 → Int32 → Option (Int32 × Rst)} (hA : uA P x S R L M Q H t) (hl : L.length + (liv R).length ≤ len) (hz : z ≤ 1073741824) (h : uFn L a (nI z) ρ κ) : uFo F P x Q H a z way w kO kT (cf_X6_obtain_67 F kO S (some (par P a)) (lN z) way w κ) (rf_takes_75 F kT R (nI a) way w (nI z) ρ) len t := by
  refine ⟨S, R, L, M, hA, hl, ?_⟩
  rcases h with ⟨rfl, rfl⟩ | ⟨A, e, B, h1, rfl, rfl, h4, h5, h6⟩
  · exact Or.inl ⟨rfl, rfl⟩
  · rw [nI_toInt (by omega)] at h6
    exact Or.inr ⟨A, e, B, h1, h4, h5, h6, rfl, rfl⟩
theorem jpg {F : Nat} {P : Par} {x : Nat} {S : Cst} {R : Rst} {L : List En} {M : Pil} {Q : Pad} {H : List (Nat × Int32)} {t a m z len : Nat} {way w : Int32} (kO : Cst → Option Nat → Int64 → Int32 → Int32 → Int32 → Option (Option Nat × Cst)) (kT : Rst → Int32 → Int64 → Int32 → Int32 → Option (Int32 × Rst)) (hF : 1000000 ≤ F) (hA : uA P x S R L M Q H t) (hl : L.length + (liv R).length ≤ len) (ha : a < pn P) (hm : 1 ≤ m) (hz : z = m * 2 ^ psh P a) (hz2 : z ≤ 1073741824) (ht : t + 5400 < 2147483648) : uFo F P x Q H a z way w kO kT (cf_X6_obtain_46 F kO S (some (par P a)) (lN z) way w none (nI z)) (rf_takes_50 F kT R (nI a) way w (nI z) (-1)) len (t + 5400) := by
  obtain ⟨S1, R1, L1, M1, g, p1, p2, p3, p4, p5⟩ := jpurge hF hA ha ht
  unfold cf_X6_obtain_46 rf_takes_50
  rw [ncN, p2, p1, if_pos rfl, Option.bind_some, Option.bind_some]
  simp only [st2]
  by_cases hg : g = 0
  · subst hg
    rw [if_pos (by decide), if_pos (by decide)]
    exact uFo_of p3 (by omega) hz2 (Or.inl ⟨rfl, rfl⟩)
  · rw [if_neg (nI_nle (by omega) (by omega)), if_neg (nI_nle (by omega) (by omega)), nnS]
    obtain ⟨r, q, f1, f2, f3⟩ := find_ok (F := F) (way := way) (by omega) p3.1 p3.2.1 p3.2.2.1 p3.2.2.2.1 ha hm hz hz2
    rw [f1, f2, Option.bind_some, Option.bind_some]
    exact uFo_of p3 (by omega) hz2 f3
def JT (F : Nat) (P : Par) (x : Nat) (Q : Pad) (H : List (Nat × Int32)) (a : Nat) : Prop := ∀ (S : Cst) (R : Rst) (L : List En) (M : Pil) (t m z : Nat) (way w : Int32) (d δ : Nat), uA P x S R L M Q H t → 1 ≤ m → z = m * 2 ^ psh P a → z < 8589934592 → L.length + (liv R).length + 3 * (a + 1) ≤ 600 → t + 5410 * (a + 1) < 2147483648 → δ + a < 8 → a < d → w ≠ 2 →
  ∃ S' R' L' M', uA P x S' R' L' M' Q H (t + 5410 * (a + 1)) ∧ L'.length + (liv R').length ≤ L.length + (liv R).length + 3 * (a + 1) ∧ ((cf_X6_obtain F d S (some (par P a)) (lN z) way w (nI δ) = some (none, S') ∧ rf_takes F d R (nI a) (lN z) way w = some (-1, R')) ∨ (∃ e ∈ L', cf_X6_obtain F d S (some (par P a)) (lN z) way w (nI δ) = some (some e.1, S') ∧ rf_takes F d R (nI a) (lN z) way w = some (eB e, R') ∧ eA e = nI a ∧ eO e = w ∧ eZ e = nI z ∧ ∀ s a', s < 600 → a' < pn P → R'.2 22 s = 1 → R'.2 19 s = nI a' → psc P a' = some a → R'.2 20 s ≠ eB e))
set_option maxHeartbeats 2000000 in
theorem jimp {F : Nat} {P : Par} {x : Nat} {S : Cst} {R : Rst} {L : List En} {M : Pil} {Q : Pad} {H : List (Nat × Int32)} {t a c m z d δ : Nat} (hF : 1000000 ≤ F) (IH : JT F P x Q H c) (hA : uA P x S R L M Q H t) (ha : a < pn P) (hpc : psc P a = some c) (hm : 1 ≤ m) (hz : z = m * 2 ^ psh P a) (hz2 : z ≤ 1073741824) (hlen : L.length + (liv R).length + 3 * a + 2 ≤ 600) (ht : t + 5410 * a + 1 < 2147483648) (hδ : δ + a < 8) (hd : a ≤ d) :
    ∃ S1 R1 L1 M1, uA P x S1 R1 L1 M1 Q H (t + 5410 * a + 1) ∧ L1.length + (liv R1).length ≤ L.length + (liv R).length + 3 * a + 2 ∧ ((cf_X6_importSpan F (cf_X6_obtain F d) S (some (par P a)) (nI z) (nI δ) = some (none, S1) ∧ rf_imported F (rf_takes F d) R (nI a) (nI z) = some (-1, R1)) ∨ (∃ A e B, L1 = A ++ e :: B ∧ eA e = nI a ∧ eO e = 0 ∧ (z : Int) ≤ ez e ∧ cf_X6_importSpan F (cf_X6_obtain F d) S (some (par P a)) (nI z) (nI δ) = some (some e.1, S1) ∧ rf_imported F (rf_takes F d) R (nI a) (nI z) = some (nI A.length, R1))) := by
  have hR := hA.1
  have hS := hA.2.1
  have ha8 : a < 8 := by have := hR.1; omega
  have hq := hR.2.2 a ha
  have hcc := hq.2.2.2.2.2 c hpc
  have hc : c < pn P := by omega
  have hqc := hR.2.2 c hc
  have hp0 := Nat.two_pow_pos (psh P a)
  have hz1 : 1 ≤ z := by rw [hz]; exact Nat.mul_pos hm hp0
  obtain ⟨u1, u2, u3⟩ := rup_ok (a := c) hR hc hz1
  have hpc16 := pw16 hqc.1
  have hcr := cround (F := F) hR hS hc hz1 (by omega)
  have hrr := rround (z := z) hR hc hz1 (by omega)
  generalize hz' : rup P c z * 2 ^ psh P c = z' at *
  have hpar3 := (hS.2.2.2.2 a ha).2.2.2.2.1
  rw [hpc] at hpar3
  have h3 := hq.2.2.2.2.1
  rw [hpc] at h3
  obtain ⟨S', R', L', M', k1, k2, k3⟩ := IH S R L M t (rup P c z) z' 1 3 d (δ + 1) hA u1 hz'.symm (by omega) (by omega) (by omega) (by omega) (by omega) (by decide)
  have hroom2 : L'.length + (liv R').length + 2 ≤ 600 := by
    have := hcc.1
    clear ht
    omega
  have h5t : t + 5410 * (c + 1) ≤ t + 5410 * a := Nat.add_le_add_left (Nat.mul_le_mul_left _ hcc.1) t
  have hcl : cf_X6_importSpan F (cf_X6_obtain F d) S (some (par P a)) (nI z) (nI δ) = ((cf_X6_obtain F d S (some (par P c)) (lN z') 1 3 (nI (δ + 1))).bind fun z5 => st2 z5 fun z5v z5S => nc z5v (some (none, z5S)) (fun b6 => (cf_X0_open F z5S (par P a) (gI z5S 80 b6) (gI z5S 81 b6)).bind fun z7 => st2 z7 fun z7v z7S => some (z7v, z7S))) := by
    unfold cf_X6_importSpan
    simp only [nnS, st1]
    rw [hpar3, Option.map_some, ncS, hcr, Option.bind_some, nI_1]
  have hrf : rf_imported F (rf_takes F d) R (nI a) (nI z) = ((rf_takes F d R (nI c) (lN z') 1 3).bind fun z6 => st2 z6 fun z6v z6R => if z6v = ((-1) : Int32) then (some (((-1) : Int32), z6R)) else ((rf_addSpan F z6R (nI a) z6v (nI z') (1 : Int32)).bind fun z8 => st2 z8 fun z8v z8R => (rf_position F z8R (nI a) z6v.toInt64).bind fun v9 => some (v9, z8R))) := by
    unfold rf_imported
    have hp0c := Nat.two_pow_pos (psh P c)
    rw [rd_n (f := 3) (show a < rlen 3 from ha8), h3]
    show (if nI c = -1 then _ else _) = _
    rw [if_neg (nI_nm1 (by omega)), rd_n (f := 3) (show a < rlen 3 from ha8), h3]
    show rd R 2 (nI c) _ = _
    rw [rd_n (f := 2) (show c < rlen 2 by show c < 8; omega), hqc.2.2.1]
    unfold dvl
    rw [if_neg (fun w => by
      have := congrArg Int64.toInt w
      rw [Int32.toInt_toInt64, nI_toInt (by omega)] at this
      have e0 : (0 : Int64).toInt = 0 := by decide
      omega)]
    rw [rd_n (f := 3) (show a < rlen 3 from ha8), h3, hrr, lN_32]
  rw [hcl, hrf]
  rcases k3 with ⟨o1, o2⟩ | ⟨e, he, o1, o2, o3, o4, o5, o6⟩
  · refine ⟨S', R', L', M', uA_mono k1 (Nat.le_trans h5t (Nat.le_succ _)), by omega, Or.inl ⟨?_, ?_⟩⟩
    · rw [o1]; rfl
    · rw [o2, Option.bind_some]
      simp only [st2]
      rw [if_pos trivial]
  · have hG := k1.2.2.2.1
    have hE := hG.1.1 e he
    have hsp := uEl_sp hE
    have hfd := hG.2.2.2.1.1 e he
    obtain ⟨dv1, dv2⟩ := uEl_dv hR.1 hc hE o3
    have hpw : ((2 ^ psh P a : Nat) : Int) ∣ ((2 ^ psh P c : Nat) : Int) := by
      have : 2 ^ psh P a ∣ 2 ^ psh P c := Nat.pow_dvd_pow 2 hcc.2
      exact Int.natCast_dvd_natCast.mpr this
    have ebr : eb e = (eB e).toInt := rfl
    have ezr : ez e = (eZ e).toInt := rfl
    have hz30 : z' ≤ 1073741824 := by
      have h1 : ez e = (nI z').toInt := by rw [ezr, o5]
      rw [nI_toInt (by omega)] at h1
      omega
    have hezz : ez e = (z' : Int) := by rw [ezr, o5, nI_toInt (by omega)]
    have hdj : ∀ f ∈ L', eA f = nI a → eb f + ez f ≤ (eB e).toInt ∨ (eB e).toInt + (eZ e).toInt ≤ eb f := by
      intro f hf hfa
      have hEf := hG.1.1 f hf
      have hsf := uEl_sp hEf
      obtain ⟨sf1, sf2, sf3, sf4⟩ := uEl_sl hEf
      obtain ⟨a', a1, a2, a3, a4, a5, a6⟩ := hG.2.1.2.1 (esl f) sf1 sf3
      have haa : a' = a := nI8 hR.1 a1 ha (a2.symm.trans (sf4.trans hfa))
      subst haa
      obtain ⟨g, g1, g2, g3, g4, g5⟩ := a6 c hpc
      have hne := o6 (esl f) a' sf1 ha sf3 (sf4.trans hfa) hpc
      have gb : eb g = spb R' f := by unfold eb spb; rw [g4]
      have gz : ez g = spz R' f := by unfold ez spz; rw [g5]
      by_cases c1 : eb g + ez g ≤ eb e
      · left; omega
      · by_cases c2 : eb e + ez e ≤ eb g
        · right; omega
        · exfalso
          have := uLs_uq hG.1 g1 he (g2.trans o3.symm) (by omega) (by omega)
          subst this
          exact hne g4.symm
    obtain ⟨S2, R2, A, B, s, j1, j2, j3, j4, j5, j6, j7, j8, _⟩ := jopen (im := 1) (Nat.le_trans (by decide) hF : 1000 ≤ F) k1.1 k1.2.1 hG ha (b := eB e) (z := eZ e) hsp.2.2.1 hsp.2.2.2.1 hsp.2.2.2.2 (Int.dvd_trans hpw dv1) (Int.dvd_trans hpw dv2) hdj (fun c' hc' => by
      rw [hpc] at hc'; cases hc'
      exact ⟨⟨e, he, o3, o4, rfl, rfl⟩, o6⟩) hroom2 (Nat.lt_of_le_of_lt (Nat.add_le_add_right h5t 1) ht) (by rw [hpc]; rfl)
    have hA2 := uA_F k1 j4 j5 j6 (fun f hf => by
        rw [j1]
        simp only [List.mem_append, List.mem_cons]
        constructor
        · rintro (h | rfl | h)
          · exact Or.inl h
          · exact absurd rfl hf
          · exact Or.inr h
        · rintro (h | h)
          · exact Or.inl h
          · exact Or.inr (Or.inr h)) (fun f hf ho => by
        rw [j1]
        simp only [List.mem_append, List.mem_cons] at hf ⊢
        rcases hf with h | rfl | h
        · exact Or.inl h
        · cases ho
        · exact Or.inr h)
    refine ⟨S2, R2, _, M', uA_mono hA2 (Nat.add_le_add_right h5t 1), ?_, Or.inr ⟨A, _, B, rfl, rfl, rfl, by show (z : Int) ≤ (eZ e).toInt; omega, ?_, ?_⟩⟩
    · have : L'.length = A.length + B.length := by rw [j1]; simp
      simp
      omega
    · rw [o1, Option.bind_some]
      simp only [st2]
      rw [ncS, hfd.2.1, hfd.2.2.1, j2]
      rfl
    · rw [o2, Option.bind_some]
      simp only [st2]
      have hnm : eB e ≠ -1 := by
        intro w
        have h1 : (-1 : Int32).toInt = -1 := by decide
        rw [w] at ebr
        omega
      rw [if_neg hnm, ← o5, j3, Option.bind_some]
      simp only []
      rw [j7, Option.bind_some]
theorem jfind {F : Nat} {P : Par} {x : Nat} {Q : Pad} {H : List (Nat × Int32)} {a : Nat} (hF : 1000000 ≤ F) (ha : a < pn P) (IH : ∀ c, c < a → JT F P x Q H c) {S : Cst} {R : Rst} {L : List En} {M : Pil} {t m z d δ : Nat} {way w : Int32} (hA : uA P x S R L M Q H t) (hm : 1 ≤ m) (hz : z = m * 2 ^ psh P a) (hz2 : z < 8589934592) (hlen : L.length + (liv R).length + 3 * a + 2 ≤ 600) (ht : t + 5410 * a + 5402 < 2147483648) (hδ : δ + a < 8) (hd : a ≤ d) :
    uFo F P x Q H a z way w (cf_X6_obtain F d) (rf_takes F d) (cf_X6_obtain F (d + 1) S (some (par P a)) (lN z) way w (nI δ)) (rf_takes F (d + 1) R (nI a) (lN z) way w) (L.length + (liv R).length + 3 * a + 2) (t + 5410 * a + 5402) := by
  have hR := hA.1
  have hS := hA.2.1
  have ha8 : a < 8 := by have := hR.1; omega
  have up : ∀ {c r len tt}, tt ≤ t + 5410 * a + 5402 → uFo F P x Q H a z way w (cf_X6_obtain F d) (rf_takes F d) c r len tt → uFo F P x Q H a z way w (cf_X6_obtain F d) (rf_takes F d) c r len (t + 5410 * a + 5402) := by
    rintro c r len tt htt ⟨S1, R1, L1, M1, h1, h2, h3⟩
    exact ⟨S1, R1, L1, M1, uA_mono h1 htt, h2, h3⟩
  show uFo F P x Q H a z way w _ _ (cf_X6_obtainB F (cf_X6_obtain F d) S (some (par P a)) (lN z) way w (nI δ)) (rf_takesB F (rf_takes F d) R (nI a) (lN z) way w) _ _
  unfold cf_X6_obtainB rf_takesB
  by_cases h30 : z ≤ 1073741824
  · rw [if_neg (fun q => by have := (lg30' hz2).mp q; omega), if_neg (show ¬ (8 : Int32) ≤ nI δ from nI_ge (b := 8) (by omega) (by omega)), if_pos ((lg30 hz2).mpr h30), lN_32, nnS]
    obtain ⟨r, q, f1, f2, f3⟩ := find_ok (F := F) (way := way) (by omega) hR hS hA.2.2.1 hA.2.2.2.1 ha hm hz h30
    rw [f1, f2, Option.bind_some, Option.bind_some]
    rcases f3 with ⟨rfl, rfl⟩ | ⟨A, e, B, e1, rfl, rfl, e4, e5, e6⟩
    · rw [ncN, if_pos rfl]
      cases hpc : psc P a with
      | none =>
        have hpar3 := (hS.2.2.2.2 a ha).2.2.2.2.1
        rw [hpc] at hpar3
        have h3 := (hR.2.2 a ha).2.2.2.2.1
        rw [hpc] at h3
        have c1 : cf_X6_importSpan F (cf_X6_obtain F d) S (some (par P a)) (nI z) (nI δ) = some (none, S) := by
          unfold cf_X6_importSpan
          simp only [nnS, st1]
          rw [hpar3]; rfl
        have c2 : rf_imported F (rf_takes F d) R (nI a) (nI z) = some (-1, R) := by
          unfold rf_imported
          rw [rd_n (f := 3) (show a < rlen 3 from ha8), h3]; rfl
        rw [c1, c2, Option.bind_some, Option.bind_some]
        have hj := jpg (way := way) (w := w) (len := L.length + (liv R).length + 3 * a + 2) (cf_X6_obtain F d) (rf_takes F d) hF hA (by omega) ha hm hz h30 (by omega)
        exact up (by omega) hj
      | some c =>
        have hcc := (hR.2.2 a ha).2.2.2.2.2 c hpc
        obtain ⟨S1, R1, L1, M1, i1, i2, i3⟩ := jimp hF (IH c hcc.1) hA ha hpc hm hz h30 hlen (by omega) hδ hd
        rcases i3 with ⟨j1, j2⟩ | ⟨A, e, B, j1, j2, j3, j4, j5, j6⟩
        · rw [j1, j2, Option.bind_some, Option.bind_some]
          have hj := jpg (way := way) (w := w) (cf_X6_obtain F d) (rf_takes F d) hF i1 i2 ha hm hz h30 (by omega)
          exact up (by omega) hj
        · rw [j5, j6, Option.bind_some, Option.bind_some]
          simp only [st2]
          unfold cf_X6_obtain_46 rf_takes_50
          have hlA : A.length < 600 := by
            have := i1.2.2.2.1.2.2.1.2.1
            rw [j1] at this; simp at this; omega
          rw [ncS, if_neg (nI_nm1 (by omega))]
          exact up (by omega) ⟨S1, R1, L1, M1, i1, i2, Or.inr ⟨A, e, B, j1, j2, j3, j4, rfl, rfl⟩⟩
    · have hlA : A.length < 600 := by
        have := hA.2.2.2.1.2.2.1.2.1
        rw [e1] at this; simp at this; omega
      rw [ncS, if_neg (nI_nm1 (by omega))]
      unfold cf_X6_obtain_46 rf_takes_50
      rw [ncS, if_neg (nI_nm1 (by omega))]
      exact up (by omega) (uFo_of hA (by omega) h30 (Or.inr ⟨A, e, B, e1, rfl, rfl, e4, e5, e6⟩))
  · rw [if_pos ((lg30' hz2).mpr (by omega)), if_neg (fun q => h30 ((lg30 hz2).mp q))]
    refine up (Nat.le_refl _) ⟨S, R, L, M, uA_mono hA (by omega), by omega, Or.inl ⟨rfl, ?_⟩⟩
    unfold rf_takes_75
    rw [if_pos rfl]
