/-! ===== pure part: OUT of a cache ===== -/
theorem deskAt_ok {F : Nat} {P : Par} {S : Cst} {M : Pil} {Q : Pad} {a i d : Nat} (h : uKp P S M Q) (hv : vd P a i) (hd : d < 2) : cf_X2_deskAt F S (pca P a i) (nI d) = some (some (pdk P a i d)) := by
  unfold cf_X2_deskAt
  simp only [st1]
  rcases (by omega : d = 0 ∨ d = 1) with rfl | rfl
  · rw [if_pos (by decide), (h.1 a i hv).2.2.1]
  · rw [if_neg (by decide), (h.1 a i hv).2.2.2.1]
set_option maxHeartbeats 2000000 in
theorem jout {F : Nat} {P : Par} {x : Nat} {S : Cst} {R : Rst} {L : List En} {M : Pil} {Q : Pad} {H : List (Nat × Int32)} {t a i d : Nat} (hF : 1000000 ≤ F) (hA : uA P x S R L M Q H t) (hv : vd P a i) (hd : d < 2) (hH : H.length < 512) (hlen : L.length + (liv R).length ≤ 560) (ht : t + 50000 < 2147483648) :
    ∃ r S' R' L' M' Q' H', ((cf_X6_takeLoaded F S (some (par P a)) (some (pca P a i)) (nI d)).bind fun z15 => st2 z15 fun z15v z15S => if z15v = ((-1) : Int32) then ((cf_X6_takeLying F z15S (some (par P a)) (some (pca P a i))).bind fun z17 => st2 z17 fun z17v z17S => some ((.inr (z17v, z17S)) : Thr Int32)) else (some (.inr (z15v, z15S)))) = some (.inr (r, S')) ∧
      ((rf_out F R (nI a) (nI i) (nI d)).bind fun z13 => st2 z13 fun z13v z13R => if z13v = ((-1) : Int32) then (some (((-1) : Int32), z13R)) else (wr z13R 26 (z13R.1 25) (nI a) fun R15 => wr R15 27 (R15.1 25) z13v fun R16 => st1 (rput R16 25 ((R16.1 25) + 1)) fun R17 => some (z13v, R17))) = some (r, R') ∧ uA P x S' R' L' M' Q' H' (t + 50000) ∧ H'.length ≤ H.length + 1 := by
  have hFt : 1000 ≤ F := Nat.le_trans (by decide) hF
  have hR := hA.1
  have ha := hv.1
  have ha8 : a < 8 := by have := hR.1; omega
  have hi8 : i ≤ 8 := (sl_num hR hv).2.2.2.2.2.2
  have hp0 := hA.2.2.2.2.1.1
  obtain ⟨S1, R1, Q1, l, s, dp, j1, j2, hA1, j4, j5⟩ := jload hFt hA hv hd
  have hp1 := hA1.2.2.2.2.1.1
  have hr1 := hA1.2.2.2.2.2
  obtain ⟨⟨l1, l2, l3⟩, _, _⟩ := uKr_gl hr1 ha8 hi8 hd
  have hm : 4 * (9 * a + i) + 2 * d < rlen 28 := by show _ < 288; omega
  have hq48 := (hp1.2.1 a i d hv hd).2.1
  rw [j2]
  unfold cf_X6_takeLoaded
  simp only [nnS, st1]
  rw [deskAt_ok hp0 hv hd, Option.bind_some, (hp0.1 a i hv).2.2.2.2, nnS, j1, Option.bind_some, hq48, nnS]
  unfold rf_out_151
  rw [rd_n hm, l1]
  rcases list_snoc l with rfl | ⟨l', b, rfl⟩
  · -- by the slabs
    obtain ⟨rfl, rfl⟩ := j4 rfl
    rw [pull_0 hp1 hv (by omega) m3_gl, Option.bind_some, if_pos (show nI ([] : List Int32).length ≤ 0 by decide)]
    simp only [st2]
    rw [slabHold_m1 hFt hA1.2.2.2.1 ha, Option.bind_some, ncN, Option.bind_some]
    simp only []
    rw [if_pos trivial]
    obtain ⟨r, q, w1, w2, w3⟩ := low_ok hFt hA1 hv
    unfold cf_X6_takeLying
    simp only [nnS]
    rw [w1, w2, Option.bind_some, Option.bind_some]
    rcases w3 with ⟨rfl, rfl⟩ | ⟨e, j, e1, e2, e3, e4, rfl, rfl⟩
    · rw [ncN, if_pos rfl, ssz_ok hFt hA1.1 ha, Option.bind_some, rd_n (f := 2) (show a < rlen 2 from ha8), (hA1.1.2.2 a ha).2.2.1, (hA1.2.1.2.2.2.2 a ha).2.2.2.2.2.2.1]
      have hp16 := pw16 (hR.2.2 a ha).1
      have hpos := Nat.two_pow_pos (psh P a)
      have hn := sl_num hR hv
      have hs32 : slb (pch P a) * 2 ^ psh P a ≤ 32 * 65536 := Nat.mul_le_mul hn.2.2.2.1 hp16
      have hs1 : 1 ≤ slb (pch P a) := by
        have : 3 * 1 ≤ onm P a i * i := Nat.mul_le_mul hn.1 hv.2.1
        have := hn.2.2.1
        omega
      rw [nI_l (n := slb (pch P a) * 2 ^ psh P a) (by omega), nI_l (n := slb (pch P a)) (by omega), nI_l (n := 2 ^ psh P a) (by omega), lNm]
      have hl1 : liv R1 = liv R := by unfold liv; rw [j5.2 22 (by decide)]
      have hlen1 : L.length + (liv R1).length + 3 * a + 2 ≤ 600 := by rw [hl1]; omega
      have ht1 : t + 5410 * a + 5402 < 2147483648 := by
        have : 5410 * a ≤ 5410 * 7 := Nat.mul_le_mul_left _ (by omega)
        omega
      have ht2 : t + 5410 * a + 5402 + 1 < 2147483648 := by
        have : 5410 * a ≤ 5410 * 7 := Nat.mul_le_mul_left _ (by omega)
        omega
      have ht3 : t + 5410 * a + 5402 + 1 ≤ t + 50000 := by
        have : 5410 * a ≤ 5410 * 7 := Nat.mul_le_mul_left _ (by omega)
        omega
      obtain ⟨S2, R2, L2, M2, k1, k2, k3⟩ := jfind (δ := 0) (d := 8) (way := 1) (w := 2) hF ha (fun c hc => jt_all hF c (by omega)) hA1 hs1 rfl (by omega) hlen1 ht1 (by omega) (by omega)
      rw [show (0 : Int32) = nI 0 from rfl]
      rcases k3 with ⟨o1, o2⟩ | ⟨A, e, B, e1, e2, e3, e4, o1, o2⟩
      · obtain ⟨S3, R3, f1, f2, f3, f4⟩ := jfail (F := F) (z := lN (slb (pch P a) * 2 ^ psh P a)) (z' := nI (slb (pch P a) * 2 ^ psh P a)) (way := 1) (w := 2) (cf_X6_obtain F 8) (rf_takes F 8) k1 ha
        rw [o1, o2, f1, f2, Option.bind_some, Option.bind_some]
        exact ⟨-1, S3, R3, L2, M2, Q1, H, rfl, rfl, uA_mono f3 (Nat.le_of_succ_le ht3), Nat.le_succ _⟩
      · subst e1
        have hroom : (A ++ e :: B).length + (liv R2).length < 600 := by
          rw [hl1] at k2
          clear ht ht1 ht2 ht3
          omega
        obtain ⟨S3, R3, S4, L4, e5, g1, g2, g3, g4, g5, g6, g7, g8, g9, g10, g11, g12⟩ := jnew (cf_X6_obtain F 8) (rf_takes F 8) hFt k1 hv e2 e3 e4 hroom ht2
        have hbm : eB e ≠ -1 := by rw [← g10]; exact ob_nm1 g7.1 g7.2.2.2.1.1 g8 (by omega)
        obtain ⟨S5, h1, h2⟩ := hlow (F := F) g7 g8 (show 0 < onm P a i by omega) g11 (fun j' hj' => by omega) hH
        rw [g9, g10] at h1
        rw [g10] at h2
        rw [o1, o2, g1, g2, Option.bind_some, Option.bind_some]
        simp only [st2, nnS]
        rw [ncS, if_neg hbm, g3, g4, Option.bind_some, h1, Option.bind_some, g5]
        simp only [Option.bind_some]
        rw [wr_n (f := 17) g6]
        simp only [Option.bind_some]
        rw [if_neg hbm]
        have h25 : (rset R3 17 A.length (nI i)).1 25 = nI H.length := g7.2.2.2.2.2.2.2.2.2.1
        rw [rapp_w h25 (by omega)]
        exact ⟨_, S5, _, L4, M2, Q1, _, rfl, rfl, uA_mono h2 ht3, by simp⟩
    · have hbm : ob P a i e j ≠ -1 := ob_nm1 hA1.1 hA1.2.2.2.1.1 e1 e2
      obtain ⟨S5, h1, h2⟩ := hlow (F := F) hA1 e1 e2 e3 e4 hH
      rw [ncS, if_neg hbm, h1, Option.bind_some, Option.bind_some]
      simp only [st2]
      rw [if_neg hbm]
      have h25 : R1.1 25 = nI H.length := hr1.2.2.2.2.1
      rw [rapp_w h25 (by omega)]
      exact ⟨_, S5, _, L, _, Q1, _, rfl, rfl, uA_mono h2 (by omega), by simp⟩
  · -- by the magazines
    have hbf : b ∈ fl (m3 M a i d (l' ++ [b]) s dp) a i := fl_mem (k := 2 * d) (by omega) (by rw [m3_gl]; simp)
    obtain ⟨e, j, e1, e2, e3⟩ := hA1.2.2.2.2.1.2.2.2.1 a i b hv hbf
    have hbm : b ≠ -1 := fl_nm1 hA1 hv hbf
    have hl3 : l'.length < 3 := by simp at l2; omega
    have hMl : m3 M a i d (l' ++ [b]) s dp a i (2 * d) = l' ++ [b] := m3_gl
    have hpl := pull_ok (F := F) hp1 hv (by omega) hMl (by omega) hbm
    have hkp := uKp_pull hp1 hv (by omega) hMl
    rw [m3_l] at hkp
    have hkr := rpop hr1 ha8 ha hi8 hd
    have hW := uW_P hA1.w hA1.2.1 (uPF_65 (S := S1) (p := (Q1 a i (2 * d)).1) (v := nI l'.length))
    have hpm := mset_pm (k := 2 * d) (by omega) hMl
    rw [m3_l] at hpm
    have hnd := hpm.nodup_iff.mp (hA1.2.2.2.2.1.2.2.2.2.2.1 a i hv)
    have hmo : ∀ a' i' v, vd P a' i' → ¬ (a' = a ∧ i' = i ∧ v = b) → (v ∈ fl (m3 M a i d l' s dp) a' i' ↔ v ∈ fl (m3 M a i d (l' ++ [b]) s dp) a' i') := by
      intro a' i' v _ hne
      by_cases z : a' = a ∧ i' = i
      · obtain ⟨rfl, rfl⟩ := z
        rw [hpm.mem_iff, List.mem_cons]
        exact ⟨Or.inr, fun q => q.elim (fun q => absurd ⟨rfl, rfl, q⟩ hne) id⟩
      · rw [m3_fl z, m3_fl z]
    subst e3
    obtain ⟨S2, h1, h2, _⟩ := jhold (F := F) hA1 e1 e2 hkp uPF_65 hkr (uCR_set (by decide) (by decide)) hH (hA1.2.2.2.2.1.2.2.2.2.2.2.1 a i _ hv hbf) (List.nodup_cons.mp hnd).1 hmo (fun a' i' hv' => by
      by_cases z : a' = a ∧ i' = i
      · obtain ⟨rfl, rfl⟩ := z; exact (List.nodup_cons.mp hnd).2
      · rw [m3_fl z]
        have := hA1.2.2.2.2.1.2.2.2.2.2.1 a' i' hv'
        rw [m3_fl z] at this; exact this)
    rw [hpl, Option.bind_some]
    simp only [st2]
    rw [slabHoldW hFt hW e1 e2, Option.bind_some, ncS, objAtW hW e1 e2, Option.bind_some, h1, Option.bind_some, Option.bind_some]
    simp only []
    rw [if_neg hbm]
    have hlen2 : (l' ++ [ob P a i e j]).length = l'.length + 1 := by simp
    rw [hlen2, if_neg (nI_nle (by omega) (by omega)), rd_n hm, l1, hlen2, nI_pred, wr_n hm, rd_n hm, rset_g, if_pos ⟨rfl, rfl⟩, m3x, rd_n (f := 29) (show 3 * (4 * (9 * a + i) + 2 * d) + l'.length < rlen 29 by show _ < 864; omega), rset_f (by decide), l3 l'.length (ob P a i e j) (by simp), Option.bind_some]
    simp only []
    rw [if_neg hbm]
    have h25 : (rset R1 28 (4 * (9 * a + i) + 2 * d) (nI l'.length)).1 25 = nI H.length := hr1.2.2.2.2.1
    rw [rapp_w h25 (by omega)]
    exact ⟨_, S2, _, L, _, Q1, _, rfl, rfl, uA_mono h2 (by omega), by simp⟩
