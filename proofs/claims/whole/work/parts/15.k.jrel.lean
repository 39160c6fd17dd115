/-! ===== pure part: a segment goes back, through all its sources ===== -/
theorem gtl_1 {F : Nat} {kG : Rst → Int32 → Int32 → Option Rst} {R : Rst} {A B : List En} {e : En} {a : Int32} {s : Nat} (h : uRL R (A ++ e :: B)) (hsl : eS e = nI s) (hs : s < 600) : gtl F kG R a (nI A.length) = if R.2 23 s = 0 then some R else if eZ e = R.2 21 s then ((rf_remove F R (nI A.length)).bind fun R11 => wr R11 22 (nI s) (vp_nar .boolean (0 : Int32)) fun R12 => st1 (rput R12 24 ((R12.1 24) - 1)) fun R13 => rd R13 3 a fun v14 => rd R13 20 (nI s) fun v15 => (kG R13 v14 v15).bind fun R16 => some R16) else some R := by
  obtain ⟨k1, k2, g1, g2, g3, g4, g5, g6, g7⟩ := uRL_g h (k := A.length) (e := e) get_mid
  unfold gtl
  rw [rd_n (f := 16) k2, g6, hsl, rd_n (f := 23) hs, rd_n (f := 13) k2, g3, rd_n (f := 21) hs]
theorem bd_sm {α : Type} (x : Option α) : (x.bind fun y => some y) = x := by cases x <;> rfl
set_option maxHeartbeats 2000000 in
theorem jrel {F : Nat} {P : Par} {x : Nat} (hF : 1000 ≤ F) : ∀ (a : Nat) {S : Cst} {R : Rst} {A B : List En} {e : En} {t δ d n : Nat}, uStR P R → uStS P x S → uG P S R (A ++ e :: B) t → a < pn P → eA e = nI a → eC e = 0 → (∀ s a', s < 600 → a' < pn P → R.2 22 s = 1 → R.2 19 s = nI a' → psc P a' = some a → R.2 20 s ≠ eB e) → t + a + 1 < 2147483648 → δ + a < 8 → a < d → a < n →
    ∃ S' R' L', cf_X6_release_7 F n S (some (par P a)) (some e.1) (nI δ) = some S' ∧ rf_gives F d R (nI a) (eB e) = some R' ∧ uG P S' R' L' (t + a + 1) ∧ uSF S S' ∧ uRF R R' ∧ uSl (A ++ e :: B) L' ∧ L'.length + (liv R').length ≤ (A ++ e :: B).length + (liv R).length ∧ (∀ f ∈ L', eO f = 2 → f ∈ A ++ B) := by
  intro a
  induction a using Nat.strongRecOn with
  | ind a ih =>
    intro S R A B e t δ d n hR hS hG ha hea hC hnl ht hδ hd hn
    obtain ⟨d, rfl⟩ : ∃ m, d = m + 1 := ⟨d - 1, by omega⟩
    obtain ⟨n, rfl⟩ : ∃ m, n = m + 1 := ⟨n - 1, by omega⟩
    obtain ⟨S1, R1, A1, B1, e1, f1, f2, f3, f4, f5, f6, f7, f8, f9, f10, f11, f12, f13, f14, f15, f16, f17, f18⟩ := jfree (F := F) (rf_gives F d) hF hR hS hG ha hea hC hnl (by omega)
    have hP := hR.1
    have hR1 := uStR_F hR f5.u
    have hS1 := uStS_F hS f4
    have hl1 : liv R1 = liv R := by unfold liv; rw [f5.2 22 (by decide)]
    obtain ⟨s1, s2, s3, s4⟩ := uEl_sl (f3.1.1 e1 (by simp))
    obtain ⟨a', a1, a2, a3, a4, a5, a6⟩ := f3.2.1.2.1 (esl e1) s1 s3
    have haa : a' = a := nI8 hP a1 ha (a2.symm.trans (s4.trans f8))
    subst haa
    have hsrc := (hS1.2.2.2.2 a' ha).2.2.2.2.1
    have hlen : (A1 ++ e1 :: B1).length ≤ (A ++ e :: B).length := by simp; omega
    have how : ∀ f ∈ A1 ++ e1 :: B1, eO f = 2 → f ∈ A ++ B := by
      intro f hf ho
      simp only [List.mem_append, List.mem_cons] at hf ⊢
      rcases hf with hf | rfl | hf
      · exact Or.inl (f12 f hf)
      · rw [f10] at ho; cases ho
      · exact Or.inr (f13 f hf)
    have hfd := f3.2.2.2.1.1 e1 (by simp)
    unfold uFd at hfd; rw [f7] at hfd
    have hg : rf_gives F (d + 1) R (nI a') (eB e) = if R1.2 23 (esl e1) = 0 then some R1 else if eZ e1 = R1.2 21 (esl e1) then ((rf_remove F R1 (nI A1.length)).bind fun R11 => wr R11 22 (nI (esl e1)) (vp_nar .boolean (0 : Int32)) fun R12 => st1 (rput R12 24 ((R12.1 24) - 1)) fun R13 => rd R13 3 (nI a') fun v14 => rd R13 20 (nI (esl e1)) fun v15 => (rf_gives F d R13 v14 v15).bind fun R16 => some R16) else some R1 := by
      show rf_givesB F (rf_gives F d) R (nI a') (eB e) = _
      rw [f2, gtl_1 f3.2.2.1 s2 s1]
    rw [hg, a3]
    simp only [cf_X6_release_7]
    rw [if_neg (show ¬ (8 : Int32) ≤ nI δ from nI_ge (a := δ) (b := 8) (by omega) (by omega)), ncS, ncS, f1, Option.bind_some]
    simp only [st1]
    rw [hsrc]
    cases hpc : psc P a' with
    | none =>
      refine ⟨S1, R1, A1 ++ e1 :: B1, rfl, by simp, uG_mono f3 (by omega), f4, f5.u, f6, by rw [hl1]; omega, how⟩
    | some c =>
      have hcc := (hR.2.2 a' ha).2.2.2.2.2 c hpc
      simp only [Option.map_some, ncS, Option.isSome_some, if_true]
      rw [if_neg (show ¬ (1 : Int32) = 0 by decide), hfd.2.2.1, hfd.2.2.2.2.2]
      by_cases hz : eZ e1 = R1.2 21 (esl e1)
      · rw [if_pos hz, if_pos hz]
        obtain ⟨S2, R2, c1, c2, c3, c4, c5, c6, c7, c8, ⟨g, g1, g2, g3, g4, g5⟩, c10, c11⟩ := jclose hF hR1 hS1 f3 ha f8 f10 hpc hz
        rw [f7] at c1 c6 c7
        have hR2 := uStR_F hR1 c5
        have hS2 := uStS_F hS1 c4
        obtain ⟨A2, B2, hAB⟩ := List.append_of_mem g1
        have hgC : eC g = 0 := eC0 (c3.1.1 g g1) (by rw [g3]; decide)
        have c3' := c3
        rw [hAB] at c3'
        obtain ⟨S3, R3, L3, k1, k2, k3, k4, k5, k6, k7, k8⟩ := ih c hcc.1 (δ := δ + 1) (d := d) (n := n) hR2 hS2 c3' (by omega) g2 hgC (by rw [g4]; exact c10) (by omega) (by omega) (by omega) (by omega)
        rw [c1, c2, Option.bind_some, Option.bind_some]
        have hseg := segFrom_ok hF c3 (a := c) (by omega) g1 g2
        rw [g4, g5, g3] at hseg
        rw [c6, c7, hseg, Option.bind_some, nI_1, k1]
        rw [wr_n (f := 22) s1, show vp_nar .boolean (0 : Int32) = 0 by decide]
        rw [rd_n (f := 3) (show a' < 8 by omega), rd_n (f := 20) s1, rset_1, c8]
        have h3 := (hR2.2.2 a' ha).2.2.2.2.1
        rw [hpc] at h3
        rw [h3, ← g4]
        rw [k2]
        refine ⟨S3, R3, L3, rfl, rfl, uG_mono k3 (by omega), f4.tr (c4.tr k4), f5.u.tr (c5.tr k5), ?_, ?_, fun f hf ho => ?_⟩
        · rw [← hAB] at k6
          refine f6.tr (uSl.tr ?_ k6)
          intro f hf
          simp only [List.mem_append, List.mem_cons]
          constructor
          · rintro (h | h)
            · exact Or.inl h
            · exact Or.inr (Or.inr h)
          · rintro (h | rfl | h)
            · exact Or.inl h
            · exact absurd f11 hf
            · exact Or.inr h
        · rw [← hAB] at k7
          have : (A1 ++ e1 :: B1).length = (A1 ++ B1).length + 1 := by simp; omega
          rw [hl1] at c11
          omega
        · have := k8 f hf ho
          have h2 : f ∈ A1 ++ B1 := by
            rw [hAB]
            simp only [List.mem_append, List.mem_cons] at this ⊢
            rcases this with h | h
            · exact Or.inl h
            · exact Or.inr (Or.inr h)
          refine how f ?_ ho
          simp only [List.mem_append, List.mem_cons] at h2 ⊢
          rcases h2 with h | h
          · exact Or.inl h
          · exact Or.inr (Or.inr h)
      · rw [if_neg hz, if_neg hz]
        exact ⟨S1, R1, A1 ++ e1 :: B1, rfl, rfl, uG_mono f3 (by omega), f4, f5.u, f6, by rw [hl1]; omega, how⟩
