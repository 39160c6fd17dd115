/-! ===== pure part: all objects of a pile go to their slabs ===== -/
/-- what a look at a slab needs -/
def uW (P : Par) (S : Cst) (R : Rst) (L : List En) (t : Nat) : Prop := uStR P R ∧ uG P S R L t ∧ (∀ a i e, isSl P L a i e → gI S 88 e.1 = nI (osz P a i) ∧ gI S 89 e.1 = nI (onm P a i)) ∧ (∀ a i, vd P a i → gI S 32 (pca P a i) = nI (osz P a i)) ∧ (∀ e ∈ L, eO e = 2 → eC e ≠ 0)
theorem uA.w {P : Par} {x : Nat} {S : Cst} {R : Rst} {L : List En} {M : Pil} {Q : Pad} {H : List (Nat × Int32)} {t : Nat} (h : uA P x S R L M Q H t) : uW P S R L t := ⟨h.1, h.2.2.2.1, fun a i e he => ⟨(h.2.2.2.2.1.2.1 a i e he).1, (h.2.2.2.2.1.2.1 a i e he).2.1⟩, fun a i hv => (h.2.2.2.2.1.1.1 a i hv).2.1, h.2.2.2.2.1.2.2.2.2.2.2.2⟩
theorem cslabW {F : Nat} {P : Par} {S : Cst} {R : Rst} {L : List En} {t a i : Nat} {e : En} (hW : uW P S R L t) (hv : vd P a i) (he : e ∈ L) (hea : eA e = nI a) : cf_X5_isSlabOf F S e.1 (some (pca P a i)) = some (if eC e = nI i then 1 else 0) := by
  obtain ⟨hR, hG, w1, w2, w3⟩ := hW
  have hfd := hG.2.2.2.1.1 e he
  unfold cf_X5_isSlabOf
  rw [hfd.2.2.2.1]
  by_cases ho : eO e = 2
  · rw [if_pos ho]
    obtain ⟨i', hi⟩ := sl_of hR hG.1 he hv.1 hea (w3 e he ho)
    simp only [nnS]
    rw [(w1 a i' e hi).1, w2 a i hv, hi.2.2.2]
    have s1 := sl_num hR hv
    have s2 := sl_num hR hi.1
    by_cases q : i' = i
    · subst q; rw [if_pos rfl, if_pos rfl]
    · rw [if_neg (fun z => q (osz_inj ((nI_eq (by omega) (by omega)).mp z))), if_neg (fun z => q ((nI_eq (by omega) (by omega)).mp z))]
  · rw [if_neg ho, if_neg]
    intro z
    exact nI_c0 hR hv (z.symm.trans (eC0 (hG.1.1 e he) ho))
theorem slabHoldW {F : Nat} {P : Par} {S : Cst} {R : Rst} {L : List En} {t a i j : Nat} {e : En} (hF : 1000 ≤ F) (hW : uW P S R L t) (h : isSl P L a i e) (hj : j < onm P a i) : cf_X0_slabHolding F S (par P a) (some (pca P a i)) (ob P a i e j) = some (some e.1) := by
  have hW' := hW
  obtain ⟨hR, hG, w1, w2, w3⟩ := hW
  unfold cf_X0_slabHolding
  rw [hold_ok hF hG h.1.1, find_in hG.1 h.2.1 h.2.2.1 (ob_in hR hG.1 h hj), Option.bind_some, Option.map_some, ncS, cslabW hW' h.1 h.2.1 h.2.2.1, if_pos h.2.2.2, Option.bind_some, if_neg (by decide)]
theorem objAtW {F : Nat} {P : Par} {S : Cst} {R : Rst} {L : List En} {t a i j : Nat} {e : En} (hW : uW P S R L t) (h : isSl P L a i e) (hj : j < onm P a i) : cf_X5_objectAt F S e.1 (ob P a i e j) = some (nI j) := by
  obtain ⟨hR, hG, w1, w2, w3⟩ := hW
  have hfd := hG.2.2.2.1.1 e h.2.1
  obtain ⟨n1, n2, n3, n4, n5, n6, n7⟩ := sl_num hR h.1
  obtain ⟨k1, k2, k3, k4, k5⟩ := ob_ok hR hG.1 h hj
  obtain ⟨s1, s2⟩ := w1 a i e h
  unfold cf_X5_objectAt
  rw [s1, s2, hfd.2.1, if_neg (nI_nle n5 (by omega)), if_pos (by rw [Int32.le_iff_toInt_le, k1]; show eb e ≤ _; omega)]
  have hsub : ob P a i e j - eB e = nI (j * osz P a i) := by unfold ob; grind
  unfold dv
  rw [if_neg (nI_ne0 n5 (by omega)), hsub, pk_div (by omega) n5 (by omega), Nat.mul_div_cancel _ n5, if_neg (nI_ge hj (by omega))]
/-- all but the reference's caches -/
def uB (P : Par) (x : Nat) (S : Cst) (R : Rst) (L : List En) (M : Pil) (Q : Pad) (H : List (Nat × Int32)) (t : Nat) : Prop := uStR P R ∧ uStS P x S ∧ uDy P x S R ∧ uG P S R L t ∧ uKc P S L M Q H
theorem uB.w {P : Par} {x : Nat} {S : Cst} {R : Rst} {L : List En} {M : Pil} {Q : Pad} {H : List (Nat × Int32)} {t : Nat} (h : uB P x S R L M Q H t) : uW P S R L t := ⟨h.1, h.2.2.2.1, fun a i e he => ⟨(h.2.2.2.2.2.1 a i e he).1, (h.2.2.2.2.2.1 a i e he).2.1⟩, fun a i hv => (h.2.2.2.2.1.1 a i hv).2.1, h.2.2.2.2.2.2.2.2.2.2.2⟩
theorem uW_P {P : Par} {x : Nat} {S S' : Cst} {R : Rst} {L : List En} {t : Nat} (h : uW P S R L t) (hS : uStS P x S) (g : uPF S S') : uW P S' R L t := by
  obtain ⟨hR, hG, w1, w2, w3⟩ := h
  refine ⟨hR, uG_C hS hG g.c uCR.rf, fun a i e he => ?_, fun a i hv => ?_, w3⟩
  · rw [g.2.1 88 _ (by decide), g.2.1 89 _ (by decide)]; exact w1 a i e he
  · rw [g.2.1 32 _ (by decide)]; exact w2 a i hv
theorem mset_pm {M : Pil} {a i k : Nat} {l : List Int32} {b : Int32} (hk : k < 5) (hM : M a i k = l ++ [b]) : (fl M a i).Perm (b :: fl (mset M a i k l) a i) := by
  rw [List.perm_iff_count]
  intro v
  rcases (by omega : k = 0 ∨ k = 1 ∨ k = 2 ∨ k = 3 ∨ k = 4) with rfl | rfl | rfl | rfl | rfl <;> (unfold fl mset; simp [hM, List.count_cons]; omega)
theorem mset_pm2 {M : Pil} {a i k : Nat} {b : Int32} (hk : k < 5) : (fl (mset M a i k (M a i k ++ [b])) a i).Perm (b :: fl M a i) := by
  rw [List.perm_iff_count]
  intro v
  rcases (by omega : k = 0 ∨ k = 1 ∨ k = 2 ∨ k = 3 ∨ k = 4) with rfl | rfl | rfl | rfl | rfl <;> (unfold fl mset; simp [List.count_cons]; omega)
theorem mset_fl {M : Pil} {a i k a' i' : Nat} {l : List Int32} (h : ¬ (a' = a ∧ i' = i)) : fl (mset M a i k l) a' i' = fl M a' i' := by
  have : ∀ k', ¬ (a' = a ∧ i' = i ∧ k' = k) := fun k' z => h ⟨z.1, z.2.1⟩
  unfold fl mset
  rw [if_neg (this 0), if_neg (this 1), if_neg (this 2), if_neg (this 3), if_neg (this 4)]
set_option maxHeartbeats 1000000 in
theorem lay_lp {F : Nat} {P : Par} {x : Nat} {R : Rst} {L : List En} {Q : Pad} {H : List (Nat × Int32)} {t a i k : Nat} (hF : 1000 ≤ F) (hv : vd P a i) (hk : k < 5) : ∀ (N : Nat) (S : Cst) (M : Pil) (c n : Nat), uB P x S R L M Q H t → (M a i k).length = N → c + N ≤ 12 → N < n →
    ∃ S', cf_X6_layAll_2 F n S (some (par P a)) (some (pca P a i)) (some (Q a i k).1) (nI c) = some S' ∧ uB P x S' R L (mset M a i k []) Q H t := by
  intro N
  induction N with
  | zero =>
    intro S M c n hB hN hc hn
    obtain ⟨n, rfl⟩ : ∃ m, n = m + 1 := ⟨n - 1, by omega⟩
    have hM : M a i k = [] := List.eq_nil_of_length_eq_zero hN
    have h65 := (hB.2.2.2.2.1.2.2.1 a i k hv hk).2.2.1
    have e : mset M a i k [] = M := by
      funext a' i' k'; unfold mset
      by_cases z : a' = a ∧ i' = i ∧ k' = k
      · obtain ⟨rfl, rfl, rfl⟩ := z; simp [hM]
      · rw [if_neg z]
    refine ⟨S, ?_, by rw [e]; exact hB⟩
    simp only [cf_X6_layAll_2, nnS]
    rw [h65, hN]
    by_cases h12 : (12 : Int32) ≤ nI c
    · rw [if_pos h12]
    · rw [if_neg h12, if_pos (by decide)]
  | succ N ih =>
    intro S M c n hB hN hc hn
    obtain ⟨n, rfl⟩ : ∃ m, n = m + 1 := ⟨n - 1, by omega⟩
    obtain ⟨l, b, hM⟩ : ∃ l b, M a i k = l ++ [b] := by
      rcases list_snoc (M a i k) with q | ⟨l, b, q⟩
      · rw [q] at hN; cases hN
      · exact ⟨l, b, q⟩
    have hlN : l.length = N := by rw [hM] at hN; simpa using hN
    have hB0 := hB
    obtain ⟨hR, hS, hD, hG, hp, hs, ho⟩ := hB
    have hbm : b ∈ fl M a i := fl_mem hk (by rw [hM]; simp)
    obtain ⟨e, j, h1, h2, h3⟩ := ho.2.1 a i b hv hbm
    have hbn : b ≠ -1 := by rw [h3]; exact ob_nm1 hR hG.1 h1 h2
    have h65 := (hp.2.2.1 a i k hv hk).2.2.1
    have hj32 : j < 32 := by have := (sl_num hR hv).2.1; omega
    -- the pull
    have hS1 : uPF S (sI S 65 (Q a i k).1 (nI l.length)) := uPF_65
    have hp1 := uKp_pull hp hv hk hM
    have hW1 := uW_P hB0.w hS hS1
    generalize hS1' : sI S 65 (Q a i k).1 (nI l.length) = S1 at *
    have hlay : cf_X5_lay F S1 e.1 (nI j) = some (sI S1 90 e.1 (gI S1 90 e.1 ||| ((1 : Int32) <<< (nI j &&& 31)))) := by
      unfold cf_X5_lay; rw [if_neg (nI_pos (by omega))]; rfl
    generalize hS2 : sI S1 90 e.1 (gI S1 90 e.1 ||| ((1 : Int32) <<< (nI j &&& 31))) = S2 at hlay
    have i2 : ∀ f p, gI S2 f p = if f = 90 ∧ p = e.1 then gI S1 90 e.1 ||| ((1 : Int32) <<< (nI j &&& 31)) else gI S1 f p := fun f p => by rw [← hS2, gI_sI]
    have hcf : uCF S S2 := by
      refine hS1.c.tr ?_
      rw [← hS2]
      exact ⟨rfl, fun f p _ h => by rw [gI_sI, if_neg (fun z => h ⟨by omega, by omega⟩)], fun _ _ _ _ => rfl, rfl, rfl⟩
    have hpm := mset_pm hk hM
    have hnd := hpm.nodup_iff.mp (ho.2.2.2.1 a i hv)
    have hbm' : b ∉ fl (mset M a i k l) a i := (List.nodup_cons.mp hnd).1
    have hbH : (a, b) ∉ H := ho.2.2.2.2.1 a i b hv hbm
    have memo : ∀ a' i' v, vd P a' i' → ¬ (a' = a ∧ i' = i ∧ v = b) → (v ∈ fl (mset M a i k l) a' i' ↔ v ∈ fl M a' i') := by
      intro a' i' v _ hne
      by_cases z : a' = a ∧ i' = i
      · obtain ⟨rfl, rfl⟩ := z
        rw [hpm.mem_iff, List.mem_cons]
        constructor
        · intro q; exact Or.inr q
        · rintro (q | q)
          · exact absurd ⟨rfl, rfl, q⟩ hne
          · exact q
      · rw [mset_fl z]
    have subm : ∀ a' i' v, vd P a' i' → v ∈ fl (mset M a i k l) a' i' → v ∈ fl M a' i' := by
      intro a' i' v _ hv'
      by_cases z : a' = a ∧ i' = i
      · obtain ⟨rfl, rfl⟩ := z
        rw [hpm.mem_iff]; exact List.mem_cons_of_mem _ hv'
      · rw [mset_fl z] at hv'; exact hv'
    have hks : uKs P S2 L (mset M a i k l) H := by
      have i1 : ∀ f p, f ≠ 65 → gI S1 f p = gI S f p := hS1.2.1
      refine uKs_upd hR hG.1 hG.2.2.2.1.2.1 h1 h2 hs (fun f p hf => ?_) (fun f p hp' hf => ?_) (fun l' hl' hne => ⟨?_, ?_⟩) ?_ ?_ (fun p hp' => Iff.rfl) (by rw [← h3]; exact memo)
      · rw [i2, if_neg (by omega), i1 f p (by omega)]
      · rw [i2, if_neg (fun z => hp' z.2), i1 f p (by omega)]
      · rw [i2, if_neg (by omega), i1 91 _ (by decide)]
      · rw [i2, if_pos ⟨rfl, rfl⟩, b_set hj32 hl', i1 90 _ (by decide)]; simp [hne]
      · rw [i2, if_neg (by omega), i1 91 _ (by decide), (hs a i e h1).2.2.1 j hj32]
        exact ⟨fun z => z.2, fun z => ⟨h2, z⟩⟩
      · rw [i2, if_pos ⟨rfl, rfl⟩, b_set hj32 hj32, ← h3]
        simp [hbH, hbm']
    have hko : uKo P L (mset M a i k l) H := by
      refine ⟨ho.1, fun a' i' v hv' hm => ho.2.1 a' i' v hv' (subm a' i' v hv' hm), ho.2.2.1, fun a' i' hv' => ?_, fun a' i' v hv' hm => ho.2.2.2.2.1 a' i' v hv' (subm a' i' v hv' hm), ho.2.2.2.2.2⟩
      by_cases z : a' = a ∧ i' = i
      · obtain ⟨rfl, rfl⟩ := z; exact (List.nodup_cons.mp hnd).2
      · rw [mset_fl z]; exact ho.2.2.2.1 a' i' hv'
    have hkp : uKp P S2 (mset M a i k l) Q := by
      obtain ⟨q1, q2, q3, q4, q5⟩ := hp1
      rw [← hS2]
      refine ⟨fun a' i' hv' => ?_, q2, fun a' i' k' hv' hk' => ?_, q4, q5⟩
      · rw [gI_sI, if_neg (by omega)]; exact q1 a' i' hv'
      · rw [gI_sI, if_neg (by omega)]; exact q3 a' i' k' hv' hk'
    have hB2 : uB P x S2 R L (mset M a i k l) Q H t := ⟨hR, uStS_C hS hcf, uDy_C hD hcf uCR.rf, uG_C hS hG hcf uCR.rf, hkp, hks, hko⟩
    obtain ⟨S', r1, r2⟩ := ih S2 (mset M a i k l) (c + 1) n hB2 (by unfold mset; simp [hlN]) (by omega) (by omega)
    refine ⟨S', ?_, ?_⟩
    · simp only [cf_X6_layAll_2, nnS]
      rw [if_neg (show ¬ (12 : Int32) ≤ nI c from nI_ge (b := 12) (by omega) (by omega)), h65, hN, if_neg (nI_nle (by omega) (by omega)), pull_ok hp hv hk hM (by omega) hbn, Option.bind_some]
      simp only [st2]
      rw [hS1', h3, slabHoldW hF hW1 h1 h2, Option.bind_some, ncS, objAtW hW1 h1 h2, Option.bind_some, hlay, Option.bind_some, nI_1]
      exact r1
    · have e2 : mset (mset M a i k l) a i k [] = mset M a i k [] := by
        funext a' i' k'; unfold mset; grind
      rw [e2] at r2; exact r2
theorem lay_ok {F : Nat} {P : Par} {x : Nat} {S : Cst} {R : Rst} {L : List En} {M : Pil} {Q : Pad} {H : List (Nat × Int32)} {t a i k : Nat} (hF : 1000 ≤ F) (hv : vd P a i) (hk : k < 5) (hB : uB P x S R L M Q H t) (hl : (M a i k).length ≤ 12) : ∃ S', cf_X6_layAll F S (some (par P a)) (some (pca P a i)) (some (Q a i k).1) = some S' ∧ uB P x S' R L (mset M a i k []) Q H t := lay_lp hF hv hk _ S M 0 F hB rfl (by omega) (by omega)
