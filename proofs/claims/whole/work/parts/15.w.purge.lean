/-! ===== pure part: TO PURGE ===== -/
theorem cacheOf_ok {F : Nat} {P : Par} {x : Nat} {S : Cst} {R : Rst} {a i : Nat} (hR : uStR P R) (hS : uStS P x S) (hv : vd P a i) : cf_X0_cacheOf F S (par P a) (nI i) = some (some (pca P a i)) := by
  obtain ⟨_, _, _, _, _, _, _, tt, k8, k9, k10⟩ := hS.2.2.2.2 a hv.1
  have h8 := (sl_num hR hv).2.2.2.2.2.2
  have h1 := hv.2.1
  have h2 := hv.2.2
  unfold cf_X0_cacheOf
  simp only [st1, nnS, k8]
  rw [if_neg (show ¬ nI i < (1 : Int32) from nI_nlt (b := 1) h1 (by omega)), k9, if_neg (show ¬ Int32.ofNat 8 < nI i from nI_nlt (a := 8) (by omega) (by omega))]
  obtain ⟨j, rfl⟩ : ∃ j, i = j + 1 := ⟨i - 1, by omega⟩
  unfold cqd
  rw [nI_pred, k9, if_pos (inb_n (show j < 8 by omega) (by omega)), nI_clamp (by omega), k10 j (by omega), if_pos (by omega)]
theorem mset5 {M : Pil} {a i : Nat} : mset (mset (mset (mset (mset M a i 0 []) a i 1 []) a i 2 []) a i 3 []) a i 4 [] = mclr M a i := by
  funext a' i' k
  unfold mset mclr
  by_cases h : a' = a ∧ i' = i
  · obtain ⟨rfl, rfl⟩ := h
    by_cases hk : k < 5
    · rw [if_pos (c := _ ∧ _ ∧ k < 5) ⟨rfl, rfl, hk⟩]
      rcases (by omega : k = 0 ∨ k = 1 ∨ k = 2 ∨ k = 3 ∨ k = 4) with rfl | rfl | rfl | rfl | rfl <;> simp
    · simp [hk]
      rw [if_neg (by omega), if_neg (by omega), if_neg (by omega), if_neg (by omega), if_neg (by omega)]
  · have : ∀ k', ¬ (a' = a ∧ i' = i ∧ k = k') := fun k' z => h ⟨z.1, z.2.1⟩
    rw [if_neg (this 4), if_neg (this 3), if_neg (this 2), if_neg (this 1), if_neg (this 0), if_neg (fun z => h ⟨z.1, z.2.1⟩)]
theorem mset_o {M : Pil} {a i k k' : Nat} {l : List Int32} (h : k' ≠ k) : mset M a i k l a i k' = M a i k' := by unfold mset; rw [if_neg (fun z => h z.2.2)]
set_option maxHeartbeats 1000000 in
/-- all of the piles of one size -/
theorem lay5 {F : Nat} {P : Par} {x : Nat} {S : Cst} {R : Rst} {L : List En} {M : Pil} {Q : Pad} {H : List (Nat × Int32)} {t a i : Nat} {α : Type} (k : Cst → Option α) (hF : 1000 ≤ F) (hA : uA P x S R L M Q H t) (hv : vd P a i) :
    ∃ S', (st1 (gP S 33 (pca P a i)) fun q7 => nn q7 fun b8 => st1 (gP S 48 b8) fun q9 => (cf_X6_layAll F S (some (par P a)) (some (pca P a i)) q9).bind fun S10 => st1 (gP S10 33 (pca P a i)) fun q11 => nn q11 fun b12 => st1 (gP S10 49 b12) fun q13 => (cf_X6_layAll F S10 (some (par P a)) (some (pca P a i)) q13).bind fun S14 => st1 (gP S14 34 (pca P a i)) fun q15 => nn q15 fun b16 => st1 (gP S14 48 b16) fun q17 => (cf_X6_layAll F S14 (some (par P a)) (some (pca P a i)) q17).bind fun S18 => st1 (gP S18 34 (pca P a i)) fun q19 => nn q19 fun b20 => st1 (gP S18 49 b20) fun q21 => (cf_X6_layAll F S18 (some (par P a)) (some (pca P a i)) q21).bind fun S22 => st1 (gP S22 35 (pca P a i)) fun q23 => (cf_X6_layAll F S22 (some (par P a)) (some (pca P a i)) q23).bind fun S24 => k S24) = k S' ∧ uB P x S' R L (mclr M a i) Q H t := by
  have hR := hA.1
  have ha8 : a < 8 := by have := hR.1; have := hv.1; omega
  have hi8 : i ≤ 8 := (sl_num hR hv).2.2.2.2.2.2
  have hr := hA.2.2.2.2.2
  have len : ∀ k, k < 5 → (M a i k).length ≤ 12 := by
    intro k hk
    by_cases h4 : k = 4
    · subst h4
      obtain ⟨D, d1, d2, _⟩ := hr.2.1 a i ha8 hi8
      omega
    · have := (hr.1 a i k ha8 hi8 (by omega)).2.1
      omega
  have hB0 := uB.of hA
  have p0 := hB0.2.2.2.2.1
  obtain ⟨S1, e1, hB1⟩ := lay_ok hF hv (k := 0) (by decide) hB0 (len 0 (by decide))
  have p1 := hB1.2.2.2.2.1
  obtain ⟨S2, e2, hB2⟩ := lay_ok hF hv (k := 1) (by decide) hB1 (by rw [mset_o (by decide)]; exact len 1 (by decide))
  have p2 := hB2.2.2.2.2.1
  obtain ⟨S3, e3, hB3⟩ := lay_ok hF hv (k := 2) (by decide) hB2 (by rw [mset_o (by decide), mset_o (by decide)]; exact len 2 (by decide))
  have p3 := hB3.2.2.2.2.1
  obtain ⟨S4, e4, hB4⟩ := lay_ok hF hv (k := 3) (by decide) hB3 (by rw [mset_o (by decide), mset_o (by decide), mset_o (by decide)]; exact len 3 (by decide))
  have p4 := hB4.2.2.2.2.1
  obtain ⟨S5, e5, hB5⟩ := lay_ok hF hv (k := 4) (by decide) hB4 (by rw [mset_o (by decide), mset_o (by decide), mset_o (by decide), mset_o (by decide)]; exact len 4 (by decide))
  rw [mset5] at hB5
  refine ⟨S5, ?_, hB5⟩
  simp only [st1]
  rw [(p0.1 a i hv).2.2.1, nnS, (p0.2.1 a i 0 hv (by decide)).2.1, e1, Option.bind_some, (p1.1 a i hv).2.2.1, nnS, (p1.2.1 a i 0 hv (by decide)).2.2, e2, Option.bind_some, (p2.1 a i hv).2.2.2.1, nnS, (p2.2.1 a i 1 hv (by decide)).2.1, e3, Option.bind_some, (p3.1 a i hv).2.2.2.1, nnS, (p3.2.1 a i 1 hv (by decide)).2.2, e4, Option.bind_some, (p4.1 a i hv).2.2.2.2, e5, Option.bind_some]
set_option maxHeartbeats 1000000 in
theorem purge_lp {F : Nat} {P : Par} {x : Nat} {Q : Pad} {H : List (Nat × Int32)} {a : Nat} (hF : 1000000 ≤ F) (ha : a < pn P) : ∀ (d i n n' : Nat) (S : Cst) (R : Rst) (L : List En) (M : Pil) (t g : Nat), uA P x S R L M Q H t → i + d = pch P a + 1 → 1 ≤ i → g + tot L ≤ 600 → t + 9 * tot L < 2147483648 → d < n → d < n' →
    ∃ S' R' L' M' g', rf_purges_14 F n R (nI a) (nI g) (nI i) = some (nI g', R') ∧ cf_X6_sweep_14 F n' S (some (par P a)) (nI g) (nI i) = some (nI g', S') ∧ uA P x S' R' L' M' Q H (t + 9 * (g' - g)) ∧ g ≤ g' ∧ g' + tot L' ≤ g + tot L ∧ L'.length + (liv R').length ≤ L.length + (liv R).length := by
  intro d
  induction d with
  | zero =>
    intro i n n' S R L M t g hA hi h1 hg ht hn hn'
    obtain ⟨n, rfl⟩ : ∃ m, n = m + 1 := ⟨n - 1, by omega⟩
    obtain ⟨n', rfl⟩ : ∃ m, n' = m + 1 := ⟨n' - 1, by omega⟩
    have hq := hA.1.2.2 a ha
    have ha8 : a < 8 := by have := hA.1.1; omega
    refine ⟨S, R, L, M, g, ?_, ?_, by simpa using hA, Nat.le_refl _, Nat.le_refl _, Nat.le_refl _⟩
    · simp only [rf_purges_14]
      rw [rd_n (f := 4) (show a < rlen 4 from ha8), hq.2.2.2.1, if_pos (nI_lt (by omega) (by omega))]
    · simp only [cf_X6_sweep_14, nnS]
      rw [(hA.2.1.2.2.2.2 a ha).2.2.2.2.2.1, if_pos (nI_lt (by omega) (by omega))]
  | succ d ih =>
    intro i n n' S R L M t g hA hi h1 hg ht hn hn'
    obtain ⟨n, rfl⟩ : ∃ m, n = m + 1 := ⟨n - 1, by omega⟩
    obtain ⟨n', rfl⟩ : ∃ m, n' = m + 1 := ⟨n' - 1, by omega⟩
    have hq := hA.1.2.2 a ha
    have ha8 : a < 8 := by have := hA.1.1; omega
    have hv : vd P a i := ⟨ha, h1, by omega⟩
    have hi8 : i ≤ 8 := (sl_num hA.1 hv).2.2.2.2.2.2
    obtain ⟨R1, r1, r2, r3⟩ := rclr (F := F) (kr := rf_purges_14 F n) (g := nI g) (by omega) hA.2.2.2.2.2 ha8 ha hi8
    obtain ⟨S1, s1, s2⟩ := lay5 (F := F) (fun S24 => (cf_X0_idleSlab F S24 (par P a) (some (pca P a i))).bind fun q25 => cf_X6_sweep_98 F (cf_X6_sweep_14 F n') F S24 (some (par P a)) (nI g) (nI i) (some (pca P a i)) q25) (by omega) hA hv
    have hA1 : uA P x S1 R1 L (mclr M a i) Q H t := ⟨uStR_C s2.1 r3, s2.2.1, uDy_C s2.2.2.1 uCF.rf r3, uG_C s2.2.1 s2.2.2.2.1 uCF.rf r3, s2.2.2.2.2, r2⟩
    have hl600 := tot_le L
    have h600 := hA.2.2.2.1.2.2.1.2.1
    have hfu : (tot L + 1) * 601 < F := by
      have : (tot L + 1) * 601 ≤ 601 * 601 := Nat.mul_le_mul_right _ (by omega)
      omega
    obtain ⟨S2, R2, L2, g2, a1, a2, a3, a4, a5, a6⟩ := purge_i (F := F) (kr := rf_purges_14 F n) (kc := cf_X6_sweep_14 F n') (by omega) hv mclr_fl (tot L) S1 R1 L [] L t g F F hA1 rfl (fun f hf => by cases hf) (Nat.le_refl _) hfu (by omega) hg ht
    obtain ⟨S3, R3, L3, M3, g3, b1, b2, b3, b4, b5, b6⟩ := ih (i + 1) n n' S2 R2 L2 (mclr M a i) (t + 9 * (g2 - g)) g2 a3 (by omega) (by omega) (by omega) (by omega) (by omega) (by omega)
    refine ⟨S3, R3, L3, M3, g3, ?_, ?_, uA_mono b3 (by omega), by omega, by omega, ?_⟩
    · simp only [rf_purges_14]
      have mg : rf_magazine F R (nI a) (nI i) 0 0 = some (nI (4 * (9 * a + i))) := mag_ok (d := 0) (w := 0)
      rw [rd_n (f := 4) (show a < rlen 4 from ha8), hq.2.2.2.1, if_neg (nI_nlt (by omega) (by omega)), mg, Option.bind_some, r1]
      have a1' : rf_purges_74 F (rf_purges_14 F n) F R1 (nI a) (nI g) (nI i) 0 = rf_purges_14 F n R2 (nI a) (nI g2) (nI i + 1) := a1
      rw [a1', nI_1, b1]
    · simp only [cf_X6_sweep_14, nnS]
      rw [(hA.2.1.2.2.2.2 a ha).2.2.2.2.2.1, if_neg (nI_nlt (by omega) (by omega)), cacheOf_ok hA.1 hA.2.1 hv, Option.bind_some, ncS]
      refine Eq.trans s1 ?_
      rw [idle_ok (by omega) s2 hv mclr_fl, Option.bind_some, a2, nI_1, b2]
    · have hl : liv R1 = liv R := by unfold liv; rw [r3.2 22 (by decide)]
      rw [hl] at a6
      omega
theorem jpurge {F : Nat} {P : Par} {x : Nat} {S : Cst} {R : Rst} {L : List En} {M : Pil} {Q : Pad} {H : List (Nat × Int32)} {t a : Nat} (hF : 1000000 ≤ F) (hA : uA P x S R L M Q H t) (ha : a < pn P) (ht : t + 5400 < 2147483648) :
    ∃ S' R' L' M' g, rf_purges F R (nI a) = some (nI g, R') ∧ cf_X6_sweep F S (some (par P a)) = some (nI g, S') ∧ uA P x S' R' L' M' Q H (t + 5400) ∧ g ≤ 600 ∧ L'.length + (liv R').length ≤ L.length + (liv R).length := by
  have ha8 : a < 8 := by have := hA.1.1; omega
  have hinj := hA.2.1.2.2.2.1
  have hDa := hA.2.2.1
  have hA1 : uA P x (sI S 15 (par P a) (gI S 15 (par P a) + 1)) (rset R 9 a (R.2 9 a + 1)) L M Q H t := by
    refine uA_D hA ⟨rfl, fun f p hf => by rw [gI_sI, if_neg (fun z => hf ⟨by omega, by omega⟩)], rfl, rfl, rfl, rfl⟩ ⟨fun _ => rfl, fun f hf => rset_f (fun z => hf ⟨by omega, by omega⟩)⟩ ⟨fun b hb => ?_, uZr_set rfl rfl rfl ha hA.2.2.1.2⟩
    obtain ⟨q1, q2, q3, q4, q5, q6⟩ := hDa.1 b hb
    rw [gI_sI, if_neg (by omega), gI_sI, if_neg (by omega), gI_sI, if_neg (by omega), gI_sI, if_neg (by omega), gI_sI, rset_f (by decide), rset_f (by decide), rset_f (by decide), rset_f (by decide), rset_g]
    refine ⟨q1, q2, q3, q4, ?_, q6⟩
    by_cases hb2 : b = a
    · subst hb2; rw [if_pos ⟨rfl, rfl⟩, if_pos ⟨rfl, rfl⟩, q5]
    · rw [if_neg (fun z => hb2 (hinj b a hb ha z.2)), if_neg (fun z => hb2 z.2)]; exact q5
  have hl600 := tot_le L
  have h600 := hA.2.2.2.1.2.2.1.2.1
  have hc := (hA.1.2.2 a ha).2.1
  obtain ⟨S', R', L', M', g', b1, b2, b3, b4, b5, b6⟩ := purge_lp (F := F) hF ha (pch P a) 1 F F _ _ L M t 0 hA1 (by omega) (by decide) (by omega) (by omega) (by omega) (by omega)
  refine ⟨S', R', L', M', g', ?_, ?_, uA_mono b3 (by omega), by omega, ?_⟩
  · unfold rf_purges
    rw [rd_n (f := 9) (show a < rlen 9 from ha8), wr_n (f := 9) (show a < rlen 9 from ha8)]
    exact b1
  · unfold cf_X6_sweep
    simp only [nnS, st1]
    exact b2
  · have hl : liv (rset R 9 a (R.2 9 a + 1)) = liv R := by unfold liv; rw [rset_f (by decide)]
    rw [hl] at b6; exact b6
/-! rounding up -/
theorem lNa (a b : Nat) : lN a + lN b = lN (a + b) := (Int64.ofNat_add a b).symm
theorem lNm (a b : Nat) : lN a * lN b = lN (a * b) := (Int64.ofNat_mul a b).symm
theorem lNp (n : Nat) : lN (n + 1) - 1 = lN n := by rw [← lNa]; show lN n + 1 - 1 = lN n; grind
theorem lN_neg : ∀ k, k < 17 → -(lN (2 ^ k)) = lN (2 ^ 64 - 2 ^ k) := by decide +kernel
theorem andL (a b : Nat) : lN a &&& lN b = lN (a &&& b) := by
  apply Int64.toBitVec_inj.mp
  rw [Int64.toBitVec_and]
  show BitVec.ofNat 64 a &&& BitVec.ofNat 64 b = BitVec.ofNat 64 (a &&& b)
  apply BitVec.eq_of_getLsbD_eq
  intro i hi
  rw [BitVec.getLsbD_and, BitVec.getLsbD_ofNat, BitVec.getLsbD_ofNat, BitVec.getLsbD_ofNat, Nat.testBit_and]
  simp [hi]
theorem and_up {v k : Nat} (hv : v < 2 ^ 64) (hk : k < 17) : v &&& (2 ^ 64 - 2 ^ k) = v / 2 ^ k * 2 ^ k := by
  have h1 : 2 ^ 64 - 2 ^ k = 2 ^ k * (2 ^ (64 - k) - 1) := by
    rw [Nat.mul_sub, Nat.mul_one, ← Nat.pow_add, show k + (64 - k) = 64 by omega]
  rw [h1, Nat.mul_comm (v / 2 ^ k)]
  apply Nat.eq_of_testBit_eq
  intro i
  rw [Nat.testBit_and, Nat.testBit_two_pow_mul, Nat.testBit_two_pow_mul, Nat.testBit_two_pow_sub_one, Nat.testBit_div_two_pow]
  by_cases hik : i ≥ k
  · have e : i - k + k = i := by omega
    simp only [hik, decide_true, Bool.true_and, e]
    by_cases h64 : i < 64
    · have : i - k < 64 - k := by omega
      simp [this]
    · have hz : v.testBit i = false := Nat.testBit_lt_two_pow (Nat.lt_of_lt_of_le hv (Nat.pow_le_pow_right (by decide) (by omega)))
      simp [hz]
  · simp [hik]
def rup (P : Par) (a z : Nat) : Nat := (z + 2 ^ psh P a - 1) / 2 ^ psh P a
theorem cround {F : Nat} {P : Par} {x : Nat} {S : Cst} {R : Rst} {a z : Nat} (hR : uStR P R) (hS : uStS P x S) (ha : a < pn P) (hz : 1 ≤ z) (hz2 : z < 2147483648) : cf_X0_roundUp F S (par P a) (nI z) = some (lN (rup P a z * 2 ^ psh P a)) := by
  have hq := hR.2.2 a ha
  have hp0 := Nat.two_pow_pos (psh P a)
  have hp := pw16 hq.1
  unfold cf_X0_roundUp rup
  rw [(hS.2.2.2.2 a ha).2.2.1, nI_l (by omega), nI_l (by omega), lNa]
  obtain ⟨y, hy⟩ : ∃ y, z + 2 ^ psh P a = y + 1 := ⟨z + 2 ^ psh P a - 1, by omega⟩
  rw [hy, lNp, lN_neg _ (by omega), andL, and_up (by omega) (by omega), Nat.add_sub_cancel]
theorem rround {P : Par} {R : Rst} {a z : Nat} (hR : uStR P R) (ha : a < pn P) (hz : 1 ≤ z) (hz2 : z < 2147483648) : ((((nI z).toInt64 + (nI (2 ^ psh P a)).toInt64) - 1) / (nI (2 ^ psh P a)).toInt64) * (nI (2 ^ psh P a)).toInt64 = lN (rup P a z * 2 ^ psh P a) := by
  have hq := hR.2.2 a ha
  have hp0 := Nat.two_pow_pos (psh P a)
  have hp := pw16 hq.1
  unfold rup
  rw [nI_l (by omega), nI_l (by omega), lNa]
  obtain ⟨y, hy⟩ : ∃ y, z + 2 ^ psh P a = y + 1 := ⟨z + 2 ^ psh P a - 1, by omega⟩
  rw [hy, lNp, pk_lDiv (by omega) hp0 (by omega), lNm, Nat.add_sub_cancel]
theorem rup_ok {P : Par} {R : Rst} {a z : Nat} (hR : uStR P R) (ha : a < pn P) (hz : 1 ≤ z) : 1 ≤ rup P a z ∧ z ≤ rup P a z * 2 ^ psh P a ∧ rup P a z * 2 ^ psh P a < z + 2 ^ psh P a := by
  have hp0 := Nat.two_pow_pos (psh P a)
  unfold rup
  have h1 := Nat.div_add_mod (z + 2 ^ psh P a - 1) (2 ^ psh P a)
  have h2 := Nat.mod_lt (z + 2 ^ psh P a - 1) hp0
  rw [Nat.mul_comm] at h1
  generalize (z + 2 ^ psh P a - 1) / 2 ^ psh P a = w at *
  refine ⟨?_, by omega, by omega⟩
  rcases Nat.eq_zero_or_pos w with h | h
  · subst h; omega
  · exact h
