/-! ===== pure part: the caches of a new arena ===== -/
theorem gQ_sQ {S : Cst} {a i : Nat} {v : Option Nat} (p k : Nat) : gQ (sQ S a i v) p k = if p = a ∧ k = i then v else gQ S p k := by
  show up2 _ a i v p k = _
  unfold up2 va_up
  by_cases h1 : p = a
  · subst h1
    by_cases h2 : k = i
    · simp [h2]
    · simp [h2]; rfl
  · simp [h1]; rfl
theorem shl_32 : ∀ j, j < 33 → ∀ s, s < 17 → nI j <<< (nI s &&& 31) = nI (j * 2 ^ s) := by decide +kernel
/-- one cache -/
def cw (S : Cst) (c : Nat) (v : Int32) : Prop := gI S 32 c = v ∧ gP S 33 c = some (c + 1) ∧ gP S 34 c = some (c + 6) ∧ gP S 35 c = some (c + 11) ∧ gP S 48 (c + 1) = some (c + 2) ∧ gP S 49 (c + 1) = some (c + 4) ∧ gP S 48 (c + 6) = some (c + 7) ∧ gP S 49 (c + 6) = some (c + 9) ∧ ∀ k, k < 5 → gI S 65 (c + po k) = 0 ∧ gP S 64 (c + po k) = some (c + po k + 1) ∧ gN S (c + po k + 1) = 12
theorem po_lt (k : Nat) : po k ≤ 11 ∧ 2 ≤ po k := by
  unfold po
  by_cases h0 : k = 0
  · rw [if_pos h0]; omega
  · rw [if_neg h0]
    by_cases h1 : k = 1
    · rw [if_pos h1]; omega
    · rw [if_neg h1]
      by_cases h2 : k = 2
      · rw [if_pos h2]; omega
      · rw [if_neg h2]
        by_cases h3 : k = 3
        · rw [if_pos h3]; omega
        · rw [if_neg h3]; omega
theorem cw_fr {S S' : Cst} {c : Nat} {v : Int32} (hI : ∀ f p, p < c + 13 → gI S' f p = gI S f p) (hP : ∀ f p, p < c + 13 → gP S' f p = gP S f p) (hN : ∀ p, p < c + 13 → gN S' p = gN S p) (h : cw S c v) : cw S' c v := by
  obtain ⟨h1, h2, h3, h4, h5, h6, h7, h8, h9⟩ := h
  refine ⟨by rw [hI _ _ (by omega)]; exact h1, by rw [hP _ _ (by omega)]; exact h2, by rw [hP _ _ (by omega)]; exact h3, by rw [hP _ _ (by omega)]; exact h4, by rw [hP _ _ (by omega)]; exact h5, by rw [hP _ _ (by omega)]; exact h6, by rw [hP _ _ (by omega)]; exact h7, by rw [hP _ _ (by omega)]; exact h8, fun k hk => ?_⟩
  have := po_lt k
  rw [hI _ _ (by omega), hP _ _ (by omega), hN _ (by omega)]
  exact h9 k hk
/-- j caches are made -/
def cI (S0 S : Cst) (c0 sh j : Nat) : Prop := nx S = c0 + 2 + 13 * j ∧ (∀ f p, p ≤ c0 → gI S f p = gI S0 f p ∧ gP S f p = gP S0 f p) ∧ (∀ p, p ≤ c0 → gN S p = gN S0 p ∧ gR S p = gR S0 p ∧ gQ S p = gQ S0 p) ∧ gN S (c0 + 1) = 8 ∧ (∀ i, i < 8 → gQ S (c0 + 1) i = if i < j then some (c0 + 2 + 13 * i) else none) ∧ (∀ i, i < j → cw S (c0 + 2 + 13 * i) (nI ((i + 1) * 2 ^ sh))) ∧ (∀ p, nx S ≤ p → gN S p = 0)
set_option maxHeartbeats 1000000 in
theorem init90_ok {F c0 sh m : Nat} {S0 : Cst} (hm : m ≤ 8) (hs : sh < 17) (h2 : gI S0 2 c0 = nI sh) (h6 : gP S0 6 c0 = some (c0 + 1)) : ∀ d j n S, j + d = m → d < n → cI S0 S c0 sh j → ∃ S', cf_X0_init_90 F c0 n S (nI m) (nI j) = some S' ∧ cI S0 S' c0 sh m := by
  intro d
  induction d with
  | zero =>
    intro j n S hj hn h
    obtain ⟨n, rfl⟩ : ∃ k, n = k + 1 := ⟨n - 1, by omega⟩
    simp only [cf_X0_init_90]
    rw [if_pos (nI_le (by omega) (by omega))]
    have : j = m := by omega
    subst this
    exact ⟨S, rfl, h⟩
  | succ d ih =>
    intro j n S hj hn h
    obtain ⟨n, rfl⟩ : ∃ k, n = k + 1 := ⟨n - 1, by omega⟩
    obtain ⟨q1, q2, q3, q4, q5, q6, q7⟩ := h
    simp only [cf_X0_init_90, st1]
    rw [if_neg (nI_ge (by omega) (by omega)), (q2 6 c0 (Nat.le_refl _)).2, h6, nnS, q4, if_neg (show ¬ Int32.ofNat 8 ≤ nI j from nI_ge (b := 8) (by omega) (by omega)), cch_i, Option.bind_some, nnS]
    have e2 : gI (nO S) 2 c0 = nI sh := by rw [gI_nO, if_neg (by omega), (q2 2 c0 (Nat.le_refl _)).1, h2]
    rw [e2, nI_1, shl_32 _ (by omega) _ hs]
    have hx : nx (nO S) = nx S + 1 := rfl
    have cI' := cch_I (S := nO S) (c := nx S) (v := nI ((j + 1) * 2 ^ sh)) hx
    have cP' := cch_P (S := nO S) (c := nx S) (v := nI ((j + 1) * 2 ^ sh)) hx
    have cN' := cch_N (S := nO S) (c := nx S) (v := nI ((j + 1) * 2 ^ sh)) hx
    have cx : nx (cch (nO S) (nx S) (nI ((j + 1) * 2 ^ sh))) = nx S + 13 := rfl
    generalize cch (nO S) (nx S) (nI ((j + 1) * 2 ^ sh)) = S2 at *
    have gI2 : ∀ f p, p < nx S → gI S2 f p = gI S f p := fun f p hp => by rw [cI'.1 f p hp, gI_nO, if_neg (by omega)]
    have gP2 : ∀ f p, p < nx S → gP S2 f p = gP S f p := fun f p hp => by rw [cP'.1 f p hp, gP_nO, if_neg (by omega)]
    have gN2 : ∀ p, p < nx S → gN S2 p = gN S p ∧ gR S2 p = gR S p ∧ gQ S2 p = gQ S p := fun p hp => cN'.1 p (by omega)
    unfold cqw
    rw [(gN2 (c0 + 1) (by omega)).1, q4, if_pos (inb_n (show j < 8 by omega) (by omega)), nI_clamp (by omega)]
    refine ih (j + 1) n _ (by omega) (by omega) ⟨by show nx S2 = _; omega, fun f p hp => ⟨?_, ?_⟩, fun p hp => ⟨?_, ?_, ?_⟩, ?_, fun i hi => ?_, fun i hi => ?_, fun p hp => ?_⟩
    · show gI S2 f p = _; rw [gI2 f p (by omega)]; exact (q2 f p hp).1
    · show gP S2 f p = _; rw [gP2 f p (by omega)]; exact (q2 f p hp).2
    · show gN S2 p = _; rw [(gN2 p (by omega)).1]; exact (q3 p hp).1
    · show gR S2 p = _; rw [(gN2 p (by omega)).2.1]; exact (q3 p hp).2.1
    · funext k
      rw [gQ_sQ, if_neg (by omega), (gN2 p (by omega)).2.2, (q3 p hp).2.2]
    · show gN S2 (c0 + 1) = 8; rw [(gN2 _ (by omega)).1, q4]
    · rw [gQ_sQ, (gN2 _ (by omega)).2.2, q5 i hi]
      by_cases hij : i = j
      · rw [if_pos ⟨rfl, hij⟩, if_pos (by omega), q1, hij]
      · rw [if_neg (fun z => hij z.2)]
        by_cases hlt : i < j
        · rw [if_pos hlt, if_pos (by omega)]
        · rw [if_neg hlt, if_neg (by omega)]
    · by_cases hij : i = j
      · subst hij
        rw [← q1]
        refine ⟨?_, cP'.2.1, cP'.2.2.1, cP'.2.2.2.1, cP'.2.2.2.2.1, cP'.2.2.2.2.2.1, cP'.2.2.2.2.2.2.1, cP'.2.2.2.2.2.2.2.1, fun k hk => ⟨?_, cP'.2.2.2.2.2.2.2.2 k hk, cN'.2.1 k hk⟩⟩
        · show gI S2 32 (nx S) = _; rw [cI'.2.1, if_pos rfl]
        · show gI S2 65 _ = 0
          have := po_lt k
          have hne : po k ≠ 3 ∧ po k ≠ 5 ∧ po k ≠ 8 ∧ po k ≠ 10 := by
            rcases (by omega : k = 0 ∨ k = 1 ∨ k = 2 ∨ k = 3 ∨ k = 4) with rfl | rfl | rfl | rfl | rfl <;> decide
          rcases cI'.2.2 65 (nx S + po k) (by omega) (by omega) with z | z
          · exact z
          · omega
      · refine cw_fr (S := S) (fun f p hp => ?_) (fun f p hp => ?_) (fun p hp => ?_) (q6 i (by omega))
        · exact gI2 f p (by omega)
        · exact gP2 f p (by omega)
        · exact (gN2 p (by omega)).1
    · have hp' : nx S + 13 ≤ p := by rw [← cx]; exact hp
      show gN S2 p = 0
      rw [cN'.2.2 p hp']
      exact q7 p (by omega)
