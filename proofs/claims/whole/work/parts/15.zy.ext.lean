/-! ===== pure part: one arena more ===== -/
def pEx (P : Par) (c0 sh : Nat) (src : Option Nat) (m : Nat) : Par := (pn P + 1, fun a => if a = pn P then c0 else par P a, fun a => if a = pn P then sh else psh P a, fun a => if a = pn P then src else psc P a, fun a => if a = pn P then m else pch P a, fun a i => if a = pn P then c0 + 2 + 13 * (i - 1) else pca P a i, fun a i d => if a = pn P then c0 + 2 + 13 * (i - 1) + 1 + 5 * d else pdk P a i d)
theorem ex_o {P : Par} {c0 sh m a : Nat} {src : Option Nat} (h : a < pn P) : par (pEx P c0 sh src m) a = par P a ∧ psh (pEx P c0 sh src m) a = psh P a ∧ psc (pEx P c0 sh src m) a = psc P a ∧ pch (pEx P c0 sh src m) a = pch P a ∧ (∀ i, pca (pEx P c0 sh src m) a i = pca P a i) ∧ (∀ i d, pdk (pEx P c0 sh src m) a i d = pdk P a i d) := by
  have hne : a ≠ pn P := by omega
  refine ⟨if_neg hne, if_neg hne, if_neg hne, if_neg hne, fun i => if_neg hne, fun i d => if_neg hne⟩
theorem ex_n {P : Par} {c0 sh m : Nat} {src : Option Nat} : par (pEx P c0 sh src m) (pn P) = c0 ∧ psh (pEx P c0 sh src m) (pn P) = sh ∧ psc (pEx P c0 sh src m) (pn P) = src ∧ pch (pEx P c0 sh src m) (pn P) = m ∧ (∀ i, pca (pEx P c0 sh src m) (pn P) i = c0 + 2 + 13 * (i - 1)) ∧ (∀ i d, pdk (pEx P c0 sh src m) (pn P) i d = c0 + 2 + 13 * (i - 1) + 1 + 5 * d) := ⟨if_pos rfl, if_pos rfl, if_pos rfl, if_pos rfl, fun i => if_pos rfl, fun i d => if_pos rfl⟩
theorem uEl_ex {P : Par} {R : Rst} {c0 sh m : Nat} {src : Option Nat} {e : En} (h : uEl P R e) : uEl (pEx P c0 sh src m) R e := by
  obtain ⟨a, a1, a2, h1⟩ := h
  obtain ⟨o1, o2, o3, o4, o5, o6⟩ := ex_o (c0 := c0) (sh := sh) (src := src) (m := m) a1
  exact ⟨a, Nat.lt_succ_of_lt a1, a2, by rw [o2, o4]; exact h1⟩
theorem uEl_lt {P : Par} {R : Rst} {e : En} {a : Nat} (hP : pn P < 8) (h : uEl P R e) (ha : a < pn P + 1) (hea : eA e = nI a) : a < pn P := by
  obtain ⟨b, b1, b2, _⟩ := h
  have : a = b := (nI_eq (by omega) (by omega)).mp (hea.symm.trans b2)
  omega
set_option maxHeartbeats 1000000 in
theorem uG_ex {P : Par} {S : Cst} {R : Rst} {L : List En} {t c0 sh m : Nat} {src : Option Nat} (hP : pn P < 8) (h : uG P S R L t) (h7 : gP S 7 c0 = none) (h8 : gI S 8 c0 = 0) (h9 : gI S 9 c0 = 0) (h10 : gI S 10 c0 = 0) : uG (pEx P c0 sh src m) S R L t := by
  obtain ⟨k1, k2, k3, k4, k5, k6⟩ := h
  have live : ∀ s a, s < 600 → R.2 22 s = 1 → a < pn P + 1 → R.2 19 s = nI a → a < pn P := by
    intro s a hs hl ha h19
    obtain ⟨b, b1, b2, _⟩ := k2.2.1 s hs hl
    have : a = b := (nI_eq (by omega) (by omega)).mp (h19.symm.trans b2)
    omega
  have hof : uOf (pn P) L = [] := by
    unfold uOf
    rw [List.filter_eq_nil_iff]
    intro e he hq
    have := uEl_lt hP (k1.1 e he) (Nat.lt_succ_self _) (by simpa using hq)
    omega
  refine ⟨⟨fun e he => uEl_ex (k1.1 e he), k1.2⟩, ⟨k2.1, fun s hs hl => ?_, fun s s' a a' c hs hs' hl hl' ha ha' q1 q2 q3 q4 q5 => ?_, k2.2.2.2.1, k2.2.2.2.2⟩, k3, ⟨k4.1, k4.2.1, fun a ha => ?_⟩, fun a ha => ?_, ⟨k6.1, k6.2.1, fun a ha => ?_, k6.2.2.2.1, fun e he a ha hea => ?_, k6.2.2.2.2.2⟩⟩
  · obtain ⟨a, a1, a2, a3, a4, a5, a6⟩ := k2.2.1 s hs hl
    obtain ⟨o1, o2, o3, o4, o5, o6⟩ := ex_o (c0 := c0) (sh := sh) (src := src) (m := m) a1
    exact ⟨a, Nat.lt_succ_of_lt a1, a2, by rw [o3]; exact a3, a4, a5, by rw [o3]; exact a6⟩
  · have b1 := live s a hs hl ha q1
    have b2 := live s' a' hs' hl' ha' q2
    rw [(ex_o b1).2.2.1] at q3
    rw [(ex_o b2).2.2.1] at q4
    exact k2.2.2.1 s s' a a' c hs hs' hl hl' b1 b2 q1 q2 q3 q4 q5
  · by_cases hq : a < pn P
    · rw [(ex_o hq).1]; exact k4.2.2 a hq
    · have : a = pn P := by have : a < pn P + 1 := ha; omega
      subst this
      rw [ex_n.1, hof]
      exact ⟨⟨h7, trivial⟩, h9⟩
  · by_cases hq : a < pn P
    · rw [(ex_o hq).1]; exact k5 a hq
    · have : a = pn P := by have : a < pn P + 1 := ha; omega
      subst this
      rw [ex_n.1, h8]
      have : livA R (pn P) = [] := by
        unfold livA
        rw [List.filter_eq_nil_iff]
        intro s hs hq
        unfold liv at hs
        simp only [List.mem_filter, List.mem_range, decide_eq_true_eq] at hs
        have := live s (pn P) hs.1 hs.2 (Nat.lt_succ_self _) (by simpa using hq)
        omega
      rw [this]; rfl
  · by_cases hq : a < pn P
    · rw [(ex_o hq).1]; exact k6.2.2.1 a hq
    · have : a = pn P := by have : a < pn P + 1 := ha; omega
      subst this
      rw [ex_n.1, h10]
      exact ⟨by decide, by rw [show (0 : Int32).toInt = 0 by decide]; exact k6.1⟩
  · have hq := uEl_lt hP (k1.1 e he) ha hea
    rw [(ex_o hq).1]
    exact k6.2.2.2.2.1 e he a hq hea
