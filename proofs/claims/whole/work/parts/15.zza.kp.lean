/-! ===== pure part: one arena more, its piles ===== -/
def qEx (P : Par) (Q : Pad) (c0 : Nat) : Pad := fun a i k => if a = pn P then (c0 + 2 + 13 * (i - 1) + po k, c0 + 2 + 13 * (i - 1) + po k + 1) else Q a i k
theorem qEx_o {P : Par} {Q : Pad} {c0 a i k : Nat} (h : a ≠ pn P) : qEx P Q c0 a i k = Q a i k := if_neg h
theorem qEx_n {P : Par} {Q : Pad} {c0 i k : Nat} : qEx P Q c0 (pn P) i k = (c0 + 2 + 13 * (i - 1) + po k, c0 + 2 + 13 * (i - 1) + po k + 1) := if_pos rfl
theorem po_inj {k k' : Nat} (hk : k < 5) (hk' : k' < 5) (h : po k = po k') : k = k' := by
  rcases (by omega : k = 0 ∨ k = 1 ∨ k = 2 ∨ k = 3 ∨ k = 4) with rfl | rfl | rfl | rfl | rfl <;> rcases (by omega : k' = 0 ∨ k' = 1 ∨ k' = 2 ∨ k' = 3 ∨ k' = 4) with rfl | rfl | rfl | rfl | rfl <;> first | rfl | (exact absurd h (by decide))
set_option maxHeartbeats 1000000 in
theorem uKp_ex {P : Par} {S S' : Cst} {M : Pil} {Q : Pad} {sh m : Nat} {src : Option Nat} (hn : nx S' = nx S + 2 + 13 * m) (hI : ∀ f p, p < nx S → f = 32 ∨ f = 65 → gI S' f p = gI S f p) (hP' : ∀ f p, p < nx S → (33 ≤ f ∧ f ≤ 35) ∨ f = 48 ∨ f = 49 ∨ f = 64 → gP S' f p = gP S f p) (hN : ∀ p, p < nx S → gN S' p = gN S p ∧ gR S' p = gR S p) (hM : ∀ i k, M (pn P) i k = []) (hc : ∀ i, i < m → cw S' (nx S + 2 + 13 * i) (nI ((i + 1) * 2 ^ sh))) (h : uKp P S M Q) : uKp (pEx P (nx S) sh src m) S' M (qEx P Q (nx S)) := by
  obtain ⟨h1, h2, h3, h4, h5⟩ := h
  have new : ∀ i, vd (pEx P (nx S) sh src m) (pn P) i → 1 ≤ i ∧ i ≤ m ∧ cw S' (nx S + 2 + 13 * (i - 1)) (nI (i * 2 ^ sh)) := by
    intro i hv
    obtain ⟨v1, v2⟩ := vd_n hv
    have := hc (i - 1) (by omega)
    rw [Nat.sub_add_cancel v1] at this
    exact ⟨v1, v2, this⟩
  refine ⟨fun a i hv => ?_, fun a i d hv hd => ?_, fun a i k hv hk => ?_, fun a i k a' i' k' hv hv' hk hk' hq => ?_, fun a i d a' i' d' hv hv' hd hd' hq => ?_⟩
  · by_cases hq : a = pn P
    · subst hq
      obtain ⟨v1, v2, w1, w2, w3, w4, _⟩ := new i hv
      rw [ex_n.2.2.2.2.1, ex_n.2.2.2.2.2, ex_n.2.2.2.2.2, qEx_n]
      refine ⟨by omega, ?_, w2, by rw [w3], w4⟩
      unfold osz; rw [ex_n.2.1]; exact w1
    · have hv' := vd_o hv hq
      obtain ⟨a1, a2, a3, a4, a5⟩ := h1 a i hv'
      have o := ex_o (c0 := nx S) (sh := sh) (src := src) (m := m) hv'.1
      rw [o.2.2.2.2.1, o.2.2.2.2.2, o.2.2.2.2.2, qEx_o hq, (num_ex hv'.1).1, hI _ _ a1 (by decide), hP' _ _ a1 (by decide), hP' _ _ a1 (by decide), hP' _ _ a1 (by decide)]
      exact ⟨by omega, a2, a3, a4, a5⟩
  · by_cases hq : a = pn P
    · subst hq
      obtain ⟨v1, v2, w1, w2, w3, w4, w5, w6, w7, w8, _⟩ := new i hv
      rw [ex_n.2.2.2.2.2, qEx_n, qEx_n]
      refine ⟨by omega, ?_⟩
      rcases (by omega : d = 0 ∨ d = 1) with rfl | rfl
      · exact ⟨w5, w6⟩
      · exact ⟨w7, w8⟩
    · have hv' := vd_o hv hq
      obtain ⟨a1, a2, a3⟩ := h2 a i d hv' hd
      have o := ex_o (c0 := nx S) (sh := sh) (src := src) (m := m) hv'.1
      rw [o.2.2.2.2.2, qEx_o hq, qEx_o hq, hP' _ _ a1 (by decide), hP' _ _ a1 (by decide)]
      exact ⟨by omega, a2, a3⟩
  · by_cases hq : a = pn P
    · subst hq
      obtain ⟨v1, v2, w1, w2, w3, w4, w5, w6, w7, w8, w9⟩ := new i hv
      obtain ⟨u1, u2, u3⟩ := w9 k hk
      have := po_lt k
      rw [qEx_n, hM]
      exact ⟨by show _ + po k < _; omega, by show _ + po k + 1 < _; omega, u1, u2, u3, fun j v hj => by simp at hj⟩
    · have hv' := vd_o hv hq
      obtain ⟨a1, a2, a3, a4, a5, a6⟩ := h3 a i k hv' hk
      rw [qEx_o hq, hI _ _ a1 (by decide), hP' _ _ a1 (by decide), (hN _ a2).1, (hN _ a2).2]
      exact ⟨by omega, by omega, a3, a4, a5, a6⟩
  · have p1 := po_lt k
    have p2 := po_lt k'
    by_cases q1 : a = pn P
    · subst q1
      obtain ⟨v1, v2, _⟩ := new i hv
      rw [qEx_n] at hq
      by_cases q2 : a' = pn P
      · subst q2
        obtain ⟨v1', v2', _⟩ := new i' hv'
        rw [qEx_n] at hq
        have hq' : nx S + 2 + 13 * (i - 1) + po k = nx S + 2 + 13 * (i' - 1) + po k' := by
          rcases hq with z | z
          · exact z
          · have z' : nx S + 2 + 13 * (i - 1) + po k + 1 = nx S + 2 + 13 * (i' - 1) + po k' + 1 := z
            omega
        have hi : i = i' := by omega
        subst hi
        exact ⟨rfl, rfl, po_inj hk hk' (by omega)⟩
      · have hv2 := vd_o hv' q2
        obtain ⟨a1, a2, _⟩ := h3 a' i' k' hv2 hk'
        rw [qEx_o q2] at hq
        exfalso
        rcases hq with z | z
        · have z' : nx S + 2 + 13 * (i - 1) + po k = (Q a' i' k').1 := z
          omega
        · have z' : nx S + 2 + 13 * (i - 1) + po k + 1 = (Q a' i' k').2 := z
          omega
    · have hv1 := vd_o hv q1
      obtain ⟨a1, a2, _⟩ := h3 a i k hv1 hk
      rw [qEx_o q1] at hq
      by_cases q2 : a' = pn P
      · subst q2
        rw [qEx_n] at hq
        exfalso
        rcases hq with z | z
        · have z' : (Q a i k).1 = nx S + 2 + 13 * (i' - 1) + po k' := z
          omega
        · have z' : (Q a i k).2 = nx S + 2 + 13 * (i' - 1) + po k' + 1 := z
          omega
      · rw [qEx_o q2] at hq
        exact h4 a i k a' i' k' hv1 (vd_o hv' q2) hk hk' hq
  · by_cases q1 : a = pn P
    · subst q1
      obtain ⟨v1, v2, _⟩ := new i hv
      rw [ex_n.2.2.2.2.2] at hq
      by_cases q2 : a' = pn P
      · subst q2
        obtain ⟨v1', v2', _⟩ := new i' hv'
        rw [ex_n.2.2.2.2.2] at hq
        exact ⟨rfl, by omega, by omega⟩
      · have hv2 := vd_o hv' q2
        have := (h2 a' i' d' hv2 hd').1
        rw [(ex_o hv2.1).2.2.2.2.2] at hq
        omega
    · have hv1 := vd_o hv q1
      have := (h2 a i d hv1 hd).1
      rw [(ex_o hv1.1).2.2.2.2.2] at hq
      by_cases q2 : a' = pn P
      · subst q2
        rw [ex_n.2.2.2.2.2] at hq
        omega
      · have hv2 := vd_o hv' q2
        rw [(ex_o hv2.1).2.2.2.2.2] at hq
        exact h5 a i d a' i' d' hv1 hv2 hd hd' hq
