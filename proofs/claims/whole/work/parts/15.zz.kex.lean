/-! ===== pure part: one arena more, its caches ===== -/
theorem vd_o {P : Par} {c0 sh m a i : Nat} {src : Option Nat} (h : vd (pEx P c0 sh src m) a i) (hne : a ≠ pn P) : vd P a i := by
  obtain ⟨h1, h2, h3⟩ := h
  have h1' : a < pn P + 1 := h1
  have ha : a < pn P := by omega
  exact ⟨ha, h2, by rw [(ex_o ha).2.2.2.1] at h3; exact h3⟩
theorem vd_n {P : Par} {c0 sh m i : Nat} {src : Option Nat} (h : vd (pEx P c0 sh src m) (pn P) i) : 1 ≤ i ∧ i ≤ m := by
  obtain ⟨_, h2, h3⟩ := h
  rw [ex_n.2.2.2.1] at h3
  exact ⟨h2, h3⟩
theorem isSl_ex {P : Par} {R : Rst} {L : List En} {c0 sh m a i : Nat} {src : Option Nat} {e : En} (hP : pn P < 8) (hL : ∀ e ∈ L, uEl P R e) : isSl (pEx P c0 sh src m) L a i e ↔ isSl P L a i e := by
  constructor
  · rintro ⟨h1, h2, h3, h4⟩
    have := uEl_lt hP (hL e h2) h1.1 h3
    exact ⟨vd_o h1 (by omega), h2, h3, h4⟩
  · rintro ⟨h1, h2, h3, h4⟩
    exact ⟨⟨Nat.lt_succ_of_lt h1.1, h1.2.1, by rw [(ex_o h1.1).2.2.2.1]; exact h1.2.2⟩, h2, h3, h4⟩
theorem num_ex {P : Par} {c0 sh m a : Nat} {src : Option Nat} (ha : a < pn P) : (∀ i, osz (pEx P c0 sh src m) a i = osz P a i) ∧ (∀ i, onm (pEx P c0 sh src m) a i = onm P a i) ∧ ∀ i e j, ob (pEx P c0 sh src m) a i e j = ob P a i e j := by
  obtain ⟨o1, o2, o3, o4, o5, o6⟩ := ex_o (c0 := c0) (sh := sh) (src := src) (m := m) ha
  have q : ∀ i, osz (pEx P c0 sh src m) a i = osz P a i := fun i => by unfold osz; rw [o2]
  exact ⟨q, fun i => by unfold onm; rw [o4], fun i e j => by unfold ob; rw [q]⟩
theorem uKs_ex {P : Par} {S S' : Cst} {R : Rst} {L : List En} {M : Pil} {H : List (Nat × Int32)} {c0 sh m : Nat} {src : Option Nat} (hP : pn P < 8) (hL : ∀ e ∈ L, uEl P R e) (hf : ∀ f, 88 ≤ f → f ≤ 91 → ∀ e ∈ L, gI S' f e.1 = gI S f e.1) (h : uKs P S L M H) : uKs (pEx P c0 sh src m) S' L M H := by
  intro a i e he
  have he' := (isSl_ex hP hL).mp he
  obtain ⟨n1, n2, n3⟩ := num_ex (c0 := c0) (sh := sh) (src := src) (m := m) he'.1.1
  have := h a i e he'
  rw [hf 88 (by decide) (by decide) e he'.2.1, hf 89 (by decide) (by decide) e he'.2.1, hf 90 (by decide) (by decide) e he'.2.1, hf 91 (by decide) (by decide) e he'.2.1, n1, n2]
  simp only [n3]
  exact this
theorem uKo_ex {P : Par} {R : Rst} {L : List En} {M : Pil} {H : List (Nat × Int32)} {c0 sh m : Nat} {src : Option Nat} (hP : pn P < 8) (hL : ∀ e ∈ L, uEl P R e) (hM : ∀ i k, M (pn P) i k = []) (h : uKo P L M H) : uKo (pEx P c0 sh src m) L M H := by
  obtain ⟨h1, h2, h3, h4, h5, h6⟩ := h
  have hf : ∀ i, fl M (pn P) i = [] := fun i => by unfold fl; simp [hM]
  refine ⟨fun a b hb => ?_, fun a i b hv hb => ?_, h3, fun a i hv => ?_, fun a i b hv hb => ?_, h6⟩
  · obtain ⟨i, e, j, q1, q2, q3⟩ := h1 a b hb
    obtain ⟨n1, n2, n3⟩ := num_ex (c0 := c0) (sh := sh) (src := src) (m := m) q1.1.1
    exact ⟨i, e, j, (isSl_ex hP hL).mpr q1, by rw [n2]; exact q2, by rw [n3]; exact q3⟩
  · by_cases hq : a = pn P
    · subst hq; rw [hf] at hb; cases hb
    · obtain ⟨e, j, q1, q2, q3⟩ := h2 a i b (vd_o hv hq) hb
      obtain ⟨n1, n2, n3⟩ := num_ex (c0 := c0) (sh := sh) (src := src) (m := m) q1.1.1
      exact ⟨e, j, (isSl_ex hP hL).mpr q1, by rw [n2]; exact q2, by rw [n3]; exact q3⟩
  · by_cases hq : a = pn P
    · subst hq; rw [hf]; exact List.nodup_nil
    · exact h4 a i (vd_o hv hq)
  · by_cases hq : a = pn P
    · subst hq; rw [hf] at hb; cases hb
    · exact h5 a i b (vd_o hv hq) hb
