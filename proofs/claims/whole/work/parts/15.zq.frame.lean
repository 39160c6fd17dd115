/-! ===== pure part: a purge leaves what takeWithin() asks for ===== -/
def bx (S S' : Cst) : Prop := gJ S' = gJ S ∧ ∀ f p, (12 ≤ f ∧ f ≤ 13) ∨ (16 ≤ f ∧ f ≤ 21) → gI S' f p = gI S f p
theorem bx.rf {S : Cst} : bx S S := ⟨rfl, fun _ _ _ => rfl⟩
theorem bx.tr {S S' S'' : Cst} (h : bx S S') (g : bx S' S'') : bx S S'' := ⟨g.1.trans h.1, fun f p a => (g.2 f p a).trans (h.2 f p a)⟩
theorem bx_sI {S : Cst} {f p : Nat} {v : Int32} (h : f < 12 ∨ f = 14 ∨ f = 15 ∨ 21 < f) : bx S (sI S f p v) := ⟨rfl, fun f' p' a => by rw [gI_sI, if_neg (fun z => by omega)]⟩
theorem bx_sP {S : Cst} {f p : Nat} {v : Option Nat} : bx S (sP S f p v) := ⟨rfl, fun _ _ _ => rfl⟩
theorem nn_e {β : Type} {q : Option Nat} {k : Nat → Option β} {r : β} (h : nn q k = some r) : ∃ b, q = some b ∧ k b = some r := by
  cases q with
  | none => cases (show (none : Option β) = some r from h)
  | some b => exact ⟨b, rfl, h⟩
theorem bd_e {α β : Type} {o : Option α} {k : α → Option β} {r : β} (h : o.bind k = some r) : ∃ b, o = some b ∧ k b = some r := Option.bind_eq_some_iff.mp h
theorem bx_tick {F p : Nat} {S S' : Cst} {v : Int32} (h : cf_X0_tick F S p = some (v, S')) : bx S S' := by
  unfold cf_X0_tick at h; simp only [st1] at h; cases h; exact bx_sI (by omega)
theorem bx_unlink27 {F p : Nat} {S S' : Cst} {q r : Option Nat} (h : cf_X0_unlink_27 F p S q r = some S') : bx S S' := by
  unfold cf_X0_unlink_27 at h
  simp only [st1] at h
  cases r with
  | none => rw [ncN] at h; cases h; exact bx_sI (by omega)
  | some b => rw [ncS] at h; cases h; exact bx_sP.tr (bx_sI (by omega))
theorem bx_unlink {F p : Nat} {S S' : Cst} {q : Option Nat} (h : cf_X0_unlink F S p q = some S') : bx S S' := by
  unfold cf_X0_unlink at h
  simp only [st1] at h
  replace h := nn_e h
  obtain ⟨b, rfl, h⟩ := h
  cases hq : gP S 86 b with
  | none => rw [hq, ncN] at h; exact bx_sP.tr (bx_unlink27 h)
  | some c => rw [hq, ncS] at h; exact bx_sP.tr (bx_unlink27 h)
theorem bx_free43 {F p : Nat} {S S' : Cst} {q : Option Nat} (h : cf_X0_free_43 F p S q = some S') : bx S S' := by
  unfold cf_X0_free_43 at h
  simp only [st1, st2] at h
  replace h := nn_e h
  obtain ⟨b, rfl, h⟩ := h
  have fin : ∀ S0, (cf_X0_tick F S0 p).bind (fun z8 => some (sI z8.2 83 b z8.1)) = some S' → bx S0 S' := by
    intro S0 h
    obtain ⟨z, h1, h2⟩ := bd_e h
    cases h2
    exact (bx_tick (v := z.1) h1).tr (bx_sI (by omega))
  cases hq : gP S 86 b with
  | none => rw [hq, ncN] at h; exact fin S h
  | some c =>
    rw [hq, ncS] at h
    replace h := bd_e h
    obtain ⟨v, _, h⟩ := h
    by_cases hv : v = 0
    · rw [if_pos hv] at h; exact fin S h
    · rw [if_neg hv] at h
      replace h := bd_e h
      obtain ⟨S1, h1, h⟩ := h
      exact (bx_sI (by omega)).tr ((bx_sI (by omega)).tr ((bx_unlink h1).tr (fin S1 h)))
theorem bx_free {F p : Nat} {S S' : Cst} {q : Option Nat} (h : cf_X0_free F S p q = some S') : bx S S' := by
  unfold cf_X0_free at h
  simp only [st1] at h
  replace h := nn_e h
  obtain ⟨b, rfl, h⟩ := h
  refine (bx_sI (f := 82) (p := b) (v := 0) (by omega)).tr ?_
  generalize sI S 82 b 0 = S2 at h
  cases hq : gP S2 87 b with
  | none => rw [hq, ncN] at h; exact bx_free43 h
  | some c =>
    rw [hq, ncS] at h
    replace h := bd_e h
    obtain ⟨v, _, h⟩ := h
    by_cases hv : v = 0
    · rw [if_pos hv] at h; exact bx_free43 h
    · rw [if_neg hv] at h
      replace h := bd_e h
      obtain ⟨S1, h1, h⟩ := h
      exact (bx_sI (by omega)).tr ((bx_unlink h1).tr (bx_free43 h))
theorem bx_close {F p : Nat} {S S' : Cst} {q : Option Nat} (h : cf_X0_close F S p q = some S') : bx S S' := by
  unfold cf_X0_close at h
  simp only [st1] at h
  replace h := bd_e h
  obtain ⟨S1, h1, h⟩ := h
  cases h
  exact (bx_unlink h1).tr (bx_sI (by omega))
theorem bx_release7 {F : Nat} : ∀ n S S' q r k, cf_X6_release_7 F n S q r k = some S' → bx S S' := by
  intro n
  induction n with
  | zero => intro S S' q r k h; cases h
  | succ n ih =>
    intro S S' q r k h
    simp only [cf_X6_release_7, st1] at h
    by_cases h8 : (8 : Int32) ≤ k
    · rw [if_pos h8] at h; cases h; exact bx.rf
    · rw [if_neg h8] at h
      cases q with
      | none => rw [ncN] at h; cases h; exact bx.rf
      | some b2 =>
        rw [ncS] at h
        cases r with
        | none => rw [ncN] at h; cases h; exact bx.rf
        | some b3 =>
          rw [ncS] at h
          replace h := bd_e h
          obtain ⟨S4, h4, h⟩ := h
          refine (bx_free h4).tr ?_
          cases hq : gP S4 3 b2 with
          | none => rw [hq, ncN] at h; cases h; exact bx.rf
          | some b6 =>
            rw [hq, ncS] at h
            by_cases hz : gI S4 81 b3 = gI S4 85 b3
            · rw [if_pos hz] at h
              replace h := bd_e h
              obtain ⟨S8, h8', h⟩ := h
              replace h := bd_e h
              obtain ⟨q9, _, h⟩ := h
              exact (bx_close h8').tr (ih _ _ _ _ _ h)
            · rw [if_neg hz] at h; cases h; exact bx.rf
theorem bx_pull {F p : Nat} {S S' : Cst} {v : Int32} (h : cf_X4_pull F S p = some (v, S')) : bx S S' := by
  unfold cf_X4_pull at h
  simp only [st1] at h
  replace h := bd_e h
  obtain ⟨w, _, h⟩ := h
  by_cases hw : w = -1
  · rw [if_pos hw] at h; cases h; exact bx.rf
  · rw [if_neg hw] at h; cases h; exact bx_sI (by omega)
theorem bx_lay {F p : Nat} {S S' : Cst} {v : Int32} (h : cf_X5_lay F S p v = some S') : bx S S' := by
  unfold cf_X5_lay at h
  simp only [st1] at h
  by_cases hw : v < 0
  · rw [if_pos hw] at h; cases h; exact bx.rf
  · rw [if_neg hw] at h; cases h; exact bx_sI (by omega)
theorem bx_layAll2 {F : Nat} : ∀ n S S' q r s k, cf_X6_layAll_2 F n S q r s k = some S' → bx S S' := by
  intro n
  induction n with
  | zero => intro S S' q r s k h; cases h
  | succ n ih =>
    intro S S' q r s k h
    simp only [cf_X6_layAll_2, st2] at h
    by_cases h8 : (12 : Int32) ≤ k
    · rw [if_pos h8] at h; cases h; exact bx.rf
    · rw [if_neg h8] at h
      replace h := nn_e h
      obtain ⟨b2, rfl, h⟩ := h
      by_cases h0 : gI S 65 b2 ≤ 0
      · rw [if_pos h0] at h; cases h; exact bx.rf
      · rw [if_neg h0] at h
        replace h := bd_e h
        obtain ⟨z, hz, h⟩ := h
        replace h := nn_e h
        obtain ⟨b5, rfl, h⟩ := h
        replace h := bd_e h
        obtain ⟨q6, _, h⟩ := h
        refine (bx_pull (v := z.1) hz).tr ?_
        cases q6 with
        | none => rw [ncN] at h; exact ih _ _ _ _ _ _ h
        | some b7 =>
          rw [ncS] at h
          replace h := bd_e h
          obtain ⟨v8, _, h⟩ := h
          replace h := bd_e h
          obtain ⟨S9, h9, h⟩ := h
          exact (bx_lay h9).tr (ih _ _ _ _ _ _ h)
theorem bx_sweep98 {F : Nat} {kk : Cst → Option Nat → Int32 → Int32 → Option (Int32 × Cst)} (hk : ∀ S q a b r, kk S q a b = some r → bx S r.2) : ∀ n S q a b c d r, cf_X6_sweep_98 F kk n S q a b c d = some r → bx S r.2 := by
  intro n
  induction n with
  | zero => intro S q a b c d r h; cases h
  | succ n ih =>
    intro S q a b c d r h
    simp only [cf_X6_sweep_98] at h
    cases d with
    | none => rw [ncN] at h; exact hk _ _ _ _ _ h
    | some b26 =>
      rw [ncS] at h
      by_cases h6 : (600 : Int32) ≤ a
      · rw [if_pos h6] at h; exact hk _ _ _ _ _ h
      · rw [if_neg h6] at h
        replace h := bd_e h
        obtain ⟨S28, h28, h⟩ := h
        replace h := nn_e h
        obtain ⟨b29, rfl, h⟩ := h
        replace h := bd_e h
        obtain ⟨q30, _, h⟩ := h
        exact (bx_release7 _ _ _ _ _ _ h28).tr (ih _ _ _ _ _ _ _ h)
theorem bx_sweep14 {F : Nat} : ∀ n S q a b r, cf_X6_sweep_14 F n S q a b = some r → bx S r.2 := by
  intro n
  induction n with
  | zero => intro S q a b r h; cases h
  | succ n ih =>
    intro S q a b r h
    simp only [cf_X6_sweep_14, st1] at h
    replace h := nn_e h
    obtain ⟨b3, rfl, h⟩ := h
    by_cases h4 : gI S 4 b3 < b
    · rw [if_pos h4] at h; cases h; exact bx.rf
    · rw [if_neg h4] at h
      replace h := bd_e h
      obtain ⟨q5, _, h⟩ := h
      cases q5 with
      | none => rw [ncN] at h; cases h; exact bx.rf
      | some b6 =>
        rw [ncS] at h
        replace h := nn_e h
        obtain ⟨_, _, h⟩ := h
        replace h := bd_e h
        obtain ⟨S10, g1, h⟩ := h
        replace h := nn_e h
        obtain ⟨_, _, h⟩ := h
        replace h := bd_e h
        obtain ⟨S14, g2, h⟩ := h
        replace h := nn_e h
        obtain ⟨_, _, h⟩ := h
        replace h := bd_e h
        obtain ⟨S18, g3, h⟩ := h
        replace h := nn_e h
        obtain ⟨_, _, h⟩ := h
        replace h := bd_e h
        obtain ⟨S22, g4, h⟩ := h
        replace h := bd_e h
        obtain ⟨S24, g5, h⟩ := h
        replace h := bd_e h
        obtain ⟨q25, _, h⟩ := h
        exact (bx_layAll2 _ _ _ _ _ _ _ g1).tr ((bx_layAll2 _ _ _ _ _ _ _ g2).tr ((bx_layAll2 _ _ _ _ _ _ _ g3).tr ((bx_layAll2 _ _ _ _ _ _ _ g4).tr ((bx_layAll2 _ _ _ _ _ _ _ g5).tr (bx_sweep98 (fun S q a b r => ih S q a b r) _ _ _ _ _ _ _ _ h)))))
theorem bx_sweep {F : Nat} {S S' : Cst} {q : Option Nat} {v : Int32} (h : cf_X6_sweep F S q = some (v, S')) : bx S S' := by
  unfold cf_X6_sweep at h
  simp only [st1] at h
  replace h := nn_e h
  obtain ⟨b, rfl, h⟩ := h
  exact (bx_sI (by omega)).tr (bx_sweep14 _ _ _ _ _ _ h)
theorem uBd_bx {S S' : Cst} {q l h z A ph c : Nat} (g : bx S S') (hq : uBd S q l h z A ph c) : uBd S' q l h z A ph c := by
  obtain ⟨q1, q2, q3, q4, q5, q6⟩ := hq
  refine ⟨by rw [g.1]; exact q1, ?_, ?_, ?_, ?_, ?_⟩
  · rw [g.2 _ _ (by decide)]; exact q2
  · rw [g.2 _ _ (by decide)]; exact q3
  · rw [g.2 _ _ (by decide)]; exact q4
  · rw [g.2 _ _ (by decide)]; exact q5
  · rw [g.2 _ _ (by decide)]; exact q6
