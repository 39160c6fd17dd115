/-! ===== pure part: the relation of caches ===== -/
abbrev Pil : Type := Nat → Nat → Nat → List Int32
abbrev Pad : Type := Nat → Nat → Nat → Nat × Nat
def osz (P : Par) (a i : Nat) : Nat := i * 2 ^ psh P a
def onm (P : Par) (a i : Nat) : Nat := slb (pch P a) / i
def ob (P : Par) (a i : Nat) (e : En) (j : Nat) : Int32 := eB e + nI (j * osz P a i)
def vd (P : Par) (a i : Nat) : Prop := a < pn P ∧ 1 ≤ i ∧ i ≤ pch P a
def isSl (P : Par) (L : List En) (a i : Nat) (e : En) : Prop := vd P a i ∧ e ∈ L ∧ eA e = nI a ∧ eC e = nI i
def fl (M : Pil) (a i : Nat) : List Int32 := M a i 0 ++ (M a i 1 ++ (M a i 2 ++ (M a i 3 ++ M a i 4)))
/-- the reference's magazines, depots and clients' objects -/
def uKr (P : Par) (R : Rst) (M : Pil) (H : List (Nat × Int32)) : Prop :=
  (∀ a i k, a < 8 → i ≤ 8 → k < 4 → R.2 28 (4 * (9 * a + i) + k) = nI (M a i k).length ∧ (M a i k).length ≤ 3 ∧ ∀ j v, (M a i k)[j]? = some v → R.2 29 (3 * (4 * (9 * a + i) + k) + j) = v) ∧
  (∀ a i, a < 8 → i ≤ 8 → ∃ D, D ≤ 4 ∧ (M a i 4).length = 3 * D ∧ R.2 30 (9 * a + i) = nI D ∧ ∀ m l v, m < D → l < 3 → (M a i 4)[3 * m + (2 - l)]? = some v → R.2 31 (12 * (9 * a + i) + 3 * m + l) = v) ∧
  (∀ a i d, d < 2 → (M a i (2 * d + 1)).length = 0 ∨ (M a i (2 * d + 1)).length = 3) ∧
  (∀ a i k, pn P ≤ a → M a i k = []) ∧
  R.1 25 = nI H.length ∧ H.length ≤ 512 ∧ ∀ h a b, H[h]? = some (a, b) → R.2 26 h = nI a ∧ R.2 27 h = b
/-- the class's piles -/
def uKp (P : Par) (S : Cst) (M : Pil) (Q : Pad) : Prop :=
  (∀ a i, vd P a i → pca P a i < nx S ∧ gI S 32 (pca P a i) = nI (osz P a i) ∧ gP S 33 (pca P a i) = some (pdk P a i 0) ∧ gP S 34 (pca P a i) = some (pdk P a i 1) ∧ gP S 35 (pca P a i) = some (Q a i 4).1) ∧
  (∀ a i d, vd P a i → d < 2 → pdk P a i d < nx S ∧ gP S 48 (pdk P a i d) = some (Q a i (2 * d)).1 ∧ gP S 49 (pdk P a i d) = some (Q a i (2 * d + 1)).1) ∧
  (∀ a i k, vd P a i → k < 5 → (Q a i k).1 < nx S ∧ (Q a i k).2 < nx S ∧ gI S 65 (Q a i k).1 = nI (M a i k).length ∧ gP S 64 (Q a i k).1 = some (Q a i k).2 ∧ gN S (Q a i k).2 = 12 ∧ ∀ j v, (M a i k)[j]? = some v → gR S (Q a i k).2 j = v) ∧
  (∀ a i k a' i' k', vd P a i → vd P a' i' → k < 5 → k' < 5 → ((Q a i k).1 = (Q a' i' k').1 ∨ (Q a i k).2 = (Q a' i' k').2) → a = a' ∧ i = i' ∧ k = k') ∧
  (∀ a i d a' i' d', vd P a i → vd P a' i' → d < 2 → d' < 2 → pdk P a i d = pdk P a' i' d' → a = a' ∧ i = i' ∧ d = d')
/-- the class's slabs -/
def uKs (P : Par) (S : Cst) (L : List En) (M : Pil) (H : List (Nat × Int32)) : Prop :=
  ∀ a i e, isSl P L a i e → gI S 88 e.1 = nI (osz P a i) ∧ gI S 89 e.1 = nI (onm P a i) ∧ (∀ j, j < 32 → (bt (gI S 91 e.1) j = true ↔ j < onm P a i ∧ (a, ob P a i e j) ∈ H)) ∧ (∀ j, j < 32 → (bt (gI S 90 e.1) j = true ↔ j < onm P a i ∧ (a, ob P a i e j) ∉ H ∧ ob P a i e j ∉ fl M a i))
def uKo (P : Par) (L : List En) (M : Pil) (H : List (Nat × Int32)) : Prop :=
  (∀ a b, (a, b) ∈ H → ∃ i e j, isSl P L a i e ∧ j < onm P a i ∧ b = ob P a i e j) ∧
  (∀ a i b, vd P a i → b ∈ fl M a i → ∃ e j, isSl P L a i e ∧ j < onm P a i ∧ b = ob P a i e j) ∧
  H.Nodup ∧ (∀ a i, vd P a i → (fl M a i).Nodup) ∧ (∀ a i b, vd P a i → b ∈ fl M a i → (a, b) ∉ H) ∧ (∀ e ∈ L, eO e = 2 → eC e ≠ 0)
def uKc (P : Par) (S : Cst) (L : List En) (M : Pil) (Q : Pad) (H : List (Nat × Int32)) : Prop := uKp P S M Q ∧ uKs P S L M H ∧ uKo P L M H
/-- all of it -/
def uA (P : Par) (x : Nat) (S : Cst) (R : Rst) (L : List En) (M : Pil) (Q : Pad) (H : List (Nat × Int32)) (t : Nat) : Prop := uStR P R ∧ uStS P x S ∧ uDy P x S R ∧ uG P S R L t ∧ uKc P S L M Q H ∧ uKr P R M H
/-! frames: a step of the structure -/
theorem uKr_F {P : Par} {R R' : Rst} {M : Pil} {H : List (Nat × Int32)} (g : uRF R R') (h : uKr P R M H) : uKr P R' M H := by
  unfold uKr at *
  rw [g.2 28 (by decide) (by decide), g.2 29 (by decide) (by decide), g.2 30 (by decide) (by decide), g.2 31 (by decide) (by decide), g.2 26 (by decide) (by decide), g.2 27 (by decide) (by decide), g.1 25 (by decide) (by decide) (by decide)]
  exact h
theorem uKp_F {P : Par} {S S' : Cst} {M : Pil} {Q : Pad} (g : uSF S S') (h : uKp P S M Q) : uKp P S' M Q := by
  obtain ⟨h1, h2, h3, h4, h5⟩ := h
  obtain ⟨g1, g2, g3, g4, g5, g6⟩ := g
  refine ⟨fun a i hv => ?_, fun a i d hv hd => ?_, fun a i k hv hk => ?_, h4, h5⟩
  · obtain ⟨a1, a2, a3, a4, a5⟩ := h1 a i hv
    rw [g2 _ _ a1 (by decide) (by decide) (by decide) (by decide), g3 _ _ a1 (by decide) (by decide) (by decide), g3 _ _ a1 (by decide) (by decide) (by decide), g3 _ _ a1 (by decide) (by decide) (by decide)]
    exact ⟨by omega, a2, a3, a4, a5⟩
  · obtain ⟨a1, a2, a3⟩ := h2 a i d hv hd
    rw [g3 _ _ a1 (by decide) (by decide) (by decide), g3 _ _ a1 (by decide) (by decide) (by decide)]
    exact ⟨by omega, a2, a3⟩
  · obtain ⟨a1, a2, a3, a4, a5, a6⟩ := h3 a i k hv hk
    rw [g2 _ _ a1 (by decide) (by decide) (by decide) (by decide), g3 _ _ a1 (by decide) (by decide) (by decide), g4, g5]
    exact ⟨by omega, by omega, a3, a4, a5, a6⟩
theorem nI_c0 {P : Par} {R : Rst} {a i : Nat} (hR : uStR P R) (h : vd P a i) : nI i ≠ 0 := by
  have := (hR.2.2 a h.1).2.1
  exact nI_ne0 h.2.1 (by have := h.2.2; omega)
theorem isSl_F {P : Par} {R : Rst} {L L' : List En} {a i : Nat} {e : En} (hR : uStR P R) (g : uSl L L') : isSl P L' a i e ↔ isSl P L a i e := by
  unfold isSl
  constructor
  · rintro ⟨h1, h2, h3, h4⟩; exact ⟨h1, (g e (by rw [h4]; exact nI_c0 hR h1)).mp h2, h3, h4⟩
  · rintro ⟨h1, h2, h3, h4⟩; exact ⟨h1, (g e (by rw [h4]; exact nI_c0 hR h1)).mpr h2, h3, h4⟩
theorem uKs_F {P : Par} {R : Rst} {S S' : Cst} {L L' : List En} {M : Pil} {H : List (Nat × Int32)} (hR : uStR P R) (g : uSF S S') (gl : uSl L L') (hlt : ∀ e ∈ L, e.1 < nx S) (h : uKs P S L M H) : uKs P S' L' M H := by
  intro a i e he
  have he' := (isSl_F hR gl).mp he
  have hl := hlt e he'.2.1
  rw [g.2.1 88 _ hl (by decide) (by decide) (by decide) (by decide), g.2.1 89 _ hl (by decide) (by decide) (by decide) (by decide), g.2.1 90 _ hl (by decide) (by decide) (by decide) (by decide), g.2.1 91 _ hl (by decide) (by decide) (by decide) (by decide)]
  exact h a i e he'
theorem uKo_F {P : Par} {R : Rst} {L L' : List En} {M : Pil} {H : List (Nat × Int32)} (hR : uStR P R) (gl : uSl L L') (how : ∀ f ∈ L', eO f = 2 → f ∈ L) (h : uKo P L M H) : uKo P L' M H := by
  obtain ⟨h1, h2, h3, h4, h5, h6⟩ := h
  refine ⟨fun a b hb => ?_, fun a i b hv hb => ?_, h3, h4, h5, fun e he ho => h6 e (how e he ho) ho⟩
  · obtain ⟨i, e, j, q1, q2, q3⟩ := h1 a b hb
    exact ⟨i, e, j, (isSl_F hR gl).mpr q1, q2, q3⟩
  · obtain ⟨e, j, q1, q2, q3⟩ := h2 a i b hv hb
    exact ⟨e, j, (isSl_F hR gl).mpr q1, q2, q3⟩
/-- a step of the structure keeps all -/
theorem uA_F {P : Par} {x : Nat} {S S' : Cst} {R R' : Rst} {L L' : List En} {M : Pil} {Q : Pad} {H : List (Nat × Int32)} {t t' : Nat} (h : uA P x S R L M Q H t) (hG : uG P S' R' L' t') (gs : uSF S S') (gr : uRF R R') (gl : uSl L L') (how : ∀ f ∈ L', eO f = 2 → f ∈ L) : uA P x S' R' L' M Q H t' := by
  obtain ⟨h1, h2, h3, h4, ⟨h5, h6, h7⟩, h8⟩ := h
  exact ⟨uStR_F h1 gr, uStS_F h2 gs, uDy_F h2 h3 gs gr, hG, ⟨uKp_F gs h5, uKs_F h1 gs gl (fun e he => (h4.2.2.2.1.1 e he).1) h6, uKo_F h1 gl how h7⟩, uKr_F gr h8⟩
/-! frames: everything that the structure doesn't look at -/
theorem uG_X {P : Par} {S S' : Cst} {R R' : Rst} {L : List En} {t : Nat} (hn : nx S ≤ nx S') (hI : ∀ f p, p < nx S → (8 ≤ f ∧ f ≤ 10) ∨ (80 ≤ f ∧ f ≤ 85) → gI S' f p = gI S f p) (hQ : ∀ f p, p < nx S → f = 7 ∨ f = 86 ∨ f = 87 → gP S' f p = gP S f p) (hP : ∀ a, a < pn P → par P a < nx S) (h1 : R'.1 10 = R.1 10 ∧ R'.1 18 = R.1 18 ∧ R'.1 24 = R.1 24) (h2 : ∀ f, (11 ≤ f ∧ f ≤ 17) ∨ (19 ≤ f ∧ f ≤ 23) → R'.2 f = R.2 f) (h : uG P S R L t) : uG P S' R' L t := by
  obtain ⟨k1, k2, k3, k4, k5, k6⟩ := h
  have hrr : ∀ f, 19 ≤ f → f ≤ 23 → R'.2 f = R.2 f := fun f a b => h2 f (Or.inr ⟨a, b⟩)
  have hl : liv R' = liv R := by unfold liv; rw [hrr 22 (by decide) (by decide)]
  refine ⟨uLs_fr hrr k1, ?_, ?_, ?_, ?_, ?_⟩
  · unfold uSp at *
    rw [hrr 22 (by decide) (by decide), hrr 19 (by decide) (by decide), hrr 20 (by decide) (by decide), hrr 21 (by decide) (by decide), hrr 23 (by decide) (by decide), h1.2.2, hl]
    exact k2
  · refine ⟨by rw [h1.1]; exact k3.1, k3.2.1, fun k e hk => ?_⟩
    have := k3.2.2 k e hk
    unfold sgk at *
    rw [h2 11 (by decide), h2 12 (by decide), h2 13 (by decide), h2 14 (by decide), h2 15 (by decide), h2 16 (by decide), h2 17 (by decide)]
    exact this
  · refine ⟨fun e he => ?_, k4.2.1, fun a ha => ?_⟩
    · have q := k4.1 e he
      unfold uFd at *
      rw [hrr 20 (by decide) (by decide), hrr 21 (by decide) (by decide), hI 80 _ q.1 (by decide), hI 81 _ q.1 (by decide), hI 82 _ q.1 (by decide), hI 84 _ q.1 (by decide), hI 85 _ q.1 (by decide)]
      exact ⟨by omega, q.2⟩
    · obtain ⟨c1, c2⟩ := k4.2.2 a ha
      have hp := hP a ha
      rw [hI 9 _ hp (by decide)]
      refine ⟨uCS_fr (hQ 7 _ hp (Or.inl rfl)) (fun p hpp => ?_) c1, c2⟩
      have := uad_lt (a := a) k4.1 p hpp
      exact ⟨hQ 86 _ this (Or.inr (Or.inl rfl)), hQ 87 _ this (Or.inr (Or.inr rfl))⟩
  · intro a ha
    rw [hI 8 _ (hP a ha) (by decide)]
    have : livA R' a = livA R a := by unfold livA liv; rw [hrr 22 (by decide) (by decide), hrr 19 (by decide) (by decide)]
    rw [this]; exact k5 a ha
  · obtain ⟨q1, q2, q3, q4, q5, q6⟩ := k6
    have h83 : ∀ e ∈ L, gI S' 83 e.1 = gI S 83 e.1 := fun e he => hI 83 _ (k4.1 e he).1 (by decide)
    refine ⟨by rw [h1.2.1]; exact q1, by rw [h1.2.1]; exact q2, fun a ha => ?_, fun e he => by rw [h1.2.1]; exact q4 e he, fun e he a ha hea => ?_, fun e he f hf hef oe of' => ?_⟩
    · rw [hI 10 _ (hP a ha) (by decide), h1.2.1]; exact q3 a ha
    · rw [h83 e he, hI 10 _ (hP a ha) (by decide)]; exact q5 e he a ha hea
    · rw [h83 e he, h83 f hf]; exact q6 e he f hf hef oe of'
/-- a step of the caches -/
def uCF (S S' : Cst) : Prop := nx S' = nx S ∧ (∀ f p, f ≠ 65 → ¬ (88 ≤ f ∧ f ≤ 91) → gI S' f p = gI S f p) ∧ (∀ f p, f ≠ 48 → f ≠ 49 → gP S' f p = gP S f p) ∧ gN S' = gN S ∧ gQ S' = gQ S
def uCR (R R' : Rst) : Prop := (∀ j, j ≠ 25 → R'.1 j = R.1 j) ∧ (∀ f, ¬ (26 ≤ f ∧ f ≤ 31) → R'.2 f = R.2 f)
theorem uCF.rf {S : Cst} : uCF S S := ⟨rfl, fun _ _ _ _ => rfl, fun _ _ _ _ => rfl, rfl, rfl⟩
theorem uCR.rf {R : Rst} : uCR R R := ⟨fun _ _ => rfl, fun _ _ => rfl⟩
theorem uCF.tr {S S' S'' : Cst} (h : uCF S S') (g : uCF S' S'') : uCF S S'' := ⟨g.1.trans h.1, fun f p a b => (g.2.1 f p a b).trans (h.2.1 f p a b), fun f p a b => (g.2.2.1 f p a b).trans (h.2.2.1 f p a b), g.2.2.2.1.trans h.2.2.2.1, g.2.2.2.2.trans h.2.2.2.2⟩
theorem uCR.tr {R R' R'' : Rst} (h : uCR R R') (g : uCR R' R'') : uCR R R'' := ⟨fun j a => (g.1 j a).trans (h.1 j a), fun f a => (g.2 f a).trans (h.2 f a)⟩
theorem uStR_C {P : Par} {R R' : Rst} (h : uStR P R) (g : uCR R R') : uStR P R' := by
  unfold uStR at *
  rw [g.1 1 (by decide), g.1 0 (by decide), g.2 2 (by decide), g.2 3 (by decide), g.2 4 (by decide)]
  exact h
theorem uStS_C {P : Par} {x : Nat} {S S' : Cst} (h : uStS P x S) (g : uCF S S') : uStS P x S' := by
  obtain ⟨h1, h2, ⟨t, h3, h4, h5⟩, h6, h7⟩ := h
  obtain ⟨g1, g2, g3, g4, g5⟩ := g
  refine ⟨by omega, by rw [g2 _ _ (by decide) (by decide)]; exact h2, ⟨t, by rw [g3 _ _ (by decide) (by decide)]; exact h3, by rw [g4]; exact h4, by rw [g5]; exact h5⟩, h6, fun a ha => ?_⟩
  obtain ⟨k1, k2, k3, k4, k5, k6, k7, tt, k8, k9, k10⟩ := h7 a ha
  rw [g2 _ _ (by decide) (by decide), g2 _ _ (by decide) (by decide), g2 _ _ (by decide) (by decide), g2 _ _ (by decide) (by decide), g2 _ _ (by decide) (by decide), g3 _ _ (by decide) (by decide), g3 _ _ (by decide) (by decide), g4, g5]
  exact ⟨by omega, k2, k3, k4, k5, k6, k7, tt, k8, k9, k10⟩
theorem uDy_C {P : Par} {x : Nat} {S S' : Cst} {R R' : Rst} (h : uDy P x S R) (g : uCF S S') (k : uCR R R') : uDy P x S' R' := by
  refine ⟨fun a ha => ?_, fun a ha => by rw [k.2 5 (by decide), k.2 6 (by decide), k.2 8 (by decide), k.2 9 (by decide)]; exact h.2.1 a ha, fun p hp => by rw [g.2.2.2.1]; exact h.2.2.1 p (by rw [← g.1]; exact hp), fun a ha => by rw [g.2.2.1 6 _ (by decide) (by decide), g.2.2.1 96 _ (by decide) (by decide)]; exact h.2.2.2 a ha⟩
  rw [g.2.1 11 _ (by decide) (by decide), g.2.1 12 _ (by decide) (by decide), g.2.1 13 _ (by decide) (by decide), g.2.1 14 _ (by decide) (by decide), g.2.1 15 _ (by decide) (by decide)]
  rw [k.2 5 (by decide), k.2 6 (by decide), k.2 7 (by decide), k.2 8 (by decide), k.2 9 (by decide)]
  exact h.1 a ha
theorem uZr_set {P : Par} {x : Nat} {S S' : Cst} {R : Rst} {f a : Nat} {v : Int32} (hn : nx S' = nx S) (hN : gN S' = gN S) (hP : gP S' = gP S) (ha : a < pn P) (h : uZr P x S R) : uZr P x S' (rset R f a v) := by
  refine ⟨fun b hb => ?_, fun p hp => by rw [hN]; exact h.2.1 p (by rw [← hn]; exact hp), fun b hb => by rw [hP]; exact h.2.2 b hb⟩
  rw [rset_g, rset_g, rset_g, rset_g, if_neg (fun z => by have := z.2; omega), if_neg (fun z => by have := z.2; omega), if_neg (fun z => by have := z.2; omega), if_neg (fun z => by have := z.2; omega)]
  exact h.1 b hb
theorem uG_C {P : Par} {x : Nat} {S S' : Cst} {R R' : Rst} {L : List En} {t : Nat} (hS : uStS P x S) (h : uG P S R L t) (g : uCF S S') (k : uCR R R') : uG P S' R' L t :=
  uG_X (by rw [g.1]; exact Nat.le_refl _) (fun f p _ hf => g.2.1 f p (by omega) (by omega)) (fun f p _ hf => g.2.2.1 f p (by omega) (by omega)) (fun a ha => (hS.2.2.2.2 a ha).1) ⟨k.1 10 (by decide), k.1 18 (by decide), k.1 24 (by decide)⟩ (fun f hf => k.2 f (by omega)) h
/-- rotor, bounds and counts of an arena -/
def uDF (S S' : Cst) : Prop := nx S' = nx S ∧ (∀ f p, ¬ (11 ≤ f ∧ f ≤ 15) → gI S' f p = gI S f p) ∧ gP S' = gP S ∧ gN S' = gN S ∧ gR S' = gR S ∧ gQ S' = gQ S
def uDR (R R' : Rst) : Prop := (∀ j, R'.1 j = R.1 j) ∧ (∀ f, ¬ (5 ≤ f ∧ f ≤ 9) → R'.2 f = R.2 f)
theorem uA_D {P : Par} {x : Nat} {S S' : Cst} {R R' : Rst} {L : List En} {M : Pil} {Q : Pad} {H : List (Nat × Int32)} {t : Nat} (h : uA P x S R L M Q H t) (g : uDF S S') (k : uDR R R') (hD : uDy P x S' R') : uA P x S' R' L M Q H t := by
  obtain ⟨h1, h2, h3, h4, ⟨h5, h6, h7⟩, h8⟩ := h
  obtain ⟨g1, g2, g3, g4, g5, g6⟩ := g
  refine ⟨?_, ?_, hD, uG_X (by rw [g1]; exact Nat.le_refl _) (fun f p _ hf => g2 f p (by omega)) (fun f p _ hf => by rw [g3]) (fun a ha => (h2.2.2.2.2 a ha).1) ⟨k.1 10, k.1 18, k.1 24⟩ (fun f hf => k.2 f (by omega)) h4, ⟨?_, ?_, h7⟩, ?_⟩
  · unfold uStR at *
    rw [k.1 1, k.1 0, k.2 2 (by decide), k.2 3 (by decide), k.2 4 (by decide)]
    exact h1
  · obtain ⟨q1, q2, q3, q4, q5⟩ := h2
    refine ⟨by omega, by rw [g2 _ _ (by decide)]; exact q2, by rw [g3, g4, g6]; exact q3, q4, fun a ha => ?_⟩
    rw [g3, g4, g6, g1, g2 _ _ (by decide), g2 _ _ (by decide), g2 _ _ (by decide), g2 _ _ (by decide), g2 _ _ (by decide)]
    exact q5 a ha
  · unfold uKp at *
    rw [g3, g4, g5, g1]
    refine ⟨fun a i hv => by rw [g2 _ _ (by decide)]; exact h5.1 a i hv, h5.2.1, fun a i k hv hk => by rw [g2 _ _ (by decide)]; exact h5.2.2.1 a i k hv hk, h5.2.2.2⟩
  · intro a i e he
    rw [g2 _ _ (by decide), g2 _ _ (by decide), g2 _ _ (by decide), g2 _ _ (by decide)]
    exact h6 a i e he
  · unfold uKr at *
    rw [k.2 28 (by decide), k.2 29 (by decide), k.2 30 (by decide), k.2 31 (by decide), k.2 26 (by decide), k.2 27 (by decide), k.1 25]
    exact h8
/-- a step of the caches: what is left to show -/
theorem uA_C {P : Par} {x : Nat} {S S' : Cst} {R R' : Rst} {L : List En} {M M' : Pil} {Q Q' : Pad} {H H' : List (Nat × Int32)} {t : Nat} (h : uA P x S R L M Q H t) (g : uCF S S') (k : uCR R R') (hc : uKc P S' L M' Q' H') (hr : uKr P R' M' H') : uA P x S' R' L M' Q' H' t := by
  obtain ⟨h1, h2, h3, h4, h5, h8⟩ := h
  exact ⟨uStR_C h1 k, uStS_C h2 g, uDy_C h3 g k, uG_C h2 h4 g k, hc, hr⟩
