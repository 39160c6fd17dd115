/-! ===== pure part: the relation of chains, spans and times ===== -/
def liv (R : Rst) : List Nat := (List.range 600).filter (fun s => decide (R.2 22 s = 1))
def livA (R : Rst) (a : Nat) : List Nat := (liv R).filter (fun s => decide (R.2 19 s = nI a))
def uStR (P : Par) (R : Rst) : Prop := pn P ≤ 8 ∧ (R.1 1 = nI (pn P) ∧ R.1 0 = 0) ∧ ∀ a, a < pn P → psh P a ≤ 16 ∧ pch P a ≤ 8 ∧ R.2 2 a = nI (2 ^ psh P a) ∧ R.2 4 a = nI (pch P a) ∧ R.2 3 a = (match psc P a with
    | none => -1
    | some s => nI s) ∧ (∀ s, psc P a = some s → s < a ∧ psh P a ≤ psh P s)
def uStS (P : Par) (x : Nat) (S : Cst) : Prop := x < nx S ∧ gI S 97 x = nI (pn P) ∧ (∃ t, gP S 96 x = some t ∧ gN S t = 8 ∧ ∀ a, a < 8 → gQ S t a = if a < pn P then some (par P a) else none) ∧ (∀ a b, a < pn P → b < pn P → par P a = par P b → a = b) ∧ ∀ a, a < pn P → par P a < nx S ∧ gI S 0 (par P a) = nI a ∧ gI S 1 (par P a) = nI (2 ^ psh P a) ∧ gI S 2 (par P a) = nI (psh P a) ∧ gP S 3 (par P a) = (psc P a).map (par P) ∧ gI S 4 (par P a) = nI (pch P a) ∧ gI S 5 (par P a) = nI (slb (pch P a) * 2 ^ psh P a) ∧ ∃ t, gP S 6 (par P a) = some t ∧ gN S t = 8 ∧ ∀ i, i < 8 → gQ S t i = if i < pch P a then some (pca P a (i + 1)) else none
def uZr (P : Par) (x : Nat) (S : Cst) (R : Rst) : Prop := (∀ a, pn P ≤ a → R.2 5 a = 0 ∧ R.2 6 a = 0 ∧ R.2 8 a = 0 ∧ R.2 9 a = 0) ∧ (∀ p, nx S ≤ p → gN S p = 0) ∧ ∀ a, a < pn P → gP S 6 (par P a) ≠ gP S 96 x
def uDy (P : Par) (x : Nat) (S : Cst) (R : Rst) : Prop := (∀ a, a < pn P → gI S 11 (par P a) = R.2 5 a ∧ gI S 12 (par P a) = R.2 6 a ∧ gI S 13 (par P a) = R.2 7 a ∧ gI S 14 (par P a) = R.2 8 a ∧ gI S 15 (par P a) = R.2 9 a ∧ 0 ≤ (R.2 6 a).toInt ∧ (R.2 6 a).toInt ≤ (R.2 7 a).toInt ∧ (R.2 7 a).toInt ≤ 1073741824) ∧ uZr P x S R
def uSp (P : Par) (R : Rst) (L : List En) : Prop :=
  (∀ s, s < 600 → R.2 22 s = 0 ∨ R.2 22 s = 1) ∧
  (∀ s, s < 600 → R.2 22 s = 1 → ∃ a, a < pn P ∧ R.2 19 s = nI a ∧ R.2 23 s = (if (psc P a).isSome then 1 else 0) ∧ (R.2 20 s).toInt + (R.2 21 s).toInt ≤ 1073741824 ∧ (∃ e ∈ L, eS e = nI s ∧ eB e = R.2 20 s) ∧ (∀ c, psc P a = some c → ∃ e ∈ L, eA e = nI c ∧ eO e = 3 ∧ eB e = R.2 20 s ∧ eZ e = R.2 21 s)) ∧
  (∀ s s' a a' c, s < 600 → s' < 600 → R.2 22 s = 1 → R.2 22 s' = 1 → a < pn P → a' < pn P → R.2 19 s = nI a → R.2 19 s' = nI a' → psc P a = some c → psc P a' = some c → R.2 20 s = R.2 20 s' → s = s') ∧
  R.1 24 = nI (liv R).length ∧ L.length + (liv R).length ≤ 600
def uSc (P : Par) (S : Cst) (R : Rst) : Prop := ∀ a, a < pn P → gI S 8 (par P a) = nI (livA R a).length
def uFd (S : Cst) (R : Rst) (e : En) : Prop := e.1 < nx S ∧ gI S 80 e.1 = eB e ∧ gI S 81 e.1 = eZ e ∧ gI S 82 e.1 = eO e ∧ gI S 84 e.1 = R.2 20 (esl e) ∧ gI S 85 e.1 = R.2 21 (esl e)
def uad (L : List En) : List Nat := L.map (fun e => e.1)
def uCh (P : Par) (S : Cst) (R : Rst) (L : List En) : Prop := (∀ e ∈ L, uFd S R e) ∧ (uad L).Nodup ∧ ∀ a, a < pn P → uCS S (par P a) (uad (uOf a L)) ∧ gI S 9 (par P a) = nI (uOf a L).length
def uTm (P : Par) (S : Cst) (R : Rst) (L : List En) (t : Nat) : Prop := 0 ≤ (R.1 18).toInt ∧ (R.1 18).toInt ≤ t ∧ (∀ a, a < pn P → 0 ≤ (gI S 10 (par P a)).toInt ∧ (gI S 10 (par P a)).toInt ≤ (R.1 18).toInt) ∧ (∀ e ∈ L, (eT e).toInt ≤ (R.1 18).toInt) ∧ (∀ e ∈ L, ∀ a, a < pn P → eA e = nI a → (gI S 83 e.1).toInt ≤ (gI S 10 (par P a)).toInt) ∧ (∀ e ∈ L, ∀ f ∈ L, eA e = eA f → eO e = 0 → eO f = 0 → (gI S 83 e.1 < gI S 83 f.1 ↔ eT e < eT f))
def uG (P : Par) (S : Cst) (R : Rst) (L : List En) (t : Nat) : Prop := uLs P R L ∧ uSp P R L ∧ uRL R L ∧ uCh P S R L ∧ uSc P S R ∧ uTm P S R L t
/-- a step of the structure: what it leaves -/
def uSF (S S' : Cst) : Prop := nx S ≤ nx S' ∧ (∀ f p, p < nx S → f ≠ 8 → f ≠ 9 → f ≠ 10 → ¬ (80 ≤ f ∧ f ≤ 87) → gI S' f p = gI S f p) ∧ (∀ f p, p < nx S → f ≠ 7 → f ≠ 86 → f ≠ 87 → gP S' f p = gP S f p) ∧ gN S' = gN S ∧ gR S' = gR S ∧ gQ S' = gQ S
def uRF (R R' : Rst) : Prop := (∀ j, j ≠ 10 → j ≠ 18 → j ≠ 24 → R'.1 j = R.1 j) ∧ (∀ f, ¬ (11 ≤ f ∧ f ≤ 17) → ¬ (19 ≤ f ∧ f ≤ 23) → R'.2 f = R.2 f)
theorem uSF.rf {S : Cst} : uSF S S := ⟨Nat.le_refl _, fun _ _ _ _ _ _ _ => rfl, fun _ _ _ _ _ _ => rfl, rfl, rfl, rfl⟩
theorem uSF.tr {S S' S'' : Cst} (h : uSF S S') (g : uSF S' S'') : uSF S S'' := by
  obtain ⟨h1, h2, h3, h4, h5, h6⟩ := h
  obtain ⟨g1, g2, g3, g4, g5, g6⟩ := g
  exact ⟨Nat.le_trans h1 g1, fun f p hp a b c d => (g2 f p (by omega) a b c d).trans (h2 f p hp a b c d), fun f p hp a b c => (g3 f p (by omega) a b c).trans (h3 f p hp a b c), g4.trans h4, g5.trans h5, g6.trans h6⟩
theorem uRF.rf {R : Rst} : uRF R R := ⟨fun _ _ _ _ => rfl, fun _ _ _ => rfl⟩
theorem uRF.tr {R R' R'' : Rst} (h : uRF R R') (g : uRF R' R'') : uRF R R'' := ⟨fun j a b c => (g.1 j a b c).trans (h.1 j a b c), fun f a b => (g.2 f a b).trans (h.2 f a b)⟩
theorem uFr.u {R R' : Rst} (h : uFr R R') : uRF R R' := ⟨fun j a b _ => h.1 j a b, fun f a _ => h.2 f a⟩
theorem uStR_F {P : Par} {R R' : Rst} (h : uStR P R) (g : uRF R R') : uStR P R' := by
  obtain ⟨h1, h2, h3⟩ := h
  refine ⟨h1, by rw [g.1 1 (by decide) (by decide) (by decide), g.1 0 (by decide) (by decide) (by decide)]; exact h2, fun a ha => ?_⟩
  rw [g.2 2 (by decide) (by decide), g.2 3 (by decide) (by decide), g.2 4 (by decide) (by decide)]
  exact h3 a ha
theorem uStS_F {P : Par} {x : Nat} {S S' : Cst} (h : uStS P x S) (g : uSF S S') : uStS P x S' := by
  obtain ⟨h1, h2, ⟨t, h3, h4, h5⟩, h6, h7⟩ := h
  obtain ⟨g1, g2, g3, g4, g5, g6⟩ := g
  refine ⟨by omega, by rw [g2 _ _ h1 (by decide) (by decide) (by decide) (by decide)]; exact h2, ⟨t, by rw [g3 _ _ h1 (by decide) (by decide) (by decide)]; exact h3, by rw [g4]; exact h4, by rw [g6]; exact h5⟩, h6, fun a ha => ?_⟩
  obtain ⟨k1, k2, k3, k4, k5, k6, k7, tt, k8, k9, k10⟩ := h7 a ha
  refine ⟨by omega, ?_, ?_, ?_, ?_, ?_, ?_, tt, ?_, by rw [g4]; exact k9, by rw [g6]; exact k10⟩
  · rw [g2 _ _ k1 (by decide) (by decide) (by decide) (by decide)]; exact k2
  · rw [g2 _ _ k1 (by decide) (by decide) (by decide) (by decide)]; exact k3
  · rw [g2 _ _ k1 (by decide) (by decide) (by decide) (by decide)]; exact k4
  · rw [g3 _ _ k1 (by decide) (by decide) (by decide)]; exact k5
  · rw [g2 _ _ k1 (by decide) (by decide) (by decide) (by decide)]; exact k6
  · rw [g2 _ _ k1 (by decide) (by decide) (by decide) (by decide)]; exact k7
  · rw [g3 _ _ k1 (by decide) (by decide) (by decide)]; exact k8
theorem uDy_F {P : Par} {x : Nat} {S S' : Cst} {R R' : Rst} (hs : uStS P x S) (h : uDy P x S R) (g : uSF S S') (k : uRF R R') : uDy P x S' R' := by
  refine ⟨fun a ha => ?_, fun a ha => by rw [k.2 5 (by decide) (by decide), k.2 6 (by decide) (by decide), k.2 8 (by decide) (by decide), k.2 9 (by decide) (by decide)]; exact h.2.1 a ha, fun p hp => by rw [g.2.2.2.1]; exact h.2.2.1 p (Nat.le_trans g.1 hp), fun a ha => by rw [g.2.2.1 6 _ (hs.2.2.2.2 a ha).1 (by decide) (by decide) (by decide), g.2.2.1 96 _ hs.1 (by decide) (by decide) (by decide)]; exact h.2.2.2 a ha⟩
  have h1 := (hs.2.2.2.2 a ha).1
  rw [g.2.1 11 _ h1 (by decide) (by decide) (by decide) (by decide), g.2.1 12 _ h1 (by decide) (by decide) (by decide) (by decide), g.2.1 13 _ h1 (by decide) (by decide) (by decide) (by decide), g.2.1 14 _ h1 (by decide) (by decide) (by decide) (by decide), g.2.1 15 _ h1 (by decide) (by decide) (by decide) (by decide)]
  rw [k.2 5 (by decide) (by decide), k.2 6 (by decide) (by decide), k.2 7 (by decide) (by decide), k.2 8 (by decide) (by decide), k.2 9 (by decide) (by decide)]
  exact h.1 a ha
/-! numbers -/
theorem i64_lt {x y : Int32} : x.toInt64 < y.toInt64 ↔ x.toInt < y.toInt := by rw [Int64.lt_iff_toInt_lt, Int32.toInt_toInt64, Int32.toInt_toInt64]
theorem lg_nn {x y : Int64} : ¬ (0 : Int32) ≤ lg_cmp x y ↔ x < y := by
  unfold lg_cmp
  by_cases h : x > y
  · rw [if_pos h]
    have : ¬ x < y := by rw [Int64.lt_iff_toInt_lt] at *; have := Int64.lt_iff_toInt_lt.mp h; omega
    simp [this]
  · rw [if_neg h]
    by_cases h2 : x = y
    · rw [if_pos h2]; subst h2
      have : ¬ x < x := h
      simp [this]
    · rw [if_neg h2]
      have : x < y := by
        rw [Int64.lt_iff_toInt_lt]
        have h3 : ¬ y.toInt < x.toInt := fun z => h (Int64.lt_iff_toInt_lt.mpr z)
        have h4 : x.toInt ≠ y.toInt := fun z => h2 (Int64.toInt_inj.mp z)
        omega
      simp [this]
theorem uP_iff {a fr : Int32} {e : En} : uP a fr.toInt64 e ↔ ((eA e).toInt < a.toInt ∨ (eA e = a ∧ eb e < fr.toInt)) := by
  unfold uP eb
  rw [lg_nn, i64_lt, Int32.lt_iff_toInt_lt]
theorem uOf_ap {a : Nat} {A B : List En} : uOf a (A ++ B) = uOf a A ++ uOf a B := List.filter_append _ _
theorem uOf_y {a : Nat} {e : En} {B : List En} (h : eA e = nI a) : uOf a (e :: B) = e :: uOf a B := by unfold uOf; rw [List.filter_cons_of_pos (by simpa using h)]
theorem uOf_n {a : Nat} {e : En} {B : List En} (h : eA e ≠ nI a) : uOf a (e :: B) = uOf a B := by unfold uOf; rw [List.filter_cons_of_neg (by simpa using h)]
theorem uad_ap {A B : List En} : uad (A ++ B) = uad A ++ uad B := List.map_append
theorem uad_c {e : En} {B : List En} : uad (e :: B) = e.1 :: uad B := rfl
theorem uad_mem {L : List En} {p : Nat} : p ∈ uad L ↔ ∃ e ∈ L, e.1 = p := by unfold uad; simp
theorem uOf_mem {a : Nat} {L : List En} {e : En} : e ∈ uOf a L ↔ e ∈ L ∧ eA e = nI a := by unfold uOf; simp
theorem uad_sub {a : Nat} {L : List En} {p : Nat} (h : p ∈ uad (uOf a L)) : ∃ e ∈ L, eA e = nI a ∧ e.1 = p := by
  obtain ⟨e, h1, h2⟩ := uad_mem.mp h
  exact ⟨e, (uOf_mem.mp h1).1, (uOf_mem.mp h1).2, h2⟩
theorem uad_of {a : Nat} {L : List En} (h : (uad L).Nodup) : (uad (uOf a L)).Nodup := by
  unfold uad uOf at *
  rw [List.nodup_iff_pairwise_ne] at *
  rw [List.pairwise_map] at *
  exact List.Pairwise.filter _ h
theorem uad_inj {L : List En} (h : (uad L).Nodup) {e f : En} (he : e ∈ L) (hf : f ∈ L) (hp : e.1 = f.1) : e = f := by
  unfold uad at h
  rw [List.nodup_iff_pairwise_ne, List.pairwise_map] at h
  by_cases hne : e = f
  · exact hne
  · exfalso
    obtain ⟨A, B, rfl⟩ := List.append_of_mem he
    rw [List.pairwise_append] at h
    rcases List.mem_append.mp hf with h1 | h1
    · exact h.2.2 f h1 e List.mem_cons_self hp.symm
    · rcases List.mem_cons.mp h1 with h1 | h1
      · exact hne h1.symm
      · exact (List.pairwise_cons.mp h.2.1).1 f h1 hp
theorem nI8 {a b : Nat} {P : Par} (hP : pn P ≤ 8) (ha : a < pn P) (hb : b < pn P) (h : nI a = nI b) : a = b := (nI_eq (by omega) (by omega)).mp h
/-- the chains after a step in one arena -/
theorem uCh_st {P : Par} {S S' : Cst} {R R' : Rst} {L L' : List En} {a : Nat} (hP : pn P ≤ 8) (ha : a < pn P) (hC : uCh P S R L) (h1 : ∀ e ∈ L', uFd S' R' e) (h2 : (uad L').Nodup) (h3 : uCS S' (par P a) (uad (uOf a L'))) (h4 : gI S' 9 (par P a) = nI (uOf a L').length) (h5 : ∀ b, b < pn P → b ≠ a → uOf b L' = uOf b L) (h6 : ∀ b, b < pn P → b ≠ a → gI S' 9 (par P b) = gI S 9 (par P b) ∧ gP S' 7 (par P b) = gP S 7 (par P b)) (h7 : ∀ f ∈ L, eA f ≠ nI a → gP S' 86 f.1 = gP S 86 f.1 ∧ gP S' 87 f.1 = gP S 87 f.1) : uCh P S' R' L' := by
  refine ⟨h1, h2, fun b hb => ?_⟩
  by_cases hab : b = a
  · subst hab; exact ⟨h3, h4⟩
  · obtain ⟨c1, c2⟩ := hC.2.2 b hb
    rw [h5 b hb hab, (h6 b hb hab).1]
    refine ⟨uCS_fr (h6 b hb hab).2 (fun p hp => ?_) c1, c2⟩
    obtain ⟨e, e1, e2, e3⟩ := uad_sub hp
    rw [← e3]
    exact h7 e e1 (fun z => hab (nI8 hP hb ha (e2.symm.trans z)))
theorem uSp_st {P : Par} {R R' : Rst} {L L' : List En} (h : uSp P R L) (hr : ∀ f, 19 ≤ f → f ≤ 23 → R'.2 f = R.2 f) (h24 : R'.1 24 = R.1 24) (hlen : L'.length + (liv R).length ≤ 600) (w1 : ∀ e ∈ L, (∃ s, s < 600 ∧ eS e = nI s ∧ eB e = R.2 20 s) → ∃ e' ∈ L', eS e' = eS e ∧ eB e' = eB e) (w2 : ∀ e ∈ L, eO e = 3 → (∃ s a c, s < 600 ∧ a < pn P ∧ R.2 22 s = 1 ∧ R.2 19 s = nI a ∧ psc P a = some c ∧ eA e = nI c ∧ eB e = R.2 20 s) → ∃ e' ∈ L', eA e' = eA e ∧ eO e' = 3 ∧ eB e' = eB e ∧ eZ e' = eZ e) : uSp P R' L' := by
  obtain ⟨h1, h2, h3, h4, h5⟩ := h
  have hl : liv R' = liv R := by unfold liv; rw [hr 22 (by decide) (by decide)]
  refine ⟨by rw [hr 22 (by decide) (by decide)]; exact h1, ?_, ?_, by rw [h24, hl]; exact h4, by rw [hl]; exact hlen⟩
  · rw [hr 22 (by decide) (by decide), hr 19 (by decide) (by decide), hr 20 (by decide) (by decide), hr 21 (by decide) (by decide), hr 23 (by decide) (by decide)]
    intro s hs hl1
    obtain ⟨a, a1, a2, a3, a4, ⟨e, e1, e2, e3⟩, a6⟩ := h2 s hs hl1
    refine ⟨a, a1, a2, a3, a4, ?_, fun c hc => ?_⟩
    · obtain ⟨e', f1, f2, f3⟩ := w1 e e1 ⟨s, hs, e2, e3⟩
      exact ⟨e', f1, f2.trans e2, f3.trans e3⟩
    · obtain ⟨g, g1, g2, g3, g4, g5⟩ := a6 c hc
      obtain ⟨g', k1, k2, k3, k4, k5⟩ := w2 g g1 g3 ⟨s, a, c, hs, a1, hl1, a2, hc, g2, g4⟩
      exact ⟨g', k1, k2.trans g2, k3, k4.trans g4, k5.trans g5⟩
  · rw [hr 22 (by decide) (by decide), hr 19 (by decide) (by decide), hr 20 (by decide) (by decide)]
    exact h3
theorem uTm_st {P : Par} {S S' : Cst} {R R' : Rst} {L L' : List En} {t t' a : Nat} (hP : pn P ≤ 8) (ha : a < pn P) (h : uTm P S R L t) (hn1 : (R.1 18).toInt ≤ (R'.1 18).toInt) (hn2 : (R'.1 18).toInt ≤ t') (hc1 : (gI S 10 (par P a)).toInt ≤ (gI S' 10 (par P a)).toInt) (hc2 : (gI S' 10 (par P a)).toInt ≤ (R'.1 18).toInt) (hc3 : ∀ b, b < pn P → b ≠ a → gI S' 10 (par P b) = gI S 10 (par P b)) (hA : ∀ e ∈ L', ∃ b, b < pn P ∧ eA e = nI b)
    (hE : ∀ e ∈ L', (∃ f ∈ L, f.1 = e.1 ∧ eA f = eA e ∧ eT f = eT e ∧ gI S' 83 e.1 = gI S 83 e.1 ∧ (eO e = 0 → eO f = 0)) ∨ (eA e = nI a ∧ (R.1 18).toInt < (eT e).toInt ∧ (eT e).toInt ≤ (R'.1 18).toInt ∧ (gI S 10 (par P a)).toInt < (gI S' 83 e.1).toInt ∧ (gI S' 83 e.1).toInt ≤ (gI S' 10 (par P a)).toInt))
    (hN : ∀ e ∈ L', ∀ f ∈ L', eA e = nI a → eA f = nI a → eO e = 0 → eO f = 0 → (R.1 18).toInt < (eT e).toInt → (R.1 18).toInt < (eT f).toInt → (gI S' 83 e.1 < gI S' 83 f.1 ↔ eT e < eT f)) : uTm P S' R' L' t' := by
  obtain ⟨h1, h2, h3, h4, h5, h6⟩ := h
  refine ⟨by omega, hn2, fun b hb => ?_, fun e he => ?_, fun e he b hb hab => ?_, fun e he f hf hef oe of' => ?_⟩
  · by_cases hab : b = a
    · subst hab; exact ⟨by have := (h3 b hb).1; omega, hc2⟩
    · rw [hc3 b hb hab]; have := h3 b hb; omega
  · rcases hE e he with ⟨f, f1, f2, f3, f4, f5, f6⟩ | ⟨k1, k2, k3, k4, k5⟩
    · have := h4 f f1; rw [← f4]; omega
    · exact k3
  · rcases hE e he with ⟨f, f1, f2, f3, f4, f5, f6⟩ | ⟨k1, k2, k3, k4, k5⟩
    · have := h5 f f1 b hb (f3.trans hab)
      rw [f5, ← f2]
      by_cases hba : b = a
      · subst hba; omega
      · rw [hc3 b hb hba]; exact this
    · have : b = a := nI8 hP hb ha (hab.symm.trans k1)
      subst this; exact k5
  · rcases hE e he with ⟨f0, f1, f2, f3, f4, f5, f6⟩ | ⟨k1, k2, k3, k4, k5⟩ <;> rcases hE f hf with ⟨g0, g1, g2, g3, g4, g5, g6⟩ | ⟨l1, l2, l3, l4, l5⟩
    · rw [f5, g5, ← f4, ← g4, ← f2, ← g2]
      exact h6 f0 f1 g0 g1 (by rw [f3, g3]; exact hef) (f6 oe) (g6 of')
    · have z1 := h4 f0 f1
      have z2 := h5 f0 f1 a ha (by rw [f3, hef]; exact l1)
      rw [Int32.lt_iff_toInt_lt, Int32.lt_iff_toInt_lt, f5, ← f4, ← f2]
      constructor <;> (intro; omega)
    · have z1 := h4 g0 g1
      have z2 := h5 g0 g1 a ha (by rw [g3, ← hef]; exact k1)
      rw [Int32.lt_iff_toInt_lt, Int32.lt_iff_toInt_lt, g5, ← g4, ← g2]
      constructor <;> (intro; omega)
    · exact hN e he f hf k1 l1 oe of' k2 l2
