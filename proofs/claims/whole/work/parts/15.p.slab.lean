/-! ===== pure part: slabs and their objects ===== -/
theorem slb_ok0 : ∀ c, c < 9 → ∀ i, i < 9 → (decide (1 ≤ i) && decide (i ≤ c)) = false ∨ (decide (3 ≤ slb c / i) && (decide (slb c / i ≤ 32) && (decide ((slb c / i) * i ≤ slb c) && decide (slb c ≤ 32)))) = true := by decide +kernel
theorem slb_ok (c : Nat) (hc : c < 9) (i : Nat) (hi : i < 9) (h1 : 1 ≤ i) (h2 : i ≤ c) : 3 ≤ slb c / i ∧ slb c / i ≤ 32 ∧ (slb c / i) * i ≤ slb c ∧ slb c ≤ 32 := by
  rcases slb_ok0 c hc i hi with h | h
  · simp at h; omega
  · simp at h; exact h
theorem sl_num {P : Par} {R : Rst} {a i : Nat} (hR : uStR P R) (h : vd P a i) : 3 ≤ onm P a i ∧ onm P a i ≤ 32 ∧ onm P a i * i ≤ slb (pch P a) ∧ slb (pch P a) ≤ 32 ∧ 0 < osz P a i ∧ osz P a i ≤ 524288 ∧ i ≤ 8 := by
  have hq := hR.2.2 a h.1
  have h1 := h.2.1
  have h2 := h.2.2
  obtain ⟨k1, k2, k3, k4⟩ := slb_ok (pch P a) (by omega) i (by omega) h1 h2
  have hp := Nat.two_pow_pos (psh P a)
  have hp2 := pw16 hq.1
  refine ⟨k1, k2, k3, k4, Nat.mul_pos h1 hp, ?_, by omega⟩
  unfold osz
  have := Nat.mul_le_mul (show i ≤ 8 by omega) hp2
  omega
theorem sl_ent {P : Par} {R : Rst} {L : List En} {a i : Nat} {e : En} (hR : uStR P R) (hL : uLs P R L) (h : isSl P L a i e) : eO e = 2 ∧ ez e = ((slb (pch P a) * 2 ^ psh P a : Nat) : Int) := by
  obtain ⟨hv, h1, h2, h3⟩ := h
  obtain ⟨a', q1, q2, q3, q4, q5, q6, q7, q8, q9, q10, q11⟩ := hL.1 e h1
  have : a' = a := nI8 hR.1 q1 hv.1 (q2.symm.trans h2)
  subst this
  rcases q11 with q | ⟨q, i', _, _, _, q'⟩
  · exact absurd (h3.symm.trans q) (nI_c0 hR hv)
  · exact ⟨q, q'⟩
theorem ob_ok {P : Par} {R : Rst} {L : List En} {a i j : Nat} {e : En} (hR : uStR P R) (hL : uLs P R L) (h : isSl P L a i e) (hj : j < onm P a i) : (ob P a i e j).toInt = eb e + ((j * osz P a i : Nat) : Int) ∧ eb e + ((j * osz P a i : Nat) : Int) + (osz P a i : Int) ≤ eb e + ez e ∧ 0 ≤ eb e ∧ eb e + ez e ≤ 1073741824 ∧ j * osz P a i < 1073741824 := by
  obtain ⟨n1, n2, n3, n4, n5, n6, n7⟩ := sl_num hR h.1
  obtain ⟨o1, o2⟩ := sl_ent hR hL h
  have hs := uEl_sp (hL.1 e h.2.1)
  have h1 : (j + 1) * osz P a i ≤ slb (pch P a) * 2 ^ psh P a := by
    unfold osz
    rw [← Nat.mul_assoc]
    apply Nat.mul_le_mul_right
    exact Nat.le_trans (Nat.mul_le_mul_right i hj) n3
  have h2 : (j + 1) * osz P a i = j * osz P a i + osz P a i := by rw [Nat.add_mul, Nat.one_mul]
  have e1 : eb e = (eB e).toInt := rfl
  have h3 : ((j * osz P a i : Nat) : Int) + (osz P a i : Int) ≤ ez e := by rw [o2]; omega
  have h4 : j * osz P a i < 1073741824 := by omega
  refine ⟨?_, by omega, hs.2.2.1, hs.2.2.2.2, h4⟩
  unfold ob
  rw [i32_add (by rw [nI_toInt (by omega)]; omega) (by rw [nI_toInt (by omega)]; omega), nI_toInt (by omega)]
  rfl
theorem ob_in {P : Par} {R : Rst} {L : List En} {a i j : Nat} {e : En} (hR : uStR P R) (hL : uLs P R L) (h : isSl P L a i e) (hj : j < onm P a i) : inR (ob P a i e j) e = true := by
  obtain ⟨k1, k2, k3, k4⟩ := ob_ok hR hL h hj
  have := (sl_num hR h.1).2.2.2.2.1
  unfold inR
  simp; omega
theorem ob_nm1 {P : Par} {R : Rst} {L : List En} {a i j : Nat} {e : En} (hR : uStR P R) (hL : uLs P R L) (h : isSl P L a i e) (hj : j < onm P a i) : ob P a i e j ≠ -1 := by
  obtain ⟨k1, k2, k3, k4⟩ := ob_ok hR hL h hj
  intro z
  rw [z] at k1
  have : (-1 : Int32).toInt = -1 := by decide
  omega
theorem ob_inj {P : Par} {R : Rst} {L : List En} {a i i' j j' : Nat} {e e' : En} (hR : uStR P R) (hL : uLs P R L) (h : isSl P L a i e) (h' : isSl P L a i' e') (hj : j < onm P a i) (hj' : j' < onm P a i') (hb : ob P a i e j = ob P a i' e' j') : e = e' ∧ i = i' ∧ j = j' := by
  obtain ⟨k1, k2, k3, k4, k5⟩ := ob_ok hR hL h hj
  obtain ⟨l1, l2, l3, l4, l5⟩ := ob_ok hR hL h' hj'
  have s1 := (sl_num hR h.1).2.2.2.2
  have s2 := (sl_num hR h'.1).2.2.2.2
  rw [hb] at k1
  have he : e = e' := uLs_uq hL h.2.1 h'.2.1 (h.2.2.1.trans h'.2.2.1.symm) (by omega) (by omega)
  subst he
  have hi : i = i' := (nI_eq (by omega) (by omega)).mp (h.2.2.2.symm.trans h'.2.2.2)
  subst hi
  refine ⟨rfl, rfl, ?_⟩
  have : j * osz P a i = j' * osz P a i := by omega
  exact Nat.eq_of_mul_eq_mul_right s1.1 this
/-- an entry that is a slab -/
theorem sl_of {P : Par} {R : Rst} {L : List En} {a : Nat} {e : En} (hR : uStR P R) (hL : uLs P R L) (he : e ∈ L) (ha : a < pn P) (hea : eA e = nI a) (hc : eC e ≠ 0) : ∃ i, isSl P L a i e := by
  obtain ⟨a', q1, q2, q3, q4, q5, q6, q7, q8, q9, q10, q11⟩ := hL.1 e he
  have : a' = a := nI8 hR.1 q1 ha (q2.symm.trans hea)
  subst this
  rcases q11 with q | ⟨q, i, i1, i2, i3, _⟩
  · exact absurd q hc
  · exact ⟨i, ⟨q1, i1, i2⟩, he, hea, i3⟩
theorem osz_inj {P : Par} {a i i' : Nat} (h : osz P a i = osz P a i') : i = i' := Nat.eq_of_mul_eq_mul_right (Nat.two_pow_pos _) h
theorem cslab {F : Nat} {P : Par} {x : Nat} {S : Cst} {R : Rst} {L : List En} {M : Pil} {Q : Pad} {H : List (Nat × Int32)} {t a i : Nat} {e : En} (hG : uG P S R L t) (hR : uStR P R) (hS : uStS P x S) (hK : uKc P S L M Q H) (hv : vd P a i) (he : e ∈ L) (hea : eA e = nI a) : cf_X5_isSlabOf F S e.1 (some (pca P a i)) = some (if eC e = nI i then 1 else 0) := by
  have hfd := hG.2.2.2.1.1 e he
  unfold cf_X5_isSlabOf
  rw [hfd.2.2.2.1]
  by_cases ho : eO e = 2
  · rw [if_pos ho]
    obtain ⟨i', hi⟩ := sl_of hR hG.1 he hv.1 hea (hK.2.2.2.2.2.2.2 e he ho)
    simp only [nnS]
    rw [(hK.2.1 a i' e hi).1, (hK.1.1 a i hv).2.1, hi.2.2.2]
    have s1 := sl_num hR hv
    have s2 := sl_num hR hi.1
    by_cases q : i' = i
    · subst q; rw [if_pos rfl, if_pos rfl]
    · rw [if_neg (fun z => q (osz_inj ((nI_eq (by omega) (by omega)).mp z))), if_neg (fun z => q ((nI_eq (by omega) (by omega)).mp z))]
  · rw [if_neg ho, if_neg]
    intro z
    exact nI_c0 hR hv (z.symm.trans (eC0 (hG.1.1 e he) ho))
theorem cslab_y {F : Nat} {P : Par} {x : Nat} {S : Cst} {R : Rst} {L : List En} {M : Pil} {Q : Pad} {H : List (Nat × Int32)} {t a i : Nat} {e : En} (hA : uA P x S R L M Q H t) (h : isSl P L a i e) : cf_X5_isSlabOf F S e.1 (some (pca P a i)) = some 1 := by
  obtain ⟨hR, hS, hD, hG, hK, hr⟩ := hA
  rw [cslab hG hR hS hK h.1 h.2.1 h.2.2.1, if_pos h.2.2.2]
theorem slabHold_ok {F : Nat} {P : Par} {x : Nat} {S : Cst} {R : Rst} {L : List En} {M : Pil} {Q : Pad} {H : List (Nat × Int32)} {t a i j : Nat} {e : En} (hF : 1000 ≤ F) (hA : uA P x S R L M Q H t) (h : isSl P L a i e) (hj : j < onm P a i) : cf_X0_slabHolding F S (par P a) (some (pca P a i)) (ob P a i e j) = some (some e.1) := by
  have hA' := hA
  obtain ⟨hR, hS, hD, hG, hK, hr⟩ := hA
  unfold cf_X0_slabHolding
  rw [hold_ok hF hG h.1.1, find_in hG.1 h.2.1 h.2.2.1 (ob_in hR hG.1 h hj), Option.bind_some, Option.map_some, ncS, cslab_y hA' h, Option.bind_some, if_neg (by decide)]
theorem slabHold_m1 {F : Nat} {P : Par} {S : Cst} {R : Rst} {L : List En} {t a : Nat} {c : Option Nat} (hF : 1000 ≤ F) (hG : uG P S R L t) (ha : a < pn P) : cf_X0_slabHolding F S (par P a) c (-1) = some none := by
  unfold cf_X0_slabHolding
  rw [hold_ok hF hG ha]
  have : (uOf a L).find? (inR (-1)) = none := by
    rw [List.find?_eq_none]
    intro f hf
    have := (uEl_sp (hG.1.1 f (uOf_mem.mp hf).1)).2.2.1
    have h1 : (-1 : Int32).toInt = -1 := by decide
    unfold inR
    simp; omega
  rw [this]; rfl
theorem objAt_ok {F : Nat} {P : Par} {x : Nat} {S : Cst} {R : Rst} {L : List En} {M : Pil} {Q : Pad} {H : List (Nat × Int32)} {t a i j : Nat} {e : En} (hA : uA P x S R L M Q H t) (h : isSl P L a i e) (hj : j < onm P a i) : cf_X5_objectAt F S e.1 (ob P a i e j) = some (nI j) := by
  obtain ⟨hR, hS, hD, hG, hK, hr⟩ := hA
  have hfd := hG.2.2.2.1.1 e h.2.1
  obtain ⟨n1, n2, n3, n4, n5, n6, n7⟩ := sl_num hR h.1
  obtain ⟨k1, k2, k3, k4, k5⟩ := ob_ok hR hG.1 h hj
  obtain ⟨s1, s2, _⟩ := hK.2.1 a i e h
  unfold cf_X5_objectAt
  rw [s1, s2, hfd.2.1, if_neg (nI_nle n5 (by omega)), if_pos (by rw [Int32.le_iff_toInt_le, k1]; show eb e ≤ _; omega)]
  have hsub : ob P a i e j - eB e = nI (j * osz P a i) := by unfold ob; grind
  unfold dv
  rw [if_neg (nI_ne0 n5 (by omega)), hsub, pk_div (by omega) n5 (by omega), Nat.mul_div_cancel _ n5, if_neg (nI_ge hj (by omega))]
/-- one bit of one slab changes -/
theorem uKs_upd {P : Par} {R : Rst} {S S' : Cst} {L : List En} {M M' : Pil} {H H' : List (Nat × Int32)} {a i j : Nat} {e : En} (hR : uStR P R) (hL : uLs P R L) (hnd : (uad L).Nodup) (h : isSl P L a i e) (hj : j < onm P a i) (hK : uKs P S L M H)
    (h1 : ∀ f p, f = 88 ∨ f = 89 → gI S' f p = gI S f p) (h2 : ∀ f p, p ≠ e.1 → f = 90 ∨ f = 91 → gI S' f p = gI S f p)
    (b1 : ∀ l, l < 32 → l ≠ j → bt (gI S' 91 e.1) l = bt (gI S 91 e.1) l ∧ bt (gI S' 90 e.1) l = bt (gI S 90 e.1) l)
    (b2 : bt (gI S' 91 e.1) j = true ↔ (a, ob P a i e j) ∈ H') (b3 : bt (gI S' 90 e.1) j = true ↔ (a, ob P a i e j) ∉ H' ∧ ob P a i e j ∉ fl M' a i)
    (m1 : ∀ p, p ≠ (a, ob P a i e j) → (p ∈ H' ↔ p ∈ H)) (m2 : ∀ a' i' v, vd P a' i' → ¬ (a' = a ∧ i' = i ∧ v = ob P a i e j) → (v ∈ fl M' a' i' ↔ v ∈ fl M a' i')) : uKs P S' L M' H' := by
  intro a' i' e' h'
  obtain ⟨k1, k2, k3, k4⟩ := hK a' i' e' h'
  rw [h1 88 _ (Or.inl rfl), h1 89 _ (Or.inr rfl)]
  refine ⟨k1, k2, ?_⟩
  have hn := (sl_num hR h'.1).2.1
  -- the memberships of another object
  have key : ∀ l, l < onm P a' i' → ¬ (a' = a ∧ e' = e ∧ l = j) → (((a', ob P a' i' e' l) ∈ H' ↔ (a', ob P a' i' e' l) ∈ H) ∧ (ob P a' i' e' l ∈ fl M' a' i' ↔ ob P a' i' e' l ∈ fl M a' i')) := by
    intro l hl hne
    have hd : ¬ (a' = a ∧ ob P a' i' e' l = ob P a i e j) := by
      rintro ⟨z1, z2⟩
      subst z1
      obtain ⟨w1, w2, w3⟩ := ob_inj hR hL h' h hl hj z2
      exact hne ⟨rfl, w1, w3⟩
    refine ⟨m1 _ (fun z => hd ⟨congrArg Prod.fst z, congrArg Prod.snd z⟩), m2 _ _ _ h'.1 (fun z => hd ⟨z.1, z.2.2⟩)⟩
  by_cases he : e' = e
  · subst he
    have ha : a' = a := nI8 hR.1 h'.1.1 h.1.1 (h'.2.2.1.symm.trans h.2.2.1)
    subst ha
    have hi : i' = i := by
      have z1 := (sl_num hR h.1).2.2.2.2.2.2
      have z2 := (sl_num hR h'.1).2.2.2.2.2.2
      exact (nI_eq (by omega) (by omega)).mp (h'.2.2.2.symm.trans h.2.2.2)
    subst hi
    constructor
    · intro l hl
      by_cases hlj : l = j
      · subst hlj; rw [b2]; exact ⟨fun z => ⟨hj, z⟩, fun z => z.2⟩
      · rw [(b1 l hl hlj).1, k3 l hl]
        constructor
        · rintro ⟨z1, z2⟩; exact ⟨z1, ((key l z1 (fun z => hlj z.2.2)).1).mpr z2⟩
        · rintro ⟨z1, z2⟩; exact ⟨z1, ((key l z1 (fun z => hlj z.2.2)).1).mp z2⟩
    · intro l hl
      by_cases hlj : l = j
      · subst hlj; rw [b3]; exact ⟨fun z => ⟨hj, z⟩, fun z => z.2⟩
      · rw [(b1 l hl hlj).2, k4 l hl]
        constructor
        · rintro ⟨z1, z2, z3⟩
          obtain ⟨w1, w2⟩ := key l z1 (fun z => hlj z.2.2)
          exact ⟨z1, fun z => z2 (w1.mp z), fun z => z3 (w2.mp z)⟩
        · rintro ⟨z1, z2, z3⟩
          obtain ⟨w1, w2⟩ := key l z1 (fun z => hlj z.2.2)
          exact ⟨z1, fun z => z2 (w1.mpr z), fun z => z3 (w2.mpr z)⟩
  · have hp : e'.1 ≠ e.1 := fun z => he (uad_inj hnd h'.2.1 h.2.1 z)
    rw [h2 91 _ hp (Or.inr rfl), h2 90 _ hp (Or.inl rfl)]
    constructor
    · intro l hl
      rw [k3 l hl]
      constructor
      · rintro ⟨z1, z2⟩; exact ⟨z1, ((key l z1 (fun z => he z.2.1)).1).mpr z2⟩
      · rintro ⟨z1, z2⟩; exact ⟨z1, ((key l z1 (fun z => he z.2.1)).1).mp z2⟩
    · intro l hl
      rw [k4 l hl]
      constructor
      · rintro ⟨z1, z2, z3⟩
        obtain ⟨w1, w2⟩ := key l z1 (fun z => he z.2.1)
        exact ⟨z1, fun z => z2 (w1.mp z), fun z => z3 (w2.mp z)⟩
      · rintro ⟨z1, z2, z3⟩
        obtain ⟨w1, w2⟩ := key l z1 (fun z => he z.2.1)
        exact ⟨z1, fun z => z2 (w1.mpr z), fun z => z3 (w2.mpr z)⟩
/-- nothing but the piles' order changes -/
theorem uKs_same {P : Par} {S S' : Cst} {L : List En} {M M' : Pil} {H H' : List (Nat × Int32)} (hK : uKs P S L M H) (h1 : ∀ f p, 88 ≤ f → f ≤ 91 → gI S' f p = gI S f p) (m1 : ∀ p, p ∈ H' ↔ p ∈ H) (m2 : ∀ a i v, vd P a i → (v ∈ fl M' a i ↔ v ∈ fl M a i)) : uKs P S' L M' H' := by
  intro a i e h
  obtain ⟨k1, k2, k3, k4⟩ := hK a i e h
  rw [h1 88 _ (by decide) (by decide), h1 89 _ (by decide) (by decide), h1 90 _ (by decide) (by decide), h1 91 _ (by decide) (by decide)]
  refine ⟨k1, k2, fun j hj => ?_, fun j hj => ?_⟩
  · rw [k3 j hj, m1]
  · rw [k4 j hj, m1, m2 a i _ h.1]
theorem uKo_perm {P : Par} {L : List En} {M M' : Pil} {H : List (Nat × Int32)} (h : uKo P L M H) (hp : ∀ a i, vd P a i → (fl M' a i).Perm (fl M a i)) : uKo P L M' H := by
  obtain ⟨h1, h2, h3, h4, h5, h6⟩ := h
  exact ⟨h1, fun a i b hv hb => h2 a i b hv ((hp a i hv).mem_iff.mp hb), h3, fun a i hv => (hp a i hv).nodup_iff.mpr (h4 a i hv), fun a i b hv hb => h5 a i b hv ((hp a i hv).mem_iff.mp hb), h6⟩
