/-! ===== pure part: the walk over the slabs of one size ===== -/
theorem uG_cc {P : Par} {S : Cst} {R : Rst} {A B : List En} {e : En} {t : Nat} {v : Int32} (hG : uG P S R (A ++ e :: B) t) (he : uEl P R (e.1, (eA e, eB e, eZ e, eO e, eT e, eS e, v))) : uG P S (rset R 17 A.length v) (A ++ (e.1, (eA e, eB e, eZ e, eO e, eT e, eS e, v)) :: B) t := by
  obtain ⟨hLs, hSp, hRL, hCh, hSc, hTm⟩ := hG
  have hrr : ∀ f, 19 ≤ f → f ≤ 23 → (rset R 17 A.length v).2 f = R.2 f := fun f f1 f2 => rset_f (by omega)
  have back : ∀ f ∈ A ++ (e.1, (eA e, eB e, eZ e, eO e, eT e, eS e, v)) :: B, ∃ g ∈ A ++ e :: B, g.1 = f.1 ∧ eA g = eA f ∧ eB g = eB f ∧ eZ g = eZ f ∧ eO g = eO f ∧ eT g = eT f ∧ eS g = eS f := by
    intro f hf
    simp only [List.mem_append, List.mem_cons] at hf
    rcases hf with hf | rfl | hf
    · exact ⟨f, by simp [hf], rfl, rfl, rfl, rfl, rfl, rfl, rfl⟩
    · exact ⟨e, by simp, rfl, rfl, rfl, rfl, rfl, rfl, rfl⟩
    · exact ⟨f, by simp [hf], rfl, rfl, rfl, rfl, rfl, rfl, rfl⟩
  refine ⟨uLs_fr hrr (uLs_set hLs he rfl rfl rfl rfl), ?_, ?_, ?_, ?_, ?_⟩
  · refine uSp_st hSp hrr rfl (by have := hSp.2.2.2.2; simp at this ⊢; omega) (fun f hf _ => ?_) (fun f hf h3 _ => ?_)
    · simp at hf
      rcases hf with hf | rfl | hf
      · exact ⟨f, by simp [hf], rfl, rfl⟩
      · exact ⟨(f.1, (eA f, eB f, eZ f, eO f, eT f, eS f, v)), by simp, rfl, rfl⟩
      · exact ⟨f, by simp [hf], rfl, rfl⟩
    · simp at hf
      rcases hf with hf | rfl | hf
      · exact ⟨f, by simp [hf], rfl, h3, rfl, rfl⟩
      · exact ⟨(f.1, (eA f, eB f, eZ f, eO f, eT f, eS f, v)), by simp, rfl, h3, rfl, rfl⟩
      · exact ⟨f, by simp [hf], rfl, h3, rfl, rfl⟩
  · obtain ⟨k1, k2, g1, g2, g3, g4, g5, g6, g7⟩ := uRL_g hRL (k := A.length) (e := e) get_mid
    refine uRL_put hRL rfl rfl (fun m => ?_)
    unfold sgk
    by_cases hm : m = A.length
    · subst hm; simp [rset_g, g1, g2, g3, g4, g5, g6]
    · simp [rset_g, hm]
  · refine ⟨fun f hf => ?_, nd_put hCh.2.1 rfl, fun b hb => ?_⟩
    · obtain ⟨g, g1, g2, g3, g4, g5, g6, g7, g8⟩ := back f hf
      have h := hCh.1 g g1
      unfold uFd at *
      have : esl g = esl f := by unfold esl; rw [g8]
      rw [hrr 20 (by decide) (by decide), hrr 21 (by decide) (by decide), ← g2, ← g4, ← g5, ← g6, ← this]
      exact h
    · obtain ⟨c1, c2⟩ := hCh.2.2 b hb
      by_cases q : eA e = nI b
      · rw [uad_at q] at c1
        rw [uOf_len q] at c2
        rw [uad_at (show eA (e.1, (eA e, eB e, eZ e, eO e, eT e, eS e, v)) = nI b from q), uOf_len (show eA (e.1, (eA e, eB e, eZ e, eO e, eT e, eS e, v)) = nI b from q)]
        exact ⟨c1, c2⟩
      · rw [uOf_ap, uOf_n q] at c1 c2
        rw [uOf_ap, uOf_n (show eA (e.1, (eA e, eB e, eZ e, eO e, eT e, eS e, v)) ≠ nI b from q)]
        exact ⟨c1, c2⟩
  · intro b hb
    have : livA (rset R 17 A.length v) b = livA R b := by unfold livA liv; rw [hrr 22 (by decide) (by decide), hrr 19 (by decide) (by decide)]
    rw [this]; exact hSc b hb
  · obtain ⟨q1, q2, q3, q4, q5, q6⟩ := hTm
    refine ⟨q1, q2, q3, fun f hf => ?_, fun f hf b hb hfb => ?_, fun f hf g hg hfg of' og => ?_⟩
    · obtain ⟨g, g1, g2, g3, g4, g5, g6, g7, g8⟩ := back f hf
      rw [← g7]; exact q4 g g1
    · obtain ⟨g, g1, g2, g3, g4, g5, g6, g7, g8⟩ := back f hf
      rw [← g2]; exact q5 g g1 b hb (g3.trans hfb)
    · obtain ⟨f', f1, f2, f3, f4, f5, f6, f7, f8⟩ := back f hf
      obtain ⟨g', g1, g2, g3, g4, g5, g6, g7, g8⟩ := back g hg
      rw [← f2, ← g2, ← f7, ← g7]
      exact q6 f' f1 g' g1 (by rw [f3, g3]; exact hfg) (f6.trans of') (g6.trans og)
/-- no span rests on an entry that isn't lent -/
theorem nol {P : Par} {S : Cst} {R : Rst} {L : List En} {t a : Nat} {e : En} (hP : pn P ≤ 8) (hG : uG P S R L t) (he : e ∈ L) (ha : a < pn P) (hea : eA e = nI a) (ho : eO e ≠ 3) : ∀ s a', s < 600 → a' < pn P → R.2 22 s = 1 → R.2 19 s = nI a' → psc P a' = some a → R.2 20 s ≠ eB e := by
  intro s a' hs ha' hl h19 hpc z
  obtain ⟨b, b1, b2, b3, b4, b5, b6⟩ := hG.2.1.2.1 s hs hl
  have : b = a' := nI8 hP b1 ha' (b2.symm.trans h19)
  subst this
  obtain ⟨g, g1, g2, g3, g4, g5⟩ := b6 a hpc
  have e1 := uEl_sp (hG.1.1 g g1)
  have e2 := uEl_sp (hG.1.1 e he)
  have hb : eb g = eb e := by unfold eb; rw [g4, z]
  have : g = e := uLs_uq hG.1 g1 he (g2.trans hea.symm) (by omega) (by omega)
  subst this
  exact ho g3
theorem split_p {p : En → Prop} (L : List En) : ∃ A B, L = A ++ B ∧ (∀ f ∈ A, p f) ∧ ∀ f, B.head? = some f → ¬ p f := by
  induction L with
  | nil => exact ⟨[], [], rfl, fun f hf => (by cases hf), fun f hf => (by cases hf)⟩
  | cons e L ih =>
    by_cases h : p e
    · obtain ⟨A, B, h1, h2, h3⟩ := ih
      refine ⟨e :: A, B, by rw [h1]; rfl, fun f hf => ?_, h3⟩
      rcases List.mem_cons.mp hf with rfl | hf
      · exact h
      · exact h2 f hf
    · exact ⟨[], e :: L, rfl, fun f hf => (by cases hf), fun f hf => by cases hf; exact h⟩
def tot (L : List En) : Nat := (L.filter (fun e => decide (eC e ≠ 0))).length
theorem tot_le (L : List En) : tot L ≤ L.length := List.length_filter_le _ _
theorem p74_skip {F : Nat} {P : Par} {x : Nat} {S : Cst} {R : Rst} {L : List En} {M : Pil} {Q : Pad} {H : List (Nat × Int32)} {t a i : Nat} {kr : Rst → Int32 → Int32 → Int32 → Option (Int32 × Rst)} {g : Int32} (hF : 1000 ≤ F) (hA : uA P x S R L M Q H t) (hv : vd P a i) : ∀ (C A B : List En) (n : Nat), L = A ++ (C ++ B) → (∀ f ∈ C, eA f = nI a → sw1 P a i H f = false) → rf_purges_74 F kr (n + C.length) R (nI a) g (nI i) (nI A.length) = rf_purges_74 F kr n R (nI a) g (nI i) (nI (A ++ C).length) := by
  obtain ⟨hR, hS, hD, hG, hK, hr⟩ := hA
  have h8 := H8 hR hK.2.2
  intro C
  induction C with
  | nil => intro A B n _ _; simp
  | cons f C ih =>
    intro A B n hL hC
    have hRL := hG.2.2.1
    have hLs := hG.1
    rw [hL, List.cons_append] at hRL hLs
    have hr1 := ih (A ++ [f]) B n (by rw [hL]; simp) (fun h hh => hC h (by simp [hh]))
    have hf := hC f (by simp)
    rw [List.length_cons, ← Nat.add_assoc]
    simp only [rf_purges_74]
    rw [if_neg (wk_cons hRL), rslab hR hLs hRL hv, Option.bind_some, sn_len (e := f)]
    have fin : rf_purges_74 F kr (n + C.length) R (nI a) g (nI i) (nI (A ++ [f]).length) = rf_purges_74 F kr n R (nI a) g (nI i) (nI (A ++ f :: C).length) := by rw [hr1]; simp
    by_cases q : eA f = nI a ∧ eC f = nI i
    · rw [if_pos q, if_neg (show ¬ (1 : Int32) = 0 by decide), whole_ok hF hR hr h8 hv hRL, Option.bind_some]
      have hw : ¬ wh P a i H f = true := by
        intro w
        have := hf q.1
        unfold sw1 at this
        simp [q.2, w] at this
      rw [if_neg hw, if_pos rfl]; exact fin
    · rw [if_neg q, if_pos rfl]; exact fin
theorem uB.of {P : Par} {x : Nat} {S : Cst} {R : Rst} {L : List En} {M : Pil} {Q : Pad} {H : List (Nat × Int32)} {t : Nat} (h : uA P x S R L M Q H t) : uB P x S R L M Q H t := ⟨h.1, h.2.1, h.2.2.1, h.2.2.2.1, h.2.2.2.2.1⟩
theorem uA_mono {P : Par} {x : Nat} {S : Cst} {R : Rst} {L : List En} {M : Pil} {Q : Pad} {H : List (Nat × Int32)} {t t' : Nat} (h : uA P x S R L M Q H t) (ht : t ≤ t') : uA P x S R L M Q H t' := ⟨h.1, h.2.1, h.2.2.1, uG_mono h.2.2.2.1 ht, h.2.2.2.2⟩
set_option maxHeartbeats 4000000 in
/-- a whole slab goes -/
theorem jslab {F : Nat} {P : Par} {x : Nat} {S : Cst} {R : Rst} {A B : List En} {M : Pil} {Q : Pad} {H : List (Nat × Int32)} {t a i : Nat} {e : En} (hF : 1000 ≤ F) (hA : uA P x S R (A ++ e :: B) M Q H t) (hv : vd P a i) (hM : fl M a i = []) (hsl : isSl P (A ++ e :: B) a i e) (hw : wh P a i H e = true) (ht : t + 9 < 2147483648) :
    ∃ S' R' L', cf_X6_release F S (some (par P a)) (some e.1) = some S' ∧ rf_gives F 9 (rset R 17 A.length 0) (nI a) (eB e) = some R' ∧ uA P x S' R' L' M Q H (t + 9) ∧ tot L' + 1 ≤ tot (A ++ e :: B) ∧ L'.length + (liv R').length ≤ (A ++ e :: B).length + (liv R).length ∧ (∀ f, eC f ≠ 0 → f ∈ L' → f ∈ A ∨ f ∈ B) := by
  have hA0 := hA
  obtain ⟨hR, hS, hD, hG, ⟨hp, hs, ho⟩, hr⟩ := hA
  have hP := hR.1
  have hE := hG.1.1 e (by simp)
  have hsp := uEl_sp hE
  obtain ⟨o1, o2⟩ := sl_ent hR hG.1 hsl
  have hea := hsl.2.2.1
  obtain ⟨d1, d2⟩ := uEl_dv hP hv.1 hE hea
  have he0 : uEl P R (e.1, (eA e, eB e, eZ e, eO e, eT e, eS e, 0)) := uEl_join hv.1 hE hea rfl rfl hsp.2.2.1 hsp.2.2.2.1 hsp.1 hsp.2.1 hsp.2.2.2.2 d1 d2 rfl
  have hG0 := uG_cc hG he0
  have hfr : uFr R (rset R 17 A.length 0) := uFr_set (by decide) (by decide)
  have hR0 := uStR_F hR hfr.u
  have hnl := nol hP hG0 (e := (e.1, (eA e, eB e, eZ e, eO e, eT e, eS e, 0))) (by simp) hv.1 hea (by show eO e ≠ 3; rw [o1]; decide)
  have ha8 : a < 8 := by have := hv.1; omega
  obtain ⟨S', R', L', k1, k2, k3, k4, k5, k6, k7, k8⟩ := jrel (x := x) hF a (δ := 0) (d := 9) (n := F) hR0 hS hG0 hv.1 hea rfl hnl (by omega) (by omega) (by omega) (by omega)
  have nd := hG.2.2.2.1.2.1
  have hne : ∀ f, f ∈ A ∨ f ∈ B → f ≠ e := fun f hf z => nd_ne nd hf (by rw [z])
  have hc0 : eC e ≠ 0 := by rw [hsl.2.2.2]; exact nI_c0 hR hv
  have slab : ∀ f, eC f ≠ 0 → (f ∈ L' ↔ f ∈ A ∨ f ∈ B) := by
    intro f hf
    rw [k6 f hf]
    simp only [List.mem_append, List.mem_cons]
    constructor
    · rintro (h | rfl | h)
      · exact Or.inl h
      · exact absurd rfl hf
      · exact Or.inr h
    · rintro (h | h)
      · exact Or.inl h
      · exact Or.inr (Or.inr h)
  have sl1 : ∀ a' i' f, isSl P L' a' i' f → isSl P (A ++ e :: B) a' i' f ∧ f ≠ e := by
    rintro a' i' f ⟨h1, h2, h3, h4⟩
    have := (slab f (by rw [h4]; exact nI_c0 hR h1)).mp h2
    exact ⟨⟨h1, by simp; rcases this with h | h <;> simp [h], h3, h4⟩, hne f this⟩
  have sl2 : ∀ a' i' f, isSl P (A ++ e :: B) a' i' f → f ≠ e → isSl P L' a' i' f := by
    rintro a' i' f ⟨h1, h2, h3, h4⟩ hfe
    refine ⟨h1, (slab f (by rw [h4]; exact nI_c0 hR h1)).mpr ?_, h3, h4⟩
    simp only [List.mem_append, List.mem_cons] at h2
    rcases h2 with h | h | h
    · exact Or.inl h
    · exact absurd h hfe
    · exact Or.inr h
  have same : ∀ a' i' f, isSl P (A ++ e :: B) a' i' f → f = e → a' = a ∧ i' = i := by
    rintro a' i' f h rfl
    have h1 := nI8 hP h.1.1 hv.1 (h.2.2.1.symm.trans hea)
    have z1 := (sl_num hR h.1).2.2.2.2.2.2
    have z2 := (sl_num hR hv).2.2.2.2.2.2
    exact ⟨h1, (nI_eq (by omega) (by omega)).mp (h.2.2.2.symm.trans hsl.2.2.2)⟩
  have hks : uKs P S' L' M H := by
    intro a' i' f hf
    obtain ⟨h1, h2⟩ := sl1 a' i' f hf
    have hl := (hG.2.2.2.1.1 f h1.2.1).1
    rw [k4.2.1 88 _ hl (by decide) (by decide) (by decide) (by decide), k4.2.1 89 _ hl (by decide) (by decide) (by decide) (by decide), k4.2.1 90 _ hl (by decide) (by decide) (by decide) (by decide), k4.2.1 91 _ hl (by decide) (by decide) (by decide) (by decide)]
    exact hs a' i' f h1
  have hko : uKo P L' M H := by
    obtain ⟨h1, h2, h3, h4, h5, h6⟩ := ho
    refine ⟨fun a' b hb => ?_, fun a' i' b hv' hb => ?_, h3, h4, h5, fun f hf hfo => ?_⟩
    · obtain ⟨i', f, j, q1, q2, q3⟩ := h1 a' b hb
      refine ⟨i', f, j, sl2 a' i' f q1 (fun z => ?_), q2, q3⟩
      obtain ⟨w1, w2⟩ := same a' i' f q1 z
      subst w1 w2 z
      unfold wh at hw
      exact of_decide_eq_true hw j q2 (by rw [← q3]; exact hb)
    · obtain ⟨f, j, q1, q2, q3⟩ := h2 a' i' b hv' hb
      refine ⟨f, j, sl2 a' i' f q1 (fun z => ?_), q2, q3⟩
      obtain ⟨w1, w2⟩ := same a' i' f q1 z
      subst w1 w2
      rw [hM] at hb; cases hb
    · have := k8 f hf hfo
      refine h6 f ?_ hfo
      simp only [List.mem_append, List.mem_cons] at this ⊢
      rcases this with h | h
      · exact Or.inl h
      · exact Or.inr (Or.inr h)
  refine ⟨S', R', L', k1, k2, ⟨uStR_F hR0 k5, uStS_F hS k4, uDy_F hS hD k4 (hfr.u.tr k5), uG_mono k3 (by omega), ⟨uKp_F k4 hp, hks, hko⟩, uKr_F (hfr.u.tr k5) hr⟩, ?_, ?_, fun f hf hm => (slab f hf).mp hm⟩
  · have hnd' : (L'.filter (fun e => decide (eC e ≠ 0))).Nodup := by
      have q := k3.2.2.2.1.2.1
      unfold uad at q
      rw [List.nodup_iff_pairwise_ne, List.pairwise_map] at q
      have q2 : L'.Nodup := by
        rw [List.nodup_iff_pairwise_ne]
        exact q.imp (fun h z => h (congrArg Prod.fst z))
      exact List.Sublist.nodup List.filter_sublist q2
    have hsub : (L'.filter (fun e => decide (eC e ≠ 0))) ⊆ ((A ++ B).filter (fun e => decide (eC e ≠ 0))) := by
      intro f hf
      rw [List.mem_filter] at hf ⊢
      have hfc : eC f ≠ 0 := of_decide_eq_true hf.2
      refine ⟨List.mem_append.mpr ((slab f hfc).mp hf.1), hf.2⟩
    have hle := List.Nodup.length_le_of_subset hnd' hsub
    have htot : tot (A ++ e :: B) = ((A ++ B).filter (fun e => decide (eC e ≠ 0))).length + 1 := by
      unfold tot
      rw [List.filter_append, List.filter_append, List.filter_cons_of_pos (by simpa using hc0)]
      simp; omega
    unfold tot at *
    omega
  · have hl0 : liv (rset R 17 A.length 0) = liv R := by unfold liv; rw [rset_f (by decide)]
    rw [hl0] at k7
    simp at k7 ⊢
    omega
set_option maxHeartbeats 2000000 in
theorem purge_i {F : Nat} {P : Par} {x : Nat} {M : Pil} {Q : Pad} {H : List (Nat × Int32)} {a i : Nat} {kr : Rst → Int32 → Int32 → Int32 → Option (Int32 × Rst)} {kc : Cst → Option Nat → Int32 → Int32 → Option (Int32 × Cst)} (hF : 1000 ≤ F) (hv : vd P a i) (hM : fl M a i = []) : ∀ (N : Nat) (S : Cst) (R : Rst) (L A B : List En) (t g n n' : Nat), uA P x S R L M Q H t → L = A ++ B → (∀ f ∈ A, eA f = nI a → sw1 P a i H f = false) → tot L ≤ N → (N + 1) * 601 < n → N < n' → g + N ≤ 600 → t + 9 * N < 2147483648 →
    ∃ S' R' L' g', rf_purges_74 F kr n R (nI a) (nI g) (nI i) (nI A.length) = kr R' (nI a) (nI g') (nI i + 1) ∧ cf_X6_sweep_98 F kc n' S (some (par P a)) (nI g) (nI i) (some (pca P a i)) (((uOf a L).find? (sw1 P a i H)).map (fun f => f.1)) = kc S' (some (par P a)) (nI g') (nI i + 1) ∧ uA P x S' R' L' M Q H (t + 9 * (g' - g)) ∧ g ≤ g' ∧ g' + tot L' ≤ g + tot L ∧ L'.length + (liv R').length ≤ L.length + (liv R).length := by
  intro N
  induction N with
  | zero =>
    intro S R L A B t g n n' hA hL hAw htot hn hn' hg ht
    have h600 := hA.2.2.2.1.2.2.1.2.1
    have none' : ∀ f ∈ L, eA f = nI a → sw1 P a i H f = false := by
      intro f hf _
      have hc : eC f = 0 := by
        refine Classical.byContradiction (fun hc => ?_)
        have : f ∈ L.filter (fun e => decide (eC e ≠ 0)) := List.mem_filter.mpr ⟨hf, by simpa using hc⟩
        have : 0 < tot L := List.length_pos_of_mem this
        omega
      unfold sw1
      have : ¬ eC f = nI i := fun z => nI_c0 hA.1 hv (z.symm.trans hc)
      simp [this]
    have hq : (uOf a L).find? (sw1 P a i H) = none := by
      rw [List.find?_eq_none]
      intro f hf
      rw [none' f (uOf_mem.mp hf).1 (uOf_mem.mp hf).2]; decide
    have hbl : B.length ≤ L.length := by rw [hL]; simp
    obtain ⟨m, rfl⟩ : ∃ m, n = (m + 1) + B.length := ⟨n - B.length - 1, by omega⟩
    obtain ⟨n', rfl⟩ : ∃ m, n' = m + 1 := ⟨n' - 1, by omega⟩
    refine ⟨S, R, L, g, ?_, ?_, by simpa using hA, Nat.le_refl _, Nat.le_refl _, Nat.le_refl _⟩
    · rw [p74_skip hF hA hv B A [] (m + 1) (by rw [hL]; simp) (fun f hf => none' f (by rw [hL]; simp [hf])), ← hL]
      simp only [rf_purges_74]
      rw [if_pos (wk_nil hA.2.2.2.1.2.2.1)]
    · rw [hq]
      simp only [cf_X6_sweep_98]
      rfl
  | succ N ih =>
    intro S R L A B t g n n' hA hL hAw htot hn hn' hg ht
    have h600 := hA.2.2.2.1.2.2.1.2.1
    obtain ⟨n', rfl⟩ : ∃ m, n' = m + 1 := ⟨n' - 1, by omega⟩
    cases hq : (uOf a L).find? (sw1 P a i H) with
    | none =>
      have none' : ∀ f ∈ L, eA f = nI a → sw1 P a i H f = false := by
        intro f hf hfa
        rw [List.find?_eq_none] at hq
        have := hq f (uOf_mem.mpr ⟨hf, hfa⟩)
        simpa using this
      have hbl : B.length ≤ L.length := by rw [hL]; simp
      obtain ⟨m, rfl⟩ : ∃ m, n = (m + 1) + B.length := ⟨n - B.length - 1, by omega⟩
      refine ⟨S, R, L, g, ?_, ?_, by simpa using hA, Nat.le_refl _, Nat.le_refl _, Nat.le_refl _⟩
      · rw [p74_skip hF hA hv B A [] (m + 1) (by rw [hL]; simp) (fun f hf => none' f (by rw [hL]; simp [hf])), ← hL]
        simp only [rf_purges_74]
        rw [if_pos (wk_nil hA.2.2.2.1.2.2.1)]
      · simp only [cf_X6_sweep_98]
        rfl
    | some e =>
      have hq0 := hq
      unfold uOf at hq
      rw [List.find?_filter, List.find?_eq_some_iff_append] at hq
      obtain ⟨hpe, A1, B1, hL1, hA1⟩ := hq
      simp only [Bool.and_eq_true, decide_eq_true_iff] at hpe
      obtain ⟨hea, hswe⟩ := hpe
      have hA1' : ∀ f ∈ A1, eA f = nI a → sw1 P a i H f = false := by
        intro f hf hfa
        have := hA1 f hf
        simpa [hfa] using this
      obtain ⟨C, hC1, hC2⟩ : ∃ C, A1 = A ++ C ∧ B = C ++ e :: B1 := by
        have h0 : A ++ B = A1 ++ e :: B1 := by rw [← hL, hL1]
        rcases List.append_eq_append_iff.mp h0 with ⟨C, c1, c2⟩ | ⟨C, c1, c2⟩
        · exact ⟨C, c1, c2⟩
        · cases C with
          | nil =>
            refine ⟨[], by rw [c1]; simp, by simpa using c2.symm⟩
          | cons f C =>
            exfalso
            simp at c2
            have := hAw f (by rw [c1]; simp) (by rw [← c2.1]; exact hea)
            rw [← c2.1, hswe] at this
            cases this
      have hcw : eC e = nI i ∧ wh P a i H e = true := by
        unfold sw1 at hswe
        simpa using hswe
      have hBl : C.length + 1 ≤ 600 := by
        have : L.length = A1.length + B1.length + 1 := by rw [hL1]; simp; omega
        have : A1.length = A.length + C.length := by rw [hC1]; simp
        omega
      obtain ⟨m, rfl⟩ : ∃ m, n = (m + 1) + C.length := ⟨n - C.length - 1, by omega⟩
      have hsk := p74_skip (kr := kr) (g := nI g) hF hA hv C A (e :: B1) (m + 1) (by rw [hL, hC2]) (fun f hf => hA1' f (by rw [hC1]; simp [hf]))
      rw [hsk, ← hC1]
      have hsl : isSl P L a i e := ⟨hv, by rw [hL1]; simp, hea, hcw.1⟩
      have hA' := hA
      rw [hL1] at hA' hsl
      have h8 := H8 hA.1 hA.2.2.2.2.1.2.2
      have hRL := hA'.2.2.2.1.2.2.1
      have hLs := hA'.2.2.2.1.1
      obtain ⟨k1, k2, g1, g2, g3, g4, g5, g6, g7⟩ := uRL_g hRL (k := A1.length) (e := e) get_mid
      obtain ⟨S1, R1, L1, j1, j2, j3, j4, j5, j6⟩ := jslab hF hA' hv hM hsl hcw.2 (by omega)
      obtain ⟨A2, B2, s1, s2, s3⟩ := split_p (p := uP (nI a) (eB e).toInt64) L1
      have hpos : rf_position F R1 (nI a) (eB e).toInt64 = some (nI A2.length) := pos_ok hF j3.2.2.2.1.2.2.1 s1 s2 s3
      obtain ⟨pw1, pw2⟩ := pairw_mid hLs
      have hAw2 : ∀ f ∈ A2, eA f = nI a → sw1 P a i H f = false := by
        intro f hf hfa
        cases hsw : sw1 P a i H f with
        | false => rfl
        | true =>
          exfalso
          have hfc : eC f = nI i := by unfold sw1 at hsw; simp at hsw; exact hsw.1
          have hfc0 : eC f ≠ 0 := by rw [hfc]; exact nI_c0 hA.1 hv
          have hup := s2 f hf
          rw [uP_iff] at hup
          have hlt : eb f < eb e := by
            rcases hup with z | ⟨_, z⟩
            · rw [hfa] at z; omega
            · exact z
          rcases j6 f hfc0 (by rw [s1]; simp [hf]) with hm | hm
          · have := hA1' f hm hfa
            rw [hsw] at this; cases this
          · have hez := uEl_z (hLs.1 e (by simp))
            rcases pw2 f hm with z | ⟨_, z⟩
            · rw [hfa, hea] at z; omega
            · omega
      rw [hL1] at htot
      have f1 : tot L1 ≤ N := by omega
      have f2 : (N + 1) * 601 < m := by
        have hn2 : (N + 1) * 601 + 601 < m + 1 + C.length := by rw [← Nat.succ_mul]; exact hn
        clear hn
        generalize (N + 1) * 601 = K at hn2 ⊢
        clear f1 ht hg
        omega
      have f3 : N < n' := by omega
      have f4 : g + 1 + N ≤ 600 := by omega
      have f5 : t + 9 + 9 * N < 2147483648 := by omega
      obtain ⟨S', R', L', g', r1, r2, r3, r4, r5, r6⟩ := ih S1 R1 L1 A2 B2 (t + 9) (g + 1) m n' j3 s1 hAw2 f1 f2 f3 f4 f5
      refine ⟨S', R', L', g', ?_, ?_, uA_mono r3 (by omega), by omega, by rw [hL1]; omega, by rw [hL1]; omega⟩
      · simp only [rf_purges_74]
        rw [if_neg (wk_cons hRL), rslab hA.1 hLs hRL hv, Option.bind_some, if_pos (show eA e = nI a ∧ eC e = nI i from ⟨hea, hcw.1⟩), if_neg (show ¬ (1 : Int32) = 0 by decide), whole_ok hF hA.1 hA.2.2.2.2.2 h8 hv hRL, Option.bind_some, if_pos hcw.2, if_neg (show ¬ (1 : Int32) = 0 by decide), rd_n (f := 12) k2, g2, wr_n (f := 17) k2, j2, Option.bind_some, hpos, Option.bind_some, nI_1]
        exact r1
      · simp only [cf_X6_sweep_98, Option.map_some]
        rw [ncS, if_neg (show ¬ (600 : Int32) ≤ nI g from nI_ge (b := 600) (by omega) (by omega)), j1, Option.bind_some, nnS, idle_ok hF (uB.of j3) hv hM, Option.bind_some, nI_1]
        exact r2
