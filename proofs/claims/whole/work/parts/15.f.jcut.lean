/-! ===== pure part: the joint cut ===== -/
theorem uOf_len {a : Nat} {A B : List En} {e : En} (h : eA e = nI a) : (uOf a (A ++ e :: B)).length = (uOf a A).length + (uOf a B).length + 1 := by
  rw [uOf_ap, uOf_y h]; simp; omega
theorem uad_at {a : Nat} {A B : List En} {e : En} (h : eA e = nI a) : uad (uOf a (A ++ e :: B)) = uad (uOf a A) ++ e.1 :: uad (uOf a B) := by
  rw [uOf_ap, uOf_y h, uad_ap, uad_c]
theorem uad_lt {S : Cst} {R : Rst} {L : List En} {a : Nat} (h : ∀ e ∈ L, uFd S R e) : ∀ p ∈ uad (uOf a L), p < nx S := by
  intro p hp
  obtain ⟨e, e1, _, e2⟩ := uad_sub hp
  rw [← e2]; exact (h e e1).1
theorem eC0 {P : Par} {R : Rst} {e : En} (h : uEl P R e) (ho : eO e ≠ 2) : eC e = 0 := by
  obtain ⟨_, _, _, _, _, _, _, _, _, _, _, h⟩ := h
  rcases h with h | ⟨h, _⟩
  · exact h
  · exact absurd h ho
theorem nd_put {A B : List En} {e e1 : En} (h : (uad (A ++ e :: B)).Nodup) (hp : e1.1 = e.1) : (uad (A ++ e1 :: B)).Nodup := by
  rw [uad_ap, uad_c] at *; rw [hp]; exact h
theorem nd_ne {A B : List En} {e f : En} (h : (uad (A ++ e :: B)).Nodup) (hf : f ∈ A ∨ f ∈ B) : f.1 ≠ e.1 := by
  rw [uad_ap, uad_c, List.nodup_append, List.nodup_cons] at h
  rcases hf with hf | hf
  · exact h.2.2 _ (uad_mem.mpr ⟨f, hf, rfl⟩) _ List.mem_cons_self
  · intro z; exact h.2.1.1 (by rw [← z]; exact uad_mem.mpr ⟨f, hf, rfl⟩)
theorem uEl_cut {P : Par} {R : Rst} {e e1 : En} {a : Nat} (hP : pn P ≤ 8) (ha : a < pn P) (h : uEl P R e) (hea : eA e = nI a) (s1 : eS e1 = eS e) (a1 : eA e1 = eA e) (hz : 0 < ez e1) (hb : eb e ≤ eb e1) (hb2 : eb e1 + ez e1 ≤ eb e + ez e) (hd : ((2 ^ psh P a : Nat) : Int) ∣ eb e1) (hd2 : ((2 ^ psh P a : Nat) : Int) ∣ ez e1) (hc : eC e1 = 0) : uEl P R e1 := by
  obtain ⟨a', q1, q2, q3, q4, q5, q6, q7, q8, q9, q10, q11⟩ := h
  have hs := sp_eq (R := R) s1
  refine ⟨a, ha, a1.trans hea, by omega, hz, by omega, hd, hd2, by omega, by omega, ?_, Or.inl hc⟩
  rw [s1, a1]; exact q10
/-- new fields in an entry's own cell, the chain stays -/
theorem uEl_dv {P : Par} {R : Rst} {e : En} {a : Nat} (hP : pn P ≤ 8) (ha : a < pn P) (h : uEl P R e) (hea : eA e = nI a) : ((2 ^ psh P a : Nat) : Int) ∣ eb e ∧ ((2 ^ psh P a : Nat) : Int) ∣ ez e := by
  obtain ⟨a', q1, q2, q3, q4, q5, q6, q7, _⟩ := h
  have : a' = a := nI8 hP q1 ha (q2.symm.trans hea)
  subst this; exact ⟨q6, q7⟩
set_option maxHeartbeats 2000000 in
theorem jcut {F : Nat} {P : Par} {x : Nat} {S : Cst} {R : Rst} {A B : List En} {e : En} {a t : Nat} {n w : Int32} (hF : 1000 ≤ F) (hR : uStR P R) (hS : uStS P x S) (hG : uG P S R (A ++ e :: B) t) (ha : a < pn P) (hea : eA e = nI a) (hO : eO e = 0) (hn : 0 < n.toInt) (hz : n.toInt ≤ ez e) (hd : ((2 ^ psh P a : Nat) : Int) ∣ n.toInt) (hroom : (A ++ e :: B).length + (liv R).length < 600) (ht : t + 1 < 2147483648) :
    ∃ S' R' B', cf_X0_occupy F S (par P a) (some e.1) n w = some S' ∧ rf_cut F R (nI A.length) n w = some R' ∧ uG P S' R' (A ++ (e.1, (eA e, eB e, n, w, eT e, eS e, eC e)) :: B') (t + 1) ∧ uSF S S' ∧ uFr R R' ∧ uSl (A ++ e :: B) (A ++ (e.1, (eA e, eB e, n, w, eT e, eS e, eC e)) :: B') ∧ (∀ f ∈ B', f ∈ B ∨ eO f = 0) ∧ (∀ f ∈ B, f ∈ B') ∧ B'.length ≤ B.length + 1 := by
  obtain ⟨hLs, hSp, hRL, hCh, hSc, hTm⟩ := hG
  have hP := hR.1
  have hE := hLs.1 e (by simp)
  have hsp := uEl_sp hE
  have hc0 : eC e = 0 := eC0 hE (by rw [hO]; decide)
  have hezr : ez e = (eZ e).toInt := rfl
  have hebr : eb e = (eB e).toInt := rfl
  obtain ⟨dv1, dv2⟩ := uEl_dv hP ha hE hea
  obtain ⟨R', r1, r2, r3⟩ := rcut_ok (F := F) (w := w) (nx S) hF hLs hRL hn hz (by omega)
  have hrr : ∀ f, 19 ≤ f → f ≤ 23 → R'.2 f = R.2 f := fun f f1 f2 => r2.2 f (by omega)
  have hpar := hS.2.2.2.2 a ha
  have hne : ∀ b, b < pn P → b ≠ a → par P b ≠ par P a := fun b hb hab z => hab (hS.2.2.2.1 b a hb ha z)
  have he1 : uEl P R (e.1, (eA e, eB e, n, w, eT e, eS e, eC e)) := uEl_cut hP ha hE hea rfl rfl hn (Int.le_refl _) (by show (eB e).toInt + n.toInt ≤ _; omega) dv1 hd hc0
  have hfd := hCh.1 e (by simp)
  unfold cf_X0_occupy
  rw [nnS, hfd.2.2.1]
  rcases r3 with ⟨q1, q2, q3⟩ | ⟨q1, q2, q3⟩
  · subst q1
    rw [if_pos (by rw [Int32.le_iff_toInt_le]; exact Int.le_refl _)]
    refine ⟨sI S 82 e.1 w, R', B, rfl, r1, ⟨?_, ?_, q3, ?_, ?_, ?_⟩, ?_, r2, ?_, fun f hf => Or.inl hf, fun f hf => hf, by omega⟩
    · exact uLs_fr hrr (uLs_set hLs he1 rfl rfl rfl rfl)
    · refine uSp_st hSp hrr (r2.1 24 (by decide) (by decide)) (by have := hSp.2.2.2.2; simp at this ⊢; omega) (fun f hf _ => ?_) (fun f hf h3 _ => ?_)
      · simp at hf
        rcases hf with hf | rfl | hf
        · exact ⟨f, by simp [hf], rfl, rfl⟩
        · exact ⟨(f.1, (eA f, eB f, eZ f, w, eT f, eS f, eC f)), by simp, rfl, rfl⟩
        · exact ⟨f, by simp [hf], rfl, rfl⟩
      · simp at hf
        rcases hf with hf | rfl | hf
        · exact ⟨f, by simp [hf], rfl, h3, rfl, rfl⟩
        · rw [hO] at h3; cases h3
        · exact ⟨f, by simp [hf], rfl, h3, rfl, rfl⟩
    · refine uCh_st hP ha hCh (fun f hf => ?_) (nd_put hCh.2.1 rfl) ?_ ?_ (fun b hb hab => ?_) (fun b hb hab => ⟨?_, rfl⟩) (fun f hf _ => ⟨rfl, rfl⟩)
      · have k : ∀ f, (f ∈ A ∨ f ∈ B) → uFd (sI S 82 e.1 w) R' f := by
          intro f hf
          have hne := nd_ne hCh.2.1 hf
          have := hCh.1 f (by simp; rcases hf with hf | hf <;> simp [hf])
          unfold uFd at *
          rw [hrr 20 (by decide) (by decide), hrr 21 (by decide) (by decide)]
          simp only [gI_sI, nx_sI]
          simpa [hne] using this
        simp at hf
        rcases hf with hf | rfl | hf
        · exact k f (Or.inl hf)
        · unfold uFd at *
          rw [hrr 20 (by decide) (by decide), hrr 21 (by decide) (by decide)]
          simp only [gI_sI]
          refine ⟨hfd.1, by simpa using hfd.2.1, by simpa using hfd.2.2.1, by simp, by simp; exact hfd.2.2.2.2.1, by simp; exact hfd.2.2.2.2.2⟩
        · exact k f (Or.inr hf)
      · have := (hCh.2.2 a ha).1
        rw [uad_at hea] at this
        rw [uad_at (show eA (e.1, (eA e, eB e, eZ e, w, eT e, eS e, eC e)) = nI a from hea)]
        exact uCS_fr (S := S) rfl (fun _ _ => ⟨rfl, rfl⟩) this
      · have := (hCh.2.2 a ha).2
        rw [uOf_len hea] at this
        rw [uOf_len (show eA (e.1, (eA e, eB e, eZ e, w, eT e, eS e, eC e)) = nI a from hea), gI_sI, if_neg (by simp)]
        exact this
      · have hab' : ¬ eA e = nI b := fun z => hab (nI8 hP hb ha (z.symm.trans hea))
        rw [uOf_ap, uOf_ap, uOf_n hab', uOf_n (show eA (e.1, (eA e, eB e, eZ e, w, eT e, eS e, eC e)) ≠ nI b from hab')]
      · rw [gI_sI, if_neg (by simp)]
    · intro b hb
      rw [gI_sI, if_neg (by simp)]
      have hl : livA R' b = livA R b := by unfold livA liv; rw [hrr 22 (by decide) (by decide), hrr 19 (by decide) (by decide)]
      rw [hl]; exact hSc b hb
    · have hcl := hTm.2.2.1 a ha
      have hnow := hTm.2.1
      refine uTm_st hP ha hTm (by rw [q2]; exact Int.le_refl _) (by rw [q2]; omega) (by rw [gI_sI, if_neg (by simp)]; exact Int.le_refl _) (by rw [gI_sI, if_neg (by simp), q2]; exact hcl.2) (fun b hb _ => by rw [gI_sI, if_neg (by simp)]) (fun f hf => ?_) (fun f hf => Or.inl ?_) (fun f hf g hg _ _ of' og kf kg => ?_)
      · have : uEl P R f := by
          simp at hf
          rcases hf with hf | rfl | hf
          · exact hLs.1 f (by simp [hf])
          · exact he1
          · exact hLs.1 f (by simp [hf])
        obtain ⟨b, b1, b2, _⟩ := this
        exact ⟨b, b1, b2⟩
      · simp only [gI_sI]
        simp at hf
        rcases hf with hf | rfl | hf
        · exact ⟨f, by simp [hf], rfl, rfl, rfl, by simp, fun z => z⟩
        · exact ⟨e, by simp, rfl, rfl, rfl, by simp, fun _ => hO⟩
        · exact ⟨f, by simp [hf], rfl, rfl, rfl, by simp, fun z => z⟩
      · exfalso
        simp at hf
        rcases hf with hf | rfl | hf
        · have := hTm.2.2.2.1 f (by simp [hf]); omega
        · have := hTm.2.2.2.1 e (by simp)
          have kf' : (R.1 18).toInt < (eT e).toInt := kf
          omega
        · have := hTm.2.2.2.1 f (by simp [hf]); omega
    · refine ⟨Nat.le_refl _, fun f p hp _ _ _ z => ?_, fun _ _ _ _ _ _ => rfl, rfl, rfl, rfl⟩
      rw [gI_sI, if_neg (fun q => z ⟨by omega, by omega⟩)]
    · intro f hf
      simp
      constructor
      · rintro (h | rfl | h)
        · exact Or.inl h
        · exact absurd hc0 hf
        · exact Or.inr (Or.inr h)
      · rintro (h | rfl | h)
        · exact Or.inl h
        · exact absurd hc0 hf
        · exact Or.inr (Or.inr h)
  · rw [if_neg (by rw [Int32.le_iff_toInt_le]; omega)]
    have hb : (eB e + n).toInt = eb e + n.toInt := i32_add (by omega) (by omega)
    have hzz : (eZ e - n).toInt = ez e - n.toInt := i32_sub (by omega) (by omega)
    have hcs := (hCh.2.2 a ha).1
    rw [uad_at hea] at hcs
    have hnd := uad_of (a := a) hCh.2.1
    rw [uad_at hea] at hnd
    have hlt := uad_lt (a := a) hCh.1
    rw [uad_at hea] at hlt
    obtain ⟨S1, s1, s2, s3, s4, s5, s6, s7, s8, s9⟩ := csplit_ok (F := F) (n := n) hpar.1 hcs hnd hlt
    rw [s1]
    obtain ⟨u1, u2, u3, u4, u5, u6, u7, u8⟩ := s3
    have hnow : (R.1 18 + 1).toInt = (R.1 18).toInt + 1 := by
      have := hTm.1; have := hTm.2.1
      rw [i32_add (by rw [show (1 : Int32).toInt = 1 by decide]; omega) (by rw [show (1 : Int32).toInt = 1 by decide]; omega)]; rfl
    have hcl := hTm.2.2.1 a ha
    have hclk : (gI S 10 (par P a) + 1).toInt = (gI S 10 (par P a)).toInt + 1 := by
      have := hTm.1; have := hTm.2.1
      rw [i32_add (by rw [show (1 : Int32).toInt = 1 by decide]; omega) (by rw [show (1 : Int32).toInt = 1 by decide]; omega)]; rfl
    have he2 : uEl P R (nx S, (eA e, eB e + n, eZ e - n, 0, R.1 18 + 1, eS e, 0)) := uEl_cut hP ha hE hea rfl rfl (by show 0 < (eZ e - n).toInt; omega) (by show _ ≤ (eB e + n).toInt; omega) (by show (eB e + n).toInt + (eZ e - n).toInt ≤ _; omega) (by show _ ∣ (eB e + n).toInt; rw [hb]; exact Int.dvd_add dv1 hd) (by show _ ∣ (eZ e - n).toInt; rw [hzz]; exact Int.dvd_sub dv2 hd) rfl
    have hq : e.1 < nx S := hfd.1
    have eC' : ∀ {f : En}, f ∈ A ∨ f ∈ B → f ∈ A ++ e :: B := fun {f} hf => by simp; rcases hf with hf | hf <;> simp [hf]
    refine ⟨sI S1 82 e.1 w, R', (nx S, (eA e, eB e + n, eZ e - n, 0, R.1 18 + 1, eS e, 0)) :: B, rfl, r1, ⟨?_, ?_, q3, ?_, ?_, ?_⟩, ?_, r2, ?_, fun f hf => ?_, fun f hf => List.mem_cons_of_mem _ hf, by simp⟩
    · exact uLs_fr hrr (uLs_cut hLs he1 he2 rfl rfl rfl rfl rfl hb (by show (eB e + n).toInt + (eZ e - n).toInt = _; omega))
    · refine uSp_st hSp hrr (r2.1 24 (by decide) (by decide)) (by simp at hroom ⊢; omega) (fun f hf _ => ?_) (fun f hf h3 _ => ?_)
      · simp at hf
        rcases hf with hf | rfl | hf
        · exact ⟨f, by simp [hf], rfl, rfl⟩
        · exact ⟨(f.1, (eA f, eB f, n, w, eT f, eS f, eC f)), by simp, rfl, rfl⟩
        · exact ⟨f, by simp [hf], rfl, rfl⟩
      · simp at hf
        rcases hf with hf | rfl | hf
        · exact ⟨f, by simp [hf], rfl, h3, rfl, rfl⟩
        · rw [hO] at h3; cases h3
        · exact ⟨f, by simp [hf], rfl, h3, rfl, rfl⟩
    · have hea1 : eA (e.1, (eA e, eB e, n, w, eT e, eS e, eC e)) = nI a := hea
      have hea2 : eA (nx S, (eA e, eB e + n, eZ e - n, 0, R.1 18 + 1, eS e, 0)) = nI a := hea
      refine uCh_st hP ha hCh (fun f hf => ?_) ?_ ?_ ?_ (fun b hb hab => ?_) (fun b hb hab => ⟨?_, ?_⟩) (fun f hf hfa => ?_)
      · have k : ∀ f, (f ∈ A ∨ f ∈ B) → uFd (sI S1 82 e.1 w) R' f := by
          intro f hf
          have hne := nd_ne hCh.2.1 hf
          have hh := hCh.1 f (eC' hf)
          unfold uFd at *
          rw [hrr 20 (by decide) (by decide), hrr 21 (by decide) (by decide)]
          simp only [gI_sI, nx_sI]
          rw [u2 80 f.1 (by omega), u2 81 f.1 (by omega), u2 82 f.1 (by omega), u2 84 f.1 (by omega), u2 85 f.1 (by omega), u1]
          simp [hne]
          exact ⟨by omega, hh.2⟩
        simp only [List.mem_append, List.mem_cons] at hf
        rcases hf with hf | rfl | rfl | hf
        · exact k f (Or.inl hf)
        · unfold uFd at *
          rw [hrr 20 (by decide) (by decide), hrr 21 (by decide) (by decide)]
          simp only [gI_sI, nx_sI]
          rw [u2 80 e.1 (by omega), u2 81 e.1 (by omega), u2 82 e.1 (by omega), u2 84 e.1 (by omega), u2 85 e.1 (by omega), u1]
          simp
          exact ⟨by omega, hfd.2.1, hfd.2.2.2.2.1, hfd.2.2.2.2.2⟩
        · unfold uFd at *
          rw [hrr 20 (by decide) (by decide), hrr 21 (by decide) (by decide)]
          simp only [gI_sI, nx_sI]
          rw [s4, s5, s6, s8, s9, u1]
          have : ¬ nx S = e.1 := by omega
          simp [this]
          exact ⟨by rw [hfd.2.1], by rw [hfd.2.2.1], hfd.2.2.2.2.1, hfd.2.2.2.2.2⟩
        · exact k f (Or.inr hf)
      · have h0 := hCh.2.1
        have hfr : nx S ∉ uad A ∧ nx S ∉ uad B := by
          constructor <;> intro z <;> obtain ⟨f, f1, f2⟩ := uad_mem.mp z
          · have := (hCh.1 f (eC' (Or.inl f1))).1; omega
          · have := (hCh.1 f (eC' (Or.inr f1))).1; omega
        rw [uad_ap, uad_c] at h0 ⊢
        rw [uad_c]
        simp only [List.nodup_append, List.nodup_cons, List.mem_cons] at h0 ⊢
        have : nx S ≠ e.1 := by omega
        grind
      · rw [uad_at hea1, uOf_y hea2, uad_c]
        exact uCS_fr (S := S1) rfl (fun _ _ => ⟨rfl, rfl⟩) s2
      · have := (hCh.2.2 a ha).2
        rw [uOf_len hea] at this
        rw [uOf_len hea1, uOf_y hea2, gI_sI, if_neg (by simp), u7, this, nI_1]
        congr 1
      · have hab' : ¬ eA e = nI b := fun z => hab (nI8 hP hb ha (z.symm.trans hea))
        rw [uOf_ap, uOf_ap, uOf_n hab', uOf_n (show eA (e.1, (eA e, eB e, n, w, eT e, eS e, eC e)) ≠ nI b from hab'), uOf_n (show eA (nx S, (eA e, eB e + n, eZ e - n, 0, R.1 18 + 1, eS e, 0)) ≠ nI b from hab')]
      · have := (hS.2.2.2.2 b hb).1
        rw [gI_sI, if_neg (by simp), u2 _ _ (by omega)]
        simp [hne b hb hab]
      · have := (hS.2.2.2.2 b hb).1
        rw [gP_sI, u3 _ _ (by omega) (fun _ => hne b hb hab) (by simp) (by simp)]
      · have hh := (hCh.1 f hf).1
        have hn : f.1 ∉ uad (uOf a A) ++ e.1 :: uad (uOf a B) := by
          rw [← uad_at hea]
          intro z
          obtain ⟨g, g1, g2, g3⟩ := uad_sub z
          have := uad_inj hCh.2.1 g1 hf g3
          subst this; exact hfa g2
        rw [gP_sI]
        exact ⟨u3 _ _ (by omega) (by simp) (fun _ => hn) (fun _ => hn), u3 _ _ (by omega) (by simp) (fun _ => hn) (fun _ => hn)⟩
    · intro b hb
      have := (hS.2.2.2.2 b hb).1
      rw [gI_sI, if_neg (by simp), u2 _ _ (by omega)]
      have hl : livA R' b = livA R b := by unfold livA liv; rw [hrr 22 (by decide) (by decide), hrr 19 (by decide) (by decide)]
      rw [hl]; simpa using hSc b hb
    · have hn0 := hTm.2.1
      refine uTm_st hP ha hTm (by rw [q2, hnow]; omega) (by rw [q2, hnow]; omega) (by rw [gI_sI, if_neg (by simp), u8, hclk]; omega) (by rw [gI_sI, if_neg (by simp), u8, hclk, q2, hnow]; omega) (fun b hb hab => ?_) (fun f hf => ?_) (fun f hf => ?_) (fun f hf g hg _ _ of' og kf kg => ?_)
      · have := (hS.2.2.2.2 b hb).1
        rw [gI_sI, if_neg (by simp), u2 _ _ (by omega)]
        simp [hne b hb hab]
      · have : uEl P R f := by
          simp only [List.mem_append, List.mem_cons] at hf
          rcases hf with hf | rfl | rfl | hf
          · exact hLs.1 f (by simp [hf])
          · exact he1
          · exact he2
          · exact hLs.1 f (by simp [hf])
        obtain ⟨b, b1, b2, _⟩ := this
        exact ⟨b, b1, b2⟩
      · have k : ∀ f ∈ A ++ e :: B, gI (sI S1 82 e.1 w) 83 f.1 = gI S 83 f.1 := by
          intro f hf
          have := (hCh.1 f hf).1
          rw [gI_sI, if_neg (by simp), u2 _ _ (by omega)]; simp
        simp only [List.mem_append, List.mem_cons] at hf
        rcases hf with hf | rfl | rfl | hf
        · exact Or.inl ⟨f, by simp [hf], rfl, rfl, rfl, k f (by simp [hf]), fun z => z⟩
        · exact Or.inl ⟨e, by simp, rfl, rfl, rfl, k e (by simp), fun _ => hO⟩
        · refine Or.inr ⟨hea, ?_, ?_, ?_, ?_⟩
          · show _ < (R.1 18 + 1).toInt; omega
          · show (R.1 18 + 1).toInt ≤ _; rw [q2]; exact Int.le_refl _
          · show _ < (gI (sI S1 82 e.1 w) 83 (nx S)).toInt
            rw [gI_sI, if_neg (by simp), s7]; omega
          · show (gI (sI S1 82 e.1 w) 83 (nx S)).toInt ≤ _
            rw [gI_sI, if_neg (by simp), s7, gI_sI, if_neg (by simp), u8]; exact Int.le_refl _
        · exact Or.inl ⟨f, by simp [hf], rfl, rfl, rfl, k f (by simp [hf]), fun z => z⟩
      · have k : ∀ f, f ∈ A ++ (e.1, (eA e, eB e, n, w, eT e, eS e, eC e)) :: (nx S, (eA e, eB e + n, eZ e - n, 0, R.1 18 + 1, eS e, 0)) :: B → (R.1 18).toInt < (eT f).toInt → f = (nx S, (eA e, eB e + n, eZ e - n, 0, R.1 18 + 1, eS e, 0)) := by
          intro f hf hk
          simp only [List.mem_append, List.mem_cons] at hf
          rcases hf with hf | rfl | rfl | hf
          · have := hTm.2.2.2.1 f (by simp [hf]); omega
          · have := hTm.2.2.2.1 e (by simp)
            have hk' : (R.1 18).toInt < (eT e).toInt := hk
            omega
          · rfl
          · have := hTm.2.2.2.1 f (by simp [hf]); omega
        rw [k f hf kf, k g hg kg]
        simp [Int32.lt_irrefl]
    · refine (uSF_of ⟨u1, u2, u3, u4, u5, u6, u7, u8⟩).tr ?_
      refine ⟨Nat.le_refl _, fun f p hp _ _ _ z => ?_, fun _ _ _ _ _ _ => rfl, rfl, rfl, rfl⟩
      rw [gI_sI, if_neg (fun q => z ⟨by omega, by omega⟩)]
    · intro f hf
      simp only [List.mem_append, List.mem_cons]
      constructor
      · rintro (h | rfl | rfl | h)
        · exact Or.inl h
        · exact absurd hc0 hf
        · exact absurd rfl hf
        · exact Or.inr (Or.inr h)
      · rintro (h | rfl | h)
        · exact Or.inl h
        · exact absurd hc0 hf
        · exact Or.inr (Or.inr (Or.inr h))
    · rcases List.mem_cons.mp hf with rfl | hf
      · exact Or.inr rfl
      · exact Or.inl hf
