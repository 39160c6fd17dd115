/-! ===== pure part: TO TAKE WITHIN, the carving ===== -/
def uGs (P : Par) (S : Cst) (R : Rst) (L : List En) : Prop := uLs P R L ∧ uSp P R L ∧ uRL R L ∧ uCh P S R L ∧ uSc P S R
/-- but for times and one owner -/
def uOw (S S' : Cst) (q : Nat) (w : Int32) : Prop := nx S' = nx S ∧ (∀ f p, f ≠ 10 → f ≠ 83 → gI S' f p = if f = 82 ∧ p = q then w else gI S f p) ∧ gP S' = gP S
set_option maxHeartbeats 2000000 in
theorem gs_own {P : Par} {x : Nat} {S S' : Cst} {R R' : Rst} {A B : List En} {e : En} {a : Nat} {w T : Int32} (hR : uStR P R) (hS : uStS P x S) (hG : uGs P S R (A ++ e :: B)) (ha : a < pn P) (hea : eA e = nI a) (hO : eO e = 0) (hw : uOw S S' e.1 w) (hrr : ∀ f, 19 ≤ f → f ≤ 23 → R'.2 f = R.2 f) (h24 : R'.1 24 = R.1 24) (hRL' : uRL R' (A ++ (e.1, (eA e, eB e, eZ e, w, T, eS e, eC e)) :: B)) : uGs P S' R' (A ++ (e.1, (eA e, eB e, eZ e, w, T, eS e, eC e)) :: B) := by
  obtain ⟨hLs, hSp, hRL, hCh, hSc⟩ := hG
  obtain ⟨w1, w2, w3⟩ := hw
  have hP := hR.1
  have hE := hLs.1 e (by simp)
  have hc0 : eC e = 0 := eC0 hE (by rw [hO]; decide)
  obtain ⟨dv1, dv2⟩ := uEl_dv hP ha hE hea
  have hz := uEl_z hE
  have he1 : uEl P R (e.1, (eA e, eB e, eZ e, w, T, eS e, eC e)) := uEl_cut hP ha hE hea rfl rfl hz (Int.le_refl _) (Int.le_refl _) dv1 dv2 hc0
  have hfd := hCh.1 e (by simp)
  refine ⟨?_, ?_, hRL', ?_, ?_⟩
  · exact uLs_fr hrr (uLs_set hLs he1 rfl rfl rfl rfl)
  · refine uSp_st hSp hrr h24 (by have := hSp.2.2.2.2; simp at this ⊢; omega) (fun f hf _ => ?_) (fun f hf h3 _ => ?_)
    · simp at hf
      rcases hf with hf | rfl | hf
      · exact ⟨f, by simp [hf], rfl, rfl⟩
      · exact ⟨(f.1, (eA f, eB f, eZ f, w, T, eS f, eC f)), by simp, rfl, rfl⟩
      · exact ⟨f, by simp [hf], rfl, rfl⟩
    · simp at hf
      rcases hf with hf | rfl | hf
      · exact ⟨f, by simp [hf], rfl, h3, rfl, rfl⟩
      · rw [hO] at h3; cases h3
      · exact ⟨f, by simp [hf], rfl, h3, rfl, rfl⟩
  · refine uCh_st hP ha hCh (fun f hf => ?_) (nd_put hCh.2.1 rfl) ?_ ?_ (fun b hb hab => ?_) (fun b hb hab => ⟨?_, by rw [w3]⟩) (fun f hf _ => ⟨by rw [w3], by rw [w3]⟩)
    · have k : ∀ f, (f ∈ A ∨ f ∈ B) → uFd S' R' f := by
        intro f hf
        have hne := nd_ne hCh.2.1 hf
        have := hCh.1 f (by simp; rcases hf with hf | hf <;> simp [hf])
        unfold uFd at *
        rw [hrr 20 (by decide) (by decide), hrr 21 (by decide) (by decide), w1, w2 _ _ (by decide) (by decide), w2 _ _ (by decide) (by decide), w2 _ _ (by decide) (by decide), w2 _ _ (by decide) (by decide), w2 _ _ (by decide) (by decide)]
        simpa [hne] using this
      simp at hf
      rcases hf with hf | rfl | hf
      · exact k f (Or.inl hf)
      · unfold uFd at *
        rw [hrr 20 (by decide) (by decide), hrr 21 (by decide) (by decide), w1, w2 _ _ (by decide) (by decide), w2 _ _ (by decide) (by decide), w2 _ _ (by decide) (by decide), w2 _ _ (by decide) (by decide), w2 _ _ (by decide) (by decide)]
        refine ⟨hfd.1, by simpa using hfd.2.1, by simpa using hfd.2.2.1, by simp, by simp; exact hfd.2.2.2.2.1, by simp; exact hfd.2.2.2.2.2⟩
      · exact k f (Or.inr hf)
    · have := (hCh.2.2 a ha).1
      rw [uad_at hea] at this
      rw [uad_at (show eA (e.1, (eA e, eB e, eZ e, w, T, eS e, eC e)) = nI a from hea)]
      exact uCS_fr (S := S) (by rw [w3]) (fun _ _ => ⟨by rw [w3], by rw [w3]⟩) this
    · have := (hCh.2.2 a ha).2
      rw [uOf_len hea] at this
      rw [uOf_len (show eA (e.1, (eA e, eB e, eZ e, w, T, eS e, eC e)) = nI a from hea), w2 _ _ (by decide) (by decide), if_neg (by simp)]
      exact this
    · have hab' : ¬ eA e = nI b := fun z => hab (nI8 hP hb ha (z.symm.trans hea))
      rw [uOf_ap, uOf_ap, uOf_n hab', uOf_n (show eA (e.1, (eA e, eB e, eZ e, w, T, eS e, eC e)) ≠ nI b from hab')]
    · rw [w2 _ _ (by decide) (by decide), if_neg (by simp)]
  · intro b hb
    rw [w2 _ _ (by decide) (by decide), if_neg (by simp)]
    have hl : livA R' b = livA R b := by unfold livA liv; rw [hrr 22 (by decide) (by decide), hrr 19 (by decide) (by decide)]
    rw [hl]; exact hSc b hb
set_option maxHeartbeats 2000000 in
theorem gs_split {F : Nat} {P : Par} {x : Nat} {S : Cst} {R : Rst} {A B : List En} {e : En} {a : Nat} {n : Int32} (hR : uStR P R) (hS : uStS P x S) (hG : uGs P S R (A ++ e :: B)) (ha : a < pn P) (hea : eA e = nI a) (hO : eO e = 0) (hn : 0 < n.toInt) (hz : n.toInt < ez e) (hd : ((2 ^ psh P a : Nat) : Int) ∣ n.toInt) (hroom : (A ++ e :: B).length + (liv R).length < 600) :
    ∃ S1, cf_X0_split F S (par P a) (some e.1) n = some (some (nx S), S1) ∧ uNw S S1 (par P a) e.1 (uad (uOf a A) ++ e.1 :: uad (uOf a B)) n ∧ gI S1 80 (nx S) = eB e + n ∧ gI S1 81 (nx S) = eZ e - n ∧ gI S1 82 (nx S) = 0 ∧ gI S1 83 (nx S) = gI S 10 (par P a) + 1 ∧
      ∀ S' R' w T1 T2, uOw S1 S' e.1 w → (∀ f, 19 ≤ f → f ≤ 23 → R'.2 f = R.2 f) → R'.1 24 = R.1 24 → uRL R' (A ++ (e.1, (eA e, eB e, n, w, T1, eS e, eC e)) :: (nx S, (eA e, eB e + n, eZ e - n, 0, T2, eS e, 0)) :: B) → uGs P S' R' (A ++ (e.1, (eA e, eB e, n, w, T1, eS e, eC e)) :: (nx S, (eA e, eB e + n, eZ e - n, 0, T2, eS e, 0)) :: B) := by
  obtain ⟨hLs, hSp, hRL, hCh, hSc⟩ := hG
  have hP := hR.1
  have hE := hLs.1 e (by simp)
  have hsp := uEl_sp hE
  have hc0 : eC e = 0 := eC0 hE (by rw [hO]; decide)
  have hezr : ez e = (eZ e).toInt := rfl
  have hebr : eb e = (eB e).toInt := rfl
  obtain ⟨dv1, dv2⟩ := uEl_dv hP ha hE hea
  have hpar := hS.2.2.2.2 a ha
  have hne : ∀ b, b < pn P → b ≠ a → par P b ≠ par P a := fun b hb hab z => hab (hS.2.2.2.1 b a hb ha z)
  have hfd := hCh.1 e (by simp)
  have hb : (eB e + n).toInt = eb e + n.toInt := i32_add (by omega) (by omega)
  have hzz : (eZ e - n).toInt = ez e - n.toInt := i32_sub (by omega) (by omega)
  have hcs := (hCh.2.2 a ha).1
  rw [uad_at hea] at hcs
  have hnd := uad_of (a := a) hCh.2.1
  rw [uad_at hea] at hnd
  have hlt := uad_lt (a := a) hCh.1
  rw [uad_at hea] at hlt
  obtain ⟨S1, s1, s2, s3, s4, s5, s6, s7, s8, s9⟩ := csplit_ok (F := F) (n := n) hpar.1 hcs hnd hlt
  refine ⟨S1, s1, s3, by rw [s4, hfd.2.1], by rw [s5, hfd.2.2.1], s6, s7, fun S' R' w T1 T2 hw hrr h24 hRL' => ?_⟩
  obtain ⟨w1, w2, w3⟩ := hw
  obtain ⟨u1, u2, u3, u4, u5, u6, u7, u8⟩ := s3
  have he1 : uEl P R (e.1, (eA e, eB e, n, w, T1, eS e, eC e)) := uEl_cut hP ha hE hea rfl rfl hn (Int.le_refl _) (by show (eB e).toInt + n.toInt ≤ _; omega) dv1 hd hc0
  have he2 : uEl P R (nx S, (eA e, eB e + n, eZ e - n, 0, T2, eS e, 0)) := uEl_cut hP ha hE hea rfl rfl (by show 0 < (eZ e - n).toInt; omega) (by show _ ≤ (eB e + n).toInt; omega) (by show (eB e + n).toInt + (eZ e - n).toInt ≤ _; omega) (by show _ ∣ (eB e + n).toInt; rw [hb]; exact Int.dvd_add dv1 hd) (by show _ ∣ (eZ e - n).toInt; rw [hzz]; exact Int.dvd_sub dv2 hd) rfl
  have hq : e.1 < nx S := hfd.1
  have eC' : ∀ {f : En}, f ∈ A ∨ f ∈ B → f ∈ A ++ e :: B := fun {f} hf => by simp; rcases hf with hf | hf <;> simp [hf]
  have hea1 : eA (e.1, (eA e, eB e, n, w, T1, eS e, eC e)) = nI a := hea
  have hea2 : eA (nx S, (eA e, eB e + n, eZ e - n, 0, T2, eS e, 0)) = nI a := hea
  refine ⟨?_, ?_, hRL', ?_, ?_⟩
  · exact uLs_fr hrr (uLs_cut hLs he1 he2 rfl rfl rfl rfl rfl hb (by show (eB e + n).toInt + (eZ e - n).toInt = _; omega))
  · refine uSp_st hSp hrr h24 (by simp at hroom ⊢; omega) (fun f hf _ => ?_) (fun f hf h3 _ => ?_)
    · simp at hf
      rcases hf with hf | rfl | hf
      · exact ⟨f, by simp [hf], rfl, rfl⟩
      · exact ⟨(f.1, (eA f, eB f, n, w, T1, eS f, eC f)), by simp, rfl, rfl⟩
      · exact ⟨f, by simp [hf], rfl, rfl⟩
    · simp at hf
      rcases hf with hf | rfl | hf
      · exact ⟨f, by simp [hf], rfl, h3, rfl, rfl⟩
      · rw [hO] at h3; cases h3
      · exact ⟨f, by simp [hf], rfl, h3, rfl, rfl⟩
  · refine uCh_st hP ha hCh (fun f hf => ?_) ?_ ?_ ?_ (fun b hb hab => ?_) (fun b hb hab => ⟨?_, ?_⟩) (fun f hf hfa => ?_)
    · have k : ∀ f, (f ∈ A ∨ f ∈ B) → uFd S' R' f := by
        intro f hf
        have hne := nd_ne hCh.2.1 hf
        have hh := hCh.1 f (eC' hf)
        unfold uFd at *
        rw [hrr 20 (by decide) (by decide), hrr 21 (by decide) (by decide), w1, w2 _ _ (by decide) (by decide), w2 _ _ (by decide) (by decide), w2 _ _ (by decide) (by decide), w2 _ _ (by decide) (by decide), w2 _ _ (by decide) (by decide)]
        rw [u2 80 f.1 (by omega), u2 81 f.1 (by omega), u2 82 f.1 (by omega), u2 84 f.1 (by omega), u2 85 f.1 (by omega), u1]
        simp [hne]
        exact ⟨by omega, hh.2⟩
      simp only [List.mem_append, List.mem_cons] at hf
      rcases hf with hf | rfl | rfl | hf
      · exact k f (Or.inl hf)
      · unfold uFd at *
        rw [hrr 20 (by decide) (by decide), hrr 21 (by decide) (by decide), w1, w2 _ _ (by decide) (by decide), w2 _ _ (by decide) (by decide), w2 _ _ (by decide) (by decide), w2 _ _ (by decide) (by decide), w2 _ _ (by decide) (by decide)]
        rw [u2 80 e.1 (by omega), u2 81 e.1 (by omega), u2 82 e.1 (by omega), u2 84 e.1 (by omega), u2 85 e.1 (by omega), u1]
        simp
        exact ⟨by omega, hfd.2.1, hfd.2.2.2.2.1, hfd.2.2.2.2.2⟩
      · unfold uFd at *
        rw [hrr 20 (by decide) (by decide), hrr 21 (by decide) (by decide), w1, w2 _ _ (by decide) (by decide), w2 _ _ (by decide) (by decide), w2 _ _ (by decide) (by decide), w2 _ _ (by decide) (by decide), w2 _ _ (by decide) (by decide)]
        rw [s4, s5, s6, s8, s9, u1]
        have : ¬ nx S = e.1 := by omega
        simp [this]
        exact ⟨by rw [hfd.2.1], by rw [hfd.2.2.1], hfd.2.2.2.2.1, hfd.2.2.2.2.2⟩
      · exact k f (Or.inr hf)
    · have h0 := hCh.2.1
      have hfr : nx S ∉ uad A ∧ nx S ∉ uad B := by
        constructor <;> intro z <;> obtain ⟨f, f1, f2⟩ := uad_mem.mp z
        · have := (hCh.1 f (eC' (Or.inl f1))).1; omega
        · have := (hCh.1 f (eC' (Or.inr f1))).1; omega
      rw [uad_ap, uad_c] at h0 ⊢
      rw [uad_c]
      simp only [List.nodup_append, List.nodup_cons, List.mem_cons] at h0 ⊢
      have : nx S ≠ e.1 := by omega
      grind
    · rw [uad_at hea1, uOf_y hea2, uad_c]
      exact uCS_fr (S := S1) (by rw [w3]) (fun _ _ => ⟨by rw [w3], by rw [w3]⟩) s2
    · have := (hCh.2.2 a ha).2
      rw [uOf_len hea] at this
      rw [uOf_len hea1, uOf_y hea2, w2 _ _ (by decide) (by decide), if_neg (by simp), u7, this, nI_1]
      congr 1
    · have hab' : ¬ eA e = nI b := fun z => hab (nI8 hP hb ha (z.symm.trans hea))
      rw [uOf_ap, uOf_ap, uOf_n hab', uOf_n (show eA (e.1, (eA e, eB e, n, w, T1, eS e, eC e)) ≠ nI b from hab'), uOf_n (show eA (nx S, (eA e, eB e + n, eZ e - n, 0, T2, eS e, 0)) ≠ nI b from hab')]
    · have := (hS.2.2.2.2 b hb).1
      rw [w2 _ _ (by decide) (by decide), if_neg (by simp), u2 _ _ (by omega)]
      simp [hne b hb hab]
    · have := (hS.2.2.2.2 b hb).1
      rw [w3, u3 _ _ (by omega) (fun _ => hne b hb hab) (by simp) (by simp)]
    · have hh := (hCh.1 f hf).1
      have hn : f.1 ∉ uad (uOf a A) ++ e.1 :: uad (uOf a B) := by
        rw [← uad_at hea]
        intro z
        obtain ⟨g, g1, g2, g3⟩ := uad_sub z
        have := uad_inj hCh.2.1 g1 hf g3
        subst this; exact hfa g2
      rw [w3]
      exact ⟨u3 _ _ (by omega) (by simp) (fun _ => hn) (fun _ => hn), u3 _ _ (by omega) (by simp) (fun _ => hn) (fun _ => hn)⟩
  · intro b hb
    have := (hS.2.2.2.2 b hb).1
    rw [w2 _ _ (by decide) (by decide), if_neg (by simp), u2 _ _ (by omega)]
    have hl : livA R' b = livA R b := by unfold livA liv; rw [hrr 22 (by decide) (by decide), hrr 19 (by decide) (by decide)]
    rw [hl]; simpa using hSc b hb
