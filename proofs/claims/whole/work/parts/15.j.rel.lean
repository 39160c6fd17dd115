/-! ===== pure part: a number's segment; a span goes; the way down the sources ===== -/
def inR (num : Int32) (f : En) : Bool := decide (eb f ≤ num.toInt ∧ num.toInt < eb f + ez f)
theorem hold_lp {F h : Nat} {S : Cst} {num : Int32} : ∀ (l : List En) (pr : Option Nat) (n : Nat), usg S pr (uad l) none → (∀ f ∈ l, gI S 80 f.1 = eB f ∧ gI S 81 f.1 = eZ f ∧ 0 ≤ eb f) → l.length < n → cf_X0_holding_5 F h S n num (uhd (uad l) none) = some ((l.find? (inR num)).map (fun f => f.1)) := by
  intro l
  induction l with
  | nil =>
    intro pr n _ _ hn
    obtain ⟨n, rfl⟩ : ∃ m, n = m + 1 := ⟨n - 1, by simp at hn; omega⟩
    rfl
  | cons f l ih =>
    intro pr n hc hb hn
    obtain ⟨n, rfl⟩ : ∃ m, n = m + 1 := ⟨n - 1, by simp at hn; omega⟩
    have hc' : usg S pr (f.1 :: uad l) none := hc
    obtain ⟨c1, c2, c3⟩ := hc'
    obtain ⟨b1, b2, b3⟩ := hb f (by simp)
    have hr := ih (some f.1) n c3 (fun g hg => hb g (by simp [hg])) (by simp at hn; omega)
    simp only [cf_X0_holding_5, st1]
    show nc (some f.1) _ _ = _
    rw [ncS, b1, b2, c2]
    have e1 : eb f = (eB f).toInt := rfl
    have e2 : ez f = (eZ f).toInt := rfl
    have hrng := Int32.toInt_lt num
    by_cases k1 : num < eB f
    · rw [if_pos k1, hr, List.find?_cons_of_neg]
      unfold inR
      rw [Int32.lt_iff_toInt_lt] at k1
      simp; omega
    · rw [if_neg k1]
      rw [Int32.lt_iff_toInt_lt] at k1
      have hs : (num - eB f).toInt = num.toInt - (eB f).toInt := i32_sub (by omega) (by omega)
      by_cases k2 : eZ f ≤ num - eB f
      · rw [if_pos k2, hr, List.find?_cons_of_neg]
        unfold inR
        rw [Int32.le_iff_toInt_le] at k2
        simp; omega
      · rw [if_neg k2, List.find?_cons_of_pos]
        · rfl
        · unfold inR
          rw [Int32.le_iff_toInt_le] at k2
          simp; omega
theorem uOf_le {a : Nat} {L : List En} : (uOf a L).length ≤ L.length := List.length_filter_le _ _
theorem hold_ok {F : Nat} {P : Par} {S : Cst} {R : Rst} {L : List En} {t a : Nat} (hF : 1000 ≤ F) (hG : uG P S R L t) (ha : a < pn P) (num : Int32) : cf_X0_holding F S (par P a) num = some (((uOf a L).find? (inR num)).map (fun f => f.1)) := by
  obtain ⟨hLs, hSp, hRL, hCh, hSc, hTm⟩ := hG
  have hc := (hCh.2.2 a ha).1
  unfold cf_X0_holding
  simp only [st1]
  rw [hc.1]
  refine hold_lp _ none F hc.2 (fun f hf => ?_) ?_
  · have h1 := (uOf_mem.mp hf).1
    have h2 := hCh.1 f h1
    exact ⟨h2.2.1, h2.2.2.1, (uEl_sp (hLs.1 f h1)).2.2.1⟩
  · have := uOf_le (a := a) (L := L)
    have := hRL.2.1
    omega
theorem find_in {P : Par} {R : Rst} {L : List En} {a : Nat} {num : Int32} {g : En} (h : uLs P R L) (hg : g ∈ L) (hga : eA g = nI a) (hin : inR num g = true) : (uOf a L).find? (inR num) = some g := by
  cases hf : (uOf a L).find? (inR num) with
  | none =>
    rw [List.find?_eq_none] at hf
    exact absurd hin (hf g (uOf_mem.mpr ⟨hg, hga⟩))
  | some f =>
    have h1 := List.find?_some hf
    have h2 := uOf_mem.mp (List.mem_of_find?_eq_some hf)
    unfold inR at h1 hin
    simp at h1 hin
    rw [uLs_uq h h2.1 hg (h2.2.trans hga.symm) (by omega) (by omega)]
theorem lg_eq0 {x y : Int64} : lg_cmp x y = 0 ↔ x = y := by
  unfold lg_cmp
  by_cases h : x > y
  · rw [if_pos h]
    constructor
    · intro q; exact absurd q (by decide)
    · intro q; subst q
      exfalso
      have := Int64.lt_iff_toInt_lt.mp h
      omega
  · rw [if_neg h]
    by_cases h2 : x = y
    · rw [if_pos h2]; exact ⟨fun _ => h2, fun _ => rfl⟩
    · rw [if_neg h2]
      exact ⟨fun q => absurd q (by decide), fun q => absurd q h2⟩
theorem segFrom_ok {F : Nat} {P : Par} {S : Cst} {R : Rst} {L : List En} {t a : Nat} {g : En} (hF : 1000 ≤ F) (hG : uG P S R L t) (ha : a < pn P) (hg : g ∈ L) (hga : eA g = nI a) : cf_X0_segmentFrom F S (par P a) (eB g) (eZ g).toInt64 (eO g) = some (some g.1) := by
  unfold cf_X0_segmentFrom
  have hin : inR (eB g) g = true := by
    unfold inR
    have := uEl_sp (hG.1.1 g hg)
    have e1 : eb g = (eB g).toInt := rfl
    simp; omega
  have hfd := hG.2.2.2.1.1 g hg
  rw [hold_ok hF hG ha, find_in hG.1 hg hga hin, Option.bind_some, Option.map_some, ncS, hfd.2.1, hfd.2.2.1, hfd.2.2.2.1, if_pos rfl, if_pos (lg_eq0.mpr rfl), if_pos rfl]
  rfl
theorem filt_dn {p q : Nat → Bool} {s N : Nat} (hs : s < N) (hp : p s = true) (hq : q s = false) (h : ∀ j, j ≠ s → q j = p j) : ((List.range N).filter p).length = ((List.range N).filter q).length + 1 :=
  filt_up hs hq hp (fun j hj => (h j hj).symm)
theorem uG_mono {P : Par} {S : Cst} {R : Rst} {L : List En} {t t' : Nat} (h : uG P S R L t) (ht : t ≤ t') : uG P S R L t' := by
  obtain ⟨h1, h2, h3, h4, h5, h6⟩ := h
  exact ⟨h1, h2, h3, h4, h5, h6.1, by have := h6.2.1; omega, h6.2.2⟩
set_option maxHeartbeats 2000000 in
theorem jclose {F : Nat} {P : Par} {x : Nat} {S : Cst} {R : Rst} {A B : List En} {e : En} {a c t : Nat} (hF : 1000 ≤ F) (hR : uStR P R) (hS : uStS P x S) (hG : uG P S R (A ++ e :: B) t) (ha : a < pn P) (hea : eA e = nI a) (hO : eO e = 0) (hpc : psc P a = some c) (hz : eZ e = R.2 21 (esl e)) :
    ∃ S' R1, cf_X0_close F S (par P a) (some e.1) = some S' ∧ rf_remove F R (nI A.length) = some R1 ∧ uG P S' (rput (rset R1 22 (esl e) 0) 24 (R1.1 24 - 1)) (A ++ B) t ∧ uSF S S' ∧ uRF R (rput (rset R1 22 (esl e) 0) 24 (R1.1 24 - 1)) ∧ gI S' 80 e.1 = eB e ∧ gI S' 81 e.1 = eZ e ∧ (rput (rset R1 22 (esl e) 0) 24 (R1.1 24 - 1)).2 20 (esl e) = eB e ∧ (∃ g ∈ A ++ B, eA g = nI c ∧ eO g = 3 ∧ eB g = eB e ∧ eZ g = eZ e) ∧ (∀ s' a', s' < 600 → a' < pn P → (rput (rset R1 22 (esl e) 0) 24 (R1.1 24 - 1)).2 22 s' = 1 → (rput (rset R1 22 (esl e) 0) 24 (R1.1 24 - 1)).2 19 s' = nI a' → psc P a' = some c → (rput (rset R1 22 (esl e) 0) 24 (R1.1 24 - 1)).2 20 s' ≠ eB e) ∧ (liv (rput (rset R1 22 (esl e) 0) 24 (R1.1 24 - 1))).length + 1 = (liv R).length := by
  obtain ⟨hLs, hSp, hRL, hCh, hSc, hTm⟩ := hG
  have hP := hR.1
  have hE := hLs.1 e (by simp)
  have hsp := uEl_sp hE
  have hc0 : eC e = 0 := eC0 hE (by rw [hO]; decide)
  obtain ⟨sl1, sl2, sl3, sl4⟩ := uEl_sl hE
  have hspz : spz R e = ez e := by unfold spz ez; rw [hz]
  have hsta : uSta R e := by unfold uSta; omega
  have hend : uEnd R e := by unfold uEnd; rw [hspz]; unfold uSta at hsta; omega
  have hB20 : R.2 20 (esl e) = eB e := by
    apply i32_sub0
    show spb R e = eb e
    exact hsta.symm
  obtain ⟨R1, r1, r2, r3, r4⟩ := remove_ok (F := F) hF hRL rfl
  generalize hR2 : rput (rset R1 22 (esl e) 0) 24 (R1.1 24 - 1) = R2
  have a1 : ∀ j, j ≠ 10 → j ≠ 18 → j ≠ 24 → R2.1 j = R.1 j := by
    intro j j1 j2 j3; rw [← hR2, rput_g, if_neg j3]; exact r3.1 j j1 j2
  have a18 : R2.1 18 = R.1 18 := by rw [← hR2, rput_g, if_neg (by decide)]; exact r4
  have a24 : R2.1 24 = R.1 24 - 1 := by rw [← hR2, rput_g, if_pos rfl, r3.1 24 (by decide) (by decide)]
  have b1 : ∀ f, ¬ (11 ≤ f ∧ f ≤ 17) → f ≠ 22 → R2.2 f = R.2 f := by
    intro f f1 f2; rw [← hR2, rput_2, rset_f f2]; exact r3.2 f f1
  have b22 : ∀ s, R2.2 22 s = if s = esl e then 0 else R.2 22 s := by
    intro s; rw [← hR2, rput_2, rset_g, r3.2 22 (by decide)]; simp
  have hu2 : uRL R2 (A ++ B) := by
    refine ⟨by rw [← hR2, rput_g, if_neg (by decide)]; exact r2.1, r2.2.1, fun k f hk => ?_⟩
    have := r2.2.2 k f hk
    unfold sgk at *
    rw [← hR2, rput_2, rset_f (by decide), rset_f (by decide), rset_f (by decide), rset_f (by decide), rset_f (by decide), rset_f (by decide), rset_f (by decide)]
    exact this
  have nd0 := hCh.2.1
  have hsn : ∀ f ∈ A ++ B, esl f ≠ esl e := by
    intro f hf q
    have hf' : f ∈ A ∨ f ∈ B := List.mem_append.mp hf
    have hm : f ∈ A ++ e :: B := by simp; rcases hf' with h | h <;> simp [h]
    have hEf := hLs.1 f hm
    have hsf := uEl_sp hEf
    obtain ⟨sf1, sf2, sf3, sf4⟩ := uEl_sl hEf
    have h1 : spb R f = spb R e ∧ spz R f = spz R e := by unfold spb spz; rw [q]; exact ⟨rfl, rfl⟩
    have h2 : eA f = eA e := by rw [← sf4, ← sl4, q]
    unfold uSta uEnd at *
    have := uLs_uq hLs hm (by simp) h2 (by omega) (by omega)
    exact nd_ne nd0 hf' (by rw [this])
  have hls2 : uLs P R2 (A ++ B) := by
    refine uLs_fr2 (fun f hf k k1 k2 => ?_) (uLs_del hLs hsta hend)
    by_cases hk : k = 22
    · subst hk; rw [b22, if_neg (hsn f hf)]
    · rw [b1 k (by omega) hk]
  have hliv : (liv R).length = (liv R2).length + 1 := by
    unfold liv
    refine filt_dn sl1 (by simp [sl3]) (by rw [b22]; simp) (fun j hj => ?_)
    rw [b22, if_neg hj]
  obtain ⟨p1, p2, p3, p4, p5⟩ := hSp
  have live : ∀ s, R2.2 22 s = 1 → s ≠ esl e ∧ R.2 22 s = 1 := by
    intro s hs
    rw [b22] at hs
    by_cases q : s = esl e
    · rw [if_pos q] at hs; exact absurd hs (by decide)
    · rw [if_neg q] at hs; exact ⟨q, hs⟩
  -- the class
  have hcs := (hCh.2.2 a ha).1
  rw [uad_at hea] at hcs
  have hnd := uad_of (a := a) hCh.2.1
  rw [uad_at hea] at hnd
  obtain ⟨S1, u1, u2, u3⟩ := unlink_ok (F := F) hcs hnd
  obtain ⟨t1, t2, t3, t4, t5, t6, t7⟩ := u3
  have hcl : cf_X0_close F S (par P a) (some e.1) = some (sI S1 8 (par P a) (gI S1 8 (par P a) - 1)) := by
    unfold cf_X0_close; rw [u1]; rfl
  generalize hS2 : sI S1 8 (par P a) (gI S1 8 (par P a) - 1) = S2 at hcl
  have i2 : ∀ f p, gI S2 f p = if f = 8 ∧ p = par P a then gI S 8 (par P a) - 1 else if f = 9 ∧ p = par P a then gI S 9 (par P a) - 1 else gI S f p := by
    intro f p; rw [← hS2, gI_sI, t1, t1]; simp
  have g2 : ∀ f p, (f = 7 → p ≠ par P a) → (f = 86 → p ∉ uad (uOf a A) ++ e.1 :: uad (uOf a B)) → (f = 87 → p ∉ uad (uOf a A) ++ e.1 :: uad (uOf a B)) → gP S2 f p = gP S f p := by
    intro f p z1 z2 z3; rw [← hS2, gP_sI]; exact t2 f p z1 z2 z3
  have n2 : gN S2 = gN S ∧ gR S2 = gR S ∧ gQ S2 = gQ S ∧ nx S2 = nx S := by rw [← hS2]; exact ⟨t4, t5, t6, t7⟩
  have hfe := hCh.1 e (by simp)
  have hne : ∀ b, b < pn P → b ≠ a → par P b ≠ par P a := fun b hb hab z => hab (hS.2.2.2.1 b a hb ha z)
  have mAB : ∀ f, f ∈ A ++ B → f ∈ A ++ e :: B := fun f hf => by simp at hf ⊢; rcases hf with h | h <;> simp [h]
  obtain ⟨a', a1', a2', a3', a4', a5', a6'⟩ := p2 (esl e) sl1 sl3
  have haa : a' = a := nI8 hP a1' ha (a2'.symm.trans (sl4.trans hea))
  subst haa
  obtain ⟨g, w1, w2, w3, w4, w5⟩ := a6' c hpc
  have hge : g ∈ A ++ B := by
    simp at w1 ⊢
    rcases w1 with h | rfl | h
    · exact Or.inl h
    · rw [hO] at w3; cases w3
    · exact Or.inr h
  refine ⟨S2, R1, hcl, r1, ?_, ?_, ?_, ?_, ?_, ?_, ⟨g, hge, w2, w3, by rw [w4, hB20], by rw [w5, hz]⟩, ?_, ?_⟩
  all_goals (try rw [hR2])
  · refine ⟨hls2, ⟨fun s hs => ?_, fun s hs hl => ?_, fun s s' b b' c0 hs hs' hl hl' hb hb' h19 h19' k1 k2 k3 => ?_, ?_, ?_⟩, hu2, ?_, fun b hb => ?_, ?_⟩
    · rw [b22]
      by_cases q : s = esl e
      · rw [if_pos q]; exact Or.inl rfl
      · rw [if_neg q]; exact p1 s hs
    · obtain ⟨l1, l2⟩ := live s hl
      rw [b1 19 (by decide) (by decide), b1 20 (by decide) (by decide), b1 21 (by decide) (by decide), b1 23 (by decide) (by decide)]
      obtain ⟨b, q1, q2, q3, q4, ⟨f, f1, f2, f3⟩, q6⟩ := p2 s hs l2
      refine ⟨b, q1, q2, q3, q4, ⟨f, ?_, f2, f3⟩, fun c0 hc0 => ?_⟩
      · simp at f1 ⊢
        rcases f1 with h | rfl | h
        · exact Or.inl h
        · exact absurd ((nI_eq (by omega) (by omega)).mp (f2.symm.trans sl2)) l1
        · exact Or.inr h
      · obtain ⟨f', f1', f2', f3', f4'⟩ := q6 c0 hc0
        refine ⟨f', ?_, f2', f3', f4'⟩
        simp at f1' ⊢
        rcases f1' with h | rfl | h
        · exact Or.inl h
        · rw [hO] at f3'; cases f3'
        · exact Or.inr h
    · rw [b1 19 (by decide) (by decide)] at h19 h19'
      rw [b1 20 (by decide) (by decide)] at k3
      exact p3 s s' b b' c0 hs hs' (live s hl).2 (live s' hl').2 hb hb' h19 h19' k1 k2 k3
    · rw [a24, p4, hliv, nI_pred]
    · have : (A ++ e :: B).length = (A ++ B).length + 1 := by simp; omega
      omega
    · refine uCh_st hP ha hCh (fun f hf => ?_) ?_ ?_ ?_ (fun b hb hab => ?_) (fun b hb hab => ⟨?_, ?_⟩) (fun f hf hfa => ?_)
      · have hh := hCh.1 f (mAB f hf)
        unfold uFd at *
        rw [b1 20 (by decide) (by decide), b1 21 (by decide) (by decide), n2.2.2.2, i2, i2, i2, i2, i2]
        simp
        exact hh
      · have h0 := hCh.2.1
        rw [uad_ap, uad_c] at h0
        rw [uad_ap]
        exact List.Sublist.nodup (List.Sublist.append (List.Sublist.refl _) (List.sublist_cons_self _ _)) h0
      · rw [uOf_ap, uad_ap]
        refine uCS_fr (S := S1) ?_ (fun p _ => ?_) u2
        · rw [← hS2]; rfl
        · rw [← hS2]; exact ⟨rfl, rfl⟩
      · have := (hCh.2.2 a' ha).2
        rw [uOf_len hea] at this
        rw [i2]
        simp [this, uOf_ap, nI_pred]
      · have hab' : ¬ eA e = nI b := fun z => hab (nI8 hP hb ha (z.symm.trans hea))
        rw [uOf_ap, uOf_ap, uOf_n hab']
      · rw [i2]; simp [hne b hb hab]
      · rw [g2 _ _ (fun _ => hne b hb hab) (by simp) (by simp)]
      · have hn : f.1 ∉ uad (uOf a' A) ++ e.1 :: uad (uOf a' B) := by
          rw [← uad_at hea]
          intro z
          obtain ⟨g', g1, g2', g3⟩ := uad_sub z
          have := uad_inj hCh.2.1 g1 hf g3
          subst this; exact hfa g2'
        exact ⟨g2 _ _ (by simp) (fun _ => hn) (fun _ => hn), g2 _ _ (by simp) (fun _ => hn) (fun _ => hn)⟩
    · rw [i2]
      by_cases hab : b = a'
      · subst hab
        rw [if_pos ⟨rfl, rfl⟩, hSc b hb]
        have : (livA R b).length = (livA R2 b).length + 1 := by
          rw [livA_f, livA_f]
          refine filt_dn sl1 (by simp [sl3, sl4, hea]) (by rw [b22]; simp) (fun j hj => ?_)
          rw [b22, if_neg hj, b1 19 (by decide) (by decide)]
        rw [this, nI_pred]
      · rw [if_neg (fun q => hne b hb hab q.2), if_neg (by simp), hSc b hb, livA_f, livA_f]
        refine congrArg (fun p => nI (List.filter p (List.range 600)).length) (funext fun j => ?_)
        rw [b22, b1 19 (by decide) (by decide)]
        by_cases hj : j = esl e
        · subst hj
          rw [if_pos rfl, sl4, hea]
          have : ¬ nI a' = nI b := fun q => hab (nI8 hP hb ha q.symm)
          simp [this]
        · rw [if_neg hj]
    · have hn0 := hTm.2.1
      have hcl0 := hTm.2.2.1 a' ha
      have j10 : ∀ p, gI S2 10 p = gI S 10 p := fun p => by rw [i2]; simp
      have j83 : ∀ p, gI S2 83 p = gI S 83 p := fun p => by rw [i2]; simp
      refine uTm_st hP ha hTm (by rw [a18]; exact Int.le_refl _) (by rw [a18]; omega) (by rw [j10]; exact Int.le_refl _) (by rw [j10, a18]; exact hcl0.2) (fun b hb hab => j10 _) (fun f hf => ?_) (fun f hf => Or.inl ⟨f, mAB f hf, rfl, rfl, rfl, j83 _, fun z => z⟩) (fun f hf g' hg' _ _ of' og kf kg => ?_)
      · obtain ⟨b, q1, q2, _⟩ := hls2.1 f hf
        exact ⟨b, q1, q2⟩
      · have := hTm.2.2.2.1 f (mAB f hf)
        omega
  · refine ⟨by rw [n2.2.2.2]; exact Nat.le_refl _, fun f p hp z1 z2 z3 z4 => ?_, fun f p hp z1 z2 z3 => ?_, n2.1, n2.2.1, n2.2.2.1⟩
    · rw [i2, if_neg (fun q => z1 q.1), if_neg (fun q => z2 q.1)]
    · exact g2 f p (fun q => absurd q z1) (fun q => absurd q z2) (fun q => absurd q z3)
  · exact ⟨fun j j1 j2 j3 => a1 j j1 j2 j3, fun f f1 f2 => b1 f f1 (fun q => f2 ⟨by omega, by omega⟩)⟩
  · rw [i2]; simp; exact hfe.2.1
  · rw [i2]; simp; exact hfe.2.2.1
  · rw [b1 20 (by decide) (by decide)]; exact hB20
  · intro s' b hs' hb hl h19 hpb q
    obtain ⟨l1, l2⟩ := live s' hl
    rw [b1 19 (by decide) (by decide)] at h19
    rw [b1 20 (by decide) (by decide)] at q
    exact l1 (p3 s' (esl e) b a' c hs' sl1 l2 sl3 hb ha h19 (sl4.trans hea) hpb hpc (q.trans hB20.symm))
  · omega
