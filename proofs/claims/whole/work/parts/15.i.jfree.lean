/-! ===== pure part: the joint give-back of one segment ===== -/
theorem of_hd {P : Par} {R : Rst} {A B : List En} {e b : En} {a : Nat} (h : uLs P R (A ++ e :: B)) (hea : eA e = nI a) (hb : (uOf a B).head? = some b) : B.head? = some b := by
  cases B with
  | nil => cases hb
  | cons b0 B =>
    by_cases hb0 : eA b0 = nI a
    · rw [uOf_y hb0] at hb; exact hb
    · exfalso
      have hp := uLs_pw h
      rw [List.pairwise_append] at hp
      have hm : b ∈ uOf a (b0 :: B) := List.mem_of_head? hb
      obtain ⟨m1, m2⟩ := uOf_mem.mp hm
      have h2 := List.pairwise_cons.mp hp.2.1
      have hb1 := h2.1 b0 List.mem_cons_self
      have h3 := List.pairwise_cons.mp h2.2
      rcases List.mem_cons.mp m1 with rfl | m1
      · exact hb0 m2
      · have hb2 := h3.1 b m1
        rcases hb1 with g | ⟨g, _⟩
        · rcases hb2 with k | ⟨k, _⟩
          · rw [m2] at k; rw [hea] at g; omega
          · rw [k, m2, hea] at g; omega
        · exact hb0 (g.symm.trans hea)
theorem of_lst {P : Par} {R : Rst} {A B : List En} {e : En} {a : Nat} {b : Nat} (h : uLs P R (A ++ e :: B)) (hea : eA e = nI a) (hb : ulst none (uad (uOf a A)) = some b) : ∃ A1 p, A = A1 ++ [p] ∧ eA p = nI a ∧ p.1 = b := by
  rcases list_snoc A with rfl | ⟨A1, p, rfl⟩
  · cases hb
  · by_cases hp0 : eA p = nI a
    · refine ⟨A1, p, rfl, hp0, ?_⟩
      rw [uOf_ap, uOf_y hp0, uad_ap, ulst_ap] at hb
      cases hb; rfl
    · exfalso
      have hp := uLs_pw h
      rw [List.pairwise_append, List.pairwise_append] at hp
      obtain ⟨⟨_, _, q3⟩, _, q4⟩ := hp
      have hpe : uLt p e := q4 p (by simp) e List.mem_cons_self
      rcases ulst_mem hb with z | z
      · cases z
      · obtain ⟨f, f1, f2, _⟩ := uad_sub z
        simp at f1
        rcases f1 with f1 | rfl
        · have := q3 f f1 p (by simp)
          rcases hpe with g | ⟨g, _⟩
          · rcases this with k | ⟨k, _⟩
            · rw [f2] at k; rw [hea] at g; omega
            · rw [← k, f2, hea] at g; omega
          · exact hp0 (g.trans hea)
        · exact hp0 f2
/-- same span base, same slot -/
theorem adj_sp {P : Par} {R : Rst} {A B : List En} {e f : En} (h : uLs P R (A ++ e :: f :: B)) (hae : eA e = eA f) (hs : R.2 20 (esl e) = R.2 20 (esl f)) : eS e = eS f := by
  have h4 := h.2
  rw [uTl_mid] at h4
  rcases h4.2.1 with ⟨q, _, _⟩ | ⟨w1, w2, w3, _⟩
  · exact q
  · exfalso
    have he := uEl_sp (h.1 e (by simp))
    have hf := uEl_sp (h.1 f (by simp))
    have h1 : spb R e = spb R f := by unfold spb; rw [hs]
    unfold uSta uEnd at *
    rcases w3 with g | ⟨_, g⟩
    · rw [hae] at g; omega
    · omega
theorem uEl_join {P : Par} {R : Rst} {e e1 : En} {a : Nat} (ha : a < pn P) (h : uEl P R e) (hea : eA e = nI a) (s1 : eS e1 = eS e) (a1 : eA e1 = eA e) (h0 : 0 ≤ eb e1) (hz : 0 < ez e1) (hb : spb R e ≤ eb e1) (hb2 : eb e1 + ez e1 ≤ spb R e + spz R e) (htop : eb e1 + ez e1 ≤ 1073741824) (hd : ((2 ^ psh P a : Nat) : Int) ∣ eb e1) (hd2 : ((2 ^ psh P a : Nat) : Int) ∣ ez e1) (hc : eC e1 = 0) : uEl P R e1 := by
  obtain ⟨a', q1, q2, q3, q4, q5, q6, q7, q8, q9, q10, q11⟩ := h
  have hs := sp_eq (R := R) s1
  refine ⟨a, ha, a1.trans hea, h0, hz, htop, hd, hd2, by omega, by omega, ?_, Or.inl hc⟩
  rw [s1, a1]; exact q10
theorem uLsN {P : Par} {R : Rst} {A N B : List En} {e : En} {a : Nat} (hP : pn P ≤ 8) (ha : a < pn P) (h : uLs P R (A ++ e :: (N ++ B))) (hea : eA e = nI a) (hC : eC e = 0) (hN : N = [] ∨ ∃ n, N = [n] ∧ eS n = eS e) : uLs P R (A ++ fn N e :: B) ∧ eb e + ez e ≤ eb (fn N e) + ez (fn N e) ∧ eA (fn N e) = eA e ∧ eS (fn N e) = eS e ∧ eB (fn N e) = eB e ∧ eC (fn N e) = 0 ∧ (fn N e).1 = e.1 := by
  rcases hN with rfl | ⟨n, rfl, hs⟩
  · exact ⟨h, Int.le_refl _, rfl, rfl, rfl, hC, rfl⟩
  · have h' : uLs P R (A ++ e :: n :: B) := h
    obtain ⟨j1, j2⟩ := uLs_adj h' hs.symm
    have he := h'.1 e (by simp)
    have hn := h'.1 n (by simp)
    have se := uEl_sp he
    have sn := uEl_sp hn
    have hsp := sp_eq (R := R) hs
    obtain ⟨d1, d2⟩ := uEl_dv hP ha he hea
    obtain ⟨d3, d4⟩ := uEl_dv hP ha hn (j1.symm.trans hea)
    have z1 : ez e = (eZ e).toInt := rfl
    have z2 : ez n = (eZ n).toInt := rfl
    have hzz : (eZ e + eZ n).toInt = ez e + ez n := i32_add (by omega) (by omega)
    have e1 : eb (fn [n] e) = eb e := rfl
    have e2 : ez (fn [n] e) = ez e + ez n := hzz
    have he1 : uEl P R (fn [n] e) := uEl_join ha he hea rfl rfl (by omega) (by omega) (by omega) (by omega) (by omega) (by rw [e1]; exact d1) (by rw [e2]; exact Int.dvd_add d2 d4) hC
    exact ⟨uLs_join h' hs.symm he1 rfl rfl rfl e2, by omega, rfl, rfl, rfl, hC, rfl⟩
theorem uLsQ {P : Par} {R : Rst} {A Q B : List En} {e : En} {a : Nat} (hP : pn P ≤ 8) (ha : a < pn P) (h : uLs P R (A ++ (Q ++ e :: B))) (hea : eA e = nI a) (hC : eC e = 0) (hQ : Q = [] ∨ ∃ p, Q = [p] ∧ eS p = eS e ∧ eO p = 0) (t : Int32) : uLs P R (A ++ fq Q e t :: B) ∧ eb (fq Q e t) ≤ eb e ∧ eb e + ez e = eb (fq Q e t) + ez (fq Q e t) ∧ eA (fq Q e t) = eA e ∧ eS (fq Q e t) = eS e ∧ eC (fq Q e t) = 0 ∧ eO (fq Q e t) = 0 ∧ eT (fq Q e t) = t ∧ (fq Q e t).1 = e.1 := by
  rcases hQ with rfl | ⟨p, rfl, hs, ho⟩
  · have h' : uLs P R (A ++ e :: B) := h
    have he := h'.1 e (by simp)
    have se := uEl_sp he
    obtain ⟨d1, d2⟩ := uEl_dv hP ha he hea
    have he1 : uEl P R (fq [] e t) := uEl_join ha he hea rfl rfl se.2.2.1 se.2.2.2.1 se.1 se.2.1 se.2.2.2.2 d1 d2 hC
    exact ⟨uLs_set h' he1 rfl rfl rfl rfl, Int.le_refl _, rfl, rfl, rfl, hC, rfl, rfl, rfl⟩
  · have h' : uLs P R (A ++ p :: e :: B) := h
    obtain ⟨j1, j2⟩ := uLs_adj h' hs
    have he := h'.1 e (by simp)
    have hp := h'.1 p (by simp)
    have se := uEl_sp he
    have sp := uEl_sp hp
    have hsp := sp_eq (R := R) hs
    obtain ⟨d1, d2⟩ := uEl_dv hP ha he hea
    obtain ⟨d3, d4⟩ := uEl_dv hP ha hp (j1.trans hea)
    have hcp : eC p = 0 := eC0 hp (by rw [ho]; decide)
    have z1 : ez e = (eZ e).toInt := rfl
    have z2 : ez p = (eZ p).toInt := rfl
    have hzz : (eZ p + eZ e).toInt = ez p + ez e := i32_add (by omega) (by omega)
    have e1 : eb (fq [p] e t) = eb p := rfl
    have e2 : ez (fq [p] e t) = ez p + ez e := hzz
    have he1 : uEl P R (fq [p] e t) := uEl_join ha hp (j1.trans hea) rfl rfl (by omega) (by omega) (by omega) (by omega) (by omega) (by rw [e1]; exact d3) (by rw [e2]; exact Int.dvd_add d4 d2) hcp
    exact ⟨uLs_join h' hs he1 rfl rfl rfl e2, by omega, by omega, j1, hs, hcp, rfl, rfl, rfl⟩
theorem pos_at {F : Nat} {P : Par} {R : Rst} {A B : List En} {e : En} (hF : 1000 ≤ F) (hL : uLs P R (A ++ e :: B)) (h : uRL R (A ++ e :: B)) : rf_position F R (eA e) (eB e).toInt64 = some (nI A.length) := by
  obtain ⟨pw1, pw2⟩ := pairw_mid hL
  refine pos_ok hF h rfl (fun f hf => ?_) (fun f hf => ?_)
  · rw [uP_iff]
    have := uEl_z (hL.1 f (by simp [hf]))
    have hr : eb e = (eB e).toInt := rfl
    rcases pw1 f hf with z | ⟨z1, z2⟩
    · exact Or.inl z
    · exact Or.inr ⟨z1, by omega⟩
  · cases hf
    rw [uP_iff]
    rintro (q | ⟨_, q⟩)
    · exact Int.lt_irrefl _ q
    · exact Int.lt_irrefl _ q
set_option maxHeartbeats 4000000 in
theorem jfree {F : Nat} {P : Par} {x : Nat} {S : Cst} {R : Rst} {A0 B0 : List En} {e : En} {a t : Nat} (kG : Rst → Int32 → Int32 → Option Rst) (hF : 1000 ≤ F) (hR : uStR P R) (hS : uStS P x S) (hG : uG P S R (A0 ++ e :: B0) t) (ha : a < pn P) (hea : eA e = nI a) (hC : eC e = 0) (hnl : ∀ s a', s < 600 → a' < pn P → R.2 22 s = 1 → R.2 19 s = nI a' → psc P a' = some a → R.2 20 s ≠ eB e) (ht : t + 1 < 2147483648) :
    ∃ S' R' A' B' e', cf_X0_free F S (par P a) (some e.1) = some S' ∧ rf_givesB F kG R (nI a) (eB e) = gtl F kG R' (nI a) (nI A'.length) ∧ uG P S' R' (A' ++ e' :: B') (t + 1) ∧ uSF S S' ∧ uFr R R' ∧ uSl (A0 ++ e :: B0) (A' ++ e' :: B') ∧ e'.1 = e.1 ∧ eA e' = nI a ∧ eS e' = eS e ∧ eO e' = 0 ∧ eC e' = 0 ∧ (∀ f ∈ A', f ∈ A0) ∧ (∀ f ∈ B', f ∈ B0) ∧ (∀ f ∈ A0, f ∈ A' ∨ eO f = 0) ∧ (∀ f ∈ B0, f ∈ B' ∨ eO f = 0) ∧ eb e' ≤ eb e ∧ eb e + ez e ≤ eb e' + ez e' ∧ A'.length + B'.length ≤ A0.length + B0.length := by
  obtain ⟨hLs, hSp, hRL, hCh, hSc, hTm⟩ := hG
  have hP := hR.1
  have hpos := pos_at hF hLs hRL
  rw [hea] at hpos
  have dQ : ∃ A Q, A0 = A ++ Q ∧ ((Q = [] ∧ ∀ A1 p, A = A1 ++ [p] → ¬ (eA p = nI a ∧ eS p = eS e ∧ eO p = 0)) ∨ ∃ p, Q = [p] ∧ eA p = nI a ∧ eS p = eS e ∧ eO p = 0) := by
    by_cases h : ∃ A1 p, A0 = A1 ++ [p] ∧ eA p = nI a ∧ eS p = eS e ∧ eO p = 0
    · obtain ⟨A1, p, h1, h2⟩ := h
      exact ⟨A1, [p], h1, Or.inr ⟨p, rfl, h2⟩⟩
    · exact ⟨A0, [], by simp, Or.inl ⟨rfl, fun A1 p h1 h2 => h ⟨A1, p, h1, h2⟩⟩⟩
  have dN : ∃ N B, B0 = N ++ B ∧ ((N = [] ∧ ∀ n, B.head? = some n → ¬ (eA n = nI a ∧ eS n = eS e ∧ eO n = 0)) ∨ ∃ n, N = [n] ∧ eA n = nI a ∧ eS n = eS e ∧ eO n = 0) := by
    by_cases h : ∃ n B1, B0 = n :: B1 ∧ eA n = nI a ∧ eS n = eS e ∧ eO n = 0
    · obtain ⟨n, B1, h1, h2⟩ := h
      exact ⟨[n], B1, h1, Or.inr ⟨n, rfl, h2⟩⟩
    · refine ⟨[], B0, rfl, Or.inl ⟨rfl, fun n h1 h2 => ?_⟩⟩
      cases B0 with
      | nil => cases h1
      | cons b B1 => cases h1; exact h ⟨_, B1, rfl, h2⟩
  obtain ⟨A, Q, rfl, hQ⟩ := dQ
  obtain ⟨N, B, rfl, hN⟩ := dN
  have hN1 : N = [] ∨ ∃ n, N = [n] ∧ eS n = eS e := by
    rcases hN with ⟨h, _⟩ | ⟨n, h1, _, h2, _⟩
    · exact Or.inl h
    · exact Or.inr ⟨n, h1, h2⟩
  have hNo : ∀ n ∈ N, eO n = 0 ∧ eA n = nI a ∧ eS n = eS e := by
    rcases hN with ⟨rfl, _⟩ | ⟨n, rfl, h1, h2, h3⟩
    · intro n hn; cases hn
    · intro m hm; simp at hm; subst hm; exact ⟨h3, h1, h2⟩
  have hQo : ∀ p ∈ Q, eO p = 0 ∧ eA p = nI a ∧ eS p = eS e := by
    rcases hQ with ⟨rfl, _⟩ | ⟨n, rfl, h1, h2, h3⟩
    · intro n hn; cases hn
    · intro m hm; simp at hm; subst hm; exact ⟨h3, h1, h2⟩
  have hQ1 : Q = [] ∨ ∃ p, Q = [p] ∧ eS p = eS e ∧ eO p = 0 := by
    rcases hQ with ⟨h, _⟩ | ⟨n, h1, _, h2, h3⟩
    · exact Or.inl h
    · exact Or.inr ⟨n, h1, h2, h3⟩
  -- the tiling
  obtain ⟨n1, n2, n3, n4, n5, n6, n7⟩ := uLsN hP ha hLs hea hC hN1
  rw [List.append_assoc] at n1
  -- the reference
  obtain ⟨R1, r1, r2, r3, r4⟩ := rgB (F := F) (kG := kG) (a := nI a) hF hRL hpos hN
  rw [List.append_assoc] at r4
  obtain ⟨R2, s1, s2, s3, s4⟩ := rg82 (F := F) (kG := kG) (a := nI a) (R := R1) hF r4 (by rw [n4]; exact hQ)
  rw [r3] at s3 s4
  obtain ⟨q1, q2, q3, q4, q5, q6, q7, q8, q9⟩ := uLsQ (e := fn N e) hP ha n1 (n3.trans hea) n6 (by rw [n4]; exact hQ1) (R.1 18 + 1)
  have hfr : uFr R R2 := r2.tr s2
  have hrr : ∀ f, 19 ≤ f → f ≤ 23 → R2.2 f = R.2 f := fun f f1 f2 => hfr.2 f (by omega)
  generalize he2 : fq Q (fn N e) (R.1 18 + 1) = e2 at *
  rw [n3, hea] at q4
  rw [n4] at q5
  rw [n7] at q9
  have ebn : eb (fn N e) = eb e := by unfold eb; rw [n5]
  -- the class
  have hoQ : uOf a Q = Q := by unfold uOf; rw [List.filter_eq_self]; intro p hp; simpa using (hQo p hp).2.1
  have hoN : uOf a N = N := by unfold uOf; rw [List.filter_eq_self]; intro p hp; simpa using (hNo p hp).2.1
  have hU : uad (uOf a ((A ++ Q) ++ e :: (N ++ B))) = uad (uOf a A) ++ (uad Q ++ e.1 :: (uad N ++ uad (uOf a B))) := by
    rw [uOf_ap, uOf_ap, uOf_y hea, uOf_ap, hoQ, hoN, uad_ap, uad_ap, uad_c, uad_ap, List.append_assoc]
  have hcs := (hCh.2.2 a ha).1
  have hcn := (hCh.2.2 a ha).2
  have hnd := uad_of (a := a) hCh.2.1
  rw [hU] at hcs hnd
  have hesl : ∀ f, eS f = eS e → esl f = esl e := fun f hf => by unfold esl; rw [hf]
  have hfd := fun f hf => hCh.1 f hf
  have hfe := hfd e (by simp)
  have hQc : (uad Q = [] ∧ ∀ b, ulst none (uad (uOf a A)) = some b → ¬ fin S e.1 b) ∨ (∃ p, uad Q = [p] ∧ fin S e.1 p) := by
    rcases hQ with ⟨rfl, hq⟩ | ⟨p, rfl, h1, h2, h3⟩
    · refine Or.inl ⟨rfl, fun b hb hf => ?_⟩
      rw [List.append_nil] at hLs hfd
      obtain ⟨A1, p, p1, p2, p3⟩ := of_lst hLs hea hb
      have hfp := hfd p (by rw [p1]; simp)
      subst p3
      refine hq A1 p p1 ⟨p2, ?_, by rw [← hfp.2.2.2.1]; exact hf.1⟩
      rw [p1, List.append_assoc] at hLs
      refine adj_sp hLs (p2.trans hea.symm) ?_
      rw [← hfp.2.2.2.2.1, ← hfe.2.2.2.2.1]; exact hf.2
    · have hfp := hfd p (by simp)
      refine Or.inr ⟨p.1, rfl, by rw [hfp.2.2.2.1]; exact h3, ?_⟩
      rw [hfp.2.2.2.2.1, hfe.2.2.2.2.1, hesl p h2]
  have hNc : (uad N = [] ∧ ∀ b, uhd (uad (uOf a B)) none = some b → ¬ fin S e.1 b) ∨ (∃ n, uad N = [n] ∧ fin S e.1 n) := by
    rcases hN with ⟨rfl, hq⟩ | ⟨n, rfl, h1, h2, h3⟩
    · refine Or.inl ⟨rfl, fun b hb hf => ?_⟩
      have hb2 : ∃ n, (uOf a B).head? = some n ∧ n.1 = b := by
        cases hB : uOf a B with
        | nil => rw [hB] at hb; cases hb
        | cons n B1 => rw [hB] at hb; cases hb; exact ⟨n, rfl, rfl⟩
      obtain ⟨n, m1, m2⟩ := hb2
      have m3 := of_hd (B := B) hLs hea m1
      have m4 : eA n = nI a := (uOf_mem.mp (List.mem_of_head? m1)).2
      have m5 : n ∈ B := List.mem_of_head? m3
      have hfp := hfd n (by simp [m5])
      subst m2
      refine hq n m3 ⟨m4, ?_, by rw [← hfp.2.2.2.1]; exact hf.1⟩
      cases B with
      | nil => cases m3
      | cons b B1 =>
        cases m3
        refine (adj_sp hLs (hea.trans m4.symm) ?_).symm
        rw [← hfp.2.2.2.2.1, ← hfe.2.2.2.2.1]; exact hf.2.symm
    · have hfp := hfd n (by simp)
      refine Or.inr ⟨n.1, rfl, by rw [hfp.2.2.2.1]; exact h3, ?_⟩
      rw [hfp.2.2.2.2.1, hfe.2.2.2.2.1, hesl n h2]
  obtain ⟨S', c1, c2, c3, c4, c5, c6, c7, c8⟩ := cfree_ok (F := F) hcs hnd hQc hNc
  have hpar := hS.2.2.2.2 a ha
  have hne : ∀ b, b < pn P → b ≠ a → par P b ≠ par P a := fun b hb hab z => hab (hS.2.2.2.1 b a hb ha z)
  have mA : ∀ f, f ∈ A → f ∈ (A ++ Q) ++ e :: (N ++ B) := fun f hf => by simp [hf]
  have mB : ∀ f, f ∈ B → f ∈ (A ++ Q) ++ e :: (N ++ B) := fun f hf => by simp [hf]
  have nA : ∀ f, f ∈ A → f.1 ≠ e.1 := fun f hf => nd_ne hCh.2.1 (Or.inl (by simp [hf]))
  have nB : ∀ f, f ∈ B → f.1 ≠ e.1 := fun f hf => nd_ne hCh.2.1 (Or.inr (by simp [hf]))
  have nAB : ∀ f, f ∈ A ∨ f ∈ B → f.1 ≠ e.1 := fun f hf => hf.elim (nA f) (nB f)
  have mAB : ∀ f, f ∈ A ∨ f ∈ B → f ∈ (A ++ Q) ++ e :: (N ++ B) := fun f hf => hf.elim (mA f) (mB f)
  have hnow : (R.1 18 + 1).toInt = (R.1 18).toInt + 1 := by
    have := hTm.1; have := hTm.2.1
    rw [i32_add (by rw [i32_1]; omega) (by rw [i32_1]; omega)]; rfl
  have hcl := hTm.2.2.1 a ha
  have hclk : (gI S 10 (par P a) + 1).toInt = (gI S 10 (par P a)).toInt + 1 := by
    have := hTm.1; have := hTm.2.1
    rw [i32_add (by rw [i32_1]; omega) (by rw [i32_1]; omega)]; rfl
  have hg10 : gI S' 10 (par P a) = gI S 10 (par P a) + 1 := by rw [c3]; simp
  have hC0 : ∀ f, f ∈ Q ∨ f ∈ N → eC f = 0 := by
    intro f hf
    rcases hf with hf | hf
    · exact eC0 (hLs.1 f (by simp [hf])) (by rw [(hQo f hf).1]; decide)
    · exact eC0 (hLs.1 f (by simp [hf])) (by rw [(hNo f hf).1]; decide)
  have hb2 : eB e2 = fpb S e.1 (uad Q) := by
    rw [← he2]
    rcases hQ with ⟨rfl, _⟩ | ⟨p, rfl, _⟩
    · show eB (fn N e) = gI S 80 e.1
      rw [n5, hfe.2.1]
    · show eB p = gI S 80 p.1
      rw [(hfd p (by simp)).2.1]
  have hzn : eZ (fn N e) = fpz S (gI S 81 e.1) (uad N) := by
    rcases hN with ⟨rfl, _⟩ | ⟨n, rfl, _⟩
    · show eZ e = gI S 81 e.1
      rw [hfe.2.2.1]
    · show eZ e + eZ n = gI S 81 e.1 + gI S 81 n.1
      rw [hfe.2.2.1, (hfd n (by simp)).2.2.1]
  have hz2 : eZ e2 = fpz S (fpz S (gI S 81 e.1) (uad N)) (uad Q) := by
    rw [← he2, ← hzn]
    rcases hQ with ⟨rfl, _⟩ | ⟨p, rfl, _⟩
    · rfl
    · show eZ p + eZ (fn N e) = eZ (fn N e) + gI S 81 p.1
      rw [(hfd p (by simp)).2.2.1, Int32.add_comm]
  have hle : A.length + B.length ≤ (A ++ Q).length + (N ++ B).length := by simp; omega
  refine ⟨S', R2, A, B, e2, c1, by rw [r1, s1], ⟨uLs_fr hrr q1, ?_, s4, ?_, ?_, ?_⟩, ?_, hfr, ?_, q9, q4, q5, q7, q6, fun f hf => by simp [hf], fun f hf => by simp [hf], fun f hf => ?_, fun f hf => ?_, by omega, by omega, hle⟩
  · refine uSp_st hSp hrr (hfr.1 24 (by decide) (by decide)) (by have := hSp.2.2.2.2; simp at this ⊢; omega) (fun f hf h1 => ?_) (fun f hf h3 h4 => ?_)
    · simp only [List.mem_append, List.mem_cons] at hf
      rcases hf with (hf | hf) | rfl | hf | hf
      · exact ⟨f, by simp [hf], rfl, rfl⟩
      · refine ⟨e2, by simp, by rw [q5, (hQo f hf).2.2], ?_⟩
        rw [← he2]
        rcases hQ with ⟨rfl, _⟩ | ⟨p, rfl, _⟩
        · cases hf
        · simp at hf; subst hf; rfl
      · obtain ⟨s, s6, s7, s8⟩ := h1
        refine ⟨e2, by simp, q5, ?_⟩
        rcases hQ with ⟨rfl, _⟩ | ⟨p, rfl, p1, p2, p3⟩
        · rw [← he2]; exact n5
        · exfalso
          have hl2 : uLs P R (A ++ p :: f :: (N ++ B)) := by simpa using hLs
          obtain ⟨j1, j2⟩ := uLs_adj hl2 p2
          have sp := uEl_sp (hl2.1 p (by simp))
          have hsp := sp_eq (R := R) p2
          have : spb R f = eb f := by
            unfold spb eb
            have : esl f = s := by unfold esl; rw [s7]; exact nI_clamp (by omega)
            rw [this, s8]
          omega
      · exfalso
        obtain ⟨s, s6, s7, s8⟩ := h1
        rcases hN with ⟨rfl, _⟩ | ⟨n, rfl, p1, p2, p3⟩
        · cases hf
        · simp at hf; subst hf
          have hl2 : uLs P R ((A ++ Q) ++ e :: f :: B) := hLs
          obtain ⟨j1, j2⟩ := uLs_adj hl2 p2.symm
          have sp := uEl_sp (hl2.1 e (by simp))
          have hsp := sp_eq (R := R) p2
          have : spb R f = eb f := by
            unfold spb eb
            have : esl f = s := by unfold esl; rw [s7]; exact nI_clamp (by omega)
            rw [this, s8]
          omega
      · exact ⟨f, by simp [hf], rfl, rfl⟩
    · simp only [List.mem_append, List.mem_cons] at hf
      rcases hf with (hf | hf) | rfl | hf | hf
      · exact ⟨f, by simp [hf], rfl, h3, rfl, rfl⟩
      · exfalso; rw [(hQo f hf).1] at h3; cases h3
      · exfalso
        obtain ⟨s, a', c, w1, w2, w3, w4, w5, w6, w7⟩ := h4
        have : c = a := nI8 hP (by have := (hR.2.2 a' w2).2.2.2.2.2 c w5; omega) ha (w6.symm.trans hea)
        subst this
        exact hnl s a' w1 w2 w3 w4 w5 w7.symm
      · exfalso; rw [(hNo f hf).1] at h3; cases h3
      · exact ⟨f, by simp [hf], rfl, h3, rfl, rfl⟩
  · refine uCh_st hP ha hCh (fun f hf => ?_) ?_ ?_ ?_ (fun b hb hab => ?_) (fun b hb hab => ⟨?_, ?_⟩) (fun f hf hfa => ?_)
    · simp only [List.mem_append, List.mem_cons] at hf
      have k : ∀ f, f ∈ A ∨ f ∈ B → uFd S' R2 f := by
        intro f hf
        have hn := nAB f hf
        have hh := hfd f (mAB f hf)
        unfold uFd at *
        rw [hrr 20 (by decide) (by decide), hrr 21 (by decide) (by decide), c8, c3, c3, c3, c3, c3]
        simp [hn]
        exact hh
      rcases hf with hf | rfl | hf
      · exact k f (Or.inl hf)
      · unfold uFd
        rw [hrr 20 (by decide) (by decide), hrr 21 (by decide) (by decide), c8, q9, c3, c3, c3, c3, c3]
        simp
        rw [hesl f q5]
        exact ⟨hfe.1, hb2.symm, hz2.symm, q7.symm, hfe.2.2.2.2.1, hfe.2.2.2.2.2⟩
      · exact k f (Or.inr hf)
    · have h0 := hCh.2.1
      rw [uad_ap, uad_c, q9]
      rw [uad_ap, uad_ap, uad_c, uad_ap] at h0
      refine List.Sublist.nodup ?_ h0
      refine List.Sublist.append (List.sublist_append_left _ _) (List.Sublist.cons₂ _ (List.sublist_append_right _ _))
    · rw [uad_at q4, q9]; exact c2
    · rw [uOf_len q4, c3]
      simp only [show ¬ (9 = 83) by decide, show ¬ (9 = 10) by decide, false_and, if_false, and_self, if_true]
      rw [hcn]
      have hl0 : (uOf a ((A ++ Q) ++ e :: (N ++ B))).length = (uOf a A).length + Q.length + (N.length + (uOf a B).length) + 1 := by
        rw [uOf_len hea, uOf_ap, uOf_ap, hoQ, hoN]; simp
      rw [hl0]
      rcases hQ with ⟨rfl, _⟩ | ⟨p, rfl, _⟩ <;> rcases hN with ⟨rfl, _⟩ | ⟨n, rfl, _⟩
      · show nI _ = nI _; congr 1; simp
      · show nI _ - 1 = nI _; rw [nI_pred]; congr 1; simp; omega
      · show nI _ - 1 = nI _; rw [nI_pred]; congr 1; simp; omega
      · show nI _ - 1 - 1 = nI _; rw [nI_pred]
        have : (uOf a A).length + [p].length + ([n].length + (uOf a B).length) = ((uOf a A).length + (uOf a B).length + 1) + 1 := by simp; omega
        rw [this, nI_pred]
    · have hab' : ¬ nI a = nI b := fun z => hab (nI8 hP hb ha z.symm)
      have zQ : uOf b Q = [] := by unfold uOf; rw [List.filter_eq_nil_iff]; intro p hp; simp [(hQo p hp).2.1, hab']
      have zN : uOf b N = [] := by unfold uOf; rw [List.filter_eq_nil_iff]; intro p hp; simp [(hNo p hp).2.1, hab']
      rw [uOf_ap, uOf_ap, uOf_ap, uOf_n (show eA e ≠ nI b by rw [hea]; exact hab'), uOf_n (show eA e2 ≠ nI b by rw [q4]; exact hab'), uOf_ap, zQ, zN]
      simp
    · rw [c3]; simp [hne b hb hab]
    · rw [c4 _ _ (fun _ => hne b hb hab) (by simp) (by simp)]
    · have hn : f.1 ∉ uad (uOf a A) ++ (uad Q ++ e.1 :: (uad N ++ uad (uOf a B))) := by
        rw [← hU]
        intro z
        obtain ⟨g, g1, g2, g3⟩ := uad_sub z
        have := uad_inj hCh.2.1 g1 hf g3
        subst this; exact hfa g2
      exact ⟨c4 _ _ (by simp) (fun _ => hn) (fun _ => hn), c4 _ _ (by simp) (fun _ => hn) (fun _ => hn)⟩
  · intro b hb
    rw [c3]
    simp only [show ¬ (8 = 83) by decide, show ¬ (8 = 10) by decide, show ¬ (8 = 9) by decide, show ¬ (8 = 80) by decide, show ¬ (8 = 81) by decide, show ¬ (8 = 82) by decide, false_and, if_false]
    have hl : livA R2 b = livA R b := by unfold livA liv; rw [hrr 22 (by decide) (by decide), hrr 19 (by decide) (by decide)]
    rw [hl]; exact hSc b hb
  · have hn0 := hTm.2.1
    refine uTm_st hP ha hTm (by rw [s3, hnow]; omega) (by rw [s3, hnow]; omega) (by rw [hg10, hclk]; omega) (by rw [hg10, hclk, s3, hnow]; omega) (fun b hb hab => ?_) (fun f hf => ?_) (fun f hf => ?_) (fun f hf g hg _ _ of' og kf kg => ?_)
    · rw [c3]; simp [hne b hb hab]
    · obtain ⟨b, b1, b2, _⟩ := q1.1 f hf
      exact ⟨b, b1, b2⟩
    · simp only [List.mem_append, List.mem_cons] at hf
      have k : ∀ f, f ∈ A ∨ f ∈ B → gI S' 83 f.1 = gI S 83 f.1 := by
        intro f hf
        rw [c3]; simp [nAB f hf]
      rcases hf with hf | rfl | hf
      · exact Or.inl ⟨f, mA f hf, rfl, rfl, rfl, k f (Or.inl hf), fun z => z⟩
      · refine Or.inr ⟨q4, ?_, ?_, ?_, ?_⟩
        · rw [q8]; omega
        · rw [q8, s3]; exact Int.le_refl _
        · rw [q9, c3, if_pos ⟨rfl, rfl⟩]; omega
        · rw [q9, hg10, c3]; simp
      · exact Or.inl ⟨f, mB f hf, rfl, rfl, rfl, k f (Or.inr hf), fun z => z⟩
    · have k : ∀ f, f ∈ A ++ e2 :: B → (R.1 18).toInt < (eT f).toInt → f = e2 := by
        intro f hf hk
        simp only [List.mem_append, List.mem_cons] at hf
        rcases hf with hf | rfl | hf
        · have := hTm.2.2.2.1 f (mA f hf); omega
        · rfl
        · have := hTm.2.2.2.1 f (mB f hf); omega
      rw [k f hf kf, k g hg kg]
      simp [Int32.lt_irrefl]
  · refine ⟨by omega, fun f p hp z1 z2 z3 z4 => ?_, fun f p hp z1 z2 z3 => ?_, c5, c6, c7⟩
    · rw [c3, if_neg (fun q => z4 ⟨by omega, by omega⟩), if_neg (fun q => z3 q.1), if_neg (fun q => z2 q.1), if_neg (fun q => z4 ⟨by omega, by omega⟩), if_neg (fun q => z4 ⟨by omega, by omega⟩), if_neg (fun q => z4 ⟨by omega, by omega⟩)]
    · exact c4 f p (fun q => absurd q z1) (fun q => absurd q z2) (fun q => absurd q z3)
  · intro f hf
    simp only [List.mem_append, List.mem_cons]
    constructor
    · rintro (h | rfl | h)
      · exact Or.inl (Or.inl h)
      · exact absurd q6 hf
      · exact Or.inr (Or.inr (Or.inr h))
    · rintro ((h | h) | rfl | h | h)
      · exact Or.inl h
      · exact absurd (hC0 f (Or.inl h)) hf
      · exact absurd hC hf
      · exact absurd (hC0 f (Or.inr h)) hf
      · exact Or.inr (Or.inr h)
  · simp only [List.mem_append] at hf
    rcases hf with hf | hf
    · exact Or.inl hf
    · exact Or.inr (hQo f hf).1
  · simp only [List.mem_append] at hf
    rcases hf with hf | hf
    · exact Or.inr (hNo f hf).1
    · exact Or.inl hf
