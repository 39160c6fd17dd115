/-! ===== pure part: a span comes ===== -/
theorem i32_1 : (1 : Int32).toInt = 1 := by decide
theorem asp_lp {F : Nat} {R : Rst} {a fr sz im : Int32} : ∀ (d s n : Nat), s + d < 600 → d < n → (∀ j, s ≤ j → j < s + d → R.2 22 j = 1) → R.2 22 (s + d) = 0 → rf_addSpan_3 F n R a fr sz im (nI s) = (rf_insert F (rput (rset (rset (rset (rset (rset R 22 (s + d) (vp_nar .boolean 1)) 23 (s + d) (vp_nar .boolean im)) 19 (s + d) a) 20 (s + d) fr) 21 (s + d) sz) 24 (R.1 24 + 1)) a fr sz (nI (s + d))).bind fun z => some (nI (s + d), z.2) := by
  intro d
  induction d with
  | zero =>
    intro s n hs hn h1 h0
    obtain ⟨n, rfl⟩ : ∃ m, n = m + 1 := ⟨n - 1, by omega⟩
    have hs' : s < 600 := by omega
    simp only [rf_addSpan_3, st1, st2]
    rw [rd_n (f := 22) hs', show R.2 22 s = 0 from h0, if_pos rfl, wr_n (f := 22) hs', wr_n (f := 23) hs', wr_n (f := 19) hs', wr_n (f := 20) hs', wr_n (f := 21) hs']
    rfl
  | succ d ih =>
    intro s n hs hn h1 h0
    obtain ⟨n, rfl⟩ : ∃ m, n = m + 1 := ⟨n - 1, by omega⟩
    have hs' : s < 600 := by omega
    simp only [rf_addSpan_3]
    rw [rd_n (f := 22) hs', h1 s (by omega) (by omega), if_neg (by decide), nI_1]
    have := ih (s + 1) n (by omega) (by omega) (fun j j1 j2 => h1 j (by omega) (by omega)) (by rw [show s + 1 + d = s + (d + 1) by omega]; exact h0)
    rw [this, show s + 1 + d = s + (d + 1) by omega]
theorem liv_le {R : Rst} : (liv R).length ≤ 600 := by
  have := List.length_filter_le (fun s => decide (R.2 22 s = 1)) (List.range 600)
  simpa [liv] using this
theorem liv_free {R : Rst} (h : (liv R).length < 600) (h01 : ∀ s, s < 600 → R.2 22 s = 0 ∨ R.2 22 s = 1) : ∃ s, s < 600 ∧ R.2 22 s = 0 ∧ ∀ j, j < s → R.2 22 j = 1 := by
  have hex : ∃ s, s < 600 ∧ R.2 22 s = 0 := by
    refine Classical.byContradiction (fun hc => ?_)
    have : liv R = List.range 600 := by
      unfold liv
      rw [List.filter_eq_self]
      intro s hs
      have hs' : s < 600 := List.mem_range.mp hs
      rcases h01 s hs' with h1 | h1
      · exact absurd ⟨s, hs', h1⟩ hc
      · simp [h1]
    rw [this] at h
    simp at h
  obtain ⟨k, k1, k2⟩ := pk_least (fun s => s < 600 ∧ R.2 22 s = 0) hex
  refine ⟨k, k1.1, k1.2, fun j hj => ?_⟩
  rcases h01 j (by omega) with h1 | h1
  · exact absurd ⟨by omega, h1⟩ (k2 j hj)
  · exact h1
/-- one slot more is alive -/
theorem filt_up {p q : Nat → Bool} {s N : Nat} (hs : s < N) (hp : p s = false) (hq : q s = true) (h : ∀ j, j ≠ s → q j = p j) : ((List.range N).filter q).length = ((List.range N).filter p).length + 1 := by
  induction N with
  | zero => omega
  | succ N ih =>
    rw [List.range_succ, List.filter_append, List.filter_append, List.length_append, List.length_append]
    by_cases hN : s = N
    · subst hN
      have e1 : (List.range s).filter q = (List.range s).filter p := by
        apply List.filter_congr
        intro x hx
        have := List.mem_range.mp hx
        exact h x (by omega)
      rw [e1]
      simp [hp, hq]
    · rw [ih (by omega)]
      have : q N = p N := h N (fun z => hN z.symm)
      simp only [List.filter_cons, List.filter_nil, this]
      omega
theorem livA_f (R : Rst) (a : Nat) : livA R a = (List.range 600).filter (fun s => decide (R.2 22 s = 1 ∧ R.2 19 s = nI a)) := by
  unfold livA liv
  rw [List.filter_filter]
  apply List.filter_congr
  intro x _
  simp [Bool.and_comm]
/-- the first part of a sorted list -/
theorem uLs_split {P : Par} {R : Rst} {L : List En} (h : uLs P R L) (a b z : Int32) (hz : 0 < z.toInt) (hdj : ∀ f ∈ L, eA f = a → eb f + ez f ≤ b.toInt ∨ b.toInt + z.toInt ≤ eb f) : ∃ A B, L = A ++ B ∧ (∀ f ∈ A, uP a b.toInt64 f ∧ ((eA f).toInt < a.toInt ∨ (eA f = a ∧ eb f + ez f ≤ b.toInt))) ∧ (∀ f ∈ B, ¬ uP a b.toInt64 f ∧ (a.toInt < (eA f).toInt ∨ (a = eA f ∧ b.toInt + z.toInt ≤ eb f))) := by
  have hp := uLs_pw h
  have hpos : ∀ f ∈ L, 0 < ez f := fun f hf => uEl_z (h.1 f hf)
  clear h
  induction L with
  | nil => exact ⟨[], [], rfl, fun f hf => by (cases hf), fun f hf => by (cases hf)⟩
  | cons e t ih =>
    by_cases hc : uP a b.toInt64 e
    · obtain ⟨A, B, i1, i2, i3⟩ := ih (fun f hf => hdj f (List.mem_cons_of_mem _ hf)) (List.pairwise_cons.mp hp).2 (fun f hf => hpos f (List.mem_cons_of_mem _ hf))
      refine ⟨e :: A, B, by rw [i1]; rfl, fun f hf => ?_, i3⟩
      rcases List.mem_cons.mp hf with rfl | hf
      · refine ⟨hc, ?_⟩
        rw [uP_iff] at hc
        rcases hc with hc | ⟨h1, h2⟩
        · exact Or.inl hc
        · right
          rcases hdj f List.mem_cons_self h1 with q | q
          · exact ⟨h1, q⟩
          · omega
      · exact i2 f hf
    · refine ⟨[], e :: t, rfl, fun f hf => by (cases hf), fun f hf => ?_⟩
      have he : a.toInt < (eA e).toInt ∨ (a = eA e ∧ b.toInt + z.toInt ≤ eb e) := by
        rw [uP_iff] at hc
        by_cases h1 : eA e = a
        · right
          refine ⟨h1.symm, ?_⟩
          have h2 : ¬ eb e < b.toInt := fun q => hc (Or.inr ⟨h1, q⟩)
          have := hpos e List.mem_cons_self
          rcases hdj e List.mem_cons_self h1 with q | q
          · omega
          · exact q
        · left
          have h2 : ¬ (eA e).toInt < a.toInt := fun q => hc (Or.inl q)
          have h3 : (eA e).toInt ≠ a.toInt := fun q => h1 (Int32.toInt_inj.mp q)
          omega
      rcases List.mem_cons.mp hf with rfl | hf
      · exact ⟨hc, he⟩
      · have hlt := (List.pairwise_cons.mp hp).1 f hf
        have := hpos e List.mem_cons_self
        have hf' : a.toInt < (eA f).toInt ∨ (a = eA f ∧ b.toInt + z.toInt ≤ eb f) := by
          rcases he with he | ⟨he, he2⟩ <;> rcases hlt with hl | ⟨hl, hl2⟩
          · left; omega
          · left; rw [← hl]; exact he
          · left; rw [he]; exact hl
          · right; exact ⟨he.trans hl, by omega⟩
        refine ⟨?_, hf'⟩
        rw [uP_iff]
        rintro (q | ⟨q1, q2⟩) <;> rcases hf' with g | ⟨g1, g2⟩
        · omega
        · rw [← g1] at q; omega
        · rw [q1] at g; omega
        · omega
theorem opn_lp {F : Nat} {S : Cst} {h : Nat} {b z : Int32} : ∀ (M : List En) (B : List En) (n : Nat) (pr : Option Nat), usg S pr (uad (M ++ B)) none → (∀ f ∈ M ++ B, gI S 80 f.1 = eB f) → (∀ f ∈ M, eb f < b.toInt) → (∀ f ∈ B, b.toInt ≤ eb f) → M.length < n → cf_X0_open_8 F h n S b z pr (uhd (uad (M ++ B)) none) = cf_X0_open_35 F h S b z (ulst pr (uad M)) := by
  intro M
  induction M with
  | nil =>
    intro B n pr hc hb hM hB hn
    obtain ⟨n, rfl⟩ : ∃ m, n = m + 1 := ⟨n - 1, by simp at hn; omega⟩
    simp only [cf_X0_open_8]
    cases B with
    | nil => rfl
    | cons e B =>
      show nc (some e.1) _ _ = _
      rw [ncS, hb e (by simp), if_pos]
      · rfl
      · rw [Int32.le_iff_toInt_le]; exact hB e (by simp)
  | cons e M ih =>
    intro B n pr hc hb hM hB hn
    obtain ⟨n, rfl⟩ : ∃ m, n = m + 1 := ⟨n - 1, by simp at hn; omega⟩
    simp only [cf_X0_open_8]
    show nc (some e.1) _ _ = _
    rw [ncS, hb e (by simp), if_neg]
    · have hc' : usg S pr (e.1 :: uad (M ++ B)) none := hc
      obtain ⟨c1, c2, c3⟩ := hc'
      simp only [st1]
      rw [c2]
      exact ih B n (some e.1) c3 (fun f hf => hb f (by simp at hf ⊢; exact Or.inr hf)) (fun f hf => hM f (by simp [hf])) hB (by simp at hn; omega)
    · rw [Int32.le_iff_toInt_le]
      have h1 : eb e < b.toInt := hM e (by simp)
      have h2 : eb e = (eB e).toInt := rfl
      omega
set_option maxHeartbeats 1000000 in
theorem copen_ok {F : Nat} {S : Cst} {h : Nat} {b z : Int32} {A B : List Nat} (hh : h < nx S) (hc : uCS S h (A ++ B)) (hnd : (A ++ B).Nodup) (hlt : ∀ p ∈ A ++ B, p < nx S) :
    ∃ S', cf_X0_open_35 F h S b z (ulst none A) = some (some (nx S), S') ∧ uCS S' h (A ++ nx S :: B) ∧ nx S' = nx S + 1 ∧ (∀ f p, p ≠ nx S → gI S' f p = if f = 8 ∧ p = h then gI S 8 h + 1 else if f = 9 ∧ p = h then gI S 9 h + 1 else if f = 10 ∧ p = h then gI S 10 h + 1 else gI S f p) ∧ (∀ f p, p ≠ nx S → (f = 7 → p ≠ h) → (f = 86 → p ∉ A ++ B) → (f = 87 → p ∉ A ++ B) → gP S' f p = gP S f p) ∧ gN S' = gN S ∧ gR S' = gR S ∧ gQ S' = gQ S ∧ gI S' 80 (nx S) = b ∧ gI S' 81 (nx S) = z ∧ gI S' 82 (nx S) = 0 ∧ gI S' 83 (nx S) = gI S 10 h + 1 ∧ gI S' 84 (nx S) = b ∧ gI S' 85 (nx S) = z := by
  unfold cf_X0_open_35
  simp only [st1, cf_X5_init, Option.bind_some, cf_X0_tick, st2]
  generalize hS7 : sI (sI (sI (sI (sI (sI (nO S) 80 (nx S) b) 81 (nx S) z) 84 (nx S) b) 85 (nx S) z) 10 h (gI (sI (sI (sI (sI (nO S) 80 (nx S) b) 81 (nx S) z) 84 (nx S) b) 85 (nx S) z) 10 h + 1)) 83 (nx S) (gI (sI (sI (sI (sI (sI (nO S) 80 (nx S) b) 81 (nx S) z) 84 (nx S) b) 85 (nx S) z) 10 h (gI (sI (sI (sI (sI (nO S) 80 (nx S) b) 81 (nx S) z) 84 (nx S) b) 85 (nx S) z) 10 h + 1)) 10 h) = S7
  have hx : nx S7 = nx S + 1 := by rw [← hS7]; rfl
  have hN : gN S7 = gN S := by rw [← hS7]; rfl
  have hR : gR S7 = gR S := by rw [← hS7]; rfl
  have hQ : gQ S7 = gQ S := by rw [← hS7]; rfl
  have hP : ∀ f p, p ≠ nx S → gP S7 f p = gP S f p := by
    intro f p hp
    rw [← hS7]
    simp only [gP_sI]
    rw [gP_nO, if_neg hp]
  have hI : ∀ f p, p ≠ nx S → gI S7 f p = if f = 10 ∧ p = h then gI S 10 h + 1 else gI S f p := by
    intro f p hp
    rw [← hS7]
    simp only [gI_sI, gI_nO]
    simp only [hp, and_false, if_false, show h ≠ nx S by omega]
  have hv : gI S7 80 (nx S) = b ∧ gI S7 81 (nx S) = z ∧ gI S7 82 (nx S) = 0 ∧ gI S7 83 (nx S) = gI S 10 h + 1 ∧ gI S7 84 (nx S) = b ∧ gI S7 85 (nx S) = z := by
    rw [← hS7]
    simp only [gI_sI, gI_nO]
    simp [show h ≠ nx S by omega, show nx S ≠ h by omega]
  clear hS7
  have hc7 : uCS S7 h (A ++ B) := uCS_fr (hP 7 h (by omega)) (fun a ha => ⟨hP _ _ (by have := hlt a ha; omega), hP _ _ (by have := hlt a ha; omega)⟩) hc
  obtain ⟨S', s1, s2, s3⟩ := link_ok (F := F) (x := nx S) hc7 (by
    have : nx S ∉ A ++ B := fun z => by have := hlt _ z; omega
    simp only [List.nodup_append, List.nodup_cons, List.mem_append, List.mem_cons] at hnd this ⊢
    grind)
  rw [s1]
  obtain ⟨t1, t2, t3, t4, t5, t6, t7⟩ := s3
  refine ⟨sI S' 8 h (gI S' 8 h + 1), rfl, uCS_fr (S := S') rfl (fun _ _ => ⟨rfl, rfl⟩) s2, by rw [nx_sI, t7, hx], fun f p hp => ?_, fun f p hp a b c => ?_, by rw [gN_sI, t4, hN], by rw [gR_sI, t5, hR], by rw [gQ_sI, t6, hQ], ?_, ?_, ?_, ?_, ?_, ?_⟩
  · rw [gI_sI, t1, t1]
    by_cases z8 : f = 8 ∧ p = h
    · rw [if_pos z8, if_pos z8, if_neg (by simp), hI 8 h (by omega)]; simp
    · rw [if_neg z8, if_neg z8]
      by_cases z : f = 9 ∧ p = h
      · rw [if_pos z, if_pos z, hI 9 h (by omega)]; simp
      · rw [if_neg z, if_neg z, hI f p hp]
  · rw [gP_sI, t2 f p a (fun z => ?_) (fun z => ?_)]
    · exact hP f p hp
    · have := b z; simp at this ⊢; grind
    · have := c z; simp at this ⊢; grind
  · rw [gI_sI, if_neg (by simp), t1, if_neg (by simp)]; exact hv.1
  · rw [gI_sI, if_neg (by simp), t1, if_neg (by simp)]; exact hv.2.1
  · rw [gI_sI, if_neg (by simp), t1, if_neg (by simp)]; exact hv.2.2.1
  · rw [gI_sI, if_neg (by simp), t1, if_neg (by simp)]; exact hv.2.2.2.1
  · rw [gI_sI, if_neg (by simp), t1, if_neg (by simp)]; exact hv.2.2.2.2.1
  · rw [gI_sI, if_neg (by simp), t1, if_neg (by simp)]; exact hv.2.2.2.2.2
theorem uLs_fr2 {P : Par} {R R' : Rst} {L : List En} (hr : ∀ e ∈ L, ∀ f, 19 ≤ f → f ≤ 22 → R'.2 f (esl e) = R.2 f (esl e)) (h : uLs P R L) : uLs P R' L := by
  have h0 : ∀ e ∈ L, spb R' e = spb R e ∧ spz R' e = spz R e := fun e he => by unfold spb spz; rw [hr e he 20 (by decide) (by decide), hr e he 21 (by decide) (by decide)]; exact ⟨rfl, rfl⟩
  have hj : ∀ p z, (∀ e, p = some e → e ∈ L) → (∀ e, z = some e → e ∈ L) → uJn R p z → uJn R' p z := by
    intro p z hp hz h
    cases p with
    | none =>
      cases z with
      | none => trivial
      | some f => simp only [uJn, uSta, (h0 f (hz f rfl)).1] at h ⊢; exact h
    | some e =>
      cases z with
      | none => simp only [uJn, uEnd, (h0 e (hp e rfl)).1, (h0 e (hp e rfl)).2] at h ⊢; exact h
      | some f => simp only [uJn, uSta, uEnd, (h0 e (hp e rfl)).1, (h0 e (hp e rfl)).2, (h0 f (hz f rfl)).1] at h ⊢; exact h
  have ht : ∀ (t : List En) (p z : Option En), (∀ e ∈ t, e ∈ L) → (∀ e, p = some e → e ∈ L) → (∀ e, z = some e → e ∈ L) → uTl R p t z → uTl R' p t z := by
    intro t
    induction t with
    | nil => intro p z _ hp hz h; exact hj p z hp hz h
    | cons e t ih =>
      intro p z ht hp hz h
      have he : e ∈ L := ht e List.mem_cons_self
      exact ⟨hj p _ hp (fun f hf => by cases hf; exact he) h.1, ih _ z (fun f hf => ht f (List.mem_cons_of_mem _ hf)) (fun f hf => by cases hf; exact he) hz h.2⟩
  refine ⟨fun e he => ?_, ht L none none (fun _ h => h) (fun _ h => by cases h) (fun _ h => by cases h) h.2⟩
  have := h.1 e he
  unfold uEl at this ⊢
  rw [(h0 e he).1, (h0 e he).2]
  obtain ⟨a, q1, q2, q3, q4, q5, q6, q7, q8, q9, ⟨s, s1, s2, s3, s4⟩, q11⟩ := this
  have hs : esl e = s := by unfold esl; rw [s2]; exact nI_clamp (by omega)
  refine ⟨a, q1, q2, q3, q4, q5, q6, q7, q8, q9, ⟨s, s1, s2, ?_, ?_⟩, q11⟩
  · rw [← hs, hr e he 22 (by decide) (by decide), hs]; exact s3
  · rw [← hs, hr e he 19 (by decide) (by decide), hs]; exact s4
theorem uEl_sl {P : Par} {R : Rst} {e : En} (h : uEl P R e) : esl e < 600 ∧ eS e = nI (esl e) ∧ R.2 22 (esl e) = 1 ∧ R.2 19 (esl e) = eA e := by
  obtain ⟨a, q1, q2, q3, q4, q5, q6, q7, q8, q9, ⟨s, s1, s2, s3, s4⟩, q11⟩ := h
  have hs : esl e = s := by unfold esl; rw [s2]; exact nI_clamp (by omega)
  rw [hs]; exact ⟨s1, s2, s3, s4⟩
set_option maxHeartbeats 2000000 in
theorem jopen {F : Nat} {P : Par} {x : Nat} {S : Cst} {R : Rst} {L : List En} {a t : Nat} {b z im : Int32} (hF : 1000 ≤ F) (hR : uStR P R) (hS : uStS P x S) (hG : uG P S R L t) (ha : a < pn P) (hb0 : 0 ≤ b.toInt) (hz : 0 < z.toInt) (hbz : b.toInt + z.toInt ≤ 1073741824) (d1 : ((2 ^ psh P a : Nat) : Int) ∣ b.toInt) (d2 : ((2 ^ psh P a : Nat) : Int) ∣ z.toInt) (hdj : ∀ f ∈ L, eA f = nI a → eb f + ez f ≤ b.toInt ∨ b.toInt + z.toInt ≤ eb f)
    (hw : ∀ c, psc P a = some c → (∃ e ∈ L, eA e = nI c ∧ eO e = 3 ∧ eB e = b ∧ eZ e = z) ∧ ∀ s a', s < 600 → a' < pn P → R.2 22 s = 1 → R.2 19 s = nI a' → psc P a' = some c → R.2 20 s ≠ b) (hroom : L.length + (liv R).length + 2 ≤ 600) (ht : t + 1 < 2147483648) (him : im = if (psc P a).isSome then 1 else 0) :
    ∃ S' R' A B s, L = A ++ B ∧ cf_X0_open F S (par P a) b z = some (some (nx S), S') ∧ rf_addSpan F R (nI a) b z im = some (nI s, R') ∧ uG P S' R' (A ++ (nx S, (nI a, b, z, 0, R.1 18 + 1, nI s, 0)) :: B) (t + 1) ∧ uSF S S' ∧ uRF R R' ∧ rf_position F R' (nI a) b.toInt64 = some (nI A.length) ∧ (liv R').length = (liv R).length + 1 ∧ s < 600 ∧ R'.2 20 s = b ∧ R'.2 21 s = z := by
  obtain ⟨hLs, hSp, hRL, hCh, hSc, hTm⟩ := hG
  have hP := hR.1
  obtain ⟨p1, p2, p3, p4, p5⟩ := hSp
  have hlv : (liv R).length < 600 := by omega
  obtain ⟨s, s1, s2, s3⟩ := liv_free hlv p1
  obtain ⟨A, B, hAB, hA, hB⟩ := uLs_split hLs (nI a) b z hz hdj
  have hpar := hS.2.2.2.2 a ha
  have hne : ∀ b, b < pn P → b ≠ a → par P b ≠ par P a := fun b hb hab z => hab (hS.2.2.2.1 b a hb ha z)
  have him2 : vp_nar .boolean im = im := by rw [him]; split <;> decide
  have hone : vp_nar .boolean (1 : Int32) = 1 := by decide
  -- the reference
  generalize hR1 : rput (rset (rset (rset (rset (rset R 22 s 1) 23 s im) 19 s (nI a)) 20 s b) 21 s z) 24 (R.1 24 + 1) = R1
  have r1a : ∀ j, j ≠ 24 → R1.1 j = R.1 j := by
    intro j hj; rw [← hR1, rput_g, if_neg hj]; rfl
  have r1b : R1.1 24 = R.1 24 + 1 := by rw [← hR1, rput_g, if_pos rfl]
  have r1c : ∀ f j, ¬ (19 ≤ f ∧ f ≤ 23) → R1.2 f j = R.2 f j := by
    intro f j hf
    rw [← hR1, rput_2]
    simp only [rset_g]
    rw [if_neg (fun q => hf ⟨by omega, by omega⟩), if_neg (fun q => hf ⟨by omega, by omega⟩), if_neg (fun q => hf ⟨by omega, by omega⟩), if_neg (fun q => hf ⟨by omega, by omega⟩), if_neg (fun q => hf ⟨by omega, by omega⟩)]
  have r1d : ∀ f j, j ≠ s → R1.2 f j = R.2 f j := by
    intro f j hj
    rw [← hR1, rput_2]
    simp [rset_g, hj]
  have r1e : R1.2 22 s = 1 ∧ R1.2 23 s = im ∧ R1.2 19 s = nI a ∧ R1.2 20 s = b ∧ R1.2 21 s = z := by
    rw [← hR1, rput_2]
    simp [rset_g]
  have hu1 : uRL R1 L := by
    refine ⟨by rw [r1a 10 (by decide)]; exact hRL.1, hRL.2.1, fun k e hk => ?_⟩
    have := hRL.2.2 k e hk
    unfold sgk at *
    rw [r1c 11 k (by decide), r1c 12 k (by decide), r1c 13 k (by decide), r1c 14 k (by decide), r1c 15 k (by decide), r1c 16 k (by decide), r1c 17 k (by decide)]
    exact this
  obtain ⟨R', i1, i2, i3, i4⟩ := insert_ok (F := F) (a := nI a) (fr := b) (sz := z) (sp := nI s) (nx S) hF hu1 hAB (fun f hf => (hA f hf).1) (fun f hf => (hB f (List.mem_of_head? hf)).1) (by omega)
  have hadd : rf_addSpan F R (nI a) b z im = some (nI s, R') := by
    unfold rf_addSpan
    have := asp_lp (F := F) (R := R) (a := nI a) (fr := b) (sz := z) (im := im) s 0 F (by omega) (by omega) (fun j _ hj => s3 j (by omega)) (by simpa using s2)
    rw [nI_0] at this
    rw [this]
    simp only [Nat.zero_add, him2, hone]
    rw [hR1, i1]
    rfl
  have hr18 : R1.1 18 = R.1 18 := r1a 18 (by decide)
  rw [hr18] at i2 i4
  have hrr : ∀ f, 19 ≤ f → f ≤ 23 → R'.2 f = R1.2 f := fun f f1 f2 => i3.2 f (by omega)
  have hsl : ∀ e ∈ L, esl e ≠ s := by
    intro e he q
    have := (uEl_sl (hLs.1 e he)).2.2.1
    rw [q, s2] at this
    exact absurd this (by decide)
  have hsn : ∀ e ∈ L, eS e ≠ nI s := by
    intro e he q
    have := (uEl_sl (hLs.1 e he))
    exact hsl e he ((nI_eq (by omega) (by omega)).mp (this.2.1.symm.trans q))
  have hls1 : uLs P R' L := uLs_fr2 (fun e he f f1 f2 => by rw [hrr f f1 (by omega), r1d f _ (hsl e he)]) hLs
  have hesl : esl (nx S, (nI a, b, z, (0 : Int32), R.1 18 + 1, nI s, (0 : Int32))) = s := by
    unfold esl; exact nI_clamp (by omega)
  have hrow : R'.2 22 s = 1 ∧ R'.2 23 s = im ∧ R'.2 19 s = nI a ∧ R'.2 20 s = b ∧ R'.2 21 s = z := by
    rw [hrr 22 (by decide) (by decide), hrr 23 (by decide) (by decide), hrr 19 (by decide) (by decide), hrr 20 (by decide) (by decide), hrr 21 (by decide) (by decide)]; exact r1e
  have hspb : spb R' (nx S, (nI a, b, z, (0 : Int32), R.1 18 + 1, nI s, (0 : Int32))) = b.toInt := by unfold spb; rw [hesl, hrow.2.2.2.1]
  have hspz : spz R' (nx S, (nI a, b, z, (0 : Int32), R.1 18 + 1, nI s, (0 : Int32))) = z.toInt := by unfold spz; rw [hesl, hrow.2.2.2.2]
  have hel : uEl P R' (nx S, (nI a, b, z, (0 : Int32), R.1 18 + 1, nI s, (0 : Int32))) := by
    refine ⟨a, ha, rfl, hb0, hz, hbz, d1, d2, by rw [hspb]; exact Int.le_refl _, by rw [hspb, hspz]; exact Int.le_refl _, ⟨s, s1, rfl, hrow.1, hrow.2.2.1⟩, Or.inl rfl⟩
  have hls2 : uLs P R' (A ++ (nx S, (nI a, b, z, (0 : Int32), R.1 18 + 1, nI s, (0 : Int32))) :: B) := by
    rw [hAB] at hls1
    refine uLs_add hls1 hel hspb.symm (by unfold uEnd; rw [hspb, hspz]; rfl) (fun f hf => ⟨(hA f hf).2, hsn f (by rw [hAB]; simp [hf])⟩) (fun f hf => ⟨(hB f hf).2, hsn f (by rw [hAB]; simp [hf])⟩)
  have hpos : rf_position F R' (nI a) b.toInt64 = some (nI A.length) := by
    refine pos_ok hF i2 rfl (fun f hf => (hA f hf).1) (fun f hf => ?_)
    cases hf
    rw [uP_iff]
    rintro (q | ⟨_, q⟩)
    · exact Int.lt_irrefl _ q
    · exact Int.lt_irrefl _ q
  have hnow : (R.1 18 + 1).toInt = (R.1 18).toInt + 1 := by
    have := hTm.1; have := hTm.2.1
    rw [i32_add (by rw [i32_1]; omega) (by rw [i32_1]; omega)]; rfl
  have hcl := hTm.2.2.1 a ha
  have hclk : (gI S 10 (par P a) + 1).toInt = (gI S 10 (par P a)).toInt + 1 := by
    have := hTm.1; have := hTm.2.1
    rw [i32_add (by rw [i32_1]; omega) (by rw [i32_1]; omega)]; rfl
  have hlivl : (liv R').length = (liv R).length + 1 := by
    unfold liv
    refine filt_up s1 (by simp [s2]) (by simp [hrow.1]) (fun j hj => ?_)
    rw [hrr 22 (by decide) (by decide), r1d 22 j hj]
  -- the class
  have hcs := (hCh.2.2 a ha).1
  have hUA : uOf a L = uOf a A ++ uOf a B := by rw [hAB, uOf_ap]
  have hcs' := hcs
  rw [hUA, uad_ap] at hcs
  have hnd := uad_of (a := a) hCh.2.1
  rw [hUA, uad_ap] at hnd
  have hlt := uad_lt (a := a) hCh.1
  rw [hUA, uad_ap] at hlt
  have mA : ∀ f ∈ A, f ∈ L := fun f hf => by rw [hAB]; simp [hf]
  have mB : ∀ f ∈ B, f ∈ L := fun f hf => by rw [hAB]; simp [hf]
  obtain ⟨S', o1, o2, o3, o4, o5, o6, o7, o8, o9, o10, o11, o12, o13, o14⟩ := copen_ok (F := F) (b := b) (z := z) hpar.1 hcs hnd hlt
  have hopen : cf_X0_open F S (par P a) b z = some (some (nx S), S') := by
    unfold cf_X0_open
    simp only [st1]
    have hl6 : (uOf a A).length ≤ 600 := by
      have h1 := List.length_filter_le (fun e => decide (eA e = nI a)) A
      have h2 : A.length ≤ L.length := by rw [hAB]; simp
      have h3 := hRL.2.1
      unfold uOf; omega
    have := opn_lp (F := F) (S := S) (h := par P a) (b := b) (z := z) (uOf a A) (uOf a B) F none (by rw [uad_ap]; exact hcs.2) (fun f hf => ?_) (fun f hf => ?_) (fun f hf => ?_) (by omega)
    · rw [uad_ap] at this
      rw [hcs.1, this]
      exact o1
    · rw [← hUA] at hf
      exact (hCh.1 f (uOf_mem.mp hf).1).2.1
    · obtain ⟨f1, f2⟩ := uOf_mem.mp hf
      have hzf := uEl_z (hLs.1 f (mA f f1))
      rcases (hA f f1).2 with q | ⟨_, q⟩
      · rw [f2] at q; omega
      · omega
    · obtain ⟨f1, f2⟩ := uOf_mem.mp hf
      rcases (hB f f1).2 with q | ⟨_, q⟩
      · rw [f2] at q; omega
      · omega
  have hea2 : eA (nx S, (nI a, b, z, (0 : Int32), R.1 18 + 1, nI s, (0 : Int32))) = nI a := rfl
  refine ⟨S', R', A, B, s, hAB, hopen, hadd, ⟨hls2, ?_, i2, ?_, ?_, ?_⟩, ?_, ?_, hpos, hlivl, s1, hrow.2.2.2.1, hrow.2.2.2.2⟩
  · refine ⟨fun j hj => ?_, fun j hj hl => ?_, fun j j' c c' c0 hj hj' hl hl' hc hc' h19 h19' k1 k2 k3 => ?_, ?_, ?_⟩
    · by_cases hjs : j = s
      · subst hjs; exact Or.inr hrow.1
      · rw [hrr 22 (by decide) (by decide), r1d 22 j hjs]; exact p1 j hj
    · by_cases hjs : j = s
      · subst hjs
        refine ⟨a, ha, hrow.2.2.1, by rw [hrow.2.1, him], by rw [hrow.2.2.2.1, hrow.2.2.2.2]; exact hbz, ⟨(nx S, (nI a, b, z, (0 : Int32), R.1 18 + 1, nI j, (0 : Int32))), by simp, rfl, hrow.2.2.2.1.symm⟩, fun c hc => ?_⟩
        obtain ⟨⟨e, e1, e2, e3, e4, e5⟩, _⟩ := hw c hc
        refine ⟨e, ?_, e2, e3, by rw [hrow.2.2.2.1]; exact e4, by rw [hrow.2.2.2.2]; exact e5⟩
        rw [hAB] at e1; simp at e1 ⊢; rcases e1 with e1 | e1 <;> simp [e1]
      · rw [hrr 22 (by decide) (by decide), r1d 22 j hjs] at hl
        rw [hrr 19 (by decide) (by decide), r1d 19 j hjs, hrr 20 (by decide) (by decide), r1d 20 j hjs, hrr 21 (by decide) (by decide), r1d 21 j hjs, hrr 23 (by decide) (by decide), r1d 23 j hjs]
        obtain ⟨c, c1, c2, c3, c4, ⟨e, e1, e2, e3⟩, c6⟩ := p2 j hj hl
        refine ⟨c, c1, c2, c3, c4, ⟨e, ?_, e2, e3⟩, fun c0 hc0 => ?_⟩
        · rw [hAB] at e1; simp at e1 ⊢; rcases e1 with e1 | e1 <;> simp [e1]
        · obtain ⟨g, g1, g2⟩ := c6 c0 hc0
          refine ⟨g, ?_, g2⟩
          rw [hAB] at g1; simp at g1 ⊢; rcases g1 with g1 | g1 <;> simp [g1]
    · by_cases q : j = s <;> by_cases q' : j' = s
      · rw [q, q']
      · exfalso
        rw [hrr 22 (by decide) (by decide), r1d 22 j' q'] at hl'
        rw [hrr 19 (by decide) (by decide), r1d 19 j' q'] at h19'
        subst q
        have hca : c = a := nI8 hP hc ha (h19.symm.trans hrow.2.2.1)
        subst hca
        refine (hw c0 k1).2 j' c' hj' hc' hl' h19' k2 ?_
        rw [hrow.2.2.2.1, hrr 20 (by decide) (by decide), r1d 20 j' q'] at k3
        exact k3.symm
      · exfalso
        rw [hrr 22 (by decide) (by decide), r1d 22 j q] at hl
        rw [hrr 19 (by decide) (by decide), r1d 19 j q] at h19
        subst q'
        have hca : c' = a := nI8 hP hc' ha (h19'.symm.trans hrow.2.2.1)
        subst hca
        refine (hw c0 k2).2 j c hj hc hl h19 k1 ?_
        rw [hrow.2.2.2.1, hrr 20 (by decide) (by decide), r1d 20 j q] at k3
        exact k3
      · rw [hrr 22 (by decide) (by decide), r1d 22 j q] at hl
        rw [hrr 22 (by decide) (by decide), r1d 22 j' q'] at hl'
        rw [hrr 19 (by decide) (by decide), r1d 19 j q] at h19
        rw [hrr 19 (by decide) (by decide), r1d 19 j' q'] at h19'
        rw [hrr 20 (by decide) (by decide), r1d 20 j q, r1d 20 j' q'] at k3
        exact p3 j j' c c' c0 hj hj' hl hl' hc hc' h19 h19' k1 k2 k3
    · rw [i3.1 24 (by decide) (by decide), r1b, p4, hlivl, nI_1]
    · rw [hlivl]
      have : L.length = A.length + B.length := by rw [hAB]; simp
      simp; omega
  · refine uCh_st hP ha hCh (fun f hf => ?_) ?_ ?_ ?_ (fun c hc hca => ?_) (fun c hc hca => ⟨?_, ?_⟩) (fun f hf hfa => ?_)
    · have k : ∀ f ∈ L, uFd S' R' f := by
        intro f hf
        have hh := hCh.1 f hf
        unfold uFd at *
        rw [hrr 20 (by decide) (by decide), hrr 21 (by decide) (by decide), r1d 20 _ (hsl f hf), r1d 21 _ (hsl f hf)]
        rw [o4 80 f.1 (by omega), o4 81 f.1 (by omega), o4 82 f.1 (by omega), o4 84 f.1 (by omega), o4 85 f.1 (by omega), o3]
        simp
        exact ⟨by omega, hh.2⟩
      simp only [List.mem_append, List.mem_cons] at hf
      rcases hf with hf | rfl | hf
      · exact k f (mA f hf)
      · unfold uFd
        rw [hesl, hrow.2.2.2.1, hrow.2.2.2.2, o3]
        exact ⟨by show nx S < _; omega, o9, o10, o11, o13, o14⟩
      · exact k f (mB f hf)
    · have h0 := hCh.2.1
      have hfr : nx S ∉ uad A ∧ nx S ∉ uad B := by
        constructor <;> intro z <;> obtain ⟨f, f1, f2⟩ := uad_mem.mp z
        · have := (hCh.1 f (mA f f1)).1; omega
        · have := (hCh.1 f (mB f f1)).1; omega
      rw [hAB, uad_ap] at h0
      rw [uad_ap, uad_c]
      simp only [List.nodup_append, List.nodup_cons, List.mem_cons] at h0 ⊢
      grind
    · rw [uad_at hea2]; exact o2
    · have := (hCh.2.2 a ha).2
      rw [uOf_len hea2, o4 9 _ (by omega)]
      rw [hUA] at this
      simp [this, nI_1]
    · rw [uOf_ap, uOf_n (show eA (nx S, (nI a, b, z, (0 : Int32), R.1 18 + 1, nI s, (0 : Int32))) ≠ nI c from fun z => hca (nI8 hP hc ha z.symm)), hAB, uOf_ap]
    · have := (hS.2.2.2.2 c hc).1
      rw [o4 _ _ (by omega)]
      simp [hne c hc hca]
    · have := (hS.2.2.2.2 c hc).1
      rw [o5 _ _ (by omega) (fun _ => hne c hc hca) (by simp) (by simp)]
    · have hh := (hCh.1 f hf).1
      have hn : f.1 ∉ uad (uOf a A) ++ uad (uOf a B) := by
        rw [← uad_ap, ← hUA]
        intro z
        obtain ⟨g, g1, g2, g3⟩ := uad_sub z
        have := uad_inj hCh.2.1 g1 hf g3
        subst this; exact hfa g2
      exact ⟨o5 _ _ (by omega) (by simp) (fun _ => hn) (fun _ => hn), o5 _ _ (by omega) (by simp) (fun _ => hn) (fun _ => hn)⟩
  · intro c hc
    have := (hS.2.2.2.2 c hc).1
    rw [o4 _ _ (by omega)]
    by_cases hca : c = a
    · subst hca
      rw [if_pos ⟨rfl, rfl⟩, hSc c hc, nI_1, livA_f, livA_f]
      refine congrArg nI (filt_up s1 (by simp [s2]) (by simp [hrow.1, hrow.2.2.1]) (fun j hj => ?_)).symm
      rw [hrr 22 (by decide) (by decide), hrr 19 (by decide) (by decide), r1d 22 j hj, r1d 19 j hj]
    · rw [if_neg (fun q => hne c hc hca q.2), if_neg (by simp), if_neg (by simp), hSc c hc, livA_f, livA_f]
      refine congrArg (fun p => nI (List.filter p (List.range 600)).length) (funext fun j => ?_)
      by_cases hj : j = s
      · subst hj
        rw [hrow.1, hrow.2.2.1, s2]
        have : ¬ nI a = nI c := fun q => hca (nI8 hP hc ha q.symm)
        simp [this]
      · rw [hrr 22 (by decide) (by decide), hrr 19 (by decide) (by decide), r1d 22 j hj, r1d 19 j hj]
  · have hn0 := hTm.2.1
    have hgn : gI S' 10 (par P a) = gI S 10 (par P a) + 1 := by rw [o4 _ _ (by omega)]; simp
    refine uTm_st hP ha hTm (by rw [i4, hnow]; omega) (by rw [i4, hnow]; omega) (by rw [hgn, hclk]; omega) (by rw [hgn, hclk, i4, hnow]; omega) (fun c hc hca => ?_) (fun f hf => ?_) (fun f hf => ?_) (fun f hf g hg _ _ of' og kf kg => ?_)
    · have := (hS.2.2.2.2 c hc).1
      rw [o4 _ _ (by omega)]
      simp [hne c hc hca]
    · obtain ⟨c, c1, c2, _⟩ := hls2.1 f hf
      exact ⟨c, c1, c2⟩
    · have k : ∀ f ∈ L, gI S' 83 f.1 = gI S 83 f.1 := by
        intro f hf
        have := (hCh.1 f hf).1
        rw [o4 _ _ (by omega)]; simp
      simp only [List.mem_append, List.mem_cons] at hf
      rcases hf with hf | rfl | hf
      · exact Or.inl ⟨f, mA f hf, rfl, rfl, rfl, k f (mA f hf), fun z => z⟩
      · refine Or.inr ⟨rfl, ?_, ?_, ?_, ?_⟩
        · show _ < (R.1 18 + 1).toInt; omega
        · show (R.1 18 + 1).toInt ≤ _; rw [i4]; exact Int.le_refl _
        · show _ < (gI S' 83 (nx S)).toInt
          rw [o12]; omega
        · show (gI S' 83 (nx S)).toInt ≤ _
          rw [o12, hgn]; exact Int.le_refl _
      · exact Or.inl ⟨f, mB f hf, rfl, rfl, rfl, k f (mB f hf), fun z => z⟩
    · have k : ∀ f, f ∈ A ++ (nx S, (nI a, b, z, (0 : Int32), R.1 18 + 1, nI s, (0 : Int32))) :: B → (R.1 18).toInt < (eT f).toInt → f = (nx S, (nI a, b, z, (0 : Int32), R.1 18 + 1, nI s, (0 : Int32))) := by
        intro f hf hk
        simp only [List.mem_append, List.mem_cons] at hf
        rcases hf with hf | rfl | hf
        · have := hTm.2.2.2.1 f (mA f hf); omega
        · rfl
        · have := hTm.2.2.2.1 f (mB f hf); omega
      rw [k f hf kf, k g hg kg]
      simp [Int32.lt_irrefl]
  · refine ⟨by omega, fun f p hp c1 c2 c3 c4 => ?_, fun f p hp c1 c2 c3 => ?_, o6, o7, o8⟩
    · rw [o4 f p (by omega), if_neg (fun q => c1 q.1), if_neg (fun q => c2 q.1), if_neg (fun q => c3 q.1)]
    · exact o5 f p (by omega) (fun q => absurd q c1) (fun q => absurd q c2) (fun q => absurd q c3)
  · refine ⟨fun j c1 c2 c3 => ?_, fun f c1 c2 => ?_⟩
    · rw [i3.1 j c1 c2, r1a j c3]
    · rw [i3.2 f c1]; funext j; exact r1c f j c2
