/-! ===== pure part: the joint carving ===== -/
set_option maxHeartbeats 1000000 in
theorem rcv1 {F : Nat} {P : Par} {R : Rst} {A B : List En} {e : En} {m : Int32} {β : Type} (k : Int32 × Rst → Option β) (p : Nat) (hF : 1000 ≤ F) (hL : uLs P R (A ++ e :: B)) (h : uRL R (A ++ e :: B)) (hn : 0 < m.toInt) (hz : m.toInt < ez e) (hlen : (A ++ e :: B).length < 600) :
    ∃ R1, (wr R 13 (nI A.length) m fun R21 => (rf_frees F R21 (nI A.length)).bind fun R22 => (rf_insert F R22 (eA e) (eB e + m) (eZ e - m) (eS e)).bind k) = k (nI (A.length + 1), R1) ∧ uFr R R1 ∧ R1.1 18 = R.1 18 + 1 + 1 ∧ uRL R1 (A ++ (e.1, (eA e, eB e, m, 0, R.1 18 + 1, eS e, eC e)) :: (p, (eA e, eB e + m, eZ e - m, 0, R.1 18 + 1 + 1, eS e, 0)) :: B) := by
  obtain ⟨k1, k2, g1, g2, g3, g4, g5, g6, g7⟩ := uRL_g h (k := A.length) (e := e) get_mid
  have hsp := uEl_sp (hL.1 e (by simp))
  have hezr : ez e = (eZ e).toInt := rfl
  have hebr : eb e = (eB e).toInt := rfl
  rw [wr_n (f := 13) k2]
  obtain ⟨R2, f1, f2, f3, f4, f5⟩ := frees_ok (F := F) (R := rset R 13 A.length m) k2
  rw [f1, Option.bind_some]
  have hu : uRL R2 (A ++ (e.1, (eA e, eB e, m, 0, R.1 18 + 1, eS e, eC e)) :: B) := by
    refine uRL_put h rfl (by rw [f5]; rfl) (fun j => ?_)
    rw [f2]
    by_cases hm : j = A.length
    · subst hm
      rw [if_pos rfl, if_pos rfl]
      simp [rset_g, g1, g2, g6, g7, rset_1]
    · rw [if_neg hm, if_neg hm]
      unfold sgk
      simp [rset_g, hm]
  have hfr : uFr R R2 := (uFr_set (by decide) (by decide)).tr f3
  have hb : (eB e + m).toInt = eb e + m.toInt := i32_add (by omega) (by omega)
  obtain ⟨pw1, pw2⟩ := pairw_mid hL
  obtain ⟨R', r1, r2, r3, r4⟩ := insert_ok (F := F) (L := A ++ (e.1, (eA e, eB e, m, 0, R.1 18 + 1, eS e, eC e)) :: B) (A := A ++ [(e.1, (eA e, eB e, m, 0, R.1 18 + 1, eS e, eC e))]) (B := B) (a := eA e) (fr := eB e + m) (sz := eZ e - m) (sp := eS e) p hF hu (by simp) (fun f hf => by
      rw [uP_iff, hb]
      rcases List.mem_append.mp hf with hf | hf
      · rcases pw1 f hf with z | ⟨z1, z2⟩
        · exact Or.inl z
        · refine Or.inr ⟨z1, ?_⟩
          have := uEl_z (hL.1 f (by simp [hf]))
          omega
      · simp at hf; subst hf
        exact Or.inr ⟨rfl, by show (eB e).toInt < _; omega⟩) (fun f hf => by
      rw [uP_iff, hb]
      have hf' : f ∈ B := List.mem_of_head? hf
      rcases pw2 f hf' with z | ⟨z1, z2⟩
      · intro q; rcases q with q | ⟨q, _⟩
        · omega
        · rw [q] at z; omega
      · intro q; rcases q with q | ⟨_, q⟩
        · rw [z1] at q; omega
        · omega) (by simpa using hlen)
  rw [r1, Option.bind_some]
  have f4' : R2.1 18 = R.1 18 + 1 := by rw [f4]; rfl
  refine ⟨R', by simp, hfr.tr r3, by rw [r4, f4'], ?_⟩
  rw [f4'] at r2
  simpa [List.append_assoc] using r2
theorem i32_s {x : Int32} (h : 0 ≤ x.toInt) (h2 : x.toInt + 1 < 2147483648) : (x + 1).toInt = x.toInt + 1 := by
  rw [i32_add (by rw [show (1 : Int32).toInt = 1 by decide]; omega) (by rw [show (1 : Int32).toInt = 1 by decide]; omega)]; rfl
set_option maxHeartbeats 4000000 in
theorem jcarve {F : Nat} {P : Par} {x : Nat} {S : Cst} {R : Rst} {A B : List En} {e : En} {a t : Nat} {m n : Int32} (hF : 1000 ≤ F) (hR : uStR P R) (hS : uStS P x S) (hG : uG P S R (A ++ e :: B) t) (ha : a < pn P) (hea : eA e = nI a) (hO : eO e = 0) (hm : 0 < m.toInt) (hn : 0 < n.toInt) (hz : m.toInt + n.toInt ≤ ez e) (hdm : ((2 ^ psh P a : Nat) : Int) ∣ m.toInt) (hd : ((2 ^ psh P a : Nat) : Int) ∣ n.toInt) (hroom : (A ++ e :: B).length + (liv R).length < 598) (ht : t + 3 < 2147483648) :
    ∃ S' R' L', cf_X0_carve F S (par P a) (some e.1) (eB e + m) n = some (some (nx S), S') ∧ gI S' 80 (nx S) = eB e + m ∧ (wr R 13 (nI A.length) m fun R21 => (rf_frees F R21 (nI A.length)).bind fun R22 => (rf_insert F R22 (eA e) (eB e + m) (eZ e - m) (eS e)).bind fun z => rf_cut F z.2 z.1 n 4) = some R' ∧ uG P S' R' L' (t + 3) ∧ uSF S S' ∧ uFr R R' ∧ uSl (A ++ e :: B) L' ∧ (∀ f ∈ L', eO f = 2 → f ∈ A ++ e :: B) := by
  obtain ⟨hLs, hSp, hRL, hCh, hSc, hTm⟩ := hG
  have hP := hR.1
  have hE := hLs.1 e (by simp)
  have hsp := uEl_sp hE
  have hc0 : eC e = 0 := eC0 hE (by rw [hO]; decide)
  have hezr : ez e = (eZ e).toInt := rfl
  have hebr : eb e = (eB e).toInt := rfl
  have hpar := hS.2.2.2.2 a ha
  have hfd := hCh.1 e (by simp)
  have hbm : (eB e + m).toInt = eb e + m.toInt := i32_add (by omega) (by omega)
  have hzm : (eZ e - m).toInt = ez e - m.toInt := i32_sub (by omega) (by omega)
  have hne : ∀ b, b < pn P → b ≠ a → par P b ≠ par P a := fun b hb hab z => hab (hS.2.2.2.1 b a hb ha z)
  obtain ⟨T1, T2, T3, T4, T5, T6⟩ := hTm
  have hcl := T3 a ha
  have now1 : (R.1 18 + 1).toInt = (R.1 18).toInt + 1 := i32_s T1 (by omega)
  have now2 : (R.1 18 + 1 + 1).toInt = (R.1 18).toInt + 2 := by rw [i32_s (by omega) (by omega)]; omega
  have now3 : (R.1 18 + 1 + 1 + 1).toInt = (R.1 18).toInt + 3 := by rw [i32_s (by omega) (by omega)]; omega
  have clk1 : (gI S 10 (par P a) + 1).toInt = (gI S 10 (par P a)).toInt + 1 := i32_s hcl.1 (by omega)
  have clk2 : (gI S 10 (par P a) + 1 + 1).toInt = (gI S 10 (par P a)).toInt + 2 := by rw [i32_s (by omega) (by omega)]; omega
  have clk3 : (gI S 10 (par P a) + 1 + 1 + 1).toInt = (gI S 10 (par P a)).toInt + 3 := by rw [i32_s (by omega) (by omega)]; omega
  obtain ⟨R1, r1, r2, r3, r4⟩ := rcv1 (F := F) (fun z => rf_cut F z.2 z.1 n 4) (nx S) hF hLs hRL hm (by omega) (by omega)
  rw [r1]
  obtain ⟨Sa, s1, s2, s3, s4, s5, s6, s7⟩ := gs_split (F := F) hR hS ⟨hLs, hSp, hRL, hCh, hSc⟩ ha hea hO hm (by omega) hdm (by omega)
  obtain ⟨u1, u2, u3, u4, u5, u6, u7, u8⟩ := s2
  unfold cf_X0_carve
  rw [nnS, hfd.2.1, if_neg (by rw [Int32.le_iff_toInt_le]; omega), show eB e + m - eB e = m by grind, s1, Option.bind_some]
  simp only [st2, cf_X0_tick, st1, Option.bind_some]
  generalize hS1 : sI (sI Sa 10 (par P a) (gI Sa 10 (par P a) + 1)) 83 e.1 (gI (sI Sa 10 (par P a) (gI Sa 10 (par P a) + 1)) 10 (par P a)) = S1
  have hel : e.1 < nx S := hfd.1
  have hpl : par P a < nx S := hpar.1
  have x1 : nx S1 = nx S + 1 := by rw [← hS1]; exact u1
  have i1 : ∀ f p, gI S1 f p = if f = 83 ∧ p = e.1 then gI S 10 (par P a) + 1 + 1 else if f = 10 ∧ p = par P a then gI S 10 (par P a) + 1 + 1 else gI Sa f p := by
    intro f p
    rw [← hS1]
    simp only [gI_sI, u8]
    simp
  have p1 : gP S1 = gP Sa := by rw [← hS1]; rfl
  have n1 : gN S1 = gN S := by rw [← hS1]; exact u4
  have rr1 : gR S1 = gR S := by rw [← hS1]; exact u5
  have q1 : gQ S1 = gQ S := by rw [← hS1]; exact u6
  clear hS1
  have ow1 : uOw Sa S1 e.1 0 := by
    refine ⟨by rw [x1, u1], fun f p h10 h83 => ?_, p1⟩
    rw [i1, if_neg (fun z => h83 z.1), if_neg (fun z => h10 z.1)]
    by_cases h82 : f = 82 ∧ p = e.1
    · rw [if_pos h82, h82.1, h82.2, u2 _ _ (by omega)]
      simp
      rw [hfd.2.2.2.1]; exact hO
    · rw [if_neg h82]
  have hrr1 : ∀ f, 19 ≤ f → f ≤ 23 → R1.2 f = R.2 f := fun f f1 f2 => r2.2 f (by omega)
  have h241 : R1.1 24 = R.1 24 := r2.1 24 (by decide) (by decide)
  have gs1 := s7 S1 R1 0 (R.1 18 + 1) (R.1 18 + 1 + 1) ow1 hrr1 h241 r4
  have sf1 : uSF S S1 := by
    refine (uSF_of ⟨u1, u2, u3, u4, u5, u6, u7, u8⟩).tr ⟨by omega, fun f p hp a1 a2 a3 a4 => ?_, fun f p _ _ _ _ => by rw [p1], by rw [n1, u4], by rw [rr1, u5], by rw [q1, u6]⟩
    rw [i1, if_neg (fun z => a4 ⟨by omega, by omega⟩), if_neg (fun z => a3 z.1)]
  have hR1 : uStR P R1 := uStR_F hR r2.u
  have hSS1 : uStS P x S1 := uStS_F hS sf1
  have hlist : A ++ (e.1, (eA e, eB e, m, (0 : Int32), R.1 18 + 1, eS e, eC e)) :: (nx S, (eA e, eB e + m, eZ e - m, 0, R.1 18 + 1 + 1, eS e, 0)) :: B = (A ++ [(e.1, (eA e, eB e, m, (0 : Int32), R.1 18 + 1, eS e, eC e))]) ++ (nx S, (eA e, eB e + m, eZ e - m, 0, R.1 18 + 1 + 1, eS e, 0)) :: B := by simp
  rw [hlist] at gs1 r4
  have hl1 : (A ++ [(e.1, (eA e, eB e, m, (0 : Int32), R.1 18 + 1, eS e, eC e))]).length = A.length + 1 := by simp
  have hliv : liv R1 = liv R := by unfold liv; rw [hrr1 22 (by decide) (by decide)]
  obtain ⟨R2, c1, c2, c3⟩ := rcut_ok (F := F) (n := n) (w := 4) (nx S1) hF gs1.1 r4 hn (by show n.toInt ≤ (eZ e - m).toInt; omega) (by simp at hroom ⊢; omega)
  rw [hl1] at c1
  have hrr2 : ∀ f, 19 ≤ f → f ≤ 23 → R2.2 f = R1.2 f := fun f f1 f2 => c2.2 f (by omega)
  have h242 : R2.1 24 = R1.1 24 := c2.1 24 (by decide) (by decide)
  have hmid : eO (nx S, (eA e, eB e + m, eZ e - m, (0 : Int32), R.1 18 + 1 + 1, eS e, (0 : Int32))) = 0 := rfl
  have h83 : ∀ f ∈ A ++ e :: B, f.1 ≠ e.1 → gI S1 83 f.1 = gI S 83 f.1 := by
    intro f hf hfe
    have := (hCh.1 f hf).1
    rw [i1, if_neg (fun z => hfe z.2), if_neg (by simp), u2 _ _ (by omega)]; simp
  have m81 : gI S1 81 (nx S) = eZ e - m := by rw [i1, if_neg (by simp), if_neg (by simp), s4]
  have fin : ∀ (S' : Cst) (R' : Rst) (C : List En), (R.1 18).toInt + 2 ≤ (R'.1 18).toInt → (R'.1 18).toInt ≤ (R.1 18).toInt + 3 → (gI S 10 (par P a)).toInt + 2 ≤ (gI S' 10 (par P a)).toInt → (gI S' 10 (par P a)).toInt ≤ (R'.1 18).toInt → (∀ b, b < pn P → b ≠ a → gI S' 10 (par P b) = gI S 10 (par P b)) → (∀ p, p < nx S → p ≠ e.1 → gI S' 83 p = gI S 83 p) → gI S' 83 e.1 = gI S 10 (par P a) + 1 + 1 → gI S' 83 (nx S) = gI S 10 (par P a) + 1 → (∀ f ∈ C, eA f = nI a ∧ eT f = R.1 18 + 1 + 1 + 1 ∧ gI S' 83 f.1 = gI S 10 (par P a) + 1 + 1 + 1 ∧ (R.1 18).toInt + 3 ≤ (R'.1 18).toInt ∧ (gI S 10 (par P a)).toInt + 3 ≤ (gI S' 10 (par P a)).toInt) → uTm P S' R' ((A ++ [(e.1, (eA e, eB e, m, (0 : Int32), R.1 18 + 1, eS e, eC e))]) ++ (nx S, (eA e, eB e + m, n, 4, R.1 18 + 1 + 1, eS e, 0)) :: (C ++ B)) (t + 3) := by
    intro S' R' C h1 h2 h3 h4 h5 h6 h7 h8 hC
    have cs : ∀ f ∈ (A ++ [(e.1, (eA e, eB e, m, (0 : Int32), R.1 18 + 1, eS e, eC e))]) ++ (nx S, (eA e, eB e + m, n, (4 : Int32), R.1 18 + 1 + 1, eS e, (0 : Int32))) :: (C ++ B), ((f ∈ A ∨ f ∈ B) ∨ f = (e.1, (eA e, eB e, m, (0 : Int32), R.1 18 + 1, eS e, eC e))) ∨ (f = (nx S, (eA e, eB e + m, n, (4 : Int32), R.1 18 + 1 + 1, eS e, (0 : Int32))) ∨ f ∈ C) := by
      intro f hf
      simp only [List.mem_append, List.mem_cons, List.not_mem_nil, or_false] at hf
      rcases hf with (hf | hf) | hf | hf | hf
      · exact Or.inl (Or.inl (Or.inl hf))
      · exact Or.inl (Or.inr hf)
      · exact Or.inr (Or.inl hf)
      · exact Or.inr (Or.inr hf)
      · exact Or.inl (Or.inl (Or.inr hf))
    have old : ∀ f, f ∈ A ∨ f ∈ B → f ∈ A ++ e :: B := fun f hf => by simp; rcases hf with hf | hf <;> simp [hf]
    refine uTm_st hP ha ⟨T1, T2, T3, T4, T5, T6⟩ (by omega) (by omega) (by omega) h4 h5 (fun f hf => ?_) (fun f hf => ?_) (fun f hf g hg _ _ of' og kf kg => ?_)
    · rcases cs f hf with (hf | rfl) | (rfl | hf)
      · obtain ⟨b, b1, b2, _⟩ := hLs.1 f (old f hf); exact ⟨b, b1, b2⟩
      · exact ⟨a, ha, hea⟩
      · exact ⟨a, ha, hea⟩
      · exact ⟨a, ha, (hC f hf).1⟩
    · rcases cs f hf with (hf | rfl) | (rfl | hf)
      · exact Or.inl ⟨f, old f hf, rfl, rfl, rfl, h6 _ (hCh.1 f (old f hf)).1 (nd_ne hCh.2.1 hf), fun z => z⟩
      · refine Or.inr ⟨hea, ?_, ?_, ?_, ?_⟩
        · show _ < (R.1 18 + 1).toInt; omega
        · show (R.1 18 + 1).toInt ≤ _; omega
        · show _ < (gI S' 83 e.1).toInt; rw [h7]; omega
        · show (gI S' 83 e.1).toInt ≤ _; rw [h7]; omega
      · refine Or.inr ⟨hea, ?_, ?_, ?_, ?_⟩
        · show _ < (R.1 18 + 1 + 1).toInt; omega
        · show (R.1 18 + 1 + 1).toInt ≤ _; omega
        · show _ < (gI S' 83 (nx S)).toInt; rw [h8]; omega
        · show (gI S' 83 (nx S)).toInt ≤ _; rw [h8]; omega
      · obtain ⟨c1, c2, c3, c4, c5⟩ := hC f hf
        refine Or.inr ⟨c1, ?_, ?_, ?_, ?_⟩
        · rw [c2]; omega
        · rw [c2]; omega
        · rw [c3]; omega
        · rw [c3]; omega
    · have val : ∀ f, f ∈ (A ++ [(e.1, (eA e, eB e, m, (0 : Int32), R.1 18 + 1, eS e, eC e))]) ++ (nx S, (eA e, eB e + m, n, (4 : Int32), R.1 18 + 1 + 1, eS e, (0 : Int32))) :: (C ++ B) → eO f = 0 → (R.1 18).toInt < (eT f).toInt → ((eT f).toInt = (R.1 18).toInt + 1 ∧ (gI S' 83 f.1).toInt = (gI S 10 (par P a)).toInt + 2) ∨ ((eT f).toInt = (R.1 18).toInt + 3 ∧ (gI S' 83 f.1).toInt = (gI S 10 (par P a)).toInt + 3) := by
        intro f hf o0 hk
        rcases cs f hf with (hf | rfl) | (rfl | hf)
        · have := T4 f (old f hf); omega
        · exact Or.inl ⟨now1, by show (gI S' 83 e.1).toInt = _; rw [h7]; exact clk2⟩
        · cases o0
        · obtain ⟨c1, c2, c3, c4, c5⟩ := hC f hf
          exact Or.inr ⟨by rw [c2]; exact now3, by rw [c3]; exact clk3⟩
      rw [Int32.lt_iff_toInt_lt, Int32.lt_iff_toInt_lt]
      rcases val f hf of' kf with v1 | v1 <;> rcases val g hg og kg with v2 | v2 <;> omega
  have hea' : eA (nx S, (eA e, eB e + m, eZ e - m, (0 : Int32), R.1 18 + 1 + 1, eS e, (0 : Int32))) = nI a := hea
  have sl : ∀ C : List En, (∀ f ∈ C, eC f = 0 ∧ eO f = 0) → uSl (A ++ e :: B) ((A ++ [(e.1, (eA e, eB e, m, (0 : Int32), R.1 18 + 1, eS e, eC e))]) ++ (nx S, (eA e, eB e + m, n, (4 : Int32), R.1 18 + 1 + 1, eS e, (0 : Int32))) :: (C ++ B)) ∧ ∀ f ∈ (A ++ [(e.1, (eA e, eB e, m, (0 : Int32), R.1 18 + 1, eS e, eC e))]) ++ (nx S, (eA e, eB e + m, n, (4 : Int32), R.1 18 + 1 + 1, eS e, (0 : Int32))) :: (C ++ B), eO f = 2 → f ∈ A ++ e :: B := by
    intro C hC
    constructor
    · intro f hf
      simp only [List.mem_append, List.mem_cons, List.not_mem_nil, or_false]
      constructor
      · rintro ((h | rfl) | rfl | h | h)
        · exact Or.inl h
        · exact absurd hc0 hf
        · exact absurd rfl hf
        · exact absurd (hC f h).1 hf
        · exact Or.inr (Or.inr h)
      · rintro (h | rfl | h)
        · exact Or.inl (Or.inl h)
        · exact absurd hc0 hf
        · exact Or.inr (Or.inr (Or.inr h))
    · intro f hf ho
      simp only [List.mem_append, List.mem_cons, List.not_mem_nil, or_false] at hf ⊢
      rcases hf with (h | rfl) | rfl | h | h
      · exact Or.inl h
      · cases ho
      · cases ho
      · rw [(hC f h).2] at ho; cases ho
      · exact Or.inr (Or.inr h)
  have m80 : gI S1 80 (nx S) = eB e + m := by rw [i1, if_neg (by simp), if_neg (by simp), s3]
  have ten1 : gI S1 10 (par P a) = gI S 10 (par P a) + 1 + 1 := by rw [i1, if_neg (by simp), if_pos ⟨rfl, rfl⟩]
  have ten1b : ∀ b, b < pn P → b ≠ a → gI S1 10 (par P b) = gI S 10 (par P b) := by
    intro b hb hab
    have := (hS.2.2.2.2 b hb).1
    rw [i1, if_neg (by simp), if_neg (fun z => hne b hb hab z.2), u2 _ _ (by omega)]
    simp [hne b hb hab]
  have e1 : ∀ p, p < nx S → p ≠ e.1 → gI S1 83 p = gI S 83 p := by
    intro p hp hpe
    rw [i1, if_neg (fun z => hpe z.2), if_neg (by simp), u2 _ _ (by omega)]; simp
  have ee1 : gI S1 83 e.1 = gI S 10 (par P a) + 1 + 1 := by rw [i1, if_pos ⟨rfl, rfl⟩]
  have em1 : gI S1 83 (nx S) = gI S 10 (par P a) + 1 := by rw [i1, if_neg (fun z => by have := z.2; omega), if_neg (by simp), s6]
  unfold cf_X0_occupy
  rw [nnS, m81]
  rcases c3 with ⟨d1, d2, d3⟩ | ⟨d1, d2, d3⟩
  · have d1' : n = eZ e - m := d1
    have hnx : nx S ≠ e.1 := by omega
    rw [if_pos (by rw [d1', Int32.le_iff_toInt_le]; exact Int.le_refl _)]
    have ow : uOw S1 (sI S1 82 (nx S) 4) (nx S) 4 := ⟨rfl, fun f p _ _ => by rw [gI_sI], rfl⟩
    have gs := gs_own (w := 4) (T := R.1 18 + 1 + 1) hR1 hSS1 gs1 ha hea' hmid ow hrr2 h242 (by
      have : eZ (nx S, (eA e, eB e + m, eZ e - m, (0 : Int32), R.1 18 + 1 + 1, eS e, (0 : Int32))) = n := d1'.symm
      rw [this]; exact d3)
    rw [show eZ (nx S, (eA e, eB e + m, eZ e - m, (0 : Int32), R.1 18 + 1 + 1, eS e, (0 : Int32))) = n from d1'.symm] at gs
    have d2' : R2.1 18 = R.1 18 + 1 + 1 := d2.trans r3
    have tm := fin (sI S1 82 (nx S) 4) R2 [] (by rw [d2']; omega) (by rw [d2']; omega) (by rw [gI_sI, if_neg (by simp), ten1]; omega) (by rw [gI_sI, if_neg (by simp), ten1, d2']; omega) (fun b hb hab => by rw [gI_sI, if_neg (by simp)]; exact ten1b b hb hab) (fun p hp hpe => by rw [gI_sI, if_neg (by simp)]; exact e1 p hp hpe) (by rw [gI_sI, if_neg (by simp)]; exact ee1) (by rw [gI_sI, if_neg (by simp)]; exact em1) (fun f hf => by cases hf)
    refine ⟨sI S1 82 (nx S) 4, R2, _, rfl, by rw [gI_sI, if_neg (by simp)]; exact m80, c1, ⟨gs.1, gs.2.1, gs.2.2.1, gs.2.2.2.1, gs.2.2.2.2, tm⟩, ?_, r2.tr c2, (sl [] (fun f hf => by cases hf)).1, (sl [] (fun f hf => by cases hf)).2⟩
    refine sf1.tr ⟨Nat.le_refl _, fun f p hp _ _ _ z => ?_, fun _ _ _ _ _ _ => rfl, rfl, rfl, rfl⟩
    rw [gI_sI, if_neg (fun q => z ⟨by omega, by omega⟩)]
  · have d1' : n.toInt < (eZ e - m).toInt := d1
    rw [if_neg (by rw [Int32.le_iff_toInt_le]; omega)]
    obtain ⟨Sb, b1, b2, b3, b4, b5, b6, b7⟩ := gs_split (F := F) (n := n) hR1 hSS1 gs1 ha hea' hmid hn d1 hd (by rw [hliv]; simp at hroom ⊢; omega)
    obtain ⟨v1, v2, v3, v4, v5, v6, v7, v8⟩ := b2
    have b1' : cf_X0_split F S1 (par P a) (some (nx S)) n = some (some (nx S1), Sb) := b1
    rw [b1', Option.bind_some]
    simp only [st2, Option.bind_some]
    have ow : uOw Sb (sI Sb 82 (nx S) 4) (nx S) 4 := ⟨rfl, fun f p _ _ => by rw [gI_sI], rfl⟩
    have gs := b7 (sI Sb 82 (nx S) 4) R2 4 (R.1 18 + 1 + 1) (R1.1 18 + 1) ow hrr2 h242 d3
    have d2' : R2.1 18 = R.1 18 + 1 + 1 + 1 := by rw [d2, r3]
    have hv10 : gI Sb 10 (par P a) = gI S 10 (par P a) + 1 + 1 + 1 := by rw [v8, ten1]
    have hv83 : ∀ p, p < nx S1 → gI Sb 83 p = gI S1 83 p := fun p hp => by rw [v2 _ _ (by omega)]; simp
    have tm := fin (sI Sb 82 (nx S) 4) R2 [(nx S1, (eA e, eB e + m + n, eZ e - m - n, 0, R1.1 18 + 1, eS e, 0))] (by rw [d2']; omega) (by rw [d2']; omega) (by rw [gI_sI, if_neg (by simp), hv10]; omega) (by rw [gI_sI, if_neg (by simp), hv10, d2']; omega) (fun b hb hab => by
        have := (hS.2.2.2.2 b hb).1
        rw [gI_sI, if_neg (by simp), v2 _ _ (by omega)]
        simp [hne b hb hab]
        exact ten1b b hb hab) (fun p hp hpe => by rw [gI_sI, if_neg (by simp), hv83 _ (by omega)]; exact e1 p hp hpe) (by rw [gI_sI, if_neg (by simp), hv83 _ (by omega)]; exact ee1) (by rw [gI_sI, if_neg (by simp), hv83 _ (by omega)]; exact em1) (fun f hf => by
        simp at hf
        subst hf
        refine ⟨hea, by show R1.1 18 + 1 = _; rw [r3], ?_, by rw [d2']; omega, by rw [gI_sI, if_neg (by simp), hv10]; omega⟩
        show gI (sI Sb 82 (nx S) 4) 83 (nx S1) = _
        rw [gI_sI, if_neg (by simp), b6, ten1])
    have hCC : ∀ f ∈ [((nx S1, (eA e, eB e + m + n, eZ e - m - n, 0, R1.1 18 + 1, eS e, 0)) : En)], eC f = 0 ∧ eO f = 0 := fun f hf => by simp at hf; subst hf; exact ⟨rfl, rfl⟩
    refine ⟨sI Sb 82 (nx S) 4, R2, _, rfl, ?_, c1, ⟨gs.1, gs.2.1, gs.2.2.1, gs.2.2.2.1, gs.2.2.2.2, tm⟩, ?_, r2.tr c2, (sl _ hCC).1, (sl _ hCC).2⟩
    · rw [gI_sI, if_neg (by simp), v2 _ _ (by omega)]
      simp
      exact m80
    · refine sf1.tr ((uSF_of ⟨v1, v2, v3, v4, v5, v6, v7, v8⟩).tr ⟨Nat.le_refl _, fun f p hp _ _ _ z => ?_, fun _ _ _ _ _ _ => rfl, rfl, rfl, rfl⟩)
      rw [gI_sI, if_neg (fun q => z ⟨by omega, by omega⟩)]
