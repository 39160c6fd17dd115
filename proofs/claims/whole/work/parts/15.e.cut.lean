/-! ===== pure part: a segment is cut ===== -/
def uSl (L L' : List En) : Prop := ∀ e, eC e ≠ 0 → (e ∈ L' ↔ e ∈ L)
theorem uSl.rf {L : List En} : uSl L L := fun _ _ => Iff.rfl
theorem uSl.tr {L L' L'' : List En} (h : uSl L L') (g : uSl L' L'') : uSl L L'' := fun e he => (g e he).trans (h e he)
theorem pairw_mid {P : Par} {R : Rst} {A B : List En} {e : En} (h : uLs P R (A ++ e :: B)) : (∀ f ∈ A, uLt f e) ∧ (∀ f ∈ B, uLt e f) := by
  have hp := uLs_pw h
  rw [List.pairwise_append] at hp
  exact ⟨fun f hf => hp.2.2 f hf e List.mem_cons_self, (List.pairwise_cons.mp hp.2.1).1⟩
theorem uLs_fr {P : Par} {R R' : Rst} {L : List En} (hr : ∀ f, 19 ≤ f → f ≤ 23 → R'.2 f = R.2 f) (h : uLs P R L) : uLs P R' L := by
  have h0 : ∀ e, spb R' e = spb R e ∧ spz R' e = spz R e := fun e => by unfold spb spz; rw [hr 20 (by decide) (by decide), hr 21 (by decide) (by decide)]; exact ⟨rfl, rfl⟩
  have hj : ∀ p z, uJn R p z → uJn R' p z := by
    intro p z h
    cases p <;> cases z <;> simp only [uJn, uSta, uEnd, (h0 _).1, (h0 _).2] at h ⊢ <;> exact h
  have ht : ∀ (t : List En) (p z : Option En), uTl R p t z → uTl R' p t z := by
    intro t
    induction t with
    | nil => intro p z h; exact hj p z h
    | cons e t ih => intro p z h; exact ⟨hj p _ h.1, ih _ z h.2⟩
  refine ⟨fun e he => ?_, ht L none none h.2⟩
  have := h.1 e he
  unfold uEl at this ⊢
  rw [(h0 e).1, (h0 e).2, hr 22 (by decide) (by decide), hr 19 (by decide) (by decide)]
  exact this
theorem i32_0 : (0 : Int32).toInt = 0 := by decide
/-- the reference's cut -/
theorem rcut_ok {F : Nat} {P : Par} {R : Rst} {A B : List En} {e : En} {n w : Int32} (p : Nat) (hF : 1000 ≤ F) (hL : uLs P R (A ++ e :: B)) (h : uRL R (A ++ e :: B)) (hn : 0 < n.toInt) (hz : n.toInt ≤ ez e) (hlen : (A ++ e :: B).length < 600) :
    ∃ R', rf_cut F R (nI A.length) n w = some R' ∧ uFr R R' ∧ ((n = eZ e ∧ R'.1 18 = R.1 18 ∧ uRL R' (A ++ (e.1, (eA e, eB e, n, w, eT e, eS e, eC e)) :: B)) ∨ (n.toInt < ez e ∧ R'.1 18 = R.1 18 + 1 ∧ uRL R' (A ++ (e.1, (eA e, eB e, n, w, eT e, eS e, eC e)) :: (p, (eA e, eB e + n, eZ e - n, 0, R.1 18 + 1, eS e, 0)) :: B))) := by
  obtain ⟨k1, k2, g1, g2, g3, g4, g5, g6, g7⟩ := uRL_g h (k := A.length) (e := e) get_mid
  have hsp := uEl_sp (hL.1 e (by simp))
  have hezr : ez e = (eZ e).toInt := rfl
  have hebr : eb e = (eB e).toInt := rfl
  have hd : (eZ e - n).toInt = ez e - n.toInt := i32_sub (by omega) (by omega)
  unfold rf_cut
  rw [rd_n (f := 13) k2, wr_n (f := 13) k2, wr_n (f := 14) k2, g3]
  have hu : uRL (rset (rset R 13 A.length n) 14 A.length w) (A ++ (e.1, (eA e, eB e, n, w, eT e, eS e, eC e)) :: B) := by
    refine uRL_put h rfl rfl (fun m => ?_)
    unfold sgk
    by_cases hm : m = A.length
    · subst hm; simp [rset_g, g1, g2, g5, g6, g7]
    · simp [rset_g, hm]
  have hfr : uFr R (rset (rset R 13 A.length n) 14 A.length w) := (uFr_set (by decide) (by decide)).tr (uFr_set (by decide) (by decide))
  by_cases hc : (eZ e - n) ≤ 0
  · rw [if_pos hc]
    rw [Int32.le_iff_toInt_le, hd, i32_0] at hc
    exact ⟨_, rfl, hfr, Or.inl ⟨i32_sub0 (by omega), rfl, hu⟩⟩
  · rw [if_neg hc]
    rw [Int32.le_iff_toInt_le, hd, i32_0] at hc
    rw [rd_n (f := 11) k2, rd_n (f := 12) k2, rd_n (f := 16) k2]
    have q1 : (rset (rset R 13 A.length n) 14 A.length w).2 11 A.length = eA e := by simp [rset_g, g1]
    have q2 : (rset (rset R 13 A.length n) 14 A.length w).2 12 A.length = eB e := by simp [rset_g, g2]
    have q3 : (rset (rset R 13 A.length n) 14 A.length w).2 16 A.length = eS e := by simp [rset_g, g6]
    rw [q1, q2, q3]
    have hb : (eB e + n).toInt = eb e + n.toInt := i32_add (by omega) (by omega)
    obtain ⟨pw1, pw2⟩ := pairw_mid hL
    obtain ⟨R', r1, r2, r3, r4⟩ := insert_ok (F := F) (L := A ++ (e.1, (eA e, eB e, n, w, eT e, eS e, eC e)) :: B) (A := A ++ [(e.1, (eA e, eB e, n, w, eT e, eS e, eC e))]) (B := B) (a := eA e) (fr := eB e + n) (sz := eZ e - n) (sp := eS e) p hF hu (by simp) (fun f hf => by
        rw [uP_iff, hb]
        rcases List.mem_append.mp hf with hf | hf
        · rcases pw1 f hf with z | ⟨z1, z2⟩
          · exact Or.inl z
          · refine Or.inr ⟨z1, ?_⟩
            have := uEl_z (hL.1 f (by simp [hf]))
            omega
        · simp at hf; subst hf
          exact Or.inr ⟨rfl, by show (eB e).toInt < _; omega⟩) (fun f hf => by
        rw [uP_iff, hb]
        have hf' : f ∈ B := List.mem_of_head? hf
        rcases pw2 f hf' with z | ⟨z1, z2⟩
        · intro q; rcases q with q | ⟨q, _⟩
          · omega
          · rw [q] at z; omega
        · intro q; rcases q with q | ⟨_, q⟩
          · rw [z1] at q; omega
          · omega) (by simpa using hlen)
    refine ⟨R', by rw [r1]; rfl, hfr.tr r3, Or.inr ⟨by omega, r4, ?_⟩⟩
    simpa [List.append_assoc, rset_1] using r2
/-- the class's split -/
def uNw (S S' : Cst) (h q : Nat) (M : List Nat) (v : Int32) : Prop := nx S' = nx S + 1 ∧ (∀ f p, p ≠ nx S → gI S' f p = if f = 9 ∧ p = h then gI S 9 h + 1 else if f = 10 ∧ p = h then gI S 10 h + 1 else if f = 81 ∧ p = q then v else gI S f p) ∧ (∀ f p, p ≠ nx S → (f = 7 → p ≠ h) → (f = 86 → p ∉ M) → (f = 87 → p ∉ M) → gP S' f p = gP S f p) ∧ gN S' = gN S ∧ gR S' = gR S ∧ gQ S' = gQ S ∧ gI S' 9 h = gI S 9 h + 1 ∧ gI S' 10 h = gI S 10 h + 1
theorem uSF_of {S S' : Cst} {h q : Nat} {M : List Nat} {v : Int32} (g : uNw S S' h q M v) : uSF S S' := by
  obtain ⟨g1, g2, g3, g4, g5, g6, _⟩ := g
  refine ⟨by omega, fun f p hp a b c d => ?_, fun f p hp a b c => ?_, g4, g5, g6⟩
  · rw [g2 f p (by omega), if_neg (fun z => b z.1), if_neg (fun z => c z.1), if_neg (fun z => d ⟨by omega, by omega⟩)]
  · exact g3 f p (by omega) (fun z => absurd z a) (fun z => absurd z b) (fun z => absurd z c)
set_option maxHeartbeats 1000000 in
theorem csplit_ok {F : Nat} {S : Cst} {h q : Nat} {n : Int32} {A B : List Nat} (hh : h < nx S) (hc : uCS S h (A ++ q :: B)) (hnd : (A ++ q :: B).Nodup) (hlt : ∀ p ∈ A ++ q :: B, p < nx S) :
    ∃ S', cf_X0_split F S h (some q) n = some (some (nx S), S') ∧ uCS S' h (A ++ q :: nx S :: B) ∧ uNw S S' h q (A ++ q :: B) n ∧ gI S' 80 (nx S) = gI S 80 q + n ∧ gI S' 81 (nx S) = gI S 81 q - n ∧ gI S' 82 (nx S) = 0 ∧ gI S' 83 (nx S) = gI S 10 h + 1 ∧ gI S' 84 (nx S) = gI S 84 q ∧ gI S' 85 (nx S) = gI S 85 q := by
  have hq : q < nx S := hlt q (by simp)
  unfold cf_X0_split
  simp only [st1, nnS, cf_X5_init, Option.bind_some, cf_X0_tick, st2]
  generalize hS7 : sI (sI (sI (sI (sI (sI (sI (nO S) 80 (nx S) (gI (nO S) 80 q + n)) 81 (nx S) (gI (nO S) 81 q - n)) 84 (nx S) (gI (nO S) 84 q)) 85 (nx S) (gI (nO S) 85 q)) 10 h (gI (sI (sI (sI (sI (nO S) 80 (nx S) (gI (nO S) 80 q + n)) 81 (nx S) (gI (nO S) 81 q - n)) 84 (nx S) (gI (nO S) 84 q)) 85 (nx S) (gI (nO S) 85 q)) 10 h + 1)) 83 (nx S) (gI (sI (sI (sI (sI (sI (nO S) 80 (nx S) (gI (nO S) 80 q + n)) 81 (nx S) (gI (nO S) 81 q - n)) 84 (nx S) (gI (nO S) 84 q)) 85 (nx S) (gI (nO S) 85 q)) 10 h (gI (sI (sI (sI (sI (nO S) 80 (nx S) (gI (nO S) 80 q + n)) 81 (nx S) (gI (nO S) 81 q - n)) 84 (nx S) (gI (nO S) 84 q)) 85 (nx S) (gI (nO S) 85 q)) 10 h + 1)) 10 h)) 81 q n = S7
  have hx : nx S7 = nx S + 1 := by rw [← hS7]; rfl
  have hN : gN S7 = gN S := by rw [← hS7]; rfl
  have hR : gR S7 = gR S := by rw [← hS7]; rfl
  have hQ : gQ S7 = gQ S := by rw [← hS7]; rfl
  have hP : ∀ f p, p ≠ nx S → gP S7 f p = gP S f p := by
    intro f p hp
    rw [← hS7]
    simp only [gP_sI]
    rw [gP_nO, if_neg hp]
  have hI : ∀ f p, p ≠ nx S → gI S7 f p = if f = 10 ∧ p = h then gI S 10 h + 1 else if f = 81 ∧ p = q then n else gI S f p := by
    intro f p hp
    rw [← hS7]
    simp only [gI_sI, gI_nO]
    simp only [hp, and_false, if_false, show h ≠ nx S by omega, show q ≠ nx S by omega]
    grind
  have hv : gI S7 80 (nx S) = gI S 80 q + n ∧ gI S7 81 (nx S) = gI S 81 q - n ∧ gI S7 82 (nx S) = 0 ∧ gI S7 83 (nx S) = gI S 10 h + 1 ∧ gI S7 84 (nx S) = gI S 84 q ∧ gI S7 85 (nx S) = gI S 85 q := by
    rw [← hS7]
    simp only [gI_sI, gI_nO]
    simp [show h ≠ nx S by omega, show q ≠ nx S by omega, show nx S ≠ h by omega, show nx S ≠ q by omega]
  clear hS7
  have hc7 : uCS S7 h ((A ++ [q]) ++ B) := by
    rw [List.append_assoc]
    exact uCS_fr (hP 7 h (by omega)) (fun a ha => ⟨hP _ _ (by have := hlt a ha; omega), hP _ _ (by have := hlt a ha; omega)⟩) hc
  have hl : ulst none (A ++ [q]) = some q := by rw [ulst_ap]; rfl
  obtain ⟨S', s1, s2, s3⟩ := link_ok (F := F) (x := nx S) hc7 (by
    have : nx S ∉ A ++ q :: B := fun z => by have := hlt _ z; omega
    simp only [List.append_assoc, List.singleton_append, List.nodup_append, List.nodup_cons, List.mem_append, List.mem_cons] at hnd this ⊢
    grind)
  rw [hl] at s1
  rw [s1]
  obtain ⟨t1, t2, t3, t4, t5, t6, t7⟩ := s3
  refine ⟨S', rfl, by simpa using s2, ⟨by rw [t7, hx], fun f p hp => ?_, fun f p hp a b c => ?_, by rw [t4, hN], by rw [t5, hR], by rw [t6, hQ], ?_, ?_⟩, ?_, ?_, ?_, ?_, ?_, ?_⟩
  · rw [t1]
    by_cases z : f = 9 ∧ p = h
    · rw [if_pos z, if_pos z, hI 9 h (by omega)]; simp
    · rw [if_neg z, if_neg z, hI f p hp]
  · rw [t2 f p a (fun z => ?_) (fun z => ?_)]
    · exact hP f p hp
    · have := b z; simp at this ⊢; grind
    · have := c z; simp at this ⊢; grind
  · rw [t1, if_pos ⟨rfl, rfl⟩, hI 9 h (by omega)]; simp
  · rw [t1, if_neg (by simp), hI 10 h (by omega)]; simp
  · rw [t1, if_neg (by simp)]; exact hv.1
  · rw [t1, if_neg (by simp)]; exact hv.2.1
  · rw [t1, if_neg (by simp)]; exact hv.2.2.1
  · rw [t1, if_neg (by simp)]; exact hv.2.2.2.1
  · rw [t1, if_neg (by simp)]; exact hv.2.2.2.2.1
  · rw [t1, if_neg (by simp)]; exact hv.2.2.2.2.2
