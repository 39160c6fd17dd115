/-! ===== pure part: a segment is given back, both sides ===== -/
def fpz (S : Cst) (z : Int32) (N : List Nat) : Int32 := match N with
  | [] => z
  | n :: _ => z + gI S 81 n
def fp9 (v : Int32) (N : List Nat) : Int32 := match N with
  | [] => v
  | _ :: _ => v - 1
def fpb (S : Cst) (x : Nat) (N : List Nat) : Int32 := match N with
  | [] => gI S 80 x
  | p :: _ => gI S 80 p
def fin (S : Cst) (x b : Nat) : Prop := gI S 82 b = 0 ∧ gI S 84 b = gI S 84 x
theorem isFree_y {F : Nat} {S : Cst} {b : Nat} {v : Int32} (h : gI S 82 b = 0 ∧ gI S 84 b = v) : cf_X5_isFreeIn F S b v = some 1 := by
  unfold cf_X5_isFreeIn; rw [if_pos h.1, if_pos h.2]
theorem isFree_n {F : Nat} {S : Cst} {b : Nat} {v : Int32} (h : ¬ (gI S 82 b = 0 ∧ gI S 84 b = v)) : cf_X5_isFreeIn F S b v = some 0 := by
  unfold cf_X5_isFreeIn
  by_cases h1 : gI S 82 b = 0
  · rw [if_pos h1, if_neg (fun q => h ⟨h1, q⟩)]
  · rw [if_neg h1]
theorem ulst_mem {A : List Nat} : ∀ {z : Option Nat} {b : Nat}, ulst z A = some b → z = some b ∨ b ∈ A := by
  induction A with
  | nil => intro z b h; exact Or.inl h
  | cons a A ih =>
    intro z b h
    right
    rcases ih h with h | h
    · cases h; exact List.mem_cons_self
    · exact List.mem_cons_of_mem _ h
theorem uhd_mem {B : List Nat} {b : Nat} (h : uhd B none = some b) : b ∈ B := by
  cases B with
  | nil => cases h
  | cons a B => cases h; exact List.mem_cons_self
set_option maxHeartbeats 1000000 in
theorem cf43_ok {F : Nat} {S : Cst} {h x : Nat} {A Q B : List Nat} (hc : uCS S h (A ++ (Q ++ x :: B))) (hnd : (A ++ (Q ++ x :: B)).Nodup) (hQ : (Q = [] ∧ ∀ b, ulst none A = some b → ¬ fin S x b) ∨ (∃ p, Q = [p] ∧ fin S x p)) :
    ∃ S', cf_X0_free_43 F h S (some x) = some S' ∧ uCS S' h (A ++ x :: B) ∧ (∀ f q, gI S' f q = if f = 83 ∧ q = x then gI S 10 h + 1 else if f = 10 ∧ q = h then gI S 10 h + 1 else if f = 9 ∧ q = h then fp9 (gI S 9 h) Q else if f = 80 ∧ q = x then fpb S x Q else if f = 81 ∧ q = x then fpz S (gI S 81 x) Q else gI S f q) ∧ (∀ f q, (f = 7 → q ≠ h) → (f = 86 → q ∉ A ++ (Q ++ x :: B)) → (f = 87 → q ∉ A ++ (Q ++ x :: B)) → gP S' f q = gP S f q) ∧ gN S' = gN S ∧ gR S' = gR S ∧ gQ S' = gQ S ∧ nx S' = nx S := by
  have hpr : gP S 86 x = ulst none (A ++ Q) := by
    have := hc.2
    rw [← List.append_assoc, usg_ap] at this
    exact this.2.1
  have hT : ∀ T : Cst, ((cf_X0_tick F T h).bind fun z8 => st2 z8 fun z8v z8S => some (sI z8S 83 x z8v)) = some (sI (sI T 10 h (gI T 10 h + 1)) 83 x (gI T 10 h + 1)) := by
    intro T
    simp [cf_X0_tick, st1, st2, gI_sI]
  rcases hQ with ⟨rfl, hQ⟩ | ⟨p, rfl, hQ⟩
  · have e1 : cf_X0_free_43 F h S (some x) = some (sI (sI S 10 h (gI S 10 h + 1)) 83 x (gI S 10 h + 1)) := by
      unfold cf_X0_free_43
      simp only [nnS, st1, hpr, List.append_nil]
      cases hA : ulst none A with
      | none => rw [ncN]; exact hT S
      | some b => rw [ncS, isFree_n (hQ b hA), Option.bind_some, if_pos rfl]; exact hT S
    refine ⟨_, e1, uCS_fr (S := S) rfl (fun _ _ => ⟨rfl, rfl⟩) hc, fun f q => ?_, fun f q _ _ _ => rfl, rfl, rfl, rfl, rfl⟩
    simp only [gI_sI, fp9, fpb, fpz]
    grind
  · generalize hS15 : sI (sI S 80 x (gI S 80 p)) 81 x (gI (sI S 80 x (gI S 80 p)) 81 x + gI (sI S 80 x (gI S 80 p)) 81 p) = S15
    have i15 : ∀ f q, gI S15 f q = if f = 81 ∧ q = x then gI S 81 x + gI S 81 p else if f = 80 ∧ q = x then gI S 80 p else gI S f q := by
      intro f q; rw [← hS15]; simp only [gI_sI]; grind
    have p15 : gP S15 = gP S := by rw [← hS15]; rfl
    have n15 : gN S15 = gN S ∧ gR S15 = gR S ∧ gQ S15 = gQ S ∧ nx S15 = nx S := by rw [← hS15]; exact ⟨rfl, rfl, rfl, rfl⟩
    have hc15 : uCS S15 h (A ++ p :: (x :: B)) := uCS_fr (S := S) (by rw [p15]) (fun _ _ => by rw [p15]; exact ⟨rfl, rfl⟩) hc
    obtain ⟨S16, u1, u2, u3⟩ := unlink_ok (F := F) hc15 hnd
    obtain ⟨t1, t2, t3, t4, t5, t6, t7⟩ := u3
    have hl : ulst none (A ++ [p]) = some p := by rw [ulst_ap]; rfl
    have e1 : cf_X0_free_43 F h S (some x) = some (sI (sI S16 10 h (gI S16 10 h + 1)) 83 x (gI S16 10 h + 1)) := by
      unfold cf_X0_free_43
      simp only [nnS, st1, hpr, hl, ncS]
      rw [isFree_y hQ, Option.bind_some, if_neg (by decide), hS15, u1, Option.bind_some]
      exact hT S16
    have hx : A ++ ([p] ++ x :: B) = A ++ p :: x :: B := rfl
    refine ⟨_, e1, uCS_fr (S := S16) rfl (fun _ _ => ⟨rfl, rfl⟩) u2, fun f q => ?_, fun f q a b c => ?_, by rw [gN_sI, gN_sI, t4, n15.1], by rw [gR_sI, gR_sI, t5, n15.2.1], by rw [gQ_sI, gQ_sI, t6, n15.2.2.1], by rw [nx_sI, nx_sI, t7, n15.2.2.2]⟩
    · simp only [gI_sI, fp9, fpb, fpz, t1, i15]
      grind
    · rw [gP_sI, gP_sI, t2 f q a (fun z => by rw [hx] at b; exact b z) (fun z => by rw [hx] at c; exact c z), p15]
set_option maxHeartbeats 2000000 in
theorem cfree_ok {F : Nat} {S : Cst} {h x : Nat} {A Q N B : List Nat} (hc : uCS S h (A ++ (Q ++ x :: (N ++ B)))) (hnd : (A ++ (Q ++ x :: (N ++ B))).Nodup) (hQ : (Q = [] ∧ ∀ b, ulst none A = some b → ¬ fin S x b) ∨ (∃ p, Q = [p] ∧ fin S x p)) (hN : (N = [] ∧ ∀ b, uhd B none = some b → ¬ fin S x b) ∨ (∃ n, N = [n] ∧ fin S x n)) :
    ∃ S', cf_X0_free F S h (some x) = some S' ∧ uCS S' h (A ++ x :: B) ∧ (∀ f q, gI S' f q = if f = 83 ∧ q = x then gI S 10 h + 1 else if f = 10 ∧ q = h then gI S 10 h + 1 else if f = 9 ∧ q = h then fp9 (fp9 (gI S 9 h) N) Q else if f = 80 ∧ q = x then fpb S x Q else if f = 81 ∧ q = x then fpz S (fpz S (gI S 81 x) N) Q else if f = 82 ∧ q = x then 0 else gI S f q) ∧ (∀ f q, (f = 7 → q ≠ h) → (f = 86 → q ∉ A ++ (Q ++ x :: (N ++ B))) → (f = 87 → q ∉ A ++ (Q ++ x :: (N ++ B))) → gP S' f q = gP S f q) ∧ gN S' = gN S ∧ gR S' = gR S ∧ gQ S' = gQ S ∧ nx S' = nx S := by
  have hnx : gP S 87 x = uhd (N ++ B) none := by
    have := hc.2
    rw [← List.append_assoc, usg_ap] at this
    exact this.2.2.1
  have nA : x ∉ A := by
    rw [List.nodup_append] at hnd
    intro z; exact hnd.2.2 x z x (by simp) rfl
  have nd2 : (Q ++ x :: (N ++ B)).Nodup := (List.nodup_append.mp hnd).2.1
  have nQ : x ∉ Q := by
    rw [List.nodup_append] at nd2
    intro z; exact nd2.2.2 x z x (by simp) rfl
  have nd3 : (x :: (N ++ B)).Nodup := (List.nodup_append.mp nd2).2.1
  have nNB : x ∉ N ++ B := (List.nodup_cons.mp nd3).1
  generalize hS2 : sI S 82 x 0 = S2
  have i2 : ∀ f q, gI S2 f q = if f = 82 ∧ q = x then 0 else gI S f q := fun f q => by rw [← hS2, gI_sI]
  have p2 : gP S2 = gP S := by rw [← hS2]; rfl
  have n2 : gN S2 = gN S ∧ gR S2 = gR S ∧ gQ S2 = gQ S ∧ nx S2 = nx S := by rw [← hS2]; exact ⟨rfl, rfl, rfl, rfl⟩
  have f2 : ∀ b, b ≠ x → (fin S2 x b ↔ fin S x b) := by
    intro b hb
    unfold fin
    rw [i2, i2, i2, if_neg (fun z => hb z.2), if_neg (by simp), if_neg (by simp)]
  have hc2 : uCS S2 h (A ++ (Q ++ x :: (N ++ B))) := uCS_fr (S := S) (by rw [p2]) (fun _ _ => by rw [p2]; exact ⟨rfl, rfl⟩) hc
  rcases hN with ⟨rfl, hN⟩ | ⟨n, rfl, hN⟩
  · have hQ2 : (Q = [] ∧ ∀ b, ulst none A = some b → ¬ fin S2 x b) ∨ (∃ p, Q = [p] ∧ fin S2 x p) := by
      rcases hQ with ⟨q1, q2⟩ | ⟨p, q1, q2⟩
      · refine Or.inl ⟨q1, fun b hb => ?_⟩
        rcases ulst_mem hb with z | z
        · cases z
        · rw [f2 b (fun w => nA (by rw [← w]; exact z))]; exact q2 b hb
      · refine Or.inr ⟨p, q1, (f2 p (fun w => nQ (by rw [← w, q1]; simp))).mpr q2⟩
    obtain ⟨S', u1, u2, u3, u4, u5, u6, u7, u8⟩ := cf43_ok (F := F) (Q := Q) hc2 hnd hQ2
    have e1 : cf_X0_free F S h (some x) = some S' := by
      unfold cf_X0_free
      simp only [nnS, st1, hS2, p2, hnx, List.nil_append]
      cases hB : uhd B none with
      | none => rw [ncN]; exact u1
      | some b =>
        have hbx : b ≠ x := fun w => nNB (by rw [← w]; exact uhd_mem hB)
        rw [ncS, isFree_n (fun z => hN b hB ((f2 b hbx).mp z)), Option.bind_some, if_pos rfl]; exact u1
    refine ⟨S', e1, u2, fun f q => ?_, fun f q a b c => ?_, by rw [u5, n2.1], by rw [u6, n2.2.1], by rw [u7, n2.2.2.1], by rw [u8, n2.2.2.2]⟩
    · rw [u3]
      rcases hQ with ⟨rfl, _⟩ | ⟨p, rfl, _⟩
      · simp only [fp9, fpb, fpz, i2]; grind
      · have : p ≠ x := fun w => nQ (by rw [← w]; simp)
        simp only [fp9, fpb, fpz, i2]; grind
    · rw [u4 f q a b c, p2]
  · generalize hS21 : sI S2 81 x (gI S2 81 x + gI S2 81 n) = S21
    have hnx' : n ≠ x := fun w => nNB (by rw [← w]; simp)
    have i21 : ∀ f q, gI S21 f q = if f = 81 ∧ q = x then gI S 81 x + gI S 81 n else if f = 82 ∧ q = x then 0 else gI S f q := by
      intro f q; rw [← hS21]; simp only [gI_sI, i2]; grind
    have p21 : gP S21 = gP S := by rw [← hS21, gP_sI, p2]
    have n21 : gN S21 = gN S ∧ gR S21 = gR S ∧ gQ S21 = gQ S ∧ nx S21 = nx S := by rw [← hS21]; exact n2
    have hl : A ++ (Q ++ x :: ([n] ++ B)) = (A ++ (Q ++ [x])) ++ n :: B := by simp
    have hc21 : uCS S21 h ((A ++ (Q ++ [x])) ++ n :: B) := by
      rw [← hl]
      exact uCS_fr (S := S) (by rw [p21]) (fun _ _ => by rw [p21]; exact ⟨rfl, rfl⟩) hc
    obtain ⟨S22, v1, v2, v3⟩ := unlink_ok (F := F) hc21 (by rw [← hl]; exact hnd)
    obtain ⟨t1, t2, t3, t4, t5, t6, t7⟩ := v3
    have hl2 : (A ++ (Q ++ [x])) ++ B = A ++ (Q ++ x :: B) := by simp
    rw [hl2] at v2
    have f22 : ∀ b, b ≠ x → (fin S22 x b ↔ fin S x b) := by
      intro b hb
      unfold fin
      rw [t1, t1, t1, if_neg (by simp), if_neg (by simp), if_neg (by simp), i21, i21, i21]
      simp [hb]
    have hQ2 : (Q = [] ∧ ∀ b, ulst none A = some b → ¬ fin S22 x b) ∨ (∃ p, Q = [p] ∧ fin S22 x p) := by
      rcases hQ with ⟨q1, q2⟩ | ⟨p, q1, q2⟩
      · refine Or.inl ⟨q1, fun b hb => ?_⟩
        rcases ulst_mem hb with z | z
        · cases z
        · rw [f22 b (fun w => nA (by rw [← w]; exact z))]; exact q2 b hb
      · refine Or.inr ⟨p, q1, (f22 p (fun w => nQ (by rw [← w, q1]; simp))).mpr q2⟩
    have hnd2 : (A ++ (Q ++ x :: B)).Nodup := by
      refine List.Sublist.nodup ?_ hnd
      refine List.Sublist.append (List.Sublist.refl _) (List.Sublist.append (List.Sublist.refl _) (List.Sublist.cons₂ _ ?_))
      exact List.sublist_append_right _ _
    obtain ⟨S', u1, u2, u3, u4, u5, u6, u7, u8⟩ := cf43_ok (F := F) (Q := Q) v2 hnd2 hQ2
    have e1 : cf_X0_free F S h (some x) = some S' := by
      unfold cf_X0_free
      simp only [nnS, st1, hS2, p2, hnx]
      show nc (some n) _ _ = _
      rw [ncS, isFree_y ((f2 n hnx').mpr hN), Option.bind_some, if_neg (by decide), hS21, v1, Option.bind_some]
      exact u1
    have hsub : ∀ q, q ∉ A ++ (Q ++ x :: ([n] ++ B)) → q ∉ A ++ (Q ++ x :: B) := by
      intro q hq z; apply hq; simp at z ⊢; grind
    refine ⟨S', e1, u2, fun f q => ?_, fun f q a b c => ?_, by rw [u5, t4, n21.1], by rw [u6, t5, n21.2.1], by rw [u7, t6, n21.2.2.1], by rw [u8, t7, n21.2.2.2]⟩
    · rw [u3]
      rcases hQ with ⟨rfl, _⟩ | ⟨p, rfl, _⟩
      · simp only [fp9, fpb, fpz, t1, i21]; grind
      · have : p ≠ x := fun w => nQ (by rw [← w]; simp)
        simp only [fp9, fpb, fpz, t1, i21]; grind
    · rw [u4 f q a (fun z => hsub q (b z)) (fun z => hsub q (c z)), t2 f q a (fun z => by rw [← hl]; exact b z) (fun z => by rw [← hl]; exact c z), p21]
/-! the reference's side -/
def gtl (F : Nat) (kG : Rst → Int32 → Int32 → Option Rst) (R4 : Rst) (x1 x3 : Int32) : Option Rst := rd R4 16 x3 fun v5 => rd R4 23 v5 fun v6 => if v6 = 0 then (some R4) else (rd R4 13 x3 fun v8 => rd R4 21 v5 fun v9 => if v8 = v9 then ((rf_remove F R4 x3).bind fun R11 => wr R11 22 v5 (vp_nar .boolean (0 : Int32)) fun R12 => st1 (rput R12 24 ((R12.1 24) - 1)) fun R13 => rd R13 3 x1 fun v14 => rd R13 20 v5 fun v15 => (kG R13 v14 v15).bind fun R16 => some R16) else (some R4))
def fq (Q : List En) (e : En) (t : Int32) : En := match Q with
  | [] => (e.1, (eA e, eB e, eZ e, 0, t, eS e, eC e))
  | p :: _ => (e.1, (eA p, eB p, eZ p + eZ e, 0, t, eS p, eC p))
def fn (N : List En) (e : En) : En := match N with
  | [] => e
  | n :: _ => (e.1, (eA e, eB e, eZ e + eZ n, eO e, eT e, eS e, eC e))
theorem rg153 {F : Nat} {kG : Rst → Int32 → Int32 → Option Rst} {R : Rst} {A B : List En} {e : En} {a : Int32} (p : Nat) (h : uRL R (A ++ e :: B)) : ∃ R', rf_gives_153 F kG R a (nI A.length) = gtl F kG R' a (nI A.length) ∧ uFr R R' ∧ R'.1 18 = R.1 18 + 1 ∧ uRL R' (A ++ (p, (eA e, eB e, eZ e, 0, R.1 18 + 1, eS e, eC e)) :: B) := by
  obtain ⟨k1, k2, g1, g2, g3, g4, g5, g6, g7⟩ := uRL_g h (k := A.length) (e := e) get_mid
  obtain ⟨R', f1, f2, f3, f4, f5⟩ := frees_ok (F := F) (R := R) k2
  refine ⟨R', ?_, f3, f4, ?_⟩
  · unfold rf_gives_153; rw [f1]; rfl
  · refine uRL_put h rfl f5 (fun m => ?_)
    rw [f2, g1, g2, g3, g6, g7]
theorem rg82 {F : Nat} {kG : Rst → Int32 → Int32 → Option Rst} {R : Rst} {A Q B : List En} {e : En} {a : Int32} (hF : 1000 ≤ F) (h : uRL R (A ++ (Q ++ e :: B))) (hQ : (Q = [] ∧ ∀ A1 p, A = A1 ++ [p] → ¬ (eA p = a ∧ eS p = eS e ∧ eO p = 0)) ∨ (∃ p, Q = [p] ∧ eA p = a ∧ eS p = eS e ∧ eO p = 0)) :
    ∃ R', rf_gives_82 F kG R a (nI (A ++ Q).length) = gtl F kG R' a (nI A.length) ∧ uFr R R' ∧ R'.1 18 = R.1 18 + 1 ∧ uRL R' (A ++ fq Q e (R.1 18 + 1) :: B) := by
  rcases hQ with ⟨rfl, hQ⟩ | ⟨p, rfl, p1, p2, p3⟩
  · obtain ⟨R', r1, r2, r3, r4⟩ := rg153 (F := F) (kG := kG) (a := a) e.1 (show uRL R (A ++ e :: B) from h)
    refine ⟨R', ?_, r2, r3, r4⟩
    rw [← r1, List.append_nil]
    unfold rf_gives_82
    rcases list_snoc A with rfl | ⟨A1, p, rfl⟩
    · rw [if_pos (by decide)]
    · have hl : (A1 ++ [p]).length = A1.length + 1 := by simp
      obtain ⟨k1, k2, g1, g2, g3, g4, g5, g6, g7⟩ := uRL_g h (k := A1.length) (e := p) (by simp)
      obtain ⟨l1, l2, m1, m2, m3, m4, m5, m6, m7⟩ := uRL_g (show uRL R ((A1 ++ [p]) ++ e :: B) from h) (k := (A1 ++ [p]).length) (e := e) get_mid
      rw [hl] at l2 m6
      have hq := hQ A1 p rfl
      rw [hl, if_neg (nI_nle (by omega) (by omega)), nI_pred, rd_n (f := 11) k2, g1]
      by_cases q1 : eA p = a
      · rw [if_pos q1, rd_n (f := 16) k2, rd_n (f := 16) l2, g6, m6]
        by_cases q2 : eS p = eS e
        · rw [if_pos q2, rd_n (f := 14) k2, g4, if_neg (fun q3 => hq ⟨q1, q2, q3⟩)]
        · rw [if_neg q2]
      · rw [if_neg q1]
  · have h' : uRL R (A ++ p :: e :: B) := h
    obtain ⟨k1, k2, g1, g2, g3, g4, g5, g6, g7⟩ := uRL_g h' (k := A.length) (e := p) get_mid
    obtain ⟨l1, l2, m1, m2, m3, m4, m5, m6, m7⟩ := uRL_g h' (k := A.length + 1) (e := e) (by simp)
    have hl : (A ++ [p]).length = A.length + 1 := by simp
    have hu : uRL (rset R 13 A.length (eZ p + eZ e)) ((A ++ [(p.1, (eA p, eB p, eZ p + eZ e, eO p, eT p, eS p, eC p))]) ++ e :: B) := by
      have : uRL (rset R 13 A.length (eZ p + eZ e)) (A ++ (p.1, (eA p, eB p, eZ p + eZ e, eO p, eT p, eS p, eC p)) :: (e :: B)) := by
        refine uRL_put h' rfl rfl (fun m => ?_)
        unfold sgk
        by_cases hm : m = A.length
        · subst hm; simp [rset_g, g1, g2, g4, g5, g6, g7]
        · simp [rset_g, hm]
      simpa using this
    obtain ⟨R1, r1, r2, r3, r4⟩ := remove_ok (F := F) hF hu rfl
    obtain ⟨R', s1, s2, s3, s4⟩ := rg153 (F := F) (kG := kG) (a := a) (R := R1) (A := A) (B := B) (e := (p.1, (eA p, eB p, eZ p + eZ e, eO p, eT p, eS p, eC p))) e.1 (by simpa using r2)
    have hr : R1.1 18 = R.1 18 := r4
    refine ⟨R', ?_, (uFr_set (by decide) (by decide)).tr (r3.tr s2), by rw [s3, hr], ?_⟩
    · rw [← s1]
      unfold rf_gives_82
      rw [hl, if_neg (nI_nle (by omega) (by omega)), nI_pred, pk_m1, rd_n (f := 11) k2, g1, if_pos p1, rd_n (f := 16) k2, rd_n (f := 16) l2, g6, m6, if_pos p2, rd_n (f := 14) k2, g4, if_pos p3, nI_1, rd_n (f := 13) k2, rd_n (f := 13) l2, g3, m3, wr_n (f := 13) k2]
      have hl2 : (A ++ [(p.1, (eA p, eB p, eZ p + eZ e, eO p, eT p, eS p, eC p))]).length = A.length + 1 := by simp
      rw [hl2] at r1
      rw [r1, Option.bind_some]
    · rw [hr] at s4; exact s4
theorem rgB {F : Nat} {kG : Rst → Int32 → Int32 → Option Rst} {R : Rst} {A N B : List En} {e : En} {a : Int32} (hF : 1000 ≤ F) (h : uRL R (A ++ e :: (N ++ B))) (hpos : rf_position F R a (eB e).toInt64 = some (nI A.length)) (hN : (N = [] ∧ ∀ n, B.head? = some n → ¬ (eA n = a ∧ eS n = eS e ∧ eO n = 0)) ∨ (∃ n, N = [n] ∧ eA n = a ∧ eS n = eS e ∧ eO n = 0)) :
    ∃ R', rf_givesB F kG R a (eB e) = rf_gives_82 F kG R' a (nI A.length) ∧ uFr R R' ∧ R'.1 18 = R.1 18 ∧ uRL R' (A ++ fn N e :: B) := by
  obtain ⟨k1, k2, g1, g2, g3, g4, g5, g6, g7⟩ := uRL_g h (k := A.length) (e := e) get_mid
  have h600 := h.2.1
  unfold rf_givesB
  rw [hpos, Option.bind_some, nI_1, h.1]
  rcases hN with ⟨rfl, hN⟩ | ⟨n, rfl, p1, p2, p3⟩
  · refine ⟨R, ?_, uFr.rf, rfl, h⟩
    cases B with
    | nil => rw [if_pos (nI_le (by simp) (by simp; omega))]
    | cons n B =>
      obtain ⟨l1, l2, m1, m2, m3, m4, m5, m6, m7⟩ := uRL_g h (k := A.length + 1) (e := n) (by simp)
      have hq := hN n rfl
      rw [if_neg (nI_ge l1 (by omega)), rd_n (f := 11) l2, m1]
      by_cases q1 : eA n = a
      · rw [if_pos q1, rd_n (f := 16) l2, rd_n (f := 16) k2, g6, m6]
        by_cases q2 : eS n = eS e
        · rw [if_pos q2, rd_n (f := 14) l2, m4, if_neg (fun q3 => hq ⟨q1, q2, q3⟩)]
        · rw [if_neg q2]
      · rw [if_neg q1]
  · have h' : uRL R (A ++ e :: n :: B) := h
    obtain ⟨l1, l2, m1, m2, m3, m4, m5, m6, m7⟩ := uRL_g h (k := A.length + 1) (e := n) (by simp)
    have hu : uRL (rset R 13 A.length (eZ e + eZ n)) ((A ++ [(e.1, (eA e, eB e, eZ e + eZ n, eO e, eT e, eS e, eC e))]) ++ n :: B) := by
      have : uRL (rset R 13 A.length (eZ e + eZ n)) (A ++ (e.1, (eA e, eB e, eZ e + eZ n, eO e, eT e, eS e, eC e)) :: (n :: B)) := by
        refine uRL_put h' rfl rfl (fun m => ?_)
        unfold sgk
        by_cases hm : m = A.length
        · subst hm; simp [rset_g, g1, g2, g4, g5, g6, g7]
        · simp [rset_g, hm]
      simpa using this
    obtain ⟨R1, r1, r2, r3, r4⟩ := remove_ok (F := F) hF hu rfl
    refine ⟨R1, ?_, (uFr_set (by decide) (by decide)).tr r3, r4, ?_⟩
    · have hl2 : (A ++ [(e.1, (eA e, eB e, eZ e + eZ n, eO e, eT e, eS e, eC e))]).length = A.length + 1 := by simp
      rw [hl2] at r1
      rw [if_neg (nI_ge l1 (by omega)), rd_n (f := 11) l2, m1, if_pos p1, rd_n (f := 16) l2, rd_n (f := 16) k2, g6, m6, if_pos p2, rd_n (f := 14) l2, m4, if_pos p3, rd_n (f := 13) k2, rd_n (f := 13) l2, g3, m3, wr_n (f := 13) k2, r1, Option.bind_some]
    · have e5 : (A ++ [(e.1, (eA e, eB e, eZ e + eZ n, eO e, eT e, eS e, eC e))]) ++ B = A ++ fn [n] e :: B := by simp [fn]
      rw [e5] at r2; exact r2
