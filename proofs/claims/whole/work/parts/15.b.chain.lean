/-! ===== pure part: the class's chains ===== -/
theorem gI_sI {S : Cst} {f a : Nat} {v : Int32} (f' a' : Nat) : gI (sI S f a v) f' a' = if f' = f ∧ a' = a then v else gI S f' a' := by
  show up2 S.1 f a v f' a' = _
  unfold up2 va_up
  by_cases hf : f' = f
  · subst hf
    by_cases hj : a' = a
    · simp [hj]
    · simp [hj]; rfl
  · simp [hf]; rfl
theorem gP_sP {S : Cst} {f a : Nat} {v : Option Nat} (f' a' : Nat) : gP (sP S f a v) f' a' = if f' = f ∧ a' = a then v else gP S f' a' := by
  show up2 S.2.1 f a v f' a' = _
  unfold up2 va_up
  by_cases hf : f' = f
  · subst hf
    by_cases hj : a' = a
    · simp [hj]
    · simp [hj]; rfl
  · simp [hf]; rfl
theorem gI_sP {S : Cst} {f a : Nat} {v : Option Nat} : gI (sP S f a v) = gI S := rfl
theorem gP_sI {S : Cst} {f a : Nat} {v : Int32} : gP (sI S f a v) = gP S := rfl
theorem gR_sI {S : Cst} {f a : Nat} {v : Int32} : gR (sI S f a v) = gR S := rfl
theorem gR_sP {S : Cst} {f a : Nat} {v : Option Nat} : gR (sP S f a v) = gR S := rfl
theorem gQ_sI {S : Cst} {f a : Nat} {v : Int32} : gQ (sI S f a v) = gQ S := rfl
theorem gQ_sP {S : Cst} {f a : Nat} {v : Option Nat} : gQ (sP S f a v) = gQ S := rfl
theorem gN_sI {S : Cst} {f a : Nat} {v : Int32} : gN (sI S f a v) = gN S := rfl
theorem gN_sP {S : Cst} {f a : Nat} {v : Option Nat} : gN (sP S f a v) = gN S := rfl
theorem gJ_sI {S : Cst} {f a : Nat} {v : Int32} : gJ (sI S f a v) = gJ S := rfl
theorem gJ_sP {S : Cst} {f a : Nat} {v : Option Nat} : gJ (sP S f a v) = gJ S := rfl
theorem nx_sI {S : Cst} {f a : Nat} {v : Int32} : nx (sI S f a v) = nx S := rfl
theorem nx_sP {S : Cst} {f a : Nat} {v : Option Nat} : nx (sP S f a v) = nx S := rfl
theorem gI_nO {S : Cst} (f a : Nat) : gI (nO S) f a = if a = nx S then 0 else gI S f a := rfl
theorem gP_nO {S : Cst} (f a : Nat) : gP (nO S) f a = if a = nx S then none else gP S f a := rfl
theorem gN_nO {S : Cst} : gN (nO S) = gN S := rfl
theorem gR_nO {S : Cst} : gR (nO S) = gR S := rfl
theorem gQ_nO {S : Cst} : gQ (nO S) = gQ S := rfl
theorem nx_nO {S : Cst} : nx (nO S) = nx S + 1 := rfl
theorem ncN {β : Type} {a : β} {f : Nat → β} : nc none a f = a := rfl
theorem ncS {β : Type} {a : β} {f : Nat → β} {x : Nat} : nc (some x) a f = f x := rfl
theorem nnS {β : Type} {f : Nat → Option β} {x : Nat} : nn (some x) f = f x := rfl
def uhd (l : List Nat) (z : Option Nat) : Option Nat := match l with
  | [] => z
  | a :: _ => some a
def ulst (z : Option Nat) : List Nat → Option Nat
  | [] => z
  | a :: t => ulst (some a) t
def usg (S : Cst) (pr : Option Nat) : List Nat → Option Nat → Prop
  | [], _ => True
  | a :: t, z => gP S 86 a = pr ∧ gP S 87 a = uhd t z ∧ usg S (some a) t z
def uCS (S : Cst) (h : Nat) (l : List Nat) : Prop := gP S 7 h = uhd l none ∧ usg S none l none
theorem uhd_ap {A B : List Nat} {z : Option Nat} : uhd (A ++ B) z = uhd A (uhd B z) := by cases A <;> rfl
theorem ulst_ap {A B : List Nat} : ∀ {z : Option Nat}, ulst z (A ++ B) = ulst (ulst z A) B := by
  induction A with
  | nil => intro z; rfl
  | cons a A ih => intro z; exact ih
theorem usg_ap {S : Cst} {A B : List Nat} {z : Option Nat} : ∀ {pr : Option Nat}, usg S pr (A ++ B) z ↔ usg S pr A (uhd B z) ∧ usg S (ulst pr A) B z := by
  induction A with
  | nil => intro pr; simp [usg, ulst]
  | cons a A ih =>
    intro pr
    simp only [List.cons_append, usg, ulst]
    rw [ih, uhd_ap]
    simp [and_assoc]
theorem usg_fr {S S' : Cst} {z : Option Nat} : ∀ {l : List Nat} {pr : Option Nat}, (∀ a ∈ l, gP S' 86 a = gP S 86 a ∧ gP S' 87 a = gP S 87 a) → usg S pr l z → usg S' pr l z := by
  intro l
  induction l with
  | nil => intro pr _ _; trivial
  | cons a l ih =>
    intro pr h g
    obtain ⟨g1, g2, g3⟩ := g
    have ha := h a List.mem_cons_self
    exact ⟨by rw [ha.1]; exact g1, by rw [ha.2]; exact g2, ih (fun b hb => h b (List.mem_cons_of_mem _ hb)) g3⟩
theorem uCS_fr {S S' : Cst} {h : Nat} {l : List Nat} (hh : gP S' 7 h = gP S 7 h) (hl : ∀ a ∈ l, gP S' 86 a = gP S 86 a ∧ gP S' 87 a = gP S 87 a) (c : uCS S h l) : uCS S' h l := ⟨by rw [hh]; exact c.1, usg_fr hl c.2⟩
/-- what a link or an unlink leaves -/
def uCf (S S' : Cst) (h : Nat) (M : List Nat) (v : Int32) : Prop := (∀ f p, gI S' f p = if f = 9 ∧ p = h then v else gI S f p) ∧ (∀ f p, (f = 7 → p ≠ h) → (f = 86 → p ∉ M) → (f = 87 → p ∉ M) → gP S' f p = gP S f p) ∧ gJ S' = gJ S ∧ gN S' = gN S ∧ gR S' = gR S ∧ gQ S' = gQ S ∧ nx S' = nx S
theorem list_snoc {α : Type} (l : List α) : l = [] ∨ ∃ t z, l = t ++ [z] := by
  rcases List.eq_nil_or_concat l with h | ⟨t, z, h⟩
  · exact Or.inl h
  · exact Or.inr ⟨t, z, by simpa using h⟩
set_option maxHeartbeats 1000000 in
theorem link_ok {F : Nat} {S : Cst} {h x : Nat} {A B : List Nat} (hc : uCS S h (A ++ B)) (hnd : (A ++ x :: B).Nodup) : ∃ S', cf_X0_link F S h (some x) (ulst none A) = some S' ∧ uCS S' h (A ++ x :: B) ∧ uCf S S' h (A ++ x :: B) (gI S 9 h + 1) := by
  obtain ⟨c1, c2⟩ := hc
  rw [usg_ap] at c2
  obtain ⟨c2, c3⟩ := c2
  rw [uhd_ap] at c1
  rcases list_snoc A with rfl | ⟨A, y, rfl⟩
  · simp only [ulst, uhd, List.nil_append] at *
    unfold cf_X0_link
    simp only [ncN, st1, cf_X0_link_15, nnS, cf_X0_link_43, c1]
    cases B with
    | nil =>
      simp only [uhd, ncN]
      refine ⟨_, rfl, ⟨?_, ?_⟩, ?_⟩
      · simp [gP_sI, gP_sP, uhd]
      · simp [usg, gP_sI, gP_sP, uhd]
      · refine ⟨fun f p => ?_, fun f p a1 a2 a3 => ?_, rfl, rfl, rfl, rfl, rfl⟩
        · simp [gI_sI, gI_sP]
        · simp only [gP_sI, gP_sP]; simp at a1 a2 a3; grind
    | cons b B =>
      simp only [uhd, ncS]
      obtain ⟨d1, d2, d3⟩ := c3
      simp at hnd
      refine ⟨_, rfl, ⟨?_, ?_⟩, ?_⟩
      · simp [gP_sI, gP_sP, uhd]
      · refine ⟨?_, ?_, ?_, ?_, usg_fr (fun a ha => ?_) d3⟩
        · simp [gP_sI, gP_sP]; grind
        · simp [gP_sI, gP_sP, uhd]
        · simp [gP_sI, gP_sP]
        · simp [gP_sI, gP_sP]; grind
        · simp only [gP_sI, gP_sP]; grind
      · refine ⟨fun f p => ?_, fun f p a1 a2 a3 => ?_, rfl, rfl, rfl, rfl, rfl⟩
        · simp [gI_sI, gI_sP]
        · simp only [gP_sI, gP_sP]; simp at a1 a2 a3; grind
  · have hl : ulst none (A ++ [y]) = some y := by rw [ulst_ap]; rfl
    rw [hl] at c3
    rw [hl]
    rw [usg_ap] at c2
    obtain ⟨c2, c4, c5, _⟩ := c2
    unfold cf_X0_link
    simp only [uhd] at c5
    simp only [ncS, st1, cf_X0_link_15, nnS, cf_X0_link_43, c5]
    have hnd' : (A ++ y :: x :: B).Nodup := by simpa using hnd
    rw [List.nodup_append] at hnd'
    obtain ⟨n1, n2, n3⟩ := hnd'
    cases B with
    | nil =>
      simp only [uhd, ncN]
      refine ⟨_, rfl, ⟨?_, ?_⟩, ?_⟩
      · simp only [gP_sI, gP_sP, uhd_ap, c1]; simp [uhd]
      · rw [usg_ap, usg_ap]
        refine ⟨⟨usg_fr (fun a ha => ?_) c2, ?_, ?_, trivial⟩, ?_, ?_, trivial⟩
        · simp only [gP_sI, gP_sP]; grind
        · simp only [gP_sI, gP_sP]; grind
        · simp only [gP_sI, gP_sP, uhd]; grind
        · rw [hl]; simp only [gP_sI, gP_sP]; grind
        · simp only [gP_sI, gP_sP, uhd]; grind
      · refine ⟨fun f p => ?_, fun f p a1 a2 a3 => ?_, rfl, rfl, rfl, rfl, rfl⟩
        · simp [gI_sI, gI_sP]
        · simp only [gP_sI, gP_sP]; simp at a1 a2 a3; grind
    | cons b B =>
      simp only [uhd, ncS]
      obtain ⟨d1, d2, d3⟩ := c3
      refine ⟨_, rfl, ⟨?_, ?_⟩, ?_⟩
      · simp only [gP_sI, gP_sP, uhd_ap, c1]; simp [uhd]
      · rw [usg_ap, usg_ap]
        refine ⟨⟨usg_fr (fun a ha => ?_) c2, ?_, ?_, trivial⟩, ?_, ?_, ?_, ?_, usg_fr (fun a ha => ?_) d3⟩
        · simp only [gP_sI, gP_sP]; grind
        · simp only [gP_sI, gP_sP]; grind
        · simp only [gP_sI, gP_sP, uhd]; grind
        · rw [hl]; simp only [gP_sI, gP_sP]; grind
        · simp only [gP_sI, gP_sP, uhd]; grind
        · simp only [gP_sI, gP_sP]; grind
        · simp only [gP_sI, gP_sP]; grind
        · simp only [gP_sI, gP_sP]; grind
      · refine ⟨fun f p => ?_, fun f p a1 a2 a3 => ?_, rfl, rfl, rfl, rfl, rfl⟩
        · simp [gI_sI, gI_sP]
        · simp only [gP_sI, gP_sP]; simp at a1 a2 a3; grind
set_option maxHeartbeats 1000000 in
theorem unlink_ok {F : Nat} {S : Cst} {h x : Nat} {A B : List Nat} (hc : uCS S h (A ++ x :: B)) (hnd : (A ++ x :: B).Nodup) : ∃ S', cf_X0_unlink F S h (some x) = some S' ∧ uCS S' h (A ++ B) ∧ uCf S S' h (A ++ x :: B) (gI S 9 h - 1) := by
  obtain ⟨c1, c2⟩ := hc
  rw [usg_ap] at c2
  obtain ⟨c2, c3, c4, c5⟩ := c2
  rw [uhd_ap] at c1
  unfold cf_X0_unlink
  simp only [nnS, st1, c3, c4, cf_X0_unlink_27]
  rcases list_snoc A with rfl | ⟨A, y, rfl⟩
  · simp only [ulst, ncN, List.nil_append]
    rw [List.nil_append] at hnd
    cases B with
    | nil =>
      simp only [uhd, ncN]
      refine ⟨_, rfl, ⟨?_, trivial⟩, ?_⟩
      · simp [gP_sI, gP_sP, uhd]
      · refine ⟨fun f p => ?_, fun f p a1 a2 a3 => ?_, rfl, rfl, rfl, rfl, rfl⟩
        · simp [gI_sI, gI_sP]
        · simp only [gP_sI, gP_sP]; simp at a1 a2 a3; grind
    | cons b B =>
      obtain ⟨d1, d2, d3⟩ := c5
      simp only [uhd, ncS]
      refine ⟨_, rfl, ⟨?_, ?_, ?_, usg_fr (fun a ha => ?_) d3⟩, ?_⟩
      · simp [gP_sI, gP_sP, uhd]
      · simp [gP_sI, gP_sP]
      · simp only [gP_sI, gP_sP]; grind
      · simp only [gP_sI, gP_sP]; grind
      · refine ⟨fun f p => ?_, fun f p a1 a2 a3 => ?_, rfl, rfl, rfl, rfl, rfl⟩
        · simp [gI_sI, gI_sP]
        · simp only [gP_sI, gP_sP]; simp at a1 a2 a3; grind
  · have hl : ulst none (A ++ [y]) = some y := by rw [ulst_ap]; rfl
    rw [usg_ap] at c2
    obtain ⟨c2, c6, c7, _⟩ := c2
    simp only [hl, ncS]
    have hnd' : (A ++ y :: x :: B).Nodup := by simpa using hnd
    rw [List.nodup_append] at hnd'
    obtain ⟨n1, n2, n3⟩ := hnd'
    cases B with
    | nil =>
      simp only [uhd, ncN]
      refine ⟨_, rfl, ⟨?_, ?_⟩, ?_⟩
      · simp only [gP_sI, gP_sP, List.append_nil, uhd_ap, c1]; simp [uhd]
      · rw [List.append_nil, usg_ap]
        refine ⟨usg_fr (fun a ha => ?_) c2, ?_, ?_, trivial⟩
        · simp only [gP_sI, gP_sP]; grind
        · simp only [gP_sI, gP_sP]; grind
        · simp only [gP_sI, gP_sP, uhd]; grind
      · refine ⟨fun f p => ?_, fun f p a1 a2 a3 => ?_, rfl, rfl, rfl, rfl, rfl⟩
        · simp [gI_sI, gI_sP]
        · simp only [gP_sI, gP_sP]; simp at a1 a2 a3; grind
    | cons b B =>
      obtain ⟨d1, d2, d3⟩ := c5
      simp only [uhd, ncS]
      refine ⟨_, rfl, ⟨?_, ?_⟩, ?_⟩
      · simp only [gP_sI, gP_sP, uhd_ap, c1]; simp [uhd]
      · rw [usg_ap, usg_ap]
        refine ⟨⟨usg_fr (fun a ha => ?_) c2, ?_, ?_, trivial⟩, ?_, ?_, usg_fr (fun a ha => ?_) d3⟩
        · simp only [gP_sI, gP_sP]; grind
        · simp only [gP_sI, gP_sP]; grind
        · simp only [gP_sI, gP_sP, uhd]; grind
        · rw [hl]; simp only [gP_sI, gP_sP]; grind
        · simp only [gP_sI, gP_sP]; grind
        · simp only [gP_sI, gP_sP]; grind
      · refine ⟨fun f p => ?_, fun f p a1 a2 a3 => ?_, rfl, rfl, rfl, rfl, rfl⟩
        · simp [gI_sI, gI_sP]
        · simp only [gP_sI, gP_sP]; simp at a1 a2 a3; grind
