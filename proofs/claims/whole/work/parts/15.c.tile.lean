/-! ===== pure part: the relation's words; spans and segments tile ===== -/
abbrev Par : Type := Nat × (Nat → Nat) × (Nat → Nat) × (Nat → Option Nat) × (Nat → Nat) × (Nat → Nat → Nat) × (Nat → Nat → Nat → Nat)
abbrev pn (P : Par) : Nat := P.1
abbrev par (P : Par) : Nat → Nat := P.2.1
abbrev psh (P : Par) : Nat → Nat := P.2.2.1
abbrev psc (P : Par) : Nat → Option Nat := P.2.2.2.1
abbrev pch (P : Par) : Nat → Nat := P.2.2.2.2.1
abbrev pca (P : Par) : Nat → Nat → Nat := P.2.2.2.2.2.1
abbrev pdk (P : Par) : Nat → Nat → Nat → Nat := P.2.2.2.2.2.2
def slb (c : Nat) : Nat := if c = 0 then 1 else if c = 1 then 4 else if c = 2 then 8 else if c ≤ 5 then 16 else 32
def esl (e : En) : Nat := (eS e).toNatClampNeg
def eb (e : En) : Int := (eB e).toInt
def ez (e : En) : Int := (eZ e).toInt
def spb (R : Rst) (e : En) : Int := (R.2 20 (esl e)).toInt
def spz (R : Rst) (e : En) : Int := (R.2 21 (esl e)).toInt
def uOf (a : Nat) (L : List En) : List En := L.filter (fun e => decide (eA e = nI a))
def uLt (e f : En) : Prop := (eA e).toInt < (eA f).toInt ∨ (eA e = eA f ∧ eb e + ez e ≤ eb f)
def uSta (R : Rst) (e : En) : Prop := eb e = spb R e
def uEnd (R : Rst) (e : En) : Prop := eb e + ez e = spb R e + spz R e
def uJn (R : Rst) : Option En → Option En → Prop
  | none, none => True
  | none, some f => uSta R f
  | some e, none => uEnd R e
  | some e, some f => (eS e = eS f ∧ eA e = eA f ∧ eb f = eb e + ez e) ∨ (uEnd R e ∧ uSta R f ∧ uLt e f ∧ eS e ≠ eS f)
def uTl (R : Rst) (p : Option En) : List En → Option En → Prop
  | [], z => uJn R p z
  | e :: t, z => uJn R p (some e) ∧ uTl R (some e) t z
/-- what holds of an entry alone; it looks at the rows of the spans only -/
def uEl (P : Par) (R : Rst) (e : En) : Prop := ∃ a, a < pn P ∧ eA e = nI a ∧ 0 ≤ eb e ∧ 0 < ez e ∧ eb e + ez e ≤ 1073741824 ∧ ((2 ^ psh P a : Nat) : Int) ∣ eb e ∧ ((2 ^ psh P a : Nat) : Int) ∣ ez e ∧ spb R e ≤ eb e ∧ eb e + ez e ≤ spb R e + spz R e ∧ (∃ s, s < 600 ∧ eS e = nI s ∧ R.2 22 s = 1 ∧ R.2 19 s = eA e) ∧ (eC e = 0 ∨ (eO e = 2 ∧ ∃ i, 1 ≤ i ∧ i ≤ pch P a ∧ eC e = nI i ∧ ez e = ((slb (pch P a) * 2 ^ psh P a : Nat) : Int)))
def uLs (P : Par) (R : Rst) (L : List En) : Prop := (∀ e ∈ L, uEl P R e) ∧ uTl R none L none
theorem uTl_mid {R : Rst} {A B : List En} {e : En} {z : Option En} : ∀ {p : Option En}, uTl R p (A ++ e :: B) z ↔ uTl R p A (some e) ∧ uTl R (some e) B z := by
  induction A with
  | nil => intro p; simp [uTl]
  | cons a A ih => intro p; simp only [List.cons_append, uTl]; rw [ih, and_assoc]
theorem uJn_r {R : Rst} {e e' : En} (h1 : eS e = eS e') (h2 : eA e = eA e') (h3 : eb e = eb e') : ∀ {p : Option En}, uJn R p (some e) → uJn R p (some e') := by
  intro p h
  have h4 : uSta R e → uSta R e' := fun g => by unfold uSta spb esl at *; rw [← h3, g, h1]
  cases p with
  | none => exact h4 h
  | some y =>
    rcases h with ⟨a, b, c⟩ | ⟨a, b, c, d⟩
    · exact Or.inl ⟨by rw [a, h1], by rw [b, h2], by rw [← h3, c]⟩
    · exact Or.inr ⟨a, h4 b, by unfold uLt at *; rw [← h2, ← h3]; exact c, by rw [← h1]; exact d⟩
theorem uJn_l {R : Rst} {e e' : En} (h1 : eS e = eS e') (h2 : eA e = eA e') (h3 : eb e + ez e = eb e' + ez e') : ∀ {z : Option En}, uJn R (some e) z → uJn R (some e') z := by
  intro z h
  have h4 : uEnd R e → uEnd R e' := fun g => by unfold uEnd spb spz esl at *; rw [← h3, g, h1]
  cases z with
  | none => exact h4 h
  | some y =>
    rcases h with ⟨a, b, c⟩ | ⟨a, b, c, d⟩
    · exact Or.inl ⟨by rw [← h1, a], by rw [← h2, b], by rw [← h3, c]⟩
    · exact Or.inr ⟨h4 a, b, by unfold uLt at *; rw [← h2, ← h3]; exact c, by rw [← h1]; exact d⟩
theorem uTl_r {R : Rst} {A : List En} {e e' : En} (h1 : eS e = eS e') (h2 : eA e = eA e') (h3 : eb e = eb e') : ∀ {p : Option En}, uTl R p A (some e) → uTl R p A (some e') := by
  induction A with
  | nil => intro p h; exact uJn_r h1 h2 h3 h
  | cons a A ih => intro p h; exact ⟨h.1, ih h.2⟩
theorem uTl_l {R : Rst} {B : List En} {e e' : En} {z : Option En} (h1 : eS e = eS e') (h2 : eA e = eA e') (h3 : eb e + ez e = eb e' + ez e') (h : uTl R (some e) B z) : uTl R (some e') B z := by
  cases B with
  | nil => exact uJn_l h1 h2 h3 h
  | cons b B => exact ⟨uJn_l h1 h2 h3 h.1, h.2⟩
theorem uLt_tr {e f g : En} (hz : 0 < ez f) (h1 : uLt e f) (h2 : uLt f g) : uLt e g := by
  unfold uLt at *
  rcases h1 with h1 | ⟨h1, h1'⟩ <;> rcases h2 with h2 | ⟨h2, h2'⟩
  · left; omega
  · left; rw [← h2]; exact h1
  · left; rw [h1]; exact h2
  · right; exact ⟨h1.trans h2, by omega⟩
theorem uJn_lt {R : Rst} {e f : En} (h : uJn R (some e) (some f)) : uLt e f := by
  rcases h with ⟨_, b, c⟩ | ⟨_, _, c, _⟩
  · exact Or.inr ⟨b, by omega⟩
  · exact c
theorem uTl_lt {R : Rst} {z : Option En} : ∀ {t : List En} {e : En}, (∀ f ∈ t, 0 < ez f) → uTl R (some e) t z → ∀ f ∈ t, uLt e f := by
  intro t
  induction t with
  | nil => intro e _ _ f hf; cases hf
  | cons g t ih =>
    intro e hz h f hf
    have h1 := uJn_lt h.1
    rcases List.mem_cons.mp hf with rfl | hf
    · exact h1
    · exact uLt_tr (hz g List.mem_cons_self) h1 (ih (fun x hx => hz x (List.mem_cons_of_mem _ hx)) h.2 f hf)
theorem uTl_pw {R : Rst} {z : Option En} : ∀ {t : List En} {p : Option En}, (∀ f ∈ t, 0 < ez f) → uTl R p t z → t.Pairwise uLt := by
  intro t
  induction t with
  | nil => intro p _ _; exact List.Pairwise.nil
  | cons g t ih =>
    intro p hz h
    have hz' : ∀ f ∈ t, 0 < ez f := fun x hx => hz x (List.mem_cons_of_mem _ hx)
    exact List.Pairwise.cons (uTl_lt hz' h.2) (ih hz' h.2)
theorem uEl_z {P : Par} {R : Rst} {e : En} (h : uEl P R e) : 0 < ez e := by obtain ⟨_, _, _, _, h, _⟩ := h; exact h
theorem uLs_pw {P : Par} {R : Rst} {L : List En} (h : uLs P R L) : L.Pairwise uLt := uTl_pw (fun f hf => uEl_z (h.1 f hf)) h.2
theorem uLt_ir {e : En} (hz : 0 < ez e) : ¬ uLt e e := by
  intro h
  rcases h with h | ⟨_, h⟩ <;> omega
theorem uLt_as {e f : En} (hz : 0 < ez f) (hz' : 0 < ez e) (h1 : uLt e f) (h2 : uLt f e) : False := uLt_ir hz' (uLt_tr hz h1 h2)
/-- an entry's place is its own -/
theorem uLs_uq {P : Par} {R : Rst} {L : List En} (h : uLs P R L) {e f : En} (he : e ∈ L) (hf : f ∈ L) (ha : eA e = eA f) (hb : eb e < eb f + ez f) (hb' : eb f < eb e + ez e) : e = f := by
  have hp := uLs_pw h
  have ze := uEl_z (h.1 e he)
  have zf := uEl_z (h.1 f hf)
  have key : ¬ uLt e f ∧ ¬ uLt f e := by
    constructor <;> (intro g; rcases g with g | ⟨_, g⟩)
    · rw [ha] at g; omega
    · omega
    · rw [ha] at g; omega
    · omega
  by_cases hne : e = f
  · exact hne
  · obtain ⟨A, B, rfl⟩ := List.append_of_mem he
    rw [List.pairwise_append] at hp
    obtain ⟨p1, p2, p3⟩ := hp
    rcases List.mem_append.mp hf with h1 | h1
    · exact absurd (p3 f h1 e List.mem_cons_self) key.2
    · rcases List.mem_cons.mp h1 with h1 | h1
      · exact h1.symm
      · exact absurd ((List.pairwise_cons.mp p2).1 f h1) key.1
theorem i32_sub0 {a b : Int32} (h : a.toInt = b.toInt) : a = b := Int32.toInt_inj.mp h
theorem i32_add {a b : Int32} (h1 : -2147483648 ≤ a.toInt + b.toInt) (h2 : a.toInt + b.toInt < 2147483648) : (a + b).toInt = a.toInt + b.toInt := by
  rw [Int32.toInt_add]; exact Int.bmod_eq_of_le (by omega) (by omega)
theorem i32_sub {a b : Int32} (h1 : -2147483648 ≤ a.toInt - b.toInt) (h2 : a.toInt - b.toInt < 2147483648) : (a - b).toInt = a.toInt - b.toInt := by
  rw [Int32.toInt_sub]; exact Int.bmod_eq_of_le (by omega) (by omega)
/-- a cut: one entry becomes two -/
theorem uLs_cut {P : Par} {R : Rst} {A B : List En} {e e1 e2 : En} (h : uLs P R (A ++ e :: B)) (h1 : uEl P R e1) (h2 : uEl P R e2) (s1 : eS e1 = eS e) (a1 : eA e1 = eA e) (b1 : eb e1 = eb e) (s2 : eS e2 = eS e) (a2 : eA e2 = eA e) (b2 : eb e2 = eb e1 + ez e1) (z2 : eb e2 + ez e2 = eb e + ez e) : uLs P R (A ++ e1 :: e2 :: B) := by
  obtain ⟨h3, h4⟩ := h
  rw [uTl_mid] at h4
  refine ⟨fun f hf => ?_, ?_⟩
  · simp at hf
    rcases hf with hf | rfl | rfl | hf
    · exact h3 f (by simp [hf])
    · exact h1
    · exact h2
    · exact h3 f (by simp [hf])
  · rw [uTl_mid]
    exact ⟨uTl_r s1.symm a1.symm b1.symm h4.1, Or.inl ⟨by rw [s1, s2], by rw [a1, a2], b2⟩, uTl_l s2.symm a2.symm z2.symm h4.2⟩
/-- one entry changes, its range stays -/
theorem uLs_set {P : Par} {R : Rst} {A B : List En} {e e1 : En} (h : uLs P R (A ++ e :: B)) (h1 : uEl P R e1) (s1 : eS e1 = eS e) (a1 : eA e1 = eA e) (b1 : eb e1 = eb e) (z1 : ez e1 = ez e) : uLs P R (A ++ e1 :: B) := by
  obtain ⟨h3, h4⟩ := h
  rw [uTl_mid] at h4
  refine ⟨fun f hf => ?_, ?_⟩
  · simp at hf
    rcases hf with hf | rfl | hf
    · exact h3 f (by simp [hf])
    · exact h1
    · exact h3 f (by simp [hf])
  · rw [uTl_mid]
    exact ⟨uTl_r s1.symm a1.symm b1.symm h4.1, uTl_l s1.symm a1.symm (by rw [b1, z1]) h4.2⟩
/-- two entries of one span become one -/
theorem uLs_join {P : Par} {R : Rst} {A B : List En} {e f e1 : En} (h : uLs P R (A ++ e :: f :: B)) (hs : eS e = eS f) (h1 : uEl P R e1) (s1 : eS e1 = eS e) (a1 : eA e1 = eA e) (b1 : eb e1 = eb e) (z1 : ez e1 = ez e + ez f) : uLs P R (A ++ e1 :: B) := by
  obtain ⟨h3, h4⟩ := h
  rw [uTl_mid] at h4
  obtain ⟨h4, h5, h6⟩ := h4
  rcases h5 with ⟨_, h7, h8⟩ | ⟨_, _, _, h7⟩
  · refine ⟨fun g hg => ?_, ?_⟩
    · simp at hg
      rcases hg with hg | rfl | hg
      · exact h3 g (by simp [hg])
      · exact h1
      · exact h3 g (by simp [hg])
    · rw [uTl_mid]
      exact ⟨uTl_r s1.symm a1.symm b1.symm h4, uTl_l (by rw [s1, hs]) (by rw [a1, h7]) (by omega) h6⟩
  · exact absurd hs h7
theorem uLs_adj {P : Par} {R : Rst} {A B : List En} {e f : En} (h : uLs P R (A ++ e :: f :: B)) (hs : eS e = eS f) : eA e = eA f ∧ eb f = eb e + ez e := by
  have h4 := h.2
  rw [uTl_mid] at h4
  rcases h4.2.1 with ⟨_, h7, h8⟩ | ⟨_, _, _, h7⟩
  · exact ⟨h7, h8⟩
  · exact absurd hs h7
theorem uEl_sp {P : Par} {R : Rst} {e : En} (h : uEl P R e) : spb R e ≤ eb e ∧ eb e + ez e ≤ spb R e + spz R e ∧ 0 ≤ eb e ∧ 0 < ez e ∧ eb e + ez e ≤ 1073741824 := by
  obtain ⟨a, h1, h2, h3, h4, h5, h6, h7, h8, h9, _⟩ := h
  exact ⟨h8, h9, h3, h4, h5⟩
/-- slots decide spans -/
theorem sp_eq {R : Rst} {e f : En} (h : eS e = eS f) : spb R e = spb R f ∧ spz R e = spz R f := by unfold spb spz esl; rw [h]; exact ⟨rfl, rfl⟩
/-- a span's one entry goes -/
theorem uTl_gap {P : Par} {R : Rst} {e : En} (he : uEl P R e) (hs : uSta R e) (hd : uEnd R e) {B : List En} {z : Option En} (hB : ∀ f ∈ B, uEl P R f) (hz : ∀ f, z = some f → uEl P R f) (hb : uTl R (some e) B z) : ∀ {A : List En} {p : Option En}, (∀ f ∈ A, uEl P R f) → (∀ f, p = some f → uEl P R f) → uTl R p A (some e) → uTl R p (A ++ B) z := by
  intro A
  induction A with
  | nil =>
    intro p _ hp h
    show uTl R p B z
    have zz := uEl_sp he
    have key : ∀ w, uJn R (some e) w → (∀ f, w = some f → uEl P R f) → uJn R p w := by
      intro w hw hwe
      cases p with
      | none =>
        cases w with
        | none => trivial
        | some f =>
          rcases hw with ⟨w1, w2, w3⟩ | ⟨w1, w2, w3, w4⟩
          · have := uEl_sp (hwe f rfl)
            have := sp_eq (R := R) w1
            unfold uEnd uSta at *
            omega
          · exact w2
      | some y =>
        have hy := uEl_sp (hp y rfl)
        have y1 : uEnd R y ∧ uLt y e := by
          rcases h with ⟨w1, w2, w3⟩ | ⟨w1, w2, w3, w4⟩
          · have := sp_eq (R := R) w1
            unfold uEnd uSta at *
            omega
          · exact ⟨w1, w3⟩
        cases w with
        | none => exact y1.1
        | some f =>
          have hf := uEl_sp (hwe f rfl)
          rcases hw with ⟨w1, w2, w3⟩ | ⟨w1, w2, w3, w4⟩
          · have := sp_eq (R := R) w1
            unfold uEnd uSta at *
            omega
          · refine Or.inr ⟨y1.1, w2, uLt_tr zz.2.2.2.1 y1.2 w3, fun q => ?_⟩
            have hq := sp_eq (R := R) q
            have hlt := uLt_tr zz.2.2.2.1 y1.2 w3
            have y2 := y1.1
            unfold uEnd uSta at *
            rcases hlt with g | ⟨_, g⟩
            · obtain ⟨a, _, g2, _, _, _, _, _, _, _, ⟨s, s1, s2, s3, s4⟩, _⟩ := hp y rfl
              obtain ⟨a', _, g2', _, _, _, _, _, _, _, ⟨s', s1', s2', s3', s4'⟩, _⟩ := hwe f rfl
              have : s = s' := (nI_eq (by omega) (by omega)).mp (by rw [← s2, ← s2', q])
              subst this
              rw [← s4, ← s4'] at g
              omega
            · omega
    cases B with
    | nil => exact key z hb hz
    | cons b B => exact ⟨key (some b) hb.1 (fun f hf => by cases hf; exact hB b List.mem_cons_self), hb.2⟩
  | cons a A ih =>
    intro p hA hp h
    exact ⟨h.1, ih (fun f hf => hA f (List.mem_cons_of_mem _ hf)) (fun f hf => by cases hf; exact hA a List.mem_cons_self) h.2⟩
theorem uLs_del {P : Par} {R : Rst} {A B : List En} {e : En} (h : uLs P R (A ++ e :: B)) (hs : uSta R e) (hd : uEnd R e) : uLs P R (A ++ B) := by
  obtain ⟨h3, h4⟩ := h
  rw [uTl_mid] at h4
  refine ⟨fun f hf => h3 f (by simp at hf ⊢; rcases hf with hf | hf <;> simp [hf]), ?_⟩
  exact uTl_gap (h3 e (by simp)) hs hd (fun f hf => h3 f (by simp [hf])) (fun f hf => by cases hf) h4.2 (fun f hf => h3 f (by simp [hf])) (fun f hf => by cases hf) h4.1
/-- a span's first entry comes -/
theorem uTl_new {P : Par} {R : Rst} {e : En} (he : uEl P R e) (hs : uSta R e) (hd : uEnd R e) {B : List En} {z : Option En} (hB : ∀ f ∈ B, uLt e f ∧ eS f ≠ eS e) (hz : ∀ f, z = some f → uLt e f ∧ eS f ≠ eS e) : ∀ {A : List En} {p : Option En}, (∀ f ∈ A, uLt f e ∧ eS f ≠ eS e) → (∀ f, p = some f → uLt f e ∧ eS f ≠ eS e) → uTl R p (A ++ B) z → uTl R p A (some e) ∧ uTl R (some e) B z := by
  intro A
  induction A with
  | nil =>
    intro p _ hp h
    have zz := uEl_sp he
    have h' : uTl R p B z := h
    have key : ∀ w, uJn R p w → (∀ f, w = some f → uLt e f ∧ eS f ≠ eS e) → uJn R p (some e) ∧ uJn R (some e) w := by
      intro w hw hwe
      cases p with
      | none =>
        refine ⟨hs, ?_⟩
        cases w with
        | none => exact hd
        | some f => exact Or.inr ⟨hd, hw, (hwe f rfl).1, fun q => (hwe f rfl).2 q.symm⟩
      | some y =>
        have hy := hp y rfl
        cases w with
        | none => exact ⟨Or.inr ⟨hw, hs, hy.1, hy.2⟩, hd⟩
        | some f =>
          have hf := hwe f rfl
          rcases hw with ⟨w1, w2, w3⟩ | ⟨w1, w2, w3, w4⟩
          · exfalso
            rcases hy.1 with g | ⟨g, g'⟩ <;> rcases hf.1 with k | ⟨k, k'⟩
            · rw [w2] at g; omega
            · rw [w2, ← k] at g; omega
            · rw [← w2, g] at k; omega
            · omega
          · exact ⟨Or.inr ⟨w1, hs, hy.1, hy.2⟩, Or.inr ⟨hd, w2, hf.1, fun q => hf.2 q.symm⟩⟩
    cases B with
    | nil => exact key z h' hz
    | cons b B =>
      obtain ⟨k1, k2⟩ := key (some b) h'.1 (fun f hf => by cases hf; exact hB b List.mem_cons_self)
      exact ⟨k1, k2, h'.2⟩
  | cons a A ih =>
    intro p hA hp h
    have := ih (fun f hf => hA f (List.mem_cons_of_mem _ hf)) (fun f hf => by cases hf; exact hA a List.mem_cons_self) h.2
    exact ⟨⟨h.1, this.1⟩, this.2⟩
theorem uLs_add {P : Par} {R : Rst} {A B : List En} {e : En} (h : uLs P R (A ++ B)) (he : uEl P R e) (hs : uSta R e) (hd : uEnd R e) (hA : ∀ f ∈ A, uLt f e ∧ eS f ≠ eS e) (hB : ∀ f ∈ B, uLt e f ∧ eS f ≠ eS e) : uLs P R (A ++ e :: B) := by
  obtain ⟨h3, h4⟩ := h
  refine ⟨fun f hf => ?_, ?_⟩
  · simp at hf
    rcases hf with hf | rfl | hf
    · exact h3 f (by simp [hf])
    · exact he
    · exact h3 f (by simp [hf])
  · rw [uTl_mid]
    exact uTl_new he hs hd hB (fun f hf => by cases hf) hA (fun f hf => by cases hf) h4
