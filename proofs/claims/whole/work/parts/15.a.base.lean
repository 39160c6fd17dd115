/-! ===== pure part: the list of entries behind the reference's rows 11 to 17 ===== -/
abbrev Sg : Type := Int32 × Int32 × Int32 × Int32 × Int32 × Int32 × Int32
abbrev En : Type := Nat × Sg
abbrev eA (e : En) : Int32 := e.2.1
abbrev eB (e : En) : Int32 := e.2.2.1
abbrev eZ (e : En) : Int32 := e.2.2.2.1
abbrev eO (e : En) : Int32 := e.2.2.2.2.1
abbrev eT (e : En) : Int32 := e.2.2.2.2.2.1
abbrev eS (e : En) : Int32 := e.2.2.2.2.2.2.1
abbrev eC (e : En) : Int32 := e.2.2.2.2.2.2.2
def sgk (R : Rst) (k : Nat) : Sg := (R.2 11 k, R.2 12 k, R.2 13 k, R.2 14 k, R.2 15 k, R.2 16 k, R.2 17 k)
def uRL (R : Rst) (L : List En) : Prop := R.1 10 = nI L.length ∧ L.length ≤ 600 ∧ ∀ k e, L[k]? = some e → sgk R k = e.2
/-- nothing but the list, its length and the clock has changed -/
def uFr (R R' : Rst) : Prop := (∀ j, j ≠ 10 → j ≠ 18 → R'.1 j = R.1 j) ∧ (∀ f, ¬ (11 ≤ f ∧ f ≤ 17) → R'.2 f = R.2 f)
theorem uFr.rf {R : Rst} : uFr R R := ⟨fun _ _ _ => rfl, fun _ _ => rfl⟩
theorem uFr.tr {R R' R'' : Rst} (h : uFr R R') (g : uFr R' R'') : uFr R R'' := ⟨fun j a b => (g.1 j a b).trans (h.1 j a b), fun f a => (g.2 f a).trans (h.2 f a)⟩
theorem rlen_lt (f : Nat) : rlen f < 2 ^ 31 := by unfold rlen; (repeat' split) <;> omega
theorem inb_n {k n : Nat} (h : k < n) (hn : n < 2 ^ 31) : inb (nI k) n = true := by unfold inb; exact decide_eq_true (nI_in h hn)
theorem rd_n {β : Type} {R : Rst} {f k : Nat} {g : Int32 → Option β} (h : k < rlen f) : rd R f (nI k) g = g (R.2 f k) := by
  unfold rd; rw [if_pos (inb_n h (rlen_lt f)), nI_clamp (Nat.lt_trans h (rlen_lt f))]
theorem wr_n {β : Type} {R : Rst} {f k : Nat} {v : Int32} {g : Rst → Option β} (h : k < rlen f) : wr R f (nI k) v g = g (rset R f k v) := by
  unfold wr; rw [if_pos (inb_n h (rlen_lt f)), nI_clamp (Nat.lt_trans h (rlen_lt f))]
theorem rset_1 {R : Rst} {f i : Nat} {v : Int32} : (rset R f i v).1 = R.1 := rfl
theorem rput_2 {R : Rst} {k : Nat} {v : Int32} : (rput R k v).2 = R.2 := rfl
theorem rset_g {R : Rst} {f i : Nat} {v : Int32} (f' j : Nat) : (rset R f i v).2 f' j = if f' = f ∧ j = i then v else R.2 f' j := by
  show va_up R.2 f (upd (R.2 f) i v) f' j = _
  unfold va_up
  by_cases hf : f' = f
  · subst hf
    rw [if_pos rfl]
    unfold upd
    by_cases hj : j = i
    · rw [if_pos hj, if_pos ⟨rfl, hj⟩]
    · rw [if_neg hj, if_neg (fun h => hj h.2)]
  · rw [if_neg hf, if_neg (fun h => hf h.1)]
theorem rset_f {R : Rst} {f i f' : Nat} {v : Int32} (h : f' ≠ f) : (rset R f i v).2 f' = R.2 f' := by
  funext j; rw [rset_g, if_neg (fun z => h z.1)]
theorem rput_g {R : Rst} {k : Nat} {v : Int32} (j : Nat) : (rput R k v).1 j = if j = k then v else R.1 j := rfl
theorem uFr_set {R : Rst} {f i : Nat} {v : Int32} (h1 : 11 ≤ f) (h2 : f ≤ 17) : uFr R (rset R f i v) := ⟨fun _ _ _ => rfl, fun f' h => rset_f (fun z => h ⟨by omega, by omega⟩)⟩
theorem uRL_g {R : Rst} {L : List En} (h : uRL R L) {k : Nat} {e : En} (hk : L[k]? = some e) : k < L.length ∧ k < 600 ∧ R.2 11 k = eA e ∧ R.2 12 k = eB e ∧ R.2 13 k = eZ e ∧ R.2 14 k = eO e ∧ R.2 15 k = eT e ∧ R.2 16 k = eS e ∧ R.2 17 k = eC e := by
  have e1 := h.2.2 k e hk
  have hl : k < L.length := (List.getElem?_eq_some_iff.mp hk).1
  refine ⟨hl, Nat.lt_of_lt_of_le hl h.2.1, ?_⟩
  show R.2 11 k = e.2.1 ∧ R.2 12 k = e.2.2.1 ∧ R.2 13 k = e.2.2.2.1 ∧ R.2 14 k = e.2.2.2.2.1 ∧ R.2 15 k = e.2.2.2.2.2.1 ∧ R.2 16 k = e.2.2.2.2.2.2.1 ∧ R.2 17 k = e.2.2.2.2.2.2.2
  rw [← e1]
  exact ⟨rfl, rfl, rfl, rfl, rfl, rfl, rfl⟩
theorem get_mid {α : Type} {A B : List α} {e : α} : (A ++ e :: B)[A.length]? = some e := by simp
theorem nI_len {L : List En} {k : Nat} (h : L.length ≤ 600) (hk : k ≤ 600) : nI L.length ≤ nI k ↔ L.length ≤ k := nI_leI (by omega) (by omega)
/-! position -/
def uP (a : Int32) (fr : Int64) (e : En) : Prop := eA e < a ∨ (eA e = a ∧ ¬ 0 ≤ lg_cmp (eB e).toInt64 fr)
theorem pos_lp {F : Nat} {R : Rst} {L : List En} {a : Int32} {fr : Int64} (h : uRL R L) : ∀ (M A B : List En) (n : Nat), L = A ++ (M ++ B) → (∀ e ∈ M, uP a fr e) → (∀ e, B.head? = some e → ¬ uP a fr e) → M.length < n → rf_position_3 F R n a fr (nI A.length) = some (nI (A.length + M.length)) := by
  intro M
  induction M with
  | nil =>
    intro A B n hL hM hB hn
    obtain ⟨n, rfl⟩ : ∃ m, n = m + 1 := ⟨n - 1, by simp at hn; omega⟩
    simp only [rf_position_3]
    rw [h.1]
    cases B with
    | nil =>
      rw [if_pos ((nI_len h.2.1 (by have := h.2.1; rw [hL] at this; simp at this; exact this)).mpr (by rw [hL]; simp))]
      simp
    | cons e B =>
      have hk : L[A.length]? = some e := by rw [hL]; simp
      obtain ⟨k1, k2, k3, k4, k5⟩ := uRL_g h hk
      have hp := hB e rfl
      unfold uP at hp
      rw [if_neg (fun z => by have := (nI_len h.2.1 (by omega)).mp z; omega), rd_n (f := 11) k2, k3, if_neg (fun z => hp (Or.inl z)), rd_n (f := 11) k2, k3]
      by_cases ha : eA e = a
      · rw [if_pos ha, rd_n (f := 12) k2, k4, if_pos (Classical.not_not.mp (fun z => hp (Or.inr ⟨ha, z⟩)))]
        simp
      · rw [if_neg ha]
        simp
  | cons e M ih =>
    intro A B n hL hM hB hn
    obtain ⟨n, rfl⟩ : ∃ m, n = m + 1 := ⟨n - 1, by simp at hn; omega⟩
    have hk : L[A.length]? = some e := by rw [hL]; simp
    obtain ⟨k1, k2, k3, k4, k5⟩ := uRL_g h hk
    have hp := hM e List.mem_cons_self
    unfold uP at hp
    have hr := ih (A ++ [e]) B n (by rw [hL]; simp) (fun x hx => hM x (List.mem_cons_of_mem _ hx)) hB (by simp at hn; omega)
    have hr2 : rf_position_3 F R n a fr (nI A.length + 1) = some (nI (A.length + (e :: M).length)) := by
      rw [← nI_succ]
      have e1 : (A ++ [e]).length = A.length + 1 := by simp
      rw [e1] at hr
      rw [hr]
      simp [Nat.add_comm, Nat.add_left_comm]
    simp only [rf_position_3]
    rw [h.1, if_neg (fun z => by have := (nI_len h.2.1 (by omega)).mp z; omega), rd_n (f := 11) k2, k3]
    by_cases hc : eA e < a
    · rw [if_pos hc]; exact hr2
    · rw [if_neg hc, rd_n (f := 11) k2, k3]
      rcases hp with z | ⟨z1, z2⟩
      · exact absurd z hc
      · rw [if_pos z1, rd_n (f := 12) k2, k4, if_neg z2]; exact hr2
theorem pos_ok {F : Nat} {R : Rst} {L A B : List En} {a : Int32} {fr : Int64} (hF : 1000 ≤ F) (h : uRL R L) (hL : L = A ++ B) (hA : ∀ e ∈ A, uP a fr e) (hB : ∀ e, B.head? = some e → ¬ uP a fr e) : rf_position F R a fr = some (nI A.length) := by
  have hl : A.length ≤ 600 := by have := h.2.1; rw [hL] at this; simp at this; omega
  have := pos_lp (F := F) h A [] B F (by rw [hL]; simp) hA hB (by omega)
  simpa [rf_position, nI_0] using this
/-! copy, frees -/
theorem copy_ok {F : Nat} {R : Rst} {i j : Nat} (hi : i < 600) (hj : j < 600) (hij : i ≠ j) : ∃ R', rf_copy F R (nI i) (nI j) = some R' ∧ (∀ k, sgk R' k = if k = j then sgk R i else sgk R k) ∧ uFr R R' ∧ R'.1 = R.1 := by
  unfold rf_copy
  rw [rd_n (f := 11) hi, wr_n (f := 11) hj, rd_n (f := 12) hi, wr_n (f := 12) hj, rd_n (f := 13) hi, wr_n (f := 13) hj, rd_n (f := 14) hi, wr_n (f := 14) hj, rd_n (f := 15) hi, wr_n (f := 15) hj, rd_n (f := 16) hi, wr_n (f := 16) hj, rd_n (f := 17) hi, wr_n (f := 17) hj]
  refine ⟨_, rfl, fun k => ?_, ?_, rfl⟩
  · unfold sgk
    by_cases hk : k = j
    · subst hk
      simp [rset_g]
    · simp [rset_g, hk]
  · refine ⟨fun _ _ _ => rfl, fun f hf => ?_⟩
    rw [rset_f (fun z => hf ⟨by omega, by omega⟩), rset_f (fun z => hf ⟨by omega, by omega⟩), rset_f (fun z => hf ⟨by omega, by omega⟩), rset_f (fun z => hf ⟨by omega, by omega⟩), rset_f (fun z => hf ⟨by omega, by omega⟩), rset_f (fun z => hf ⟨by omega, by omega⟩), rset_f (fun z => hf ⟨by omega, by omega⟩)]
theorem frees_ok {F : Nat} {R : Rst} {k : Nat} (hk : k < 600) : ∃ R', rf_frees F R (nI k) = some R' ∧ (∀ m, sgk R' m = if m = k then (R.2 11 k, R.2 12 k, R.2 13 k, 0, R.1 18 + 1, R.2 16 k, R.2 17 k) else sgk R m) ∧ uFr R R' ∧ R'.1 18 = R.1 18 + 1 ∧ R'.1 10 = R.1 10 := by
  simp only [rf_frees, st1]
  rw [wr_n (f := 14) hk, wr_n (f := 15) hk]
  refine ⟨_, rfl, fun m => ?_, ?_, rfl, rfl⟩
  · unfold sgk
    by_cases hm : m = k
    · subst hm
      simp [rset_g, rput_2, rput_g, rset_1]
    · simp [rset_g, rput_2, hm]
  · refine ⟨fun j h1 h2 => ?_, fun f hf => ?_⟩
    · show va_up R.1 18 _ j = R.1 j
      exact va_up_ne _ _ h2
    · rw [rset_f (fun z => hf ⟨by omega, by omega⟩), rput_2, rset_f (fun z => hf ⟨by omega, by omega⟩)]
/-! insert -/
theorem ins_lp {F : Nat} {a fr sz sp : Int32} {k : Nat} : ∀ (d n : Nat) (R : Rst), d < n → k + d < 600 → ∃ R', rf_insert_15 F n R a fr sz sp (nI k) (nI (k + d)) = some (nI k, R') ∧ (∀ m, sgk R' m = if m < k then sgk R m else if m = k then (a, fr, sz, 0, R.1 18 + 1, sp, 0) else if m ≤ k + d then sgk R (m - 1) else sgk R m) ∧ uFr R R' ∧ R'.1 18 = R.1 18 + 1 ∧ R'.1 10 = R.1 10 + 1 := by
  intro d
  induction d with
  | zero =>
    intro n R hn hk
    obtain ⟨n, rfl⟩ : ∃ m, n = m + 1 := ⟨n - 1, by omega⟩
    simp only [rf_insert_15, st1]
    have hk' : k < 600 := by omega
    rw [if_pos (nI_le (by omega) (by omega)), wr_n (f := 11) hk', wr_n (f := 12) hk', wr_n (f := 13) hk', wr_n (f := 16) hk', wr_n (f := 17) hk']
    obtain ⟨R', h1, h2, h3, h4, h5⟩ := frees_ok (F := F) (R := rset (rset (rset (rset (rset (rput R 10 (R.1 10 + 1)) 11 k a) 12 k fr) 13 k sz) 16 k sp) 17 k 0) hk'
    refine ⟨R', by rw [h1]; rfl, fun m => ?_, ?_, h4, h5⟩
    · rw [h2]
      by_cases hm : m = k
      · subst hm
        simp [rset_g, rput_2, rput_g, rset_1]
      · rw [if_neg hm]
        by_cases hm2 : m < k
        · rw [if_pos hm2]; simp [sgk, rset_g, rput_2, hm]
        · rw [if_neg hm2, if_neg hm, if_neg (by omega)]; simp [sgk, rset_g, rput_2, hm]
    · refine uFr.tr ?_ h3
      refine ⟨fun j a1 a2 => ?_, fun f hf => ?_⟩
      · show va_up R.1 10 _ j = R.1 j
        exact va_up_ne _ _ a1
      · rw [rset_f (fun z => hf ⟨by omega, by omega⟩), rset_f (fun z => hf ⟨by omega, by omega⟩), rset_f (fun z => hf ⟨by omega, by omega⟩), rset_f (fun z => hf ⟨by omega, by omega⟩), rset_f (fun z => hf ⟨by omega, by omega⟩), rput_2]
  | succ d ih =>
    intro n R hn hk
    obtain ⟨n, rfl⟩ : ∃ m, n = m + 1 := ⟨n - 1, by omega⟩
    simp only [rf_insert_15]
    rw [if_neg (nI_ge (by omega) (by omega))]
    have e1 : nI (k + (d + 1)) - 1 = nI (k + d) := nI_pred (k + d)
    have e2 : nI (k + (d + 1)) + (-1) = nI (k + d) := pk_m1 (k + d)
    rw [e1, e2]
    obtain ⟨R1, c1, c2, c3, c4⟩ := copy_ok (F := F) (R := R) (i := k + d) (j := k + (d + 1)) (by omega) (by omega) (by omega)
    obtain ⟨R', h1, h2, h3, h4, h5⟩ := ih n R1 (by omega) (by omega)
    refine ⟨R', by rw [c1]; exact h1, fun m => ?_, c3.tr h3, by rw [h4, c4], by rw [h5, c4]⟩
    rw [h2, c4]
    by_cases m1 : m < k
    · rw [if_pos m1, if_pos m1, c2, if_neg (by omega)]
    · rw [if_neg m1, if_neg m1]
      by_cases m2 : m = k
      · rw [if_pos m2, if_pos m2]
      · rw [if_neg m2, if_neg m2]
        by_cases m3 : m ≤ k + d
        · rw [if_pos m3, if_pos (by omega), c2, if_neg (by omega)]
        · rw [if_neg m3, c2]
          by_cases m4 : m = k + (d + 1)
          · rw [if_pos m4, if_pos (by omega)]
            congr 1
            omega
          · rw [if_neg m4, if_neg (by omega)]
theorem insert_ok {F : Nat} {R : Rst} {L A B : List En} {a fr sz sp : Int32} (p : Nat) (hF : 1000 ≤ F) (h : uRL R L) (hL : L = A ++ B) (hA : ∀ e ∈ A, uP a fr.toInt64 e) (hB : ∀ e, B.head? = some e → ¬ uP a fr.toInt64 e) (hl : L.length < 600) :
    ∃ R', rf_insert F R a fr sz sp = some (nI A.length, R') ∧ uRL R' (A ++ (p, (a, fr, sz, 0, R.1 18 + 1, sp, 0)) :: B) ∧ uFr R R' ∧ R'.1 18 = R.1 18 + 1 := by
  unfold rf_insert
  rw [pos_ok hF h hL hA hB]
  have hal : A.length + B.length = L.length := by rw [hL]; simp
  obtain ⟨R', h1, h2, h3, h4, h5⟩ := ins_lp (F := F) (a := a) (fr := fr) (sz := sz) (sp := sp) (k := A.length) B.length F R (by omega) (by omega)
  refine ⟨R', ?_, ⟨?_, ?_, fun k e hk => ?_⟩, h3, h4⟩
  · show rf_insert_15 F F R a fr sz sp (nI A.length) (R.1 10) = _
    rw [h.1, ← hal]; exact h1
  · rw [h5, h.1, ← nI_succ]; congr 1; simp; omega
  · simp; omega
  · rw [h2]
    by_cases k1 : k < A.length
    · rw [if_pos k1]
      exact h.2.2 k e (by rw [hL, List.getElem?_append_left k1]; rw [List.getElem?_append_left k1] at hk; exact hk)
    · rw [if_neg k1]
      rw [List.getElem?_append_right (by omega)] at hk
      by_cases k2 : k = A.length
      · rw [if_pos k2]
        subst k2
        rw [Nat.sub_self] at hk
        simp at hk
        rw [← hk]
      · rw [if_neg k2]
        obtain ⟨d, rfl⟩ : ∃ d, k = A.length + d + 1 := ⟨k - A.length - 1, by omega⟩
        have e1 : A.length + d + 1 - A.length = d + 1 := by omega
        rw [e1, List.getElem?_cons_succ] at hk
        have hd : d < B.length := (List.getElem?_eq_some_iff.mp hk).1
        rw [if_pos (by omega)]
        refine h.2.2 _ e ?_
        rw [hL, List.getElem?_append_right (by omega)]
        have e2 : A.length + d + 1 - 1 - A.length = d := by omega
        rw [e2]; exact hk
/-! remove -/
theorem rem_lp {F len : Nat} : ∀ (d k n : Nat) (R : Rst), d < n → k + d = len → len < 600 → R.1 10 = nI len → ∃ R', rf_remove_12 F n R (nI k) = some R' ∧ (∀ m, sgk R' m = if m < k then sgk R m else if m < len then sgk R (m + 1) else sgk R m) ∧ uFr R R' ∧ R'.1 = R.1 := by
  intro d
  induction d with
  | zero =>
    intro k n R hn hk hl h10
    obtain ⟨n, rfl⟩ : ∃ m, n = m + 1 := ⟨n - 1, by omega⟩
    simp only [rf_remove_12]
    rw [h10, if_pos (nI_le (by omega) (by omega))]
    refine ⟨R, rfl, fun m => ?_, uFr.rf, rfl⟩
    by_cases m1 : m < k
    · rw [if_pos m1]
    · rw [if_neg m1, if_neg (by omega)]
  | succ d ih =>
    intro k n R hn hk hl h10
    obtain ⟨n, rfl⟩ : ∃ m, n = m + 1 := ⟨n - 1, by omega⟩
    simp only [rf_remove_12]
    rw [h10, if_neg (nI_ge (by omega) (by omega))]
    have e1 : nI k + 1 = nI (k + 1) := nI_1 k
    rw [e1]
    obtain ⟨R1, c1, c2, c3, c4⟩ := copy_ok (F := F) (R := R) (i := k + 1) (j := k) (by omega) (by omega) (by omega)
    obtain ⟨R', h1, h2, h3, h4⟩ := ih (k + 1) n R1 (by omega) (by omega) hl (by rw [c4]; exact h10)
    refine ⟨R', by rw [c1]; exact h1, fun m => ?_, c3.tr h3, by rw [h4, c4]⟩
    rw [h2]
    by_cases m1 : m < k
    · rw [if_pos m1, if_pos (by omega), c2, if_neg (by omega)]
    · rw [if_neg m1]
      by_cases m2 : m = k
      · subst m2
        rw [if_pos (by omega), c2, if_pos rfl, if_pos (by omega)]
      · rw [if_neg (by omega)]
        by_cases m3 : m < len
        · rw [if_pos m3, if_pos m3, c2, if_neg (by omega)]
        · rw [if_neg m3, if_neg m3, c2, if_neg (by omega)]
theorem remove_ok {F : Nat} {R : Rst} {L A B : List En} {e0 : En} (hF : 1000 ≤ F) (h : uRL R L) (hL : L = A ++ e0 :: B) : ∃ R', rf_remove F R (nI A.length) = some R' ∧ uRL R' (A ++ B) ∧ uFr R R' ∧ R'.1 18 = R.1 18 := by
  unfold rf_remove st1
  have hal : A.length + B.length + 1 = L.length := by rw [hL]; simp; omega
  have hlen : L.length ≤ 600 := h.2.1
  obtain ⟨R', h1, h2, h3, h4⟩ := rem_lp (F := F) (len := A.length + B.length) B.length A.length F (rput R 10 (R.1 10 - 1)) (by omega) rfl (by omega) (by rw [rput_g, if_pos rfl, h.1, ← hal, nI_pred])
  refine ⟨R', h1, ⟨?_, ?_, fun k e hk => ?_⟩, ?_, by rw [h4]; rfl⟩
  · rw [h4, rput_g, if_pos rfl, h.1, ← hal, nI_pred]; simp
  · simp; omega
  · rw [h2]
    have hkl := (List.getElem?_eq_some_iff.mp hk).1
    simp at hkl
    by_cases k1 : k < A.length
    · rw [if_pos k1]
      refine h.2.2 k e ?_
      rw [hL, List.getElem?_append_left k1]; rw [List.getElem?_append_left k1] at hk; exact hk
    · rw [if_neg k1, if_pos hkl]
      refine h.2.2 (k + 1) e ?_
      rw [List.getElem?_append_right (by omega)] at hk
      rw [hL, List.getElem?_append_right (by omega)]
      have e2 : k + 1 - A.length = (k - A.length) + 1 := by omega
      rw [e2, List.getElem?_cons_succ]; exact hk
  · refine uFr.tr ?_ h3
    refine ⟨fun j a1 a2 => ?_, fun f hf => rfl⟩
    show va_up R.1 10 _ j = R.1 j
    exact va_up_ne _ _ a1
/-! one entry changes in its place -/
theorem uRL_put {R R' : Rst} {L A B : List En} {e0 e1 : En} (h : uRL R L) (hL : L = A ++ e0 :: B) (h10 : R'.1 10 = R.1 10) (hs : ∀ m, sgk R' m = if m = A.length then e1.2 else sgk R m) : uRL R' (A ++ e1 :: B) := by
  refine ⟨by rw [h10, h.1, hL]; simp, by have := h.2.1; rw [hL] at this; simp at this ⊢; omega, fun k e hk => ?_⟩
  rw [hs]
  by_cases k1 : k = A.length
  · subst k1
    rw [if_pos rfl]
    simp at hk
    rw [hk]
  · rw [if_neg k1]
    refine h.2.2 k e ?_
    rw [hL]
    by_cases k2 : k < A.length
    · rw [List.getElem?_append_left k2] at hk ⊢; exact hk
    · rw [List.getElem?_append_right (by omega)] at hk ⊢
      obtain ⟨d, hd⟩ : ∃ d, k - A.length = d + 1 := ⟨k - A.length - 1, by omega⟩
      rw [hd, List.getElem?_cons_succ] at hk ⊢; exact hk
