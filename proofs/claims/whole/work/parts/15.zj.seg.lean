/-! ===== pure part: the call segment; sums over segments ===== -/
theorem ar_split {P : Par} {R : Rst} {L : List En} {a : Nat} (ha : a < 2 ^ 31) (h : uLs P R L) : ∃ A C, L = A ++ (uOf a L ++ C) ∧ (∀ f ∈ A, (eA f).toInt < a) ∧ (∀ f ∈ C, (a : Int) < (eA f).toInt) := by
  have hp := uLs_pw h
  clear h
  induction L with
  | nil => exact ⟨[], [], rfl, fun f hf => (by cases hf), fun f hf => (by cases hf)⟩
  | cons e L ih =>
    obtain ⟨A, C, i1, i2, i3⟩ := ih (List.pairwise_cons.mp hp).2
    have hle : ∀ f ∈ L, (eA e).toInt ≤ (eA f).toInt := by
      intro f hf
      rcases (List.pairwise_cons.mp hp).1 f hf with z | ⟨z, _⟩
      · omega
      · rw [z]; exact Int.le_refl _
    have hai : (nI a).toInt = (a : Int) := nI_toInt ha
    by_cases h1 : (eA e).toInt < a
    · have hne : eA e ≠ nI a := fun z => by rw [z, hai] at h1; omega
      refine ⟨e :: A, C, by rw [uOf_n hne]; simp; exact i1, fun f hf => ?_, i3⟩
      rcases List.mem_cons.mp hf with rfl | hf
      · exact h1
      · exact i2 f hf
    · by_cases h2 : eA e = nI a
      · have hA : A = [] := by
          cases A with
          | nil => rfl
          | cons f A =>
            have z1 := i2 f (by simp)
            have z2 := hle f (by rw [i1]; simp)
            rw [h2, hai] at z2
            omega
        subst hA
        refine ⟨[], C, by rw [uOf_y h2]; simp; exact i1, fun f hf => (by cases hf), i3⟩
      · have h3 : (a : Int) < (eA e).toInt := by
          have : (eA e).toInt ≠ (nI a).toInt := fun z => h2 (i32_sub0 z)
          omega
        have hall : ∀ f ∈ e :: L, (a : Int) < (eA f).toInt := by
          intro f hf
          rcases List.mem_cons.mp hf with rfl | hf
          · exact h3
          · have := hle f hf; omega
        have h0 : uOf a (e :: L) = [] := by
          unfold uOf
          rw [List.filter_eq_nil_iff]
          intro f hf
          have := hall f hf
          simp
          intro z
          rw [z, hai] at this; omega
        exact ⟨[], e :: L, by rw [h0]; rfl, fun f hf => (by cases hf), hall⟩
def fsum (w fg : Int32) (l : List En) (acc : Int32) : Int32 := l.foldl (fun s e => if w = 9 ∨ eO e = w then s + (if fg = 0 then 1 else eZ e) else s) acc
theorem of_lp {F : Nat} {P : Par} {S : Cst} {R : Rst} {L : List En} {t a : Nat} {w fg : Int32} (hG : uG P S R L t) : ∀ (B A : List En) (n : Nat) (acc : Int32), L = A ++ B → B.length < n → rf_of_6 F R n (nI a) w fg acc (nI A.length) = some (fsum w fg (uOf a B) acc) := by
  intro B
  induction B with
  | nil =>
    intro A n acc hL hn
    obtain ⟨n, rfl⟩ : ∃ m, n = m + 1 := ⟨n - 1, by simp at hn; omega⟩
    rw [List.append_nil] at hL
    simp only [rf_of_6]
    rw [if_pos (wk_nil (by rw [← hL]; exact hG.2.2.1))]
    rfl
  | cons e B ih =>
    intro A n acc hL hn
    obtain ⟨n, rfl⟩ : ∃ m, n = m + 1 := ⟨n - 1, by simp at hn; omega⟩
    have hRL := hG.2.2.1
    rw [hL] at hRL
    obtain ⟨k1, k2, g1, g2, g3, g4, g5, g6, g7⟩ := uRL_g hRL (k := A.length) (e := e) get_mid
    have hr := fun acc => ih (A ++ [e]) n acc (by rw [hL]; simp) (by simp at hn; omega)
    have h43 : ∀ acc, rf_of_43 F (rf_of_6 F R n) R (nI a) w fg acc (nI A.length) = some (fsum w fg (uOf a B) (acc + (if fg = 0 then 1 else eZ e))) := by
      intro acc
      unfold rf_of_43
      by_cases q : fg = 0
      · rw [if_pos q, if_pos q, sn_len (e := e), hr]
      · rw [if_neg q, if_neg q, rd_n (f := 13) k2, g3, sn_len (e := e), hr]
    simp only [rf_of_6]
    rw [if_neg (wk_cons hRL), rd_n (f := 11) k2, g1]
    by_cases ha : eA e = nI a
    · rw [if_pos ha, uOf_y ha]
      by_cases h9 : w = 9
      · rw [if_pos h9, h43]
        show _ = some (fsum w fg (uOf a B) (if w = 9 ∨ eO e = w then _ else _))
        rw [if_pos (Or.inl h9)]
      · rw [if_neg h9, rd_n (f := 14) k2, g4]
        show _ = some (fsum w fg (uOf a B) (if w = 9 ∨ eO e = w then _ else _))
        by_cases ho : eO e = w
        · rw [if_pos ho, if_pos (Or.inr ho), h43]
        · rw [if_neg ho, if_neg (fun z => z.elim h9 ho), sn_len (e := e), hr]
    · rw [if_neg ha, uOf_n ha, sn_len (e := e), hr]
theorem of_ok {F : Nat} {P : Par} {S : Cst} {R : Rst} {L : List En} {t a : Nat} {w fg : Int32} (hF : 1000 ≤ F) (hG : uG P S R L t) : rf_of F R (nI a) w fg = some (fsum w fg (uOf a L) 0) :=
  of_lp hG L [] F 0 rfl (by have := hG.2.2.1.2.1; omega)
theorem fsum_9 : ∀ (l : List En) (k : Nat), fsum 9 0 l (nI k) = nI (k + l.length) := by
  intro l
  induction l with
  | nil => intro k; rfl
  | cons e l ih =>
    intro k
    show fsum 9 0 l (if (9 : Int32) = 9 ∨ eO e = 9 then nI k + (if (0 : Int32) = 0 then 1 else eZ e) else nI k) = _
    rw [if_pos (Or.inl rfl), if_pos rfl, nI_1, ih]
    congr 1
    simp; omega
theorem num_lp {F h : Nat} {S : Cst} {w fg : Int32} (hw : w ≠ 9) (k : Nat → Int32 → Int32 → Option Nat → Option Int32) (hk0 : ∀ n x2, k (n + 1) w x2 none = some x2) (hk1 : ∀ n x2 p, k (n + 1) w x2 (some p) = if gI S 82 p = w then k n w (x2 + (if fg = 0 then 1 else gI S 81 p)) (gP S 87 p) else k n w (x2 + 0) (gP S 87 p)) : ∀ (l : List En) (pr : Option Nat) (n : Nat) (acc : Int32), usg S pr (uad l) none → (∀ f ∈ l, gI S 81 f.1 = eZ f ∧ gI S 82 f.1 = eO f) → l.length < n → k n w acc (uhd (uad l) none) = some (fsum w fg l acc) := by
  intro l
  induction l with
  | nil =>
    intro pr n acc _ _ hn
    obtain ⟨n, rfl⟩ : ∃ m, n = m + 1 := ⟨n - 1, by simp at hn; omega⟩
    exact hk0 n acc
  | cons f l ih =>
    intro pr n acc hc hb hn
    obtain ⟨n, rfl⟩ : ∃ m, n = m + 1 := ⟨n - 1, by simp at hn; omega⟩
    rw [uad_c] at hc ⊢
    obtain ⟨c1, c2, c3⟩ := hc
    obtain ⟨f1, f2⟩ := hb f (by simp)
    have hr := fun acc => ih (some f.1) n acc c3 (fun g hg => hb g (by simp [hg])) (by simp at hn; omega)
    show k (n + 1) w acc (some f.1) = some (fsum w fg l (if w = 9 ∨ eO f = w then _ else _))
    rw [hk1, f1, f2, c2]
    by_cases ho : eO f = w
    · rw [if_pos ho, if_pos (Or.inr ho), hr]
    · rw [if_neg ho, if_neg (fun z => z.elim hw ho), hr, Int32.add_zero]
theorem segsOf_ok {F : Nat} {P : Par} {S : Cst} {R : Rst} {L : List En} {t a : Nat} {w : Int32} (hF : 1000 ≤ F) (hG : uG P S R L t) (ha : a < pn P) (hw : w ≠ 9) : cf_X0_segmentsOf F S (par P a) w = some (fsum w 0 (uOf a L) 0) := by
  have hc := (hG.2.2.2.1.2.2 a ha).1
  have := uOf_le (a := a) (L := L)
  have := hG.2.2.1.2.1
  unfold cf_X0_segmentsOf
  simp only [st1]
  rw [hc.1]
  refine num_lp (F := F) (h := par P a) (S := S) (w := w) (fg := 0) hw (cf_X0_segmentsOf_7 F (par P a) S) (fun n x2 => rfl) (fun n x2 p => ?_) (uOf a L) none F 0 hc.2 (fun f hf => ⟨(hG.2.2.2.1.1 f (uOf_mem.mp hf).1).2.2.1, (hG.2.2.2.1.1 f (uOf_mem.mp hf).1).2.2.2.1⟩) (by omega)
  simp only [cf_X0_segmentsOf_7, ncS, st1]
  rw [if_pos trivial]
theorem numsOf_ok {F : Nat} {P : Par} {S : Cst} {R : Rst} {L : List En} {t a : Nat} {w : Int32} (hF : 1000 ≤ F) (hG : uG P S R L t) (ha : a < pn P) (hw : w ≠ 9) : cf_X0_numbersOf F S (par P a) w = some (fsum w 1 (uOf a L) 0) := by
  have hc := (hG.2.2.2.1.2.2 a ha).1
  have := uOf_le (a := a) (L := L)
  have := hG.2.2.1.2.1
  unfold cf_X0_numbersOf
  simp only [st1]
  rw [hc.1]
  refine num_lp (F := F) (h := par P a) (S := S) (w := w) (fg := 1) hw (cf_X0_numbersOf_7 F (par P a) S) (fun n x2 => rfl) (fun n x2 p => ?_) (uOf a L) none F 0 hc.2 (fun f hf => ⟨(hG.2.2.2.1.1 f (uOf_mem.mp hf).1).2.2.1, (hG.2.2.2.1.1 f (uOf_mem.mp hf).1).2.2.2.1⟩) (by omega)
  simp only [cf_X0_numbersOf_7, ncS, st1]
  rw [if_neg (show ¬ (1 : Int32) = 0 by decide)]
theorem nth_lp {F h : Nat} {S : Cst} : ∀ (l : List En) (pr : Option Nat) (n i : Nat), usg S pr (uad l) none → l.length < n → i < 2 ^ 31 → cf_X0_nth_7 F h S n (nI i) (uhd (uad l) none) = some ((l[i]?).map (fun f => f.1)) := by
  intro l
  induction l with
  | nil =>
    intro pr n i _ hn _
    obtain ⟨n, rfl⟩ : ∃ m, n = m + 1 := ⟨n - 1, by simp at hn; omega⟩
    rfl
  | cons f l ih =>
    intro pr n i hc hn hi
    obtain ⟨n, rfl⟩ : ∃ m, n = m + 1 := ⟨n - 1, by simp at hn; omega⟩
    rw [uad_c] at hc ⊢
    obtain ⟨c1, c2, c3⟩ := hc
    simp only [cf_X0_nth_7, uhd, ncS, st1]
    rw [if_neg (nI_pos hi), c2]
    cases i with
    | zero => rw [if_pos (by decide)]; rfl
    | succ i =>
      rw [if_neg (nI_ne0 (by omega) hi), pk_m1, ih (some f.1) n i c3 (by simp at hn; omega) (by omega)]
      simp
theorem ahd_lp {F : Nat} {P : Par} {x : Nat} {S : Cst} {R : Rst} {L A0 B0 : List En} {e0 : En} {t a : Nat} (hF : 1000 ≤ F) (hR : uStR P R) (hS : uStS P x S) (hG : uG P S R L t) (hap : a < pn P) (hL0 : L = A0 ++ e0 :: B0) (hea0 : eA e0 = nI a) (hO0 : eO e0 = 0) : ∀ (B A : List En) (n n' : Nat) (pr : Option Nat) (acc : Int32), L = A ++ B → usg S pr (uad (uOf a B)) none → B.length < n → (uOf a B).length < n' →
    ∃ r, rf_ahead_4 F R n (nI A0.length) acc (nI A.length) = some r ∧ cf_X0_aheadOf_17 F (par P a) S n' (some e0.1) (nI (lz P a e0)) acc (uhd (uad (uOf a B)) none) = some r := by
  have hRL0 := hG.2.2.1
  have hLs0 := hG.1
  rw [hL0] at hRL0 hLs0
  obtain ⟨z1, z2, y1, y2, y3, y4, y5, y6, y7⟩ := uRL_g hRL0 (k := A0.length) (e := e0) get_mid
  have rl0 := rlz_ok hF hR hap hLs0 hRL0 hea0
  have hp0 := Nat.two_pow_pos (psh P a)
  have lzb : ∀ f ∈ L, eA f = nI a → lz P a f < 31 := by
    intro f hf hfa
    obtain ⟨w1, w2, w3⟩ := zn_ok hR.1 hap (hG.1.1 f hf) hfa
    have h1 : 0 < zn f / 2 ^ psh P a := Nat.div_pos w2 hp0
    have h2 : zn f / 2 ^ psh P a ≤ zn f := Nat.div_le_self _ _
    exact (Nat.log2_lt (by omega)).mpr (by omega)
  intro B
  induction B with
  | nil =>
    intro A n n' pr acc hL hc hn hn'
    obtain ⟨n, rfl⟩ : ∃ m, n = m + 1 := ⟨n - 1, by simp at hn; omega⟩
    obtain ⟨n', rfl⟩ : ∃ m, n' = m + 1 := ⟨n' - 1, by simp [uOf] at hn'; omega⟩
    rw [List.append_nil] at hL
    refine ⟨acc, ?_, rfl⟩
    simp only [rf_ahead_4]
    rw [if_pos (wk_nil (by rw [← hL]; exact hG.2.2.1))]
  | cons e B ih =>
    intro A n n' pr acc hL hc hn hn'
    obtain ⟨n, rfl⟩ : ∃ m, n = m + 1 := ⟨n - 1, by simp at hn; omega⟩
    have hRL := hG.2.2.1
    have hLs := hG.1
    rw [hL] at hRL hLs
    obtain ⟨k1, k2, g1, g2, g3, g4, g5, g6, g7⟩ := uRL_g hRL (k := A.length) (e := e) get_mid
    have hL' : L = (A ++ [e]) ++ B := by rw [hL]; simp
    have hn1 : B.length < n := by simp at hn; omega
    simp only [rf_ahead_4]
    rw [if_neg (wk_cons hRL), rd_n (f := 11) k2, g1, rd_n (f := 11) z2, y1, hea0, sn_len (e := e)]
    by_cases ha : eA e = nI a
    · rw [uOf_y ha] at hc hn' ⊢
      obtain ⟨n', rfl⟩ : ∃ m, n' = m + 1 := ⟨n' - 1, by simp at hn'; omega⟩
      have hn2 : (uOf a B).length < n' := by simp at hn'; omega
      rw [uad_c] at hc ⊢
      obtain ⟨c1, c2, c3⟩ := hc
      have he : e ∈ L := by rw [hL]; simp
      have he0 : e0 ∈ L := by rw [hL0]; simp
      have hfd := hG.2.2.2.1.1 e he
      have hk := fun acc => ih (A ++ [e]) n n' (some e.1) acc hL' c3 hn1 hn2
      have rl := rlz_ok hF hR hap hLs hRL ha
      have cl := clz_ok (F := F) hR hS hap (hG.1.1 e he) ha
      rw [if_pos ha, rd_n (f := 14) k2, g4]
      simp only [cf_X0_aheadOf_17, uhd, ncS, st1]
      rw [hfd.2.2.1, hfd.2.2.2.1, c2]
      by_cases ho : eO e = 0
      · rw [if_pos ho, if_pos ho, rl, rl0, cl]
        simp only [Option.bind_some]
        have b1 := lzb e he ha
        have b2 := lzb e0 he0 hea0
        by_cases q : lz P a e = lz P a e0
        · rw [if_pos (by rw [q]), if_pos (by rw [q]), rd_n (f := 15) k2, rd_n (f := 15) z2, g5, y5, nnS]
          have hT := hG.2.2.2.2.2.2.2.2.2.2 e0 he0 e he (hea0.trans ha.symm) hO0 ho
          by_cases q3 : eT e ≤ eT e0
          · have q4 : gI S 83 e.1 ≤ gI S 83 e0.1 := by
              rw [Int32.le_iff_toInt_le] at *
              rw [Int32.lt_iff_toInt_lt, Int32.lt_iff_toInt_lt] at hT
              have : ¬ (gI S 83 e0.1).toInt < (gI S 83 e.1).toInt := fun w => by have := hT.mp w; omega
              omega
            rw [if_pos q3, if_pos q4]; exact hk acc
          · have q4 : ¬ gI S 83 e.1 ≤ gI S 83 e0.1 := by
              rw [Int32.le_iff_toInt_le] at *
              rw [Int32.lt_iff_toInt_lt, Int32.lt_iff_toInt_lt] at hT
              have := hT.mpr (by omega)
              omega
            rw [if_neg q3, if_neg q4]; exact hk (acc + 1)
        · have q' : ¬ nI (lz P a e) = nI (lz P a e0) := fun w => q ((nI_eq (by omega) (by omega)).mp w)
          rw [if_neg q', if_neg q']; exact hk acc
      · rw [if_neg ho, if_neg ho]; exact hk acc
    · rw [if_neg ha]
      rw [uOf_n ha] at hc hn' ⊢
      exact ih (A ++ [e]) n n' pr acc hL' hc hn1 hn'
theorem min_pos {F : Nat} {P : Par} {S : Cst} {R : Rst} {A C l : List En} {L : List En} {t a : Nat} (hF : 1000 ≤ F) (ha : a < 2 ^ 31) (hG : uG P S R L t) (hL : L = A ++ (l ++ C)) (hA : ∀ f ∈ A, (eA f).toInt < a) (hl : ∀ f ∈ l, eA f = nI a) (hC : ∀ f ∈ C, (a : Int) < (eA f).toInt) : rf_position F R (nI a) (-2147483648) = some (nI A.length) := by
  have hai : (nI a).toInt = (a : Int) := nI_toInt ha
  refine pos_ok hF hG.2.2.1 hL (fun f hf => ?_) (fun f hf => ?_)
  · left
    rw [Int32.lt_iff_toInt_lt, hai]; exact hA f hf
  · have hm : f ∈ l ++ C := List.mem_of_head? hf
    rintro (z | ⟨z1, z2⟩)
    · rw [Int32.lt_iff_toInt_lt, hai] at z
      rcases List.mem_append.mp hm with h | h
      · rw [hl f h, hai] at z; omega
      · have := hC f h; omega
    · rw [lg_nn, Int64.lt_iff_toInt_lt, Int32.toInt_toInt64] at z2
      have := (uEl_sp (hG.1.1 f (by rw [hL]; exact List.mem_append.mpr (Or.inr hm)))).2.2.1
      have e1 : eb f = (eB f).toInt := rfl
      have : (-2147483648 : Int64).toInt = -2147483648 := by decide
      omega
theorem wk2_3 {S : Cst} : wk2 (.inl (3, S) : Thr Int32) = 2 := rfl
theorem lit_lt {w : Int32} {k : Nat} (hk : k < 2 ^ 31) (h : ¬ w < 0) (h2 : ¬ (nI k) < w) : ∃ j, j ≤ k ∧ w = nI j := by
  obtain ⟨j, j1, rfl⟩ := nI_of h
  exact ⟨j, Nat.le_of_not_lt (fun z => h2 (nI_lt z j1)), rfl⟩
set_option maxHeartbeats 2000000 in
theorem sim_segment {n x : Nat} {S : Cst} {R : Rst} (F : Nat) (hF : 1000000 ≤ F) (x1 x2 x3 : Int32) (h : Sim (n + 1) x S R) : SimOp n x wk2 (fun k => k = 1 ∨ k = 3) (cf_X6_segment F S x x1 x2 x3) (rf_segment F R x1 x2 x3) := by
  have h0 := h
  obtain ⟨P, L, M, Q, H, t, hA, ht, hH⟩ := h
  obtain ⟨b1, b2, b3, b4, b5⟩ := bud ht
  clear ht
  have hFt : 1000 ≤ F := Nat.le_trans (by decide) hF
  have hR := hA.1
  have hS := hA.2.1
  have hG := hA.2.2.2.1
  unfold cf_X6_segment rf_segment
  rcases arena_ok (F := F) x1 hR hS with ⟨a, ha, rfl, c1, c2⟩ | ⟨c1, c2, _⟩
  · rw [c1, c2, Option.bind_some, Option.bind_some]
    simp only [tr, st2, nnS]
    rw [if_neg (show ¬ (1 : Int32) = 0 by decide)]
    have ha8 : a < 8 := by have := hR.1; omega
    obtain ⟨A, C, hL, hA1, hC1⟩ := ar_split (a := a) (by omega) hG.1
    have hl1 : ∀ f ∈ uOf a L, eA f = nI a := fun f hf => (uOf_mem.mp hf).2
    rw [min_pos hFt (by omega) hG hL hA1 hl1 hC1, Option.bind_some]
    have t54 : ∀ y, rf_segment_54 F (rput R 0 0) x3 y 0 = some (0, rput R 0 2) := by
      intro y
      unfold rf_segment_54
      rw [right_0 put0 (by decide), put00, Option.bind_some]
      simp only [st2]
      rw [if_pos trivial]
    have hcs := (hG.2.2.2.1.2.2 a ha).1
    have hle := uOf_le (a := a) (L := L)
    have h600 := hG.2.2.1.2.1
    by_cases h2 : x2 < 0
    · rw [if_pos h2]
      have hnth : cf_X0_nth F S (par P a) x2 = some none := by
        unfold cf_X0_nth
        simp only [st1]
        rw [hcs.1]
        obtain ⟨m, rfl⟩ : ∃ m, F = m + 1 := ⟨F - 1, by omega⟩
        simp only [cf_X0_nth_7]
        cases hq : uhd (uad (uOf a L)) none with
        | none => rfl
        | some p => rw [ncS, if_pos h2]
      rw [hnth, Option.bind_some, ncN]
      exact op_thr (v := 2) h0 (Or.inr rfl) rfl rfl (t54 _)
    · rw [if_neg h2]
      obtain ⟨i, hi, rfl⟩ := nI_of h2
      have hof := of_ok (F := F) (a := a) (w := 9) (fg := 0) hFt hG
      have h9 := fsum_9 (uOf a L) 0
      rw [nI_0, Nat.zero_add] at h9
      rw [h9] at hof
      rw [hof, Option.bind_some]
      have hnth : cf_X0_nth F S (par P a) (nI i) = some (((uOf a L)[i]?).map (fun f => f.1)) := by
        unfold cf_X0_nth
        simp only [st1]
        rw [hcs.1]
        exact nth_lp _ none F i hcs.2 (by omega) hi
      rw [hnth, Option.bind_some]
      by_cases hlt : i < (uOf a L).length
      · rw [if_neg (nI_ge hlt (by omega))]
        obtain ⟨e, hgi⟩ : ∃ e, (uOf a L)[i]? = some e := ⟨_, List.getElem?_eq_getElem hlt⟩
        have hem : e ∈ uOf a L := List.mem_of_getElem? hgi
        obtain ⟨he, hea⟩ := uOf_mem.mp hem
        have hfd := hG.2.2.2.1.1 e he
        have hE := hG.1.1 e he
        obtain ⟨s1, s2, s3, s4⟩ := uEl_sl hE
        have hidx : L[A.length + i]? = some e := by
          have : L[A.length + i]? = (A ++ (uOf a L ++ C))[A.length + i]? := by rw [← hL]
          rw [this, List.getElem?_append_right (by omega), Nat.add_sub_cancel_left, List.getElem?_append_left hlt]; exact hgi
        obtain ⟨k1, k2, g1, g2, g3, g4, g5, g6, g7⟩ := uRL_g hG.2.2.1 hidx
        rw [hgi, Option.map_some, ncS, nI_add]
        -- the place of the entry
        obtain ⟨A2, B2, hL2, hAl⟩ : ∃ A2 B2, L = A2 ++ e :: B2 ∧ A2.length = A.length + i := by
          refine ⟨L.take (A.length + i), L.drop (A.length + i + 1), ?_, by simp; omega⟩
          have h1 := (List.getElem?_eq_some_iff.mp hidx)
          conv => lhs; rw [← List.take_append_drop (A.length + i) L]
          congr 1
          rw [List.drop_eq_getElem_cons h1.1, h1.2]
        by_cases h3 : x3 < 0
        · rw [if_pos h3]
          have n : ∀ k : Nat, k < 8 → ¬ x3 = nI k := fun k hk z => by rw [z] at h3; exact nI_pos (by omega) h3
          rw [if_neg (show ¬ x3 = (0 : Int32) from n 0 (by decide)), if_neg (show ¬ x3 = (1 : Int32) from n 1 (by decide)), if_neg (show ¬ x3 = (2 : Int32) from n 2 (by decide)), if_neg (show ¬ x3 = (3 : Int32) from n 3 (by decide)), if_neg (show ¬ x3 = (4 : Int32) from n 4 (by decide)), if_neg (show ¬ x3 = (5 : Int32) from n 5 (by decide)), if_neg (show ¬ x3 = (6 : Int32) from n 6 (by decide)), if_neg (show ¬ x3 = (7 : Int32) from n 7 (by decide))]
          exact op_thr (v := 2) h0 (Or.inr rfl) rfl rfl (t54 _)
        · rw [if_neg h3]
          by_cases h7 : (7 : Int32) < x3
          · rw [if_pos h7]
            have n : ∀ k : Nat, k < 8 → ¬ x3 = nI k := fun k hk z => by
              rw [z] at h7
              have := (nI_ltI (a := 7) (b := k) (by omega) (by omega)).mp h7
              omega
            rw [if_neg (show ¬ x3 = (0 : Int32) from n 0 (by decide)), if_neg (show ¬ x3 = (1 : Int32) from n 1 (by decide)), if_neg (show ¬ x3 = (2 : Int32) from n 2 (by decide)), if_neg (show ¬ x3 = (3 : Int32) from n 3 (by decide)), if_neg (show ¬ x3 = (4 : Int32) from n 4 (by decide)), if_neg (show ¬ x3 = (5 : Int32) from n 5 (by decide)), if_neg (show ¬ x3 = (6 : Int32) from n 6 (by decide)), if_neg (show ¬ x3 = (7 : Int32) from n 7 (by decide))]
            exact op_thr (v := 2) h0 (Or.inr rfl) rfl rfl (t54 _)
          · rw [if_neg h7]
            unfold rf_segment_54
            rw [right_1 put0, Option.bind_some]
            simp only [st2]
            rw [if_neg (show ¬ (1 : Int32) = 0 by decide)]
            obtain ⟨j, hj, rfl⟩ := lit_lt (k := 7) (by omega) h3 h7
            have fin : ∀ v, SimOp n x wk2 (fun k => k = 1 ∨ k = 3) (some (.inr (v, S))) (some (v, rput R 0 0)) := fun v => op_ok (fun w => rfl) hA b5 (by omega) rfl rfl
            have rl : rf_listOf F (rput R 0 0) (nI (A.length + i)) = some (nI (lz P a e)) := by
              have h1 := hG.2.2.1
              have h2' := hG.1
              rw [hL2] at h1 h2'
              rw [← hAl]; exact rlz_ok hFt hR ha h2' h1 hea
            have cl := clz_ok (F := F) hR hS ha hE hea
            rcases (by omega : j = 0 ∨ j = 1 ∨ j = 2 ∨ j = 3 ∨ j = 4 ∨ j = 5 ∨ j = 6 ∨ j = 7) with rfl | rfl | rfl | rfl | rfl | rfl | rfl | rfl
            · rw [if_pos (show nI 0 = 0 by decide), if_pos (show nI 0 = 0 by decide), rd_n (f := 12) k2, g2, hfd.2.1]; exact fin _
            · rw [if_neg (show ¬ nI 1 = 0 by decide), if_neg (show ¬ nI 1 = 0 by decide), if_pos (show nI 1 = 1 by decide), if_pos (show nI 1 = 1 by decide), rd_n (f := 13) k2, g3, hfd.2.2.1]; exact fin _
            · rw [if_neg (show ¬ nI 2 = 0 by decide), if_neg (show ¬ nI 2 = 0 by decide), if_neg (show ¬ nI 2 = 1 by decide), if_neg (show ¬ nI 2 = 1 by decide), if_pos (show nI 2 = 2 by decide), if_pos (show nI 2 = 2 by decide), rd_n (f := 14) k2, g4, hfd.2.2.2.1]; exact fin _
            · rw [if_neg (show ¬ nI 3 = 0 by decide), if_neg (show ¬ nI 3 = 0 by decide), if_neg (show ¬ nI 3 = 1 by decide), if_neg (show ¬ nI 3 = 1 by decide), if_neg (show ¬ nI 3 = 2 by decide), if_neg (show ¬ nI 3 = 2 by decide), if_pos (show nI 3 = 3 by decide), if_pos (show nI 3 = 3 by decide), rd_n (f := 14) k2, g4, hfd.2.2.2.1, hfd.2.2.1]
              by_cases ho : eO e = 0
              · rw [if_pos ho, if_pos ho, cl, rl, Option.bind_some, Option.bind_some]; exact fin _
              · rw [if_neg ho, if_neg ho]; exact fin _
            · rw [if_neg (show ¬ nI 4 = 0 by decide), if_neg (show ¬ nI 4 = 0 by decide), if_neg (show ¬ nI 4 = 1 by decide), if_neg (show ¬ nI 4 = 1 by decide), if_neg (show ¬ nI 4 = 2 by decide), if_neg (show ¬ nI 4 = 2 by decide), if_neg (show ¬ nI 4 = 3 by decide), if_neg (show ¬ nI 4 = 3 by decide), if_pos (show nI 4 = 4 by decide), if_pos (show nI 4 = 4 by decide), rd_n (f := 14) k2, g4, hfd.2.2.2.1]
              by_cases ho : eO e = 0
              · rw [if_pos ho, if_pos ho]
                obtain ⟨r, r1, r2⟩ := ahd_lp (F := F) hFt hR hS hG ha hL2 hea ho L [] F F none 0 rfl hcs.2 (by omega) (by omega)
                have e1 : cf_X0_aheadOf F S (par P a) (some e.1) = some r := by
                  unfold cf_X0_aheadOf
                  simp only [nnS, st1]
                  rw [hfd.2.2.1, cl, Option.bind_some, hcs.1]; exact r2
                have e2 : rf_ahead F (rput R 0 0) (nI (A.length + i)) = some r := by
                  unfold rf_ahead
                  rw [← hAl]; exact r1
                rw [e1, e2, Option.bind_some, Option.bind_some]; exact fin _
              · rw [if_neg ho, if_neg ho]; exact fin _
            · rw [if_neg (show ¬ nI 5 = 0 by decide), if_neg (show ¬ nI 5 = 0 by decide), if_neg (show ¬ nI 5 = 1 by decide), if_neg (show ¬ nI 5 = 1 by decide), if_neg (show ¬ nI 5 = 2 by decide), if_neg (show ¬ nI 5 = 2 by decide), if_neg (show ¬ nI 5 = 3 by decide), if_neg (show ¬ nI 5 = 3 by decide), if_neg (show ¬ nI 5 = 4 by decide), if_neg (show ¬ nI 5 = 4 by decide), if_pos (show nI 5 = 5 by decide), if_pos (show nI 5 = 5 by decide), rd_n (f := 16) k2, g6, s2, rd_n (f := 20) s1, hfd.2.2.2.2.1]; exact fin _
            · rw [if_neg (show ¬ nI 6 = 0 by decide), if_neg (show ¬ nI 6 = 0 by decide), if_neg (show ¬ nI 6 = 1 by decide), if_neg (show ¬ nI 6 = 1 by decide), if_neg (show ¬ nI 6 = 2 by decide), if_neg (show ¬ nI 6 = 2 by decide), if_neg (show ¬ nI 6 = 3 by decide), if_neg (show ¬ nI 6 = 3 by decide), if_neg (show ¬ nI 6 = 4 by decide), if_neg (show ¬ nI 6 = 4 by decide), if_neg (show ¬ nI 6 = 5 by decide), if_neg (show ¬ nI 6 = 5 by decide), if_pos (show nI 6 = 6 by decide), if_pos (show nI 6 = 6 by decide), rd_n (f := 16) k2, g6, s2, rd_n (f := 21) s1, hfd.2.2.2.2.2]; exact fin _
            · rw [if_neg (show ¬ nI 7 = 0 by decide), if_neg (show ¬ nI 7 = 0 by decide), if_neg (show ¬ nI 7 = 1 by decide), if_neg (show ¬ nI 7 = 1 by decide), if_neg (show ¬ nI 7 = 2 by decide), if_neg (show ¬ nI 7 = 2 by decide), if_neg (show ¬ nI 7 = 3 by decide), if_neg (show ¬ nI 7 = 3 by decide), if_neg (show ¬ nI 7 = 4 by decide), if_neg (show ¬ nI 7 = 4 by decide), if_neg (show ¬ nI 7 = 5 by decide), if_neg (show ¬ nI 7 = 5 by decide), if_neg (show ¬ nI 7 = 6 by decide), if_neg (show ¬ nI 7 = 6 by decide), if_pos (show nI 7 = 7 by decide), rd_n (f := 16) k2, g6, s2, rd_n (f := 23) s1]
              simp only [st1]
              obtain ⟨a', a1, a2, a3, _⟩ := hG.2.1.2.1 (esl e) s1 s3
              have haa : a' = a := nI8 hR.1 a1 ha (a2.symm.trans (s4.trans hea))
              subst haa
              rw [a3, (hS.2.2.2.2 a' ha).2.2.2.2.1]
              cases psc P a' with
              | none => exact fin _
              | some c => exact fin _
      · rw [if_pos (nI_le (by omega) hi), List.getElem?_eq_none (by omega)]
        exact op_thr (v := 2) h0 (Or.inr rfl) rfl rfl (t54 _)
  · rw [c1, c2, Option.bind_some, Option.bind_some]
    simp only [tr, st2]
    rw [if_pos trivial]
    exact op_thr h0 (Or.inl rfl) rfl rfl rfl
