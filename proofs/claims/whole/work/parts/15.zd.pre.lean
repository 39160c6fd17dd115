/-! ===== pure part: what every call begins with ===== -/
def Sim (n x : Nat) (S : Cst) (R : Rst) : Prop := ∃ P L M Q H t, uA P x S (rput R 0 0) L M Q H t ∧ t + 50000 * n < 2147483648 ∧ H.length + n ≤ 512
theorem uA_t {P : Par} {x : Nat} {S : Cst} {R : Rst} {L : List En} {M : Pil} {Q : Pad} {H : List (Nat × Int32)} {t : Nat} (h : uA P x S R L M Q H t) : R.1 0 = 0 := h.1.2.1.2
theorem put_id {R : Rst} (h : R.1 0 = 0) : rput R 0 0 = R := by
  unfold rput
  refine Prod.ext ?_ rfl
  funext j
  show va_up R.1 0 0 j = R.1 j
  unfold va_up
  by_cases hj : j = 0
  · rw [if_pos hj, hj, h]
  · rw [if_neg hj]
theorem right_1 {F : Nat} {R : Rst} {v : Int32} (h : R.1 0 = 0) : rf_right F R 1 v = some (1, R) := by
  unfold rf_right rf_right_16
  rw [if_pos h, if_neg (by decide), if_pos h]
theorem right_0 {F : Nat} {R : Rst} {v : Int32} (h : R.1 0 = 0) (hv : v ≠ 0) : rf_right F R 0 v = some (0, rput R 0 v) := by
  unfold rf_right rf_right_16
  rw [if_pos h, if_pos rfl]
  simp only [st1]
  rw [rput_g, if_pos rfl, if_neg hv]
theorem put00 {R : Rst} {u v : Int32} : rput (rput R 0 u) 0 v = rput R 0 v := by
  unfold rput
  refine Prod.ext ?_ rfl
  funext j
  show va_up (va_up R.1 0 u) 0 v j = va_up R.1 0 v j
  unfold va_up
  by_cases h : j = 0 <;> simp [h]
theorem put0 {R : Rst} {v : Int32} : (rput R 0 v).1 0 = v := by rw [rput_g, if_pos rfl]
theorem arena_ok {F : Nat} {P : Par} {x : Nat} {S : Cst} {R : Rst} (x1 : Int32) (hR : uStR P (rput R 0 0)) (hS : uStS P x S) : (∃ a, a < pn P ∧ x1 = nI a ∧ cf_X6_arenaAt F S x x1 = some (.inr (some (par P a), S)) ∧ rf_isArena F R x1 = some (1, rput R 0 0)) ∨ (cf_X6_arenaAt F S x x1 = some (.inl (1, S)) ∧ rf_isArena F R x1 = some (0, rput R 0 1) ∧ ∀ a, a < pn P → x1 ≠ nI a) := by
  obtain ⟨s1, s2, ⟨tt, s3, s4, s5⟩, _⟩ := hS
  have hP := hR.1
  unfold cf_X6_arenaAt cf_X6_arenaOrNull rf_isArena
  simp only [st1, nnS, s3]
  have h1 : (rput R 0 (0 : Int32)).1 1 = nI (pn P) := hR.2.1.1
  rw [h1, s4]
  rcases pk_ix x1 (n := pn P) (by omega) with h | h | ⟨a, ha, rfl⟩
  · right
    rw [if_pos h, if_pos h, right_0 put0 (by decide), put00, Option.bind_some, Option.bind_some]
    refine ⟨rfl, ?_, fun a ha z => ?_⟩
    · simp only [st2]; unfold bz; rw [if_pos (Or.inl rfl)]
    · rw [z] at h; exact nI_pos (by omega) h
  · right
    have h0 : ¬ x1 < 0 := by
      intro z
      rw [Int32.lt_iff_toInt_lt] at z
      rw [Int32.le_iff_toInt_le, nI_toInt (by omega)] at h
      have : (0 : Int32).toInt = 0 := by decide
      omega
    rw [if_neg h0, if_neg h0, if_pos h, right_0 put0 (by decide), put00, Option.bind_some]
    refine ⟨?_, ?_, fun a ha z => ?_⟩
    · by_cases h8 : Int32.ofNat 8 ≤ x1
      · rw [if_pos h8]; rfl
      · rw [if_neg h8]
        obtain ⟨k, hk, rfl⟩ := nI_of h0
        have hk8 : k < 8 := by
          refine Classical.byContradiction (fun z => h8 ?_)
          exact nI_le (a := 8) (by omega) hk
        unfold cqd
        rw [s4, if_pos (inb_n hk8 (by omega)), nI_clamp (by omega), s5 k hk8, if_neg (fun z => by have := (nI_leI (by omega) (by omega)).mp h; omega)]
        rfl
    · simp only [st2]; unfold bz; rw [if_pos (Or.inl rfl)]
    · rw [z] at h; have := (nI_leI (by omega) (by omega)).mp h; omega
  · left
    refine ⟨a, ha, rfl, ?_, ?_⟩
    · rw [if_neg (nI_pos (by omega)), if_neg (show ¬ Int32.ofNat 8 ≤ nI a from nI_ge (b := 8) (by omega) (by omega))]
      unfold cqd
      rw [s4, if_pos (inb_n (show a < 8 by omega) (by omega)), nI_clamp (by omega), s5 a (by omega), if_pos ha]
      rfl
    · rw [if_neg (nI_pos (by omega)), if_neg (nI_ge ha (by omega)), right_1 put0, Option.bind_some]
      simp only [st2]; unfold bz; rw [if_pos (Or.inr rfl)]
/-! tags -/
def sm (f : Nat → Nat) : Nat → Nat
  | 0 => 0
  | n + 1 => sm f n + f n
theorem sm_add (f g : Nat → Nat) : ∀ n, sm (fun k => f k + g k) n = sm f n + sm g n := by
  intro n
  induction n with
  | zero => rfl
  | succ n ih => simp only [sm, ih]; omega
theorem sm_cg {f g : Nat → Nat} : ∀ {n}, (∀ k, k < n → f k = g k) → sm f n = sm g n := by
  intro n
  induction n with
  | zero => intro _; rfl
  | succ n ih => intro h; simp only [sm]; rw [ih (fun k hk => h k (by omega)), h n (by omega)]
theorem sm_one {a : Nat} : ∀ {n}, a < n → sm (fun k => if k = a then 1 else 0) n = 1 := by
  have z : ∀ m, m ≤ a → sm (fun k => if k = a then 1 else 0) m = 0 := by
    intro m
    induction m with
    | zero => intro _; rfl
    | succ m ih => intro h; simp only [sm]; rw [ih (by omega), if_neg (by omega)]
  intro n
  induction n with
  | zero => intro h; omega
  | succ n ih =>
    intro h
    simp only [sm]
    by_cases hn : n = a
    · subst hn; rw [z n (Nat.le_refl _), if_pos rfl]
    · rw [ih (by omega), if_neg hn]
theorem sm_cnt {α : Type} {N : Nat} {p : Nat → α → Bool} : ∀ {l : List α}, (∀ e ∈ l, ∃ a, a < N ∧ ∀ b, b < N → (p b e = true ↔ b = a)) → sm (fun a => (l.filter (p a)).length) N = l.length := by
  intro l
  induction l with
  | nil =>
    intro _
    have : ∀ n, sm (fun a => ([] : List α).length) n = 0 := by
      intro n; induction n with
      | zero => rfl
      | succ n ih => simp only [sm]; rw [ih]; rfl
    exact this N
  | cons e l ih =>
    intro h
    obtain ⟨a, ha, hb⟩ := h e List.mem_cons_self
    have e1 : sm (fun b => ((e :: l).filter (p b)).length) N = sm (fun b => (if b = a then 1 else 0) + (l.filter (p b)).length) N := by
      apply sm_cg
      intro b hbN
      by_cases q : b = a
      · rw [if_pos q, List.filter_cons_of_pos ((hb b hbN).mpr q)]; simp; omega
      · rw [if_neg q, List.filter_cons_of_neg (fun w => q ((hb b hbN).mp w))]; omega
    rw [e1, sm_add, sm_one ha, ih (fun f hf => h f (List.mem_cons_of_mem _ hf))]
    simp; omega
theorem tag_lp {F : Nat} {P : Par} {x : Nat} {S : Cst} {tt : Nat} {f : Nat → Nat} (hP : pn P ≤ 8) (h96 : gP S 96 x = some tt) (hN : gN S tt = 8) (hQ : ∀ a, a < 8 → gQ S tt a = if a < pn P then some (par P a) else none) (hf : ∀ a, a < pn P → gI S 8 (par P a) + gI S 9 (par P a) = nI (f a)) (hs : sm f (pn P) ≤ 600) : ∀ d k n, k + d = 8 → d < n → cf_X6_tagsLeft_6 F x S n (nI (600 - sm f (min k (pn P)))) (nI k) = some (nI (600 - sm f (pn P))) := by
  have mono : ∀ k, k ≤ pn P → sm f k ≤ sm f (pn P) := by
    intro k hk
    have : ∀ d, sm f k ≤ sm f (k + d) := by
      intro d; induction d with
      | zero => exact Nat.le_refl _
      | succ d ih => show _ ≤ sm f (k + d) + f (k + d); omega
    have := this (pn P - k)
    rwa [show k + (pn P - k) = pn P by omega] at this
  intro d
  induction d with
  | zero =>
    intro k n hk hn
    obtain ⟨n, rfl⟩ : ∃ m, n = m + 1 := ⟨n - 1, by omega⟩
    simp only [cf_X6_tagsLeft_6, st1, nnS, h96]
    rw [hN, if_pos (show Int32.ofNat 8 ≤ nI k from nI_le (a := 8) (by omega) (by omega)), show min k (pn P) = pn P by omega]
  | succ d ih =>
    intro k n hk hn
    obtain ⟨n, rfl⟩ : ∃ m, n = m + 1 := ⟨n - 1, by omega⟩
    have hr := ih (k + 1) n (by omega) (by omega)
    simp only [cf_X6_tagsLeft_6, st1, nnS, h96]
    rw [hN, if_neg (show ¬ Int32.ofNat 8 ≤ nI k from nI_ge (b := 8) (by omega) (by omega))]
    unfold cqd
    rw [hN, if_pos (inb_n (show k < 8 by omega) (by omega)), nI_clamp (by omega), hQ k (by omega), nI_1]
    by_cases hkp : k < pn P
    · rw [if_pos hkp]
      simp only []
      rw [ncS, hf k hkp]
      have m1 : min k (pn P) = k := by omega
      have m2 : min (k + 1) (pn P) = k + 1 := by omega
      have hm := mono (k + 1) (by omega)
      have hsk : sm f (k + 1) = sm f k + f k := rfl
      rw [m1, pk_sub (by omega)]
      rw [m2, hsk] at hr
      rw [show 600 - sm f k - f k = 600 - (sm f k + f k) by omega]
      exact hr
    · rw [if_neg hkp]
      simp only []
      rw [ncN]
      have m1 : min k (pn P) = pn P := by omega
      have m2 : min (k + 1) (pn P) = pn P := by omega
      rw [m2] at hr
      rw [m1]; exact hr
theorem tags_ok {F : Nat} {P : Par} {x : Nat} {S : Cst} {R : Rst} {L : List En} {M : Pil} {Q : Pad} {H : List (Nat × Int32)} {t : Nat} (hF : 1000 ≤ F) (hA : uA P x S R L M Q H t) : cf_X6_tagsLeft F S x = some (nI (600 - (L.length + (liv R).length))) ∧ rf_left F R = some (nI (600 - (L.length + (liv R).length))) := by
  obtain ⟨hR, hS, hD, hG, hK, hr⟩ := hA
  have hP := hR.1
  have h5 := hG.2.1.2.2.2.2
  have hc1 : sm (fun a => (uOf a L).length) (pn P) = L.length := by
    refine sm_cnt (p := fun a e => decide (eA e = nI a)) (fun e he => ?_)
    obtain ⟨a, a1, a2, _⟩ := hG.1.1 e he
    refine ⟨a, a1, fun b hb => ?_⟩
    rw [decide_eq_true_iff]
    exact ⟨fun z => nI8 hP hb a1 (z.symm.trans a2), fun z => by rw [z]; exact a2⟩
  have hc2 : sm (fun a => (livA R a).length) (pn P) = (liv R).length := by
    refine sm_cnt (p := fun a s => decide (R.2 19 s = nI a)) (fun s hs => ?_)
    unfold liv at hs
    rw [List.mem_filter] at hs
    obtain ⟨a, a1, a2, _⟩ := hG.2.1.2.1 s (List.mem_range.mp hs.1) (of_decide_eq_true hs.2)
    refine ⟨a, a1, fun b hb => ?_⟩
    rw [decide_eq_true_iff]
    exact ⟨fun z => nI8 hP hb a1 (z.symm.trans a2), fun z => by rw [z]; exact a2⟩
  have hsum : sm (fun a => (livA R a).length + (uOf a L).length) (pn P) = L.length + (liv R).length := by
    rw [sm_add, hc1, hc2]; omega
  constructor
  · obtain ⟨s1, s2, ⟨tt, s3, s4, s5⟩, _⟩ := hS
    have := tag_lp (F := F) (f := fun a => (livA R a).length + (uOf a L).length) hP s3 s4 s5 (fun a ha => by rw [hG.2.2.2.2.1 a ha, (hG.2.2.2.1.2.2 a ha).2, nI_add]) (by rw [hsum]; exact h5) 8 0 F (by omega) (by omega)
    rw [Nat.zero_min, hsum] at this
    exact this
  · unfold rf_left
    rw [hG.2.2.1.1, hG.2.1.2.2.2.1, show (600 : Int32) = nI 600 from rfl, pk_sub (by omega), pk_sub (by omega)]
    rw [show 600 - L.length - (liv R).length = 600 - (L.length + (liv R).length) by omega]
theorem full_ok {F : Nat} {P : Par} {x : Nat} {S : Cst} {R : Rst} {L : List En} {M : Pil} {Q : Pad} {H : List (Nat × Int32)} {t : Nat} (hF : 1000 ≤ F) (hA : uA P x S R L M Q H t) : (L.length + (liv R).length ≤ 560 ∧ cf_X6_isFull F S x = some 0 ∧ ∃ v, rf_left F R = some v ∧ (40 : Int32) ≤ v) ∨ (cf_X6_isFull F S x = some 1 ∧ ∃ v, rf_left F R = some v ∧ ¬ (40 : Int32) ≤ v) := by
  obtain ⟨t1, t2⟩ := tags_ok hF hA
  have h5 := hA.2.2.2.1.2.1.2.2.2.2
  unfold cf_X6_isFull
  rw [t1, Option.bind_some]
  by_cases h : L.length + (liv R).length ≤ 560
  · left
    have : (40 : Int32) ≤ nI (600 - (L.length + (liv R).length)) := nI_le (a := 40) (by omega) (by omega)
    exact ⟨h, by rw [if_pos this], _, t2, this⟩
  · right
    have : ¬ (40 : Int32) ≤ nI (600 - (L.length + (liv R).length)) := nI_ge (b := 40) (by omega) (by omega)
    exact ⟨by rw [if_neg this], _, t2, this⟩
/-! the cache of a size -/
theorem pf_lI {a : Nat} (h : a < 2 ^ 63) : (lN a).toInt = (a : Int) := lg_ofNat_toInt h
theorem pf_shr {a d : Nat} {D : Int64} (hD : (D.toBitVec.smod 64).toNat = d) (h : a < 2 ^ 62) : lN a >>> D = lN (a / 2 ^ d) := by
  have hd : a / 2 ^ d ≤ a := Nat.div_le_self _ _
  apply Int64.toInt_inj.mp
  have e : (lN a >>> D).toInt = (lN a).toInt >>> d := by
    rw [← hD]
    exact BitVec.toInt_sshiftRight ..
  rw [e, Int.shiftRight_eq_div_pow, pf_lI (by omega), pf_lI (by omega)]
  rfl
theorem shr64 {v k : Nat} (hv : v < 2 ^ 62) (hk : k < 64) : lN v >>> ((nI k).toInt64 &&& 63) = lN (v / 2 ^ k) := by
  rw [wbc k hk]
  exact pf_shr (wbsm k hk) hv
theorem cfor_ok {F : Nat} {P : Par} {x : Nat} {S : Cst} {R : Rst} {a m : Nat} (hR : uStR P R) (hS : uStS P x S) (ha : a < pn P) (hm : 1 ≤ m) (hm2 : m * 2 ^ psh P a < 8589934592) : cf_X0_cacheFor F S (par P a) (lN (m * 2 ^ psh P a)) = some (if m ≤ pch P a then some (pca P a m) else none) := by
  have hq := hR.2.2 a ha
  have hp0 := Nat.two_pow_pos (psh P a)
  have hs := hS.2.2.2.2 a ha
  have hmz : m ≤ m * 2 ^ psh P a := Nat.le_mul_of_pos_right _ hp0
  unfold cf_X0_cacheFor
  rw [hs.2.2.2.1, shr64 (by omega) (by omega), Nat.mul_div_cancel _ hp0, hs.2.2.2.2.2.1, nI_l (n := pch P a) (by omega), lN_32]
  by_cases h : m ≤ pch P a
  · rw [if_pos (by rw [lg_le0, pk_lT (by omega), pk_lT (by omega)]; omega), if_pos h, cacheOf_ok hR hS ⟨ha, hm, h⟩]; rfl
  · rw [if_neg (by rw [lg_le0, pk_lT (by omega), pk_lT (by omega)]; omega), if_neg h]
theorem rfor_ok {P : Par} {R : Rst} {a m : Nat} (hR : uStR P R) (ha : a < pn P) (hm2 : m * 2 ^ psh P a < 8589934592) : (lg_cmp (lN (m * 2 ^ psh P a)) ((nI (pch P a)).toInt64 * (nI (2 ^ psh P a)).toInt64) ≤ 0 ↔ m ≤ pch P a) ∧ (lN (m * 2 ^ psh P a) / (nI (2 ^ psh P a)).toInt64).toInt32 = nI m ∧ ¬ (nI (2 ^ psh P a)).toInt64 = 0 := by
  have hq := hR.2.2 a ha
  have hp0 := Nat.two_pow_pos (psh P a)
  have hp16 := pw16 hq.1
  have hb : pch P a * 2 ^ psh P a ≤ 8 * 65536 := Nat.mul_le_mul hq.2.1 hp16
  rw [nI_l (n := pch P a) (by omega), nI_l (n := 2 ^ psh P a) (by omega), lNm]
  refine ⟨?_, ?_, ?_⟩
  · rw [lg_le0, pk_lT (by omega), pk_lT (by omega)]
    constructor
    · intro z
      have z : m * 2 ^ psh P a ≤ pch P a * 2 ^ psh P a := by exact_mod_cast z
      exact Nat.le_of_mul_le_mul_right z hp0
    · intro z
      have := Nat.mul_le_mul_right (2 ^ psh P a) z
      exact_mod_cast this
  · rw [pk_lDiv (by omega) hp0 (by omega), Nat.mul_div_cancel _ hp0, lN_32]
  · intro z
    have := congrArg Int64.toInt z
    rw [pk_lT (by omega)] at this
    have e0 : (0 : Int64).toInt = 0 := by decide
    omega
theorem pos_nI {x : Int32} (h : ¬ x ≤ 0) : ∃ z, 1 ≤ z ∧ z < 2147483648 ∧ x = nI z := by
  have h0 : ¬ x < 0 := by
    intro w; apply h
    rw [Int32.lt_iff_toInt_lt] at w
    rw [Int32.le_iff_toInt_le]; omega
  obtain ⟨z, z1, rfl⟩ := nI_of h0
  refine ⟨z, ?_, z1, rfl⟩
  rcases Nat.eq_zero_or_pos z with w | w
  · subst w; exact absurd (by decide) h
  · exact w
theorem rround_ok {F : Nat} {P : Par} {R : Rst} {a z : Nat} (hR : uStR P R) (ha : a < pn P) (hz : 1 ≤ z) (hz2 : z < 2147483648) : rf_rounded F R (nI a) (nI z) = some (lN (rup P a z * 2 ^ psh P a)) := by
  have ha8 : a < 8 := by have := hR.1; omega
  have hp0 := Nat.two_pow_pos (psh P a)
  have hp16 := pw16 (hR.2.2 a ha).1
  unfold rf_rounded
  rw [rd_n (f := 2) (show a < rlen 2 from ha8), (hR.2.2 a ha).2.2.1, rround hR ha hz hz2]
  unfold dvl
  rw [if_neg]
  intro z
  have := congrArg Int64.toInt z
  rw [Int32.toInt_toInt64, nI_toInt (by omega)] at this
  have e0 : (0 : Int64).toInt = 0 := by decide
  omega
