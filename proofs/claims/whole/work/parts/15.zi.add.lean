/-! ===== pure part: the call add ===== -/
theorem mult_c {x : Int32} {sh : Nat} (hs : sh ≤ 16) : x &&& (nI (2 ^ sh) - 1) = 0 ↔ ((2 ^ sh : Nat) : Int) ∣ x.toInt := by
  have hp0 := Nat.two_pow_pos sh
  have hp := pw16 hs
  have e1 : nI (2 ^ sh) - 1 = nI (2 ^ sh - 1) := pk_sub (a := 2 ^ sh) (b := 1) hp0
  have hm : (nI (2 ^ sh - 1)).toBitVec.toNat = 2 ^ sh - 1 := pk_tn (by omega)
  rw [e1, pk_and x sh hm]
  have hml := Nat.mod_lt x.toBitVec.toNat hp0
  have h32 : ((2 ^ sh : Nat) : Int) ∣ (4294967296 : Int) := by
    have : 2 ^ sh ∣ 2 ^ 32 := Nat.pow_dvd_pow 2 (by omega)
    exact Int.natCast_dvd_natCast.mpr this
  have hx : x.toInt = if 2 * x.toBitVec.toNat < 4294967296 then (x.toBitVec.toNat : Int) else (x.toBitVec.toNat : Int) - 4294967296 := BitVec.toInt_eq_toNat_cond _
  have hd : ((2 ^ sh : Nat) : Int) ∣ x.toInt ↔ 2 ^ sh ∣ x.toBitVec.toNat := by
    rw [hx]
    split
    · exact Int.natCast_dvd_natCast
    · rw [← Int.natCast_dvd_natCast (m := 2 ^ sh)]
      constructor
      · intro h
        have := Int.dvd_add h h32
        rwa [Int.sub_add_cancel] at this
      · intro h; exact Int.dvd_sub h h32
  rw [hd, Nat.dvd_iff_mod_eq_zero]
  exact eqL (K := 0) (k := 0) rfl (by omega) (by omega)
theorem mult_r {x : Int32} {sh : Nat} (hs : sh ≤ 16) : x - x / nI (2 ^ sh) * nI (2 ^ sh) = 0 ↔ ((2 ^ sh : Nat) : Int) ∣ x.toInt := by
  have hp0 := Nat.two_pow_pos sh
  have hp := pw16 hs
  have hq : (nI (2 ^ sh)).toInt = ((2 ^ sh : Nat) : Int) := nI_toInt (by omega)
  have hdv : (x / nI (2 ^ sh)).toInt = x.toInt.tdiv (nI (2 ^ sh)).toInt := Int32.toInt_div_of_ne_right _ _ (nI_nm1 (by omega))
  have hmod : (x - x / nI (2 ^ sh) * nI (2 ^ sh)).toInt = (x.toInt - (x / nI (2 ^ sh)).toInt * (nI (2 ^ sh)).toInt).bmod (2 ^ 32) := by
    rw [Int32.toInt_sub, Int32.toInt_mul, Int.sub_bmod_bmod]
  rw [hdv, hq] at hmod
  have hab : (x.toInt.tmod ((2 ^ sh : Nat) : Int)).natAbs < 65537 := by
    rw [Int.natAbs_tmod]
    have : x.toInt.natAbs % (((2 ^ sh : Nat) : Int)).natAbs < (((2 ^ sh : Nat) : Int)).natAbs := Nat.mod_lt _ (by omega)
    omega
  have h1 := Int.mul_tdiv_add_tmod x.toInt ((2 ^ sh : Nat) : Int)
  rw [Int.mul_comm] at h1
  have e1 : x.toInt - x.toInt.tdiv ((2 ^ sh : Nat) : Int) * ((2 ^ sh : Nat) : Int) = x.toInt.tmod ((2 ^ sh : Nat) : Int) := by omega
  rw [e1, Int.bmod_eq_of_le (by omega) (by omega)] at hmod
  rw [Int.dvd_iff_tmod_eq_zero, ← hmod]
  constructor
  · intro h; rw [h]; rfl
  · intro h; exact i32_sub0 h
/-- every number of a span lies in a segment of it -/
theorem cover {P : Par} {R : Rst} {p : Int} : ∀ (B A : List En) (e : En), uLs P R (A ++ e :: B) → eb e ≤ p → p < spb R e + spz R e → ∃ f ∈ e :: B, eS f = eS e ∧ eA f = eA e ∧ eb f ≤ p ∧ p < eb f + ez f := by
  intro B
  induction B with
  | nil =>
    intro A e h h1 h2
    have h4 := h.2
    rw [uTl_mid] at h4
    have hend : uEnd R e := h4.2
    unfold uEnd at hend
    exact ⟨e, by simp, rfl, rfl, h1, by omega⟩
  | cons g B ih =>
    intro A e h h1 h2
    by_cases hp : p < eb e + ez e
    · exact ⟨e, by simp, rfl, rfl, h1, hp⟩
    · have h4 := h.2
      rw [uTl_mid] at h4
      rcases h4.2.1 with ⟨w1, w2, w3⟩ | ⟨w1, _⟩
      · have hsp := sp_eq (R := R) w1
        obtain ⟨f, f1, f2, f3, f4, f5⟩ := ih (A ++ [e]) g (by simpa using h) (by omega) (by omega)
        exact ⟨f, List.mem_cons_of_mem _ f1, f2.trans w1.symm, f3.trans w2.symm, f4, f5⟩
      · unfold uEnd at w1
        omega
def ovl (b z : Int) (e : En) : Prop := eb e < b + z ∧ b < eb e + ez e
theorem meets_lp {F h : Nat} {S : Cst} {b z : Int32} (hb0 : 0 ≤ b.toInt) (hz0 : 0 < z.toInt) (hbz : b.toInt + z.toInt ≤ 1073741824) : ∀ (l : List En) (pr : Option Nat) (n : Nat), usg S pr (uad l) none → (∀ f ∈ l, gI S 80 f.1 = eB f ∧ gI S 81 f.1 = eZ f ∧ 0 ≤ eb f ∧ 0 < ez f ∧ eb f + ez f ≤ 1073741824) → l.length < n → ((∃ f ∈ l, ovl b.toInt z.toInt f) → cf_X0_meets_5 F h S n b z (uhd (uad l) none) = some 1) ∧ ((∀ f ∈ l, ¬ ovl b.toInt z.toInt f) → cf_X0_meets_5 F h S n b z (uhd (uad l) none) = some 0) := by
  have hs : (b + z).toInt = b.toInt + z.toInt := i32_add (by omega) (by omega)
  intro l
  induction l with
  | nil =>
    intro pr n _ _ hn
    obtain ⟨n, rfl⟩ : ∃ m, n = m + 1 := ⟨n - 1, by simp at hn; omega⟩
    exact ⟨fun ⟨f, hf, _⟩ => (by cases hf), fun _ => rfl⟩
  | cons f l ih =>
    intro pr n hc hb hn
    obtain ⟨n, rfl⟩ : ∃ m, n = m + 1 := ⟨n - 1, by simp at hn; omega⟩
    rw [uad_c] at hc
    obtain ⟨c1, c2, c3⟩ := hc
    obtain ⟨f1, f2, f3, f4, f5⟩ := hb f (by simp)
    obtain ⟨i1, i2⟩ := ih (some f.1) n c3 (fun g hg => hb g (by simp [hg])) (by simp at hn; omega)
    have e1 : eb f = (eB f).toInt := rfl
    have e2 : ez f = (eZ f).toInt := rfl
    have hfs : (eB f + eZ f).toInt = eb f + ez f := i32_add (by omega) (by omega)
    simp only [cf_X0_meets_5, st1]
    rw [uad_c]
    simp only [uhd]
    rw [ncS, f1, f2, c2]
    have skip : ¬ ovl b.toInt z.toInt f → ((∃ g ∈ f :: l, ovl b.toInt z.toInt g) → cf_X0_meets_5 F h S n b z (uhd (uad l) none) = some 1) ∧ ((∀ g ∈ f :: l, ¬ ovl b.toInt z.toInt g) → cf_X0_meets_5 F h S n b z (uhd (uad l) none) = some 0) := by
      intro hno
      refine ⟨fun ⟨g, g1, g2⟩ => i1 ⟨g, ?_, g2⟩, fun w => i2 (fun g hg => w g (List.mem_cons_of_mem _ hg))⟩
      rcases List.mem_cons.mp g1 with rfl | g1
      · exact absurd g2 hno
      · exact g1
    by_cases q1 : b + z ≤ eB f
    · rw [if_pos q1]
      rw [Int32.le_iff_toInt_le, hs] at q1
      exact skip (fun w => by unfold ovl at w; omega)
    · rw [if_neg q1]
      by_cases q2 : eB f + eZ f ≤ b
      · rw [if_pos q2]
        rw [Int32.le_iff_toInt_le, hfs] at q2
        exact skip (fun w => by unfold ovl at w; omega)
      · rw [if_neg q2]
        rw [Int32.le_iff_toInt_le, hs] at q1
        rw [Int32.le_iff_toInt_le, hfs] at q2
        exact ⟨fun _ => rfl, fun w => absurd (show ovl b.toInt z.toInt f by unfold ovl; omega) (w f List.mem_cons_self)⟩
theorem add_lp {F a : Nat} {R : Rst} {b z : Int32} (h01 : ∀ s, s < 600 → R.2 22 s = 0 ∨ R.2 22 s = 1) : ∀ d k n, k + d = 600 → d < n → ((∃ s, k ≤ s ∧ s < 600 ∧ R.2 22 s = 1 ∧ R.2 19 s = nI a ∧ ¬ (R.2 20 s + R.2 21 s) ≤ b ∧ ¬ (b + z) ≤ R.2 20 s) → rf_add_94 F n R (nI a) b z (nI k) = some (-1, R)) ∧ ((∀ s, k ≤ s → s < 600 → R.2 22 s = 1 → R.2 19 s = nI a → (R.2 20 s + R.2 21 s) ≤ b ∨ (b + z) ≤ R.2 20 s) → rf_add_94 F n R (nI a) b z (nI k) = ((rf_addSpan F R (nI a) b z (0 : Int32)).bind fun z13 => st2 z13 fun z13v z13R => some ((0 : Int32), z13R))) := by
  intro d
  induction d with
  | zero =>
    intro k n hk hn
    obtain ⟨n, rfl⟩ : ∃ m, n = m + 1 := ⟨n - 1, by omega⟩
    simp only [rf_add_94]
    rw [if_pos (show (600 : Int32) ≤ nI k from nI_le (a := 600) (by omega) (by omega))]
    exact ⟨fun ⟨s, z1, z2, _⟩ => by omega, fun _ => rfl⟩
  | succ d ih =>
    intro k n hk hn
    obtain ⟨n, rfl⟩ : ∃ m, n = m + 1 := ⟨n - 1, by omega⟩
    have hk6 : k < 600 := by omega
    obtain ⟨i1, i2⟩ := ih (k + 1) n (by omega) (by omega)
    have skip : rf_add_94 F (n + 1) R (nI a) b z (nI k) = rf_add_94 F n R (nI a) b z (nI (k + 1)) → (R.2 22 k = 1 → R.2 19 k = nI a → (R.2 20 k + R.2 21 k) ≤ b ∨ (b + z) ≤ R.2 20 k) → ((∃ s, k ≤ s ∧ s < 600 ∧ R.2 22 s = 1 ∧ R.2 19 s = nI a ∧ ¬ (R.2 20 s + R.2 21 s) ≤ b ∧ ¬ (b + z) ≤ R.2 20 s) → rf_add_94 F (n + 1) R (nI a) b z (nI k) = some (-1, R)) ∧ ((∀ s, k ≤ s → s < 600 → R.2 22 s = 1 → R.2 19 s = nI a → (R.2 20 s + R.2 21 s) ≤ b ∨ (b + z) ≤ R.2 20 s) → rf_add_94 F (n + 1) R (nI a) b z (nI k) = ((rf_addSpan F R (nI a) b z (0 : Int32)).bind fun z13 => st2 z13 fun z13v z13R => some ((0 : Int32), z13R))) := by
      intro h1 h2
      rw [h1]
      refine ⟨fun ⟨s, z1, z2, z3, z4, z5, z6⟩ => i1 ⟨s, ?_, z2, z3, z4, z5, z6⟩, fun w => i2 (fun s s1 s2 => w s (by omega) s2)⟩
      by_cases hsk : s = k
      · subst hsk
        rcases h2 z3 z4 with w | w
        · exact absurd w z5
        · exact absurd w z6
      · omega
    have h6 : ¬ (600 : Int32) ≤ nI k := nI_ge (b := 600) hk6 (by omega)
    rcases h01 k hk6 with hl | hl
    · refine skip ?_ (fun w => by rw [hl] at w; exact absurd w (by decide))
      simp only [rf_add_94]
      rw [if_neg h6, rd_n (f := 22) hk6, hl, if_pos rfl, nI_1]
    · by_cases hn19 : R.2 19 k = nI a
      · by_cases q1 : R.2 20 k + R.2 21 k ≤ b
        · refine skip ?_ (fun _ _ => Or.inl q1)
          simp only [rf_add_94]
          rw [if_neg h6, rd_n (f := 22) hk6, hl, if_neg (show ¬ (1 : Int32) = 0 by decide), rd_n (f := 19) hk6, if_pos hn19, rd_n (f := 20) hk6, rd_n (f := 21) hk6, if_pos q1, nI_1]
        · by_cases q2 : b + z ≤ R.2 20 k
          · refine skip ?_ (fun _ _ => Or.inr q2)
            simp only [rf_add_94]
            rw [if_neg h6, rd_n (f := 22) hk6, hl, if_neg (show ¬ (1 : Int32) = 0 by decide), rd_n (f := 19) hk6, if_pos hn19, rd_n (f := 20) hk6, rd_n (f := 21) hk6, if_neg q1, rd_n (f := 20) hk6, if_pos q2, nI_1]
          · refine ⟨fun _ => ?_, fun w => ?_⟩
            · simp only [rf_add_94]
              rw [if_neg h6, rd_n (f := 22) hk6, hl, if_neg (show ¬ (1 : Int32) = 0 by decide), rd_n (f := 19) hk6, if_pos hn19, rd_n (f := 20) hk6, rd_n (f := 21) hk6, if_neg q1, rd_n (f := 20) hk6, if_neg q2]
            · rcases w k (Nat.le_refl _) hk6 hl hn19 with w | w
              · exact absurd w q1
              · exact absurd w q2
      · refine skip ?_ (fun _ w => absurd w hn19)
        simp only [rf_add_94]
        rw [if_neg h6, rd_n (f := 22) hk6, hl, if_neg (show ¬ (1 : Int32) = 0 by decide), rd_n (f := 19) hk6, if_neg hn19, nI_1]
set_option maxHeartbeats 1000000 in
theorem sim_add {n x : Nat} {S : Cst} {R : Rst} (F : Nat) (hF : 1000000 ≤ F) (x1 x2 x3 : Int32) (h : Sim (n + 1) x S R) : SimOp n x wk2 (fun k => k = 1 ∨ k = 2) (cf_X6_add F S x x1 x2 x3) (rf_add F R x1 x2 x3) := by
  have h0 := h
  obtain ⟨P, L, M, Q, H, t, hA, ht, hH⟩ := h
  obtain ⟨b1, b2, b3, b4, b5⟩ := bud ht
  clear ht
  have hFt : 1000 ≤ F := Nat.le_trans (by decide) hF
  have hR := hA.1
  have hS := hA.2.1
  have hG := hA.2.2.2.1
  unfold cf_X6_add rf_add
  rcases arena_ok (F := F) x1 hR hS with ⟨a, ha, rfl, c1, c2⟩ | ⟨c1, c2, _⟩
  · rw [c1, c2, Option.bind_some, Option.bind_some]
    simp only [tr, st2, nnS]
    rw [if_neg (show ¬ (1 : Int32) = 0 by decide)]
    have ha8 : a < 8 := by have := hR.1; omega
    have hq := hR.2.2 a ha
    have hp0 := Nat.two_pow_pos (psh P a)
    have hp16 := pw16 hq.1
    have t42 : rf_add_42 F (rput R 0 0) (nI a) x2 x3 0 = some (0, rput R 0 2) := by
      unfold rf_add_42
      rw [right_0 put0 (by decide), put00, Option.bind_some]
      simp only [st2]
      rw [if_pos trivial]
    have hmu : ∀ y, cf_X0_isMultiple F S (par P a) y = some (if ((2 ^ psh P a : Nat) : Int) ∣ y.toInt then 1 else 0) := by
      intro y
      unfold cf_X0_isMultiple
      rw [(hS.2.2.2.2 a ha).2.2.1]
      by_cases hy : ((2 ^ psh P a : Nat) : Int) ∣ y.toInt
      · rw [if_pos ((mult_c hq.1).mpr hy), if_pos hy]
      · rw [if_neg (fun z => hy ((mult_c hq.1).mp z)), if_neg hy]
    have hdv : ¬ nI (2 ^ psh P a) = 0 := nI_ne0 hp0 (by omega)
    -- the reference's tests, one by one
    have bad : (¬ ((2 ^ psh P a : Nat) : Int) ∣ x2.toInt ∨ ¬ ((2 ^ psh P a : Nat) : Int) ∣ x3.toInt ∨ x3 ≤ 0) → (if x3 ≤ 0 then (rf_add_42 F (rput R 0 0) (nI a) x2 x3 (0 : Int32)) else (rd (rput R 0 0) 2 (nI a) fun v23 => dv v23 (if (x2 - x2 / v23 * v23) = 0 then (rd (rput R 0 0) 2 (nI a) fun v25 => dv v25 (if (x3 - x3 / v25 * v25) = 0 then (rf_add_42 F (rput R 0 0) (nI a) x2 x3 (1 : Int32)) else (rf_add_42 F (rput R 0 0) (nI a) x2 x3 (0 : Int32)))) else (rf_add_42 F (rput R 0 0) (nI a) x2 x3 (0 : Int32))))) = some (0, rput R 0 2) := by
      intro w
      by_cases w3 : x3 ≤ 0
      · rw [if_pos w3]; exact t42
      · rw [if_neg w3, rd_n (f := 2) (show a < rlen 2 from ha8), hq.2.2.1]
        unfold dv
        rw [if_neg hdv]
        by_cases w1 : ((2 ^ psh P a : Nat) : Int) ∣ x2.toInt
        · rw [if_pos ((mult_r hq.1).mpr w1), rd_n (f := 2) (show a < rlen 2 from ha8), hq.2.2.1, if_neg hdv]
          have w2 : ¬ ((2 ^ psh P a : Nat) : Int) ∣ x3.toInt := by
            rcases w with w | w | w
            · exact absurd w1 w
            · exact w
            · exact absurd w w3
          rw [if_neg (fun z => w2 ((mult_r hq.1).mp z))]; exact t42
        · rw [if_neg (fun z => w1 ((mult_r hq.1).mp z))]; exact t42
    rw [hmu, hmu, Option.bind_some, Option.bind_some]
    by_cases w1 : ((2 ^ psh P a : Nat) : Int) ∣ x2.toInt
    · rw [if_pos w1, if_neg (show ¬ (1 : Int32) = 0 by decide)]
      by_cases w2 : ((2 ^ psh P a : Nat) : Int) ∣ x3.toInt
      · rw [if_pos w2, if_neg (show ¬ (1 : Int32) = 0 by decide)]
        by_cases w3 : x3 ≤ 0
        · have w3' : ¬ 0 < x3 := by
            rw [Int32.le_iff_toInt_le] at w3
            rw [Int32.lt_iff_toInt_lt]; omega
          rw [if_neg w3']
          exact op_thr h0 (Or.inr rfl) rfl rfl (bad (Or.inr (Or.inr w3)))
        · have w3' : 0 < x3 := by
            rw [Int32.le_iff_toInt_le] at w3
            rw [Int32.lt_iff_toInt_lt]; omega
          have hz0 : 0 < x3.toInt := by
            rw [Int32.lt_iff_toInt_lt] at w3'
            have : (0 : Int32).toInt = 0 := by decide
            omega
          rw [if_pos w3', if_neg w3, rd_n (f := 2) (show a < rlen 2 from ha8), hq.2.2.1]
          unfold dv
          rw [if_neg hdv, if_pos ((mult_r hq.1).mpr w1), rd_n (f := 2) (show a < rlen 2 from ha8), hq.2.2.1, if_neg hdv, if_pos ((mult_r hq.1).mpr w2)]
          unfold rf_add_42
          rw [right_1 put0, Option.bind_some]
          simp only [st2]
          rw [if_neg (show ¬ (1 : Int32) = 0 by decide)]
          rcases full_ok hFt hA with ⟨hlen, f1, v, f2, f3⟩ | ⟨f1, v, f2, f3⟩
          · rw [f1, f2, Option.bind_some, Option.bind_some, if_pos rfl, if_pos f3, rd_n (f := 3) (show a < rlen 3 from ha8)]
            have hok : ∀ y, SimOp n x wk2 (fun k => k = 1 ∨ k = 2) (some (.inr ((-1 : Int32), S))) y ↔ SimOp n x wk2 (fun k => k = 1 ∨ k = 2) (some (.inr ((-1 : Int32), S))) y := fun _ => Iff.rfl
            have m1ok : SimOp n x wk2 (fun k => k = 1 ∨ k = 2) (some (.inr ((-1 : Int32), S))) (some (((-1) : Int32), rput R 0 0)) := op_ok (fun w => rfl) hA b5 (by omega) rfl rfl
            have hsum64 : (x2.toInt64 + x3.toInt64).toInt = x2.toInt + x3.toInt := by
              have h1 := Int32.toInt_lt x2
              have h2 := Int32.le_toInt x2
              have h3 := Int32.toInt_lt x3
              rw [Int64.toInt_add, Int32.toInt_toInt64, Int32.toInt_toInt64]
              exact Int.bmod_eq_of_le (by omega) (by omega)
            have h30 : (1073741824 : Int64).toInt = 1073741824 := by decide
            cases hpc : psc P a with
            | some c =>
              have h3 := hq.2.2.2.2.1
              rw [hpc] at h3
              have hcc := hq.2.2.2.2.2 c hpc
              have hp3 := (hS.2.2.2.2 a ha).2.2.2.2.1
              rw [hpc] at hp3
              have c70 : ∀ y, cf_X6_add_70 F x S x2 x3 (some (par P a)) y = some (.inr ((-1 : Int32), S)) := by
                intro y
                unfold cf_X6_add_70
                simp only [nnS, st1]
                rw [hp3]; rfl
              rw [h3]
              show SimOp n x wk2 _ _ (if nI c = -1 then _ else _)
              rw [if_neg (nI_nm1 (by omega)), c70, c70]
              by_cases q1 : x2 < 0
              · rw [if_pos q1]; exact m1ok
              · rw [if_neg q1]
                by_cases q2 : 0 < lg_cmp (x2.toInt64 + x3.toInt64) 1073741824
                · rw [if_pos q2]; exact m1ok
                · rw [if_neg q2]; exact m1ok
            | none =>
              have h3 := hq.2.2.2.2.1
              rw [hpc] at h3
              have hp3 := (hS.2.2.2.2 a ha).2.2.2.2.1
              rw [hpc] at hp3
              have c70 : cf_X6_add_70 F x S x2 x3 (some (par P a)) 0 = some (.inr ((-1 : Int32), S)) := by
                unfold cf_X6_add_70
                simp only [nnS, st1]
                rw [hp3]; rfl
              rw [h3]
              show SimOp n x wk2 _ _ (if (-1 : Int32) = -1 then _ else _)
              rw [if_pos rfl]
              by_cases q1 : x2 < 0
              · rw [if_pos q1, if_pos q1, c70]; exact m1ok
              · rw [if_neg q1, if_neg q1]
                have hb0 : 0 ≤ x2.toInt := by
                  rw [Int32.lt_iff_toInt_lt] at q1
                  have : (0 : Int32).toInt = 0 := by decide
                  omega
                by_cases q2 : 0 < lg_cmp (x2.toInt64 + x3.toInt64) 1073741824
                · have q2' : ¬ lg_cmp (x2.toInt64 + x3.toInt64) 1073741824 ≤ 0 := by
                    rw [lg_0lt] at q2; rw [lg_le0]; omega
                  rw [if_pos q2, if_neg q2', c70]; exact m1ok
                · have q2' : lg_cmp (x2.toInt64 + x3.toInt64) 1073741824 ≤ 0 := by
                    rw [lg_0lt] at q2; rw [lg_le0]; omega
                  have hbz : x2.toInt + x3.toInt ≤ 1073741824 := by rw [lg_le0, hsum64, h30] at q2'; exact q2'
                  rw [if_neg q2, if_pos q2']
                  unfold cf_X6_add_70
                  simp only [nnS, st1]
                  rw [hp3, Option.map_none, ncN, if_neg (show ¬ (1 : Int32) = 0 by decide)]
                  have hcs := (hG.2.2.2.1.2.2 a ha).1
                  have hle := uOf_le (a := a) (L := L)
                  have h600 := hG.2.2.1.2.1
                  obtain ⟨m1, m2⟩ := meets_lp (F := F) (h := par P a) (S := S) hb0 hz0 hbz (uOf a L) none F hcs.2 (fun f hf => by
                    have hm := (uOf_mem.mp hf).1
                    have hfd := hG.2.2.2.1.1 f hm
                    have hsp := uEl_sp (hG.1.1 f hm)
                    exact ⟨hfd.2.1, hfd.2.2.1, hsp.2.2.1, hsp.2.2.2.1, hsp.2.2.2.2⟩) (by omega)
                  obtain ⟨l1, l2⟩ := add_lp (F := F) (a := a) (b := x2) (z := x3) hG.2.1.1 600 0 F (by omega) (by omega)
                  rw [nI_0] at l1 l2
                  have hs32 : (x2 + x3).toInt = x2.toInt + x3.toInt := i32_add (by omega) (by omega)
                  unfold cf_X0_meets
                  simp only [st1]
                  rw [hcs.1]
                  by_cases hov : ∃ f ∈ uOf a L, ovl x2.toInt x3.toInt f
                  · rw [m1 hov, Option.bind_some, if_neg (show ¬ (1 : Int32) = 0 by decide), l1 ?_]
                    · exact m1ok
                    · obtain ⟨f, f1, f2⟩ := hov
                      obtain ⟨f3, f4⟩ := uOf_mem.mp f1
                      have hE := hG.1.1 f f3
                      have hsp := uEl_sp hE
                      obtain ⟨s1, s2, s3, s4⟩ := uEl_sl hE
                      obtain ⟨a', a1, a2, a3, a4, a5, a6⟩ := hG.2.1.2.1 (esl f) s1 s3
                      have e1 : spb (rput R 0 0) f = ((rput R 0 0).2 20 (esl f)).toInt := rfl
                      have e2 : spz (rput R 0 0) f = ((rput R 0 0).2 21 (esl f)).toInt := rfl
                      have hss : ((rput R 0 0).2 20 (esl f) + (rput R 0 0).2 21 (esl f)).toInt = spb (rput R 0 0) f + spz (rput R 0 0) f := i32_add (by omega) (by omega)
                      unfold ovl at f2
                      refine ⟨esl f, Nat.zero_le _, s1, s3, s4.trans f4, ?_, ?_⟩
                      · rw [Int32.le_iff_toInt_le, hss]; omega
                      · rw [Int32.le_iff_toInt_le, hs32]; omega
                  · have hno : ∀ f ∈ uOf a L, ¬ ovl x2.toInt x3.toInt f := fun f hf w => hov ⟨f, hf, w⟩
                    rw [m2 hno, Option.bind_some, if_pos rfl, l2 ?_]
                    · obtain ⟨S2, R2, A, B, s, j1, j2, j3, j4, j5, j6, _⟩ := jopen (im := 0) hFt hR hS hG ha hb0 hz0 hbz w1 w2 (fun f hf hfa => by
                        have := hno f (uOf_mem.mpr ⟨hf, hfa⟩)
                        unfold ovl at this
                        omega) (fun c hc => by rw [hpc] at hc; cases hc) (by omega) (by omega) (by rw [hpc]; rfl)
                      have hA2 := uA_F hA j4 j5 j6 (fun f hf => by
                          rw [j1]
                          simp only [List.mem_append, List.mem_cons]
                          constructor
                          · rintro (h | rfl | h)
                            · exact Or.inl h
                            · exact absurd rfl hf
                            · exact Or.inr h
                          · rintro (h | h)
                            · exact Or.inl h
                            · exact Or.inr (Or.inr h)) (fun f hf ho => by
                          rw [j1]
                          simp only [List.mem_append, List.mem_cons] at hf ⊢
                          rcases hf with h | rfl | h
                          · exact Or.inl h
                          · cases ho
                          · exact Or.inr h)
                      rw [j2, j3, Option.bind_some, Option.bind_some]
                      exact op_ok (fun w => rfl) (uA_mono (t' := t + 50000) hA2 (by omega)) b1 (by omega) rfl rfl
                    · intro s _ hs hl h19
                      obtain ⟨a', a1, a2, a3, a4, ⟨e, e1, e2, e3⟩, a6⟩ := hG.2.1.2.1 s hs hl
                      have hesl : esl e = s := by unfold esl; rw [e2]; exact nI_clamp (by omega)
                      have hE := hG.1.1 e e1
                      have hsp := uEl_sp hE
                      have hsl := uEl_sl hE
                      rw [hesl] at hsl
                      have es1 : spb (rput R 0 0) e = ((rput R 0 0).2 20 s).toInt := by unfold spb; rw [hesl]
                      have es2 : spz (rput R 0 0) e = ((rput R 0 0).2 21 s).toInt := by unfold spz; rw [hesl]
                      have heb : eb e = spb (rput R 0 0) e := by rw [es1]; unfold eb; rw [e3]
                      have hss : ((rput R 0 0).2 20 s + (rput R 0 0).2 21 s).toInt = spb (rput R 0 0) e + spz (rput R 0 0) e := by
                        rw [i32_add (by omega) (by omega)]; omega
                      rw [Int32.le_iff_toInt_le, Int32.le_iff_toInt_le, hss, hs32]
                      refine Classical.byContradiction (fun hc => ?_)
                      have hc1 : ¬ (spb (rput R 0 0) e + spz (rput R 0 0) e ≤ x2.toInt) := fun w => hc (Or.inl w)
                      have hc2 : ¬ (x2.toInt + x3.toInt ≤ ((rput R 0 0).2 20 s).toInt) := fun w => hc (Or.inr w)
                      obtain ⟨A, B, hL⟩ := List.append_of_mem e1
                      have hLs := hG.1
                      rw [hL] at hLs
                      by_cases hp : x2.toInt ≤ eb e
                      · refine hno e (uOf_mem.mpr ⟨e1, hsl.2.2.2.symm.trans h19⟩) ?_
                        unfold ovl; omega
                      · obtain ⟨f, f1, f2, f3, f4, f5⟩ := cover (p := x2.toInt) B A e hLs (by omega) (by omega)
                        refine hno f (uOf_mem.mpr ⟨?_, f3.trans (hsl.2.2.2.symm.trans h19)⟩) ?_
                        · rw [hL]; exact List.mem_append.mpr (Or.inr f1)
                        · unfold ovl; omega
          · rw [f1, f2, Option.bind_some, Option.bind_some, if_neg (by decide), if_neg f3]
            exact op_ok (fun w => rfl) hA b5 (by omega) rfl rfl
      · rw [if_neg w2, if_pos rfl]
        exact op_thr h0 (Or.inr rfl) rfl rfl (bad (Or.inr (Or.inl w2)))
    · rw [if_neg w1, if_pos rfl]
      exact op_thr h0 (Or.inr rfl) rfl rfl (bad (Or.inl w1))
  · rw [c1, c2, Option.bind_some, Option.bind_some]
    simp only [tr, st2]
    rw [if_pos trivial]
    exact op_thr h0 (Or.inl rfl) rfl rfl rfl
