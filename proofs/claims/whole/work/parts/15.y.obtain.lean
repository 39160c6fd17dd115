/-! ===== pure part: taken or failed ===== -/
theorem jfail {F : Nat} {P : Par} {x : Nat} {S : Cst} {R : Rst} {L : List En} {M : Pil} {Q : Pad} {H : List (Nat × Int32)} {t a : Nat} {z : Int64} {z' way w : Int32} (kO : Cst → Option Nat → Int64 → Int32 → Int32 → Int32 → Option (Option Nat × Cst)) (kT : Rst → Int32 → Int64 → Int32 → Int32 → Option (Int32 × Rst)) (hA : uA P x S R L M Q H t) (ha : a < pn P) :
    ∃ S' R', cf_X6_obtain_67 F kO S (some (par P a)) z way w none = some (none, S') ∧ rf_takes_75 F kT R (nI a) way w z' (-1) = some (-1, R') ∧ uA P x S' R' L M Q H t ∧ liv R' = liv R := by
  have ha8 : a < 8 := by have := hA.1.1; omega
  have hinj := hA.2.1.2.2.2.1
  have hDa := hA.2.2.1
  refine ⟨sI S 14 (par P a) (gI S 14 (par P a) + 1), rset R 8 a (R.2 8 a + 1), rfl, ?_, ?_, ?_⟩
  · unfold rf_takes_75
    rw [if_pos rfl, rd_n (f := 8) (show a < rlen 8 from ha8), wr_n (f := 8) (show a < rlen 8 from ha8)]
  · refine uA_D hA ⟨rfl, fun f p hf => by rw [gI_sI, if_neg (fun z => hf ⟨by omega, by omega⟩)], rfl, rfl, rfl, rfl⟩ ⟨fun _ => rfl, fun f hf => rset_f (fun z => hf ⟨by omega, by omega⟩)⟩ ⟨fun b hb => ?_, uZr_set rfl rfl rfl ha hA.2.2.1.2⟩
    obtain ⟨q1, q2, q3, q4, q5, q6⟩ := hDa.1 b hb
    rw [gI_sI 11, if_neg (by omega), gI_sI 12, if_neg (by omega), gI_sI 13, if_neg (by omega), gI_sI 15, if_neg (by omega), gI_sI 14, rset_f (f' := 5) (by decide), rset_f (f' := 6) (by decide), rset_f (f' := 7) (by decide), rset_f (f' := 9) (by decide), rset_g]
    refine ⟨q1, q2, q3, ?_, q5, q6⟩
    by_cases hb2 : b = a
    · subst hb2; rw [if_pos ⟨rfl, rfl⟩, if_pos ⟨rfl, rfl⟩, q4]
    · rw [if_neg (fun z => hb2 (hinj b a hb ha z.2)), if_neg (fun z => hb2 z.2)]; exact q4
  · unfold liv; rw [rset_f (by decide)]
set_option maxHeartbeats 1000000 in
theorem jfin {F : Nat} {P : Par} {x : Nat} {S : Cst} {R : Rst} {A B : List En} {M : Pil} {Q : Pad} {H : List (Nat × Int32)} {t a m z : Nat} {e : En} {way w : Int32} (kO : Cst → Option Nat → Int64 → Int32 → Int32 → Int32 → Option (Option Nat × Cst)) (kT : Rst → Int32 → Int64 → Int32 → Int32 → Option (Int32 × Rst)) (hF : 1000 ≤ F) (hA : uA P x S R (A ++ e :: B) M Q H t) (ha : a < pn P) (hea : eA e = nI a) (hO : eO e = 0) (hze : (z : Int) ≤ ez e) (hm : 1 ≤ m) (hz : z = m * 2 ^ psh P a) (hroom : (A ++ e :: B).length + (liv R).length < 600) (ht : t + 1 < 2147483648) (hw : w ≠ 2) :
    ∃ S' R' L', cf_X6_obtain_67 F kO S (some (par P a)) (lN z) way w (some e.1) = some (some e.1, S') ∧ rf_takes_75 F kT R (nI a) way w (nI z) (nI A.length) = some (eB e, R') ∧ uA P x S' R' L' M Q H (t + 1) ∧ (liv R').length = (liv R).length ∧ L'.length ≤ (A ++ e :: B).length + 1 ∧ (∃ e' ∈ L', e'.1 = e.1 ∧ eA e' = nI a ∧ eB e' = eB e ∧ eZ e' = nI z ∧ eO e' = w) ∧ (∀ s a', s < 600 → a' < pn P → R'.2 22 s = 1 → R'.2 19 s = nI a' → psc P a' = some a → R'.2 20 s ≠ eB e) := by
  have hR := hA.1
  have hG := hA.2.2.2.1
  have ha8 : a < 8 := by have := hR.1; omega
  have hsp := uEl_sp (hG.1.1 e (by simp))
  have hp0 := Nat.two_pow_pos (psh P a)
  have hz1 : 1 ≤ z := by rw [hz]; exact Nat.mul_pos hm hp0
  have hz31 : z ≤ 1073741824 := by omega
  have hzi : (nI z).toInt = (z : Int) := nI_toInt (by omega)
  have hnol := nol hR.1 hG (e := e) (by simp) ha hea (by rw [hO]; decide)
  obtain ⟨S1, R1, B', c1, c2, c3, c4, c5, c6, c7, c8, c9⟩ := jcut (w := w) hF hR hA.2.1 hG ha hea hO (n := nI z) (by omega) (by omega) (by rw [hzi, hz]; exact Int.natCast_dvd_natCast.mpr ⟨m, Nat.mul_comm _ _⟩) hroom ht
  have hrr : ∀ f, 19 ≤ f → f ≤ 23 → R1.2 f = R.2 f := fun f f1 f2 => c5.2 f (by omega)
  have hA1 := uA_F hA c3 c4 c5.u c6 (fun f hf ho => by
    simp only [List.mem_append, List.mem_cons] at hf ⊢
    rcases hf with h | rfl | h
    · exact Or.inl h
    · exact absurd ho hw
    · rcases c7 f h with h | h
      · exact Or.inr (Or.inr h)
      · rw [h] at ho; cases ho)
  have hfd := c3.2.2.2.1.1 (e.1, (eA e, eB e, nI z, w, eT e, eS e, eC e)) (by simp)
  have hRL := hG.2.2.1
  obtain ⟨k1, k2, g1, g2, g3, g4, g5, g6, g7⟩ := uRL_g hRL (k := A.length) (e := e) get_mid
  have hl1 : liv R1 = liv R := by unfold liv; rw [hrr 22 (by decide) (by decide)]
  unfold cf_X6_obtain_67 rf_takes_75
  rw [if_neg (nI_nm1 (k := A.length) (by omega)), ncS, nnS, lN_32, c1, Option.bind_some, rd_n (f := 12) k2, g2, c2, Option.bind_some]
  by_cases hway : way = 2
  · rw [if_pos hway, if_pos hway, wr_n (f := 5) (show a < rlen 5 from ha8)]
    simp only [st1]
    rw [hfd.2.1, hfd.2.2.1]
    have hinj := hA.2.1.2.2.2.1
    have hDa := hA1.2.2.1
    refine ⟨_, _, A ++ (e.1, (eA e, eB e, nI z, w, eT e, eS e, eC e)) :: B', rfl, rfl, ?_, ?_, ?_, ⟨(e.1, (eA e, eB e, nI z, w, eT e, eS e, eC e)), List.mem_append.mpr (Or.inr List.mem_cons_self), rfl, hea, rfl, rfl, rfl⟩, ?_⟩
    · refine uA_D hA1 ⟨rfl, fun f p hf => by rw [gI_sI, if_neg (fun z => hf ⟨by omega, by omega⟩)], rfl, rfl, rfl, rfl⟩ ⟨fun _ => rfl, fun f hf => rset_f (fun z => hf ⟨by omega, by omega⟩)⟩ ⟨fun b hb => ?_, uZr_set rfl rfl rfl ha hA1.2.2.1.2⟩
      obtain ⟨q1, q2, q3, q4, q5, q6⟩ := hDa.1 b hb
      rw [gI_sI 12, if_neg (by omega), gI_sI 13, if_neg (by omega), gI_sI 14, if_neg (by omega), gI_sI 15, if_neg (by omega), gI_sI 11, rset_f (f' := 6) (by decide), rset_f (f' := 7) (by decide), rset_f (f' := 8) (by decide), rset_f (f' := 9) (by decide), rset_g]
      refine ⟨?_, q2, q3, q4, q5, q6⟩
      by_cases hb2 : b = a
      · subst hb2; rw [if_pos ⟨rfl, rfl⟩, if_pos ⟨rfl, rfl⟩]
      · rw [if_neg (fun z => hb2 (hinj b a hb ha z.2)), if_neg (fun z => hb2 z.2)]; exact q1
    · have : liv (rset R1 5 a (eB e + nI z)) = liv R1 := by unfold liv; rw [rset_f (by decide)]
      rw [this, hl1]
    · simp; omega
    · rw [rset_f (by decide), rset_f (by decide), rset_f (by decide), hrr 22 (by decide) (by decide), hrr 19 (by decide) (by decide), hrr 20 (by decide) (by decide)]
      exact hnol
  · rw [if_neg hway, if_neg hway]
    refine ⟨_, _, A ++ (e.1, (eA e, eB e, nI z, w, eT e, eS e, eC e)) :: B', rfl, rfl, hA1, by rw [hl1], by simp; omega, ⟨(e.1, (eA e, eB e, nI z, w, eT e, eS e, eC e)), List.mem_append.mpr (Or.inr List.mem_cons_self), rfl, hea, rfl, rfl, rfl⟩, ?_⟩
    rw [hrr 22 (by decide) (by decide), hrr 19 (by decide) (by decide), hrr 20 (by decide) (by decide)]
    exact hnol
theorem t54 (t a : Nat) : t + 5410 * a + 5402 + 1 ≤ t + 5410 * (a + 1) := by omega
theorem jt_all {F : Nat} {P : Par} {x : Nat} {Q : Pad} {H : List (Nat × Int32)} (hF : 1000000 ≤ F) : ∀ a, a < pn P → JT F P x Q H a := by
  intro a
  induction a using Nat.strongRecOn with
  | ind a ih =>
    intro ha S R L M t m z way w d δ hA hm hz hz2 hlen ht hδ hd hw
    obtain ⟨d, rfl⟩ : ∃ k, d = k + 1 := ⟨d - 1, by omega⟩
    have hFt : 1000 ≤ F := Nat.le_trans (by decide) hF
    have hto : t + 5410 * a + 5402 + 1 ≤ t + 5410 * (a + 1) := t54 t a
    have hto2 : t + 5410 * a + 5402 ≤ t + 5410 * (a + 1) := Nat.le_of_succ_le hto
    have ht2 : t + 5410 * a + 5402 + 1 < 2147483648 := Nat.lt_of_le_of_lt hto ht
    have ht1 : t + 5410 * a + 5402 < 2147483648 := Nat.lt_of_succ_lt ht2
    clear ht
    obtain ⟨S1, R1, L1, M1, k1, k2, k3⟩ := jfind (δ := δ) (d := d) (way := way) (w := w) hF ha (fun c hc => ih c hc (by omega)) hA hm hz hz2 (by omega) ht1 hδ (by omega)
    rcases k3 with ⟨o1, o2⟩ | ⟨A, e, B, e1, e2, e3, e4, o1, o2⟩
    · obtain ⟨S2, R2, f1, f2, f3, f4⟩ := jfail (F := F) (z := lN z) (z' := nI z) (way := way) (w := w) (cf_X6_obtain F d) (rf_takes F d) k1 ha
      refine ⟨S2, R2, L1, M1, uA_mono f3 hto2, by rw [f4]; omega, Or.inl ⟨?_, ?_⟩⟩
      · rw [o1, f1]
      · rw [o2, f2]
    · subst e1
      obtain ⟨S2, R2, L2, f1, f2, f3, f4, f5, ⟨e', g0, g1, g2, g3, g4, g5⟩, f7⟩ := jfin (way := way) (cf_X6_obtain F d) (rf_takes F d) hFt k1 ha e2 e3 e4 hm hz (by omega) ht2 hw
      refine ⟨S2, R2, L2, M1, uA_mono f3 hto, by omega, Or.inr ⟨e', g0, ?_, ?_, g2, g5, g4, by rw [g3]; exact f7⟩⟩
      · rw [o1, f1, g1]
      · rw [o2, f2, g3]
