/-! ===== pure part: INTO a cache ===== -/
theorem rrem {P : Par} {R : Rst} {M : Pil} {H A B : List (Nat × Int32)} {p : Nat × Int32} (h : uKr P R M H) (hH : H = A ++ p :: B) (hnd : H.Nodup) : ∃ H', uKr P (rset (rset (rput R 25 (nI (H.length - 1))) 26 A.length (R.2 26 (H.length - 1))) 27 A.length (R.2 27 (H.length - 1))) M H' ∧ (∀ r, r ∈ H' ↔ r ∈ H ∧ r ≠ p) ∧ H'.Nodup ∧ H'.length + 1 = H.length := by
  obtain ⟨h1, h2, h3, h4, h5, h6, h7⟩ := h
  have fr : ∀ f, f ≠ 26 → f ≠ 27 → (rset (rset (rput R 25 (nI (H.length - 1))) 26 A.length (R.2 26 (H.length - 1))) 27 A.length (R.2 27 (H.length - 1))).2 f = R.2 f := by
    intro f f1 f2; rw [rset_f f2, rset_f f1]; rfl
  have g26 : ∀ k, (rset (rset (rput R 25 (nI (H.length - 1))) 26 A.length (R.2 26 (H.length - 1))) 27 A.length (R.2 27 (H.length - 1))).2 26 k = if k = A.length then R.2 26 (H.length - 1) else R.2 26 k := by
    intro k; rw [rset_f (by decide), rset_g, rput_2]; simp
  have g27 : ∀ k, (rset (rset (rput R 25 (nI (H.length - 1))) 26 A.length (R.2 26 (H.length - 1))) 27 A.length (R.2 27 (H.length - 1))).2 27 k = if k = A.length then R.2 27 (H.length - 1) else R.2 27 k := by
    intro k; rw [rset_g, rset_f (by decide), rput_2]; simp
  have mk : ∀ H', H'.length + 1 = H.length → (∀ k a b, H'[k]? = some (a, b) → (if k = A.length then R.2 26 (H.length - 1) else R.2 26 k) = nI a ∧ (if k = A.length then R.2 27 (H.length - 1) else R.2 27 k) = b) → uKr P (rset (rset (rput R 25 (nI (H.length - 1))) 26 A.length (R.2 26 (H.length - 1))) 27 A.length (R.2 27 (H.length - 1))) M H' := by
    intro H' hl hrows
    refine ⟨?_, ?_, h3, h4, ?_, by omega, fun k a b hk => ?_⟩
    · rw [fr 28 (by decide) (by decide), fr 29 (by decide) (by decide)]; exact h1
    · rw [fr 30 (by decide) (by decide), fr 31 (by decide) (by decide)]; exact h2
    · show (rput R 25 (nI (H.length - 1))).1 25 = _
      rw [rput_g, if_pos rfl]; congr 1; omega
    · rw [g26, g27]; exact hrows k a b hk
  rcases list_snoc B with rfl | ⟨C, q, rfl⟩
  · have hl : A.length + 1 = H.length := by rw [hH]; simp
    have hnd' := hnd
    rw [hH, List.nodup_append] at hnd'
    refine ⟨A, mk A hl (fun k a b hk => ?_), fun r => ?_, hnd'.1, hl⟩
    · have hlt := (List.getElem?_eq_some_iff.mp hk).1
      rw [if_neg (by omega), if_neg (by omega)]
      exact h7 k a b (by rw [hH, List.getElem?_append_left hlt]; exact hk)
    · rw [hH]
      simp
      constructor
      · intro hr
        exact ⟨Or.inl hr, fun z => hnd'.2.2 r hr p (by simp) z⟩
      · rintro ⟨hr | hr, hne⟩
        · exact hr
        · exact absurd hr hne
  · have hl : (A ++ q :: C).length + 1 = H.length := by rw [hH]; simp; omega
    have hlast : H.length - 1 = A.length + C.length + 1 := by rw [hH]; simp; omega
    have hgl : H[H.length - 1]? = some q := by
      rw [hlast, hH, List.getElem?_append_right (by omega)]
      rw [show A.length + C.length + 1 - A.length = C.length + 1 by omega]
      simp
    have hq := h7 (H.length - 1) q.1 q.2 hgl
    have hnd' := hnd
    rw [hH] at hnd'
    simp only [List.nodup_append, List.nodup_cons, List.mem_append, List.mem_cons, List.not_mem_nil, or_false] at hnd'
    refine ⟨A ++ q :: C, mk _ hl (fun k a b hk => ?_), fun r => ?_, ?_, hl⟩
    · by_cases hkA : k = A.length
      · subst hkA
        simp at hk
        subst hk
        rw [if_pos rfl, if_pos rfl]
        exact hq
      · rw [if_neg hkA, if_neg hkA]
        refine h7 k a b ?_
        rw [hH]
        by_cases hlt : k < A.length
        · rw [List.getElem?_append_left hlt] at hk ⊢; exact hk
        · rw [List.getElem?_append_right (by omega)] at hk ⊢
          obtain ⟨dd, hdd⟩ : ∃ dd, k - A.length = dd + 1 := ⟨k - A.length - 1, by omega⟩
          rw [hdd, List.getElem?_cons_succ] at hk ⊢
          rw [List.getElem?_append_left (List.getElem?_eq_some_iff.mp hk).1]; exact hk
    · rw [hH]
      simp only [List.mem_append, List.mem_cons, List.not_mem_nil, or_false]
      grind
    · simp only [List.nodup_append, List.nodup_cons, List.mem_append, List.mem_cons, List.not_mem_nil, or_false]
      grind
def vob (P : Par) (L : List En) (H : List (Nat × Int32)) (a i : Nat) (b : Int32) : Prop := ∃ e j, isSl P L a i e ∧ j < onm P a i ∧ b = ob P a i e j ∧ (a, b) ∈ H
theorem vob_e {P : Par} {R : Rst} {L : List En} {H : List (Nat × Int32)} {a i : Nat} {b : Int32} {e : En} (hR : uStR P R) (hL : uLs P R L) (h : vob P L H a i b) (he : e ∈ L) (hea : eA e = nI a) (hin : inR b e = true) : isSl P L a i e ∧ ∃ j, j < onm P a i ∧ b = ob P a i e j := by
  obtain ⟨e', j, h1, h2, h3, h4⟩ := h
  have h5 := ob_in hR hL h1 h2
  rw [← h3] at h5
  unfold inR at h5 hin
  simp at h5 hin
  have : e' = e := uLs_uq hL h1.2.1 he (h1.2.2.1.trans hea.symm) (by omega) (by omega)
  subst this
  exact ⟨h1, j, h2, h3⟩
theorem heldAt_ok {F : Nat} {P : Par} {x : Nat} {S : Cst} {R : Rst} {L : List En} {M : Pil} {Q : Pad} {H : List (Nat × Int32)} {t a i : Nat} {b : Int32} (hF : 1000 ≤ F) (hA : uA P x S R L M Q H t) (hv : vd P a i) : (vob P L H a i b ∧ ∃ A1 B1, H = A1 ++ (a, b) :: B1 ∧ rf_heldAt F R (nI a) b (nI i) = some (nI A1.length)) ∨ (¬ vob P L H a i b ∧ rf_heldAt F R (nI a) b (nI i) = some (-1)) := by
  obtain ⟨hR, hS, hD, hG, hK, hr⟩ := hA
  have ha := hv.1
  have ha8 : a < 8 := by have := hR.1; omega
  have hn := sl_num hR hv
  have h8 := H8 hR hK.2.2
  unfold rf_heldAt
  rcases slabAt_ok (F := F) (a := a) (num := b) hF hG with ⟨A, e, B, hL, hea, ho, hin, s1⟩ | ⟨hno, s1⟩
  · have he : e ∈ L := by rw [hL]; simp
    obtain ⟨i', hsl⟩ := sl_of hR hG.1 he ha hea (hK.2.2.2.2.2.2.2 e he ho)
    have hn' := sl_num hR hsl.1
    have hRL := hG.2.2.1
    rw [hL] at hRL
    obtain ⟨k1, k2, g1, g2, g3, g4, g5, g6, g7⟩ := uRL_g hRL (k := A.length) (e := e) get_mid
    rw [s1, Option.bind_some, if_neg (nI_nm1 (by omega)), rd_n (f := 17) k2, g7, hsl.2.2.2]
    by_cases hii : i' = i
    · subst hii
      rw [if_pos rfl, rd_n (f := 12) k2, g2, rd_n (f := 2) (show a < rlen 2 from ha8), (hR.2.2 a ha).2.2.1, pk_mul]
      have hW : uW P S R L t := ⟨hR, hG, fun a i e he => ⟨(hK.2.1 a i e he).1, (hK.2.1 a i e he).2.1⟩, fun a i hv => (hK.1.1 a i hv).2.1, hK.2.2.2.2.2.2.2⟩
      obtain ⟨k, kb, kl, _⟩ := objAt_g (F := F) hW hsl hin
      have hsub : b - eB e = nI k := by rw [kb]; grind
      unfold dv
      have ho0 : 0 < i' * 2 ^ psh P a := hn.2.2.2.2.1
      have ho1 : i' * 2 ^ psh P a ≤ 524288 := hn.2.2.2.2.2.1
      rw [if_neg (nI_ne0 ho0 (by omega)), hsub, pk_rem (by omega) ho0 (by omega)]
      by_cases hrem : k % (i' * 2 ^ psh P a) = 0
      · rw [if_pos (by rw [hrem]; rfl)]
        have := hAt_lp (F := F) (b := b) hr h8 ha8 H [] F rfl (by simp) (by have := hr.2.2.2.2.2.1; omega)
        rcases this with ⟨A1, B1, q1, q2⟩ | ⟨q1, q2⟩
        · left
          have hmem : (a, b) ∈ H := by rw [q1]; simp
          refine ⟨?_, A1, B1, q1, q2⟩
          obtain ⟨i2, e2, j2, w1, w2, w3⟩ := hK.2.2.1 a b hmem
          have h5 := ob_in hR hG.1 w1 w2
          rw [← w3] at h5
          unfold inR at h5 hin
          simp at h5 hin
          have : e2 = e := uLs_uq hG.1 w1.2.1 he (w1.2.2.1.trans hea.symm) (by omega) (by omega)
          subst this
          have hi2 : i2 = i' := by
            have z1 := (sl_num hR w1.1).2.2.2.2.2.2
            exact (nI_eq (by omega) (by omega)).mp (w1.2.2.2.symm.trans hsl.2.2.2)
          subst hi2
          exact ⟨e2, j2, w1, w2, w3, hmem⟩
        · right
          exact ⟨fun ⟨_, _, _, _, _, w⟩ => q1 w, q2⟩
      · right
        have hml := Nat.mod_lt k ho0
        rw [if_neg (fun w => hrem ((eqL (K := 0) (k := 0) rfl (by omega) (by omega)).mp w))]
        refine ⟨fun w => ?_, rfl⟩
        obtain ⟨w1, j, w2, w3⟩ := vob_e hR hG.1 w he hea hin
        apply hrem
        have w4 : b - eB e = nI (j * osz P a i') := by rw [w3]; unfold ob; grind
        rw [hsub] at w4
        have hjb := (ob_ok hR hG.1 w1 w2).2.2.2.2
        have := (nI_eq (by omega) (by omega)).mp w4
        rw [this]
        exact Nat.mul_mod_left _ _
    · right
      rw [if_neg (fun w => hii ((nI_eq (by omega) (by omega)).mp w))]
      refine ⟨fun w => ?_, rfl⟩
      obtain ⟨w1, _⟩ := vob_e hR hG.1 w he hea hin
      exact hii ((nI_eq (by omega) (by omega)).mp (hsl.2.2.2.symm.trans w1.2.2.2))
  · right
    rw [s1, Option.bind_some, if_pos rfl]
    refine ⟨fun ⟨e, j, h1, h2, h3, h4⟩ => ?_, rfl⟩
    have h5 := ob_in hR hG.1 h1 h2
    rw [← h3, hno e h1.2.1 h1.2.2.1 (sl_ent hR hG.1 h1).1] at h5
    cases h5
theorem gobj_n {F : Nat} {P : Par} {x : Nat} {S : Cst} {R : Rst} {L : List En} {M : Pil} {Q : Pad} {H : List (Nat × Int32)} {t a i : Nat} {b dk : Int32} (hF : 1000 ≤ F) (hA : uA P x S R L M Q H t) (hv : vd P a i) (hn : ¬ vob P L H a i b) : cf_X6_giveObject F S (some (par P a)) (some (pca P a i)) b dk = some (0, S) := by
  have hW := hA.w
  obtain ⟨hR, hS, hD, hG, hK, hr⟩ := hA
  have hn8 := sl_num hR hv
  unfold cf_X6_giveObject
  simp only [nnS]
  unfold cf_X0_slabHolding
  rw [hold_ok hF hG hv.1, Option.bind_some]
  cases hf : (uOf a L).find? (inR b) with
  | none => rfl
  | some f =>
    have hm := uOf_mem.mp (List.mem_of_find?_eq_some hf)
    have hin := List.find?_some hf
    rw [Option.map_some, ncS, cslabW hW hv hm.1 hm.2]
    by_cases hc : eC f = nI i
    · have hsl : isSl P L a i f := ⟨hv, hm.1, hm.2, hc⟩
      rw [if_pos hc, Option.bind_some, if_neg (show ¬ (1 : Int32) = 0 by decide), Option.bind_some, ncS]
      obtain ⟨k, kb, kl, ko⟩ := objAt_g (F := F) hW hsl hin
      rw [ko, Option.bind_some]
      by_cases hq : k / osz P a i < onm P a i
      · rw [if_pos hq]
        have hbit := (hK.2.1 a i f hsl).2.2.1 (k / osz P a i) (by omega)
        by_cases hh : bt (gI S 91 f.1) (k / osz P a i) = true
        · rw [isHeld_y (by omega) hh, Option.bind_some, if_neg (show ¬ (1 : Int32) = 0 by decide)]
          unfold cf_X5_baseOf
          rw [Option.bind_some, (hG.2.2.2.1.1 f hm.1).2.1, (hK.2.1 a i f hsl).1, oby, if_neg]
          intro w
          exact hn ⟨f, k / osz P a i, hsl, hq, w.symm, by rw [← w]; exact (hbit.mp hh).2⟩
        · rw [isHeld_n (by omega) hh, Option.bind_some, if_pos rfl]
      · rw [if_neg hq, isHeld_m, Option.bind_some, if_pos rfl]
    · rw [if_neg hc, Option.bind_some, if_pos rfl]
      rfl
set_option maxHeartbeats 2000000 in
theorem jgobj {F : Nat} {P : Par} {x : Nat} {S : Cst} {R : Rst} {L : List En} {M : Pil} {Q : Pad} {H A1 B1 : List (Nat × Int32)} {t a i d : Nat} {b : Int32} (hF : 1000 ≤ F) (hA : uA P x S R L M Q H t) (hv : vd P a i) (hd : d < 2) (hvo : vob P L H a i b) (hH1 : H = A1 ++ (a, b) :: B1) :
    ∃ S' R' M' Q' H', cf_X6_giveObject F S (some (par P a)) (some (pca P a i)) b (nI d) = some (1, S') ∧ rf_into F (rset (rset (rput R 25 (nI (H.length - 1))) 26 A1.length (R.2 26 (H.length - 1))) 27 A1.length (R.2 27 (H.length - 1))) (nI a) (nI i) (nI d) b = some R' ∧ uA P x S' R' L M' Q' H' t ∧ H'.length ≤ H.length := by
  have hA0 := hA
  have hW := hA.w
  obtain ⟨hR, hS, hD, hG, ⟨hp, hs, ho⟩, hr⟩ := hA
  have ha := hv.1
  have ha8 : a < 8 := by have := hR.1; omega
  have hn := sl_num hR hv
  have hi8 : i ≤ 8 := hn.2.2.2.2.2.2
  obtain ⟨e, j, e1, e2, e3, e4⟩ := hvo
  have hj32 : j < 32 := by omega
  subst e3
  obtain ⟨H', r1, r2, r3, r4⟩ := rrem hr hH1 ho.2.2.1
  generalize hR1 : rset (rset (rput R 25 (nI (H.length - 1))) 26 A1.length (R.2 26 (H.length - 1))) 27 A1.length (R.2 27 (H.length - 1)) = R1 at *
  have hcr : uCR R R1 := by
    rw [← hR1]
    refine ⟨fun k hk => ?_, fun f hf => ?_⟩
    · show (rput R 25 _).1 k = _
      rw [rput_g, if_neg hk]
    · rw [rset_f (fun z => hf ⟨by omega, by omega⟩), rset_f (fun z => hf ⟨by omega, by omega⟩)]; rfl
  -- drop
  have hdrop : cf_X5_drop F S e.1 (nI j) = some (sI S 91 e.1 (gI S 91 e.1 &&& (((1 : Int32) <<< (nI j &&& 31)) ^^^ (-1)))) := by
    unfold cf_X5_drop; rw [if_neg (nI_pos (by omega))]; rfl
  generalize hS9 : sI S 91 e.1 (gI S 91 e.1 &&& (((1 : Int32) <<< (nI j &&& 31)) ^^^ (-1))) = S9 at hdrop
  have i9 : ∀ f p, gI S9 f p = if f = 91 ∧ p = e.1 then gI S 91 e.1 &&& (((1 : Int32) <<< (nI j &&& 31)) ^^^ (-1)) else gI S f p := fun f p => by rw [← hS9, gI_sI]
  have hcf9 : uCF S S9 := by
    rw [← hS9]
    exact ⟨rfl, fun f p _ h => by rw [gI_sI, if_neg (fun z => h ⟨by omega, by omega⟩)], fun _ _ _ _ => rfl, rfl, rfl⟩
  have hp9 : uKp P S9 M Q := by
    obtain ⟨q1, q2, q3, q4, q5⟩ := hp
    rw [← hS9]
    refine ⟨fun a' i' hv' => ?_, q2, fun a' i' k' hv' hk' => ?_, q4, q5⟩
    · rw [gI_sI 32, if_neg (by omega)]; exact q1 a' i' hv'
    · rw [gI_sI 65, if_neg (by omega)]; exact q3 a' i' k' hv' hk'
  obtain ⟨S14, R2, Q', l, s, dp, k1, ⟨k2, k2'⟩, k3, k4, k5, k6⟩ := jroomK (ob P a i e j) hF (uStR_C hR hcr) hp9 r1 (fun z hz => fl_nm1 hA0 hv hz) hv hd
  have hbit := (hs a i e e1).2.2
  have hbase : cf_X5_baseOf F S e.1 (nI j) = some (ob P a i e j) := by
    unfold cf_X5_baseOf
    rw [(hG.2.2.2.1.1 e e1.2.1).2.1, (hs a i e e1).1, oby]
  have hpl := (k2.2.1 a i d hv hd).2.1
  have hp65 := (k2.2.2.1 a i (2 * d) hv (by omega)).2.2.1
  rw [m3_gl] at hp65
  -- the class
  have hcl : cf_X6_giveObject F S (some (par P a)) (some (pca P a i)) (ob P a i e j) (nI d) = (if (3 : Int32) ≤ (gI S14 65 (Q' a i (2 * d)).1) then ((cf_X5_lay F S14 e.1 (nI j)).bind fun S18 => some ((1 : Int32), S18)) else ((cf_X4_put F S14 (Q' a i (2 * d)).1 (ob P a i e j)).bind fun S21 => some ((1 : Int32), S21))) := by
    unfold cf_X6_giveObject
    simp only [nnS]
    rw [slabHoldW hF hW e1 e2, Option.bind_some, ncS, objAtW hW e1 e2, Option.bind_some, isHeld_y hj32 ((hbit.1 j hj32).mpr ⟨e2, e4⟩), Option.bind_some, if_neg (show ¬ (1 : Int32) = 0 by decide), hbase, Option.bind_some, if_pos rfl, hdrop, Option.bind_some]
    rw [deskAt_ok hp9 hv hd, Option.bind_some]
    simp only [st1]
    rw [(hp9.1 a i hv).2.2.2.2, nnS, k1, Option.bind_some, hpl, nnS, nnS]
  have hnd0 := ho.2.2.2.1
  have hbM : ob P a i e j ∉ fl M a i := fun z => ho.2.2.2.2.1 a i _ hv z e4
  have hbM1 : ob P a i e j ∉ fl (m3 M a i d l s dp) a i := fun z => hbM ((k5 a i hv).mem_iff.mp z)
  have hly0 : ¬ bt (gI S 90 e.1) j = true := fun z => ((hbit.2 j hj32).mp z).2.1 e4
  have hH'n : (a, ob P a i e j) ∉ H' := fun z => ((r2 _).mp z).2 rfl
  have sub' : ∀ p, p ∈ H' → p ∈ H := fun p z => ((r2 p).mp z).1
  rw [hcl, hp65]
  rcases k6 with ⟨hl, hinto⟩ | ⟨hl, hinto⟩
  · -- on top of LOADED
    rw [if_neg (show ¬ (3 : Int32) ≤ nI l.length from nI_ge (b := 3) hl (by omega)), hinto]
    have hgl : m3 M a i d l s dp a i (2 * d) = l := m3_gl
    have hput := put_ok (F := F) (b := ob P a i e j) k2 hv (show 2 * d < 5 by omega) (by rw [hgl]; omega)
    have hkp := uKp_put (b := ob P a i e j) k2 hv (show 2 * d < 5 by omega)
    rw [hgl] at hput hkp
    rw [m3_l] at hkp
    have hkr := rpush (b := ob P a i e j) k2' ha8 ha hi8 hd hl
    obtain ⟨⟨l1, l2, l3⟩, _, _⟩ := uKr_gl k2' ha8 hi8 hd
    have hm : 4 * (9 * a + i) + 2 * d < rlen 28 := by show _ < 288; omega
    have h164 : rf_into_164 F R2 (ob P a i e j) (nI (4 * (9 * a + i) + 2 * d)) = some (rset (rset R2 29 (3 * (4 * (9 * a + i) + 2 * d) + l.length) (ob P a i e j)) 28 (4 * (9 * a + i) + 2 * d) (nI (l.length + 1))) := by
      unfold rf_into_164
      rw [rd_n hm, l1, m3x, wr_n (f := 29) (show 3 * (4 * (9 * a + i) + 2 * d) + l.length < rlen 29 by show _ < 864; omega), rd_n hm, rset_f (by decide), l1, wr_n hm, nI_1]
    rw [hput, Option.bind_some, h164]
    have hpf : uPF S14 (sI (sR S14 (Q' a i (2 * d)).2 l.length (ob P a i e j)) 65 (Q' a i (2 * d)).1 (nI (l.length + 1))) := uPF_sR.tr uPF_65
    generalize hS21 : sI (sR S14 (Q' a i (2 * d)).2 l.length (ob P a i e j)) 65 (Q' a i (2 * d)).1 (nI (l.length + 1)) = S21 at *
    have pf9 : uPF S9 S21 := k3.tr hpf
    have hpm := mset_pm2 (M := m3 M a i d l s dp) (a := a) (i := i) (k := 2 * d) (b := ob P a i e j) (by omega)
    rw [hgl, m3_l] at hpm
    have hmo : ∀ a' i' v, vd P a' i' → ¬ (a' = a ∧ i' = i ∧ v = ob P a i e j) → (v ∈ fl (m3 M a i d (l ++ [ob P a i e j]) s dp) a' i' ↔ v ∈ fl M a' i') := by
      intro a' i' v hv' hne
      by_cases z : a' = a ∧ i' = i
      · obtain ⟨rfl, rfl⟩ := z
        rw [hpm.mem_iff, List.mem_cons, (k5 a' i' hv').mem_iff]
        exact ⟨fun q => q.elim (fun q => absurd ⟨rfl, rfl, q⟩ hne) id, Or.inr⟩
      · rw [m3_fl z]
    have hks : uKs P S21 L (m3 M a i d (l ++ [ob P a i e j]) s dp) H' := by
      refine uKs_upd hR hG.1 hG.2.2.2.1.2.1 e1 e2 hs (fun f p hf => ?_) (fun f p hp' hf => ?_) (fun l' hl' hne => ⟨?_, ?_⟩) ?_ ?_ (fun p hp' => ?_) hmo
      · rw [pf9.2.1 f p (by omega), i9, if_neg (by omega)]
      · rw [pf9.2.1 f p (by omega), i9, if_neg (fun z => hp' z.2)]
      · rw [pf9.2.1 91 _ (by decide), i9, if_pos ⟨rfl, rfl⟩, b_clr hj32 hl']; simp [hne]
      · rw [pf9.2.1 90 _ (by decide), i9, if_neg (by omega)]
      · rw [pf9.2.1 91 _ (by decide), i9, if_pos ⟨rfl, rfl⟩, b_clr hj32 hj32]
        simp [hH'n]
      · rw [pf9.2.1 90 _ (by decide), i9, if_neg (by omega)]
        refine ⟨fun z => absurd z hly0, fun z => absurd ?_ z.2⟩
        rw [hpm.mem_iff]; exact List.mem_cons_self
      · rw [r2]; exact ⟨fun z => z.1, fun z => ⟨z, hp'⟩⟩
    have hko : uKo P L (m3 M a i d (l ++ [ob P a i e j]) s dp) H' := by
      obtain ⟨h1, h2, h3, h4, h5, h6⟩ := ho
      refine ⟨fun a' b' hb' => h1 a' b' (sub' _ hb'), fun a' i' b' hv' hb' => ?_, r3, fun a' i' hv' => ?_, fun a' i' b' hv' hb' hm' => ?_, h6⟩
      · by_cases z : a' = a ∧ i' = i ∧ b' = ob P a i e j
        · obtain ⟨rfl, rfl, rfl⟩ := z; exact ⟨e, j, e1, e2, rfl⟩
        · exact h2 a' i' b' hv' ((hmo a' i' b' hv' z).mp hb')
      · by_cases z : a' = a ∧ i' = i
        · obtain ⟨rfl, rfl⟩ := z
          rw [hpm.nodup_iff, List.nodup_cons]
          exact ⟨hbM1, (k5 a' i' hv').nodup_iff.mpr (h4 a' i' hv')⟩
        · rw [m3_fl z]; exact h4 a' i' hv'
      · by_cases z : a' = a ∧ i' = i ∧ b' = ob P a i e j
        · obtain ⟨rfl, rfl, rfl⟩ := z; exact hH'n hm'
        · exact h5 a' i' b' hv' ((hmo a' i' b' hv' z).mp hb') (sub' _ hm')
    refine ⟨S21, _, m3 M a i d (l ++ [ob P a i e j]) s dp, Q', H', rfl, rfl, ?_, by omega⟩
    exact uA_C hA0 (hcf9.tr pf9.c) (hcr.tr (k4.tr ((uCR_set (by decide) (by decide)).tr (uCR_set (by decide) (by decide))))) ⟨hkp, hks, hko⟩ hkr
  · -- it lies in its slab
    rw [if_pos (show (3 : Int32) ≤ nI l.length from nI_le (a := 3) (by omega) (by omega)), hinto]
    have hlay : cf_X5_lay F S14 e.1 (nI j) = some (sI S14 90 e.1 (gI S14 90 e.1 ||| ((1 : Int32) <<< (nI j &&& 31)))) := by
      unfold cf_X5_lay; rw [if_neg (nI_pos (by omega))]; rfl
    generalize hS18 : sI S14 90 e.1 (gI S14 90 e.1 ||| ((1 : Int32) <<< (nI j &&& 31))) = S18 at hlay
    have i18 : ∀ f p, gI S18 f p = if f = 90 ∧ p = e.1 then gI S14 90 e.1 ||| ((1 : Int32) <<< (nI j &&& 31)) else gI S14 f p := fun f p => by rw [← hS18, gI_sI]
    have hcf18 : uCF S14 S18 := by
      rw [← hS18]
      exact ⟨rfl, fun f p _ h => by rw [gI_sI, if_neg (fun z => h ⟨by omega, by omega⟩)], fun _ _ _ _ => rfl, rfl, rfl⟩
    have hp18 : uKp P S18 (m3 M a i d l s dp) Q' := by
      obtain ⟨q1, q2, q3, q4, q5⟩ := k2
      rw [← hS18]
      refine ⟨fun a' i' hv' => ?_, q2, fun a' i' k' hv' hk' => ?_, q4, q5⟩
      · rw [gI_sI 32, if_neg (by omega)]; exact q1 a' i' hv'
      · rw [gI_sI 65, if_neg (by omega)]; exact q3 a' i' k' hv' hk'
    rw [hlay, Option.bind_some]
    have hmo : ∀ a' i' v, vd P a' i' → (v ∈ fl (m3 M a i d l s dp) a' i' ↔ v ∈ fl M a' i') := fun a' i' v hv' => (k5 a' i' hv').mem_iff
    have hks : uKs P S18 L (m3 M a i d l s dp) H' := by
      refine uKs_upd hR hG.1 hG.2.2.2.1.2.1 e1 e2 hs (fun f p hf => ?_) (fun f p hp' hf => ?_) (fun l' hl' hne => ⟨?_, ?_⟩) ?_ ?_ (fun p hp' => ?_) (fun a' i' v hv' _ => hmo a' i' v hv')
      · rw [i18, if_neg (by omega), k3.2.1 f p (by omega), i9, if_neg (by omega)]
      · rw [i18, if_neg (fun z => hp' z.2), k3.2.1 f p (by omega), i9, if_neg (fun z => hp' z.2)]
      · rw [i18, if_neg (by omega), k3.2.1 91 _ (by decide), i9, if_pos ⟨rfl, rfl⟩, b_clr hj32 hl']; simp [hne]
      · rw [i18, if_pos ⟨rfl, rfl⟩, b_set hj32 hl', k3.2.1 90 _ (by decide), i9, if_neg (by omega)]; simp [hne]
      · rw [i18, if_neg (by omega), k3.2.1 91 _ (by decide), i9, if_pos ⟨rfl, rfl⟩, b_clr hj32 hj32]
        simp [hH'n]
      · rw [i18, if_pos ⟨rfl, rfl⟩, b_set hj32 hj32]
        simp [hH'n, hbM1]
      · rw [r2]; exact ⟨fun z => z.1, fun z => ⟨z, hp'⟩⟩
    have hko : uKo P L (m3 M a i d l s dp) H' := by
      have := uKo_perm ho k5
      obtain ⟨h1, h2, h3, h4, h5, h6⟩ := this
      exact ⟨fun a' b' hb' => h1 a' b' (sub' _ hb'), h2, r3, h4, fun a' i' b' hv' hb' hm' => h5 a' i' b' hv' hb' (sub' _ hm'), h6⟩
    refine ⟨S18, _, m3 M a i d l s dp, Q', H', rfl, rfl, ?_, by omega⟩
    exact uA_C hA0 (hcf9.tr (k3.c.tr hcf18)) (hcr.tr k4) ⟨hp18, hks, hko⟩ k2'
