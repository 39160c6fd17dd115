/-! ===== pure part: a client gets an object ===== -/
def rapp (R : Rst) (h a : Nat) (b : Int32) : Rst := rput (rset (rset R 26 h (nI a)) 27 h b) 25 (R.1 25 + 1)
theorem rapp_w {R : Rst} {h a : Nat} {b : Int32} (h25 : R.1 25 = nI h) (hh : h < 40000) : (wr R 26 (R.1 25) (nI a) fun R15 => wr R15 27 (R15.1 25) b fun R16 => some (b, rput R16 25 ((R16.1 25) + 1))) = some (b, rapp R h a b) := by
  rw [h25, wr_n (f := 26) hh, rset_1, h25, wr_n (f := 27) hh, rset_1, rset_1]
  rfl
theorem uCR_app {R : Rst} {h a : Nat} {b : Int32} : uCR R (rapp R h a b) := by
  unfold rapp
  refine ⟨fun j j2 => ?_, fun f hf => ?_⟩
  · rw [rput_g, if_neg j2]; rfl
  · rw [rput_2, rset_f (fun z => hf ⟨by omega, by omega⟩), rset_f (fun z => hf ⟨by omega, by omega⟩)]
theorem uKr_app {P : Par} {R : Rst} {M : Pil} {H : List (Nat × Int32)} {a : Nat} {b : Int32} (h : uKr P R M H) (hl : H.length < 512) : uKr P (rapp R H.length a b) M (H ++ [(a, b)]) := by
  obtain ⟨h1, h2, h3, h4, h5, h6, h7⟩ := h
  have f : ∀ f, f ≠ 26 → f ≠ 27 → (rapp R H.length a b).2 f = R.2 f := by
    intro f f1 f2; unfold rapp; rw [rput_2, rset_f f2, rset_f f1]
  refine ⟨?_, ?_, h3, h4, ?_, by simp; omega, fun p a' b' hp => ?_⟩
  · rw [f 28 (by decide) (by decide), f 29 (by decide) (by decide)]; exact h1
  · rw [f 30 (by decide) (by decide), f 31 (by decide) (by decide)]; exact h2
  · unfold rapp; rw [rput_g, if_pos rfl, h5, nI_1]; simp
  · unfold rapp
    rw [rput_2]
    simp only [rset_g]
    by_cases q : p = H.length
    · subst q
      simp at hp
      obtain ⟨rfl, rfl⟩ := hp
      simp
    · have hlt : p < H.length := by
        have := (List.getElem?_eq_some_iff.mp hp).1
        simp at this; omega
      rw [List.getElem?_append_left hlt] at hp
      simp [q]
      exact h7 p a' b' hp
theorem chold {F : Nat} {S : Cst} {p j : Nat} (hj : j < 32) : cf_X5_hold F S p (nI j) = some (sI (sI S 90 p (gI S 90 p &&& (((1 : Int32) <<< (nI j &&& 31)) ^^^ (-1)))) 91 p (gI S 91 p ||| ((1 : Int32) <<< (nI j &&& 31)))) := by
  unfold cf_X5_hold
  rw [if_neg (nI_pos (by omega))]
  simp only [st1]
  rw [gI_sI 91, if_neg (fun z => absurd z.1 (by decide))]
set_option maxHeartbeats 1000000 in
/-- an object that has left its pile, or lay, is a client's now -/
theorem jhold {F : Nat} {P : Par} {x : Nat} {S S1 : Cst} {R R1 : Rst} {L : List En} {M M1 : Pil} {Q : Pad} {H : List (Nat × Int32)} {t a i j : Nat} {e : En} (hA : uA P x S R L M Q H t) (hs : isSl P L a i e) (hj : j < onm P a i) (hp : uKp P S1 M1 Q) (hpf : uPF S S1) (hr : uKr P R1 M1 H) (hcr : uCR R R1) (hH : H.length < 512) (hnH : (a, ob P a i e j) ∉ H) (hnM : ob P a i e j ∉ fl M1 a i) (hmo : ∀ a' i' v, vd P a' i' → ¬ (a' = a ∧ i' = i ∧ v = ob P a i e j) → (v ∈ fl M1 a' i' ↔ v ∈ fl M a' i')) (hnd : ∀ a' i', vd P a' i' → (fl M1 a' i').Nodup) :
    ∃ S2, cf_X5_hold F S1 e.1 (nI j) = some S2 ∧ uA P x S2 (rapp R1 H.length a (ob P a i e j)) L M1 Q (H ++ [(a, ob P a i e j)]) t ∧ (∀ p, gI S2 80 p = gI S1 80 p ∧ gI S2 88 p = gI S1 88 p) := by
  obtain ⟨hR, hS, hD, hG, ⟨hkp, hks, hko⟩, hkr⟩ := hA
  have hj32 : j < 32 := by have := (sl_num hR hs.1).2.1; omega
  refine ⟨_, chold hj32, ?_, fun p => ⟨by rw [gI_sI 80, if_neg (by omega), gI_sI 80, if_neg (by omega)], by rw [gI_sI 88, if_neg (by omega), gI_sI 88, if_neg (by omega)]⟩⟩
  generalize hS2 : sI (sI S1 90 e.1 (gI S1 90 e.1 &&& (((1 : Int32) <<< (nI j &&& 31)) ^^^ (-1)))) 91 e.1 (gI S1 91 e.1 ||| ((1 : Int32) <<< (nI j &&& 31))) = S2
  have i2 : ∀ f p, gI S2 f p = if f = 91 ∧ p = e.1 then gI S 91 e.1 ||| ((1 : Int32) <<< (nI j &&& 31)) else if f = 90 ∧ p = e.1 then gI S 90 e.1 &&& (((1 : Int32) <<< (nI j &&& 31)) ^^^ (-1)) else gI S1 f p := by
    intro f p
    rw [← hS2, gI_sI, gI_sI, hpf.2.1 91 _ (by decide), hpf.2.1 90 _ (by decide)]
  have hcf : uCF S S2 := by
    refine hpf.c.tr ?_
    rw [← hS2]
    exact ⟨rfl, fun f p _ h => by rw [gI_sI, if_neg (fun z => h ⟨by omega, by omega⟩), gI_sI, if_neg (fun z => h ⟨by omega, by omega⟩)], fun _ _ _ _ => rfl, rfl, rfl⟩
  have hkp2 : uKp P S2 M1 Q := by
    obtain ⟨q1, q2, q3, q4, q5⟩ := hp
    rw [← hS2]
    refine ⟨fun a' i' hv' => ?_, q2, fun a' i' k' hv' hk' => ?_, q4, q5⟩
    · rw [gI_sI 32, if_neg (by omega), gI_sI 32, if_neg (by omega)]; exact q1 a' i' hv'
    · rw [gI_sI 65, if_neg (by omega), gI_sI 65, if_neg (by omega)]; exact q3 a' i' k' hv' hk'
  have hmem : ∀ p, p ∈ H ++ [(a, ob P a i e j)] ↔ p ∈ H ∨ p = (a, ob P a i e j) := fun p => by simp
  have hks2 : uKs P S2 L M1 (H ++ [(a, ob P a i e j)]) := by
    refine uKs_upd hR hG.1 hG.2.2.2.1.2.1 hs hj hks (fun f p hf => ?_) (fun f p hp' hf => ?_) (fun l' hl' hne => ⟨?_, ?_⟩) ?_ ?_ (fun p hp' => ?_) hmo
    · rw [i2, if_neg (by omega), if_neg (by omega), hpf.2.1 f p (by omega)]
    · rw [i2, if_neg (fun z => hp' z.2), if_neg (fun z => hp' z.2), hpf.2.1 f p (by omega)]
    · rw [i2, if_pos ⟨rfl, rfl⟩, b_set hj32 hl']; simp [hne]
    · rw [i2, if_neg (by omega), if_pos ⟨rfl, rfl⟩, b_clr hj32 hl']; simp [hne]
    · rw [i2, if_pos ⟨rfl, rfl⟩, b_set hj32 hj32]; simp
    · rw [i2, if_neg (by omega), if_pos ⟨rfl, rfl⟩, b_clr hj32 hj32]; simp
    · rw [hmem]; exact ⟨fun z => z.elim id (fun w => absurd w hp'), Or.inl⟩
  have hko2 : uKo P L M1 (H ++ [(a, ob P a i e j)]) := by
    obtain ⟨h1, h2, h3, h4, h5, h6⟩ := hko
    have sub : ∀ a' i' v, vd P a' i' → v ∈ fl M1 a' i' → v ∈ fl M a' i' := by
      intro a' i' v hv' hm
      by_cases z : a' = a ∧ i' = i ∧ v = ob P a i e j
      · obtain ⟨rfl, rfl, rfl⟩ := z; exact absurd hm hnM
      · exact (hmo a' i' v hv' z).mp hm
    refine ⟨fun a' b hb => ?_, fun a' i' b hv' hb => h2 a' i' b hv' (sub a' i' b hv' hb), ?_, hnd, fun a' i' b hv' hb hb2 => ?_, h6⟩
    · rcases (hmem _).mp hb with hb | hb
      · exact h1 a' b hb
      · cases hb
        exact ⟨i, e, j, hs, hj, rfl⟩
    · rw [List.nodup_append]
      refine ⟨h3, by simp, fun p hp' q hq => ?_⟩
      simp at hq
      subst hq
      intro z; subst z; exact hnH hp'
    · rcases (hmem _).mp hb2 with hb2 | hb2
      · exact h5 a' i' b hv' (sub a' i' b hv' hb) hb2
      · cases hb2
        obtain ⟨e', j', w1, w2, w3⟩ := h2 a i' _ hv' (sub a i' _ hv' hb)
        obtain ⟨_, v2, _⟩ := ob_inj hR hG.1 hs w1 hj w2 w3
        subst v2
        exact hnM hb
  exact uA_C ⟨hR, hS, hD, hG, ⟨hkp, hks, hko⟩, hkr⟩ hcf (hcr.tr uCR_app) ⟨hkp2, hks2, hko2⟩ (uKr_app hr hH)
theorem hlow {F : Nat} {P : Par} {x : Nat} {S : Cst} {R : Rst} {L : List En} {M : Pil} {Q : Pad} {H : List (Nat × Int32)} {t a i j : Nat} {e : En} (hA : uA P x S R L M Q H t) (hs : isSl P L a i e) (hj : j < onm P a i) (hl : ly P M H a i e j) (hmin : ∀ j', j' < j → ¬ ly P M H a i e j') (hH : H.length < 512) :
    ∃ S2, cf_X5_holdLowestLying F S e.1 = some (ob P a i e j, S2) ∧ uA P x S2 (rapp R H.length a (ob P a i e j)) L M Q (H ++ [(a, ob P a i e j)]) t := by
  obtain ⟨S2, h1, h2, h3⟩ := jhold (F := F) hA hs hj hA.2.2.2.2.1.1 uPF.rf hA.2.2.2.2.2 uCR.rf hH hl.1 hl.2 (fun _ _ _ _ _ => Iff.rfl) hA.2.2.2.2.1.2.2.2.2.2.1
  have hR := hA.1
  have hn := sl_num hR hs.1
  have hb := (hA.2.2.2.2.1.2.1 a i e hs).2.2.2
  have hfd := hA.2.2.2.1.2.2.2.1.1 e hs.2.1
  refine ⟨S2, ?_, h2⟩
  unfold cf_X5_holdLowestLying
  rw [if_neg (fun z => by
    have := b_zero.mp z j (by omega)
    rw [(hb j (by omega)).mpr ⟨hj, hl⟩] at this
    cases this)]
  rw [ntz_ok (j := j) (by omega) ((hb j (by omega)).mpr ⟨hj, hl⟩) (fun l hl' => by
    cases hq : bt (gI S 90 e.1) l with
    | false => rfl
    | true => exact absurd ((hb l (by omega)).mp hq).2 (hmin l hl')), Option.bind_some, h1, Option.bind_some]
  unfold cf_X5_baseOf
  rw [Option.bind_some, (h3 _).1, (h3 _).2, hfd.2.1, (hA.2.2.2.2.1.2.1 a i e hs).1, oby]
/-! a new slab -/
theorem cfill {F : Nat} {S : Cst} {p osz' onm' z : Nat} (h81 : gI S 81 p = nI z) (ho : 0 < osz') (ho2 : osz' < 2147483648) (hz : z < 2147483648) (hn : z / osz' = onm') (hn1 : 1 ≤ onm') (hn32 : onm' ≤ 32) : cf_X5_fill F S p (nI osz') = some (sI (sI (sI (sI S 88 p (nI osz')) 89 p (nI onm')) 90 p ((((-1 : Int32)).toUInt32 >>> ((32 - nI onm').toUInt32 &&& Int32.toUInt32 31)).toInt32)) 91 p 0) := by
  unfold cf_X5_fill
  simp only [st1]
  have h81' : gI (sI S 88 p (nI osz')) 81 p = nI z := by rw [gI_sI, if_neg (fun q => absurd q.1 (by decide))]; exact h81
  rw [if_neg (nI_nle ho (by omega)), h81']
  unfold dv
  rw [if_neg (nI_ne0 ho (by omega)), pk_div hz ho ho2, hn, if_neg (show ¬ (32 : Int32) < nI onm' from nI_nlt (a := 32) (by omega) (by omega))]
  unfold cf_X5_fill_25
  simp only [st1]
  have h89 : gI (sI (sI S 88 p (nI osz')) 89 p (nI onm')) 89 p = nI onm' := by rw [gI_sI, if_pos ⟨rfl, rfl⟩]
  rw [h89, if_neg (nI_nle hn1 (by omega))]
set_option maxHeartbeats 2000000 in
theorem jnew {F : Nat} {P : Par} {x : Nat} {S : Cst} {R : Rst} {A B : List En} {M : Pil} {Q : Pad} {H : List (Nat × Int32)} {t a i : Nat} {e : En} (kO : Cst → Option Nat → Int64 → Int32 → Int32 → Int32 → Option (Option Nat × Cst)) (kT : Rst → Int32 → Int64 → Int32 → Int32 → Option (Int32 × Rst)) (hF : 1000 ≤ F) (hA : uA P x S R (A ++ e :: B) M Q H t) (hv : vd P a i) (hea : eA e = nI a) (hO : eO e = 0) (hze : ((slb (pch P a) * 2 ^ psh P a : Nat) : Int) ≤ ez e) (hroom : (A ++ e :: B).length + (liv R).length < 600) (ht : t + 1 < 2147483648) :
    ∃ S1 R1 S2 L2 e2, cf_X6_obtain_67 F kO S (some (par P a)) (lN (slb (pch P a) * 2 ^ psh P a)) 1 2 (some e.1) = some (some e.1, S1) ∧ rf_takes_75 F kT R (nI a) 1 2 (nI (slb (pch P a) * 2 ^ psh P a)) (nI A.length) = some (eB e, R1) ∧ gI S1 32 (pca P a i) = nI (osz P a i) ∧ cf_X5_fill F S1 e.1 (nI (osz P a i)) = some S2 ∧ rf_position F R1 (nI a) (eB e).toInt64 = some (nI A.length) ∧ A.length < 600 ∧ uA P x S2 (rset R1 17 A.length (nI i)) L2 M Q H (t + 1) ∧ isSl P L2 a i e2 ∧ e2.1 = e.1 ∧ ob P a i e2 0 = eB e ∧ ly P M H a i e2 0 ∧ (liv (rset R1 17 A.length (nI i))).length = (liv R).length := by
  have hA0 := hA
  obtain ⟨hR, hS, hD, hG, ⟨hkp, hks, hko⟩, hkr⟩ := hA
  have ha := hv.1
  obtain ⟨n1, n2, n3, n4, n5, n6, n7⟩ := sl_num hR hv
  have hp0 := Nat.two_pow_pos (psh P a)
  have hp16 := pw16 (hR.2.2 a ha).1
  have hE := hG.1.1 e (by simp)
  have hsp := uEl_sp hE
  have hc0 : eC e = 0 := eC0 hE (by rw [hO]; decide)
  have hslb1 : 1 ≤ slb (pch P a) := by
    have h1 := hv.2.1
    have : 3 * 1 ≤ onm P a i * i := Nat.mul_le_mul n1 h1
    omega
  have hz1 : 1 ≤ slb (pch P a) * 2 ^ psh P a := Nat.mul_pos hslb1 hp0
  have hzm : slb (pch P a) * 2 ^ psh P a / osz P a i = onm P a i := by
    unfold osz onm
    exact Nat.mul_div_mul_right _ _ hp0
  generalize hzz : slb (pch P a) * 2 ^ psh P a = z at *
  have hz31 : z ≤ 1073741824 := by omega
  have hzi : (nI z).toInt = (z : Int) := nI_toInt (by omega)
  obtain ⟨S1, R1, B', c1, c2, c3, c4, c5, c6, c7, c8, c9⟩ := jcut (w := 2) hF hR hS hG ha hea hO (n := nI z) (by omega) (by omega) (by rw [hzi, ← hzz]; exact Int.natCast_dvd_natCast.mpr ⟨slb (pch P a), Nat.mul_comm _ _⟩) hroom ht
  have hrr : ∀ f, 19 ≤ f → f ≤ 23 → R1.2 f = R.2 f := fun f f1 f2 => c5.2 f (by omega)
  have hl1 : liv R1 = liv R := by unfold liv; rw [hrr 22 (by decide) (by decide)]
  have hRL := hG.2.2.1
  obtain ⟨k1, k2, g1, g2, g3, g4, g5, g6, g7⟩ := uRL_g hRL (k := A.length) (e := e) get_mid
  have hR1 := uStR_F hR c5.u
  have hS1 := uStS_F hS c4
  have hD1 := uDy_F hS hD c4 c5.u
  have hE1 := c3.1.1 (e.1, (eA e, eB e, nI z, 2, eT e, eS e, eC e)) (by simp)
  have hE2 : uEl P R1 (e.1, (eA e, eB e, nI z, 2, eT e, eS e, nI i)) := by
    obtain ⟨a', q1, q2, q3, q4, q5, q6, q7, q8, q9, q10, q11⟩ := hE1
    have haa : a' = a := nI8 hR.1 q1 ha (q2.symm.trans hea)
    subst haa
    refine ⟨a', q1, q2, q3, q4, q5, q6, q7, q8, q9, q10, Or.inr ⟨rfl, i, hv.2.1, hv.2.2, rfl, ?_⟩⟩
    rw [hzz]; exact hzi
  have hG2 := uG_cc (v := nI i) c3 hE2
  have hfd := c3.2.2.2.1.1 (e.1, (eA e, eB e, nI z, 2, eT e, eS e, eC e)) (by simp)
  have hpos := pos_at hF c3.1 c3.2.2.1
  have hfill := cfill (F := F) (S := S1) (p := e.1) (z := z) hfd.2.2.1 n5 (by omega) (by omega) hzm (by omega) n2
  generalize hS2 : sI (sI (sI (sI S1 88 e.1 (nI (osz P a i))) 89 e.1 (nI (onm P a i))) 90 e.1 ((((-1 : Int32)).toUInt32 >>> ((32 - nI (onm P a i)).toUInt32 &&& Int32.toUInt32 31)).toInt32)) 91 e.1 0 = S2 at hfill
  have i2 : ∀ f p, gI S2 f p = if f = 91 ∧ p = e.1 then 0 else if f = 90 ∧ p = e.1 then (((-1 : Int32)).toUInt32 >>> ((32 - nI (onm P a i)).toUInt32 &&& Int32.toUInt32 31)).toInt32 else if f = 89 ∧ p = e.1 then nI (onm P a i) else if f = 88 ∧ p = e.1 then nI (osz P a i) else gI S1 f p := by
    intro f p; rw [← hS2, gI_sI, gI_sI, gI_sI, gI_sI]
  have hcf : uCF S1 S2 := by
    refine ⟨by rw [← hS2]; rfl, fun f p _ h => ?_, fun f p _ _ => by rw [← hS2]; rfl, by rw [← hS2]; rfl, by rw [← hS2]; rfl⟩
    rw [i2, if_neg (fun z => h ⟨by omega, by omega⟩), if_neg (fun z => h ⟨by omega, by omega⟩), if_neg (fun z => h ⟨by omega, by omega⟩), if_neg (fun z => h ⟨by omega, by omega⟩)]
  have hfr17 : uFr R1 (rset R1 17 A.length (nI i)) := uFr_set (by decide) (by decide)
  have hR2 := uStR_F hR1 hfr17.u
  -- the slabs
  have hci : nI i ≠ 0 := nI_c0 hR hv
  have nd3 := hG2.2.2.2.1.2.1
  have slb1 : ∀ f, eC f ≠ 0 → (f ∈ A ++ (e.1, (eA e, eB e, nI z, 2, eT e, eS e, nI i)) :: B' ↔ f ∈ A ++ e :: B ∨ f = (e.1, (eA e, eB e, nI z, 2, eT e, eS e, nI i))) := by
    intro f hf
    have h6 := c6 f hf
    simp only [List.mem_append, List.mem_cons] at h6 ⊢
    constructor
    · rintro (h | h | h)
      · exact Or.inl (Or.inl h)
      · exact Or.inr h
      · exact Or.inl (h6.mp (Or.inr (Or.inr h)))
    · rintro (h | h)
      · rcases h6.mpr h with h | h | h
        · exact Or.inl h
        · rw [h] at hf; exact absurd hc0 hf
        · exact Or.inr (Or.inr h)
      · exact Or.inr (Or.inl h)
  have hsl2 : isSl P (A ++ (e.1, (eA e, eB e, nI z, 2, eT e, eS e, nI i)) :: B') a i (e.1, (eA e, eB e, nI z, 2, eT e, eS e, nI i)) := ⟨hv, by simp, hea, rfl⟩
  have old : ∀ a' i' f, isSl P (A ++ e :: B) a' i' f → isSl P (A ++ (e.1, (eA e, eB e, nI z, 2, eT e, eS e, nI i)) :: B') a' i' f := by
    rintro a' i' f ⟨h1, h2, h3, h4⟩
    exact ⟨h1, (slb1 f (by rw [h4]; exact nI_c0 hR h1)).mpr (Or.inl h2), h3, h4⟩
  have notnew : ∀ f, f ∈ A ++ e :: B → eC f ≠ 0 → f ≠ (e.1, (eA e, eB e, nI z, 2, eT e, eS e, nI i)) := by
    intro f hf hfc z
    have : f.1 = e.1 := by rw [z]
    have hfe : f = e := uad_inj hG.2.2.2.1.2.1 hf (by simp) this
    rw [hfe] at hfc; exact hfc hc0
  have fresh : ∀ j, j < onm P a i → ly P M H a i (e.1, (eA e, eB e, nI z, 2, eT e, eS e, nI i)) j := by
    intro j hj
    constructor
    · intro hm
      obtain ⟨i', f, j', q1, q2, q3⟩ := hko.1 a _ hm
      obtain ⟨w1, _, _⟩ := ob_inj hR2 hG2.1 hsl2 (old a i' f q1) hj q2 q3
      exact notnew f q1.2.1 (by rw [q1.2.2.2]; exact nI_c0 hR q1.1) w1.symm
    · intro hm
      obtain ⟨f, j', q1, q2, q3⟩ := hko.2.1 a i _ hv hm
      obtain ⟨w1, _, _⟩ := ob_inj hR2 hG2.1 hsl2 (old a i f q1) hj q2 q3
      exact notnew f q1.2.1 (by rw [q1.2.2.2]; exact hci) w1.symm
  refine ⟨S1, R1, S2, _, (e.1, (eA e, eB e, nI z, 2, eT e, eS e, nI i)), ?_, ?_, ?_, hfill, ?_, k2, ⟨hR2, uStS_C hS1 hcf, ?_, ?_, ⟨?_, ?_, ?_⟩, ?_⟩, hsl2, rfl, ?_, fresh 0 (by omega), ?_⟩
  · unfold cf_X6_obtain_67
    rw [ncS, nnS, lN_32, c1, Option.bind_some, if_neg (by decide)]
  · unfold rf_takes_75
    rw [if_neg (nI_nm1 (k := A.length) (by omega)), rd_n (f := 12) k2, g2, c2, Option.bind_some, if_neg (by decide)]
  · have := (hkp.1 a i hv)
    rw [c4.2.1 32 _ this.1 (by decide) (by decide) (by decide) (by decide)]; exact this.2.1
  · have h1 : eA (e.1, (eA e, eB e, nI z, (2 : Int32), eT e, eS e, eC e)) = nI a := hea
    rw [h1] at hpos; exact hpos
  · have := uDy_C hD1 hcf uCR.rf
    refine ⟨fun b hb => ?_, fun b hb => by rw [rset_f (by decide), rset_f (by decide), rset_f (by decide), rset_f (by decide)]; exact this.2.1 b hb, this.2.2⟩
    have h := this.1 b hb
    rw [rset_f (by decide), rset_f (by decide), rset_f (by decide), rset_f (by decide), rset_f (by decide)]
    exact h
  · exact uG_C hS1 hG2 hcf uCR.rf
  · have h1 := uKp_F c4 hkp
    obtain ⟨q1, q2, q3, q4, q5⟩ := h1
    refine ⟨fun a' i' hv' => ?_, fun a' i' d' hv' hd' => ?_, fun a' i' k' hv' hk' => ?_, q4, q5⟩
    · rw [i2, if_neg (by omega), if_neg (by omega), if_neg (by omega), if_neg (by omega), ← hS2]; exact q1 a' i' hv'
    · rw [← hS2]; exact q2 a' i' d' hv' hd'
    · rw [i2, if_neg (by omega), if_neg (by omega), if_neg (by omega), if_neg (by omega), ← hS2]; exact q3 a' i' k' hv' hk'
  · intro a' i' f hf
    by_cases hfe : f = (e.1, (eA e, eB e, nI z, 2, eT e, eS e, nI i))
    · subst hfe
      have haa : a' = a := nI8 hR.1 hf.1.1 ha (hf.2.2.1.symm.trans hea)
      subst haa
      have hii : i' = i := by
        have z1 := (sl_num hR hf.1).2.2.2.2.2.2
        exact (nI_eq (by omega) (by omega)).mp hf.2.2.2.symm
      subst hii
      show gI S2 88 e.1 = _ ∧ gI S2 89 e.1 = _ ∧ (∀ j, j < 32 → (bt (gI S2 91 e.1) j = true ↔ _)) ∧ (∀ j, j < 32 → (bt (gI S2 90 e.1) j = true ↔ _))
      rw [i2, i2, i2, i2]
      simp only [and_true, show ¬ (88 = 91) by decide, show ¬ (88 = 90) by decide, show ¬ (88 = 89) by decide, show ¬ (89 = 91) by decide, show ¬ (89 = 90) by decide, show ¬ (90 = 91) by decide, if_false, if_true]
      refine ⟨trivial, trivial, fun j hj => ?_, fun j hj => ?_⟩
      · rw [b_0]
        exact ⟨fun w => (by cases w), fun w => absurd w.2 (fresh j w.1).1⟩
      · rw [b_fill _ (by omega) (by omega) j hj, decide_eq_true_iff]
        exact ⟨fun w => ⟨w, fresh j w⟩, fun w => w.1⟩
    · have hfc : eC f ≠ 0 := by rw [hf.2.2.2]; exact nI_c0 hR hf.1
      have hfo : f ∈ A ++ e :: B := by
        rcases (slb1 f hfc).mp hf.2.1 with h | h
        · exact h
        · exact absurd h hfe
      have hp : f.1 ≠ e.1 := fun w => by
        have := uad_inj hG.2.2.2.1.2.1 hfo (show e ∈ A ++ e :: B by simp) w
        rw [this] at hfc; exact hfc hc0
      have hlt := (hG.2.2.2.1.1 f hfo).1
      have h4 := fun g (h88 : 88 ≤ g) (h91 : g ≤ 91) => c4.2.1 g f.1 hlt (by omega) (by omega) (by omega) (by omega)
      rw [i2, if_neg (fun w => hp w.2), if_neg (fun w => hp w.2), if_neg (fun w => hp w.2), if_neg (fun w => hp w.2), i2, if_neg (fun w => hp w.2), if_neg (fun w => hp w.2), if_neg (fun w => hp w.2), if_neg (fun w => hp w.2), i2, if_neg (fun w => hp w.2), if_neg (fun w => hp w.2), if_neg (fun w => hp w.2), if_neg (fun w => hp w.2), i2, if_neg (fun w => hp w.2), if_neg (fun w => hp w.2), if_neg (fun w => hp w.2), if_neg (fun w => hp w.2)]
      rw [h4 88 (by decide) (by decide), h4 89 (by decide) (by decide), h4 90 (by decide) (by decide), h4 91 (by decide) (by decide)]
      exact hks a' i' f ⟨hf.1, hfo, hf.2.2⟩
  · obtain ⟨h1, h2, h3, h4, h5, h6⟩ := hko
    refine ⟨fun a' b hb => ?_, fun a' i' b hv' hb => ?_, h3, h4, h5, fun f hf hfo => ?_⟩
    · obtain ⟨i', f, j, q1, q2, q3⟩ := h1 a' b hb
      exact ⟨i', f, j, old a' i' f q1, q2, q3⟩
    · obtain ⟨f, j, q1, q2, q3⟩ := h2 a' i' b hv' hb
      exact ⟨f, j, old a' i' f q1, q2, q3⟩
    · simp only [List.mem_append, List.mem_cons] at hf
      rcases hf with h | h | h
      · exact h6 f (by simp [h]) hfo
      · rw [h]; exact hci
      · rcases c7 f h with h | h
        · exact h6 f (by simp [h]) hfo
        · rw [h] at hfo; cases hfo
  · exact uKr_F (c5.u.tr hfr17.u) hkr
  · unfold ob; rw [Nat.zero_mul]; show eB e + nI 0 = eB e; rw [nI_0]; grind
  · have : liv (rset R1 17 A.length (nI i)) = liv R1 := by unfold liv; rw [rset_f (by decide)]
    rw [this, hl1]
