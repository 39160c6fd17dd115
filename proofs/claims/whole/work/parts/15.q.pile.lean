/-! ===== pure part: the class's piles ===== -/
def mset (M : Pil) (a i k : Nat) (l : List Int32) : Pil := fun a' i' k' => if a' = a ∧ i' = i ∧ k' = k then l else M a' i' k'
def sw (d k : Nat) : Nat := if k = 2 * d then 2 * d + 1 else if k = 2 * d + 1 then 2 * d else k
def mxch (M : Pil) (a i d : Nat) : Pil := fun a' i' k => if a' = a ∧ i' = i then M a' i' (sw d k) else M a' i' k
def qxch (Q : Pad) (a i d : Nat) : Pad := fun a' i' k => if a' = a ∧ i' = i then Q a' i' (sw d k) else Q a' i' k
def m3 (M : Pil) (a i d : Nat) (l s dp : List Int32) : Pil := fun a' i' k => if a' = a ∧ i' = i then (if k = 2 * d then l else if k = 2 * d + 1 then s else if k = 4 then dp else M a' i' k) else M a' i' k
theorem m3_self {M : Pil} {a i d : Nat} : m3 M a i d (M a i (2 * d)) (M a i (2 * d + 1)) (M a i 4) = M := by
  funext a' i' k
  unfold m3
  by_cases h : a' = a ∧ i' = i
  · obtain ⟨rfl, rfl⟩ := h
    rw [if_pos ⟨rfl, rfl⟩]
    by_cases h1 : k = 2 * d
    · rw [if_pos h1, h1]
    · rw [if_neg h1]
      by_cases h2 : k = 2 * d + 1
      · rw [if_pos h2, h2]
      · rw [if_neg h2]
        by_cases h3 : k = 4
        · rw [if_pos h3, h3]
        · rw [if_neg h3]
  · rw [if_neg h]
theorem m3_l {M : Pil} {a i d : Nat} {l l' s dp : List Int32} : mset (m3 M a i d l s dp) a i (2 * d) l' = m3 M a i d l' s dp := by
  funext a' i' k; unfold mset m3; grind
theorem m3_s {M : Pil} {a i d : Nat} {l s s' dp : List Int32} : mset (m3 M a i d l s dp) a i (2 * d + 1) s' = m3 M a i d l s' dp := by
  funext a' i' k; unfold mset m3; grind
theorem m3_d {M : Pil} {a i d : Nat} {l s dp dp' : List Int32} (hd : d < 2) : mset (m3 M a i d l s dp) a i 4 dp' = m3 M a i d l s dp' := by
  funext a' i' k; unfold mset m3; grind
theorem m3_x {M : Pil} {a i d : Nat} {l s dp : List Int32} (hd : d < 2) : mxch (m3 M a i d l s dp) a i d = m3 M a i d s l dp := by
  funext a' i' k; unfold mxch m3 sw; grind
theorem m3_gl {M : Pil} {a i d : Nat} {l s dp : List Int32} : m3 M a i d l s dp a i (2 * d) = l := by unfold m3; simp
theorem m3_gs {M : Pil} {a i d : Nat} {l s dp : List Int32} : m3 M a i d l s dp a i (2 * d + 1) = s := by unfold m3; simp
theorem m3_gd {M : Pil} {a i d : Nat} {l s dp : List Int32} (hd : d < 2) : m3 M a i d l s dp a i 4 = dp := by unfold m3; rw [if_pos ⟨rfl, rfl⟩, if_neg (by omega), if_neg (by omega), if_pos rfl]
theorem m3_fl {M : Pil} {a i d a' i' : Nat} {l s dp : List Int32} (h : ¬ (a' = a ∧ i' = i)) : fl (m3 M a i d l s dp) a' i' = fl M a' i' := by unfold fl m3; simp [h]
theorem m3_perm {M : Pil} {a i d : Nat} {l s dp l' s' dp' : List Int32} (hd : d < 2) (h : ∀ v, List.count v l' + List.count v s' + List.count v dp' = List.count v l + List.count v s + List.count v dp) : (fl (m3 M a i d l' s' dp') a i).Perm (fl (m3 M a i d l s dp) a i) := by
  rw [List.perm_iff_count]
  intro v
  have := h v
  rcases (by omega : d = 0 ∨ d = 1) with rfl | rfl <;> (unfold fl m3; simp; omega)
/-- what a step of the piles leaves -/
def uPF (S S' : Cst) : Prop := nx S' = nx S ∧ (∀ f p, f ≠ 65 → gI S' f p = gI S f p) ∧ (∀ f p, f ≠ 48 → f ≠ 49 → gP S' f p = gP S f p) ∧ gN S' = gN S ∧ gQ S' = gQ S
theorem uPF.rf {S : Cst} : uPF S S := ⟨rfl, fun _ _ _ => rfl, fun _ _ _ _ => rfl, rfl, rfl⟩
theorem uPF.tr {S S' S'' : Cst} (h : uPF S S') (g : uPF S' S'') : uPF S S'' := ⟨g.1.trans h.1, fun f p a => (g.2.1 f p a).trans (h.2.1 f p a), fun f p a b => (g.2.2.1 f p a b).trans (h.2.2.1 f p a b), g.2.2.2.1.trans h.2.2.2.1, g.2.2.2.2.trans h.2.2.2.2⟩
theorem uPF.c {S S' : Cst} (h : uPF S S') : uCF S S' := ⟨h.1, fun f p a _ => h.2.1 f p a, h.2.2.1, h.2.2.2.1, h.2.2.2.2⟩
theorem gI_sR {S : Cst} {q k : Nat} {v : Int32} : gI (sR S q k v) = gI S := rfl
theorem gP_sR {S : Cst} {q k : Nat} {v : Int32} : gP (sR S q k v) = gP S := rfl
theorem gN_sR {S : Cst} {q k : Nat} {v : Int32} : gN (sR S q k v) = gN S := rfl
theorem gR_sR {S : Cst} {q k : Nat} {v : Int32} (q' j : Nat) : gR (sR S q k v) q' j = if q' = q ∧ j = k then v else gR S q' j := by
  show va_up S.2.2.2.2.1 q (upd (S.2.2.2.2.1 q) k v) q' j = _
  unfold va_up
  by_cases hf : q' = q
  · subst hf
    rw [if_pos rfl]
    unfold upd
    by_cases hj : j = k
    · rw [if_pos hj, if_pos ⟨rfl, hj⟩]
    · rw [if_neg hj, if_neg (fun h => hj h.2)]; rfl
  · rw [if_neg hf, if_neg (fun h => hf h.1)]; rfl
theorem uKp_pull {P : Par} {S : Cst} {M : Pil} {Q : Pad} {a i k : Nat} {l : List Int32} {b : Int32} (h : uKp P S M Q) (hv : vd P a i) (hk : k < 5) (hM : M a i k = l ++ [b]) : uKp P (sI S 65 (Q a i k).1 (nI l.length)) (mset M a i k l) Q := by
  obtain ⟨h1, h2, h3, h4, h5⟩ := h
  refine ⟨fun a' i' hv' => ?_, h2, fun a' i' k' hv' hk' => ?_, h4, h5⟩
  · rw [gI_sI, if_neg (by simp)]; exact h1 a' i' hv'
  · obtain ⟨q1, q2, q3, q4, q5, q6⟩ := h3 a' i' k' hv' hk'
    refine ⟨q1, q2, ?_, q4, q5, ?_⟩
    · rw [gI_sI]
      unfold mset
      by_cases hs : a' = a ∧ i' = i ∧ k' = k
      · obtain ⟨rfl, rfl, rfl⟩ := hs; simp
      · rw [if_neg hs, if_neg (fun z => hs (h4 a' i' k' a i k hv' hv hk' hk (Or.inl z.2)))]; exact q3
    · unfold mset
      by_cases hs : a' = a ∧ i' = i ∧ k' = k
      · obtain ⟨rfl, rfl, rfl⟩ := hs
        rw [if_pos ⟨rfl, rfl, rfl⟩]
        intro j v hj
        refine q6 j v ?_
        rw [hM, List.getElem?_append_left (List.getElem?_eq_some_iff.mp hj).1]; exact hj
      · rw [if_neg hs]; exact q6
theorem uKp_put {P : Par} {S : Cst} {M : Pil} {Q : Pad} {a i k : Nat} {b : Int32} (h : uKp P S M Q) (hv : vd P a i) (hk : k < 5) : uKp P (sI (sR S (Q a i k).2 (M a i k).length b) 65 (Q a i k).1 (nI ((M a i k).length + 1))) (mset M a i k (M a i k ++ [b])) Q := by
  obtain ⟨h1, h2, h3, h4, h5⟩ := h
  refine ⟨fun a' i' hv' => ?_, h2, fun a' i' k' hv' hk' => ?_, h4, h5⟩
  · rw [gI_sI, if_neg (by simp)]; exact h1 a' i' hv'
  · obtain ⟨q1, q2, q3, q4, q5, q6⟩ := h3 a' i' k' hv' hk'
    refine ⟨q1, q2, ?_, q4, q5, ?_⟩
    · rw [gI_sI]
      unfold mset
      by_cases hs : a' = a ∧ i' = i ∧ k' = k
      · obtain ⟨rfl, rfl, rfl⟩ := hs; simp
      · rw [if_neg hs, if_neg (fun z => hs (h4 a' i' k' a i k hv' hv hk' hk (Or.inl z.2)))]; exact q3
    · unfold mset
      by_cases hs : a' = a ∧ i' = i ∧ k' = k
      · obtain ⟨rfl, rfl, rfl⟩ := hs
        rw [if_pos ⟨rfl, rfl, rfl⟩]
        intro j v hj
        rw [gR_sI, gR_sR]
        by_cases hjl : j = (M a' i' k').length
        · subst hjl
          rw [if_pos ⟨rfl, rfl⟩]
          simpa using hj
        · rw [if_neg (fun z => hjl z.2)]
          have hlt : j < (M a' i' k').length := by
            have := (List.getElem?_eq_some_iff.mp hj).1
            simp at this; omega
          rw [List.getElem?_append_left hlt] at hj
          exact q6 j v hj
      · rw [if_neg hs]
        intro j v hj
        rw [gR_sI, gR_sR, if_neg (fun z => hs (h4 a' i' k' a i k hv' hv hk' hk (Or.inr z.1)))]
        exact q6 j v hj
theorem sw_lt {d k : Nat} (hd : d < 2) (hk : k < 5) : sw d k < 5 := by unfold sw; split <;> (try split) <;> omega
theorem sw_sw {d k : Nat} : sw d (sw d k) = k := by unfold sw; grind
theorem uKp_xch {P : Par} {S : Cst} {M : Pil} {Q : Pad} {a i d : Nat} (h : uKp P S M Q) (hv : vd P a i) (hd : d < 2) : uKp P (sP (sP S 48 (pdk P a i d) (some (Q a i (2 * d + 1)).1)) 49 (pdk P a i d) (some (Q a i (2 * d)).1)) (mxch M a i d) (qxch Q a i d) := by
  obtain ⟨h1, h2, h3, h4, h5⟩ := h
  refine ⟨fun a' i' hv' => ?_, fun a' i' d' hv' hd' => ?_, fun a' i' k' hv' hk' => ?_, fun a1 i1 k1 a2 i2 k2 v1 v2 k1' k2' hq => ?_, h5⟩
  · obtain ⟨q1, q2, q3, q4, q5⟩ := h1 a' i' hv'
    simp only [gI_sP, gP_sP]
    refine ⟨q1, q2, by simp [q3], by simp [q4], ?_⟩
    unfold qxch sw
    have : ¬ 4 = 2 * d := by omega
    have : ¬ 4 = 2 * d + 1 := by omega
    simp [*]
  · obtain ⟨q1, q2, q3⟩ := h2 a' i' d' hv' hd'
    refine ⟨q1, ?_, ?_⟩
    · simp only [gP_sP]
      unfold qxch sw
      by_cases hs : a' = a ∧ i' = i ∧ d' = d
      · obtain ⟨rfl, rfl, rfl⟩ := hs; simp
      · have hne : ¬ pdk P a' i' d' = pdk P a i d := fun z => hs (h5 a' i' d' a i d hv' hv hd' hd z)
        simp [hne, q2]
        by_cases z : a' = a ∧ i' = i
        · have : d' ≠ d := fun z3 => hs ⟨z.1, z.2, z3⟩
          rw [if_pos z, if_neg (by omega), if_neg (by omega)]
        · rw [if_neg z]
    · simp only [gP_sP]
      unfold qxch sw
      by_cases hs : a' = a ∧ i' = i ∧ d' = d
      · obtain ⟨rfl, rfl, rfl⟩ := hs; simp
      · have hne : ¬ pdk P a' i' d' = pdk P a i d := fun z => hs (h5 a' i' d' a i d hv' hv hd' hd z)
        simp [hne, q3]
        by_cases z : a' = a ∧ i' = i
        · have : d' ≠ d := fun z3 => hs ⟨z.1, z.2, z3⟩
          rw [if_pos z, if_neg (by omega), if_neg (by omega)]
        · rw [if_neg z]
  · simp only [gI_sP, gP_sP, gN_sP, gR_sP, nx_sP]
    simp
    unfold mxch qxch
    by_cases hs : a' = a ∧ i' = i
    · rw [if_pos hs, if_pos hs]; exact h3 a' i' _ hv' (sw_lt hd hk')
    · rw [if_neg hs, if_neg hs]; exact h3 a' i' k' hv' hk'
  · unfold qxch at hq
    by_cases s1 : a1 = a ∧ i1 = i <;> by_cases s2 : a2 = a ∧ i2 = i
    · rw [if_pos s1, if_pos s2] at hq
      obtain ⟨e1, e2, e3⟩ := h4 a1 i1 _ a2 i2 _ v1 v2 (sw_lt hd k1') (sw_lt hd k2') hq
      refine ⟨e1, e2, ?_⟩
      have := congrArg (sw d) e3
      rwa [sw_sw, sw_sw] at this
    · rw [if_pos s1, if_neg s2] at hq
      obtain ⟨e1, e2, e3⟩ := h4 a1 i1 _ a2 i2 _ v1 v2 (sw_lt hd k1') k2' hq
      exact absurd ⟨e1 ▸ s1.1, e2 ▸ s1.2⟩ s2
    · rw [if_neg s1, if_pos s2] at hq
      obtain ⟨e1, e2, e3⟩ := h4 a1 i1 _ a2 i2 _ v1 v2 k1' (sw_lt hd k2') hq
      exact absurd ⟨e1 ▸ s2.1, e2 ▸ s2.2⟩ s1
    · rw [if_neg s1, if_neg s2] at hq
      exact h4 a1 i1 _ a2 i2 _ v1 v2 k1' k2' hq
/-! its methods -/
theorem top_ok {F : Nat} {P : Par} {S : Cst} {M : Pil} {Q : Pad} {a i k : Nat} {l : List Int32} {b : Int32} (h : uKp P S M Q) (hv : vd P a i) (hk : k < 5) (hM : M a i k = l ++ [b]) (hl : l.length < 12) : cf_X4_top F S (Q a i k).1 = some b := by
  obtain ⟨q1, q2, q3, q4, q5, q6⟩ := h.2.2.1 a i k hv hk
  have hlen : (M a i k).length = l.length + 1 := by rw [hM]; simp
  unfold cf_X4_top
  simp only [nnS, st1, q4]
  rw [q3, q5, hlen, if_neg (nI_nle (by omega) (by omega)), if_neg (show ¬ Int32.ofNat 12 < nI (l.length + 1) from nI_nlt (a := 12) (by omega) (by omega)), nI_pred]
  unfold crd
  rw [q5, if_pos (inb_n hl (by omega)), nI_clamp (by omega), q6 l.length b (by rw [hM]; simp)]
theorem top_0 {F : Nat} {P : Par} {S : Cst} {M : Pil} {Q : Pad} {a i k : Nat} (h : uKp P S M Q) (hv : vd P a i) (hk : k < 5) (hM : M a i k = []) : cf_X4_top F S (Q a i k).1 = some (-1) := by
  obtain ⟨q1, q2, q3, q4, q5, q6⟩ := h.2.2.1 a i k hv hk
  unfold cf_X4_top
  rw [q3, hM, if_pos (by decide)]
theorem pull_ok {F : Nat} {P : Par} {S : Cst} {M : Pil} {Q : Pad} {a i k : Nat} {l : List Int32} {b : Int32} (h : uKp P S M Q) (hv : vd P a i) (hk : k < 5) (hM : M a i k = l ++ [b]) (hl : l.length < 12) (hb : b ≠ -1) : cf_X4_pull F S (Q a i k).1 = some (b, sI S 65 (Q a i k).1 (nI l.length)) := by
  obtain ⟨q1, q2, q3, q4, q5, q6⟩ := h.2.2.1 a i k hv hk
  have hlen : (M a i k).length = l.length + 1 := by rw [hM]; simp
  unfold cf_X4_pull
  rw [top_ok h hv hk hM hl, Option.bind_some, if_neg hb]
  simp only [st1]
  rw [q3, hlen, nI_pred]
theorem pull_0 {F : Nat} {P : Par} {S : Cst} {M : Pil} {Q : Pad} {a i k : Nat} (h : uKp P S M Q) (hv : vd P a i) (hk : k < 5) (hM : M a i k = []) : cf_X4_pull F S (Q a i k).1 = some (-1, S) := by
  unfold cf_X4_pull
  rw [top_0 h hv hk hM, Option.bind_some, if_pos rfl]
theorem put_ok {F : Nat} {P : Par} {S : Cst} {M : Pil} {Q : Pad} {a i k : Nat} {b : Int32} (h : uKp P S M Q) (hv : vd P a i) (hk : k < 5) (hl : (M a i k).length < 12) : cf_X4_put F S (Q a i k).1 b = some (sI (sR S (Q a i k).2 (M a i k).length b) 65 (Q a i k).1 (nI ((M a i k).length + 1))) := by
  obtain ⟨q1, q2, q3, q4, q5, q6⟩ := h.2.2.1 a i k hv hk
  unfold cf_X4_put
  simp only [nnS, st1, q4]
  rw [q3, q5, if_neg (nI_pos (by omega)), if_neg (show ¬ Int32.ofNat 12 ≤ nI (M a i k).length from nI_ge (b := 12) hl (by omega))]
  unfold cwr
  rw [q5, if_pos (inb_n hl (by omega)), nI_clamp (by omega)]
  show some (sI (sR S (Q a i k).2 (M a i k).length b) 65 (Q a i k).1 (gI S 65 (Q a i k).1 + 1)) = _
  rw [q3, nI_1]
theorem uPF_65 {S : Cst} {p : Nat} {v : Int32} : uPF S (sI S 65 p v) := ⟨rfl, fun f q hf => by rw [gI_sI, if_neg (fun z => hf z.1)], fun _ _ _ _ => rfl, rfl, rfl⟩
theorem uPF_sR {S : Cst} {q k : Nat} {v : Int32} : uPF S (sR S q k v) := ⟨rfl, fun _ _ _ => rfl, fun _ _ _ _ => rfl, rfl, rfl⟩
/-- one object goes from a pile to another -/
theorem mv_step {F n : Nat} {P : Par} {S : Cst} {M : Pil} {Q : Pad} {a i k k' c : Nat} {l : List Int32} {b : Int32} (h : uKp P S M Q) (hv : vd P a i) (hk : k < 5) (hk' : k' < 5) (hkk : k ≠ k') (hM : M a i k = l ++ [b]) (hl : l.length < 12) (hl' : (M a i k').length < 12) (hb : b ≠ -1) (hc : c < 3) :
    ∃ S', cf_X4_moveMagazine_2 F (Q a i k).1 (n + 1) S (some (Q a i k').1) (nI c) = cf_X4_moveMagazine_2 F (Q a i k).1 n S' (some (Q a i k').1) (nI (c + 1)) ∧ uKp P S' (mset (mset M a i k l) a i k' (M a i k' ++ [b])) Q ∧ uPF S S' := by
  obtain ⟨q1, q2, q3, q4, q5, q6⟩ := h.2.2.1 a i k hv hk
  have hlen : (M a i k).length = l.length + 1 := by rw [hM]; simp
  have h1 := uKp_pull h hv hk hM
  have hm : mset M a i k l a i k' = M a i k' := by unfold mset; rw [if_neg (fun z => hkk z.2.2.symm)]
  have h2 := uKp_put (b := b) h1 hv hk'
  rw [hm] at h2
  refine ⟨_, ?_, h2, (uPF_65.tr uPF_sR).tr uPF_65⟩
  simp only [cf_X4_moveMagazine_2]
  rw [if_neg (show ¬ (3 : Int32) ≤ nI c from nI_ge (b := 3) hc (by omega)), q3, hlen, if_neg (nI_nle (by omega) (by omega)), pull_ok h hv hk hM hl hb, Option.bind_some]
  simp only [st2, nnS]
  have hp := put_ok (F := F) (b := b) h1 hv hk' (by rw [hm]; exact hl')
  rw [hm] at hp
  rw [hp, Option.bind_some, nI_1]
theorem mv3 {F : Nat} {P : Par} {S : Cst} {M : Pil} {Q : Pad} {a i k k' : Nat} {l : List Int32} {u v w : Int32} (hF : 1000 ≤ F) (h : uKp P S M Q) (hv : vd P a i) (hk : k < 5) (hk' : k' < 5) (hkk : k ≠ k') (hM : M a i k = l ++ [u, v, w]) (hl : l.length ≤ 9) (hl' : (M a i k').length ≤ 9) (hu : u ≠ -1) (hv' : v ≠ -1) (hw : w ≠ -1) :
    ∃ S', cf_X4_moveMagazine F S (Q a i k).1 (some (Q a i k').1) = some S' ∧ uKp P S' (mset (mset M a i k l) a i k' (M a i k' ++ [w, v, u])) Q ∧ uPF S S' := by
  obtain ⟨n, rfl⟩ : ∃ n, F = n + 1 + 1 + 1 + 1 := ⟨F - 4, by omega⟩
  obtain ⟨S1, a1, a2, a3⟩ := mv_step (F := n + 1 + 1 + 1 + 1) (n := n + 1 + 1 + 1) (c := 0) (l := l ++ [u, v]) (b := w) h hv hk hk' hkk (by rw [hM]; simp) (by simp; omega) (by omega) hw (by decide)
  have m1 : mset (mset M a i k (l ++ [u, v])) a i k' (M a i k' ++ [w]) a i k = (l ++ [u]) ++ [v] := by unfold mset; simp [hkk]
  have m1' : mset (mset M a i k (l ++ [u, v])) a i k' (M a i k' ++ [w]) a i k' = M a i k' ++ [w] := by unfold mset; simp
  obtain ⟨S2, b1, b2, b3⟩ := mv_step (F := n + 1 + 1 + 1 + 1) (n := n + 1 + 1) (c := 1) a2 hv hk hk' hkk m1 (by simp; omega) (by rw [m1']; simp; omega) hv' (by decide)
  rw [m1'] at b2
  have e2 : mset (mset (mset (mset M a i k (l ++ [u, v])) a i k' (M a i k' ++ [w])) a i k (l ++ [u])) a i k' (M a i k' ++ [w] ++ [v]) = mset (mset M a i k (l ++ [u])) a i k' (M a i k' ++ [w, v]) := by
    funext a' i' k''; unfold mset; simp; grind
  rw [e2] at b2
  have m2 : mset (mset M a i k (l ++ [u])) a i k' (M a i k' ++ [w, v]) a i k = l ++ [u] := by unfold mset; simp [hkk]
  have m2' : mset (mset M a i k (l ++ [u])) a i k' (M a i k' ++ [w, v]) a i k' = M a i k' ++ [w, v] := by unfold mset; simp
  obtain ⟨S3, c1, c2, c3⟩ := mv_step (F := n + 1 + 1 + 1 + 1) (n := n + 1) (c := 2) b2 hv hk hk' hkk m2 (by omega) (by rw [m2']; simp; omega) hu (by decide)
  rw [m2'] at c2
  have e3 : mset (mset (mset (mset M a i k (l ++ [u])) a i k' (M a i k' ++ [w, v])) a i k l) a i k' (M a i k' ++ [w, v] ++ [u]) = mset (mset M a i k l) a i k' (M a i k' ++ [w, v, u]) := by
    funext a' i' k''; unfold mset; simp; grind
  rw [e3] at c2
  refine ⟨S3, ?_, c2, (a3.tr b3).tr c3⟩
  unfold cf_X4_moveMagazine
  rw [show (0 : Int32) = nI 0 from rfl, a1, b1, c1]
  simp only [cf_X4_moveMagazine_2]
  rw [if_pos (by decide)]
theorem mv0 {F : Nat} {P : Par} {S : Cst} {M : Pil} {Q : Pad} {a i k : Nat} {q : Option Nat} (hF : 1000 ≤ F) (h : uKp P S M Q) (hv : vd P a i) (hk : k < 5) (hM : M a i k = []) : cf_X4_moveMagazine F S (Q a i k).1 q = some S := by
  obtain ⟨n, rfl⟩ : ∃ n, F = n + 1 := ⟨F - 1, by omega⟩
  obtain ⟨q1, q2, q3, q4, q5, q6⟩ := h.2.2.1 a i k hv hk
  unfold cf_X4_moveMagazine
  simp only [cf_X4_moveMagazine_2]
  rw [if_neg (by decide), q3, hM, if_pos (by decide)]
