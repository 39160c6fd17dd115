/-! ===== pure part: TO MAKE, the joint step ===== -/
def sCo (src : Option Nat) : Int32 := match src with
  | none => -1
  | some s => nI s
set_option maxHeartbeats 2000000 in
theorem jmake {F : Nat} {P : Par} {x : Nat} {S : Cst} {R : Rst} {L : List En} {M : Pil} {Q : Pad} {H : List (Nat × Int32)} {t sh m : Nat} {src : Option Nat} (hF : 1000 ≤ F) (hA : uA P x S R L M Q H t) (hP : pn P < 8) (hs : sh ≤ 16) (hm : m ≤ 8) (hsrc : ∀ s, src = some s → s < pn P ∧ sh ≤ psh P s) :
    ∃ S' R', cf_X6_make_72 F x S (nI (2 ^ sh)) (nI m) (src.map (par P)) = some (.inr (nI (pn P), S')) ∧ rf_make_74 F R (nI (2 ^ sh)) (sCo src) (nI m) 1 = some (nI (pn P), R') ∧ uA (pEx P (nx S) sh src m) x S' R' L M (qEx P Q (nx S)) H t := by
  obtain ⟨hR, hS, hD, hG, hK, hr⟩ := hA
  obtain ⟨s1, s2, ⟨t0, s3, s4, s5⟩, s6, s7⟩ := hS
  have ht0 : t0 < nx S := by
    apply Classical.byContradiction
    intro z
    have := hD.2.2.1 t0 (by omega)
    omega
  obtain ⟨S1, c1, c2⟩ := arena_new (F := F) (sh := sh) (m := m) (S := S) (num := nI (pn P)) (src := src.map (par P)) hF (by omega) hm hD.2.2.1
  obtain ⟨n1, n2, n3, n4, n5, n6, n7, n8, n9⟩ := c2
  have hr1 : R.1 1 = nI (pn P) := hR.2.1.1
  have hr0 : R.1 0 = 0 := hR.2.1.2
  refine ⟨sI (sQ S1 t0 (pn P) (some (nx S))) 97 x (nI (pn P + 1)), rput (rset (rset (rset (rset R 2 (pn P) (nI (2 ^ sh))) 3 (pn P) (sCo src)) 4 (pn P) (nI m)) 7 (pn P) 1073741824) 1 (nI (pn P + 1)), ?_, ?_, ?_⟩
  · unfold cf_X6_make_72
    simp only [st1]
    rw [s2, if_neg (nI_pos (by omega)), s3, nnS, s4, if_pos (show nI (pn P) < Int32.ofNat 8 from (nI_ltI (b := 8) (by omega) (by omega)).mpr hP), c1, Option.bind_some, nnS]
    unfold cqw
    rw [(n3 t0 ht0).1, s4, if_pos (inb_n hP (by omega)), nI_clamp (by omega), nI_1]
  · unfold rf_make_74
    rw [right_1 hr0, Option.bind_some]
    simp only [st2, st1]
    rw [if_neg (show ¬ (1 : Int32) = 0 by decide), hr1, if_neg (show ¬ nI (pn P) = (8 : Int32) from fun z => by have := (nI_eq (b := 8) (by omega) (by omega)).mp z; omega), wr_n (f := 2) (show pn P < rlen 2 from hP)]
    simp only [rset_1]
    rw [hr1, wr_n (f := 3) (show pn P < rlen 3 from hP)]
    simp only [rset_1]
    rw [hr1, wr_n (f := 4) (show pn P < rlen 4 from hP)]
    simp only [rset_1]
    rw [hr1, wr_n (f := 7) (show pn P < rlen 7 from hP)]
    simp only [rset_1, rput_g]
    rw [hr1, nI_1, if_pos trivial, nI_pred]
  · generalize hR' : rput (rset (rset (rset (rset R 2 (pn P) (nI (2 ^ sh))) 3 (pn P) (sCo src)) 4 (pn P) (nI m)) 7 (pn P) 1073741824) 1 (nI (pn P + 1)) = R'
    have r1 : ∀ j, R'.1 j = if j = 1 then nI (pn P + 1) else R.1 j := fun j => by rw [← hR', rput_g]; rfl
    have r2 : ∀ f, f ≠ 2 → f ≠ 3 → f ≠ 4 → f ≠ 7 → R'.2 f = R.2 f := fun f f2 f3 f4 f7 => by rw [← hR', rput_2, rset_f f7, rset_f f4, rset_f f3, rset_f f2]
    have r2' : ∀ b, R'.2 2 b = if b = pn P then nI (2 ^ sh) else R.2 2 b := fun b => by rw [← hR', rput_2, rset_f (by decide), rset_f (by decide), rset_f (by decide), rset_g]; simp
    have r3' : ∀ b, R'.2 3 b = if b = pn P then sCo src else R.2 3 b := fun b => by rw [← hR', rput_2, rset_f (by decide), rset_f (by decide), rset_g, rset_f (by decide)]; simp
    have r4' : ∀ b, R'.2 4 b = if b = pn P then nI m else R.2 4 b := fun b => by rw [← hR', rput_2, rset_f (by decide), rset_g, rset_f (by decide), rset_f (by decide)]; simp
    have r7' : ∀ b, R'.2 7 b = if b = pn P then 1073741824 else R.2 7 b := fun b => by rw [← hR', rput_2, rset_g, rset_f (by decide), rset_f (by decide), rset_f (by decide)]; simp
    clear hR'
    generalize hS' : sI (sQ S1 t0 (pn P) (some (nx S))) 97 x (nI (pn P + 1)) = S'
    have x' : nx S' = nx S + 2 + 13 * m := by rw [← hS']; exact n1
    have i' : ∀ f p, f ≠ 97 → gI S' f p = gI S1 f p := fun f p hf => by rw [← hS', gI_sI, if_neg (fun z => hf z.1)]; rfl
    have i97 : gI S' 97 x = nI (pn P + 1) := by rw [← hS', gI_sI, if_pos ⟨rfl, rfl⟩]
    have p' : ∀ f p, gP S' f p = gP S1 f p := fun f p => by rw [← hS']; rfl
    have g' : gN S' = gN S1 := by rw [← hS']; rfl
    have gr' : gR S' = gR S1 := by rw [← hS']; rfl
    have gq' : ∀ p k, gQ S' p k = if p = t0 ∧ k = pn P then some (nx S) else gQ S1 p k := fun p k => by rw [← hS', ← gQ_sQ]; rfl
    clear hS'
    have fI : ∀ f p, f ≠ 97 → p < nx S → gI S' f p = gI S f p := fun f p hf hp => by rw [i' f p hf, (n2 f p hp).1]
    have fP : ∀ f p, p < nx S → gP S' f p = gP S f p := fun f p hp => by rw [p', (n2 f p hp).2]
    have nI0 : ∀ f, f ≠ 97 → gI S' f (nx S) = gI S1 f (nx S) := fun f hf => i' f _ hf
    have lt9 : ∀ a, a < pn (pEx P (nx S) sh src m) → a < pn P ∨ a = pn P := fun a ha => by have : a < pn P + 1 := ha; omega
    have hL := hG.1.1
    have hmap : ∀ o : Option Nat, (∀ s, o = some s → s < pn P) → o.map (par (pEx P (nx S) sh src m)) = o.map (par P) := fun o ho => by
      cases o with
      | none => rfl
      | some s => show some _ = some _; rw [(ex_o (ho s rfl)).1]
    have hM : ∀ i k, M (pn P) i k = [] := fun i k => hr.2.2.2.1 (pn P) i k (Nat.le_refl _)
    have hG1 : uG P S' R' L t := uG_X (S := S) (R := R) (by omega) (fun f p hp hf => fI f p (by omega) hp) (fun f p hp _ => fP f p hp) (fun b hb => (s7 b hb).1) ⟨by rw [r1, if_neg (by decide)], by rw [r1, if_neg (by decide)], by rw [r1, if_neg (by decide)]⟩ (fun f hf => r2 f (by omega) (by omega) (by omega) (by omega)) hG
    have z7 : gP S' 7 (nx S) = none := by rw [p', n5]; rfl
    have z8 : gI S' 8 (nx S) = 0 := by rw [i' _ _ (by decide), n4]; rfl
    have z9 : gI S' 9 (nx S) = 0 := by rw [i' _ _ (by decide), n4]; rfl
    have z10 : gI S' 10 (nx S) = 0 := by rw [i' _ _ (by decide), n4]; rfl
    have cws : ∀ i, i < m → cw S' (nx S + 2 + 13 * i) (nI ((i + 1) * 2 ^ sh)) := by
      intro i hi
      obtain ⟨w1, w2, w3, w4, w5, w6, w7, w8, w9⟩ := n8 i hi
      refine ⟨by rw [i' _ _ (by decide)]; exact w1, by rw [p']; exact w2, by rw [p']; exact w3, by rw [p']; exact w4, by rw [p']; exact w5, by rw [p']; exact w6, by rw [p']; exact w7, by rw [p']; exact w8, fun k hk => ?_⟩
      rw [i' _ _ (by decide), p', g']
      exact w9 k hk
    refine ⟨⟨by show pn P + 1 ≤ 8; omega, ⟨by rw [r1, if_pos rfl]; rfl, by rw [r1, if_neg (by decide)]; exact hr0⟩, fun a ha => ?_⟩, ⟨by omega, i97, ⟨t0, by rw [fP _ _ s1]; exact s3, by rw [g', (n3 t0 ht0).1]; exact s4, fun a ha => ?_⟩, fun a b ha hb hab => ?_, fun a ha => ?_⟩, ⟨fun a ha => ?_, fun a ha => ?_, fun p hp => by rw [g']; exact n9 p (by omega), fun a ha => ?_⟩, uG_ex hP hG1 z7 z8 z9 z10, ⟨uKp_ex x' (fun f p hp hf => fI f p (by omega) hp) (fun f p hp _ => fP f p hp) (fun p hp => ⟨by rw [g', (n3 p hp).1], by rw [gr', (n3 p hp).2.1]⟩) hM cws hK.1, uKs_ex hP hL (fun f f1 f2 e he => fI f e.1 (by omega) (hG.2.2.2.1.1 e he).1) hK.2.1, uKo_ex hP hL hM hK.2.2⟩, ?_⟩
    · rcases lt9 a ha with hq | rfl
      · obtain ⟨o1, o2, o3, o4, o5, o6⟩ := ex_o (c0 := nx S) (sh := sh) (src := src) (m := m) hq
        rw [o2, o3, o4, r2', r3', r4', if_neg (by omega), if_neg (by omega), if_neg (by omega)]
        obtain ⟨k1, k2, k3, k4, k5, k6⟩ := hR.2.2 a hq
        exact ⟨k1, k2, k3, k4, k5, fun s hs => by rw [(ex_o (show s < pn P by have := (k6 s hs).1; omega)).2.1]; exact k6 s hs⟩
      · rw [ex_n.2.1, ex_n.2.2.1, ex_n.2.2.2.1, r2', r3', r4', if_pos rfl, if_pos rfl, if_pos rfl]
        exact ⟨hs, hm, rfl, rfl, by cases src <;> rfl, fun s hs => by rw [(ex_o (hsrc s hs).1).2.1]; exact hsrc s hs⟩
    · rw [gq', (n3 t0 ht0).2.2, s5 a ha]
      by_cases hq : a = pn P
      · subst hq; rw [if_pos ⟨rfl, rfl⟩, if_pos (show pn P < pn (pEx P (nx S) sh src m) from Nat.lt_succ_self _), ex_n.1]
      · rw [if_neg (fun z => hq z.2)]
        by_cases hlt : a < pn P
        · rw [if_pos hlt, if_pos (show a < pn (pEx P (nx S) sh src m) from Nat.lt_succ_of_lt hlt), (ex_o hlt).1]
        · rw [if_neg hlt, if_neg (fun z => by have : a < pn P + 1 := z; omega)]
    · rcases lt9 a ha with h1 | rfl <;> rcases lt9 b hb with h2 | rfl
      · rw [(ex_o h1).1, (ex_o h2).1] at hab; exact s6 a b h1 h2 hab
      · rw [(ex_o h1).1, ex_n.1] at hab; have := (s7 a h1).1; omega
      · rw [(ex_o h2).1, ex_n.1] at hab; have := (s7 b h2).1; omega
      · rfl
    · rcases lt9 a ha with hq | rfl
      · obtain ⟨o1, o2, o3, o4, o5, o6⟩ := ex_o (c0 := nx S) (sh := sh) (src := src) (m := m) hq
        obtain ⟨k1, k2, k3, k4, k5, k6, k7, tt, k8, k9, k10⟩ := s7 a hq
        have htt : tt < nx S := by
          apply Classical.byContradiction
          intro z
          have := hD.2.2.1 tt (by omega)
          omega
        have hne : tt ≠ t0 := fun z => hD.2.2.2 a hq (by rw [k8, s3, z])
        rw [o1, o2, o3, o4, hmap (psc P a) (fun s hs => by have := ((hR.2.2 a hq).2.2.2.2.2 s hs).1; omega), fI 0 _ (by decide) k1, fI 1 _ (by decide) k1, fI 2 _ (by decide) k1, fI 4 _ (by decide) k1, fI 5 _ (by decide) k1, fP 3 _ k1, fP 6 _ k1]
        exact ⟨by omega, k2, k3, k4, k5, k6, k7, tt, k8, by rw [g', (n3 tt htt).1]; exact k9, fun i hi => by rw [gq', if_neg (fun z => hne z.1), (n3 tt htt).2.2, o5]; exact k10 i hi⟩
      · rw [ex_n.1, ex_n.2.1, ex_n.2.2.1, ex_n.2.2.2.1, hmap src (fun s hs => (hsrc s hs).1), i' 0 _ (by decide), i' 1 _ (by decide), i' 2 _ (by decide), i' 4 _ (by decide), i' 5 _ (by decide), p' 3, p' 6, n4 0, n4 1, n4 2, n4 4, n4 5, n5 3, n5 6]
        exact ⟨by omega, rfl, rfl, rfl, rfl, rfl, rfl, nx S + 1, rfl, by rw [g']; exact n6, fun i hi => by rw [gq', if_neg (fun z => by have := z.1; omega), n7 i hi, ex_n.2.2.2.2.1, Nat.add_sub_cancel]⟩
    · rcases lt9 a ha with hq | rfl
      · have k1 := (s7 a hq).1
        rw [(ex_o hq).1, fI 11 _ (by decide) k1, fI 12 _ (by decide) k1, fI 13 _ (by decide) k1, fI 14 _ (by decide) k1, fI 15 _ (by decide) k1, r2 5 (by decide) (by decide) (by decide) (by decide), r2 6 (by decide) (by decide) (by decide) (by decide), r2 8 (by decide) (by decide) (by decide) (by decide), r2 9 (by decide) (by decide) (by decide) (by decide), r7', if_neg (show ¬ a = pn P by omega)]
        exact hD.1 a hq
      · have z := hD.2.1 (pn P) (Nat.le_refl _)
        rw [ex_n.1, i' 11 _ (by decide), i' 12 _ (by decide), i' 13 _ (by decide), i' 14 _ (by decide), i' 15 _ (by decide), n4 11, n4 12, n4 13, n4 14, n4 15, r2 5 (by decide) (by decide) (by decide) (by decide), r2 6 (by decide) (by decide) (by decide) (by decide), r2 8 (by decide) (by decide) (by decide) (by decide), r2 9 (by decide) (by decide) (by decide) (by decide), r7', if_pos (show pn P = pn P from rfl), z.1, z.2.1, z.2.2.1, z.2.2.2]
        exact ⟨rfl, rfl, rfl, rfl, rfl, by decide, by decide, by decide⟩
    · rw [r2 5 (by decide) (by decide) (by decide) (by decide), r2 6 (by decide) (by decide) (by decide) (by decide), r2 8 (by decide) (by decide) (by decide) (by decide), r2 9 (by decide) (by decide) (by decide) (by decide)]
      exact hD.2.1 a (by have : pn P + 1 ≤ a := ha; omega)
    · rw [fP 96 x s1, s3]
      rcases lt9 a ha with hq | rfl
      · rw [(ex_o hq).1, fP 6 _ (s7 a hq).1, ← s3]; exact hD.2.2.2 a hq
      · rw [ex_n.1, p', n5]
        intro z
        have z' : some (nx S + 1) = some t0 := z
        injection z' with z'
        omega
    · obtain ⟨w1, w2, w3, w4, w5, w6, w7⟩ := hr
      refine ⟨?_, ?_, w3, fun a i k ha => w4 a i k (by have : pn P + 1 ≤ a := ha; omega), by rw [r1, if_neg (by decide)]; exact w5, w6, ?_⟩
      · rw [r2 28 (by decide) (by decide) (by decide) (by decide), r2 29 (by decide) (by decide) (by decide) (by decide)]; exact w1
      · rw [r2 30 (by decide) (by decide) (by decide) (by decide), r2 31 (by decide) (by decide) (by decide) (by decide)]; exact w2
      · rw [r2 26 (by decide) (by decide) (by decide) (by decide), r2 27 (by decide) (by decide) (by decide) (by decide)]; exact w7
