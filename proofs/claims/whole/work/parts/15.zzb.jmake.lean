/-! ===== pure part: TO MAKE, the joint step ===== -/
def sCo (src : Option Nat) : Int32 := match src with
  | none => -1
  | some s => nI s
set_option maxHeartbeats 2000000 in
theorem jmake {F : Nat} {P : Par} {x : Nat} {S : Cst} {R : Rst} {L : List En} {M : Pil} {Q : Pad} {H : List (Nat × Int32)} {t sh m : Nat} {src : Option Nat} (hF : 1000 ≤ F) (hA : uA P x S R L M Q H t) (hP : pn P < 8) (hs : sh ≤ 16) (hm : m ≤ 8) (hsrc : ∀ s, src = some s → s < pn P ∧ sh ≤ psh P s) :
    ∃ S' R', cf_X6_make_72 F x S (nI (2 ^ sh)) (nI m) (src.map (par P)) = some (.inr (nI (pn P), S')) ∧ rf_make_74 F R (nI (2 ^ sh)) (sCo src) (nI m) 1 = some (nI (pn P), R') ∧ uA (pEx P (nx S) sh src m) x S' R' L M (qEx P Q (nx S)) H t := by
  obtain ⟨hR, hS, hD, hG, hK, hr⟩ := hA
  obtain ⟨s1, s2, ⟨t0, s3, s4, s5⟩, s6, s7⟩ := hS
  have ht0 : t0 < nx S := by
    apply Classical.byContradiction
    intro z
    have := hD.2.2 t0 (by omega)
    omega
  obtain ⟨S1, c1, c2⟩ := arena_new (F := F) (sh := sh) (m := m) (S := S) (num := nI (pn P)) (src := src.map (par P)) hF (by omega) hm hD.2.2
  obtain ⟨n1, n2, n3, n4, n5, n6, n7, n8, n9⟩ := c2
  have hr1 : R.1 1 = nI (pn P) := hR.2.1.1
  have hr0 : R.1 0 = 0 := hR.2.1.2
  refine ⟨sI (sQ S1 t0 (pn P) (some (nx S))) 97 x (nI (pn P + 1)), rput (rset (rset (rset (rset R 2 (pn P) (nI (2 ^ sh))) 3 (pn P) (sCo src)) 4 (pn P) (nI m)) 7 (pn P) 1073741824) 1 (nI (pn P + 1)), ?_, ?_, ?_⟩
  · unfold cf_X6_make_72
    simp only [st1]
    rw [s2, if_neg (nI_pos (by omega)), s3, nnS, s4, if_pos (show nI (pn P) < Int32.ofNat 8 from (nI_ltI (b := 8) (by omega) (by omega)).mpr hP), c1, Option.bind_some, nnS]
    unfold cqw
    rw [(n3 t0 ht0).1, s4, if_pos (inb_n hP (by omega)), nI_clamp (by omega), nI_1]
  · unfold rf_make_74
    rw [right_1 hr0, Option.bind_some]
    simp only [st2, st1]
    rw [if_neg (show ¬ (1 : Int32) = 0 by decide), hr1, if_neg (show ¬ nI (pn P) = (8 : Int32) from fun z => by have := (nI_eq (b := 8) (by omega) (by omega)).mp z; omega), wr_n (f := 2) (show pn P < rlen 2 from hP)]
    simp only [rset_1]
    rw [hr1, wr_n (f := 3) (show pn P < rlen 3 from hP)]
    simp only [rset_1]
    rw [hr1, wr_n (f := 4) (show pn P < rlen 4 from hP)]
    simp only [rset_1]
    rw [hr1, wr_n (f := 7) (show pn P < rlen 7 from hP)]
    simp only [rset_1, rput_g]
    rw [hr1, nI_1, if_pos trivial, nI_pred]
  · generalize hR' : rput (rset (rset (rset (rset R 2 (pn P) (nI (2 ^ sh))) 3 (pn P) (sCo src)) 4 (pn P) (nI m)) 7 (pn P) 1073741824) 1 (nI (pn P + 1)) = R'
    have r1 : ∀ j, R'.1 j = if j = 1 then nI (pn P + 1) else R.1 j := fun j => by rw [← hR', rput_g]; rfl
    have r2 : ∀ f, f ≠ 2 → f ≠ 3 → f ≠ 4 → f ≠ 7 → R'.2 f = R.2 f := fun f f2 f3 f4 f7 => by rw [← hR', rput_2, rset_f f7, rset_f f4, rset_f f3, rset_f f2]
    have r2' : ∀ b, R'.2 2 b = if b = pn P then nI (2 ^ sh) else R.2 2 b := fun b => by rw [← hR', rput_2, rset_f (by decide), rset_f (by decide), rset_f (by decide), rset_g]; simp
    have r3' : ∀ b, R'.2 3 b = if b = pn P then sCo src else R.2 3 b := fun b => by rw [← hR', rput_2, rset_f (by decide), rset_f (by decide), rset_g, rset_f (by decide)]; simp
    have r4' : ∀ b, R'.2 4 b = if b = pn P then nI m else R.2 4 b := fun b => by rw [← hR', rput_2, rset_f (by decide), rset_g, rset_f (by decide), rset_f (by decide)]; simp
    have r7' : ∀ b, R'.2 7 b = if b = pn P then 1073741824 else R.2 7 b := fun b => by rw [← hR', rput_2, rset_g, rset_f (by decide), rset_f (by decide), rset_f (by decide)]; simp
    clear hR'
    generalize hS' : sI (sQ S1 t0 (pn P) (some (nx S))) 97 x (nI (pn P + 1)) = S'
    have x' : nx S' = nx S + 2 + 13 * m := by rw [← hS']; exact n1
    have i' : ∀ f p, f ≠ 97 → gI S' f p = gI S1 f p := fun f p hf => by rw [← hS', gI_sI, if_neg (fun z => hf z.1)]; rfl
    have i97 : gI S' 97 x = nI (pn P + 1) := by rw [← hS', gI_sI, if_pos ⟨rfl, rfl⟩]
    have p' : ∀ f p, gP S' f p = gP S1 f p := fun f p => by rw [← hS']; rfl
    have g' : gN S' = gN S1 := by rw [← hS']; rfl
    have gr' : gR S' = gR S1 := by rw [← hS']; rfl
    have gq' : ∀ p k, gQ S' p k = if p = t0 ∧ k = pn P then some (nx S) else gQ S1 p k := fun p k => by rw [← hS', ← gQ_sQ]; rfl
    clear hS'
    have fI : ∀ f p, f ≠ 97 → p < nx S → gI S' f p = gI S f p := fun f p hf hp => by rw [i' f p hf, (n2 f p hp).1]
    have fP : ∀ f p, p < nx S → gP S' f p = gP S f p := fun f p hp => by rw [p', (n2 f p hp).2]
    have nI0 : ∀ f, f ≠ 97 → gI S' f (nx S) = gI S1 f (nx S) := fun f hf => i' f _ hf
    sorry
