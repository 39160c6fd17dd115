/-! ===== pure part: a new arena ===== -/
theorem i42 {F c n : Nat} {S : Cst} : ∀ m, m < 9 → cf_X0_init_42 F c (n + 6) S (nI m) 1 = cf_X0_init_67 F c S (nI m) (nI (slb m)) := by
  intro m hm
  rcases (by omega : m = 0 ∨ m = 1 ∨ m = 2 ∨ m = 3 ∨ m = 4 ∨ m = 5 ∨ m = 6 ∨ m = 7 ∨ m = 8) with rfl | rfl | rfl | rfl | rfl | rfl | rfl | rfl | rfl
  all_goals rfl
theorem ntz_pow {F : Nat} {S : Cst} {sh : Nat} (hs : sh < 31) : cf_J6_numberOfTrailingZeros_0f7a4 F S (nI (2 ^ sh)) = some (nI sh) := by
  refine ntz_ok (by omega) ?_ (fun i hi => ?_)
  · rw [b_nI (by omega), Nat.testBit_two_pow]; simp
  · rw [b_nI (by omega), Nat.testBit_two_pow]; simp; omega
theorem slb_le (m : Nat) : slb m < 33 := by
  unfold slb
  by_cases h0 : m = 0
  · rw [if_pos h0]; omega
  · rw [if_neg h0]
    by_cases h1 : m = 1
    · rw [if_pos h1]; omega
    · rw [if_neg h1]
      by_cases h2 : m = 2
      · rw [if_pos h2]; omega
      · rw [if_neg h2]
        by_cases h5 : m ≤ 5
        · rw [if_pos h5]; omega
        · rw [if_neg h5]; omega
/-- what the constructor leaves -/
def aN (S S' : Cst) (c0 sh m : Nat) (num : Int32) (src : Option Nat) : Prop :=
  nx S' = c0 + 2 + 13 * m ∧ (∀ f p, p < c0 → gI S' f p = gI S f p ∧ gP S' f p = gP S f p) ∧ (∀ p, p < c0 → gN S' p = gN S p ∧ gR S' p = gR S p ∧ gQ S' p = gQ S p) ∧
  (∀ f, gI S' f c0 = if f = 0 then num else if f = 1 then nI (2 ^ sh) else if f = 2 then nI sh else if f = 4 then nI m else if f = 5 then nI (slb m * 2 ^ sh) else if f = 13 then 1073741824 else 0) ∧
  (∀ f, gP S' f c0 = if f = 3 then src else if f = 6 then some (c0 + 1) else none) ∧
  gN S' (c0 + 1) = 8 ∧ (∀ i, i < 8 → gQ S' (c0 + 1) i = if i < m then some (c0 + 2 + 13 * i) else none) ∧ (∀ i, i < m → cw S' (c0 + 2 + 13 * i) (nI ((i + 1) * 2 ^ sh))) ∧ (∀ p, nx S' ≤ p → gN S' p = 0)
set_option maxHeartbeats 1000000 in
theorem arena_new {F sh m : Nat} {S : Cst} {num : Int32} {src : Option Nat} (hF : 1000 ≤ F) (hs : sh < 17) (hm : m ≤ 8) (hN : ∀ p, nx S ≤ p → gN S p = 0) : ∃ S', cf_X0_init F (nO S) (nx S) num (nI (2 ^ sh)) src (nI m) = some S' ∧ aN S S' (nx S) sh m num src := by
  obtain ⟨n, hn⟩ : ∃ n, F = n + 6 := ⟨F - 6, by omega⟩
  unfold cf_X0_init
  simp only [st1]
  rw [ntz_pow (by omega), Option.bind_some]
  have e42 : ∀ T, cf_X0_init_42 F (nx S) F T (nI m) 1 = cf_X0_init_67 F (nx S) T (nI m) (nI (slb m)) := by
    intro T
    have := i42 (F := F) (c := nx S) (n := n) (S := T) m (by omega)
    rw [← hn] at this; exact this
  rw [e42]
  unfold cf_X0_init_67
  simp only [st1]
  generalize hT : sI (sI (sP (sI (sI (sI (nO S) 0 (nx S) num) 1 (nx S) (nI (2 ^ sh))) 2 (nx S) (nI sh)) 3 (nx S) src) 4 (nx S) (nI m)) 13 (nx S) 1073741824 = T
  have tx : nx T = nx S + 1 := by rw [← hT]; rfl
  have tI : ∀ f p, gI T f p = if p = nx S then (if f = 0 then num else if f = 1 then nI (2 ^ sh) else if f = 2 then nI sh else if f = 4 then nI m else if f = 13 then 1073741824 else 0) else gI S f p := by
    intro f p
    rw [← hT]
    simp only [gI_sI, gI_sP, gI_nO]
    by_cases hp : p = nx S
    · simp only [hp, and_true, if_true]
      by_cases h13 : f = 13
      · subst h13; rfl
      · simp only [h13, if_false]
        by_cases h4 : f = 4
        · subst h4; rfl
        · simp only [h4, if_false]
          by_cases h2 : f = 2
          · subst h2; rfl
          · simp only [h2, if_false]
            by_cases h1 : f = 1
            · subst h1; rfl
            · simp only [h1, if_false]
    · simp only [hp, and_false, if_false]
  have tP : ∀ f p, gP T f p = if p = nx S then (if f = 3 then src else none) else gP S f p := by
    intro f p
    rw [← hT]
    simp only [gP_sI, gP_sP, gP_nO]
    by_cases hp : p = nx S
    · simp only [hp, and_true, if_true]
    · simp only [hp, and_false, if_false]
  have tN : gN T = gN S := by rw [← hT]; rfl
  have tR : gR T = gR S := by rw [← hT]; rfl
  have tQ : gQ T = gQ S := by rw [← hT]; rfl
  clear hT
  have e2 : gI T 2 (nx S) = nI sh := by rw [tI, if_pos rfl]; rfl
  rw [e2, shl_32 _ (slb_le m) _ hs]
  have ex : nx (sI T 5 (nx S) (nI (slb m * 2 ^ sh))) = nx S + 1 := tx
  rw [ex]
  generalize hU : sP (nA (sI T 5 (nx S) (nI (slb m * 2 ^ sh))) 8) 6 (nx S) (some (nx S + 1)) = U
  have ux : nx U = nx S + 2 := by rw [← hU]; show nx T + 1 = _; omega
  have uI : ∀ f p, gI U f p = if f = 5 ∧ p = nx S then nI (slb m * 2 ^ sh) else gI T f p := by
    intro f p; rw [← hU]; show gI (sI T 5 (nx S) (nI (slb m * 2 ^ sh))) f p = _; rw [gI_sI]
  have uP : ∀ f p, gP U f p = if f = 6 ∧ p = nx S then some (nx S + 1) else gP T f p := by
    intro f p; rw [← hU, gP_sP]; rfl
  have uN : ∀ p, gN U p = if p = nx S + 1 then 8 else gN S p := by
    intro p; rw [← hU, ← tN, ← tx]; rfl
  have uR : ∀ p, p ≤ nx S → gR U p = gR S p := by
    intro p hp; rw [← hU, ← tR]; show (if p = nx T then _ else gR T p) = _; rw [if_neg (by omega)]
  have uQ : ∀ p, p ≤ nx S → gQ U p = gQ S p := by
    intro p hp; rw [← hU, ← tQ]; show (if p = nx T then _ else gQ T p) = _; rw [if_neg (by omega)]
  have uQ1 : gQ U (nx S + 1) = fun _ => none := by
    rw [← hU, ← tx]; show (if nx T = nx T then _ else gQ T (nx T)) = _; rw [if_pos rfl]
  clear hU
  obtain ⟨S', s1, s2, s3, s4, s5, s6, s7, s8⟩ := init90_ok (F := F) (c0 := nx S) (sh := sh) (m := m) (S0 := U) hm hs (by rw [uI, if_neg (by omega), e2]) (by rw [uP, if_pos ⟨rfl, rfl⟩]) m 0 9 U (by omega) (by omega) ⟨by rw [ux], fun _ _ _ => ⟨rfl, rfl⟩, fun _ _ => ⟨rfl, rfl, rfl⟩, by rw [uN, if_pos rfl], fun i hi => by rw [uQ1, if_neg (by omega)], fun i hi => absurd hi (Nat.not_lt_zero i), fun p hp => by rw [uN, if_neg (by omega)]; exact hN p (by omega)⟩
  refine ⟨S', s1, s2, fun f p hp => ⟨?_, ?_⟩, fun p hp => ⟨?_, ?_, ?_⟩, fun f => ?_, fun f => ?_, s5, s6, s7, s8⟩
  · rw [(s3 f p (by omega)).1, uI, if_neg (by omega), tI, if_neg (by omega)]
  · rw [(s3 f p (by omega)).2, uP, if_neg (by omega), tP, if_neg (by omega)]
  · rw [(s4 p (by omega)).1, uN, if_neg (by omega)]
  · rw [(s4 p (by omega)).2.1, uR p (by omega)]
  · rw [(s4 p (by omega)).2.2, uQ p (by omega)]
  · rw [(s3 f _ (Nat.le_refl _)).1, uI, tI, if_pos rfl]
    by_cases h5 : f = 5
    · subst h5; rw [if_pos ⟨rfl, rfl⟩]; rfl
    · rw [if_neg (fun z => h5 z.1)]
      simp only [h5, if_false]
  · rw [(s3 f _ (Nat.le_refl _)).2, uP, tP, if_pos rfl]
    by_cases h6 : f = 6
    · subst h6; rw [if_pos ⟨rfl, rfl⟩]; rfl
    · rw [if_neg (fun z => h6 z.1)]
      simp only [h6, if_false]
