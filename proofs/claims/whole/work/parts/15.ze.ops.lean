/-! ===== pure part: the calls: take, purge, tags, bounds ===== -/
def SimOp (n x : Nat) (wk : Thr Int32 → Int32) (kd : Nat → Prop) (cr : Option (Thr Int32)) (rr : Option (Int32 × Rst)) : Prop := ∃ (res : Thr Int32) (r : Int32) (R' : Rst), cr = some res ∧ rr = some (r, R') ∧ (∀ w, res = .inl w → kd w.1) ∧ wk res = R'.1 0 ∧ (∀ v S', res = .inr (v, S') → v = r) ∧ Sim n x (tS res) R'
theorem bud {t n : Nat} (h : t + 50000 * (n + 1) < 2147483648) : t + 50000 + 50000 * n < 2147483648 ∧ t + 50000 < 2147483648 ∧ t + 5400 < 2147483648 ∧ t + 5400 + 50000 * n < 2147483648 ∧ t + 50000 * n < 2147483648 := by
  rw [Nat.mul_succ] at h
  generalize 50000 * n = k at *
  omega
theorem op_ok {n x : Nat} {wk : Thr Int32 → Int32} {kd : Nat → Prop} {cr : Option (Thr Int32)} {rr : Option (Int32 × Rst)} {P : Par} {S' : Cst} {R' : Rst} {L : List En} {M : Pil} {Q : Pad} {H : List (Nat × Int32)} {t : Nat} {r : Int32} (hwk : ∀ w, wk (.inr w) = 0) (hA : uA P x S' R' L M Q H t) (ht : t + 50000 * n < 2147483648) (hH : H.length + n ≤ 512) (hc : cr = some (.inr (r, S'))) (hr : rr = some (r, R')) : SimOp n x wk kd cr rr := by
  refine ⟨_, r, R', hc, hr, fun w hw => (by cases hw), by rw [hwk, uA_t hA], fun v S2 h => (by cases h; rfl), P, L, M, Q, H, t, ?_, ht, hH⟩
  rw [put_id (uA_t hA)]; exact hA
theorem op_thr {n x k : Nat} {wk : Thr Int32 → Int32} {kd : Nat → Prop} {cr : Option (Thr Int32)} {rr : Option (Int32 × Rst)} {S : Cst} {R : Rst} {r v : Int32} (h : Sim (n + 1) x S R) (hk : kd k) (hw : wk (.inl (k, S)) = v) (hc : cr = some (.inl (k, S))) (hr : rr = some (r, rput R 0 v)) : SimOp n x wk kd cr rr := by
  obtain ⟨P, L, M, Q, H, t, hA, ht, hH⟩ := h
  refine ⟨_, r, _, hc, hr, fun w hw => (by cases hw; exact hk), by rw [hw, put0], fun v S2 h => (by cases h), P, L, M, Q, H, t, by rw [put00]; exact hA, by omega, by omega⟩
theorem wk1_r {w : Int32 × Cst} : wk1 (.inr w : Thr Int32) = 0 := rfl
theorem wk2_r {w : Int32 × Cst} : wk2 (.inr w : Thr Int32) = 0 := rfl
theorem Sim.drop {n x : Nat} {S : Cst} {R : Rst} (h : Sim (n + 1) x S R) : Sim n x S R := by
  obtain ⟨P, L, M, Q, H, t, hA, ht, hH⟩ := h
  exact ⟨P, L, M, Q, H, t, hA, by omega, by omega⟩
theorem desk_ok {F : Nat} {S : Cst} (x4 : Int32) : (∃ d, d < 2 ∧ x4 = nI d ∧ cf_X6_isDesk F S x4 = some 1) ∨ (¬ x4 = 0 ∧ ¬ x4 = 1 ∧ cf_X6_isDesk F S x4 = some 0) := by
  unfold cf_X6_isDesk
  by_cases h0 : x4 = 0
  · exact Or.inl ⟨0, by decide, h0, by rw [if_pos h0]⟩
  · by_cases h1 : x4 = 1
    · exact Or.inl ⟨1, by decide, h1, by rw [if_neg h0, if_pos h1]⟩
    · exact Or.inr ⟨h0, h1, by rw [if_neg h0, if_neg h1]⟩
set_option maxHeartbeats 1000000 in
theorem sim_take {n x : Nat} {S : Cst} {R : Rst} (F : Nat) (hF : 1000000 ≤ F) (x1 x2 x3 x4 : Int32) (h : Sim (n + 1) x S R) : SimOp n x wk2 (fun k => k = 1 ∨ k = 2) (cf_X6_take F S x x1 x2 x3 x4) (rf_take F R x1 x2 x3 x4) := by
  have h0 := h
  obtain ⟨P, L, M, Q, H, t, hA, ht, hH⟩ := h
  obtain ⟨b1, b2, b3, b4, b5⟩ := bud ht
  clear ht
  have hFt : 1000 ≤ F := Nat.le_trans (by decide) hF
  have hR := hA.1
  have hS := hA.2.1
  have thr : rf_right F (rput R 0 0) 0 2 = some (0, rput R 0 2) := by rw [right_0 put0 (by decide), put00]
  unfold cf_X6_take rf_take
  rcases arena_ok (F := F) x1 hR hS with ⟨a, ha, rfl, c1, c2⟩ | ⟨c1, c2, _⟩
  · rw [c1, c2, Option.bind_some, Option.bind_some]
    simp only [tr, st2]
    rw [if_neg (show ¬ (1 : Int32) = 0 by decide)]
    have t40 : ∀ x2 x3 x4, rf_take_40 F (rput R 0 0) (nI a) x2 x3 x4 0 = some (0, rput R 0 2) := by
      intro x2 x3 x4
      unfold rf_take_40
      rw [thr, Option.bind_some]
      simp only [st2]
      rw [if_pos trivial]
    by_cases h2 : x2 ≤ 0
    · rw [if_pos h2, if_pos h2]
      exact op_thr h0 (Or.inr rfl) rfl rfl (t40 _ _ _)
    · rw [if_neg h2, if_neg h2]
      by_cases h3 : x3 < 0
      · rw [if_pos h3, if_pos h3]
        exact op_thr h0 (Or.inr rfl) rfl rfl (t40 _ _ _)
      · rw [if_neg h3, if_neg h3]
        by_cases h3' : (2 : Int32) < x3
        · rw [if_pos h3', if_pos h3']
          exact op_thr h0 (Or.inr rfl) rfl rfl (t40 _ _ _)
        · rw [if_neg h3', if_neg h3']
          rcases desk_ok (F := F) (S := S) x4 with ⟨d, hd, rfl, d1⟩ | ⟨d1, d2, d3⟩
          · rw [d1, Option.bind_some, if_neg (show ¬ (1 : Int32) = 0 by decide)]
            have hd01 : (if nI d = 0 then rf_take_40 F (rput R 0 0) (nI a) x2 x3 (nI d) 1 else if nI d = 1 then rf_take_40 F (rput R 0 0) (nI a) x2 x3 (nI d) 1 else rf_take_40 F (rput R 0 0) (nI a) x2 x3 (nI d) 0) = rf_take_40 F (rput R 0 0) (nI a) x2 x3 (nI d) 1 := by
              rcases (by omega : d = 0 ∨ d = 1) with rfl | rfl
              · rw [if_pos (by decide)]
              · rw [if_neg (by decide), if_pos (by decide)]
            rw [hd01]
            unfold rf_take_40
            rw [right_1 put0, Option.bind_some]
            simp only [st2]
            rw [if_neg (show ¬ (1 : Int32) = 0 by decide)]
            rcases full_ok hFt hA with ⟨hlen, f1, v, f2, f3⟩ | ⟨f1, v, f2, f3⟩
            · rw [f1, f2, Option.bind_some, Option.bind_some, if_pos rfl, if_pos f3, nnS]
              obtain ⟨z, z1, z2, rfl⟩ := pos_nI h2
              obtain ⟨u1, u2, u3⟩ := rup_ok (a := a) hR ha z1
              have hp16 := pw16 (hR.2.2 a ha).1
              have ha8 : a < 8 := by have := hR.1; omega
              rw [cround hR hS ha z1 z2, rround_ok hR ha z1 z2, Option.bind_some, Option.bind_some, cfor_ok hR hS ha u1 (by omega), Option.bind_some, rd_n (f := 4) (show a < rlen 4 from ha8), rd_n (f := 2) (show a < rlen 2 from ha8), (hR.2.2 a ha).2.2.2.1, (hR.2.2 a ha).2.2.1]
              obtain ⟨r1, r2, r3⟩ := rfor_ok (m := rup P a z) hR ha (by omega)
              by_cases hm : rup P a z ≤ pch P a
              · rw [if_pos hm, if_pos (r1.mpr hm), ncS, rd_n (f := 2) (show a < rlen 2 from ha8), (hR.2.2 a ha).2.2.1, r2]
                unfold dvl
                rw [if_neg r3]
                obtain ⟨r, S', R', L', M', Q', H', o1, o2, o3, o4⟩ := jout hF hA ⟨ha, u1, hm⟩ hd (by omega) hlen b2
                exact op_ok (fun w => rfl) o3 b1 (by omega) o1 o2
              · rw [if_neg hm, if_neg (fun q => hm (r1.mp q)), ncN]
                have h54 : 5410 * (a + 1) ≤ 5410 * 8 := Nat.mul_le_mul_left _ ha8
                obtain ⟨S', R', L', M', k1, k2, k3⟩ := jt_all (x := x) (Q := Q) (H := H) hF a ha S (rput R 0 0) L M t (rup P a z) _ x3 1 9 0 hA u1 rfl (by omega) (by omega) (Nat.lt_of_le_of_lt (Nat.add_le_add_left h54 t) (by omega)) (by omega) (by omega) (by decide)
                have hA' := uA_mono (t' := t + 50000) k1 (Nat.le_trans (Nat.add_le_add_left h54 t) (by omega))
                rw [nI_0] at k3
                rcases k3 with ⟨o1, o2⟩ | ⟨e, he, o1, o2, o3, o4, o5, o6⟩
                · rw [o1, o2, Option.bind_some, Option.bind_some]
                  exact op_ok (fun w => rfl) hA' b1 (by omega) rfl rfl
                · rw [o1, o2, Option.bind_some, Option.bind_some]
                  simp only []
                  rw [ncS, (hA'.2.2.2.1.2.2.2.1.1 e he).2.1]
                  exact op_ok (fun w => rfl) hA' b1 (by omega) rfl rfl
            · rw [f1, f2, Option.bind_some, Option.bind_some, if_neg (by decide), if_neg f3]
              exact op_ok (fun w => rfl) hA b5 (by omega) rfl rfl
          · rw [d3, Option.bind_some, if_pos rfl, if_neg d1, if_neg d2]
            exact op_thr h0 (Or.inr rfl) rfl rfl (t40 _ _ _)
  · rw [c1, c2, Option.bind_some, Option.bind_some]
    simp only [tr, st2]
    rw [if_pos trivial]
    exact op_thr h0 (Or.inl rfl) rfl rfl rfl
theorem sim_purge {n x : Nat} {S : Cst} {R : Rst} (F : Nat) (hF : 1000000 ≤ F) (x1 : Int32) (h : Sim (n + 1) x S R) : SimOp n x wk1 (fun k => k = 1) (cf_X6_purge F S x x1) (rf_purge F R x1) := by
  have h0 := h
  obtain ⟨P, L, M, Q, H, t, hA, ht, hH⟩ := h
  obtain ⟨b1, b2, b3, b4, b5⟩ := bud ht
  clear ht
  unfold cf_X6_purge rf_purge
  rcases arena_ok (F := F) x1 hA.1 hA.2.1 with ⟨a, ha, rfl, c1, c2⟩ | ⟨c1, c2, _⟩
  · rw [c1, c2, Option.bind_some, Option.bind_some]
    simp only [tr, st2]
    rw [if_neg (show ¬ (1 : Int32) = 0 by decide)]
    obtain ⟨S', R', L', M', g, p1, p2, p3, p4, p5⟩ := jpurge hF hA ha b3
    rw [p1, p2, Option.bind_some, Option.bind_some]
    exact op_ok (fun w => rfl) p3 b4 (by omega) rfl rfl
  · rw [c1, c2, Option.bind_some, Option.bind_some]
    simp only [tr, st2]
    rw [if_pos trivial]
    exact op_thr h0 rfl rfl rfl rfl
theorem sim_tags {n x : Nat} {S : Cst} {R : Rst} (F : Nat) (hF : 1000000 ≤ F) (h : Sim (n + 1) x S R) : ∃ (r : Int32) (R' : Rst), cf_X6_tags F S x = some r ∧ rf_tags F R = some (r, R') ∧ Sim n x S R' := by
  obtain ⟨P, L, M, Q, H, t, hA, ht, hH⟩ := h
  obtain ⟨b1, b2, b3, b4, b5⟩ := bud ht
  clear ht
  obtain ⟨t1, t2⟩ := tags_ok (F := F) (Nat.le_trans (by decide) hF) hA
  unfold cf_X6_tags rf_tags
  simp only [st1]
  rw [t1, t2, Option.bind_some, Option.bind_some]
  exact ⟨_, _, rfl, rfl, P, L, M, Q, H, t, by rw [put00]; exact hA, b5, by omega⟩
theorem sim_bounds {n x : Nat} {S : Cst} {R : Rst} (F : Nat) (hF : 1000000 ≤ F) (x1 x2 x3 : Int32) (h : Sim (n + 1) x S R) : ∃ (res : Thr Unit) (R' : Rst), cf_X6_bounds F S x x1 x2 x3 = some res ∧ rf_bounds F R x1 x2 x3 = some R' ∧ (∀ w, res = .inl w → w.1 = 1 ∨ w.1 = 2) ∧ wk2 res = R'.1 0 ∧ Sim n x (tS res) R' := by
  have h0 := h.drop
  obtain ⟨P, L, M, Q, H, t, hA, ht, hH⟩ := h
  obtain ⟨b1, b2, b3, b4, b5⟩ := bud ht
  clear ht
  have hR := hA.1
  have thr : ∀ v, Sim n x S (rput R 0 v) := by
    intro v
    exact ⟨P, L, M, Q, H, t, by rw [put00]; exact hA, b5, by omega⟩
  unfold cf_X6_bounds rf_bounds
  rcases arena_ok (F := F) x1 hA.1 hA.2.1 with ⟨a, ha, rfl, c1, c2⟩ | ⟨c1, c2, _⟩
  · rw [c1, c2, Option.bind_some, Option.bind_some]
    simp only [tr, st2]
    rw [if_neg (show ¬ (1 : Int32) = 0 by decide)]
    have ha8 : a < 8 := by have := hR.1; omega
    have t30 : rf_bounds_30 F (rput R 0 0) (nI a) x2 x3 0 = some (rput R 0 2) := by
      unfold rf_bounds_30
      rw [right_0 put0 (by decide), put00, Option.bind_some]
      simp only [st2]
      rw [if_pos trivial]
    have bad : ∃ (res : Thr Unit) (R' : Rst), (some (.inl (2, S)) : Option (Thr Unit)) = some res ∧ rf_bounds_30 F (rput R 0 0) (nI a) x2 x3 0 = some R' ∧ (∀ w, res = .inl w → w.1 = 1 ∨ w.1 = 2) ∧ wk2 res = R'.1 0 ∧ Sim n x (tS res) R' := ⟨_, _, rfl, t30, fun w hw => (by cases hw; exact Or.inr rfl), by rw [put0]; rfl, thr 2⟩
    by_cases h2 : x2 < 0
    · rw [if_pos h2, if_pos h2]; exact bad
    · rw [if_neg h2, if_neg h2]
      by_cases h3 : x3 < x2
      · rw [if_pos h3, if_pos h3]; exact bad
      · rw [if_neg h3, if_neg h3]
        by_cases h4 : (1073741824 : Int32) < x3
        · have h4' : ¬ x3 ≤ (1073741824 : Int32) := by
            rw [Int32.lt_iff_toInt_lt] at h4
            rw [Int32.le_iff_toInt_le]; omega
          rw [if_neg h4', if_pos h4]; exact bad
        · have h4' : x3 ≤ (1073741824 : Int32) := by
            rw [Int32.lt_iff_toInt_lt] at h4
            rw [Int32.le_iff_toInt_le]; omega
          rw [if_pos h4', if_neg h4, nnS]
          unfold rf_bounds_30
          rw [right_1 put0, Option.bind_some]
          simp only [st2, st1]
          rw [if_neg (show ¬ (1 : Int32) = 0 by decide), wr_n (f := 6) (show a < rlen 6 from ha8), wr_n (f := 7) (show a < rlen 7 from ha8)]
          have hinj := hA.2.1.2.2.2.1
          have hA2 : uA P x (sI (sI S 12 (par P a) x2) 13 (par P a) x3) (rset (rset (rput R 0 0) 6 a x2) 7 a x3) L M Q H t := by
            refine uA_D hA ⟨rfl, fun f p hf => by rw [gI_sI, if_neg (fun z => hf ⟨by omega, by omega⟩), gI_sI, if_neg (fun z => hf ⟨by omega, by omega⟩)], rfl, rfl, rfl, rfl⟩ ⟨fun _ => rfl, fun f hf => by rw [rset_f (fun z => hf ⟨by omega, by omega⟩), rset_f (fun z => hf ⟨by omega, by omega⟩)]⟩ ⟨fun b hb => ?_, uZr_set (S := S) rfl rfl rfl ha (uZr_set (S := S) rfl rfl rfl ha hA.2.2.1.2)⟩
            obtain ⟨q1, q2, q3, q4, q5, q6⟩ := hA.2.2.1.1 b hb
            have e6 : ∀ k, (rset (rset (rput R 0 0) 6 a x2) 7 a x3).2 6 k = if k = a then x2 else (rput R 0 0).2 6 k := fun k => by rw [rset_f (by decide), rset_g]; simp
            have e7 : ∀ k, (rset (rset (rput R 0 0) 6 a x2) 7 a x3).2 7 k = if k = a then x3 else (rput R 0 0).2 7 k := fun k => by rw [rset_g, rset_f (by decide)]; simp
            have i12 : ∀ p, gI (sI (sI S 12 (par P a) x2) 13 (par P a) x3) 12 p = if p = par P a then x2 else gI S 12 p := fun p => by rw [gI_sI, gI_sI]; simp
            have i13 : ∀ p, gI (sI (sI S 12 (par P a) x2) 13 (par P a) x3) 13 p = if p = par P a then x3 else gI S 13 p := fun p => by rw [gI_sI, gI_sI]; simp
            have io : ∀ f p, f ≠ 12 → f ≠ 13 → gI (sI (sI S 12 (par P a) x2) 13 (par P a) x3) f p = gI S f p := fun f p f1 f2 => by rw [gI_sI, if_neg (fun z => f2 z.1), gI_sI, if_neg (fun z => f1 z.1)]
            rw [e6, e7, i12, i13, io 11 _ (by decide) (by decide), io 14 _ (by decide) (by decide), io 15 _ (by decide) (by decide), rset_f (f' := 5) (by decide), rset_f (f' := 5) (by decide), rset_f (f' := 8) (by decide), rset_f (f' := 8) (by decide), rset_f (f' := 9) (by decide), rset_f (f' := 9) (by decide)]
            refine ⟨q1, ?_⟩
            by_cases hb2 : b = a
            · subst hb2
              rw [if_pos rfl, if_pos rfl, if_pos rfl, if_pos rfl]
              refine ⟨rfl, rfl, q4, q5, ?_, ?_, ?_⟩
              · rw [Int32.lt_iff_toInt_lt] at h2
                have : (0 : Int32).toInt = 0 := by decide
                omega
              · rw [Int32.lt_iff_toInt_lt] at h3; omega
              · rw [Int32.le_iff_toInt_le] at h4'
                have : (1073741824 : Int32).toInt = 1073741824 := by decide
                omega
            · have hne : ¬ par P b = par P a := fun z => hb2 (hinj b a hb ha z)
              rw [if_neg hne, if_neg hne, if_neg hb2, if_neg hb2]
              exact ⟨q2, q3, q4, q5, q6⟩
          refine ⟨.inr ((), _), _, rfl, rfl, fun w hw => (by cases hw), by rw [uA_t hA2]; rfl, P, L, M, Q, H, t, ?_, b5, by omega⟩
          rw [put_id (uA_t hA2)]; exact hA2
  · rw [c1, c2, Option.bind_some, Option.bind_some]
    simp only [tr, st2]
    rw [if_pos trivial]
    exact ⟨.inl (1, S), _, rfl, rfl, fun w hw => (by cases hw; exact Or.inl rfl), by rw [put0]; rfl, thr 1⟩
