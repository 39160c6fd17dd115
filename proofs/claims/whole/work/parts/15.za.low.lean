/-! ===== pure part: objects that lie in slabs ===== -/
theorem in35 {F : Nat} {P : Par} {R : Rst} {M : Pil} {H : List (Nat × Int32)} {a i k : Nat} {b : Int32} {kk : Int32 → Int32 → Int32 → Int32 → Option Int32} (h : uKr P R M H) (ha : a < 8) (hi : i ≤ 8) (hk : k < 4) : ∀ (B' A' : List Int32) (n : Nat), M a i k = A' ++ B' → B'.length < n → rf_isIn_35 F kk R n (nI a) (nI i) b (nI (4 * (9 * a + i) + k)) (nI A'.length) = if b ∈ B' then some 0 else kk (nI a) (nI i) b (nI (4 * (9 * a + i) + k) + 1) := by
  obtain ⟨m1, m2, m3⟩ := h.1 a i k ha hi hk
  have hm : 4 * (9 * a + i) + k < rlen 28 := by show _ < 288; omega
  intro B'
  induction B' with
  | nil =>
    intro A' n hM hn
    obtain ⟨n, rfl⟩ : ∃ m, n = m + 1 := ⟨n - 1, by simp at hn; omega⟩
    rw [List.append_nil] at hM
    simp only [rf_isIn_35]
    rw [rd_n hm, m1, hM, if_pos (nI_le (Nat.le_refl _) (by rw [hM] at m2; omega)), if_neg (by simp)]
  | cons v B' ih =>
    intro A' n hM hn
    obtain ⟨n, rfl⟩ : ∃ m, n = m + 1 := ⟨n - 1, by simp at hn; omega⟩
    have hl : A'.length < (M a i k).length := by rw [hM]; simp
    have hr := ih (A' ++ [v]) n (by rw [hM]; simp) (by simp at hn; omega)
    have e1 : nI (A' ++ [v]).length = nI A'.length + 1 := by rw [nI_1]; simp
    rw [e1] at hr
    have hg := m3 A'.length v (by rw [hM]; simp)
    simp only [rf_isIn_35]
    rw [rd_n hm, m1, if_neg (nI_ge hl (by omega)), m3x, rd_n (f := 29) (show 3 * (4 * (9 * a + i) + k) + A'.length < rlen 29 by show _ < 864; omega), hg]
    by_cases q : v = b
    · rw [if_pos q, if_pos (by rw [q]; exact List.mem_cons_self)]
    · rw [if_neg q, hr]
      have : (b ∈ v :: B') ↔ b ∈ B' := by rw [List.mem_cons]; exact ⟨fun z => z.elim (fun w => absurd w.symm q) id, Or.inr⟩
      simp only [this]
theorem in88 {F dd D : Nat} {R : Rst} {b : Int32} (hdd : dd < 72) (hD : D ≤ 4) (h30 : R.2 30 dd = nI D) : ∀ d k n, k + d = 3 * D → d < n → ((∀ k', k ≤ k' → k' < 3 * D → R.2 31 (12 * dd + k') ≠ b) → rf_isIn_88 F R n b (nI dd) (nI k) = some 1) ∧ ((∃ k', k ≤ k' ∧ k' < 3 * D ∧ R.2 31 (12 * dd + k') = b) → rf_isIn_88 F R n b (nI dd) (nI k) = some 0) := by
  intro d
  induction d with
  | zero =>
    intro k n hk hn
    obtain ⟨n, rfl⟩ : ∃ m, n = m + 1 := ⟨n - 1, by omega⟩
    simp only [rf_isIn_88]
    rw [rd_n (f := 30) (show dd < rlen 30 from hdd), h30, show (3 : Int32) * nI D = nI (3 * D) by rw [show (3 : Int32) = nI 3 from rfl, pk_mul], if_pos (nI_le (by omega) (by omega))]
    exact ⟨fun _ => rfl, fun ⟨k', z1, z2, _⟩ => by omega⟩
  | succ d ih =>
    intro k n hk hn
    obtain ⟨n, rfl⟩ : ∃ m, n = m + 1 := ⟨n - 1, by omega⟩
    obtain ⟨i1, i2⟩ := ih (k + 1) n (by omega) (by omega)
    simp only [rf_isIn_88]
    rw [rd_n (f := 30) (show dd < rlen 30 from hdd), h30, show (3 : Int32) * nI D = nI (3 * D) by rw [show (3 : Int32) = nI 3 from rfl, pk_mul], if_neg (nI_ge (by omega) (by omega)), show (12 : Int32) * nI dd + nI k = nI (12 * dd + k) by rw [show (12 : Int32) = nI 12 from rfl, pk_mul, nI_add], rd_n (f := 31) (show 12 * dd + k < rlen 31 by show _ < 864; omega), nI_1]
    by_cases q : R.2 31 (12 * dd + k) = b
    · rw [if_pos q]
      exact ⟨fun z => absurd q (z k (Nat.le_refl _) (by omega)), fun _ => rfl⟩
    · rw [if_neg q]
      refine ⟨fun z => i1 (fun k' z1 z2 => z k' (by omega) z2), fun ⟨k', z1, z2, z3⟩ => i2 ⟨k', ?_, z2, z3⟩⟩
      by_cases w : k' = k
      · subst w; exact absurd z3 q
      · omega
theorem dep_mem {P : Par} {R : Rst} {M : Pil} {H : List (Nat × Int32)} {a i : Nat} {b : Int32} (h : uKr P R M H) (ha : a < 8) (hi : i ≤ 8) : ∃ D, D ≤ 4 ∧ R.2 30 (9 * a + i) = nI D ∧ (b ∈ M a i 4 ↔ ∃ k', 0 ≤ k' ∧ k' < 3 * D ∧ R.2 31 (12 * (9 * a + i) + k') = b) := by
  obtain ⟨D, d1, d2, d3, d4⟩ := h.2.1 a i ha hi
  refine ⟨D, d1, d3, ?_⟩
  constructor
  · intro hb
    obtain ⟨p, hp⟩ := List.mem_iff_getElem?.mp hb
    have hp2 := (List.getElem?_eq_some_iff.mp hp).1
    have := d4 (p / 3) (2 - p % 3) b (by omega) (by omega) (by rw [show 3 * (p / 3) + (2 - (2 - p % 3)) = p by omega]; exact hp)
    exact ⟨3 * (p / 3) + (2 - p % 3), by omega, by omega, by rw [← Nat.add_assoc]; exact this⟩
  · rintro ⟨k', _, z2, z3⟩
    have hlt : 3 * (k' / 3) + (2 - k' % 3) < (M a i 4).length := by omega
    have hg := List.getElem?_eq_getElem hlt
    have := d4 (k' / 3) (k' % 3) _ (by omega) (by omega) hg
    rw [show 12 * (9 * a + i) + 3 * (k' / 3) + k' % 3 = 12 * (9 * a + i) + k' by omega, z3] at this
    rw [this]
    exact List.getElem_mem hlt
theorem isIn_ok {F : Nat} {P : Par} {R : Rst} {M : Pil} {H : List (Nat × Int32)} {a i : Nat} {b : Int32} (hF : 1000 ≤ F) (h : uKr P R M H) (h8 : ∀ p ∈ H, p.1 < 8) (ha : a < 8) (hi : i ≤ 8) : rf_isIn F R (nI a) (nI i) b = some (if (a, b) ∉ H ∧ b ∉ fl M a i then 1 else 0) := by
  obtain ⟨n, hn⟩ : ∃ n, F = n + 1 + 1 + 1 + 1 + 1 := ⟨F - 5, by omega⟩
  unfold rf_isIn
  rw [held_ok hF h h8 ha, Option.bind_some]
  by_cases hh : (a, b) ∈ H
  · rw [if_pos hh, if_neg (show ¬ (1 : Int32) = 0 by decide), if_neg (fun z => z.1 hh)]
  · rw [if_neg hh, if_pos rfl]
    have mg : rf_magazine F R (nI a) (nI i) 0 0 = some (nI (4 * (9 * a + i) + 0)) := mag_ok (d := 0) (w := 0)
    rw [mg, Option.bind_some]
    have mg2 : rf_magazine F R (nI a) (nI i) 1 1 = some (nI (4 * (9 * a + i) + 2 * 1 + 1)) := mag_ok (d := 1) (w := 1)
    have st : ∀ k m, k < 4 → rf_isIn_20 F R (m + 1) (nI a) (nI i) b (nI (4 * (9 * a + i) + k)) = if b ∈ M a i k then some 0 else rf_isIn_20 F R m (nI a) (nI i) b (nI (4 * (9 * a + i) + (k + 1))) := by
      intro k m hk
      simp only [rf_isIn_20]
      rw [mg2, Option.bind_some, if_neg (nI_nlt (by omega) (by omega))]
      have := in35 (F := F) (b := b) (kk := rf_isIn_20 F R m) h ha hi hk (M a i k) [] F rfl (by have := (h.1 a i k ha hi hk).2.1; omega)
      have e0 : nI ([] : List Int32).length = 0 := rfl
      rw [e0] at this
      rw [this, nI_1, Nat.add_assoc]
    have en : ∀ m, rf_isIn_20 F R (m + 1) (nI a) (nI i) b (nI (4 * (9 * a + i) + 4)) = if b ∈ M a i 4 then some 0 else some 1 := by
      intro m
      simp only [rf_isIn_20]
      rw [mg2, Option.bind_some, if_pos (nI_lt (by omega) (by omega)), d9x]
      obtain ⟨D, d1, d2, d3⟩ := dep_mem (b := b) h ha hi
      obtain ⟨i1, i2⟩ := in88 (F := F) (R := R) (b := b) (show 9 * a + i < 72 by omega) d1 d2 (3 * D) 0 F (by omega) (by omega)
      rw [nI_0] at i1 i2
      by_cases q : b ∈ M a i 4
      · rw [if_pos q]; exact i2 (d3.mp q)
      · rw [if_neg q]; exact i1 (fun k' z1 z2 z3 => q (d3.mpr ⟨k', z1, z2, z3⟩))
    rw [show rf_isIn_20 F R F = rf_isIn_20 F R (n + 1 + 1 + 1 + 1 + 1) by rw [← hn], st 0 _ (by decide)]
    by_cases q0 : b ∈ M a i 0
    · rw [if_pos q0, if_neg (fun z => z.2 (fl_mem (k := 0) (by decide) q0))]
    · rw [if_neg q0, st (0 + 1) _ (by decide)]
      by_cases q1 : b ∈ M a i 1
      · rw [if_pos q1, if_neg (fun z => z.2 (fl_mem (k := 1) (by decide) q1))]
      · rw [if_neg q1, st (0 + 1 + 1) _ (by decide)]
        by_cases q2 : b ∈ M a i 2
        · rw [if_pos q2, if_neg (fun z => z.2 (fl_mem (k := 2) (by decide) q2))]
        · rw [if_neg q2, st (0 + 1 + 1 + 1) _ (by decide)]
          by_cases q3 : b ∈ M a i 3
          · rw [if_pos q3, if_neg (fun z => z.2 (fl_mem (k := 3) (by decide) q3))]
          · rw [if_neg q3, en]
            by_cases q4 : b ∈ M a i 4
            · rw [if_pos q4, if_neg (fun z => z.2 (fl_mem (k := 4) (by decide) q4))]
            · rw [if_neg q4, if_pos]
              refine ⟨hh, ?_⟩
              unfold fl
              simp [q0, q1, q2, q3, q4]
def ly (P : Par) (M : Pil) (H : List (Nat × Int32)) (a i : Nat) (e : En) (j : Nat) : Prop := (a, ob P a i e j) ∉ H ∧ ob P a i e j ∉ fl M a i
theorem oby {P : Par} {a i j : Nat} {e : En} : eB e + (nI j * nI (osz P a i)) = ob P a i e j := by unfold ob; rw [pk_mul]
theorem low38 {F : Nat} {P : Par} {R : Rst} {M : Pil} {H : List (Nat × Int32)} {A B : List En} {a i : Nat} {e : En} {kk : Int32 → Int32 → Int32 → Int32 → Option Int32} (hF : 1000 ≤ F) (hR : uStR P R) (h : uKr P R M H) (h8 : ∀ p ∈ H, p.1 < 8) (hv : vd P a i) (hRL : uRL R (A ++ e :: B)) : ∀ d j n, j + d = onm P a i → d < n → ((∀ j', j ≤ j' → j' < onm P a i → ¬ ly P M H a i e j') → rf_lowest_38 F kk R n (nI a) (nI i) (nI (osz P a i)) (nI A.length) (nI j) = kk (nI a) (nI i) (nI (osz P a i)) (nI A.length + 1)) ∧ (∀ j0, j ≤ j0 → j0 < onm P a i → ly P M H a i e j0 → (∀ j', j ≤ j' → j' < j0 → ¬ ly P M H a i e j') → rf_lowest_38 F kk R n (nI a) (nI i) (nI (osz P a i)) (nI A.length) (nI j) = some (ob P a i e j0)) := by
  have ha8 : a < 8 := by have := hR.1; have := hv.1; omega
  have hn8 := sl_num hR hv
  obtain ⟨k1, k2, g1, g2, g3, g4, g5, g6, g7⟩ := uRL_g hRL (k := A.length) (e := e) get_mid
  intro d
  induction d with
  | zero =>
    intro j n hj hn
    obtain ⟨n, rfl⟩ : ∃ m, n = m + 1 := ⟨n - 1, by omega⟩
    simp only [rf_lowest_38]
    rw [onm_ok hF hR hv, Option.bind_some, if_pos (nI_le (by omega) (by omega))]
    exact ⟨fun _ => rfl, fun j0 z1 z2 => by omega⟩
  | succ d ih =>
    intro j n hj hn
    obtain ⟨n, rfl⟩ : ∃ m, n = m + 1 := ⟨n - 1, by omega⟩
    obtain ⟨i1, i2⟩ := ih (j + 1) n (by omega) (by omega)
    simp only [rf_lowest_38]
    rw [onm_ok hF hR hv, Option.bind_some, if_neg (nI_ge (by omega) (by omega)), rd_n (f := 12) k2, g2, oby, isIn_ok hF h h8 ha8 hn8.2.2.2.2.2.2, Option.bind_some, nI_1 j]
    by_cases q : ly P M H a i e j
    · rw [if_pos (show (a, ob P a i e j) ∉ H ∧ ob P a i e j ∉ fl M a i from q), if_neg (show ¬ (1 : Int32) = 0 by decide), rd_n (f := 12) k2, g2, oby]
      refine ⟨fun z => absurd q (z j (Nat.le_refl _) (by omega)), fun j0 z1 z2 z3 z4 => ?_⟩
      by_cases w : j0 = j
      · rw [w]
      · exact absurd q (z4 j (Nat.le_refl _) (by omega))
    · rw [if_neg (show ¬ ((a, ob P a i e j) ∉ H ∧ ob P a i e j ∉ fl M a i) from q), if_pos rfl]
      refine ⟨fun z => i1 (fun j' z1 z2 => z j' (by omega) z2), fun j0 z1 z2 z3 z4 => i2 j0 ?_ z2 z3 (fun j' w1 w2 => z4 j' (by omega) w2)⟩
      by_cases w : j0 = j
      · subst w; exact absurd z3 q
      · omega
def uLw (P : Par) (L : List En) (M : Pil) (H : List (Nat × Int32)) (a i : Nat) (r : Int32) (q : Option Nat) : Prop := (r = -1 ∧ q = none) ∨ ∃ e j, isSl P L a i e ∧ j < onm P a i ∧ ly P M H a i e j ∧ (∀ j', j' < j → ¬ ly P M H a i e j') ∧ r = ob P a i e j ∧ q = some e.1
theorem low_lp {F : Nat} {P : Par} {x : Nat} {S : Cst} {R : Rst} {L : List En} {M : Pil} {Q : Pad} {H : List (Nat × Int32)} {t a i : Nat} (hF : 1000 ≤ F) (hA : uA P x S R L M Q H t) (hv : vd P a i) : ∀ (B A : List En) (n n' : Nat) (pr : Option Nat), L = A ++ B → usg S pr (uad (uOf a B)) none → B.length < n → (uOf a B).length < n' →
    ∃ r q, rf_lowest_12 F R n (nI a) (nI i) (nI (osz P a i)) (nI A.length) = some r ∧ cf_X0_slabWithLying_5 F (par P a) S n' (some (pca P a i)) (uhd (uad (uOf a B)) none) = some q ∧ uLw P L M H a i r q := by
  have hW := hA.w
  obtain ⟨hR, hS, hD, hG, hK, hr⟩ := hA
  have h8 := H8 hR hK.2.2
  have hn8 := sl_num hR hv
  intro B
  induction B with
  | nil =>
    intro A n n' pr hL hc hn hn'
    obtain ⟨n, rfl⟩ : ∃ m, n = m + 1 := ⟨n - 1, by simp at hn; omega⟩
    obtain ⟨n', rfl⟩ : ∃ m, n' = m + 1 := ⟨n' - 1, by simp [uOf] at hn'; omega⟩
    rw [List.append_nil] at hL
    refine ⟨-1, none, ?_, rfl, Or.inl ⟨rfl, rfl⟩⟩
    simp only [rf_lowest_12]
    rw [if_pos (wk_nil (by rw [← hL]; exact hG.2.2.1))]
  | cons e B ih =>
    intro A n n' pr hL hc hn hn'
    obtain ⟨n, rfl⟩ : ∃ m, n = m + 1 := ⟨n - 1, by simp at hn; omega⟩
    have hRL := hG.2.2.1
    have hLs := hG.1
    rw [hL] at hRL hLs
    have hL' : L = (A ++ [e]) ++ B := by rw [hL]; simp
    have hn1 : B.length < n := by simp at hn; omega
    simp only [rf_lowest_12]
    rw [if_neg (wk_cons hRL), rslab hR hLs hRL hv, Option.bind_some]
    by_cases ha : eA e = nI a
    · rw [uOf_y ha] at hc hn' ⊢
      obtain ⟨n', rfl⟩ : ∃ m, n' = m + 1 := ⟨n' - 1, by simp at hn'; omega⟩
      have hn2 : (uOf a B).length < n' := by simp at hn'; omega
      rw [uad_c] at hc ⊢
      obtain ⟨c1, c2, c3⟩ := hc
      have hk := ih (A ++ [e]) n n' (some e.1) hL' c3 hn1 hn2
      simp only [cf_X0_slabWithLying_5, uhd, ncS, st1]
      rw [cslabW hW hv (by rw [hL]; simp) ha, Option.bind_some, c2]
      by_cases hce : eC e = nI i
      · have hsl : isSl P L a i e := ⟨hv, by rw [hL]; simp, ha, hce⟩
        rw [if_pos (show eA e = nI a ∧ eC e = nI i from ⟨ha, hce⟩), if_neg (show ¬ (1 : Int32) = 0 by decide), if_pos hce, if_neg (show ¬ (1 : Int32) = 0 by decide)]
        obtain ⟨l1, l2⟩ := low38 (F := F) (M := M) (kk := rf_lowest_12 F R n) hF hR hr h8 hv hRL (onm P a i) 0 F (by omega) (by omega)
        rw [nI_0] at l1 l2
        have hb := (hK.2.1 a i e hsl).2.2.2
        by_cases hex : ∃ j, j < onm P a i ∧ ly P M H a i e j
        · obtain ⟨j0, z1, z2⟩ := pk_least _ hex
          refine ⟨ob P a i e j0, some e.1, l2 j0 (Nat.zero_le _) z1.1 z1.2 (fun j' _ w w' => z2 j' w ⟨by omega, w'⟩), ?_, Or.inr ⟨e, j0, hsl, z1.1, z1.2, fun j' w w' => z2 j' w ⟨by omega, w'⟩, rfl, rfl⟩⟩
          rw [if_neg]
          intro z
          have := b_zero.mp z j0 (by omega)
          rw [(hb j0 (by omega)).mpr ⟨z1.1, z1.2⟩] at this
          cases this
        · rw [l1 (fun j' _ w w' => hex ⟨j', w, w'⟩), sn_len (e := e), if_pos]
          · exact hk
          · rw [b_zero]
            intro j hj
            cases hq : bt (gI S 90 e.1) j with
            | false => rfl
            | true =>
              have := (hb j hj).mp hq
              exact absurd ⟨j, this.1, this.2⟩ hex
      · rw [if_neg (show ¬ (eA e = nI a ∧ eC e = nI i) from fun z => hce z.2), if_pos rfl, if_neg hce, if_pos rfl, sn_len (e := e)]
        exact hk
    · rw [if_neg (show ¬ (eA e = nI a ∧ eC e = nI i) from fun z => ha z.1), if_pos rfl, sn_len (e := e)]
      rw [uOf_n ha] at hc hn' ⊢
      exact ih (A ++ [e]) n n' pr hL' hc hn1 hn'
theorem low_ok {F : Nat} {P : Par} {x : Nat} {S : Cst} {R : Rst} {L : List En} {M : Pil} {Q : Pad} {H : List (Nat × Int32)} {t a i : Nat} (hF : 1000 ≤ F) (hA : uA P x S R L M Q H t) (hv : vd P a i) : ∃ r q, rf_lowest F R (nI a) (nI i) = some r ∧ cf_X0_slabWithLying F S (par P a) (some (pca P a i)) = some q ∧ uLw P L M H a i r q := by
  have hc := (hA.2.2.2.1.2.2.2.1.2.2 a hv.1).1
  have := uOf_le (a := a) (L := L)
  have := hA.2.2.2.1.2.2.1.2.1
  have ha8 : a < 8 := by have := hA.1.1; have := hv.1; omega
  obtain ⟨r, q, h1, h2, h3⟩ := low_lp hF hA hv L [] F F none rfl hc.2 (by omega) (by omega)
  refine ⟨r, q, ?_, ?_, h3⟩
  · unfold rf_lowest
    rw [rd_n (f := 2) (show a < rlen 2 from ha8), (hA.1.2.2 a hv.1).2.2.1, pk_mul]
    exact h1
  · unfold cf_X0_slabWithLying
    simp only [st1]
    rw [hc.1]; exact h2
