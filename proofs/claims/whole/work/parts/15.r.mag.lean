/-! ===== pure part: the reference's magazines ===== -/
theorem mag_ok {F a i d w : Nat} {R : Rst} : rf_magazine F R (nI a) (nI i) (nI d) (nI w) = some (nI (4 * (9 * a + i) + 2 * d + w)) := by
  unfold rf_magazine
  rw [show (4 : Int32) = nI 4 from rfl, show (9 : Int32) = nI 9 from rfl, show (2 : Int32) = nI 2 from rfl, pk_mul, nI_add, pk_mul, pk_mul, nI_add, nI_add]
theorem m3x {m k : Nat} : (3 : Int32) * nI m + nI k = nI (3 * m + k) := by rw [show (3 : Int32) = nI 3 from rfl, pk_mul, nI_add]
theorem d9x {a i : Nat} : (9 : Int32) * nI a + nI i = nI (9 * a + i) := by rw [show (9 : Int32) = nI 9 from rfl, pk_mul, nI_add]
theorem xch_st {F n m m' k : Nat} {R : Rst} (hm : m < 288) (hm' : m' < 288) (hk : k < 3) : rf_exchange_2 F (n + 1) R (nI m) (nI m') (nI k) = rf_exchange_2 F n (rset (rset R 29 (3 * m + k) (R.2 29 (3 * m' + k))) 29 (3 * m' + k) (R.2 29 (3 * m + k))) (nI m) (nI m') (nI (k + 1)) := by
  have h1 : 3 * m + k < rlen 29 := by show _ < 864; omega
  have h2 : 3 * m' + k < rlen 29 := by show _ < 864; omega
  simp only [rf_exchange_2]
  rw [if_neg (show ¬ (3 : Int32) ≤ nI k from nI_ge (b := 3) hk (by omega)), m3x, m3x, rd_n h1, rd_n h2, wr_n h1, wr_n h2, nI_1]
theorem xch_ok {F m m' : Nat} {R : Rst} (hF : 1000 ≤ F) (hm : m < 288) (hm' : m' < 288) (hne : m ≠ m') : ∃ R', rf_exchange F R (nI m) (nI m') = some R' ∧ (∀ k, R'.2 28 k = if k = m then R.2 28 m' else if k = m' then R.2 28 m else R.2 28 k) ∧ (∀ k, R'.2 29 k = if 3 * m ≤ k ∧ k < 3 * m + 3 then R.2 29 (3 * m' + (k - 3 * m)) else if 3 * m' ≤ k ∧ k < 3 * m' + 3 then R.2 29 (3 * m + (k - 3 * m')) else R.2 29 k) ∧ (∀ f, f ≠ 28 → f ≠ 29 → R'.2 f = R.2 f) ∧ R'.1 = R.1 := by
  obtain ⟨n, rfl⟩ : ∃ n, F = n + 1 + 1 + 1 + 1 := ⟨F - 4, by omega⟩
  unfold rf_exchange
  rw [show (0 : Int32) = nI 0 from rfl, xch_st hm hm' (by decide), xch_st hm hm' (by decide), xch_st hm hm' (by decide)]
  generalize hR3 : rset (rset _ 29 (3 * m + (0 + 1 + 1)) _) 29 (3 * m' + (0 + 1 + 1)) _ = R3
  have g29 : ∀ k, R3.2 29 k = if 3 * m ≤ k ∧ k < 3 * m + 3 then R.2 29 (3 * m' + (k - 3 * m)) else if 3 * m' ≤ k ∧ k < 3 * m' + 3 then R.2 29 (3 * m + (k - 3 * m')) else R.2 29 k := by
    intro k
    rw [← hR3]
    simp only [rset_g, true_and]
    by_cases c1 : 3 * m ≤ k ∧ k < 3 * m + 3
    · rw [if_pos c1]
      rcases (by omega : k = 3 * m ∨ k = 3 * m + 1 ∨ k = 3 * m + 2) with rfl | rfl | rfl <;> grind
    · rw [if_neg c1]
      by_cases c2 : 3 * m' ≤ k ∧ k < 3 * m' + 3
      · rw [if_pos c2]
        rcases (by omega : k = 3 * m' ∨ k = 3 * m' + 1 ∨ k = 3 * m' + 2) with rfl | rfl | rfl <;> grind
      · rw [if_neg c2]
        grind
  have gf : ∀ f, f ≠ 29 → R3.2 f = R.2 f := by
    intro f hf
    rw [← hR3, rset_f hf, rset_f hf, rset_f hf, rset_f hf, rset_f hf, rset_f hf]
  have g1 : R3.1 = R.1 := by rw [← hR3]; rfl
  have l1 : m < rlen 28 := hm
  have l2 : m' < rlen 28 := hm'
  simp only [rf_exchange_2]
  rw [if_pos (by decide), rd_n l1, rd_n l2, wr_n l1, wr_n l2]
  refine ⟨_, rfl, fun k => ?_, fun k => ?_, fun f f1 f2 => ?_, g1⟩
  · simp only [rset_g, true_and, gf 28 (by decide)]
    by_cases c1 : k = m
    · subst c1; simp [hne]
    · simp [c1]
  · rw [rset_f (by decide), rset_f (by decide)]; exact g29 k
  · rw [rset_f f1, rset_f f1]; exact gf f f2
/-- the magazines after a step at one desk of one cache -/
theorem uKr_m3 {P : Par} {R R' : Rst} {M : Pil} {H : List (Nat × Int32)} {a i d : Nat} {l s dp l' s' dp' : List Int32} (h : uKr P R (m3 M a i d l s dp) H) (ha : a < 8) (hap : a < pn P) (hi : i ≤ 8) (hd : d < 2)
    (hl : R'.2 28 (4 * (9 * a + i) + 2 * d) = nI l'.length ∧ l'.length ≤ 3 ∧ ∀ j v, l'[j]? = some v → R'.2 29 (3 * (4 * (9 * a + i) + 2 * d) + j) = v)
    (hs : R'.2 28 (4 * (9 * a + i) + 2 * d + 1) = nI s'.length ∧ (s'.length = 0 ∨ s'.length = 3) ∧ ∀ j v, s'[j]? = some v → R'.2 29 (3 * (4 * (9 * a + i) + 2 * d + 1) + j) = v)
    (hdp : ∃ D, D ≤ 4 ∧ dp'.length = 3 * D ∧ R'.2 30 (9 * a + i) = nI D ∧ ∀ m l v, m < D → l < 3 → dp'[3 * m + (2 - l)]? = some v → R'.2 31 (12 * (9 * a + i) + 3 * m + l) = v)
    (f28 : ∀ k, k ≠ 4 * (9 * a + i) + 2 * d → k ≠ 4 * (9 * a + i) + 2 * d + 1 → R'.2 28 k = R.2 28 k) (f29 : ∀ k, ¬ (3 * (4 * (9 * a + i) + 2 * d) ≤ k ∧ k < 3 * (4 * (9 * a + i) + 2 * d) + 6) → R'.2 29 k = R.2 29 k)
    (f30 : ∀ k, k ≠ 9 * a + i → R'.2 30 k = R.2 30 k) (f31 : ∀ k, ¬ (12 * (9 * a + i) ≤ k ∧ k < 12 * (9 * a + i) + 12) → R'.2 31 k = R.2 31 k)
    (fh : R'.1 25 = R.1 25 ∧ R'.2 26 = R.2 26 ∧ R'.2 27 = R.2 27) : uKr P R' (m3 M a i d l' s' dp') H := by
  obtain ⟨h1, h2, h3, h4, h5, h6, h7⟩ := h
  refine ⟨fun a' i' k' ha' hi' hk' => ?_, fun a' i' ha' hi' => ?_, fun a' i' d' hd' => ?_, fun a' i' k' ha' => ?_, by rw [fh.1]; exact h5, h6, by rw [fh.2.1, fh.2.2]; exact h7⟩
  · by_cases c : a' = a ∧ i' = i
    · obtain ⟨rfl, rfl⟩ := c
      by_cases c1 : k' = 2 * d
      · subst c1; rw [m3_gl]; exact hl
      · by_cases c2 : k' = 2 * d + 1
        · subst c2; rw [m3_gs]
          exact ⟨hs.1, by omega, hs.2.2⟩
        · have e1 : ∀ l s dp, m3 M a' i' d l s dp a' i' k' = M a' i' k' := by
            intro l s dp; unfold m3; rw [if_pos ⟨rfl, rfl⟩, if_neg c1, if_neg c2, if_neg (by omega)]
          have q := h1 a' i' k' ha' hi' hk'
          rw [e1] at q ⊢
          rw [f28 _ (by omega) (by omega)]
          refine ⟨q.1, q.2.1, fun j v hj => ?_⟩
          have hj3 := (List.getElem?_eq_some_iff.mp hj).1
          rw [f29 _ (by omega)]
          exact q.2.2 j v hj
    · have e1 : ∀ l s dp, m3 M a i d l s dp a' i' k' = M a' i' k' := by
        intro l s dp; unfold m3; rw [if_neg c]
      have q := h1 a' i' k' ha' hi' hk'
      rw [e1] at q ⊢
      have hne : 9 * a' + i' ≠ 9 * a + i := fun z => c ⟨by omega, by omega⟩
      rw [f28 _ (by omega) (by omega)]
      refine ⟨q.1, q.2.1, fun j v hj => ?_⟩
      have hj3 := (List.getElem?_eq_some_iff.mp hj).1
      rw [f29 _ (by omega)]
      exact q.2.2 j v hj
  · by_cases c : a' = a ∧ i' = i
    · obtain ⟨rfl, rfl⟩ := c
      rw [m3_gd hd]; exact hdp
    · have e1 : ∀ l s dp, m3 M a i d l s dp a' i' 4 = M a' i' 4 := by
        intro l s dp; unfold m3; rw [if_neg c]
      obtain ⟨D, q1, q2, q3, q4⟩ := h2 a' i' ha' hi'
      rw [e1] at q2 q4 ⊢
      have hne : 9 * a' + i' ≠ 9 * a + i := fun z => c ⟨by omega, by omega⟩
      refine ⟨D, q1, q2, by rw [f30 _ hne]; exact q3, fun m l v hm hl' hv => ?_⟩
      rw [f31 _ (by omega)]
      exact q4 m l v hm hl' hv
  · by_cases c : a' = a ∧ i' = i
    · obtain ⟨rfl, rfl⟩ := c
      by_cases c2 : d' = d
      · subst c2; rw [m3_gs]; exact hs.2.1
      · have e1 : ∀ l s dp, m3 M a' i' d l s dp a' i' (2 * d' + 1) = M a' i' (2 * d' + 1) := by
          intro l s dp; unfold m3; rw [if_pos ⟨rfl, rfl⟩, if_neg (by omega), if_neg (by omega), if_neg (by omega)]
        have q := h3 a' i' d' hd'
        rw [e1] at q ⊢; exact q
    · have e1 : ∀ l s dp, m3 M a i d l s dp a' i' (2 * d' + 1) = M a' i' (2 * d' + 1) := by
        intro l s dp; unfold m3; rw [if_neg c]
      have q := h3 a' i' d' hd'
      rw [e1] at q ⊢; exact q
  · have c : ¬ (a' = a ∧ i' = i) := fun z => by omega
    have q := h4 a' i' k' ha'
    unfold m3 at q ⊢
    rw [if_neg c] at q ⊢; exact q
theorem uKr_gl {P : Par} {R : Rst} {M : Pil} {H : List (Nat × Int32)} {a i d : Nat} {l s dp : List Int32} (h : uKr P R (m3 M a i d l s dp) H) (ha : a < 8) (hi : i ≤ 8) (hd : d < 2) : (R.2 28 (4 * (9 * a + i) + 2 * d) = nI l.length ∧ l.length ≤ 3 ∧ ∀ j v, l[j]? = some v → R.2 29 (3 * (4 * (9 * a + i) + 2 * d) + j) = v) ∧ (R.2 28 (4 * (9 * a + i) + 2 * d + 1) = nI s.length ∧ (s.length = 0 ∨ s.length = 3) ∧ ∀ j v, s[j]? = some v → R.2 29 (3 * (4 * (9 * a + i) + 2 * d + 1) + j) = v) ∧ ∃ D, D ≤ 4 ∧ dp.length = 3 * D ∧ R.2 30 (9 * a + i) = nI D ∧ ∀ m l v, m < D → l < 3 → dp[3 * m + (2 - l)]? = some v → R.2 31 (12 * (9 * a + i) + 3 * m + l) = v := by
  obtain ⟨h1, h2, h3, h4, h5, h6, h7⟩ := h
  have q1 := h1 a i (2 * d) ha hi (by omega)
  have q2 := h1 a i (2 * d + 1) ha hi (by omega)
  have q3 := h3 a i d hd
  have q4 := h2 a i ha hi
  rw [m3_gl] at q1
  rw [m3_gs] at q2 q3
  rw [m3_gd hd] at q4
  exact ⟨q1, ⟨q2.1, q3, q2.2.2⟩, q4⟩
theorem rxch {F : Nat} {P : Par} {R : Rst} {M : Pil} {H : List (Nat × Int32)} {a i d : Nat} {l s dp : List Int32} (hF : 1000 ≤ F) (h : uKr P R (m3 M a i d l s dp) H) (ha : a < 8) (hap : a < pn P) (hi : i ≤ 8) (hd : d < 2) (hl : l.length = 0 ∨ l.length = 3) : ∃ R', rf_exchange F R (nI (4 * (9 * a + i) + 2 * d)) (nI (4 * (9 * a + i) + 2 * d + 1)) = some R' ∧ uKr P R' (m3 M a i d s l dp) H ∧ uCR R R' := by
  obtain ⟨⟨l1, l2, l3⟩, ⟨s1, s2, s3⟩, D, d1, d2, d3, d4⟩ := uKr_gl h ha hi hd
  obtain ⟨R', r1, r2, r3, r4, r5⟩ := xch_ok (F := F) (R := R) (m := 4 * (9 * a + i) + 2 * d) (m' := 4 * (9 * a + i) + 2 * d + 1) hF (by omega) (by omega) (by omega)
  refine ⟨R', r1, uKr_m3 h ha hap hi hd ⟨?_, by omega, fun j v hj => ?_⟩ ⟨?_, hl, fun j v hj => ?_⟩ ⟨D, d1, d2, by rw [r4 30 (by decide) (by decide)]; exact d3, by rw [r4 31 (by decide) (by decide)]; exact d4⟩ (fun k k1 k2 => by rw [r2, if_neg k1, if_neg k2]) (fun k hk => by rw [r3, if_neg (by omega), if_neg (by omega)]) (fun k _ => by rw [r4 30 (by decide) (by decide)]) (fun k _ => by rw [r4 31 (by decide) (by decide)]) ⟨by rw [r5], r4 26 (by decide) (by decide), r4 27 (by decide) (by decide)⟩, ⟨fun j _ => by rw [r5], fun f hf => r4 f (by omega) (by omega)⟩⟩
  · rw [r2, if_pos rfl]; exact s1
  · have := (List.getElem?_eq_some_iff.mp hj).1
    rw [r3, if_pos (by omega), show 3 * (4 * (9 * a + i) + 2 * d) + j - 3 * (4 * (9 * a + i) + 2 * d) = j by omega]; exact s3 j v hj
  · rw [r2, if_neg (by omega), if_pos rfl]; exact l1
  · have := (List.getElem?_eq_some_iff.mp hj).1
    rw [r3, if_neg (by omega), if_pos (by omega), show 3 * (4 * (9 * a + i) + 2 * d + 1) + j - 3 * (4 * (9 * a + i) + 2 * d + 1) = j by omega]; exact l3 j v hj
theorem uCR_set {R : Rst} {f k : Nat} {v : Int32} (h1 : 26 ≤ f) (h2 : f ≤ 31) : uCR R (rset R f k v) := ⟨fun _ _ => rfl, fun f' h => rset_f (fun z => h ⟨by omega, by omega⟩)⟩
/-- the top of LOADED goes -/
theorem rpop {P : Par} {R : Rst} {M : Pil} {H : List (Nat × Int32)} {a i d : Nat} {l s dp : List Int32} {b : Int32} (h : uKr P R (m3 M a i d (l ++ [b]) s dp) H) (ha : a < 8) (hap : a < pn P) (hi : i ≤ 8) (hd : d < 2) : uKr P (rset R 28 (4 * (9 * a + i) + 2 * d) (nI l.length)) (m3 M a i d l s dp) H := by
  obtain ⟨⟨l1, l2, l3⟩, ⟨s1, s2, s3⟩, hD⟩ := uKr_gl h ha hi hd
  simp at l2
  refine uKr_m3 h ha hap hi hd ⟨by rw [rset_g, if_pos ⟨rfl, rfl⟩], by omega, fun j v hj => ?_⟩ ⟨by rw [rset_g, if_neg (by omega)]; exact s1, s2, by rw [rset_f (by decide)]; exact s3⟩ (by rw [rset_f (by decide), rset_f (by decide)]; exact hD) (fun k k1 k2 => by rw [rset_g, if_neg (fun z => k1 z.2)]) (fun k hk => by rw [rset_f (by decide)]) (fun k _ => by rw [rset_f (by decide)]) (fun k _ => by rw [rset_f (by decide)]) ⟨rfl, rset_f (by decide), rset_f (by decide)⟩
  rw [rset_f (by decide)]
  refine l3 j v ?_
  rw [List.getElem?_append_left (List.getElem?_eq_some_iff.mp hj).1]; exact hj
/-- one more on LOADED -/
theorem rpush {P : Par} {R : Rst} {M : Pil} {H : List (Nat × Int32)} {a i d : Nat} {l s dp : List Int32} {b : Int32} (h : uKr P R (m3 M a i d l s dp) H) (ha : a < 8) (hap : a < pn P) (hi : i ≤ 8) (hd : d < 2) (hl : l.length < 3) : uKr P (rset (rset R 29 (3 * (4 * (9 * a + i) + 2 * d) + l.length) b) 28 (4 * (9 * a + i) + 2 * d) (nI (l.length + 1))) (m3 M a i d (l ++ [b]) s dp) H := by
  obtain ⟨⟨l1, l2, l3⟩, ⟨s1, s2, s3⟩, hD⟩ := uKr_gl h ha hi hd
  refine uKr_m3 h ha hap hi hd ⟨by rw [rset_g, if_pos ⟨rfl, rfl⟩]; simp, by simp; omega, fun j v hj => ?_⟩ ⟨by rw [rset_g, if_neg (by omega), rset_f (by decide)]; exact s1, s2, fun j v hj => by rw [rset_f (by decide), rset_g, if_neg (by omega)]; exact s3 j v hj⟩ (by rw [rset_f (by decide), rset_f (by decide), rset_f (by decide), rset_f (by decide)]; exact hD) (fun k k1 k2 => by rw [rset_g, if_neg (fun z => k1 z.2), rset_f (by decide)]) (fun k hk => by rw [rset_f (by decide), rset_g, if_neg (by omega)]) (fun k _ => by rw [rset_f (by decide), rset_f (by decide)]) (fun k _ => by rw [rset_f (by decide), rset_f (by decide)]) ⟨rfl, by rw [rset_f (by decide), rset_f (by decide)], by rw [rset_f (by decide), rset_f (by decide)]⟩
  rw [rset_f (by decide), rset_g]
  by_cases hjl : j = l.length
  · subst hjl
    rw [if_pos ⟨rfl, rfl⟩]
    simpa using hj
  · rw [if_neg (fun z => hjl (by omega))]
    have hlt : j < l.length := by
      have := (List.getElem?_eq_some_iff.mp hj).1
      simp at this; omega
    rw [List.getElem?_append_left hlt] at hj
    exact l3 j v hj
/-- the DEPOT's top becomes LOADED -/
theorem o96_st {F n a i m dd D k : Nat} {R : Rst} (hm : m < 288) (hdd : dd < 72) (hD : D < 4) (h30 : R.2 30 dd = nI D) (hk : k < 3) : rf_out_96 F (n + 1) R (nI a) (nI i) (nI m) (nI dd) (nI k) = rf_out_96 F n (rset R 29 (3 * m + k) (R.2 31 (12 * dd + 3 * D + k))) (nI a) (nI i) (nI m) (nI dd) (nI (k + 1)) := by
  have h1 : 3 * m + k < rlen 29 := by show _ < 864; omega
  have h2 : 12 * dd + 3 * D + k < rlen 31 := by show _ < 864; omega
  have h3 : dd < rlen 30 := hdd
  simp only [rf_out_96]
  rw [if_neg (show ¬ (3 : Int32) ≤ nI k from nI_ge (b := 3) hk (by omega)), rd_n h3, h30, m3x, show (12 : Int32) * nI dd + 3 * nI D + nI k = nI (12 * dd + 3 * D + k) by rw [show (12 : Int32) = nI 12 from rfl, show (3 : Int32) = nI 3 from rfl, pk_mul, pk_mul, nI_add, nI_add], rd_n h2, wr_n h1, nI_1]
theorem rdep {F : Nat} {P : Par} {R : Rst} {M : Pil} {H : List (Nat × Int32)} {a i d : Nat} {dp : List Int32} {u v w : Int32} (hF : 1000 ≤ F) (h : uKr P R (m3 M a i d [] [] (dp ++ [u, v, w])) H) (ha : a < 8) (hap : a < pn P) (hi : i ≤ 8) (hd : d < 2) :
    ∃ R', rf_out_96 F F (rset R 30 (9 * a + i) (R.2 30 (9 * a + i) - 1)) (nI a) (nI i) (nI (4 * (9 * a + i) + 2 * d)) (nI (9 * a + i)) 0 = rf_out_151 F R' (nI a) (nI i) (nI (4 * (9 * a + i) + 2 * d)) ∧ uKr P R' (m3 M a i d [w, v, u] [] dp) H ∧ uCR R R' := by
  obtain ⟨⟨l1, l2, l3⟩, ⟨s1, s2, s3⟩, D, d1, d2, d3, d4⟩ := uKr_gl h ha hi hd
  simp at d2
  obtain ⟨E, rfl⟩ : ∃ E, D = E + 1 := ⟨D - 1, by omega⟩
  rw [d3, nI_pred]
  obtain ⟨n, hn⟩ : ∃ n, F = n + 1 + 1 + 1 + 1 := ⟨F - 4, by omega⟩
  generalize hR1 : rset R 30 (9 * a + i) (nI E) = R1
  have x30 : ∀ k, R1.2 30 k = if k = 9 * a + i then nI E else R.2 30 k := fun k => by rw [← hR1, rset_g]; simp
  have xf : ∀ f, f ≠ 30 → R1.2 f = R.2 f := fun f hf => by rw [← hR1, rset_f hf]
  have x1 : R1.1 = R.1 := by rw [← hR1]; rfl
  have hm : 4 * (9 * a + i) + 2 * d < 288 := by omega
  have hdd : 9 * a + i < 72 := by omega
  have e30 : R1.2 30 (9 * a + i) = nI E := by rw [x30, if_pos rfl]
  have st : rf_out_96 F F R1 (nI a) (nI i) (nI (4 * (9 * a + i) + 2 * d)) (nI (9 * a + i)) 0 = rf_out_96 F (n + 1) (rset (rset (rset R1 29 (3 * (4 * (9 * a + i) + 2 * d) + 0) (R.2 31 (12 * (9 * a + i) + 3 * E + 0))) 29 (3 * (4 * (9 * a + i) + 2 * d) + 1) (R.2 31 (12 * (9 * a + i) + 3 * E + 1))) 29 (3 * (4 * (9 * a + i) + 2 * d) + 2) (R.2 31 (12 * (9 * a + i) + 3 * E + 2))) (nI a) (nI i) (nI (4 * (9 * a + i) + 2 * d)) (nI (9 * a + i)) (nI 3) := by
    have q := o96_st (F := F) (n := n + 1 + 1 + 1) (a := a) (i := i) (k := 0) (R := R1) hm hdd (by omega) e30 (by decide)
    rw [← hn, nI_0] at q
    rw [q, xf 31 (by decide)]
    rw [o96_st (D := E) (k := 0 + 1) hm hdd (by omega) (by rw [rset_f (by decide)]; exact e30) (by decide), rset_f (by decide), xf 31 (by decide)]
    rw [o96_st (D := E) (k := 0 + 1 + 1) hm hdd (by omega) (by rw [rset_f (by decide), rset_f (by decide)]; exact e30) (by decide), rset_f (by decide), rset_f (by decide), xf 31 (by decide)]
  rw [st]
  simp only [rf_out_96]
  rw [if_pos (by decide), wr_n (f := 28) (show 4 * (9 * a + i) + 2 * d < rlen 28 from hm)]
  refine ⟨_, rfl, ?_, ?_⟩
  · have hE0 : dp.length = 3 * E := by omega
    have gw : ∀ (k : Nat) (z : Int32), k < 3 → (dp ++ [u, v, w])[3 * E + (2 - k)]? = some z → R.2 31 (12 * (9 * a + i) + 3 * E + k) = z := fun k z hk hz => d4 E k z (by omega) hk hz
    have w0 : R.2 31 (12 * (9 * a + i) + 3 * E + 0) = w := gw 0 w (by decide) (by rw [List.getElem?_append_right (by omega), hE0]; simp)
    have w1 : R.2 31 (12 * (9 * a + i) + 3 * E + 1) = v := gw 1 v (by decide) (by rw [List.getElem?_append_right (by omega), hE0]; simp)
    have w2 : R.2 31 (12 * (9 * a + i) + 3 * E + 2) = u := gw 2 u (by decide) (by rw [List.getElem?_append_right (by omega), hE0]; simp)
    rw [w0, w1, w2]
    refine uKr_m3 h ha hap hi hd ⟨by rw [rset_g, if_pos ⟨rfl, rfl⟩]; rfl, by simp, fun j z hj => ?_⟩ ⟨?_, Or.inl rfl, fun j z hj => by simp at hj⟩ ⟨E, by omega, hE0, ?_, fun m l z hm hl hz => ?_⟩ (fun k k1 k2 => ?_) (fun k hk => ?_) (fun k hk => ?_) (fun k _ => ?_) ⟨?_, ?_, ?_⟩
    · rw [rset_f (by decide)]
      simp only [rset_g, true_and]
      have hj3 := (List.getElem?_eq_some_iff.mp hj).1
      simp at hj3
      rcases (by omega : j = 0 ∨ j = 1 ∨ j = 2) with rfl | rfl | rfl
      · simp at hj ⊢; exact hj
      · simp at hj ⊢; exact hj
      · simp at hj ⊢; exact hj
    · rw [rset_g, if_neg (by omega), rset_f (by decide), rset_f (by decide), rset_f (by decide), xf 28 (by decide)]; exact s1
    · rw [rset_f (by decide), rset_f (by decide), rset_f (by decide), rset_f (by decide)]; exact e30
    · rw [rset_f (by decide), rset_f (by decide), rset_f (by decide), rset_f (by decide), xf 31 (by decide)]
      refine d4 m l z (by omega) hl ?_
      rw [List.getElem?_append_left (List.getElem?_eq_some_iff.mp hz).1]; exact hz
    · rw [rset_g, if_neg (fun z => k1 z.2), rset_f (by decide), rset_f (by decide), rset_f (by decide), xf 28 (by decide)]
    · rw [rset_f (by decide)]
      simp only [rset_g, true_and]
      rw [if_neg (by omega), if_neg (by omega), if_neg (by omega), xf 29 (by decide)]
    · rw [rset_f (by decide), rset_f (by decide), rset_f (by decide), rset_f (by decide), x30, if_neg hk]
    · rw [rset_f (by decide), rset_f (by decide), rset_f (by decide), rset_f (by decide), xf 31 (by decide)]
    · show R1.1 25 = _; rw [x1]
    · rw [rset_f (by decide), rset_f (by decide), rset_f (by decide), rset_f (by decide), xf 26 (by decide)]
    · rw [rset_f (by decide), rset_f (by decide), rset_f (by decide), rset_f (by decide), xf 27 (by decide)]
  · rw [← hR1]
    exact (((uCR_set (by decide) (by decide)).tr (uCR_set (by decide) (by decide))).tr ((uCR_set (by decide) (by decide)).tr (uCR_set (by decide) (by decide)))).tr (uCR_set (by decide) (by decide))
