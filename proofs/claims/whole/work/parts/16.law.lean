
/-! THE CLAIM OUT OF ONE WALK OF THE LAW'S BODY. Your part is whole_start (and what it stands on); all else here is the same for every law, but numbers. -/
def R_law : String := "RangeArenasLaw"
def lw_P (b : Addr) (xs : List Int32) (args : Array Value) (s : State) : Prop := args = #[.ref b] ∧ s.IntsAt b xs ∧ xs.length ≤ 3072 ∧ (Jvm.Cond.and given_1 narrow_1).before args s = true
def lw_Q (_ : Array Value) (s : State) (o : Outcome) (t : State) : Prop := o = .returned (some (.int 1)) ∧ Framed s o t [] 601024 7293033
def lw_Z (below : List Frame) (a : Array Value) (s : State) : State → Prop := fun t => ∃ o, t.status = .running ∧ Ended t below o ∧ lw_Q a s o t
/-- the law's own end, with 1 on the stack, nothing written that was there before, its room as the claim has it -/
theorem lw_ret {p : Program} {l : Launch} {e : Env} {s : State} {m : MethodId} {below : List Frame} {meth : Method} {c : Code} {b : Nat} (hx : p.tables.exec = Jvm.exec) (hb : c.code = code) (hr : meth.sig.returnType = ret) (hlocks : meth.locks = false) {pc : Nat} {H : Heap} {ls : Array Slot} (hdg : decode code pc = .ok (.ireturn, 1)) : W p l e room_1 s m #[Value.ref b] below meth c H [] 601024 7293033 (lw_Z below #[Value.ref b] s) (F0 m pc ls [.int 1]) := by
  intro T hT X
  obtain ⟨fs, hret, hrun, hended, hW, hframe⟩ := X.leave (v := some (.int 1)) (hlocks := hlocks) (fun h => by rw [hr] at h; cases h)
  have hmeth' : T.vm.method? m = some meth := X.method'
  refine ⟨T.setFrames fs, ?_, .returned (some (.int 1)), hrun, hended, rfl, ⟨_, rfl⟩, hW, hframe⟩
  jvm_step X.here [X.here.top, hx, hb, hdg, hmeth', hr, ret, narrow_b1]
  (try refine ⟨rfl, ?_⟩); (try refine ⟨rfl, ?_⟩)
  first | (intro acts; rw [hret _ acts rfl rfl rfl]) | rw [hret _ _ rfl rfl rfl]
  exact Steps.refl _
/-- what holds at the law's entry: the machine, the code, the tables' words (any of lw_tbl by 'hts w (by decide +kernel)'), the script of L ints xs at the cell b, what the Statement gives of the start (any of its parts by flat_of_before) -/
def lw_At (p : Program) (s : State) (m : MethodId) (meth : Method) (c : Code) (b L : Nat) (xs : Nat → Int32) : Prop :=
  p.tables.exec = Jvm.exec ∧ c.code = code ∧ meth.sig.returnType = ret ∧ c.maxLocals = 7 ∧ s.vm.findClass R_law = some m.cls ∧ (∀ w ∈ lw_tbl, w.before #[Value.ref b] s = true) ∧ va_X b L xs s s.heap ∧ b < s.heap.size ∧ meth.locks = false ∧ (Jvm.Cond.and given_1 narrow_1).before #[Value.ref b] s = true
theorem law_in {k L : Nat} (j : Nat) (h : k + 6 ≤ L) (hL : L < 100000) (hj : j < 6) : vp_in (nI k + nI j) L := by
  rw [nI_add]
  exact vp_in_nI (by omega) (by omega)
theorem law_toInt {L : Nat} (hL : L < 100000) : (Int32.ofNat L - 6).toInt = (L : Int) - 6 := by
  have h := pk_sub_toInt (a := L) (b := 6) (by omega) (by omega)
  exact h
theorem law_gt {k L : Nat} (h : L < k + 6) (hL : L < 100000) (hk : k < 100000) : Int32.ofNat L - 6 < nI k := by
  rw [Int32.lt_iff_toInt_lt, law_toInt hL, nI_toInt (by omega)]
  omega
theorem law_le {k L : Nat} (h : ¬ Int32.ofNat L - 6 < nI k) (hL : L < 100000) (hk : k < 100000) : k + 6 ≤ L := by
  rw [Int32.lt_iff_toInt_lt, law_toInt hL, nI_toInt (by omega)] at h
  omega
theorem law_res1 {res : Thr Int32} (h : wk1 res = 0) : ∃ v S9, res = .inr (v, S9) := by
  cases res with
  | inl w => exact absurd h (by show ¬ (1 : Int32) = 0; decide)
  | inr w => exact ⟨w.1, w.2, rfl⟩
theorem law_res2 {res : Thr Int32} (h : wk2 res = 0) : ∃ v S9, res = .inr (v, S9) := by
  cases res with
  | inl w =>
    exfalso
    revert h
    show ¬ (if w.1 = 1 then (1 : Int32) else 2) = 0
    split <;> decide
  | inr w => exact ⟨w.1, w.2, rfl⟩
theorem law_out {res : Thr Int32} {f : Nat → Int64} {v r : Int32} {S9 : Cst} (h : res = .inr (v, S9)) (hv : v = r) : lg_cmp (tO f res 0) r.toInt64 = 0 := by
  subst h
  subst hv
  show lg_cmp (vp_updL f 0 v.toInt64 0) v.toInt64 = 0
  rw [pk_uLs]
  unfold lg_cmp
  rw [if_neg (by intro h; exact absurd h (Int64.lt_irrefl)), if_pos rfl]
set_option maxHeartbeats 20000000 in
set_option maxRecDepth 100000 in
theorem law_loop {p : Program} {e : Env} {s : State} {m : MethodId} {below : List Frame} {meth : Method} {c : Code} (l : Launch) (hl0 : l.stackTraces = false) {b L : Nat} {xs : Nat → Int32} (hL : L ≤ 3072) {D : va_G} {ct : ClassId × ClassId × ClassId} {cZ cJ : ClassId} (F : Nat) (hF : 1000000 ≤ F) (hr : meth.sig.returnType = ret) (hlocks : meth.locks = false) (X : cX p s m #[Value.ref b] c code 7 WS RL D ct) (hKr : va_K D vwCl [(ct.1, .int), (cZ, .boolean)] s) (Z : lZ s.heap.size cJ s) (hX : va_X b L xs s s.heap) (hbl : b < s.heap.size) (x oo u : Nat) (q : Nat → Nat) :
    ∀ (n k cc cs : Nat), L ≤ k + 6 * n + 5 → k ≤ L + 6 → cc + 120 * n ≤ 601024 → cs + 740 * n ≤ 7293033 → ∀ (G : Gam) (S : Cst) (R : Rst) (f : Nat → Int64) (H : Heap) (locs : List Loc) (ls : Array Slot), Sim n x S R → LWd D ct cZ cJ s.heap.size x oo q u G S R f H → va_S (fun a => s.heap.size ≤ a) s.heap H locs → lv_has ls 7 [(0, .ref b), (1, .ref x), (2, .ref oo), (3, .ref u), (4, .int (nI k))] →
      W p l e room_1 s m #[Value.ref b] below meth c H locs cc cs (lw_Z below #[Value.ref b] s) (F0 m 23 ls []) := by
  have hx := X.1.1
  have hb := X.1.2.1
  have hts := X.1.2.2.2.2
  have hbA : ¬ (fun a => s.heap.size ≤ a) b := Nat.not_le.mpr hbl
  intro n
  induction n with
  | zero =>
    intro k cc cs hn hk hcc hcs G S R f H locs ls hsim hW hS hl
    refine lv_iload hx hb dL_law_23 (lv_at hl 4 rfl) ?_
    refine lv_aload_n hx hb dL_law_25 rfl (lv_at hl 0 rfl) ?_
    refine va_slen hx hb hX hbl hbA hS dL_law_26 ?_
    refine lv_bipush (v := 6) hx hb dL_law_27 (by decide) ?_
    refine lv_isub hx hb dL_law_29 ?_
    refine lv_icmp_gt (tgt := 1067) hx hb dL_law_30 (by decide) (fun hc => ?_) (fun hc => ?_)
    · refine lv_iconst (v := 1) hx hb dL_law_1067 (by decide) ?_
      refine va_forget (fun z hz => hS.2.2 z hz) ?_
      refine W.widen (k := 601024) (n := 7293033) (by omega) (by omega) ?_
      exact lw_ret hx hb hr hlocks dL_law_1068
    · exact absurd (law_gt (by omega) (by omega) (by omega)) hc
  | succ n ih =>
    intro k cc cs hn hk hcc hcs G S R f H locs ls hsim hW hS hl
    refine lv_iload hx hb dL_law_23 (lv_at hl 4 rfl) ?_
    refine lv_aload_n hx hb dL_law_25 rfl (lv_at hl 0 rfl) ?_
    refine va_slen hx hb hX hbl hbA hS dL_law_26 ?_
    refine lv_bipush (v := 6) hx hb dL_law_27 (by decide) ?_
    refine lv_isub hx hb dL_law_29 ?_
    refine lv_icmp_gt (tgt := 1067) hx hb dL_law_30 (by decide) (fun hc => ?_) (fun hc => ?_)
    · refine lv_iconst (v := 1) hx hb dL_law_1067 (by decide) ?_
      refine va_forget (fun z hz => hS.2.2 z hz) ?_
      refine W.widen (k := 601024) (n := 7293033) (by omega) (by omega) ?_
      exact lw_ret hx hb hr hlocks dL_law_1068
    have hkL : k + 6 ≤ L := law_le hc (by omega) (by omega)
    have hv0 : vp_in (nI k) L := vp_in_nI (by omega) (by omega)
    obtain ⟨a0, ea0⟩ : ∃ z, z = xs (nI k).toNatClampNeg := ⟨_, rfl⟩
    have hv1 : vp_in (nI k + 1) L := law_in 1 hkL (by omega) (by omega)
    obtain ⟨a1, ea1⟩ : ∃ z, z = xs (nI k + 1).toNatClampNeg := ⟨_, rfl⟩
    have hv2 : vp_in (nI k + 2) L := law_in 2 hkL (by omega) (by omega)
    obtain ⟨a2, ea2⟩ : ∃ z, z = xs (nI k + 2).toNatClampNeg := ⟨_, rfl⟩
    have hv3 : vp_in (nI k + 3) L := law_in 3 hkL (by omega) (by omega)
    obtain ⟨a3, ea3⟩ : ∃ z, z = xs (nI k + 3).toNatClampNeg := ⟨_, rfl⟩
    have hv4 : vp_in (nI k + 4) L := law_in 4 hkL (by omega) (by omega)
    obtain ⟨a4, ea4⟩ : ∃ z, z = xs (nI k + 4).toNatClampNeg := ⟨_, rfl⟩
    have hv5 : vp_in (nI k + 5) L := law_in 5 hkL (by omega) (by omega)
    obtain ⟨a5, ea5⟩ : ∃ z, z = xs (nI k + 5).toNatClampNeg := ⟨_, rfl⟩
    have hend : ∀ (cc2 cs2 : Nat), cc2 ≤ cc + 120 → cs2 ≤ cs + 740 → ∀ (G : Gam) (S : Cst) (R : Rst) (f : Nat → Int64) (H : Heap) (locs : List Loc) (ls : Array Slot), Sim n x S R → LWd D ct cZ cJ s.heap.size x oo q u G S R f H → va_S (fun a => s.heap.size ≤ a) s.heap H locs → lv_has ls 7 [(0, .ref b), (1, .ref x), (2, .ref oo), (3, .ref u), (4, .int (nI k))] → W p l e room_1 s m #[Value.ref b] below meth c H locs cc2 cs2 (lw_Z below #[Value.ref b] s) (F0 m 1061 ls []) := by
      intro cc2 cs2 h1 h2 G S R f H locs ls hsim hW hS hl
      refine lv_iinc (v := nI (k + 6)) (lv' := [(4, .int (nI (k + 6))), (0, .ref b), (1, .ref x), (2, .ref oo), (3, .ref u)]) hx hb dL_law_1061 hl (k := 4) rfl (nI_add k 6) (by decide) rfl (fun ls hl => ?_)
      refine lv_goto (tgt := 23) hx hb dL_law_1064 (by decide) ?_
      refine W.widen (k := cc + 120) (n := cs + 740) (by omega) (by omega) ?_
      exact ih (k + 6) (cc + 120) (cs + 740) (by omega) (by omega) (by omega) (by omega) G S R f H locs ls hsim hW hS (lv_sub hl [1, 2, 3, 4, 0] rfl)
    refine lv_aload_n hx hb dL_law_33 rfl (lv_at hl 0 rfl) ?_
    refine lv_iload hx hb dL_law_34 (lv_at hl 4 rfl) ?_
    refine va_sld hx hb hX hbl hbA hS hv0 dL_law_36 ?_
    rw [← ea0]
    refine lv_bipush (v := 15) hx hb dL_law_37 (by decide) ?_
    refine lv_iand hx hb dL_law_39 ?_
    refine lv_topi (fun w ew => ?_)
    by_cases hw0 : w = 0
    · refine lv_tableIn (tgt := 108) hx hb dL_law_40 (by rw [hw0]; decide) (by rw [hw0]; decide) (off := 68) (by rw [hw0]; decide) (by decide) ?_
      obtain ⟨res, r, R', hq1, hq2, hkd, hkk, hvr, hsim⟩ := sim_make F hF a1 a2 a3 hsim
      refine lv_aload_n hx hb dL_law_108 rfl (lv_at hl 1 rfl) ?_
      refine lv_aload_n hx hb dL_law_109 rfl (lv_at hl 0 rfl) ?_
      refine lv_iload hx hb dL_law_110 (lv_at hl 4 rfl) ?_
      refine lv_iconst (v := 1) hx hb dL_law_112 (by decide) ?_
      refine lv_iadd hx hb dL_law_113 ?_
      refine va_sld hx hb hX hbl hbA hS hv1 dL_law_114 ?_
      rw [← ea1]
      refine lv_aload_n hx hb dL_law_115 rfl (lv_at hl 0 rfl) ?_
      refine lv_iload hx hb dL_law_116 (lv_at hl 4 rfl) ?_
      refine lv_iconst (v := 2) hx hb dL_law_118 (by decide) ?_
      refine lv_iadd hx hb dL_law_119 ?_
      refine va_sld hx hb hX hbl hbA hS hv2 dL_law_120 ?_
      rw [← ea2]
      refine lv_aload_n hx hb dL_law_121 rfl (lv_at hl 0 rfl) ?_
      refine lv_iload hx hb dL_law_122 (lv_at hl 4 rfl) ?_
      refine lv_iconst (v := 3) hx hb dL_law_124 (by decide) ?_
      refine lv_iadd hx hb dL_law_125 ?_
      refine va_sld hx hb hX hbl hbA hS hv3 dL_law_126 ?_
      rw [← ea3]
      refine lv_aload_n hx hb dL_law_127 rfl (lv_at hl 3 rfl) ?_
      refine L_wrap (As := [.ref x, .int a1, .int a2, .int a3, .ref u]) (rest := []) X Z hW hS rfl (wm_make l F hl0 D ct cJ s.heap.size G S x u f a1 a2 a3 hW.2.2.2.2.2.2 (fun a ha => c_in hW.1 ha) (by rw [← hW.1.2.2.1]; exact hS.1) hW.2.2.2.2.2.1 res hq1 hkd) (vx_cwSW 5 hts (gl_S km_L_61 kst_L_make kin_RL kc_L_make) rfl rfl rfl (by decide +kernel) ⟨by decide, by decide⟩) hl rfl rfl (by decide) dL_law_128 ⟨by dsimp only [room_1]; omega, by dsimp only [room_1]; omega⟩ (fun G H locs hW hz hS => ?_)
      have hsim := sim_sN hsim hz
      refine lv_istore (lv' := [(5, .int (wk1 res)), (0, .ref b), (1, .ref x), (2, .ref oo), (3, .ref u), (4, .int (nI k))]) hx hb dL_law_131 hl (by decide) rfl (fun ls hl => ?_)
      refine lv_aload_n hx hb dL_law_133 rfl (lv_at hl 3 rfl) ?_
      refine lv_aload_n hx hb dL_law_134 rfl (lv_at hl 1 rfl) ?_
      refine lv_iload hx hb dL_law_135 (lv_at hl 5 rfl) ?_
      refine lv_iconst (v := 1) hx hb dL_law_137 (by decide) ?_
      refine lv_iadd hx hb dL_law_138 ?_
      refine va_sld hx hb hX hbl hbA hS hv1 dL_law_139 ?_
      rw [← ea1]
      refine lv_aload_n hx hb dL_law_140 rfl (lv_at hl 1 rfl) ?_
      refine lv_iload hx hb dL_law_141 (lv_at hl 5 rfl) ?_
      refine lv_iconst (v := 2) hx hb dL_law_143 (by decide) ?_
      refine lv_iadd hx hb dL_law_144 ?_
      refine va_sld hx hb hX hbl hbA hS hv2 dL_law_145 ?_
      rw [← ea2]
      refine lv_aload_n hx hb dL_law_146 rfl (lv_at hl 1 rfl) ?_
      refine lv_iload hx hb dL_law_147 (lv_at hl 5 rfl) ?_
      refine lv_iconst (v := 3) hx hb dL_law_149 (by decide) ?_
      refine lv_iadd hx hb dL_law_150 ?_
      refine va_sld hx hb hX hbl hbA hS hv3 dL_law_151 ?_
      rw [← ea3]
      refine L_ref (As := [.int a1, .int a2, .int a3]) (rest := []) X hKr hW hS (rm_make l F D ct.1 cZ oo q R a1 a2 a3 r R' hq2) (cwV 3 hts (gl_V km_L_66 ki_X7_make ks_X7_make kin_RX7 kc_X7_make) rfl rfl rfl (by decide +kernel) ⟨by decide, by decide⟩) hl rfl rfl (by decide) dL_law_152 ⟨by dsimp only [room_1]; omega, by dsimp only [room_1]; omega⟩ rfl (fun H locs hW hz hS => ?_)
      have hsim := sim_sN hsim hz
      refine lv_istore (lv' := [(6, .int r), (5, .int (wk1 res)), (0, .ref b), (1, .ref x), (2, .ref oo), (3, .ref u), (4, .int (nI k))]) hx hb dL_law_155 hl (by decide) rfl (fun ls hl => ?_)
      refine lv_aload_n hx hb dL_law_157 rfl (lv_at hl 4 rfl) ?_
      refine L_ref (As := []) (rest := []) X hKr hW hS (rm_thrown l F D ct.1 cZ oo q R' (R'.1 0) rfl) (cwV 0 hts (gl_V km_L_67 ki_X7_thrown ks_X7_thrown kin_RX7 kc_X7_thrown) rfl rfl rfl (by decide +kernel) ⟨by decide, by decide⟩) hl rfl rfl (by decide) dL_law_158 ⟨by dsimp only [room_1]; omega, by dsimp only [room_1]; omega⟩ rfl (fun H locs hW hz hS => ?_)
      have hsim := sim_sN hsim hz
      refine lv_iload hx hb dL_law_161 (lv_at hl 1 rfl) ?_
      refine lv_icmp_eq (tgt := 168) hx hb dL_law_163 (by decide) (fun hc1 => ?_) (fun hc1 => absurd hkk.symm hc1)
      refine lv_iload hx hb dL_law_168 (lv_at hl 1 rfl) ?_
      refine lv_if_ne (tgt := 185) hx hb dL_law_170 (by decide) (fun hc2 => ?_) (fun hc2 => ?_)
      · refine lv_goto (tgt := 1061) hx hb dL_law_185 (by decide) ?_
        exact hend _ _ (by omega) (by omega) _ _ _ _ _ _ _ hsim hW hS (lv_sub hl [2, 3, 4, 5, 6] rfl)
      obtain ⟨v, S9, hres⟩ : ∃ v S9, res = .inr (v, S9) := law_res1 hc2
      have hvr := hvr v S9 hres
      refine lv_aload_n hx hb dL_law_173 rfl (lv_at hl 5 rfl) ?_
      refine lv_iconst (v := 0) hx hb dL_law_174 (by decide) ?_
      refine L_lald X Z hW dL_law_175 ?_
      refine lv_iload hx hb dL_law_176 (lv_at hl 0 rfl) ?_
      refine lv_i2l (v := r.toInt64) hx hb dL_law_178 rfl ?_
      refine W.lcmp hx hb dL_law_179 ?_
      refine lv_if_eq (tgt := 185) hx hb dL_law_180 (by decide) (fun hc3 => ?_) (fun hc3 => ?_)
      · refine lv_goto (tgt := 1061) hx hb dL_law_185 (by decide) ?_
        exact hend _ _ (by omega) (by omega) _ _ _ _ _ _ _ hsim hW hS (lv_sub hl [2, 3, 4, 5, 6] rfl)
      · exact absurd (law_out hres hvr) hc3
    by_cases hw1 : w = 1
    · refine lv_tableIn (tgt := 188) hx hb dL_law_40 (by rw [hw1]; decide) (by rw [hw1]; decide) (off := 148) (by rw [hw1]; decide) (by decide) ?_
      obtain ⟨res, r, R', hq1, hq2, hkd, hkk, hvr, hsim⟩ := sim_add F hF a1 a2 a3 hsim
      refine lv_aload_n hx hb dL_law_188 rfl (lv_at hl 1 rfl) ?_
      refine lv_aload_n hx hb dL_law_189 rfl (lv_at hl 0 rfl) ?_
      refine lv_iload hx hb dL_law_190 (lv_at hl 4 rfl) ?_
      refine lv_iconst (v := 1) hx hb dL_law_192 (by decide) ?_
      refine lv_iadd hx hb dL_law_193 ?_
      refine va_sld hx hb hX hbl hbA hS hv1 dL_law_194 ?_
      rw [← ea1]
      refine lv_aload_n hx hb dL_law_195 rfl (lv_at hl 0 rfl) ?_
      refine lv_iload hx hb dL_law_196 (lv_at hl 4 rfl) ?_
      refine lv_iconst (v := 2) hx hb dL_law_198 (by decide) ?_
      refine lv_iadd hx hb dL_law_199 ?_
      refine va_sld hx hb hX hbl hbA hS hv2 dL_law_200 ?_
      rw [← ea2]
      refine lv_aload_n hx hb dL_law_201 rfl (lv_at hl 0 rfl) ?_
      refine lv_iload hx hb dL_law_202 (lv_at hl 4 rfl) ?_
      refine lv_iconst (v := 3) hx hb dL_law_204 (by decide) ?_
      refine lv_iadd hx hb dL_law_205 ?_
      refine va_sld hx hb hX hbl hbA hS hv3 dL_law_206 ?_
      rw [← ea3]
      refine lv_aload_n hx hb dL_law_207 rfl (lv_at hl 3 rfl) ?_
      refine L_wrap (As := [.ref x, .int a1, .int a2, .int a3, .ref u]) (rest := []) X Z hW hS rfl (wm_add l F hl0 D ct cJ s.heap.size G S x u f a1 a2 a3 hW.2.2.2.2.2.2 (fun a ha => c_in hW.1 ha) (by rw [← hW.1.2.2.1]; exact hS.1) hW.2.2.2.2.2.1 res hq1 hkd) (vx_cwSW 5 hts (gl_S km_L_71 kst_L_add kin_RL kc_L_add) rfl rfl rfl (by decide +kernel) ⟨by decide, by decide⟩) hl rfl rfl (by decide) dL_law_208 ⟨by dsimp only [room_1]; omega, by dsimp only [room_1]; omega⟩ (fun G H locs hW hz hS => ?_)
      have hsim := sim_sN hsim hz
      refine lv_istore (lv' := [(5, .int (wk2 res)), (0, .ref b), (1, .ref x), (2, .ref oo), (3, .ref u), (4, .int (nI k))]) hx hb dL_law_211 hl (by decide) rfl (fun ls hl => ?_)
      refine lv_aload_n hx hb dL_law_213 rfl (lv_at hl 3 rfl) ?_
      refine lv_aload_n hx hb dL_law_214 rfl (lv_at hl 1 rfl) ?_
      refine lv_iload hx hb dL_law_215 (lv_at hl 5 rfl) ?_
      refine lv_iconst (v := 1) hx hb dL_law_217 (by decide) ?_
      refine lv_iadd hx hb dL_law_218 ?_
      refine va_sld hx hb hX hbl hbA hS hv1 dL_law_219 ?_
      rw [← ea1]
      refine lv_aload_n hx hb dL_law_220 rfl (lv_at hl 1 rfl) ?_
      refine lv_iload hx hb dL_law_221 (lv_at hl 5 rfl) ?_
      refine lv_iconst (v := 2) hx hb dL_law_223 (by decide) ?_
      refine lv_iadd hx hb dL_law_224 ?_
      refine va_sld hx hb hX hbl hbA hS hv2 dL_law_225 ?_
      rw [← ea2]
      refine lv_aload_n hx hb dL_law_226 rfl (lv_at hl 1 rfl) ?_
      refine lv_iload hx hb dL_law_227 (lv_at hl 5 rfl) ?_
      refine lv_iconst (v := 3) hx hb dL_law_229 (by decide) ?_
      refine lv_iadd hx hb dL_law_230 ?_
      refine va_sld hx hb hX hbl hbA hS hv3 dL_law_231 ?_
      rw [← ea3]
      refine L_ref (As := [.int a1, .int a2, .int a3]) (rest := []) X hKr hW hS (rm_add l F D ct.1 cZ oo q R a1 a2 a3 r R' hq2) (cwV 3 hts (gl_V km_L_73 ki_X7_add ks_X7_add kin_RX7 kc_X7_add) rfl rfl rfl (by decide +kernel) ⟨by decide, by decide⟩) hl rfl rfl (by decide) dL_law_232 ⟨by dsimp only [room_1]; omega, by dsimp only [room_1]; omega⟩ rfl (fun H locs hW hz hS => ?_)
      have hsim := sim_sN hsim hz
      refine lv_istore (lv' := [(6, .int r), (5, .int (wk2 res)), (0, .ref b), (1, .ref x), (2, .ref oo), (3, .ref u), (4, .int (nI k))]) hx hb dL_law_235 hl (by decide) rfl (fun ls hl => ?_)
      refine lv_aload_n hx hb dL_law_237 rfl (lv_at hl 4 rfl) ?_
      refine L_ref (As := []) (rest := []) X hKr hW hS (rm_thrown l F D ct.1 cZ oo q R' (R'.1 0) rfl) (cwV 0 hts (gl_V km_L_67 ki_X7_thrown ks_X7_thrown kin_RX7 kc_X7_thrown) rfl rfl rfl (by decide +kernel) ⟨by decide, by decide⟩) hl rfl rfl (by decide) dL_law_238 ⟨by dsimp only [room_1]; omega, by dsimp only [room_1]; omega⟩ rfl (fun H locs hW hz hS => ?_)
      have hsim := sim_sN hsim hz
      refine lv_iload hx hb dL_law_241 (lv_at hl 1 rfl) ?_
      refine lv_icmp_eq (tgt := 248) hx hb dL_law_243 (by decide) (fun hc1 => ?_) (fun hc1 => absurd hkk.symm hc1)
      refine lv_iload hx hb dL_law_248 (lv_at hl 1 rfl) ?_
      refine lv_if_ne (tgt := 265) hx hb dL_law_250 (by decide) (fun hc2 => ?_) (fun hc2 => ?_)
      · refine lv_goto (tgt := 1061) hx hb dL_law_265 (by decide) ?_
        exact hend _ _ (by omega) (by omega) _ _ _ _ _ _ _ hsim hW hS (lv_sub hl [2, 3, 4, 5, 6] rfl)
      obtain ⟨v, S9, hres⟩ : ∃ v S9, res = .inr (v, S9) := law_res2 hc2
      have hvr := hvr v S9 hres
      refine lv_aload_n hx hb dL_law_253 rfl (lv_at hl 5 rfl) ?_
      refine lv_iconst (v := 0) hx hb dL_law_254 (by decide) ?_
      refine L_lald X Z hW dL_law_255 ?_
      refine lv_iload hx hb dL_law_256 (lv_at hl 0 rfl) ?_
      refine lv_i2l (v := r.toInt64) hx hb dL_law_258 rfl ?_
      refine W.lcmp hx hb dL_law_259 ?_
      refine lv_if_eq (tgt := 265) hx hb dL_law_260 (by decide) (fun hc3 => ?_) (fun hc3 => ?_)
      · refine lv_goto (tgt := 1061) hx hb dL_law_265 (by decide) ?_
        exact hend _ _ (by omega) (by omega) _ _ _ _ _ _ _ hsim hW hS (lv_sub hl [2, 3, 4, 5, 6] rfl)
      · exact absurd (law_out hres hvr) hc3
    by_cases hw2 : w = 2
    · refine lv_tableIn (tgt := 268) hx hb dL_law_40 (by rw [hw2]; decide) (by rw [hw2]; decide) (off := 228) (by rw [hw2]; decide) (by decide) ?_
      obtain ⟨res, r, R', hq1, hq2, hkd, hkk, hvr, hsim⟩ := sim_take F hF a1 a2 a3 a4 hsim
      refine lv_aload_n hx hb dL_law_268 rfl (lv_at hl 1 rfl) ?_
      refine lv_aload_n hx hb dL_law_269 rfl (lv_at hl 0 rfl) ?_
      refine lv_iload hx hb dL_law_270 (lv_at hl 4 rfl) ?_
      refine lv_iconst (v := 1) hx hb dL_law_272 (by decide) ?_
      refine lv_iadd hx hb dL_law_273 ?_
      refine va_sld hx hb hX hbl hbA hS hv1 dL_law_274 ?_
      rw [← ea1]
      refine lv_aload_n hx hb dL_law_275 rfl (lv_at hl 0 rfl) ?_
      refine lv_iload hx hb dL_law_276 (lv_at hl 4 rfl) ?_
      refine lv_iconst (v := 2) hx hb dL_law_278 (by decide) ?_
      refine lv_iadd hx hb dL_law_279 ?_
      refine va_sld hx hb hX hbl hbA hS hv2 dL_law_280 ?_
      rw [← ea2]
      refine lv_aload_n hx hb dL_law_281 rfl (lv_at hl 0 rfl) ?_
      refine lv_iload hx hb dL_law_282 (lv_at hl 4 rfl) ?_
      refine lv_iconst (v := 3) hx hb dL_law_284 (by decide) ?_
      refine lv_iadd hx hb dL_law_285 ?_
      refine va_sld hx hb hX hbl hbA hS hv3 dL_law_286 ?_
      rw [← ea3]
      refine lv_aload_n hx hb dL_law_287 rfl (lv_at hl 0 rfl) ?_
      refine lv_iload hx hb dL_law_288 (lv_at hl 4 rfl) ?_
      refine lv_iconst (v := 4) hx hb dL_law_290 (by decide) ?_
      refine lv_iadd hx hb dL_law_291 ?_
      refine va_sld hx hb hX hbl hbA hS hv4 dL_law_292 ?_
      rw [← ea4]
      refine lv_aload_n hx hb dL_law_293 rfl (lv_at hl 3 rfl) ?_
      refine L_wrap (As := [.ref x, .int a1, .int a2, .int a3, .int a4, .ref u]) (rest := []) X Z hW hS rfl (wm_take l F hl0 D ct cJ s.heap.size G S x u f a1 a2 a3 a4 hW.2.2.2.2.2.2 (fun a ha => c_in hW.1 ha) (by rw [← hW.1.2.2.1]; exact hS.1) hW.2.2.2.2.2.1 res hq1 hkd) (vx_cwSW 6 hts (gl_S km_L_74 kst_L_take kin_RL kc_L_take) rfl rfl rfl (by decide +kernel) ⟨by decide, by decide⟩) hl rfl rfl (by decide) dL_law_294 ⟨by dsimp only [room_1]; omega, by dsimp only [room_1]; omega⟩ (fun G H locs hW hz hS => ?_)
      have hsim := sim_sN hsim hz
      refine lv_istore (lv' := [(5, .int (wk2 res)), (0, .ref b), (1, .ref x), (2, .ref oo), (3, .ref u), (4, .int (nI k))]) hx hb dL_law_297 hl (by decide) rfl (fun ls hl => ?_)
      refine lv_aload_n hx hb dL_law_299 rfl (lv_at hl 3 rfl) ?_
      refine lv_aload_n hx hb dL_law_300 rfl (lv_at hl 1 rfl) ?_
      refine lv_iload hx hb dL_law_301 (lv_at hl 5 rfl) ?_
      refine lv_iconst (v := 1) hx hb dL_law_303 (by decide) ?_
      refine lv_iadd hx hb dL_law_304 ?_
      refine va_sld hx hb hX hbl hbA hS hv1 dL_law_305 ?_
      rw [← ea1]
      refine lv_aload_n hx hb dL_law_306 rfl (lv_at hl 1 rfl) ?_
      refine lv_iload hx hb dL_law_307 (lv_at hl 5 rfl) ?_
      refine lv_iconst (v := 2) hx hb dL_law_309 (by decide) ?_
      refine lv_iadd hx hb dL_law_310 ?_
      refine va_sld hx hb hX hbl hbA hS hv2 dL_law_311 ?_
      rw [← ea2]
      refine lv_aload_n hx hb dL_law_312 rfl (lv_at hl 1 rfl) ?_
      refine lv_iload hx hb dL_law_313 (lv_at hl 5 rfl) ?_
      refine lv_iconst (v := 3) hx hb dL_law_315 (by decide) ?_
      refine lv_iadd hx hb dL_law_316 ?_
      refine va_sld hx hb hX hbl hbA hS hv3 dL_law_317 ?_
      rw [← ea3]
      refine lv_aload_n hx hb dL_law_318 rfl (lv_at hl 1 rfl) ?_
      refine lv_iload hx hb dL_law_319 (lv_at hl 5 rfl) ?_
      refine lv_iconst (v := 4) hx hb dL_law_321 (by decide) ?_
      refine lv_iadd hx hb dL_law_322 ?_
      refine va_sld hx hb hX hbl hbA hS hv4 dL_law_323 ?_
      rw [← ea4]
      refine L_ref (As := [.int a1, .int a2, .int a3, .int a4]) (rest := []) X hKr hW hS (rm_take l F D ct.1 cZ oo q R a1 a2 a3 a4 r R' hq2) (cwV 4 hts (gl_V km_L_77 ki_X7_take ks_X7_take kin_RX7 kc_X7_take) rfl rfl rfl (by decide +kernel) ⟨by decide, by decide⟩) hl rfl rfl (by decide) dL_law_324 ⟨by dsimp only [room_1]; omega, by dsimp only [room_1]; omega⟩ rfl (fun H locs hW hz hS => ?_)
      have hsim := sim_sN hsim hz
      refine lv_istore (lv' := [(6, .int r), (5, .int (wk2 res)), (0, .ref b), (1, .ref x), (2, .ref oo), (3, .ref u), (4, .int (nI k))]) hx hb dL_law_327 hl (by decide) rfl (fun ls hl => ?_)
      refine lv_aload_n hx hb dL_law_329 rfl (lv_at hl 4 rfl) ?_
      refine L_ref (As := []) (rest := []) X hKr hW hS (rm_thrown l F D ct.1 cZ oo q R' (R'.1 0) rfl) (cwV 0 hts (gl_V km_L_67 ki_X7_thrown ks_X7_thrown kin_RX7 kc_X7_thrown) rfl rfl rfl (by decide +kernel) ⟨by decide, by decide⟩) hl rfl rfl (by decide) dL_law_330 ⟨by dsimp only [room_1]; omega, by dsimp only [room_1]; omega⟩ rfl (fun H locs hW hz hS => ?_)
      have hsim := sim_sN hsim hz
      refine lv_iload hx hb dL_law_333 (lv_at hl 1 rfl) ?_
      refine lv_icmp_eq (tgt := 340) hx hb dL_law_335 (by decide) (fun hc1 => ?_) (fun hc1 => absurd hkk.symm hc1)
      refine lv_iload hx hb dL_law_340 (lv_at hl 1 rfl) ?_
      refine lv_if_ne (tgt := 357) hx hb dL_law_342 (by decide) (fun hc2 => ?_) (fun hc2 => ?_)
      · refine lv_goto (tgt := 1061) hx hb dL_law_357 (by decide) ?_
        exact hend _ _ (by omega) (by omega) _ _ _ _ _ _ _ hsim hW hS (lv_sub hl [2, 3, 4, 5, 6] rfl)
      obtain ⟨v, S9, hres⟩ : ∃ v S9, res = .inr (v, S9) := law_res2 hc2
      have hvr := hvr v S9 hres
      refine lv_aload_n hx hb dL_law_345 rfl (lv_at hl 5 rfl) ?_
      refine lv_iconst (v := 0) hx hb dL_law_346 (by decide) ?_
      refine L_lald X Z hW dL_law_347 ?_
      refine lv_iload hx hb dL_law_348 (lv_at hl 0 rfl) ?_
      refine lv_i2l (v := r.toInt64) hx hb dL_law_350 rfl ?_
      refine W.lcmp hx hb dL_law_351 ?_
      refine lv_if_eq (tgt := 357) hx hb dL_law_352 (by decide) (fun hc3 => ?_) (fun hc3 => ?_)
      · refine lv_goto (tgt := 1061) hx hb dL_law_357 (by decide) ?_
        exact hend _ _ (by omega) (by omega) _ _ _ _ _ _ _ hsim hW hS (lv_sub hl [2, 3, 4, 5, 6] rfl)
      · exact absurd (law_out hres hvr) hc3
    by_cases hw3 : w = 3
    · refine lv_tableIn (tgt := 360) hx hb dL_law_40 (by rw [hw3]; decide) (by rw [hw3]; decide) (off := 320) (by rw [hw3]; decide) (by decide) ?_
      obtain ⟨res, r, R', hq1, hq2, hkd, hkk, hvr, hsim⟩ := sim_give F hF a1 a2 a3 a4 hsim
      refine lv_aload_n hx hb dL_law_360 rfl (lv_at hl 1 rfl) ?_
      refine lv_aload_n hx hb dL_law_361 rfl (lv_at hl 0 rfl) ?_
      refine lv_iload hx hb dL_law_362 (lv_at hl 4 rfl) ?_
      refine lv_iconst (v := 1) hx hb dL_law_364 (by decide) ?_
      refine lv_iadd hx hb dL_law_365 ?_
      refine va_sld hx hb hX hbl hbA hS hv1 dL_law_366 ?_
      rw [← ea1]
      refine lv_aload_n hx hb dL_law_367 rfl (lv_at hl 0 rfl) ?_
      refine lv_iload hx hb dL_law_368 (lv_at hl 4 rfl) ?_
      refine lv_iconst (v := 2) hx hb dL_law_370 (by decide) ?_
      refine lv_iadd hx hb dL_law_371 ?_
      refine va_sld hx hb hX hbl hbA hS hv2 dL_law_372 ?_
      rw [← ea2]
      refine lv_aload_n hx hb dL_law_373 rfl (lv_at hl 0 rfl) ?_
      refine lv_iload hx hb dL_law_374 (lv_at hl 4 rfl) ?_
      refine lv_iconst (v := 3) hx hb dL_law_376 (by decide) ?_
      refine lv_iadd hx hb dL_law_377 ?_
      refine va_sld hx hb hX hbl hbA hS hv3 dL_law_378 ?_
      rw [← ea3]
      refine lv_aload_n hx hb dL_law_379 rfl (lv_at hl 0 rfl) ?_
      refine lv_iload hx hb dL_law_380 (lv_at hl 4 rfl) ?_
      refine lv_iconst (v := 4) hx hb dL_law_382 (by decide) ?_
      refine lv_iadd hx hb dL_law_383 ?_
      refine va_sld hx hb hX hbl hbA hS hv4 dL_law_384 ?_
      rw [← ea4]
      refine lv_aload_n hx hb dL_law_385 rfl (lv_at hl 3 rfl) ?_
      refine L_wrap (As := [.ref x, .int a1, .int a2, .int a3, .int a4, .ref u]) (rest := []) X Z hW hS rfl (wm_give l F hl0 D ct cJ s.heap.size G S x u f a1 a2 a3 a4 hW.2.2.2.2.2.2 (fun a ha => c_in hW.1 ha) (by rw [← hW.1.2.2.1]; exact hS.1) hW.2.2.2.2.2.1 res hq1 hkd) (vx_cwSW 6 hts (gl_S km_L_78 kst_L_give kin_RL kc_L_give) rfl rfl rfl (by decide +kernel) ⟨by decide, by decide⟩) hl rfl rfl (by decide) dL_law_386 ⟨by dsimp only [room_1]; omega, by dsimp only [room_1]; omega⟩ (fun G H locs hW hz hS => ?_)
      have hsim := sim_sN hsim hz
      refine lv_istore (lv' := [(5, .int (wk2 res)), (0, .ref b), (1, .ref x), (2, .ref oo), (3, .ref u), (4, .int (nI k))]) hx hb dL_law_389 hl (by decide) rfl (fun ls hl => ?_)
      refine lv_aload_n hx hb dL_law_391 rfl (lv_at hl 3 rfl) ?_
      refine lv_aload_n hx hb dL_law_392 rfl (lv_at hl 1 rfl) ?_
      refine lv_iload hx hb dL_law_393 (lv_at hl 5 rfl) ?_
      refine lv_iconst (v := 1) hx hb dL_law_395 (by decide) ?_
      refine lv_iadd hx hb dL_law_396 ?_
      refine va_sld hx hb hX hbl hbA hS hv1 dL_law_397 ?_
      rw [← ea1]
      refine lv_aload_n hx hb dL_law_398 rfl (lv_at hl 1 rfl) ?_
      refine lv_iload hx hb dL_law_399 (lv_at hl 5 rfl) ?_
      refine lv_iconst (v := 2) hx hb dL_law_401 (by decide) ?_
      refine lv_iadd hx hb dL_law_402 ?_
      refine va_sld hx hb hX hbl hbA hS hv2 dL_law_403 ?_
      rw [← ea2]
      refine lv_aload_n hx hb dL_law_404 rfl (lv_at hl 1 rfl) ?_
      refine lv_iload hx hb dL_law_405 (lv_at hl 5 rfl) ?_
      refine lv_iconst (v := 3) hx hb dL_law_407 (by decide) ?_
      refine lv_iadd hx hb dL_law_408 ?_
      refine va_sld hx hb hX hbl hbA hS hv3 dL_law_409 ?_
      rw [← ea3]
      refine lv_aload_n hx hb dL_law_410 rfl (lv_at hl 1 rfl) ?_
      refine lv_iload hx hb dL_law_411 (lv_at hl 5 rfl) ?_
      refine lv_iconst (v := 4) hx hb dL_law_413 (by decide) ?_
      refine lv_iadd hx hb dL_law_414 ?_
      refine va_sld hx hb hX hbl hbA hS hv4 dL_law_415 ?_
      rw [← ea4]
      refine L_ref (As := [.int a1, .int a2, .int a3, .int a4]) (rest := []) X hKr hW hS (rm_give l F D ct.1 cZ oo q R a1 a2 a3 a4 r R' hq2) (cwV 4 hts (gl_V km_L_80 ki_X7_give ks_X7_give kin_RX7 kc_X7_give) rfl rfl rfl (by decide +kernel) ⟨by decide, by decide⟩) hl rfl rfl (by decide) dL_law_416 ⟨by dsimp only [room_1]; omega, by dsimp only [room_1]; omega⟩ rfl (fun H locs hW hz hS => ?_)
      have hsim := sim_sN hsim hz
      refine lv_istore (lv' := [(6, .int r), (5, .int (wk2 res)), (0, .ref b), (1, .ref x), (2, .ref oo), (3, .ref u), (4, .int (nI k))]) hx hb dL_law_419 hl (by decide) rfl (fun ls hl => ?_)
      refine lv_aload_n hx hb dL_law_421 rfl (lv_at hl 4 rfl) ?_
      refine L_ref (As := []) (rest := []) X hKr hW hS (rm_thrown l F D ct.1 cZ oo q R' (R'.1 0) rfl) (cwV 0 hts (gl_V km_L_67 ki_X7_thrown ks_X7_thrown kin_RX7 kc_X7_thrown) rfl rfl rfl (by decide +kernel) ⟨by decide, by decide⟩) hl rfl rfl (by decide) dL_law_422 ⟨by dsimp only [room_1]; omega, by dsimp only [room_1]; omega⟩ rfl (fun H locs hW hz hS => ?_)
      have hsim := sim_sN hsim hz
      refine lv_iload hx hb dL_law_425 (lv_at hl 1 rfl) ?_
      refine lv_icmp_eq (tgt := 432) hx hb dL_law_427 (by decide) (fun hc1 => ?_) (fun hc1 => absurd hkk.symm hc1)
      refine lv_iload hx hb dL_law_432 (lv_at hl 1 rfl) ?_
      refine lv_if_ne (tgt := 449) hx hb dL_law_434 (by decide) (fun hc2 => ?_) (fun hc2 => ?_)
      · refine lv_goto (tgt := 1061) hx hb dL_law_449 (by decide) ?_
        exact hend _ _ (by omega) (by omega) _ _ _ _ _ _ _ hsim hW hS (lv_sub hl [2, 3, 4, 5, 6] rfl)
      obtain ⟨v, S9, hres⟩ : ∃ v S9, res = .inr (v, S9) := law_res2 hc2
      have hvr := hvr v S9 hres
      refine lv_aload_n hx hb dL_law_437 rfl (lv_at hl 5 rfl) ?_
      refine lv_iconst (v := 0) hx hb dL_law_438 (by decide) ?_
      refine L_lald X Z hW dL_law_439 ?_
      refine lv_iload hx hb dL_law_440 (lv_at hl 0 rfl) ?_
      refine lv_i2l (v := r.toInt64) hx hb dL_law_442 rfl ?_
      refine W.lcmp hx hb dL_law_443 ?_
      refine lv_if_eq (tgt := 449) hx hb dL_law_444 (by decide) (fun hc3 => ?_) (fun hc3 => ?_)
      · refine lv_goto (tgt := 1061) hx hb dL_law_449 (by decide) ?_
        exact hend _ _ (by omega) (by omega) _ _ _ _ _ _ _ hsim hW hS (lv_sub hl [2, 3, 4, 5, 6] rfl)
      · exact absurd (law_out hres hvr) hc3
    by_cases hw4 : w = 4
    · refine lv_tableIn (tgt := 452) hx hb dL_law_40 (by rw [hw4]; decide) (by rw [hw4]; decide) (off := 412) (by rw [hw4]; decide) (by decide) ?_
      obtain ⟨res, r, R', hq1, hq2, hkd, hkk, hvr, hsim⟩ := sim_takeWithin F hF a1 a2 a3 a4 a5 hsim
      refine lv_aload_n hx hb dL_law_452 rfl (lv_at hl 1 rfl) ?_
      refine lv_aload_n hx hb dL_law_453 rfl (lv_at hl 0 rfl) ?_
      refine lv_iload hx hb dL_law_454 (lv_at hl 4 rfl) ?_
      refine lv_iconst (v := 1) hx hb dL_law_456 (by decide) ?_
      refine lv_iadd hx hb dL_law_457 ?_
      refine va_sld hx hb hX hbl hbA hS hv1 dL_law_458 ?_
      rw [← ea1]
      refine lv_aload_n hx hb dL_law_459 rfl (lv_at hl 0 rfl) ?_
      refine lv_iload hx hb dL_law_460 (lv_at hl 4 rfl) ?_
      refine lv_iconst (v := 2) hx hb dL_law_462 (by decide) ?_
      refine lv_iadd hx hb dL_law_463 ?_
      refine va_sld hx hb hX hbl hbA hS hv2 dL_law_464 ?_
      rw [← ea2]
      refine lv_aload_n hx hb dL_law_465 rfl (lv_at hl 0 rfl) ?_
      refine lv_iload hx hb dL_law_466 (lv_at hl 4 rfl) ?_
      refine lv_iconst (v := 3) hx hb dL_law_468 (by decide) ?_
      refine lv_iadd hx hb dL_law_469 ?_
      refine va_sld hx hb hX hbl hbA hS hv3 dL_law_470 ?_
      rw [← ea3]
      refine lv_aload_n hx hb dL_law_471 rfl (lv_at hl 0 rfl) ?_
      refine lv_iload hx hb dL_law_472 (lv_at hl 4 rfl) ?_
      refine lv_iconst (v := 4) hx hb dL_law_474 (by decide) ?_
      refine lv_iadd hx hb dL_law_475 ?_
      refine va_sld hx hb hX hbl hbA hS hv4 dL_law_476 ?_
      rw [← ea4]
      refine lv_aload_n hx hb dL_law_477 rfl (lv_at hl 0 rfl) ?_
      refine lv_iload hx hb dL_law_478 (lv_at hl 4 rfl) ?_
      refine lv_iconst (v := 5) hx hb dL_law_480 (by decide) ?_
      refine lv_iadd hx hb dL_law_481 ?_
      refine va_sld hx hb hX hbl hbA hS hv5 dL_law_482 ?_
      rw [← ea5]
      refine lv_aload_n hx hb dL_law_483 rfl (lv_at hl 3 rfl) ?_
      refine L_wrap (As := [.ref x, .int a1, .int a2, .int a3, .int a4, .int a5, .ref u]) (rest := []) X Z hW hS rfl (wm_takeWithin l F hl0 D ct cJ s.heap.size G S x u f a1 a2 a3 a4 a5 hW.2.2.2.2.2.2 (fun a ha => c_in hW.1 ha) (by rw [← hW.1.2.2.1]; exact hS.1) hW.2.2.2.2.2.1 res hq1 hkd) (vx_cwSW 7 hts (gl_S km_L_81 kst_L_takeWithin kin_RL kc_L_takeWithin) rfl rfl rfl (by decide +kernel) ⟨by decide, by decide⟩) hl rfl rfl (by decide) dL_law_484 ⟨by dsimp only [room_1]; omega, by dsimp only [room_1]; omega⟩ (fun G H locs hW hz hS => ?_)
      have hsim := sim_sN hsim hz
      refine lv_istore (lv' := [(5, .int (wk2 res)), (0, .ref b), (1, .ref x), (2, .ref oo), (3, .ref u), (4, .int (nI k))]) hx hb dL_law_487 hl (by decide) rfl (fun ls hl => ?_)
      refine lv_aload_n hx hb dL_law_489 rfl (lv_at hl 3 rfl) ?_
      refine lv_aload_n hx hb dL_law_490 rfl (lv_at hl 1 rfl) ?_
      refine lv_iload hx hb dL_law_491 (lv_at hl 5 rfl) ?_
      refine lv_iconst (v := 1) hx hb dL_law_493 (by decide) ?_
      refine lv_iadd hx hb dL_law_494 ?_
      refine va_sld hx hb hX hbl hbA hS hv1 dL_law_495 ?_
      rw [← ea1]
      refine lv_aload_n hx hb dL_law_496 rfl (lv_at hl 1 rfl) ?_
      refine lv_iload hx hb dL_law_497 (lv_at hl 5 rfl) ?_
      refine lv_iconst (v := 2) hx hb dL_law_499 (by decide) ?_
      refine lv_iadd hx hb dL_law_500 ?_
      refine va_sld hx hb hX hbl hbA hS hv2 dL_law_501 ?_
      rw [← ea2]
      refine lv_aload_n hx hb dL_law_502 rfl (lv_at hl 1 rfl) ?_
      refine lv_iload hx hb dL_law_503 (lv_at hl 5 rfl) ?_
      refine lv_iconst (v := 3) hx hb dL_law_505 (by decide) ?_
      refine lv_iadd hx hb dL_law_506 ?_
      refine va_sld hx hb hX hbl hbA hS hv3 dL_law_507 ?_
      rw [← ea3]
      refine lv_aload_n hx hb dL_law_508 rfl (lv_at hl 1 rfl) ?_
      refine lv_iload hx hb dL_law_509 (lv_at hl 5 rfl) ?_
      refine lv_iconst (v := 4) hx hb dL_law_511 (by decide) ?_
      refine lv_iadd hx hb dL_law_512 ?_
      refine va_sld hx hb hX hbl hbA hS hv4 dL_law_513 ?_
      rw [← ea4]
      refine lv_aload_n hx hb dL_law_514 rfl (lv_at hl 1 rfl) ?_
      refine lv_iload hx hb dL_law_515 (lv_at hl 5 rfl) ?_
      refine lv_iconst (v := 5) hx hb dL_law_517 (by decide) ?_
      refine lv_iadd hx hb dL_law_518 ?_
      refine va_sld hx hb hX hbl hbA hS hv5 dL_law_519 ?_
      rw [← ea5]
      refine L_ref (As := [.int a1, .int a2, .int a3, .int a4, .int a5]) (rest := []) X hKr hW hS (rm_takeWithin l F D ct.1 cZ oo q R a1 a2 a3 a4 a5 r R' hq2) (cwV 5 hts (gl_V km_L_84 ki_X7_takeWithin ks_X7_takeWithin kin_RX7 kc_X7_takeWithin) rfl rfl rfl (by decide +kernel) ⟨by decide, by decide⟩) hl rfl rfl (by decide) dL_law_520 ⟨by dsimp only [room_1]; omega, by dsimp only [room_1]; omega⟩ rfl (fun H locs hW hz hS => ?_)
      have hsim := sim_sN hsim hz
      refine lv_istore (lv' := [(6, .int r), (5, .int (wk2 res)), (0, .ref b), (1, .ref x), (2, .ref oo), (3, .ref u), (4, .int (nI k))]) hx hb dL_law_523 hl (by decide) rfl (fun ls hl => ?_)
      refine lv_aload_n hx hb dL_law_525 rfl (lv_at hl 4 rfl) ?_
      refine L_ref (As := []) (rest := []) X hKr hW hS (rm_thrown l F D ct.1 cZ oo q R' (R'.1 0) rfl) (cwV 0 hts (gl_V km_L_67 ki_X7_thrown ks_X7_thrown kin_RX7 kc_X7_thrown) rfl rfl rfl (by decide +kernel) ⟨by decide, by decide⟩) hl rfl rfl (by decide) dL_law_526 ⟨by dsimp only [room_1]; omega, by dsimp only [room_1]; omega⟩ rfl (fun H locs hW hz hS => ?_)
      have hsim := sim_sN hsim hz
      refine lv_iload hx hb dL_law_529 (lv_at hl 1 rfl) ?_
      refine lv_icmp_eq (tgt := 536) hx hb dL_law_531 (by decide) (fun hc1 => ?_) (fun hc1 => absurd hkk.symm hc1)
      refine lv_iload hx hb dL_law_536 (lv_at hl 1 rfl) ?_
      refine lv_if_ne (tgt := 553) hx hb dL_law_538 (by decide) (fun hc2 => ?_) (fun hc2 => ?_)
      · refine lv_goto (tgt := 1061) hx hb dL_law_553 (by decide) ?_
        exact hend _ _ (by omega) (by omega) _ _ _ _ _ _ _ hsim hW hS (lv_sub hl [2, 3, 4, 5, 6] rfl)
      obtain ⟨v, S9, hres⟩ : ∃ v S9, res = .inr (v, S9) := law_res2 hc2
      have hvr := hvr v S9 hres
      refine lv_aload_n hx hb dL_law_541 rfl (lv_at hl 5 rfl) ?_
      refine lv_iconst (v := 0) hx hb dL_law_542 (by decide) ?_
      refine L_lald X Z hW dL_law_543 ?_
      refine lv_iload hx hb dL_law_544 (lv_at hl 0 rfl) ?_
      refine lv_i2l (v := r.toInt64) hx hb dL_law_546 rfl ?_
      refine W.lcmp hx hb dL_law_547 ?_
      refine lv_if_eq (tgt := 553) hx hb dL_law_548 (by decide) (fun hc3 => ?_) (fun hc3 => ?_)
      · refine lv_goto (tgt := 1061) hx hb dL_law_553 (by decide) ?_
        exact hend _ _ (by omega) (by omega) _ _ _ _ _ _ _ hsim hW hS (lv_sub hl [2, 3, 4, 5, 6] rfl)
      · exact absurd (law_out hres hvr) hc3
    by_cases hw5 : w = 5
    · refine lv_tableIn (tgt := 556) hx hb dL_law_40 (by rw [hw5]; decide) (by rw [hw5]; decide) (off := 516) (by rw [hw5]; decide) (by decide) ?_
      obtain ⟨res, r, R', hq1, hq2, hkd, hkk, hvr, hsim⟩ := sim_giveWithin F hF a1 a2 a3 hsim
      refine lv_aload_n hx hb dL_law_556 rfl (lv_at hl 1 rfl) ?_
      refine lv_aload_n hx hb dL_law_557 rfl (lv_at hl 0 rfl) ?_
      refine lv_iload hx hb dL_law_558 (lv_at hl 4 rfl) ?_
      refine lv_iconst (v := 1) hx hb dL_law_560 (by decide) ?_
      refine lv_iadd hx hb dL_law_561 ?_
      refine va_sld hx hb hX hbl hbA hS hv1 dL_law_562 ?_
      rw [← ea1]
      refine lv_aload_n hx hb dL_law_563 rfl (lv_at hl 0 rfl) ?_
      refine lv_iload hx hb dL_law_564 (lv_at hl 4 rfl) ?_
      refine lv_iconst (v := 2) hx hb dL_law_566 (by decide) ?_
      refine lv_iadd hx hb dL_law_567 ?_
      refine va_sld hx hb hX hbl hbA hS hv2 dL_law_568 ?_
      rw [← ea2]
      refine lv_aload_n hx hb dL_law_569 rfl (lv_at hl 0 rfl) ?_
      refine lv_iload hx hb dL_law_570 (lv_at hl 4 rfl) ?_
      refine lv_iconst (v := 3) hx hb dL_law_572 (by decide) ?_
      refine lv_iadd hx hb dL_law_573 ?_
      refine va_sld hx hb hX hbl hbA hS hv3 dL_law_574 ?_
      rw [← ea3]
      refine lv_aload_n hx hb dL_law_575 rfl (lv_at hl 3 rfl) ?_
      refine L_wrap (As := [.ref x, .int a1, .int a2, .int a3, .ref u]) (rest := []) X Z hW hS rfl (wm_giveWithin l F hl0 D ct cJ s.heap.size G S x u f a1 a2 a3 hW.2.2.2.2.2.2 (fun a ha => c_in hW.1 ha) (by rw [← hW.1.2.2.1]; exact hS.1) hW.2.2.2.2.2.1 res hq1 hkd) (vx_cwSW 5 hts (gl_S km_L_85 kst_L_giveWithin kin_RL kc_L_giveWithin) rfl rfl rfl (by decide +kernel) ⟨by decide, by decide⟩) hl rfl rfl (by decide) dL_law_576 ⟨by dsimp only [room_1]; omega, by dsimp only [room_1]; omega⟩ (fun G H locs hW hz hS => ?_)
      have hsim := sim_sN hsim hz
      refine lv_istore (lv' := [(5, .int (wk2 res)), (0, .ref b), (1, .ref x), (2, .ref oo), (3, .ref u), (4, .int (nI k))]) hx hb dL_law_579 hl (by decide) rfl (fun ls hl => ?_)
      refine lv_aload_n hx hb dL_law_581 rfl (lv_at hl 3 rfl) ?_
      refine lv_aload_n hx hb dL_law_582 rfl (lv_at hl 1 rfl) ?_
      refine lv_iload hx hb dL_law_583 (lv_at hl 5 rfl) ?_
      refine lv_iconst (v := 1) hx hb dL_law_585 (by decide) ?_
      refine lv_iadd hx hb dL_law_586 ?_
      refine va_sld hx hb hX hbl hbA hS hv1 dL_law_587 ?_
      rw [← ea1]
      refine lv_aload_n hx hb dL_law_588 rfl (lv_at hl 1 rfl) ?_
      refine lv_iload hx hb dL_law_589 (lv_at hl 5 rfl) ?_
      refine lv_iconst (v := 2) hx hb dL_law_591 (by decide) ?_
      refine lv_iadd hx hb dL_law_592 ?_
      refine va_sld hx hb hX hbl hbA hS hv2 dL_law_593 ?_
      rw [← ea2]
      refine lv_aload_n hx hb dL_law_594 rfl (lv_at hl 1 rfl) ?_
      refine lv_iload hx hb dL_law_595 (lv_at hl 5 rfl) ?_
      refine lv_iconst (v := 3) hx hb dL_law_597 (by decide) ?_
      refine lv_iadd hx hb dL_law_598 ?_
      refine va_sld hx hb hX hbl hbA hS hv3 dL_law_599 ?_
      rw [← ea3]
      refine L_ref (As := [.int a1, .int a2, .int a3]) (rest := []) X hKr hW hS (rm_giveWithin l F D ct.1 cZ oo q R a1 a2 a3 r R' hq2) (cwV 3 hts (gl_V km_L_87 ki_X7_giveWithin ks_X7_giveWithin kin_RX7 kc_X7_giveWithin) rfl rfl rfl (by decide +kernel) ⟨by decide, by decide⟩) hl rfl rfl (by decide) dL_law_600 ⟨by dsimp only [room_1]; omega, by dsimp only [room_1]; omega⟩ rfl (fun H locs hW hz hS => ?_)
      have hsim := sim_sN hsim hz
      refine lv_istore (lv' := [(6, .int r), (5, .int (wk2 res)), (0, .ref b), (1, .ref x), (2, .ref oo), (3, .ref u), (4, .int (nI k))]) hx hb dL_law_603 hl (by decide) rfl (fun ls hl => ?_)
      refine lv_aload_n hx hb dL_law_605 rfl (lv_at hl 4 rfl) ?_
      refine L_ref (As := []) (rest := []) X hKr hW hS (rm_thrown l F D ct.1 cZ oo q R' (R'.1 0) rfl) (cwV 0 hts (gl_V km_L_67 ki_X7_thrown ks_X7_thrown kin_RX7 kc_X7_thrown) rfl rfl rfl (by decide +kernel) ⟨by decide, by decide⟩) hl rfl rfl (by decide) dL_law_606 ⟨by dsimp only [room_1]; omega, by dsimp only [room_1]; omega⟩ rfl (fun H locs hW hz hS => ?_)
      have hsim := sim_sN hsim hz
      refine lv_iload hx hb dL_law_609 (lv_at hl 1 rfl) ?_
      refine lv_icmp_eq (tgt := 616) hx hb dL_law_611 (by decide) (fun hc1 => ?_) (fun hc1 => absurd hkk.symm hc1)
      refine lv_iload hx hb dL_law_616 (lv_at hl 1 rfl) ?_
      refine lv_if_ne (tgt := 633) hx hb dL_law_618 (by decide) (fun hc2 => ?_) (fun hc2 => ?_)
      · refine lv_goto (tgt := 1061) hx hb dL_law_633 (by decide) ?_
        exact hend _ _ (by omega) (by omega) _ _ _ _ _ _ _ hsim hW hS (lv_sub hl [2, 3, 4, 5, 6] rfl)
      obtain ⟨v, S9, hres⟩ : ∃ v S9, res = .inr (v, S9) := law_res2 hc2
      have hvr := hvr v S9 hres
      refine lv_aload_n hx hb dL_law_621 rfl (lv_at hl 5 rfl) ?_
      refine lv_iconst (v := 0) hx hb dL_law_622 (by decide) ?_
      refine L_lald X Z hW dL_law_623 ?_
      refine lv_iload hx hb dL_law_624 (lv_at hl 0 rfl) ?_
      refine lv_i2l (v := r.toInt64) hx hb dL_law_626 rfl ?_
      refine W.lcmp hx hb dL_law_627 ?_
      refine lv_if_eq (tgt := 633) hx hb dL_law_628 (by decide) (fun hc3 => ?_) (fun hc3 => ?_)
      · refine lv_goto (tgt := 1061) hx hb dL_law_633 (by decide) ?_
        exact hend _ _ (by omega) (by omega) _ _ _ _ _ _ _ hsim hW hS (lv_sub hl [2, 3, 4, 5, 6] rfl)
      · exact absurd (law_out hres hvr) hc3
    by_cases hw6 : w = 6
    · refine lv_tableIn (tgt := 636) hx hb dL_law_40 (by rw [hw6]; decide) (by rw [hw6]; decide) (off := 596) (by rw [hw6]; decide) (by decide) ?_
      obtain ⟨res, R', hq1, hq2, hkd, hkk, hsim⟩ := sim_bounds F hF a1 a2 a3 hsim
      refine lv_aload_n hx hb dL_law_636 rfl (lv_at hl 1 rfl) ?_
      refine lv_aload_n hx hb dL_law_637 rfl (lv_at hl 0 rfl) ?_
      refine lv_iload hx hb dL_law_638 (lv_at hl 4 rfl) ?_
      refine lv_iconst (v := 1) hx hb dL_law_640 (by decide) ?_
      refine lv_iadd hx hb dL_law_641 ?_
      refine va_sld hx hb hX hbl hbA hS hv1 dL_law_642 ?_
      rw [← ea1]
      refine lv_aload_n hx hb dL_law_643 rfl (lv_at hl 0 rfl) ?_
      refine lv_iload hx hb dL_law_644 (lv_at hl 4 rfl) ?_
      refine lv_iconst (v := 2) hx hb dL_law_646 (by decide) ?_
      refine lv_iadd hx hb dL_law_647 ?_
      refine va_sld hx hb hX hbl hbA hS hv2 dL_law_648 ?_
      rw [← ea2]
      refine lv_aload_n hx hb dL_law_649 rfl (lv_at hl 0 rfl) ?_
      refine lv_iload hx hb dL_law_650 (lv_at hl 4 rfl) ?_
      refine lv_iconst (v := 3) hx hb dL_law_652 (by decide) ?_
      refine lv_iadd hx hb dL_law_653 ?_
      refine va_sld hx hb hX hbl hbA hS hv3 dL_law_654 ?_
      rw [← ea3]
      refine L_wrap (As := [.ref x, .int a1, .int a2, .int a3]) (rest := []) X Z hW hS rfl (wm_bounds l F hl0 D ct cJ s.heap.size G S x u f a1 a2 a3 hW.2.2.2.2.2.2 (fun a ha => c_in hW.1 ha) (by rw [← hW.1.2.2.1]; exact hS.1) hW.2.2.2.2.2.1 res hq1 hkd) (vx_cwSW 4 hts (gl_S km_L_88 kst_L_bounds kin_RL kc_L_bounds) rfl rfl rfl (by decide +kernel) ⟨by decide, by decide⟩) hl rfl rfl (by decide) dL_law_655 ⟨by dsimp only [room_1]; omega, by dsimp only [room_1]; omega⟩ (fun G H locs hW hz hS => ?_)
      have hsim := sim_sN hsim hz
      refine lv_istore (lv' := [(5, .int (wk2 res)), (0, .ref b), (1, .ref x), (2, .ref oo), (3, .ref u), (4, .int (nI k))]) hx hb dL_law_658 hl (by decide) rfl (fun ls hl => ?_)
      refine lv_aload_n hx hb dL_law_660 rfl (lv_at hl 3 rfl) ?_
      refine lv_aload_n hx hb dL_law_661 rfl (lv_at hl 1 rfl) ?_
      refine lv_iload hx hb dL_law_662 (lv_at hl 5 rfl) ?_
      refine lv_iconst (v := 1) hx hb dL_law_664 (by decide) ?_
      refine lv_iadd hx hb dL_law_665 ?_
      refine va_sld hx hb hX hbl hbA hS hv1 dL_law_666 ?_
      rw [← ea1]
      refine lv_aload_n hx hb dL_law_667 rfl (lv_at hl 1 rfl) ?_
      refine lv_iload hx hb dL_law_668 (lv_at hl 5 rfl) ?_
      refine lv_iconst (v := 2) hx hb dL_law_670 (by decide) ?_
      refine lv_iadd hx hb dL_law_671 ?_
      refine va_sld hx hb hX hbl hbA hS hv2 dL_law_672 ?_
      rw [← ea2]
      refine lv_aload_n hx hb dL_law_673 rfl (lv_at hl 1 rfl) ?_
      refine lv_iload hx hb dL_law_674 (lv_at hl 5 rfl) ?_
      refine lv_iconst (v := 3) hx hb dL_law_676 (by decide) ?_
      refine lv_iadd hx hb dL_law_677 ?_
      refine va_sld hx hb hX hbl hbA hS hv3 dL_law_678 ?_
      rw [← ea3]
      refine L_ref (As := [.int a1, .int a2, .int a3]) (rest := []) X hKr hW hS (rm_bounds l F D ct.1 cZ oo q R a1 a2 a3 R' hq2) (cwV 3 hts (gl_V km_L_91 ki_X7_bounds ks_X7_bounds kin_RX7 kc_X7_bounds) rfl rfl rfl (by decide +kernel) ⟨by decide, by decide⟩) hl rfl rfl (by decide) dL_law_679 ⟨by dsimp only [room_1]; omega, by dsimp only [room_1]; omega⟩ rfl (fun H locs hW hz hS => ?_)
      have hsim := sim_sN hsim hz
      refine lv_aload_n hx hb dL_law_682 rfl (lv_at hl 3 rfl) ?_
      refine L_ref (As := []) (rest := []) X hKr hW hS (rm_thrown l F D ct.1 cZ oo q R' (R'.1 0) rfl) (cwV 0 hts (gl_V km_L_67 ki_X7_thrown ks_X7_thrown kin_RX7 kc_X7_thrown) rfl rfl rfl (by decide +kernel) ⟨by decide, by decide⟩) hl rfl rfl (by decide) dL_law_683 ⟨by dsimp only [room_1]; omega, by dsimp only [room_1]; omega⟩ rfl (fun H locs hW hz hS => ?_)
      have hsim := sim_sN hsim hz
      refine lv_iload hx hb dL_law_686 (lv_at hl 0 rfl) ?_
      refine lv_icmp_eq (tgt := 693) hx hb dL_law_688 (by decide) (fun hc1 => ?_) (fun hc1 => absurd hkk.symm hc1)
      refine lv_goto (tgt := 1061) hx hb dL_law_693 (by decide) ?_
      exact hend _ _ (by omega) (by omega) _ _ _ _ _ _ _ hsim hW hS (lv_sub hl [1, 2, 3, 4, 5] rfl)
    by_cases hw7 : w = 7
    · refine lv_tableIn (tgt := 696) hx hb dL_law_40 (by rw [hw7]; decide) (by rw [hw7]; decide) (off := 656) (by rw [hw7]; decide) (by decide) ?_
      obtain ⟨res, r, R', hq1, hq2, hkd, hkk, hvr, hsim⟩ := sim_purge F hF a1 hsim
      refine lv_aload_n hx hb dL_law_696 rfl (lv_at hl 1 rfl) ?_
      refine lv_aload_n hx hb dL_law_697 rfl (lv_at hl 0 rfl) ?_
      refine lv_iload hx hb dL_law_698 (lv_at hl 4 rfl) ?_
      refine lv_iconst (v := 1) hx hb dL_law_700 (by decide) ?_
      refine lv_iadd hx hb dL_law_701 ?_
      refine va_sld hx hb hX hbl hbA hS hv1 dL_law_702 ?_
      rw [← ea1]
      refine lv_aload_n hx hb dL_law_703 rfl (lv_at hl 3 rfl) ?_
      refine L_wrap (As := [.ref x, .int a1, .ref u]) (rest := []) X Z hW hS rfl (wm_purge l F hl0 D ct cJ s.heap.size G S x u f a1 hW.2.2.2.2.2.2 (fun a ha => c_in hW.1 ha) (by rw [← hW.1.2.2.1]; exact hS.1) hW.2.2.2.2.2.1 res hq1 hkd) (vx_cwSW 3 hts (gl_S km_L_92 kst_L_purge kin_RL kc_L_purge) rfl rfl rfl (by decide +kernel) ⟨by decide, by decide⟩) hl rfl rfl (by decide) dL_law_704 ⟨by dsimp only [room_1]; omega, by dsimp only [room_1]; omega⟩ (fun G H locs hW hz hS => ?_)
      have hsim := sim_sN hsim hz
      refine lv_istore (lv' := [(5, .int (wk1 res)), (0, .ref b), (1, .ref x), (2, .ref oo), (3, .ref u), (4, .int (nI k))]) hx hb dL_law_707 hl (by decide) rfl (fun ls hl => ?_)
      refine lv_aload_n hx hb dL_law_709 rfl (lv_at hl 3 rfl) ?_
      refine lv_aload_n hx hb dL_law_710 rfl (lv_at hl 1 rfl) ?_
      refine lv_iload hx hb dL_law_711 (lv_at hl 5 rfl) ?_
      refine lv_iconst (v := 1) hx hb dL_law_713 (by decide) ?_
      refine lv_iadd hx hb dL_law_714 ?_
      refine va_sld hx hb hX hbl hbA hS hv1 dL_law_715 ?_
      rw [← ea1]
      refine L_ref (As := [.int a1]) (rest := []) X hKr hW hS (rm_purge l F D ct.1 cZ oo q R a1 r R' hq2) (cwV 1 hts (gl_V km_L_95 ki_X7_purge ks_X7_purge kin_RX7 kc_X7_purge) rfl rfl rfl (by decide +kernel) ⟨by decide, by decide⟩) hl rfl rfl (by decide) dL_law_716 ⟨by dsimp only [room_1]; omega, by dsimp only [room_1]; omega⟩ rfl (fun H locs hW hz hS => ?_)
      have hsim := sim_sN hsim hz
      refine lv_istore (lv' := [(6, .int r), (5, .int (wk1 res)), (0, .ref b), (1, .ref x), (2, .ref oo), (3, .ref u), (4, .int (nI k))]) hx hb dL_law_719 hl (by decide) rfl (fun ls hl => ?_)
      refine lv_aload_n hx hb dL_law_721 rfl (lv_at hl 4 rfl) ?_
      refine L_ref (As := []) (rest := []) X hKr hW hS (rm_thrown l F D ct.1 cZ oo q R' (R'.1 0) rfl) (cwV 0 hts (gl_V km_L_67 ki_X7_thrown ks_X7_thrown kin_RX7 kc_X7_thrown) rfl rfl rfl (by decide +kernel) ⟨by decide, by decide⟩) hl rfl rfl (by decide) dL_law_722 ⟨by dsimp only [room_1]; omega, by dsimp only [room_1]; omega⟩ rfl (fun H locs hW hz hS => ?_)
      have hsim := sim_sN hsim hz
      refine lv_iload hx hb dL_law_725 (lv_at hl 1 rfl) ?_
      refine lv_icmp_eq (tgt := 732) hx hb dL_law_727 (by decide) (fun hc1 => ?_) (fun hc1 => absurd hkk.symm hc1)
      refine lv_iload hx hb dL_law_732 (lv_at hl 1 rfl) ?_
      refine lv_if_ne (tgt := 749) hx hb dL_law_734 (by decide) (fun hc2 => ?_) (fun hc2 => ?_)
      · refine lv_goto (tgt := 1061) hx hb dL_law_749 (by decide) ?_
        exact hend _ _ (by omega) (by omega) _ _ _ _ _ _ _ hsim hW hS (lv_sub hl [2, 3, 4, 5, 6] rfl)
      obtain ⟨v, S9, hres⟩ : ∃ v S9, res = .inr (v, S9) := law_res1 hc2
      have hvr := hvr v S9 hres
      refine lv_aload_n hx hb dL_law_737 rfl (lv_at hl 5 rfl) ?_
      refine lv_iconst (v := 0) hx hb dL_law_738 (by decide) ?_
      refine L_lald X Z hW dL_law_739 ?_
      refine lv_iload hx hb dL_law_740 (lv_at hl 0 rfl) ?_
      refine lv_i2l (v := r.toInt64) hx hb dL_law_742 rfl ?_
      refine W.lcmp hx hb dL_law_743 ?_
      refine lv_if_eq (tgt := 749) hx hb dL_law_744 (by decide) (fun hc3 => ?_) (fun hc3 => ?_)
      · refine lv_goto (tgt := 1061) hx hb dL_law_749 (by decide) ?_
        exact hend _ _ (by omega) (by omega) _ _ _ _ _ _ _ hsim hW hS (lv_sub hl [2, 3, 4, 5, 6] rfl)
      · exact absurd (law_out hres hvr) hc3
    by_cases hw8 : w = 8
    · refine lv_tableIn (tgt := 752) hx hb dL_law_40 (by rw [hw8]; decide) (by rw [hw8]; decide) (off := 712) (by rw [hw8]; decide) (by decide) ?_
      obtain ⟨r, R', hq1, hq2, hsim⟩ := sim_tags F hF hsim
      refine lv_aload_n hx hb dL_law_752 rfl (lv_at hl 1 rfl) ?_
      refine L_cls (As := []) (rest := []) X hW hS rfl (cm_X6_tags l F D ct G S x hW.2.2.2.2.2.2 r hq1) (cwV 0 hts (gl_V km_L_96 ki_X6_tags ks_X6_tags kin_RX6 kc_X6_tags) rfl rfl rfl (by decide +kernel) ⟨by decide, by decide⟩) hl rfl rfl (by decide) dL_law_753 ⟨by dsimp only [room_1]; omega, by dsimp only [room_1]; omega⟩ rfl (fun H locs hW hS => ?_)
      refine lv_aload_n hx hb dL_law_756 rfl (lv_at hl 2 rfl) ?_
      refine L_ref (As := []) (rest := [.int r]) X hKr hW hS (rm_tags l F D ct.1 cZ oo q R r R' hq2) (cwV 0 hts (gl_V km_L_99 ki_X7_tags ks_X7_tags kin_RX7 kc_X7_tags) rfl rfl rfl (by decide +kernel) ⟨by decide, by decide⟩) hl rfl rfl (Nat.le_of_ble_eq_true rfl) dL_law_757 ⟨by dsimp only [room_1]; omega, by dsimp only [room_1]; omega⟩ rfl (fun H locs hW hz hS => ?_)
      refine lv_icmp_eq (tgt := 1061) hx hb dL_law_760 (by decide) (fun hc9 => ?_) (fun hc9 => ?_)
      · exact hend cc cs (by omega) (by omega) _ _ _ _ _ _ _ (sim_sN hsim hz) hW hS hl
      · exact absurd rfl hc9
    by_cases hw9 : w = 9
    · refine lv_tableIn (tgt := 765) hx hb dL_law_40 (by rw [hw9]; decide) (by rw [hw9]; decide) (off := 725) (by rw [hw9]; decide) (by decide) ?_
      obtain ⟨res, r, R', hq1, hq2, hkd, hkk, hvr, hsim⟩ := sim_count F hF a1 a2 hsim
      refine lv_aload_n hx hb dL_law_765 rfl (lv_at hl 1 rfl) ?_
      refine lv_aload_n hx hb dL_law_766 rfl (lv_at hl 0 rfl) ?_
      refine lv_iload hx hb dL_law_767 (lv_at hl 4 rfl) ?_
      refine lv_iconst (v := 1) hx hb dL_law_769 (by decide) ?_
      refine lv_iadd hx hb dL_law_770 ?_
      refine va_sld hx hb hX hbl hbA hS hv1 dL_law_771 ?_
      rw [← ea1]
      refine lv_aload_n hx hb dL_law_772 rfl (lv_at hl 0 rfl) ?_
      refine lv_iload hx hb dL_law_773 (lv_at hl 4 rfl) ?_
      refine lv_iconst (v := 2) hx hb dL_law_775 (by decide) ?_
      refine lv_iadd hx hb dL_law_776 ?_
      refine va_sld hx hb hX hbl hbA hS hv2 dL_law_777 ?_
      rw [← ea2]
      refine lv_aload_n hx hb dL_law_778 rfl (lv_at hl 3 rfl) ?_
      refine L_wrap (As := [.ref x, .int a1, .int a2, .ref u]) (rest := []) X Z hW hS rfl (wm_count l F hl0 D ct cJ s.heap.size G S x u f a1 a2 hW.2.2.2.2.2.2 (fun a ha => c_in hW.1 ha) (by rw [← hW.1.2.2.1]; exact hS.1) hW.2.2.2.2.2.1 res hq1 hkd) (vx_cwSW 4 hts (gl_S km_L_100 kst_L_count kin_RL kc_L_count) rfl rfl rfl (by decide +kernel) ⟨by decide, by decide⟩) hl rfl rfl (by decide) dL_law_779 ⟨by dsimp only [room_1]; omega, by dsimp only [room_1]; omega⟩ (fun G H locs hW hz hS => ?_)
      have hsim := sim_sN hsim hz
      refine lv_istore (lv' := [(5, .int (wk2 res)), (0, .ref b), (1, .ref x), (2, .ref oo), (3, .ref u), (4, .int (nI k))]) hx hb dL_law_782 hl (by decide) rfl (fun ls hl => ?_)
      refine lv_aload_n hx hb dL_law_784 rfl (lv_at hl 3 rfl) ?_
      refine lv_aload_n hx hb dL_law_785 rfl (lv_at hl 1 rfl) ?_
      refine lv_iload hx hb dL_law_786 (lv_at hl 5 rfl) ?_
      refine lv_iconst (v := 1) hx hb dL_law_788 (by decide) ?_
      refine lv_iadd hx hb dL_law_789 ?_
      refine va_sld hx hb hX hbl hbA hS hv1 dL_law_790 ?_
      rw [← ea1]
      refine lv_aload_n hx hb dL_law_791 rfl (lv_at hl 1 rfl) ?_
      refine lv_iload hx hb dL_law_792 (lv_at hl 5 rfl) ?_
      refine lv_iconst (v := 2) hx hb dL_law_794 (by decide) ?_
      refine lv_iadd hx hb dL_law_795 ?_
      refine va_sld hx hb hX hbl hbA hS hv2 dL_law_796 ?_
      rw [← ea2]
      refine L_ref (As := [.int a1, .int a2]) (rest := []) X hKr hW hS (rm_count l F D ct.1 cZ oo q R a1 a2 r R' hq2) (cwV 2 hts (gl_V km_L_103 ki_X7_count ks_X7_count kin_RX7 kc_X7_count) rfl rfl rfl (by decide +kernel) ⟨by decide, by decide⟩) hl rfl rfl (by decide) dL_law_797 ⟨by dsimp only [room_1]; omega, by dsimp only [room_1]; omega⟩ rfl (fun H locs hW hz hS => ?_)
      have hsim := sim_sN hsim hz
      refine lv_istore (lv' := [(6, .int r), (5, .int (wk2 res)), (0, .ref b), (1, .ref x), (2, .ref oo), (3, .ref u), (4, .int (nI k))]) hx hb dL_law_800 hl (by decide) rfl (fun ls hl => ?_)
      refine lv_aload_n hx hb dL_law_802 rfl (lv_at hl 4 rfl) ?_
      refine L_ref (As := []) (rest := []) X hKr hW hS (rm_thrown l F D ct.1 cZ oo q R' (R'.1 0) rfl) (cwV 0 hts (gl_V km_L_67 ki_X7_thrown ks_X7_thrown kin_RX7 kc_X7_thrown) rfl rfl rfl (by decide +kernel) ⟨by decide, by decide⟩) hl rfl rfl (by decide) dL_law_803 ⟨by dsimp only [room_1]; omega, by dsimp only [room_1]; omega⟩ rfl (fun H locs hW hz hS => ?_)
      have hsim := sim_sN hsim hz
      refine lv_iload hx hb dL_law_806 (lv_at hl 1 rfl) ?_
      refine lv_icmp_eq (tgt := 813) hx hb dL_law_808 (by decide) (fun hc1 => ?_) (fun hc1 => absurd hkk.symm hc1)
      refine lv_iload hx hb dL_law_813 (lv_at hl 1 rfl) ?_
      refine lv_if_ne (tgt := 830) hx hb dL_law_815 (by decide) (fun hc2 => ?_) (fun hc2 => ?_)
      · refine lv_goto (tgt := 1061) hx hb dL_law_830 (by decide) ?_
        exact hend _ _ (by omega) (by omega) _ _ _ _ _ _ _ hsim hW hS (lv_sub hl [2, 3, 4, 5, 6] rfl)
      obtain ⟨v, S9, hres⟩ : ∃ v S9, res = .inr (v, S9) := law_res2 hc2
      have hvr := hvr v S9 hres
      refine lv_aload_n hx hb dL_law_818 rfl (lv_at hl 5 rfl) ?_
      refine lv_iconst (v := 0) hx hb dL_law_819 (by decide) ?_
      refine L_lald X Z hW dL_law_820 ?_
      refine lv_iload hx hb dL_law_821 (lv_at hl 0 rfl) ?_
      refine lv_i2l (v := r.toInt64) hx hb dL_law_823 rfl ?_
      refine W.lcmp hx hb dL_law_824 ?_
      refine lv_if_eq (tgt := 830) hx hb dL_law_825 (by decide) (fun hc3 => ?_) (fun hc3 => ?_)
      · refine lv_goto (tgt := 1061) hx hb dL_law_830 (by decide) ?_
        exact hend _ _ (by omega) (by omega) _ _ _ _ _ _ _ hsim hW hS (lv_sub hl [2, 3, 4, 5, 6] rfl)
      · exact absurd (law_out hres hvr) hc3
    by_cases hw10 : w = 10
    · refine lv_tableIn (tgt := 833) hx hb dL_law_40 (by rw [hw10]; decide) (by rw [hw10]; decide) (off := 793) (by rw [hw10]; decide) (by decide) ?_
      obtain ⟨res, r, R', hq1, hq2, hkd, hkk, hvr, hsim⟩ := sim_segment F hF a1 a2 a3 hsim
      refine lv_aload_n hx hb dL_law_833 rfl (lv_at hl 1 rfl) ?_
      refine lv_aload_n hx hb dL_law_834 rfl (lv_at hl 0 rfl) ?_
      refine lv_iload hx hb dL_law_835 (lv_at hl 4 rfl) ?_
      refine lv_iconst (v := 1) hx hb dL_law_837 (by decide) ?_
      refine lv_iadd hx hb dL_law_838 ?_
      refine va_sld hx hb hX hbl hbA hS hv1 dL_law_839 ?_
      rw [← ea1]
      refine lv_aload_n hx hb dL_law_840 rfl (lv_at hl 0 rfl) ?_
      refine lv_iload hx hb dL_law_841 (lv_at hl 4 rfl) ?_
      refine lv_iconst (v := 2) hx hb dL_law_843 (by decide) ?_
      refine lv_iadd hx hb dL_law_844 ?_
      refine va_sld hx hb hX hbl hbA hS hv2 dL_law_845 ?_
      rw [← ea2]
      refine lv_aload_n hx hb dL_law_846 rfl (lv_at hl 0 rfl) ?_
      refine lv_iload hx hb dL_law_847 (lv_at hl 4 rfl) ?_
      refine lv_iconst (v := 3) hx hb dL_law_849 (by decide) ?_
      refine lv_iadd hx hb dL_law_850 ?_
      refine va_sld hx hb hX hbl hbA hS hv3 dL_law_851 ?_
      rw [← ea3]
      refine lv_aload_n hx hb dL_law_852 rfl (lv_at hl 3 rfl) ?_
      refine L_wrap (As := [.ref x, .int a1, .int a2, .int a3, .ref u]) (rest := []) X Z hW hS rfl (wm_segment l F hl0 D ct cJ s.heap.size G S x u f a1 a2 a3 hW.2.2.2.2.2.2 (fun a ha => c_in hW.1 ha) (by rw [← hW.1.2.2.1]; exact hS.1) hW.2.2.2.2.2.1 res hq1 hkd) (vx_cwSW 5 hts (gl_S km_L_104 kst_L_segment kin_RL kc_L_segment) rfl rfl rfl (by decide +kernel) ⟨by decide, by decide⟩) hl rfl rfl (by decide) dL_law_853 ⟨by dsimp only [room_1]; omega, by dsimp only [room_1]; omega⟩ (fun G H locs hW hz hS => ?_)
      have hsim := sim_sN hsim hz
      refine lv_istore (lv' := [(5, .int (wk2 res)), (0, .ref b), (1, .ref x), (2, .ref oo), (3, .ref u), (4, .int (nI k))]) hx hb dL_law_856 hl (by decide) rfl (fun ls hl => ?_)
      refine lv_aload_n hx hb dL_law_858 rfl (lv_at hl 3 rfl) ?_
      refine lv_aload_n hx hb dL_law_859 rfl (lv_at hl 1 rfl) ?_
      refine lv_iload hx hb dL_law_860 (lv_at hl 5 rfl) ?_
      refine lv_iconst (v := 1) hx hb dL_law_862 (by decide) ?_
      refine lv_iadd hx hb dL_law_863 ?_
      refine va_sld hx hb hX hbl hbA hS hv1 dL_law_864 ?_
      rw [← ea1]
      refine lv_aload_n hx hb dL_law_865 rfl (lv_at hl 1 rfl) ?_
      refine lv_iload hx hb dL_law_866 (lv_at hl 5 rfl) ?_
      refine lv_iconst (v := 2) hx hb dL_law_868 (by decide) ?_
      refine lv_iadd hx hb dL_law_869 ?_
      refine va_sld hx hb hX hbl hbA hS hv2 dL_law_870 ?_
      rw [← ea2]
      refine lv_aload_n hx hb dL_law_871 rfl (lv_at hl 1 rfl) ?_
      refine lv_iload hx hb dL_law_872 (lv_at hl 5 rfl) ?_
      refine lv_iconst (v := 3) hx hb dL_law_874 (by decide) ?_
      refine lv_iadd hx hb dL_law_875 ?_
      refine va_sld hx hb hX hbl hbA hS hv3 dL_law_876 ?_
      rw [← ea3]
      refine L_ref (As := [.int a1, .int a2, .int a3]) (rest := []) X hKr hW hS (rm_segment l F D ct.1 cZ oo q R a1 a2 a3 r R' hq2) (cwV 3 hts (gl_V km_L_106 ki_X7_segment ks_X7_segment kin_RX7 kc_X7_segment) rfl rfl rfl (by decide +kernel) ⟨by decide, by decide⟩) hl rfl rfl (by decide) dL_law_877 ⟨by dsimp only [room_1]; omega, by dsimp only [room_1]; omega⟩ rfl (fun H locs hW hz hS => ?_)
      have hsim := sim_sN hsim hz
      refine lv_istore (lv' := [(6, .int r), (5, .int (wk2 res)), (0, .ref b), (1, .ref x), (2, .ref oo), (3, .ref u), (4, .int (nI k))]) hx hb dL_law_880 hl (by decide) rfl (fun ls hl => ?_)
      refine lv_aload_n hx hb dL_law_882 rfl (lv_at hl 4 rfl) ?_
      refine L_ref (As := []) (rest := []) X hKr hW hS (rm_thrown l F D ct.1 cZ oo q R' (R'.1 0) rfl) (cwV 0 hts (gl_V km_L_67 ki_X7_thrown ks_X7_thrown kin_RX7 kc_X7_thrown) rfl rfl rfl (by decide +kernel) ⟨by decide, by decide⟩) hl rfl rfl (by decide) dL_law_883 ⟨by dsimp only [room_1]; omega, by dsimp only [room_1]; omega⟩ rfl (fun H locs hW hz hS => ?_)
      have hsim := sim_sN hsim hz
      refine lv_iload hx hb dL_law_886 (lv_at hl 1 rfl) ?_
      refine lv_icmp_eq (tgt := 893) hx hb dL_law_888 (by decide) (fun hc1 => ?_) (fun hc1 => absurd hkk.symm hc1)
      refine lv_iload hx hb dL_law_893 (lv_at hl 1 rfl) ?_
      refine lv_if_ne (tgt := 910) hx hb dL_law_895 (by decide) (fun hc2 => ?_) (fun hc2 => ?_)
      · refine lv_goto (tgt := 1061) hx hb dL_law_910 (by decide) ?_
        exact hend _ _ (by omega) (by omega) _ _ _ _ _ _ _ hsim hW hS (lv_sub hl [2, 3, 4, 5, 6] rfl)
      obtain ⟨v, S9, hres⟩ : ∃ v S9, res = .inr (v, S9) := law_res2 hc2
      have hvr := hvr v S9 hres
      refine lv_aload_n hx hb dL_law_898 rfl (lv_at hl 5 rfl) ?_
      refine lv_iconst (v := 0) hx hb dL_law_899 (by decide) ?_
      refine L_lald X Z hW dL_law_900 ?_
      refine lv_iload hx hb dL_law_901 (lv_at hl 0 rfl) ?_
      refine lv_i2l (v := r.toInt64) hx hb dL_law_903 rfl ?_
      refine W.lcmp hx hb dL_law_904 ?_
      refine lv_if_eq (tgt := 910) hx hb dL_law_905 (by decide) (fun hc3 => ?_) (fun hc3 => ?_)
      · refine lv_goto (tgt := 1061) hx hb dL_law_910 (by decide) ?_
        exact hend _ _ (by omega) (by omega) _ _ _ _ _ _ _ hsim hW hS (lv_sub hl [2, 3, 4, 5, 6] rfl)
      · exact absurd (law_out hres hvr) hc3
    by_cases hw11 : w = 11
    · refine lv_tableIn (tgt := 913) hx hb dL_law_40 (by rw [hw11]; decide) (by rw [hw11]; decide) (off := 873) (by rw [hw11]; decide) (by decide) ?_
      obtain ⟨res, r, R', hq1, hq2, hkd, hkk, hvr, hsim⟩ := sim_cache F hF a1 a2 a3 hsim
      refine lv_aload_n hx hb dL_law_913 rfl (lv_at hl 1 rfl) ?_
      refine lv_aload_n hx hb dL_law_914 rfl (lv_at hl 0 rfl) ?_
      refine lv_iload hx hb dL_law_915 (lv_at hl 4 rfl) ?_
      refine lv_iconst (v := 1) hx hb dL_law_917 (by decide) ?_
      refine lv_iadd hx hb dL_law_918 ?_
      refine va_sld hx hb hX hbl hbA hS hv1 dL_law_919 ?_
      rw [← ea1]
      refine lv_aload_n hx hb dL_law_920 rfl (lv_at hl 0 rfl) ?_
      refine lv_iload hx hb dL_law_921 (lv_at hl 4 rfl) ?_
      refine lv_iconst (v := 2) hx hb dL_law_923 (by decide) ?_
      refine lv_iadd hx hb dL_law_924 ?_
      refine va_sld hx hb hX hbl hbA hS hv2 dL_law_925 ?_
      rw [← ea2]
      refine lv_aload_n hx hb dL_law_926 rfl (lv_at hl 0 rfl) ?_
      refine lv_iload hx hb dL_law_927 (lv_at hl 4 rfl) ?_
      refine lv_iconst (v := 3) hx hb dL_law_929 (by decide) ?_
      refine lv_iadd hx hb dL_law_930 ?_
      refine va_sld hx hb hX hbl hbA hS hv3 dL_law_931 ?_
      rw [← ea3]
      refine lv_aload_n hx hb dL_law_932 rfl (lv_at hl 3 rfl) ?_
      refine L_wrap (As := [.ref x, .int a1, .int a2, .int a3, .ref u]) (rest := []) X Z hW hS rfl (wm_cache l F hl0 D ct cJ s.heap.size G S x u f a1 a2 a3 hW.2.2.2.2.2.2 (fun a ha => c_in hW.1 ha) (by rw [← hW.1.2.2.1]; exact hS.1) hW.2.2.2.2.2.1 res hq1 hkd) (vx_cwSW 5 hts (gl_S km_L_107 kst_L_cache kin_RL kc_L_cache) rfl rfl rfl (by decide +kernel) ⟨by decide, by decide⟩) hl rfl rfl (by decide) dL_law_933 ⟨by dsimp only [room_1]; omega, by dsimp only [room_1]; omega⟩ (fun G H locs hW hz hS => ?_)
      have hsim := sim_sN hsim hz
      refine lv_istore (lv' := [(5, .int (wk2 res)), (0, .ref b), (1, .ref x), (2, .ref oo), (3, .ref u), (4, .int (nI k))]) hx hb dL_law_936 hl (by decide) rfl (fun ls hl => ?_)
      refine lv_aload_n hx hb dL_law_938 rfl (lv_at hl 3 rfl) ?_
      refine lv_aload_n hx hb dL_law_939 rfl (lv_at hl 1 rfl) ?_
      refine lv_iload hx hb dL_law_940 (lv_at hl 5 rfl) ?_
      refine lv_iconst (v := 1) hx hb dL_law_942 (by decide) ?_
      refine lv_iadd hx hb dL_law_943 ?_
      refine va_sld hx hb hX hbl hbA hS hv1 dL_law_944 ?_
      rw [← ea1]
      refine lv_aload_n hx hb dL_law_945 rfl (lv_at hl 1 rfl) ?_
      refine lv_iload hx hb dL_law_946 (lv_at hl 5 rfl) ?_
      refine lv_iconst (v := 2) hx hb dL_law_948 (by decide) ?_
      refine lv_iadd hx hb dL_law_949 ?_
      refine va_sld hx hb hX hbl hbA hS hv2 dL_law_950 ?_
      rw [← ea2]
      refine lv_aload_n hx hb dL_law_951 rfl (lv_at hl 1 rfl) ?_
      refine lv_iload hx hb dL_law_952 (lv_at hl 5 rfl) ?_
      refine lv_iconst (v := 3) hx hb dL_law_954 (by decide) ?_
      refine lv_iadd hx hb dL_law_955 ?_
      refine va_sld hx hb hX hbl hbA hS hv3 dL_law_956 ?_
      rw [← ea3]
      refine L_ref (As := [.int a1, .int a2, .int a3]) (rest := []) X hKr hW hS (rm_cache l F D ct.1 cZ oo q R a1 a2 a3 r R' hq2) (cwV 3 hts (gl_V km_L_109 ki_X7_cache ks_X7_cache kin_RX7 kc_X7_cache) rfl rfl rfl (by decide +kernel) ⟨by decide, by decide⟩) hl rfl rfl (by decide) dL_law_957 ⟨by dsimp only [room_1]; omega, by dsimp only [room_1]; omega⟩ rfl (fun H locs hW hz hS => ?_)
      have hsim := sim_sN hsim hz
      refine lv_istore (lv' := [(6, .int r), (5, .int (wk2 res)), (0, .ref b), (1, .ref x), (2, .ref oo), (3, .ref u), (4, .int (nI k))]) hx hb dL_law_960 hl (by decide) rfl (fun ls hl => ?_)
      refine lv_aload_n hx hb dL_law_962 rfl (lv_at hl 4 rfl) ?_
      refine L_ref (As := []) (rest := []) X hKr hW hS (rm_thrown l F D ct.1 cZ oo q R' (R'.1 0) rfl) (cwV 0 hts (gl_V km_L_67 ki_X7_thrown ks_X7_thrown kin_RX7 kc_X7_thrown) rfl rfl rfl (by decide +kernel) ⟨by decide, by decide⟩) hl rfl rfl (by decide) dL_law_963 ⟨by dsimp only [room_1]; omega, by dsimp only [room_1]; omega⟩ rfl (fun H locs hW hz hS => ?_)
      have hsim := sim_sN hsim hz
      refine lv_iload hx hb dL_law_966 (lv_at hl 1 rfl) ?_
      refine lv_icmp_eq (tgt := 973) hx hb dL_law_968 (by decide) (fun hc1 => ?_) (fun hc1 => absurd hkk.symm hc1)
      refine lv_iload hx hb dL_law_973 (lv_at hl 1 rfl) ?_
      refine lv_if_ne (tgt := 990) hx hb dL_law_975 (by decide) (fun hc2 => ?_) (fun hc2 => ?_)
      · refine lv_goto (tgt := 1061) hx hb dL_law_990 (by decide) ?_
        exact hend _ _ (by omega) (by omega) _ _ _ _ _ _ _ hsim hW hS (lv_sub hl [2, 3, 4, 5, 6] rfl)
      obtain ⟨v, S9, hres⟩ : ∃ v S9, res = .inr (v, S9) := law_res2 hc2
      have hvr := hvr v S9 hres
      refine lv_aload_n hx hb dL_law_978 rfl (lv_at hl 5 rfl) ?_
      refine lv_iconst (v := 0) hx hb dL_law_979 (by decide) ?_
      refine L_lald X Z hW dL_law_980 ?_
      refine lv_iload hx hb dL_law_981 (lv_at hl 0 rfl) ?_
      refine lv_i2l (v := r.toInt64) hx hb dL_law_983 rfl ?_
      refine W.lcmp hx hb dL_law_984 ?_
      refine lv_if_eq (tgt := 990) hx hb dL_law_985 (by decide) (fun hc3 => ?_) (fun hc3 => ?_)
      · refine lv_goto (tgt := 1061) hx hb dL_law_990 (by decide) ?_
        exact hend _ _ (by omega) (by omega) _ _ _ _ _ _ _ hsim hW hS (lv_sub hl [2, 3, 4, 5, 6] rfl)
      · exact absurd (law_out hres hvr) hc3
    by_cases hw12 : w = 12
    · refine lv_tableIn (tgt := 993) hx hb dL_law_40 (by rw [hw12]; decide) (by rw [hw12]; decide) (off := 953) (by rw [hw12]; decide) (by decide) ?_
      obtain ⟨res, r, R', hq1, hq2, hkd, hkk, hvr, hsim⟩ := sim_where F hF a1 a2 hsim
      refine lv_aload_n hx hb dL_law_993 rfl (lv_at hl 1 rfl) ?_
      refine lv_aload_n hx hb dL_law_994 rfl (lv_at hl 0 rfl) ?_
      refine lv_iload hx hb dL_law_995 (lv_at hl 4 rfl) ?_
      refine lv_iconst (v := 1) hx hb dL_law_997 (by decide) ?_
      refine lv_iadd hx hb dL_law_998 ?_
      refine va_sld hx hb hX hbl hbA hS hv1 dL_law_999 ?_
      rw [← ea1]
      refine lv_aload_n hx hb dL_law_1000 rfl (lv_at hl 0 rfl) ?_
      refine lv_iload hx hb dL_law_1001 (lv_at hl 4 rfl) ?_
      refine lv_iconst (v := 2) hx hb dL_law_1003 (by decide) ?_
      refine lv_iadd hx hb dL_law_1004 ?_
      refine va_sld hx hb hX hbl hbA hS hv2 dL_law_1005 ?_
      rw [← ea2]
      refine lv_aload_n hx hb dL_law_1006 rfl (lv_at hl 3 rfl) ?_
      refine L_wrap (As := [.ref x, .int a1, .int a2, .ref u]) (rest := []) X Z hW hS rfl (wm_where l F hl0 D ct cJ s.heap.size G S x u f a1 a2 hW.2.2.2.2.2.2 (fun a ha => c_in hW.1 ha) (by rw [← hW.1.2.2.1]; exact hS.1) hW.2.2.2.2.2.1 res hq1 hkd) (vx_cwSW 4 hts (gl_S km_L_110 kst_L_where kin_RL kc_L_where) rfl rfl rfl (by decide +kernel) ⟨by decide, by decide⟩) hl rfl rfl (by decide) dL_law_1007 ⟨by dsimp only [room_1]; omega, by dsimp only [room_1]; omega⟩ (fun G H locs hW hz hS => ?_)
      have hsim := sim_sN hsim hz
      refine lv_istore (lv' := [(5, .int (wk1 res)), (0, .ref b), (1, .ref x), (2, .ref oo), (3, .ref u), (4, .int (nI k))]) hx hb dL_law_1010 hl (by decide) rfl (fun ls hl => ?_)
      refine lv_aload_n hx hb dL_law_1012 rfl (lv_at hl 3 rfl) ?_
      refine lv_aload_n hx hb dL_law_1013 rfl (lv_at hl 1 rfl) ?_
      refine lv_iload hx hb dL_law_1014 (lv_at hl 5 rfl) ?_
      refine lv_iconst (v := 1) hx hb dL_law_1016 (by decide) ?_
      refine lv_iadd hx hb dL_law_1017 ?_
      refine va_sld hx hb hX hbl hbA hS hv1 dL_law_1018 ?_
      rw [← ea1]
      refine lv_aload_n hx hb dL_law_1019 rfl (lv_at hl 1 rfl) ?_
      refine lv_iload hx hb dL_law_1020 (lv_at hl 5 rfl) ?_
      refine lv_iconst (v := 2) hx hb dL_law_1022 (by decide) ?_
      refine lv_iadd hx hb dL_law_1023 ?_
      refine va_sld hx hb hX hbl hbA hS hv2 dL_law_1024 ?_
      rw [← ea2]
      refine L_ref (As := [.int a1, .int a2]) (rest := []) X hKr hW hS (rm_where l F D ct.1 cZ oo q R a1 a2 r R' hq2) (cwV 2 hts (gl_V km_L_112 ki_X7_where ks_X7_where kin_RX7 kc_X7_where) rfl rfl rfl (by decide +kernel) ⟨by decide, by decide⟩) hl rfl rfl (by decide) dL_law_1025 ⟨by dsimp only [room_1]; omega, by dsimp only [room_1]; omega⟩ rfl (fun H locs hW hz hS => ?_)
      have hsim := sim_sN hsim hz
      refine lv_istore (lv' := [(6, .int r), (5, .int (wk1 res)), (0, .ref b), (1, .ref x), (2, .ref oo), (3, .ref u), (4, .int (nI k))]) hx hb dL_law_1028 hl (by decide) rfl (fun ls hl => ?_)
      refine lv_aload_n hx hb dL_law_1030 rfl (lv_at hl 4 rfl) ?_
      refine L_ref (As := []) (rest := []) X hKr hW hS (rm_thrown l F D ct.1 cZ oo q R' (R'.1 0) rfl) (cwV 0 hts (gl_V km_L_67 ki_X7_thrown ks_X7_thrown kin_RX7 kc_X7_thrown) rfl rfl rfl (by decide +kernel) ⟨by decide, by decide⟩) hl rfl rfl (by decide) dL_law_1031 ⟨by dsimp only [room_1]; omega, by dsimp only [room_1]; omega⟩ rfl (fun H locs hW hz hS => ?_)
      have hsim := sim_sN hsim hz
      refine lv_iload hx hb dL_law_1034 (lv_at hl 1 rfl) ?_
      refine lv_icmp_eq (tgt := 1041) hx hb dL_law_1036 (by decide) (fun hc1 => ?_) (fun hc1 => absurd hkk.symm hc1)
      refine lv_iload hx hb dL_law_1041 (lv_at hl 1 rfl) ?_
      refine lv_if_ne (tgt := 1058) hx hb dL_law_1043 (by decide) (fun hc2 => ?_) (fun hc2 => ?_)
      · refine lv_goto (tgt := 1061) hx hb dL_law_1058 (by decide) ?_
        exact hend _ _ (by omega) (by omega) _ _ _ _ _ _ _ hsim hW hS (lv_sub hl [2, 3, 4, 5, 6] rfl)
      obtain ⟨v, S9, hres⟩ : ∃ v S9, res = .inr (v, S9) := law_res1 hc2
      have hvr := hvr v S9 hres
      refine lv_aload_n hx hb dL_law_1046 rfl (lv_at hl 5 rfl) ?_
      refine lv_iconst (v := 0) hx hb dL_law_1047 (by decide) ?_
      refine L_lald X Z hW dL_law_1048 ?_
      refine lv_iload hx hb dL_law_1049 (lv_at hl 0 rfl) ?_
      refine lv_i2l (v := r.toInt64) hx hb dL_law_1051 rfl ?_
      refine W.lcmp hx hb dL_law_1052 ?_
      refine lv_if_eq (tgt := 1058) hx hb dL_law_1053 (by decide) (fun hc3 => ?_) (fun hc3 => ?_)
      · refine lv_goto (tgt := 1061) hx hb dL_law_1058 (by decide) ?_
        exact hend _ _ (by omega) (by omega) _ _ _ _ _ _ _ hsim hW hS (lv_sub hl [2, 3, 4, 5, 6] rfl)
      · exact absurd (law_out hres hvr) hc3
    refine lv_tableOut (tgt := 1061) hx hb dL_law_40 (by have z0 := lv_neT hw0 (a := 0) (by decide); have z1 := lv_neT hw1 (a := 1) (by decide); have z2 := lv_neT hw2 (a := 2) (by decide); have z3 := lv_neT hw3 (a := 3) (by decide); have z4 := lv_neT hw4 (a := 4) (by decide); have z5 := lv_neT hw5 (a := 5) (by decide); have z6 := lv_neT hw6 (a := 6) (by decide); have z7 := lv_neT hw7 (a := 7) (by decide); have z8 := lv_neT hw8 (a := 8) (by decide); have z9 := lv_neT hw9 (a := 9) (by decide); have z10 := lv_neT hw10 (a := 10) (by decide); have z11 := lv_neT hw11 (a := 11) (by decide); have z12 := lv_neT hw12 (a := 12) (by decide); omega) (by decide) ?_
    exact hend cc cs (by omega) (by omega) _ _ _ _ _ _ _ hsim.drop hW hS hl
