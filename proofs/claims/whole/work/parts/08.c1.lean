abbrev cq_X0_init : List Cond := .code yX0_init cX0_init 7 none :: WS
abbrev cq_X0_isMultiple : List Cond := .code yX0_isMultiple cX0_isMultiple 2 (some .boolean) :: WS
abbrev cq_X0_isUnit : List Cond := .code yX0_isUnit cX0_isUnit 2 (some .boolean) :: WS
abbrev cq_X0_roundUp : List Cond := .code yX0_roundUp cX0_roundUp 2 (some .long) :: WS
abbrev cq_X0_cacheOf : List Cond := .code yX0_cacheOf cX0_cacheOf 2 (some (.object "RangeArenas$Cache")) :: WS
abbrev cq_X0_cacheFor : List Cond := .code yX0_cacheFor cX0_cacheFor 5 (some (.object "RangeArenas$Cache")) :: WS
abbrev cq_X0_listOf : List Cond := .code yX0_listOf cX0_listOf 2 (some .int) :: WS
abbrev cq_X0_listFor : List Cond := .code yX0_listFor cX0_listFor 2 (some .int) :: WS
abbrev cq_X0_tick : List Cond := .code yX0_tick cX0_tick 1 (some .int) :: WS
abbrev cq_X0_meets : List Cond := .code yX0_meets cX0_meets 4 (some .boolean) :: WS
abbrev cq_X0_open : List Cond := .code yX0_open cX0_open 5 (some (.object "RangeArenas$Segment")) :: WS
abbrev cq_X0_close : List Cond := .code yX0_close cX0_close 2 none :: WS
abbrev cq_X0_link : List Cond := .code yX0_link cX0_link 4 none :: WS
abbrev cq_X0_unlink : List Cond := .code yX0_unlink cX0_unlink 4 none :: WS
abbrev cq_X0_split : List Cond := .code yX0_split cX0_split 4 (some (.object "RangeArenas$Segment")) :: WS
abbrev cq_X0_occupy : List Cond := .code yX0_occupy cX0_occupy 4 none :: WS
abbrev cq_X0_carve : List Cond := .code yX0_carve cX0_carve 5 (some (.object "RangeArenas$Segment")) :: WS
abbrev cq_X0_free : List Cond := .code yX0_free cX0_free 4 none :: WS
abbrev cq_X0_find : List Cond := .code yX0_find cX0_find 3 (some (.object "RangeArenas$Segment")) :: WS
abbrev cq_X0_findBest : List Cond := .code yX0_findBest cX0_findBest 4 (some (.object "RangeArenas$Segment")) :: WS
abbrev cq_X0_findInstant : List Cond := .code yX0_findInstant cX0_findInstant 5 (some (.object "RangeArenas$Segment")) :: WS
abbrev cq_X0_isAhead : List Cond := .code yX0_isAhead cX0_isAhead 5 (some .boolean) :: WS
abbrev cq_X0_findNext : List Cond := .code yX0_findNext cX0_findNext 4 (some (.object "RangeArenas$Segment")) :: WS
abbrev cq_X0_leastWithin : List Cond := .code yX0_leastWithin cX0_leastWithin 5 (some (.object "RangeArenas$Segment")) :: WS
abbrev cq_X0_nth : List Cond := .code yX0_nth cX0_nth 4 (some (.object "RangeArenas$Segment")) :: WS
abbrev cq_X0_holding : List Cond := .code yX0_holding cX0_holding 3 (some (.object "RangeArenas$Segment")) :: WS
abbrev cq_X0_segmentFrom : List Cond := .code yX0_segmentFrom cX0_segmentFrom 7 (some (.object "RangeArenas$Segment")) :: WS
abbrev cq_X0_slabHolding : List Cond := .code yX0_slabHolding cX0_slabHolding 4 (some (.object "RangeArenas$Segment")) :: WS
abbrev cq_X0_slabWithLying : List Cond := .code yX0_slabWithLying cX0_slabWithLying 3 (some (.object "RangeArenas$Segment")) :: WS
abbrev cq_X0_idleSlab : List Cond := .code yX0_idleSlab cX0_idleSlab 3 (some (.object "RangeArenas$Segment")) :: WS
abbrev cq_X0_aheadOf : List Cond := .code yX0_aheadOf cX0_aheadOf 5 (some .int) :: WS
abbrev cq_X0_segmentsOf : List Cond := .code yX0_segmentsOf cX0_segmentsOf 4 (some .int) :: WS
abbrev cq_X0_numbersOf : List Cond := .code yX0_numbersOf cX0_numbersOf 4 (some .int) :: WS
abbrev cq_X0_numbersInHeldObjects : List Cond := .code yX0_numbersInHeldObjects cX0_numbersInHeldObjects 3 (some .int) :: WS
abbrev cq_X0_objectsHeld : List Cond := .code yX0_objectsHeld cX0_objectsHeld 4 (some .int) :: WS
abbrev cq_X0_objectsLying : List Cond := .code yX0_objectsLying cX0_objectsLying 4 (some .int) :: WS
abbrev cq_X0_slabsOf : List Cond := .code yX0_slabsOf cX0_slabsOf 4 (some .int) :: WS
abbrev cq_X1_init : List Cond := .code yX1_init cX1_init 6 none :: WS
abbrev cq_X1_baseIn : List Cond := .code yX1_baseIn cX1_baseIn 6 (some .long) :: WS
abbrev cq_X1_alignedFrom : List Cond := .code yX1_alignedFrom cX1_alignedFrom 3 (some .long) :: WS
abbrev cq_X1_multipleAbove : List Cond := .code yX1_multipleAbove cX1_multipleAbove 3 (some .long) :: WS
abbrev cq_X1_crosses : List Cond := .code yX1_crosses cX1_crosses 3 (some .boolean) :: WS
abbrev cq_X2_init : List Cond := .code yX2_init cX2_init 2 none :: WS
abbrev cq_X2_deskAt : List Cond := .code yX2_deskAt cX2_deskAt 2 (some (.object "RangeArenas$Desk")) :: WS
abbrev cq_X3_init : List Cond := .code yX3_init cX3_init 1 none :: WS
abbrev cq_X3_exchange : List Cond := .code yX3_exchange cX3_exchange 2 none :: WS
abbrev cq_X3_load : List Cond := .code yX3_load cX3_load 2 none :: WS
abbrev cq_X3_makeRoom : List Cond := .code yX3_makeRoom cX3_makeRoom 2 none :: WS
abbrev cq_X4_init : List Cond := .code yX4_init cX4_init 1 none :: WS
abbrev cq_X4_top : List Cond := .code yX4_top cX4_top 1 (some .int) :: WS
abbrev cq_X4_put : List Cond := .code yX4_put cX4_put 2 none :: WS
abbrev cq_X4_pull : List Cond := .code yX4_pull cX4_pull 2 (some .int) :: WS
abbrev cq_X4_moveMagazine : List Cond := .code yX4_moveMagazine cX4_moveMagazine 3 none :: WS
abbrev cq_X5_init : List Cond := .code yX5_init cX5_init 5 none :: WS
abbrev cq_X5_isFreeFor : List Cond := .code yX5_isFreeFor cX5_isFreeFor 3 (some .boolean) :: WS
abbrev cq_X5_isFreeIn : List Cond := .code yX5_isFreeIn cX5_isFreeIn 2 (some .boolean) :: WS
abbrev cq_X5_isSlabOf : List Cond := .code yX5_isSlabOf cX5_isSlabOf 2 (some .boolean) :: WS
abbrev cq_X5_fill : List Cond := .code yX5_fill cX5_fill 2 none :: WS
abbrev cq_X5_objectAt : List Cond := .code yX5_objectAt cX5_objectAt 3 (some .int) :: WS
abbrev cq_X5_baseOf : List Cond := .code yX5_baseOf cX5_baseOf 2 (some .int) :: WS
abbrev cq_X5_isHeld : List Cond := .code yX5_isHeld cX5_isHeld 2 (some .boolean) :: WS
abbrev cq_X5_hold : List Cond := .code yX5_hold cX5_hold 2 none :: WS
abbrev cq_X5_drop : List Cond := .code yX5_drop cX5_drop 2 none :: WS
abbrev cq_X5_lay : List Cond := .code yX5_lay cX5_lay 2 none :: WS
abbrev cq_X5_holdLowestLying : List Cond := .code yX5_holdLowestLying cX5_holdLowestLying 2 (some .int) :: WS
abbrev cq_X6_init : List Cond := .code yX6_init cX6_init 1 none :: WS
abbrev cq_X6_make : List Cond := .code yX6_make cX6_make 6 (some .int) :: WS
abbrev cq_X6_add : List Cond := .code yX6_add cX6_add 6 (some .int) :: WS
abbrev cq_X6_take : List Cond := .code yX6_take cX6_take 10 (some .int) :: WS
abbrev cq_X6_give : List Cond := .code yX6_give cX6_give 10 (some .int) :: WS
abbrev cq_X6_takeWithin : List Cond := .code yX6_takeWithin cX6_takeWithin 9 (some .int) :: WS
abbrev cq_X6_giveWithin : List Cond := .code yX6_giveWithin cX6_giveWithin 5 (some .int) :: WS
abbrev cq_X6_bounds : List Cond := .code yX6_bounds cX6_bounds 5 none :: WS
abbrev cq_X6_purge : List Cond := .code yX6_purge cX6_purge 2 (some .int) :: WS
abbrev cq_X6_tags : List Cond := .code yX6_tags cX6_tags 1 (some .int) :: WS
abbrev cq_X6_count : List Cond := .code yX6_count cX6_count 4 (some .int) :: WS
abbrev cq_X6_segment : List Cond := .code yX6_segment cX6_segment 6 (some .int) :: WS
abbrev cq_X6_cache : List Cond := .code yX6_cache cX6_cache 6 (some .int) :: WS
abbrev cq_X6_where : List Cond := .code yX6_where cX6_where 4 (some .int) :: WS
abbrev cq_X6_isPowerOfTwo : List Cond := .code yX6_isPowerOfTwo cX6_isPowerOfTwo 1 (some .boolean) :: WS
abbrev cq_X6_isDesk : List Cond := .code yX6_isDesk cX6_isDesk 1 (some .boolean) :: WS
abbrev cq_X6_arenaOrNull : List Cond := .code yX6_arenaOrNull cX6_arenaOrNull 2 (some (.object "RangeArenas$Arena")) :: WS
abbrev cq_X6_arenaAt : List Cond := .code yX6_arenaAt cX6_arenaAt 3 (some (.object "RangeArenas$Arena")) :: WS
abbrev cq_X6_tagsLeft : List Cond := .code yX6_tagsLeft cX6_tagsLeft 4 (some .int) :: WS
abbrev cq_X6_isFull : List Cond := .code yX6_isFull cX6_isFull 1 (some .boolean) :: WS
abbrev cq_X6_obtain : List Cond := .code yX6_obtain cX6_obtain 8 (some (.object "RangeArenas$Segment")) :: WS
abbrev cq_X6_importSpan : List Cond := .code yX6_importSpan cX6_importSpan 5 (some (.object "RangeArenas$Segment")) :: WS
abbrev cq_X6_release : List Cond := .code yX6_release cX6_release 6 none :: WS
abbrev cq_X6_giveSegment : List Cond := .code yX6_giveSegment cX6_giveSegment 6 (some .boolean) :: WS
abbrev cq_X6_takeLoaded : List Cond := .code yX6_takeLoaded cX6_takeLoaded 6 (some .int) :: WS
abbrev cq_X6_takeLying : List Cond := .code yX6_takeLying cX6_takeLying 3 (some .int) :: WS
abbrev cq_X6_giveObject : List Cond := .code yX6_giveObject cX6_giveObject 7 (some .boolean) :: WS
abbrev cq_X6_sweep : List Cond := .code yX6_sweep cX6_sweep 5 (some .int) :: WS
abbrev cq_X6_layAll : List Cond := .code yX6_layAll cX6_layAll 6 none :: WS
abbrev cq_J6_numberOfLeadingZeros_0f7a4 : List Cond := .code yJ6_numberOfLeadingZeros_0f7a4 cJ6_numberOfLeadingZeros_0f7a4 2 (some .int) :: WS
abbrev cq_J6_numberOfTrailingZeros_0f7a4 : List Cond := .code yJ6_numberOfTrailingZeros_0f7a4 cJ6_numberOfTrailingZeros_0f7a4 2 (some .int) :: WS
abbrev cq_J6_bitCount_0f7a4 : List Cond := .code yJ6_bitCount_0f7a4 cJ6_bitCount_0f7a4 1 (some .int) :: WS
theorem hd_0 (ct : ClassId × ClassId × ClassId) (S : Cst) : ccell ct 0 (nO S) (nx S) = .inr (0, [.int 0, .int 0, .int 0, .null, .int 0, .int 0, .null, .null, .int 0, .int 0, .int 0, .int 0, .int 0, .int 0, .int 0, .int 0]) := by
  show (Sum.inr (0, [.int (gI (nO S) 0 (nx S)), .int (gI (nO S) 1 (nx S)), .int (gI (nO S) 2 (nx S)), va_rf (gP (nO S) 3 (nx S)), .int (gI (nO S) 4 (nx S)), .int (gI (nO S) 5 (nx S)), va_rf (gP (nO S) 6 (nx S)), va_rf (gP (nO S) 7 (nx S)), .int (gI (nO S) 8 (nx S)), .int (gI (nO S) 9 (nx S)), .int (gI (nO S) 10 (nx S)), .int (gI (nO S) 11 (nx S)), .int (gI (nO S) 12 (nx S)), .int (gI (nO S) 13 (nx S)), .int (gI (nO S) 14 (nx S)), .int (gI (nO S) 15 (nx S))]) : va_E) = _
  simp only [gI, gP, gJ, nO, va_up_self, va_rf]
theorem hdv_0 : ∀ j, j < 16 → defaultValue (tyX0 j) = vp_V [.int 0, .int 0, .int 0, .null, .int 0, .int 0, .null, .null, .int 0, .int 0, .int 0, .int 0, .int 0, .int 0, .int 0, .int 0] j := by decide +kernel
theorem hd_1 (ct : ClassId × ClassId × ClassId) (S : Cst) : ccell ct 1 (nO S) (nx S) = .inr (1, [.long 0, .int 0, .int 0, .int 0, .int 0, .int 0]) := by
  show (Sum.inr (1, [.long (gJ (nO S) 16 (nx S)), .int (gI (nO S) 17 (nx S)), .int (gI (nO S) 18 (nx S)), .int (gI (nO S) 19 (nx S)), .int (gI (nO S) 20 (nx S)), .int (gI (nO S) 21 (nx S))]) : va_E) = _
  simp only [gI, gP, gJ, nO, va_up_self, va_rf]
theorem hdv_1 : ∀ j, j < 6 → defaultValue (tyX1 j) = vp_V [.long 0, .int 0, .int 0, .int 0, .int 0, .int 0] j := by decide +kernel
theorem hd_2 (ct : ClassId × ClassId × ClassId) (S : Cst) : ccell ct 2 (nO S) (nx S) = .inr (2, [.int 0, .null, .null, .null]) := by
  show (Sum.inr (2, [.int (gI (nO S) 32 (nx S)), va_rf (gP (nO S) 33 (nx S)), va_rf (gP (nO S) 34 (nx S)), va_rf (gP (nO S) 35 (nx S))]) : va_E) = _
  simp only [gI, gP, gJ, nO, va_up_self, va_rf]
theorem hdv_2 : ∀ j, j < 4 → defaultValue (tyX2 j) = vp_V [.int 0, .null, .null, .null] j := by decide +kernel
theorem hd_3 (ct : ClassId × ClassId × ClassId) (S : Cst) : ccell ct 3 (nO S) (nx S) = .inr (3, [.null, .null]) := by
  show (Sum.inr (3, [va_rf (gP (nO S) 48 (nx S)), va_rf (gP (nO S) 49 (nx S))]) : va_E) = _
  simp only [gI, gP, gJ, nO, va_up_self, va_rf]
theorem hdv_3 : ∀ j, j < 2 → defaultValue (tyX3 j) = vp_V [.null, .null] j := by decide +kernel
theorem hd_4 (ct : ClassId × ClassId × ClassId) (S : Cst) : ccell ct 4 (nO S) (nx S) = .inr (4, [.null, .int 0]) := by
  show (Sum.inr (4, [va_rf (gP (nO S) 64 (nx S)), .int (gI (nO S) 65 (nx S))]) : va_E) = _
  simp only [gI, gP, gJ, nO, va_up_self, va_rf]
theorem hdv_4 : ∀ j, j < 2 → defaultValue (tyX4 j) = vp_V [.null, .int 0] j := by decide +kernel
theorem hd_5 (ct : ClassId × ClassId × ClassId) (S : Cst) : ccell ct 5 (nO S) (nx S) = .inr (5, [.int 0, .int 0, .int 0, .int 0, .int 0, .int 0, .null, .null, .int 0, .int 0, .int 0, .int 0]) := by
  show (Sum.inr (5, [.int (gI (nO S) 80 (nx S)), .int (gI (nO S) 81 (nx S)), .int (gI (nO S) 82 (nx S)), .int (gI (nO S) 83 (nx S)), .int (gI (nO S) 84 (nx S)), .int (gI (nO S) 85 (nx S)), va_rf (gP (nO S) 86 (nx S)), va_rf (gP (nO S) 87 (nx S)), .int (gI (nO S) 88 (nx S)), .int (gI (nO S) 89 (nx S)), .int (gI (nO S) 90 (nx S)), .int (gI (nO S) 91 (nx S))]) : va_E) = _
  simp only [gI, gP, gJ, nO, va_up_self, va_rf]
theorem hdv_5 : ∀ j, j < 12 → defaultValue (tyX5 j) = vp_V [.int 0, .int 0, .int 0, .int 0, .int 0, .int 0, .null, .null, .int 0, .int 0, .int 0, .int 0] j := by decide +kernel
theorem hd_6 (ct : ClassId × ClassId × ClassId) (S : Cst) : ccell ct 6 (nO S) (nx S) = .inr (6, [.null, .int 0]) := by
  show (Sum.inr (6, [va_rf (gP (nO S) 96 (nx S)), .int (gI (nO S) 97 (nx S))]) : va_E) = _
  simp only [gI, gP, gJ, nO, va_up_self, va_rf]
theorem hdv_6 : ∀ j, j < 2 → defaultValue (tyX6 j) = vp_V [.null, .int 0] j := by decide +kernel
/-! J6_numberOfTrailingZeros_0f7a4 -/
def cf_J6_numberOfTrailingZeros_0f7a4_62 (F : Nat) (S : Cst) (x0 : Int32) (x1 : Int32) : Option Int32 := if x0 ≤ (4 : Int32) then (some (x1 + ((x0.toUInt32 >>> ((1 : Int32).toUInt32 &&& Int32.toUInt32 31)).toInt32))) else (some ((x1 + 2) + ((((x0.toUInt32 >>> ((2 : Int32).toUInt32 &&& Int32.toUInt32 31)).toInt32).toUInt32 >>> ((1 : Int32).toUInt32 &&& Int32.toUInt32 31)).toInt32)))
def cf_J6_numberOfTrailingZeros_0f7a4_49 (F : Nat) (S : Cst) (x0 : Int32) (x1 : Int32) : Option Int32 := if x0 ≤ (16 : Int32) then (cf_J6_numberOfTrailingZeros_0f7a4_62 F S x0 x1) else (cf_J6_numberOfTrailingZeros_0f7a4_62 F S ((x0.toUInt32 >>> ((4 : Int32).toUInt32 &&& Int32.toUInt32 31)).toInt32) (x1 + 4))
def cf_J6_numberOfTrailingZeros_0f7a4_34 (F : Nat) (S : Cst) (x0 : Int32) (x1 : Int32) : Option Int32 := if x0 ≤ (256 : Int32) then (cf_J6_numberOfTrailingZeros_0f7a4_49 F S x0 x1) else (cf_J6_numberOfTrailingZeros_0f7a4_49 F S ((x0.toUInt32 >>> ((8 : Int32).toUInt32 &&& Int32.toUInt32 31)).toInt32) (x1 + 8))
def cf_J6_numberOfTrailingZeros_0f7a4 (F : Nat) (S : Cst) (x0 : Int32) : Option Int32 := if 0 < ((x0 ^^^ (-1)) &&& (x0 - 1)) then (if ((x0 ^^^ (-1)) &&& (x0 - 1)) ≤ (65536 : Int32) then (cf_J6_numberOfTrailingZeros_0f7a4_34 F S ((x0 ^^^ (-1)) &&& (x0 - 1)) (1 : Int32)) else (cf_J6_numberOfTrailingZeros_0f7a4_34 F S ((((x0 ^^^ (-1)) &&& (x0 - 1)).toUInt32 >>> ((16 : Int32).toUInt32 &&& Int32.toUInt32 31)).toInt32) (1 + 16))) else (some (((x0 ^^^ (-1)) &&& (x0 - 1)) &&& 32))
set_option maxHeartbeats 4000000 in
set_option maxRecDepth 100000 in
theorem cm_J6_numberOfTrailingZeros_0f7a4 (l : Launch) (F : Nat) (D : va_G) (ct : ClassId × ClassId × ClassId) (G : Gam) (S : Cst) (x0 : Int32)  (r : Int32) (hf : cf_J6_numberOfTrailingZeros_0f7a4 F S x0 = some r) : cMet l yJ6_numberOfTrailingZeros_0f7a4 cq_J6_numberOfTrailingZeros_0f7a4 { frames := 0, cells := 0, slots := 0, locals := 0 } D ct G [.int x0] S (some (.int r)) (cF D ct G (fun _ => True) S) (0) (0) := by
  refine cMet_of (own := RJ6) (cc := cJ6_numberOfTrailingZeros_0f7a4) (maxL := 2) (ret := (some .int)) (by decide) rfl rfl (Nat.le_of_ble_eq_true rfl) ?_
  intro p e s m below meth c X hr hlk hnm ls A hl hB hA hS
  have hx := X.1.1
  have hb := X.1.2.1
  have hown := X.1.2.2.2.1
  have hts := X.1.2.2.2.2
  have hl : lv_has ls 2 [(0, .int x0)] := hl
  generalize hargs : ([.int x0] : List Value).toArray = args at X hts hS ⊢
  have J_62 : ∀ (x0 : Int32) (x1 : Int32), cf_J6_numberOfTrailingZeros_0f7a4_62 F S x0 x1 = some r → ∀ (H : Heap) (locs : List Loc) (ls : Array Slot), cB D ct G A S H → va_S A s.heap H locs → lv_has ls 2 [(0, .int x0), (1, .int x1)] → W p l e { frames := 0, cells := 0, slots := 0, locals := 0 } s m args below meth c H locs (0) (0) (MQ below (mq (some (.int r)) (cF D ct G (fun _ => True) S) A) args s (0) (0) A) (F0 m 62 ls []) := by
    intro x0 x1 hf H locs ls hB hS hl
    unfold cf_J6_numberOfTrailingZeros_0f7a4_62 at hf
    refine lv_iload_n hx hb dJ6_numberOfTrailingZeros_0f7a4_62 rfl (lv_at hl 0 rfl) ?_
    refine lv_iconst (v := 4) hx hb dJ6_numberOfTrailingZeros_0f7a4_63 (by decide) ?_
    refine lv_icmp_le (tgt := 74) hx hb dJ6_numberOfTrailingZeros_0f7a4_64 (by decide) (fun hc5 => ?_) (fun hc5 => ?_)
    · have hf := if_t hf hc5
      refine lv_iload_n hx hb dJ6_numberOfTrailingZeros_0f7a4_74 rfl (lv_at hl 1 rfl) ?_
      refine lv_iload_n hx hb dJ6_numberOfTrailingZeros_0f7a4_75 rfl (lv_at hl 0 rfl) ?_
      refine lv_iconst (v := 1) hx hb dJ6_numberOfTrailingZeros_0f7a4_76 (by decide) ?_
      refine lv_iushr (v := (x0.toUInt32 >>> ((1 : Int32).toUInt32 &&& Int32.toUInt32 31)).toInt32) hx hb dJ6_numberOfTrailingZeros_0f7a4_77 rfl ?_
      refine lv_iadd hx hb dJ6_numberOfTrailingZeros_0f7a4_78 ?_
      obtain rfl := Option.some.inj hf
      exact W.iret hx hb hr (fun t ht hW => c_endF X hB trivial hS ht hW) hS.2.2 dJ6_numberOfTrailingZeros_0f7a4_79 hlk
    · have hf := if_f hf hc5
      refine lv_iinc (v := x1 + 2) (lv' := [(1, .int (x1 + 2)), (0, .int x0)]) hx hb dJ6_numberOfTrailingZeros_0f7a4_67 hl (k := 1) rfl rfl (by decide) rfl (fun ls hl => ?_)
      refine lv_iload_n hx hb dJ6_numberOfTrailingZeros_0f7a4_70 rfl (lv_at hl 1 rfl) ?_
      refine lv_iconst (v := 2) hx hb dJ6_numberOfTrailingZeros_0f7a4_71 (by decide) ?_
      refine lv_iushr (v := (x0.toUInt32 >>> ((2 : Int32).toUInt32 &&& Int32.toUInt32 31)).toInt32) hx hb dJ6_numberOfTrailingZeros_0f7a4_72 rfl ?_
      refine lv_istore_n (lv' := [(0, .int ((x0.toUInt32 >>> ((2 : Int32).toUInt32 &&& Int32.toUInt32 31)).toInt32)), (1, .int (x1 + 2))]) hx hb dJ6_numberOfTrailingZeros_0f7a4_73 rfl hl (by decide) rfl (fun ls hl => ?_)
      refine lv_iload_n hx hb dJ6_numberOfTrailingZeros_0f7a4_74 rfl (lv_at hl 1 rfl) ?_
      refine lv_iload_n hx hb dJ6_numberOfTrailingZeros_0f7a4_75 rfl (lv_at hl 0 rfl) ?_
      refine lv_iconst (v := 1) hx hb dJ6_numberOfTrailingZeros_0f7a4_76 (by decide) ?_
      refine lv_iushr (v := (((x0.toUInt32 >>> ((2 : Int32).toUInt32 &&& Int32.toUInt32 31)).toInt32).toUInt32 >>> ((1 : Int32).toUInt32 &&& Int32.toUInt32 31)).toInt32) hx hb dJ6_numberOfTrailingZeros_0f7a4_77 rfl ?_
      refine lv_iadd hx hb dJ6_numberOfTrailingZeros_0f7a4_78 ?_
      obtain rfl := Option.some.inj hf
      exact W.iret hx hb hr (fun t ht hW => c_endF X hB trivial hS ht hW) hS.2.2 dJ6_numberOfTrailingZeros_0f7a4_79 hlk
  have J_49 : ∀ (x0 : Int32) (x1 : Int32), cf_J6_numberOfTrailingZeros_0f7a4_49 F S x0 x1 = some r → ∀ (H : Heap) (locs : List Loc) (ls : Array Slot), cB D ct G A S H → va_S A s.heap H locs → lv_has ls 2 [(0, .int x0), (1, .int x1)] → W p l e { frames := 0, cells := 0, slots := 0, locals := 0 } s m args below meth c H locs (0) (0) (MQ below (mq (some (.int r)) (cF D ct G (fun _ => True) S) A) args s (0) (0) A) (F0 m 49 ls []) := by
    intro x0 x1 hf H locs ls hB hS hl
    unfold cf_J6_numberOfTrailingZeros_0f7a4_49 at hf
    refine lv_iload_n hx hb dJ6_numberOfTrailingZeros_0f7a4_49 rfl (lv_at hl 0 rfl) ?_
    refine lv_bipush (v := 16) hx hb dJ6_numberOfTrailingZeros_0f7a4_50 (by decide) ?_
    refine lv_icmp_le (tgt := 62) hx hb dJ6_numberOfTrailingZeros_0f7a4_52 (by decide) (fun hc4 => ?_) (fun hc4 => ?_)
    · have hf := if_t hf hc4
      exact J_62 x0 x1 hf _ _ _ hB hS (lv_sub hl [0, 1] rfl)
    · have hf := if_f hf hc4
      refine lv_iinc (v := x1 + 4) (lv' := [(1, .int (x1 + 4)), (0, .int x0)]) hx hb dJ6_numberOfTrailingZeros_0f7a4_55 hl (k := 1) rfl rfl (by decide) rfl (fun ls hl => ?_)
      refine lv_iload_n hx hb dJ6_numberOfTrailingZeros_0f7a4_58 rfl (lv_at hl 1 rfl) ?_
      refine lv_iconst (v := 4) hx hb dJ6_numberOfTrailingZeros_0f7a4_59 (by decide) ?_
      refine lv_iushr (v := (x0.toUInt32 >>> ((4 : Int32).toUInt32 &&& Int32.toUInt32 31)).toInt32) hx hb dJ6_numberOfTrailingZeros_0f7a4_60 rfl ?_
      refine lv_istore_n (lv' := [(0, .int ((x0.toUInt32 >>> ((4 : Int32).toUInt32 &&& Int32.toUInt32 31)).toInt32)), (1, .int (x1 + 4))]) hx hb dJ6_numberOfTrailingZeros_0f7a4_61 rfl hl (by decide) rfl (fun ls hl => ?_)
      exact J_62 ((x0.toUInt32 >>> ((4 : Int32).toUInt32 &&& Int32.toUInt32 31)).toInt32) (x1 + 4) hf _ _ _ hB hS (lv_sub hl [0, 1] rfl)
  have J_34 : ∀ (x0 : Int32) (x1 : Int32), cf_J6_numberOfTrailingZeros_0f7a4_34 F S x0 x1 = some r → ∀ (H : Heap) (locs : List Loc) (ls : Array Slot), cB D ct G A S H → va_S A s.heap H locs → lv_has ls 2 [(0, .int x0), (1, .int x1)] → W p l e { frames := 0, cells := 0, slots := 0, locals := 0 } s m args below meth c H locs (0) (0) (MQ below (mq (some (.int r)) (cF D ct G (fun _ => True) S) A) args s (0) (0) A) (F0 m 34 ls []) := by
    intro x0 x1 hf H locs ls hB hS hl
    unfold cf_J6_numberOfTrailingZeros_0f7a4_34 at hf
    refine lv_iload_n hx hb dJ6_numberOfTrailingZeros_0f7a4_34 rfl (lv_at hl 0 rfl) ?_
    refine lv_sipush (v := 256) hx hb dJ6_numberOfTrailingZeros_0f7a4_35 (by decide) ?_
    refine lv_icmp_le (tgt := 49) hx hb dJ6_numberOfTrailingZeros_0f7a4_38 (by decide) (fun hc3 => ?_) (fun hc3 => ?_)
    · have hf := if_t hf hc3
      exact J_49 x0 x1 hf _ _ _ hB hS (lv_sub hl [0, 1] rfl)
    · have hf := if_f hf hc3
      refine lv_iinc (v := x1 + 8) (lv' := [(1, .int (x1 + 8)), (0, .int x0)]) hx hb dJ6_numberOfTrailingZeros_0f7a4_41 hl (k := 1) rfl rfl (by decide) rfl (fun ls hl => ?_)
      refine lv_iload_n hx hb dJ6_numberOfTrailingZeros_0f7a4_44 rfl (lv_at hl 1 rfl) ?_
      refine lv_bipush (v := 8) hx hb dJ6_numberOfTrailingZeros_0f7a4_45 (by decide) ?_
      refine lv_iushr (v := (x0.toUInt32 >>> ((8 : Int32).toUInt32 &&& Int32.toUInt32 31)).toInt32) hx hb dJ6_numberOfTrailingZeros_0f7a4_47 rfl ?_
      refine lv_istore_n (lv' := [(0, .int ((x0.toUInt32 >>> ((8 : Int32).toUInt32 &&& Int32.toUInt32 31)).toInt32)), (1, .int (x1 + 8))]) hx hb dJ6_numberOfTrailingZeros_0f7a4_48 rfl hl (by decide) rfl (fun ls hl => ?_)
      exact J_49 ((x0.toUInt32 >>> ((8 : Int32).toUInt32 &&& Int32.toUInt32 31)).toInt32) (x1 + 8) hf _ _ _ hB hS (lv_sub hl [0, 1] rfl)
  unfold cf_J6_numberOfTrailingZeros_0f7a4 at hf
  refine lv_iload_n hx hb dJ6_numberOfTrailingZeros_0f7a4_0 rfl (lv_at hl 0 rfl) ?_
  refine lv_iconst (v := (-1)) hx hb dJ6_numberOfTrailingZeros_0f7a4_1 (by decide) ?_
  refine lv_ixor hx hb dJ6_numberOfTrailingZeros_0f7a4_2 ?_
  refine lv_iload_n hx hb dJ6_numberOfTrailingZeros_0f7a4_3 rfl (lv_at hl 0 rfl) ?_
  refine lv_iconst (v := 1) hx hb dJ6_numberOfTrailingZeros_0f7a4_4 (by decide) ?_
  refine lv_isub hx hb dJ6_numberOfTrailingZeros_0f7a4_5 ?_
  refine lv_iand hx hb dJ6_numberOfTrailingZeros_0f7a4_6 ?_
  refine lv_istore_n (lv' := [(0, .int ((x0 ^^^ (-1)) &&& (x0 - 1)))]) hx hb dJ6_numberOfTrailingZeros_0f7a4_7 rfl hl (by decide) rfl (fun ls hl => ?_)
  refine lv_iload_n hx hb dJ6_numberOfTrailingZeros_0f7a4_8 rfl (lv_at hl 0 rfl) ?_
  refine lv_if_gt (tgt := 17) hx hb dJ6_numberOfTrailingZeros_0f7a4_9 (by decide) (fun hc1 => ?_) (fun hc1 => ?_)
  · have hf := if_t hf hc1
    refine lv_iconst (v := 1) hx hb dJ6_numberOfTrailingZeros_0f7a4_17 (by decide) ?_
    refine lv_istore_n (lv' := [(1, .int 1), (0, .int ((x0 ^^^ (-1)) &&& (x0 - 1)))]) hx hb dJ6_numberOfTrailingZeros_0f7a4_18 rfl hl (by decide) rfl (fun ls hl => ?_)
    refine lv_iload_n hx hb dJ6_numberOfTrailingZeros_0f7a4_19 rfl (lv_at hl 1 rfl) ?_
    refine lv_ldcw (v := 65536) hx hb hown (hts (.constant RJ6 264 65536) (kw_m kk_J6_264)) dJ6_numberOfTrailingZeros_0f7a4_20 ?_
    refine lv_icmp_le (tgt := 34) hx hb dJ6_numberOfTrailingZeros_0f7a4_23 (by decide) (fun hc2 => ?_) (fun hc2 => ?_)
    · have hf := if_t hf hc2
      exact J_34 ((x0 ^^^ (-1)) &&& (x0 - 1)) (1 : Int32) hf _ _ _ hB hS (lv_sub hl [1, 0] rfl)
    · have hf := if_f hf hc2
      refine lv_iinc (v := 1 + 16) (lv' := [(1, .int (1 + 16)), (0, .int ((x0 ^^^ (-1)) &&& (x0 - 1)))]) hx hb dJ6_numberOfTrailingZeros_0f7a4_26 hl (k := 0) rfl rfl (by decide) rfl (fun ls hl => ?_)
      refine lv_iload_n hx hb dJ6_numberOfTrailingZeros_0f7a4_29 rfl (lv_at hl 1 rfl) ?_
      refine lv_bipush (v := 16) hx hb dJ6_numberOfTrailingZeros_0f7a4_30 (by decide) ?_
      refine lv_iushr (v := (((x0 ^^^ (-1)) &&& (x0 - 1)).toUInt32 >>> ((16 : Int32).toUInt32 &&& Int32.toUInt32 31)).toInt32) hx hb dJ6_numberOfTrailingZeros_0f7a4_32 rfl ?_
      refine lv_istore_n (lv' := [(0, .int ((((x0 ^^^ (-1)) &&& (x0 - 1)).toUInt32 >>> ((16 : Int32).toUInt32 &&& Int32.toUInt32 31)).toInt32)), (1, .int (1 + 16))]) hx hb dJ6_numberOfTrailingZeros_0f7a4_33 rfl hl (by decide) rfl (fun ls hl => ?_)
      exact J_34 ((((x0 ^^^ (-1)) &&& (x0 - 1)).toUInt32 >>> ((16 : Int32).toUInt32 &&& Int32.toUInt32 31)).toInt32) (1 + 16) hf _ _ _ hB hS (lv_sub hl [0, 1] rfl)
  · have hf := if_f hf hc1
    refine lv_iload_n hx hb dJ6_numberOfTrailingZeros_0f7a4_12 rfl (lv_at hl 0 rfl) ?_
    refine lv_bipush (v := 32) hx hb dJ6_numberOfTrailingZeros_0f7a4_13 (by decide) ?_
    refine lv_iand hx hb dJ6_numberOfTrailingZeros_0f7a4_15 ?_
    obtain rfl := Option.some.inj hf
    exact W.iret hx hb hr (fun t ht hW => c_endF X hB trivial hS ht hW) hS.2.2 dJ6_numberOfTrailingZeros_0f7a4_16 hlk
/-! X4_init -/
def cf_X4_init (F : Nat) (S : Cst) (this : Nat) : Option Cst := st1 (nx S) fun a1 => st1 (nA S 12) fun S2 => st1 (sP S2 64 this (some a1)) fun S3 => some S3
set_option maxHeartbeats 4000000 in
set_option maxRecDepth 100000 in
theorem cm_X4_init (l : Launch) (F : Nat) (D : va_G) (ct : ClassId × ClassId × ClassId) (G : Gam) (S : Cst) (this : Nat) (hk_this : ty G 4 this) (S' : Cst) (hf : cf_X4_init F S this = some S') : cMet l yX4_init cq_X4_init { frames := 1, cells := 1, slots := 12, locals := 40 } D ct G [.ref this] S none (cE D ct G (nx S) (fun _ => True) S') (1) (12) := by
  refine cMet_of (own := RX4) (cc := cX4_init) (maxL := 1) (ret := none) (by decide) rfl rfl (Nat.le_of_ble_eq_true rfl) ?_
  intro p e s m below meth c X hr hlk hnm ls A hl hB hA hS
  have hx := X.1.1
  have hb := X.1.2.1
  have hown := X.1.2.2.2.1
  have hts := X.1.2.2.2.2
  have hl : lv_has ls 1 [(0, .ref this)] := hl
  generalize hargs : ([.ref this] : List Value).toArray = args at X hts hS ⊢
  have hsz := hB.2.2.1
  obtain ⟨G0, eG0⟩ : ∃ z, z = G := ⟨_, rfl⟩
  obtain ⟨S0, eS0⟩ : ∃ z, z = S := ⟨_, rfl⟩
  have hext : ext G0 (nx S0) G := by rw [eG0]; exact ext_rf
  rw [← eS0] at hsz
  suffices hgoal : W p l e { frames := 1, cells := 1, slots := 12, locals := 40 } s m args below meth c s.heap [] 0 0 (MQ below (mq none (cE D ct G0 (nx S0) (fun _ => True) S') A) args s (1) (12) A) (F0 m 0 ls []) by rw [eG0, eS0] at hgoal; exact hgoal
  unfold cf_X4_init at hf
  refine lv_aload_n hx hb dX4_init_0 rfl (lv_at hl 0 rfl) ?_
  refine W.objInit hx hb hown (hts _ (kw_m km_X4_3)) (hts _ (kw_m kx_Cond_instanceMethod_objectInit)) (hts _ (kw_m kx_Cond_code_objectInit_0xb1_1_none)) rfl (by rw [X.1.2.2.1]; exact hl.1) rfl dX4_init_1 (by decide) (Nat.le_of_ble_eq_true rfl) ?_
  refine W.eq (g2 := F0 m 4 ls []) rfl ?_
  refine lv_aload_n hx hb dX4_init_4 rfl (lv_at hl 0 rfl) ?_
  refine lv_bipush (v := 12) hx hb dX4_init_5 (by decide) ?_
  obtain ⟨a1, ea1, hf⟩ := st1_s hf
  obtain ⟨S2, eS2, hf⟩ := st1_s hf
  have hle : nx S0 ≤ nx S := by rw [← hsz, ← hB.2.2.1]; exact hS.1
  refine c_newI X hB hS hA (X.2.2.1.2 0 _ rfl).2 (by decide) (N' := 12) (by decide) (by decide) (by dsimp only; omega) (by dsimp only; omega) dX4_init_7 (fun G H hx1 hk_a1 hB2 hS => ?_)
  have hext := hext.trans hx1 hle
  have hk_this := hx1.1 _ _ hk_this
  rw [← ea1] at hk_a1 ⊢
  rw [← eS2] at hB2
  have hB := hB2
  clear hB2
  obtain ⟨S3, eS3, hf⟩ := st1_s hf
  refine c_put X hB hS hk_this rfl rfl kw_X4 tyX4 tyX4_ok nmX4 0 9 (by decide) kf_X4_9 rfl (Or.inr ⟨rfl, hnm, rfl⟩) (fty := tyX4 0) (tyX4_ok 0 (by decide)) (fr_f (tyX4 0) (Or.inr ⟨_, rfl⟩) (some a1)).1 (fr_f (tyX4 0) (Or.inr ⟨_, rfl⟩) (some a1)).2 (Nat.le_of_ble_eq_true rfl) (cp_4_0 (some a1)) (fun κ b h => ccell_sP κ b h) rfl (wt_sP (κ := 8) hB.2.2.2 (by decide) (tyo_some hk_a1)) dX4_init_9 (fun H locs hB hS => ?_)
  rw [← eS3] at hB
  obtain rfl := Option.some.inj hf
  refine W.widen (k := 1) (n := 12) (by omega) (by omega) ?_
  exact W.vret hx hb hr (fun t ht hW => c_endE X hext hB trivial hS ht hW) hS.2.2 dX4_init_12 hlk
/-! X3_init -/
def cf_X3_init (F : Nat) (S : Cst) (this : Nat) : Option Cst := st1 (nx S) fun a1 => st1 (nO S) fun S2 => (cf_X4_init F S2 a1).bind fun S3 => st1 (sP S3 48 this (some a1)) fun S4 => st1 (nx S4) fun a5 => st1 (nO S4) fun S6 => (cf_X4_init F S6 a5).bind fun S7 => st1 (sP S7 49 this (some a5)) fun S8 => some S8
set_option maxHeartbeats 4000000 in
set_option maxRecDepth 100000 in
theorem cm_X3_init (l : Launch) (F : Nat) (D : va_G) (ct : ClassId × ClassId × ClassId) (G : Gam) (S : Cst) (this : Nat) (hk_this : ty G 3 this) (S' : Cst) (hf : cf_X3_init F S this = some S') : cMet l yX3_init cq_X3_init { frames := 2, cells := 4, slots := 28, locals := 60 } D ct G [.ref this] S none (cE D ct G (nx S) (fun _ => True) S') (4) (28) := by
  refine cMet_of (own := RX3) (cc := cX3_init) (maxL := 1) (ret := none) (by decide) rfl rfl (Nat.le_of_ble_eq_true rfl) ?_
  intro p e s m below meth c X hr hlk hnm ls A hl hB hA hS
  have hx := X.1.1
  have hb := X.1.2.1
  have hown := X.1.2.2.2.1
  have hts := X.1.2.2.2.2
  have hl : lv_has ls 1 [(0, .ref this)] := hl
  generalize hargs : ([.ref this] : List Value).toArray = args at X hts hS ⊢
  have hsz := hB.2.2.1
  obtain ⟨G0, eG0⟩ : ∃ z, z = G := ⟨_, rfl⟩
  obtain ⟨S0, eS0⟩ : ∃ z, z = S := ⟨_, rfl⟩
  have hext : ext G0 (nx S0) G := by rw [eG0]; exact ext_rf
  rw [← eS0] at hsz
  suffices hgoal : W p l e { frames := 2, cells := 4, slots := 28, locals := 60 } s m args below meth c s.heap [] 0 0 (MQ below (mq none (cE D ct G0 (nx S0) (fun _ => True) S') A) args s (4) (28) A) (F0 m 0 ls []) by rw [eG0, eS0] at hgoal; exact hgoal
  unfold cf_X3_init at hf
  refine lv_aload_n hx hb dX3_init_0 rfl (lv_at hl 0 rfl) ?_
  refine W.objInit hx hb hown (hts _ (kw_m km_X3_3)) (hts _ (kw_m kx_Cond_instanceMethod_objectInit)) (hts _ (kw_m kx_Cond_code_objectInit_0xb1_1_none)) rfl (by rw [X.1.2.2.1]; exact hl.1) rfl dX3_init_1 (by decide) (Nat.le_of_ble_eq_true rfl) ?_
  refine W.eq (g2 := F0 m 4 ls []) rfl ?_
  refine lv_aload_n hx hb dX3_init_4 rfl (lv_at hl 0 rfl) ?_
  obtain ⟨a1, ea1, hf⟩ := st1_s hf
  obtain ⟨S2, eS2, hf⟩ := st1_s hf
  have hle : nx S0 ≤ nx S := by rw [← hsz, ← hB.2.2.1]; exact hS.1
  refine c_newG X hB hS hA 4 rfl kw_X4 tyX4 tyX4_ok kcl_X3_9 kit_RX4 kin_RX4 (hd_4 ct S) (hdv_4) (by decide) (by dsimp only; omega) (by dsimp only; omega) dX3_init_5 (fun G H hx1 hk_a1 hB2 hS => ?_)
  have hext := hext.trans hx1 hle
  have hk_this := hx1.1 _ _ hk_this
  rw [← ea1] at hk_a1 ⊢
  rw [← eS2] at hB2
  have hB := hB2
  clear hB2
  refine lv_dup hx hb dX3_init_8 rfl ?_
  obtain ⟨S3, hqS3, hf⟩ := bn_s hf
  have hle : nx S0 ≤ nx S2 := by rw [← hsz, ← hB.2.2.1]; exact hS.1
  refine c_doE hB hS hA (va_runI (As := []) (rest := [.ref a1, .ref this]) X.1 (cm_X4_init l F D ct _ _ a1 hk_a1 _ hqS3) (cwI 0 hts (gd_w kc_X4_init) rfl rfl rfl (hts _ (kw_m kin_RX4)) (hts _ (kw_m km_X3_11)) (hts _ (kw_m ki_X4_init)) rfl (by decide +kernel) ⟨by dsimp only; omega, by dsimp only; omega⟩) (c_preS X hB) rfl rfl hl.1 rfl (lv_room (Nat.le_of_ble_eq_true rfl)) dX3_init_9 ⟨by dsimp only; omega, by dsimp only; omega⟩) rfl (fun G H locs hx1 hB2 hT hS => ?_)
  have hext := hext.trans hx1 hle
  have hk_a1 := hx1.1 _ _ hk_a1
  have hk_this := hx1.1 _ _ hk_this
  have hB := hB2
  clear hB2
  refine W.widen (k := 2) (n := 14) (by omega) (by omega) ?_
  obtain ⟨S4, eS4, hf⟩ := st1_s hf
  refine c_put X hB hS hk_this rfl rfl kw_X3 tyX3 tyX3_ok nmX3 0 12 (by decide) kf_X3_12 rfl (Or.inl rfl) (fty := tyX3 0) (tyX3_ok 0 (by decide)) (fr_f (tyX3 0) (Or.inl ⟨_, rfl⟩) (some a1)).1 (fr_f (tyX3 0) (Or.inl ⟨_, rfl⟩) (some a1)).2 (Nat.le_of_ble_eq_true rfl) (cp_3_0 (some a1)) (fun κ b h => ccell_sP κ b h) rfl (wt_sP (κ := 4) hB.2.2.2 (by decide) (tyo_some hk_a1)) dX3_init_12 (fun H locs hB hS => ?_)
  rw [← eS4] at hB
  refine lv_aload_n hx hb dX3_init_15 rfl (lv_at hl 0 rfl) ?_
  obtain ⟨a5, ea5, hf⟩ := st1_s hf
  obtain ⟨S6, eS6, hf⟩ := st1_s hf
  have hle : nx S0 ≤ nx S4 := by rw [← hsz, ← hB.2.2.1]; exact hS.1
  refine c_newG X hB hS hA 4 rfl kw_X4 tyX4 tyX4_ok kcl_X3_9 kit_RX4 kin_RX4 (hd_4 ct S4) (hdv_4) (by decide) (by dsimp only; omega) (by dsimp only; omega) dX3_init_16 (fun G H hx1 hk_a5 hB2 hS => ?_)
  have hext := hext.trans hx1 hle
  have hk_this := hx1.1 _ _ hk_this
  rw [← ea5] at hk_a5 ⊢
  rw [← eS6] at hB2
  have hB := hB2
  clear hB2
  refine lv_dup hx hb dX3_init_19 rfl ?_
  obtain ⟨S7, hqS7, hf⟩ := bn_s hf
  have hle : nx S0 ≤ nx S6 := by rw [← hsz, ← hB.2.2.1]; exact hS.1
  refine c_doE hB hS hA (va_runI (As := []) (rest := [.ref a5, .ref this]) X.1 (cm_X4_init l F D ct _ _ a5 hk_a5 _ hqS7) (cwI 0 hts (gd_w kc_X4_init) rfl rfl rfl (hts _ (kw_m kin_RX4)) (hts _ (kw_m km_X3_11)) (hts _ (kw_m ki_X4_init)) rfl (by decide +kernel) ⟨by dsimp only; omega, by dsimp only; omega⟩) (c_preS X hB) rfl rfl hl.1 rfl (lv_room (Nat.le_of_ble_eq_true rfl)) dX3_init_20 ⟨by dsimp only; omega, by dsimp only; omega⟩) rfl (fun G H locs hx1 hB2 hT hS => ?_)
  have hext := hext.trans hx1 hle
  have hk_a5 := hx1.1 _ _ hk_a5
  have hk_this := hx1.1 _ _ hk_this
  have hB := hB2
  clear hB2
  refine W.widen (k := 4) (n := 28) (by omega) (by omega) ?_
  obtain ⟨S8, eS8, hf⟩ := st1_s hf
  refine c_put X hB hS hk_this rfl rfl kw_X3 tyX3 tyX3_ok nmX3 1 18 (by decide) kf_X3_18 rfl (Or.inl rfl) (fty := tyX3 1) (tyX3_ok 1 (by decide)) (fr_f (tyX3 1) (Or.inl ⟨_, rfl⟩) (some a5)).1 (fr_f (tyX3 1) (Or.inl ⟨_, rfl⟩) (some a5)).2 (Nat.le_of_ble_eq_true rfl) (cp_3_1 (some a5)) (fun κ b h => ccell_sP κ b h) rfl (wt_sP (κ := 4) hB.2.2.2 (by decide) (tyo_some hk_a5)) dX3_init_23 (fun H locs hB hS => ?_)
  rw [← eS8] at hB
  obtain rfl := Option.some.inj hf
  refine W.widen (k := 4) (n := 28) (by omega) (by omega) ?_
  exact W.vret hx hb hr (fun t ht hW => c_endE X hext hB trivial hS ht hW) hS.2.2 dX3_init_26 hlk
/-! X2_init -/
def cf_X2_init (F : Nat) (S : Cst) (this : Nat) (x1 : Int32) : Option Cst := st1 (sI S 32 this x1) fun S1 => st1 (nx S1) fun a2 => st1 (nO S1) fun S3 => (cf_X3_init F S3 a2).bind fun S4 => st1 (sP S4 33 this (some a2)) fun S5 => st1 (nx S5) fun a6 => st1 (nO S5) fun S7 => (cf_X3_init F S7 a6).bind fun S8 => st1 (sP S8 34 this (some a6)) fun S9 => st1 (nx S9) fun a10 => st1 (nO S9) fun S11 => (cf_X4_init F S11 a10).bind fun S12 => st1 (sP S12 35 this (some a10)) fun S13 => some S13
set_option maxHeartbeats 4000000 in
set_option maxRecDepth 100000 in
theorem cm_X2_init (l : Launch) (F : Nat) (D : va_G) (ct : ClassId × ClassId × ClassId) (G : Gam) (S : Cst) (this : Nat) (x1 : Int32) (hk_this : ty G 2 this) (S' : Cst) (hf : cf_X2_init F S this x1 = some S') : cMet l yX2_init cq_X2_init { frames := 3, cells := 12, slots := 74, locals := 80 } D ct G [.ref this, .int x1] S none (cE D ct G (nx S) (fun _ => True) S') (12) (74) := by
  refine cMet_of (own := RX2) (cc := cX2_init) (maxL := 2) (ret := none) (by decide) rfl rfl (Nat.le_of_ble_eq_true rfl) ?_
  intro p e s m below meth c X hr hlk hnm ls A hl hB hA hS
  have hx := X.1.1
  have hb := X.1.2.1
  have hown := X.1.2.2.2.1
  have hts := X.1.2.2.2.2
  have hl : lv_has ls 2 [(0, .ref this), (1, .int x1)] := hl
  generalize hargs : ([.ref this, .int x1] : List Value).toArray = args at X hts hS ⊢
  have hsz := hB.2.2.1
  obtain ⟨G0, eG0⟩ : ∃ z, z = G := ⟨_, rfl⟩
  obtain ⟨S0, eS0⟩ : ∃ z, z = S := ⟨_, rfl⟩
  have hext : ext G0 (nx S0) G := by rw [eG0]; exact ext_rf
  rw [← eS0] at hsz
  suffices hgoal : W p l e { frames := 3, cells := 12, slots := 74, locals := 80 } s m args below meth c s.heap [] 0 0 (MQ below (mq none (cE D ct G0 (nx S0) (fun _ => True) S') A) args s (12) (74) A) (F0 m 0 ls []) by rw [eG0, eS0] at hgoal; exact hgoal
  unfold cf_X2_init at hf
  refine lv_aload_n hx hb dX2_init_0 rfl (lv_at hl 0 rfl) ?_
  refine W.objInit hx hb hown (hts _ (kw_m km_X2_1)) (hts _ (kw_m kx_Cond_instanceMethod_objectInit)) (hts _ (kw_m kx_Cond_code_objectInit_0xb1_1_none)) rfl (by rw [X.1.2.2.1]; exact hl.1) rfl dX2_init_1 (by decide) (Nat.le_of_ble_eq_true rfl) ?_
  refine W.eq (g2 := F0 m 4 ls []) rfl ?_
  refine lv_aload_n hx hb dX2_init_4 rfl (lv_at hl 0 rfl) ?_
  refine lv_iload_n hx hb dX2_init_5 rfl (lv_at hl 1 rfl) ?_
  obtain ⟨S1, eS1, hf⟩ := st1_s hf
  refine c_put X hB hS hk_this rfl rfl kw_X2 tyX2 tyX2_ok nmX2 0 7 (by decide) kf_X2_7 rfl (Or.inr ⟨rfl, hnm, rfl⟩) (fty := .int) rfl rfl rfl (Nat.le_of_ble_eq_true rfl) (cp_2_0 _) (fun κ b h => ccell_sI κ b h) rfl hB.2.2.2 dX2_init_6 (fun H locs hB hS => ?_)
  rw [← eS1] at hB
  refine lv_aload_n hx hb dX2_init_9 rfl (lv_at hl 0 rfl) ?_
  obtain ⟨a2, ea2, hf⟩ := st1_s hf
  obtain ⟨S3, eS3, hf⟩ := st1_s hf
  have hle : nx S0 ≤ nx S1 := by rw [← hsz, ← hB.2.2.1]; exact hS.1
  refine c_newG X hB hS hA 3 rfl kw_X3 tyX3 tyX3_ok kcl_X2_13 kit_RX3 kin_RX3 (hd_3 ct S1) (hdv_3) (by decide) (by dsimp only; omega) (by dsimp only; omega) dX2_init_10 (fun G H hx1 hk_a2 hB2 hS => ?_)
  have hext := hext.trans hx1 hle
  have hk_this := hx1.1 _ _ hk_this
  rw [← ea2] at hk_a2 ⊢
  rw [← eS3] at hB2
  have hB := hB2
  clear hB2
  refine lv_dup hx hb dX2_init_13 rfl ?_
  obtain ⟨S4, hqS4, hf⟩ := bn_s hf
  have hle : nx S0 ≤ nx S3 := by rw [← hsz, ← hB.2.2.1]; exact hS.1
  refine c_doE hB hS hA (va_runI (As := []) (rest := [.ref a2, .ref this]) X.1 (cm_X3_init l F D ct _ _ a2 hk_a2 _ hqS4) (cwI 0 hts (gd_w kc_X3_init) rfl rfl rfl (hts _ (kw_m kin_RX3)) (hts _ (kw_m km_X2_15)) (hts _ (kw_m ki_X3_init)) rfl (by decide +kernel) ⟨by dsimp only; omega, by dsimp only; omega⟩) (c_preS X hB) rfl rfl hl.1 rfl (lv_room (Nat.le_of_ble_eq_true rfl)) dX2_init_14 ⟨by dsimp only; omega, by dsimp only; omega⟩) rfl (fun G H locs hx1 hB2 hT hS => ?_)
  have hext := hext.trans hx1 hle
  have hk_a2 := hx1.1 _ _ hk_a2
  have hk_this := hx1.1 _ _ hk_this
  have hB := hB2
  clear hB2
  refine W.widen (k := 5) (n := 30) (by omega) (by omega) ?_
  obtain ⟨S5, eS5, hf⟩ := st1_s hf
  refine c_put X hB hS hk_this rfl rfl kw_X2 tyX2 tyX2_ok nmX2 1 16 (by decide) kf_X2_16 rfl (Or.inr ⟨rfl, hnm, rfl⟩) (fty := tyX2 1) (tyX2_ok 1 (by decide)) (fr_f (tyX2 1) (Or.inl ⟨_, rfl⟩) (some a2)).1 (fr_f (tyX2 1) (Or.inl ⟨_, rfl⟩) (some a2)).2 (Nat.le_of_ble_eq_true rfl) (cp_2_1 (some a2)) (fun κ b h => ccell_sP κ b h) rfl (wt_sP (κ := 3) hB.2.2.2 (by decide) (tyo_some hk_a2)) dX2_init_17 (fun H locs hB hS => ?_)
  rw [← eS5] at hB
  refine lv_aload_n hx hb dX2_init_20 rfl (lv_at hl 0 rfl) ?_
  obtain ⟨a6, ea6, hf⟩ := st1_s hf
  obtain ⟨S7, eS7, hf⟩ := st1_s hf
  have hle : nx S0 ≤ nx S5 := by rw [← hsz, ← hB.2.2.1]; exact hS.1
  refine c_newG X hB hS hA 3 rfl kw_X3 tyX3 tyX3_ok kcl_X2_13 kit_RX3 kin_RX3 (hd_3 ct S5) (hdv_3) (by decide) (by dsimp only; omega) (by dsimp only; omega) dX2_init_21 (fun G H hx1 hk_a6 hB2 hS => ?_)
  have hext := hext.trans hx1 hle
  have hk_this := hx1.1 _ _ hk_this
  rw [← ea6] at hk_a6 ⊢
  rw [← eS7] at hB2
  have hB := hB2
  clear hB2
  refine lv_dup hx hb dX2_init_24 rfl ?_
  obtain ⟨S8, hqS8, hf⟩ := bn_s hf
  have hle : nx S0 ≤ nx S7 := by rw [← hsz, ← hB.2.2.1]; exact hS.1
  refine c_doE hB hS hA (va_runI (As := []) (rest := [.ref a6, .ref this]) X.1 (cm_X3_init l F D ct _ _ a6 hk_a6 _ hqS8) (cwI 0 hts (gd_w kc_X3_init) rfl rfl rfl (hts _ (kw_m kin_RX3)) (hts _ (kw_m km_X2_15)) (hts _ (kw_m ki_X3_init)) rfl (by decide +kernel) ⟨by dsimp only; omega, by dsimp only; omega⟩) (c_preS X hB) rfl rfl hl.1 rfl (lv_room (Nat.le_of_ble_eq_true rfl)) dX2_init_25 ⟨by dsimp only; omega, by dsimp only; omega⟩) rfl (fun G H locs hx1 hB2 hT hS => ?_)
  have hext := hext.trans hx1 hle
  have hk_a6 := hx1.1 _ _ hk_a6
  have hk_this := hx1.1 _ _ hk_this
  have hB := hB2
  clear hB2
  refine W.widen (k := 10) (n := 60) (by omega) (by omega) ?_
  obtain ⟨S9, eS9, hf⟩ := st1_s hf
  refine c_put X hB hS hk_this rfl rfl kw_X2 tyX2 tyX2_ok nmX2 2 20 (by decide) kf_X2_20 rfl (Or.inr ⟨rfl, hnm, rfl⟩) (fty := tyX2 2) (tyX2_ok 2 (by decide)) (fr_f (tyX2 2) (Or.inl ⟨_, rfl⟩) (some a6)).1 (fr_f (tyX2 2) (Or.inl ⟨_, rfl⟩) (some a6)).2 (Nat.le_of_ble_eq_true rfl) (cp_2_2 (some a6)) (fun κ b h => ccell_sP κ b h) rfl (wt_sP (κ := 3) hB.2.2.2 (by decide) (tyo_some hk_a6)) dX2_init_28 (fun H locs hB hS => ?_)
  rw [← eS9] at hB
  refine lv_aload_n hx hb dX2_init_31 rfl (lv_at hl 0 rfl) ?_
  obtain ⟨a10, ea10, hf⟩ := st1_s hf
  obtain ⟨S11, eS11, hf⟩ := st1_s hf
  have hle : nx S0 ≤ nx S9 := by rw [← hsz, ← hB.2.2.1]; exact hS.1
  refine c_newG X hB hS hA 4 rfl kw_X4 tyX4 tyX4_ok kcl_X2_23 kit_RX4 kin_RX4 (hd_4 ct S9) (hdv_4) (by decide) (by dsimp only; omega) (by dsimp only; omega) dX2_init_32 (fun G H hx1 hk_a10 hB2 hS => ?_)
  have hext := hext.trans hx1 hle
  have hk_this := hx1.1 _ _ hk_this
  rw [← ea10] at hk_a10 ⊢
  rw [← eS11] at hB2
  have hB := hB2
  clear hB2
  refine lv_dup hx hb dX2_init_35 rfl ?_
  obtain ⟨S12, hqS12, hf⟩ := bn_s hf
  have hle : nx S0 ≤ nx S11 := by rw [← hsz, ← hB.2.2.1]; exact hS.1
  refine c_doE hB hS hA (va_runI (As := []) (rest := [.ref a10, .ref this]) X.1 (cm_X4_init l F D ct _ _ a10 hk_a10 _ hqS12) (cwI 0 hts (gd_w kc_X4_init) rfl rfl rfl (hts _ (kw_m kin_RX4)) (hts _ (kw_m km_X2_25)) (hts _ (kw_m ki_X4_init)) rfl (by decide +kernel) ⟨by dsimp only; omega, by dsimp only; omega⟩) (c_preS X hB) rfl rfl hl.1 rfl (lv_room (Nat.le_of_ble_eq_true rfl)) dX2_init_36 ⟨by dsimp only; omega, by dsimp only; omega⟩) rfl (fun G H locs hx1 hB2 hT hS => ?_)
  have hext := hext.trans hx1 hle
  have hk_a10 := hx1.1 _ _ hk_a10
  have hk_this := hx1.1 _ _ hk_this
  have hB := hB2
  clear hB2
  refine W.widen (k := 12) (n := 74) (by omega) (by omega) ?_
  obtain ⟨S13, eS13, hf⟩ := st1_s hf
  refine c_put X hB hS hk_this rfl rfl kw_X2 tyX2 tyX2_ok nmX2 3 26 (by decide) kf_X2_26 rfl (Or.inr ⟨rfl, hnm, rfl⟩) (fty := tyX2 3) (tyX2_ok 3 (by decide)) (fr_f (tyX2 3) (Or.inl ⟨_, rfl⟩) (some a10)).1 (fr_f (tyX2 3) (Or.inl ⟨_, rfl⟩) (some a10)).2 (Nat.le_of_ble_eq_true rfl) (cp_2_3 (some a10)) (fun κ b h => ccell_sP κ b h) rfl (wt_sP (κ := 4) hB.2.2.2 (by decide) (tyo_some hk_a10)) dX2_init_39 (fun H locs hB hS => ?_)
  rw [← eS13] at hB
  obtain rfl := Option.some.inj hf
  refine W.widen (k := 12) (n := 74) (by omega) (by omega) ?_
  exact W.vret hx hb hr (fun t ht hW => c_endE X hext hB trivial hS ht hW) hS.2.2 dX2_init_42 hlk
/-! X0_init -/
def cf_X0_init_90 (F : Nat) (this : Nat) : Nat → Cst → Int32 → Int32 → Option Cst
  | 0 => fun _ _ _ => none
  | n + 1 => fun S x4 x6 => if x4 ≤ x6 then (some S) else (st1 (gP S 6 this) fun q14 => nn q14 fun b15 => if (Int32.ofNat (gN S b15)) ≤ x6 then (some S) else (st1 (gP S 6 this) fun q17 => st1 (nx S) fun a18 => st1 (nO S) fun S19 => (cf_X2_init F S19 a18 ((x6 + 1) <<< ((gI S19 2 this) &&& 31))).bind fun S20 => nn q17 fun b21 => cqw S20 b21 x6 (some a18) fun S22 => (cf_X0_init_90 F this n) S22 x4 (x6 + 1)))
def cf_X0_init_67 (F : Nat) (this : Nat) (S : Cst) (x4 : Int32) (x5 : Int32) : Option Cst := st1 (sI S 5 this (x5 <<< ((gI S 2 this) &&& 31))) fun S9 => st1 (nx S9) fun a10 => st1 (nA S9 8) fun S11 => st1 (sP S11 6 this (some a10)) fun S12 => cf_X0_init_90 F this 9 S12 x4 (0 : Int32)
def cf_X0_init_42 (F : Nat) (this : Nat) : Nat → Cst → Int32 → Int32 → Option Cst
  | 0 => fun _ _ _ => none
  | n + 1 => fun S x4 x5 => if (3 * x4) ≤ x5 then (cf_X0_init_67 F this S x4 x5) else (if (32 : Int32) ≤ x5 then (cf_X0_init_67 F this S x4 x5) else ((cf_X0_init_42 F this n) S x4 (x5 * 2)))
def cf_X0_init (F : Nat) (S : Cst) (this : Nat) (x1 : Int32) (x2 : Int32) (x3 : Option Nat) (x4 : Int32) : Option Cst := st1 (sI S 0 this x1) fun S1 => st1 (sI S1 1 this x2) fun S2 => (cf_J6_numberOfTrailingZeros_0f7a4 F S2 x2).bind fun v3 => st1 (sI S2 2 this v3) fun S4 => st1 (sP S4 3 this x3) fun S5 => st1 (sI S5 4 this x4) fun S6 => st1 (sI S6 13 this (1073741824 : Int32)) fun S7 => cf_X0_init_42 F this F S7 x4 (1 : Int32)
set_option maxHeartbeats 4000000 in
set_option maxRecDepth 100000 in
theorem cm_X0_init (l : Launch) (F : Nat) (D : va_G) (ct : ClassId × ClassId × ClassId) (G : Gam) (S : Cst) (this : Nat) (x1 : Int32) (x2 : Int32) (x3 : Option Nat) (x4 : Int32) (hk_this : ty G 0 this) (hk_x3 : tyo G 0 x3) (S' : Cst) (hf : cf_X0_init F S this x1 x2 x3 x4 = some S') : cMet l yX0_init cq_X0_init { frames := 4, cells := 118, slots := 710, locals := 101 } D ct G [.ref this, .int x1, .int x2, va_rf x3, .int x4] S none (cE D ct G (nx S) (fun _ => True) S') (118) (710) := by
  refine cMet_of (own := RX0) (cc := cX0_init) (maxL := 7) (ret := none) (by decide) rfl rfl (by rcases x3 with _ | _ <;> exact (Nat.le_of_ble_eq_true rfl)) ?_
  intro p e s m below meth c X hr hlk hnm ls A hl hB hA hS
  have hx := X.1.1
  have hb := X.1.2.1
  have hown := X.1.2.2.2.1
  have hts := X.1.2.2.2.2
  have hl : lv_has ls 7 [(0, .ref this), (1, .int x1), (2, .int x2), (3, va_rf x3), (4, .int x4)] := (by rcases x3 with _ | _ <;> exact hl)
  generalize hargs : ([.ref this, .int x1, .int x2, va_rf x3, .int x4] : List Value).toArray = args at X hts hS ⊢
  have hsz := hB.2.2.1
  obtain ⟨G0, eG0⟩ : ∃ z, z = G := ⟨_, rfl⟩
  obtain ⟨S0, eS0⟩ : ∃ z, z = S := ⟨_, rfl⟩
  have hext : ext G0 (nx S0) G := by rw [eG0]; exact ext_rf
  rw [← eS0] at hsz
  suffices hgoal : W p l e { frames := 4, cells := 118, slots := 710, locals := 101 } s m args below meth c s.heap [] 0 0 (MQ below (mq none (cE D ct G0 (nx S0) (fun _ => True) S') A) args s (118) (710) A) (F0 m 0 ls []) by rw [eG0, eS0] at hgoal; exact hgoal
  have J_90 : ∀ (n_90 : Nat) (cc cs : Nat) (G : Gam) (S : Cst) (x4 : Int32) (x6 : Int32), cf_X0_init_90 F this n_90 S x4 x6 = some S' → ∀ (H : Heap) (locs : List Loc) (ls : Array Slot), cc + 13 * n_90 ≤ 118 → cs + 78 * n_90 ≤ 710 → ext G0 (nx S0) G → ty G 0 this → cB D ct G A S H → va_S A s.heap H locs → lv_has ls 7 [(0, .ref this), (4, .int x4), (6, .int x6)] → W p l e { frames := 4, cells := 118, slots := 710, locals := 101 } s m args below meth c H locs (cc) (cs) (MQ below (mq none (cE D ct G0 (nx S0) (fun _ => True) S') A) args s (118) (710) A) (F0 m 90 ls []) := by
    intro n_90
    induction n_90 with
    | zero => intro cc cs G S x4 x6 hf; cases hf
    | succ n_90 ih_90 =>
      intro cc cs G S x4 x6 hf H locs ls hcc hcs hext hk_this hB hS hl
      rw [cf_X0_init_90] at hf
      refine lv_iload hx hb dX0_init_90 (lv_at hl 2 rfl) ?_
      refine lv_iload hx hb dX0_init_92 (lv_at hl 1 rfl) ?_
      refine lv_icmp_ge (tgt := 136) hx hb dX0_init_94 (by decide) (fun hc13 => ?_) (fun hc13 => ?_)
      · have hf := if_t hf hc13
        obtain rfl := Option.some.inj hf
        refine W.widen (k := 118) (n := 710) (by omega) (by omega) ?_
        exact W.vret hx hb hr (fun t ht hW => c_endE X hext hB trivial hS ht hW) hS.2.2 dX0_init_136 hlk
      · have hf := if_f hf hc13
        refine lv_iload hx hb dX0_init_97 (lv_at hl 2 rfl) ?_
        refine lv_aload_n hx hb dX0_init_99 rfl (lv_at hl 0 rfl) ?_
        refine c_get X hB hk_this rfl rfl kw_X0 6 43 (by decide) kf_X0_43 rfl rfl dX0_init_100 ?_
        obtain ⟨q14, eq14, hf⟩ := st1_s hf
        rw [← eq14]
        have hk_q14 : tyo G 11 q14 := by rw [eq14]; exact hB.2.2.2.1 (0, 6, 11) (by decide) _ hk_this
        obtain ⟨b15, eb15, hf2⟩ := nn_s hf
        clear hf
        subst eb15
        have hf := hf2
        clear hf2
        have hk_b15 := hk_q14 b15 rfl
        have hl : lv_has ls 7 [(0, .ref this), (4, .int x4), (6, .int x6)] := hl
        refine c_alen X hB hk_b15 2 rfl rfl rfl dX0_init_103 ?_
        refine lv_icmp_ge (tgt := 136) hx hb dX0_init_104 (by decide) (fun hc16 => ?_) (fun hc16 => ?_)
        · have hf := if_t hf hc16
          obtain rfl := Option.some.inj hf
          refine W.widen (k := 118) (n := 710) (by omega) (by omega) ?_
          exact W.vret hx hb hr (fun t ht hW => c_endE X hext hB trivial hS ht hW) hS.2.2 dX0_init_136 hlk
        · have hf := if_f hf hc16
          refine lv_aload_n hx hb dX0_init_107 rfl (lv_at hl 0 rfl) ?_
          refine c_get X hB hk_this rfl rfl kw_X0 6 43 (by decide) kf_X0_43 rfl rfl dX0_init_108 ?_
          obtain ⟨q17, eq17, hf⟩ := st1_s hf
          rw [← eq17]
          have hk_q17 : tyo G 11 q17 := by rw [eq17]; exact hB.2.2.2.1 (0, 6, 11) (by decide) _ hk_this
          refine lv_iload hx hb dX0_init_111 (lv_at hl 2 rfl) ?_
          obtain ⟨a18, ea18, hf⟩ := st1_s hf
          obtain ⟨S19, eS19, hf⟩ := st1_s hf
          have hle : nx S0 ≤ nx S := by rw [← hsz, ← hB.2.2.1]; exact hS.1
          refine c_newG X hB hS hA 2 rfl kw_X2 tyX2 tyX2_ok kcl_X0_41 kit_RX2 kin_RX2 (hd_2 ct S) (hdv_2) (by decide) (by dsimp only; omega) (by dsimp only; omega) dX0_init_113 (fun G H hx1 hk_a18 hB2 hS => ?_)
          have hext := hext.trans hx1 hle
          have hk_q17 := hx1.o hk_q17
          have hk_this := hx1.1 _ _ hk_this
          rw [← ea18] at hk_a18 ⊢
          rw [← eS19] at hB2
          have hB := hB2
          clear hB2
          refine lv_dup hx hb dX0_init_116 rfl ?_
          refine lv_iload hx hb dX0_init_117 (lv_at hl 2 rfl) ?_
          refine lv_iconst (v := 1) hx hb dX0_init_119 (by decide) ?_
          refine lv_iadd hx hb dX0_init_120 ?_
          refine lv_aload_n hx hb dX0_init_121 rfl (lv_at hl 0 rfl) ?_
          refine c_get X hB hk_this rfl rfl kw_X0 2 24 (by decide) kf_X0_24 rfl rfl dX0_init_122 ?_
          refine lv_ishl hx hb dX0_init_125 ?_
          obtain ⟨S20, hqS20, hf⟩ := bn_s hf
          have hle : nx S0 ≤ nx S19 := by rw [← hsz, ← hB.2.2.1]; exact hS.1
          refine c_doE hB hS hA (va_runI (As := [.int ((x6 + 1) <<< ((gI S19 2 this) &&& 31))]) (rest := [.ref a18, .int x6, va_rf q17]) X.1 (cm_X2_init l F D ct _ _ a18 ((x6 + 1) <<< ((gI S19 2 this) &&& 31)) hk_a18 _ hqS20) (cwI 1 hts (gd_w kc_X2_init) rfl rfl rfl (hts _ (kw_m kin_RX2)) (hts _ (kw_m km_X0_47)) (hts _ (kw_m ki_X2_init)) rfl (by decide +kernel) ⟨by dsimp only; omega, by dsimp only; omega⟩) (c_preS X hB) rfl rfl hl.1 rfl (lv_room (by rcases q17 with _ | _ <;> exact (Nat.le_of_ble_eq_true rfl))) dX0_init_126 ⟨by dsimp only; omega, by dsimp only; omega⟩) rfl (fun G H locs hx1 hB2 hT hS => ?_)
          have hext := hext.trans hx1 hle
          have hk_a18 := hx1.1 _ _ hk_a18
          have hk_q17 := hx1.o hk_q17
          have hk_this := hx1.1 _ _ hk_this
          have hB := hB2
          clear hB2
          refine W.widen (k := cc + 13) (n := cs + 78) (by omega) (by omega) ?_
          obtain ⟨b21, eb21, hf2⟩ := nn_s hf
          clear hf
          subst eb21
          have hf := hf2
          clear hf2
          have hk_b21 := hk_q17 b21 rfl
          have hl : lv_has ls 7 [(0, .ref this), (4, .int x4), (6, .int x6)] := hl
          obtain ⟨S22, eS22, hiS22, hf⟩ := cqw_s hf
          refine c_aast X hB hS hk_b21 2 (fun _ => rfl) rfl hk_a18 rfl rfl hiS22 (wt_sQ hB.2.2.2 (fun h => by cases h.fn hk_b21) (fun _ => tyo_some hk_a18)) dX0_init_129 (fun H locs hB hS => ?_)
          rw [← eS22] at hB
          refine lv_iinc (v := x6 + 1) (lv' := [(6, .int (x6 + 1)), (0, .ref this), (4, .int x4)]) hx hb dX0_init_130 hl (k := 2) rfl rfl (by decide) rfl (fun ls hl => ?_)
          refine lv_goto (tgt := 90) hx hb dX0_init_133 (by decide) ?_
          exact ih_90 (cc + 13) (cs + 78) _ S22 x4 (x6 + 1) hf _ _ _ (by omega) (by omega) hext hk_this hB hS (lv_sub hl [1, 2, 0] rfl)
  have J_67 : ∀ (G : Gam) (S : Cst) (x4 : Int32) (x5 : Int32), cf_X0_init_67 F this S x4 x5 = some S' → ∀ (H : Heap) (locs : List Loc) (ls : Array Slot), ext G0 (nx S0) G → ty G 0 this → cB D ct G A S H → va_S A s.heap H locs → lv_has ls 7 [(0, .ref this), (4, .int x4), (5, .int x5)] → W p l e { frames := 4, cells := 118, slots := 710, locals := 101 } s m args below meth c H locs (0) (0) (MQ below (mq none (cE D ct G0 (nx S0) (fun _ => True) S') A) args s (118) (710) A) (F0 m 67 ls []) := by
    intro G S x4 x5 hf H locs ls hext hk_this hB hS hl
    unfold cf_X0_init_67 at hf
    refine lv_aload_n hx hb dX0_init_67 rfl (lv_at hl 0 rfl) ?_
    refine lv_iload hx hb dX0_init_68 (lv_at hl 2 rfl) ?_
    refine lv_aload_n hx hb dX0_init_70 rfl (lv_at hl 0 rfl) ?_
    refine c_get X hB hk_this rfl rfl kw_X0 2 24 (by decide) kf_X0_24 rfl rfl dX0_init_71 ?_
    refine lv_ishl hx hb dX0_init_74 ?_
    obtain ⟨S9, eS9, hf⟩ := st1_s hf
    refine c_put X hB hS hk_this rfl rfl kw_X0 tyX0 tyX0_ok nmX0 5 38 (by decide) kf_X0_38 rfl (Or.inr ⟨rfl, hnm, rfl⟩) (fty := .int) rfl rfl rfl (Nat.le_of_ble_eq_true rfl) (cp_0_5 _) (fun κ b h => ccell_sI κ b h) rfl hB.2.2.2 dX0_init_75 (fun H locs hB hS => ?_)
    rw [← eS9] at hB
    refine lv_aload_n hx hb dX0_init_78 rfl (lv_at hl 0 rfl) ?_
    refine lv_bipush (v := 8) hx hb dX0_init_79 (by decide) ?_
    obtain ⟨a10, ea10, hf⟩ := st1_s hf
    obtain ⟨S11, eS11, hf⟩ := st1_s hf
    have hle : nx S0 ≤ nx S9 := by rw [← hsz, ← hB.2.2.1]; exact hS.1
    refine c_newQ X hB hS hA 11 2 (by decide) kcl_X0_41 X.2.2.2.2.2 rfl (fun _ _ => rfl) (by decide) (N' := 8) (by decide) (by decide) (by dsimp only; omega) (by dsimp only; omega) dX0_init_81 (fun G H hx1 hk_a10 hB2 hS => ?_)
    have hext := hext.trans hx1 hle
    have hk_this := hx1.1 _ _ hk_this
    rw [← ea10] at hk_a10 ⊢
    rw [← eS11] at hB2
    have hB := hB2
    clear hB2
    obtain ⟨S12, eS12, hf⟩ := st1_s hf
    refine c_put X hB hS hk_this rfl rfl kw_X0 tyX0 tyX0_ok nmX0 6 43 (by decide) kf_X0_43 rfl (Or.inr ⟨rfl, hnm, rfl⟩) (fty := tyX0 6) (tyX0_ok 6 (by decide)) (fr_f (tyX0 6) (Or.inr ⟨_, rfl⟩) (some a10)).1 (fr_f (tyX0 6) (Or.inr ⟨_, rfl⟩) (some a10)).2 (Nat.le_of_ble_eq_true rfl) (cp_0_6 (some a10)) (fun κ b h => ccell_sP κ b h) rfl (wt_sP (κ := 11) hB.2.2.2 (by decide) (tyo_some hk_a10)) dX0_init_84 (fun H locs hB hS => ?_)
    rw [← eS12] at hB
    refine lv_iconst (v := 0) hx hb dX0_init_87 (by decide) ?_
    refine lv_istore (lv' := [(6, .int 0), (0, .ref this), (4, .int x4), (5, .int x5)]) hx hb dX0_init_88 hl (by decide) rfl (fun ls hl => ?_)
    exact J_90 9 (1) (8) _ S12 x4 (0 : Int32) hf _ _ _ (by omega) (by omega) hext hk_this hB hS (lv_sub hl [1, 2, 0] rfl)
  have J_42 : ∀ (n_42 : Nat) (G : Gam) (S : Cst) (x4 : Int32) (x5 : Int32), cf_X0_init_42 F this n_42 S x4 x5 = some S' → ∀ (H : Heap) (locs : List Loc) (ls : Array Slot), ext G0 (nx S0) G → ty G 0 this → cB D ct G A S H → va_S A s.heap H locs → lv_has ls 7 [(0, .ref this), (4, .int x4), (5, .int x5)] → W p l e { frames := 4, cells := 118, slots := 710, locals := 101 } s m args below meth c H locs (0) (0) (MQ below (mq none (cE D ct G0 (nx S0) (fun _ => True) S') A) args s (118) (710) A) (F0 m 42 ls []) := by
    intro n_42
    induction n_42 with
    | zero => intro G S x4 x5 hf; cases hf
    | succ n_42 ih_42 =>
      intro G S x4 x5 hf H locs ls hext hk_this hB hS hl
      rw [cf_X0_init_42] at hf
      refine lv_iload hx hb dX0_init_42 (lv_at hl 2 rfl) ?_
      refine lv_iconst (v := 3) hx hb dX0_init_44 (by decide) ?_
      refine lv_iload hx hb dX0_init_45 (lv_at hl 1 rfl) ?_
      refine lv_imul hx hb dX0_init_47 ?_
      refine lv_icmp_ge (tgt := 67) hx hb dX0_init_48 (by decide) (fun hc8 => ?_) (fun hc8 => ?_)
      · have hf := if_t hf hc8
        exact J_67 _ S x4 x5 hf _ _ _ hext hk_this hB hS (lv_sub hl [0, 1, 2] rfl)
      · have hf := if_f hf hc8
        refine lv_iload hx hb dX0_init_51 (lv_at hl 2 rfl) ?_
        refine lv_bipush (v := 32) hx hb dX0_init_53 (by decide) ?_
        refine lv_icmp_ge (tgt := 67) hx hb dX0_init_55 (by decide) (fun hc23 => ?_) (fun hc23 => ?_)
        · have hf := if_t hf hc23
          exact J_67 _ S x4 x5 hf _ _ _ hext hk_this hB hS (lv_sub hl [0, 1, 2] rfl)
        · have hf := if_f hf hc23
          refine lv_iload hx hb dX0_init_58 (lv_at hl 2 rfl) ?_
          refine lv_iconst (v := 2) hx hb dX0_init_60 (by decide) ?_
          refine lv_imul hx hb dX0_init_61 ?_
          refine lv_istore (lv' := [(5, .int (x5 * 2)), (0, .ref this), (4, .int x4)]) hx hb dX0_init_62 hl (by decide) rfl (fun ls hl => ?_)
          refine lv_goto (tgt := 42) hx hb dX0_init_64 (by decide) ?_
          exact ih_42 _ S x4 (x5 * 2) hf _ _ _ hext hk_this hB hS (lv_sub hl [1, 2, 0] rfl)
  unfold cf_X0_init at hf
  refine lv_aload_n hx hb dX0_init_0 rfl (lv_at hl 0 rfl) ?_
  refine W.objInit hx hb hown (hts _ (kw_m km_X0_3)) (hts _ (kw_m kx_Cond_instanceMethod_objectInit)) (hts _ (kw_m kx_Cond_code_objectInit_0xb1_1_none)) rfl (by rw [X.1.2.2.1]; exact hl.1) rfl dX0_init_1 (by decide) (Nat.le_of_ble_eq_true rfl) ?_
  refine W.eq (g2 := F0 m 4 ls []) rfl ?_
  refine lv_aload_n hx hb dX0_init_4 rfl (lv_at hl 0 rfl) ?_
  refine lv_iload_n hx hb dX0_init_5 rfl (lv_at hl 1 rfl) ?_
  obtain ⟨S1, eS1, hf⟩ := st1_s hf
  refine c_put X hB hS hk_this rfl rfl kw_X0 tyX0 tyX0_ok nmX0 0 9 (by decide) kf_X0_9 rfl (Or.inr ⟨rfl, hnm, rfl⟩) (fty := .int) rfl rfl rfl (Nat.le_of_ble_eq_true rfl) (cp_0_0 _) (fun κ b h => ccell_sI κ b h) rfl hB.2.2.2 dX0_init_6 (fun H locs hB hS => ?_)
  rw [← eS1] at hB
  refine lv_aload_n hx hb dX0_init_9 rfl (lv_at hl 0 rfl) ?_
  refine lv_iload_n hx hb dX0_init_10 rfl (lv_at hl 2 rfl) ?_
  obtain ⟨S2, eS2, hf⟩ := st1_s hf
  refine c_put X hB hS hk_this rfl rfl kw_X0 tyX0 tyX0_ok nmX0 1 15 (by decide) kf_X0_15 rfl (Or.inr ⟨rfl, hnm, rfl⟩) (fty := .int) rfl rfl rfl (Nat.le_of_ble_eq_true rfl) (cp_0_1 _) (fun κ b h => ccell_sI κ b h) rfl hB.2.2.2 dX0_init_11 (fun H locs hB hS => ?_)
  rw [← eS2] at hB
  refine lv_aload_n hx hb dX0_init_14 rfl (lv_at hl 0 rfl) ?_
  refine lv_iload_n hx hb dX0_init_15 rfl (lv_at hl 2 rfl) ?_
  obtain ⟨v3, hqv3, hf⟩ := bn_s hf
  refine c_doF hB hS hA (va_runS (As := [.int x2]) (rest := [.ref this]) X.1 (cm_J6_numberOfTrailingZeros_0f7a4 l F D ct _ _ x2 _ hqv3) (va_cwS 1 hts (gd_S km_X0_18 kst_J6_numberOfTrailingZeros_0f7a4 kin_RJ6 kc_J6_numberOfTrailingZeros_0f7a4) rfl rfl rfl (by decide +kernel) ⟨by dsimp only; omega, by dsimp only; omega⟩) (c_preS X hB) rfl rfl hl.1 rfl (lv_room (Nat.le_of_ble_eq_true rfl)) dX0_init_16 ⟨by dsimp only; omega, by dsimp only; omega⟩) rfl (fun H locs hB hT hS => ?_)
  obtain ⟨S4, eS4, hf⟩ := st1_s hf
  refine c_put X hB hS hk_this rfl rfl kw_X0 tyX0 tyX0_ok nmX0 2 24 (by decide) kf_X0_24 rfl (Or.inr ⟨rfl, hnm, rfl⟩) (fty := .int) rfl rfl rfl (Nat.le_of_ble_eq_true rfl) (cp_0_2 _) (fun κ b h => ccell_sI κ b h) rfl hB.2.2.2 dX0_init_19 (fun H locs hB hS => ?_)
  rw [← eS4] at hB
  refine lv_aload_n hx hb dX0_init_22 rfl (lv_at hl 0 rfl) ?_
  refine lv_aload_nq hx hb dX0_init_23 rfl (lv_at hl 3 rfl) ?_
  obtain ⟨S5, eS5, hf⟩ := st1_s hf
  refine c_put X hB hS hk_this rfl rfl kw_X0 tyX0 tyX0_ok nmX0 3 27 (by decide) kf_X0_27 rfl (Or.inr ⟨rfl, hnm, rfl⟩) (fty := tyX0 3) (tyX0_ok 3 (by decide)) (fr_f (tyX0 3) (Or.inl ⟨_, rfl⟩) x3).1 (fr_f (tyX0 3) (Or.inl ⟨_, rfl⟩) x3).2 (Nat.le_of_ble_eq_true rfl) (cp_0_3 x3) (fun κ b h => ccell_sP κ b h) rfl (wt_sP (κ := 0) hB.2.2.2 (by decide) hk_x3) dX0_init_24 (fun H locs hB hS => ?_)
  rw [← eS5] at hB
  refine lv_aload_n hx hb dX0_init_27 rfl (lv_at hl 0 rfl) ?_
  refine lv_iload hx hb dX0_init_28 (lv_at hl 4 rfl) ?_
  obtain ⟨S6, eS6, hf⟩ := st1_s hf
  refine c_put X hB hS hk_this rfl rfl kw_X0 tyX0 tyX0_ok nmX0 4 31 (by decide) kf_X0_31 rfl (Or.inr ⟨rfl, hnm, rfl⟩) (fty := .int) rfl rfl rfl (Nat.le_of_ble_eq_true rfl) (cp_0_4 _) (fun κ b h => ccell_sI κ b h) rfl hB.2.2.2 dX0_init_30 (fun H locs hB hS => ?_)
  rw [← eS6] at hB
  refine lv_aload_n hx hb dX0_init_33 rfl (lv_at hl 0 rfl) ?_
  refine lv_ldc (v := 1073741824) hx hb hown (hts (.constant RX0 34 1073741824) (kw_m kk_X0_34)) dX0_init_34 ?_
  obtain ⟨S7, eS7, hf⟩ := st1_s hf
  refine c_put X hB hS hk_this rfl rfl kw_X0 tyX0 tyX0_ok nmX0 13 35 (by decide) kf_X0_35 rfl (Or.inl rfl) (fty := .int) rfl rfl rfl (Nat.le_of_ble_eq_true rfl) (cp_0_13 _) (fun κ b h => ccell_sI κ b h) rfl hB.2.2.2 dX0_init_36 (fun H locs hB hS => ?_)
  rw [← eS7] at hB
  refine lv_iconst (v := 1) hx hb dX0_init_39 (by decide) ?_
  refine lv_istore (lv' := [(5, .int 1), (0, .ref this), (1, .int x1), (2, .int x2), (3, va_rf x3), (4, .int x4)]) hx hb dX0_init_40 hl (by decide) rfl (fun ls hl => ?_)
  exact J_42 F _ S7 x4 (1 : Int32) hf _ _ _ hext hk_this hB hS (lv_sub hl [1, 5, 0] rfl)
/-! X0_isMultiple -/
def cf_X0_isMultiple (F : Nat) (S : Cst) (this : Nat) (x1 : Int32) : Option Int32 := if (x1 &&& ((gI S 1 this) - 1)) = 0 then (some (1 : Int32)) else (some (0 : Int32))
set_option maxHeartbeats 4000000 in
set_option maxRecDepth 100000 in
theorem cm_X0_isMultiple (l : Launch) (F : Nat) (D : va_G) (ct : ClassId × ClassId × ClassId) (G : Gam) (S : Cst) (this : Nat) (x1 : Int32) (hk_this : ty G 0 this) (r : Int32) (hf : cf_X0_isMultiple F S this x1 = some r) : cMet l yX0_isMultiple cq_X0_isMultiple { frames := 0, cells := 0, slots := 0, locals := 0 } D ct G [.ref this, .int x1] S (some (.int r)) (cF D ct G (fun _ => True) S) (0) (0) := by
  refine cMet_of (own := RX0) (cc := cX0_isMultiple) (maxL := 2) (ret := (some .boolean)) (by decide) rfl rfl (Nat.le_of_ble_eq_true rfl) ?_
  intro p e s m below meth c X hr hlk hnm ls A hl hB hA hS
  have hx := X.1.1
  have hb := X.1.2.1
  have hown := X.1.2.2.2.1
  have hts := X.1.2.2.2.2
  have hl : lv_has ls 2 [(0, .ref this), (1, .int x1)] := hl
  generalize hargs : ([.ref this, .int x1] : List Value).toArray = args at X hts hS ⊢
  unfold cf_X0_isMultiple at hf
  refine lv_iload_n hx hb dX0_isMultiple_0 rfl (lv_at hl 1 rfl) ?_
  refine lv_aload_n hx hb dX0_isMultiple_1 rfl (lv_at hl 0 rfl) ?_
  refine c_get X hB hk_this rfl rfl kw_X0 1 15 (by decide) kf_X0_15 rfl rfl dX0_isMultiple_2 ?_
  refine lv_iconst (v := 1) hx hb dX0_isMultiple_5 (by decide) ?_
  refine lv_isub hx hb dX0_isMultiple_6 ?_
  refine lv_iand hx hb dX0_isMultiple_7 ?_
  refine lv_if_ne (tgt := 15) hx hb dX0_isMultiple_8 (by decide) (fun hc1 => ?_) (fun hc1 => ?_)
  · have hf := if_f hf hc1
    refine lv_iconst (v := 0) hx hb dX0_isMultiple_15 (by decide) ?_
    obtain rfl := Option.some.inj hf
    exact W.zret hx hb hr rfl (fun t ht hW => c_endF X hB trivial hS ht hW) hS.2.2 dX0_isMultiple_16 hlk
  · have hf := if_t hf hc1
    refine lv_iconst (v := 1) hx hb dX0_isMultiple_11 (by decide) ?_
    refine lv_goto (tgt := 16) hx hb dX0_isMultiple_12 (by decide) ?_
    obtain rfl := Option.some.inj hf
    exact W.zret hx hb hr rfl (fun t ht hW => c_endF X hB trivial hS ht hW) hS.2.2 dX0_isMultiple_16 hlk
/-! X6_isPowerOfTwo -/
def cf_X6_isPowerOfTwo (F : Nat) (S : Cst) (x0 : Int32) : Option Int32 := if x0 ≤ 0 then (some (0 : Int32)) else (if (x0 &&& (x0 - 1)) = 0 then (some (1 : Int32)) else (some (0 : Int32)))
set_option maxHeartbeats 4000000 in
set_option maxRecDepth 100000 in
theorem cm_X6_isPowerOfTwo (l : Launch) (F : Nat) (D : va_G) (ct : ClassId × ClassId × ClassId) (G : Gam) (S : Cst) (x0 : Int32)  (r : Int32) (hf : cf_X6_isPowerOfTwo F S x0 = some r) : cMet l yX6_isPowerOfTwo cq_X6_isPowerOfTwo { frames := 0, cells := 0, slots := 0, locals := 0 } D ct G [.int x0] S (some (.int r)) (cF D ct G (fun _ => True) S) (0) (0) := by
  refine cMet_of (own := RX6) (cc := cX6_isPowerOfTwo) (maxL := 1) (ret := (some .boolean)) (by decide) rfl rfl (Nat.le_of_ble_eq_true rfl) ?_
  intro p e s m below meth c X hr hlk hnm ls A hl hB hA hS
  have hx := X.1.1
  have hb := X.1.2.1
  have hown := X.1.2.2.2.1
  have hts := X.1.2.2.2.2
  have hl : lv_has ls 1 [(0, .int x0)] := hl
  generalize hargs : ([.int x0] : List Value).toArray = args at X hts hS ⊢
  unfold cf_X6_isPowerOfTwo at hf
  refine lv_iload_n hx hb dX6_isPowerOfTwo_0 rfl (lv_at hl 0 rfl) ?_
  refine lv_if_le (tgt := 16) hx hb dX6_isPowerOfTwo_1 (by decide) (fun hc1 => ?_) (fun hc1 => ?_)
  · have hf := if_t hf hc1
    refine lv_iconst (v := 0) hx hb dX6_isPowerOfTwo_16 (by decide) ?_
    obtain rfl := Option.some.inj hf
    exact W.zret hx hb hr rfl (fun t ht hW => c_endF X hB trivial hS ht hW) hS.2.2 dX6_isPowerOfTwo_17 hlk
  · have hf := if_f hf hc1
    refine lv_iload_n hx hb dX6_isPowerOfTwo_4 rfl (lv_at hl 0 rfl) ?_
    refine lv_iload_n hx hb dX6_isPowerOfTwo_5 rfl (lv_at hl 0 rfl) ?_
    refine lv_iconst (v := 1) hx hb dX6_isPowerOfTwo_6 (by decide) ?_
    refine lv_isub hx hb dX6_isPowerOfTwo_7 ?_
    refine lv_iand hx hb dX6_isPowerOfTwo_8 ?_
    refine lv_if_ne (tgt := 16) hx hb dX6_isPowerOfTwo_9 (by decide) (fun hc2 => ?_) (fun hc2 => ?_)
    · have hf := if_f hf hc2
      refine lv_iconst (v := 0) hx hb dX6_isPowerOfTwo_16 (by decide) ?_
      obtain rfl := Option.some.inj hf
      exact W.zret hx hb hr rfl (fun t ht hW => c_endF X hB trivial hS ht hW) hS.2.2 dX6_isPowerOfTwo_17 hlk
    · have hf := if_t hf hc2
      refine lv_iconst (v := 1) hx hb dX6_isPowerOfTwo_12 (by decide) ?_
      refine lv_goto (tgt := 17) hx hb dX6_isPowerOfTwo_13 (by decide) ?_
      obtain rfl := Option.some.inj hf
      exact W.zret hx hb hr rfl (fun t ht hW => c_endF X hB trivial hS ht hW) hS.2.2 dX6_isPowerOfTwo_17 hlk
/-! X0_isUnit -/
def cf_X0_isUnit (F : Nat) (S : Cst) (this : Nat) (x1 : Int32) : Option Int32 := if x1 < (gI S 1 this) then (some (0 : Int32)) else ((cf_X6_isPowerOfTwo F S x1).bind fun v2 => if v2 = 0 then (some (0 : Int32)) else (some (1 : Int32)))
set_option maxHeartbeats 4000000 in
set_option maxRecDepth 100000 in
theorem cm_X0_isUnit (l : Launch) (F : Nat) (D : va_G) (ct : ClassId × ClassId × ClassId) (G : Gam) (S : Cst) (this : Nat) (x1 : Int32) (hk_this : ty G 0 this) (r : Int32) (hf : cf_X0_isUnit F S this x1 = some r) : cMet l yX0_isUnit cq_X0_isUnit { frames := 1, cells := 0, slots := 0, locals := 20 } D ct G [.ref this, .int x1] S (some (.int r)) (cF D ct G (fun _ => True) S) (0) (0) := by
  refine cMet_of (own := RX0) (cc := cX0_isUnit) (maxL := 2) (ret := (some .boolean)) (by decide) rfl rfl (Nat.le_of_ble_eq_true rfl) ?_
  intro p e s m below meth c X hr hlk hnm ls A hl hB hA hS
  have hx := X.1.1
  have hb := X.1.2.1
  have hown := X.1.2.2.2.1
  have hts := X.1.2.2.2.2
  have hl : lv_has ls 2 [(0, .ref this), (1, .int x1)] := hl
  generalize hargs : ([.ref this, .int x1] : List Value).toArray = args at X hts hS ⊢
  unfold cf_X0_isUnit at hf
  refine lv_iload_n hx hb dX0_isUnit_0 rfl (lv_at hl 1 rfl) ?_
  refine lv_aload_n hx hb dX0_isUnit_1 rfl (lv_at hl 0 rfl) ?_
  refine c_get X hB hk_this rfl rfl kw_X0 1 15 (by decide) kf_X0_15 rfl rfl dX0_isUnit_2 ?_
  refine lv_icmp_lt (tgt := 19) hx hb dX0_isUnit_5 (by decide) (fun hc1 => ?_) (fun hc1 => ?_)
  · have hf := if_t hf hc1
    refine lv_iconst (v := 0) hx hb dX0_isUnit_19 (by decide) ?_
    obtain rfl := Option.some.inj hf
    exact W.zret hx hb hr rfl (fun t ht hW => c_endF X hB trivial hS ht hW) hS.2.2 dX0_isUnit_20 hlk
  · have hf := if_f hf hc1
    refine lv_iload_n hx hb dX0_isUnit_8 rfl (lv_at hl 1 rfl) ?_
    obtain ⟨v2, hqv2, hf⟩ := bn_s hf
    refine c_doF hB hS hA (va_runSN (As := [.int x1]) (rest := []) X.1 (cm_X6_isPowerOfTwo l F D ct _ _ x1 _ hqv2) ⟨va_cnB 1 hts (gd_w kc_X6_isPowerOfTwo) rfl rfl rfl X.2.2.2.1 (hts _ (kw_m kin_RX6)) (by decide +kernel) ⟨by dsimp only; omega, by dsimp only; omega⟩, hts _ (kw_m kst_X6_isPowerOfTwo), trivial⟩ (c_preS X hB) rfl rfl hl.1 rfl (lv_room (Nat.le_of_ble_eq_true rfl)) dX0_isUnit_9 ⟨by dsimp only; omega, by dsimp only; omega⟩) rfl (fun H locs hB hT hS => ?_)
    refine lv_if_eq (tgt := 19) hx hb dX0_isUnit_12 (by decide) (fun hc3 => ?_) (fun hc3 => ?_)
    · have hf := if_t hf hc3
      refine lv_iconst (v := 0) hx hb dX0_isUnit_19 (by decide) ?_
      obtain rfl := Option.some.inj hf
      exact W.zret hx hb hr rfl (fun t ht hW => c_endF X hB trivial hS ht hW) hS.2.2 dX0_isUnit_20 hlk
    · have hf := if_f hf hc3
      refine lv_iconst (v := 1) hx hb dX0_isUnit_15 (by decide) ?_
      refine lv_goto (tgt := 20) hx hb dX0_isUnit_16 (by decide) ?_
      obtain rfl := Option.some.inj hf
      exact W.zret hx hb hr rfl (fun t ht hW => c_endF X hB trivial hS ht hW) hS.2.2 dX0_isUnit_20 hlk
/-! X0_roundUp -/
def cf_X0_roundUp (F : Nat) (S : Cst) (this : Nat) (x1 : Int32) : Option Int64 := some (((x1.toInt64 + ((gI S 1 this).toInt64)) - 1) &&& (-((gI S 1 this).toInt64)))
set_option maxHeartbeats 4000000 in
set_option maxRecDepth 100000 in
theorem cm_X0_roundUp (l : Launch) (F : Nat) (D : va_G) (ct : ClassId × ClassId × ClassId) (G : Gam) (S : Cst) (this : Nat) (x1 : Int32) (hk_this : ty G 0 this) (r : Int64) (hf : cf_X0_roundUp F S this x1 = some r) : cMet l yX0_roundUp cq_X0_roundUp { frames := 0, cells := 0, slots := 0, locals := 0 } D ct G [.ref this, .int x1] S (some (.long r)) (cF D ct G (fun _ => True) S) (0) (0) := by
  refine cMet_of (own := RX0) (cc := cX0_roundUp) (maxL := 2) (ret := (some .long)) (by decide) rfl rfl (Nat.le_of_ble_eq_true rfl) ?_
  intro p e s m below meth c X hr hlk hnm ls A hl hB hA hS
  have hx := X.1.1
  have hb := X.1.2.1
  have hown := X.1.2.2.2.1
  have hts := X.1.2.2.2.2
  have hl : lv_has ls 2 [(0, .ref this), (1, .int x1)] := hl
  generalize hargs : ([.ref this, .int x1] : List Value).toArray = args at X hts hS ⊢
  unfold cf_X0_roundUp at hf
  refine lv_iload_n hx hb dX0_roundUp_0 rfl (lv_at hl 1 rfl) ?_
  refine lv_i2l (v := x1.toInt64) hx hb dX0_roundUp_1 rfl ?_
  refine lv_aload_n hx hb dX0_roundUp_2 rfl (lv_at hl 0 rfl) ?_
  refine c_get X hB hk_this rfl rfl kw_X0 1 15 (by decide) kf_X0_15 rfl rfl dX0_roundUp_3 ?_
  refine lv_i2l (v := (gI S 1 this).toInt64) hx hb dX0_roundUp_6 rfl ?_
  refine lv_ladd hx hb dX0_roundUp_7 ?_
  refine lv_lconst (v := 1) hx hb dX0_roundUp_8 (by decide) ?_
  refine lv_lsub hx hb dX0_roundUp_9 ?_
  refine lv_aload_n hx hb dX0_roundUp_10 rfl (lv_at hl 0 rfl) ?_
  refine c_get X hB hk_this rfl rfl kw_X0 1 15 (by decide) kf_X0_15 rfl rfl dX0_roundUp_11 ?_
  refine lv_i2l (v := (gI S 1 this).toInt64) hx hb dX0_roundUp_14 rfl ?_
  refine lv_lneg hx hb dX0_roundUp_15 ?_
  refine lv_land hx hb dX0_roundUp_16 ?_
  obtain rfl := Option.some.inj hf
  exact W.lret hx hb hr (fun t ht hW => c_endF X hB trivial hS ht hW) hS.2.2 dX0_roundUp_17 hlk
/-! X0_cacheOf -/
def cf_X0_cacheOf (F : Nat) (S : Cst) (this : Nat) (x1 : Int32) : Option (Option Nat) := if x1 < (1 : Int32) then (some none) else (st1 (gP S 6 this) fun q2 => nn q2 fun b3 => if (Int32.ofNat (gN S b3)) < x1 then (some none) else (st1 (gP S 6 this) fun q5 => nn q5 fun b6 => cqd S b6 (x1 - 1) fun q7 => some q7))
set_option maxHeartbeats 4000000 in
set_option maxRecDepth 100000 in
theorem cm_X0_cacheOf (l : Launch) (F : Nat) (D : va_G) (ct : ClassId × ClassId × ClassId) (G : Gam) (S : Cst) (this : Nat) (x1 : Int32) (hk_this : ty G 0 this) (r : Option Nat) (hf : cf_X0_cacheOf F S this x1 = some r) : cMet l yX0_cacheOf cq_X0_cacheOf { frames := 0, cells := 0, slots := 0, locals := 0 } D ct G [.ref this, .int x1] S (some (va_rf r)) (cF D ct G (fun G => tyo G 2 r) S) (0) (0) := by
  refine cMet_of (own := RX0) (cc := cX0_cacheOf) (maxL := 2) (ret := (some (.object "RangeArenas$Cache"))) (by decide) rfl rfl (Nat.le_of_ble_eq_true rfl) ?_
  intro p e s m below meth c X hr hlk hnm ls A hl hB hA hS
  have hx := X.1.1
  have hb := X.1.2.1
  have hown := X.1.2.2.2.1
  have hts := X.1.2.2.2.2
  have hl : lv_has ls 2 [(0, .ref this), (1, .int x1)] := hl
  generalize hargs : ([.ref this, .int x1] : List Value).toArray = args at X hts hS ⊢
  unfold cf_X0_cacheOf at hf
  refine lv_iload_n hx hb dX0_cacheOf_0 rfl (lv_at hl 1 rfl) ?_
  refine lv_iconst (v := 1) hx hb dX0_cacheOf_1 (by decide) ?_
  refine lv_icmp_lt (tgt := 25) hx hb dX0_cacheOf_2 (by decide) (fun hc1 => ?_) (fun hc1 => ?_)
  · have hf := if_t hf hc1
    refine lv_null hx hb dX0_cacheOf_25 ?_
    obtain rfl := Option.some.inj hf
    exact W.aret hx hb hr (Or.inl ⟨_, rfl⟩) (Or.inl rfl) (fun t ht hW => c_endF X hB tyo_none hS ht hW) hS.2.2 dX0_cacheOf_26 hlk
  · have hf := if_f hf hc1
    refine lv_iload_n hx hb dX0_cacheOf_5 rfl (lv_at hl 1 rfl) ?_
    refine lv_aload_n hx hb dX0_cacheOf_6 rfl (lv_at hl 0 rfl) ?_
    refine c_get X hB hk_this rfl rfl kw_X0 6 43 (by decide) kf_X0_43 rfl rfl dX0_cacheOf_7 ?_
    obtain ⟨q2, eq2, hf⟩ := st1_s hf
    rw [← eq2]
    have hk_q2 : tyo G 11 q2 := by rw [eq2]; exact hB.2.2.2.1 (0, 6, 11) (by decide) _ hk_this
    obtain ⟨b3, eb3, hf2⟩ := nn_s hf
    clear hf
    subst eb3
    have hf := hf2
    clear hf2
    have hk_b3 := hk_q2 b3 rfl
    have hl : lv_has ls 2 [(0, .ref this), (1, .int x1)] := hl
    refine c_alen X hB hk_b3 2 rfl rfl rfl dX0_cacheOf_10 ?_
    refine lv_icmp_gt (tgt := 25) hx hb dX0_cacheOf_11 (by decide) (fun hc4 => ?_) (fun hc4 => ?_)
    · have hf := if_t hf hc4
      refine lv_null hx hb dX0_cacheOf_25 ?_
      obtain rfl := Option.some.inj hf
      exact W.aret hx hb hr (Or.inl ⟨_, rfl⟩) (Or.inl rfl) (fun t ht hW => c_endF X hB tyo_none hS ht hW) hS.2.2 dX0_cacheOf_26 hlk
    · have hf := if_f hf hc4
      refine lv_aload_n hx hb dX0_cacheOf_14 rfl (lv_at hl 0 rfl) ?_
      refine c_get X hB hk_this rfl rfl kw_X0 6 43 (by decide) kf_X0_43 rfl rfl dX0_cacheOf_15 ?_
      obtain ⟨q5, eq5, hf⟩ := st1_s hf
      rw [← eq5]
      have hk_q5 : tyo G 11 q5 := by rw [eq5]; exact hB.2.2.2.1 (0, 6, 11) (by decide) _ hk_this
      refine lv_iload_n hx hb dX0_cacheOf_18 rfl (lv_at hl 1 rfl) ?_
      refine lv_iconst (v := 1) hx hb dX0_cacheOf_19 (by decide) ?_
      refine lv_isub hx hb dX0_cacheOf_20 ?_
      obtain ⟨b6, eb6, hf2⟩ := nn_s hf
      clear hf
      subst eb6
      have hf := hf2
      clear hf2
      have hk_b6 := hk_q5 b6 rfl
      have hl : lv_has ls 2 [(0, .ref this), (1, .int x1)] := hl
      obtain ⟨q7, eq7, hiq7, hf⟩ := cqd_s hf
      refine c_aald X hB hk_b6 2 rfl rfl hiq7 eq7 dX0_cacheOf_21 ?_
      have hk_q7 : tyo G 2 q7 := by rw [eq7]; exact hB.2.2.2.2.2 _ _ hk_b6
      refine lv_goto (tgt := 26) hx hb dX0_cacheOf_22 (by decide) ?_
      have hT := hk_q7
      obtain rfl := Option.some.inj hf
      exact W.aret hx hb hr (Or.inl ⟨_, rfl⟩) (va_rf_or _) (fun t ht hW => c_endF X hB hT hS ht hW) hS.2.2 dX0_cacheOf_26 hlk
/-! X0_cacheFor -/
def cf_X0_cacheFor (F : Nat) (S : Cst) (this : Nat) (x1 : Int64) : Option (Option Nat) := if (lg_cmp (x1 >>> ((gI S 2 this).toInt64 &&& 63)) ((gI S 4 this).toInt64)) ≤ 0 then ((cf_X0_cacheOf F S this ((x1 >>> ((gI S 2 this).toInt64 &&& 63)).toInt32)).bind fun q2 => some q2) else (some none)
set_option maxHeartbeats 4000000 in
set_option maxRecDepth 100000 in
theorem cm_X0_cacheFor (l : Launch) (F : Nat) (D : va_G) (ct : ClassId × ClassId × ClassId) (G : Gam) (S : Cst) (this : Nat) (x1 : Int64) (hk_this : ty G 0 this) (r : Option Nat) (hf : cf_X0_cacheFor F S this x1 = some r) : cMet l yX0_cacheFor cq_X0_cacheFor { frames := 1, cells := 0, slots := 0, locals := 21 } D ct G [.ref this, .long x1] S (some (va_rf r)) (cF D ct G (fun G => tyo G 2 r) S) (0) (0) := by
  refine cMet_of (own := RX0) (cc := cX0_cacheFor) (maxL := 5) (ret := (some (.object "RangeArenas$Cache"))) (by decide) rfl rfl (Nat.le_of_ble_eq_true rfl) ?_
  intro p e s m below meth c X hr hlk hnm ls A hl hB hA hS
  have hx := X.1.1
  have hb := X.1.2.1
  have hown := X.1.2.2.2.1
  have hts := X.1.2.2.2.2
  have hl : lv_has ls 5 [(0, .ref this), (1, .long x1)] := hl
  generalize hargs : ([.ref this, .long x1] : List Value).toArray = args at X hts hS ⊢
  unfold cf_X0_cacheFor at hf
  refine lv_lload_n hx hb dX0_cacheFor_0 rfl (lv_at hl 1 rfl) ?_
  refine lv_aload_n hx hb dX0_cacheFor_1 rfl (lv_at hl 0 rfl) ?_
  refine c_get X hB hk_this rfl rfl kw_X0 2 24 (by decide) kf_X0_24 rfl rfl dX0_cacheFor_2 ?_
  refine lv_lshr (v := x1 >>> ((gI S 2 this).toInt64 &&& 63)) hx hb dX0_cacheFor_5 rfl ?_
  refine lv_lstore_n (lv' := [(3, .long (x1 >>> ((gI S 2 this).toInt64 &&& 63))), (0, .ref this), (1, .long x1)]) hx hb dX0_cacheFor_6 rfl hl (by decide) rfl (fun ls hl => ?_)
  refine lv_lload_n hx hb dX0_cacheFor_7 rfl (lv_at hl 0 rfl) ?_
  refine lv_aload_n hx hb dX0_cacheFor_8 rfl (lv_at hl 1 rfl) ?_
  refine c_get X hB hk_this rfl rfl kw_X0 4 31 (by decide) kf_X0_31 rfl rfl dX0_cacheFor_9 ?_
  refine lv_i2l (v := (gI S 4 this).toInt64) hx hb dX0_cacheFor_12 rfl ?_
  refine W.lcmp hx hb dX0_cacheFor_13 ?_
  refine lv_if_le (tgt := 21) hx hb dX0_cacheFor_14 (by decide) (fun hc1 => ?_) (fun hc1 => ?_)
  · have hf := if_t hf hc1
    refine lv_aload_n hx hb dX0_cacheFor_21 rfl (lv_at hl 1 rfl) ?_
    refine lv_lload_n hx hb dX0_cacheFor_22 rfl (lv_at hl 0 rfl) ?_
    refine lv_l2i (v := (x1 >>> ((gI S 2 this).toInt64 &&& 63)).toInt32) hx hb dX0_cacheFor_23 rfl ?_
    obtain ⟨q2, hqq2, hf⟩ := bn_s hf
    refine c_doF hB hS hA (va_runV (As := [.int ((x1 >>> ((gI S 2 this).toInt64 &&& 63)).toInt32)]) (rest := []) X.1 (cm_X0_cacheOf l F D ct _ _ this ((x1 >>> ((gI S 2 this).toInt64 &&& 63)).toInt32) hk_this _ hqq2) (cwV 1 hts (gd_V km_X0_54 ki_X0_cacheOf ks_X0_cacheOf kin_RX0 kc_X0_cacheOf) rfl rfl rfl (by decide +kernel) ⟨by dsimp only; omega, by dsimp only; omega⟩) (c_preV X hB hk_this rfl rfl) rfl rfl hl.1 rfl (lv_room (Nat.le_of_ble_eq_true rfl)) dX0_cacheFor_24 ⟨by dsimp only; omega, by dsimp only; omega⟩) rfl (fun H locs hB hT hS => ?_)
    have hk_q2 := hT
    have hT := hk_q2
    obtain rfl := Option.some.inj hf
    exact W.aret hx hb hr (Or.inl ⟨_, rfl⟩) (va_rf_or _) (fun t ht hW => c_endF X hB hT hS ht hW) hS.2.2 dX0_cacheFor_27 hlk
  · have hf := if_f hf hc1
    refine lv_null hx hb dX0_cacheFor_17 ?_
    refine lv_goto (tgt := 27) hx hb dX0_cacheFor_18 (by decide) ?_
    obtain rfl := Option.some.inj hf
    exact W.aret hx hb hr (Or.inl ⟨_, rfl⟩) (Or.inl rfl) (fun t ht hW => c_endF X hB tyo_none hS ht hW) hS.2.2 dX0_cacheFor_27 hlk
/-! J6_numberOfLeadingZeros_0f7a4 -/
def cf_J6_numberOfLeadingZeros_0f7a4_61 (F : Nat) (S : Cst) (x0 : Int32) (x1 : Int32) : Option Int32 := if x0 < (4 : Int32) then (some (x1 - ((x0.toUInt32 >>> ((1 : Int32).toUInt32 &&& Int32.toUInt32 31)).toInt32))) else (some ((x1 + (-2)) - ((((x0.toUInt32 >>> ((2 : Int32).toUInt32 &&& Int32.toUInt32 31)).toInt32).toUInt32 >>> ((1 : Int32).toUInt32 &&& Int32.toUInt32 31)).toInt32)))
def cf_J6_numberOfLeadingZeros_0f7a4_48 (F : Nat) (S : Cst) (x0 : Int32) (x1 : Int32) : Option Int32 := if x0 < (16 : Int32) then (cf_J6_numberOfLeadingZeros_0f7a4_61 F S x0 x1) else (cf_J6_numberOfLeadingZeros_0f7a4_61 F S ((x0.toUInt32 >>> ((4 : Int32).toUInt32 &&& Int32.toUInt32 31)).toInt32) (x1 + (-4)))
def cf_J6_numberOfLeadingZeros_0f7a4_33 (F : Nat) (S : Cst) (x0 : Int32) (x1 : Int32) : Option Int32 := if x0 < (256 : Int32) then (cf_J6_numberOfLeadingZeros_0f7a4_48 F S x0 x1) else (cf_J6_numberOfLeadingZeros_0f7a4_48 F S ((x0.toUInt32 >>> ((8 : Int32).toUInt32 &&& Int32.toUInt32 31)).toInt32) (x1 + (-8)))
def cf_J6_numberOfLeadingZeros_0f7a4 (F : Nat) (S : Cst) (x0 : Int32) : Option Int32 := if 0 < x0 then (if x0 < (65536 : Int32) then (cf_J6_numberOfLeadingZeros_0f7a4_33 F S x0 (31 : Int32)) else (cf_J6_numberOfLeadingZeros_0f7a4_33 F S ((x0.toUInt32 >>> ((16 : Int32).toUInt32 &&& Int32.toUInt32 31)).toInt32) (31 + (-16)))) else (if x0 = 0 then (some (32 : Int32)) else (some (0 : Int32)))
set_option maxHeartbeats 4000000 in
set_option maxRecDepth 100000 in
theorem cm_J6_numberOfLeadingZeros_0f7a4 (l : Launch) (F : Nat) (D : va_G) (ct : ClassId × ClassId × ClassId) (G : Gam) (S : Cst) (x0 : Int32)  (r : Int32) (hf : cf_J6_numberOfLeadingZeros_0f7a4 F S x0 = some r) : cMet l yJ6_numberOfLeadingZeros_0f7a4 cq_J6_numberOfLeadingZeros_0f7a4 { frames := 0, cells := 0, slots := 0, locals := 0 } D ct G [.int x0] S (some (.int r)) (cF D ct G (fun _ => True) S) (0) (0) := by
  refine cMet_of (own := RJ6) (cc := cJ6_numberOfLeadingZeros_0f7a4) (maxL := 2) (ret := (some .int)) (by decide) rfl rfl (Nat.le_of_ble_eq_true rfl) ?_
  intro p e s m below meth c X hr hlk hnm ls A hl hB hA hS
  have hx := X.1.1
  have hb := X.1.2.1
  have hown := X.1.2.2.2.1
  have hts := X.1.2.2.2.2
  have hl : lv_has ls 2 [(0, .int x0)] := hl
  generalize hargs : ([.int x0] : List Value).toArray = args at X hts hS ⊢
  have J_61 : ∀ (x0 : Int32) (x1 : Int32), cf_J6_numberOfLeadingZeros_0f7a4_61 F S x0 x1 = some r → ∀ (H : Heap) (locs : List Loc) (ls : Array Slot), cB D ct G A S H → va_S A s.heap H locs → lv_has ls 2 [(0, .int x0), (1, .int x1)] → W p l e { frames := 0, cells := 0, slots := 0, locals := 0 } s m args below meth c H locs (0) (0) (MQ below (mq (some (.int r)) (cF D ct G (fun _ => True) S) A) args s (0) (0) A) (F0 m 61 ls []) := by
    intro x0 x1 hf H locs ls hB hS hl
    unfold cf_J6_numberOfLeadingZeros_0f7a4_61 at hf
    refine lv_iload_n hx hb dJ6_numberOfLeadingZeros_0f7a4_61 rfl (lv_at hl 0 rfl) ?_
    refine lv_iconst (v := 4) hx hb dJ6_numberOfLeadingZeros_0f7a4_62 (by decide) ?_
    refine lv_icmp_lt (tgt := 73) hx hb dJ6_numberOfLeadingZeros_0f7a4_63 (by decide) (fun hc5 => ?_) (fun hc5 => ?_)
    · have hf := if_t hf hc5
      refine lv_iload_n hx hb dJ6_numberOfLeadingZeros_0f7a4_73 rfl (lv_at hl 1 rfl) ?_
      refine lv_iload_n hx hb dJ6_numberOfLeadingZeros_0f7a4_74 rfl (lv_at hl 0 rfl) ?_
      refine lv_iconst (v := 1) hx hb dJ6_numberOfLeadingZeros_0f7a4_75 (by decide) ?_
      refine lv_iushr (v := (x0.toUInt32 >>> ((1 : Int32).toUInt32 &&& Int32.toUInt32 31)).toInt32) hx hb dJ6_numberOfLeadingZeros_0f7a4_76 rfl ?_
      refine lv_isub hx hb dJ6_numberOfLeadingZeros_0f7a4_77 ?_
      obtain rfl := Option.some.inj hf
      exact W.iret hx hb hr (fun t ht hW => c_endF X hB trivial hS ht hW) hS.2.2 dJ6_numberOfLeadingZeros_0f7a4_78 hlk
    · have hf := if_f hf hc5
      refine lv_iinc (v := x1 + (-2)) (lv' := [(1, .int (x1 + (-2))), (0, .int x0)]) hx hb dJ6_numberOfLeadingZeros_0f7a4_66 hl (k := 1) rfl rfl (by decide) rfl (fun ls hl => ?_)
      refine lv_iload_n hx hb dJ6_numberOfLeadingZeros_0f7a4_69 rfl (lv_at hl 1 rfl) ?_
      refine lv_iconst (v := 2) hx hb dJ6_numberOfLeadingZeros_0f7a4_70 (by decide) ?_
      refine lv_iushr (v := (x0.toUInt32 >>> ((2 : Int32).toUInt32 &&& Int32.toUInt32 31)).toInt32) hx hb dJ6_numberOfLeadingZeros_0f7a4_71 rfl ?_
      refine lv_istore_n (lv' := [(0, .int ((x0.toUInt32 >>> ((2 : Int32).toUInt32 &&& Int32.toUInt32 31)).toInt32)), (1, .int (x1 + (-2)))]) hx hb dJ6_numberOfLeadingZeros_0f7a4_72 rfl hl (by decide) rfl (fun ls hl => ?_)
      refine lv_iload_n hx hb dJ6_numberOfLeadingZeros_0f7a4_73 rfl (lv_at hl 1 rfl) ?_
      refine lv_iload_n hx hb dJ6_numberOfLeadingZeros_0f7a4_74 rfl (lv_at hl 0 rfl) ?_
      refine lv_iconst (v := 1) hx hb dJ6_numberOfLeadingZeros_0f7a4_75 (by decide) ?_
      refine lv_iushr (v := (((x0.toUInt32 >>> ((2 : Int32).toUInt32 &&& Int32.toUInt32 31)).toInt32).toUInt32 >>> ((1 : Int32).toUInt32 &&& Int32.toUInt32 31)).toInt32) hx hb dJ6_numberOfLeadingZeros_0f7a4_76 rfl ?_
      refine lv_isub hx hb dJ6_numberOfLeadingZeros_0f7a4_77 ?_
      obtain rfl := Option.some.inj hf
      exact W.iret hx hb hr (fun t ht hW => c_endF X hB trivial hS ht hW) hS.2.2 dJ6_numberOfLeadingZeros_0f7a4_78 hlk
  have J_48 : ∀ (x0 : Int32) (x1 : Int32), cf_J6_numberOfLeadingZeros_0f7a4_48 F S x0 x1 = some r → ∀ (H : Heap) (locs : List Loc) (ls : Array Slot), cB D ct G A S H → va_S A s.heap H locs → lv_has ls 2 [(0, .int x0), (1, .int x1)] → W p l e { frames := 0, cells := 0, slots := 0, locals := 0 } s m args below meth c H locs (0) (0) (MQ below (mq (some (.int r)) (cF D ct G (fun _ => True) S) A) args s (0) (0) A) (F0 m 48 ls []) := by
    intro x0 x1 hf H locs ls hB hS hl
    unfold cf_J6_numberOfLeadingZeros_0f7a4_48 at hf
    refine lv_iload_n hx hb dJ6_numberOfLeadingZeros_0f7a4_48 rfl (lv_at hl 0 rfl) ?_
    refine lv_bipush (v := 16) hx hb dJ6_numberOfLeadingZeros_0f7a4_49 (by decide) ?_
    refine lv_icmp_lt (tgt := 61) hx hb dJ6_numberOfLeadingZeros_0f7a4_51 (by decide) (fun hc4 => ?_) (fun hc4 => ?_)
    · have hf := if_t hf hc4
      exact J_61 x0 x1 hf _ _ _ hB hS (lv_sub hl [0, 1] rfl)
    · have hf := if_f hf hc4
      refine lv_iinc (v := x1 + (-4)) (lv' := [(1, .int (x1 + (-4))), (0, .int x0)]) hx hb dJ6_numberOfLeadingZeros_0f7a4_54 hl (k := 1) rfl rfl (by decide) rfl (fun ls hl => ?_)
      refine lv_iload_n hx hb dJ6_numberOfLeadingZeros_0f7a4_57 rfl (lv_at hl 1 rfl) ?_
      refine lv_iconst (v := 4) hx hb dJ6_numberOfLeadingZeros_0f7a4_58 (by decide) ?_
      refine lv_iushr (v := (x0.toUInt32 >>> ((4 : Int32).toUInt32 &&& Int32.toUInt32 31)).toInt32) hx hb dJ6_numberOfLeadingZeros_0f7a4_59 rfl ?_
      refine lv_istore_n (lv' := [(0, .int ((x0.toUInt32 >>> ((4 : Int32).toUInt32 &&& Int32.toUInt32 31)).toInt32)), (1, .int (x1 + (-4)))]) hx hb dJ6_numberOfLeadingZeros_0f7a4_60 rfl hl (by decide) rfl (fun ls hl => ?_)
      exact J_61 ((x0.toUInt32 >>> ((4 : Int32).toUInt32 &&& Int32.toUInt32 31)).toInt32) (x1 + (-4)) hf _ _ _ hB hS (lv_sub hl [0, 1] rfl)
  have J_33 : ∀ (x0 : Int32) (x1 : Int32), cf_J6_numberOfLeadingZeros_0f7a4_33 F S x0 x1 = some r → ∀ (H : Heap) (locs : List Loc) (ls : Array Slot), cB D ct G A S H → va_S A s.heap H locs → lv_has ls 2 [(0, .int x0), (1, .int x1)] → W p l e { frames := 0, cells := 0, slots := 0, locals := 0 } s m args below meth c H locs (0) (0) (MQ below (mq (some (.int r)) (cF D ct G (fun _ => True) S) A) args s (0) (0) A) (F0 m 33 ls []) := by
    intro x0 x1 hf H locs ls hB hS hl
    unfold cf_J6_numberOfLeadingZeros_0f7a4_33 at hf
    refine lv_iload_n hx hb dJ6_numberOfLeadingZeros_0f7a4_33 rfl (lv_at hl 0 rfl) ?_
    refine lv_sipush (v := 256) hx hb dJ6_numberOfLeadingZeros_0f7a4_34 (by decide) ?_
    refine lv_icmp_lt (tgt := 48) hx hb dJ6_numberOfLeadingZeros_0f7a4_37 (by decide) (fun hc3 => ?_) (fun hc3 => ?_)
    · have hf := if_t hf hc3
      exact J_48 x0 x1 hf _ _ _ hB hS (lv_sub hl [0, 1] rfl)
    · have hf := if_f hf hc3
      refine lv_iinc (v := x1 + (-8)) (lv' := [(1, .int (x1 + (-8))), (0, .int x0)]) hx hb dJ6_numberOfLeadingZeros_0f7a4_40 hl (k := 1) rfl rfl (by decide) rfl (fun ls hl => ?_)
      refine lv_iload_n hx hb dJ6_numberOfLeadingZeros_0f7a4_43 rfl (lv_at hl 1 rfl) ?_
      refine lv_bipush (v := 8) hx hb dJ6_numberOfLeadingZeros_0f7a4_44 (by decide) ?_
      refine lv_iushr (v := (x0.toUInt32 >>> ((8 : Int32).toUInt32 &&& Int32.toUInt32 31)).toInt32) hx hb dJ6_numberOfLeadingZeros_0f7a4_46 rfl ?_
      refine lv_istore_n (lv' := [(0, .int ((x0.toUInt32 >>> ((8 : Int32).toUInt32 &&& Int32.toUInt32 31)).toInt32)), (1, .int (x1 + (-8)))]) hx hb dJ6_numberOfLeadingZeros_0f7a4_47 rfl hl (by decide) rfl (fun ls hl => ?_)
      exact J_48 ((x0.toUInt32 >>> ((8 : Int32).toUInt32 &&& Int32.toUInt32 31)).toInt32) (x1 + (-8)) hf _ _ _ hB hS (lv_sub hl [0, 1] rfl)
  unfold cf_J6_numberOfLeadingZeros_0f7a4 at hf
  refine lv_iload_n hx hb dJ6_numberOfLeadingZeros_0f7a4_0 rfl (lv_at hl 0 rfl) ?_
  refine lv_if_gt (tgt := 15) hx hb dJ6_numberOfLeadingZeros_0f7a4_1 (by decide) (fun hc1 => ?_) (fun hc1 => ?_)
  · have hf := if_t hf hc1
    refine lv_bipush (v := 31) hx hb dJ6_numberOfLeadingZeros_0f7a4_15 (by decide) ?_
    refine lv_istore_n (lv' := [(1, .int 31), (0, .int x0)]) hx hb dJ6_numberOfLeadingZeros_0f7a4_17 rfl hl (by decide) rfl (fun ls hl => ?_)
    refine lv_iload_n hx hb dJ6_numberOfLeadingZeros_0f7a4_18 rfl (lv_at hl 1 rfl) ?_
    refine lv_ldcw (v := 65536) hx hb hown (hts (.constant RJ6 264 65536) (kw_m kk_J6_264)) dJ6_numberOfLeadingZeros_0f7a4_19 ?_
    refine lv_icmp_lt (tgt := 33) hx hb dJ6_numberOfLeadingZeros_0f7a4_22 (by decide) (fun hc2 => ?_) (fun hc2 => ?_)
    · have hf := if_t hf hc2
      exact J_33 x0 (31 : Int32) hf _ _ _ hB hS (lv_sub hl [1, 0] rfl)
    · have hf := if_f hf hc2
      refine lv_iinc (v := 31 + (-16)) (lv' := [(1, .int (31 + (-16))), (0, .int x0)]) hx hb dJ6_numberOfLeadingZeros_0f7a4_25 hl (k := 0) rfl rfl (by decide) rfl (fun ls hl => ?_)
      refine lv_iload_n hx hb dJ6_numberOfLeadingZeros_0f7a4_28 rfl (lv_at hl 1 rfl) ?_
      refine lv_bipush (v := 16) hx hb dJ6_numberOfLeadingZeros_0f7a4_29 (by decide) ?_
      refine lv_iushr (v := (x0.toUInt32 >>> ((16 : Int32).toUInt32 &&& Int32.toUInt32 31)).toInt32) hx hb dJ6_numberOfLeadingZeros_0f7a4_31 rfl ?_
      refine lv_istore_n (lv' := [(0, .int ((x0.toUInt32 >>> ((16 : Int32).toUInt32 &&& Int32.toUInt32 31)).toInt32)), (1, .int (31 + (-16)))]) hx hb dJ6_numberOfLeadingZeros_0f7a4_32 rfl hl (by decide) rfl (fun ls hl => ?_)
      exact J_33 ((x0.toUInt32 >>> ((16 : Int32).toUInt32 &&& Int32.toUInt32 31)).toInt32) (31 + (-16)) hf _ _ _ hB hS (lv_sub hl [0, 1] rfl)
  · have hf := if_f hf hc1
    refine lv_iload_n hx hb dJ6_numberOfLeadingZeros_0f7a4_4 rfl (lv_at hl 0 rfl) ?_
    refine lv_if_ne (tgt := 13) hx hb dJ6_numberOfLeadingZeros_0f7a4_5 (by decide) (fun hc6 => ?_) (fun hc6 => ?_)
    · have hf := if_f hf hc6
      refine lv_iconst (v := 0) hx hb dJ6_numberOfLeadingZeros_0f7a4_13 (by decide) ?_
      obtain rfl := Option.some.inj hf
      exact W.iret hx hb hr (fun t ht hW => c_endF X hB trivial hS ht hW) hS.2.2 dJ6_numberOfLeadingZeros_0f7a4_14 hlk
    · have hf := if_t hf hc6
      refine lv_bipush (v := 32) hx hb dJ6_numberOfLeadingZeros_0f7a4_8 (by decide) ?_
      refine lv_goto (tgt := 14) hx hb dJ6_numberOfLeadingZeros_0f7a4_10 (by decide) ?_
      obtain rfl := Option.some.inj hf
      exact W.iret hx hb hr (fun t ht hW => c_endF X hB trivial hS ht hW) hS.2.2 dJ6_numberOfLeadingZeros_0f7a4_14 hlk
/-! X0_listOf -/
def cf_X0_listOf (F : Nat) (S : Cst) (this : Nat) (x1 : Int32) : Option Int32 := (cf_J6_numberOfLeadingZeros_0f7a4 F S (x1 >>> ((gI S 2 this) &&& 31))).bind fun v1 => some (31 - v1)
set_option maxHeartbeats 4000000 in
set_option maxRecDepth 100000 in
theorem cm_X0_listOf (l : Launch) (F : Nat) (D : va_G) (ct : ClassId × ClassId × ClassId) (G : Gam) (S : Cst) (this : Nat) (x1 : Int32) (hk_this : ty G 0 this) (r : Int32) (hf : cf_X0_listOf F S this x1 = some r) : cMet l yX0_listOf cq_X0_listOf { frames := 1, cells := 0, slots := 0, locals := 21 } D ct G [.ref this, .int x1] S (some (.int r)) (cF D ct G (fun _ => True) S) (0) (0) := by
  refine cMet_of (own := RX0) (cc := cX0_listOf) (maxL := 2) (ret := (some .int)) (by decide) rfl rfl (Nat.le_of_ble_eq_true rfl) ?_
  intro p e s m below meth c X hr hlk hnm ls A hl hB hA hS
  have hx := X.1.1
  have hb := X.1.2.1
  have hown := X.1.2.2.2.1
  have hts := X.1.2.2.2.2
  have hl : lv_has ls 2 [(0, .ref this), (1, .int x1)] := hl
  generalize hargs : ([.ref this, .int x1] : List Value).toArray = args at X hts hS ⊢
  unfold cf_X0_listOf at hf
  refine lv_bipush (v := 31) hx hb dX0_listOf_0 (by decide) ?_
  refine lv_iload_n hx hb dX0_listOf_2 rfl (lv_at hl 1 rfl) ?_
  refine lv_aload_n hx hb dX0_listOf_3 rfl (lv_at hl 0 rfl) ?_
  refine c_get X hB hk_this rfl rfl kw_X0 2 24 (by decide) kf_X0_24 rfl rfl dX0_listOf_4 ?_
  refine lv_ishr hx hb dX0_listOf_7 ?_
  obtain ⟨v1, hqv1, hf⟩ := bn_s hf
  refine c_doF hB hS hA (va_runS (As := [.int (x1 >>> ((gI S 2 this) &&& 31))]) (rest := [.int 31]) X.1 (cm_J6_numberOfLeadingZeros_0f7a4 l F D ct _ _ (x1 >>> ((gI S 2 this) &&& 31)) _ hqv1) (va_cwS 1 hts (gd_S km_X0_58 kst_J6_numberOfLeadingZeros_0f7a4 kin_RJ6 kc_J6_numberOfLeadingZeros_0f7a4) rfl rfl rfl (by decide +kernel) ⟨by dsimp only; omega, by dsimp only; omega⟩) (c_preS X hB) rfl rfl hl.1 rfl (lv_room (Nat.le_of_ble_eq_true rfl)) dX0_listOf_8 ⟨by dsimp only; omega, by dsimp only; omega⟩) rfl (fun H locs hB hT hS => ?_)
  refine lv_isub hx hb dX0_listOf_11 ?_
  obtain rfl := Option.some.inj hf
  exact W.iret hx hb hr (fun t ht hW => c_endF X hB trivial hS ht hW) hS.2.2 dX0_listOf_12 hlk
/-! X0_listFor -/
def cf_X0_listFor (F : Nat) (S : Cst) (this : Nat) (x1 : Int32) : Option Int32 := (cf_J6_numberOfLeadingZeros_0f7a4 F S ((x1 >>> ((gI S 2 this) &&& 31)) - 1)).bind fun v1 => some (32 - v1)
set_option maxHeartbeats 4000000 in
set_option maxRecDepth 100000 in
theorem cm_X0_listFor (l : Launch) (F : Nat) (D : va_G) (ct : ClassId × ClassId × ClassId) (G : Gam) (S : Cst) (this : Nat) (x1 : Int32) (hk_this : ty G 0 this) (r : Int32) (hf : cf_X0_listFor F S this x1 = some r) : cMet l yX0_listFor cq_X0_listFor { frames := 1, cells := 0, slots := 0, locals := 21 } D ct G [.ref this, .int x1] S (some (.int r)) (cF D ct G (fun _ => True) S) (0) (0) := by
  refine cMet_of (own := RX0) (cc := cX0_listFor) (maxL := 2) (ret := (some .int)) (by decide) rfl rfl (Nat.le_of_ble_eq_true rfl) ?_
  intro p e s m below meth c X hr hlk hnm ls A hl hB hA hS
  have hx := X.1.1
  have hb := X.1.2.1
  have hown := X.1.2.2.2.1
  have hts := X.1.2.2.2.2
  have hl : lv_has ls 2 [(0, .ref this), (1, .int x1)] := hl
  generalize hargs : ([.ref this, .int x1] : List Value).toArray = args at X hts hS ⊢
  unfold cf_X0_listFor at hf
  refine lv_bipush (v := 32) hx hb dX0_listFor_0 (by decide) ?_
  refine lv_iload_n hx hb dX0_listFor_2 rfl (lv_at hl 1 rfl) ?_
  refine lv_aload_n hx hb dX0_listFor_3 rfl (lv_at hl 0 rfl) ?_
  refine c_get X hB hk_this rfl rfl kw_X0 2 24 (by decide) kf_X0_24 rfl rfl dX0_listFor_4 ?_
  refine lv_ishr hx hb dX0_listFor_7 ?_
  refine lv_iconst (v := 1) hx hb dX0_listFor_8 (by decide) ?_
  refine lv_isub hx hb dX0_listFor_9 ?_
  obtain ⟨v1, hqv1, hf⟩ := bn_s hf
  refine c_doF hB hS hA (va_runS (As := [.int ((x1 >>> ((gI S 2 this) &&& 31)) - 1)]) (rest := [.int 32]) X.1 (cm_J6_numberOfLeadingZeros_0f7a4 l F D ct _ _ ((x1 >>> ((gI S 2 this) &&& 31)) - 1) _ hqv1) (va_cwS 1 hts (gd_S km_X0_58 kst_J6_numberOfLeadingZeros_0f7a4 kin_RJ6 kc_J6_numberOfLeadingZeros_0f7a4) rfl rfl rfl (by decide +kernel) ⟨by dsimp only; omega, by dsimp only; omega⟩) (c_preS X hB) rfl rfl hl.1 rfl (lv_room (Nat.le_of_ble_eq_true rfl)) dX0_listFor_10 ⟨by dsimp only; omega, by dsimp only; omega⟩) rfl (fun H locs hB hT hS => ?_)
  refine lv_isub hx hb dX0_listFor_13 ?_
  obtain rfl := Option.some.inj hf
  exact W.iret hx hb hr (fun t ht hW => c_endF X hB trivial hS ht hW) hS.2.2 dX0_listFor_14 hlk
/-! X0_tick -/
def cf_X0_tick (F : Nat) (S : Cst) (this : Nat) : Option (Int32 × Cst) := st1 (sI S 10 this ((gI S 10 this) + 1)) fun S1 => some ((gI S1 10 this), S1)
set_option maxHeartbeats 4000000 in
set_option maxRecDepth 100000 in
theorem cm_X0_tick (l : Launch) (F : Nat) (D : va_G) (ct : ClassId × ClassId × ClassId) (G : Gam) (S : Cst) (this : Nat) (hk_this : ty G 0 this) (r : Int32) (S' : Cst) (hf : cf_X0_tick F S this = some (r, S')) : cMet l yX0_tick cq_X0_tick { frames := 0, cells := 0, slots := 0, locals := 0 } D ct G [.ref this] S (some (.int r)) (cF D ct G (fun _ => True) S') (0) (0) := by
  refine cMet_of (own := RX0) (cc := cX0_tick) (maxL := 1) (ret := (some .int)) (by decide) rfl rfl (Nat.le_of_ble_eq_true rfl) ?_
  intro p e s m below meth c X hr hlk hnm ls A hl hB hA hS
  have hx := X.1.1
  have hb := X.1.2.1
  have hown := X.1.2.2.2.1
  have hts := X.1.2.2.2.2
  have hl : lv_has ls 1 [(0, .ref this)] := hl
  generalize hargs : ([.ref this] : List Value).toArray = args at X hts hS ⊢
  unfold cf_X0_tick at hf
  refine lv_aload_n hx hb dX0_tick_0 rfl (lv_at hl 0 rfl) ?_
  refine lv_dup hx hb dX0_tick_1 rfl ?_
  refine c_get X hB hk_this rfl rfl kw_X0 10 61 (by decide) kf_X0_61 rfl rfl dX0_tick_2 ?_
  refine lv_iconst (v := 1) hx hb dX0_tick_5 (by decide) ?_
  refine lv_iadd hx hb dX0_tick_6 ?_
  obtain ⟨S1, eS1, hf⟩ := st1_s hf
  refine c_put X hB hS hk_this rfl rfl kw_X0 tyX0 tyX0_ok nmX0 10 61 (by decide) kf_X0_61 rfl (Or.inl rfl) (fty := .int) rfl rfl rfl (Nat.le_of_ble_eq_true rfl) (cp_0_10 _) (fun κ b h => ccell_sI κ b h) rfl hB.2.2.2 dX0_tick_7 (fun H locs hB hS => ?_)
  rw [← eS1] at hB
  refine lv_aload_n hx hb dX0_tick_10 rfl (lv_at hl 0 rfl) ?_
  refine c_get X hB hk_this rfl rfl kw_X0 10 61 (by decide) kf_X0_61 rfl rfl dX0_tick_11 ?_
  obtain ⟨rfl, rfl⟩ := Prod.mk.inj (Option.some.inj hf)
  exact W.iret hx hb hr (fun t ht hW => c_endF X hB trivial hS ht hW) hS.2.2 dX0_tick_14 hlk
/-! X0_meets -/
def cf_X0_meets_5 (F : Nat) (this : Nat) (S : Cst) : Nat → Int32 → Int32 → Option Nat → Option Int32
  | 0 => fun _ _ _ => none
  | n + 1 => fun x1 x2 x3 => nc x3 (some (0 : Int32)) (fun b2 => if (x1 + x2) ≤ (gI S 80 b2) then (st1 (gP S 87 b2) fun q4 => (cf_X0_meets_5 F this S n) x1 x2 q4) else (if ((gI S 80 b2) + (gI S 81 b2)) ≤ x1 then (st1 (gP S 87 b2) fun q6 => (cf_X0_meets_5 F this S n) x1 x2 q6) else (some (1 : Int32))))
def cf_X0_meets (F : Nat) (S : Cst) (this : Nat) (x1 : Int32) (x2 : Int32) : Option Int32 := st1 (gP S 7 this) fun q1 => cf_X0_meets_5 F this S F x1 x2 q1
set_option maxHeartbeats 4000000 in
set_option maxRecDepth 100000 in
theorem cm_X0_meets (l : Launch) (F : Nat) (D : va_G) (ct : ClassId × ClassId × ClassId) (G : Gam) (S : Cst) (this : Nat) (x1 : Int32) (x2 : Int32) (hk_this : ty G 0 this) (r : Int32) (hf : cf_X0_meets F S this x1 x2 = some r) : cMet l yX0_meets cq_X0_meets { frames := 0, cells := 0, slots := 0, locals := 0 } D ct G [.ref this, .int x1, .int x2] S (some (.int r)) (cF D ct G (fun _ => True) S) (0) (0) := by
  refine cMet_of (own := RX0) (cc := cX0_meets) (maxL := 4) (ret := (some .boolean)) (by decide) rfl rfl (Nat.le_of_ble_eq_true rfl) ?_
  intro p e s m below meth c X hr hlk hnm ls A hl hB hA hS
  have hx := X.1.1
  have hb := X.1.2.1
  have hown := X.1.2.2.2.1
  have hts := X.1.2.2.2.2
  have hl : lv_has ls 4 [(0, .ref this), (1, .int x1), (2, .int x2)] := hl
  generalize hargs : ([.ref this, .int x1, .int x2] : List Value).toArray = args at X hts hS ⊢
  have J_5 : ∀ (n_5 : Nat) (x1 : Int32) (x2 : Int32) (x3 : Option Nat), cf_X0_meets_5 F this S n_5 x1 x2 x3 = some r → ∀ (H : Heap) (locs : List Loc) (ls : Array Slot), tyo G 5 x3 → cB D ct G A S H → va_S A s.heap H locs → lv_has ls 4 [(1, .int x1), (2, .int x2), (3, va_rf x3)] → W p l e { frames := 0, cells := 0, slots := 0, locals := 0 } s m args below meth c H locs (0) (0) (MQ below (mq (some (.int r)) (cF D ct G (fun _ => True) S) A) args s (0) (0) A) (F0 m 5 ls []) := by
    intro n_5
    induction n_5 with
    | zero => intro x1 x2 x3 hf; cases hf
    | succ n_5 ih_5 =>
      intro x1 x2 x3 hf H locs ls hk_x3 hB hS hl
      rw [cf_X0_meets_5] at hf
      refine lv_aload_nq hx hb dX0_meets_5 rfl (lv_at hl 2 rfl) ?_
      rcases x3 with _ | b2
      · have hf := nc_n hf
        have hl : lv_has ls 4 [(1, .int x1), (2, .int x2), (3, .null)] := hl
        refine lv_ifnullN (tgt := 42) hx hb dX0_meets_6 (by decide) ?_
        refine lv_iconst (v := 0) hx hb dX0_meets_42 (by decide) ?_
        obtain rfl := Option.some.inj hf
        exact W.zret hx hb hr rfl (fun t ht hW => c_endF X hB trivial hS ht hW) hS.2.2 dX0_meets_43 hlk
      · have hf := nc_b hf
        have hk_b2 := hk_x3 b2 rfl
        have hl : lv_has ls 4 [(1, .int x1), (2, .int x2), (3, .ref b2)] := hl
        refine lv_ifnull hx hb dX0_meets_6 ?_
        refine lv_aload_n hx hb dX0_meets_9 rfl (lv_at hl 2 rfl) ?_
        refine c_get X hB hk_b2 rfl rfl kw_X5 0 68 (by decide) kf_X0_68 rfl rfl dX0_meets_10 ?_
        refine lv_iload_n hx hb dX0_meets_13 rfl (lv_at hl 0 rfl) ?_
        refine lv_iload_n hx hb dX0_meets_14 rfl (lv_at hl 1 rfl) ?_
        refine lv_iadd hx hb dX0_meets_15 ?_
        refine lv_icmp_ge (tgt := 34) hx hb dX0_meets_16 (by decide) (fun hc3 => ?_) (fun hc3 => ?_)
        · have hf := if_t hf hc3
          refine lv_aload_n hx hb dX0_meets_34 rfl (lv_at hl 2 rfl) ?_
          refine c_get X hB hk_b2 rfl rfl kw_X5 7 76 (by decide) kf_X0_76 rfl rfl dX0_meets_35 ?_
          obtain ⟨q4, eq4, hf⟩ := st1_s hf
          rw [← eq4]
          have hk_q4 : tyo G 5 q4 := by rw [eq4]; exact hB.2.2.2.1 (5, 87, 5) (by decide) _ hk_b2
          refine lv_astore_nq (lv' := [(3, va_rf q4), (1, .int x1), (2, .int x2)]) hx hb dX0_meets_38 rfl hl (by decide) rfl (fun ls hl => ?_)
          refine lv_goto (tgt := 5) hx hb dX0_meets_39 (by decide) ?_
          exact ih_5 x1 x2 q4 hf _ _ _ hk_q4 hB hS (lv_sub hl [1, 2, 0] rfl)
        · have hf := if_f hf hc3
          refine lv_iload_n hx hb dX0_meets_19 rfl (lv_at hl 0 rfl) ?_
          refine lv_aload_n hx hb dX0_meets_20 rfl (lv_at hl 2 rfl) ?_
          refine c_get X hB hk_b2 rfl rfl kw_X5 0 68 (by decide) kf_X0_68 rfl rfl dX0_meets_21 ?_
          refine lv_aload_n hx hb dX0_meets_24 rfl (lv_at hl 2 rfl) ?_
          refine c_get X hB hk_b2 rfl rfl kw_X5 1 73 (by decide) kf_X0_73 rfl rfl dX0_meets_25 ?_
          refine lv_iadd hx hb dX0_meets_28 ?_
          refine lv_icmp_ge (tgt := 34) hx hb dX0_meets_29 (by decide) (fun hc5 => ?_) (fun hc5 => ?_)
          · have hf := if_t hf hc5
            refine lv_aload_n hx hb dX0_meets_34 rfl (lv_at hl 2 rfl) ?_
            refine c_get X hB hk_b2 rfl rfl kw_X5 7 76 (by decide) kf_X0_76 rfl rfl dX0_meets_35 ?_
            obtain ⟨q6, eq6, hf⟩ := st1_s hf
            rw [← eq6]
            have hk_q6 : tyo G 5 q6 := by rw [eq6]; exact hB.2.2.2.1 (5, 87, 5) (by decide) _ hk_b2
            refine lv_astore_nq (lv' := [(3, va_rf q6), (1, .int x1), (2, .int x2)]) hx hb dX0_meets_38 rfl hl (by decide) rfl (fun ls hl => ?_)
            refine lv_goto (tgt := 5) hx hb dX0_meets_39 (by decide) ?_
            exact ih_5 x1 x2 q6 hf _ _ _ hk_q6 hB hS (lv_sub hl [1, 2, 0] rfl)
          · have hf := if_f hf hc5
            refine lv_iconst (v := 1) hx hb dX0_meets_32 (by decide) ?_
            obtain rfl := Option.some.inj hf
            exact W.zret hx hb hr rfl (fun t ht hW => c_endF X hB trivial hS ht hW) hS.2.2 dX0_meets_33 hlk
  unfold cf_X0_meets at hf
  refine lv_aload_n hx hb dX0_meets_0 rfl (lv_at hl 0 rfl) ?_
  refine c_get X hB hk_this rfl rfl kw_X0 7 64 (by decide) kf_X0_64 rfl rfl dX0_meets_1 ?_
  obtain ⟨q1, eq1, hf⟩ := st1_s hf
  rw [← eq1]
  have hk_q1 : tyo G 5 q1 := by rw [eq1]; exact hB.2.2.2.1 (0, 7, 5) (by decide) _ hk_this
  refine lv_astore_nq (lv' := [(3, va_rf q1), (0, .ref this), (1, .int x1), (2, .int x2)]) hx hb dX0_meets_4 rfl hl (by decide) rfl (fun ls hl => ?_)
  exact J_5 F x1 x2 q1 hf _ _ _ hk_q1 hB hS (lv_sub hl [2, 3, 0] rfl)
/-! X0_link -/
def cf_X0_link_43 (F : Nat) (this : Nat) (S : Cst) (x1 : Option Nat) (x3 : Option Nat) : Option Cst := nc x3 (st1 (sI S 9 this ((gI S 9 this) + 1)) fun S9 => some S9) (fun b8 => st1 (sP S 86 b8 x1) fun S10 => st1 (sI S10 9 this ((gI S10 9 this) + 1)) fun S11 => some S11)
def cf_X0_link_15 (F : Nat) (this : Nat) (S : Cst) (x1 : Option Nat) (x2 : Option Nat) (y0 : Option Nat) : Option Cst := nn x1 fun b3 => st1 (sP S 86 b3 x2) fun S4 => st1 (sP S4 87 b3 y0) fun S5 => nc x2 (st1 (sP S5 7 this (some b3)) fun S7 => cf_X0_link_43 F this S7 (some b3) y0) (fun b6 => st1 (sP S5 87 b6 (some b3)) fun S12 => cf_X0_link_43 F this S12 (some b3) y0)
def cf_X0_link (F : Nat) (S : Cst) (this : Nat) (x1 : Option Nat) (x2 : Option Nat) : Option Cst := nc x2 (st1 (gP S 7 this) fun q2 => cf_X0_link_15 F this S x1 none q2) (fun b1 => st1 (gP S 87 b1) fun q13 => cf_X0_link_15 F this S x1 (some b1) q13)
set_option maxHeartbeats 4000000 in
set_option maxRecDepth 100000 in
theorem cm_X0_link (l : Launch) (F : Nat) (D : va_G) (ct : ClassId × ClassId × ClassId) (G : Gam) (S : Cst) (this : Nat) (x1 : Option Nat) (x2 : Option Nat) (hk_this : ty G 0 this) (hk_x1 : tyo G 5 x1) (hk_x2 : tyo G 5 x2) (S' : Cst) (hf : cf_X0_link F S this x1 x2 = some S') : cMet l yX0_link cq_X0_link { frames := 0, cells := 0, slots := 0, locals := 0 } D ct G [.ref this, va_rf x1, va_rf x2] S none (cF D ct G (fun _ => True) S') (0) (0) := by
  refine cMet_of (own := RX0) (cc := cX0_link) (maxL := 4) (ret := none) (by decide) rfl rfl (by rcases x1 with _ | _ <;> rcases x2 with _ | _ <;> exact (Nat.le_of_ble_eq_true rfl)) ?_
  intro p e s m below meth c X hr hlk hnm ls A hl hB hA hS
  have hx := X.1.1
  have hb := X.1.2.1
  have hown := X.1.2.2.2.1
  have hts := X.1.2.2.2.2
  have hl : lv_has ls 4 [(0, .ref this), (1, va_rf x1), (2, va_rf x2)] := (by rcases x1 with _ | _ <;> rcases x2 with _ | _ <;> exact hl)
  generalize hargs : ([.ref this, va_rf x1, va_rf x2] : List Value).toArray = args at X hts hS ⊢
  have J_43 : ∀ (S : Cst) (x1 : Option Nat) (x3 : Option Nat), cf_X0_link_43 F this S x1 x3 = some S' → ∀ (H : Heap) (locs : List Loc) (ls : Array Slot), tyo G 5 x1 → tyo G 5 x3 → cB D ct G A S H → va_S A s.heap H locs → lv_has ls 4 [(0, .ref this), (1, va_rf x1), (3, va_rf x3)] → W p l e { frames := 0, cells := 0, slots := 0, locals := 0 } s m args below meth c H locs (0) (0) (MQ below (mq none (cF D ct G (fun _ => True) S') A) args s (0) (0) A) (F0 m 43 ls []) := by
    intro S x1 x3 hf H locs ls hk_x1 hk_x3 hB hS hl
    unfold cf_X0_link_43 at hf
    refine lv_aload_nq hx hb dX0_link_43 rfl (lv_at hl 2 rfl) ?_
    rcases x3 with _ | b8
    · have hf := nc_n hf
      have hl : lv_has ls 4 [(0, .ref this), (1, va_rf x1), (3, .null)] := hl
      refine lv_ifnullN (tgt := 52) hx hb dX0_link_44 (by decide) ?_
      refine lv_aload_n hx hb dX0_link_52 rfl (lv_at hl 0 rfl) ?_
      refine lv_dup hx hb dX0_link_53 rfl ?_
      refine c_get X hB hk_this rfl rfl kw_X0 9 103 (by decide) kf_X0_103 rfl rfl dX0_link_54 ?_
      refine lv_iconst (v := 1) hx hb dX0_link_57 (by decide) ?_
      refine lv_iadd hx hb dX0_link_58 ?_
      obtain ⟨S9, eS9, hf⟩ := st1_s hf
      refine c_put X hB hS hk_this rfl rfl kw_X0 tyX0 tyX0_ok nmX0 9 103 (by decide) kf_X0_103 rfl (Or.inl rfl) (fty := .int) rfl rfl rfl (Nat.le_of_ble_eq_true rfl) (cp_0_9 _) (fun κ b h => ccell_sI κ b h) rfl hB.2.2.2 dX0_link_59 (fun H locs hB hS => ?_)
      rw [← eS9] at hB
      obtain rfl := Option.some.inj hf
      exact W.vret hx hb hr (fun t ht hW => c_endF X hB trivial hS ht hW) hS.2.2 dX0_link_62 hlk
    · have hf := nc_b hf
      have hk_b8 := hk_x3 b8 rfl
      have hl : lv_has ls 4 [(0, .ref this), (1, va_rf x1), (3, .ref b8)] := hl
      refine lv_ifnull hx hb dX0_link_44 ?_
      refine lv_aload_n hx hb dX0_link_47 rfl (lv_at hl 2 rfl) ?_
      refine lv_aload_nq hx hb dX0_link_48 rfl (lv_at hl 1 rfl) ?_
      obtain ⟨S10, eS10, hf⟩ := st1_s hf
      refine c_put X hB hS hk_b8 rfl rfl kw_X5 tyX5 tyX5_ok nmX5 6 100 (by decide) kf_X0_100 rfl (Or.inl rfl) (fty := tyX5 6) (tyX5_ok 6 (by decide)) (fr_f (tyX5 6) (Or.inl ⟨_, rfl⟩) x1).1 (fr_f (tyX5 6) (Or.inl ⟨_, rfl⟩) x1).2 (Nat.le_of_ble_eq_true rfl) (cp_5_6 x1) (fun κ b h => ccell_sP κ b h) rfl (wt_sP (κ := 5) hB.2.2.2 (by decide) hk_x1) dX0_link_49 (fun H locs hB hS => ?_)
      rw [← eS10] at hB
      refine lv_aload_n hx hb dX0_link_52 rfl (lv_at hl 0 rfl) ?_
      refine lv_dup hx hb dX0_link_53 rfl ?_
      refine c_get X hB hk_this rfl rfl kw_X0 9 103 (by decide) kf_X0_103 rfl rfl dX0_link_54 ?_
      refine lv_iconst (v := 1) hx hb dX0_link_57 (by decide) ?_
      refine lv_iadd hx hb dX0_link_58 ?_
      obtain ⟨S11, eS11, hf⟩ := st1_s hf
      refine c_put X hB hS hk_this rfl rfl kw_X0 tyX0 tyX0_ok nmX0 9 103 (by decide) kf_X0_103 rfl (Or.inl rfl) (fty := .int) rfl rfl rfl (Nat.le_of_ble_eq_true rfl) (cp_0_9 _) (fun κ b h => ccell_sI κ b h) rfl hB.2.2.2 dX0_link_59 (fun H locs hB hS => ?_)
      rw [← eS11] at hB
      obtain rfl := Option.some.inj hf
      exact W.vret hx hb hr (fun t ht hW => c_endF X hB trivial hS ht hW) hS.2.2 dX0_link_62 hlk
  have J_15 : ∀ (S : Cst) (x1 : Option Nat) (x2 : Option Nat) (y0 : Option Nat), cf_X0_link_15 F this S x1 x2 y0 = some S' → ∀ (H : Heap) (locs : List Loc) (ls : Array Slot), tyo G 5 x1 → tyo G 5 x2 → tyo G 5 y0 → cB D ct G A S H → va_S A s.heap H locs → lv_has ls 4 [(0, .ref this), (1, va_rf x1), (2, va_rf x2)] → W p l e { frames := 0, cells := 0, slots := 0, locals := 0 } s m args below meth c H locs (0) (0) (MQ below (mq none (cF D ct G (fun _ => True) S') A) args s (0) (0) A) (F0 m 15 ls [va_rf y0]) := by
    intro S x1 x2 y0 hf H locs ls hk_x1 hk_x2 hk_y0 hB hS hl
    unfold cf_X0_link_15 at hf
    refine lv_astore_nq (lv' := [(3, va_rf y0), (0, .ref this), (1, va_rf x1), (2, va_rf x2)]) hx hb dX0_link_15 rfl hl (by decide) (by rcases x2 with _ | _ <;> exact rfl) (fun ls hl => ?_)
    refine lv_aload_nq hx hb dX0_link_16 rfl (lv_at hl 2 rfl) ?_
    refine lv_aload_nq hx hb dX0_link_17 rfl (lv_at hl 3 rfl) ?_
    obtain ⟨b3, eb3, hf2⟩ := nn_s hf
    clear hf
    subst eb3
    have hf := hf2
    clear hf2
    have hk_b3 := hk_x1 b3 rfl
    have hl : lv_has ls 4 [(3, va_rf y0), (0, .ref this), (1, .ref b3), (2, va_rf x2)] := hl
    obtain ⟨S4, eS4, hf⟩ := st1_s hf
    refine c_put X hB hS hk_b3 rfl rfl kw_X5 tyX5 tyX5_ok nmX5 6 100 (by decide) kf_X0_100 rfl (Or.inl rfl) (fty := tyX5 6) (tyX5_ok 6 (by decide)) (fr_f (tyX5 6) (Or.inl ⟨_, rfl⟩) x2).1 (fr_f (tyX5 6) (Or.inl ⟨_, rfl⟩) x2).2 (Nat.le_of_ble_eq_true rfl) (cp_5_6 x2) (fun κ b h => ccell_sP κ b h) rfl (wt_sP (κ := 5) hB.2.2.2 (by decide) hk_x2) dX0_link_18 (fun H locs hB hS => ?_)
    rw [← eS4] at hB
    refine lv_aload_n hx hb dX0_link_21 rfl (lv_at hl 2 rfl) ?_
    refine lv_aload_nq hx hb dX0_link_22 rfl (lv_at hl 0 rfl) ?_
    obtain ⟨S5, eS5, hf⟩ := st1_s hf
    refine c_put X hB hS hk_b3 rfl rfl kw_X5 tyX5 tyX5_ok nmX5 7 76 (by decide) kf_X0_76 rfl (Or.inl rfl) (fty := tyX5 7) (tyX5_ok 7 (by decide)) (fr_f (tyX5 7) (Or.inl ⟨_, rfl⟩) y0).1 (fr_f (tyX5 7) (Or.inl ⟨_, rfl⟩) y0).2 (Nat.le_of_ble_eq_true rfl) (cp_5_7 y0) (fun κ b h => ccell_sP κ b h) rfl (wt_sP (κ := 5) hB.2.2.2 (by decide) hk_y0) dX0_link_23 (fun H locs hB hS => ?_)
    rw [← eS5] at hB
    refine lv_aload_nq hx hb dX0_link_26 rfl (lv_at hl 3 rfl) ?_
    rcases x2 with _ | b6
    · have hf := nc_n hf
      have hl : lv_has ls 4 [(3, va_rf y0), (0, .ref this), (1, .ref b3), (2, .null)] := hl
      refine lv_ifnonnullN hx hb dX0_link_27 ?_
      refine lv_aload_n hx hb dX0_link_30 rfl (lv_at hl 1 rfl) ?_
      refine lv_aload_n hx hb dX0_link_31 rfl (lv_at hl 2 rfl) ?_
      obtain ⟨S7, eS7, hf⟩ := st1_s hf
      refine c_put X hB hS hk_this rfl rfl kw_X0 tyX0 tyX0_ok nmX0 7 64 (by decide) kf_X0_64 rfl (Or.inl rfl) (fty := tyX0 7) (tyX0_ok 7 (by decide)) (fr_f (tyX0 7) (Or.inl ⟨_, rfl⟩) (some b3)).1 (fr_f (tyX0 7) (Or.inl ⟨_, rfl⟩) (some b3)).2 (Nat.le_of_ble_eq_true rfl) (cp_0_7 (some b3)) (fun κ b h => ccell_sP κ b h) rfl (wt_sP (κ := 5) hB.2.2.2 (by decide) (tyo_some hk_b3)) dX0_link_32 (fun H locs hB hS => ?_)
      rw [← eS7] at hB
      refine lv_goto (tgt := 43) hx hb dX0_link_35 (by decide) ?_
      exact J_43 S7 (some b3) y0 hf _ _ _ (tyo_some hk_b3) hk_y0 hB hS (lv_sub hl [1, 2, 0] rfl)
    · have hf := nc_b hf
      have hk_b6 := hk_x2 b6 rfl
      have hl : lv_has ls 4 [(3, va_rf y0), (0, .ref this), (1, .ref b3), (2, .ref b6)] := hl
      refine lv_ifnonnull (tgt := 38) hx hb dX0_link_27 (by decide) ?_
      refine lv_aload_n hx hb dX0_link_38 rfl (lv_at hl 3 rfl) ?_
      refine lv_aload_n hx hb dX0_link_39 rfl (lv_at hl 2 rfl) ?_
      obtain ⟨S12, eS12, hf⟩ := st1_s hf
      refine c_put X hB hS hk_b6 rfl rfl kw_X5 tyX5 tyX5_ok nmX5 7 76 (by decide) kf_X0_76 rfl (Or.inl rfl) (fty := tyX5 7) (tyX5_ok 7 (by decide)) (fr_f (tyX5 7) (Or.inl ⟨_, rfl⟩) (some b3)).1 (fr_f (tyX5 7) (Or.inl ⟨_, rfl⟩) (some b3)).2 (Nat.le_of_ble_eq_true rfl) (cp_5_7 (some b3)) (fun κ b h => ccell_sP κ b h) rfl (wt_sP (κ := 5) hB.2.2.2 (by decide) (tyo_some hk_b3)) dX0_link_40 (fun H locs hB hS => ?_)
      rw [← eS12] at hB
      exact J_43 S12 (some b3) y0 hf _ _ _ (tyo_some hk_b3) hk_y0 hB hS (lv_sub hl [1, 2, 0] rfl)
  unfold cf_X0_link at hf
  refine lv_aload_nq hx hb dX0_link_0 rfl (lv_at hl 2 rfl) ?_
  rcases x2 with _ | b1
  · have hf := nc_n hf
    have hl : lv_has ls 4 [(0, .ref this), (1, va_rf x1), (2, .null)] := hl
    refine lv_ifnonnullN hx hb dX0_link_1 ?_
    refine lv_aload_n hx hb dX0_link_4 rfl (lv_at hl 0 rfl) ?_
    refine c_get X hB hk_this rfl rfl kw_X0 7 64 (by decide) kf_X0_64 rfl rfl dX0_link_5 ?_
    obtain ⟨q2, eq2, hf⟩ := st1_s hf
    rw [← eq2]
    have hk_q2 : tyo G 5 q2 := by rw [eq2]; exact hB.2.2.2.1 (0, 7, 5) (by decide) _ hk_this
    refine lv_goto (tgt := 15) hx hb dX0_link_8 (by decide) ?_
    exact J_15 S x1 none q2 hf _ _ _ hk_x1 tyo_none hk_q2 hB hS (lv_sub hl [0, 1, 2] rfl)
  · have hf := nc_b hf
    have hk_b1 := hk_x2 b1 rfl
    have hl : lv_has ls 4 [(0, .ref this), (1, va_rf x1), (2, .ref b1)] := hl
    refine lv_ifnonnull (tgt := 11) hx hb dX0_link_1 (by decide) ?_
    refine lv_aload_n hx hb dX0_link_11 rfl (lv_at hl 2 rfl) ?_
    refine c_get X hB hk_b1 rfl rfl kw_X5 7 76 (by decide) kf_X0_76 rfl rfl dX0_link_12 ?_
    obtain ⟨q13, eq13, hf⟩ := st1_s hf
    rw [← eq13]
    have hk_q13 : tyo G 5 q13 := by rw [eq13]; exact hB.2.2.2.1 (5, 87, 5) (by decide) _ hk_b1
    exact J_15 S x1 (some b1) q13 hf _ _ _ hk_x1 (tyo_some hk_b1) hk_q13 hB hS (lv_sub hl [0, 1, 2] rfl)
/-! X5_init -/
def cf_X5_init (F : Nat) (S : Cst) (this : Nat) (x1 : Int32) (x2 : Int32) (x3 : Int32) (x4 : Int32) : Option Cst := st1 (sI S 80 this x1) fun S1 => st1 (sI S1 81 this x2) fun S2 => st1 (sI S2 84 this x3) fun S3 => st1 (sI S3 85 this x4) fun S4 => some S4
set_option maxHeartbeats 4000000 in
set_option maxRecDepth 100000 in
theorem cm_X5_init (l : Launch) (F : Nat) (D : va_G) (ct : ClassId × ClassId × ClassId) (G : Gam) (S : Cst) (this : Nat) (x1 : Int32) (x2 : Int32) (x3 : Int32) (x4 : Int32) (hk_this : ty G 5 this) (S' : Cst) (hf : cf_X5_init F S this x1 x2 x3 x4 = some S') : cMet l yX5_init cq_X5_init { frames := 1, cells := 0, slots := 0, locals := 40 } D ct G [.ref this, .int x1, .int x2, .int x3, .int x4] S none (cF D ct G (fun _ => True) S') (0) (0) := by
  refine cMet_of (own := RX5) (cc := cX5_init) (maxL := 5) (ret := none) (by decide) rfl rfl (Nat.le_of_ble_eq_true rfl) ?_
  intro p e s m below meth c X hr hlk hnm ls A hl hB hA hS
  have hx := X.1.1
  have hb := X.1.2.1
  have hown := X.1.2.2.2.1
  have hts := X.1.2.2.2.2
  have hl : lv_has ls 5 [(0, .ref this), (1, .int x1), (2, .int x2), (3, .int x3), (4, .int x4)] := hl
  generalize hargs : ([.ref this, .int x1, .int x2, .int x3, .int x4] : List Value).toArray = args at X hts hS ⊢
  unfold cf_X5_init at hf
  refine lv_aload_n hx hb dX5_init_0 rfl (lv_at hl 0 rfl) ?_
  refine W.objInit hx hb hown (hts _ (kw_m km_X5_3)) (hts _ (kw_m kx_Cond_instanceMethod_objectInit)) (hts _ (kw_m kx_Cond_code_objectInit_0xb1_1_none)) rfl (by rw [X.1.2.2.1]; exact hl.1) rfl dX5_init_1 (by decide) (Nat.le_of_ble_eq_true rfl) ?_
  refine W.eq (g2 := F0 m 4 ls []) rfl ?_
  refine lv_aload_n hx hb dX5_init_4 rfl (lv_at hl 0 rfl) ?_
  refine lv_iload_n hx hb dX5_init_5 rfl (lv_at hl 1 rfl) ?_
  obtain ⟨S1, eS1, hf⟩ := st1_s hf
  refine c_put X hB hS hk_this rfl rfl kw_X5 tyX5 tyX5_ok nmX5 0 9 (by decide) kf_X5_9 rfl (Or.inl rfl) (fty := .int) rfl rfl rfl (Nat.le_of_ble_eq_true rfl) (cp_5_0 _) (fun κ b h => ccell_sI κ b h) rfl hB.2.2.2 dX5_init_6 (fun H locs hB hS => ?_)
  rw [← eS1] at hB
  refine lv_aload_n hx hb dX5_init_9 rfl (lv_at hl 0 rfl) ?_
  refine lv_iload_n hx hb dX5_init_10 rfl (lv_at hl 2 rfl) ?_
  obtain ⟨S2, eS2, hf⟩ := st1_s hf
  refine c_put X hB hS hk_this rfl rfl kw_X5 tyX5 tyX5_ok nmX5 1 15 (by decide) kf_X5_15 rfl (Or.inl rfl) (fty := .int) rfl rfl rfl (Nat.le_of_ble_eq_true rfl) (cp_5_1 _) (fun κ b h => ccell_sI κ b h) rfl hB.2.2.2 dX5_init_11 (fun H locs hB hS => ?_)
  rw [← eS2] at hB
  refine lv_aload_n hx hb dX5_init_14 rfl (lv_at hl 0 rfl) ?_
  refine lv_iload_n hx hb dX5_init_15 rfl (lv_at hl 3 rfl) ?_
  obtain ⟨S3, eS3, hf⟩ := st1_s hf
  refine c_put X hB hS hk_this rfl rfl kw_X5 tyX5 tyX5_ok nmX5 4 18 (by decide) kf_X5_18 rfl (Or.inr ⟨rfl, hnm, rfl⟩) (fty := .int) rfl rfl rfl (Nat.le_of_ble_eq_true rfl) (cp_5_4 _) (fun κ b h => ccell_sI κ b h) rfl hB.2.2.2 dX5_init_16 (fun H locs hB hS => ?_)
  rw [← eS3] at hB
  refine lv_aload_n hx hb dX5_init_19 rfl (lv_at hl 0 rfl) ?_
  refine lv_iload hx hb dX5_init_20 (lv_at hl 4 rfl) ?_
  obtain ⟨S4, eS4, hf⟩ := st1_s hf
  refine c_put X hB hS hk_this rfl rfl kw_X5 tyX5 tyX5_ok nmX5 5 21 (by decide) kf_X5_21 rfl (Or.inr ⟨rfl, hnm, rfl⟩) (fty := .int) rfl rfl rfl (Nat.le_of_ble_eq_true rfl) (cp_5_5 _) (fun κ b h => ccell_sI κ b h) rfl hB.2.2.2 dX5_init_22 (fun H locs hB hS => ?_)
  rw [← eS4] at hB
  obtain rfl := Option.some.inj hf
  exact W.vret hx hb hr (fun t ht hW => c_endF X hB trivial hS ht hW) hS.2.2 dX5_init_25 hlk
/-! X0_open -/
def cf_X0_open_35 (F : Nat) (this : Nat) (S : Cst) (x1 : Int32) (x2 : Int32) (x3 : Option Nat) : Option (Option Nat × Cst) := st1 (nx S) fun a3 => st1 (nO S) fun S4 => (cf_X5_init F S4 a3 x1 x2 x1 x2).bind fun S5 => (cf_X0_tick F S5 this).bind fun z6 => st2 z6 fun z6v z6S => st1 (sI z6S 83 a3 z6v) fun S7 => (cf_X0_link F S7 this (some a3) x3).bind fun S8 => st1 (sI S8 8 this ((gI S8 8 this) + 1)) fun S9 => some ((some a3), S9)
def cf_X0_open_8 (F : Nat) (this : Nat) : Nat → Cst → Int32 → Int32 → Option Nat → Option Nat → Option (Option Nat × Cst)
  | 0 => fun _ _ _ _ _ => none
  | n + 1 => fun S x1 x2 x3 x4 => nc x4 (cf_X0_open_35 F this S x1 x2 x3) (fun b2 => if x1 ≤ (gI S 80 b2) then (cf_X0_open_35 F this S x1 x2 x3) else (st1 (gP S 87 b2) fun q11 => (cf_X0_open_8 F this n) S x1 x2 (some b2) q11))
def cf_X0_open (F : Nat) (S : Cst) (this : Nat) (x1 : Int32) (x2 : Int32) : Option (Option Nat × Cst) := st1 (gP S 7 this) fun q1 => cf_X0_open_8 F this F S x1 x2 none q1
set_option maxHeartbeats 4000000 in
set_option maxRecDepth 100000 in
theorem cm_X0_open (l : Launch) (F : Nat) (D : va_G) (ct : ClassId × ClassId × ClassId) (G : Gam) (S : Cst) (this : Nat) (x1 : Int32) (x2 : Int32) (hk_this : ty G 0 this) (r : Option Nat) (S' : Cst) (hf : cf_X0_open F S this x1 x2 = some (r, S')) : cMet l yX0_open cq_X0_open { frames := 2, cells := 1, slots := 12, locals := 64 } D ct G [.ref this, .int x1, .int x2] S (some (va_rf r)) (cE D ct G (nx S) (fun G => tyo G 5 r) S') (1) (12) := by
  refine cMet_of (own := RX0) (cc := cX0_open) (maxL := 5) (ret := (some (.object "RangeArenas$Segment"))) (by decide) rfl rfl (Nat.le_of_ble_eq_true rfl) ?_
  intro p e s m below meth c X hr hlk hnm ls A hl hB hA hS
  have hx := X.1.1
  have hb := X.1.2.1
  have hown := X.1.2.2.2.1
  have hts := X.1.2.2.2.2
  have hl : lv_has ls 5 [(0, .ref this), (1, .int x1), (2, .int x2)] := hl
  generalize hargs : ([.ref this, .int x1, .int x2] : List Value).toArray = args at X hts hS ⊢
  have hsz := hB.2.2.1
  obtain ⟨G0, eG0⟩ : ∃ z, z = G := ⟨_, rfl⟩
  obtain ⟨S0, eS0⟩ : ∃ z, z = S := ⟨_, rfl⟩
  have hext : ext G0 (nx S0) G := by rw [eG0]; exact ext_rf
  rw [← eS0] at hsz
  suffices hgoal : W p l e { frames := 2, cells := 1, slots := 12, locals := 64 } s m args below meth c s.heap [] 0 0 (MQ below (mq (some (va_rf r)) (cE D ct G0 (nx S0) (fun G => tyo G 5 r) S') A) args s (1) (12) A) (F0 m 0 ls []) by rw [eG0, eS0] at hgoal; exact hgoal
  have J_35 : ∀ (G : Gam) (S : Cst) (x1 : Int32) (x2 : Int32) (x3 : Option Nat), cf_X0_open_35 F this S x1 x2 x3 = some (r, S') → ∀ (H : Heap) (locs : List Loc) (ls : Array Slot), ext G0 (nx S0) G → ty G 0 this → tyo G 5 x3 → cB D ct G A S H → va_S A s.heap H locs → lv_has ls 5 [(0, .ref this), (1, .int x1), (2, .int x2), (3, va_rf x3)] → W p l e { frames := 2, cells := 1, slots := 12, locals := 64 } s m args below meth c H locs (0) (0) (MQ below (mq (some (va_rf r)) (cE D ct G0 (nx S0) (fun G => tyo G 5 r) S') A) args s (1) (12) A) (F0 m 35 ls []) := by
    intro G S x1 x2 x3 hf H locs ls hext hk_this hk_x3 hB hS hl
    unfold cf_X0_open_35 at hf
    obtain ⟨a3, ea3, hf⟩ := st1_s hf
    obtain ⟨S4, eS4, hf⟩ := st1_s hf
    have hle : nx S0 ≤ nx S := by rw [← hsz, ← hB.2.2.1]; exact hS.1
    refine c_newG X hB hS hA 5 rfl kw_X5 tyX5 tyX5_ok kcl_X0_69 kit_RX5 kin_RX5 (hd_5 ct S) (hdv_5) (by decide) (by dsimp only; omega) (by dsimp only; omega) dX0_open_35 (fun G H hx1 hk_a3 hB2 hS => ?_)
    have hext := hext.trans hx1 hle
    have hk_this := hx1.1 _ _ hk_this
    have hk_x3 := hx1.o hk_x3
    rw [← ea3] at hk_a3 ⊢
    rw [← eS4] at hB2
    have hB := hB2
    clear hB2
    refine lv_dup hx hb dX0_open_38 rfl ?_
    refine lv_iload_n hx hb dX0_open_39 rfl (lv_at hl 1 rfl) ?_
    refine lv_iload_n hx hb dX0_open_40 rfl (lv_at hl 2 rfl) ?_
    refine lv_iload_n hx hb dX0_open_41 rfl (lv_at hl 1 rfl) ?_
    refine lv_iload_n hx hb dX0_open_42 rfl (lv_at hl 2 rfl) ?_
    obtain ⟨S5, hqS5, hf⟩ := bn_s hf
    refine c_doF hB hS hA (va_runI (As := [.int x1, .int x2, .int x1, .int x2]) (rest := [.ref a3]) X.1 (cm_X5_init l F D ct _ _ a3 x1 x2 x1 x2 hk_a3 _ hqS5) (cwI 4 hts (gd_w kc_X5_init) rfl rfl rfl (hts _ (kw_m kin_RX5)) (hts _ (kw_m km_X0_79)) (hts _ (kw_m ki_X5_init)) rfl (by decide +kernel) ⟨by dsimp only; omega, by dsimp only; omega⟩) (c_preS X hB) rfl rfl hl.1 rfl (lv_room (Nat.le_of_ble_eq_true rfl)) dX0_open_43 ⟨by dsimp only; omega, by dsimp only; omega⟩) rfl (fun H locs hB hT hS => ?_)
    refine lv_astore (lv' := [(4, .ref a3), (0, .ref this), (1, .int x1), (2, .int x2), (3, va_rf x3)]) hx hb dX0_open_46 hl (by decide) (by rcases x3 with _ | _ <;> exact rfl) (fun ls hl => ?_)
    refine lv_aload hx hb dX0_open_48 (lv_at hl 0 rfl) ?_
    refine lv_aload_n hx hb dX0_open_50 rfl (lv_at hl 1 rfl) ?_
    obtain ⟨⟨z6v, z6S⟩, hqz6, hf⟩ := bn_s hf
    have hf := st2_s hf
    refine c_doF hB hS hA (va_runV (As := []) (rest := [.ref a3]) X.1 (cm_X0_tick l F D ct _ _ this hk_this _ _ hqz6) (cwV 0 hts (gd_V km_X0_82 ki_X0_tick ks_X0_tick kin_RX0 kc_X0_tick) rfl rfl rfl (by decide +kernel) ⟨by dsimp only; omega, by dsimp only; omega⟩) (c_preV X hB hk_this rfl rfl) rfl rfl hl.1 rfl (lv_room (Nat.le_of_ble_eq_true rfl)) dX0_open_51 ⟨by dsimp only; omega, by dsimp only; omega⟩) rfl (fun H locs hB hT hS => ?_)
    obtain ⟨S7, eS7, hf⟩ := st1_s hf
    refine c_put X hB hS hk_a3 rfl rfl kw_X5 tyX5 tyX5_ok nmX5 3 86 (by decide) kf_X0_86 rfl (Or.inl rfl) (fty := .int) rfl rfl rfl (Nat.le_of_ble_eq_true rfl) (cp_5_3 _) (fun κ b h => ccell_sI κ b h) rfl hB.2.2.2 dX0_open_54 (fun H locs hB hS => ?_)
    rw [← eS7] at hB
    refine lv_aload_n hx hb dX0_open_57 rfl (lv_at hl 1 rfl) ?_
    refine lv_aload hx hb dX0_open_58 (lv_at hl 0 rfl) ?_
    refine lv_aload_nq hx hb dX0_open_60 rfl (lv_at hl 4 rfl) ?_
    obtain ⟨S8, hqS8, hf⟩ := bn_s hf
    refine c_doF hB hS hA (va_runV (As := [va_rf (some a3), va_rf x3]) (rest := []) X.1 (cm_X0_link l F D ct _ _ this (some a3) x3 hk_this (tyo_some hk_a3) hk_x3 _ hqS8) (cwV 2 hts (gd_V km_X0_89 ki_X0_link ks_X0_link kin_RX0 kc_X0_link) rfl rfl rfl (by decide +kernel) ⟨by dsimp only; omega, by dsimp only; omega⟩) (c_preV X hB hk_this rfl rfl) rfl rfl hl.1 rfl (lv_room (Nat.le_of_ble_eq_true rfl)) dX0_open_61 ⟨by dsimp only; omega, by dsimp only; omega⟩) rfl (fun H locs hB hT hS => ?_)
    refine lv_aload_n hx hb dX0_open_64 rfl (lv_at hl 1 rfl) ?_
    refine lv_dup hx hb dX0_open_65 rfl ?_
    refine c_get X hB hk_this rfl rfl kw_X0 8 93 (by decide) kf_X0_93 rfl rfl dX0_open_66 ?_
    refine lv_iconst (v := 1) hx hb dX0_open_69 (by decide) ?_
    refine lv_iadd hx hb dX0_open_70 ?_
    obtain ⟨S9, eS9, hf⟩ := st1_s hf
    refine c_put X hB hS hk_this rfl rfl kw_X0 tyX0 tyX0_ok nmX0 8 93 (by decide) kf_X0_93 rfl (Or.inl rfl) (fty := .int) rfl rfl rfl (Nat.le_of_ble_eq_true rfl) (cp_0_8 _) (fun κ b h => ccell_sI κ b h) rfl hB.2.2.2 dX0_open_71 (fun H locs hB hS => ?_)
    rw [← eS9] at hB
    refine lv_aload hx hb dX0_open_74 (lv_at hl 0 rfl) ?_
    have hT := (tyo_some hk_a3)
    obtain ⟨rfl, rfl⟩ := Prod.mk.inj (Option.some.inj hf)
    refine W.widen (k := 1) (n := 12) (by omega) (by omega) ?_
    exact W.aret hx hb hr (Or.inl ⟨_, rfl⟩) (Or.inr ⟨_, rfl⟩) (fun t ht hW => c_endE X hext hB hT hS ht hW) hS.2.2 dX0_open_76 hlk
  have J_8 : ∀ (n_8 : Nat) (G : Gam) (S : Cst) (x1 : Int32) (x2 : Int32) (x3 : Option Nat) (x4 : Option Nat), cf_X0_open_8 F this n_8 S x1 x2 x3 x4 = some (r, S') → ∀ (H : Heap) (locs : List Loc) (ls : Array Slot), ext G0 (nx S0) G → ty G 0 this → tyo G 5 x3 → tyo G 5 x4 → cB D ct G A S H → va_S A s.heap H locs → lv_has ls 5 [(0, .ref this), (1, .int x1), (2, .int x2), (3, va_rf x3), (4, va_rf x4)] → W p l e { frames := 2, cells := 1, slots := 12, locals := 64 } s m args below meth c H locs (0) (0) (MQ below (mq (some (va_rf r)) (cE D ct G0 (nx S0) (fun G => tyo G 5 r) S') A) args s (1) (12) A) (F0 m 8 ls []) := by
    intro n_8
    induction n_8 with
    | zero => intro G S x1 x2 x3 x4 hf; cases hf
    | succ n_8 ih_8 =>
      intro G S x1 x2 x3 x4 hf H locs ls hext hk_this hk_x3 hk_x4 hB hS hl
      rw [cf_X0_open_8] at hf
      refine lv_aloadq hx hb dX0_open_8 (lv_at hl 4 rfl) ?_
      rcases x4 with _ | b2
      · have hf := nc_n hf
        have hl : lv_has ls 5 [(0, .ref this), (1, .int x1), (2, .int x2), (3, va_rf x3), (4, .null)] := hl
        refine lv_ifnullN (tgt := 35) hx hb dX0_open_10 (by decide) ?_
        exact J_35 _ S x1 x2 x3 hf _ _ _ hext hk_this hk_x3 hB hS (lv_sub hl [0, 1, 2, 3] rfl)
      · have hf := nc_b hf
        have hk_b2 := hk_x4 b2 rfl
        have hl : lv_has ls 5 [(0, .ref this), (1, .int x1), (2, .int x2), (3, va_rf x3), (4, .ref b2)] := hl
        refine lv_ifnull hx hb dX0_open_10 ?_
        refine lv_aload hx hb dX0_open_13 (lv_at hl 4 rfl) ?_
        refine c_get X hB hk_b2 rfl rfl kw_X5 0 68 (by decide) kf_X0_68 rfl rfl dX0_open_15 ?_
        refine lv_iload_n hx hb dX0_open_18 rfl (lv_at hl 1 rfl) ?_
        refine lv_icmp_ge (tgt := 35) hx hb dX0_open_19 (by decide) (fun hc10 => ?_) (fun hc10 => ?_)
        · have hf := if_t hf hc10
          exact J_35 _ S x1 x2 x3 hf _ _ _ hext hk_this hk_x3 hB hS (lv_sub hl [0, 1, 2, 3] rfl)
        · have hf := if_f hf hc10
          refine lv_aload hx hb dX0_open_22 (lv_at hl 4 rfl) ?_
          refine lv_astore_n (lv' := [(3, .ref b2), (0, .ref this), (1, .int x1), (2, .int x2), (4, .ref b2)]) hx hb dX0_open_24 rfl hl (by decide) rfl (fun ls hl => ?_)
          refine lv_aload hx hb dX0_open_25 (lv_at hl 4 rfl) ?_
          refine c_get X hB hk_b2 rfl rfl kw_X5 7 76 (by decide) kf_X0_76 rfl rfl dX0_open_27 ?_
          obtain ⟨q11, eq11, hf⟩ := st1_s hf
          rw [← eq11]
          have hk_q11 : tyo G 5 q11 := by rw [eq11]; exact hB.2.2.2.1 (5, 87, 5) (by decide) _ hk_b2
          refine lv_astoreq (lv' := [(4, va_rf q11), (3, .ref b2), (0, .ref this), (1, .int x1), (2, .int x2)]) hx hb dX0_open_30 hl (by decide) rfl (fun ls hl => ?_)
          refine lv_goto (tgt := 8) hx hb dX0_open_32 (by decide) ?_
          exact ih_8 _ S x1 x2 (some b2) q11 hf _ _ _ hext hk_this (tyo_some hk_b2) hk_q11 hB hS (lv_sub hl [2, 3, 4, 1, 0] rfl)
  unfold cf_X0_open at hf
  refine lv_null hx hb dX0_open_0 ?_
  refine lv_astore_nN (lv' := [(3, .null), (0, .ref this), (1, .int x1), (2, .int x2)]) hx hb dX0_open_1 rfl hl (by decide) rfl (fun ls hl => ?_)
  refine lv_aload_n hx hb dX0_open_2 rfl (lv_at hl 1 rfl) ?_
  refine c_get X hB hk_this rfl rfl kw_X0 7 64 (by decide) kf_X0_64 rfl rfl dX0_open_3 ?_
  obtain ⟨q1, eq1, hf⟩ := st1_s hf
  rw [← eq1]
  have hk_q1 : tyo G 5 q1 := by rw [eq1]; exact hB.2.2.2.1 (0, 7, 5) (by decide) _ hk_this
  refine lv_astoreq (lv' := [(4, va_rf q1), (3, .null), (0, .ref this), (1, .int x1), (2, .int x2)]) hx hb dX0_open_6 hl (by decide) rfl (fun ls hl => ?_)
  exact J_8 F _ S x1 x2 none q1 hf _ _ _ hext hk_this tyo_none hk_q1 hB hS (lv_sub hl [2, 3, 4, 1, 0] rfl)
/-! X0_unlink -/
def cf_X0_unlink_27 (F : Nat) (this : Nat) (S : Cst) (x2 : Option Nat) (x3 : Option Nat) : Option Cst := nc x3 (st1 (sI S 9 this ((gI S 9 this) - 1)) fun S7 => some S7) (fun b6 => st1 (sP S 86 b6 x2) fun S8 => st1 (sI S8 9 this ((gI S8 9 this) - 1)) fun S9 => some S9)
def cf_X0_unlink (F : Nat) (S : Cst) (this : Nat) (x1 : Option Nat) : Option Cst := nn x1 fun b1 => st1 (gP S 86 b1) fun q2 => st1 (gP S 87 b1) fun q3 => nc q2 (st1 (sP S 7 this q3) fun S5 => cf_X0_unlink_27 F this S5 none q3) (fun b4 => st1 (sP S 87 b4 q3) fun S10 => cf_X0_unlink_27 F this S10 (some b4) q3)
set_option maxHeartbeats 4000000 in
set_option maxRecDepth 100000 in
theorem cm_X0_unlink (l : Launch) (F : Nat) (D : va_G) (ct : ClassId × ClassId × ClassId) (G : Gam) (S : Cst) (this : Nat) (x1 : Option Nat) (hk_this : ty G 0 this) (hk_x1 : tyo G 5 x1) (S' : Cst) (hf : cf_X0_unlink F S this x1 = some S') : cMet l yX0_unlink cq_X0_unlink { frames := 0, cells := 0, slots := 0, locals := 0 } D ct G [.ref this, va_rf x1] S none (cF D ct G (fun _ => True) S') (0) (0) := by
  refine cMet_of (own := RX0) (cc := cX0_unlink) (maxL := 4) (ret := none) (by decide) rfl rfl (by rcases x1 with _ | _ <;> exact (Nat.le_of_ble_eq_true rfl)) ?_
  intro p e s m below meth c X hr hlk hnm ls A hl hB hA hS
  have hx := X.1.1
  have hb := X.1.2.1
  have hown := X.1.2.2.2.1
  have hts := X.1.2.2.2.2
  have hl : lv_has ls 4 [(0, .ref this), (1, va_rf x1)] := (by rcases x1 with _ | _ <;> exact hl)
  generalize hargs : ([.ref this, va_rf x1] : List Value).toArray = args at X hts hS ⊢
  have J_27 : ∀ (S : Cst) (x2 : Option Nat) (x3 : Option Nat), cf_X0_unlink_27 F this S x2 x3 = some S' → ∀ (H : Heap) (locs : List Loc) (ls : Array Slot), tyo G 5 x2 → tyo G 5 x3 → cB D ct G A S H → va_S A s.heap H locs → lv_has ls 4 [(0, .ref this), (2, va_rf x2), (3, va_rf x3)] → W p l e { frames := 0, cells := 0, slots := 0, locals := 0 } s m args below meth c H locs (0) (0) (MQ below (mq none (cF D ct G (fun _ => True) S') A) args s (0) (0) A) (F0 m 27 ls []) := by
    intro S x2 x3 hf H locs ls hk_x2 hk_x3 hB hS hl
    unfold cf_X0_unlink_27 at hf
    refine lv_aload_nq hx hb dX0_unlink_27 rfl (lv_at hl 2 rfl) ?_
    rcases x3 with _ | b6
    · have hf := nc_n hf
      have hl : lv_has ls 4 [(0, .ref this), (2, va_rf x2), (3, .null)] := hl
      refine lv_ifnullN (tgt := 36) hx hb dX0_unlink_28 (by decide) ?_
      refine lv_aload_n hx hb dX0_unlink_36 rfl (lv_at hl 0 rfl) ?_
      refine lv_dup hx hb dX0_unlink_37 rfl ?_
      refine c_get X hB hk_this rfl rfl kw_X0 9 103 (by decide) kf_X0_103 rfl rfl dX0_unlink_38 ?_
      refine lv_iconst (v := 1) hx hb dX0_unlink_41 (by decide) ?_
      refine lv_isub hx hb dX0_unlink_42 ?_
      obtain ⟨S7, eS7, hf⟩ := st1_s hf
      refine c_put X hB hS hk_this rfl rfl kw_X0 tyX0 tyX0_ok nmX0 9 103 (by decide) kf_X0_103 rfl (Or.inl rfl) (fty := .int) rfl rfl rfl (Nat.le_of_ble_eq_true rfl) (cp_0_9 _) (fun κ b h => ccell_sI κ b h) rfl hB.2.2.2 dX0_unlink_43 (fun H locs hB hS => ?_)
      rw [← eS7] at hB
      obtain rfl := Option.some.inj hf
      exact W.vret hx hb hr (fun t ht hW => c_endF X hB trivial hS ht hW) hS.2.2 dX0_unlink_46 hlk
    · have hf := nc_b hf
      have hk_b6 := hk_x3 b6 rfl
      have hl : lv_has ls 4 [(0, .ref this), (2, va_rf x2), (3, .ref b6)] := hl
      refine lv_ifnull hx hb dX0_unlink_28 ?_
      refine lv_aload_n hx hb dX0_unlink_31 rfl (lv_at hl 2 rfl) ?_
      refine lv_aload_nq hx hb dX0_unlink_32 rfl (lv_at hl 1 rfl) ?_
      obtain ⟨S8, eS8, hf⟩ := st1_s hf
      refine c_put X hB hS hk_b6 rfl rfl kw_X5 tyX5 tyX5_ok nmX5 6 100 (by decide) kf_X0_100 rfl (Or.inl rfl) (fty := tyX5 6) (tyX5_ok 6 (by decide)) (fr_f (tyX5 6) (Or.inl ⟨_, rfl⟩) x2).1 (fr_f (tyX5 6) (Or.inl ⟨_, rfl⟩) x2).2 (Nat.le_of_ble_eq_true rfl) (cp_5_6 x2) (fun κ b h => ccell_sP κ b h) rfl (wt_sP (κ := 5) hB.2.2.2 (by decide) hk_x2) dX0_unlink_33 (fun H locs hB hS => ?_)
      rw [← eS8] at hB
      refine lv_aload_n hx hb dX0_unlink_36 rfl (lv_at hl 0 rfl) ?_
      refine lv_dup hx hb dX0_unlink_37 rfl ?_
      refine c_get X hB hk_this rfl rfl kw_X0 9 103 (by decide) kf_X0_103 rfl rfl dX0_unlink_38 ?_
      refine lv_iconst (v := 1) hx hb dX0_unlink_41 (by decide) ?_
      refine lv_isub hx hb dX0_unlink_42 ?_
      obtain ⟨S9, eS9, hf⟩ := st1_s hf
      refine c_put X hB hS hk_this rfl rfl kw_X0 tyX0 tyX0_ok nmX0 9 103 (by decide) kf_X0_103 rfl (Or.inl rfl) (fty := .int) rfl rfl rfl (Nat.le_of_ble_eq_true rfl) (cp_0_9 _) (fun κ b h => ccell_sI κ b h) rfl hB.2.2.2 dX0_unlink_43 (fun H locs hB hS => ?_)
      rw [← eS9] at hB
      obtain rfl := Option.some.inj hf
      exact W.vret hx hb hr (fun t ht hW => c_endF X hB trivial hS ht hW) hS.2.2 dX0_unlink_46 hlk
  unfold cf_X0_unlink at hf
  refine lv_aload_nq hx hb dX0_unlink_0 rfl (lv_at hl 1 rfl) ?_
  obtain ⟨b1, eb1, hf2⟩ := nn_s hf
  clear hf
  subst eb1
  have hf := hf2
  clear hf2
  have hk_b1 := hk_x1 b1 rfl
  have hl : lv_has ls 4 [(0, .ref this), (1, .ref b1)] := hl
  refine c_get X hB hk_b1 rfl rfl kw_X5 6 100 (by decide) kf_X0_100 rfl rfl dX0_unlink_1 ?_
  obtain ⟨q2, eq2, hf⟩ := st1_s hf
  rw [← eq2]
  have hk_q2 : tyo G 5 q2 := by rw [eq2]; exact hB.2.2.2.1 (5, 86, 5) (by decide) _ hk_b1
  refine lv_astore_nq (lv' := [(2, va_rf q2), (0, .ref this), (1, .ref b1)]) hx hb dX0_unlink_4 rfl hl (by decide) rfl (fun ls hl => ?_)
  refine lv_aload_n hx hb dX0_unlink_5 rfl (lv_at hl 2 rfl) ?_
  refine c_get X hB hk_b1 rfl rfl kw_X5 7 76 (by decide) kf_X0_76 rfl rfl dX0_unlink_6 ?_
  obtain ⟨q3, eq3, hf⟩ := st1_s hf
  rw [← eq3]
  have hk_q3 : tyo G 5 q3 := by rw [eq3]; exact hB.2.2.2.1 (5, 87, 5) (by decide) _ hk_b1
  refine lv_astore_nq (lv' := [(3, va_rf q3), (2, va_rf q2), (0, .ref this), (1, .ref b1)]) hx hb dX0_unlink_9 rfl hl (by decide) (by rcases q2 with _ | _ <;> exact rfl) (fun ls hl => ?_)
  refine lv_aload_nq hx hb dX0_unlink_10 rfl (lv_at hl 1 rfl) ?_
  rcases q2 with _ | b4
  · have hf := nc_n hf
    have hl : lv_has ls 4 [(3, va_rf q3), (2, .null), (0, .ref this), (1, .ref b1)] := hl
    refine lv_ifnonnullN hx hb dX0_unlink_11 ?_
    refine lv_aload_n hx hb dX0_unlink_14 rfl (lv_at hl 2 rfl) ?_
    refine lv_aload_nq hx hb dX0_unlink_15 rfl (lv_at hl 0 rfl) ?_
    obtain ⟨S5, eS5, hf⟩ := st1_s hf
    refine c_put X hB hS hk_this rfl rfl kw_X0 tyX0 tyX0_ok nmX0 7 64 (by decide) kf_X0_64 rfl (Or.inl rfl) (fty := tyX0 7) (tyX0_ok 7 (by decide)) (fr_f (tyX0 7) (Or.inl ⟨_, rfl⟩) q3).1 (fr_f (tyX0 7) (Or.inl ⟨_, rfl⟩) q3).2 (Nat.le_of_ble_eq_true rfl) (cp_0_7 q3) (fun κ b h => ccell_sP κ b h) rfl (wt_sP (κ := 5) hB.2.2.2 (by decide) hk_q3) dX0_unlink_16 (fun H locs hB hS => ?_)
    rw [← eS5] at hB
    refine lv_goto (tgt := 27) hx hb dX0_unlink_19 (by decide) ?_
    exact J_27 S5 none q3 hf _ _ _ tyo_none hk_q3 hB hS (lv_sub hl [2, 1, 0] rfl)
  · have hf := nc_b hf
    have hk_b4 := hk_q2 b4 rfl
    have hl : lv_has ls 4 [(3, va_rf q3), (2, .ref b4), (0, .ref this), (1, .ref b1)] := hl
    refine lv_ifnonnull (tgt := 22) hx hb dX0_unlink_11 (by decide) ?_
    refine lv_aload_n hx hb dX0_unlink_22 rfl (lv_at hl 1 rfl) ?_
    refine lv_aload_nq hx hb dX0_unlink_23 rfl (lv_at hl 0 rfl) ?_
    obtain ⟨S10, eS10, hf⟩ := st1_s hf
    refine c_put X hB hS hk_b4 rfl rfl kw_X5 tyX5 tyX5_ok nmX5 7 76 (by decide) kf_X0_76 rfl (Or.inl rfl) (fty := tyX5 7) (tyX5_ok 7 (by decide)) (fr_f (tyX5 7) (Or.inl ⟨_, rfl⟩) q3).1 (fr_f (tyX5 7) (Or.inl ⟨_, rfl⟩) q3).2 (Nat.le_of_ble_eq_true rfl) (cp_5_7 q3) (fun κ b h => ccell_sP κ b h) rfl (wt_sP (κ := 5) hB.2.2.2 (by decide) hk_q3) dX0_unlink_24 (fun H locs hB hS => ?_)
    rw [← eS10] at hB
    exact J_27 S10 (some b4) q3 hf _ _ _ (tyo_some hk_b4) hk_q3 hB hS (lv_sub hl [2, 1, 0] rfl)
/-! X0_close -/
def cf_X0_close (F : Nat) (S : Cst) (this : Nat) (x1 : Option Nat) : Option Cst := (cf_X0_unlink F S this x1).bind fun S1 => st1 (sI S1 8 this ((gI S1 8 this) - 1)) fun S2 => some S2
set_option maxHeartbeats 4000000 in
set_option maxRecDepth 100000 in
theorem cm_X0_close (l : Launch) (F : Nat) (D : va_G) (ct : ClassId × ClassId × ClassId) (G : Gam) (S : Cst) (this : Nat) (x1 : Option Nat) (hk_this : ty G 0 this) (hk_x1 : tyo G 5 x1) (S' : Cst) (hf : cf_X0_close F S this x1 = some S') : cMet l yX0_close cq_X0_close { frames := 1, cells := 0, slots := 0, locals := 23 } D ct G [.ref this, va_rf x1] S none (cF D ct G (fun _ => True) S') (0) (0) := by
  refine cMet_of (own := RX0) (cc := cX0_close) (maxL := 2) (ret := none) (by decide) rfl rfl (by rcases x1 with _ | _ <;> exact (Nat.le_of_ble_eq_true rfl)) ?_
  intro p e s m below meth c X hr hlk hnm ls A hl hB hA hS
  have hx := X.1.1
  have hb := X.1.2.1
  have hown := X.1.2.2.2.1
  have hts := X.1.2.2.2.2
  have hl : lv_has ls 2 [(0, .ref this), (1, va_rf x1)] := (by rcases x1 with _ | _ <;> exact hl)
  generalize hargs : ([.ref this, va_rf x1] : List Value).toArray = args at X hts hS ⊢
  unfold cf_X0_close at hf
  refine lv_aload_n hx hb dX0_close_0 rfl (lv_at hl 0 rfl) ?_
  refine lv_aload_nq hx hb dX0_close_1 rfl (lv_at hl 1 rfl) ?_
  obtain ⟨S1, hqS1, hf⟩ := bn_s hf
  refine c_doF hB hS hA (va_runV (As := [va_rf x1]) (rest := []) X.1 (cm_X0_unlink l F D ct _ _ this x1 hk_this hk_x1 _ hqS1) (cwV 1 hts (gd_V km_X0_96 ki_X0_unlink ks_X0_unlink kin_RX0 kc_X0_unlink) rfl rfl rfl (by decide +kernel) ⟨by dsimp only; omega, by dsimp only; omega⟩) (c_preV X hB hk_this rfl rfl) rfl rfl hl.1 rfl (lv_room (Nat.le_of_ble_eq_true rfl)) dX0_close_2 ⟨by dsimp only; omega, by dsimp only; omega⟩) rfl (fun H locs hB hT hS => ?_)
  refine lv_aload_n hx hb dX0_close_5 rfl (lv_at hl 0 rfl) ?_
  refine lv_dup hx hb dX0_close_6 rfl ?_
  refine c_get X hB hk_this rfl rfl kw_X0 8 93 (by decide) kf_X0_93 rfl rfl dX0_close_7 ?_
  refine lv_iconst (v := 1) hx hb dX0_close_10 (by decide) ?_
  refine lv_isub hx hb dX0_close_11 ?_
  obtain ⟨S2, eS2, hf⟩ := st1_s hf
  refine c_put X hB hS hk_this rfl rfl kw_X0 tyX0 tyX0_ok nmX0 8 93 (by decide) kf_X0_93 rfl (Or.inl rfl) (fty := .int) rfl rfl rfl (Nat.le_of_ble_eq_true rfl) (cp_0_8 _) (fun κ b h => ccell_sI κ b h) rfl hB.2.2.2 dX0_close_12 (fun H locs hB hS => ?_)
  rw [← eS2] at hB
  obtain rfl := Option.some.inj hf
  exact W.vret hx hb hr (fun t ht hW => c_endF X hB trivial hS ht hW) hS.2.2 dX0_close_15 hlk
