def rm1_note : Room := { frames := 0, cells := 0, slots := 0, locals := 0 }
def fn1_note_32 (w : Mem) : Option (Int32 × Mem) := some (((up2 w 64 0 ((w 64 0) + 1)) 64 0), (up2 w 64 0 ((w 64 0) + 1)))
set_option maxRecDepth 20000 in
theorem bk1_note_32 {M : MX} {G : GX} (C : BC M G shX 71 (eX G) RX1 cX1_note 3 (some .int) rm1_note) {z : Int32 × Mem} {w : Mem} (h : fn1_note_32 w = some z) : BW M G shX 71 3 (ZR M G shX 71 (some .int) z) 32 [(0, .ref (gad G 64))] [] w := by
  rw [fn1_note_32] at h
  refine bw_aload_n C 0 dX1_note_32 rfl rfl ?_
  refine bw_dup C dX1_note_33 rfl ?_
  refine bw_geti C (j := 0) lX64 sX64 rfl inlX1 (by decide) rfl flX1_22 dX1_note_34 ?_
  refine bw_iconst C (v := 1) dX1_note_37 (by decide) ?_
  refine bw_iadd C dX1_note_38 ?_
  refine bw_puti C (j := 0) (ty := .int) lX64 sX64 rfl inlX1 (by decide) tyX1 tyX1_ok nmX1 rfl flX1_22 rfl (by decide +kernel) rfl rfl dX1_note_39 ?_
  refine bw_aload_n C 0 dX1_note_42 rfl rfl ?_
  refine bw_geti C (j := 0) lX64 sX64 rfl inlX1 (by decide) rfl flX1_22 dX1_note_43 ?_
  exact bw_iret C dX1_note_46 h
def fn1_note  (x1 : Int32) (x2 : Int32) (w : Mem) : Option (Int32 × Mem) := (if (w 64 0) < 8 then (if ib (w 64 0) 8 = true then (if ib ((up2 w 66 (w 64 0).toNatClampNeg x1) 64 0) 8 = true then fn1_note_32 (up2 (up2 w 66 (w 64 0).toNatClampNeg x1) 67 ((up2 w 66 (w 64 0).toNatClampNeg x1) 64 0).toNatClampNeg (vp_nar .boolean x2)) else none) else none) else some ((-3), w))
set_option maxRecDepth 20000 in
theorem bk1_note {M : MX} {G : GX} (C : BC M G shX 71 (eX G) RX1 cX1_note 3 (some .int) rm1_note) {z : Int32 × Mem}   (x1 : Int32) (x2 : Int32) {w : Mem} (h : fn1_note  x1 x2 w = some z) : BW M G shX 71 3 (ZR M G shX 71 (some .int) z) 0 [(0, .ref (gad G 64)), (1, .int x1), (2, .int x2)] [] w := by
  rw [fn1_note] at h
  refine bw_aload_n C 0 dX1_note_0 rfl rfl ?_
  refine bw_geti C (j := 0) lX64 sX64 rfl inlX1 (by decide) rfl flX1_22 dX1_note_1 ?_
  refine bw_bipush C (v := 8) dX1_note_4 (by decide) ?_
  refine bw_icmp_lt C (tgt := 12) dX1_note_6 (by decide) h (fun h => ?_) (fun h => ?_)
  · refine bw_aload_n C 0 dX1_note_12 rfl rfl ?_
    refine bw_getr C (j := 3) (t := 66) lX64 sX64 rfl inlX1 (by decide) rfl flX1_15 dX1_note_13 ?_
    refine bw_aload_n C 0 dX1_note_16 rfl rfl ?_
    refine bw_geti C (j := 0) lX64 sX64 rfl inlX1 (by decide) rfl flX1_22 dX1_note_17 ?_
    refine bw_iload_n C 1 dX1_note_20 rfl rfl ?_
    refine bw_iast C lX66 sX66 dX1_note_21 h (fun h => ?_)
    refine bw_aload_n C 0 dX1_note_22 rfl rfl ?_
    refine bw_getr C (j := 4) (t := 67) lX64 sX64 rfl inlX1 (by decide) rfl flX1_18 dX1_note_23 ?_
    refine bw_aload_n C 0 dX1_note_26 rfl rfl ?_
    refine bw_geti C (j := 0) lX64 sX64 rfl inlX1 (by decide) rfl flX1_22 dX1_note_27 ?_
    refine bw_iload_n C 2 dX1_note_30 rfl rfl ?_
    refine bw_zast C lX67 sX67 dX1_note_31 h (fun h => ?_)
    exact bw_sub [0] rfl (bk1_note_32 C h)
  · refine bw_bipush C (v := (-3)) dX1_note_9 (by decide) ?_
    exact bw_iret C dX1_note_11 h
theorem mt1_note {l : Launch} {G : GX}   {x1 : Int32} {x2 : Int32} {w : Mem} {z : Int32 × Mem} (h : fn1_note  x1 x2 w = some z) : MC l G shX 71 (eX G) yX1_note cX1_note 3 (some .int) rm1_note [.ref (gad G 64), .int x1, .int x2] w z := by
  refine met_of (by decide +kernel) (eX_ok G) rfl (Nat.le_of_ble_eq_true rfl) (fun M hM C => ?_)
  subst hM
  exact bk1_note C  x1 x2 h
def rm7_allOf : Room := { frames := 0, cells := 0, slots := 0, locals := 0 }
def fn7_allOf  (x0 : Int32) (w : Mem) : Option (Int32 × Mem) := some ((((1 : Int32) <<< (x0 &&& 31)) - 1), w)
set_option maxRecDepth 20000 in
theorem bk7_allOf {M : MX} {G : GX} (C : BC M G shX 71 (eX G) RX7 cX7_allOf 1 (some .int) rm7_allOf) {z : Int32 × Mem}   (x0 : Int32) {w : Mem} (h : fn7_allOf  x0 w = some z) : BW M G shX 71 1 (ZR M G shX 71 (some .int) z) 0 [(0, .int x0)] [] w := by
  rw [fn7_allOf] at h
  refine bw_iconst C (v := 1) dX7_allOf_0 (by decide) ?_
  refine bw_iload_n C 0 dX7_allOf_1 rfl rfl ?_
  refine bw_ishl C dX7_allOf_2 ?_
  refine bw_iconst C (v := 1) dX7_allOf_3 (by decide) ?_
  refine bw_isub C dX7_allOf_4 ?_
  exact bw_iret C dX7_allOf_5 h
theorem mt7_allOf {l : Launch} {G : GX}   {x0 : Int32} {w : Mem} {z : Int32 × Mem} (h : fn7_allOf  x0 w = some z) : MC l G shX 71 (eX G) yX7_allOf cX7_allOf 1 (some .int) rm7_allOf [.int x0] w z := by
  refine met_of (by decide +kernel) (eX_ok G) rfl (Nat.le_of_ble_eq_true rfl) (fun M hM C => ?_)
  subst hM
  exact bk7_allOf C  x0 h
def rm6_bitCount_0f7a4 : Room := { frames := 0, cells := 0, slots := 0, locals := 0 }
def fn6_bitCount_0f7a4_40 (t0 : Int32) (w : Mem) : Option (Int32 × Mem) := some (((t0 + ((t0.toUInt32 >>> ((16 : Int32).toUInt32 &&& Int32.toUInt32 31)).toInt32)) &&& 63), w)
set_option maxRecDepth 20000 in
theorem bk6_bitCount_0f7a4_40 {M : MX} {G : GX} (C : BC M G shX 71 (eX G) RJ6 cJ6_bitCount_0f7a4 1 (some .int) rm6_bitCount_0f7a4) {z : Int32 × Mem} (t0 : Int32) {w : Mem} (h : fn6_bitCount_0f7a4_40 t0 w = some z) : BW M G shX 71 1 (ZR M G shX 71 (some .int) z) 40 [] [.int t0] w := by
  rw [fn6_bitCount_0f7a4_40] at h
  refine bw_istore_n C [(0, .int t0)] dJ6_bitCount_0f7a4_40 rfl (by decide) rfl ?_
  refine bw_iload_n C 0 dJ6_bitCount_0f7a4_41 rfl rfl ?_
  refine bw_iload_n C 0 dJ6_bitCount_0f7a4_42 rfl rfl ?_
  refine bw_bipush C (v := 16) dJ6_bitCount_0f7a4_43 (by decide) ?_
  refine bw_iushr C dJ6_bitCount_0f7a4_45 rfl ?_
  refine bw_iadd C dJ6_bitCount_0f7a4_46 ?_
  refine bw_istore_n C [(0, .int (t0 + ((t0.toUInt32 >>> ((16 : Int32).toUInt32 &&& Int32.toUInt32 31)).toInt32)))] dJ6_bitCount_0f7a4_47 rfl (by decide) rfl ?_
  refine bw_iload_n C 0 dJ6_bitCount_0f7a4_48 rfl rfl ?_
  refine bw_bipush C (v := 63) dJ6_bitCount_0f7a4_49 (by decide) ?_
  refine bw_iand C dJ6_bitCount_0f7a4_51 ?_
  exact bw_iret C dJ6_bitCount_0f7a4_52 h
def fn6_bitCount_0f7a4_23 (t0 : Int32) (w : Mem) : Option (Int32 × Mem) := fn6_bitCount_0f7a4_40 (((t0 + ((t0.toUInt32 >>> ((4 : Int32).toUInt32 &&& Int32.toUInt32 31)).toInt32)) &&& 252645135) + ((((t0 + ((t0.toUInt32 >>> ((4 : Int32).toUInt32 &&& Int32.toUInt32 31)).toInt32)) &&& 252645135).toUInt32 >>> ((8 : Int32).toUInt32 &&& Int32.toUInt32 31)).toInt32)) w
set_option maxRecDepth 20000 in
theorem bk6_bitCount_0f7a4_23 {M : MX} {G : GX} (C : BC M G shX 71 (eX G) RJ6 cJ6_bitCount_0f7a4 1 (some .int) rm6_bitCount_0f7a4) {z : Int32 × Mem} (t0 : Int32) {w : Mem} (h : fn6_bitCount_0f7a4_23 t0 w = some z) : BW M G shX 71 1 (ZR M G shX 71 (some .int) z) 23 [] [.int t0] w := by
  rw [fn6_bitCount_0f7a4_23] at h
  refine bw_istore_n C [(0, .int t0)] dJ6_bitCount_0f7a4_23 rfl (by decide) rfl ?_
  refine bw_iload_n C 0 dJ6_bitCount_0f7a4_24 rfl rfl ?_
  refine bw_iload_n C 0 dJ6_bitCount_0f7a4_25 rfl rfl ?_
  refine bw_iconst C (v := 4) dJ6_bitCount_0f7a4_26 (by decide) ?_
  refine bw_iushr C dJ6_bitCount_0f7a4_27 rfl ?_
  refine bw_iadd C dJ6_bitCount_0f7a4_28 ?_
  refine bw_ldcw C dJ6_bitCount_0f7a4_29 ctJ6_267 ?_
  refine bw_iand C dJ6_bitCount_0f7a4_32 ?_
  refine bw_istore_n C [(0, .int ((t0 + ((t0.toUInt32 >>> ((4 : Int32).toUInt32 &&& Int32.toUInt32 31)).toInt32)) &&& 252645135))] dJ6_bitCount_0f7a4_33 rfl (by decide) rfl ?_
  refine bw_iload_n C 0 dJ6_bitCount_0f7a4_34 rfl rfl ?_
  refine bw_iload_n C 0 dJ6_bitCount_0f7a4_35 rfl rfl ?_
  refine bw_bipush C (v := 8) dJ6_bitCount_0f7a4_36 (by decide) ?_
  refine bw_iushr C dJ6_bitCount_0f7a4_38 rfl ?_
  refine bw_iadd C dJ6_bitCount_0f7a4_39 ?_
  exact bw_sub [] rfl (bk6_bitCount_0f7a4_40 C (((t0 + ((t0.toUInt32 >>> ((4 : Int32).toUInt32 &&& Int32.toUInt32 31)).toInt32)) &&& 252645135) + ((((t0 + ((t0.toUInt32 >>> ((4 : Int32).toUInt32 &&& Int32.toUInt32 31)).toInt32)) &&& 252645135).toUInt32 >>> ((8 : Int32).toUInt32 &&& Int32.toUInt32 31)).toInt32)) h)
def fn6_bitCount_0f7a4  (x0 : Int32) (w : Mem) : Option (Int32 × Mem) := fn6_bitCount_0f7a4_23 (((x0 - (((x0.toUInt32 >>> ((1 : Int32).toUInt32 &&& Int32.toUInt32 31)).toInt32) &&& 1431655765)) &&& 858993459) + ((((x0 - (((x0.toUInt32 >>> ((1 : Int32).toUInt32 &&& Int32.toUInt32 31)).toInt32) &&& 1431655765)).toUInt32 >>> ((2 : Int32).toUInt32 &&& Int32.toUInt32 31)).toInt32) &&& 858993459)) w
set_option maxRecDepth 20000 in
theorem bk6_bitCount_0f7a4 {M : MX} {G : GX} (C : BC M G shX 71 (eX G) RJ6 cJ6_bitCount_0f7a4 1 (some .int) rm6_bitCount_0f7a4) {z : Int32 × Mem}   (x0 : Int32) {w : Mem} (h : fn6_bitCount_0f7a4  x0 w = some z) : BW M G shX 71 1 (ZR M G shX 71 (some .int) z) 0 [(0, .int x0)] [] w := by
  rw [fn6_bitCount_0f7a4] at h
  refine bw_iload_n C 0 dJ6_bitCount_0f7a4_0 rfl rfl ?_
  refine bw_iload_n C 0 dJ6_bitCount_0f7a4_1 rfl rfl ?_
  refine bw_iconst C (v := 1) dJ6_bitCount_0f7a4_2 (by decide) ?_
  refine bw_iushr C dJ6_bitCount_0f7a4_3 rfl ?_
  refine bw_ldcw C dJ6_bitCount_0f7a4_4 ctJ6_265 ?_
  refine bw_iand C dJ6_bitCount_0f7a4_7 ?_
  refine bw_isub C dJ6_bitCount_0f7a4_8 ?_
  refine bw_istore_n C [(0, .int (x0 - (((x0.toUInt32 >>> ((1 : Int32).toUInt32 &&& Int32.toUInt32 31)).toInt32) &&& 1431655765)))] dJ6_bitCount_0f7a4_9 rfl (by decide) rfl ?_
  refine bw_iload_n C 0 dJ6_bitCount_0f7a4_10 rfl rfl ?_
  refine bw_ldcw C dJ6_bitCount_0f7a4_11 ctJ6_266 ?_
  refine bw_iand C dJ6_bitCount_0f7a4_14 ?_
  refine bw_iload_n C 0 dJ6_bitCount_0f7a4_15 rfl rfl ?_
  refine bw_iconst C (v := 2) dJ6_bitCount_0f7a4_16 (by decide) ?_
  refine bw_iushr C dJ6_bitCount_0f7a4_17 rfl ?_
  refine bw_ldcw C dJ6_bitCount_0f7a4_18 ctJ6_266 ?_
  refine bw_iand C dJ6_bitCount_0f7a4_21 ?_
  refine bw_iadd C dJ6_bitCount_0f7a4_22 ?_
  exact bw_sub [] rfl (bk6_bitCount_0f7a4_23 C (((x0 - (((x0.toUInt32 >>> ((1 : Int32).toUInt32 &&& Int32.toUInt32 31)).toInt32) &&& 1431655765)) &&& 858993459) + ((((x0 - (((x0.toUInt32 >>> ((1 : Int32).toUInt32 &&& Int32.toUInt32 31)).toInt32) &&& 1431655765)).toUInt32 >>> ((2 : Int32).toUInt32 &&& Int32.toUInt32 31)).toInt32) &&& 858993459)) h)
theorem mt6_bitCount_0f7a4 {l : Launch} {G : GX}   {x0 : Int32} {w : Mem} {z : Int32 × Mem} (h : fn6_bitCount_0f7a4  x0 w = some z) : MC l G shX 71 (eX G) yJ6_bitCount_0f7a4 cJ6_bitCount_0f7a4 1 (some .int) rm6_bitCount_0f7a4 [.int x0] w z := by
  refine met_of (by decide +kernel) (eX_ok G) rfl (Nat.le_of_ble_eq_true rfl) (fun M hM C => ?_)
  subst hM
  exact bk6_bitCount_0f7a4 C  x0 h
def rm1_isAsTested : Room := { frames := 0, cells := 0, slots := 0, locals := 0 }
def fn1_isAsTested_26 (x1 : Int32) (x2 : Int32) (t0 : Int32) (kb : Int32 → Mem → Option (Int32 × Mem)) (w : Mem) : Option (Int32 × Mem) := (if ib x2 8 = true then (if t0 = (w 67 x2.toNatClampNeg) then kb (x2 + 1) w else some (0, w)) else none)
set_option maxRecDepth 20000 in
theorem bk1_isAsTested_26 {M : MX} {G : GX} (C : BC M G shX 71 (eX G) RX1 cX1_isAsTested 3 (some .boolean) rm1_isAsTested) {z : Int32 × Mem} (x1 : Int32) (x2 : Int32) (t0 : Int32) {kb : Int32 → Mem → Option (Int32 × Mem)} (hkb : ∀ (x2 : Int32) (w : Mem), kb x2 w = some z → BW M G shX 71 3 (ZR M G shX 71 (some .boolean) z) 2 [(0, .ref (gad G 64)), (1, .int x1), (2, .int x2)] [] w) {w : Mem} (h : fn1_isAsTested_26 x1 x2 t0 kb w = some z) : BW M G shX 71 3 (ZR M G shX 71 (some .boolean) z) 26 [(0, .ref (gad G 64)), (1, .int x1), (2, .int x2)] [.int t0] w := by
  rw [fn1_isAsTested_26] at h
  refine bw_aload_n C 0 dX1_isAsTested_26 rfl rfl ?_
  refine bw_getr C (j := 4) (t := 67) lX64 sX64 rfl inlX1 (by decide) rfl flX1_18 dX1_isAsTested_27 ?_
  refine bw_iload_n C 2 dX1_isAsTested_30 rfl rfl ?_
  refine bw_zald C lX67 sX67 dX1_isAsTested_31 h (fun h => ?_)
  refine bw_icmp_eq C (tgt := 37) dX1_isAsTested_32 (by decide) h (fun h => ?_) (fun h => ?_)
  · refine bw_iinc C [(2, .int (x2 + 1)), (0, .ref (gad G 64)), (1, .int x1)] 2 dX1_isAsTested_37 rfl rfl (by decide) rfl ?_
    refine bw_goto C (tgt := 2) dX1_isAsTested_40 (by decide) ?_
    exact bw_sub [1, 2, 0] rfl (hkb (x2 + 1) w h)
  · refine bw_iconst C (v := 0) dX1_isAsTested_35 (by decide) ?_
    exact bw_zretc C dX1_isAsTested_36 rfl h
def fn1_isAsTested_2 (x1 : Int32) (k : Int32 → Mem → Option (Int32 × Mem)) : Nat → Int32 → Mem → Option (Int32 × Mem)
  | 0, _, _ => none
  | nn + 1, x2, w => (if (w 64 0) ≤ x2 then k x2 w else (if ib x2 8 = true then (if (x1 &&& (w 66 x2.toNatClampNeg)) = 0 then fn1_isAsTested_26 x1 x2 0 (fn1_isAsTested_2 x1 k nn) w else fn1_isAsTested_26 x1 x2 1 (fn1_isAsTested_2 x1 k nn) w) else none))
set_option maxRecDepth 20000 in
theorem bk1_isAsTested_2 {M : MX} {G : GX} (C : BC M G shX 71 (eX G) RX1 cX1_isAsTested 3 (some .boolean) rm1_isAsTested) {z : Int32 × Mem} (x1 : Int32) {k : Int32 → Mem → Option (Int32 × Mem)} (hk : ∀ (x2 : Int32) (w : Mem), k x2 w = some z → BW M G shX 71 3 (ZR M G shX 71 (some .boolean) z) 43 [] [] w) : ∀ (nn : Nat) (x2 : Int32) (w : Mem), fn1_isAsTested_2 x1 k nn x2 w = some z → BW M G shX 71 3 (ZR M G shX 71 (some .boolean) z) 2 [(0, .ref (gad G 64)), (1, .int x1), (2, .int x2)] [] w := by
  intro nn
  induction nn with
  | zero =>
    intro x2 w h
    have h : (none : Option (Int32 × Mem)) = some z := h
    cases h
  | succ nn ih =>
    intro x2 w h
    rw [fn1_isAsTested_2] at h
    refine bw_iload_n C 2 dX1_isAsTested_2 rfl rfl ?_
    refine bw_aload_n C 0 dX1_isAsTested_3 rfl rfl ?_
    refine bw_geti C (j := 0) lX64 sX64 rfl inlX1 (by decide) rfl flX1_22 dX1_isAsTested_4 ?_
    refine bw_icmp_ge C (tgt := 43) dX1_isAsTested_7 (by decide) h (fun h => ?_) (fun h => ?_)
    · exact bw_sub [] rfl (hk x2 w h)
    · refine bw_iload_n C 1 dX1_isAsTested_10 rfl rfl ?_
      refine bw_aload_n C 0 dX1_isAsTested_11 rfl rfl ?_
      refine bw_getr C (j := 3) (t := 66) lX64 sX64 rfl inlX1 (by decide) rfl flX1_15 dX1_isAsTested_12 ?_
      refine bw_iload_n C 2 dX1_isAsTested_15 rfl rfl ?_
      refine bw_iald C lX66 sX66 dX1_isAsTested_16 h (fun h => ?_)
      refine bw_iand C dX1_isAsTested_17 ?_
      refine bw_if_eq C (tgt := 25) dX1_isAsTested_18 (by decide) h (fun h => ?_) (fun h => ?_)
      · refine bw_iconst C (v := 0) dX1_isAsTested_25 (by decide) ?_
        exact bw_sub [0, 1, 2] rfl (bk1_isAsTested_26 C x1 x2 0 ih h)
      · refine bw_iconst C (v := 1) dX1_isAsTested_21 (by decide) ?_
        refine bw_goto C (tgt := 26) dX1_isAsTested_22 (by decide) ?_
        exact bw_sub [0, 1, 2] rfl (bk1_isAsTested_26 C x1 x2 1 ih h)
def fn1_isAsTested  (x1 : Int32) (w : Mem) : Option (Int32 × Mem) := fn1_isAsTested_2 x1 (fun x2_2 w_2 => some (1, w_2)) 1000 0 w
set_option maxRecDepth 20000 in
theorem bk1_isAsTested {M : MX} {G : GX} (C : BC M G shX 71 (eX G) RX1 cX1_isAsTested 3 (some .boolean) rm1_isAsTested) {z : Int32 × Mem}   (x1 : Int32) {w : Mem} (h : fn1_isAsTested  x1 w = some z) : BW M G shX 71 3 (ZR M G shX 71 (some .boolean) z) 0 [(0, .ref (gad G 64)), (1, .int x1)] [] w := by
  rw [fn1_isAsTested] at h
  refine bw_iconst C (v := 0) dX1_isAsTested_0 (by decide) ?_
  refine bw_istore_n C [(2, .int 0), (0, .ref (gad G 64)), (1, .int x1)] dX1_isAsTested_1 rfl (by decide) rfl ?_
  refine bw_sub [1, 2, 0] rfl (bk1_isAsTested_2 C x1 (fun x2_2 w_2 h => ?_) 1000 0 w h)
  refine bw_iconst C (v := 1) dX1_isAsTested_43 (by decide) ?_
  exact bw_zretc C dX1_isAsTested_44 rfl h
theorem mt1_isAsTested {l : Launch} {G : GX}   {x1 : Int32} {w : Mem} {z : Int32 × Mem} (h : fn1_isAsTested  x1 w = some z) : MC l G shX 71 (eX G) yX1_isAsTested cX1_isAsTested 3 (some .boolean) rm1_isAsTested [.ref (gad G 64), .int x1] w z := by
  refine met_of (by decide +kernel) (eX_ok G) rfl (Nat.le_of_ble_eq_true rfl) (fun M hM C => ?_)
  subst hM
  exact bk1_isAsTested C  x1 h
def rm1_findSets : Room := { frames := 1, cells := 0, slots := 0, locals := 22 }
def fn1_findSets_7 (x1 : Int32) (x2 : Int32) (k : Int32 → Mem → Option (Int32 × Mem)) : Nat → Int32 → Mem → Option (Int32 × Mem)
  | 0, _, _ => none
  | nn + 1, x3, w => (fn7_allOf x2 w).bind (fun q9 => (if q9.1 < x3 then k x3 q9.2 else (if 64 ≤ x3 then k x3 q9.2 else (fn6_bitCount_0f7a4 x3 q9.2).bind (fun q22 => (if ¬ q22.1 = x1 then fn1_findSets_7 x1 x2 k nn (x3 + 1) q22.2 else (fn1_isAsTested x3 q22.2).bind (fun q31 => (if q31.1 = 0 then fn1_findSets_7 x1 x2 k nn (x3 + 1) q31.2 else (if ib (q31.2 64 1) 64 = true then fn1_findSets_7 x1 x2 k nn (x3 + 1) (up2 (up2 q31.2 65 (q31.2 64 1).toNatClampNeg x3) 64 1 (((up2 q31.2 65 (q31.2 64 1).toNatClampNeg x3) 64 1) + 1)) else none))))))))
set_option maxRecDepth 20000 in
theorem bk1_findSets_7 {M : MX} {G : GX} (C : BC M G shX 71 (eX G) RX1 cX1_findSets 4 none rm1_findSets) {z : Int32 × Mem} (x1 : Int32) (x2 : Int32) {k : Int32 → Mem → Option (Int32 × Mem)} (hk : ∀ (x3 : Int32) (w : Mem), k x3 w = some z → BW M G shX 71 4 (ZR M G shX 71 none z) 63 [] [] w) : ∀ (nn : Nat) (x3 : Int32) (w : Mem), fn1_findSets_7 x1 x2 k nn x3 w = some z → BW M G shX 71 4 (ZR M G shX 71 none z) 7 [(0, .ref (gad G 64)), (1, .int x1), (2, .int x2), (3, .int x3)] [] w := by
  intro nn
  induction nn with
  | zero =>
    intro x3 w h
    have h : (none : Option (Int32 × Mem)) = some z := h
    cases h
  | succ nn ih =>
    intro x3 w h
    rw [fn1_findSets_7] at h
    refine bw_iload_n C 3 dX1_findSets_7 rfl rfl ?_
    refine bw_iload_n C 2 dX1_findSets_8 rfl rfl ?_
    refine bw_callSNi C (As := [.int x2]) miX7_allOf (nstAt C.2.2.2.2.2.2.2.2.2.1.1 8 rfl) smX7_allOf (by decide) rfl rfl (fun z1 h1 => mt7_allOf h1) rfl (Nat.le_of_ble_eq_true rfl) rfl dX1_findSets_9 h (fun q9 _ h => ?_)
    refine bw_icmp_gt C (tgt := 63) dX1_findSets_12 (by decide) h (fun h => ?_) (fun h => ?_)
    · exact bw_sub [] rfl (hk x3 q9.2 h)
    · refine bw_iload_n C 3 dX1_findSets_15 rfl rfl ?_
      refine bw_bipush C (v := 64) dX1_findSets_16 (by decide) ?_
      refine bw_icmp_ge C (tgt := 63) dX1_findSets_18 (by decide) h (fun h => ?_) (fun h => ?_)
      · exact bw_sub [] rfl (hk x3 q9.2 h)
      · refine bw_iload_n C 3 dX1_findSets_21 rfl rfl ?_
        refine bw_callSi C (As := [.int x3]) miJ6_bitCount_0f7a4 mlX1_33 smJ6_bitCount_0f7a4 (by decide) rfl rfl (fun z1 h1 => mt6_bitCount_0f7a4 h1) rfl (Nat.le_of_ble_eq_true rfl) rfl dX1_findSets_22 h (fun q22 _ h => ?_)
        refine bw_iload_n C 1 dX1_findSets_25 rfl rfl ?_
        refine bw_icmp_ne C (tgt := 57) dX1_findSets_26 (by decide) h (fun h => ?_) (fun h => ?_)
        · refine bw_iinc C [(3, .int (x3 + 1)), (0, .ref (gad G 64)), (1, .int x1), (2, .int x2)] 3 dX1_findSets_57 rfl rfl (by decide) rfl ?_
          refine bw_goto C (tgt := 7) dX1_findSets_60 (by decide) ?_
          exact bw_sub [1, 2, 3, 0] rfl (ih (x3 + 1) q22.2 h)
        · refine bw_aload_n C 0 dX1_findSets_29 rfl rfl ?_
          refine bw_iload_n C 3 dX1_findSets_30 rfl rfl ?_
          refine bw_callVi C (As := [.int x3]) lX64 sX64 rfl miX1_isAsTested mlX1_38 imX1_isAsTested seX1_isAsTested (by decide) rfl rfl (fun z1 h1 => mt1_isAsTested h1) rfl (Nat.le_of_ble_eq_true rfl) rfl dX1_findSets_31 h (fun q31 _ h => ?_)
          refine bw_if_eq C (tgt := 57) dX1_findSets_34 (by decide) h (fun h => ?_) (fun h => ?_)
          · refine bw_iinc C [(3, .int (x3 + 1)), (0, .ref (gad G 64)), (1, .int x1), (2, .int x2)] 3 dX1_findSets_57 rfl rfl (by decide) rfl ?_
            refine bw_goto C (tgt := 7) dX1_findSets_60 (by decide) ?_
            exact bw_sub [1, 2, 3, 0] rfl (ih (x3 + 1) q31.2 h)
          · refine bw_aload_n C 0 dX1_findSets_37 rfl rfl ?_
            refine bw_getr C (j := 2) (t := 65) lX64 sX64 rfl inlX1 (by decide) rfl flX1_11 dX1_findSets_38 ?_
            refine bw_aload_n C 0 dX1_findSets_41 rfl rfl ?_
            refine bw_geti C (j := 1) lX64 sX64 rfl inlX1 (by decide) rfl flX1_26 dX1_findSets_42 ?_
            refine bw_iload_n C 3 dX1_findSets_45 rfl rfl ?_
            refine bw_iast C lX65 sX65 dX1_findSets_46 h (fun h => ?_)
            refine bw_aload_n C 0 dX1_findSets_47 rfl rfl ?_
            refine bw_dup C dX1_findSets_48 rfl ?_
            refine bw_geti C (j := 1) lX64 sX64 rfl inlX1 (by decide) rfl flX1_26 dX1_findSets_49 ?_
            refine bw_iconst C (v := 1) dX1_findSets_52 (by decide) ?_
            refine bw_iadd C dX1_findSets_53 ?_
            refine bw_puti C (j := 1) (ty := .int) lX64 sX64 rfl inlX1 (by decide) tyX1 tyX1_ok nmX1 rfl flX1_26 rfl (by decide +kernel) rfl rfl dX1_findSets_54 ?_
            refine bw_iinc C [(3, .int (x3 + 1)), (0, .ref (gad G 64)), (1, .int x1), (2, .int x2)] 3 dX1_findSets_57 rfl rfl (by decide) rfl ?_
            refine bw_goto C (tgt := 7) dX1_findSets_60 (by decide) ?_
            exact bw_sub [1, 2, 3, 0] rfl (ih (x3 + 1) (up2 (up2 q31.2 65 (q31.2 64 1).toNatClampNeg x3) 64 1 (((up2 q31.2 65 (q31.2 64 1).toNatClampNeg x3) 64 1) + 1)) h)
def fn1_findSets  (x1 : Int32) (x2 : Int32) (w : Mem) : Option (Int32 × Mem) := fn1_findSets_7 x1 x2 (fun x3_7 w_7 => some (0, w_7)) 1000 0 (up2 w 64 1 0)
set_option maxRecDepth 20000 in
theorem bk1_findSets {M : MX} {G : GX} (C : BC M G shX 71 (eX G) RX1 cX1_findSets 4 none rm1_findSets) {z : Int32 × Mem}   (x1 : Int32) (x2 : Int32) {w : Mem} (h : fn1_findSets  x1 x2 w = some z) : BW M G shX 71 4 (ZR M G shX 71 none z) 0 [(0, .ref (gad G 64)), (1, .int x1), (2, .int x2)] [] w := by
  rw [fn1_findSets] at h
  refine bw_aload_n C 0 dX1_findSets_0 rfl rfl ?_
  refine bw_iconst C (v := 0) dX1_findSets_1 (by decide) ?_
  refine bw_puti C (j := 1) (ty := .int) lX64 sX64 rfl inlX1 (by decide) tyX1 tyX1_ok nmX1 rfl flX1_26 rfl (by decide +kernel) rfl rfl dX1_findSets_2 ?_
  refine bw_iconst C (v := 0) dX1_findSets_5 (by decide) ?_
  refine bw_istore_n C [(3, .int 0), (0, .ref (gad G 64)), (1, .int x1), (2, .int x2)] dX1_findSets_6 rfl (by decide) rfl ?_
  refine bw_sub [1, 2, 3, 0] rfl (bk1_findSets_7 C x1 x2 (fun x3_7 w_7 h => ?_) 1000 0 (up2 w 64 1 0) h)
  exact bw_vret C dX1_findSets_63 h
theorem mt1_findSets {l : Launch} {G : GX}   {x1 : Int32} {x2 : Int32} {w : Mem} {z : Int32 × Mem} (h : fn1_findSets  x1 x2 w = some z) : MC l G shX 71 (eX G) yX1_findSets cX1_findSets 4 none rm1_findSets [.ref (gad G 64), .int x1, .int x2] w z := by
  refine met_of (by decide +kernel) (eX_ok G) rfl (Nat.le_of_ble_eq_true rfl) (fun M hM C => ?_)
  subst hM
  exact bk1_findSets C  x1 x2 h
def rm1_inAll : Room := { frames := 0, cells := 0, slots := 0, locals := 0 }
def fn1_inAll_4 (k : Int32 → Int32 → Mem → Option (Int32 × Mem)) : Nat → Int32 → Int32 → Mem → Option (Int32 × Mem)
  | 0, _, _, _ => none
  | nn + 1, x1, x2, w => (if (w 64 1) ≤ x2 then k x1 x2 w else (if ib x2 64 = true then fn1_inAll_4 k nn (x1 &&& (w 65 x2.toNatClampNeg)) (x2 + 1) w else none))
set_option maxRecDepth 20000 in
theorem bk1_inAll_4 {M : MX} {G : GX} (C : BC M G shX 71 (eX G) RX1 cX1_inAll 3 (some .int) rm1_inAll) {z : Int32 × Mem} {k : Int32 → Int32 → Mem → Option (Int32 × Mem)} (hk : ∀ (x1 : Int32) (x2 : Int32) (w : Mem), k x1 x2 w = some z → BW M G shX 71 3 (ZR M G shX 71 (some .int) z) 27 [(1, .int x1)] [] w) : ∀ (nn : Nat) (x1 : Int32) (x2 : Int32) (w : Mem), fn1_inAll_4 k nn x1 x2 w = some z → BW M G shX 71 3 (ZR M G shX 71 (some .int) z) 4 [(0, .ref (gad G 64)), (1, .int x1), (2, .int x2)] [] w := by
  intro nn
  induction nn with
  | zero =>
    intro x1 x2 w h
    have h : (none : Option (Int32 × Mem)) = some z := h
    cases h
  | succ nn ih =>
    intro x1 x2 w h
    rw [fn1_inAll_4] at h
    refine bw_iload_n C 2 dX1_inAll_4 rfl rfl ?_
    refine bw_aload_n C 0 dX1_inAll_5 rfl rfl ?_
    refine bw_geti C (j := 1) lX64 sX64 rfl inlX1 (by decide) rfl flX1_26 dX1_inAll_6 ?_
    refine bw_icmp_ge C (tgt := 27) dX1_inAll_9 (by decide) h (fun h => ?_) (fun h => ?_)
    · exact bw_sub [1] rfl (hk x1 x2 w h)
    · refine bw_iload_n C 1 dX1_inAll_12 rfl rfl ?_
      refine bw_aload_n C 0 dX1_inAll_13 rfl rfl ?_
      refine bw_getr C (j := 2) (t := 65) lX64 sX64 rfl inlX1 (by decide) rfl flX1_11 dX1_inAll_14 ?_
      refine bw_iload_n C 2 dX1_inAll_17 rfl rfl ?_
      refine bw_iald C lX65 sX65 dX1_inAll_18 h (fun h => ?_)
      refine bw_iand C dX1_inAll_19 ?_
      refine bw_istore_n C [(1, .int (x1 &&& (w 65 x2.toNatClampNeg))), (0, .ref (gad G 64)), (2, .int x2)] dX1_inAll_20 rfl (by decide) rfl ?_
      refine bw_iinc C [(2, .int (x2 + 1)), (1, .int (x1 &&& (w 65 x2.toNatClampNeg))), (0, .ref (gad G 64))] 2 dX1_inAll_21 rfl rfl (by decide) rfl ?_
      refine bw_goto C (tgt := 4) dX1_inAll_24 (by decide) ?_
      exact bw_sub [2, 1, 0] rfl (ih (x1 &&& (w 65 x2.toNatClampNeg)) (x2 + 1) w h)
def fn1_inAll   (w : Mem) : Option (Int32 × Mem) := fn1_inAll_4 (fun x1_4 x2_4 w_4 => some (x1_4, w_4)) 1000 (-1) 0 w
set_option maxRecDepth 20000 in
theorem bk1_inAll {M : MX} {G : GX} (C : BC M G shX 71 (eX G) RX1 cX1_inAll 3 (some .int) rm1_inAll) {z : Int32 × Mem}    {w : Mem} (h : fn1_inAll   w = some z) : BW M G shX 71 3 (ZR M G shX 71 (some .int) z) 0 [(0, .ref (gad G 64))] [] w := by
  rw [fn1_inAll] at h
  refine bw_iconst C (v := (-1)) dX1_inAll_0 (by decide) ?_
  refine bw_istore_n C [(1, .int (-1)), (0, .ref (gad G 64))] dX1_inAll_1 rfl (by decide) rfl ?_
  refine bw_iconst C (v := 0) dX1_inAll_2 (by decide) ?_
  refine bw_istore_n C [(2, .int 0), (1, .int (-1)), (0, .ref (gad G 64))] dX1_inAll_3 rfl (by decide) rfl ?_
  refine bw_sub [2, 1, 0] rfl (bk1_inAll_4 C (fun x1_4 x2_4 w_4 h => ?_) 1000 (-1) 0 w h)
  refine bw_iload_n C 0 dX1_inAll_27 rfl rfl ?_
  exact bw_iret C dX1_inAll_28 h
theorem mt1_inAll {l : Launch} {G : GX}    {w : Mem} {z : Int32 × Mem} (h : fn1_inAll   w = some z) : MC l G shX 71 (eX G) yX1_inAll cX1_inAll 3 (some .int) rm1_inAll [.ref (gad G 64)] w z := by
  refine met_of (by decide +kernel) (eX_ok G) rfl (Nat.le_of_ble_eq_true rfl) (fun M hM C => ?_)
  subst hM
  exact bk1_inAll C   h
def rm1_inAny : Room := { frames := 0, cells := 0, slots := 0, locals := 0 }
def fn1_inAny_4 (k : Int32 → Int32 → Mem → Option (Int32 × Mem)) : Nat → Int32 → Int32 → Mem → Option (Int32 × Mem)
  | 0, _, _, _ => none
  | nn + 1, x1, x2, w => (if (w 64 1) ≤ x2 then k x1 x2 w else (if ib x2 64 = true then fn1_inAny_4 k nn (x1 ||| (w 65 x2.toNatClampNeg)) (x2 + 1) w else none))
set_option maxRecDepth 20000 in
theorem bk1_inAny_4 {M : MX} {G : GX} (C : BC M G shX 71 (eX G) RX1 cX1_inAny 3 (some .int) rm1_inAny) {z : Int32 × Mem} {k : Int32 → Int32 → Mem → Option (Int32 × Mem)} (hk : ∀ (x1 : Int32) (x2 : Int32) (w : Mem), k x1 x2 w = some z → BW M G shX 71 3 (ZR M G shX 71 (some .int) z) 27 [(1, .int x1)] [] w) : ∀ (nn : Nat) (x1 : Int32) (x2 : Int32) (w : Mem), fn1_inAny_4 k nn x1 x2 w = some z → BW M G shX 71 3 (ZR M G shX 71 (some .int) z) 4 [(0, .ref (gad G 64)), (1, .int x1), (2, .int x2)] [] w := by
  intro nn
  induction nn with
  | zero =>
    intro x1 x2 w h
    have h : (none : Option (Int32 × Mem)) = some z := h
    cases h
  | succ nn ih =>
    intro x1 x2 w h
    rw [fn1_inAny_4] at h
    refine bw_iload_n C 2 dX1_inAny_4 rfl rfl ?_
    refine bw_aload_n C 0 dX1_inAny_5 rfl rfl ?_
    refine bw_geti C (j := 1) lX64 sX64 rfl inlX1 (by decide) rfl flX1_26 dX1_inAny_6 ?_
    refine bw_icmp_ge C (tgt := 27) dX1_inAny_9 (by decide) h (fun h => ?_) (fun h => ?_)
    · exact bw_sub [1] rfl (hk x1 x2 w h)
    · refine bw_iload_n C 1 dX1_inAny_12 rfl rfl ?_
      refine bw_aload_n C 0 dX1_inAny_13 rfl rfl ?_
      refine bw_getr C (j := 2) (t := 65) lX64 sX64 rfl inlX1 (by decide) rfl flX1_11 dX1_inAny_14 ?_
      refine bw_iload_n C 2 dX1_inAny_17 rfl rfl ?_
      refine bw_iald C lX65 sX65 dX1_inAny_18 h (fun h => ?_)
      refine bw_ior C dX1_inAny_19 ?_
      refine bw_istore_n C [(1, .int (x1 ||| (w 65 x2.toNatClampNeg))), (0, .ref (gad G 64)), (2, .int x2)] dX1_inAny_20 rfl (by decide) rfl ?_
      refine bw_iinc C [(2, .int (x2 + 1)), (1, .int (x1 ||| (w 65 x2.toNatClampNeg))), (0, .ref (gad G 64))] 2 dX1_inAny_21 rfl rfl (by decide) rfl ?_
      refine bw_goto C (tgt := 4) dX1_inAny_24 (by decide) ?_
      exact bw_sub [2, 1, 0] rfl (ih (x1 ||| (w 65 x2.toNatClampNeg)) (x2 + 1) w h)
def fn1_inAny   (w : Mem) : Option (Int32 × Mem) := fn1_inAny_4 (fun x1_4 x2_4 w_4 => some (x1_4, w_4)) 1000 0 0 w
set_option maxRecDepth 20000 in
theorem bk1_inAny {M : MX} {G : GX} (C : BC M G shX 71 (eX G) RX1 cX1_inAny 3 (some .int) rm1_inAny) {z : Int32 × Mem}    {w : Mem} (h : fn1_inAny   w = some z) : BW M G shX 71 3 (ZR M G shX 71 (some .int) z) 0 [(0, .ref (gad G 64))] [] w := by
  rw [fn1_inAny] at h
  refine bw_iconst C (v := 0) dX1_inAny_0 (by decide) ?_
  refine bw_istore_n C [(1, .int 0), (0, .ref (gad G 64))] dX1_inAny_1 rfl (by decide) rfl ?_
  refine bw_iconst C (v := 0) dX1_inAny_2 (by decide) ?_
  refine bw_istore_n C [(2, .int 0), (1, .int 0), (0, .ref (gad G 64))] dX1_inAny_3 rfl (by decide) rfl ?_
  refine bw_sub [2, 1, 0] rfl (bk1_inAny_4 C (fun x1_4 x2_4 w_4 h => ?_) 1000 0 0 w h)
  refine bw_iload_n C 0 dX1_inAny_27 rfl rfl ?_
  exact bw_iret C dX1_inAny_28 h
theorem mt1_inAny {l : Launch} {G : GX}    {w : Mem} {z : Int32 × Mem} (h : fn1_inAny   w = some z) : MC l G shX 71 (eX G) yX1_inAny cX1_inAny 3 (some .int) rm1_inAny [.ref (gad G 64)] w z := by
  refine met_of (by decide +kernel) (eX_ok G) rfl (Nat.le_of_ble_eq_true rfl) (fun M hM C => ?_)
  subst hM
  exact bk1_inAny C   h
def rm1_leftAtWorst : Room := { frames := 1, cells := 0, slots := 0, locals := 20 }
def fn1_leftAtWorst_29 (x1 : Int32) (x3 : Int32) (t0 : Int32) (t1 : Int32) (kb : Int32 → Int32 → Mem → Option (Int32 × Mem)) (w : Mem) : Option (Int32 × Mem) := (fn7_oneIf t0 w).bind (fun q29 => kb (t1 + q29.1) (x3 + 1) q29.2)
set_option maxRecDepth 20000 in
theorem bk1_leftAtWorst_29 {M : MX} {G : GX} (C : BC M G shX 71 (eX G) RX1 cX1_leftAtWorst 4 (some .int) rm1_leftAtWorst) {z : Int32 × Mem} (x1 : Int32) (x3 : Int32) (t0 : Int32) (t1 : Int32) {kb : Int32 → Int32 → Mem → Option (Int32 × Mem)} (hkb : ∀ (x2 : Int32) (x3 : Int32) (w : Mem), kb x2 x3 w = some z → BW M G shX 71 4 (ZR M G shX 71 (some .int) z) 4 [(0, .ref (gad G 64)), (1, .int x1), (2, .int x2), (3, .int x3)] [] w) {w : Mem} (h : fn1_leftAtWorst_29 x1 x3 t0 t1 kb w = some z) : BW M G shX 71 4 (ZR M G shX 71 (some .int) z) 29 [(0, .ref (gad G 64)), (1, .int x1), (3, .int x3)] [.int t0, .int t1] w := by
  rw [fn1_leftAtWorst_29] at h
  refine bw_callSNi C (As := [.int t0]) miX7_oneIf (nstAt C.2.2.2.2.2.2.2.2.2.1.1 9 rfl) smX7_oneIf (by decide) rfl rfl (fun z1 h1 => mt7_oneIf h1) rfl (Nat.le_of_ble_eq_true rfl) rfl dX1_leftAtWorst_29 h (fun q29 _ h => ?_)
  refine bw_iadd C dX1_leftAtWorst_32 ?_
  refine bw_istore_n C [(2, .int (t1 + q29.1)), (0, .ref (gad G 64)), (1, .int x1), (3, .int x3)] dX1_leftAtWorst_33 rfl (by decide) rfl ?_
  refine bw_iinc C [(3, .int (x3 + 1)), (2, .int (t1 + q29.1)), (0, .ref (gad G 64)), (1, .int x1)] 3 dX1_leftAtWorst_34 rfl rfl (by decide) rfl ?_
  refine bw_goto C (tgt := 4) dX1_leftAtWorst_37 (by decide) ?_
  exact bw_sub [2, 3, 1, 0] rfl (hkb (t1 + q29.1) (x3 + 1) q29.2 h)
def fn1_leftAtWorst_4 (x1 : Int32) (k : Int32 → Int32 → Mem → Option (Int32 × Mem)) : Nat → Int32 → Int32 → Mem → Option (Int32 × Mem)
  | 0, _, _, _ => none
  | nn + 1, x2, x3, w => (if (w 64 1) ≤ x3 then k x2 x3 w else (if ib x3 64 = true then (if ((w 65 x3.toNatClampNeg) &&& x1) = 0 then fn1_leftAtWorst_29 x1 x3 0 x2 (fn1_leftAtWorst_4 x1 k nn) w else fn1_leftAtWorst_29 x1 x3 1 x2 (fn1_leftAtWorst_4 x1 k nn) w) else none))
set_option maxRecDepth 20000 in
theorem bk1_leftAtWorst_4 {M : MX} {G : GX} (C : BC M G shX 71 (eX G) RX1 cX1_leftAtWorst 4 (some .int) rm1_leftAtWorst) {z : Int32 × Mem} (x1 : Int32) {k : Int32 → Int32 → Mem → Option (Int32 × Mem)} (hk : ∀ (x2 : Int32) (x3 : Int32) (w : Mem), k x2 x3 w = some z → BW M G shX 71 4 (ZR M G shX 71 (some .int) z) 40 [(0, .ref (gad G 64)), (2, .int x2)] [] w) : ∀ (nn : Nat) (x2 : Int32) (x3 : Int32) (w : Mem), fn1_leftAtWorst_4 x1 k nn x2 x3 w = some z → BW M G shX 71 4 (ZR M G shX 71 (some .int) z) 4 [(0, .ref (gad G 64)), (1, .int x1), (2, .int x2), (3, .int x3)] [] w := by
  intro nn
  induction nn with
  | zero =>
    intro x2 x3 w h
    have h : (none : Option (Int32 × Mem)) = some z := h
    cases h
  | succ nn ih =>
    intro x2 x3 w h
    rw [fn1_leftAtWorst_4] at h
    refine bw_iload_n C 3 dX1_leftAtWorst_4 rfl rfl ?_
    refine bw_aload_n C 0 dX1_leftAtWorst_5 rfl rfl ?_
    refine bw_geti C (j := 1) lX64 sX64 rfl inlX1 (by decide) rfl flX1_26 dX1_leftAtWorst_6 ?_
    refine bw_icmp_ge C (tgt := 40) dX1_leftAtWorst_9 (by decide) h (fun h => ?_) (fun h => ?_)
    · exact bw_sub [0, 2] rfl (hk x2 x3 w h)
    · refine bw_iload_n C 2 dX1_leftAtWorst_12 rfl rfl ?_
      refine bw_aload_n C 0 dX1_leftAtWorst_13 rfl rfl ?_
      refine bw_getr C (j := 2) (t := 65) lX64 sX64 rfl inlX1 (by decide) rfl flX1_11 dX1_leftAtWorst_14 ?_
      refine bw_iload_n C 3 dX1_leftAtWorst_17 rfl rfl ?_
      refine bw_iald C lX65 sX65 dX1_leftAtWorst_18 h (fun h => ?_)
      refine bw_iload_n C 1 dX1_leftAtWorst_19 rfl rfl ?_
      refine bw_iand C dX1_leftAtWorst_20 ?_
      refine bw_if_eq C (tgt := 28) dX1_leftAtWorst_21 (by decide) h (fun h => ?_) (fun h => ?_)
      · refine bw_iconst C (v := 0) dX1_leftAtWorst_28 (by decide) ?_
        exact bw_sub [0, 1, 3] rfl (bk1_leftAtWorst_29 C x1 x3 0 x2 ih h)
      · refine bw_iconst C (v := 1) dX1_leftAtWorst_24 (by decide) ?_
        refine bw_goto C (tgt := 29) dX1_leftAtWorst_25 (by decide) ?_
        exact bw_sub [0, 1, 3] rfl (bk1_leftAtWorst_29 C x1 x3 1 x2 ih h)
def fn1_leftAtWorst  (x1 : Int32) (w : Mem) : Option (Int32 × Mem) := fn1_leftAtWorst_4 x1 (fun x2_4 x3_4 w_4 => some ((if x2_4 < ((w_4 64 1) - x2_4) then ((w_4 64 1) - x2_4) else x2_4), w_4)) 1000 0 0 w
set_option maxRecDepth 20000 in
theorem bk1_leftAtWorst {M : MX} {G : GX} (C : BC M G shX 71 (eX G) RX1 cX1_leftAtWorst 4 (some .int) rm1_leftAtWorst) {z : Int32 × Mem}   (x1 : Int32) {w : Mem} (h : fn1_leftAtWorst  x1 w = some z) : BW M G shX 71 4 (ZR M G shX 71 (some .int) z) 0 [(0, .ref (gad G 64)), (1, .int x1)] [] w := by
  rw [fn1_leftAtWorst] at h
  refine bw_iconst C (v := 0) dX1_leftAtWorst_0 (by decide) ?_
  refine bw_istore_n C [(2, .int 0), (0, .ref (gad G 64)), (1, .int x1)] dX1_leftAtWorst_1 rfl (by decide) rfl ?_
  refine bw_iconst C (v := 0) dX1_leftAtWorst_2 (by decide) ?_
  refine bw_istore_n C [(3, .int 0), (2, .int 0), (0, .ref (gad G 64)), (1, .int x1)] dX1_leftAtWorst_3 rfl (by decide) rfl ?_
  refine bw_sub [2, 3, 1, 0] rfl (bk1_leftAtWorst_4 C x1 (fun x2_4 x3_4 w_4 h => ?_) 1000 0 0 w h)
  refine bw_iload_n C 1 dX1_leftAtWorst_40 rfl rfl ?_
  refine bw_aload_n C 0 dX1_leftAtWorst_41 rfl rfl ?_
  refine bw_geti C (j := 1) lX64 sX64 rfl inlX1 (by decide) rfl flX1_26 dX1_leftAtWorst_42 ?_
  refine bw_iload_n C 1 dX1_leftAtWorst_45 rfl rfl ?_
  refine bw_isub C dX1_leftAtWorst_46 ?_
  refine bw_mmax C mlX1_46 mth_max_s mth_i mth_max_c (by decide) (Nat.le_of_ble_eq_true rfl) dX1_leftAtWorst_47 ?_
  exact bw_iret C dX1_leftAtWorst_50 h
theorem mt1_leftAtWorst {l : Launch} {G : GX}   {x1 : Int32} {w : Mem} {z : Int32 × Mem} (h : fn1_leftAtWorst  x1 w = some z) : MC l G shX 71 (eX G) yX1_leftAtWorst cX1_leftAtWorst 4 (some .int) rm1_leftAtWorst [.ref (gad G 64), .int x1] w z := by
  refine met_of (by decide +kernel) (eX_ok G) rfl (Nat.le_of_ble_eq_true rfl) (fun M hM C => ?_)
  subst hM
  exact bk1_leftAtWorst C  x1 h
def rm2_note : Room := { frames := 0, cells := 0, slots := 0, locals := 0 }
def fn2_note_32 (w : Mem) : Option (Int32 × Mem) := some (((up2 w 56 0 ((w 56 0) + 1)) 56 0), (up2 w 56 0 ((w 56 0) + 1)))
set_option maxRecDepth 20000 in
theorem bk2_note_32 {M : MX} {G : GX} (C : BC M G shX 71 (eX G) RX2 cX2_note 3 (some .int) rm2_note) {z : Int32 × Mem} {w : Mem} (h : fn2_note_32 w = some z) : BW M G shX 71 3 (ZR M G shX 71 (some .int) z) 32 [(0, .ref (gad G 56))] [] w := by
  rw [fn2_note_32] at h
  refine bw_aload_n C 0 dX2_note_32 rfl rfl ?_
  refine bw_dup C dX2_note_33 rfl ?_
  refine bw_geti C (j := 0) lX56 sX56 rfl inlX2 (by decide) rfl flX2_26 dX2_note_34 ?_
  refine bw_iconst C (v := 1) dX2_note_37 (by decide) ?_
  refine bw_iadd C dX2_note_38 ?_
  refine bw_puti C (j := 0) (ty := .int) lX56 sX56 rfl inlX2 (by decide) tyX2 tyX2_ok nmX2 rfl flX2_26 rfl (by decide +kernel) rfl rfl dX2_note_39 ?_
  refine bw_aload_n C 0 dX2_note_42 rfl rfl ?_
  refine bw_geti C (j := 0) lX56 sX56 rfl inlX2 (by decide) rfl flX2_26 dX2_note_43 ?_
  exact bw_iret C dX2_note_46 h
def fn2_note  (x1 : Int32) (x2 : Int32) (w : Mem) : Option (Int32 × Mem) := (if (w 56 0) < 6 then (if ib (w 56 0) 6 = true then (if ib ((up2 w 57 (w 56 0).toNatClampNeg x1) 56 0) 6 = true then fn2_note_32 (up2 (up2 w 57 (w 56 0).toNatClampNeg x1) 58 ((up2 w 57 (w 56 0).toNatClampNeg x1) 56 0).toNatClampNeg (vp_nar .boolean x2)) else none) else none) else some ((-3), w))
set_option maxRecDepth 20000 in
theorem bk2_note {M : MX} {G : GX} (C : BC M G shX 71 (eX G) RX2 cX2_note 3 (some .int) rm2_note) {z : Int32 × Mem}   (x1 : Int32) (x2 : Int32) {w : Mem} (h : fn2_note  x1 x2 w = some z) : BW M G shX 71 3 (ZR M G shX 71 (some .int) z) 0 [(0, .ref (gad G 56)), (1, .int x1), (2, .int x2)] [] w := by
  rw [fn2_note] at h
  refine bw_aload_n C 0 dX2_note_0 rfl rfl ?_
  refine bw_geti C (j := 0) lX56 sX56 rfl inlX2 (by decide) rfl flX2_26 dX2_note_1 ?_
  refine bw_bipush C (v := 6) dX2_note_4 (by decide) ?_
  refine bw_icmp_lt C (tgt := 12) dX2_note_6 (by decide) h (fun h => ?_) (fun h => ?_)
  · refine bw_aload_n C 0 dX2_note_12 rfl rfl ?_
    refine bw_getr C (j := 1) (t := 57) lX56 sX56 rfl inlX2 (by decide) rfl flX2_11 dX2_note_13 ?_
    refine bw_aload_n C 0 dX2_note_16 rfl rfl ?_
    refine bw_geti C (j := 0) lX56 sX56 rfl inlX2 (by decide) rfl flX2_26 dX2_note_17 ?_
    refine bw_iload_n C 1 dX2_note_20 rfl rfl ?_
    refine bw_iast C lX57 sX57 dX2_note_21 h (fun h => ?_)
    refine bw_aload_n C 0 dX2_note_22 rfl rfl ?_
    refine bw_getr C (j := 2) (t := 58) lX56 sX56 rfl inlX2 (by decide) rfl flX2_15 dX2_note_23 ?_
    refine bw_aload_n C 0 dX2_note_26 rfl rfl ?_
    refine bw_geti C (j := 0) lX56 sX56 rfl inlX2 (by decide) rfl flX2_26 dX2_note_27 ?_
    refine bw_iload_n C 2 dX2_note_30 rfl rfl ?_
    refine bw_zast C lX58 sX58 dX2_note_31 h (fun h => ?_)
    exact bw_sub [0] rfl (bk2_note_32 C h)
  · refine bw_bipush C (v := (-3)) dX2_note_9 (by decide) ?_
    exact bw_iret C dX2_note_11 h
theorem mt2_note {l : Launch} {G : GX}   {x1 : Int32} {x2 : Int32} {w : Mem} {z : Int32 × Mem} (h : fn2_note  x1 x2 w = some z) : MC l G shX 71 (eX G) yX2_note cX2_note 3 (some .int) rm2_note [.ref (gad G 56), .int x1, .int x2] w z := by
  refine met_of (by decide +kernel) (eX_ok G) rfl (Nat.le_of_ble_eq_true rfl) (fun M hM C => ?_)
  subst hM
  exact bk2_note C  x1 x2 h
def rm6_silencedBy : Room := { frames := 2, cells := 0, slots := 0, locals := 36 }
def fn6_silencedBy (b : Nat) (x1 : Int32) (x2 : Int32) (x3 : Int32) (w : Mem) : Option (Int32 × Mem) := (if ib x1 6 = true then (if x3 < x2 then some (0, w) else (fn6_lengthBy b x1 (w (b + 5) x1.toNatClampNeg) w).bind (fun q19 => (if (x2 + q19.1) ≤ x3 then some (0, q19.2) else some (((1 : Int32) <<< ((w (b + 5) x1.toNatClampNeg) &&& 31)), q19.2)))) else none)
set_option maxRecDepth 20000 in
theorem bk6_silencedBy {M : MX} {G : GX} (C : BC M G shX 71 (eX G) RX6 cX6_silencedBy 5 (some .int) rm6_silencedBy) {z : Int32 × Mem} {b : Nat} (hb : isTown b) (x1 : Int32) (x2 : Int32) (x3 : Int32) {w : Mem} (h : fn6_silencedBy b x1 x2 x3 w = some z) : BW M G shX 71 5 (ZR M G shX 71 (some .int) z) 0 [(0, .ref (gad G b)), (1, .int x1), (2, .int x2), (3, .int x3)] [] w := by
  rw [fn6_silencedBy] at h
  refine bw_aload_n C 0 dX6_silencedBy_0 rfl rfl ?_
  refine bw_getr C (j := 6) (t := (b + 5)) (isT_lt hb) (isT_sh hb) rfl inlX6 (by decide) rfl flX6_24 dX6_silencedBy_1 ?_
  refine bw_iload_n C 1 dX6_silencedBy_4 rfl rfl ?_
  refine bw_iald C (isT_l5 hb) (isT_s5 hb) dX6_silencedBy_5 h (fun h => ?_)
  refine bw_istore C [(4, .int (w (b + 5) x1.toNatClampNeg)), (0, .ref (gad G b)), (1, .int x1), (2, .int x2), (3, .int x3)] dX6_silencedBy_6 (by decide) rfl ?_
  refine bw_iload_n C 4 dX6_silencedBy_8 rfl rfl ?_
  refine bw_iload_n C 3 dX6_silencedBy_9 rfl rfl ?_
  refine bw_icmp_lt C (tgt := 33) dX6_silencedBy_10 (by decide) h (fun h => ?_) (fun h => ?_)
  · refine bw_iconst C (v := 0) dX6_silencedBy_33 (by decide) ?_
    exact bw_iret C dX6_silencedBy_34 h
  · refine bw_iload_n C 4 dX6_silencedBy_13 rfl rfl ?_
    refine bw_iload_n C 3 dX6_silencedBy_14 rfl rfl ?_
    refine bw_aload_n C 1 dX6_silencedBy_15 rfl rfl ?_
    refine bw_iload_n C 2 dX6_silencedBy_16 rfl rfl ?_
    refine bw_iload C 0 dX6_silencedBy_17 rfl ?_
    refine bw_callVi C (As := [.int x1, .int (w (b + 5) x1.toNatClampNeg)]) (isT_lt hb) (isT_sh hb) rfl miX6_lengthBy mlX6_89 imX6_lengthBy seX6_lengthBy (by decide) rfl rfl (fun z1 h1 => mt6_lengthBy hb h1) rfl (Nat.le_of_ble_eq_true rfl) rfl dX6_silencedBy_19 h (fun q19 _ h => ?_)
    refine bw_iadd C dX6_silencedBy_22 ?_
    refine bw_icmp_ge C (tgt := 33) dX6_silencedBy_23 (by decide) h (fun h => ?_) (fun h => ?_)
    · refine bw_iconst C (v := 0) dX6_silencedBy_33 (by decide) ?_
      exact bw_iret C dX6_silencedBy_34 h
    · refine bw_iconst C (v := 1) dX6_silencedBy_26 (by decide) ?_
      refine bw_iload C 0 dX6_silencedBy_27 rfl ?_
      refine bw_ishl C dX6_silencedBy_29 ?_
      refine bw_goto C (tgt := 34) dX6_silencedBy_30 (by decide) ?_
      exact bw_iret C dX6_silencedBy_34 h
theorem mt6_silencedBy {l : Launch} {G : GX} {b : Nat} (hb : isTown b) {x1 : Int32} {x2 : Int32} {x3 : Int32} {w : Mem} {z : Int32 × Mem} (h : fn6_silencedBy b x1 x2 x3 w = some z) : MC l G shX 71 (eX G) yX6_silencedBy cX6_silencedBy 5 (some .int) rm6_silencedBy [.ref (gad G b), .int x1, .int x2, .int x3] w z := by
  refine met_of (by decide +kernel) (eX_ok G) rfl (Nat.le_of_ble_eq_true rfl) (fun M hM C => ?_)
  subst hM
  exact bk6_silencedBy C hb x1 x2 x3 h
def rm6_silentOnes : Room := { frames := 3, cells := 0, slots := 0, locals := 60 }
def fn6_silentOnes_4 (b : Nat) (x1 : Int32) (k : Int32 → Int32 → Mem → Option (Int32 × Mem)) : Nat → Int32 → Int32 → Mem → Option (Int32 × Mem)
  | 0, _, _, _ => none
  | nn + 1, x2, x3, w => (if (w b 4) ≤ x3 then k x2 x3 w else (fn6_isSpent b x3 w).bind (fun q14 => (if q14.1 = 0 then fn6_silentOnes_4 b x1 k nn x2 (x3 + 1) q14.2 else (if ib x3 6 = true then (fn6_silencedBy b x3 (q14.2 (b + 7) x3.toNatClampNeg) x1 q14.2).bind (fun q30 => fn6_silentOnes_4 b x1 k nn (x2 ||| q30.1) (x3 + 1) q30.2) else none))))
set_option maxRecDepth 20000 in
theorem bk6_silentOnes_4 {M : MX} {G : GX} (C : BC M G shX 71 (eX G) RX6 cX6_silentOnes 4 (some .int) rm6_silentOnes) {z : Int32 × Mem} {b : Nat} (hb : isTown b) (x1 : Int32) {k : Int32 → Int32 → Mem → Option (Int32 × Mem)} (hk : ∀ (x2 : Int32) (x3 : Int32) (w : Mem), k x2 x3 w = some z → BW M G shX 71 4 (ZR M G shX 71 (some .int) z) 41 [(2, .int x2)] [] w) : ∀ (nn : Nat) (x2 : Int32) (x3 : Int32) (w : Mem), fn6_silentOnes_4 b x1 k nn x2 x3 w = some z → BW M G shX 71 4 (ZR M G shX 71 (some .int) z) 4 [(0, .ref (gad G b)), (1, .int x1), (2, .int x2), (3, .int x3)] [] w := by
  intro nn
  induction nn with
  | zero =>
    intro x2 x3 w h
    have h : (none : Option (Int32 × Mem)) = some z := h
    cases h
  | succ nn ih =>
    intro x2 x3 w h
    rw [fn6_silentOnes_4] at h
    refine bw_iload_n C 3 dX6_silentOnes_4 rfl rfl ?_
    refine bw_aload_n C 0 dX6_silentOnes_5 rfl rfl ?_
    refine bw_geti C (j := 4) (isT_lt hb) (isT_sh hb) rfl inlX6 (by decide) rfl flX6_50 dX6_silentOnes_6 ?_
    refine bw_icmp_ge C (tgt := 41) dX6_silentOnes_9 (by decide) h (fun h => ?_) (fun h => ?_)
    · exact bw_sub [2] rfl (hk x2 x3 w h)
    · refine bw_aload_n C 0 dX6_silentOnes_12 rfl rfl ?_
      refine bw_iload_n C 3 dX6_silentOnes_13 rfl rfl ?_
      refine bw_callVi C (As := [.int x3]) (isT_lt hb) (isT_sh hb) rfl miX6_isSpent mlX6_92 imX6_isSpent seX6_isSpent (by decide) rfl rfl (fun z1 h1 => mt6_isSpent hb h1) rfl (Nat.le_of_ble_eq_true rfl) rfl dX6_silentOnes_14 h (fun q14 _ h => ?_)
      refine bw_if_eq C (tgt := 35) dX6_silentOnes_17 (by decide) h (fun h => ?_) (fun h => ?_)
      · refine bw_iinc C [(3, .int (x3 + 1)), (0, .ref (gad G b)), (1, .int x1), (2, .int x2)] 3 dX6_silentOnes_35 rfl rfl (by decide) rfl ?_
        refine bw_goto C (tgt := 4) dX6_silentOnes_38 (by decide) ?_
        exact bw_sub [1, 2, 3, 0] rfl (ih x2 (x3 + 1) q14.2 h)
      · refine bw_iload_n C 2 dX6_silentOnes_20 rfl rfl ?_
        refine bw_aload_n C 0 dX6_silentOnes_21 rfl rfl ?_
        refine bw_iload_n C 3 dX6_silentOnes_22 rfl rfl ?_
        refine bw_aload_n C 0 dX6_silentOnes_23 rfl rfl ?_
        refine bw_getr C (j := 8) (t := (b + 7)) (isT_lt hb) (isT_sh hb) rfl inlX6 (by decide) rfl flX6_31 dX6_silentOnes_24 ?_
        refine bw_iload_n C 3 dX6_silentOnes_27 rfl rfl ?_
        refine bw_iald C (isT_l7 hb) (isT_s7 hb) dX6_silentOnes_28 h (fun h => ?_)
        refine bw_iload_n C 1 dX6_silentOnes_29 rfl rfl ?_
        refine bw_callVi C (As := [.int x3, .int (q14.2 (b + 7) x3.toNatClampNeg), .int x1]) (isT_lt hb) (isT_sh hb) rfl miX6_silencedBy mlX6_95 imX6_silencedBy seX6_silencedBy (by decide) rfl rfl (fun z1 h1 => mt6_silencedBy hb h1) rfl (Nat.le_of_ble_eq_true rfl) rfl dX6_silentOnes_30 h (fun q30 _ h => ?_)
        refine bw_ior C dX6_silentOnes_33 ?_
        refine bw_istore_n C [(2, .int (x2 ||| q30.1)), (0, .ref (gad G b)), (1, .int x1), (3, .int x3)] dX6_silentOnes_34 rfl (by decide) rfl ?_
        refine bw_iinc C [(3, .int (x3 + 1)), (2, .int (x2 ||| q30.1)), (0, .ref (gad G b)), (1, .int x1)] 3 dX6_silentOnes_35 rfl rfl (by decide) rfl ?_
        refine bw_goto C (tgt := 4) dX6_silentOnes_38 (by decide) ?_
        exact bw_sub [2, 3, 1, 0] rfl (ih (x2 ||| q30.1) (x3 + 1) q30.2 h)
def fn6_silentOnes (b : Nat) (x1 : Int32) (w : Mem) : Option (Int32 × Mem) := fn6_silentOnes_4 b x1 (fun x2_4 x3_4 w_4 => some (x2_4, w_4)) 1000 0 0 w
set_option maxRecDepth 20000 in
theorem bk6_silentOnes {M : MX} {G : GX} (C : BC M G shX 71 (eX G) RX6 cX6_silentOnes 4 (some .int) rm6_silentOnes) {z : Int32 × Mem} {b : Nat} (hb : isTown b) (x1 : Int32) {w : Mem} (h : fn6_silentOnes b x1 w = some z) : BW M G shX 71 4 (ZR M G shX 71 (some .int) z) 0 [(0, .ref (gad G b)), (1, .int x1)] [] w := by
  rw [fn6_silentOnes] at h
  refine bw_iconst C (v := 0) dX6_silentOnes_0 (by decide) ?_
  refine bw_istore_n C [(2, .int 0), (0, .ref (gad G b)), (1, .int x1)] dX6_silentOnes_1 rfl (by decide) rfl ?_
  refine bw_iconst C (v := 0) dX6_silentOnes_2 (by decide) ?_
  refine bw_istore_n C [(3, .int 0), (2, .int 0), (0, .ref (gad G b)), (1, .int x1)] dX6_silentOnes_3 rfl (by decide) rfl ?_
  refine bw_sub [2, 3, 1, 0] rfl (bk6_silentOnes_4 C hb x1 (fun x2_4 x3_4 w_4 h => ?_) 1000 0 0 w h)
  refine bw_iload_n C 0 dX6_silentOnes_41 rfl rfl ?_
  exact bw_iret C dX6_silentOnes_42 h
theorem mt6_silentOnes {l : Launch} {G : GX} {b : Nat} (hb : isTown b) {x1 : Int32} {w : Mem} {z : Int32 × Mem} (h : fn6_silentOnes b x1 w = some z) : MC l G shX 71 (eX G) yX6_silentOnes cX6_silentOnes 4 (some .int) rm6_silentOnes [.ref (gad G b), .int x1] w z := by
  refine met_of (by decide +kernel) (eX_ok G) rfl (Nat.le_of_ble_eq_true rfl) (fun M hM C => ?_)
  subst hM
  exact bk6_silentOnes C hb x1 h
def rm2_takeSilence : Room := { frames := 4, cells := 0, slots := 0, locals := 83 }
def fn2_takeSilence_2 (k : Int32 → Mem → Option (Int32 × Mem)) : Nat → Int32 → Mem → Option (Int32 × Mem)
  | 0, _, _ => none
  | nn + 1, x1, w => (if 12 ≤ x1 then k x1 w else (fn6_silentOnes 1 x1 w).bind (fun q18 => (if ib x1 12 = true then fn2_takeSilence_2 k nn (x1 + 1) (up2 q18.2 59 x1.toNatClampNeg q18.1) else none)))
set_option maxRecDepth 20000 in
theorem bk2_takeSilence_2 {M : MX} {G : GX} (C : BC M G shX 71 (eX G) RX2 cX2_takeSilence 2 none rm2_takeSilence) {z : Int32 × Mem} {k : Int32 → Mem → Option (Int32 × Mem)} (hk : ∀ (x1 : Int32) (w : Mem), k x1 w = some z → BW M G shX 71 2 (ZR M G shX 71 none z) 28 [] [] w) : ∀ (nn : Nat) (x1 : Int32) (w : Mem), fn2_takeSilence_2 k nn x1 w = some z → BW M G shX 71 2 (ZR M G shX 71 none z) 2 [(0, .ref (gad G 56)), (1, .int x1)] [] w := by
  intro nn
  induction nn with
  | zero =>
    intro x1 w h
    have h : (none : Option (Int32 × Mem)) = some z := h
    cases h
  | succ nn ih =>
    intro x1 w h
    rw [fn2_takeSilence_2] at h
    refine bw_iload_n C 1 dX2_takeSilence_2 rfl rfl ?_
    refine bw_bipush C (v := 12) dX2_takeSilence_3 (by decide) ?_
    refine bw_icmp_ge C (tgt := 28) dX2_takeSilence_5 (by decide) h (fun h => ?_) (fun h => ?_)
    · exact bw_sub [] rfl (hk x1 w h)
    · refine bw_aload_n C 0 dX2_takeSilence_8 rfl rfl ?_
      refine bw_getr C (j := 4) (t := 59) lX56 sX56 rfl inlX2 (by decide) rfl flX2_19 dX2_takeSilence_9 ?_
      refine bw_iload_n C 1 dX2_takeSilence_12 rfl rfl ?_
      refine bw_aload_n C 0 dX2_takeSilence_13 rfl rfl ?_
      refine bw_getr C (j := 3) (t := 1) lX56 sX56 rfl inlX2 (by decide) rfl flX2_22 dX2_takeSilence_14 ?_
      refine bw_iload_n C 1 dX2_takeSilence_17 rfl rfl ?_
      refine bw_callVi C (As := [.int x1]) lX1 sX1 rfl miX6_silentOnes mlX2_30 imX6_silentOnes seX6_silentOnes (by decide) rfl rfl (fun z1 h1 => mt6_silentOnes isT_1 h1) rfl (Nat.le_of_ble_eq_true rfl) rfl dX2_takeSilence_18 h (fun q18 _ h => ?_)
      refine bw_iast C lX59 sX59 dX2_takeSilence_21 h (fun h => ?_)
      refine bw_iinc C [(1, .int (x1 + 1)), (0, .ref (gad G 56))] 1 dX2_takeSilence_22 rfl rfl (by decide) rfl ?_
      refine bw_goto C (tgt := 2) dX2_takeSilence_25 (by decide) ?_
      exact bw_sub [1, 0] rfl (ih (x1 + 1) (up2 q18.2 59 x1.toNatClampNeg q18.1) h)
def fn2_takeSilence   (w : Mem) : Option (Int32 × Mem) := fn2_takeSilence_2 (fun x1_2 w_2 => some (0, w_2)) 1000 0 w
set_option maxRecDepth 20000 in
theorem bk2_takeSilence {M : MX} {G : GX} (C : BC M G shX 71 (eX G) RX2 cX2_takeSilence 2 none rm2_takeSilence) {z : Int32 × Mem}    {w : Mem} (h : fn2_takeSilence   w = some z) : BW M G shX 71 2 (ZR M G shX 71 none z) 0 [(0, .ref (gad G 56))] [] w := by
  rw [fn2_takeSilence] at h
  refine bw_iconst C (v := 0) dX2_takeSilence_0 (by decide) ?_
  refine bw_istore_n C [(1, .int 0), (0, .ref (gad G 56))] dX2_takeSilence_1 rfl (by decide) rfl ?_
  refine bw_sub [1, 0] rfl (bk2_takeSilence_2 C (fun x1_2 w_2 h => ?_) 1000 0 w h)
  exact bw_vret C dX2_takeSilence_28 h
theorem mt2_takeSilence {l : Launch} {G : GX}    {w : Mem} {z : Int32 × Mem} (h : fn2_takeSilence   w = some z) : MC l G shX 71 (eX G) yX2_takeSilence cX2_takeSilence 2 none rm2_takeSilence [.ref (gad G 56)] w z := by
  refine met_of (by decide +kernel) (eX_ok G) rfl (Nat.le_of_ble_eq_true rfl) (fun M hM C => ?_)
  subst hM
  exact bk2_takeSilence C   h
