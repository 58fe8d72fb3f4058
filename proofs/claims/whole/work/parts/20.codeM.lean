def rm8_in : Room := { frames := 0, cells := 0, slots := 0, locals := 0 }
def fn8_in  (x0 : Int64) (x2 : Int64) (x4 : Int64) (w : Mem) : Option (Int32 × Mem) := (if (lg_cmp x0 x2) < 0 then some (0, w) else (if 0 < (lg_cmp x0 x4) then some (0, w) else some (1, w)))
set_option maxRecDepth 20000 in
theorem bk8_in {M : MX} {G : GX} (C : BC M G shM 19 eM RX8 cX8_in 6 (some .boolean) rm8_in) {z : Int32 × Mem}   (x0 : Int64) (x2 : Int64) (x4 : Int64) {w : Mem} (h : fn8_in  x0 x2 x4 w = some z) : BW M G shM 19 6 (ZR M G shM 19 (some .boolean) z) 0 [(0, .long x0), (2, .long x2), (4, .long x4)] [] w := by
  rw [fn8_in] at h
  refine bw_lload_n C 0 dX8_in_0 rfl rfl ?_
  refine bw_lload_n C 1 dX8_in_1 rfl rfl ?_
  refine bw_lcmp C dX8_in_2 ?_
  refine bw_if_lt C (tgt := 17) dX8_in_3 (by decide) h (fun h => ?_) (fun h => ?_)
  · refine bw_iconst C (v := 0) dX8_in_17 (by decide) ?_
    exact bw_zretc C dX8_in_18 rfl h
  · refine bw_lload_n C 0 dX8_in_6 rfl rfl ?_
    refine bw_lload C 2 dX8_in_7 rfl ?_
    refine bw_lcmp C dX8_in_9 ?_
    refine bw_if_gt C (tgt := 17) dX8_in_10 (by decide) h (fun h => ?_) (fun h => ?_)
    · refine bw_iconst C (v := 0) dX8_in_17 (by decide) ?_
      exact bw_zretc C dX8_in_18 rfl h
    · refine bw_iconst C (v := 1) dX8_in_13 (by decide) ?_
      refine bw_goto C (tgt := 18) dX8_in_14 (by decide) ?_
      exact bw_zretc C dX8_in_18 rfl h
theorem mt8_in {l : Launch} {G : GX}   {x0 : Int64} {x2 : Int64} {x4 : Int64} {w : Mem} {z : Int32 × Mem} (h : fn8_in  x0 x2 x4 w = some z) : MC l G shM 19 eM yX8_in cX8_in 6 (some .boolean) rm8_in [.long x0, .long x2, .long x4] w z := by
  refine met_of (by decide +kernel) (eM_ok _) rfl (Nat.le_of_ble_eq_true rfl) (fun M hM C => ?_)
  subst hM
  exact bk8_in C  x0 x2 x4 h
def rm8_feed : Room := { frames := 0, cells := 0, slots := 0, locals := 0 }
def fn8_feed_50 (x1 : Int64) (x3 : Int32) (kb : Int32 → Mem → Option (Int32 × Mem)) (w : Mem) : Option (Int32 × Mem) := kb (x3 + (-8)) w
set_option maxRecDepth 20000 in
theorem bk8_feed_50 {M : MX} {G : GX} (C : BC M G shM 19 eM RX8 cX8_feed 4 (some .int) rm8_feed) {z : Int32 × Mem} (x1 : Int64) (x3 : Int32) {kb : Int32 → Mem → Option (Int32 × Mem)} (hkb : ∀ (x3 : Int32) (w : Mem), kb x3 w = some z → BW M G shM 19 4 (ZR M G shM 19 (some .int) z) 19 [(0, .ref (gad G 0)), (1, .long x1), (3, .int x3)] [] w) {w : Mem} (h : fn8_feed_50 x1 x3 kb w = some z) : BW M G shM 19 4 (ZR M G shM 19 (some .int) z) 50 [(0, .ref (gad G 0)), (1, .long x1), (3, .int x3)] [] w := by
  rw [fn8_feed_50] at h
  refine bw_iinc C [(3, .int (x3 + (-8))), (0, .ref (gad G 0)), (1, .long x1)] 2 dX8_feed_50 rfl rfl (by decide) rfl ?_
  refine bw_goto C (tgt := 19) dX8_feed_53 (by decide) ?_
  exact bw_sub [1, 2, 0] rfl (hkb (x3 + (-8)) w h)
def fn8_feed_19 (x1 : Int64) (k : Int32 → Mem → Option (Int32 × Mem)) : Nat → Int32 → Mem → Option (Int32 × Mem)
  | 0, _, _ => none
  | nn + 1, x3, w => (if x3 < 0 then k x3 w else (if ib (w 0 14) 320 = true then fn8_feed_50 x1 x3 (fn8_feed_19 x1 k nn) (up2 (up2 w 6 (w 0 14).toNatClampNeg ((((x1 >>> ((x3 : Int32).toInt64 &&& 63)) : Int64).toInt32) &&& 255)) 0 14 (((up2 w 6 (w 0 14).toNatClampNeg ((((x1 >>> ((x3 : Int32).toInt64 &&& 63)) : Int64).toInt32) &&& 255)) 0 14) + 1)) else none))
set_option maxRecDepth 20000 in
theorem bk8_feed_19 {M : MX} {G : GX} (C : BC M G shM 19 eM RX8 cX8_feed 4 (some .int) rm8_feed) {z : Int32 × Mem} (x1 : Int64) {k : Int32 → Mem → Option (Int32 × Mem)} (hk : ∀ (x3 : Int32) (w : Mem), k x3 w = some z → BW M G shM 19 4 (ZR M G shM 19 (some .int) z) 56 [(0, .ref (gad G 0))] [] w) : ∀ (nn : Nat) (x3 : Int32) (w : Mem), fn8_feed_19 x1 k nn x3 w = some z → BW M G shM 19 4 (ZR M G shM 19 (some .int) z) 19 [(0, .ref (gad G 0)), (1, .long x1), (3, .int x3)] [] w := by
  intro nn
  induction nn with
  | zero =>
    intro x3 w h
    have h : (none : Option (Int32 × Mem)) = some z := h
    cases h
  | succ nn ih =>
    intro x3 w h
    rw [fn8_feed_19] at h
    refine bw_iload_n C 2 dX8_feed_19 rfl rfl ?_
    refine bw_if_lt C (tgt := 56) dX8_feed_20 (by decide) h (fun h => ?_) (fun h => ?_)
    · exact bw_sub [0] rfl (hk x3 w h)
    · refine bw_aload_n C 0 dX8_feed_23 rfl rfl ?_
      refine bw_getr C (j := 13) (t := 6) lM0 sM0 rfl inlX8 (by decide) rfl flX8_25 dX8_feed_24 ?_
      refine bw_aload_n C 0 dX8_feed_27 rfl rfl ?_
      refine bw_geti C (j := 14) lM0 sM0 rfl inlX8 (by decide) rfl flX8_65 dX8_feed_28 ?_
      refine bw_lload_n C 1 dX8_feed_31 rfl rfl ?_
      refine bw_iload_n C 2 dX8_feed_32 rfl rfl ?_
      refine bw_lshr C dX8_feed_33 rfl ?_
      refine bw_l2i C dX8_feed_34 rfl ?_
      refine bw_sipush C (v := 255) dX8_feed_35 (by decide) ?_
      refine bw_iand C dX8_feed_38 ?_
      refine bw_iast C lM6 sM6 dX8_feed_39 h (fun h => ?_)
      refine bw_aload_n C 0 dX8_feed_40 rfl rfl ?_
      refine bw_dup C dX8_feed_41 rfl ?_
      refine bw_geti C (j := 14) lM0 sM0 rfl inlX8 (by decide) rfl flX8_65 dX8_feed_42 ?_
      refine bw_iconst C (v := 1) dX8_feed_45 (by decide) ?_
      refine bw_iadd C dX8_feed_46 ?_
      refine bw_puti C (j := 14) (ty := .int) lM0 sM0 rfl inlX8 (by decide) tyX8 tyX8_ok nmX8 rfl flX8_65 rfl (by decide +kernel) rfl rfl dX8_feed_47 ?_
      exact bw_sub [0, 1, 2] rfl (bk8_feed_50 C x1 x3 ih h)
def fn8_feed  (x1 : Int64) (w : Mem) : Option (Int32 × Mem) := (if ((w 0 14) + 8) ≤ 320 then fn8_feed_19 x1 (fun x3_19 w_19 => some ((w_19 0 14), w_19)) 1000 56 w else some ((-3), w))
set_option maxRecDepth 20000 in
theorem bk8_feed {M : MX} {G : GX} (C : BC M G shM 19 eM RX8 cX8_feed 4 (some .int) rm8_feed) {z : Int32 × Mem}   (x1 : Int64) {w : Mem} (h : fn8_feed  x1 w = some z) : BW M G shM 19 4 (ZR M G shM 19 (some .int) z) 0 [(0, .ref (gad G 0)), (1, .long x1)] [] w := by
  rw [fn8_feed] at h
  refine bw_aload_n C 0 dX8_feed_0 rfl rfl ?_
  refine bw_geti C (j := 14) lM0 sM0 rfl inlX8 (by decide) rfl flX8_65 dX8_feed_1 ?_
  refine bw_bipush C (v := 8) dX8_feed_4 (by decide) ?_
  refine bw_iadd C dX8_feed_6 ?_
  refine bw_sipush C (v := 320) dX8_feed_7 (by decide) ?_
  refine bw_icmp_le C (tgt := 16) dX8_feed_10 (by decide) h (fun h => ?_) (fun h => ?_)
  · refine bw_bipush C (v := 56) dX8_feed_16 (by decide) ?_
    refine bw_istore_n C [(3, .int 56), (0, .ref (gad G 0)), (1, .long x1)] dX8_feed_18 rfl (by decide) rfl ?_
    refine bw_sub [1, 2, 0] rfl (bk8_feed_19 C x1 (fun x3_19 w_19 h => ?_) 1000 56 w h)
    refine bw_aload_n C 0 dX8_feed_56 rfl rfl ?_
    refine bw_geti C (j := 14) lM0 sM0 rfl inlX8 (by decide) rfl flX8_65 dX8_feed_57 ?_
    exact bw_iret C dX8_feed_60 h
  · refine bw_bipush C (v := (-3)) dX8_feed_13 (by decide) ?_
    exact bw_iret C dX8_feed_15 h
theorem mt8_feed {l : Launch} {G : GX}   {x1 : Int64} {w : Mem} {z : Int32 × Mem} (h : fn8_feed  x1 w = some z) : MC l G shM 19 eM yX8_feed cX8_feed 4 (some .int) rm8_feed [.ref (gad G 0), .long x1] w z := by
  refine met_of (by decide +kernel) (eM_ok _) rfl (Nat.le_of_ble_eq_true rfl) (fun M hM C => ?_)
  subst hM
  exact bk8_feed C  x1 h
def rm8_end : Room := { frames := 1, cells := 0, slots := 0, locals := 25 }
def fn8_end  (x1 : Int32) (w : Mem) : Option (Int32 × Mem) := (fn8_in ((x1 : Int32).toInt64) 0 (((w 0 14) : Int32).toInt64) w).bind (fun q8 => (if ¬ q8.1 = 0 then some ((q8.2 0 14), (up2 q8.2 0 14 x1)) else some ((-1), q8.2)))
set_option maxRecDepth 20000 in
theorem bk8_end {M : MX} {G : GX} (C : BC M G shM 19 eM RX8 cX8_end 3 (some .int) rm8_end) {z : Int32 × Mem}   (x1 : Int32) {w : Mem} (h : fn8_end  x1 w = some z) : BW M G shM 19 3 (ZR M G shM 19 (some .int) z) 0 [(0, .ref (gad G 0)), (1, .int x1)] [] w := by
  rw [fn8_end] at h
  refine bw_iload_n C 1 dX8_end_0 rfl rfl ?_
  refine bw_i2l C dX8_end_1 rfl ?_
  refine bw_lconst C (v := 0) dX8_end_2 (by decide) ?_
  refine bw_aload_n C 0 dX8_end_3 rfl rfl ?_
  refine bw_geti C (j := 14) lM0 sM0 rfl inlX8 (by decide) rfl flX8_65 dX8_end_4 ?_
  refine bw_i2l C dX8_end_7 rfl ?_
  refine bw_callSi C (As := [.long ((x1 : Int32).toInt64), .long 0, .long (((w 0 14) : Int32).toInt64)]) miX8_in mlX8_69 smX8_in (by decide) rfl rfl (fun z1 h1 => mt8_in h1) rfl (Nat.le_of_ble_eq_true rfl) rfl dX8_end_8 h (fun q8 _ h => ?_)
  refine bw_if_ne C (tgt := 16) dX8_end_11 (by decide) h (fun h => ?_) (fun h => ?_)
  · refine bw_aload_n C 0 dX8_end_16 rfl rfl ?_
    refine bw_geti C (j := 14) lM0 sM0 rfl inlX8 (by decide) rfl flX8_65 dX8_end_17 ?_
    refine bw_istore_n C [(2, .int (q8.2 0 14)), (0, .ref (gad G 0)), (1, .int x1)] dX8_end_20 rfl (by decide) rfl ?_
    refine bw_aload_n C 1 dX8_end_21 rfl rfl ?_
    refine bw_iload_n C 2 dX8_end_22 rfl rfl ?_
    refine bw_puti C (j := 14) (ty := .int) lM0 sM0 rfl inlX8 (by decide) tyX8 tyX8_ok nmX8 rfl flX8_65 rfl (by decide +kernel) rfl rfl dX8_end_23 ?_
    refine bw_iload_n C 0 dX8_end_26 rfl rfl ?_
    exact bw_iret C dX8_end_27 h
  · refine bw_iconst C (v := (-1)) dX8_end_14 (by decide) ?_
    exact bw_iret C dX8_end_15 h
theorem mt8_end {l : Launch} {G : GX}   {x1 : Int32} {w : Mem} {z : Int32 × Mem} (h : fn8_end  x1 w = some z) : MC l G shM 19 eM yX8_end cX8_end 3 (some .int) rm8_end [.ref (gad G 0), .int x1] w z := by
  refine met_of (by decide +kernel) (eM_ok _) rfl (Nat.le_of_ble_eq_true rfl) (fun M hM C => ?_)
  subst hM
  exact bk8_end C  x1 h
def rm8_byteAt : Room := { frames := 0, cells := 0, slots := 0, locals := 0 }
def fn8_byteAt  (x1 : Int32) (w : Mem) : Option (Int32 × Mem) := (if (w 0 14) ≤ x1 then some ((-4), w) else (if ib x1 320 = true then some ((w 6 x1.toNatClampNeg), w) else none))
set_option maxRecDepth 20000 in
theorem bk8_byteAt {M : MX} {G : GX} (C : BC M G shM 19 eM RX8 cX8_byteAt 2 (some .int) rm8_byteAt) {z : Int32 × Mem}   (x1 : Int32) {w : Mem} (h : fn8_byteAt  x1 w = some z) : BW M G shM 19 2 (ZR M G shM 19 (some .int) z) 0 [(0, .ref (gad G 0)), (1, .int x1)] [] w := by
  rw [fn8_byteAt] at h
  refine bw_iload_n C 1 dX8_byteAt_0 rfl rfl ?_
  refine bw_aload_n C 0 dX8_byteAt_1 rfl rfl ?_
  refine bw_geti C (j := 14) lM0 sM0 rfl inlX8 (by decide) rfl flX8_65 dX8_byteAt_2 ?_
  refine bw_icmp_ge C (tgt := 17) dX8_byteAt_5 (by decide) h (fun h => ?_) (fun h => ?_)
  · refine bw_bipush C (v := (-4)) dX8_byteAt_17 (by decide) ?_
    exact bw_iret C dX8_byteAt_19 h
  · refine bw_aload_n C 0 dX8_byteAt_8 rfl rfl ?_
    refine bw_getr C (j := 13) (t := 6) lM0 sM0 rfl inlX8 (by decide) rfl flX8_25 dX8_byteAt_9 ?_
    refine bw_iload_n C 1 dX8_byteAt_12 rfl rfl ?_
    refine bw_iald C lM6 sM6 dX8_byteAt_13 h (fun h => ?_)
    refine bw_goto C (tgt := 19) dX8_byteAt_14 (by decide) ?_
    exact bw_iret C dX8_byteAt_19 h
theorem mt8_byteAt {l : Launch} {G : GX}   {x1 : Int32} {w : Mem} {z : Int32 × Mem} (h : fn8_byteAt  x1 w = some z) : MC l G shM 19 eM yX8_byteAt cX8_byteAt 2 (some .int) rm8_byteAt [.ref (gad G 0), .int x1] w z := by
  refine met_of (by decide +kernel) (eM_ok _) rfl (Nat.le_of_ble_eq_true rfl) (fun M hM C => ?_)
  subst hM
  exact bk8_byteAt C  x1 h
def rm8_fails : Room := { frames := 0, cells := 0, slots := 0, locals := 0 }
def fn8_fails  (x1 : Int32) (w : Mem) : Option (Int32 × Mem) := (if ¬ (w 0 16) = 0 then some (0, w) else some (0, (up2 (up2 w 0 16 x1) 0 17 ((up2 w 0 16 x1) 0 19))))
set_option maxRecDepth 20000 in
theorem bk8_fails {M : MX} {G : GX} (C : BC M G shM 19 eM RX8 cX8_fails 2 none rm8_fails) {z : Int32 × Mem}   (x1 : Int32) {w : Mem} (h : fn8_fails  x1 w = some z) : BW M G shM 19 2 (ZR M G shM 19 none z) 0 [(0, .ref (gad G 0)), (1, .int x1)] [] w := by
  rw [fn8_fails] at h
  refine bw_aload_n C 0 dX8_fails_0 rfl rfl ?_
  refine bw_geti C (j := 16) lM0 sM0 rfl inlX8 (by decide) rfl flX8_73 dX8_fails_1 ?_
  refine bw_if_ne C (tgt := 20) dX8_fails_4 (by decide) h (fun h => ?_) (fun h => ?_)
  · exact bw_vret C dX8_fails_20 h
  · refine bw_aload_n C 0 dX8_fails_7 rfl rfl ?_
    refine bw_iload_n C 1 dX8_fails_8 rfl rfl ?_
    refine bw_puti C (j := 16) (ty := .int) lM0 sM0 rfl inlX8 (by decide) tyX8 tyX8_ok nmX8 rfl flX8_73 rfl (by decide +kernel) rfl rfl dX8_fails_9 ?_
    refine bw_aload_n C 0 dX8_fails_12 rfl rfl ?_
    refine bw_aload_n C 0 dX8_fails_13 rfl rfl ?_
    refine bw_geti C (j := 19) lM0 sM0 rfl inlX8 (by decide) rfl flX8_76 dX8_fails_14 ?_
    refine bw_puti C (j := 17) (ty := .int) lM0 sM0 rfl inlX8 (by decide) tyX8 tyX8_ok nmX8 rfl flX8_79 rfl (by decide +kernel) rfl rfl dX8_fails_17 ?_
    exact bw_vret C dX8_fails_20 h
theorem mt8_fails {l : Launch} {G : GX}   {x1 : Int32} {w : Mem} {z : Int32 × Mem} (h : fn8_fails  x1 w = some z) : MC l G shM 19 eM yX8_fails cX8_fails 2 none rm8_fails [.ref (gad G 0), .int x1] w z := by
  refine met_of (by decide +kernel) (eM_ok _) rfl (Nat.le_of_ble_eq_true rfl) (fun M hM C => ?_)
  subst hM
  exact bk8_fails C  x1 h
def rm8_nameHere : Room := { frames := 1, cells := 0, slots := 0, locals := 21 }
def fn8_nameHere_51 (x1 : Int32) (k : Int32 → Int32 → Mem → Option (Int32 × Mem)) : Nat → Int32 → Int32 → Mem → Option (Int32 × Mem)
  | 0, _, _, _ => none
  | nn + 1, x2, x3, w => (if x2 = 0 then k x2 x3 w else (if ((w 0 18) - (w 0 19)) ≤ x3 then k x2 x3 w else (fn8_byteAt ((w 0 19) + x3) w).bind (fun q75 => (if ib x1 13 = true then (if ib ((q75.2 7 x1.toNatClampNeg) + x3) 56 = true then (if ¬ q75.1 = (q75.2 8 ((q75.2 7 x1.toNatClampNeg) + x3).toNatClampNeg) then fn8_nameHere_51 x1 k nn 0 (x3 + 1) q75.2 else fn8_nameHere_51 x1 k nn 1 (x3 + 1) q75.2) else none) else none))))
set_option maxRecDepth 20000 in
theorem bk8_nameHere_51 {M : MX} {G : GX} (C : BC M G shM 19 eM RX8 cX8_nameHere 4 (some .int) rm8_nameHere) {z : Int32 × Mem} (x1 : Int32) {k : Int32 → Int32 → Mem → Option (Int32 × Mem)} (hk : ∀ (x2 : Int32) (x3 : Int32) (w : Mem), k x2 x3 w = some z → BW M G shM 19 4 (ZR M G shM 19 (some .int) z) 106 [(0, .ref (gad G 0)), (1, .int x1), (2, .int x2)] [] w) : ∀ (nn : Nat) (x2 : Int32) (x3 : Int32) (w : Mem), fn8_nameHere_51 x1 k nn x2 x3 w = some z → BW M G shM 19 4 (ZR M G shM 19 (some .int) z) 51 [(0, .ref (gad G 0)), (1, .int x1), (2, .int x2), (3, .int x3)] [] w := by
  intro nn
  induction nn with
  | zero =>
    intro x2 x3 w h
    have h : (none : Option (Int32 × Mem)) = some z := h
    cases h
  | succ nn ih =>
    intro x2 x3 w h
    rw [fn8_nameHere_51] at h
    refine bw_iload_n C 2 dX8_nameHere_51 rfl rfl ?_
    refine bw_if_eq C (tgt := 106) dX8_nameHere_52 (by decide) h (fun h => ?_) (fun h => ?_)
    · exact bw_sub [0, 1, 2] rfl (hk x2 x3 w h)
    · refine bw_iload_n C 3 dX8_nameHere_55 rfl rfl ?_
      refine bw_aload_n C 0 dX8_nameHere_56 rfl rfl ?_
      refine bw_geti C (j := 18) lM0 sM0 rfl inlX8 (by decide) rfl flX8_85 dX8_nameHere_57 ?_
      refine bw_aload_n C 0 dX8_nameHere_60 rfl rfl ?_
      refine bw_geti C (j := 19) lM0 sM0 rfl inlX8 (by decide) rfl flX8_76 dX8_nameHere_61 ?_
      refine bw_isub C dX8_nameHere_64 ?_
      refine bw_icmp_ge C (tgt := 106) dX8_nameHere_65 (by decide) h (fun h => ?_) (fun h => ?_)
      · exact bw_sub [0, 1, 2] rfl (hk x2 x3 w h)
      · refine bw_aload_n C 0 dX8_nameHere_68 rfl rfl ?_
        refine bw_aload_n C 0 dX8_nameHere_69 rfl rfl ?_
        refine bw_geti C (j := 19) lM0 sM0 rfl inlX8 (by decide) rfl flX8_76 dX8_nameHere_70 ?_
        refine bw_iload_n C 3 dX8_nameHere_73 rfl rfl ?_
        refine bw_iadd C dX8_nameHere_74 ?_
        refine bw_callVi C (As := [.int ((w 0 19) + x3)]) lM0 sM0 rfl miX8_byteAt mlX8_88 imX8_byteAt seX8_byteAt (by decide) rfl rfl (fun z1 h1 => mt8_byteAt h1) rfl (Nat.le_of_ble_eq_true rfl) rfl dX8_nameHere_75 h (fun q75 _ h => ?_)
        refine bw_aload_n C 0 dX8_nameHere_78 rfl rfl ?_
        refine bw_getr C (j := 23) (t := 8) lM0 sM0 rfl inlX8 (by decide) rfl flX8_31 dX8_nameHere_79 ?_
        refine bw_aload_n C 0 dX8_nameHere_82 rfl rfl ?_
        refine bw_getr C (j := 22) (t := 7) lM0 sM0 rfl inlX8 (by decide) rfl flX8_28 dX8_nameHere_83 ?_
        refine bw_iload_n C 1 dX8_nameHere_86 rfl rfl ?_
        refine bw_iald C lM7 sM7 dX8_nameHere_87 h (fun h => ?_)
        refine bw_iload_n C 3 dX8_nameHere_88 rfl rfl ?_
        refine bw_iadd C dX8_nameHere_89 ?_
        refine bw_iald C lM8 sM8 dX8_nameHere_90 h (fun h => ?_)
        refine bw_icmp_ne C (tgt := 98) dX8_nameHere_91 (by decide) h (fun h => ?_) (fun h => ?_)
        · refine bw_iconst C (v := 0) dX8_nameHere_98 (by decide) ?_
          refine bw_istore_n C [(2, .int 0), (0, .ref (gad G 0)), (1, .int x1), (3, .int x3)] dX8_nameHere_99 rfl (by decide) rfl ?_
          refine bw_iinc C [(3, .int (x3 + 1)), (2, .int 0), (0, .ref (gad G 0)), (1, .int x1)] 3 dX8_nameHere_100 rfl rfl (by decide) rfl ?_
          refine bw_goto C (tgt := 51) dX8_nameHere_103 (by decide) ?_
          exact bw_sub [2, 3, 1, 0] rfl (ih 0 (x3 + 1) q75.2 h)
        · refine bw_iconst C (v := 1) dX8_nameHere_94 (by decide) ?_
          refine bw_goto C (tgt := 99) dX8_nameHere_95 (by decide) ?_
          refine bw_istore_n C [(2, .int 1), (0, .ref (gad G 0)), (1, .int x1), (3, .int x3)] dX8_nameHere_99 rfl (by decide) rfl ?_
          refine bw_iinc C [(3, .int (x3 + 1)), (2, .int 1), (0, .ref (gad G 0)), (1, .int x1)] 3 dX8_nameHere_100 rfl rfl (by decide) rfl ?_
          refine bw_goto C (tgt := 51) dX8_nameHere_103 (by decide) ?_
          exact bw_sub [2, 3, 1, 0] rfl (ih 1 (x3 + 1) q75.2 h)
def fn8_nameHere_106 (x1 : Int32) (x2 : Int32) (kb : Int32 → Mem → Option (Int32 × Mem)) (w : Mem) : Option (Int32 × Mem) := (if x2 = 0 then kb (x1 + 1) w else some (x1, w))
set_option maxRecDepth 20000 in
theorem bk8_nameHere_106 {M : MX} {G : GX} (C : BC M G shM 19 eM RX8 cX8_nameHere 4 (some .int) rm8_nameHere) {z : Int32 × Mem} (x1 : Int32) (x2 : Int32) {kb : Int32 → Mem → Option (Int32 × Mem)} (hkb : ∀ (x1 : Int32) (w : Mem), kb x1 w = some z → BW M G shM 19 4 (ZR M G shM 19 (some .int) z) 2 [(0, .ref (gad G 0)), (1, .int x1)] [] w) {w : Mem} (h : fn8_nameHere_106 x1 x2 kb w = some z) : BW M G shM 19 4 (ZR M G shM 19 (some .int) z) 106 [(0, .ref (gad G 0)), (1, .int x1), (2, .int x2)] [] w := by
  rw [fn8_nameHere_106] at h
  refine bw_iload_n C 2 dX8_nameHere_106 rfl rfl ?_
  refine bw_if_eq C (tgt := 112) dX8_nameHere_107 (by decide) h (fun h => ?_) (fun h => ?_)
  · refine bw_iinc C [(1, .int (x1 + 1)), (0, .ref (gad G 0)), (2, .int x2)] 1 dX8_nameHere_112 rfl rfl (by decide) rfl ?_
    refine bw_goto C (tgt := 2) dX8_nameHere_115 (by decide) ?_
    exact bw_sub [1, 0] rfl (hkb (x1 + 1) w h)
  · refine bw_iload_n C 1 dX8_nameHere_110 rfl rfl ?_
    exact bw_iret C dX8_nameHere_111 h
def fn8_nameHere_48 (x1 : Int32) (t0 : Int32) (kb : Int32 → Mem → Option (Int32 × Mem)) (w : Mem) : Option (Int32 × Mem) := fn8_nameHere_51 x1 (fun x2_51 x3_51 w_51 => fn8_nameHere_106 x1 x2_51 kb w_51) 1000 t0 0 w
set_option maxRecDepth 20000 in
theorem bk8_nameHere_48 {M : MX} {G : GX} (C : BC M G shM 19 eM RX8 cX8_nameHere 4 (some .int) rm8_nameHere) {z : Int32 × Mem} (x1 : Int32) (t0 : Int32) {kb : Int32 → Mem → Option (Int32 × Mem)} (hkb : ∀ (x1 : Int32) (w : Mem), kb x1 w = some z → BW M G shM 19 4 (ZR M G shM 19 (some .int) z) 2 [(0, .ref (gad G 0)), (1, .int x1)] [] w) {w : Mem} (h : fn8_nameHere_48 x1 t0 kb w = some z) : BW M G shM 19 4 (ZR M G shM 19 (some .int) z) 48 [(0, .ref (gad G 0)), (1, .int x1)] [.int t0] w := by
  rw [fn8_nameHere_48] at h
  refine bw_istore_n C [(2, .int t0), (0, .ref (gad G 0)), (1, .int x1)] dX8_nameHere_48 rfl (by decide) rfl ?_
  refine bw_iconst C (v := 0) dX8_nameHere_49 (by decide) ?_
  refine bw_istore_n C [(3, .int 0), (2, .int t0), (0, .ref (gad G 0)), (1, .int x1)] dX8_nameHere_50 rfl (by decide) rfl ?_
  refine bw_sub [2, 3, 1, 0] rfl (bk8_nameHere_51 C x1 (fun x2_51 x3_51 w_51 h => ?_) 1000 t0 0 w h)
  exact bw_sub [0, 1, 2] rfl (bk8_nameHere_106 C x1 x2_51 hkb h)
def fn8_nameHere_2 (k : Int32 → Mem → Option (Int32 × Mem)) : Nat → Int32 → Mem → Option (Int32 × Mem)
  | 0, _, _ => none
  | nn + 1, x1, w => (if 12 ≤ x1 then k x1 w else (if ¬ (w 0 20) = 1 then k x1 w else (if ib (x1 + 1) 13 = true then (if ib x1 13 = true then (if ¬ ((w 0 18) - (w 0 19)) = ((w 7 (x1 + 1).toNatClampNeg) - (w 7 x1.toNatClampNeg)) then fn8_nameHere_48 x1 0 (fn8_nameHere_2 k nn) w else fn8_nameHere_48 x1 1 (fn8_nameHere_2 k nn) w) else none) else none)))
set_option maxRecDepth 20000 in
theorem bk8_nameHere_2 {M : MX} {G : GX} (C : BC M G shM 19 eM RX8 cX8_nameHere 4 (some .int) rm8_nameHere) {z : Int32 × Mem} {k : Int32 → Mem → Option (Int32 × Mem)} (hk : ∀ (x1 : Int32) (w : Mem), k x1 w = some z → BW M G shM 19 4 (ZR M G shM 19 (some .int) z) 118 [] [] w) : ∀ (nn : Nat) (x1 : Int32) (w : Mem), fn8_nameHere_2 k nn x1 w = some z → BW M G shM 19 4 (ZR M G shM 19 (some .int) z) 2 [(0, .ref (gad G 0)), (1, .int x1)] [] w := by
  intro nn
  induction nn with
  | zero =>
    intro x1 w h
    have h : (none : Option (Int32 × Mem)) = some z := h
    cases h
  | succ nn ih =>
    intro x1 w h
    rw [fn8_nameHere_2] at h
    refine bw_iload_n C 1 dX8_nameHere_2 rfl rfl ?_
    refine bw_bipush C (v := 12) dX8_nameHere_3 (by decide) ?_
    refine bw_icmp_ge C (tgt := 118) dX8_nameHere_5 (by decide) h (fun h => ?_) (fun h => ?_)
    · exact bw_sub [] rfl (hk x1 w h)
    · refine bw_aload_n C 0 dX8_nameHere_8 rfl rfl ?_
      refine bw_geti C (j := 20) lM0 sM0 rfl inlX8 (by decide) rfl flX8_82 dX8_nameHere_9 ?_
      refine bw_iconst C (v := 1) dX8_nameHere_12 (by decide) ?_
      refine bw_icmp_ne C (tgt := 118) dX8_nameHere_13 (by decide) h (fun h => ?_) (fun h => ?_)
      · exact bw_sub [] rfl (hk x1 w h)
      · refine bw_aload_n C 0 dX8_nameHere_16 rfl rfl ?_
        refine bw_geti C (j := 18) lM0 sM0 rfl inlX8 (by decide) rfl flX8_85 dX8_nameHere_17 ?_
        refine bw_aload_n C 0 dX8_nameHere_20 rfl rfl ?_
        refine bw_geti C (j := 19) lM0 sM0 rfl inlX8 (by decide) rfl flX8_76 dX8_nameHere_21 ?_
        refine bw_isub C dX8_nameHere_24 ?_
        refine bw_aload_n C 0 dX8_nameHere_25 rfl rfl ?_
        refine bw_getr C (j := 22) (t := 7) lM0 sM0 rfl inlX8 (by decide) rfl flX8_28 dX8_nameHere_26 ?_
        refine bw_iload_n C 1 dX8_nameHere_29 rfl rfl ?_
        refine bw_iconst C (v := 1) dX8_nameHere_30 (by decide) ?_
        refine bw_iadd C dX8_nameHere_31 ?_
        refine bw_iald C lM7 sM7 dX8_nameHere_32 h (fun h => ?_)
        refine bw_aload_n C 0 dX8_nameHere_33 rfl rfl ?_
        refine bw_getr C (j := 22) (t := 7) lM0 sM0 rfl inlX8 (by decide) rfl flX8_28 dX8_nameHere_34 ?_
        refine bw_iload_n C 1 dX8_nameHere_37 rfl rfl ?_
        refine bw_iald C lM7 sM7 dX8_nameHere_38 h (fun h => ?_)
        refine bw_isub C dX8_nameHere_39 ?_
        refine bw_icmp_ne C (tgt := 47) dX8_nameHere_40 (by decide) h (fun h => ?_) (fun h => ?_)
        · refine bw_iconst C (v := 0) dX8_nameHere_47 (by decide) ?_
          exact bw_sub [0, 1] rfl (bk8_nameHere_48 C x1 0 ih h)
        · refine bw_iconst C (v := 1) dX8_nameHere_43 (by decide) ?_
          refine bw_goto C (tgt := 48) dX8_nameHere_44 (by decide) ?_
          exact bw_sub [0, 1] rfl (bk8_nameHere_48 C x1 1 ih h)
def fn8_nameHere   (w : Mem) : Option (Int32 × Mem) := fn8_nameHere_2 (fun x1_2 w_2 => some ((-4), w_2)) 1000 0 w
set_option maxRecDepth 20000 in
theorem bk8_nameHere {M : MX} {G : GX} (C : BC M G shM 19 eM RX8 cX8_nameHere 4 (some .int) rm8_nameHere) {z : Int32 × Mem}    {w : Mem} (h : fn8_nameHere   w = some z) : BW M G shM 19 4 (ZR M G shM 19 (some .int) z) 0 [(0, .ref (gad G 0))] [] w := by
  rw [fn8_nameHere] at h
  refine bw_iconst C (v := 0) dX8_nameHere_0 (by decide) ?_
  refine bw_istore_n C [(1, .int 0), (0, .ref (gad G 0))] dX8_nameHere_1 rfl (by decide) rfl ?_
  refine bw_sub [1, 0] rfl (bk8_nameHere_2 C (fun x1_2 w_2 h => ?_) 1000 0 w h)
  refine bw_bipush C (v := (-4)) dX8_nameHere_118 (by decide) ?_
  exact bw_iret C dX8_nameHere_120 h
theorem mt8_nameHere {l : Launch} {G : GX}    {w : Mem} {z : Int32 × Mem} (h : fn8_nameHere   w = some z) : MC l G shM 19 eM yX8_nameHere cX8_nameHere 4 (some .int) rm8_nameHere [.ref (gad G 0)] w z := by
  refine met_of (by decide +kernel) (eM_ok _) rfl (Nat.le_of_ble_eq_true rfl) (fun M hM C => ?_)
  subst hM
  exact bk8_nameHere C   h
def rm8_step : Room := { frames := 1, cells := 0, slots := 0, locals := 25 }
def fn8_step_8 (k : Mem → Option (Int32 × Mem)) : Nat → Mem → Option (Int32 × Mem)
  | 0, _ => none
  | nn + 1, w => (fn8_byteAt (w 0 18) w).bind (fun q13 => (if ¬ q13.1 = 32 then k q13.2 else fn8_step_8 k nn (up2 q13.2 0 18 ((q13.2 0 18) + 1))))
set_option maxRecDepth 20000 in
theorem bk8_step_8 {M : MX} {G : GX} (C : BC M G shM 19 eM RX8 cX8_step 2 none rm8_step) {z : Int32 × Mem} {k : Mem → Option (Int32 × Mem)} (hk : ∀ (w : Mem), k w = some z → BW M G shM 19 2 (ZR M G shM 19 none z) 34 [(0, .ref (gad G 0))] [] w) : ∀ (nn : Nat) (w : Mem), fn8_step_8 k nn w = some z → BW M G shM 19 2 (ZR M G shM 19 none z) 8 [(0, .ref (gad G 0))] [] w := by
  intro nn
  induction nn with
  | zero =>
    intro  w h
    have h : (none : Option (Int32 × Mem)) = some z := h
    cases h
  | succ nn ih =>
    intro  w h
    rw [fn8_step_8] at h
    refine bw_aload_n C 0 dX8_step_8 rfl rfl ?_
    refine bw_aload_n C 0 dX8_step_9 rfl rfl ?_
    refine bw_geti C (j := 18) lM0 sM0 rfl inlX8 (by decide) rfl flX8_85 dX8_step_10 ?_
    refine bw_callVi C (As := [.int (w 0 18)]) lM0 sM0 rfl miX8_byteAt mlX8_88 imX8_byteAt seX8_byteAt (by decide) rfl rfl (fun z1 h1 => mt8_byteAt h1) rfl (Nat.le_of_ble_eq_true rfl) rfl dX8_step_13 h (fun q13 _ h => ?_)
    refine bw_bipush C (v := 32) dX8_step_16 (by decide) ?_
    refine bw_icmp_ne C (tgt := 34) dX8_step_18 (by decide) h (fun h => ?_) (fun h => ?_)
    · exact bw_sub [0] rfl (hk q13.2 h)
    · refine bw_aload_n C 0 dX8_step_21 rfl rfl ?_
      refine bw_dup C dX8_step_22 rfl ?_
      refine bw_geti C (j := 18) lM0 sM0 rfl inlX8 (by decide) rfl flX8_85 dX8_step_23 ?_
      refine bw_iconst C (v := 1) dX8_step_26 (by decide) ?_
      refine bw_iadd C dX8_step_27 ?_
      refine bw_puti C (j := 18) (ty := .int) lM0 sM0 rfl inlX8 (by decide) tyX8 tyX8_ok nmX8 rfl flX8_85 rfl (by decide +kernel) rfl rfl dX8_step_28 ?_
      refine bw_goto C (tgt := 8) dX8_step_31 (by decide) ?_
      exact bw_sub [0] rfl (ih (up2 q13.2 0 18 ((q13.2 0 18) + 1)) h)
def fn8_step_201 (t0 : Int32) (kb : Mem → Option (Int32 × Mem)) (w : Mem) : Option (Int32 × Mem) := kb (up2 (up2 w 0 21 t0) 0 18 (((up2 w 0 21 t0) 0 18) + 1))
set_option maxRecDepth 20000 in
theorem bk8_step_201 {M : MX} {G : GX} (C : BC M G shM 19 eM RX8 cX8_step 2 none rm8_step) {z : Int32 × Mem} (t0 : Int32) {kb : Mem → Option (Int32 × Mem)} (hkb : ∀ (w : Mem), kb w = some z → BW M G shM 19 2 (ZR M G shM 19 none z) 140 [(0, .ref (gad G 0))] [] w) {w : Mem} (h : fn8_step_201 t0 kb w = some z) : BW M G shM 19 2 (ZR M G shM 19 none z) 201 [(0, .ref (gad G 0))] [.int t0, .ref (gad G 0)] w := by
  rw [fn8_step_201] at h
  refine bw_puti C (j := 21) (ty := .int) lM0 sM0 rfl inlX8 (by decide) tyX8 tyX8_ok nmX8 rfl flX8_92 rfl (by decide +kernel) rfl rfl dX8_step_201 ?_
  refine bw_aload_n C 0 dX8_step_204 rfl rfl ?_
  refine bw_dup C dX8_step_205 rfl ?_
  refine bw_geti C (j := 18) lM0 sM0 rfl inlX8 (by decide) rfl flX8_85 dX8_step_206 ?_
  refine bw_iconst C (v := 1) dX8_step_209 (by decide) ?_
  refine bw_iadd C dX8_step_210 ?_
  refine bw_puti C (j := 18) (ty := .int) lM0 sM0 rfl inlX8 (by decide) tyX8 tyX8_ok nmX8 rfl flX8_85 rfl (by decide +kernel) rfl rfl dX8_step_211 ?_
  refine bw_goto C (tgt := 140) dX8_step_214 (by decide) ?_
  exact bw_sub [0] rfl (hkb (up2 (up2 w 0 21 t0) 0 18 (((up2 w 0 21 t0) 0 18) + 1)) h)
def fn8_step_140 (k : Mem → Option (Int32 × Mem)) : Nat → Mem → Option (Int32 × Mem)
  | 0, _ => none
  | nn + 1, w => (fn8_byteAt (w 0 18) w).bind (fun q145 => (fn8_in ((q145.1 : Int32).toInt64) 48 57 q145.2).bind (fun q155 => (if q155.1 = 0 then k q155.2 else (if 2 ≤ ((q155.2 0 18) - (q155.2 0 19)) then fn8_step_201 (q155.2 0 21) (fn8_step_140 k nn) q155.2 else (fn8_byteAt (q155.2 0 18) q155.2).bind (fun q187 => fn8_step_201 (((10 * (q155.2 0 21)) + q187.1) - 48) (fn8_step_140 k nn) q187.2)))))
set_option maxRecDepth 20000 in
theorem bk8_step_140 {M : MX} {G : GX} (C : BC M G shM 19 eM RX8 cX8_step 2 none rm8_step) {z : Int32 × Mem} {k : Mem → Option (Int32 × Mem)} (hk : ∀ (w : Mem), k w = some z → BW M G shM 19 2 (ZR M G shM 19 none z) 217 [(0, .ref (gad G 0))] [] w) : ∀ (nn : Nat) (w : Mem), fn8_step_140 k nn w = some z → BW M G shM 19 2 (ZR M G shM 19 none z) 140 [(0, .ref (gad G 0))] [] w := by
  intro nn
  induction nn with
  | zero =>
    intro  w h
    have h : (none : Option (Int32 × Mem)) = some z := h
    cases h
  | succ nn ih =>
    intro  w h
    rw [fn8_step_140] at h
    refine bw_aload_n C 0 dX8_step_140 rfl rfl ?_
    refine bw_aload_n C 0 dX8_step_141 rfl rfl ?_
    refine bw_geti C (j := 18) lM0 sM0 rfl inlX8 (by decide) rfl flX8_85 dX8_step_142 ?_
    refine bw_callVi C (As := [.int (w 0 18)]) lM0 sM0 rfl miX8_byteAt mlX8_88 imX8_byteAt seX8_byteAt (by decide) rfl rfl (fun z1 h1 => mt8_byteAt h1) rfl (Nat.le_of_ble_eq_true rfl) rfl dX8_step_145 h (fun q145 _ h => ?_)
    refine bw_i2l C dX8_step_148 rfl ?_
    refine bw_ldc2 C dX8_step_149 clX8_99 ?_
    refine bw_ldc2 C dX8_step_152 clX8_101 ?_
    refine bw_callSi C (As := [.long ((q145.1 : Int32).toInt64), .long 48, .long 57]) miX8_in mlX8_69 smX8_in (by decide) rfl rfl (fun z1 h1 => mt8_in h1) rfl (Nat.le_of_ble_eq_true rfl) rfl dX8_step_155 h (fun q155 _ h => ?_)
    refine bw_if_eq C (tgt := 217) dX8_step_158 (by decide) h (fun h => ?_) (fun h => ?_)
    · exact bw_sub [0] rfl (hk q155.2 h)
    · refine bw_aload_n C 0 dX8_step_161 rfl rfl ?_
      refine bw_aload_n C 0 dX8_step_162 rfl rfl ?_
      refine bw_geti C (j := 18) lM0 sM0 rfl inlX8 (by decide) rfl flX8_85 dX8_step_163 ?_
      refine bw_aload_n C 0 dX8_step_166 rfl rfl ?_
      refine bw_geti C (j := 19) lM0 sM0 rfl inlX8 (by decide) rfl flX8_76 dX8_step_167 ?_
      refine bw_isub C dX8_step_170 ?_
      refine bw_iconst C (v := 2) dX8_step_171 (by decide) ?_
      refine bw_icmp_ge C (tgt := 197) dX8_step_172 (by decide) h (fun h => ?_) (fun h => ?_)
      · refine bw_aload_n C 0 dX8_step_197 rfl rfl ?_
        refine bw_geti C (j := 21) lM0 sM0 rfl inlX8 (by decide) rfl flX8_92 dX8_step_198 ?_
        exact bw_sub [0] rfl (bk8_step_201 C (q155.2 0 21) ih h)
      · refine bw_bipush C (v := 10) dX8_step_175 (by decide) ?_
        refine bw_aload_n C 0 dX8_step_177 rfl rfl ?_
        refine bw_geti C (j := 21) lM0 sM0 rfl inlX8 (by decide) rfl flX8_92 dX8_step_178 ?_
        refine bw_imul C dX8_step_181 ?_
        refine bw_aload_n C 0 dX8_step_182 rfl rfl ?_
        refine bw_aload_n C 0 dX8_step_183 rfl rfl ?_
        refine bw_geti C (j := 18) lM0 sM0 rfl inlX8 (by decide) rfl flX8_85 dX8_step_184 ?_
        refine bw_callVi C (As := [.int (q155.2 0 18)]) lM0 sM0 rfl miX8_byteAt mlX8_88 imX8_byteAt seX8_byteAt (by decide) rfl rfl (fun z1 h1 => mt8_byteAt h1) rfl (Nat.le_of_ble_eq_true rfl) rfl dX8_step_187 h (fun q187 _ h => ?_)
        refine bw_iadd C dX8_step_190 ?_
        refine bw_bipush C (v := 48) dX8_step_191 (by decide) ?_
        refine bw_isub C dX8_step_193 ?_
        refine bw_goto C (tgt := 201) dX8_step_194 (by decide) ?_
        exact bw_sub [0] rfl (bk8_step_201 C (((10 * (q155.2 0 21)) + q187.1) - 48) ih h)
def fn8_step_84 (k : Mem → Option (Int32 × Mem)) : Nat → Mem → Option (Int32 × Mem)
  | 0, _ => none
  | nn + 1, w => (fn8_byteAt (w 0 18) w).bind (fun q89 => (fn8_in ((q89.1 : Int32).toInt64) 97 122 q89.2).bind (fun q99 => (if q99.1 = 0 then k q99.2 else fn8_step_84 k nn (up2 q99.2 0 18 ((q99.2 0 18) + 1)))))
set_option maxRecDepth 20000 in
theorem bk8_step_84 {M : MX} {G : GX} (C : BC M G shM 19 eM RX8 cX8_step 2 none rm8_step) {z : Int32 × Mem} {k : Mem → Option (Int32 × Mem)} (hk : ∀ (w : Mem), k w = some z → BW M G shM 19 2 (ZR M G shM 19 none z) 118 [(0, .ref (gad G 0))] [] w) : ∀ (nn : Nat) (w : Mem), fn8_step_84 k nn w = some z → BW M G shM 19 2 (ZR M G shM 19 none z) 84 [(0, .ref (gad G 0))] [] w := by
  intro nn
  induction nn with
  | zero =>
    intro  w h
    have h : (none : Option (Int32 × Mem)) = some z := h
    cases h
  | succ nn ih =>
    intro  w h
    rw [fn8_step_84] at h
    refine bw_aload_n C 0 dX8_step_84 rfl rfl ?_
    refine bw_aload_n C 0 dX8_step_85 rfl rfl ?_
    refine bw_geti C (j := 18) lM0 sM0 rfl inlX8 (by decide) rfl flX8_85 dX8_step_86 ?_
    refine bw_callVi C (As := [.int (w 0 18)]) lM0 sM0 rfl miX8_byteAt mlX8_88 imX8_byteAt seX8_byteAt (by decide) rfl rfl (fun z1 h1 => mt8_byteAt h1) rfl (Nat.le_of_ble_eq_true rfl) rfl dX8_step_89 h (fun q89 _ h => ?_)
    refine bw_i2l C dX8_step_92 rfl ?_
    refine bw_ldc2 C dX8_step_93 clX8_95 ?_
    refine bw_ldc2 C dX8_step_96 clX8_97 ?_
    refine bw_callSi C (As := [.long ((q89.1 : Int32).toInt64), .long 97, .long 122]) miX8_in mlX8_69 smX8_in (by decide) rfl rfl (fun z1 h1 => mt8_in h1) rfl (Nat.le_of_ble_eq_true rfl) rfl dX8_step_99 h (fun q99 _ h => ?_)
    refine bw_if_eq C (tgt := 118) dX8_step_102 (by decide) h (fun h => ?_) (fun h => ?_)
    · exact bw_sub [0] rfl (hk q99.2 h)
    · refine bw_aload_n C 0 dX8_step_105 rfl rfl ?_
      refine bw_dup C dX8_step_106 rfl ?_
      refine bw_geti C (j := 18) lM0 sM0 rfl inlX8 (by decide) rfl flX8_85 dX8_step_107 ?_
      refine bw_iconst C (v := 1) dX8_step_110 (by decide) ?_
      refine bw_iadd C dX8_step_111 ?_
      refine bw_puti C (j := 18) (ty := .int) lM0 sM0 rfl inlX8 (by decide) tyX8 tyX8_ok nmX8 rfl flX8_85 rfl (by decide +kernel) rfl rfl dX8_step_112 ?_
      refine bw_goto C (tgt := 84) dX8_step_115 (by decide) ?_
      exact bw_sub [0] rfl (ih (up2 q99.2 0 18 ((q99.2 0 18) + 1)) h)
def fn8_step   (w : Mem) : Option (Int32 × Mem) := (if (w 0 16) ≤ 0 then fn8_step_8 (fun w_8 => (fn8_byteAt ((up2 w_8 0 19 (w_8 0 18)) 0 18) (up2 w_8 0 19 (w_8 0 18))).bind (fun q47 => (if ¬ q47.1 = (-4) then (fn8_in ((q47.1 : Int32).toInt64) 97 122 (up2 q47.2 0 21 0)).bind (fun q78 => (if q78.1 = 0 then (fn8_in ((q47.1 : Int32).toInt64) 48 57 q78.2).bind (fun q134 => (if q134.1 = 0 then (if q47.1 = 59 then some (0, (up2 (up2 q134.2 0 20 3) 0 18 (((up2 q134.2 0 20 3) 0 18) + 1))) else (fn8_fails 1 (up2 (up2 q134.2 0 20 3) 0 18 (((up2 q134.2 0 20 3) 0 18) + 1))).bind (fun q266 => some (0, q266.2))) else fn8_step_140 (fun w_140 => (if (((up2 w_140 0 20 2) 0 18) - ((up2 w_140 0 20 2) 0 19)) ≤ 2 then some (0, (up2 w_140 0 20 2)) else (fn8_fails 1 (up2 w_140 0 20 2)).bind (fun q237 => some (0, q237.2)))) 1000 q134.2)) else fn8_step_84 (fun w_84 => some (0, (up2 w_84 0 20 1))) 1000 q78.2)) else some (0, (up2 (up2 q47.2 0 21 0) 0 20 0))))) 1000 w else some (0, w))
set_option maxRecDepth 20000 in
theorem bk8_step {M : MX} {G : GX} (C : BC M G shM 19 eM RX8 cX8_step 2 none rm8_step) {z : Int32 × Mem}    {w : Mem} (h : fn8_step   w = some z) : BW M G shM 19 2 (ZR M G shM 19 none z) 0 [(0, .ref (gad G 0))] [] w := by
  rw [fn8_step] at h
  refine bw_aload_n C 0 dX8_step_0 rfl rfl ?_
  refine bw_geti C (j := 16) lM0 sM0 rfl inlX8 (by decide) rfl flX8_73 dX8_step_1 ?_
  refine bw_if_le C (tgt := 8) dX8_step_4 (by decide) h (fun h => ?_) (fun h => ?_)
  · refine bw_sub [0] rfl (bk8_step_8 C (fun w_8 h => ?_) 1000 w h)
    refine bw_aload_n C 0 dX8_step_34 rfl rfl ?_
    refine bw_aload_n C 0 dX8_step_35 rfl rfl ?_
    refine bw_geti C (j := 18) lM0 sM0 rfl inlX8 (by decide) rfl flX8_85 dX8_step_36 ?_
    refine bw_puti C (j := 19) (ty := .int) lM0 sM0 rfl inlX8 (by decide) tyX8 tyX8_ok nmX8 rfl flX8_76 rfl (by decide +kernel) rfl rfl dX8_step_39 ?_
    refine bw_aload_n C 0 dX8_step_42 rfl rfl ?_
    refine bw_aload_n C 0 dX8_step_43 rfl rfl ?_
    refine bw_geti C (j := 18) lM0 sM0 rfl inlX8 (by decide) rfl flX8_85 dX8_step_44 ?_
    refine bw_callVi C (As := [.int ((up2 w_8 0 19 (w_8 0 18)) 0 18)]) lM0 sM0 rfl miX8_byteAt mlX8_88 imX8_byteAt seX8_byteAt (by decide) rfl rfl (fun z1 h1 => mt8_byteAt h1) rfl (Nat.le_of_ble_eq_true rfl) rfl dX8_step_47 h (fun q47 _ h => ?_)
    refine bw_istore_n C [(1, .int q47.1), (0, .ref (gad G 0))] dX8_step_50 rfl (by decide) rfl ?_
    refine bw_aload_n C 1 dX8_step_51 rfl rfl ?_
    refine bw_iconst C (v := 0) dX8_step_52 (by decide) ?_
    refine bw_puti C (j := 21) (ty := .int) lM0 sM0 rfl inlX8 (by decide) tyX8 tyX8_ok nmX8 rfl flX8_92 rfl (by decide +kernel) rfl rfl dX8_step_53 ?_
    refine bw_iload_n C 0 dX8_step_56 rfl rfl ?_
    refine bw_bipush C (v := (-4)) dX8_step_57 (by decide) ?_
    refine bw_icmp_ne C (tgt := 70) dX8_step_59 (by decide) h (fun h => ?_) (fun h => ?_)
    · refine bw_iload_n C 0 dX8_step_70 rfl rfl ?_
      refine bw_i2l C dX8_step_71 rfl ?_
      refine bw_ldc2 C dX8_step_72 clX8_95 ?_
      refine bw_ldc2 C dX8_step_75 clX8_97 ?_
      refine bw_callSi C (As := [.long ((q47.1 : Int32).toInt64), .long 97, .long 122]) miX8_in mlX8_69 smX8_in (by decide) rfl rfl (fun z1 h1 => mt8_in h1) rfl (Nat.le_of_ble_eq_true rfl) rfl dX8_step_78 h (fun q78 _ h => ?_)
      refine bw_if_eq C (tgt := 126) dX8_step_81 (by decide) h (fun h => ?_) (fun h => ?_)
      · refine bw_iload_n C 0 dX8_step_126 rfl rfl ?_
        refine bw_i2l C dX8_step_127 rfl ?_
        refine bw_ldc2 C dX8_step_128 clX8_99 ?_
        refine bw_ldc2 C dX8_step_131 clX8_101 ?_
        refine bw_callSi C (As := [.long ((q47.1 : Int32).toInt64), .long 48, .long 57]) miX8_in mlX8_69 smX8_in (by decide) rfl rfl (fun z1 h1 => mt8_in h1) rfl (Nat.le_of_ble_eq_true rfl) rfl dX8_step_134 h (fun q134 _ h => ?_)
        refine bw_if_eq C (tgt := 243) dX8_step_137 (by decide) h (fun h => ?_) (fun h => ?_)
        · refine bw_aload_n C 1 dX8_step_243 rfl rfl ?_
          refine bw_iconst C (v := 3) dX8_step_244 (by decide) ?_
          refine bw_puti C (j := 20) (ty := .int) lM0 sM0 rfl inlX8 (by decide) tyX8 tyX8_ok nmX8 rfl flX8_82 rfl (by decide +kernel) rfl rfl dX8_step_245 ?_
          refine bw_aload_n C 1 dX8_step_248 rfl rfl ?_
          refine bw_dup C dX8_step_249 rfl ?_
          refine bw_geti C (j := 18) lM0 sM0 rfl inlX8 (by decide) rfl flX8_85 dX8_step_250 ?_
          refine bw_iconst C (v := 1) dX8_step_253 (by decide) ?_
          refine bw_iadd C dX8_step_254 ?_
          refine bw_puti C (j := 18) (ty := .int) lM0 sM0 rfl inlX8 (by decide) tyX8 tyX8_ok nmX8 rfl flX8_85 rfl (by decide +kernel) rfl rfl dX8_step_255 ?_
          refine bw_iload_n C 0 dX8_step_258 rfl rfl ?_
          refine bw_bipush C (v := 59) dX8_step_259 (by decide) ?_
          refine bw_icmp_eq C (tgt := 269) dX8_step_261 (by decide) h (fun h => ?_) (fun h => ?_)
          · exact bw_vret C dX8_step_269 h
          · refine bw_aload_n C 1 dX8_step_264 rfl rfl ?_
            refine bw_iconst C (v := 1) dX8_step_265 (by decide) ?_
            refine bw_callVv C (As := [.int 1]) lM0 sM0 rfl miX8_fails mlX8_103 imX8_fails seX8_fails (by decide) rfl rfl (fun z1 h1 => mt8_fails h1) rfl (Nat.le_of_ble_eq_true rfl) rfl dX8_step_266 h (fun q266 _ h => ?_)
            exact bw_vret C dX8_step_269 h
        · refine bw_sub [1] rfl (bk8_step_140 C (fun w_140 h => ?_) 1000 q134.2 h)
          refine bw_aload_n C 0 dX8_step_217 rfl rfl ?_
          refine bw_iconst C (v := 2) dX8_step_218 (by decide) ?_
          refine bw_puti C (j := 20) (ty := .int) lM0 sM0 rfl inlX8 (by decide) tyX8 tyX8_ok nmX8 rfl flX8_82 rfl (by decide +kernel) rfl rfl dX8_step_219 ?_
          refine bw_aload_n C 0 dX8_step_222 rfl rfl ?_
          refine bw_geti C (j := 18) lM0 sM0 rfl inlX8 (by decide) rfl flX8_85 dX8_step_223 ?_
          refine bw_aload_n C 0 dX8_step_226 rfl rfl ?_
          refine bw_geti C (j := 19) lM0 sM0 rfl inlX8 (by decide) rfl flX8_76 dX8_step_227 ?_
          refine bw_isub C dX8_step_230 ?_
          refine bw_iconst C (v := 2) dX8_step_231 (by decide) ?_
          refine bw_icmp_le C (tgt := 269) dX8_step_232 (by decide) h (fun h => ?_) (fun h => ?_)
          · exact bw_vret C dX8_step_269 h
          · refine bw_aload_n C 0 dX8_step_235 rfl rfl ?_
            refine bw_iconst C (v := 1) dX8_step_236 (by decide) ?_
            refine bw_callVv C (As := [.int 1]) lM0 sM0 rfl miX8_fails mlX8_103 imX8_fails seX8_fails (by decide) rfl rfl (fun z1 h1 => mt8_fails h1) rfl (Nat.le_of_ble_eq_true rfl) rfl dX8_step_237 h (fun q237 _ h => ?_)
            refine bw_goto C (tgt := 269) dX8_step_240 (by decide) ?_
            exact bw_vret C dX8_step_269 h
      · refine bw_sub [1] rfl (bk8_step_84 C (fun w_84 h => ?_) 1000 q78.2 h)
        refine bw_aload_n C 0 dX8_step_118 rfl rfl ?_
        refine bw_iconst C (v := 1) dX8_step_119 (by decide) ?_
        refine bw_puti C (j := 20) (ty := .int) lM0 sM0 rfl inlX8 (by decide) tyX8 tyX8_ok nmX8 rfl flX8_82 rfl (by decide +kernel) rfl rfl dX8_step_120 ?_
        refine bw_goto C (tgt := 269) dX8_step_123 (by decide) ?_
        exact bw_vret C dX8_step_269 h
    · refine bw_aload_n C 1 dX8_step_62 rfl rfl ?_
      refine bw_iconst C (v := 0) dX8_step_63 (by decide) ?_
      refine bw_puti C (j := 20) (ty := .int) lM0 sM0 rfl inlX8 (by decide) tyX8 tyX8_ok nmX8 rfl flX8_82 rfl (by decide +kernel) rfl rfl dX8_step_64 ?_
      refine bw_goto C (tgt := 269) dX8_step_67 (by decide) ?_
      exact bw_vret C dX8_step_269 h
  · exact bw_vret C dX8_step_7 h
theorem mt8_step {l : Launch} {G : GX}    {w : Mem} {z : Int32 × Mem} (h : fn8_step   w = some z) : MC l G shM 19 eM yX8_step cX8_step 2 none rm8_step [.ref (gad G 0)] w z := by
  refine met_of (by decide +kernel) (eM_ok _) rfl (Nat.le_of_ble_eq_true rfl) (fun M hM C => ?_)
  subst hM
  exact bk8_step C   h
def rm8_other : Room := { frames := 2, cells := 0, slots := 0, locals := 46 }
def fn8_other_95 (t0 : Int32) (w : Mem) : Option (Int32 × Mem) := (fn8_step w).bind (fun q98 => some (t0, q98.2))
set_option maxRecDepth 20000 in
theorem bk8_other_95 {M : MX} {G : GX} (C : BC M G shM 19 eM RX8 cX8_other 5 (some .int) rm8_other) {z : Int32 × Mem} (t0 : Int32) {w : Mem} (h : fn8_other_95 t0 w = some z) : BW M G shM 19 5 (ZR M G shM 19 (some .int) z) 95 [(0, .ref (gad G 0))] [.int t0] w := by
  rw [fn8_other_95] at h
  refine bw_istore C [(4, .int t0), (0, .ref (gad G 0))] dX8_other_95 (by decide) rfl ?_
  refine bw_aload_n C 1 dX8_other_97 rfl rfl ?_
  refine bw_callVv C (As := []) lM0 sM0 rfl miX8_step mlX8_107 imX8_step seX8_step (by decide) rfl rfl (fun z1 h1 => mt8_step h1) rfl (Nat.le_of_ble_eq_true rfl) rfl dX8_other_98 h (fun q98 _ h => ?_)
  refine bw_iload C 0 dX8_other_101 rfl ?_
  exact bw_iret C dX8_other_103 h
def fn8_other_80 (x1 : Int32) (w : Mem) : Option (Int32 × Mem) := (if ¬ (w 0 16) = 0 then fn8_other_95 x1 w else fn8_other_95 (w 0 21) w)
set_option maxRecDepth 20000 in
theorem bk8_other_80 {M : MX} {G : GX} (C : BC M G shM 19 eM RX8 cX8_other 5 (some .int) rm8_other) {z : Int32 × Mem} (x1 : Int32) {w : Mem} (h : fn8_other_80 x1 w = some z) : BW M G shM 19 5 (ZR M G shM 19 (some .int) z) 80 [(0, .ref (gad G 0)), (1, .int x1)] [] w := by
  rw [fn8_other_80] at h
  refine bw_aload_n C 0 dX8_other_80 rfl rfl ?_
  refine bw_geti C (j := 16) lM0 sM0 rfl inlX8 (by decide) rfl flX8_73 dX8_other_81 ?_
  refine bw_if_ne C (tgt := 94) dX8_other_84 (by decide) h (fun h => ?_) (fun h => ?_)
  · refine bw_iload_n C 1 dX8_other_94 rfl rfl ?_
    exact bw_sub [0] rfl (bk8_other_95 C x1 h)
  · refine bw_aload_n C 0 dX8_other_87 rfl rfl ?_
    refine bw_geti C (j := 21) lM0 sM0 rfl inlX8 (by decide) rfl flX8_92 dX8_other_88 ?_
    refine bw_goto C (tgt := 95) dX8_other_91 (by decide) ?_
    exact bw_sub [0] rfl (bk8_other_95 C (w 0 21) h)
def fn8_other_47 (x1 : Int32) (x3 : Int32) (w : Mem) : Option (Int32 × Mem) := (if ¬ (w 0 16) = 0 then fn8_other_80 x1 w else (if 31 ≤ (w 0 21) then fn8_other_80 x1 w else (if ¬ ((x3 >>> ((w 0 21) &&& 31)) &&& 1) = 1 then fn8_other_80 x1 w else (fn8_fails 4 w).bind (fun q77 => fn8_other_80 x1 q77.2))))
set_option maxRecDepth 20000 in
theorem bk8_other_47 {M : MX} {G : GX} (C : BC M G shM 19 eM RX8 cX8_other 5 (some .int) rm8_other) {z : Int32 × Mem} (x1 : Int32) (x3 : Int32) {w : Mem} (h : fn8_other_47 x1 x3 w = some z) : BW M G shM 19 5 (ZR M G shM 19 (some .int) z) 47 [(0, .ref (gad G 0)), (1, .int x1), (3, .int x3)] [] w := by
  rw [fn8_other_47] at h
  refine bw_aload_n C 0 dX8_other_47 rfl rfl ?_
  refine bw_geti C (j := 16) lM0 sM0 rfl inlX8 (by decide) rfl flX8_73 dX8_other_48 ?_
  refine bw_if_ne C (tgt := 80) dX8_other_51 (by decide) h (fun h => ?_) (fun h => ?_)
  · exact bw_sub [0, 1] rfl (bk8_other_80 C x1 h)
  · refine bw_aload_n C 0 dX8_other_54 rfl rfl ?_
    refine bw_geti C (j := 21) lM0 sM0 rfl inlX8 (by decide) rfl flX8_92 dX8_other_55 ?_
    refine bw_bipush C (v := 31) dX8_other_58 (by decide) ?_
    refine bw_icmp_ge C (tgt := 80) dX8_other_60 (by decide) h (fun h => ?_) (fun h => ?_)
    · exact bw_sub [0, 1] rfl (bk8_other_80 C x1 h)
    · refine bw_iload_n C 2 dX8_other_63 rfl rfl ?_
      refine bw_aload_n C 0 dX8_other_64 rfl rfl ?_
      refine bw_geti C (j := 21) lM0 sM0 rfl inlX8 (by decide) rfl flX8_92 dX8_other_65 ?_
      refine bw_ishr C dX8_other_68 ?_
      refine bw_iconst C (v := 1) dX8_other_69 (by decide) ?_
      refine bw_iand C dX8_other_70 ?_
      refine bw_iconst C (v := 1) dX8_other_71 (by decide) ?_
      refine bw_icmp_ne C (tgt := 80) dX8_other_72 (by decide) h (fun h => ?_) (fun h => ?_)
      · exact bw_sub [0, 1] rfl (bk8_other_80 C x1 h)
      · refine bw_aload_n C 0 dX8_other_75 rfl rfl ?_
        refine bw_iconst C (v := 4) dX8_other_76 (by decide) ?_
        refine bw_callVv C (As := [.int 4]) lM0 sM0 rfl miX8_fails mlX8_103 imX8_fails seX8_fails (by decide) rfl rfl (fun z1 h1 => mt8_fails h1) rfl (Nat.le_of_ble_eq_true rfl) rfl dX8_other_77 h (fun q77 _ h => ?_)
        exact bw_sub [0, 1] rfl (bk8_other_80 C x1 h)
def fn8_other_20 (x1 : Int32) (x2 : Int32) (x3 : Int32) (w : Mem) : Option (Int32 × Mem) := (if ¬ (w 0 16) = 0 then fn8_other_47 x1 x3 w else (fn8_in (((w 0 21) : Int32).toInt64) ((x1 : Int32).toInt64) ((x2 : Int32).toInt64) w).bind (fun q36 => (if ¬ q36.1 = 0 then fn8_other_47 x1 x3 q36.2 else (fn8_fails 3 q36.2).bind (fun q44 => fn8_other_47 x1 x3 q44.2))))
set_option maxRecDepth 20000 in
theorem bk8_other_20 {M : MX} {G : GX} (C : BC M G shM 19 eM RX8 cX8_other 5 (some .int) rm8_other) {z : Int32 × Mem} (x1 : Int32) (x2 : Int32) (x3 : Int32) {w : Mem} (h : fn8_other_20 x1 x2 x3 w = some z) : BW M G shM 19 5 (ZR M G shM 19 (some .int) z) 20 [(0, .ref (gad G 0)), (1, .int x1), (2, .int x2), (3, .int x3)] [] w := by
  rw [fn8_other_20] at h
  refine bw_aload_n C 0 dX8_other_20 rfl rfl ?_
  refine bw_geti C (j := 16) lM0 sM0 rfl inlX8 (by decide) rfl flX8_73 dX8_other_21 ?_
  refine bw_if_ne C (tgt := 47) dX8_other_24 (by decide) h (fun h => ?_) (fun h => ?_)
  · exact bw_sub [0, 1, 3] rfl (bk8_other_47 C x1 x3 h)
  · refine bw_aload_n C 0 dX8_other_27 rfl rfl ?_
    refine bw_geti C (j := 21) lM0 sM0 rfl inlX8 (by decide) rfl flX8_92 dX8_other_28 ?_
    refine bw_i2l C dX8_other_31 rfl ?_
    refine bw_iload_n C 1 dX8_other_32 rfl rfl ?_
    refine bw_i2l C dX8_other_33 rfl ?_
    refine bw_iload_n C 2 dX8_other_34 rfl rfl ?_
    refine bw_i2l C dX8_other_35 rfl ?_
    refine bw_callSi C (As := [.long (((w 0 21) : Int32).toInt64), .long ((x1 : Int32).toInt64), .long ((x2 : Int32).toInt64)]) miX8_in mlX8_69 smX8_in (by decide) rfl rfl (fun z1 h1 => mt8_in h1) rfl (Nat.le_of_ble_eq_true rfl) rfl dX8_other_36 h (fun q36 _ h => ?_)
    refine bw_if_ne C (tgt := 47) dX8_other_39 (by decide) h (fun h => ?_) (fun h => ?_)
    · exact bw_sub [0, 1, 3] rfl (bk8_other_47 C x1 x3 h)
    · refine bw_aload_n C 0 dX8_other_42 rfl rfl ?_
      refine bw_iconst C (v := 3) dX8_other_43 (by decide) ?_
      refine bw_callVv C (As := [.int 3]) lM0 sM0 rfl miX8_fails mlX8_103 imX8_fails seX8_fails (by decide) rfl rfl (fun z1 h1 => mt8_fails h1) rfl (Nat.le_of_ble_eq_true rfl) rfl dX8_other_44 h (fun q44 _ h => ?_)
      exact bw_sub [0, 1, 3] rfl (bk8_other_47 C x1 x3 h)
def fn8_other  (x1 : Int32) (x2 : Int32) (x3 : Int32) (w : Mem) : Option (Int32 × Mem) := (if ¬ (w 0 16) = 0 then fn8_other_20 x1 x2 x3 w else (if (w 0 20) = 2 then fn8_other_20 x1 x2 x3 w else (fn8_fails 2 w).bind (fun q17 => fn8_other_20 x1 x2 x3 q17.2)))
set_option maxRecDepth 20000 in
theorem bk8_other {M : MX} {G : GX} (C : BC M G shM 19 eM RX8 cX8_other 5 (some .int) rm8_other) {z : Int32 × Mem}   (x1 : Int32) (x2 : Int32) (x3 : Int32) {w : Mem} (h : fn8_other  x1 x2 x3 w = some z) : BW M G shM 19 5 (ZR M G shM 19 (some .int) z) 0 [(0, .ref (gad G 0)), (1, .int x1), (2, .int x2), (3, .int x3)] [] w := by
  rw [fn8_other] at h
  refine bw_aload_n C 0 dX8_other_0 rfl rfl ?_
  refine bw_geti C (j := 16) lM0 sM0 rfl inlX8 (by decide) rfl flX8_73 dX8_other_1 ?_
  refine bw_if_ne C (tgt := 20) dX8_other_4 (by decide) h (fun h => ?_) (fun h => ?_)
  · exact bw_sub [0, 1, 2, 3] rfl (bk8_other_20 C x1 x2 x3 h)
  · refine bw_aload_n C 0 dX8_other_7 rfl rfl ?_
    refine bw_geti C (j := 20) lM0 sM0 rfl inlX8 (by decide) rfl flX8_82 dX8_other_8 ?_
    refine bw_iconst C (v := 2) dX8_other_11 (by decide) ?_
    refine bw_icmp_eq C (tgt := 20) dX8_other_12 (by decide) h (fun h => ?_) (fun h => ?_)
    · exact bw_sub [0, 1, 2, 3] rfl (bk8_other_20 C x1 x2 x3 h)
    · refine bw_aload_n C 0 dX8_other_15 rfl rfl ?_
      refine bw_iconst C (v := 2) dX8_other_16 (by decide) ?_
      refine bw_callVv C (As := [.int 2]) lM0 sM0 rfl miX8_fails mlX8_103 imX8_fails seX8_fails (by decide) rfl rfl (fun z1 h1 => mt8_fails h1) rfl (Nat.le_of_ble_eq_true rfl) rfl dX8_other_17 h (fun q17 _ h => ?_)
      exact bw_sub [0, 1, 2, 3] rfl (bk8_other_20 C x1 x2 x3 h)
theorem mt8_other {l : Launch} {G : GX}   {x1 : Int32} {x2 : Int32} {x3 : Int32} {w : Mem} {z : Int32 × Mem} (h : fn8_other  x1 x2 x3 w = some z) : MC l G shM 19 eM yX8_other cX8_other 5 (some .int) rm8_other [.ref (gad G 0), .int x1, .int x2, .int x3] w z := by
  refine met_of (by decide +kernel) (eM_ok _) rfl (Nat.le_of_ble_eq_true rfl) (fun M hM C => ?_)
  subst hM
  exact bk8_other C  x1 x2 x3 h
def rm8_oneOf : Room := { frames := 3, cells := 0, slots := 0, locals := 70 }
def fn8_oneOf  (x1 : Int32) (w : Mem) : Option (Int32 × Mem) := (fn8_other 0 5 x1 w).bind (fun q4 => (if q4.1 ≤ (q4.2 0 10) then some (q4.1, (up2 q4.2 0 10 (q4.2 0 10))) else some (q4.1, (up2 q4.2 0 10 q4.1))))
set_option maxRecDepth 20000 in
theorem bk8_oneOf {M : MX} {G : GX} (C : BC M G shM 19 eM RX8 cX8_oneOf 3 (some .int) rm8_oneOf) {z : Int32 × Mem}   (x1 : Int32) {w : Mem} (h : fn8_oneOf  x1 w = some z) : BW M G shM 19 3 (ZR M G shM 19 (some .int) z) 0 [(0, .ref (gad G 0)), (1, .int x1)] [] w := by
  rw [fn8_oneOf] at h
  refine bw_aload_n C 0 dX8_oneOf_0 rfl rfl ?_
  refine bw_iconst C (v := 0) dX8_oneOf_1 (by decide) ?_
  refine bw_iconst C (v := 5) dX8_oneOf_2 (by decide) ?_
  refine bw_iload_n C 1 dX8_oneOf_3 rfl rfl ?_
  refine bw_callVi C (As := [.int 0, .int 5, .int x1]) lM0 sM0 rfl miX8_other mlX8_110 imX8_other seX8_other (by decide) rfl rfl (fun z1 h1 => mt8_other h1) rfl (Nat.le_of_ble_eq_true rfl) rfl dX8_oneOf_4 h (fun q4 _ h => ?_)
  refine bw_istore_n C [(2, .int q4.1), (0, .ref (gad G 0)), (1, .int x1)] dX8_oneOf_7 rfl (by decide) rfl ?_
  refine bw_aload_n C 1 dX8_oneOf_8 rfl rfl ?_
  refine bw_iload_n C 0 dX8_oneOf_9 rfl rfl ?_
  refine bw_aload_n C 1 dX8_oneOf_10 rfl rfl ?_
  refine bw_geti C (j := 10) lM0 sM0 rfl inlX8 (by decide) rfl flX8_114 dX8_oneOf_11 ?_
  refine bw_icmp_le C (tgt := 21) dX8_oneOf_14 (by decide) h (fun h => ?_) (fun h => ?_)
  · refine bw_aload_n C 1 dX8_oneOf_21 rfl rfl ?_
    refine bw_geti C (j := 10) lM0 sM0 rfl inlX8 (by decide) rfl flX8_114 dX8_oneOf_22 ?_
    refine bw_puti C (j := 10) (ty := .int) lM0 sM0 rfl inlX8 (by decide) tyX8 tyX8_ok nmX8 rfl flX8_114 rfl (by decide +kernel) rfl rfl dX8_oneOf_25 ?_
    refine bw_iload_n C 0 dX8_oneOf_28 rfl rfl ?_
    exact bw_iret C dX8_oneOf_29 h
  · refine bw_iload_n C 0 dX8_oneOf_17 rfl rfl ?_
    refine bw_goto C (tgt := 25) dX8_oneOf_18 (by decide) ?_
    refine bw_puti C (j := 10) (ty := .int) lM0 sM0 rfl inlX8 (by decide) tyX8 tyX8_ok nmX8 rfl flX8_114 rfl (by decide +kernel) rfl rfl dX8_oneOf_25 ?_
    refine bw_iload_n C 0 dX8_oneOf_28 rfl rfl ?_
    exact bw_iret C dX8_oneOf_29 h
theorem mt8_oneOf {l : Launch} {G : GX}   {x1 : Int32} {w : Mem} {z : Int32 × Mem} (h : fn8_oneOf  x1 w = some z) : MC l G shM 19 eM yX8_oneOf cX8_oneOf 3 (some .int) rm8_oneOf [.ref (gad G 0), .int x1] w z := by
  refine met_of (by decide +kernel) (eM_ok _) rfl (Nat.le_of_ble_eq_true rfl) (fun M hM C => ?_)
  subst hM
  exact bk8_oneOf C  x1 h
def rm8_readOne : Room := { frames := 3, cells := 0, slots := 0, locals := 70 }
def fn8_readOne   (w : Mem) : Option (Int32 × Mem) := (fn8_nameHere w).bind (fun q1 => (if 0 ≤ (q1.1 - 7) then (fn8_step q1.2).bind (fun q19 => (if ib (3 * (q19.2 0 6)) 18 = true then (fn8_other 0 9 0 (up2 q19.2 4 (3 * (q19.2 0 6)).toNatClampNeg (q1.1 - 7))).bind (fun q48 => (if ib ((3 * (q19.2 0 6)) + 1) 18 = true then (fn8_other 0 50 0 (up2 q48.2 4 ((3 * (q19.2 0 6)) + 1).toNatClampNeg q48.1)).bind (fun q64 => (if ib ((3 * (q19.2 0 6)) + 2) 18 = true then some (0, (up2 (up2 q64.2 4 ((3 * (q19.2 0 6)) + 2).toNatClampNeg q64.1) 0 6 (((up2 q64.2 4 ((3 * (q19.2 0 6)) + 2).toNatClampNeg q64.1) 0 6) + 1))) else none)) else none)) else none)) else (fn8_fails 2 q1.2).bind (fun q14 => some (0, q14.2))))
set_option maxRecDepth 20000 in
theorem bk8_readOne {M : MX} {G : GX} (C : BC M G shM 19 eM RX8 cX8_readOne 3 none rm8_readOne) {z : Int32 × Mem}    {w : Mem} (h : fn8_readOne   w = some z) : BW M G shM 19 3 (ZR M G shM 19 none z) 0 [(0, .ref (gad G 0))] [] w := by
  rw [fn8_readOne] at h
  refine bw_aload_n C 0 dX8_readOne_0 rfl rfl ?_
  refine bw_callVi C (As := []) lM0 sM0 rfl miX8_nameHere mlX8_117 imX8_nameHere seX8_nameHere (by decide) rfl rfl (fun z1 h1 => mt8_nameHere h1) rfl (Nat.le_of_ble_eq_true rfl) rfl dX8_readOne_1 h (fun q1 _ h => ?_)
  refine bw_bipush C (v := 7) dX8_readOne_4 (by decide) ?_
  refine bw_isub C dX8_readOne_6 ?_
  refine bw_istore_n C [(1, .int (q1.1 - 7)), (0, .ref (gad G 0))] dX8_readOne_7 rfl (by decide) rfl ?_
  refine bw_iload_n C 0 dX8_readOne_8 rfl rfl ?_
  refine bw_if_ge C (tgt := 18) dX8_readOne_9 (by decide) h (fun h => ?_) (fun h => ?_)
  · refine bw_aload_n C 1 dX8_readOne_18 rfl rfl ?_
    refine bw_callVv C (As := []) lM0 sM0 rfl miX8_step mlX8_107 imX8_step seX8_step (by decide) rfl rfl (fun z1 h1 => mt8_step h1) rfl (Nat.le_of_ble_eq_true rfl) rfl dX8_readOne_19 h (fun q19 _ h => ?_)
    refine bw_iconst C (v := 3) dX8_readOne_22 (by decide) ?_
    refine bw_aload_n C 1 dX8_readOne_23 rfl rfl ?_
    refine bw_geti C (j := 6) lM0 sM0 rfl inlX8 (by decide) rfl flX8_121 dX8_readOne_24 ?_
    refine bw_imul C dX8_readOne_27 ?_
    refine bw_istore_n C [(2, .int (3 * (q19.2 0 6))), (1, .int (q1.1 - 7)), (0, .ref (gad G 0))] dX8_readOne_28 rfl (by decide) rfl ?_
    refine bw_aload_n C 2 dX8_readOne_29 rfl rfl ?_
    refine bw_getr C (j := 5) (t := 4) lM0 sM0 rfl inlX8 (by decide) rfl flX8_19 dX8_readOne_30 ?_
    refine bw_iload_n C 0 dX8_readOne_33 rfl rfl ?_
    refine bw_iload_n C 1 dX8_readOne_34 rfl rfl ?_
    refine bw_iast C lM4 sM4 dX8_readOne_35 h (fun h => ?_)
    refine bw_aload_n C 2 dX8_readOne_36 rfl rfl ?_
    refine bw_getr C (j := 5) (t := 4) lM0 sM0 rfl inlX8 (by decide) rfl flX8_19 dX8_readOne_37 ?_
    refine bw_iload_n C 0 dX8_readOne_40 rfl rfl ?_
    refine bw_iconst C (v := 1) dX8_readOne_41 (by decide) ?_
    refine bw_iadd C dX8_readOne_42 ?_
    refine bw_aload_n C 2 dX8_readOne_43 rfl rfl ?_
    refine bw_iconst C (v := 0) dX8_readOne_44 (by decide) ?_
    refine bw_bipush C (v := 9) dX8_readOne_45 (by decide) ?_
    refine bw_iconst C (v := 0) dX8_readOne_47 (by decide) ?_
    refine bw_callVi C (As := [.int 0, .int 9, .int 0]) lM0 sM0 rfl miX8_other mlX8_110 imX8_other seX8_other (by decide) rfl rfl (fun z1 h1 => mt8_other h1) rfl (Nat.le_of_ble_eq_true rfl) rfl dX8_readOne_48 h (fun q48 _ h => ?_)
    refine bw_iast C lM4 sM4 dX8_readOne_51 h (fun h => ?_)
    refine bw_aload_n C 2 dX8_readOne_52 rfl rfl ?_
    refine bw_getr C (j := 5) (t := 4) lM0 sM0 rfl inlX8 (by decide) rfl flX8_19 dX8_readOne_53 ?_
    refine bw_iload_n C 0 dX8_readOne_56 rfl rfl ?_
    refine bw_iconst C (v := 2) dX8_readOne_57 (by decide) ?_
    refine bw_iadd C dX8_readOne_58 ?_
    refine bw_aload_n C 2 dX8_readOne_59 rfl rfl ?_
    refine bw_iconst C (v := 0) dX8_readOne_60 (by decide) ?_
    refine bw_bipush C (v := 50) dX8_readOne_61 (by decide) ?_
    refine bw_iconst C (v := 0) dX8_readOne_63 (by decide) ?_
    refine bw_callVi C (As := [.int 0, .int 50, .int 0]) lM0 sM0 rfl miX8_other mlX8_110 imX8_other seX8_other (by decide) rfl rfl (fun z1 h1 => mt8_other h1) rfl (Nat.le_of_ble_eq_true rfl) rfl dX8_readOne_64 h (fun q64 _ h => ?_)
    refine bw_iast C lM4 sM4 dX8_readOne_67 h (fun h => ?_)
    refine bw_aload_n C 2 dX8_readOne_68 rfl rfl ?_
    refine bw_dup C dX8_readOne_69 rfl ?_
    refine bw_geti C (j := 6) lM0 sM0 rfl inlX8 (by decide) rfl flX8_121 dX8_readOne_70 ?_
    refine bw_iconst C (v := 1) dX8_readOne_73 (by decide) ?_
    refine bw_iadd C dX8_readOne_74 ?_
    refine bw_puti C (j := 6) (ty := .int) lM0 sM0 rfl inlX8 (by decide) tyX8 tyX8_ok nmX8 rfl flX8_121 rfl (by decide +kernel) rfl rfl dX8_readOne_75 ?_
    exact bw_vret C dX8_readOne_78 h
  · refine bw_aload_n C 1 dX8_readOne_12 rfl rfl ?_
    refine bw_iconst C (v := 2) dX8_readOne_13 (by decide) ?_
    refine bw_callVv C (As := [.int 2]) lM0 sM0 rfl miX8_fails mlX8_103 imX8_fails seX8_fails (by decide) rfl rfl (fun z1 h1 => mt8_fails h1) rfl (Nat.le_of_ble_eq_true rfl) rfl dX8_readOne_14 h (fun q14 _ h => ?_)
    exact bw_vret C dX8_readOne_17 h
theorem mt8_readOne {l : Launch} {G : GX}    {w : Mem} {z : Int32 × Mem} (h : fn8_readOne   w = some z) : MC l G shM 19 eM yX8_readOne cX8_readOne 3 none rm8_readOne [.ref (gad G 0)] w z := by
  refine met_of (by decide +kernel) (eM_ok _) rfl (Nat.le_of_ble_eq_true rfl) (fun M hM C => ?_)
  subst hM
  exact bk8_readOne C   h
def rm8_readCoin : Room := { frames := 4, cells := 0, slots := 0, locals := 92 }
def fn8_readCoin_75 (w : Mem) : Option (Int32 × Mem) := some (0, (up2 w 0 7 ((w 0 7) + 1)))
set_option maxRecDepth 20000 in
theorem bk8_readCoin_75 {M : MX} {G : GX} (C : BC M G shM 19 eM RX8 cX8_readCoin 2 none rm8_readCoin) {z : Int32 × Mem} {w : Mem} (h : fn8_readCoin_75 w = some z) : BW M G shM 19 2 (ZR M G shM 19 none z) 75 [(0, .ref (gad G 0))] [] w := by
  rw [fn8_readCoin_75] at h
  refine bw_aload_n C 0 dX8_readCoin_75 rfl rfl ?_
  refine bw_dup C dX8_readCoin_76 rfl ?_
  refine bw_geti C (j := 7) lM0 sM0 rfl inlX8 (by decide) rfl flX8_124 dX8_readCoin_77 ?_
  refine bw_iconst C (v := 1) dX8_readCoin_80 (by decide) ?_
  refine bw_iadd C dX8_readCoin_81 ?_
  refine bw_puti C (j := 7) (ty := .int) lM0 sM0 rfl inlX8 (by decide) tyX8 tyX8_ok nmX8 rfl flX8_124 rfl (by decide +kernel) rfl rfl dX8_readCoin_82 ?_
  exact bw_vret C dX8_readCoin_85 h
def fn8_readCoin_62 (x1 : Int32) (w : Mem) : Option (Int32 × Mem) := (if ib (x1 + 2) 57 = true then (fn8_step (up2 w 3 (x1 + 2).toNatClampNeg 1)).bind (fun q72 => fn8_readCoin_75 q72.2) else none)
set_option maxRecDepth 20000 in
theorem bk8_readCoin_62 {M : MX} {G : GX} (C : BC M G shM 19 eM RX8 cX8_readCoin 2 none rm8_readCoin) {z : Int32 × Mem} (x1 : Int32) {w : Mem} (h : fn8_readCoin_62 x1 w = some z) : BW M G shM 19 2 (ZR M G shM 19 none z) 62 [(0, .ref (gad G 0)), (1, .int x1)] [] w := by
  rw [fn8_readCoin_62] at h
  refine bw_aload_n C 0 dX8_readCoin_62 rfl rfl ?_
  refine bw_getr C (j := 4) (t := 3) lM0 sM0 rfl inlX8 (by decide) rfl flX8_16 dX8_readCoin_63 ?_
  refine bw_iload_n C 1 dX8_readCoin_66 rfl rfl ?_
  refine bw_iconst C (v := 2) dX8_readCoin_67 (by decide) ?_
  refine bw_iadd C dX8_readCoin_68 ?_
  refine bw_iconst C (v := 1) dX8_readCoin_69 (by decide) ?_
  refine bw_iast C lM3 sM3 dX8_readCoin_70 h (fun h => ?_)
  refine bw_aload_n C 0 dX8_readCoin_71 rfl rfl ?_
  refine bw_callVv C (As := []) lM0 sM0 rfl miX8_step mlX8_107 imX8_step seX8_step (by decide) rfl rfl (fun z1 h1 => mt8_step h1) rfl (Nat.le_of_ble_eq_true rfl) rfl dX8_readCoin_72 h (fun q72 _ h => ?_)
  exact bw_sub [0] rfl (bk8_readCoin_75 C h)
def fn8_readCoin   (w : Mem) : Option (Int32 × Mem) := (fn8_other 1 3 0 w).bind (fun q16 => (if ib (4 * (w 0 7)) 57 = true then (fn8_oneOf 0 (up2 q16.2 3 (4 * (w 0 7)).toNatClampNeg q16.1)).bind (fun q29 => (if ib ((4 * (w 0 7)) + 1) 57 = true then (if ¬ ((up2 q29.2 3 ((4 * (w 0 7)) + 1).toNatClampNeg q29.1) 0 16) = 0 then fn8_readCoin_75 (up2 q29.2 3 ((4 * (w 0 7)) + 1).toNatClampNeg q29.1) else (if ¬ ((up2 q29.2 3 ((4 * (w 0 7)) + 1).toNatClampNeg q29.1) 0 20) = 1 then fn8_readCoin_75 (up2 q29.2 3 ((4 * (w 0 7)) + 1).toNatClampNeg q29.1) else (fn8_nameHere (up2 q29.2 3 ((4 * (w 0 7)) + 1).toNatClampNeg q29.1)).bind (fun q49 => (if q49.1 = 6 then fn8_readCoin_62 (4 * (w 0 7)) q49.2 else (fn8_fails 2 q49.2).bind (fun q59 => fn8_readCoin_62 (4 * (w 0 7)) q59.2))))) else none)) else none))
set_option maxRecDepth 20000 in
theorem bk8_readCoin {M : MX} {G : GX} (C : BC M G shM 19 eM RX8 cX8_readCoin 2 none rm8_readCoin) {z : Int32 × Mem}    {w : Mem} (h : fn8_readCoin   w = some z) : BW M G shM 19 2 (ZR M G shM 19 none z) 0 [(0, .ref (gad G 0))] [] w := by
  rw [fn8_readCoin] at h
  refine bw_iconst C (v := 4) dX8_readCoin_0 (by decide) ?_
  refine bw_aload_n C 0 dX8_readCoin_1 rfl rfl ?_
  refine bw_geti C (j := 7) lM0 sM0 rfl inlX8 (by decide) rfl flX8_124 dX8_readCoin_2 ?_
  refine bw_imul C dX8_readCoin_5 ?_
  refine bw_istore_n C [(1, .int (4 * (w 0 7))), (0, .ref (gad G 0))] dX8_readCoin_6 rfl (by decide) rfl ?_
  refine bw_aload_n C 1 dX8_readCoin_7 rfl rfl ?_
  refine bw_getr C (j := 4) (t := 3) lM0 sM0 rfl inlX8 (by decide) rfl flX8_16 dX8_readCoin_8 ?_
  refine bw_iload_n C 0 dX8_readCoin_11 rfl rfl ?_
  refine bw_aload_n C 1 dX8_readCoin_12 rfl rfl ?_
  refine bw_iconst C (v := 1) dX8_readCoin_13 (by decide) ?_
  refine bw_iconst C (v := 3) dX8_readCoin_14 (by decide) ?_
  refine bw_iconst C (v := 0) dX8_readCoin_15 (by decide) ?_
  refine bw_callVi C (As := [.int 1, .int 3, .int 0]) lM0 sM0 rfl miX8_other mlX8_110 imX8_other seX8_other (by decide) rfl rfl (fun z1 h1 => mt8_other h1) rfl (Nat.le_of_ble_eq_true rfl) rfl dX8_readCoin_16 h (fun q16 _ h => ?_)
  refine bw_iast C lM3 sM3 dX8_readCoin_19 h (fun h => ?_)
  refine bw_aload_n C 1 dX8_readCoin_20 rfl rfl ?_
  refine bw_getr C (j := 4) (t := 3) lM0 sM0 rfl inlX8 (by decide) rfl flX8_16 dX8_readCoin_21 ?_
  refine bw_iload_n C 0 dX8_readCoin_24 rfl rfl ?_
  refine bw_iconst C (v := 1) dX8_readCoin_25 (by decide) ?_
  refine bw_iadd C dX8_readCoin_26 ?_
  refine bw_aload_n C 1 dX8_readCoin_27 rfl rfl ?_
  refine bw_iconst C (v := 0) dX8_readCoin_28 (by decide) ?_
  refine bw_callVi C (As := [.int 0]) lM0 sM0 rfl miX8_oneOf mlX8_127 imX8_oneOf seX8_oneOf (by decide) rfl rfl (fun z1 h1 => mt8_oneOf h1) rfl (Nat.le_of_ble_eq_true rfl) rfl dX8_readCoin_29 h (fun q29 _ h => ?_)
  refine bw_iast C lM3 sM3 dX8_readCoin_32 h (fun h => ?_)
  refine bw_aload_n C 1 dX8_readCoin_33 rfl rfl ?_
  refine bw_geti C (j := 16) lM0 sM0 rfl inlX8 (by decide) rfl flX8_73 dX8_readCoin_34 ?_
  refine bw_if_ne C (tgt := 75) dX8_readCoin_37 (by decide) h (fun h => ?_) (fun h => ?_)
  · exact bw_sub [1] rfl (bk8_readCoin_75 C h)
  · refine bw_aload_n C 1 dX8_readCoin_40 rfl rfl ?_
    refine bw_geti C (j := 20) lM0 sM0 rfl inlX8 (by decide) rfl flX8_82 dX8_readCoin_41 ?_
    refine bw_iconst C (v := 1) dX8_readCoin_44 (by decide) ?_
    refine bw_icmp_ne C (tgt := 75) dX8_readCoin_45 (by decide) h (fun h => ?_) (fun h => ?_)
    · exact bw_sub [1] rfl (bk8_readCoin_75 C h)
    · refine bw_aload_n C 1 dX8_readCoin_48 rfl rfl ?_
      refine bw_callVi C (As := []) lM0 sM0 rfl miX8_nameHere mlX8_117 imX8_nameHere seX8_nameHere (by decide) rfl rfl (fun z1 h1 => mt8_nameHere h1) rfl (Nat.le_of_ble_eq_true rfl) rfl dX8_readCoin_49 h (fun q49 _ h => ?_)
      refine bw_bipush C (v := 6) dX8_readCoin_52 (by decide) ?_
      refine bw_icmp_eq C (tgt := 62) dX8_readCoin_54 (by decide) h (fun h => ?_) (fun h => ?_)
      · exact bw_sub [1, 0] rfl (bk8_readCoin_62 C (4 * (w 0 7)) h)
      · refine bw_aload_n C 1 dX8_readCoin_57 rfl rfl ?_
        refine bw_iconst C (v := 2) dX8_readCoin_58 (by decide) ?_
        refine bw_callVv C (As := [.int 2]) lM0 sM0 rfl miX8_fails mlX8_103 imX8_fails seX8_fails (by decide) rfl rfl (fun z1 h1 => mt8_fails h1) rfl (Nat.le_of_ble_eq_true rfl) rfl dX8_readCoin_59 h (fun q59 _ h => ?_)
        exact bw_sub [1, 0] rfl (bk8_readCoin_62 C (4 * (w 0 7)) h)
theorem mt8_readCoin {l : Launch} {G : GX}    {w : Mem} {z : Int32 × Mem} (h : fn8_readCoin   w = some z) : MC l G shM 19 eM yX8_readCoin cX8_readCoin 2 none rm8_readCoin [.ref (gad G 0)] w z := by
  refine met_of (by decide +kernel) (eM_ok _) rfl (Nat.le_of_ble_eq_true rfl) (fun M hM C => ?_)
  subst hM
  exact bk8_readCoin C   h
def rm8_readTalk : Room := { frames := 4, cells := 0, slots := 0, locals := 92 }
def fn8_readTalk   (w : Mem) : Option (Int32 × Mem) := (if ib 54 57 = true then (fn8_other 0 11 0 w).bind (fun q23 => (if ib (24 + (3 * (w 3 (54 : Int32).toNatClampNeg))) 57 = true then (fn8_oneOf 0 (up2 q23.2 3 (24 + (3 * (w 3 (54 : Int32).toNatClampNeg))).toNatClampNeg q23.1)).bind (fun q36 => (if ib ((24 + (3 * (w 3 (54 : Int32).toNatClampNeg))) + 1) 57 = true then (if ib ((24 + (3 * (w 3 (54 : Int32).toNatClampNeg))) + 1) 57 = true then (fn8_oneOf ((1 : Int32) <<< (((up2 q36.2 3 ((24 + (3 * (w 3 (54 : Int32).toNatClampNeg))) + 1).toNatClampNeg q36.1) 3 ((24 + (3 * (w 3 (54 : Int32).toNatClampNeg))) + 1).toNatClampNeg) &&& 31)) (up2 q36.2 3 ((24 + (3 * (w 3 (54 : Int32).toNatClampNeg))) + 1).toNatClampNeg q36.1)).bind (fun q58 => (if ib ((24 + (3 * (w 3 (54 : Int32).toNatClampNeg))) + 2) 57 = true then (if ib 54 57 = true then (if ib 54 57 = true then some (0, (up2 (up2 q58.2 3 ((24 + (3 * (w 3 (54 : Int32).toNatClampNeg))) + 2).toNatClampNeg q58.1) 3 (54 : Int32).toNatClampNeg (((up2 q58.2 3 ((24 + (3 * (w 3 (54 : Int32).toNatClampNeg))) + 2).toNatClampNeg q58.1) 3 (54 : Int32).toNatClampNeg) + 1))) else none) else none) else none)) else none) else none)) else none)) else none)
set_option maxRecDepth 20000 in
theorem bk8_readTalk {M : MX} {G : GX} (C : BC M G shM 19 eM RX8 cX8_readTalk 2 none rm8_readTalk) {z : Int32 × Mem}    {w : Mem} (h : fn8_readTalk   w = some z) : BW M G shM 19 2 (ZR M G shM 19 none z) 0 [(0, .ref (gad G 0))] [] w := by
  rw [fn8_readTalk] at h
  refine bw_bipush C (v := 24) dX8_readTalk_0 (by decide) ?_
  refine bw_iconst C (v := 3) dX8_readTalk_2 (by decide) ?_
  refine bw_aload_n C 0 dX8_readTalk_3 rfl rfl ?_
  refine bw_getr C (j := 4) (t := 3) lM0 sM0 rfl inlX8 (by decide) rfl flX8_16 dX8_readTalk_4 ?_
  refine bw_bipush C (v := 54) dX8_readTalk_7 (by decide) ?_
  refine bw_iald C lM3 sM3 dX8_readTalk_9 h (fun h => ?_)
  refine bw_imul C dX8_readTalk_10 ?_
  refine bw_iadd C dX8_readTalk_11 ?_
  refine bw_istore_n C [(1, .int (24 + (3 * (w 3 (54 : Int32).toNatClampNeg)))), (0, .ref (gad G 0))] dX8_readTalk_12 rfl (by decide) rfl ?_
  refine bw_aload_n C 1 dX8_readTalk_13 rfl rfl ?_
  refine bw_getr C (j := 4) (t := 3) lM0 sM0 rfl inlX8 (by decide) rfl flX8_16 dX8_readTalk_14 ?_
  refine bw_iload_n C 0 dX8_readTalk_17 rfl rfl ?_
  refine bw_aload_n C 1 dX8_readTalk_18 rfl rfl ?_
  refine bw_iconst C (v := 0) dX8_readTalk_19 (by decide) ?_
  refine bw_bipush C (v := 11) dX8_readTalk_20 (by decide) ?_
  refine bw_iconst C (v := 0) dX8_readTalk_22 (by decide) ?_
  refine bw_callVi C (As := [.int 0, .int 11, .int 0]) lM0 sM0 rfl miX8_other mlX8_110 imX8_other seX8_other (by decide) rfl rfl (fun z1 h1 => mt8_other h1) rfl (Nat.le_of_ble_eq_true rfl) rfl dX8_readTalk_23 h (fun q23 _ h => ?_)
  refine bw_iast C lM3 sM3 dX8_readTalk_26 h (fun h => ?_)
  refine bw_aload_n C 1 dX8_readTalk_27 rfl rfl ?_
  refine bw_getr C (j := 4) (t := 3) lM0 sM0 rfl inlX8 (by decide) rfl flX8_16 dX8_readTalk_28 ?_
  refine bw_iload_n C 0 dX8_readTalk_31 rfl rfl ?_
  refine bw_iconst C (v := 1) dX8_readTalk_32 (by decide) ?_
  refine bw_iadd C dX8_readTalk_33 ?_
  refine bw_aload_n C 1 dX8_readTalk_34 rfl rfl ?_
  refine bw_iconst C (v := 0) dX8_readTalk_35 (by decide) ?_
  refine bw_callVi C (As := [.int 0]) lM0 sM0 rfl miX8_oneOf mlX8_127 imX8_oneOf seX8_oneOf (by decide) rfl rfl (fun z1 h1 => mt8_oneOf h1) rfl (Nat.le_of_ble_eq_true rfl) rfl dX8_readTalk_36 h (fun q36 _ h => ?_)
  refine bw_iast C lM3 sM3 dX8_readTalk_39 h (fun h => ?_)
  refine bw_aload_n C 1 dX8_readTalk_40 rfl rfl ?_
  refine bw_getr C (j := 4) (t := 3) lM0 sM0 rfl inlX8 (by decide) rfl flX8_16 dX8_readTalk_41 ?_
  refine bw_iload_n C 0 dX8_readTalk_44 rfl rfl ?_
  refine bw_iconst C (v := 2) dX8_readTalk_45 (by decide) ?_
  refine bw_iadd C dX8_readTalk_46 ?_
  refine bw_aload_n C 1 dX8_readTalk_47 rfl rfl ?_
  refine bw_iconst C (v := 1) dX8_readTalk_48 (by decide) ?_
  refine bw_aload_n C 1 dX8_readTalk_49 rfl rfl ?_
  refine bw_getr C (j := 4) (t := 3) lM0 sM0 rfl inlX8 (by decide) rfl flX8_16 dX8_readTalk_50 ?_
  refine bw_iload_n C 0 dX8_readTalk_53 rfl rfl ?_
  refine bw_iconst C (v := 1) dX8_readTalk_54 (by decide) ?_
  refine bw_iadd C dX8_readTalk_55 ?_
  refine bw_iald C lM3 sM3 dX8_readTalk_56 h (fun h => ?_)
  refine bw_ishl C dX8_readTalk_57 ?_
  refine bw_callVi C (As := [.int ((1 : Int32) <<< (((up2 q36.2 3 ((24 + (3 * (w 3 (54 : Int32).toNatClampNeg))) + 1).toNatClampNeg q36.1) 3 ((24 + (3 * (w 3 (54 : Int32).toNatClampNeg))) + 1).toNatClampNeg) &&& 31))]) lM0 sM0 rfl miX8_oneOf mlX8_127 imX8_oneOf seX8_oneOf (by decide) rfl rfl (fun z1 h1 => mt8_oneOf h1) rfl (Nat.le_of_ble_eq_true rfl) rfl dX8_readTalk_58 h (fun q58 _ h => ?_)
  refine bw_iast C lM3 sM3 dX8_readTalk_61 h (fun h => ?_)
  refine bw_aload_n C 1 dX8_readTalk_62 rfl rfl ?_
  refine bw_getr C (j := 4) (t := 3) lM0 sM0 rfl inlX8 (by decide) rfl flX8_16 dX8_readTalk_63 ?_
  refine bw_bipush C (v := 54) dX8_readTalk_66 (by decide) ?_
  refine bw_dup2 C dX8_readTalk_68 rfl rfl ?_
  refine bw_iald C lM3 sM3 dX8_readTalk_69 h (fun h => ?_)
  refine bw_iconst C (v := 1) dX8_readTalk_70 (by decide) ?_
  refine bw_iadd C dX8_readTalk_71 ?_
  refine bw_iast C lM3 sM3 dX8_readTalk_72 h (fun h => ?_)
  exact bw_vret C dX8_readTalk_73 h
theorem mt8_readTalk {l : Launch} {G : GX}    {w : Mem} {z : Int32 × Mem} (h : fn8_readTalk   w = some z) : MC l G shM 19 eM yX8_readTalk cX8_readTalk 2 none rm8_readTalk [.ref (gad G 0)] w z := by
  refine met_of (by decide +kernel) (eM_ok _) rfl (Nat.le_of_ble_eq_true rfl) (fun M hM C => ?_)
  subst hM
  exact bk8_readTalk C   h
def rm8_hasRoom : Room := { frames := 2, cells := 0, slots := 0, locals := 46 }
def fn8_hasRoom_86 (x1 : Int32) (w : Mem) : Option (Int32 × Mem) := (fn8_step (up2 w 0 8 ((w 0 8) ||| ((1 : Int32) <<< (x1 &&& 31))))).bind (fun q99 => (if ¬ (q99.2 0 16) = 0 then some (0, q99.2) else some (1, q99.2)))
set_option maxRecDepth 20000 in
theorem bk8_hasRoom_86 {M : MX} {G : GX} (C : BC M G shM 19 eM RX8 cX8_hasRoom 3 (some .boolean) rm8_hasRoom) {z : Int32 × Mem} (x1 : Int32) {w : Mem} (h : fn8_hasRoom_86 x1 w = some z) : BW M G shM 19 3 (ZR M G shM 19 (some .boolean) z) 86 [(0, .ref (gad G 0)), (1, .int x1)] [] w := by
  rw [fn8_hasRoom_86] at h
  refine bw_aload_n C 0 dX8_hasRoom_86 rfl rfl ?_
  refine bw_dup C dX8_hasRoom_87 rfl ?_
  refine bw_geti C (j := 8) lM0 sM0 rfl inlX8 (by decide) rfl flX8_130 dX8_hasRoom_88 ?_
  refine bw_iconst C (v := 1) dX8_hasRoom_91 (by decide) ?_
  refine bw_iload_n C 1 dX8_hasRoom_92 rfl rfl ?_
  refine bw_ishl C dX8_hasRoom_93 ?_
  refine bw_ior C dX8_hasRoom_94 ?_
  refine bw_puti C (j := 8) (ty := .int) lM0 sM0 rfl inlX8 (by decide) tyX8 tyX8_ok nmX8 rfl flX8_130 rfl (by decide +kernel) rfl rfl dX8_hasRoom_95 ?_
  refine bw_aload_n C 0 dX8_hasRoom_98 rfl rfl ?_
  refine bw_callVv C (As := []) lM0 sM0 rfl miX8_step mlX8_107 imX8_step seX8_step (by decide) rfl rfl (fun z1 h1 => mt8_step h1) rfl (Nat.le_of_ble_eq_true rfl) rfl dX8_hasRoom_99 h (fun q99 _ h => ?_)
  refine bw_aload_n C 0 dX8_hasRoom_102 rfl rfl ?_
  refine bw_geti C (j := 16) lM0 sM0 rfl inlX8 (by decide) rfl flX8_73 dX8_hasRoom_103 ?_
  refine bw_if_ne C (tgt := 113) dX8_hasRoom_106 (by decide) h (fun h => ?_) (fun h => ?_)
  · refine bw_iconst C (v := 0) dX8_hasRoom_113 (by decide) ?_
    exact bw_zretc C dX8_hasRoom_114 rfl h
  · refine bw_iconst C (v := 1) dX8_hasRoom_109 (by decide) ?_
    refine bw_goto C (tgt := 114) dX8_hasRoom_110 (by decide) ?_
    exact bw_zretc C dX8_hasRoom_114 rfl h
def fn8_hasRoom_69 (x1 : Int32) (w : Mem) : Option (Int32 × Mem) := (if ¬ (((w 0 8) >>> (x1 &&& 31)) &&& 1) = 1 then fn8_hasRoom_86 x1 w else (fn8_fails 4 w).bind (fun q83 => fn8_hasRoom_86 x1 q83.2))
set_option maxRecDepth 20000 in
theorem bk8_hasRoom_69 {M : MX} {G : GX} (C : BC M G shM 19 eM RX8 cX8_hasRoom 3 (some .boolean) rm8_hasRoom) {z : Int32 × Mem} (x1 : Int32) {w : Mem} (h : fn8_hasRoom_69 x1 w = some z) : BW M G shM 19 3 (ZR M G shM 19 (some .boolean) z) 69 [(0, .ref (gad G 0)), (1, .int x1)] [] w := by
  rw [fn8_hasRoom_69] at h
  refine bw_aload_n C 0 dX8_hasRoom_69 rfl rfl ?_
  refine bw_geti C (j := 8) lM0 sM0 rfl inlX8 (by decide) rfl flX8_130 dX8_hasRoom_70 ?_
  refine bw_iload_n C 1 dX8_hasRoom_73 rfl rfl ?_
  refine bw_ishr C dX8_hasRoom_74 ?_
  refine bw_iconst C (v := 1) dX8_hasRoom_75 (by decide) ?_
  refine bw_iand C dX8_hasRoom_76 ?_
  refine bw_iconst C (v := 1) dX8_hasRoom_77 (by decide) ?_
  refine bw_icmp_ne C (tgt := 86) dX8_hasRoom_78 (by decide) h (fun h => ?_) (fun h => ?_)
  · exact bw_sub [0, 1] rfl (bk8_hasRoom_86 C x1 h)
  · refine bw_aload_n C 0 dX8_hasRoom_81 rfl rfl ?_
    refine bw_iconst C (v := 4) dX8_hasRoom_82 (by decide) ?_
    refine bw_callVv C (As := [.int 4]) lM0 sM0 rfl miX8_fails mlX8_103 imX8_fails seX8_fails (by decide) rfl rfl (fun z1 h1 => mt8_fails h1) rfl (Nat.le_of_ble_eq_true rfl) rfl dX8_hasRoom_83 h (fun q83 _ h => ?_)
    exact bw_sub [0, 1] rfl (bk8_hasRoom_86 C x1 h)
def fn8_hasRoom_60 (x1 : Int32) (w : Mem) : Option (Int32 × Mem) := (if x1 = 0 then fn8_hasRoom_69 x1 w else (if ¬ x1 = 1 then fn8_hasRoom_86 x1 w else fn8_hasRoom_69 x1 w))
set_option maxRecDepth 20000 in
theorem bk8_hasRoom_60 {M : MX} {G : GX} (C : BC M G shM 19 eM RX8 cX8_hasRoom 3 (some .boolean) rm8_hasRoom) {z : Int32 × Mem} (x1 : Int32) {w : Mem} (h : fn8_hasRoom_60 x1 w = some z) : BW M G shM 19 3 (ZR M G shM 19 (some .boolean) z) 60 [(0, .ref (gad G 0)), (1, .int x1)] [] w := by
  rw [fn8_hasRoom_60] at h
  refine bw_iload_n C 1 dX8_hasRoom_60 rfl rfl ?_
  refine bw_if_eq C (tgt := 69) dX8_hasRoom_61 (by decide) h (fun h => ?_) (fun h => ?_)
  · exact bw_sub [0, 1] rfl (bk8_hasRoom_69 C x1 h)
  · refine bw_iload_n C 1 dX8_hasRoom_64 rfl rfl ?_
    refine bw_iconst C (v := 1) dX8_hasRoom_65 (by decide) ?_
    refine bw_icmp_ne C (tgt := 86) dX8_hasRoom_66 (by decide) h (fun h => ?_) (fun h => ?_)
    · exact bw_sub [0, 1] rfl (bk8_hasRoom_86 C x1 h)
    · exact bw_sub [0, 1] rfl (bk8_hasRoom_69 C x1 h)
def fn8_hasRoom_50 (x1 : Int32) (t0 : Int32) (w : Mem) : Option (Int32 × Mem) := (if t0 = 0 then fn8_hasRoom_60 x1 w else (fn8_fails 5 w).bind (fun q57 => fn8_hasRoom_60 x1 q57.2))
set_option maxRecDepth 20000 in
theorem bk8_hasRoom_50 {M : MX} {G : GX} (C : BC M G shM 19 eM RX8 cX8_hasRoom 3 (some .boolean) rm8_hasRoom) {z : Int32 × Mem} (x1 : Int32) (t0 : Int32) {w : Mem} (h : fn8_hasRoom_50 x1 t0 w = some z) : BW M G shM 19 3 (ZR M G shM 19 (some .boolean) z) 50 [(0, .ref (gad G 0)), (1, .int x1)] [.int t0] w := by
  rw [fn8_hasRoom_50] at h
  refine bw_istore_n C [(2, .int t0), (0, .ref (gad G 0)), (1, .int x1)] dX8_hasRoom_50 rfl (by decide) rfl ?_
  refine bw_iload_n C 0 dX8_hasRoom_51 rfl rfl ?_
  refine bw_if_eq C (tgt := 60) dX8_hasRoom_52 (by decide) h (fun h => ?_) (fun h => ?_)
  · exact bw_sub [1, 2] rfl (bk8_hasRoom_60 C x1 h)
  · refine bw_aload_n C 1 dX8_hasRoom_55 rfl rfl ?_
    refine bw_iconst C (v := 5) dX8_hasRoom_56 (by decide) ?_
    refine bw_callVv C (As := [.int 5]) lM0 sM0 rfl miX8_fails mlX8_103 imX8_fails seX8_fails (by decide) rfl rfl (fun z1 h1 => mt8_fails h1) rfl (Nat.le_of_ble_eq_true rfl) rfl dX8_hasRoom_57 h (fun q57 _ h => ?_)
    exact bw_sub [1, 2] rfl (bk8_hasRoom_60 C x1 h)
def fn8_hasRoom_49 (x1 : Int32) (w : Mem) : Option (Int32 × Mem) := fn8_hasRoom_50 x1 0 w
set_option maxRecDepth 20000 in
theorem bk8_hasRoom_49 {M : MX} {G : GX} (C : BC M G shM 19 eM RX8 cX8_hasRoom 3 (some .boolean) rm8_hasRoom) {z : Int32 × Mem} (x1 : Int32) {w : Mem} (h : fn8_hasRoom_49 x1 w = some z) : BW M G shM 19 3 (ZR M G shM 19 (some .boolean) z) 49 [(0, .ref (gad G 0)), (1, .int x1)] [] w := by
  rw [fn8_hasRoom_49] at h
  refine bw_iconst C (v := 0) dX8_hasRoom_49 (by decide) ?_
  exact bw_sub [0, 1] rfl (bk8_hasRoom_50 C x1 0 h)
def fn8_hasRoom_45 (x1 : Int32) (w : Mem) : Option (Int32 × Mem) := fn8_hasRoom_50 x1 1 w
set_option maxRecDepth 20000 in
theorem bk8_hasRoom_45 {M : MX} {G : GX} (C : BC M G shM 19 eM RX8 cX8_hasRoom 3 (some .boolean) rm8_hasRoom) {z : Int32 × Mem} (x1 : Int32) {w : Mem} (h : fn8_hasRoom_45 x1 w = some z) : BW M G shM 19 3 (ZR M G shM 19 (some .boolean) z) 45 [(0, .ref (gad G 0)), (1, .int x1)] [] w := by
  rw [fn8_hasRoom_45] at h
  refine bw_iconst C (v := 1) dX8_hasRoom_45 (by decide) ?_
  refine bw_goto C (tgt := 50) dX8_hasRoom_46 (by decide) ?_
  exact bw_sub [0, 1] rfl (bk8_hasRoom_50 C x1 1 h)
def fn8_hasRoom_28 (x1 : Int32) (w : Mem) : Option (Int32 × Mem) := (if ¬ x1 = 5 then fn8_hasRoom_49 x1 w else (if ib 54 57 = true then (if ¬ (w 3 (54 : Int32).toNatClampNeg) = 10 then fn8_hasRoom_49 x1 w else fn8_hasRoom_45 x1 w) else none))
set_option maxRecDepth 20000 in
theorem bk8_hasRoom_28 {M : MX} {G : GX} (C : BC M G shM 19 eM RX8 cX8_hasRoom 3 (some .boolean) rm8_hasRoom) {z : Int32 × Mem} (x1 : Int32) {w : Mem} (h : fn8_hasRoom_28 x1 w = some z) : BW M G shM 19 3 (ZR M G shM 19 (some .boolean) z) 28 [(0, .ref (gad G 0)), (1, .int x1)] [] w := by
  rw [fn8_hasRoom_28] at h
  refine bw_iload_n C 1 dX8_hasRoom_28 rfl rfl ?_
  refine bw_iconst C (v := 5) dX8_hasRoom_29 (by decide) ?_
  refine bw_icmp_ne C (tgt := 49) dX8_hasRoom_30 (by decide) h (fun h => ?_) (fun h => ?_)
  · exact bw_sub [0, 1] rfl (bk8_hasRoom_49 C x1 h)
  · refine bw_aload_n C 0 dX8_hasRoom_33 rfl rfl ?_
    refine bw_getr C (j := 4) (t := 3) lM0 sM0 rfl inlX8 (by decide) rfl flX8_16 dX8_hasRoom_34 ?_
    refine bw_bipush C (v := 54) dX8_hasRoom_37 (by decide) ?_
    refine bw_iald C lM3 sM3 dX8_hasRoom_39 h (fun h => ?_)
    refine bw_bipush C (v := 10) dX8_hasRoom_40 (by decide) ?_
    refine bw_icmp_ne C (tgt := 49) dX8_hasRoom_42 (by decide) h (fun h => ?_) (fun h => ?_)
    · exact bw_sub [0, 1] rfl (bk8_hasRoom_49 C x1 h)
    · exact bw_sub [0, 1] rfl (bk8_hasRoom_45 C x1 h)
def fn8_hasRoom_14 (x1 : Int32) (w : Mem) : Option (Int32 × Mem) := (if ¬ x1 = 3 then fn8_hasRoom_28 x1 w else (if (w 0 7) = 6 then fn8_hasRoom_45 x1 w else fn8_hasRoom_28 x1 w))
set_option maxRecDepth 20000 in
theorem bk8_hasRoom_14 {M : MX} {G : GX} (C : BC M G shM 19 eM RX8 cX8_hasRoom 3 (some .boolean) rm8_hasRoom) {z : Int32 × Mem} (x1 : Int32) {w : Mem} (h : fn8_hasRoom_14 x1 w = some z) : BW M G shM 19 3 (ZR M G shM 19 (some .boolean) z) 14 [(0, .ref (gad G 0)), (1, .int x1)] [] w := by
  rw [fn8_hasRoom_14] at h
  refine bw_iload_n C 1 dX8_hasRoom_14 rfl rfl ?_
  refine bw_iconst C (v := 3) dX8_hasRoom_15 (by decide) ?_
  refine bw_icmp_ne C (tgt := 28) dX8_hasRoom_16 (by decide) h (fun h => ?_) (fun h => ?_)
  · exact bw_sub [0, 1] rfl (bk8_hasRoom_28 C x1 h)
  · refine bw_aload_n C 0 dX8_hasRoom_19 rfl rfl ?_
    refine bw_geti C (j := 7) lM0 sM0 rfl inlX8 (by decide) rfl flX8_124 dX8_hasRoom_20 ?_
    refine bw_bipush C (v := 6) dX8_hasRoom_23 (by decide) ?_
    refine bw_icmp_eq C (tgt := 45) dX8_hasRoom_25 (by decide) h (fun h => ?_) (fun h => ?_)
    · exact bw_sub [0, 1] rfl (bk8_hasRoom_45 C x1 h)
    · exact bw_sub [0, 1] rfl (bk8_hasRoom_28 C x1 h)
def fn8_hasRoom  (x1 : Int32) (w : Mem) : Option (Int32 × Mem) := (if ¬ x1 = 2 then fn8_hasRoom_14 x1 w else (if (w 0 6) = 6 then fn8_hasRoom_45 x1 w else fn8_hasRoom_14 x1 w))
set_option maxRecDepth 20000 in
theorem bk8_hasRoom {M : MX} {G : GX} (C : BC M G shM 19 eM RX8 cX8_hasRoom 3 (some .boolean) rm8_hasRoom) {z : Int32 × Mem}   (x1 : Int32) {w : Mem} (h : fn8_hasRoom  x1 w = some z) : BW M G shM 19 3 (ZR M G shM 19 (some .boolean) z) 0 [(0, .ref (gad G 0)), (1, .int x1)] [] w := by
  rw [fn8_hasRoom] at h
  refine bw_iload_n C 1 dX8_hasRoom_0 rfl rfl ?_
  refine bw_iconst C (v := 2) dX8_hasRoom_1 (by decide) ?_
  refine bw_icmp_ne C (tgt := 14) dX8_hasRoom_2 (by decide) h (fun h => ?_) (fun h => ?_)
  · exact bw_sub [0, 1] rfl (bk8_hasRoom_14 C x1 h)
  · refine bw_aload_n C 0 dX8_hasRoom_5 rfl rfl ?_
    refine bw_geti C (j := 6) lM0 sM0 rfl inlX8 (by decide) rfl flX8_121 dX8_hasRoom_6 ?_
    refine bw_bipush C (v := 6) dX8_hasRoom_9 (by decide) ?_
    refine bw_icmp_eq C (tgt := 45) dX8_hasRoom_11 (by decide) h (fun h => ?_) (fun h => ?_)
    · exact bw_sub [0, 1] rfl (bk8_hasRoom_45 C x1 h)
    · exact bw_sub [0, 1] rfl (bk8_hasRoom_14 C x1 h)
theorem mt8_hasRoom {l : Launch} {G : GX}   {x1 : Int32} {w : Mem} {z : Int32 × Mem} (h : fn8_hasRoom  x1 w = some z) : MC l G shM 19 eM yX8_hasRoom cX8_hasRoom 3 (some .boolean) rm8_hasRoom [.ref (gad G 0), .int x1] w z := by
  refine met_of (by decide +kernel) (eM_ok _) rfl (Nat.le_of_ble_eq_true rfl) (fun M hM C => ?_)
  subst hM
  exact bk8_hasRoom C  x1 h
def rm8_readMore : Room := { frames := 3, cells := 0, slots := 0, locals := 70 }
def fn8_readMore_86 (x2 : Int32) (t0 : Int32) (w : Mem) : Option (Int32 × Mem) := (fn8_other 0 11 0 (up2 w 0 11 t0)).bind (fun q100 => (if ib x2 6 = true then some (0, (up2 q100.2 5 x2.toNatClampNeg (1 + q100.1))) else none))
set_option maxRecDepth 20000 in
theorem bk8_readMore_86 {M : MX} {G : GX} (C : BC M G shM 19 eM RX8 cX8_readMore 3 none rm8_readMore) {z : Int32 × Mem} (x2 : Int32) (t0 : Int32) {w : Mem} (h : fn8_readMore_86 x2 t0 w = some z) : BW M G shM 19 3 (ZR M G shM 19 none z) 86 [(0, .ref (gad G 0)), (2, .int x2)] [.int t0, .ref (gad G 0)] w := by
  rw [fn8_readMore_86] at h
  refine bw_puti C (j := 11) (ty := .int) lM0 sM0 rfl inlX8 (by decide) tyX8 tyX8_ok nmX8 rfl flX8_136 rfl (by decide +kernel) rfl rfl dX8_readMore_86 ?_
  refine bw_aload_n C 0 dX8_readMore_89 rfl rfl ?_
  refine bw_getr C (j := 12) (t := 5) lM0 sM0 rfl inlX8 (by decide) rfl flX8_22 dX8_readMore_90 ?_
  refine bw_iload_n C 1 dX8_readMore_93 rfl rfl ?_
  refine bw_iconst C (v := 1) dX8_readMore_94 (by decide) ?_
  refine bw_aload_n C 0 dX8_readMore_95 rfl rfl ?_
  refine bw_iconst C (v := 0) dX8_readMore_96 (by decide) ?_
  refine bw_bipush C (v := 11) dX8_readMore_97 (by decide) ?_
  refine bw_iconst C (v := 0) dX8_readMore_99 (by decide) ?_
  refine bw_callVi C (As := [.int 0, .int 11, .int 0]) lM0 sM0 rfl miX8_other mlX8_110 imX8_other seX8_other (by decide) rfl rfl (fun z1 h1 => mt8_other h1) rfl (Nat.le_of_ble_eq_true rfl) rfl dX8_readMore_100 h (fun q100 _ h => ?_)
  refine bw_iadd C dX8_readMore_103 ?_
  refine bw_iast C lM5 sM5 dX8_readMore_104 h (fun h => ?_)
  exact bw_vret C dX8_readMore_105 h
def fn8_readMore  (x1 : Int32) (w : Mem) : Option (Int32 × Mem) := (if ¬ x1 = 0 then (if ¬ x1 = 1 then (fn8_other 0 5 (w 0 9) w).bind (fun q53 => (if q53.1 ≤ ((up2 q53.2 0 9 ((q53.2 0 9) ||| ((1 : Int32) <<< (q53.1 &&& 31)))) 0 11) then fn8_readMore_86 q53.1 ((up2 q53.2 0 9 ((q53.2 0 9) ||| ((1 : Int32) <<< (q53.1 &&& 31)))) 0 11) (up2 q53.2 0 9 ((q53.2 0 9) ||| ((1 : Int32) <<< (q53.1 &&& 31)))) else fn8_readMore_86 q53.1 q53.1 (up2 q53.2 0 9 ((q53.2 0 9) ||| ((1 : Int32) <<< (q53.1 &&& 31)))))) else (fn8_other 0 9 0 w).bind (fun q37 => (if ib 56 57 = true then some (0, (up2 q37.2 3 (56 : Int32).toNatClampNeg (q37.1 - 1))) else none))) else (fn8_other 0 2 0 w).bind (fun q14 => (if ib 55 57 = true then some (0, (up2 q14.2 3 (55 : Int32).toNatClampNeg q14.1)) else none)))
set_option maxRecDepth 20000 in
theorem bk8_readMore {M : MX} {G : GX} (C : BC M G shM 19 eM RX8 cX8_readMore 3 none rm8_readMore) {z : Int32 × Mem}   (x1 : Int32) {w : Mem} (h : fn8_readMore  x1 w = some z) : BW M G shM 19 3 (ZR M G shM 19 none z) 0 [(0, .ref (gad G 0)), (1, .int x1)] [] w := by
  rw [fn8_readMore] at h
  refine bw_iload_n C 1 dX8_readMore_0 rfl rfl ?_
  refine bw_if_ne C (tgt := 21) dX8_readMore_1 (by decide) h (fun h => ?_) (fun h => ?_)
  · refine bw_iload_n C 1 dX8_readMore_21 rfl rfl ?_
    refine bw_iconst C (v := 1) dX8_readMore_22 (by decide) ?_
    refine bw_icmp_ne C (tgt := 46) dX8_readMore_23 (by decide) h (fun h => ?_) (fun h => ?_)
    · refine bw_aload_n C 0 dX8_readMore_46 rfl rfl ?_
      refine bw_iconst C (v := 0) dX8_readMore_47 (by decide) ?_
      refine bw_iconst C (v := 5) dX8_readMore_48 (by decide) ?_
      refine bw_aload_n C 0 dX8_readMore_49 rfl rfl ?_
      refine bw_geti C (j := 9) lM0 sM0 rfl inlX8 (by decide) rfl flX8_133 dX8_readMore_50 ?_
      refine bw_callVi C (As := [.int 0, .int 5, .int (w 0 9)]) lM0 sM0 rfl miX8_other mlX8_110 imX8_other seX8_other (by decide) rfl rfl (fun z1 h1 => mt8_other h1) rfl (Nat.le_of_ble_eq_true rfl) rfl dX8_readMore_53 h (fun q53 _ h => ?_)
      refine bw_istore_n C [(2, .int q53.1), (0, .ref (gad G 0)), (1, .int x1)] dX8_readMore_56 rfl (by decide) rfl ?_
      refine bw_aload_n C 1 dX8_readMore_57 rfl rfl ?_
      refine bw_dup C dX8_readMore_58 rfl ?_
      refine bw_geti C (j := 9) lM0 sM0 rfl inlX8 (by decide) rfl flX8_133 dX8_readMore_59 ?_
      refine bw_iconst C (v := 1) dX8_readMore_62 (by decide) ?_
      refine bw_iload_n C 0 dX8_readMore_63 rfl rfl ?_
      refine bw_ishl C dX8_readMore_64 ?_
      refine bw_ior C dX8_readMore_65 ?_
      refine bw_puti C (j := 9) (ty := .int) lM0 sM0 rfl inlX8 (by decide) tyX8 tyX8_ok nmX8 rfl flX8_133 rfl (by decide +kernel) rfl rfl dX8_readMore_66 ?_
      refine bw_aload_n C 1 dX8_readMore_69 rfl rfl ?_
      refine bw_iload_n C 0 dX8_readMore_70 rfl rfl ?_
      refine bw_aload_n C 1 dX8_readMore_71 rfl rfl ?_
      refine bw_geti C (j := 11) lM0 sM0 rfl inlX8 (by decide) rfl flX8_136 dX8_readMore_72 ?_
      refine bw_icmp_le C (tgt := 82) dX8_readMore_75 (by decide) h (fun h => ?_) (fun h => ?_)
      · refine bw_aload_n C 1 dX8_readMore_82 rfl rfl ?_
        refine bw_geti C (j := 11) lM0 sM0 rfl inlX8 (by decide) rfl flX8_136 dX8_readMore_83 ?_
        exact bw_sub [1, 0] rfl (bk8_readMore_86 C q53.1 ((up2 q53.2 0 9 ((q53.2 0 9) ||| ((1 : Int32) <<< (q53.1 &&& 31)))) 0 11) h)
      · refine bw_iload_n C 0 dX8_readMore_78 rfl rfl ?_
        refine bw_goto C (tgt := 86) dX8_readMore_79 (by decide) ?_
        exact bw_sub [1, 0] rfl (bk8_readMore_86 C q53.1 q53.1 h)
    · refine bw_aload_n C 0 dX8_readMore_26 rfl rfl ?_
      refine bw_getr C (j := 4) (t := 3) lM0 sM0 rfl inlX8 (by decide) rfl flX8_16 dX8_readMore_27 ?_
      refine bw_bipush C (v := 56) dX8_readMore_30 (by decide) ?_
      refine bw_aload_n C 0 dX8_readMore_32 rfl rfl ?_
      refine bw_iconst C (v := 0) dX8_readMore_33 (by decide) ?_
      refine bw_bipush C (v := 9) dX8_readMore_34 (by decide) ?_
      refine bw_iconst C (v := 0) dX8_readMore_36 (by decide) ?_
      refine bw_callVi C (As := [.int 0, .int 9, .int 0]) lM0 sM0 rfl miX8_other mlX8_110 imX8_other seX8_other (by decide) rfl rfl (fun z1 h1 => mt8_other h1) rfl (Nat.le_of_ble_eq_true rfl) rfl dX8_readMore_37 h (fun q37 _ h => ?_)
      refine bw_iconst C (v := 1) dX8_readMore_40 (by decide) ?_
      refine bw_isub C dX8_readMore_41 ?_
      refine bw_iast C lM3 sM3 dX8_readMore_42 h (fun h => ?_)
      refine bw_goto C (tgt := 105) dX8_readMore_43 (by decide) ?_
      exact bw_vret C dX8_readMore_105 h
  · refine bw_aload_n C 0 dX8_readMore_4 rfl rfl ?_
    refine bw_getr C (j := 4) (t := 3) lM0 sM0 rfl inlX8 (by decide) rfl flX8_16 dX8_readMore_5 ?_
    refine bw_bipush C (v := 55) dX8_readMore_8 (by decide) ?_
    refine bw_aload_n C 0 dX8_readMore_10 rfl rfl ?_
    refine bw_iconst C (v := 0) dX8_readMore_11 (by decide) ?_
    refine bw_iconst C (v := 2) dX8_readMore_12 (by decide) ?_
    refine bw_iconst C (v := 0) dX8_readMore_13 (by decide) ?_
    refine bw_callVi C (As := [.int 0, .int 2, .int 0]) lM0 sM0 rfl miX8_other mlX8_110 imX8_other seX8_other (by decide) rfl rfl (fun z1 h1 => mt8_other h1) rfl (Nat.le_of_ble_eq_true rfl) rfl dX8_readMore_14 h (fun q14 _ h => ?_)
    refine bw_iast C lM3 sM3 dX8_readMore_17 h (fun h => ?_)
    refine bw_goto C (tgt := 105) dX8_readMore_18 (by decide) ?_
    exact bw_vret C dX8_readMore_105 h
theorem mt8_readMore {l : Launch} {G : GX}   {x1 : Int32} {w : Mem} {z : Int32 × Mem} (h : fn8_readMore  x1 w = some z) : MC l G shM 19 eM yX8_readMore cX8_readMore 3 none rm8_readMore [.ref (gad G 0), .int x1] w z := by
  refine met_of (by decide +kernel) (eM_ok _) rfl (Nat.le_of_ble_eq_true rfl) (fun M hM C => ?_)
  subst hM
  exact bk8_readMore C  x1 h
def rm8_readLine : Room := { frames := 5, cells := 0, slots := 0, locals := 113 }
def fn8_readLine_92 (w : Mem) : Option (Int32 × Mem) := (fn8_step w).bind (fun q93 => some (0, q93.2))
set_option maxRecDepth 20000 in
theorem bk8_readLine_92 {M : MX} {G : GX} (C : BC M G shM 19 eM RX8 cX8_readLine 2 none rm8_readLine) {z : Int32 × Mem} {w : Mem} (h : fn8_readLine_92 w = some z) : BW M G shM 19 2 (ZR M G shM 19 none z) 92 [(0, .ref (gad G 0))] [] w := by
  rw [fn8_readLine_92] at h
  refine bw_aload_n C 0 dX8_readLine_92 rfl rfl ?_
  refine bw_callVv C (As := []) lM0 sM0 rfl miX8_step mlX8_107 imX8_step seX8_step (by decide) rfl rfl (fun z1 h1 => mt8_step h1) rfl (Nat.le_of_ble_eq_true rfl) rfl dX8_readLine_93 h (fun q93 _ h => ?_)
  exact bw_vret C dX8_readLine_96 h
def fn8_readLine_72 (w : Mem) : Option (Int32 × Mem) := (if ¬ (w 0 16) = 0 then fn8_readLine_92 w else (if (w 0 20) = 3 then fn8_readLine_92 w else (fn8_fails 2 w).bind (fun q89 => fn8_readLine_92 q89.2)))
set_option maxRecDepth 20000 in
theorem bk8_readLine_72 {M : MX} {G : GX} (C : BC M G shM 19 eM RX8 cX8_readLine 2 none rm8_readLine) {z : Int32 × Mem} {w : Mem} (h : fn8_readLine_72 w = some z) : BW M G shM 19 2 (ZR M G shM 19 none z) 72 [(0, .ref (gad G 0))] [] w := by
  rw [fn8_readLine_72] at h
  refine bw_aload_n C 0 dX8_readLine_72 rfl rfl ?_
  refine bw_geti C (j := 16) lM0 sM0 rfl inlX8 (by decide) rfl flX8_73 dX8_readLine_73 ?_
  refine bw_if_ne C (tgt := 92) dX8_readLine_76 (by decide) h (fun h => ?_) (fun h => ?_)
  · exact bw_sub [0] rfl (bk8_readLine_92 C h)
  · refine bw_aload_n C 0 dX8_readLine_79 rfl rfl ?_
    refine bw_geti C (j := 20) lM0 sM0 rfl inlX8 (by decide) rfl flX8_82 dX8_readLine_80 ?_
    refine bw_iconst C (v := 3) dX8_readLine_83 (by decide) ?_
    refine bw_icmp_eq C (tgt := 92) dX8_readLine_84 (by decide) h (fun h => ?_) (fun h => ?_)
    · exact bw_sub [0] rfl (bk8_readLine_92 C h)
    · refine bw_aload_n C 0 dX8_readLine_87 rfl rfl ?_
      refine bw_iconst C (v := 2) dX8_readLine_88 (by decide) ?_
      refine bw_callVv C (As := [.int 2]) lM0 sM0 rfl miX8_fails mlX8_103 imX8_fails seX8_fails (by decide) rfl rfl (fun z1 h1 => mt8_fails h1) rfl (Nat.le_of_ble_eq_true rfl) rfl dX8_readLine_89 h (fun q89 _ h => ?_)
      exact bw_sub [0] rfl (bk8_readLine_92 C h)
def fn8_readLine   (w : Mem) : Option (Int32 × Mem) := (fn8_nameHere w).bind (fun q1 => (fn8_in ((q1.1 : Int32).toInt64) 0 5 q1.2).bind (fun q11 => (if ¬ q11.1 = 0 then (fn8_hasRoom q1.1 q11.2).bind (fun q25 => (if q25.1 = 0 then fn8_readLine_72 q25.2 else (if ¬ q1.1 = 2 then (if ¬ q1.1 = 3 then (if ¬ q1.1 = 5 then (fn8_readMore q1.1 q25.2).bind (fun q69 => fn8_readLine_72 q69.2) else (fn8_readTalk q25.2).bind (fun q61 => fn8_readLine_72 q61.2)) else (fn8_readCoin q25.2).bind (fun q49 => fn8_readLine_72 q49.2)) else (fn8_readOne q25.2).bind (fun q37 => fn8_readLine_72 q37.2)))) else (fn8_fails 2 q11.2).bind (fun q19 => some (0, q19.2)))))
set_option maxRecDepth 20000 in
theorem bk8_readLine {M : MX} {G : GX} (C : BC M G shM 19 eM RX8 cX8_readLine 2 none rm8_readLine) {z : Int32 × Mem}    {w : Mem} (h : fn8_readLine   w = some z) : BW M G shM 19 2 (ZR M G shM 19 none z) 0 [(0, .ref (gad G 0))] [] w := by
  rw [fn8_readLine] at h
  refine bw_aload_n C 0 dX8_readLine_0 rfl rfl ?_
  refine bw_callVi C (As := []) lM0 sM0 rfl miX8_nameHere mlX8_117 imX8_nameHere seX8_nameHere (by decide) rfl rfl (fun z1 h1 => mt8_nameHere h1) rfl (Nat.le_of_ble_eq_true rfl) rfl dX8_readLine_1 h (fun q1 _ h => ?_)
  refine bw_istore_n C [(1, .int q1.1), (0, .ref (gad G 0))] dX8_readLine_4 rfl (by decide) rfl ?_
  refine bw_iload_n C 0 dX8_readLine_5 rfl rfl ?_
  refine bw_i2l C dX8_readLine_6 rfl ?_
  refine bw_lconst C (v := 0) dX8_readLine_7 (by decide) ?_
  refine bw_ldc2 C dX8_readLine_8 clX8_139 ?_
  refine bw_callSi C (As := [.long ((q1.1 : Int32).toInt64), .long 0, .long 5]) miX8_in mlX8_69 smX8_in (by decide) rfl rfl (fun z1 h1 => mt8_in h1) rfl (Nat.le_of_ble_eq_true rfl) rfl dX8_readLine_11 h (fun q11 _ h => ?_)
  refine bw_if_ne C (tgt := 23) dX8_readLine_14 (by decide) h (fun h => ?_) (fun h => ?_)
  · refine bw_aload_n C 1 dX8_readLine_23 rfl rfl ?_
    refine bw_iload_n C 0 dX8_readLine_24 rfl rfl ?_
    refine bw_callVi C (As := [.int q1.1]) lM0 sM0 rfl miX8_hasRoom mlX8_141 imX8_hasRoom seX8_hasRoom (by decide) rfl rfl (fun z1 h1 => mt8_hasRoom h1) rfl (Nat.le_of_ble_eq_true rfl) rfl dX8_readLine_25 h (fun q25 _ h => ?_)
    refine bw_if_eq C (tgt := 72) dX8_readLine_28 (by decide) h (fun h => ?_) (fun h => ?_)
    · exact bw_sub [1] rfl (bk8_readLine_72 C h)
    · refine bw_iload_n C 0 dX8_readLine_31 rfl rfl ?_
      refine bw_iconst C (v := 2) dX8_readLine_32 (by decide) ?_
      refine bw_icmp_ne C (tgt := 43) dX8_readLine_33 (by decide) h (fun h => ?_) (fun h => ?_)
      · refine bw_iload_n C 0 dX8_readLine_43 rfl rfl ?_
        refine bw_iconst C (v := 3) dX8_readLine_44 (by decide) ?_
        refine bw_icmp_ne C (tgt := 55) dX8_readLine_45 (by decide) h (fun h => ?_) (fun h => ?_)
        · refine bw_iload_n C 0 dX8_readLine_55 rfl rfl ?_
          refine bw_iconst C (v := 5) dX8_readLine_56 (by decide) ?_
          refine bw_icmp_ne C (tgt := 67) dX8_readLine_57 (by decide) h (fun h => ?_) (fun h => ?_)
          · refine bw_aload_n C 1 dX8_readLine_67 rfl rfl ?_
            refine bw_iload_n C 0 dX8_readLine_68 rfl rfl ?_
            refine bw_callVv C (As := [.int q1.1]) lM0 sM0 rfl miX8_readMore mlX8_154 imX8_readMore seX8_readMore (by decide) rfl rfl (fun z1 h1 => mt8_readMore h1) rfl (Nat.le_of_ble_eq_true rfl) rfl dX8_readLine_69 h (fun q69 _ h => ?_)
            exact bw_sub [1] rfl (bk8_readLine_72 C h)
          · refine bw_aload_n C 1 dX8_readLine_60 rfl rfl ?_
            refine bw_callVv C (As := []) lM0 sM0 rfl miX8_readTalk mlX8_151 imX8_readTalk seX8_readTalk (by decide) rfl rfl (fun z1 h1 => mt8_readTalk h1) rfl (Nat.le_of_ble_eq_true rfl) rfl dX8_readLine_61 h (fun q61 _ h => ?_)
            refine bw_goto C (tgt := 72) dX8_readLine_64 (by decide) ?_
            exact bw_sub [1] rfl (bk8_readLine_72 C h)
        · refine bw_aload_n C 1 dX8_readLine_48 rfl rfl ?_
          refine bw_callVv C (As := []) lM0 sM0 rfl miX8_readCoin mlX8_148 imX8_readCoin seX8_readCoin (by decide) rfl rfl (fun z1 h1 => mt8_readCoin h1) rfl (Nat.le_of_ble_eq_true rfl) rfl dX8_readLine_49 h (fun q49 _ h => ?_)
          refine bw_goto C (tgt := 72) dX8_readLine_52 (by decide) ?_
          exact bw_sub [1] rfl (bk8_readLine_72 C h)
      · refine bw_aload_n C 1 dX8_readLine_36 rfl rfl ?_
        refine bw_callVv C (As := []) lM0 sM0 rfl miX8_readOne mlX8_145 imX8_readOne seX8_readOne (by decide) rfl rfl (fun z1 h1 => mt8_readOne h1) rfl (Nat.le_of_ble_eq_true rfl) rfl dX8_readLine_37 h (fun q37 _ h => ?_)
        refine bw_goto C (tgt := 72) dX8_readLine_40 (by decide) ?_
        exact bw_sub [1] rfl (bk8_readLine_72 C h)
  · refine bw_aload_n C 1 dX8_readLine_17 rfl rfl ?_
    refine bw_iconst C (v := 2) dX8_readLine_18 (by decide) ?_
    refine bw_callVv C (As := [.int 2]) lM0 sM0 rfl miX8_fails mlX8_103 imX8_fails seX8_fails (by decide) rfl rfl (fun z1 h1 => mt8_fails h1) rfl (Nat.le_of_ble_eq_true rfl) rfl dX8_readLine_19 h (fun q19 _ h => ?_)
    exact bw_vret C dX8_readLine_22 h
theorem mt8_readLine {l : Launch} {G : GX}    {w : Mem} {z : Int32 × Mem} (h : fn8_readLine   w = some z) : MC l G shM 19 eM yX8_readLine cX8_readLine 2 none rm8_readLine [.ref (gad G 0)] w z := by
  refine met_of (by decide +kernel) (eM_ok _) rfl (Nat.le_of_ble_eq_true rfl) (fun M hM C => ?_)
  subst hM
  exact bk8_readLine C   h
def rm8_beginsText : Room := { frames := 0, cells := 0, slots := 0, locals := 0 }
def fn8_beginsText_42 (k : Int32 → Mem → Option (Int32 × Mem)) : Nat → Int32 → Mem → Option (Int32 × Mem)
  | 0, _, _ => none
  | nn + 1, x1, w => (if 57 ≤ x1 then k x1 w else (if ib x1 57 = true then (if 6 = 0 then none else (if ib (x1 - x1 / 6 * 6) 6 = true then fn8_beginsText_42 k nn (x1 + 1) (up2 (up2 w 3 x1.toNatClampNeg 0) 5 (x1 - x1 / 6 * 6).toNatClampNeg 0) else none)) else none))
set_option maxRecDepth 20000 in
theorem bk8_beginsText_42 {M : MX} {G : GX} (C : BC M G shM 19 eM RX8 cX8_beginsText 2 none rm8_beginsText) {z : Int32 × Mem} {k : Int32 → Mem → Option (Int32 × Mem)} (hk : ∀ (x1 : Int32) (w : Mem), k x1 w = some z → BW M G shM 19 2 (ZR M G shM 19 none z) 71 [] [] w) : ∀ (nn : Nat) (x1 : Int32) (w : Mem), fn8_beginsText_42 k nn x1 w = some z → BW M G shM 19 2 (ZR M G shM 19 none z) 42 [(0, .ref (gad G 0)), (1, .int x1)] [] w := by
  intro nn
  induction nn with
  | zero =>
    intro x1 w h
    have h : (none : Option (Int32 × Mem)) = some z := h
    cases h
  | succ nn ih =>
    intro x1 w h
    rw [fn8_beginsText_42] at h
    refine bw_iload_n C 1 dX8_beginsText_42 rfl rfl ?_
    refine bw_bipush C (v := 57) dX8_beginsText_43 (by decide) ?_
    refine bw_icmp_ge C (tgt := 71) dX8_beginsText_45 (by decide) h (fun h => ?_) (fun h => ?_)
    · exact bw_sub [] rfl (hk x1 w h)
    · refine bw_aload_n C 0 dX8_beginsText_48 rfl rfl ?_
      refine bw_getr C (j := 4) (t := 3) lM0 sM0 rfl inlX8 (by decide) rfl flX8_16 dX8_beginsText_49 ?_
      refine bw_iload_n C 1 dX8_beginsText_52 rfl rfl ?_
      refine bw_iconst C (v := 0) dX8_beginsText_53 (by decide) ?_
      refine bw_iast C lM3 sM3 dX8_beginsText_54 h (fun h => ?_)
      refine bw_aload_n C 0 dX8_beginsText_55 rfl rfl ?_
      refine bw_getr C (j := 12) (t := 5) lM0 sM0 rfl inlX8 (by decide) rfl flX8_22 dX8_beginsText_56 ?_
      refine bw_iload_n C 1 dX8_beginsText_59 rfl rfl ?_
      refine bw_bipush C (v := 6) dX8_beginsText_60 (by decide) ?_
      refine bw_irem C dX8_beginsText_62 h (fun h => ?_)
      refine bw_iconst C (v := 0) dX8_beginsText_63 (by decide) ?_
      refine bw_iast C lM5 sM5 dX8_beginsText_64 h (fun h => ?_)
      refine bw_iinc C [(1, .int (x1 + 1)), (0, .ref (gad G 0))] 1 dX8_beginsText_65 rfl rfl (by decide) rfl ?_
      refine bw_goto C (tgt := 42) dX8_beginsText_68 (by decide) ?_
      exact bw_sub [1, 0] rfl (ih (x1 + 1) (up2 (up2 w 3 x1.toNatClampNeg 0) 5 (x1 - x1 / 6 * 6).toNatClampNeg 0) h)
def fn8_beginsText   (w : Mem) : Option (Int32 × Mem) := fn8_beginsText_42 (fun x1_42 w_42 => some (0, w_42)) 1000 0 (up2 (up2 (up2 (up2 (up2 (up2 (up2 (up2 w 0 16 0) 0 18 0) 0 6 0) 0 7 0) 0 8 0) 0 9 0) 0 10 (-1)) 0 11 (-1))
set_option maxRecDepth 20000 in
theorem bk8_beginsText {M : MX} {G : GX} (C : BC M G shM 19 eM RX8 cX8_beginsText 2 none rm8_beginsText) {z : Int32 × Mem}    {w : Mem} (h : fn8_beginsText   w = some z) : BW M G shM 19 2 (ZR M G shM 19 none z) 0 [(0, .ref (gad G 0))] [] w := by
  rw [fn8_beginsText] at h
  refine bw_aload_n C 0 dX8_beginsText_0 rfl rfl ?_
  refine bw_iconst C (v := 0) dX8_beginsText_1 (by decide) ?_
  refine bw_puti C (j := 16) (ty := .int) lM0 sM0 rfl inlX8 (by decide) tyX8 tyX8_ok nmX8 rfl flX8_73 rfl (by decide +kernel) rfl rfl dX8_beginsText_2 ?_
  refine bw_aload_n C 0 dX8_beginsText_5 rfl rfl ?_
  refine bw_iconst C (v := 0) dX8_beginsText_6 (by decide) ?_
  refine bw_puti C (j := 18) (ty := .int) lM0 sM0 rfl inlX8 (by decide) tyX8 tyX8_ok nmX8 rfl flX8_85 rfl (by decide +kernel) rfl rfl dX8_beginsText_7 ?_
  refine bw_aload_n C 0 dX8_beginsText_10 rfl rfl ?_
  refine bw_iconst C (v := 0) dX8_beginsText_11 (by decide) ?_
  refine bw_puti C (j := 6) (ty := .int) lM0 sM0 rfl inlX8 (by decide) tyX8 tyX8_ok nmX8 rfl flX8_121 rfl (by decide +kernel) rfl rfl dX8_beginsText_12 ?_
  refine bw_aload_n C 0 dX8_beginsText_15 rfl rfl ?_
  refine bw_iconst C (v := 0) dX8_beginsText_16 (by decide) ?_
  refine bw_puti C (j := 7) (ty := .int) lM0 sM0 rfl inlX8 (by decide) tyX8 tyX8_ok nmX8 rfl flX8_124 rfl (by decide +kernel) rfl rfl dX8_beginsText_17 ?_
  refine bw_aload_n C 0 dX8_beginsText_20 rfl rfl ?_
  refine bw_iconst C (v := 0) dX8_beginsText_21 (by decide) ?_
  refine bw_puti C (j := 8) (ty := .int) lM0 sM0 rfl inlX8 (by decide) tyX8 tyX8_ok nmX8 rfl flX8_130 rfl (by decide +kernel) rfl rfl dX8_beginsText_22 ?_
  refine bw_aload_n C 0 dX8_beginsText_25 rfl rfl ?_
  refine bw_iconst C (v := 0) dX8_beginsText_26 (by decide) ?_
  refine bw_puti C (j := 9) (ty := .int) lM0 sM0 rfl inlX8 (by decide) tyX8 tyX8_ok nmX8 rfl flX8_133 rfl (by decide +kernel) rfl rfl dX8_beginsText_27 ?_
  refine bw_aload_n C 0 dX8_beginsText_30 rfl rfl ?_
  refine bw_iconst C (v := (-1)) dX8_beginsText_31 (by decide) ?_
  refine bw_puti C (j := 10) (ty := .int) lM0 sM0 rfl inlX8 (by decide) tyX8 tyX8_ok nmX8 rfl flX8_114 rfl (by decide +kernel) rfl rfl dX8_beginsText_32 ?_
  refine bw_aload_n C 0 dX8_beginsText_35 rfl rfl ?_
  refine bw_iconst C (v := (-1)) dX8_beginsText_36 (by decide) ?_
  refine bw_puti C (j := 11) (ty := .int) lM0 sM0 rfl inlX8 (by decide) tyX8 tyX8_ok nmX8 rfl flX8_136 rfl (by decide +kernel) rfl rfl dX8_beginsText_37 ?_
  refine bw_iconst C (v := 0) dX8_beginsText_40 (by decide) ?_
  refine bw_istore_n C [(1, .int 0), (0, .ref (gad G 0))] dX8_beginsText_41 rfl (by decide) rfl ?_
  refine bw_sub [1, 0] rfl (bk8_beginsText_42 C (fun x1_42 w_42 h => ?_) 1000 0 (up2 (up2 (up2 (up2 (up2 (up2 (up2 (up2 w 0 16 0) 0 18 0) 0 6 0) 0 7 0) 0 8 0) 0 9 0) 0 10 (-1)) 0 11 (-1)) h)
  exact bw_vret C dX8_beginsText_71 h
theorem mt8_beginsText {l : Launch} {G : GX}    {w : Mem} {z : Int32 × Mem} (h : fn8_beginsText   w = some z) : MC l G shM 19 eM yX8_beginsText cX8_beginsText 2 none rm8_beginsText [.ref (gad G 0)] w z := by
  refine met_of (by decide +kernel) (eM_ok _) rfl (Nat.le_of_ble_eq_true rfl) (fun M hM C => ?_)
  subst hM
  exact bk8_beginsText C   h
def rm8_text : Room := { frames := 6, cells := 0, slots := 0, locals := 134 }
def fn8_text_10 (k : Int32 → Mem → Option (Int32 × Mem)) : Nat → Int32 → Mem → Option (Int32 × Mem)
  | 0, _, _ => none
  | nn + 1, x1, w => (if ¬ (w 0 16) = 0 then k x1 w else (if (w 0 20) = 0 then k x1 w else (fn8_readLine w).bind (fun q25 => fn8_text_10 k nn (x1 + 1) q25.2)))
set_option maxRecDepth 20000 in
theorem bk8_text_10 {M : MX} {G : GX} (C : BC M G shM 19 eM RX8 cX8_text 3 (some .int) rm8_text) {z : Int32 × Mem} {k : Int32 → Mem → Option (Int32 × Mem)} (hk : ∀ (x1 : Int32) (w : Mem), k x1 w = some z → BW M G shM 19 3 (ZR M G shM 19 (some .int) z) 34 [(0, .ref (gad G 0)), (1, .int x1)] [] w) : ∀ (nn : Nat) (x1 : Int32) (w : Mem), fn8_text_10 k nn x1 w = some z → BW M G shM 19 3 (ZR M G shM 19 (some .int) z) 10 [(0, .ref (gad G 0)), (1, .int x1)] [] w := by
  intro nn
  induction nn with
  | zero =>
    intro x1 w h
    have h : (none : Option (Int32 × Mem)) = some z := h
    cases h
  | succ nn ih =>
    intro x1 w h
    rw [fn8_text_10] at h
    refine bw_aload_n C 0 dX8_text_10 rfl rfl ?_
    refine bw_geti C (j := 16) lM0 sM0 rfl inlX8 (by decide) rfl flX8_73 dX8_text_11 ?_
    refine bw_if_ne C (tgt := 34) dX8_text_14 (by decide) h (fun h => ?_) (fun h => ?_)
    · exact bw_sub [0, 1] rfl (hk x1 w h)
    · refine bw_aload_n C 0 dX8_text_17 rfl rfl ?_
      refine bw_geti C (j := 20) lM0 sM0 rfl inlX8 (by decide) rfl flX8_82 dX8_text_18 ?_
      refine bw_if_eq C (tgt := 34) dX8_text_21 (by decide) h (fun h => ?_) (fun h => ?_)
      · exact bw_sub [0, 1] rfl (hk x1 w h)
      · refine bw_aload_n C 0 dX8_text_24 rfl rfl ?_
        refine bw_callVv C (As := []) lM0 sM0 rfl miX8_readLine mlX8_160 imX8_readLine seX8_readLine (by decide) rfl rfl (fun z1 h1 => mt8_readLine h1) rfl (Nat.le_of_ble_eq_true rfl) rfl dX8_text_25 h (fun q25 _ h => ?_)
        refine bw_iinc C [(1, .int (x1 + 1)), (0, .ref (gad G 0))] 1 dX8_text_28 rfl rfl (by decide) rfl ?_
        refine bw_goto C (tgt := 10) dX8_text_31 (by decide) ?_
        exact bw_sub [1, 0] rfl (ih (x1 + 1) q25.2 h)
def fn8_text_135 (x1 : Int32) (x2 : Int32) (kb : Int32 → Mem → Option (Int32 × Mem)) (w : Mem) : Option (Int32 × Mem) := kb (x2 + 1) w
set_option maxRecDepth 20000 in
theorem bk8_text_135 {M : MX} {G : GX} (C : BC M G shM 19 eM RX8 cX8_text 3 (some .int) rm8_text) {z : Int32 × Mem} (x1 : Int32) (x2 : Int32) {kb : Int32 → Mem → Option (Int32 × Mem)} (hkb : ∀ (x2 : Int32) (w : Mem), kb x2 w = some z → BW M G shM 19 3 (ZR M G shM 19 (some .int) z) 99 [(0, .ref (gad G 0)), (1, .int x1), (2, .int x2)] [] w) {w : Mem} (h : fn8_text_135 x1 x2 kb w = some z) : BW M G shM 19 3 (ZR M G shM 19 (some .int) z) 135 [(0, .ref (gad G 0)), (1, .int x1), (2, .int x2)] [] w := by
  rw [fn8_text_135] at h
  refine bw_iinc C [(2, .int (x2 + 1)), (0, .ref (gad G 0)), (1, .int x1)] 2 dX8_text_135 rfl rfl (by decide) rfl ?_
  refine bw_goto C (tgt := 99) dX8_text_138 (by decide) ?_
  exact bw_sub [1, 2, 0] rfl (hkb (x2 + 1) w h)
def fn8_text_99 (x1 : Int32) (k : Int32 → Mem → Option (Int32 × Mem)) : Nat → Int32 → Mem → Option (Int32 × Mem)
  | 0, _, _ => none
  | nn + 1, x2, w => (if 57 ≤ x2 then k x2 w else (if ib x2 57 = true then (if ib x2 228 = true then (if 18 = 0 then none else (if 18 = 0 then none else (if ib (x2 - x2 / 18 * 18) 18 = true then (if ib (x2 - x2 / 18 * 18) 18 = true then fn8_text_135 x1 x2 (fn8_text_99 x1 k nn) (up2 (up2 w 1 x2.toNatClampNeg (w 3 x2.toNatClampNeg)) 2 (x2 - x2 / 18 * 18).toNatClampNeg ((up2 w 1 x2.toNatClampNeg (w 3 x2.toNatClampNeg)) 4 (x2 - x2 / 18 * 18).toNatClampNeg)) else none) else none))) else none) else none))
set_option maxRecDepth 20000 in
theorem bk8_text_99 {M : MX} {G : GX} (C : BC M G shM 19 eM RX8 cX8_text 3 (some .int) rm8_text) {z : Int32 × Mem} (x1 : Int32) {k : Int32 → Mem → Option (Int32 × Mem)} (hk : ∀ (x2 : Int32) (w : Mem), k x2 w = some z → BW M G shM 19 3 (ZR M G shM 19 (some .int) z) 141 [(0, .ref (gad G 0)), (1, .int x1)] [] w) : ∀ (nn : Nat) (x2 : Int32) (w : Mem), fn8_text_99 x1 k nn x2 w = some z → BW M G shM 19 3 (ZR M G shM 19 (some .int) z) 99 [(0, .ref (gad G 0)), (1, .int x1), (2, .int x2)] [] w := by
  intro nn
  induction nn with
  | zero =>
    intro x2 w h
    have h : (none : Option (Int32 × Mem)) = some z := h
    cases h
  | succ nn ih =>
    intro x2 w h
    rw [fn8_text_99] at h
    refine bw_iload_n C 2 dX8_text_99 rfl rfl ?_
    refine bw_bipush C (v := 57) dX8_text_100 (by decide) ?_
    refine bw_icmp_ge C (tgt := 141) dX8_text_102 (by decide) h (fun h => ?_) (fun h => ?_)
    · exact bw_sub [0, 1] rfl (hk x2 w h)
    · refine bw_aload_n C 0 dX8_text_105 rfl rfl ?_
      refine bw_getr C (j := 0) (t := 1) lM0 sM0 rfl inlX8 (by decide) rfl flX8_7 dX8_text_106 ?_
      refine bw_iload_n C 2 dX8_text_109 rfl rfl ?_
      refine bw_aload_n C 0 dX8_text_110 rfl rfl ?_
      refine bw_getr C (j := 4) (t := 3) lM0 sM0 rfl inlX8 (by decide) rfl flX8_16 dX8_text_111 ?_
      refine bw_iload_n C 2 dX8_text_114 rfl rfl ?_
      refine bw_iald C lM3 sM3 dX8_text_115 h (fun h => ?_)
      refine bw_iast C lM1 sM1 dX8_text_116 h (fun h => ?_)
      refine bw_aload_n C 0 dX8_text_117 rfl rfl ?_
      refine bw_getr C (j := 1) (t := 2) lM0 sM0 rfl inlX8 (by decide) rfl flX8_13 dX8_text_118 ?_
      refine bw_iload_n C 2 dX8_text_121 rfl rfl ?_
      refine bw_bipush C (v := 18) dX8_text_122 (by decide) ?_
      refine bw_irem C dX8_text_124 h (fun h => ?_)
      refine bw_aload_n C 0 dX8_text_125 rfl rfl ?_
      refine bw_getr C (j := 5) (t := 4) lM0 sM0 rfl inlX8 (by decide) rfl flX8_19 dX8_text_126 ?_
      refine bw_iload_n C 2 dX8_text_129 rfl rfl ?_
      refine bw_bipush C (v := 18) dX8_text_130 (by decide) ?_
      refine bw_irem C dX8_text_132 h (fun h => ?_)
      refine bw_iald C lM4 sM4 dX8_text_133 h (fun h => ?_)
      refine bw_iast C lM2 sM2 dX8_text_134 h (fun h => ?_)
      exact bw_sub [0, 1, 2] rfl (bk8_text_135 C x1 x2 ih h)
def fn8_text_143 (x1 : Int32) (k : Int32 → Mem → Option (Int32 × Mem)) : Nat → Int32 → Mem → Option (Int32 × Mem)
  | 0, _, _ => none
  | nn + 1, x2, w => (if 6 ≤ x2 then k x2 w else (if ib x2 6 = true then (if ib ((4 * x2) + 3) 228 = true then fn8_text_143 x1 k nn (x2 + 1) (up2 w 1 ((4 * x2) + 3).toNatClampNeg (w 5 x2.toNatClampNeg)) else none) else none))
set_option maxRecDepth 20000 in
theorem bk8_text_143 {M : MX} {G : GX} (C : BC M G shM 19 eM RX8 cX8_text 3 (some .int) rm8_text) {z : Int32 × Mem} (x1 : Int32) {k : Int32 → Mem → Option (Int32 × Mem)} (hk : ∀ (x2 : Int32) (w : Mem), k x2 w = some z → BW M G shM 19 3 (ZR M G shM 19 (some .int) z) 171 [(0, .ref (gad G 0)), (1, .int x1)] [] w) : ∀ (nn : Nat) (x2 : Int32) (w : Mem), fn8_text_143 x1 k nn x2 w = some z → BW M G shM 19 3 (ZR M G shM 19 (some .int) z) 143 [(0, .ref (gad G 0)), (1, .int x1), (2, .int x2)] [] w := by
  intro nn
  induction nn with
  | zero =>
    intro x2 w h
    have h : (none : Option (Int32 × Mem)) = some z := h
    cases h
  | succ nn ih =>
    intro x2 w h
    rw [fn8_text_143] at h
    refine bw_iload_n C 2 dX8_text_143 rfl rfl ?_
    refine bw_bipush C (v := 6) dX8_text_144 (by decide) ?_
    refine bw_icmp_ge C (tgt := 171) dX8_text_146 (by decide) h (fun h => ?_) (fun h => ?_)
    · exact bw_sub [0, 1] rfl (hk x2 w h)
    · refine bw_aload_n C 0 dX8_text_149 rfl rfl ?_
      refine bw_getr C (j := 0) (t := 1) lM0 sM0 rfl inlX8 (by decide) rfl flX8_7 dX8_text_150 ?_
      refine bw_iconst C (v := 4) dX8_text_153 (by decide) ?_
      refine bw_iload_n C 2 dX8_text_154 rfl rfl ?_
      refine bw_imul C dX8_text_155 ?_
      refine bw_iconst C (v := 3) dX8_text_156 (by decide) ?_
      refine bw_iadd C dX8_text_157 ?_
      refine bw_aload_n C 0 dX8_text_158 rfl rfl ?_
      refine bw_getr C (j := 12) (t := 5) lM0 sM0 rfl inlX8 (by decide) rfl flX8_22 dX8_text_159 ?_
      refine bw_iload_n C 2 dX8_text_162 rfl rfl ?_
      refine bw_iald C lM5 sM5 dX8_text_163 h (fun h => ?_)
      refine bw_iast C lM1 sM1 dX8_text_164 h (fun h => ?_)
      refine bw_iinc C [(2, .int (x2 + 1)), (0, .ref (gad G 0)), (1, .int x1)] 2 dX8_text_165 rfl rfl (by decide) rfl ?_
      refine bw_goto C (tgt := 143) dX8_text_168 (by decide) ?_
      exact bw_sub [1, 2, 0] rfl (ih (x2 + 1) (up2 w 1 ((4 * x2) + 3).toNatClampNeg (w 5 x2.toNatClampNeg)) h)
def fn8_text_204 (x1 : Int32) (w : Mem) : Option (Int32 × Mem) := (if ib 1 2 = true then some (x1, (up2 w 15 (1 : Int32).toNatClampNeg (vp_nar .boolean 0))) else none)
set_option maxRecDepth 20000 in
theorem bk8_text_204 {M : MX} {G : GX} (C : BC M G shM 19 eM RX8 cX8_text 3 (some .int) rm8_text) {z : Int32 × Mem} (x1 : Int32) {w : Mem} (h : fn8_text_204 x1 w = some z) : BW M G shM 19 3 (ZR M G shM 19 (some .int) z) 204 [(0, .ref (gad G 0)), (1, .int x1)] [] w := by
  rw [fn8_text_204] at h
  refine bw_aload_n C 0 dX8_text_204 rfl rfl ?_
  refine bw_getr C (j := 33) (t := 15) lM0 sM0 rfl inlX8 (by decide) rfl flX8_52 dX8_text_205 ?_
  refine bw_iconst C (v := 1) dX8_text_208 (by decide) ?_
  refine bw_iconst C (v := 0) dX8_text_209 (by decide) ?_
  refine bw_zast C lM15 sM15 dX8_text_210 h (fun h => ?_)
  refine bw_iload_n C 1 dX8_text_211 rfl rfl ?_
  exact bw_iret C dX8_text_212 h
def fn8_text_69 (x1 : Int32) (w : Mem) : Option (Int32 × Mem) := (if ((up2 (up2 w 0 14 0) 0 15 ((up2 w 0 14 0) 0 16)) 0 16) ≤ 0 then fn8_text_99 x1 (fun x2_99 w_99 => fn8_text_143 x1 (fun x2_143 w_143 => (if ib 0 2 = true then fn8_text_204 x1 (up2 (up2 (up2 (up2 (up2 w_143 0 2 (w_143 0 6)) 0 3 ((up2 w_143 0 2 (w_143 0 6)) 0 7)) 0 26 0) 0 31 0) 15 (0 : Int32).toNatClampNeg (vp_nar .boolean 0)) else none)) 1000 0 w_99) 1000 0 (up2 (up2 w 0 14 0) 0 15 ((up2 w 0 14 0) 0 16)) else some (((-10) - ((up2 (up2 w 0 14 0) 0 15 ((up2 w 0 14 0) 0 16)) 0 17)), (up2 (up2 w 0 14 0) 0 15 ((up2 w 0 14 0) 0 16))))
set_option maxRecDepth 20000 in
theorem bk8_text_69 {M : MX} {G : GX} (C : BC M G shM 19 eM RX8 cX8_text 3 (some .int) rm8_text) {z : Int32 × Mem} (x1 : Int32) {w : Mem} (h : fn8_text_69 x1 w = some z) : BW M G shM 19 3 (ZR M G shM 19 (some .int) z) 69 [(0, .ref (gad G 0)), (1, .int x1)] [] w := by
  rw [fn8_text_69] at h
  refine bw_aload_n C 0 dX8_text_69 rfl rfl ?_
  refine bw_iconst C (v := 0) dX8_text_70 (by decide) ?_
  refine bw_puti C (j := 14) (ty := .int) lM0 sM0 rfl inlX8 (by decide) tyX8 tyX8_ok nmX8 rfl flX8_65 rfl (by decide +kernel) rfl rfl dX8_text_71 ?_
  refine bw_aload_n C 0 dX8_text_74 rfl rfl ?_
  refine bw_aload_n C 0 dX8_text_75 rfl rfl ?_
  refine bw_geti C (j := 16) lM0 sM0 rfl inlX8 (by decide) rfl flX8_73 dX8_text_76 ?_
  refine bw_puti C (j := 15) (ty := .int) lM0 sM0 rfl inlX8 (by decide) tyX8 tyX8_ok nmX8 rfl flX8_163 rfl (by decide +kernel) rfl rfl dX8_text_79 ?_
  refine bw_aload_n C 0 dX8_text_82 rfl rfl ?_
  refine bw_geti C (j := 16) lM0 sM0 rfl inlX8 (by decide) rfl flX8_73 dX8_text_83 ?_
  refine bw_if_le C (tgt := 97) dX8_text_86 (by decide) h (fun h => ?_) (fun h => ?_)
  · refine bw_iconst C (v := 0) dX8_text_97 (by decide) ?_
    refine bw_istore_n C [(2, .int 0), (0, .ref (gad G 0)), (1, .int x1)] dX8_text_98 rfl (by decide) rfl ?_
    refine bw_sub [1, 2, 0] rfl (bk8_text_99 C x1 (fun x2_99 w_99 h => ?_) 1000 0 (up2 (up2 w 0 14 0) 0 15 ((up2 w 0 14 0) 0 16)) h)
    refine bw_iconst C (v := 0) dX8_text_141 (by decide) ?_
    refine bw_istore_n C [(2, .int 0), (0, .ref (gad G 0)), (1, .int x1)] dX8_text_142 rfl (by decide) rfl ?_
    refine bw_sub [1, 2, 0] rfl (bk8_text_143 C x1 (fun x2_143 w_143 h => ?_) 1000 0 w_99 h)
    refine bw_aload_n C 0 dX8_text_171 rfl rfl ?_
    refine bw_aload_n C 0 dX8_text_172 rfl rfl ?_
    refine bw_geti C (j := 6) lM0 sM0 rfl inlX8 (by decide) rfl flX8_121 dX8_text_173 ?_
    refine bw_puti C (j := 2) (ty := .int) lM0 sM0 rfl inlX8 (by decide) tyX8 tyX8_ok nmX8 rfl flX8_166 rfl (by decide +kernel) rfl rfl dX8_text_176 ?_
    refine bw_aload_n C 0 dX8_text_179 rfl rfl ?_
    refine bw_aload_n C 0 dX8_text_180 rfl rfl ?_
    refine bw_geti C (j := 7) lM0 sM0 rfl inlX8 (by decide) rfl flX8_124 dX8_text_181 ?_
    refine bw_puti C (j := 3) (ty := .int) lM0 sM0 rfl inlX8 (by decide) tyX8 tyX8_ok nmX8 rfl flX8_169 rfl (by decide +kernel) rfl rfl dX8_text_184 ?_
    refine bw_aload_n C 0 dX8_text_187 rfl rfl ?_
    refine bw_iconst C (v := 0) dX8_text_188 (by decide) ?_
    refine bw_puti C (j := 26) (ty := .int) lM0 sM0 rfl inlX8 (by decide) tyX8 tyX8_ok nmX8 rfl flX8_172 rfl (by decide +kernel) rfl rfl dX8_text_189 ?_
    refine bw_aload_n C 0 dX8_text_192 rfl rfl ?_
    refine bw_iconst C (v := 0) dX8_text_193 (by decide) ?_
    refine bw_puti C (j := 31) (ty := .int) lM0 sM0 rfl inlX8 (by decide) tyX8 tyX8_ok nmX8 rfl flX8_175 rfl (by decide +kernel) rfl rfl dX8_text_194 ?_
    refine bw_aload_n C 0 dX8_text_197 rfl rfl ?_
    refine bw_getr C (j := 33) (t := 15) lM0 sM0 rfl inlX8 (by decide) rfl flX8_52 dX8_text_198 ?_
    refine bw_iconst C (v := 0) dX8_text_201 (by decide) ?_
    refine bw_iconst C (v := 0) dX8_text_202 (by decide) ?_
    refine bw_zast C lM15 sM15 dX8_text_203 h (fun h => ?_)
    exact bw_sub [0, 1] rfl (bk8_text_204 C x1 h)
  · refine bw_bipush C (v := (-10)) dX8_text_89 (by decide) ?_
    refine bw_aload_n C 0 dX8_text_91 rfl rfl ?_
    refine bw_geti C (j := 17) lM0 sM0 rfl inlX8 (by decide) rfl flX8_79 dX8_text_92 ?_
    refine bw_isub C dX8_text_95 ?_
    exact bw_iret C dX8_text_96 h
def fn8_text_63 (x1 : Int32) (w : Mem) : Option (Int32 × Mem) := (fn8_fails 6 w).bind (fun q66 => fn8_text_69 x1 q66.2)
set_option maxRecDepth 20000 in
theorem bk8_text_63 {M : MX} {G : GX} (C : BC M G shM 19 eM RX8 cX8_text 3 (some .int) rm8_text) {z : Int32 × Mem} (x1 : Int32) {w : Mem} (h : fn8_text_63 x1 w = some z) : BW M G shM 19 3 (ZR M G shM 19 (some .int) z) 63 [(0, .ref (gad G 0)), (1, .int x1)] [] w := by
  rw [fn8_text_63] at h
  refine bw_aload_n C 0 dX8_text_63 rfl rfl ?_
  refine bw_bipush C (v := 6) dX8_text_64 (by decide) ?_
  refine bw_callVv C (As := [.int 6]) lM0 sM0 rfl miX8_fails mlX8_103 imX8_fails seX8_fails (by decide) rfl rfl (fun z1 h1 => mt8_fails h1) rfl (Nat.le_of_ble_eq_true rfl) rfl dX8_text_66 h (fun q66 _ h => ?_)
  exact bw_sub [0, 1] rfl (bk8_text_69 C x1 h)
def fn8_text_34 (x1 : Int32) (w : Mem) : Option (Int32 × Mem) := (if ¬ (w 0 16) = 0 then fn8_text_69 x1 w else (if (w 0 6) ≤ (w 0 10) then fn8_text_63 x1 w else (if (w 0 11) < (w 0 7) then fn8_text_69 x1 w else fn8_text_63 x1 w)))
set_option maxRecDepth 20000 in
theorem bk8_text_34 {M : MX} {G : GX} (C : BC M G shM 19 eM RX8 cX8_text 3 (some .int) rm8_text) {z : Int32 × Mem} (x1 : Int32) {w : Mem} (h : fn8_text_34 x1 w = some z) : BW M G shM 19 3 (ZR M G shM 19 (some .int) z) 34 [(0, .ref (gad G 0)), (1, .int x1)] [] w := by
  rw [fn8_text_34] at h
  refine bw_aload_n C 0 dX8_text_34 rfl rfl ?_
  refine bw_geti C (j := 16) lM0 sM0 rfl inlX8 (by decide) rfl flX8_73 dX8_text_35 ?_
  refine bw_if_ne C (tgt := 69) dX8_text_38 (by decide) h (fun h => ?_) (fun h => ?_)
  · exact bw_sub [0, 1] rfl (bk8_text_69 C x1 h)
  · refine bw_aload_n C 0 dX8_text_41 rfl rfl ?_
    refine bw_geti C (j := 10) lM0 sM0 rfl inlX8 (by decide) rfl flX8_114 dX8_text_42 ?_
    refine bw_aload_n C 0 dX8_text_45 rfl rfl ?_
    refine bw_geti C (j := 6) lM0 sM0 rfl inlX8 (by decide) rfl flX8_121 dX8_text_46 ?_
    refine bw_icmp_ge C (tgt := 63) dX8_text_49 (by decide) h (fun h => ?_) (fun h => ?_)
    · exact bw_sub [0, 1] rfl (bk8_text_63 C x1 h)
    · refine bw_aload_n C 0 dX8_text_52 rfl rfl ?_
      refine bw_geti C (j := 11) lM0 sM0 rfl inlX8 (by decide) rfl flX8_136 dX8_text_53 ?_
      refine bw_aload_n C 0 dX8_text_56 rfl rfl ?_
      refine bw_geti C (j := 7) lM0 sM0 rfl inlX8 (by decide) rfl flX8_124 dX8_text_57 ?_
      refine bw_icmp_lt C (tgt := 69) dX8_text_60 (by decide) h (fun h => ?_) (fun h => ?_)
      · exact bw_sub [0, 1] rfl (bk8_text_69 C x1 h)
      · exact bw_sub [0, 1] rfl (bk8_text_63 C x1 h)
def fn8_text   (w : Mem) : Option (Int32 × Mem) := (fn8_beginsText w).bind (fun q1 => (fn8_step q1.2).bind (fun q7 => fn8_text_10 (fun x1_10 w_10 => fn8_text_34 x1_10 w_10) 1000 0 q7.2))
set_option maxRecDepth 20000 in
theorem bk8_text {M : MX} {G : GX} (C : BC M G shM 19 eM RX8 cX8_text 3 (some .int) rm8_text) {z : Int32 × Mem}    {w : Mem} (h : fn8_text   w = some z) : BW M G shM 19 3 (ZR M G shM 19 (some .int) z) 0 [(0, .ref (gad G 0))] [] w := by
  rw [fn8_text] at h
  refine bw_aload_n C 0 dX8_text_0 rfl rfl ?_
  refine bw_callVv C (As := []) lM0 sM0 rfl miX8_beginsText mlX8_157 imX8_beginsText seX8_beginsText (by decide) rfl rfl (fun z1 h1 => mt8_beginsText h1) rfl (Nat.le_of_ble_eq_true rfl) rfl dX8_text_1 h (fun q1 _ h => ?_)
  refine bw_iconst C (v := 0) dX8_text_4 (by decide) ?_
  refine bw_istore_n C [(1, .int 0), (0, .ref (gad G 0))] dX8_text_5 rfl (by decide) rfl ?_
  refine bw_aload_n C 1 dX8_text_6 rfl rfl ?_
  refine bw_callVv C (As := []) lM0 sM0 rfl miX8_step mlX8_107 imX8_step seX8_step (by decide) rfl rfl (fun z1 h1 => mt8_step h1) rfl (Nat.le_of_ble_eq_true rfl) rfl dX8_text_7 h (fun q7 _ h => ?_)
  refine bw_sub [1, 0] rfl (bk8_text_10 C (fun x1_10 w_10 h => ?_) 1000 0 q7.2 h)
  exact bw_sub [0, 1] rfl (bk8_text_34 C x1_10 h)
theorem mt8_text {l : Launch} {G : GX}    {w : Mem} {z : Int32 × Mem} (h : fn8_text   w = some z) : MC l G shM 19 eM yX8_text cX8_text 3 (some .int) rm8_text [.ref (gad G 0)] w z := by
  refine met_of (by decide +kernel) (eM_ok _) rfl (Nat.le_of_ble_eq_true rfl) (fun M hM C => ?_)
  subst hM
  exact bk8_text C   h
def rm8_fault : Room := { frames := 0, cells := 0, slots := 0, locals := 0 }
def fn8_fault   (w : Mem) : Option (Int32 × Mem) := some ((w 0 15), w)
set_option maxRecDepth 20000 in
theorem bk8_fault {M : MX} {G : GX} (C : BC M G shM 19 eM RX8 cX8_fault 1 (some .int) rm8_fault) {z : Int32 × Mem}    {w : Mem} (h : fn8_fault   w = some z) : BW M G shM 19 1 (ZR M G shM 19 (some .int) z) 0 [(0, .ref (gad G 0))] [] w := by
  rw [fn8_fault] at h
  refine bw_aload_n C 0 dX8_fault_0 rfl rfl ?_
  refine bw_geti C (j := 15) lM0 sM0 rfl inlX8 (by decide) rfl flX8_163 dX8_fault_1 ?_
  exact bw_iret C dX8_fault_4 h
theorem mt8_fault {l : Launch} {G : GX}    {w : Mem} {z : Int32 × Mem} (h : fn8_fault   w = some z) : MC l G shM 19 eM yX8_fault cX8_fault 1 (some .int) rm8_fault [.ref (gad G 0)] w z := by
  refine met_of (by decide +kernel) (eM_ok _) rfl (Nat.le_of_ble_eq_true rfl) (fun M hM C => ?_)
  subst hM
  exact bk8_fault C   h
def rm8_isOne : Room := { frames := 1, cells := 0, slots := 0, locals := 25 }
def fn8_isOne  (x1 : Int32) (w : Mem) : Option (Int32 × Mem) := (fn8_in ((x1 : Int32).toInt64) 0 ((((w 0 2) - 1) : Int32).toInt64) w).bind (fun q10 => (if isb q10.1 = true then some (q10.1, q10.2) else none))
set_option maxRecDepth 20000 in
theorem bk8_isOne {M : MX} {G : GX} (C : BC M G shM 19 eM RX8 cX8_isOne 2 (some .boolean) rm8_isOne) {z : Int32 × Mem}   (x1 : Int32) {w : Mem} (h : fn8_isOne  x1 w = some z) : BW M G shM 19 2 (ZR M G shM 19 (some .boolean) z) 0 [(0, .ref (gad G 0)), (1, .int x1)] [] w := by
  rw [fn8_isOne] at h
  refine bw_iload_n C 1 dX8_isOne_0 rfl rfl ?_
  refine bw_i2l C dX8_isOne_1 rfl ?_
  refine bw_lconst C (v := 0) dX8_isOne_2 (by decide) ?_
  refine bw_aload_n C 0 dX8_isOne_3 rfl rfl ?_
  refine bw_geti C (j := 2) lM0 sM0 rfl inlX8 (by decide) rfl flX8_166 dX8_isOne_4 ?_
  refine bw_iconst C (v := 1) dX8_isOne_7 (by decide) ?_
  refine bw_isub C dX8_isOne_8 ?_
  refine bw_i2l C dX8_isOne_9 rfl ?_
  refine bw_callSi C (As := [.long ((x1 : Int32).toInt64), .long 0, .long ((((w 0 2) - 1) : Int32).toInt64)]) miX8_in mlX8_69 smX8_in (by decide) rfl rfl (fun z1 h1 => mt8_in h1) rfl (Nat.le_of_ble_eq_true rfl) rfl dX8_isOne_10 h (fun q10 _ h => ?_)
  exact bw_zret C dX8_isOne_13 h
theorem mt8_isOne {l : Launch} {G : GX}   {x1 : Int32} {w : Mem} {z : Int32 × Mem} (h : fn8_isOne  x1 w = some z) : MC l G shM 19 eM yX8_isOne cX8_isOne 2 (some .boolean) rm8_isOne [.ref (gad G 0), .int x1] w z := by
  refine met_of (by decide +kernel) (eM_ok _) rfl (Nat.le_of_ble_eq_true rfl) (fun M hM C => ?_)
  subst hM
  exact bk8_isOne C  x1 h
def rm8_isCoin : Room := { frames := 1, cells := 0, slots := 0, locals := 25 }
def fn8_isCoin  (x1 : Int32) (w : Mem) : Option (Int32 × Mem) := (fn8_in ((x1 : Int32).toInt64) 0 ((((w 0 3) - 1) : Int32).toInt64) w).bind (fun q10 => (if isb q10.1 = true then some (q10.1, q10.2) else none))
set_option maxRecDepth 20000 in
theorem bk8_isCoin {M : MX} {G : GX} (C : BC M G shM 19 eM RX8 cX8_isCoin 2 (some .boolean) rm8_isCoin) {z : Int32 × Mem}   (x1 : Int32) {w : Mem} (h : fn8_isCoin  x1 w = some z) : BW M G shM 19 2 (ZR M G shM 19 (some .boolean) z) 0 [(0, .ref (gad G 0)), (1, .int x1)] [] w := by
  rw [fn8_isCoin] at h
  refine bw_iload_n C 1 dX8_isCoin_0 rfl rfl ?_
  refine bw_i2l C dX8_isCoin_1 rfl ?_
  refine bw_lconst C (v := 0) dX8_isCoin_2 (by decide) ?_
  refine bw_aload_n C 0 dX8_isCoin_3 rfl rfl ?_
  refine bw_geti C (j := 3) lM0 sM0 rfl inlX8 (by decide) rfl flX8_169 dX8_isCoin_4 ?_
  refine bw_iconst C (v := 1) dX8_isCoin_7 (by decide) ?_
  refine bw_isub C dX8_isCoin_8 ?_
  refine bw_i2l C dX8_isCoin_9 rfl ?_
  refine bw_callSi C (As := [.long ((x1 : Int32).toInt64), .long 0, .long ((((w 0 3) - 1) : Int32).toInt64)]) miX8_in mlX8_69 smX8_in (by decide) rfl rfl (fun z1 h1 => mt8_in h1) rfl (Nat.le_of_ble_eq_true rfl) rfl dX8_isCoin_10 h (fun q10 _ h => ?_)
  exact bw_zret C dX8_isCoin_13 h
theorem mt8_isCoin {l : Launch} {G : GX}   {x1 : Int32} {w : Mem} {z : Int32 × Mem} (h : fn8_isCoin  x1 w = some z) : MC l G shM 19 eM yX8_isCoin cX8_isCoin 2 (some .boolean) rm8_isCoin [.ref (gad G 0), .int x1] w z := by
  refine met_of (by decide +kernel) (eM_ok _) rfl (Nat.le_of_ble_eq_true rfl) (fun M hM C => ?_)
  subst hM
  exact bk8_isCoin C  x1 h
