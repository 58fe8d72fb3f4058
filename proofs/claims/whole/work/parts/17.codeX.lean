def rm7_keep : Room := { frames := 2, cells := 0, slots := 0, locals := 40 }
def fn7_keep  (x1 : Int32) (w : Mem) : Option (Int32 × Mem) := (if x1 < 0 then some ((-1), w) else (if x1 < 2 then (if ib x1 2 = true then (fn7_oneIf (w 69 x1.toNatClampNeg) w).bind (fun q17 => (if ib x1 ([23, 34] : List Nat).length = true then (fn6_copyFrom ([23, 34].getD x1.toNatClampNeg 0) 1 q17.2).bind (fun q31 => (if ib x1 2 = true then some (q17.1, (up2 q31.2 69 x1.toNatClampNeg (vp_nar .boolean 1))) else none)) else none)) else none) else some ((-1), w)))
set_option maxRecDepth 20000 in
theorem bk7_keep {M : MX} {G : GX} (C : BC M G shX 71 (eX G) RX7 cX7_keep 3 (some .int) rm7_keep) {z : Int32 × Mem}   (x1 : Int32) {w : Mem} (h : fn7_keep  x1 w = some z) : BW M G shX 71 3 (ZR M G shX 71 (some .int) z) 0 [(0, .ref (gad G 0)), (1, .int x1)] [] w := by
  rw [fn7_keep] at h
  refine bw_iload_n C 1 dX7_keep_0 rfl rfl ?_
  refine bw_if_lt C (tgt := 9) dX7_keep_1 (by decide) h (fun h => ?_) (fun h => ?_)
  · refine bw_iconst C (v := (-1)) dX7_keep_9 (by decide) ?_
    exact bw_iret C dX7_keep_10 h
  · refine bw_iload_n C 1 dX7_keep_4 rfl rfl ?_
    refine bw_iconst C (v := 2) dX7_keep_5 (by decide) ?_
    refine bw_icmp_lt C (tgt := 11) dX7_keep_6 (by decide) h (fun h => ?_) (fun h => ?_)
    · refine bw_aload_n C 0 dX7_keep_11 rfl rfl ?_
      refine bw_getr C (j := 7) (t := 69) lX0 sX0 rfl inlX7 (by decide) rfl flX7_59 dX7_keep_12 ?_
      refine bw_iload_n C 1 dX7_keep_15 rfl rfl ?_
      refine bw_zald C lX69 sX69 dX7_keep_16 h (fun h => ?_)
      refine bw_callSi C (As := [.int (w 69 x1.toNatClampNeg)]) miX7_oneIf mlX7_148 smX7_oneIf (by decide) rfl rfl (fun z1 h1 => mt7_oneIf h1) rfl (Nat.le_of_ble_eq_true rfl) rfl dX7_keep_17 h (fun q17 _ h => ?_)
      refine bw_istore_n C [(2, .int q17.1), (0, .ref (gad G 0)), (1, .int x1)] dX7_keep_20 rfl (by decide) rfl ?_
      refine bw_aload_n C 1 dX7_keep_21 rfl rfl ?_
      refine bw_getr C (j := 6) (t := 68) lX0 sX0 rfl inlX7 (by decide) rfl flX7_55 dX7_keep_22 ?_
      refine bw_iload_n C 2 dX7_keep_25 rfl rfl ?_
      refine bw_aald C (ts := [23, 34]) lX68 sX68 rfl dX7_keep_26 h (fun hi26 h => ?_)
      refine bw_aload_n C 1 dX7_keep_27 rfl rfl ?_
      refine bw_getr C (j := 2) (t := 1) lX0 sX0 rfl inlX7 (by decide) rfl flX7_28 dX7_keep_28 ?_
      refine bw_callVv C (As := [.ref (gad G 1)]) (isT_lt (isT_img hi26)) (isT_sh (isT_img hi26)) rfl miX6_copyFrom mlX7_92 imX6_copyFrom seX6_copyFrom (by decide) rfl rfl (fun z1 h1 => mt6_copyFrom (isT_img hi26) isT_1 h1) rfl (Nat.le_of_ble_eq_true rfl) rfl dX7_keep_31 h (fun q31 _ h => ?_)
      refine bw_aload_n C 1 dX7_keep_34 rfl rfl ?_
      refine bw_getr C (j := 7) (t := 69) lX0 sX0 rfl inlX7 (by decide) rfl flX7_59 dX7_keep_35 ?_
      refine bw_iload_n C 2 dX7_keep_38 rfl rfl ?_
      refine bw_iconst C (v := 1) dX7_keep_39 (by decide) ?_
      refine bw_zast C lX69 sX69 dX7_keep_40 h (fun h => ?_)
      refine bw_iload_n C 0 dX7_keep_41 rfl rfl ?_
      exact bw_iret C dX7_keep_42 h
    · refine bw_iconst C (v := (-1)) dX7_keep_9 (by decide) ?_
      exact bw_iret C dX7_keep_10 h
theorem mt7_keep {l : Launch} {G : GX}   {x1 : Int32} {w : Mem} {z : Int32 × Mem} (h : fn7_keep  x1 w = some z) : MC l G shX 71 (eX G) yX7_keep cX7_keep 3 (some .int) rm7_keep [.ref (gad G 0), .int x1] w z := by
  refine met_of (by decide +kernel) (eX_ok G) rfl (Nat.le_of_ble_eq_true rfl) (fun M hM C => ?_)
  subst hM
  exact bk7_keep C  x1 h
def rm7_back : Room := { frames := 2, cells := 0, slots := 0, locals := 40 }
def fn7_back  (x1 : Int32) (w : Mem) : Option (Int32 × Mem) := (if x1 < 0 then some ((-1), w) else (if x1 < 2 then (if ib x1 2 = true then (if ¬ (w 69 x1.toNatClampNeg) = 0 then (if ib x1 ([23, 34] : List Nat).length = true then (fn6_copyFrom 1 ([23, 34].getD x1.toNatClampNeg 0) w).bind (fun q33 => some ((q33.2 1 9), q33.2)) else none) else some ((-2), w)) else none) else some ((-1), w)))
set_option maxRecDepth 20000 in
theorem bk7_back {M : MX} {G : GX} (C : BC M G shX 71 (eX G) RX7 cX7_back 2 (some .int) rm7_back) {z : Int32 × Mem}   (x1 : Int32) {w : Mem} (h : fn7_back  x1 w = some z) : BW M G shX 71 2 (ZR M G shX 71 (some .int) z) 0 [(0, .ref (gad G 0)), (1, .int x1)] [] w := by
  rw [fn7_back] at h
  refine bw_iload_n C 1 dX7_back_0 rfl rfl ?_
  refine bw_if_lt C (tgt := 9) dX7_back_1 (by decide) h (fun h => ?_) (fun h => ?_)
  · refine bw_iconst C (v := (-1)) dX7_back_9 (by decide) ?_
    exact bw_iret C dX7_back_10 h
  · refine bw_iload_n C 1 dX7_back_4 rfl rfl ?_
    refine bw_iconst C (v := 2) dX7_back_5 (by decide) ?_
    refine bw_icmp_lt C (tgt := 11) dX7_back_6 (by decide) h (fun h => ?_) (fun h => ?_)
    · refine bw_aload_n C 0 dX7_back_11 rfl rfl ?_
      refine bw_getr C (j := 7) (t := 69) lX0 sX0 rfl inlX7 (by decide) rfl flX7_59 dX7_back_12 ?_
      refine bw_iload_n C 1 dX7_back_15 rfl rfl ?_
      refine bw_zald C lX69 sX69 dX7_back_16 h (fun h => ?_)
      refine bw_if_ne C (tgt := 23) dX7_back_17 (by decide) h (fun h => ?_) (fun h => ?_)
      · refine bw_aload_n C 0 dX7_back_23 rfl rfl ?_
        refine bw_getr C (j := 2) (t := 1) lX0 sX0 rfl inlX7 (by decide) rfl flX7_28 dX7_back_24 ?_
        refine bw_aload_n C 0 dX7_back_27 rfl rfl ?_
        refine bw_getr C (j := 6) (t := 68) lX0 sX0 rfl inlX7 (by decide) rfl flX7_55 dX7_back_28 ?_
        refine bw_iload_n C 1 dX7_back_31 rfl rfl ?_
        refine bw_aald C (ts := [23, 34]) lX68 sX68 rfl dX7_back_32 h (fun hi32 h => ?_)
        refine bw_callVv C (As := [.ref (gad G ([23, 34].getD x1.toNatClampNeg 0))]) lX1 sX1 rfl miX6_copyFrom mlX7_92 imX6_copyFrom seX6_copyFrom (by decide) rfl rfl (fun z1 h1 => mt6_copyFrom isT_1 (isT_img hi32) h1) rfl (Nat.le_of_ble_eq_true rfl) rfl dX7_back_33 h (fun q33 _ h => ?_)
        refine bw_aload_n C 0 dX7_back_36 rfl rfl ?_
        refine bw_getr C (j := 2) (t := 1) lX0 sX0 rfl inlX7 (by decide) rfl flX7_28 dX7_back_37 ?_
        refine bw_geti C (j := 9) lX1 sX1 rfl inlX6 (by decide) rfl flX7_113 dX7_back_40 ?_
        exact bw_iret C dX7_back_43 h
      · refine bw_bipush C (v := (-2)) dX7_back_20 (by decide) ?_
        exact bw_iret C dX7_back_22 h
    · refine bw_iconst C (v := (-1)) dX7_back_9 (by decide) ?_
      exact bw_iret C dX7_back_10 h
theorem mt7_back {l : Launch} {G : GX}   {x1 : Int32} {w : Mem} {z : Int32 × Mem} (h : fn7_back  x1 w = some z) : MC l G shX 71 (eX G) yX7_back cX7_back 2 (some .int) rm7_back [.ref (gad G 0), .int x1] w z := by
  refine met_of (by decide +kernel) (eX_ok G) rfl (Nat.le_of_ble_eq_true rfl) (fun M hM C => ?_)
  subst hM
  exact bk7_back C  x1 h
def rm7_isSheet : Room := { frames := 0, cells := 0, slots := 0, locals := 0 }
def fn7_isSheet  (x0 : Int32) (w : Mem) : Option (Int32 × Mem) := (if x0 < 0 then some (0, w) else (if 4 ≤ x0 then some (0, w) else some (1, w)))
set_option maxRecDepth 20000 in
theorem bk7_isSheet {M : MX} {G : GX} (C : BC M G shX 71 (eX G) RX7 cX7_isSheet 1 (some .boolean) rm7_isSheet) {z : Int32 × Mem}   (x0 : Int32) {w : Mem} (h : fn7_isSheet  x0 w = some z) : BW M G shX 71 1 (ZR M G shX 71 (some .boolean) z) 0 [(0, .int x0)] [] w := by
  rw [fn7_isSheet] at h
  refine bw_iload_n C 0 dX7_isSheet_0 rfl rfl ?_
  refine bw_if_lt C (tgt := 13) dX7_isSheet_1 (by decide) h (fun h => ?_) (fun h => ?_)
  · refine bw_iconst C (v := 0) dX7_isSheet_13 (by decide) ?_
    exact bw_zretc C dX7_isSheet_14 rfl h
  · refine bw_iload_n C 0 dX7_isSheet_4 rfl rfl ?_
    refine bw_iconst C (v := 4) dX7_isSheet_5 (by decide) ?_
    refine bw_icmp_ge C (tgt := 13) dX7_isSheet_6 (by decide) h (fun h => ?_) (fun h => ?_)
    · refine bw_iconst C (v := 0) dX7_isSheet_13 (by decide) ?_
      exact bw_zretc C dX7_isSheet_14 rfl h
    · refine bw_iconst C (v := 1) dX7_isSheet_9 (by decide) ?_
      refine bw_goto C (tgt := 14) dX7_isSheet_10 (by decide) ?_
      exact bw_zretc C dX7_isSheet_14 rfl h
theorem mt7_isSheet {l : Launch} {G : GX}   {x0 : Int32} {w : Mem} {z : Int32 × Mem} (h : fn7_isSheet  x0 w = some z) : MC l G shX 71 (eX G) yX7_isSheet cX7_isSheet 1 (some .boolean) rm7_isSheet [.int x0] w z := by
  refine met_of (by decide +kernel) (eX_ok G) rfl (Nat.le_of_ble_eq_true rfl) (fun M hM C => ?_)
  subst hM
  exact bk7_isSheet C  x0 h
def rm7_isLane : Room := { frames := 0, cells := 0, slots := 0, locals := 0 }
def fn7_isLane  (x0 : Int32) (w : Mem) : Option (Int32 × Mem) := (if x0 < 0 then some (0, w) else (if 3 ≤ x0 then some (0, w) else some (1, w)))
set_option maxRecDepth 20000 in
theorem bk7_isLane {M : MX} {G : GX} (C : BC M G shX 71 (eX G) RX7 cX7_isLane 1 (some .boolean) rm7_isLane) {z : Int32 × Mem}   (x0 : Int32) {w : Mem} (h : fn7_isLane  x0 w = some z) : BW M G shX 71 1 (ZR M G shX 71 (some .boolean) z) 0 [(0, .int x0)] [] w := by
  rw [fn7_isLane] at h
  refine bw_iload_n C 0 dX7_isLane_0 rfl rfl ?_
  refine bw_if_lt C (tgt := 13) dX7_isLane_1 (by decide) h (fun h => ?_) (fun h => ?_)
  · refine bw_iconst C (v := 0) dX7_isLane_13 (by decide) ?_
    exact bw_zretc C dX7_isLane_14 rfl h
  · refine bw_iload_n C 0 dX7_isLane_4 rfl rfl ?_
    refine bw_iconst C (v := 3) dX7_isLane_5 (by decide) ?_
    refine bw_icmp_ge C (tgt := 13) dX7_isLane_6 (by decide) h (fun h => ?_) (fun h => ?_)
    · refine bw_iconst C (v := 0) dX7_isLane_13 (by decide) ?_
      exact bw_zretc C dX7_isLane_14 rfl h
    · refine bw_iconst C (v := 1) dX7_isLane_9 (by decide) ?_
      refine bw_goto C (tgt := 14) dX7_isLane_10 (by decide) ?_
      exact bw_zretc C dX7_isLane_14 rfl h
theorem mt7_isLane {l : Launch} {G : GX}   {x0 : Int32} {w : Mem} {z : Int32 × Mem} (h : fn7_isLane  x0 w = some z) : MC l G shX 71 (eX G) yX7_isLane cX7_isLane 1 (some .boolean) rm7_isLane [.int x0] w z := by
  refine met_of (by decide +kernel) (eX_ok G) rfl (Nat.le_of_ble_eq_true rfl) (fun M hM C => ?_)
  subst hM
  exact bk7_isLane C  x0 h
def rm7_sheet : Room := { frames := 1, cells := 0, slots := 0, locals := 23 }
def fn7_sheet  (x1 : Int32) (x2 : Int32) (x3 : Int32) (w : Mem) : Option (Int32 × Mem) := (fn7_isSheet x1 w).bind (fun q1 => (if q1.1 = 0 then some ((-1), q1.2) else (fn7_isLane x2 q1.2).bind (fun q8 => (if q8.1 = 0 then some ((-1), q8.2) else (if x3 ≤ 40 then (if 0 ≤ x3 then (if ib x1 ([45, 47, 49, 51] : List Nat).length = true then (fn3_renew ([45, 47, 49, 51].getD x1.toNatClampNeg 0) x2 x3 q8.2).bind (fun q37 => some (1, q37.2)) else none) else some ((-14), q8.2)) else some ((-1), q8.2))))))
set_option maxRecDepth 20000 in
theorem bk7_sheet {M : MX} {G : GX} (C : BC M G shX 71 (eX G) RX7 cX7_sheet 4 (some .int) rm7_sheet) {z : Int32 × Mem}   (x1 : Int32) (x2 : Int32) (x3 : Int32) {w : Mem} (h : fn7_sheet  x1 x2 x3 w = some z) : BW M G shX 71 4 (ZR M G shX 71 (some .int) z) 0 [(0, .ref (gad G 0)), (1, .int x1), (2, .int x2), (3, .int x3)] [] w := by
  rw [fn7_sheet] at h
  refine bw_iload_n C 1 dX7_sheet_0 rfl rfl ?_
  refine bw_callSi C (As := [.int x1]) miX7_isSheet mlX7_262 smX7_isSheet (by decide) rfl rfl (fun z1 h1 => mt7_isSheet h1) rfl (Nat.le_of_ble_eq_true rfl) rfl dX7_sheet_1 h (fun q1 _ h => ?_)
  refine bw_if_eq C (tgt := 20) dX7_sheet_4 (by decide) h (fun h => ?_) (fun h => ?_)
  · refine bw_iconst C (v := (-1)) dX7_sheet_20 (by decide) ?_
    exact bw_iret C dX7_sheet_21 h
  · refine bw_iload_n C 2 dX7_sheet_7 rfl rfl ?_
    refine bw_callSi C (As := [.int x2]) miX7_isLane mlX7_265 smX7_isLane (by decide) rfl rfl (fun z1 h1 => mt7_isLane h1) rfl (Nat.le_of_ble_eq_true rfl) rfl dX7_sheet_8 h (fun q8 _ h => ?_)
    refine bw_if_eq C (tgt := 20) dX7_sheet_11 (by decide) h (fun h => ?_) (fun h => ?_)
    · refine bw_iconst C (v := (-1)) dX7_sheet_20 (by decide) ?_
      exact bw_iret C dX7_sheet_21 h
    · refine bw_iload_n C 3 dX7_sheet_14 rfl rfl ?_
      refine bw_bipush C (v := 40) dX7_sheet_15 (by decide) ?_
      refine bw_icmp_le C (tgt := 22) dX7_sheet_17 (by decide) h (fun h => ?_) (fun h => ?_)
      · refine bw_iload_n C 3 dX7_sheet_22 rfl rfl ?_
        refine bw_if_ge C (tgt := 29) dX7_sheet_23 (by decide) h (fun h => ?_) (fun h => ?_)
        · refine bw_aload_n C 0 dX7_sheet_29 rfl rfl ?_
          refine bw_getr C (j := 8) (t := 70) lX0 sX0 rfl inlX7 (by decide) rfl flX7_65 dX7_sheet_30 ?_
          refine bw_iload_n C 1 dX7_sheet_33 rfl rfl ?_
          refine bw_aald C (ts := [45, 47, 49, 51]) lX70 sX70 rfl dX7_sheet_34 h (fun hi34 h => ?_)
          refine bw_iload_n C 2 dX7_sheet_35 rfl rfl ?_
          refine bw_iload_n C 3 dX7_sheet_36 rfl rfl ?_
          refine bw_callVv C (As := [.int x2, .int x3]) (isS_lt (isS_arr hi34)) (isS_sh (isS_arr hi34)) rfl miX3_renew mlX7_268 imX3_renew seX3_renew (by decide) rfl rfl (fun z1 h1 => mt3_renew (isS_arr hi34) h1) rfl (Nat.le_of_ble_eq_true rfl) rfl dX7_sheet_37 h (fun q37 _ h => ?_)
          refine bw_iconst C (v := 1) dX7_sheet_40 (by decide) ?_
          exact bw_iret C dX7_sheet_41 h
        · refine bw_bipush C (v := (-14)) dX7_sheet_26 (by decide) ?_
          exact bw_iret C dX7_sheet_28 h
      · refine bw_iconst C (v := (-1)) dX7_sheet_20 (by decide) ?_
        exact bw_iret C dX7_sheet_21 h
theorem mt7_sheet {l : Launch} {G : GX}   {x1 : Int32} {x2 : Int32} {x3 : Int32} {w : Mem} {z : Int32 × Mem} (h : fn7_sheet  x1 x2 x3 w = some z) : MC l G shX 71 (eX G) yX7_sheet cX7_sheet 4 (some .int) rm7_sheet [.ref (gad G 0), .int x1, .int x2, .int x3] w z := by
  refine met_of (by decide +kernel) (eX_ok G) rfl (Nat.le_of_ble_eq_true rfl) (fun M hM C => ?_)
  subst hM
  exact bk7_sheet C  x1 x2 x3 h
def rm7_lay : Room := { frames := 1, cells := 0, slots := 0, locals := 22 }
def fn7_lay  (x1 : Int32) (x2 : Int32) (x3 : Int32) (w : Mem) : Option (Int32 × Mem) := (fn7_isSheet x1 w).bind (fun q1 => (if ¬ q1.1 = 0 then (if ib x1 ([45, 47, 49, 51] : List Nat).length = true then (fn3_isNothing ([45, 47, 49, 51].getD x1.toNatClampNeg 0) q1.2).bind (fun q19 => (if q19.1 = 0 then (if x2 < 0 then some ((-12), q19.2) else (if x2 < (q19.2 ([45, 47, 49, 51].getD x1.toNatClampNeg 0) 1) then (fn3_put ([45, 47, 49, 51].getD x1.toNatClampNeg 0) x2 x3 q19.2).bind (fun q48 => some (1, q48.2)) else some ((-12), q19.2))) else some ((-11), q19.2))) else none) else some ((-1), q1.2)))
set_option maxRecDepth 20000 in
theorem bk7_lay {M : MX} {G : GX} (C : BC M G shX 71 (eX G) RX7 cX7_lay 5 (some .int) rm7_lay) {z : Int32 × Mem}   (x1 : Int32) (x2 : Int32) (x3 : Int32) {w : Mem} (h : fn7_lay  x1 x2 x3 w = some z) : BW M G shX 71 5 (ZR M G shX 71 (some .int) z) 0 [(0, .ref (gad G 0)), (1, .int x1), (2, .int x2), (3, .int x3)] [] w := by
  rw [fn7_lay] at h
  refine bw_iload_n C 1 dX7_lay_0 rfl rfl ?_
  refine bw_callSi C (As := [.int x1]) miX7_isSheet mlX7_262 smX7_isSheet (by decide) rfl rfl (fun z1 h1 => mt7_isSheet h1) rfl (Nat.le_of_ble_eq_true rfl) rfl dX7_lay_1 h (fun q1 _ h => ?_)
  refine bw_if_ne C (tgt := 9) dX7_lay_4 (by decide) h (fun h => ?_) (fun h => ?_)
  · refine bw_aload_n C 0 dX7_lay_9 rfl rfl ?_
    refine bw_getr C (j := 8) (t := 70) lX0 sX0 rfl inlX7 (by decide) rfl flX7_65 dX7_lay_10 ?_
    refine bw_iload_n C 1 dX7_lay_13 rfl rfl ?_
    refine bw_aald C (ts := [45, 47, 49, 51]) lX70 sX70 rfl dX7_lay_14 h (fun hi14 h => ?_)
    refine bw_astore C [(4, .ref (gad G ([45, 47, 49, 51].getD x1.toNatClampNeg 0))), (0, .ref (gad G 0)), (1, .int x1), (2, .int x2), (3, .int x3)] dX7_lay_15 (by decide) rfl ?_
    refine bw_aload C 0 dX7_lay_17 rfl ?_
    refine bw_callVi C (As := []) (isS_lt (isS_arr hi14)) (isS_sh (isS_arr hi14)) rfl miX3_isNothing mlX7_271 imX3_isNothing seX3_isNothing (by decide) rfl rfl (fun z1 h1 => mt3_isNothing (isS_arr hi14) h1) rfl (Nat.le_of_ble_eq_true rfl) rfl dX7_lay_19 h (fun q19 _ h => ?_)
    refine bw_if_eq C (tgt := 28) dX7_lay_22 (by decide) h (fun h => ?_) (fun h => ?_)
    · refine bw_iload_n C 3 dX7_lay_28 rfl rfl ?_
      refine bw_if_lt C (tgt := 41) dX7_lay_29 (by decide) h (fun h => ?_) (fun h => ?_)
      · refine bw_bipush C (v := (-12)) dX7_lay_41 (by decide) ?_
        exact bw_iret C dX7_lay_43 h
      · refine bw_iload_n C 3 dX7_lay_32 rfl rfl ?_
        refine bw_aload C 0 dX7_lay_33 rfl ?_
        refine bw_geti C (j := 1) (isS_lt (isS_arr hi14)) (isS_sh (isS_arr hi14)) rfl inlX3 (by decide) rfl flX7_274 dX7_lay_35 ?_
        refine bw_icmp_lt C (tgt := 44) dX7_lay_38 (by decide) h (fun h => ?_) (fun h => ?_)
        · refine bw_aload C 0 dX7_lay_44 rfl ?_
          refine bw_iload_n C 3 dX7_lay_46 rfl rfl ?_
          refine bw_iload_n C 4 dX7_lay_47 rfl rfl ?_
          refine bw_callVv C (As := [.int x2, .int x3]) (isS_lt (isS_arr hi14)) (isS_sh (isS_arr hi14)) rfl miX3_put mlX7_277 imX3_put seX3_put (by decide) rfl rfl (fun z1 h1 => mt3_put (isS_arr hi14) h1) rfl (Nat.le_of_ble_eq_true rfl) rfl dX7_lay_48 h (fun q48 _ h => ?_)
          refine bw_iconst C (v := 1) dX7_lay_51 (by decide) ?_
          exact bw_iret C dX7_lay_52 h
        · refine bw_bipush C (v := (-12)) dX7_lay_41 (by decide) ?_
          exact bw_iret C dX7_lay_43 h
    · refine bw_bipush C (v := (-11)) dX7_lay_25 (by decide) ?_
      exact bw_iret C dX7_lay_27 h
  · refine bw_iconst C (v := (-1)) dX7_lay_7 (by decide) ?_
    exact bw_iret C dX7_lay_8 h
theorem mt7_lay {l : Launch} {G : GX}   {x1 : Int32} {x2 : Int32} {x3 : Int32} {w : Mem} {z : Int32 × Mem} (h : fn7_lay  x1 x2 x3 w = some z) : MC l G shX 71 (eX G) yX7_lay cX7_lay 5 (some .int) rm7_lay [.ref (gad G 0), .int x1, .int x2, .int x3] w z := by
  refine met_of (by decide +kernel) (eX_ok G) rfl (Nat.le_of_ble_eq_true rfl) (fun M hM C => ?_)
  subst hM
  exact bk7_lay C  x1 x2 x3 h
def rm7_read : Room := { frames := 3, cells := 0, slots := 0, locals := 67 }
def fn7_read_51 (x2 : Int32) (x3 : Int32) (x4 : Int32) (x7 : Int32) (s5 : Nat) (k : Int32 → Int32 → Mem → Option (Int32 × Mem)) : Nat → Int32 → Int32 → Mem → Option (Int32 × Mem)
  | 0, _, _, _ => none
  | nn + 1, x6, x8, w => (if x4 ≤ x8 then k x6 x8 w else (if ¬ x6 = 0 then k x6 x8 w else (fn3_faultInThree s5 x2 (x3 + (3 * x8)) w).bind (fun q76 => (if ¬ q76.1 = 0 then fn7_read_51 x2 x3 x4 x7 s5 k nn q76.1 (x8 + 1) q76.2 else (if ib (x3 + (3 * x8)) 40 = true then (if ib ((x3 + (3 * x8)) + 1) 40 = true then (if ib ((x3 + (3 * x8)) + 2) 40 = true then (fn6_addTalk 1 (q76.2 (s5 + 1) (x3 + (3 * x8)).toNatClampNeg) (q76.2 (s5 + 1) ((x3 + (3 * x8)) + 1).toNatClampNeg) (q76.2 (s5 + 1) ((x3 + (3 * x8)) + 2).toNatClampNeg) q76.2).bind (fun q118 => (if 0 ≤ q118.1 then fn7_read_51 x2 x3 x4 x7 s5 k nn q76.1 (x8 + 1) q118.2 else some (((-20) - x8), (up2 q118.2 1 9 x7)))) else none) else none) else none)))))
set_option maxRecDepth 20000 in
theorem bk7_read_51 {M : MX} {G : GX} (C : BC M G shX 71 (eX G) RX7 cX7_read 10 (some .int) rm7_read) {z : Int32 × Mem} (x2 : Int32) (x3 : Int32) (x4 : Int32) (x7 : Int32) (s5 : Nat) (hs5 : isSheetB s5) {k : Int32 → Int32 → Mem → Option (Int32 × Mem)} (hk : ∀ (x6 : Int32) (x8 : Int32) (w : Mem), k x6 x8 w = some z → BW M G shX 71 10 (ZR M G shX 71 (some .int) z) 145 [(0, .ref (gad G 0)), (6, .int x6), (7, .int x7)] [] w) : ∀ (nn : Nat) (x6 : Int32) (x8 : Int32) (w : Mem), fn7_read_51 x2 x3 x4 x7 s5 k nn x6 x8 w = some z → BW M G shX 71 10 (ZR M G shX 71 (some .int) z) 51 [(0, .ref (gad G 0)), (2, .int x2), (3, .int x3), (4, .int x4), (5, .ref (gad G s5)), (6, .int x6), (7, .int x7), (8, .int x8)] [] w := by
  intro nn
  induction nn with
  | zero =>
    intro x6 x8 w h
    have h : (none : Option (Int32 × Mem)) = some z := h
    cases h
  | succ nn ih =>
    intro x6 x8 w h
    rw [fn7_read_51] at h
    refine bw_iload C 7 dX7_read_51 rfl ?_
    refine bw_iload C 3 dX7_read_53 rfl ?_
    refine bw_icmp_ge C (tgt := 145) dX7_read_55 (by decide) h (fun h => ?_) (fun h => ?_)
    · exact bw_sub [0, 5, 6] rfl (hk x6 x8 w h)
    · refine bw_iload C 5 dX7_read_58 rfl ?_
      refine bw_if_ne C (tgt := 145) dX7_read_60 (by decide) h (fun h => ?_) (fun h => ?_)
      · exact bw_sub [0, 5, 6] rfl (hk x6 x8 w h)
      · refine bw_iload_n C 2 dX7_read_63 rfl rfl ?_
        refine bw_iconst C (v := 3) dX7_read_64 (by decide) ?_
        refine bw_iload C 7 dX7_read_65 rfl ?_
        refine bw_imul C dX7_read_67 ?_
        refine bw_iadd C dX7_read_68 ?_
        refine bw_istore C [(9, .int (x3 + (3 * x8))), (0, .ref (gad G 0)), (2, .int x2), (3, .int x3), (4, .int x4), (5, .ref (gad G s5)), (6, .int x6), (7, .int x7), (8, .int x8)] dX7_read_69 (by decide) rfl ?_
        refine bw_aload C 5 dX7_read_71 rfl ?_
        refine bw_iload_n C 2 dX7_read_73 rfl rfl ?_
        refine bw_iload C 0 dX7_read_74 rfl ?_
        refine bw_callVi C (As := [.int x2, .int (x3 + (3 * x8))]) (isS_lt hs5) (isS_sh hs5) rfl miX3_faultInThree mlX7_280 imX3_faultInThree seX3_faultInThree (by decide) rfl rfl (fun z1 h1 => mt3_faultInThree hs5 h1) rfl (Nat.le_of_ble_eq_true rfl) rfl dX7_read_76 h (fun q76 _ h => ?_)
        refine bw_istore C [(6, .int q76.1), (9, .int (x3 + (3 * x8))), (0, .ref (gad G 0)), (2, .int x2), (3, .int x3), (4, .int x4), (5, .ref (gad G s5)), (7, .int x7), (8, .int x8)] dX7_read_79 (by decide) rfl ?_
        refine bw_iload C 0 dX7_read_81 rfl ?_
        refine bw_if_ne C (tgt := 139) dX7_read_83 (by decide) h (fun h => ?_) (fun h => ?_)
        · refine bw_iinc C [(8, .int (x8 + 1)), (6, .int q76.1), (9, .int (x3 + (3 * x8))), (0, .ref (gad G 0)), (2, .int x2), (3, .int x3), (4, .int x4), (5, .ref (gad G s5)), (7, .int x7)] 8 dX7_read_139 rfl rfl (by decide) rfl ?_
          refine bw_goto C (tgt := 51) dX7_read_142 (by decide) ?_
          exact bw_sub [3, 4, 5, 6, 7, 1, 8, 0] rfl (ih q76.1 (x8 + 1) q76.2 h)
        · refine bw_aload_n C 2 dX7_read_86 rfl rfl ?_
          refine bw_getr C (j := 2) (t := 1) lX0 sX0 rfl inlX7 (by decide) rfl flX7_28 dX7_read_87 ?_
          refine bw_aload C 6 dX7_read_90 rfl ?_
          refine bw_getr C (j := 0) (t := (s5 + 1)) (isS_lt hs5) (isS_sh hs5) rfl inlX3 (by decide) rfl flX7_283 dX7_read_92 ?_
          refine bw_iload C 1 dX7_read_95 rfl ?_
          refine bw_iald C (isS_l1 hs5) (isS_s1 hs5) dX7_read_97 h (fun h => ?_)
          refine bw_aload C 6 dX7_read_98 rfl ?_
          refine bw_getr C (j := 0) (t := (s5 + 1)) (isS_lt hs5) (isS_sh hs5) rfl inlX3 (by decide) rfl flX7_283 dX7_read_100 ?_
          refine bw_iload C 1 dX7_read_103 rfl ?_
          refine bw_iconst C (v := 1) dX7_read_105 (by decide) ?_
          refine bw_iadd C dX7_read_106 ?_
          refine bw_iald C (isS_l1 hs5) (isS_s1 hs5) dX7_read_107 h (fun h => ?_)
          refine bw_aload C 6 dX7_read_108 rfl ?_
          refine bw_getr C (j := 0) (t := (s5 + 1)) (isS_lt hs5) (isS_sh hs5) rfl inlX3 (by decide) rfl flX7_283 dX7_read_110 ?_
          refine bw_iload C 1 dX7_read_113 rfl ?_
          refine bw_iconst C (v := 2) dX7_read_115 (by decide) ?_
          refine bw_iadd C dX7_read_116 ?_
          refine bw_iald C (isS_l1 hs5) (isS_s1 hs5) dX7_read_117 h (fun h => ?_)
          refine bw_callVi C (As := [.int (q76.2 (s5 + 1) (x3 + (3 * x8)).toNatClampNeg), .int (q76.2 (s5 + 1) ((x3 + (3 * x8)) + 1).toNatClampNeg), .int (q76.2 (s5 + 1) ((x3 + (3 * x8)) + 2).toNatClampNeg)]) lX1 sX1 rfl miX6_addTalk mlX7_177 imX6_addTalk seX6_addTalk (by decide) rfl rfl (fun z1 h1 => mt6_addTalk isT_1 h1) rfl (Nat.le_of_ble_eq_true rfl) rfl dX7_read_118 h (fun q118 _ h => ?_)
          refine bw_if_ge C (tgt := 139) dX7_read_121 (by decide) h (fun h => ?_) (fun h => ?_)
          · refine bw_iinc C [(8, .int (x8 + 1)), (6, .int q76.1), (9, .int (x3 + (3 * x8))), (0, .ref (gad G 0)), (2, .int x2), (3, .int x3), (4, .int x4), (5, .ref (gad G s5)), (7, .int x7)] 8 dX7_read_139 rfl rfl (by decide) rfl ?_
            refine bw_goto C (tgt := 51) dX7_read_142 (by decide) ?_
            exact bw_sub [3, 4, 5, 6, 7, 1, 8, 0] rfl (ih q76.1 (x8 + 1) q118.2 h)
          · refine bw_aload_n C 2 dX7_read_124 rfl rfl ?_
            refine bw_getr C (j := 2) (t := 1) lX0 sX0 rfl inlX7 (by decide) rfl flX7_28 dX7_read_125 ?_
            refine bw_iload C 7 dX7_read_128 rfl ?_
            refine bw_puti C (j := 9) (ty := .int) lX1 sX1 rfl inlX6 (by decide) tyX6 tyX6_ok nmX6 rfl flX7_113 rfl (by decide +kernel) rfl rfl dX7_read_130 ?_
            refine bw_bipush C (v := (-20)) dX7_read_133 (by decide) ?_
            refine bw_iload C 8 dX7_read_135 rfl ?_
            refine bw_isub C dX7_read_137 ?_
            exact bw_iret C dX7_read_138 h
def fn7_read_145 (x6 : Int32) (x7 : Int32) (w : Mem) : Option (Int32 × Mem) := some ((((up2 w 0 9 x6) 1 9) - x7), (up2 w 0 9 x6))
set_option maxRecDepth 20000 in
theorem bk7_read_145 {M : MX} {G : GX} (C : BC M G shX 71 (eX G) RX7 cX7_read 10 (some .int) rm7_read) {z : Int32 × Mem} (x6 : Int32) (x7 : Int32) {w : Mem} (h : fn7_read_145 x6 x7 w = some z) : BW M G shX 71 10 (ZR M G shX 71 (some .int) z) 145 [(0, .ref (gad G 0)), (6, .int x6), (7, .int x7)] [] w := by
  rw [fn7_read_145] at h
  refine bw_aload_n C 0 dX7_read_145 rfl rfl ?_
  refine bw_iload C 1 dX7_read_146 rfl ?_
  refine bw_puti C (j := 9) (ty := .int) lX0 sX0 rfl inlX7 (by decide) tyX7 tyX7_ok nmX7 rfl flX7_286 rfl (by decide +kernel) rfl rfl dX7_read_148 ?_
  refine bw_aload_n C 0 dX7_read_151 rfl rfl ?_
  refine bw_getr C (j := 2) (t := 1) lX0 sX0 rfl inlX7 (by decide) rfl flX7_28 dX7_read_152 ?_
  refine bw_geti C (j := 9) lX1 sX1 rfl inlX6 (by decide) rfl flX7_113 dX7_read_155 ?_
  refine bw_iload C 2 dX7_read_158 rfl ?_
  refine bw_isub C dX7_read_160 ?_
  exact bw_iret C dX7_read_161 h
def fn7_read  (x1 : Int32) (x2 : Int32) (x3 : Int32) (x4 : Int32) (w : Mem) : Option (Int32 × Mem) := (fn7_isSheet x1 w).bind (fun q1 => (if q1.1 = 0 then some ((-1), q1.2) else (fn7_isLane x2 q1.2).bind (fun q8 => (if q8.1 = 0 then some ((-1), q8.2) else (if x4 < 0 then some ((-1), q8.2) else (if x4 ≤ 13 then (if ib x1 ([45, 47, 49, 51] : List Nat).length = true then fn7_read_51 x2 x3 x4 (q8.2 1 9) ([45, 47, 49, 51].getD x1.toNatClampNeg 0) (fun x6_51 x8_51 w_51 => fn7_read_145 x6_51 (q8.2 1 9) w_51) 1000 0 0 q8.2 else none) else some ((-1), q8.2)))))))
set_option maxRecDepth 20000 in
theorem bk7_read {M : MX} {G : GX} (C : BC M G shX 71 (eX G) RX7 cX7_read 10 (some .int) rm7_read) {z : Int32 × Mem}   (x1 : Int32) (x2 : Int32) (x3 : Int32) (x4 : Int32) {w : Mem} (h : fn7_read  x1 x2 x3 x4 w = some z) : BW M G shX 71 10 (ZR M G shX 71 (some .int) z) 0 [(0, .ref (gad G 0)), (1, .int x1), (2, .int x2), (3, .int x3), (4, .int x4)] [] w := by
  rw [fn7_read] at h
  refine bw_iload_n C 1 dX7_read_0 rfl rfl ?_
  refine bw_callSi C (As := [.int x1]) miX7_isSheet mlX7_262 smX7_isSheet (by decide) rfl rfl (fun z1 h1 => mt7_isSheet h1) rfl (Nat.le_of_ble_eq_true rfl) rfl dX7_read_1 h (fun q1 _ h => ?_)
  refine bw_if_eq C (tgt := 26) dX7_read_4 (by decide) h (fun h => ?_) (fun h => ?_)
  · refine bw_iconst C (v := (-1)) dX7_read_26 (by decide) ?_
    exact bw_iret C dX7_read_27 h
  · refine bw_iload_n C 2 dX7_read_7 rfl rfl ?_
    refine bw_callSi C (As := [.int x2]) miX7_isLane mlX7_265 smX7_isLane (by decide) rfl rfl (fun z1 h1 => mt7_isLane h1) rfl (Nat.le_of_ble_eq_true rfl) rfl dX7_read_8 h (fun q8 _ h => ?_)
    refine bw_if_eq C (tgt := 26) dX7_read_11 (by decide) h (fun h => ?_) (fun h => ?_)
    · refine bw_iconst C (v := (-1)) dX7_read_26 (by decide) ?_
      exact bw_iret C dX7_read_27 h
    · refine bw_iload C 4 dX7_read_14 rfl ?_
      refine bw_if_lt C (tgt := 26) dX7_read_16 (by decide) h (fun h => ?_) (fun h => ?_)
      · refine bw_iconst C (v := (-1)) dX7_read_26 (by decide) ?_
        exact bw_iret C dX7_read_27 h
      · refine bw_iload C 4 dX7_read_19 rfl ?_
        refine bw_bipush C (v := 13) dX7_read_21 (by decide) ?_
        refine bw_icmp_le C (tgt := 28) dX7_read_23 (by decide) h (fun h => ?_) (fun h => ?_)
        · refine bw_aload_n C 0 dX7_read_28 rfl rfl ?_
          refine bw_getr C (j := 8) (t := 70) lX0 sX0 rfl inlX7 (by decide) rfl flX7_65 dX7_read_29 ?_
          refine bw_iload_n C 1 dX7_read_32 rfl rfl ?_
          refine bw_aald C (ts := [45, 47, 49, 51]) lX70 sX70 rfl dX7_read_33 h (fun hi33 h => ?_)
          refine bw_astore C [(5, .ref (gad G ([45, 47, 49, 51].getD x1.toNatClampNeg 0))), (0, .ref (gad G 0)), (1, .int x1), (2, .int x2), (3, .int x3), (4, .int x4)] dX7_read_34 (by decide) rfl ?_
          refine bw_iconst C (v := 0) dX7_read_36 (by decide) ?_
          refine bw_istore C [(6, .int 0), (5, .ref (gad G ([45, 47, 49, 51].getD x1.toNatClampNeg 0))), (0, .ref (gad G 0)), (1, .int x1), (2, .int x2), (3, .int x3), (4, .int x4)] dX7_read_37 (by decide) rfl ?_
          refine bw_aload_n C 2 dX7_read_39 rfl rfl ?_
          refine bw_getr C (j := 2) (t := 1) lX0 sX0 rfl inlX7 (by decide) rfl flX7_28 dX7_read_40 ?_
          refine bw_geti C (j := 9) lX1 sX1 rfl inlX6 (by decide) rfl flX7_113 dX7_read_43 ?_
          refine bw_istore C [(7, .int (q8.2 1 9)), (6, .int 0), (5, .ref (gad G ([45, 47, 49, 51].getD x1.toNatClampNeg 0))), (0, .ref (gad G 0)), (1, .int x1), (2, .int x2), (3, .int x3), (4, .int x4)] dX7_read_46 (by decide) rfl ?_
          refine bw_iconst C (v := 0) dX7_read_48 (by decide) ?_
          refine bw_istore C [(8, .int 0), (7, .int (q8.2 1 9)), (6, .int 0), (5, .ref (gad G ([45, 47, 49, 51].getD x1.toNatClampNeg 0))), (0, .ref (gad G 0)), (1, .int x1), (2, .int x2), (3, .int x3), (4, .int x4)] dX7_read_49 (by decide) rfl ?_
          refine bw_sub [4, 6, 7, 8, 3, 2, 1, 0] rfl (bk7_read_51 C x2 x3 x4 (q8.2 1 9) ([45, 47, 49, 51].getD x1.toNatClampNeg 0) (isS_arr hi33) (fun x6_51 x8_51 w_51 h => ?_) 1000 0 0 q8.2 h)
          exact bw_sub [0, 1, 2] rfl (bk7_read_145 C x6_51 (q8.2 1 9) h)
        · refine bw_iconst C (v := (-1)) dX7_read_26 (by decide) ?_
          exact bw_iret C dX7_read_27 h
theorem mt7_read {l : Launch} {G : GX}   {x1 : Int32} {x2 : Int32} {x3 : Int32} {x4 : Int32} {w : Mem} {z : Int32 × Mem} (h : fn7_read  x1 x2 x3 x4 w = some z) : MC l G shX 71 (eX G) yX7_read cX7_read 10 (some .int) rm7_read [.ref (gad G 0), .int x1, .int x2, .int x3, .int x4] w z := by
  refine met_of (by decide +kernel) (eX_ok G) rfl (Nat.le_of_ble_eq_true rfl) (fun M hM C => ?_)
  subst hM
  exact bk7_read C  x1 x2 x3 x4 h
def rm7_torn : Room := { frames := 0, cells := 0, slots := 0, locals := 0 }
def fn7_torn   (w : Mem) : Option (Int32 × Mem) := some ((w 0 9), w)
set_option maxRecDepth 20000 in
theorem bk7_torn {M : MX} {G : GX} (C : BC M G shX 71 (eX G) RX7 cX7_torn 1 (some .int) rm7_torn) {z : Int32 × Mem}    {w : Mem} (h : fn7_torn   w = some z) : BW M G shX 71 1 (ZR M G shX 71 (some .int) z) 0 [(0, .ref (gad G 0))] [] w := by
  rw [fn7_torn] at h
  refine bw_aload_n C 0 dX7_torn_0 rfl rfl ?_
  refine bw_geti C (j := 9) lX0 sX0 rfl inlX7 (by decide) rfl flX7_286 dX7_torn_1 ?_
  exact bw_iret C dX7_torn_4 h
theorem mt7_torn {l : Launch} {G : GX}    {w : Mem} {z : Int32 × Mem} (h : fn7_torn   w = some z) : MC l G shX 71 (eX G) yX7_torn cX7_torn 1 (some .int) rm7_torn [.ref (gad G 0)] w z := by
  refine met_of (by decide +kernel) (eX_ok G) rfl (Nat.le_of_ble_eq_true rfl) (fun M hM C => ?_)
  subst hM
  exact bk7_torn C   h
def rm7_count : Room := { frames := 2, cells := 0, slots := 0, locals := 43 }
def fn7_count  (x1 : Int32) (w : Mem) : Option (Int32 × Mem) := (if x1 = 0 then (fn6_spentCoins 1 w).bind (fun q48 => some (q48.1, q48.2)) else (if x1 = 1 then some ((w 56 0), w) else (if x1 = 2 then some ((w 64 0), w) else (if x1 = 3 then (if ib 0 2 = true then (fn7_oneIf (w 69 (0 : Int32).toNatClampNeg) w).bind (fun q74 => (if ib 1 2 = true then (fn7_oneIf (q74.2 69 (1 : Int32).toNatClampNeg) q74.2).bind (fun q83 => some ((q74.1 + q83.1), q83.2)) else none)) else none) else (if x1 = 4 then some ((w 53 1), w) else (if x1 = 5 then (if ib 0 ([45, 47, 49, 51] : List Nat).length = true then (fn3_isNothing ([45, 47, 49, 51].getD (0 : Int32).toNatClampNeg 0) w).bind (fun q102 => (if q102.1 = 0 then (if ib 0 ([45, 47, 49, 51] : List Nat).length = true then some ((q102.2 ([45, 47, 49, 51].getD (0 : Int32).toNatClampNeg 0) 1), q102.2) else none) else some ((-4), q102.2))) else none) else (if x1 = 6 then (fn6_unspentWorths 1 w).bind (fun q127 => some (q127.1, q127.2)) else some ((-1), w))))))))
set_option maxRecDepth 20000 in
theorem bk7_count {M : MX} {G : GX} (C : BC M G shX 71 (eX G) RX7 cX7_count 2 (some .int) rm7_count) {z : Int32 × Mem}   (x1 : Int32) {w : Mem} (h : fn7_count  x1 w = some z) : BW M G shX 71 2 (ZR M G shX 71 (some .int) z) 0 [(0, .ref (gad G 0)), (1, .int x1)] [] w := by
  rw [fn7_count] at h
  refine bw_iload_n C 1 dX7_count_0 rfl rfl ?_
  refine bw_case h (fun hx h => ?_) (fun hn0 h => ?_)
  · refine bw_tsIn C (tgt := 44) (v := 0) dX7_count_1 hx (by decide) (by decide) rfl (by decide) ?_
    refine bw_aload_n C 0 dX7_count_44 rfl rfl ?_
    refine bw_getr C (j := 2) (t := 1) lX0 sX0 rfl inlX7 (by decide) rfl flX7_28 dX7_count_45 ?_
    refine bw_callVi C (As := []) lX1 sX1 rfl miX6_spentCoins mlX7_289 imX6_spentCoins seX6_spentCoins (by decide) rfl rfl (fun z1 h1 => mt6_spentCoins isT_1 h1) rfl (Nat.le_of_ble_eq_true rfl) rfl dX7_count_48 h (fun q48 _ h => ?_)
    exact bw_iret C dX7_count_51 h
  · refine bw_case h (fun hx h => ?_) (fun hn1 h => ?_)
    · refine bw_tsIn C (tgt := 52) (v := 1) dX7_count_1 hx (by decide) (by decide) rfl (by decide) ?_
      refine bw_aload_n C 0 dX7_count_52 rfl rfl ?_
      refine bw_getr C (j := 3) (t := 56) lX0 sX0 rfl inlX7 (by decide) rfl flX7_37 dX7_count_53 ?_
      refine bw_geti C (j := 0) lX56 sX56 rfl inlX2 (by decide) rfl flX7_95 dX7_count_56 ?_
      exact bw_iret C dX7_count_59 h
    · refine bw_case h (fun hx h => ?_) (fun hn2 h => ?_)
      · refine bw_tsIn C (tgt := 60) (v := 2) dX7_count_1 hx (by decide) (by decide) rfl (by decide) ?_
        refine bw_aload_n C 0 dX7_count_60 rfl rfl ?_
        refine bw_getr C (j := 5) (t := 64) lX0 sX0 rfl inlX7 (by decide) rfl flX7_51 dX7_count_61 ?_
        refine bw_geti C (j := 0) lX64 sX64 rfl inlX1 (by decide) rfl flX7_98 dX7_count_64 ?_
        exact bw_iret C dX7_count_67 h
      · refine bw_case h (fun hx h => ?_) (fun hn3 h => ?_)
        · refine bw_tsIn C (tgt := 68) (v := 3) dX7_count_1 hx (by decide) (by decide) rfl (by decide) ?_
          refine bw_aload_n C 0 dX7_count_68 rfl rfl ?_
          refine bw_getr C (j := 7) (t := 69) lX0 sX0 rfl inlX7 (by decide) rfl flX7_59 dX7_count_69 ?_
          refine bw_iconst C (v := 0) dX7_count_72 (by decide) ?_
          refine bw_zald C lX69 sX69 dX7_count_73 h (fun h => ?_)
          refine bw_callSi C (As := [.int (w 69 (0 : Int32).toNatClampNeg)]) miX7_oneIf mlX7_148 smX7_oneIf (by decide) rfl rfl (fun z1 h1 => mt7_oneIf h1) rfl (Nat.le_of_ble_eq_true rfl) rfl dX7_count_74 h (fun q74 _ h => ?_)
          refine bw_aload_n C 0 dX7_count_77 rfl rfl ?_
          refine bw_getr C (j := 7) (t := 69) lX0 sX0 rfl inlX7 (by decide) rfl flX7_59 dX7_count_78 ?_
          refine bw_iconst C (v := 1) dX7_count_81 (by decide) ?_
          refine bw_zald C lX69 sX69 dX7_count_82 h (fun h => ?_)
          refine bw_callSi C (As := [.int (q74.2 69 (1 : Int32).toNatClampNeg)]) miX7_oneIf mlX7_148 smX7_oneIf (by decide) rfl rfl (fun z1 h1 => mt7_oneIf h1) rfl (Nat.le_of_ble_eq_true rfl) rfl dX7_count_83 h (fun q83 _ h => ?_)
          refine bw_iadd C dX7_count_86 ?_
          exact bw_iret C dX7_count_87 h
        · refine bw_case h (fun hx h => ?_) (fun hn4 h => ?_)
          · refine bw_tsIn C (tgt := 88) (v := 4) dX7_count_1 hx (by decide) (by decide) rfl (by decide) ?_
            refine bw_aload_n C 0 dX7_count_88 rfl rfl ?_
            refine bw_getr C (j := 0) (t := 53) lX0 sX0 rfl inlX7 (by decide) rfl flX7_10 dX7_count_89 ?_
            refine bw_geti C (j := 1) lX53 sX53 rfl inlX4 (by decide) rfl flX7_82 dX7_count_92 ?_
            exact bw_iret C dX7_count_95 h
          · refine bw_case h (fun hx h => ?_) (fun hn5 h => ?_)
            · refine bw_tsIn C (tgt := 96) (v := 5) dX7_count_1 hx (by decide) (by decide) rfl (by decide) ?_
              refine bw_aload_n C 0 dX7_count_96 rfl rfl ?_
              refine bw_getr C (j := 8) (t := 70) lX0 sX0 rfl inlX7 (by decide) rfl flX7_65 dX7_count_97 ?_
              refine bw_iconst C (v := 0) dX7_count_100 (by decide) ?_
              refine bw_aald C (ts := [45, 47, 49, 51]) lX70 sX70 rfl dX7_count_101 h (fun hi101 h => ?_)
              refine bw_callVi C (As := []) (isS_lt (isS_arr hi101)) (isS_sh (isS_arr hi101)) rfl miX3_isNothing mlX7_271 imX3_isNothing seX3_isNothing (by decide) rfl rfl (fun z1 h1 => mt3_isNothing (isS_arr hi101) h1) rfl (Nat.le_of_ble_eq_true rfl) rfl dX7_count_102 h (fun q102 _ h => ?_)
              refine bw_if_eq C (tgt := 113) dX7_count_105 (by decide) h (fun h => ?_) (fun h => ?_)
              · refine bw_aload_n C 0 dX7_count_113 rfl rfl ?_
                refine bw_getr C (j := 8) (t := 70) lX0 sX0 rfl inlX7 (by decide) rfl flX7_65 dX7_count_114 ?_
                refine bw_iconst C (v := 0) dX7_count_117 (by decide) ?_
                refine bw_aald C (ts := [45, 47, 49, 51]) lX70 sX70 rfl dX7_count_118 h (fun hi118 h => ?_)
                refine bw_geti C (j := 1) (isS_lt (isS_arr hi118)) (isS_sh (isS_arr hi118)) rfl inlX3 (by decide) rfl flX7_274 dX7_count_119 ?_
                exact bw_iret C dX7_count_122 h
              · refine bw_bipush C (v := (-4)) dX7_count_108 (by decide) ?_
                refine bw_goto C (tgt := 122) dX7_count_110 (by decide) ?_
                exact bw_iret C dX7_count_122 h
            · refine bw_case h (fun hx h => ?_) (fun hn6 h => ?_)
              · refine bw_tsIn C (tgt := 123) (v := 6) dX7_count_1 hx (by decide) (by decide) rfl (by decide) ?_
                refine bw_aload_n C 0 dX7_count_123 rfl rfl ?_
                refine bw_getr C (j := 2) (t := 1) lX0 sX0 rfl inlX7 (by decide) rfl flX7_28 dX7_count_124 ?_
                refine bw_callVi C (As := []) lX1 sX1 rfl miX6_unspentWorths mlX7_292 imX6_unspentWorths seX6_unspentWorths (by decide) rfl rfl (fun z1 h1 => mt6_unspentWorths isT_1 h1) rfl (Nat.le_of_ble_eq_true rfl) rfl dX7_count_127 h (fun q127 _ h => ?_)
                exact bw_iret C dX7_count_130 h
              · refine bw_tsOut C (tgt := 131) dX7_count_1 (sw_out (lo := 0) (hi := 6) (fun q h1 h2 => ?_)) (by decide) ?_
                · rcases (show q = 0 ∨ q = 1 ∨ q = 2 ∨ q = 3 ∨ q = 4 ∨ q = 5 ∨ q = 6 by omega) with e | e | e | e | e | e | e
                  · exact fun g => hn0 (sw_eq g (by rw [e]; decide))
                  · exact fun g => hn1 (sw_eq g (by rw [e]; decide))
                  · exact fun g => hn2 (sw_eq g (by rw [e]; decide))
                  · exact fun g => hn3 (sw_eq g (by rw [e]; decide))
                  · exact fun g => hn4 (sw_eq g (by rw [e]; decide))
                  · exact fun g => hn5 (sw_eq g (by rw [e]; decide))
                  · exact fun g => hn6 (sw_eq g (by rw [e]; decide))
                · refine bw_iconst C (v := (-1)) dX7_count_131 (by decide) ?_
                  exact bw_iret C dX7_count_132 h
theorem mt7_count {l : Launch} {G : GX}   {x1 : Int32} {w : Mem} {z : Int32 × Mem} (h : fn7_count  x1 w = some z) : MC l G shX 71 (eX G) yX7_count cX7_count 2 (some .int) rm7_count [.ref (gad G 0), .int x1] w z := by
  refine met_of (by decide +kernel) (eX_ok G) rfl (Nat.le_of_ble_eq_true rfl) (fun M hM C => ?_)
  subst hM
  exact bk7_count C  x1 h
