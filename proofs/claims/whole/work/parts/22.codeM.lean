def rm8_fee : Room := { frames := 1, cells := 0, slots := 0, locals := 25 }
def fn8_fee  (x1 : Int32) (w : Mem) : Option (Int32 × Mem) := (fn8_in ((x1 : Int32).toInt64) 0 9 w).bind (fun q6 => (if ¬ q6.1 = 0 then (fn8_feeNow q6.2).bind (fun q15 => (if ib 56 228 = true then some (q15.1, (up2 q15.2 1 (56 : Int32).toNatClampNeg (x1 - 1))) else none)) else some ((-1), q6.2)))
set_option maxRecDepth 20000 in
theorem bk8_fee {M : MX} {G : GX} (C : BC M G shM 19 eM RX8 cX8_fee 3 (some .int) rm8_fee) {z : Int32 × Mem}   (x1 : Int32) {w : Mem} (h : fn8_fee  x1 w = some z) : BW M G shM 19 3 (ZR M G shM 19 (some .int) z) 0 [(0, .ref (gad G 0)), (1, .int x1)] [] w := by
  rw [fn8_fee] at h
  refine bw_iload_n C 1 dX8_fee_0 rfl rfl ?_
  refine bw_i2l C dX8_fee_1 rfl ?_
  refine bw_lconst C (v := 0) dX8_fee_2 (by decide) ?_
  refine bw_ldc2 C dX8_fee_3 clX8_228 ?_
  refine bw_callSi C (As := [.long ((x1 : Int32).toInt64), .long 0, .long 9]) miX8_in mlX8_69 smX8_in (by decide) rfl rfl (fun z1 h1 => mt8_in h1) rfl (Nat.le_of_ble_eq_true rfl) rfl dX8_fee_6 h (fun q6 _ h => ?_)
  refine bw_if_ne C (tgt := 14) dX8_fee_9 (by decide) h (fun h => ?_) (fun h => ?_)
  · refine bw_aload_n C 0 dX8_fee_14 rfl rfl ?_
    refine bw_callVi C (As := []) lM0 sM0 rfl miX8_feeNow mlX8_183 imX8_feeNow seX8_feeNow (by decide) rfl rfl (fun z1 h1 => mt8_feeNow h1) rfl (Nat.le_of_ble_eq_true rfl) rfl dX8_fee_15 h (fun q15 _ h => ?_)
    refine bw_istore_n C [(2, .int q15.1), (0, .ref (gad G 0)), (1, .int x1)] dX8_fee_18 rfl (by decide) rfl ?_
    refine bw_aload_n C 1 dX8_fee_19 rfl rfl ?_
    refine bw_getr C (j := 0) (t := 1) lM0 sM0 rfl inlX8 (by decide) rfl flX8_7 dX8_fee_20 ?_
    refine bw_bipush C (v := 56) dX8_fee_23 (by decide) ?_
    refine bw_iload_n C 2 dX8_fee_25 rfl rfl ?_
    refine bw_iconst C (v := 1) dX8_fee_26 (by decide) ?_
    refine bw_isub C dX8_fee_27 ?_
    refine bw_iast C lM1 sM1 dX8_fee_28 h (fun h => ?_)
    refine bw_iload_n C 0 dX8_fee_29 rfl rfl ?_
    exact bw_iret C dX8_fee_30 h
  · refine bw_iconst C (v := (-1)) dX8_fee_12 (by decide) ?_
    exact bw_iret C dX8_fee_13 h
theorem mt8_fee {l : Launch} {G : GX}   {x1 : Int32} {w : Mem} {z : Int32 × Mem} (h : fn8_fee  x1 w = some z) : MC l G shM 19 eM yX8_fee cX8_fee 3 (some .int) rm8_fee [.ref (gad G 0), .int x1] w z := by
  refine met_of (by decide +kernel) (eM_ok _) rfl (Nat.le_of_ble_eq_true rfl) (fun M hM C => ?_)
  subst hM
  exact bk8_fee C  x1 h
def rm8_give : Room := { frames := 2, cells := 0, slots := 0, locals := 46 }
def fn8_give  (x1 : Int32) (x2 : Int32) (w : Mem) : Option (Int32 × Mem) := (fn8_isCoin x1 w).bind (fun q2 => (if q2.1 = 0 then some ((-1), q2.2) else (fn8_isOne x2 q2.2).bind (fun q10 => (if ¬ q10.1 = 0 then (fn8_isSpent x1 q10.2).bind (fun q20 => (if q20.1 = 0 then (fn8_ownerOf x1 q20.2).bind (fun q31 => (if ib ((4 * x1) + 1) 228 = true then some (q31.1, (up2 q31.2 1 ((4 * x1) + 1).toNatClampNeg x2)) else none)) else some ((-2), q20.2))) else some ((-1), q10.2)))))
set_option maxRecDepth 20000 in
theorem bk8_give {M : MX} {G : GX} (C : BC M G shM 19 eM RX8 cX8_give 4 (some .int) rm8_give) {z : Int32 × Mem}   (x1 : Int32) (x2 : Int32) {w : Mem} (h : fn8_give  x1 x2 w = some z) : BW M G shM 19 4 (ZR M G shM 19 (some .int) z) 0 [(0, .ref (gad G 0)), (1, .int x1), (2, .int x2)] [] w := by
  rw [fn8_give] at h
  refine bw_aload_n C 0 dX8_give_0 rfl rfl ?_
  refine bw_iload_n C 1 dX8_give_1 rfl rfl ?_
  refine bw_callVi C (As := [.int x1]) lM0 sM0 rfl miX8_isCoin mlX8_191 imX8_isCoin seX8_isCoin (by decide) rfl rfl (fun z1 h1 => mt8_isCoin h1) rfl (Nat.le_of_ble_eq_true rfl) rfl dX8_give_2 h (fun q2 _ h => ?_)
  refine bw_if_eq C (tgt := 16) dX8_give_5 (by decide) h (fun h => ?_) (fun h => ?_)
  · refine bw_iconst C (v := (-1)) dX8_give_16 (by decide) ?_
    exact bw_iret C dX8_give_17 h
  · refine bw_aload_n C 0 dX8_give_8 rfl rfl ?_
    refine bw_iload_n C 2 dX8_give_9 rfl rfl ?_
    refine bw_callVi C (As := [.int x2]) lM0 sM0 rfl miX8_isOne mlX8_180 imX8_isOne seX8_isOne (by decide) rfl rfl (fun z1 h1 => mt8_isOne h1) rfl (Nat.le_of_ble_eq_true rfl) rfl dX8_give_10 h (fun q10 _ h => ?_)
    refine bw_if_ne C (tgt := 18) dX8_give_13 (by decide) h (fun h => ?_) (fun h => ?_)
    · refine bw_aload_n C 0 dX8_give_18 rfl rfl ?_
      refine bw_iload_n C 1 dX8_give_19 rfl rfl ?_
      refine bw_callVi C (As := [.int x1]) lM0 sM0 rfl miX8_isSpent mlX8_203 imX8_isSpent seX8_isSpent (by decide) rfl rfl (fun z1 h1 => mt8_isSpent h1) rfl (Nat.le_of_ble_eq_true rfl) rfl dX8_give_20 h (fun q20 _ h => ?_)
      refine bw_if_eq C (tgt := 29) dX8_give_23 (by decide) h (fun h => ?_) (fun h => ?_)
      · refine bw_aload_n C 0 dX8_give_29 rfl rfl ?_
        refine bw_iload_n C 1 dX8_give_30 rfl rfl ?_
        refine bw_callVi C (As := [.int x1]) lM0 sM0 rfl miX8_ownerOf mlX8_196 imX8_ownerOf seX8_ownerOf (by decide) rfl rfl (fun z1 h1 => mt8_ownerOf h1) rfl (Nat.le_of_ble_eq_true rfl) rfl dX8_give_31 h (fun q31 _ h => ?_)
        refine bw_istore_n C [(3, .int q31.1), (0, .ref (gad G 0)), (1, .int x1), (2, .int x2)] dX8_give_34 rfl (by decide) rfl ?_
        refine bw_aload_n C 1 dX8_give_35 rfl rfl ?_
        refine bw_getr C (j := 0) (t := 1) lM0 sM0 rfl inlX8 (by decide) rfl flX8_7 dX8_give_36 ?_
        refine bw_iconst C (v := 4) dX8_give_39 (by decide) ?_
        refine bw_iload_n C 2 dX8_give_40 rfl rfl ?_
        refine bw_imul C dX8_give_41 ?_
        refine bw_iconst C (v := 1) dX8_give_42 (by decide) ?_
        refine bw_iadd C dX8_give_43 ?_
        refine bw_iload_n C 3 dX8_give_44 rfl rfl ?_
        refine bw_iast C lM1 sM1 dX8_give_45 h (fun h => ?_)
        refine bw_iload_n C 0 dX8_give_46 rfl rfl ?_
        exact bw_iret C dX8_give_47 h
      · refine bw_bipush C (v := (-2)) dX8_give_26 (by decide) ?_
        exact bw_iret C dX8_give_28 h
    · refine bw_iconst C (v := (-1)) dX8_give_16 (by decide) ?_
      exact bw_iret C dX8_give_17 h
theorem mt8_give {l : Launch} {G : GX}   {x1 : Int32} {x2 : Int32} {w : Mem} {z : Int32 × Mem} (h : fn8_give  x1 x2 w = some z) : MC l G shM 19 eM yX8_give cX8_give 4 (some .int) rm8_give [.ref (gad G 0), .int x1, .int x2] w z := by
  refine met_of (by decide +kernel) (eM_ok _) rfl (Nat.le_of_ble_eq_true rfl) (fun M hM C => ?_)
  subst hM
  exact bk8_give C  x1 x2 h
def rm8_clip : Room := { frames := 2, cells := 0, slots := 0, locals := 46 }
def fn8_clip  (x1 : Int32) (w : Mem) : Option (Int32 × Mem) := (fn8_isCoin x1 w).bind (fun q2 => (if ¬ q2.1 = 0 then (if ib ((4 * x1) + 2) 228 = true then (if ib ((4 * x1) + 2) 228 = true then some ((1 - (q2.2 1 ((4 * x1) + 2).toNatClampNeg)), (up2 q2.2 1 ((4 * x1) + 2).toNatClampNeg 1)) else none) else none) else some ((-1), q2.2)))
set_option maxRecDepth 20000 in
theorem bk8_clip {M : MX} {G : GX} (C : BC M G shM 19 eM RX8 cX8_clip 3 (some .int) rm8_clip) {z : Int32 × Mem}   (x1 : Int32) {w : Mem} (h : fn8_clip  x1 w = some z) : BW M G shM 19 3 (ZR M G shM 19 (some .int) z) 0 [(0, .ref (gad G 0)), (1, .int x1)] [] w := by
  rw [fn8_clip] at h
  refine bw_aload_n C 0 dX8_clip_0 rfl rfl ?_
  refine bw_iload_n C 1 dX8_clip_1 rfl rfl ?_
  refine bw_callVi C (As := [.int x1]) lM0 sM0 rfl miX8_isCoin mlX8_191 imX8_isCoin seX8_isCoin (by decide) rfl rfl (fun z1 h1 => mt8_isCoin h1) rfl (Nat.le_of_ble_eq_true rfl) rfl dX8_clip_2 h (fun q2 _ h => ?_)
  refine bw_if_ne C (tgt := 10) dX8_clip_5 (by decide) h (fun h => ?_) (fun h => ?_)
  · refine bw_aload_n C 0 dX8_clip_10 rfl rfl ?_
    refine bw_getr C (j := 0) (t := 1) lM0 sM0 rfl inlX8 (by decide) rfl flX8_7 dX8_clip_11 ?_
    refine bw_iconst C (v := 4) dX8_clip_14 (by decide) ?_
    refine bw_iload_n C 1 dX8_clip_15 rfl rfl ?_
    refine bw_imul C dX8_clip_16 ?_
    refine bw_iconst C (v := 2) dX8_clip_17 (by decide) ?_
    refine bw_iadd C dX8_clip_18 ?_
    refine bw_iald C lM1 sM1 dX8_clip_19 h (fun h => ?_)
    refine bw_istore_n C [(2, .int (q2.2 1 ((4 * x1) + 2).toNatClampNeg)), (0, .ref (gad G 0)), (1, .int x1)] dX8_clip_20 rfl (by decide) rfl ?_
    refine bw_aload_n C 1 dX8_clip_21 rfl rfl ?_
    refine bw_getr C (j := 0) (t := 1) lM0 sM0 rfl inlX8 (by decide) rfl flX8_7 dX8_clip_22 ?_
    refine bw_iconst C (v := 4) dX8_clip_25 (by decide) ?_
    refine bw_iload_n C 2 dX8_clip_26 rfl rfl ?_
    refine bw_imul C dX8_clip_27 ?_
    refine bw_iconst C (v := 2) dX8_clip_28 (by decide) ?_
    refine bw_iadd C dX8_clip_29 ?_
    refine bw_iconst C (v := 1) dX8_clip_30 (by decide) ?_
    refine bw_iast C lM1 sM1 dX8_clip_31 h (fun h => ?_)
    refine bw_iconst C (v := 1) dX8_clip_32 (by decide) ?_
    refine bw_iload_n C 0 dX8_clip_33 rfl rfl ?_
    refine bw_isub C dX8_clip_34 ?_
    exact bw_iret C dX8_clip_35 h
  · refine bw_iconst C (v := (-1)) dX8_clip_8 (by decide) ?_
    exact bw_iret C dX8_clip_9 h
theorem mt8_clip {l : Launch} {G : GX}   {x1 : Int32} {w : Mem} {z : Int32 × Mem} (h : fn8_clip  x1 w = some z) : MC l G shM 19 eM yX8_clip cX8_clip 3 (some .int) rm8_clip [.ref (gad G 0), .int x1] w z := by
  refine met_of (by decide +kernel) (eM_ok _) rfl (Nat.le_of_ble_eq_true rfl) (fun M hM C => ?_)
  subst hM
  exact bk8_clip C  x1 h
def rm8_spend : Room := { frames := 2, cells := 0, slots := 0, locals := 46 }
def fn8_spend  (x1 : Int32) (x2 : Int32) (w : Mem) : Option (Int32 × Mem) := (fn8_isCoin x1 w).bind (fun q2 => (if q2.1 = 0 then some ((-1), q2.2) else (fn8_isHour x2 q2.2).bind (fun q9 => (if ¬ q9.1 = 0 then (fn8_isSpent x1 q9.2).bind (fun q19 => (if q19.1 = 0 then (if ib ((4 * x1) + 3) 228 = true then (fn8_ownerOf x1 (up2 q19.2 1 ((4 * x1) + 3).toNatClampNeg (x2 + 1))).bind (fun q45 => (fn8_lengthBy x1 q45.1 q45.2).bind (fun q48 => some (q48.1, q48.2))) else none) else some ((-2), q19.2))) else some ((-1), q9.2)))))
set_option maxRecDepth 20000 in
theorem bk8_spend {M : MX} {G : GX} (C : BC M G shM 19 eM RX8 cX8_spend 3 (some .int) rm8_spend) {z : Int32 × Mem}   (x1 : Int32) (x2 : Int32) {w : Mem} (h : fn8_spend  x1 x2 w = some z) : BW M G shM 19 3 (ZR M G shM 19 (some .int) z) 0 [(0, .ref (gad G 0)), (1, .int x1), (2, .int x2)] [] w := by
  rw [fn8_spend] at h
  refine bw_aload_n C 0 dX8_spend_0 rfl rfl ?_
  refine bw_iload_n C 1 dX8_spend_1 rfl rfl ?_
  refine bw_callVi C (As := [.int x1]) lM0 sM0 rfl miX8_isCoin mlX8_191 imX8_isCoin seX8_isCoin (by decide) rfl rfl (fun z1 h1 => mt8_isCoin h1) rfl (Nat.le_of_ble_eq_true rfl) rfl dX8_spend_2 h (fun q2 _ h => ?_)
  refine bw_if_eq C (tgt := 15) dX8_spend_5 (by decide) h (fun h => ?_) (fun h => ?_)
  · refine bw_iconst C (v := (-1)) dX8_spend_15 (by decide) ?_
    exact bw_iret C dX8_spend_16 h
  · refine bw_iload_n C 2 dX8_spend_8 rfl rfl ?_
    refine bw_callSi C (As := [.int x2]) miX8_isHour mlX8_222 smX8_isHour (by decide) rfl rfl (fun z1 h1 => mt8_isHour h1) rfl (Nat.le_of_ble_eq_true rfl) rfl dX8_spend_9 h (fun q9 _ h => ?_)
    refine bw_if_ne C (tgt := 17) dX8_spend_12 (by decide) h (fun h => ?_) (fun h => ?_)
    · refine bw_aload_n C 0 dX8_spend_17 rfl rfl ?_
      refine bw_iload_n C 1 dX8_spend_18 rfl rfl ?_
      refine bw_callVi C (As := [.int x1]) lM0 sM0 rfl miX8_isSpent mlX8_203 imX8_isSpent seX8_isSpent (by decide) rfl rfl (fun z1 h1 => mt8_isSpent h1) rfl (Nat.le_of_ble_eq_true rfl) rfl dX8_spend_19 h (fun q19 _ h => ?_)
      refine bw_if_eq C (tgt := 28) dX8_spend_22 (by decide) h (fun h => ?_) (fun h => ?_)
      · refine bw_aload_n C 0 dX8_spend_28 rfl rfl ?_
        refine bw_getr C (j := 0) (t := 1) lM0 sM0 rfl inlX8 (by decide) rfl flX8_7 dX8_spend_29 ?_
        refine bw_iconst C (v := 4) dX8_spend_32 (by decide) ?_
        refine bw_iload_n C 1 dX8_spend_33 rfl rfl ?_
        refine bw_imul C dX8_spend_34 ?_
        refine bw_iconst C (v := 3) dX8_spend_35 (by decide) ?_
        refine bw_iadd C dX8_spend_36 ?_
        refine bw_iload_n C 2 dX8_spend_37 rfl rfl ?_
        refine bw_iconst C (v := 1) dX8_spend_38 (by decide) ?_
        refine bw_iadd C dX8_spend_39 ?_
        refine bw_iast C lM1 sM1 dX8_spend_40 h (fun h => ?_)
        refine bw_aload_n C 0 dX8_spend_41 rfl rfl ?_
        refine bw_iload_n C 1 dX8_spend_42 rfl rfl ?_
        refine bw_aload_n C 0 dX8_spend_43 rfl rfl ?_
        refine bw_iload_n C 1 dX8_spend_44 rfl rfl ?_
        refine bw_callVi C (As := [.int x1]) lM0 sM0 rfl miX8_ownerOf mlX8_196 imX8_ownerOf seX8_ownerOf (by decide) rfl rfl (fun z1 h1 => mt8_ownerOf h1) rfl (Nat.le_of_ble_eq_true rfl) rfl dX8_spend_45 h (fun q45 _ h => ?_)
        refine bw_callVi C (As := [.int x1, .int q45.1]) lM0 sM0 rfl miX8_lengthBy mlX8_199 imX8_lengthBy seX8_lengthBy (by decide) rfl rfl (fun z1 h1 => mt8_lengthBy h1) rfl (Nat.le_of_ble_eq_true rfl) rfl dX8_spend_48 h (fun q48 _ h => ?_)
        exact bw_iret C dX8_spend_51 h
      · refine bw_bipush C (v := (-2)) dX8_spend_25 (by decide) ?_
        exact bw_iret C dX8_spend_27 h
    · refine bw_iconst C (v := (-1)) dX8_spend_15 (by decide) ?_
      exact bw_iret C dX8_spend_16 h
theorem mt8_spend {l : Launch} {G : GX}   {x1 : Int32} {x2 : Int32} {w : Mem} {z : Int32 × Mem} (h : fn8_spend  x1 x2 w = some z) : MC l G shM 19 eM yX8_spend cX8_spend 3 (some .int) rm8_spend [.ref (gad G 0), .int x1, .int x2] w z := by
  refine met_of (by decide +kernel) (eM_ok _) rfl (Nat.le_of_ble_eq_true rfl) (fun M hM C => ?_)
  subst hM
  exact bk8_spend C  x1 x2 h
def rm8_undo : Room := { frames := 2, cells := 0, slots := 0, locals := 46 }
def fn8_undo_35 (x1 : Int32) (t0 : Int32) (w : Mem) : Option (Int32 × Mem) := (if ib ((4 * x1) + 3) 228 = true then some (t0, (up2 w 1 ((4 * x1) + 3).toNatClampNeg 0)) else none)
set_option maxRecDepth 20000 in
theorem bk8_undo_35 {M : MX} {G : GX} (C : BC M G shM 19 eM RX8 cX8_undo 3 (some .int) rm8_undo) {z : Int32 × Mem} (x1 : Int32) (t0 : Int32) {w : Mem} (h : fn8_undo_35 x1 t0 w = some z) : BW M G shM 19 3 (ZR M G shM 19 (some .int) z) 35 [(0, .ref (gad G 0)), (1, .int x1)] [.int t0] w := by
  rw [fn8_undo_35] at h
  refine bw_istore_n C [(2, .int t0), (0, .ref (gad G 0)), (1, .int x1)] dX8_undo_35 rfl (by decide) rfl ?_
  refine bw_aload_n C 1 dX8_undo_36 rfl rfl ?_
  refine bw_getr C (j := 0) (t := 1) lM0 sM0 rfl inlX8 (by decide) rfl flX8_7 dX8_undo_37 ?_
  refine bw_iconst C (v := 4) dX8_undo_40 (by decide) ?_
  refine bw_iload_n C 2 dX8_undo_41 rfl rfl ?_
  refine bw_imul C dX8_undo_42 ?_
  refine bw_iconst C (v := 3) dX8_undo_43 (by decide) ?_
  refine bw_iadd C dX8_undo_44 ?_
  refine bw_iconst C (v := 0) dX8_undo_45 (by decide) ?_
  refine bw_iast C lM1 sM1 dX8_undo_46 h (fun h => ?_)
  refine bw_iload_n C 0 dX8_undo_47 rfl rfl ?_
  exact bw_iret C dX8_undo_48 h
def fn8_undo  (x1 : Int32) (w : Mem) : Option (Int32 × Mem) := (fn8_isCoin x1 w).bind (fun q2 => (if ¬ q2.1 = 0 then (fn8_isSpent x1 q2.2).bind (fun q12 => (if q12.1 = 0 then fn8_undo_35 x1 (-4) q12.2 else (if ib ((4 * x1) + 3) 228 = true then fn8_undo_35 x1 ((q12.2 1 ((4 * x1) + 3).toNatClampNeg) - 1) q12.2 else none))) else some ((-1), q2.2)))
set_option maxRecDepth 20000 in
theorem bk8_undo {M : MX} {G : GX} (C : BC M G shM 19 eM RX8 cX8_undo 3 (some .int) rm8_undo) {z : Int32 × Mem}   (x1 : Int32) {w : Mem} (h : fn8_undo  x1 w = some z) : BW M G shM 19 3 (ZR M G shM 19 (some .int) z) 0 [(0, .ref (gad G 0)), (1, .int x1)] [] w := by
  rw [fn8_undo] at h
  refine bw_aload_n C 0 dX8_undo_0 rfl rfl ?_
  refine bw_iload_n C 1 dX8_undo_1 rfl rfl ?_
  refine bw_callVi C (As := [.int x1]) lM0 sM0 rfl miX8_isCoin mlX8_191 imX8_isCoin seX8_isCoin (by decide) rfl rfl (fun z1 h1 => mt8_isCoin h1) rfl (Nat.le_of_ble_eq_true rfl) rfl dX8_undo_2 h (fun q2 _ h => ?_)
  refine bw_if_ne C (tgt := 10) dX8_undo_5 (by decide) h (fun h => ?_) (fun h => ?_)
  · refine bw_aload_n C 0 dX8_undo_10 rfl rfl ?_
    refine bw_iload_n C 1 dX8_undo_11 rfl rfl ?_
    refine bw_callVi C (As := [.int x1]) lM0 sM0 rfl miX8_isSpent mlX8_203 imX8_isSpent seX8_isSpent (by decide) rfl rfl (fun z1 h1 => mt8_isSpent h1) rfl (Nat.le_of_ble_eq_true rfl) rfl dX8_undo_12 h (fun q12 _ h => ?_)
    refine bw_if_eq C (tgt := 33) dX8_undo_15 (by decide) h (fun h => ?_) (fun h => ?_)
    · refine bw_bipush C (v := (-4)) dX8_undo_33 (by decide) ?_
      exact bw_sub [0, 1] rfl (bk8_undo_35 C x1 (-4) h)
    · refine bw_aload_n C 0 dX8_undo_18 rfl rfl ?_
      refine bw_getr C (j := 0) (t := 1) lM0 sM0 rfl inlX8 (by decide) rfl flX8_7 dX8_undo_19 ?_
      refine bw_iconst C (v := 4) dX8_undo_22 (by decide) ?_
      refine bw_iload_n C 1 dX8_undo_23 rfl rfl ?_
      refine bw_imul C dX8_undo_24 ?_
      refine bw_iconst C (v := 3) dX8_undo_25 (by decide) ?_
      refine bw_iadd C dX8_undo_26 ?_
      refine bw_iald C lM1 sM1 dX8_undo_27 h (fun h => ?_)
      refine bw_iconst C (v := 1) dX8_undo_28 (by decide) ?_
      refine bw_isub C dX8_undo_29 ?_
      refine bw_goto C (tgt := 35) dX8_undo_30 (by decide) ?_
      exact bw_sub [0, 1] rfl (bk8_undo_35 C x1 ((q12.2 1 ((4 * x1) + 3).toNatClampNeg) - 1) h)
  · refine bw_iconst C (v := (-1)) dX8_undo_8 (by decide) ?_
    exact bw_iret C dX8_undo_9 h
theorem mt8_undo {l : Launch} {G : GX}   {x1 : Int32} {w : Mem} {z : Int32 × Mem} (h : fn8_undo  x1 w = some z) : MC l G shM 19 eM yX8_undo cX8_undo 3 (some .int) rm8_undo [.ref (gad G 0), .int x1] w z := by
  refine met_of (by decide +kernel) (eM_ok _) rfl (Nat.le_of_ble_eq_true rfl) (fun M hM C => ?_)
  subst hM
  exact bk8_undo C  x1 h
def rm8_speaks : Room := { frames := 3, cells := 0, slots := 0, locals := 68 }
def fn8_speaks_91 (x4 : Int32) (w : Mem) : Option (Int32 × Mem) := some ((x4 + 1), w)
set_option maxRecDepth 20000 in
theorem bk8_speaks_91 {M : MX} {G : GX} (C : BC M G shM 19 eM RX8 cX8_speaks 5 (some .int) rm8_speaks) {z : Int32 × Mem} (x4 : Int32) {w : Mem} (h : fn8_speaks_91 x4 w = some z) : BW M G shM 19 5 (ZR M G shM 19 (some .int) z) 91 [(4, .int x4)] [] w := by
  rw [fn8_speaks_91] at h
  refine bw_iload C 0 dX8_speaks_91 rfl ?_
  refine bw_iconst C (v := 1) dX8_speaks_93 (by decide) ?_
  refine bw_iadd C dX8_speaks_94 ?_
  exact bw_iret C dX8_speaks_95 h
def fn8_speaks_65 (x3 : Int32) (x4 : Int32) (w : Mem) : Option (Int32 × Mem) := (if ib ((24 + (3 * x4)) + 2) 228 = true then (if ib 54 228 = true then (if ib 54 228 = true then fn8_speaks_91 x4 (up2 (up2 w 1 ((24 + (3 * x4)) + 2).toNatClampNeg x3) 1 (54 : Int32).toNatClampNeg (((up2 w 1 ((24 + (3 * x4)) + 2).toNatClampNeg x3) 1 (54 : Int32).toNatClampNeg) + 1)) else none) else none) else none)
set_option maxRecDepth 20000 in
theorem bk8_speaks_65 {M : MX} {G : GX} (C : BC M G shM 19 eM RX8 cX8_speaks 5 (some .int) rm8_speaks) {z : Int32 × Mem} (x3 : Int32) (x4 : Int32) {w : Mem} (h : fn8_speaks_65 x3 x4 w = some z) : BW M G shM 19 5 (ZR M G shM 19 (some .int) z) 65 [(0, .ref (gad G 0)), (3, .int x3), (4, .int x4)] [] w := by
  rw [fn8_speaks_65] at h
  refine bw_aload_n C 0 dX8_speaks_65 rfl rfl ?_
  refine bw_getr C (j := 0) (t := 1) lM0 sM0 rfl inlX8 (by decide) rfl flX8_7 dX8_speaks_66 ?_
  refine bw_bipush C (v := 24) dX8_speaks_69 (by decide) ?_
  refine bw_iconst C (v := 3) dX8_speaks_71 (by decide) ?_
  refine bw_iload C 2 dX8_speaks_72 rfl ?_
  refine bw_imul C dX8_speaks_74 ?_
  refine bw_iadd C dX8_speaks_75 ?_
  refine bw_iconst C (v := 2) dX8_speaks_76 (by decide) ?_
  refine bw_iadd C dX8_speaks_77 ?_
  refine bw_iload_n C 1 dX8_speaks_78 rfl rfl ?_
  refine bw_iast C lM1 sM1 dX8_speaks_79 h (fun h => ?_)
  refine bw_aload_n C 0 dX8_speaks_80 rfl rfl ?_
  refine bw_getr C (j := 0) (t := 1) lM0 sM0 rfl inlX8 (by decide) rfl flX8_7 dX8_speaks_81 ?_
  refine bw_bipush C (v := 54) dX8_speaks_84 (by decide) ?_
  refine bw_dup2 C dX8_speaks_86 rfl rfl ?_
  refine bw_iald C lM1 sM1 dX8_speaks_87 h (fun h => ?_)
  refine bw_iconst C (v := 1) dX8_speaks_88 (by decide) ?_
  refine bw_iadd C dX8_speaks_89 ?_
  refine bw_iast C lM1 sM1 dX8_speaks_90 h (fun h => ?_)
  exact bw_sub [2] rfl (bk8_speaks_91 C x4 h)
def fn8_speaks  (x1 : Int32) (x2 : Int32) (x3 : Int32) (w : Mem) : Option (Int32 × Mem) := (fn8_isHour x1 w).bind (fun q1 => (if q1.1 = 0 then some ((-1), q1.2) else (fn8_areTwo x2 x3 q1.2).bind (fun q10 => (if ¬ q10.1 = 0 then (if ib 54 228 = true then (if ¬ (q10.2 1 (54 : Int32).toNatClampNeg) = 10 then (if ib (24 + (3 * (q10.2 1 (54 : Int32).toNatClampNeg))) 228 = true then (if ib ((24 + (3 * (q10.2 1 (54 : Int32).toNatClampNeg))) + 1) 228 = true then fn8_speaks_65 x3 (q10.2 1 (54 : Int32).toNatClampNeg) (up2 (up2 q10.2 1 (24 + (3 * (q10.2 1 (54 : Int32).toNatClampNeg))).toNatClampNeg x1) 1 ((24 + (3 * (q10.2 1 (54 : Int32).toNatClampNeg))) + 1).toNatClampNeg x2) else none) else none) else some ((-3), q10.2)) else none) else some ((-1), q10.2)))))
set_option maxRecDepth 20000 in
theorem bk8_speaks {M : MX} {G : GX} (C : BC M G shM 19 eM RX8 cX8_speaks 5 (some .int) rm8_speaks) {z : Int32 × Mem}   (x1 : Int32) (x2 : Int32) (x3 : Int32) {w : Mem} (h : fn8_speaks  x1 x2 x3 w = some z) : BW M G shM 19 5 (ZR M G shM 19 (some .int) z) 0 [(0, .ref (gad G 0)), (1, .int x1), (2, .int x2), (3, .int x3)] [] w := by
  rw [fn8_speaks] at h
  refine bw_iload_n C 1 dX8_speaks_0 rfl rfl ?_
  refine bw_callSi C (As := [.int x1]) miX8_isHour mlX8_222 smX8_isHour (by decide) rfl rfl (fun z1 h1 => mt8_isHour h1) rfl (Nat.le_of_ble_eq_true rfl) rfl dX8_speaks_1 h (fun q1 _ h => ?_)
  refine bw_if_eq C (tgt := 16) dX8_speaks_4 (by decide) h (fun h => ?_) (fun h => ?_)
  · refine bw_iconst C (v := (-1)) dX8_speaks_16 (by decide) ?_
    exact bw_iret C dX8_speaks_17 h
  · refine bw_aload_n C 0 dX8_speaks_7 rfl rfl ?_
    refine bw_iload_n C 2 dX8_speaks_8 rfl rfl ?_
    refine bw_iload_n C 3 dX8_speaks_9 rfl rfl ?_
    refine bw_callVi C (As := [.int x2, .int x3]) lM0 sM0 rfl miX8_areTwo mlX8_225 imX8_areTwo seX8_areTwo (by decide) rfl rfl (fun z1 h1 => mt8_areTwo h1) rfl (Nat.le_of_ble_eq_true rfl) rfl dX8_speaks_10 h (fun q10 _ h => ?_)
    refine bw_if_ne C (tgt := 18) dX8_speaks_13 (by decide) h (fun h => ?_) (fun h => ?_)
    · refine bw_aload_n C 0 dX8_speaks_18 rfl rfl ?_
      refine bw_getr C (j := 0) (t := 1) lM0 sM0 rfl inlX8 (by decide) rfl flX8_7 dX8_speaks_19 ?_
      refine bw_bipush C (v := 54) dX8_speaks_22 (by decide) ?_
      refine bw_iald C lM1 sM1 dX8_speaks_24 h (fun h => ?_)
      refine bw_istore C [(4, .int (q10.2 1 (54 : Int32).toNatClampNeg)), (0, .ref (gad G 0)), (1, .int x1), (2, .int x2), (3, .int x3)] dX8_speaks_25 (by decide) rfl ?_
      refine bw_iload C 0 dX8_speaks_27 rfl ?_
      refine bw_bipush C (v := 10) dX8_speaks_29 (by decide) ?_
      refine bw_icmp_ne C (tgt := 37) dX8_speaks_31 (by decide) h (fun h => ?_) (fun h => ?_)
      · refine bw_aload_n C 1 dX8_speaks_37 rfl rfl ?_
        refine bw_getr C (j := 0) (t := 1) lM0 sM0 rfl inlX8 (by decide) rfl flX8_7 dX8_speaks_38 ?_
        refine bw_bipush C (v := 24) dX8_speaks_41 (by decide) ?_
        refine bw_iconst C (v := 3) dX8_speaks_43 (by decide) ?_
        refine bw_iload C 0 dX8_speaks_44 rfl ?_
        refine bw_imul C dX8_speaks_46 ?_
        refine bw_iadd C dX8_speaks_47 ?_
        refine bw_iload_n C 2 dX8_speaks_48 rfl rfl ?_
        refine bw_iast C lM1 sM1 dX8_speaks_49 h (fun h => ?_)
        refine bw_aload_n C 1 dX8_speaks_50 rfl rfl ?_
        refine bw_getr C (j := 0) (t := 1) lM0 sM0 rfl inlX8 (by decide) rfl flX8_7 dX8_speaks_51 ?_
        refine bw_bipush C (v := 24) dX8_speaks_54 (by decide) ?_
        refine bw_iconst C (v := 3) dX8_speaks_56 (by decide) ?_
        refine bw_iload C 0 dX8_speaks_57 rfl ?_
        refine bw_imul C dX8_speaks_59 ?_
        refine bw_iadd C dX8_speaks_60 ?_
        refine bw_iconst C (v := 1) dX8_speaks_61 (by decide) ?_
        refine bw_iadd C dX8_speaks_62 ?_
        refine bw_iload_n C 3 dX8_speaks_63 rfl rfl ?_
        refine bw_iast C lM1 sM1 dX8_speaks_64 h (fun h => ?_)
        exact bw_sub [1, 4, 0] rfl (bk8_speaks_65 C x3 (q10.2 1 (54 : Int32).toNatClampNeg) h)
      · refine bw_bipush C (v := (-3)) dX8_speaks_34 (by decide) ?_
        exact bw_iret C dX8_speaks_36 h
    · refine bw_iconst C (v := (-1)) dX8_speaks_16 (by decide) ?_
      exact bw_iret C dX8_speaks_17 h
theorem mt8_speaks {l : Launch} {G : GX}   {x1 : Int32} {x2 : Int32} {x3 : Int32} {w : Mem} {z : Int32 × Mem} (h : fn8_speaks  x1 x2 x3 w = some z) : MC l G shM 19 eM yX8_speaks cX8_speaks 5 (some .int) rm8_speaks [.ref (gad G 0), .int x1, .int x2, .int x3] w z := by
  refine met_of (by decide +kernel) (eM_ok _) rfl (Nat.le_of_ble_eq_true rfl) (fun M hM C => ?_)
  subst hM
  exact bk8_speaks C  x1 x2 x3 h
def rm8_speak : Room := { frames := 4, cells := 0, slots := 0, locals := 92 }
def fn8_speak  (x1 : Int32) (x2 : Int32) (x3 : Int32) (w : Mem) : Option (Int32 × Mem) := (fn8_speaks x1 x2 x3 w).bind (fun q4 => some (q4.1, q4.2))
set_option maxRecDepth 20000 in
theorem bk8_speak {M : MX} {G : GX} (C : BC M G shM 19 eM RX8 cX8_speak 4 (some .int) rm8_speak) {z : Int32 × Mem}   (x1 : Int32) (x2 : Int32) (x3 : Int32) {w : Mem} (h : fn8_speak  x1 x2 x3 w = some z) : BW M G shM 19 4 (ZR M G shM 19 (some .int) z) 0 [(0, .ref (gad G 0)), (1, .int x1), (2, .int x2), (3, .int x3)] [] w := by
  rw [fn8_speak] at h
  refine bw_aload_n C 0 dX8_speak_0 rfl rfl ?_
  refine bw_iload_n C 1 dX8_speak_1 rfl rfl ?_
  refine bw_iload_n C 2 dX8_speak_2 rfl rfl ?_
  refine bw_iload_n C 3 dX8_speak_3 rfl rfl ?_
  refine bw_callVi C (As := [.int x1, .int x2, .int x3]) lM0 sM0 rfl miX8_speaks mlX8_230 imX8_speaks seX8_speaks (by decide) rfl rfl (fun z1 h1 => mt8_speaks h1) rfl (Nat.le_of_ble_eq_true rfl) rfl dX8_speak_4 h (fun q4 _ h => ?_)
  exact bw_iret C dX8_speak_7 h
theorem mt8_speak {l : Launch} {G : GX}   {x1 : Int32} {x2 : Int32} {x3 : Int32} {w : Mem} {z : Int32 × Mem} (h : fn8_speak  x1 x2 x3 w = some z) : MC l G shM 19 eM yX8_speak cX8_speak 4 (some .int) rm8_speak [.ref (gad G 0), .int x1, .int x2, .int x3] w z := by
  refine met_of (by decide +kernel) (eM_ok _) rfl (Nat.le_of_ble_eq_true rfl) (fun M hM C => ?_)
  subst hM
  exact bk8_speak C  x1 x2 x3 h
def rm8_layRumour : Room := { frames := 6, cells := 0, slots := 0, locals := 136 }
def fn8_layRumour_180 (x3 : Int32) (x4 : Int32) (t0 : Int32) (kb : Int32 → Int32 → Mem → Option (Int32 × Mem)) (w : Mem) : Option (Int32 × Mem) := kb (t0 ||| 0) (x4 + 1) w
set_option maxRecDepth 20000 in
theorem bk8_layRumour_180 {M : MX} {G : GX} (C : BC M G shM 19 eM RX8 cX8_layRumour 9 none rm8_layRumour) {z : Int32 × Mem} (x3 : Int32) (x4 : Int32) (t0 : Int32) {kb : Int32 → Int32 → Mem → Option (Int32 × Mem)} (hkb : ∀ (x2 : Int32) (x4 : Int32) (w : Mem), kb x2 x4 w = some z → BW M G shM 19 9 (ZR M G shM 19 none z) 15 [(0, .ref (gad G 0)), (2, .int x2), (3, .int x3), (4, .int x4)] [] w) {w : Mem} (h : fn8_layRumour_180 x3 x4 t0 kb w = some z) : BW M G shM 19 9 (ZR M G shM 19 none z) 180 [(0, .ref (gad G 0)), (3, .int x3), (4, .int x4)] [.int t0] w := by
  rw [fn8_layRumour_180] at h
  refine bw_iconst C (v := 0) dX8_layRumour_180 (by decide) ?_
  refine bw_ior C dX8_layRumour_181 ?_
  refine bw_istore_n C [(2, .int (t0 ||| 0)), (0, .ref (gad G 0)), (3, .int x3), (4, .int x4)] dX8_layRumour_182 rfl (by decide) rfl ?_
  refine bw_iinc C [(4, .int (x4 + 1)), (2, .int (t0 ||| 0)), (0, .ref (gad G 0)), (3, .int x3)] 3 dX8_layRumour_183 rfl rfl (by decide) rfl ?_
  refine bw_goto C (tgt := 15) dX8_layRumour_186 (by decide) ?_
  exact bw_sub [2, 1, 3, 0] rfl (hkb (t0 ||| 0) (x4 + 1) w h)
def fn8_layRumour_144 (x3 : Int32) (x4 : Int32) (x5 : Int32) (x6 : Int32) (x7 : Int32) (x8 : Int32) (t0 : Int32) (t1 : Int32) (kb : Int32 → Int32 → Mem → Option (Int32 × Mem)) (w : Mem) : Option (Int32 × Mem) := (if x7 = 0 then fn8_layRumour_180 x3 x4 (t1 ||| t0) kb w else (if ¬ ((x8 >>> (x6 &&& 31)) &&& 1) = 1 then fn8_layRumour_180 x3 x4 (t1 ||| t0) kb w else (fn8_kindOf x5 w).bind (fun q166 => (if q166.1 = 2 then fn8_layRumour_180 x3 x4 (t1 ||| t0) kb q166.2 else kb ((t1 ||| t0) ||| ((1 : Int32) <<< (x5 &&& 31))) (x4 + 1) q166.2))))
set_option maxRecDepth 20000 in
theorem bk8_layRumour_144 {M : MX} {G : GX} (C : BC M G shM 19 eM RX8 cX8_layRumour 9 none rm8_layRumour) {z : Int32 × Mem} (x3 : Int32) (x4 : Int32) (x5 : Int32) (x6 : Int32) (x7 : Int32) (x8 : Int32) (t0 : Int32) (t1 : Int32) {kb : Int32 → Int32 → Mem → Option (Int32 × Mem)} (hkb : ∀ (x2 : Int32) (x4 : Int32) (w : Mem), kb x2 x4 w = some z → BW M G shM 19 9 (ZR M G shM 19 none z) 15 [(0, .ref (gad G 0)), (2, .int x2), (3, .int x3), (4, .int x4)] [] w) {w : Mem} (h : fn8_layRumour_144 x3 x4 x5 x6 x7 x8 t0 t1 kb w = some z) : BW M G shM 19 9 (ZR M G shM 19 none z) 144 [(0, .ref (gad G 0)), (3, .int x3), (4, .int x4), (5, .int x5), (6, .int x6), (7, .int x7), (8, .int x8)] [.int t0, .int t1] w := by
  rw [fn8_layRumour_144] at h
  refine bw_ior C dX8_layRumour_144 ?_
  refine bw_istore_n C [(2, .int (t1 ||| t0)), (0, .ref (gad G 0)), (3, .int x3), (4, .int x4), (5, .int x5), (6, .int x6), (7, .int x7), (8, .int x8)] dX8_layRumour_145 rfl (by decide) rfl ?_
  refine bw_iload_n C 0 dX8_layRumour_146 rfl rfl ?_
  refine bw_iload C 6 dX8_layRumour_147 rfl ?_
  refine bw_if_eq C (tgt := 180) dX8_layRumour_149 (by decide) h (fun h => ?_) (fun h => ?_)
  · exact bw_sub [1, 2, 3] rfl (bk8_layRumour_180 C x3 x4 (t1 ||| t0) hkb h)
  · refine bw_iload C 7 dX8_layRumour_152 rfl ?_
    refine bw_iload C 5 dX8_layRumour_154 rfl ?_
    refine bw_ishr C dX8_layRumour_156 ?_
    refine bw_iconst C (v := 1) dX8_layRumour_157 (by decide) ?_
    refine bw_iand C dX8_layRumour_158 ?_
    refine bw_iconst C (v := 1) dX8_layRumour_159 (by decide) ?_
    refine bw_icmp_ne C (tgt := 180) dX8_layRumour_160 (by decide) h (fun h => ?_) (fun h => ?_)
    · exact bw_sub [1, 2, 3] rfl (bk8_layRumour_180 C x3 x4 (t1 ||| t0) hkb h)
    · refine bw_aload_n C 1 dX8_layRumour_163 rfl rfl ?_
      refine bw_iload C 4 dX8_layRumour_164 rfl ?_
      refine bw_callVi C (As := [.int x5]) lM0 sM0 rfl miX8_kindOf mlX8_188 imX8_kindOf seX8_kindOf (by decide) rfl rfl (fun z1 h1 => mt8_kindOf h1) rfl (Nat.le_of_ble_eq_true rfl) rfl dX8_layRumour_166 h (fun q166 _ h => ?_)
      refine bw_iconst C (v := 2) dX8_layRumour_169 (by decide) ?_
      refine bw_icmp_eq C (tgt := 180) dX8_layRumour_170 (by decide) h (fun h => ?_) (fun h => ?_)
      · exact bw_sub [1, 2, 3] rfl (bk8_layRumour_180 C x3 x4 (t1 ||| t0) hkb h)
      · refine bw_iconst C (v := 1) dX8_layRumour_173 (by decide) ?_
        refine bw_iload C 4 dX8_layRumour_174 rfl ?_
        refine bw_ishl C dX8_layRumour_176 ?_
        refine bw_goto C (tgt := 181) dX8_layRumour_177 (by decide) ?_
        refine bw_ior C dX8_layRumour_181 ?_
        refine bw_istore_n C [(2, .int ((t1 ||| t0) ||| ((1 : Int32) <<< (x5 &&& 31)))), (0, .ref (gad G 0)), (3, .int x3), (4, .int x4), (5, .int x5), (6, .int x6), (7, .int x7), (8, .int x8)] dX8_layRumour_182 rfl (by decide) rfl ?_
        refine bw_iinc C [(4, .int (x4 + 1)), (2, .int ((t1 ||| t0) ||| ((1 : Int32) <<< (x5 &&& 31)))), (0, .ref (gad G 0)), (3, .int x3), (5, .int x5), (6, .int x6), (7, .int x7), (8, .int x8)] 3 dX8_layRumour_183 rfl rfl (by decide) rfl ?_
        refine bw_goto C (tgt := 15) dX8_layRumour_186 (by decide) ?_
        exact bw_sub [2, 1, 3, 0] rfl (hkb ((t1 ||| t0) ||| ((1 : Int32) <<< (x5 &&& 31))) (x4 + 1) q166.2 h)
def fn8_layRumour_143 (x3 : Int32) (x4 : Int32) (x5 : Int32) (x6 : Int32) (x7 : Int32) (x8 : Int32) (t0 : Int32) (kb : Int32 → Int32 → Mem → Option (Int32 × Mem)) (w : Mem) : Option (Int32 × Mem) := fn8_layRumour_144 x3 x4 x5 x6 x7 x8 0 t0 kb w
set_option maxRecDepth 20000 in
theorem bk8_layRumour_143 {M : MX} {G : GX} (C : BC M G shM 19 eM RX8 cX8_layRumour 9 none rm8_layRumour) {z : Int32 × Mem} (x3 : Int32) (x4 : Int32) (x5 : Int32) (x6 : Int32) (x7 : Int32) (x8 : Int32) (t0 : Int32) {kb : Int32 → Int32 → Mem → Option (Int32 × Mem)} (hkb : ∀ (x2 : Int32) (x4 : Int32) (w : Mem), kb x2 x4 w = some z → BW M G shM 19 9 (ZR M G shM 19 none z) 15 [(0, .ref (gad G 0)), (2, .int x2), (3, .int x3), (4, .int x4)] [] w) {w : Mem} (h : fn8_layRumour_143 x3 x4 x5 x6 x7 x8 t0 kb w = some z) : BW M G shM 19 9 (ZR M G shM 19 none z) 143 [(0, .ref (gad G 0)), (3, .int x3), (4, .int x4), (5, .int x5), (6, .int x6), (7, .int x7), (8, .int x8)] [.int t0] w := by
  rw [fn8_layRumour_143] at h
  refine bw_iconst C (v := 0) dX8_layRumour_143 (by decide) ?_
  exact bw_sub [0, 1, 2, 3, 4, 5, 6] rfl (bk8_layRumour_144 C x3 x4 x5 x6 x7 x8 0 t0 hkb h)
def fn8_layRumour_109 (x2 : Int32) (x3 : Int32) (x4 : Int32) (x5 : Int32) (x6 : Int32) (t0 : Int32) (kb : Int32 → Int32 → Mem → Option (Int32 × Mem)) (w : Mem) : Option (Int32 × Mem) := (if ¬ ((x2 >>> (x5 &&& 31)) &&& 1) = 1 then fn8_layRumour_143 x3 x4 x5 x6 t0 x2 x2 kb w else (fn8_kindOf x6 w).bind (fun q129 => (if q129.1 = 2 then fn8_layRumour_143 x3 x4 x5 x6 t0 x2 x2 kb q129.2 else fn8_layRumour_144 x3 x4 x5 x6 t0 x2 ((1 : Int32) <<< (x6 &&& 31)) x2 kb q129.2)))
set_option maxRecDepth 20000 in
theorem bk8_layRumour_109 {M : MX} {G : GX} (C : BC M G shM 19 eM RX8 cX8_layRumour 9 none rm8_layRumour) {z : Int32 × Mem} (x2 : Int32) (x3 : Int32) (x4 : Int32) (x5 : Int32) (x6 : Int32) (t0 : Int32) {kb : Int32 → Int32 → Mem → Option (Int32 × Mem)} (hkb : ∀ (x2 : Int32) (x4 : Int32) (w : Mem), kb x2 x4 w = some z → BW M G shM 19 9 (ZR M G shM 19 none z) 15 [(0, .ref (gad G 0)), (2, .int x2), (3, .int x3), (4, .int x4)] [] w) {w : Mem} (h : fn8_layRumour_109 x2 x3 x4 x5 x6 t0 kb w = some z) : BW M G shM 19 9 (ZR M G shM 19 none z) 109 [(0, .ref (gad G 0)), (2, .int x2), (3, .int x3), (4, .int x4), (5, .int x5), (6, .int x6)] [.int t0] w := by
  rw [fn8_layRumour_109] at h
  refine bw_istore C [(7, .int t0), (0, .ref (gad G 0)), (2, .int x2), (3, .int x3), (4, .int x4), (5, .int x5), (6, .int x6)] dX8_layRumour_109 (by decide) rfl ?_
  refine bw_iload_n C 2 dX8_layRumour_111 rfl rfl ?_
  refine bw_istore C [(8, .int x2), (7, .int t0), (0, .ref (gad G 0)), (2, .int x2), (3, .int x3), (4, .int x4), (5, .int x5), (6, .int x6)] dX8_layRumour_112 (by decide) rfl ?_
  refine bw_iload_n C 3 dX8_layRumour_114 rfl rfl ?_
  refine bw_iload C 0 dX8_layRumour_115 rfl ?_
  refine bw_iload C 6 dX8_layRumour_117 rfl ?_
  refine bw_ishr C dX8_layRumour_119 ?_
  refine bw_iconst C (v := 1) dX8_layRumour_120 (by decide) ?_
  refine bw_iand C dX8_layRumour_121 ?_
  refine bw_iconst C (v := 1) dX8_layRumour_122 (by decide) ?_
  refine bw_icmp_ne C (tgt := 143) dX8_layRumour_123 (by decide) h (fun h => ?_) (fun h => ?_)
  · exact bw_sub [2, 4, 5, 6, 7, 1, 0] rfl (bk8_layRumour_143 C x3 x4 x5 x6 t0 x2 x2 hkb h)
  · refine bw_aload_n C 2 dX8_layRumour_126 rfl rfl ?_
    refine bw_iload C 7 dX8_layRumour_127 rfl ?_
    refine bw_callVi C (As := [.int x6]) lM0 sM0 rfl miX8_kindOf mlX8_188 imX8_kindOf seX8_kindOf (by decide) rfl rfl (fun z1 h1 => mt8_kindOf h1) rfl (Nat.le_of_ble_eq_true rfl) rfl dX8_layRumour_129 h (fun q129 _ h => ?_)
    refine bw_iconst C (v := 2) dX8_layRumour_132 (by decide) ?_
    refine bw_icmp_eq C (tgt := 143) dX8_layRumour_133 (by decide) h (fun h => ?_) (fun h => ?_)
    · exact bw_sub [2, 4, 5, 6, 7, 1, 0] rfl (bk8_layRumour_143 C x3 x4 x5 x6 t0 x2 x2 hkb h)
    · refine bw_iconst C (v := 1) dX8_layRumour_136 (by decide) ?_
      refine bw_iload C 7 dX8_layRumour_137 rfl ?_
      refine bw_ishl C dX8_layRumour_139 ?_
      refine bw_goto C (tgt := 144) dX8_layRumour_140 (by decide) ?_
      exact bw_sub [2, 4, 5, 6, 7, 1, 0] rfl (bk8_layRumour_144 C x3 x4 x5 x6 t0 x2 ((1 : Int32) <<< (x6 &&& 31)) x2 hkb h)
def fn8_layRumour_104 (x2 : Int32) (x3 : Int32) (x4 : Int32) (x5 : Int32) (x6 : Int32) (kb : Int32 → Int32 → Mem → Option (Int32 × Mem)) (w : Mem) : Option (Int32 × Mem) := fn8_layRumour_109 x2 x3 x4 x5 x6 1 kb w
set_option maxRecDepth 20000 in
theorem bk8_layRumour_104 {M : MX} {G : GX} (C : BC M G shM 19 eM RX8 cX8_layRumour 9 none rm8_layRumour) {z : Int32 × Mem} (x2 : Int32) (x3 : Int32) (x4 : Int32) (x5 : Int32) (x6 : Int32) {kb : Int32 → Int32 → Mem → Option (Int32 × Mem)} (hkb : ∀ (x2 : Int32) (x4 : Int32) (w : Mem), kb x2 x4 w = some z → BW M G shM 19 9 (ZR M G shM 19 none z) 15 [(0, .ref (gad G 0)), (2, .int x2), (3, .int x3), (4, .int x4)] [] w) {w : Mem} (h : fn8_layRumour_104 x2 x3 x4 x5 x6 kb w = some z) : BW M G shM 19 9 (ZR M G shM 19 none z) 104 [(0, .ref (gad G 0)), (2, .int x2), (3, .int x3), (4, .int x4), (5, .int x5), (6, .int x6)] [] w := by
  rw [fn8_layRumour_104] at h
  refine bw_iconst C (v := 1) dX8_layRumour_104 (by decide) ?_
  refine bw_goto C (tgt := 109) dX8_layRumour_105 (by decide) ?_
  exact bw_sub [0, 1, 2, 3, 4, 5] rfl (bk8_layRumour_109 C x2 x3 x4 x5 x6 1 hkb h)
def fn8_layRumour_15 (x3 : Int32) (k : Int32 → Int32 → Mem → Option (Int32 × Mem)) : Nat → Int32 → Int32 → Mem → Option (Int32 × Mem)
  | 0, _, _, _ => none
  | nn + 1, x2, x4, w => (if ib 54 228 = true then (if (w 1 (54 : Int32).toNatClampNeg) ≤ x4 then k x2 x4 w else (if ib ((24 + (3 * x4)) + 1) 228 = true then (if ib ((24 + (3 * x4)) + 2) 228 = true then (if ib (24 + (3 * x4)) 228 = true then (if ¬ (w 1 (24 + (3 * x4)).toNatClampNeg) = x3 then fn8_layRumour_15 x3 k nn x2 (x4 + 1) w else (fn8_isTalkSaid x4 w).bind (fun q78 => (if q78.1 = 0 then fn8_layRumour_15 x3 k nn x2 (x4 + 1) q78.2 else (fn8_kindOf (w 1 ((24 + (3 * x4)) + 1).toNatClampNeg) q78.2).bind (fun q87 => (if q87.1 = 1 then fn8_layRumour_104 x2 x3 x4 (w 1 ((24 + (3 * x4)) + 1).toNatClampNeg) (w 1 ((24 + (3 * x4)) + 2).toNatClampNeg) (fn8_layRumour_15 x3 k nn) q87.2 else (fn8_kindOf (w 1 ((24 + (3 * x4)) + 2).toNatClampNeg) q87.2).bind (fun q97 => (if ¬ q97.1 = 1 then fn8_layRumour_109 x2 x3 x4 (w 1 ((24 + (3 * x4)) + 1).toNatClampNeg) (w 1 ((24 + (3 * x4)) + 2).toNatClampNeg) 0 (fn8_layRumour_15 x3 k nn) q97.2 else fn8_layRumour_104 x2 x3 x4 (w 1 ((24 + (3 * x4)) + 1).toNatClampNeg) (w 1 ((24 + (3 * x4)) + 2).toNatClampNeg) (fn8_layRumour_15 x3 k nn) q97.2))))))) else none) else none) else none)) else none)
set_option maxRecDepth 20000 in
theorem bk8_layRumour_15 {M : MX} {G : GX} (C : BC M G shM 19 eM RX8 cX8_layRumour 9 none rm8_layRumour) {z : Int32 × Mem} (x3 : Int32) {k : Int32 → Int32 → Mem → Option (Int32 × Mem)} (hk : ∀ (x2 : Int32) (x4 : Int32) (w : Mem), k x2 x4 w = some z → BW M G shM 19 9 (ZR M G shM 19 none z) 189 [(0, .ref (gad G 0)), (2, .int x2), (3, .int x3)] [] w) : ∀ (nn : Nat) (x2 : Int32) (x4 : Int32) (w : Mem), fn8_layRumour_15 x3 k nn x2 x4 w = some z → BW M G shM 19 9 (ZR M G shM 19 none z) 15 [(0, .ref (gad G 0)), (2, .int x2), (3, .int x3), (4, .int x4)] [] w := by
  intro nn
  induction nn with
  | zero =>
    intro x2 x4 w h
    have h : (none : Option (Int32 × Mem)) = some z := h
    cases h
  | succ nn ih =>
    intro x2 x4 w h
    rw [fn8_layRumour_15] at h
    refine bw_iload C 3 dX8_layRumour_15 rfl ?_
    refine bw_aload_n C 0 dX8_layRumour_17 rfl rfl ?_
    refine bw_getr C (j := 0) (t := 1) lM0 sM0 rfl inlX8 (by decide) rfl flX8_7 dX8_layRumour_18 ?_
    refine bw_bipush C (v := 54) dX8_layRumour_21 (by decide) ?_
    refine bw_iald C lM1 sM1 dX8_layRumour_23 h (fun h => ?_)
    refine bw_icmp_ge C (tgt := 189) dX8_layRumour_24 (by decide) h (fun h => ?_) (fun h => ?_)
    · exact bw_sub [0, 1, 2] rfl (hk x2 x4 w h)
    · refine bw_aload_n C 0 dX8_layRumour_27 rfl rfl ?_
      refine bw_getr C (j := 0) (t := 1) lM0 sM0 rfl inlX8 (by decide) rfl flX8_7 dX8_layRumour_28 ?_
      refine bw_bipush C (v := 24) dX8_layRumour_31 (by decide) ?_
      refine bw_iconst C (v := 3) dX8_layRumour_33 (by decide) ?_
      refine bw_iload C 3 dX8_layRumour_34 rfl ?_
      refine bw_imul C dX8_layRumour_36 ?_
      refine bw_iadd C dX8_layRumour_37 ?_
      refine bw_iconst C (v := 1) dX8_layRumour_38 (by decide) ?_
      refine bw_iadd C dX8_layRumour_39 ?_
      refine bw_iald C lM1 sM1 dX8_layRumour_40 h (fun h => ?_)
      refine bw_istore C [(5, .int (w 1 ((24 + (3 * x4)) + 1).toNatClampNeg)), (0, .ref (gad G 0)), (2, .int x2), (3, .int x3), (4, .int x4)] dX8_layRumour_41 (by decide) rfl ?_
      refine bw_aload_n C 1 dX8_layRumour_43 rfl rfl ?_
      refine bw_getr C (j := 0) (t := 1) lM0 sM0 rfl inlX8 (by decide) rfl flX8_7 dX8_layRumour_44 ?_
      refine bw_bipush C (v := 24) dX8_layRumour_47 (by decide) ?_
      refine bw_iconst C (v := 3) dX8_layRumour_49 (by decide) ?_
      refine bw_iload C 4 dX8_layRumour_50 rfl ?_
      refine bw_imul C dX8_layRumour_52 ?_
      refine bw_iadd C dX8_layRumour_53 ?_
      refine bw_iconst C (v := 2) dX8_layRumour_54 (by decide) ?_
      refine bw_iadd C dX8_layRumour_55 ?_
      refine bw_iald C lM1 sM1 dX8_layRumour_56 h (fun h => ?_)
      refine bw_istore C [(6, .int (w 1 ((24 + (3 * x4)) + 2).toNatClampNeg)), (5, .int (w 1 ((24 + (3 * x4)) + 1).toNatClampNeg)), (0, .ref (gad G 0)), (2, .int x2), (3, .int x3), (4, .int x4)] dX8_layRumour_57 (by decide) rfl ?_
      refine bw_aload_n C 2 dX8_layRumour_59 rfl rfl ?_
      refine bw_getr C (j := 0) (t := 1) lM0 sM0 rfl inlX8 (by decide) rfl flX8_7 dX8_layRumour_60 ?_
      refine bw_bipush C (v := 24) dX8_layRumour_63 (by decide) ?_
      refine bw_iconst C (v := 3) dX8_layRumour_65 (by decide) ?_
      refine bw_iload C 5 dX8_layRumour_66 rfl ?_
      refine bw_imul C dX8_layRumour_68 ?_
      refine bw_iadd C dX8_layRumour_69 ?_
      refine bw_iald C lM1 sM1 dX8_layRumour_70 h (fun h => ?_)
      refine bw_iload_n C 4 dX8_layRumour_71 rfl rfl ?_
      refine bw_icmp_ne C (tgt := 183) dX8_layRumour_72 (by decide) h (fun h => ?_) (fun h => ?_)
      · refine bw_iinc C [(4, .int (x4 + 1)), (6, .int (w 1 ((24 + (3 * x4)) + 2).toNatClampNeg)), (5, .int (w 1 ((24 + (3 * x4)) + 1).toNatClampNeg)), (0, .ref (gad G 0)), (2, .int x2), (3, .int x3)] 5 dX8_layRumour_183 rfl rfl (by decide) rfl ?_
        refine bw_goto C (tgt := 15) dX8_layRumour_186 (by decide) ?_
        exact bw_sub [3, 4, 5, 0] rfl (ih x2 (x4 + 1) w h)
      · refine bw_aload_n C 2 dX8_layRumour_75 rfl rfl ?_
        refine bw_iload C 5 dX8_layRumour_76 rfl ?_
        refine bw_callVi C (As := [.int x4]) lM0 sM0 rfl miX8_isTalkSaid mlX8_219 imX8_isTalkSaid seX8_isTalkSaid (by decide) rfl rfl (fun z1 h1 => mt8_isTalkSaid h1) rfl (Nat.le_of_ble_eq_true rfl) rfl dX8_layRumour_78 h (fun q78 _ h => ?_)
        refine bw_if_eq C (tgt := 183) dX8_layRumour_81 (by decide) h (fun h => ?_) (fun h => ?_)
        · refine bw_iinc C [(4, .int (x4 + 1)), (6, .int (w 1 ((24 + (3 * x4)) + 2).toNatClampNeg)), (5, .int (w 1 ((24 + (3 * x4)) + 1).toNatClampNeg)), (0, .ref (gad G 0)), (2, .int x2), (3, .int x3)] 5 dX8_layRumour_183 rfl rfl (by decide) rfl ?_
          refine bw_goto C (tgt := 15) dX8_layRumour_186 (by decide) ?_
          exact bw_sub [3, 4, 5, 0] rfl (ih x2 (x4 + 1) q78.2 h)
        · refine bw_aload_n C 2 dX8_layRumour_84 rfl rfl ?_
          refine bw_iload C 1 dX8_layRumour_85 rfl ?_
          refine bw_callVi C (As := [.int (w 1 ((24 + (3 * x4)) + 1).toNatClampNeg)]) lM0 sM0 rfl miX8_kindOf mlX8_188 imX8_kindOf seX8_kindOf (by decide) rfl rfl (fun z1 h1 => mt8_kindOf h1) rfl (Nat.le_of_ble_eq_true rfl) rfl dX8_layRumour_87 h (fun q87 _ h => ?_)
          refine bw_iconst C (v := 1) dX8_layRumour_90 (by decide) ?_
          refine bw_icmp_eq C (tgt := 104) dX8_layRumour_91 (by decide) h (fun h => ?_) (fun h => ?_)
          · exact bw_sub [2, 3, 4, 5, 1, 0] rfl (bk8_layRumour_104 C x2 x3 x4 (w 1 ((24 + (3 * x4)) + 1).toNatClampNeg) (w 1 ((24 + (3 * x4)) + 2).toNatClampNeg) ih h)
          · refine bw_aload_n C 2 dX8_layRumour_94 rfl rfl ?_
            refine bw_iload C 0 dX8_layRumour_95 rfl ?_
            refine bw_callVi C (As := [.int (w 1 ((24 + (3 * x4)) + 2).toNatClampNeg)]) lM0 sM0 rfl miX8_kindOf mlX8_188 imX8_kindOf seX8_kindOf (by decide) rfl rfl (fun z1 h1 => mt8_kindOf h1) rfl (Nat.le_of_ble_eq_true rfl) rfl dX8_layRumour_97 h (fun q97 _ h => ?_)
            refine bw_iconst C (v := 1) dX8_layRumour_100 (by decide) ?_
            refine bw_icmp_ne C (tgt := 108) dX8_layRumour_101 (by decide) h (fun h => ?_) (fun h => ?_)
            · refine bw_iconst C (v := 0) dX8_layRumour_108 (by decide) ?_
              exact bw_sub [2, 3, 4, 5, 1, 0] rfl (bk8_layRumour_109 C x2 x3 x4 (w 1 ((24 + (3 * x4)) + 1).toNatClampNeg) (w 1 ((24 + (3 * x4)) + 2).toNatClampNeg) 0 ih h)
            · exact bw_sub [2, 3, 4, 5, 1, 0] rfl (bk8_layRumour_104 C x2 x3 x4 (w 1 ((24 + (3 * x4)) + 1).toNatClampNeg) (w 1 ((24 + (3 * x4)) + 2).toNatClampNeg) ih h)
def fn8_layRumour_6 (k : Int32 → Int32 → Mem → Option (Int32 × Mem)) : Nat → Int32 → Int32 → Mem → Option (Int32 × Mem)
  | 0, _, _, _ => none
  | nn + 1, x2, x3, w => (if 12 ≤ x3 then k x2 x3 w else fn8_layRumour_15 x3 (fun x2_15 x4_15 w_15 => (if ib x3 12 = true then fn8_layRumour_6 k nn x2_15 (x3 + 1) (up2 w_15 9 x3.toNatClampNeg x2_15) else none)) 1000 x2 0 w)
set_option maxRecDepth 20000 in
theorem bk8_layRumour_6 {M : MX} {G : GX} (C : BC M G shM 19 eM RX8 cX8_layRumour 9 none rm8_layRumour) {z : Int32 × Mem} {k : Int32 → Int32 → Mem → Option (Int32 × Mem)} (hk : ∀ (x2 : Int32) (x3 : Int32) (w : Mem), k x2 x3 w = some z → BW M G shM 19 9 (ZR M G shM 19 none z) 202 [] [] w) : ∀ (nn : Nat) (x2 : Int32) (x3 : Int32) (w : Mem), fn8_layRumour_6 k nn x2 x3 w = some z → BW M G shM 19 9 (ZR M G shM 19 none z) 6 [(0, .ref (gad G 0)), (2, .int x2), (3, .int x3)] [] w := by
  intro nn
  induction nn with
  | zero =>
    intro x2 x3 w h
    have h : (none : Option (Int32 × Mem)) = some z := h
    cases h
  | succ nn ih =>
    intro x2 x3 w h
    rw [fn8_layRumour_6] at h
    refine bw_iload_n C 2 dX8_layRumour_6 rfl rfl ?_
    refine bw_bipush C (v := 12) dX8_layRumour_7 (by decide) ?_
    refine bw_icmp_ge C (tgt := 202) dX8_layRumour_9 (by decide) h (fun h => ?_) (fun h => ?_)
    · exact bw_sub [] rfl (hk x2 x3 w h)
    · refine bw_iconst C (v := 0) dX8_layRumour_12 (by decide) ?_
      refine bw_istore C [(4, .int 0), (0, .ref (gad G 0)), (2, .int x2), (3, .int x3)] dX8_layRumour_13 (by decide) rfl ?_
      refine bw_sub [1, 2, 3, 0] rfl (bk8_layRumour_15 C x3 (fun x2_15 x4_15 w_15 h => ?_) 1000 x2 0 w h)
      refine bw_aload_n C 0 dX8_layRumour_189 rfl rfl ?_
      refine bw_getr C (j := 24) (t := 9) lM0 sM0 rfl inlX8 (by decide) rfl flX8_34 dX8_layRumour_190 ?_
      refine bw_iload_n C 2 dX8_layRumour_193 rfl rfl ?_
      refine bw_iload_n C 1 dX8_layRumour_194 rfl rfl ?_
      refine bw_iast C lM9 sM9 dX8_layRumour_195 h (fun h => ?_)
      refine bw_iinc C [(3, .int (x3 + 1)), (0, .ref (gad G 0)), (2, .int x2_15)] 2 dX8_layRumour_196 rfl rfl (by decide) rfl ?_
      refine bw_goto C (tgt := 6) dX8_layRumour_199 (by decide) ?_
      exact bw_sub [1, 2, 0] rfl (ih x2_15 (x3 + 1) (up2 w_15 9 x3.toNatClampNeg x2_15) h)
def fn8_layRumour  (x1 : Int32) (w : Mem) : Option (Int32 × Mem) := fn8_layRumour_6 (fun x2_6 x3_6 w_6 => some (0, w_6)) 1000 ((1 : Int32) <<< (x1 &&& 31)) 0 w
set_option maxRecDepth 20000 in
theorem bk8_layRumour {M : MX} {G : GX} (C : BC M G shM 19 eM RX8 cX8_layRumour 9 none rm8_layRumour) {z : Int32 × Mem}   (x1 : Int32) {w : Mem} (h : fn8_layRumour  x1 w = some z) : BW M G shM 19 9 (ZR M G shM 19 none z) 0 [(0, .ref (gad G 0)), (1, .int x1)] [] w := by
  rw [fn8_layRumour] at h
  refine bw_iconst C (v := 1) dX8_layRumour_0 (by decide) ?_
  refine bw_iload_n C 1 dX8_layRumour_1 rfl rfl ?_
  refine bw_ishl C dX8_layRumour_2 ?_
  refine bw_istore_n C [(2, .int ((1 : Int32) <<< (x1 &&& 31))), (0, .ref (gad G 0)), (1, .int x1)] dX8_layRumour_3 rfl (by decide) rfl ?_
  refine bw_iconst C (v := 0) dX8_layRumour_4 (by decide) ?_
  refine bw_istore_n C [(3, .int 0), (2, .int ((1 : Int32) <<< (x1 &&& 31))), (0, .ref (gad G 0)), (1, .int x1)] dX8_layRumour_5 rfl (by decide) rfl ?_
  refine bw_sub [2, 1, 0] rfl (bk8_layRumour_6 C (fun x2_6 x3_6 w_6 h => ?_) 1000 ((1 : Int32) <<< (x1 &&& 31)) 0 w h)
  exact bw_vret C dX8_layRumour_202 h
theorem mt8_layRumour {l : Launch} {G : GX}   {x1 : Int32} {w : Mem} {z : Int32 × Mem} (h : fn8_layRumour  x1 w = some z) : MC l G shM 19 eM yX8_layRumour cX8_layRumour 9 none rm8_layRumour [.ref (gad G 0), .int x1] w z := by
  refine met_of (by decide +kernel) (eM_ok _) rfl (Nat.le_of_ble_eq_true rfl) (fun M hM C => ?_)
  subst hM
  exact bk8_layRumour C  x1 h
def rm8_knows : Room := { frames := 7, cells := 0, slots := 0, locals := 164 }
def fn8_knows  (x1 : Int32) (x2 : Int32) (w : Mem) : Option (Int32 × Mem) := (fn8_isOne x1 w).bind (fun q2 => (if q2.1 = 0 then some ((-1), q2.2) else (fn8_isHour x2 q2.2).bind (fun q9 => (if ¬ q9.1 = 0 then (fn8_layRumour x1 q9.2).bind (fun q19 => (if ib x2 12 = true then some ((q19.2 9 x2.toNatClampNeg), q19.2) else none)) else some ((-1), q9.2)))))
set_option maxRecDepth 20000 in
theorem bk8_knows {M : MX} {G : GX} (C : BC M G shM 19 eM RX8 cX8_knows 3 (some .int) rm8_knows) {z : Int32 × Mem}   (x1 : Int32) (x2 : Int32) {w : Mem} (h : fn8_knows  x1 x2 w = some z) : BW M G shM 19 3 (ZR M G shM 19 (some .int) z) 0 [(0, .ref (gad G 0)), (1, .int x1), (2, .int x2)] [] w := by
  rw [fn8_knows] at h
  refine bw_aload_n C 0 dX8_knows_0 rfl rfl ?_
  refine bw_iload_n C 1 dX8_knows_1 rfl rfl ?_
  refine bw_callVi C (As := [.int x1]) lM0 sM0 rfl miX8_isOne mlX8_180 imX8_isOne seX8_isOne (by decide) rfl rfl (fun z1 h1 => mt8_isOne h1) rfl (Nat.le_of_ble_eq_true rfl) rfl dX8_knows_2 h (fun q2 _ h => ?_)
  refine bw_if_eq C (tgt := 15) dX8_knows_5 (by decide) h (fun h => ?_) (fun h => ?_)
  · refine bw_iconst C (v := (-1)) dX8_knows_15 (by decide) ?_
    exact bw_iret C dX8_knows_16 h
  · refine bw_iload_n C 2 dX8_knows_8 rfl rfl ?_
    refine bw_callSi C (As := [.int x2]) miX8_isHour mlX8_222 smX8_isHour (by decide) rfl rfl (fun z1 h1 => mt8_isHour h1) rfl (Nat.le_of_ble_eq_true rfl) rfl dX8_knows_9 h (fun q9 _ h => ?_)
    refine bw_if_ne C (tgt := 17) dX8_knows_12 (by decide) h (fun h => ?_) (fun h => ?_)
    · refine bw_aload_n C 0 dX8_knows_17 rfl rfl ?_
      refine bw_iload_n C 1 dX8_knows_18 rfl rfl ?_
      refine bw_callVv C (As := [.int x1]) lM0 sM0 rfl miX8_layRumour mlX8_233 imX8_layRumour seX8_layRumour (by decide) rfl rfl (fun z1 h1 => mt8_layRumour h1) rfl (Nat.le_of_ble_eq_true rfl) rfl dX8_knows_19 h (fun q19 _ h => ?_)
      refine bw_aload_n C 0 dX8_knows_22 rfl rfl ?_
      refine bw_getr C (j := 24) (t := 9) lM0 sM0 rfl inlX8 (by decide) rfl flX8_34 dX8_knows_23 ?_
      refine bw_iload_n C 2 dX8_knows_26 rfl rfl ?_
      refine bw_iald C lM9 sM9 dX8_knows_27 h (fun h => ?_)
      exact bw_iret C dX8_knows_28 h
    · refine bw_iconst C (v := (-1)) dX8_knows_15 (by decide) ?_
      exact bw_iret C dX8_knows_16 h
theorem mt8_knows {l : Launch} {G : GX}   {x1 : Int32} {x2 : Int32} {w : Mem} {z : Int32 × Mem} (h : fn8_knows  x1 x2 w = some z) : MC l G shM 19 eM yX8_knows cX8_knows 3 (some .int) rm8_knows [.ref (gad G 0), .int x1, .int x2] w z := by
  refine met_of (by decide +kernel) (eM_ok _) rfl (Nat.le_of_ble_eq_true rfl) (fun M hM C => ?_)
  subst hM
  exact bk8_knows C  x1 x2 h
def rm8_learnsIn : Room := { frames := 7, cells := 0, slots := 0, locals := 164 }
def fn8_learnsIn_7 (x1 : Int32) (x2 : Int32) (k : Int32 → Mem → Option (Int32 × Mem)) : Nat → Int32 → Mem → Option (Int32 × Mem)
  | 0, _, _ => none
  | nn + 1, x3, w => (if 12 ≤ x3 then k x3 w else (if ib x3 12 = true then (if ¬ (((w 9 x3.toNatClampNeg) >>> (x2 &&& 31)) &&& 1) = 1 then fn8_learnsIn_7 x1 x2 k nn (x3 + 1) w else (if ¬ x1 = x2 then some (x3, w) else some (0, w))) else none))
set_option maxRecDepth 20000 in
theorem bk8_learnsIn_7 {M : MX} {G : GX} (C : BC M G shM 19 eM RX8 cX8_learnsIn 4 (some .int) rm8_learnsIn) {z : Int32 × Mem} (x1 : Int32) (x2 : Int32) {k : Int32 → Mem → Option (Int32 × Mem)} (hk : ∀ (x3 : Int32) (w : Mem), k x3 w = some z → BW M G shM 19 4 (ZR M G shM 19 (some .int) z) 44 [] [] w) : ∀ (nn : Nat) (x3 : Int32) (w : Mem), fn8_learnsIn_7 x1 x2 k nn x3 w = some z → BW M G shM 19 4 (ZR M G shM 19 (some .int) z) 7 [(0, .ref (gad G 0)), (1, .int x1), (2, .int x2), (3, .int x3)] [] w := by
  intro nn
  induction nn with
  | zero =>
    intro x3 w h
    have h : (none : Option (Int32 × Mem)) = some z := h
    cases h
  | succ nn ih =>
    intro x3 w h
    rw [fn8_learnsIn_7] at h
    refine bw_iload_n C 3 dX8_learnsIn_7 rfl rfl ?_
    refine bw_bipush C (v := 12) dX8_learnsIn_8 (by decide) ?_
    refine bw_icmp_ge C (tgt := 44) dX8_learnsIn_10 (by decide) h (fun h => ?_) (fun h => ?_)
    · exact bw_sub [] rfl (hk x3 w h)
    · refine bw_aload_n C 0 dX8_learnsIn_13 rfl rfl ?_
      refine bw_getr C (j := 24) (t := 9) lM0 sM0 rfl inlX8 (by decide) rfl flX8_34 dX8_learnsIn_14 ?_
      refine bw_iload_n C 3 dX8_learnsIn_17 rfl rfl ?_
      refine bw_iald C lM9 sM9 dX8_learnsIn_18 h (fun h => ?_)
      refine bw_iload_n C 2 dX8_learnsIn_19 rfl rfl ?_
      refine bw_ishr C dX8_learnsIn_20 ?_
      refine bw_iconst C (v := 1) dX8_learnsIn_21 (by decide) ?_
      refine bw_iand C dX8_learnsIn_22 ?_
      refine bw_iconst C (v := 1) dX8_learnsIn_23 (by decide) ?_
      refine bw_icmp_ne C (tgt := 38) dX8_learnsIn_24 (by decide) h (fun h => ?_) (fun h => ?_)
      · refine bw_iinc C [(3, .int (x3 + 1)), (0, .ref (gad G 0)), (1, .int x1), (2, .int x2)] 3 dX8_learnsIn_38 rfl rfl (by decide) rfl ?_
        refine bw_goto C (tgt := 7) dX8_learnsIn_41 (by decide) ?_
        exact bw_sub [1, 2, 3, 0] rfl (ih (x3 + 1) w h)
      · refine bw_iload_n C 1 dX8_learnsIn_27 rfl rfl ?_
        refine bw_iload_n C 2 dX8_learnsIn_28 rfl rfl ?_
        refine bw_icmp_ne C (tgt := 36) dX8_learnsIn_29 (by decide) h (fun h => ?_) (fun h => ?_)
        · refine bw_iload_n C 3 dX8_learnsIn_36 rfl rfl ?_
          exact bw_iret C dX8_learnsIn_37 h
        · refine bw_iconst C (v := 0) dX8_learnsIn_32 (by decide) ?_
          refine bw_goto C (tgt := 37) dX8_learnsIn_33 (by decide) ?_
          exact bw_iret C dX8_learnsIn_37 h
def fn8_learnsIn  (x1 : Int32) (x2 : Int32) (w : Mem) : Option (Int32 × Mem) := (fn8_layRumour x1 w).bind (fun q2 => fn8_learnsIn_7 x1 x2 (fun x3_7 w_7 => some ((-4), w_7)) 1000 0 q2.2)
set_option maxRecDepth 20000 in
theorem bk8_learnsIn {M : MX} {G : GX} (C : BC M G shM 19 eM RX8 cX8_learnsIn 4 (some .int) rm8_learnsIn) {z : Int32 × Mem}   (x1 : Int32) (x2 : Int32) {w : Mem} (h : fn8_learnsIn  x1 x2 w = some z) : BW M G shM 19 4 (ZR M G shM 19 (some .int) z) 0 [(0, .ref (gad G 0)), (1, .int x1), (2, .int x2)] [] w := by
  rw [fn8_learnsIn] at h
  refine bw_aload_n C 0 dX8_learnsIn_0 rfl rfl ?_
  refine bw_iload_n C 1 dX8_learnsIn_1 rfl rfl ?_
  refine bw_callVv C (As := [.int x1]) lM0 sM0 rfl miX8_layRumour mlX8_233 imX8_layRumour seX8_layRumour (by decide) rfl rfl (fun z1 h1 => mt8_layRumour h1) rfl (Nat.le_of_ble_eq_true rfl) rfl dX8_learnsIn_2 h (fun q2 _ h => ?_)
  refine bw_iconst C (v := 0) dX8_learnsIn_5 (by decide) ?_
  refine bw_istore_n C [(3, .int 0), (0, .ref (gad G 0)), (1, .int x1), (2, .int x2)] dX8_learnsIn_6 rfl (by decide) rfl ?_
  refine bw_sub [1, 2, 3, 0] rfl (bk8_learnsIn_7 C x1 x2 (fun x3_7 w_7 h => ?_) 1000 0 q2.2 h)
  refine bw_bipush C (v := (-4)) dX8_learnsIn_44 (by decide) ?_
  exact bw_iret C dX8_learnsIn_46 h
theorem mt8_learnsIn {l : Launch} {G : GX}   {x1 : Int32} {x2 : Int32} {w : Mem} {z : Int32 × Mem} (h : fn8_learnsIn  x1 x2 w = some z) : MC l G shM 19 eM yX8_learnsIn cX8_learnsIn 4 (some .int) rm8_learnsIn [.ref (gad G 0), .int x1, .int x2] w z := by
  refine met_of (by decide +kernel) (eM_ok _) rfl (Nat.le_of_ble_eq_true rfl) (fun M hM C => ?_)
  subst hM
  exact bk8_learnsIn C  x1 x2 h
def rm8_learns : Room := { frames := 8, cells := 0, slots := 0, locals := 187 }
def fn8_learns  (x1 : Int32) (x2 : Int32) (w : Mem) : Option (Int32 × Mem) := (fn8_isOne x1 w).bind (fun q2 => (if q2.1 = 0 then some ((-1), q2.2) else (fn8_isOne x2 q2.2).bind (fun q10 => (if q10.1 = 0 then some ((-1), q10.2) else (fn8_learnsIn x1 x2 q10.2).bind (fun q19 => some (q19.1, q19.2))))))
set_option maxRecDepth 20000 in
theorem bk8_learns {M : MX} {G : GX} (C : BC M G shM 19 eM RX8 cX8_learns 3 (some .int) rm8_learns) {z : Int32 × Mem}   (x1 : Int32) (x2 : Int32) {w : Mem} (h : fn8_learns  x1 x2 w = some z) : BW M G shM 19 3 (ZR M G shM 19 (some .int) z) 0 [(0, .ref (gad G 0)), (1, .int x1), (2, .int x2)] [] w := by
  rw [fn8_learns] at h
  refine bw_aload_n C 0 dX8_learns_0 rfl rfl ?_
  refine bw_iload_n C 1 dX8_learns_1 rfl rfl ?_
  refine bw_callVi C (As := [.int x1]) lM0 sM0 rfl miX8_isOne mlX8_180 imX8_isOne seX8_isOne (by decide) rfl rfl (fun z1 h1 => mt8_isOne h1) rfl (Nat.le_of_ble_eq_true rfl) rfl dX8_learns_2 h (fun q2 _ h => ?_)
  refine bw_if_eq C (tgt := 25) dX8_learns_5 (by decide) h (fun h => ?_) (fun h => ?_)
  · refine bw_iconst C (v := (-1)) dX8_learns_25 (by decide) ?_
    exact bw_iret C dX8_learns_26 h
  · refine bw_aload_n C 0 dX8_learns_8 rfl rfl ?_
    refine bw_iload_n C 2 dX8_learns_9 rfl rfl ?_
    refine bw_callVi C (As := [.int x2]) lM0 sM0 rfl miX8_isOne mlX8_180 imX8_isOne seX8_isOne (by decide) rfl rfl (fun z1 h1 => mt8_isOne h1) rfl (Nat.le_of_ble_eq_true rfl) rfl dX8_learns_10 h (fun q10 _ h => ?_)
    refine bw_if_eq C (tgt := 25) dX8_learns_13 (by decide) h (fun h => ?_) (fun h => ?_)
    · refine bw_iconst C (v := (-1)) dX8_learns_25 (by decide) ?_
      exact bw_iret C dX8_learns_26 h
    · refine bw_aload_n C 0 dX8_learns_16 rfl rfl ?_
      refine bw_iload_n C 1 dX8_learns_17 rfl rfl ?_
      refine bw_iload_n C 2 dX8_learns_18 rfl rfl ?_
      refine bw_callVi C (As := [.int x1, .int x2]) lM0 sM0 rfl miX8_learnsIn mlX8_236 imX8_learnsIn seX8_learnsIn (by decide) rfl rfl (fun z1 h1 => mt8_learnsIn h1) rfl (Nat.le_of_ble_eq_true rfl) rfl dX8_learns_19 h (fun q19 _ h => ?_)
      refine bw_goto C (tgt := 26) dX8_learns_22 (by decide) ?_
      exact bw_iret C dX8_learns_26 h
theorem mt8_learns {l : Launch} {G : GX}   {x1 : Int32} {x2 : Int32} {w : Mem} {z : Int32 × Mem} (h : fn8_learns  x1 x2 w = some z) : MC l G shM 19 eM yX8_learns cX8_learns 3 (some .int) rm8_learns [.ref (gad G 0), .int x1, .int x2] w z := by
  refine met_of (by decide +kernel) (eM_ok _) rfl (Nat.le_of_ble_eq_true rfl) (fun M hM C => ?_)
  subst hM
  exact bk8_learns C  x1 x2 h
def rm8_hush : Room := { frames := 8, cells := 0, slots := 0, locals := 187 }
def fn8_hush_100 (x1 : Int32) (x2 : Int32) (x3 : Int32) (x4 : Int32) (x5 : Int32) (t0 : Int32) (kb : Int32 → Mem → Option (Int32 × Mem)) (w : Mem) : Option (Int32 × Mem) := (if ib ((4 * x5) + 3) 228 = true then (if t0 = 0 then kb (x4 + 1) (up2 w 1 ((4 * x5) + 3).toNatClampNeg 0) else (if ¬ x3 = 0 then (if 12 = 0 then none else some ((x4 - x4 / 12 * 12), (up2 w 1 ((4 * x5) + 3).toNatClampNeg 0))) else some (x5, (up2 w 1 ((4 * x5) + 3).toNatClampNeg 0)))) else none)
set_option maxRecDepth 20000 in
theorem bk8_hush_100 {M : MX} {G : GX} (C : BC M G shM 19 eM RX8 cX8_hush 7 (some .int) rm8_hush) {z : Int32 × Mem} (x1 : Int32) (x2 : Int32) (x3 : Int32) (x4 : Int32) (x5 : Int32) (t0 : Int32) {kb : Int32 → Mem → Option (Int32 × Mem)} (hkb : ∀ (x4 : Int32) (w : Mem), kb x4 w = some z → BW M G shM 19 7 (ZR M G shM 19 (some .int) z) 38 [(0, .ref (gad G 0)), (1, .int x1), (2, .int x2), (3, .int x3), (4, .int x4)] [] w) {w : Mem} (h : fn8_hush_100 x1 x2 x3 x4 x5 t0 kb w = some z) : BW M G shM 19 7 (ZR M G shM 19 (some .int) z) 100 [(0, .ref (gad G 0)), (1, .int x1), (2, .int x2), (3, .int x3), (4, .int x4), (5, .int x5)] [.int t0] w := by
  rw [fn8_hush_100] at h
  refine bw_istore C [(6, .int t0), (0, .ref (gad G 0)), (1, .int x1), (2, .int x2), (3, .int x3), (4, .int x4), (5, .int x5)] dX8_hush_100 (by decide) rfl ?_
  refine bw_aload_n C 1 dX8_hush_102 rfl rfl ?_
  refine bw_getr C (j := 0) (t := 1) lM0 sM0 rfl inlX8 (by decide) rfl flX8_7 dX8_hush_103 ?_
  refine bw_iconst C (v := 4) dX8_hush_106 (by decide) ?_
  refine bw_iload C 6 dX8_hush_107 rfl ?_
  refine bw_imul C dX8_hush_109 ?_
  refine bw_iconst C (v := 3) dX8_hush_110 (by decide) ?_
  refine bw_iadd C dX8_hush_111 ?_
  refine bw_iconst C (v := 0) dX8_hush_112 (by decide) ?_
  refine bw_iast C lM1 sM1 dX8_hush_113 h (fun h => ?_)
  refine bw_iload C 0 dX8_hush_114 rfl ?_
  refine bw_if_eq C (tgt := 134) dX8_hush_116 (by decide) h (fun h => ?_) (fun h => ?_)
  · refine bw_iinc C [(4, .int (x4 + 1)), (6, .int t0), (0, .ref (gad G 0)), (1, .int x1), (2, .int x2), (3, .int x3), (5, .int x5)] 5 dX8_hush_134 rfl rfl (by decide) rfl ?_
    refine bw_goto C (tgt := 38) dX8_hush_137 (by decide) ?_
    exact bw_sub [2, 3, 4, 5, 0] rfl (hkb (x4 + 1) (up2 w 1 ((4 * x5) + 3).toNatClampNeg 0) h)
  · refine bw_iload_n C 4 dX8_hush_119 rfl rfl ?_
    refine bw_if_ne C (tgt := 128) dX8_hush_120 (by decide) h (fun h => ?_) (fun h => ?_)
    · refine bw_iload C 5 dX8_hush_128 rfl ?_
      refine bw_bipush C (v := 12) dX8_hush_130 (by decide) ?_
      refine bw_irem C dX8_hush_132 h (fun h => ?_)
      exact bw_iret C dX8_hush_133 h
    · refine bw_iload C 6 dX8_hush_123 rfl ?_
      refine bw_goto C (tgt := 133) dX8_hush_125 (by decide) ?_
      exact bw_iret C dX8_hush_133 h
def fn8_hush_38 (x1 : Int32) (x2 : Int32) (x3 : Int32) (k : Int32 → Mem → Option (Int32 × Mem)) : Nat → Int32 → Mem → Option (Int32 × Mem)
  | 0, _, _ => none
  | nn + 1, x4, w => (if (12 * (w 0 3)) ≤ x4 then k x4 w else (if 12 = 0 then none else (fn8_isSpent (x4 / 12) w).bind (fun q60 => (if ¬ q60.1 = 0 then fn8_hush_38 x1 x2 x3 k nn (x4 + 1) q60.2 else (if 12 = 0 then none else (if ib ((4 * (x4 / 12)) + 3) 228 = true then (fn8_learnsIn x1 x2 (up2 q60.2 1 ((4 * (x4 / 12)) + 3).toNatClampNeg (1 + (x4 - x4 / 12 * 12)))).bind (fun q87 => (if ¬ q87.1 = (-4) then fn8_hush_100 x1 x2 x3 x4 (x4 / 12) 0 (fn8_hush_38 x1 x2 x3 k nn) q87.2 else fn8_hush_100 x1 x2 x3 x4 (x4 / 12) 1 (fn8_hush_38 x1 x2 x3 k nn) q87.2)) else none))))))
set_option maxRecDepth 20000 in
theorem bk8_hush_38 {M : MX} {G : GX} (C : BC M G shM 19 eM RX8 cX8_hush 7 (some .int) rm8_hush) {z : Int32 × Mem} (x1 : Int32) (x2 : Int32) (x3 : Int32) {k : Int32 → Mem → Option (Int32 × Mem)} (hk : ∀ (x4 : Int32) (w : Mem), k x4 w = some z → BW M G shM 19 7 (ZR M G shM 19 (some .int) z) 140 [] [] w) : ∀ (nn : Nat) (x4 : Int32) (w : Mem), fn8_hush_38 x1 x2 x3 k nn x4 w = some z → BW M G shM 19 7 (ZR M G shM 19 (some .int) z) 38 [(0, .ref (gad G 0)), (1, .int x1), (2, .int x2), (3, .int x3), (4, .int x4)] [] w := by
  intro nn
  induction nn with
  | zero =>
    intro x4 w h
    have h : (none : Option (Int32 × Mem)) = some z := h
    cases h
  | succ nn ih =>
    intro x4 w h
    rw [fn8_hush_38] at h
    refine bw_iload C 4 dX8_hush_38 rfl ?_
    refine bw_bipush C (v := 12) dX8_hush_40 (by decide) ?_
    refine bw_aload_n C 0 dX8_hush_42 rfl rfl ?_
    refine bw_geti C (j := 3) lM0 sM0 rfl inlX8 (by decide) rfl flX8_169 dX8_hush_43 ?_
    refine bw_imul C dX8_hush_46 ?_
    refine bw_icmp_ge C (tgt := 140) dX8_hush_47 (by decide) h (fun h => ?_) (fun h => ?_)
    · exact bw_sub [] rfl (hk x4 w h)
    · refine bw_iload C 4 dX8_hush_50 rfl ?_
      refine bw_bipush C (v := 12) dX8_hush_52 (by decide) ?_
      refine bw_idiv C dX8_hush_54 h (fun h => ?_)
      refine bw_istore C [(5, .int (x4 / 12)), (0, .ref (gad G 0)), (1, .int x1), (2, .int x2), (3, .int x3), (4, .int x4)] dX8_hush_55 (by decide) rfl ?_
      refine bw_aload_n C 1 dX8_hush_57 rfl rfl ?_
      refine bw_iload C 0 dX8_hush_58 rfl ?_
      refine bw_callVi C (As := [.int (x4 / 12)]) lM0 sM0 rfl miX8_isSpent mlX8_203 imX8_isSpent seX8_isSpent (by decide) rfl rfl (fun z1 h1 => mt8_isSpent h1) rfl (Nat.le_of_ble_eq_true rfl) rfl dX8_hush_60 h (fun q60 _ h => ?_)
      refine bw_if_ne C (tgt := 134) dX8_hush_63 (by decide) h (fun h => ?_) (fun h => ?_)
      · refine bw_iinc C [(4, .int (x4 + 1)), (5, .int (x4 / 12)), (0, .ref (gad G 0)), (1, .int x1), (2, .int x2), (3, .int x3)] 5 dX8_hush_134 rfl rfl (by decide) rfl ?_
        refine bw_goto C (tgt := 38) dX8_hush_137 (by decide) ?_
        exact bw_sub [2, 3, 4, 5, 0] rfl (ih (x4 + 1) q60.2 h)
      · refine bw_aload_n C 1 dX8_hush_66 rfl rfl ?_
        refine bw_getr C (j := 0) (t := 1) lM0 sM0 rfl inlX8 (by decide) rfl flX8_7 dX8_hush_67 ?_
        refine bw_iconst C (v := 4) dX8_hush_70 (by decide) ?_
        refine bw_iload C 0 dX8_hush_71 rfl ?_
        refine bw_imul C dX8_hush_73 ?_
        refine bw_iconst C (v := 3) dX8_hush_74 (by decide) ?_
        refine bw_iadd C dX8_hush_75 ?_
        refine bw_iconst C (v := 1) dX8_hush_76 (by decide) ?_
        refine bw_iload C 5 dX8_hush_77 rfl ?_
        refine bw_bipush C (v := 12) dX8_hush_79 (by decide) ?_
        refine bw_irem C dX8_hush_81 h (fun h => ?_)
        refine bw_iadd C dX8_hush_82 ?_
        refine bw_iast C lM1 sM1 dX8_hush_83 h (fun h => ?_)
        refine bw_aload_n C 1 dX8_hush_84 rfl rfl ?_
        refine bw_iload_n C 2 dX8_hush_85 rfl rfl ?_
        refine bw_iload_n C 3 dX8_hush_86 rfl rfl ?_
        refine bw_callVi C (As := [.int x1, .int x2]) lM0 sM0 rfl miX8_learnsIn mlX8_236 imX8_learnsIn seX8_learnsIn (by decide) rfl rfl (fun z1 h1 => mt8_learnsIn h1) rfl (Nat.le_of_ble_eq_true rfl) rfl dX8_hush_87 h (fun q87 _ h => ?_)
        refine bw_bipush C (v := (-4)) dX8_hush_90 (by decide) ?_
        refine bw_icmp_ne C (tgt := 99) dX8_hush_92 (by decide) h (fun h => ?_) (fun h => ?_)
        · refine bw_iconst C (v := 0) dX8_hush_99 (by decide) ?_
          exact bw_sub [1, 2, 3, 4, 5, 0] rfl (bk8_hush_100 C x1 x2 x3 x4 (x4 / 12) 0 ih h)
        · refine bw_iconst C (v := 1) dX8_hush_95 (by decide) ?_
          refine bw_goto C (tgt := 100) dX8_hush_96 (by decide) ?_
          exact bw_sub [1, 2, 3, 4, 5, 0] rfl (bk8_hush_100 C x1 x2 x3 x4 (x4 / 12) 1 ih h)
def fn8_hush  (x1 : Int32) (x2 : Int32) (x3 : Int32) (w : Mem) : Option (Int32 × Mem) := (fn8_areTwo x1 x2 w).bind (fun q3 => (if q3.1 = 0 then some ((-1), q3.2) else (fn8_in ((x3 : Int32).toInt64) 0 1 q3.2).bind (fun q13 => (if ¬ q13.1 = 0 then (fn8_learnsIn x1 x2 q13.2).bind (fun q24 => (if ¬ q24.1 = (-4) then fn8_hush_38 x1 x2 x3 (fun x4_38 w_38 => some ((-4), w_38)) 1000 0 q24.2 else some ((-2), q24.2))) else some ((-1), q13.2)))))
set_option maxRecDepth 20000 in
theorem bk8_hush {M : MX} {G : GX} (C : BC M G shM 19 eM RX8 cX8_hush 7 (some .int) rm8_hush) {z : Int32 × Mem}   (x1 : Int32) (x2 : Int32) (x3 : Int32) {w : Mem} (h : fn8_hush  x1 x2 x3 w = some z) : BW M G shM 19 7 (ZR M G shM 19 (some .int) z) 0 [(0, .ref (gad G 0)), (1, .int x1), (2, .int x2), (3, .int x3)] [] w := by
  rw [fn8_hush] at h
  refine bw_aload_n C 0 dX8_hush_0 rfl rfl ?_
  refine bw_iload_n C 1 dX8_hush_1 rfl rfl ?_
  refine bw_iload_n C 2 dX8_hush_2 rfl rfl ?_
  refine bw_callVi C (As := [.int x1, .int x2]) lM0 sM0 rfl miX8_areTwo mlX8_225 imX8_areTwo seX8_areTwo (by decide) rfl rfl (fun z1 h1 => mt8_areTwo h1) rfl (Nat.le_of_ble_eq_true rfl) rfl dX8_hush_3 h (fun q3 _ h => ?_)
  refine bw_if_eq C (tgt := 19) dX8_hush_6 (by decide) h (fun h => ?_) (fun h => ?_)
  · refine bw_iconst C (v := (-1)) dX8_hush_19 (by decide) ?_
    exact bw_iret C dX8_hush_20 h
  · refine bw_iload_n C 3 dX8_hush_9 rfl rfl ?_
    refine bw_i2l C dX8_hush_10 rfl ?_
    refine bw_lconst C (v := 0) dX8_hush_11 (by decide) ?_
    refine bw_lconst C (v := 1) dX8_hush_12 (by decide) ?_
    refine bw_callSi C (As := [.long ((x3 : Int32).toInt64), .long 0, .long 1]) miX8_in mlX8_69 smX8_in (by decide) rfl rfl (fun z1 h1 => mt8_in h1) rfl (Nat.le_of_ble_eq_true rfl) rfl dX8_hush_13 h (fun q13 _ h => ?_)
    refine bw_if_ne C (tgt := 21) dX8_hush_16 (by decide) h (fun h => ?_) (fun h => ?_)
    · refine bw_aload_n C 0 dX8_hush_21 rfl rfl ?_
      refine bw_iload_n C 1 dX8_hush_22 rfl rfl ?_
      refine bw_iload_n C 2 dX8_hush_23 rfl rfl ?_
      refine bw_callVi C (As := [.int x1, .int x2]) lM0 sM0 rfl miX8_learnsIn mlX8_236 imX8_learnsIn seX8_learnsIn (by decide) rfl rfl (fun z1 h1 => mt8_learnsIn h1) rfl (Nat.le_of_ble_eq_true rfl) rfl dX8_hush_24 h (fun q24 _ h => ?_)
      refine bw_bipush C (v := (-4)) dX8_hush_27 (by decide) ?_
      refine bw_icmp_ne C (tgt := 35) dX8_hush_29 (by decide) h (fun h => ?_) (fun h => ?_)
      · refine bw_iconst C (v := 0) dX8_hush_35 (by decide) ?_
        refine bw_istore C [(4, .int 0), (0, .ref (gad G 0)), (1, .int x1), (2, .int x2), (3, .int x3)] dX8_hush_36 (by decide) rfl ?_
        refine bw_sub [1, 2, 3, 4, 0] rfl (bk8_hush_38 C x1 x2 x3 (fun x4_38 w_38 h => ?_) 1000 0 q24.2 h)
        refine bw_bipush C (v := (-4)) dX8_hush_140 (by decide) ?_
        exact bw_iret C dX8_hush_142 h
      · refine bw_bipush C (v := (-2)) dX8_hush_32 (by decide) ?_
        exact bw_iret C dX8_hush_34 h
    · refine bw_iconst C (v := (-1)) dX8_hush_19 (by decide) ?_
      exact bw_iret C dX8_hush_20 h
theorem mt8_hush {l : Launch} {G : GX}   {x1 : Int32} {x2 : Int32} {x3 : Int32} {w : Mem} {z : Int32 × Mem} (h : fn8_hush  x1 x2 x3 w = some z) : MC l G shM 19 eM yX8_hush cX8_hush 7 (some .int) rm8_hush [.ref (gad G 0), .int x1, .int x2, .int x3] w z := by
  refine met_of (by decide +kernel) (eM_ok _) rfl (Nat.le_of_ble_eq_true rfl) (fun M hM C => ?_)
  subst hM
  exact bk8_hush C  x1 x2 x3 h
def rm8_hear : Room := { frames := 2, cells := 0, slots := 0, locals := 46 }
def fn8_hear_55 (t0 : Int32) (t1 : Int32) (w : Mem) : Option (Int32 × Mem) := (if ib t1 12 = true then some (((up2 (up2 w 10 t1.toNatClampNeg t0) 0 26 (((up2 w 10 t1.toNatClampNeg t0) 0 26) + 1)) 0 26), (up2 (up2 w 10 t1.toNatClampNeg t0) 0 26 (((up2 w 10 t1.toNatClampNeg t0) 0 26) + 1))) else none)
set_option maxRecDepth 20000 in
theorem bk8_hear_55 {M : MX} {G : GX} (C : BC M G shM 19 eM RX8 cX8_hear 3 (some .int) rm8_hear) {z : Int32 × Mem} (t0 : Int32) (t1 : Int32) {w : Mem} (h : fn8_hear_55 t0 t1 w = some z) : BW M G shM 19 3 (ZR M G shM 19 (some .int) z) 55 [(0, .ref (gad G 0))] [.int t0, .int t1, .ref (gad G 10)] w := by
  rw [fn8_hear_55] at h
  refine bw_iast C lM10 sM10 dX8_hear_55 h (fun h => ?_)
  refine bw_aload_n C 0 dX8_hear_56 rfl rfl ?_
  refine bw_dup C dX8_hear_57 rfl ?_
  refine bw_geti C (j := 26) lM0 sM0 rfl inlX8 (by decide) rfl flX8_172 dX8_hear_58 ?_
  refine bw_iconst C (v := 1) dX8_hear_61 (by decide) ?_
  refine bw_iadd C dX8_hear_62 ?_
  refine bw_puti C (j := 26) (ty := .int) lM0 sM0 rfl inlX8 (by decide) tyX8 tyX8_ok nmX8 rfl flX8_172 rfl (by decide +kernel) rfl rfl dX8_hear_63 ?_
  refine bw_aload_n C 0 dX8_hear_66 rfl rfl ?_
  refine bw_geti C (j := 26) lM0 sM0 rfl inlX8 (by decide) rfl flX8_172 dX8_hear_67 ?_
  exact bw_iret C dX8_hear_70 h
def fn8_hear  (x1 : Int32) (x2 : Int32) (w : Mem) : Option (Int32 × Mem) := (fn8_isOne x1 w).bind (fun q2 => (if ¬ q2.1 = 0 then (if ¬ (q2.2 0 26) = 6 then (if ib (2 * (q2.2 0 26)) 12 = true then (if x2 = 0 then fn8_hear_55 0 ((2 * ((up2 q2.2 10 (2 * (q2.2 0 26)).toNatClampNeg x1) 0 26)) + 1) (up2 q2.2 10 (2 * (q2.2 0 26)).toNatClampNeg x1) else fn8_hear_55 1 ((2 * ((up2 q2.2 10 (2 * (q2.2 0 26)).toNatClampNeg x1) 0 26)) + 1) (up2 q2.2 10 (2 * (q2.2 0 26)).toNatClampNeg x1)) else none) else some ((-3), q2.2)) else some ((-1), q2.2)))
set_option maxRecDepth 20000 in
theorem bk8_hear {M : MX} {G : GX} (C : BC M G shM 19 eM RX8 cX8_hear 3 (some .int) rm8_hear) {z : Int32 × Mem}   (x1 : Int32) (x2 : Int32) {w : Mem} (h : fn8_hear  x1 x2 w = some z) : BW M G shM 19 3 (ZR M G shM 19 (some .int) z) 0 [(0, .ref (gad G 0)), (1, .int x1), (2, .int x2)] [] w := by
  rw [fn8_hear] at h
  refine bw_aload_n C 0 dX8_hear_0 rfl rfl ?_
  refine bw_iload_n C 1 dX8_hear_1 rfl rfl ?_
  refine bw_callVi C (As := [.int x1]) lM0 sM0 rfl miX8_isOne mlX8_180 imX8_isOne seX8_isOne (by decide) rfl rfl (fun z1 h1 => mt8_isOne h1) rfl (Nat.le_of_ble_eq_true rfl) rfl dX8_hear_2 h (fun q2 _ h => ?_)
  refine bw_if_ne C (tgt := 10) dX8_hear_5 (by decide) h (fun h => ?_) (fun h => ?_)
  · refine bw_aload_n C 0 dX8_hear_10 rfl rfl ?_
    refine bw_geti C (j := 26) lM0 sM0 rfl inlX8 (by decide) rfl flX8_172 dX8_hear_11 ?_
    refine bw_bipush C (v := 6) dX8_hear_14 (by decide) ?_
    refine bw_icmp_ne C (tgt := 22) dX8_hear_16 (by decide) h (fun h => ?_) (fun h => ?_)
    · refine bw_aload_n C 0 dX8_hear_22 rfl rfl ?_
      refine bw_getr C (j := 25) (t := 10) lM0 sM0 rfl inlX8 (by decide) rfl flX8_37 dX8_hear_23 ?_
      refine bw_iconst C (v := 2) dX8_hear_26 (by decide) ?_
      refine bw_aload_n C 0 dX8_hear_27 rfl rfl ?_
      refine bw_geti C (j := 26) lM0 sM0 rfl inlX8 (by decide) rfl flX8_172 dX8_hear_28 ?_
      refine bw_imul C dX8_hear_31 ?_
      refine bw_iload_n C 1 dX8_hear_32 rfl rfl ?_
      refine bw_iast C lM10 sM10 dX8_hear_33 h (fun h => ?_)
      refine bw_aload_n C 0 dX8_hear_34 rfl rfl ?_
      refine bw_getr C (j := 25) (t := 10) lM0 sM0 rfl inlX8 (by decide) rfl flX8_37 dX8_hear_35 ?_
      refine bw_iconst C (v := 2) dX8_hear_38 (by decide) ?_
      refine bw_aload_n C 0 dX8_hear_39 rfl rfl ?_
      refine bw_geti C (j := 26) lM0 sM0 rfl inlX8 (by decide) rfl flX8_172 dX8_hear_40 ?_
      refine bw_imul C dX8_hear_43 ?_
      refine bw_iconst C (v := 1) dX8_hear_44 (by decide) ?_
      refine bw_iadd C dX8_hear_45 ?_
      refine bw_iload_n C 2 dX8_hear_46 rfl rfl ?_
      refine bw_if_eq C (tgt := 54) dX8_hear_47 (by decide) h (fun h => ?_) (fun h => ?_)
      · refine bw_iconst C (v := 0) dX8_hear_54 (by decide) ?_
        exact bw_sub [0] rfl (bk8_hear_55 C 0 ((2 * ((up2 q2.2 10 (2 * (q2.2 0 26)).toNatClampNeg x1) 0 26)) + 1) h)
      · refine bw_iconst C (v := 1) dX8_hear_50 (by decide) ?_
        refine bw_goto C (tgt := 55) dX8_hear_51 (by decide) ?_
        exact bw_sub [0] rfl (bk8_hear_55 C 1 ((2 * ((up2 q2.2 10 (2 * (q2.2 0 26)).toNatClampNeg x1) 0 26)) + 1) h)
    · refine bw_bipush C (v := (-3)) dX8_hear_19 (by decide) ?_
      exact bw_iret C dX8_hear_21 h
  · refine bw_iconst C (v := (-1)) dX8_hear_8 (by decide) ?_
    exact bw_iret C dX8_hear_9 h
theorem mt8_hear {l : Launch} {G : GX}   {x1 : Int32} {x2 : Int32} {w : Mem} {z : Int32 × Mem} (h : fn8_hear  x1 x2 w = some z) : MC l G shM 19 eM yX8_hear cX8_hear 3 (some .int) rm8_hear [.ref (gad G 0), .int x1, .int x2] w z := by
  refine met_of (by decide +kernel) (eM_ok _) rfl (Nat.le_of_ble_eq_true rfl) (fun M hM C => ?_)
  subst hM
  exact bk8_hear C  x1 x2 h
def rm8_forget : Room := { frames := 1, cells := 0, slots := 0, locals := 25 }
def fn8_forget  (x1 : Int32) (w : Mem) : Option (Int32 × Mem) := (fn8_in ((x1 : Int32).toInt64) 0 (((w 0 26) : Int32).toInt64) w).bind (fun q8 => (if ¬ q8.1 = 0 then some ((q8.2 0 26), (up2 q8.2 0 26 x1)) else some ((-1), q8.2)))
set_option maxRecDepth 20000 in
theorem bk8_forget {M : MX} {G : GX} (C : BC M G shM 19 eM RX8 cX8_forget 3 (some .int) rm8_forget) {z : Int32 × Mem}   (x1 : Int32) {w : Mem} (h : fn8_forget  x1 w = some z) : BW M G shM 19 3 (ZR M G shM 19 (some .int) z) 0 [(0, .ref (gad G 0)), (1, .int x1)] [] w := by
  rw [fn8_forget] at h
  refine bw_iload_n C 1 dX8_forget_0 rfl rfl ?_
  refine bw_i2l C dX8_forget_1 rfl ?_
  refine bw_lconst C (v := 0) dX8_forget_2 (by decide) ?_
  refine bw_aload_n C 0 dX8_forget_3 rfl rfl ?_
  refine bw_geti C (j := 26) lM0 sM0 rfl inlX8 (by decide) rfl flX8_172 dX8_forget_4 ?_
  refine bw_i2l C dX8_forget_7 rfl ?_
  refine bw_callSi C (As := [.long ((x1 : Int32).toInt64), .long 0, .long (((w 0 26) : Int32).toInt64)]) miX8_in mlX8_69 smX8_in (by decide) rfl rfl (fun z1 h1 => mt8_in h1) rfl (Nat.le_of_ble_eq_true rfl) rfl dX8_forget_8 h (fun q8 _ h => ?_)
  refine bw_if_ne C (tgt := 16) dX8_forget_11 (by decide) h (fun h => ?_) (fun h => ?_)
  · refine bw_aload_n C 0 dX8_forget_16 rfl rfl ?_
    refine bw_geti C (j := 26) lM0 sM0 rfl inlX8 (by decide) rfl flX8_172 dX8_forget_17 ?_
    refine bw_istore_n C [(2, .int (q8.2 0 26)), (0, .ref (gad G 0)), (1, .int x1)] dX8_forget_20 rfl (by decide) rfl ?_
    refine bw_aload_n C 1 dX8_forget_21 rfl rfl ?_
    refine bw_iload_n C 2 dX8_forget_22 rfl rfl ?_
    refine bw_puti C (j := 26) (ty := .int) lM0 sM0 rfl inlX8 (by decide) tyX8 tyX8_ok nmX8 rfl flX8_172 rfl (by decide +kernel) rfl rfl dX8_forget_23 ?_
    refine bw_iload_n C 0 dX8_forget_26 rfl rfl ?_
    exact bw_iret C dX8_forget_27 h
  · refine bw_iconst C (v := (-1)) dX8_forget_14 (by decide) ?_
    exact bw_iret C dX8_forget_15 h
theorem mt8_forget {l : Launch} {G : GX}   {x1 : Int32} {w : Mem} {z : Int32 × Mem} (h : fn8_forget  x1 w = some z) : MC l G shM 19 eM yX8_forget cX8_forget 3 (some .int) rm8_forget [.ref (gad G 0), .int x1] w z := by
  refine met_of (by decide +kernel) (eM_ok _) rfl (Nat.le_of_ble_eq_true rfl) (fun M hM C => ?_)
  subst hM
  exact bk8_forget C  x1 h
def rm8_first : Room := { frames := 7, cells := 0, slots := 0, locals := 164 }
def fn8_first_22 (x1 : Int32) (x2 : Int32) (k : Int32 → Int32 → Mem → Option (Int32 × Mem)) : Nat → Int32 → Int32 → Mem → Option (Int32 × Mem)
  | 0, _, _, _ => none
  | nn + 1, x3, x4, w => (if (w 0 26) ≤ x4 then k x3 x4 w else (if x3 = 0 then fn8_first_22 x1 x2 k nn 0 (x4 + 1) w else (if ib 11 12 = true then (if ib (2 * x4) 12 = true then (if ib ((2 * x4) + 1) 12 = true then (if ¬ (((w 9 (11 : Int32).toNatClampNeg) >>> ((w 10 (2 * x4).toNatClampNeg) &&& 31)) &&& 1) = (w 10 ((2 * x4) + 1).toNatClampNeg) then fn8_first_22 x1 x2 k nn 0 (x4 + 1) w else fn8_first_22 x1 x2 k nn 1 (x4 + 1) w) else none) else none) else none)))
set_option maxRecDepth 20000 in
theorem bk8_first_22 {M : MX} {G : GX} (C : BC M G shM 19 eM RX8 cX8_first 5 (some .int) rm8_first) {z : Int32 × Mem} (x1 : Int32) (x2 : Int32) {k : Int32 → Int32 → Mem → Option (Int32 × Mem)} (hk : ∀ (x3 : Int32) (x4 : Int32) (w : Mem), k x3 x4 w = some z → BW M G shM 19 5 (ZR M G shM 19 (some .int) z) 80 [(0, .ref (gad G 0)), (1, .int x1), (2, .int x2), (3, .int x3)] [] w) : ∀ (nn : Nat) (x3 : Int32) (x4 : Int32) (w : Mem), fn8_first_22 x1 x2 k nn x3 x4 w = some z → BW M G shM 19 5 (ZR M G shM 19 (some .int) z) 22 [(0, .ref (gad G 0)), (1, .int x1), (2, .int x2), (3, .int x3), (4, .int x4)] [] w := by
  intro nn
  induction nn with
  | zero =>
    intro x3 x4 w h
    have h : (none : Option (Int32 × Mem)) = some z := h
    cases h
  | succ nn ih =>
    intro x3 x4 w h
    rw [fn8_first_22] at h
    refine bw_iload C 4 dX8_first_22 rfl ?_
    refine bw_aload_n C 0 dX8_first_24 rfl rfl ?_
    refine bw_geti C (j := 26) lM0 sM0 rfl inlX8 (by decide) rfl flX8_172 dX8_first_25 ?_
    refine bw_icmp_ge C (tgt := 80) dX8_first_28 (by decide) h (fun h => ?_) (fun h => ?_)
    · exact bw_sub [0, 1, 2, 3] rfl (hk x3 x4 w h)
    · refine bw_iload_n C 3 dX8_first_31 rfl rfl ?_
      refine bw_if_eq C (tgt := 72) dX8_first_32 (by decide) h (fun h => ?_) (fun h => ?_)
      · refine bw_iconst C (v := 0) dX8_first_72 (by decide) ?_
        refine bw_istore_n C [(3, .int 0), (0, .ref (gad G 0)), (1, .int x1), (2, .int x2), (4, .int x4)] dX8_first_73 rfl (by decide) rfl ?_
        refine bw_iinc C [(4, .int (x4 + 1)), (3, .int 0), (0, .ref (gad G 0)), (1, .int x1), (2, .int x2)] 4 dX8_first_74 rfl rfl (by decide) rfl ?_
        refine bw_goto C (tgt := 22) dX8_first_77 (by decide) ?_
        exact bw_sub [2, 3, 4, 1, 0] rfl (ih 0 (x4 + 1) w h)
      · refine bw_aload_n C 0 dX8_first_35 rfl rfl ?_
        refine bw_getr C (j := 24) (t := 9) lM0 sM0 rfl inlX8 (by decide) rfl flX8_34 dX8_first_36 ?_
        refine bw_bipush C (v := 11) dX8_first_39 (by decide) ?_
        refine bw_iald C lM9 sM9 dX8_first_41 h (fun h => ?_)
        refine bw_aload_n C 0 dX8_first_42 rfl rfl ?_
        refine bw_getr C (j := 25) (t := 10) lM0 sM0 rfl inlX8 (by decide) rfl flX8_37 dX8_first_43 ?_
        refine bw_iconst C (v := 2) dX8_first_46 (by decide) ?_
        refine bw_iload C 4 dX8_first_47 rfl ?_
        refine bw_imul C dX8_first_49 ?_
        refine bw_iald C lM10 sM10 dX8_first_50 h (fun h => ?_)
        refine bw_ishr C dX8_first_51 ?_
        refine bw_iconst C (v := 1) dX8_first_52 (by decide) ?_
        refine bw_iand C dX8_first_53 ?_
        refine bw_aload_n C 0 dX8_first_54 rfl rfl ?_
        refine bw_getr C (j := 25) (t := 10) lM0 sM0 rfl inlX8 (by decide) rfl flX8_37 dX8_first_55 ?_
        refine bw_iconst C (v := 2) dX8_first_58 (by decide) ?_
        refine bw_iload C 4 dX8_first_59 rfl ?_
        refine bw_imul C dX8_first_61 ?_
        refine bw_iconst C (v := 1) dX8_first_62 (by decide) ?_
        refine bw_iadd C dX8_first_63 ?_
        refine bw_iald C lM10 sM10 dX8_first_64 h (fun h => ?_)
        refine bw_icmp_ne C (tgt := 72) dX8_first_65 (by decide) h (fun h => ?_) (fun h => ?_)
        · refine bw_iconst C (v := 0) dX8_first_72 (by decide) ?_
          refine bw_istore_n C [(3, .int 0), (0, .ref (gad G 0)), (1, .int x1), (2, .int x2), (4, .int x4)] dX8_first_73 rfl (by decide) rfl ?_
          refine bw_iinc C [(4, .int (x4 + 1)), (3, .int 0), (0, .ref (gad G 0)), (1, .int x1), (2, .int x2)] 4 dX8_first_74 rfl rfl (by decide) rfl ?_
          refine bw_goto C (tgt := 22) dX8_first_77 (by decide) ?_
          exact bw_sub [2, 3, 4, 1, 0] rfl (ih 0 (x4 + 1) w h)
        · refine bw_iconst C (v := 1) dX8_first_68 (by decide) ?_
          refine bw_goto C (tgt := 73) dX8_first_69 (by decide) ?_
          refine bw_istore_n C [(3, .int 1), (0, .ref (gad G 0)), (1, .int x1), (2, .int x2), (4, .int x4)] dX8_first_73 rfl (by decide) rfl ?_
          refine bw_iinc C [(4, .int (x4 + 1)), (3, .int 1), (0, .ref (gad G 0)), (1, .int x1), (2, .int x2)] 4 dX8_first_74 rfl rfl (by decide) rfl ?_
          refine bw_goto C (tgt := 22) dX8_first_77 (by decide) ?_
          exact bw_sub [2, 3, 4, 1, 0] rfl (ih 1 (x4 + 1) w h)
def fn8_first_4 (k : Int32 → Int32 → Mem → Option (Int32 × Mem)) : Nat → Int32 → Int32 → Mem → Option (Int32 × Mem)
  | 0, _, _, _ => none
  | nn + 1, x1, x2, w => (if (w 0 2) ≤ x2 then k x1 x2 w else (fn8_layRumour x2 w).bind (fun q14 => fn8_first_22 x1 x2 (fun x3_22 x4_22 w_22 => (if x3_22 = 0 then fn8_first_4 k nn (x1 ||| 0) (x2 + 1) w_22 else fn8_first_4 k nn (x1 ||| ((1 : Int32) <<< (x2 &&& 31))) (x2 + 1) w_22)) 1000 1 0 q14.2))
set_option maxRecDepth 20000 in
theorem bk8_first_4 {M : MX} {G : GX} (C : BC M G shM 19 eM RX8 cX8_first 5 (some .int) rm8_first) {z : Int32 × Mem} {k : Int32 → Int32 → Mem → Option (Int32 × Mem)} (hk : ∀ (x1 : Int32) (x2 : Int32) (w : Mem), k x1 x2 w = some z → BW M G shM 19 5 (ZR M G shM 19 (some .int) z) 100 [(1, .int x1)] [] w) : ∀ (nn : Nat) (x1 : Int32) (x2 : Int32) (w : Mem), fn8_first_4 k nn x1 x2 w = some z → BW M G shM 19 5 (ZR M G shM 19 (some .int) z) 4 [(0, .ref (gad G 0)), (1, .int x1), (2, .int x2)] [] w := by
  intro nn
  induction nn with
  | zero =>
    intro x1 x2 w h
    have h : (none : Option (Int32 × Mem)) = some z := h
    cases h
  | succ nn ih =>
    intro x1 x2 w h
    rw [fn8_first_4] at h
    refine bw_iload_n C 2 dX8_first_4 rfl rfl ?_
    refine bw_aload_n C 0 dX8_first_5 rfl rfl ?_
    refine bw_geti C (j := 2) lM0 sM0 rfl inlX8 (by decide) rfl flX8_166 dX8_first_6 ?_
    refine bw_icmp_ge C (tgt := 100) dX8_first_9 (by decide) h (fun h => ?_) (fun h => ?_)
    · exact bw_sub [1] rfl (hk x1 x2 w h)
    · refine bw_aload_n C 0 dX8_first_12 rfl rfl ?_
      refine bw_iload_n C 2 dX8_first_13 rfl rfl ?_
      refine bw_callVv C (As := [.int x2]) lM0 sM0 rfl miX8_layRumour mlX8_233 imX8_layRumour seX8_layRumour (by decide) rfl rfl (fun z1 h1 => mt8_layRumour h1) rfl (Nat.le_of_ble_eq_true rfl) rfl dX8_first_14 h (fun q14 _ h => ?_)
      refine bw_iconst C (v := 1) dX8_first_17 (by decide) ?_
      refine bw_istore_n C [(3, .int 1), (0, .ref (gad G 0)), (1, .int x1), (2, .int x2)] dX8_first_18 rfl (by decide) rfl ?_
      refine bw_iconst C (v := 0) dX8_first_19 (by decide) ?_
      refine bw_istore C [(4, .int 0), (3, .int 1), (0, .ref (gad G 0)), (1, .int x1), (2, .int x2)] dX8_first_20 (by decide) rfl ?_
      refine bw_sub [2, 3, 4, 1, 0] rfl (bk8_first_22 C x1 x2 (fun x3_22 x4_22 w_22 h => ?_) 1000 1 0 q14.2 h)
      refine bw_iload_n C 1 dX8_first_80 rfl rfl ?_
      refine bw_iload_n C 3 dX8_first_81 rfl rfl ?_
      refine bw_if_eq C (tgt := 91) dX8_first_82 (by decide) h (fun h => ?_) (fun h => ?_)
      · refine bw_iconst C (v := 0) dX8_first_91 (by decide) ?_
        refine bw_ior C dX8_first_92 ?_
        refine bw_istore_n C [(1, .int (x1 ||| 0)), (0, .ref (gad G 0)), (2, .int x2), (3, .int x3_22)] dX8_first_93 rfl (by decide) rfl ?_
        refine bw_iinc C [(2, .int (x2 + 1)), (1, .int (x1 ||| 0)), (0, .ref (gad G 0)), (3, .int x3_22)] 2 dX8_first_94 rfl rfl (by decide) rfl ?_
        refine bw_goto C (tgt := 4) dX8_first_97 (by decide) ?_
        exact bw_sub [2, 1, 0] rfl (ih (x1 ||| 0) (x2 + 1) w_22 h)
      · refine bw_iconst C (v := 1) dX8_first_85 (by decide) ?_
        refine bw_iload_n C 2 dX8_first_86 rfl rfl ?_
        refine bw_ishl C dX8_first_87 ?_
        refine bw_goto C (tgt := 92) dX8_first_88 (by decide) ?_
        refine bw_ior C dX8_first_92 ?_
        refine bw_istore_n C [(1, .int (x1 ||| ((1 : Int32) <<< (x2 &&& 31)))), (0, .ref (gad G 0)), (2, .int x2), (3, .int x3_22)] dX8_first_93 rfl (by decide) rfl ?_
        refine bw_iinc C [(2, .int (x2 + 1)), (1, .int (x1 ||| ((1 : Int32) <<< (x2 &&& 31)))), (0, .ref (gad G 0)), (3, .int x3_22)] 2 dX8_first_94 rfl rfl (by decide) rfl ?_
        refine bw_goto C (tgt := 4) dX8_first_97 (by decide) ?_
        exact bw_sub [2, 1, 0] rfl (ih (x1 ||| ((1 : Int32) <<< (x2 &&& 31))) (x2 + 1) w_22 h)
def fn8_first   (w : Mem) : Option (Int32 × Mem) := fn8_first_4 (fun x1_4 x2_4 w_4 => some (x1_4, w_4)) 1000 0 0 w
set_option maxRecDepth 20000 in
theorem bk8_first {M : MX} {G : GX} (C : BC M G shM 19 eM RX8 cX8_first 5 (some .int) rm8_first) {z : Int32 × Mem}    {w : Mem} (h : fn8_first   w = some z) : BW M G shM 19 5 (ZR M G shM 19 (some .int) z) 0 [(0, .ref (gad G 0))] [] w := by
  rw [fn8_first] at h
  refine bw_iconst C (v := 0) dX8_first_0 (by decide) ?_
  refine bw_istore_n C [(1, .int 0), (0, .ref (gad G 0))] dX8_first_1 rfl (by decide) rfl ?_
  refine bw_iconst C (v := 0) dX8_first_2 (by decide) ?_
  refine bw_istore_n C [(2, .int 0), (1, .int 0), (0, .ref (gad G 0))] dX8_first_3 rfl (by decide) rfl ?_
  refine bw_sub [2, 1, 0] rfl (bk8_first_4 C (fun x1_4 x2_4 w_4 h => ?_) 1000 0 0 w h)
  refine bw_iload_n C 0 dX8_first_100 rfl rfl ?_
  exact bw_iret C dX8_first_101 h
theorem mt8_first {l : Launch} {G : GX}    {w : Mem} {z : Int32 × Mem} (h : fn8_first   w = some z) : MC l G shM 19 eM yX8_first cX8_first 5 (some .int) rm8_first [.ref (gad G 0)] w z := by
  refine met_of (by decide +kernel) (eM_ok _) rfl (Nat.le_of_ble_eq_true rfl) (fun M hM C => ?_)
  subst hM
  exact bk8_first C   h
def rm8_funeralCost : Room := { frames := 2, cells := 0, slots := 0, locals := 44 }
def fn8_funeralCost_113 (x2 : Int32) (x3 : Int32) (x4 : Int32) (x6 : Int32) (t0 : Int32) (t1 : Int32) (t2 : Int32) (kb : Int32 → Int32 → Int32 → Mem → Option (Int32 × Mem)) (w : Mem) : Option (Int32 × Mem) := kb x4 (t2 + (t1 + t0)) (x6 + (-1)) w
set_option maxRecDepth 20000 in
theorem bk8_funeralCost_113 {M : MX} {G : GX} (C : BC M G shM 19 eM RX8 cX8_funeralCost 9 (some .int) rm8_funeralCost) {z : Int32 × Mem} (x2 : Int32) (x3 : Int32) (x4 : Int32) (x6 : Int32) (t0 : Int32) (t1 : Int32) (t2 : Int32) {kb : Int32 → Int32 → Int32 → Mem → Option (Int32 × Mem)} (hkb : ∀ (x4 : Int32) (x5 : Int32) (x6 : Int32) (w : Mem), kb x4 x5 x6 w = some z → BW M G shM 19 9 (ZR M G shM 19 (some .int) z) 14 [(0, .ref (gad G 0)), (2, .int x2), (3, .int x3), (4, .int x4), (5, .int x5), (6, .int x6)] [] w) {w : Mem} (h : fn8_funeralCost_113 x2 x3 x4 x6 t0 t1 t2 kb w = some z) : BW M G shM 19 9 (ZR M G shM 19 (some .int) z) 113 [(0, .ref (gad G 0)), (2, .int x2), (3, .int x3), (4, .int x4), (6, .int x6)] [.int t0, .int t1, .int t2] w := by
  rw [fn8_funeralCost_113] at h
  refine bw_iadd C dX8_funeralCost_113 ?_
  refine bw_iadd C dX8_funeralCost_114 ?_
  refine bw_istore C [(5, .int (t2 + (t1 + t0))), (0, .ref (gad G 0)), (2, .int x2), (3, .int x3), (4, .int x4), (6, .int x6)] dX8_funeralCost_115 (by decide) rfl ?_
  refine bw_iinc C [(6, .int (x6 + (-1))), (5, .int (t2 + (t1 + t0))), (0, .ref (gad G 0)), (2, .int x2), (3, .int x3), (4, .int x4)] 5 dX8_funeralCost_117 rfl rfl (by decide) rfl ?_
  refine bw_goto C (tgt := 14) dX8_funeralCost_120 (by decide) ?_
  exact bw_sub [2, 3, 4, 5, 1, 0] rfl (hkb x4 (t2 + (t1 + t0)) (x6 + (-1)) w h)
def fn8_funeralCost_14 (x2 : Int32) (x3 : Int32) (k : Int32 → Int32 → Int32 → Mem → Option (Int32 × Mem)) : Nat → Int32 → Int32 → Int32 → Mem → Option (Int32 × Mem)
  | 0, _, _, _, _ => none
  | nn + 1, x4, x5, x6, w => (if x6 < 0 then k x4 x5 x6 w else (if 7 = 0 then none else (if ib x6 6 = true then (if 7 = 0 then none else (if ib x6 6 = true then (if ((up2 w 11 x6.toNatClampNeg (x4 - x4 / 7 * 7)) 11 x6.toNatClampNeg) ≤ 0 then fn8_funeralCost_14 x2 x3 k nn (x4 / 7) x5 (x6 + (-1)) (up2 w 11 x6.toNatClampNeg (x4 - x4 / 7 * 7)) else (fn8_isSpent x6 (up2 w 11 x6.toNatClampNeg (x4 - x4 / 7 * 7))).bind (fun q51 => (if ¬ q51.1 = 0 then some ((-4), q51.2) else (if ib x6 6 = true then (if ¬ ((x2 >>> (((q51.2 11 x6.toNatClampNeg) - 1) &&& 31)) &&& 1) = 0 then (if ib (4 * x6) 228 = true then (fn8_ownerOf x6 q51.2).bind (fun q90 => (if ib x6 6 = true then (if ¬ q90.1 = ((q90.2 11 x6.toNatClampNeg) - 1) then (fn8_feeNow q90.2).bind (fun q110 => fn8_funeralCost_113 x2 x3 (x4 / 7) x6 q110.1 (q51.2 1 (4 * x6).toNatClampNeg) x5 (fn8_funeralCost_14 x2 x3 k nn) q110.2) else fn8_funeralCost_113 x2 x3 (x4 / 7) x6 0 (q51.2 1 (4 * x6).toNatClampNeg) x5 (fn8_funeralCost_14 x2 x3 k nn) q90.2) else none)) else none) else some ((-4), q51.2)) else none)))) else none)) else none)))
set_option maxRecDepth 20000 in
theorem bk8_funeralCost_14 {M : MX} {G : GX} (C : BC M G shM 19 eM RX8 cX8_funeralCost 9 (some .int) rm8_funeralCost) {z : Int32 × Mem} (x2 : Int32) (x3 : Int32) {k : Int32 → Int32 → Int32 → Mem → Option (Int32 × Mem)} (hk : ∀ (x4 : Int32) (x5 : Int32) (x6 : Int32) (w : Mem), k x4 x5 x6 w = some z → BW M G shM 19 9 (ZR M G shM 19 (some .int) z) 123 [(0, .ref (gad G 0)), (2, .int x2), (3, .int x3), (5, .int x5)] [] w) : ∀ (nn : Nat) (x4 : Int32) (x5 : Int32) (x6 : Int32) (w : Mem), fn8_funeralCost_14 x2 x3 k nn x4 x5 x6 w = some z → BW M G shM 19 9 (ZR M G shM 19 (some .int) z) 14 [(0, .ref (gad G 0)), (2, .int x2), (3, .int x3), (4, .int x4), (5, .int x5), (6, .int x6)] [] w := by
  intro nn
  induction nn with
  | zero =>
    intro x4 x5 x6 w h
    have h : (none : Option (Int32 × Mem)) = some z := h
    cases h
  | succ nn ih =>
    intro x4 x5 x6 w h
    rw [fn8_funeralCost_14] at h
    refine bw_iload C 5 dX8_funeralCost_14 rfl ?_
    refine bw_if_lt C (tgt := 123) dX8_funeralCost_16 (by decide) h (fun h => ?_) (fun h => ?_)
    · exact bw_sub [0, 1, 2, 4] rfl (hk x4 x5 x6 w h)
    · refine bw_aload_n C 0 dX8_funeralCost_19 rfl rfl ?_
      refine bw_getr C (j := 27) (t := 11) lM0 sM0 rfl inlX8 (by decide) rfl flX8_40 dX8_funeralCost_20 ?_
      refine bw_iload C 5 dX8_funeralCost_23 rfl ?_
      refine bw_iload C 3 dX8_funeralCost_25 rfl ?_
      refine bw_bipush C (v := 7) dX8_funeralCost_27 (by decide) ?_
      refine bw_irem C dX8_funeralCost_29 h (fun h => ?_)
      refine bw_iast C lM11 sM11 dX8_funeralCost_30 h (fun h => ?_)
      refine bw_iload C 3 dX8_funeralCost_31 rfl ?_
      refine bw_bipush C (v := 7) dX8_funeralCost_33 (by decide) ?_
      refine bw_idiv C dX8_funeralCost_35 h (fun h => ?_)
      refine bw_istore C [(4, .int (x4 / 7)), (0, .ref (gad G 0)), (2, .int x2), (3, .int x3), (5, .int x5), (6, .int x6)] dX8_funeralCost_36 (by decide) rfl ?_
      refine bw_aload_n C 1 dX8_funeralCost_38 rfl rfl ?_
      refine bw_getr C (j := 27) (t := 11) lM0 sM0 rfl inlX8 (by decide) rfl flX8_40 dX8_funeralCost_39 ?_
      refine bw_iload C 5 dX8_funeralCost_42 rfl ?_
      refine bw_iald C lM11 sM11 dX8_funeralCost_44 h (fun h => ?_)
      refine bw_if_le C (tgt := 117) dX8_funeralCost_45 (by decide) h (fun h => ?_) (fun h => ?_)
      · refine bw_iinc C [(6, .int (x6 + (-1))), (4, .int (x4 / 7)), (0, .ref (gad G 0)), (2, .int x2), (3, .int x3), (5, .int x5)] 5 dX8_funeralCost_117 rfl rfl (by decide) rfl ?_
        refine bw_goto C (tgt := 14) dX8_funeralCost_120 (by decide) ?_
        exact bw_sub [2, 3, 4, 1, 5, 0] rfl (ih (x4 / 7) x5 (x6 + (-1)) (up2 w 11 x6.toNatClampNeg (x4 - x4 / 7 * 7)) h)
      · refine bw_aload_n C 1 dX8_funeralCost_48 rfl rfl ?_
        refine bw_iload C 5 dX8_funeralCost_49 rfl ?_
        refine bw_callVi C (As := [.int x6]) lM0 sM0 rfl miX8_isSpent mlX8_203 imX8_isSpent seX8_isSpent (by decide) rfl rfl (fun z1 h1 => mt8_isSpent h1) rfl (Nat.le_of_ble_eq_true rfl) rfl dX8_funeralCost_51 h (fun q51 _ h => ?_)
        refine bw_if_ne C (tgt := 73) dX8_funeralCost_54 (by decide) h (fun h => ?_) (fun h => ?_)
        · refine bw_bipush C (v := (-4)) dX8_funeralCost_73 (by decide) ?_
          exact bw_iret C dX8_funeralCost_75 h
        · refine bw_iload_n C 2 dX8_funeralCost_57 rfl rfl ?_
          refine bw_aload_n C 1 dX8_funeralCost_58 rfl rfl ?_
          refine bw_getr C (j := 27) (t := 11) lM0 sM0 rfl inlX8 (by decide) rfl flX8_40 dX8_funeralCost_59 ?_
          refine bw_iload C 5 dX8_funeralCost_62 rfl ?_
          refine bw_iald C lM11 sM11 dX8_funeralCost_64 h (fun h => ?_)
          refine bw_iconst C (v := 1) dX8_funeralCost_65 (by decide) ?_
          refine bw_isub C dX8_funeralCost_66 ?_
          refine bw_ishr C dX8_funeralCost_67 ?_
          refine bw_iconst C (v := 1) dX8_funeralCost_68 (by decide) ?_
          refine bw_iand C dX8_funeralCost_69 ?_
          refine bw_if_ne C (tgt := 76) dX8_funeralCost_70 (by decide) h (fun h => ?_) (fun h => ?_)
          · refine bw_iload C 4 dX8_funeralCost_76 rfl ?_
            refine bw_aload_n C 1 dX8_funeralCost_78 rfl rfl ?_
            refine bw_getr C (j := 0) (t := 1) lM0 sM0 rfl inlX8 (by decide) rfl flX8_7 dX8_funeralCost_79 ?_
            refine bw_iconst C (v := 4) dX8_funeralCost_82 (by decide) ?_
            refine bw_iload C 5 dX8_funeralCost_83 rfl ?_
            refine bw_imul C dX8_funeralCost_85 ?_
            refine bw_iald C lM1 sM1 dX8_funeralCost_86 h (fun h => ?_)
            refine bw_aload_n C 1 dX8_funeralCost_87 rfl rfl ?_
            refine bw_iload C 5 dX8_funeralCost_88 rfl ?_
            refine bw_callVi C (As := [.int x6]) lM0 sM0 rfl miX8_ownerOf mlX8_196 imX8_ownerOf seX8_ownerOf (by decide) rfl rfl (fun z1 h1 => mt8_ownerOf h1) rfl (Nat.le_of_ble_eq_true rfl) rfl dX8_funeralCost_90 h (fun q90 _ h => ?_)
            refine bw_aload_n C 1 dX8_funeralCost_93 rfl rfl ?_
            refine bw_getr C (j := 27) (t := 11) lM0 sM0 rfl inlX8 (by decide) rfl flX8_40 dX8_funeralCost_94 ?_
            refine bw_iload C 5 dX8_funeralCost_97 rfl ?_
            refine bw_iald C lM11 sM11 dX8_funeralCost_99 h (fun h => ?_)
            refine bw_iconst C (v := 1) dX8_funeralCost_100 (by decide) ?_
            refine bw_isub C dX8_funeralCost_101 ?_
            refine bw_icmp_ne C (tgt := 109) dX8_funeralCost_102 (by decide) h (fun h => ?_) (fun h => ?_)
            · refine bw_aload_n C 1 dX8_funeralCost_109 rfl rfl ?_
              refine bw_callVi C (As := []) lM0 sM0 rfl miX8_feeNow mlX8_183 imX8_feeNow seX8_feeNow (by decide) rfl rfl (fun z1 h1 => mt8_feeNow h1) rfl (Nat.le_of_ble_eq_true rfl) rfl dX8_funeralCost_110 h (fun q110 _ h => ?_)
              exact bw_sub [1, 2, 3, 0, 5] rfl (bk8_funeralCost_113 C x2 x3 (x4 / 7) x6 q110.1 (q51.2 1 (4 * x6).toNatClampNeg) x5 ih h)
            · refine bw_iconst C (v := 0) dX8_funeralCost_105 (by decide) ?_
              refine bw_goto C (tgt := 113) dX8_funeralCost_106 (by decide) ?_
              exact bw_sub [1, 2, 3, 0, 5] rfl (bk8_funeralCost_113 C x2 x3 (x4 / 7) x6 0 (q51.2 1 (4 * x6).toNatClampNeg) x5 ih h)
          · refine bw_bipush C (v := (-4)) dX8_funeralCost_73 (by decide) ?_
            exact bw_iret C dX8_funeralCost_75 h
def fn8_funeralCost_141 (x2 : Int32) (x3 : Int32) (x5 : Int32) (x6 : Int32) (k : Int32 → Int32 → Mem → Option (Int32 × Mem)) : Nat → Int32 → Int32 → Mem → Option (Int32 × Mem)
  | 0, _, _, _ => none
  | nn + 1, x7, x8, w => (if (w 0 3) ≤ x8 then k x7 x8 w else (if ib x8 6 = true then (if ¬ (w 11 x8.toNatClampNeg) = (x6 + 1) then fn8_funeralCost_141 x2 x3 x5 x6 k nn (x7 + 0) (x8 + 1) w else (fn8_lengthBy x8 x6 w).bind (fun q171 => fn8_funeralCost_141 x2 x3 x5 x6 k nn (x7 + q171.1) (x8 + 1) q171.2)) else none))
set_option maxRecDepth 20000 in
theorem bk8_funeralCost_141 {M : MX} {G : GX} (C : BC M G shM 19 eM RX8 cX8_funeralCost 9 (some .int) rm8_funeralCost) {z : Int32 × Mem} (x2 : Int32) (x3 : Int32) (x5 : Int32) (x6 : Int32) {k : Int32 → Int32 → Mem → Option (Int32 × Mem)} (hk : ∀ (x7 : Int32) (x8 : Int32) (w : Mem), k x7 x8 w = some z → BW M G shM 19 9 (ZR M G shM 19 (some .int) z) 187 [(0, .ref (gad G 0)), (2, .int x2), (3, .int x3), (5, .int x5), (6, .int x6), (7, .int x7)] [] w) : ∀ (nn : Nat) (x7 : Int32) (x8 : Int32) (w : Mem), fn8_funeralCost_141 x2 x3 x5 x6 k nn x7 x8 w = some z → BW M G shM 19 9 (ZR M G shM 19 (some .int) z) 141 [(0, .ref (gad G 0)), (2, .int x2), (3, .int x3), (5, .int x5), (6, .int x6), (7, .int x7), (8, .int x8)] [] w := by
  intro nn
  induction nn with
  | zero =>
    intro x7 x8 w h
    have h : (none : Option (Int32 × Mem)) = some z := h
    cases h
  | succ nn ih =>
    intro x7 x8 w h
    rw [fn8_funeralCost_141] at h
    refine bw_iload C 6 dX8_funeralCost_141 rfl ?_
    refine bw_aload_n C 0 dX8_funeralCost_143 rfl rfl ?_
    refine bw_geti C (j := 3) lM0 sM0 rfl inlX8 (by decide) rfl flX8_169 dX8_funeralCost_144 ?_
    refine bw_icmp_ge C (tgt := 187) dX8_funeralCost_147 (by decide) h (fun h => ?_) (fun h => ?_)
    · exact bw_sub [0, 1, 2, 3, 4, 5] rfl (hk x7 x8 w h)
    · refine bw_iload C 5 dX8_funeralCost_150 rfl ?_
      refine bw_aload_n C 0 dX8_funeralCost_152 rfl rfl ?_
      refine bw_getr C (j := 27) (t := 11) lM0 sM0 rfl inlX8 (by decide) rfl flX8_40 dX8_funeralCost_153 ?_
      refine bw_iload C 6 dX8_funeralCost_156 rfl ?_
      refine bw_iald C lM11 sM11 dX8_funeralCost_158 h (fun h => ?_)
      refine bw_iload C 4 dX8_funeralCost_159 rfl ?_
      refine bw_iconst C (v := 1) dX8_funeralCost_161 (by decide) ?_
      refine bw_iadd C dX8_funeralCost_162 ?_
      refine bw_icmp_ne C (tgt := 177) dX8_funeralCost_163 (by decide) h (fun h => ?_) (fun h => ?_)
      · refine bw_iconst C (v := 0) dX8_funeralCost_177 (by decide) ?_
        refine bw_iadd C dX8_funeralCost_178 ?_
        refine bw_istore C [(7, .int (x7 + 0)), (0, .ref (gad G 0)), (2, .int x2), (3, .int x3), (5, .int x5), (6, .int x6), (8, .int x8)] dX8_funeralCost_179 (by decide) rfl ?_
        refine bw_iinc C [(8, .int (x8 + 1)), (7, .int (x7 + 0)), (0, .ref (gad G 0)), (2, .int x2), (3, .int x3), (5, .int x5), (6, .int x6)] 6 dX8_funeralCost_181 rfl rfl (by decide) rfl ?_
        refine bw_goto C (tgt := 141) dX8_funeralCost_184 (by decide) ?_
        exact bw_sub [2, 3, 4, 5, 6, 1, 0] rfl (ih (x7 + 0) (x8 + 1) w h)
      · refine bw_aload_n C 0 dX8_funeralCost_166 rfl rfl ?_
        refine bw_iload C 6 dX8_funeralCost_167 rfl ?_
        refine bw_iload C 4 dX8_funeralCost_169 rfl ?_
        refine bw_callVi C (As := [.int x8, .int x6]) lM0 sM0 rfl miX8_lengthBy mlX8_199 imX8_lengthBy seX8_lengthBy (by decide) rfl rfl (fun z1 h1 => mt8_lengthBy h1) rfl (Nat.le_of_ble_eq_true rfl) rfl dX8_funeralCost_171 h (fun q171 _ h => ?_)
        refine bw_goto C (tgt := 178) dX8_funeralCost_174 (by decide) ?_
        refine bw_iadd C dX8_funeralCost_178 ?_
        refine bw_istore C [(7, .int (x7 + q171.1)), (0, .ref (gad G 0)), (2, .int x2), (3, .int x3), (5, .int x5), (6, .int x6), (8, .int x8)] dX8_funeralCost_179 (by decide) rfl ?_
        refine bw_iinc C [(8, .int (x8 + 1)), (7, .int (x7 + q171.1)), (0, .ref (gad G 0)), (2, .int x2), (3, .int x3), (5, .int x5), (6, .int x6)] 6 dX8_funeralCost_181 rfl rfl (by decide) rfl ?_
        refine bw_goto C (tgt := 141) dX8_funeralCost_184 (by decide) ?_
        exact bw_sub [2, 3, 4, 5, 6, 1, 0] rfl (ih (x7 + q171.1) (x8 + 1) q171.2 h)
def fn8_funeralCost_126 (x2 : Int32) (x3 : Int32) (x5 : Int32) (k : Int32 → Mem → Option (Int32 × Mem)) : Nat → Int32 → Mem → Option (Int32 × Mem)
  | 0, _, _ => none
  | nn + 1, x6, w => (if (w 0 2) ≤ x6 then k x6 w else fn8_funeralCost_141 x2 x3 x5 x6 (fun x7_141 x8_141 w_141 => (if ¬ ((x2 >>> (x6 &&& 31)) &&& 1) = 1 then fn8_funeralCost_126 x2 x3 x5 k nn (x6 + 1) w_141 else (if x3 ≤ x7_141 then fn8_funeralCost_126 x2 x3 x5 k nn (x6 + 1) w_141 else some ((-4), w_141)))) 1000 0 0 w)
set_option maxRecDepth 20000 in
theorem bk8_funeralCost_126 {M : MX} {G : GX} (C : BC M G shM 19 eM RX8 cX8_funeralCost 9 (some .int) rm8_funeralCost) {z : Int32 × Mem} (x2 : Int32) (x3 : Int32) (x5 : Int32) {k : Int32 → Mem → Option (Int32 × Mem)} (hk : ∀ (x6 : Int32) (w : Mem), k x6 w = some z → BW M G shM 19 9 (ZR M G shM 19 (some .int) z) 212 [(5, .int x5)] [] w) : ∀ (nn : Nat) (x6 : Int32) (w : Mem), fn8_funeralCost_126 x2 x3 x5 k nn x6 w = some z → BW M G shM 19 9 (ZR M G shM 19 (some .int) z) 126 [(0, .ref (gad G 0)), (2, .int x2), (3, .int x3), (5, .int x5), (6, .int x6)] [] w := by
  intro nn
  induction nn with
  | zero =>
    intro x6 w h
    have h : (none : Option (Int32 × Mem)) = some z := h
    cases h
  | succ nn ih =>
    intro x6 w h
    rw [fn8_funeralCost_126] at h
    refine bw_iload C 4 dX8_funeralCost_126 rfl ?_
    refine bw_aload_n C 0 dX8_funeralCost_128 rfl rfl ?_
    refine bw_geti C (j := 2) lM0 sM0 rfl inlX8 (by decide) rfl flX8_166 dX8_funeralCost_129 ?_
    refine bw_icmp_ge C (tgt := 212) dX8_funeralCost_132 (by decide) h (fun h => ?_) (fun h => ?_)
    · exact bw_sub [3] rfl (hk x6 w h)
    · refine bw_iconst C (v := 0) dX8_funeralCost_135 (by decide) ?_
      refine bw_istore C [(7, .int 0), (0, .ref (gad G 0)), (2, .int x2), (3, .int x3), (5, .int x5), (6, .int x6)] dX8_funeralCost_136 (by decide) rfl ?_
      refine bw_iconst C (v := 0) dX8_funeralCost_138 (by decide) ?_
      refine bw_istore C [(8, .int 0), (7, .int 0), (0, .ref (gad G 0)), (2, .int x2), (3, .int x3), (5, .int x5), (6, .int x6)] dX8_funeralCost_139 (by decide) rfl ?_
      refine bw_sub [2, 3, 4, 5, 6, 1, 0] rfl (bk8_funeralCost_141 C x2 x3 x5 x6 (fun x7_141 x8_141 w_141 h => ?_) 1000 0 0 w h)
      refine bw_iload_n C 1 dX8_funeralCost_187 rfl rfl ?_
      refine bw_iload C 4 dX8_funeralCost_188 rfl ?_
      refine bw_ishr C dX8_funeralCost_190 ?_
      refine bw_iconst C (v := 1) dX8_funeralCost_191 (by decide) ?_
      refine bw_iand C dX8_funeralCost_192 ?_
      refine bw_iconst C (v := 1) dX8_funeralCost_193 (by decide) ?_
      refine bw_icmp_ne C (tgt := 206) dX8_funeralCost_194 (by decide) h (fun h => ?_) (fun h => ?_)
      · refine bw_iinc C [(6, .int (x6 + 1)), (0, .ref (gad G 0)), (2, .int x2), (3, .int x3), (5, .int x5), (7, .int x7_141)] 4 dX8_funeralCost_206 rfl rfl (by decide) rfl ?_
        refine bw_goto C (tgt := 126) dX8_funeralCost_209 (by decide) ?_
        exact bw_sub [1, 2, 3, 4, 0] rfl (ih (x6 + 1) w_141 h)
      · refine bw_iload C 5 dX8_funeralCost_197 rfl ?_
        refine bw_iload_n C 2 dX8_funeralCost_199 rfl rfl ?_
        refine bw_icmp_ge C (tgt := 206) dX8_funeralCost_200 (by decide) h (fun h => ?_) (fun h => ?_)
        · refine bw_iinc C [(6, .int (x6 + 1)), (0, .ref (gad G 0)), (2, .int x2), (3, .int x3), (5, .int x5), (7, .int x7_141)] 4 dX8_funeralCost_206 rfl rfl (by decide) rfl ?_
          refine bw_goto C (tgt := 126) dX8_funeralCost_209 (by decide) ?_
          exact bw_sub [1, 2, 3, 4, 0] rfl (ih (x6 + 1) w_141 h)
        · refine bw_bipush C (v := (-4)) dX8_funeralCost_203 (by decide) ?_
          exact bw_iret C dX8_funeralCost_205 h
def fn8_funeralCost  (x1 : Int32) (x2 : Int32) (x3 : Int32) (w : Mem) : Option (Int32 × Mem) := fn8_funeralCost_14 x2 x3 (fun x4_14 x5_14 x6_14 w_14 => fn8_funeralCost_126 x2 x3 x5_14 (fun x6_126 w_126 => some (x5_14, w_126)) 1000 0 w_14) 1000 x1 0 ((w 0 3) - 1) w
set_option maxRecDepth 20000 in
theorem bk8_funeralCost {M : MX} {G : GX} (C : BC M G shM 19 eM RX8 cX8_funeralCost 9 (some .int) rm8_funeralCost) {z : Int32 × Mem}   (x1 : Int32) (x2 : Int32) (x3 : Int32) {w : Mem} (h : fn8_funeralCost  x1 x2 x3 w = some z) : BW M G shM 19 9 (ZR M G shM 19 (some .int) z) 0 [(0, .ref (gad G 0)), (1, .int x1), (2, .int x2), (3, .int x3)] [] w := by
  rw [fn8_funeralCost] at h
  refine bw_iload_n C 1 dX8_funeralCost_0 rfl rfl ?_
  refine bw_istore C [(4, .int x1), (0, .ref (gad G 0)), (1, .int x1), (2, .int x2), (3, .int x3)] dX8_funeralCost_1 (by decide) rfl ?_
  refine bw_iconst C (v := 0) dX8_funeralCost_3 (by decide) ?_
  refine bw_istore C [(5, .int 0), (4, .int x1), (0, .ref (gad G 0)), (1, .int x1), (2, .int x2), (3, .int x3)] dX8_funeralCost_4 (by decide) rfl ?_
  refine bw_aload_n C 2 dX8_funeralCost_6 rfl rfl ?_
  refine bw_geti C (j := 3) lM0 sM0 rfl inlX8 (by decide) rfl flX8_169 dX8_funeralCost_7 ?_
  refine bw_iconst C (v := 1) dX8_funeralCost_10 (by decide) ?_
  refine bw_isub C dX8_funeralCost_11 ?_
  refine bw_istore C [(6, .int ((w 0 3) - 1)), (5, .int 0), (4, .int x1), (0, .ref (gad G 0)), (1, .int x1), (2, .int x2), (3, .int x3)] dX8_funeralCost_12 (by decide) rfl ?_
  refine bw_sub [3, 5, 6, 2, 1, 0] rfl (bk8_funeralCost_14 C x2 x3 (fun x4_14 x5_14 x6_14 w_14 h => ?_) 1000 x1 0 ((w 0 3) - 1) w h)
  refine bw_iconst C (v := 0) dX8_funeralCost_123 (by decide) ?_
  refine bw_istore C [(6, .int 0), (0, .ref (gad G 0)), (2, .int x2), (3, .int x3), (5, .int x5_14)] dX8_funeralCost_124 (by decide) rfl ?_
  refine bw_sub [1, 2, 3, 4, 0] rfl (bk8_funeralCost_126 C x2 x3 x5_14 (fun x6_126 w_126 h => ?_) 1000 0 w_14 h)
  refine bw_iload C 0 dX8_funeralCost_212 rfl ?_
  exact bw_iret C dX8_funeralCost_214 h
theorem mt8_funeralCost {l : Launch} {G : GX}   {x1 : Int32} {x2 : Int32} {x3 : Int32} {w : Mem} {z : Int32 × Mem} (h : fn8_funeralCost  x1 x2 x3 w = some z) : MC l G shM 19 eM yX8_funeralCost cX8_funeralCost 9 (some .int) rm8_funeralCost [.ref (gad G 0), .int x1, .int x2, .int x3] w z := by
  refine met_of (by decide +kernel) (eM_ok _) rfl (Nat.le_of_ble_eq_true rfl) (fun M hM C => ?_)
  subst hM
  exact bk8_funeralCost C  x1 x2 x3 h
def rm8_funeral : Room := { frames := 3, cells := 0, slots := 0, locals := 72 }
def fn8_funeral_65 (x1 : Int32) (x2 : Int32) (x3 : Int32) (x5 : Int32) (k : Int32 → Int32 → Mem → Option (Int32 × Mem)) : Nat → Int32 → Int32 → Mem → Option (Int32 × Mem)
  | 0, _, _, _ => none
  | nn + 1, x4, x6, w => (if (w 0 3) ≤ x6 then k x4 x6 w else fn8_funeral_65 x1 x2 x3 x5 k nn (x4 * 7) (x6 + 1) w)
set_option maxRecDepth 20000 in
theorem bk8_funeral_65 {M : MX} {G : GX} (C : BC M G shM 19 eM RX8 cX8_funeral 9 (some .int) rm8_funeral) {z : Int32 × Mem} (x1 : Int32) (x2 : Int32) (x3 : Int32) (x5 : Int32) {k : Int32 → Int32 → Mem → Option (Int32 × Mem)} (hk : ∀ (x4 : Int32) (x6 : Int32) (w : Mem), k x4 x6 w = some z → BW M G shM 19 9 (ZR M G shM 19 (some .int) z) 87 [(0, .ref (gad G 0)), (1, .int x1), (2, .int x2), (3, .int x3), (4, .int x4), (5, .int x5)] [] w) : ∀ (nn : Nat) (x4 : Int32) (x6 : Int32) (w : Mem), fn8_funeral_65 x1 x2 x3 x5 k nn x4 x6 w = some z → BW M G shM 19 9 (ZR M G shM 19 (some .int) z) 65 [(0, .ref (gad G 0)), (1, .int x1), (2, .int x2), (3, .int x3), (4, .int x4), (5, .int x5), (6, .int x6)] [] w := by
  intro nn
  induction nn with
  | zero =>
    intro x4 x6 w h
    have h : (none : Option (Int32 × Mem)) = some z := h
    cases h
  | succ nn ih =>
    intro x4 x6 w h
    rw [fn8_funeral_65] at h
    refine bw_iload C 6 dX8_funeral_65 rfl ?_
    refine bw_aload_n C 0 dX8_funeral_67 rfl rfl ?_
    refine bw_geti C (j := 3) lM0 sM0 rfl inlX8 (by decide) rfl flX8_169 dX8_funeral_68 ?_
    refine bw_icmp_ge C (tgt := 87) dX8_funeral_71 (by decide) h (fun h => ?_) (fun h => ?_)
    · exact bw_sub [0, 1, 2, 3, 4, 5] rfl (hk x4 x6 w h)
    · refine bw_iload C 4 dX8_funeral_74 rfl ?_
      refine bw_bipush C (v := 7) dX8_funeral_76 (by decide) ?_
      refine bw_imul C dX8_funeral_78 ?_
      refine bw_istore C [(4, .int (x4 * 7)), (0, .ref (gad G 0)), (1, .int x1), (2, .int x2), (3, .int x3), (5, .int x5), (6, .int x6)] dX8_funeral_79 (by decide) rfl ?_
      refine bw_iinc C [(6, .int (x6 + 1)), (4, .int (x4 * 7)), (0, .ref (gad G 0)), (1, .int x1), (2, .int x2), (3, .int x3), (5, .int x5)] 6 dX8_funeral_81 rfl rfl (by decide) rfl ?_
      refine bw_goto C (tgt := 65) dX8_funeral_84 (by decide) ?_
      exact bw_sub [2, 3, 4, 5, 1, 6, 0] rfl (ih (x4 * 7) (x6 + 1) w h)
def fn8_funeral_135 (x1 : Int32) (x2 : Int32) (x3 : Int32) (x4 : Int32) (x5 : Int32) (x6 : Int32) (k : Int32 → Mem → Option (Int32 × Mem)) : Nat → Int32 → Mem → Option (Int32 × Mem)
  | 0, _, _ => none
  | nn + 1, x8, w => (if 6 ≤ x8 then k x8 w else (if ib x8 6 = true then (if ib x8 6 = true then fn8_funeral_135 x1 x2 x3 x4 x5 x6 k nn (x8 + 1) (up2 w 12 x8.toNatClampNeg (w 11 x8.toNatClampNeg)) else none) else none))
set_option maxRecDepth 20000 in
theorem bk8_funeral_135 {M : MX} {G : GX} (C : BC M G shM 19 eM RX8 cX8_funeral 9 (some .int) rm8_funeral) {z : Int32 × Mem} (x1 : Int32) (x2 : Int32) (x3 : Int32) (x4 : Int32) (x5 : Int32) (x6 : Int32) {k : Int32 → Mem → Option (Int32 × Mem)} (hk : ∀ (x8 : Int32) (w : Mem), k x8 w = some z → BW M G shM 19 9 (ZR M G shM 19 (some .int) z) 162 [(0, .ref (gad G 0)), (1, .int x1), (2, .int x2), (3, .int x3), (4, .int x4), (5, .int x5), (6, .int x6)] [] w) : ∀ (nn : Nat) (x8 : Int32) (w : Mem), fn8_funeral_135 x1 x2 x3 x4 x5 x6 k nn x8 w = some z → BW M G shM 19 9 (ZR M G shM 19 (some .int) z) 135 [(0, .ref (gad G 0)), (1, .int x1), (2, .int x2), (3, .int x3), (4, .int x4), (5, .int x5), (6, .int x6), (8, .int x8)] [] w := by
  intro nn
  induction nn with
  | zero =>
    intro x8 w h
    have h : (none : Option (Int32 × Mem)) = some z := h
    cases h
  | succ nn ih =>
    intro x8 w h
    rw [fn8_funeral_135] at h
    refine bw_iload C 7 dX8_funeral_135 rfl ?_
    refine bw_bipush C (v := 6) dX8_funeral_137 (by decide) ?_
    refine bw_icmp_ge C (tgt := 162) dX8_funeral_139 (by decide) h (fun h => ?_) (fun h => ?_)
    · exact bw_sub [0, 1, 2, 3, 4, 5, 6] rfl (hk x8 w h)
    · refine bw_aload_n C 0 dX8_funeral_142 rfl rfl ?_
      refine bw_getr C (j := 28) (t := 12) lM0 sM0 rfl inlX8 (by decide) rfl flX8_43 dX8_funeral_143 ?_
      refine bw_iload C 7 dX8_funeral_146 rfl ?_
      refine bw_aload_n C 0 dX8_funeral_148 rfl rfl ?_
      refine bw_getr C (j := 27) (t := 11) lM0 sM0 rfl inlX8 (by decide) rfl flX8_40 dX8_funeral_149 ?_
      refine bw_iload C 7 dX8_funeral_152 rfl ?_
      refine bw_iald C lM11 sM11 dX8_funeral_154 h (fun h => ?_)
      refine bw_iast C lM12 sM12 dX8_funeral_155 h (fun h => ?_)
      refine bw_iinc C [(8, .int (x8 + 1)), (0, .ref (gad G 0)), (1, .int x1), (2, .int x2), (3, .int x3), (4, .int x4), (5, .int x5), (6, .int x6)] 7 dX8_funeral_156 rfl rfl (by decide) rfl ?_
      refine bw_goto C (tgt := 135) dX8_funeral_159 (by decide) ?_
      exact bw_sub [1, 2, 3, 4, 5, 6, 7, 0] rfl (ih (x8 + 1) (up2 w 12 x8.toNatClampNeg (w 11 x8.toNatClampNeg)) h)
def fn8_funeral_128 (x1 : Int32) (x2 : Int32) (x3 : Int32) (x4 : Int32) (x6 : Int32) (x7 : Int32) (kb : Int32 → Int32 → Mem → Option (Int32 × Mem)) (w : Mem) : Option (Int32 × Mem) := fn8_funeral_135 x1 x2 x3 x4 x7 x6 (fun x8_135 w_135 => kb x7 (x6 + 1) w_135) 1000 0 w
set_option maxRecDepth 20000 in
theorem bk8_funeral_128 {M : MX} {G : GX} (C : BC M G shM 19 eM RX8 cX8_funeral 9 (some .int) rm8_funeral) {z : Int32 × Mem} (x1 : Int32) (x2 : Int32) (x3 : Int32) (x4 : Int32) (x6 : Int32) (x7 : Int32) {kb : Int32 → Int32 → Mem → Option (Int32 × Mem)} (hkb : ∀ (x5 : Int32) (x6 : Int32) (w : Mem), kb x5 x6 w = some z → BW M G shM 19 9 (ZR M G shM 19 (some .int) z) 90 [(0, .ref (gad G 0)), (1, .int x1), (2, .int x2), (3, .int x3), (4, .int x4), (5, .int x5), (6, .int x6)] [] w) {w : Mem} (h : fn8_funeral_128 x1 x2 x3 x4 x6 x7 kb w = some z) : BW M G shM 19 9 (ZR M G shM 19 (some .int) z) 128 [(0, .ref (gad G 0)), (1, .int x1), (2, .int x2), (3, .int x3), (4, .int x4), (6, .int x6), (7, .int x7)] [] w := by
  rw [fn8_funeral_128] at h
  refine bw_iload C 6 dX8_funeral_128 rfl ?_
  refine bw_istore C [(5, .int x7), (0, .ref (gad G 0)), (1, .int x1), (2, .int x2), (3, .int x3), (4, .int x4), (6, .int x6), (7, .int x7)] dX8_funeral_130 (by decide) rfl ?_
  refine bw_iconst C (v := 0) dX8_funeral_132 (by decide) ?_
  refine bw_istore C [(8, .int 0), (5, .int x7), (0, .ref (gad G 0)), (1, .int x1), (2, .int x2), (3, .int x3), (4, .int x4), (6, .int x6), (7, .int x7)] dX8_funeral_133 (by decide) rfl ?_
  refine bw_sub [2, 3, 4, 5, 6, 1, 7, 0] rfl (bk8_funeral_135 C x1 x2 x3 x4 x7 x6 (fun x8_135 w_135 h => ?_) 1000 0 w h)
  refine bw_iinc C [(6, .int (x6 + 1)), (0, .ref (gad G 0)), (1, .int x1), (2, .int x2), (3, .int x3), (4, .int x4), (5, .int x7)] 6 dX8_funeral_162 rfl rfl (by decide) rfl ?_
  refine bw_goto C (tgt := 90) dX8_funeral_165 (by decide) ?_
  exact bw_sub [1, 2, 3, 4, 5, 6, 0] rfl (hkb x7 (x6 + 1) w_135 h)
def fn8_funeral_90 (x1 : Int32) (x2 : Int32) (x3 : Int32) (x4 : Int32) (k : Int32 → Int32 → Mem → Option (Int32 × Mem)) : Nat → Int32 → Int32 → Mem → Option (Int32 × Mem)
  | 0, _, _, _ => none
  | nn + 1, x5, x6, w => (if x4 ≤ x6 then k x5 x6 w else (fn8_funeralCost x6 x1 x2 w).bind (fun q102 => (if q102.1 = (-4) then fn8_funeral_90 x1 x2 x3 x4 k nn x5 (x6 + 1) q102.2 else (if x5 = (-4) then fn8_funeral_128 x1 x2 x3 x4 x6 q102.1 (fn8_funeral_90 x1 x2 x3 x4 k nn) q102.2 else (if x5 ≤ q102.1 then fn8_funeral_90 x1 x2 x3 x4 k nn x5 (x6 + 1) q102.2 else fn8_funeral_128 x1 x2 x3 x4 x6 q102.1 (fn8_funeral_90 x1 x2 x3 x4 k nn) q102.2)))))
set_option maxRecDepth 20000 in
theorem bk8_funeral_90 {M : MX} {G : GX} (C : BC M G shM 19 eM RX8 cX8_funeral 9 (some .int) rm8_funeral) {z : Int32 × Mem} (x1 : Int32) (x2 : Int32) (x3 : Int32) (x4 : Int32) {k : Int32 → Int32 → Mem → Option (Int32 × Mem)} (hk : ∀ (x5 : Int32) (x6 : Int32) (w : Mem), k x5 x6 w = some z → BW M G shM 19 9 (ZR M G shM 19 (some .int) z) 168 [(0, .ref (gad G 0)), (3, .int x3), (5, .int x5)] [] w) : ∀ (nn : Nat) (x5 : Int32) (x6 : Int32) (w : Mem), fn8_funeral_90 x1 x2 x3 x4 k nn x5 x6 w = some z → BW M G shM 19 9 (ZR M G shM 19 (some .int) z) 90 [(0, .ref (gad G 0)), (1, .int x1), (2, .int x2), (3, .int x3), (4, .int x4), (5, .int x5), (6, .int x6)] [] w := by
  intro nn
  induction nn with
  | zero =>
    intro x5 x6 w h
    have h : (none : Option (Int32 × Mem)) = some z := h
    cases h
  | succ nn ih =>
    intro x5 x6 w h
    rw [fn8_funeral_90] at h
    refine bw_iload C 6 dX8_funeral_90 rfl ?_
    refine bw_iload C 4 dX8_funeral_92 rfl ?_
    refine bw_icmp_ge C (tgt := 168) dX8_funeral_94 (by decide) h (fun h => ?_) (fun h => ?_)
    · exact bw_sub [0, 3, 5] rfl (hk x5 x6 w h)
    · refine bw_aload_n C 0 dX8_funeral_97 rfl rfl ?_
      refine bw_iload C 6 dX8_funeral_98 rfl ?_
      refine bw_iload_n C 1 dX8_funeral_100 rfl rfl ?_
      refine bw_iload_n C 2 dX8_funeral_101 rfl rfl ?_
      refine bw_callVi C (As := [.int x6, .int x1, .int x2]) lM0 sM0 rfl miX8_funeralCost mlX8_243 imX8_funeralCost seX8_funeralCost (by decide) rfl rfl (fun z1 h1 => mt8_funeralCost h1) rfl (Nat.le_of_ble_eq_true rfl) rfl dX8_funeral_102 h (fun q102 _ h => ?_)
      refine bw_istore C [(7, .int q102.1), (0, .ref (gad G 0)), (1, .int x1), (2, .int x2), (3, .int x3), (4, .int x4), (5, .int x5), (6, .int x6)] dX8_funeral_105 (by decide) rfl ?_
      refine bw_iload C 0 dX8_funeral_107 rfl ?_
      refine bw_bipush C (v := (-4)) dX8_funeral_109 (by decide) ?_
      refine bw_icmp_eq C (tgt := 162) dX8_funeral_111 (by decide) h (fun h => ?_) (fun h => ?_)
      · refine bw_iinc C [(6, .int (x6 + 1)), (7, .int q102.1), (0, .ref (gad G 0)), (1, .int x1), (2, .int x2), (3, .int x3), (4, .int x4), (5, .int x5)] 7 dX8_funeral_162 rfl rfl (by decide) rfl ?_
        refine bw_goto C (tgt := 90) dX8_funeral_165 (by decide) ?_
        exact bw_sub [2, 3, 4, 5, 6, 7, 0] rfl (ih x5 (x6 + 1) q102.2 h)
      · refine bw_iload C 6 dX8_funeral_114 rfl ?_
        refine bw_bipush C (v := (-4)) dX8_funeral_116 (by decide) ?_
        refine bw_icmp_eq C (tgt := 128) dX8_funeral_118 (by decide) h (fun h => ?_) (fun h => ?_)
        · exact bw_sub [1, 2, 3, 4, 5, 7, 0] rfl (bk8_funeral_128 C x1 x2 x3 x4 x6 q102.1 ih h)
        · refine bw_iload C 0 dX8_funeral_121 rfl ?_
          refine bw_iload C 6 dX8_funeral_123 rfl ?_
          refine bw_icmp_ge C (tgt := 162) dX8_funeral_125 (by decide) h (fun h => ?_) (fun h => ?_)
          · refine bw_iinc C [(6, .int (x6 + 1)), (7, .int q102.1), (0, .ref (gad G 0)), (1, .int x1), (2, .int x2), (3, .int x3), (4, .int x4), (5, .int x5)] 7 dX8_funeral_162 rfl rfl (by decide) rfl ?_
            refine bw_goto C (tgt := 90) dX8_funeral_165 (by decide) ?_
            exact bw_sub [2, 3, 4, 5, 6, 7, 0] rfl (ih x5 (x6 + 1) q102.2 h)
          · exact bw_sub [1, 2, 3, 4, 5, 7, 0] rfl (bk8_funeral_128 C x1 x2 x3 x4 x6 q102.1 ih h)
def fn8_funeral_179 (x5 : Int32) (w : Mem) : Option (Int32 × Mem) := some (x5, w)
set_option maxRecDepth 20000 in
theorem bk8_funeral_179 {M : MX} {G : GX} (C : BC M G shM 19 eM RX8 cX8_funeral 9 (some .int) rm8_funeral) {z : Int32 × Mem} (x5 : Int32) {w : Mem} (h : fn8_funeral_179 x5 w = some z) : BW M G shM 19 9 (ZR M G shM 19 (some .int) z) 179 [(5, .int x5)] [] w := by
  rw [fn8_funeral_179] at h
  refine bw_iload C 0 dX8_funeral_179 rfl ?_
  refine bw_goto C (tgt := 212) dX8_funeral_181 (by decide) ?_
  exact bw_iret C dX8_funeral_212 h
def fn8_funeral_55 (x1 : Int32) (x2 : Int32) (x3 : Int32) (w : Mem) : Option (Int32 × Mem) := fn8_funeral_65 x1 x2 x3 (-4) (fun x4_65 x6_65 w_65 => fn8_funeral_90 x1 x2 x3 x4_65 (fun x5_90 x6_90 w_90 => (if x5_90 = (-4) then fn8_funeral_179 x5_90 w_90 else (if ¬ x3 = 0 then (if ib (x3 - 10) 6 = true then (if ¬ (w_90 12 (x3 - 10).toNatClampNeg) = 0 then (if ib (x3 - 10) 6 = true then some (((w_90 12 (x3 - 10).toNatClampNeg) - 1), w_90) else none) else some ((-4), w_90)) else none) else fn8_funeral_179 x5_90 w_90))) 200000 (-4) 0 w_65) 1000 1 0 w
set_option maxRecDepth 20000 in
theorem bk8_funeral_55 {M : MX} {G : GX} (C : BC M G shM 19 eM RX8 cX8_funeral 9 (some .int) rm8_funeral) {z : Int32 × Mem} (x1 : Int32) (x2 : Int32) (x3 : Int32) {w : Mem} (h : fn8_funeral_55 x1 x2 x3 w = some z) : BW M G shM 19 9 (ZR M G shM 19 (some .int) z) 55 [(0, .ref (gad G 0)), (1, .int x1), (2, .int x2), (3, .int x3)] [] w := by
  rw [fn8_funeral_55] at h
  refine bw_iconst C (v := 1) dX8_funeral_55 (by decide) ?_
  refine bw_istore C [(4, .int 1), (0, .ref (gad G 0)), (1, .int x1), (2, .int x2), (3, .int x3)] dX8_funeral_56 (by decide) rfl ?_
  refine bw_bipush C (v := (-4)) dX8_funeral_58 (by decide) ?_
  refine bw_istore C [(5, .int (-4)), (4, .int 1), (0, .ref (gad G 0)), (1, .int x1), (2, .int x2), (3, .int x3)] dX8_funeral_60 (by decide) rfl ?_
  refine bw_iconst C (v := 0) dX8_funeral_62 (by decide) ?_
  refine bw_istore C [(6, .int 0), (5, .int (-4)), (4, .int 1), (0, .ref (gad G 0)), (1, .int x1), (2, .int x2), (3, .int x3)] dX8_funeral_63 (by decide) rfl ?_
  refine bw_sub [3, 4, 5, 6, 2, 1, 0] rfl (bk8_funeral_65 C x1 x2 x3 (-4) (fun x4_65 x6_65 w_65 h => ?_) 1000 1 0 w h)
  refine bw_iconst C (v := 0) dX8_funeral_87 (by decide) ?_
  refine bw_istore C [(6, .int 0), (0, .ref (gad G 0)), (1, .int x1), (2, .int x2), (3, .int x3), (4, .int x4_65), (5, .int (-4))] dX8_funeral_88 (by decide) rfl ?_
  refine bw_sub [1, 2, 3, 4, 5, 6, 0] rfl (bk8_funeral_90 C x1 x2 x3 x4_65 (fun x5_90 x6_90 w_90 h => ?_) 200000 (-4) 0 w_65 h)
  refine bw_iload C 2 dX8_funeral_168 rfl ?_
  refine bw_bipush C (v := (-4)) dX8_funeral_170 (by decide) ?_
  refine bw_icmp_eq C (tgt := 179) dX8_funeral_172 (by decide) h (fun h => ?_) (fun h => ?_)
  · exact bw_sub [2] rfl (bk8_funeral_179 C x5_90 h)
  · refine bw_iload_n C 1 dX8_funeral_175 rfl rfl ?_
    refine bw_if_ne C (tgt := 184) dX8_funeral_176 (by decide) h (fun h => ?_) (fun h => ?_)
    · refine bw_aload_n C 0 dX8_funeral_184 rfl rfl ?_
      refine bw_getr C (j := 28) (t := 12) lM0 sM0 rfl inlX8 (by decide) rfl flX8_43 dX8_funeral_185 ?_
      refine bw_iload_n C 1 dX8_funeral_188 rfl rfl ?_
      refine bw_bipush C (v := 10) dX8_funeral_189 (by decide) ?_
      refine bw_isub C dX8_funeral_191 ?_
      refine bw_iald C lM12 sM12 dX8_funeral_192 h (fun h => ?_)
      refine bw_if_ne C (tgt := 201) dX8_funeral_193 (by decide) h (fun h => ?_) (fun h => ?_)
      · refine bw_aload_n C 0 dX8_funeral_201 rfl rfl ?_
        refine bw_getr C (j := 28) (t := 12) lM0 sM0 rfl inlX8 (by decide) rfl flX8_43 dX8_funeral_202 ?_
        refine bw_iload_n C 1 dX8_funeral_205 rfl rfl ?_
        refine bw_bipush C (v := 10) dX8_funeral_206 (by decide) ?_
        refine bw_isub C dX8_funeral_208 ?_
        refine bw_iald C lM12 sM12 dX8_funeral_209 h (fun h => ?_)
        refine bw_iconst C (v := 1) dX8_funeral_210 (by decide) ?_
        refine bw_isub C dX8_funeral_211 ?_
        exact bw_iret C dX8_funeral_212 h
      · refine bw_bipush C (v := (-4)) dX8_funeral_196 (by decide) ?_
        refine bw_goto C (tgt := 212) dX8_funeral_198 (by decide) ?_
        exact bw_iret C dX8_funeral_212 h
    · exact bw_sub [2] rfl (bk8_funeral_179 C x5_90 h)
def fn8_funeral  (x1 : Int32) (x2 : Int32) (x3 : Int32) (w : Mem) : Option (Int32 × Mem) := (fn8_in ((x1 : Int32).toInt64) 0 (((((1 : Int32) <<< ((w 0 2) &&& 31)) - 1) : Int32).toInt64) w).bind (fun q12 => (if q12.1 = 0 then some ((-1), q12.2) else (fn8_in ((x2 : Int32).toInt64) 1 12 q12.2).bind (fun q24 => (if q24.1 = 0 then some ((-1), q24.2) else (if x3 = 0 then fn8_funeral_55 x1 x2 x3 q24.2 else (fn8_in ((x3 : Int32).toInt64) 10 (((9 + (q24.2 0 3)) : Int32).toInt64) q24.2).bind (fun q47 => (if ¬ q47.1 = 0 then fn8_funeral_55 x1 x2 x3 q47.2 else some ((-1), q47.2))))))))
set_option maxRecDepth 20000 in
theorem bk8_funeral {M : MX} {G : GX} (C : BC M G shM 19 eM RX8 cX8_funeral 9 (some .int) rm8_funeral) {z : Int32 × Mem}   (x1 : Int32) (x2 : Int32) (x3 : Int32) {w : Mem} (h : fn8_funeral  x1 x2 x3 w = some z) : BW M G shM 19 9 (ZR M G shM 19 (some .int) z) 0 [(0, .ref (gad G 0)), (1, .int x1), (2, .int x2), (3, .int x3)] [] w := by
  rw [fn8_funeral] at h
  refine bw_iload_n C 1 dX8_funeral_0 rfl rfl ?_
  refine bw_i2l C dX8_funeral_1 rfl ?_
  refine bw_lconst C (v := 0) dX8_funeral_2 (by decide) ?_
  refine bw_iconst C (v := 1) dX8_funeral_3 (by decide) ?_
  refine bw_aload_n C 0 dX8_funeral_4 rfl rfl ?_
  refine bw_geti C (j := 2) lM0 sM0 rfl inlX8 (by decide) rfl flX8_166 dX8_funeral_5 ?_
  refine bw_ishl C dX8_funeral_8 ?_
  refine bw_iconst C (v := 1) dX8_funeral_9 (by decide) ?_
  refine bw_isub C dX8_funeral_10 ?_
  refine bw_i2l C dX8_funeral_11 rfl ?_
  refine bw_callSi C (As := [.long ((x1 : Int32).toInt64), .long 0, .long (((((1 : Int32) <<< ((w 0 2) &&& 31)) - 1) : Int32).toInt64)]) miX8_in mlX8_69 smX8_in (by decide) rfl rfl (fun z1 h1 => mt8_in h1) rfl (Nat.le_of_ble_eq_true rfl) rfl dX8_funeral_12 h (fun q12 _ h => ?_)
  refine bw_if_eq C (tgt := 53) dX8_funeral_15 (by decide) h (fun h => ?_) (fun h => ?_)
  · refine bw_iconst C (v := (-1)) dX8_funeral_53 (by decide) ?_
    exact bw_iret C dX8_funeral_54 h
  · refine bw_iload_n C 2 dX8_funeral_18 rfl rfl ?_
    refine bw_i2l C dX8_funeral_19 rfl ?_
    refine bw_lconst C (v := 1) dX8_funeral_20 (by decide) ?_
    refine bw_ldc2 C dX8_funeral_21 clX8_239 ?_
    refine bw_callSi C (As := [.long ((x2 : Int32).toInt64), .long 1, .long 12]) miX8_in mlX8_69 smX8_in (by decide) rfl rfl (fun z1 h1 => mt8_in h1) rfl (Nat.le_of_ble_eq_true rfl) rfl dX8_funeral_24 h (fun q24 _ h => ?_)
    refine bw_if_eq C (tgt := 53) dX8_funeral_27 (by decide) h (fun h => ?_) (fun h => ?_)
    · refine bw_iconst C (v := (-1)) dX8_funeral_53 (by decide) ?_
      exact bw_iret C dX8_funeral_54 h
    · refine bw_iload_n C 3 dX8_funeral_30 rfl rfl ?_
      refine bw_if_eq C (tgt := 55) dX8_funeral_31 (by decide) h (fun h => ?_) (fun h => ?_)
      · exact bw_sub [0, 1, 2, 3] rfl (bk8_funeral_55 C x1 x2 x3 h)
      · refine bw_iload_n C 3 dX8_funeral_34 rfl rfl ?_
        refine bw_i2l C dX8_funeral_35 rfl ?_
        refine bw_ldc2 C dX8_funeral_36 clX8_241 ?_
        refine bw_bipush C (v := 9) dX8_funeral_39 (by decide) ?_
        refine bw_aload_n C 0 dX8_funeral_41 rfl rfl ?_
        refine bw_geti C (j := 3) lM0 sM0 rfl inlX8 (by decide) rfl flX8_169 dX8_funeral_42 ?_
        refine bw_iadd C dX8_funeral_45 ?_
        refine bw_i2l C dX8_funeral_46 rfl ?_
        refine bw_callSi C (As := [.long ((x3 : Int32).toInt64), .long 10, .long (((9 + (q24.2 0 3)) : Int32).toInt64)]) miX8_in mlX8_69 smX8_in (by decide) rfl rfl (fun z1 h1 => mt8_in h1) rfl (Nat.le_of_ble_eq_true rfl) rfl dX8_funeral_47 h (fun q47 _ h => ?_)
        refine bw_if_ne C (tgt := 55) dX8_funeral_50 (by decide) h (fun h => ?_) (fun h => ?_)
        · exact bw_sub [0, 1, 2, 3] rfl (bk8_funeral_55 C x1 x2 x3 h)
        · refine bw_iconst C (v := (-1)) dX8_funeral_53 (by decide) ?_
          exact bw_iret C dX8_funeral_54 h
theorem mt8_funeral {l : Launch} {G : GX}   {x1 : Int32} {x2 : Int32} {x3 : Int32} {w : Mem} {z : Int32 × Mem} (h : fn8_funeral  x1 x2 x3 w = some z) : MC l G shM 19 eM yX8_funeral cX8_funeral 9 (some .int) rm8_funeral [.ref (gad G 0), .int x1, .int x2, .int x3] w z := by
  refine met_of (by decide +kernel) (eM_ok _) rfl (Nat.le_of_ble_eq_true rfl) (fun M hM C => ?_)
  subst hM
  exact bk8_funeral C  x1 x2 x3 h
def rm8_raided : Room := { frames := 4, cells := 0, slots := 0, locals := 89 }
def fn8_raided_18 (x1 : Int32) (x2 : Int32) (x3 : Int32) (k : Int32 → Int32 → Mem → Option (Int32 × Mem)) : Nat → Int32 → Int32 → Mem → Option (Int32 × Mem)
  | 0, _, _, _ => none
  | nn + 1, x4, x5, w => (if (w 0 3) ≤ x5 then k x4 x5 w else (fn8_ownerOf x5 w).bind (fun q30 => (if ¬ q30.1 = x3 then fn8_raided_18 x1 x2 x3 k nn x4 (x5 + 1) q30.2 else (fn8_isSpent x5 q30.2).bind (fun q40 => (if ¬ q40.1 = 0 then fn8_raided_18 x1 x2 x3 k nn x4 (x5 + 1) q40.2 else (if ib (4 * x5) 228 = true then (if (q40.2 1 (4 * x5).toNatClampNeg) ≤ x4 then fn8_raided_18 x1 x2 x3 k nn x4 (x5 + 1) q40.2 else (if ib (4 * x5) 228 = true then fn8_raided_18 x1 x2 x3 k nn (q40.2 1 (4 * x5).toNatClampNeg) (x5 + 1) q40.2 else none)) else none))))))
set_option maxRecDepth 20000 in
theorem bk8_raided_18 {M : MX} {G : GX} (C : BC M G shM 19 eM RX8 cX8_raided 6 (some .int) rm8_raided) {z : Int32 × Mem} (x1 : Int32) (x2 : Int32) (x3 : Int32) {k : Int32 → Int32 → Mem → Option (Int32 × Mem)} (hk : ∀ (x4 : Int32) (x5 : Int32) (w : Mem), k x4 x5 w = some z → BW M G shM 19 6 (ZR M G shM 19 (some .int) z) 82 [(0, .ref (gad G 0)), (1, .int x1), (2, .int x2), (3, .int x3), (4, .int x4)] [] w) : ∀ (nn : Nat) (x4 : Int32) (x5 : Int32) (w : Mem), fn8_raided_18 x1 x2 x3 k nn x4 x5 w = some z → BW M G shM 19 6 (ZR M G shM 19 (some .int) z) 18 [(0, .ref (gad G 0)), (1, .int x1), (2, .int x2), (3, .int x3), (4, .int x4), (5, .int x5)] [] w := by
  intro nn
  induction nn with
  | zero =>
    intro x4 x5 w h
    have h : (none : Option (Int32 × Mem)) = some z := h
    cases h
  | succ nn ih =>
    intro x4 x5 w h
    rw [fn8_raided_18] at h
    refine bw_iload C 5 dX8_raided_18 rfl ?_
    refine bw_aload_n C 0 dX8_raided_20 rfl rfl ?_
    refine bw_geti C (j := 3) lM0 sM0 rfl inlX8 (by decide) rfl flX8_169 dX8_raided_21 ?_
    refine bw_icmp_ge C (tgt := 82) dX8_raided_24 (by decide) h (fun h => ?_) (fun h => ?_)
    · exact bw_sub [0, 1, 2, 3, 4] rfl (hk x4 x5 w h)
    · refine bw_aload_n C 0 dX8_raided_27 rfl rfl ?_
      refine bw_iload C 5 dX8_raided_28 rfl ?_
      refine bw_callVi C (As := [.int x5]) lM0 sM0 rfl miX8_ownerOf mlX8_196 imX8_ownerOf seX8_ownerOf (by decide) rfl rfl (fun z1 h1 => mt8_ownerOf h1) rfl (Nat.le_of_ble_eq_true rfl) rfl dX8_raided_30 h (fun q30 _ h => ?_)
      refine bw_iload_n C 3 dX8_raided_33 rfl rfl ?_
      refine bw_icmp_ne C (tgt := 72) dX8_raided_34 (by decide) h (fun h => ?_) (fun h => ?_)
      · refine bw_iload C 4 dX8_raided_72 rfl ?_
        refine bw_istore C [(4, .int x4), (0, .ref (gad G 0)), (1, .int x1), (2, .int x2), (3, .int x3), (5, .int x5)] dX8_raided_74 (by decide) rfl ?_
        refine bw_iinc C [(5, .int (x5 + 1)), (4, .int x4), (0, .ref (gad G 0)), (1, .int x1), (2, .int x2), (3, .int x3)] 5 dX8_raided_76 rfl rfl (by decide) rfl ?_
        refine bw_goto C (tgt := 18) dX8_raided_79 (by decide) ?_
        exact bw_sub [2, 3, 4, 5, 1, 0] rfl (ih x4 (x5 + 1) q30.2 h)
      · refine bw_aload_n C 0 dX8_raided_37 rfl rfl ?_
        refine bw_iload C 5 dX8_raided_38 rfl ?_
        refine bw_callVi C (As := [.int x5]) lM0 sM0 rfl miX8_isSpent mlX8_203 imX8_isSpent seX8_isSpent (by decide) rfl rfl (fun z1 h1 => mt8_isSpent h1) rfl (Nat.le_of_ble_eq_true rfl) rfl dX8_raided_40 h (fun q40 _ h => ?_)
        refine bw_if_ne C (tgt := 72) dX8_raided_43 (by decide) h (fun h => ?_) (fun h => ?_)
        · refine bw_iload C 4 dX8_raided_72 rfl ?_
          refine bw_istore C [(4, .int x4), (0, .ref (gad G 0)), (1, .int x1), (2, .int x2), (3, .int x3), (5, .int x5)] dX8_raided_74 (by decide) rfl ?_
          refine bw_iinc C [(5, .int (x5 + 1)), (4, .int x4), (0, .ref (gad G 0)), (1, .int x1), (2, .int x2), (3, .int x3)] 5 dX8_raided_76 rfl rfl (by decide) rfl ?_
          refine bw_goto C (tgt := 18) dX8_raided_79 (by decide) ?_
          exact bw_sub [2, 3, 4, 5, 1, 0] rfl (ih x4 (x5 + 1) q40.2 h)
        · refine bw_aload_n C 0 dX8_raided_46 rfl rfl ?_
          refine bw_getr C (j := 0) (t := 1) lM0 sM0 rfl inlX8 (by decide) rfl flX8_7 dX8_raided_47 ?_
          refine bw_iconst C (v := 4) dX8_raided_50 (by decide) ?_
          refine bw_iload C 5 dX8_raided_51 rfl ?_
          refine bw_imul C dX8_raided_53 ?_
          refine bw_iald C lM1 sM1 dX8_raided_54 h (fun h => ?_)
          refine bw_iload C 4 dX8_raided_55 rfl ?_
          refine bw_icmp_le C (tgt := 72) dX8_raided_57 (by decide) h (fun h => ?_) (fun h => ?_)
          · refine bw_iload C 4 dX8_raided_72 rfl ?_
            refine bw_istore C [(4, .int x4), (0, .ref (gad G 0)), (1, .int x1), (2, .int x2), (3, .int x3), (5, .int x5)] dX8_raided_74 (by decide) rfl ?_
            refine bw_iinc C [(5, .int (x5 + 1)), (4, .int x4), (0, .ref (gad G 0)), (1, .int x1), (2, .int x2), (3, .int x3)] 5 dX8_raided_76 rfl rfl (by decide) rfl ?_
            refine bw_goto C (tgt := 18) dX8_raided_79 (by decide) ?_
            exact bw_sub [2, 3, 4, 5, 1, 0] rfl (ih x4 (x5 + 1) q40.2 h)
          · refine bw_aload_n C 0 dX8_raided_60 rfl rfl ?_
            refine bw_getr C (j := 0) (t := 1) lM0 sM0 rfl inlX8 (by decide) rfl flX8_7 dX8_raided_61 ?_
            refine bw_iconst C (v := 4) dX8_raided_64 (by decide) ?_
            refine bw_iload C 5 dX8_raided_65 rfl ?_
            refine bw_imul C dX8_raided_67 ?_
            refine bw_iald C lM1 sM1 dX8_raided_68 h (fun h => ?_)
            refine bw_goto C (tgt := 74) dX8_raided_69 (by decide) ?_
            refine bw_istore C [(4, .int (q40.2 1 (4 * x5).toNatClampNeg)), (0, .ref (gad G 0)), (1, .int x1), (2, .int x2), (3, .int x3), (5, .int x5)] dX8_raided_74 (by decide) rfl ?_
            refine bw_iinc C [(5, .int (x5 + 1)), (4, .int (q40.2 1 (4 * x5).toNatClampNeg)), (0, .ref (gad G 0)), (1, .int x1), (2, .int x2), (3, .int x3)] 5 dX8_raided_76 rfl rfl (by decide) rfl ?_
            refine bw_goto C (tgt := 18) dX8_raided_79 (by decide) ?_
            exact bw_sub [2, 3, 4, 5, 1, 0] rfl (ih (q40.2 1 (4 * x5).toNatClampNeg) (x5 + 1) q40.2 h)
def fn8_raided_101 (x1 : Int32) (x3 : Int32) (t0 : Int32) (kb : Int32 → Int32 → Mem → Option (Int32 × Mem)) (w : Mem) : Option (Int32 × Mem) := kb (t0 + 0) (x3 + 1) w
set_option maxRecDepth 20000 in
theorem bk8_raided_101 {M : MX} {G : GX} (C : BC M G shM 19 eM RX8 cX8_raided 6 (some .int) rm8_raided) {z : Int32 × Mem} (x1 : Int32) (x3 : Int32) (t0 : Int32) {kb : Int32 → Int32 → Mem → Option (Int32 × Mem)} (hkb : ∀ (x2 : Int32) (x3 : Int32) (w : Mem), kb x2 x3 w = some z → BW M G shM 19 6 (ZR M G shM 19 (some .int) z) 4 [(0, .ref (gad G 0)), (1, .int x1), (2, .int x2), (3, .int x3)] [] w) {w : Mem} (h : fn8_raided_101 x1 x3 t0 kb w = some z) : BW M G shM 19 6 (ZR M G shM 19 (some .int) z) 101 [(0, .ref (gad G 0)), (1, .int x1), (3, .int x3)] [.int t0] w := by
  rw [fn8_raided_101] at h
  refine bw_iconst C (v := 0) dX8_raided_101 (by decide) ?_
  refine bw_goto C (tgt := 107) dX8_raided_102 (by decide) ?_
  refine bw_iadd C dX8_raided_107 ?_
  refine bw_istore_n C [(2, .int (t0 + 0)), (0, .ref (gad G 0)), (1, .int x1), (3, .int x3)] dX8_raided_108 rfl (by decide) rfl ?_
  refine bw_iinc C [(3, .int (x3 + 1)), (2, .int (t0 + 0)), (0, .ref (gad G 0)), (1, .int x1)] 3 dX8_raided_109 rfl rfl (by decide) rfl ?_
  refine bw_goto C (tgt := 4) dX8_raided_112 (by decide) ?_
  exact bw_sub [2, 3, 1, 0] rfl (hkb (t0 + 0) (x3 + 1) w h)
def fn8_raided_4 (x1 : Int32) (k : Int32 → Int32 → Mem → Option (Int32 × Mem)) : Nat → Int32 → Int32 → Mem → Option (Int32 × Mem)
  | 0, _, _, _ => none
  | nn + 1, x2, x3, w => (if (w 0 2) ≤ x3 then k x2 x3 w else fn8_raided_18 x1 x2 x3 (fun x4_18 x5_18 w_18 => (fn8_kindOf x3 w_18).bind (fun q85 => (if q85.1 = 4 then fn8_raided_101 x1 x3 x2 (fn8_raided_4 x1 k nn) q85.2 else (fn8_isSilent x3 x1 q85.2).bind (fun q95 => (if q95.1 = 0 then fn8_raided_4 x1 k nn (x2 + x4_18) (x3 + 1) q95.2 else fn8_raided_101 x1 x3 x2 (fn8_raided_4 x1 k nn) q95.2))))) 1000 0 0 w)
set_option maxRecDepth 20000 in
theorem bk8_raided_4 {M : MX} {G : GX} (C : BC M G shM 19 eM RX8 cX8_raided 6 (some .int) rm8_raided) {z : Int32 × Mem} (x1 : Int32) {k : Int32 → Int32 → Mem → Option (Int32 × Mem)} (hk : ∀ (x2 : Int32) (x3 : Int32) (w : Mem), k x2 x3 w = some z → BW M G shM 19 6 (ZR M G shM 19 (some .int) z) 115 [(2, .int x2)] [] w) : ∀ (nn : Nat) (x2 : Int32) (x3 : Int32) (w : Mem), fn8_raided_4 x1 k nn x2 x3 w = some z → BW M G shM 19 6 (ZR M G shM 19 (some .int) z) 4 [(0, .ref (gad G 0)), (1, .int x1), (2, .int x2), (3, .int x3)] [] w := by
  intro nn
  induction nn with
  | zero =>
    intro x2 x3 w h
    have h : (none : Option (Int32 × Mem)) = some z := h
    cases h
  | succ nn ih =>
    intro x2 x3 w h
    rw [fn8_raided_4] at h
    refine bw_iload_n C 3 dX8_raided_4 rfl rfl ?_
    refine bw_aload_n C 0 dX8_raided_5 rfl rfl ?_
    refine bw_geti C (j := 2) lM0 sM0 rfl inlX8 (by decide) rfl flX8_166 dX8_raided_6 ?_
    refine bw_icmp_ge C (tgt := 115) dX8_raided_9 (by decide) h (fun h => ?_) (fun h => ?_)
    · exact bw_sub [2] rfl (hk x2 x3 w h)
    · refine bw_iconst C (v := 0) dX8_raided_12 (by decide) ?_
      refine bw_istore C [(4, .int 0), (0, .ref (gad G 0)), (1, .int x1), (2, .int x2), (3, .int x3)] dX8_raided_13 (by decide) rfl ?_
      refine bw_iconst C (v := 0) dX8_raided_15 (by decide) ?_
      refine bw_istore C [(5, .int 0), (4, .int 0), (0, .ref (gad G 0)), (1, .int x1), (2, .int x2), (3, .int x3)] dX8_raided_16 (by decide) rfl ?_
      refine bw_sub [2, 3, 4, 5, 1, 0] rfl (bk8_raided_18 C x1 x2 x3 (fun x4_18 x5_18 w_18 h => ?_) 1000 0 0 w h)
      refine bw_iload_n C 2 dX8_raided_82 rfl rfl ?_
      refine bw_aload_n C 0 dX8_raided_83 rfl rfl ?_
      refine bw_iload_n C 3 dX8_raided_84 rfl rfl ?_
      refine bw_callVi C (As := [.int x3]) lM0 sM0 rfl miX8_kindOf mlX8_188 imX8_kindOf seX8_kindOf (by decide) rfl rfl (fun z1 h1 => mt8_kindOf h1) rfl (Nat.le_of_ble_eq_true rfl) rfl dX8_raided_85 h (fun q85 _ h => ?_)
      refine bw_iconst C (v := 4) dX8_raided_88 (by decide) ?_
      refine bw_icmp_eq C (tgt := 101) dX8_raided_89 (by decide) h (fun h => ?_) (fun h => ?_)
      · exact bw_sub [0, 1, 3] rfl (bk8_raided_101 C x1 x3 x2 ih h)
      · refine bw_aload_n C 0 dX8_raided_92 rfl rfl ?_
        refine bw_iload_n C 3 dX8_raided_93 rfl rfl ?_
        refine bw_iload_n C 1 dX8_raided_94 rfl rfl ?_
        refine bw_callVi C (As := [.int x3, .int x1]) lM0 sM0 rfl miX8_isSilent mlX8_209 imX8_isSilent seX8_isSilent (by decide) rfl rfl (fun z1 h1 => mt8_isSilent h1) rfl (Nat.le_of_ble_eq_true rfl) rfl dX8_raided_95 h (fun q95 _ h => ?_)
        refine bw_if_eq C (tgt := 105) dX8_raided_98 (by decide) h (fun h => ?_) (fun h => ?_)
        · refine bw_iload C 4 dX8_raided_105 rfl ?_
          refine bw_iadd C dX8_raided_107 ?_
          refine bw_istore_n C [(2, .int (x2 + x4_18)), (0, .ref (gad G 0)), (1, .int x1), (3, .int x3), (4, .int x4_18)] dX8_raided_108 rfl (by decide) rfl ?_
          refine bw_iinc C [(3, .int (x3 + 1)), (2, .int (x2 + x4_18)), (0, .ref (gad G 0)), (1, .int x1), (4, .int x4_18)] 3 dX8_raided_109 rfl rfl (by decide) rfl ?_
          refine bw_goto C (tgt := 4) dX8_raided_112 (by decide) ?_
          exact bw_sub [2, 3, 1, 0] rfl (ih (x2 + x4_18) (x3 + 1) q95.2 h)
        · exact bw_sub [0, 1, 3] rfl (bk8_raided_101 C x1 x3 x2 ih h)
def fn8_raided  (x1 : Int32) (w : Mem) : Option (Int32 × Mem) := fn8_raided_4 x1 (fun x2_4 x3_4 w_4 => some (x2_4, w_4)) 1000 0 0 w
set_option maxRecDepth 20000 in
theorem bk8_raided {M : MX} {G : GX} (C : BC M G shM 19 eM RX8 cX8_raided 6 (some .int) rm8_raided) {z : Int32 × Mem}   (x1 : Int32) {w : Mem} (h : fn8_raided  x1 w = some z) : BW M G shM 19 6 (ZR M G shM 19 (some .int) z) 0 [(0, .ref (gad G 0)), (1, .int x1)] [] w := by
  rw [fn8_raided] at h
  refine bw_iconst C (v := 0) dX8_raided_0 (by decide) ?_
  refine bw_istore_n C [(2, .int 0), (0, .ref (gad G 0)), (1, .int x1)] dX8_raided_1 rfl (by decide) rfl ?_
  refine bw_iconst C (v := 0) dX8_raided_2 (by decide) ?_
  refine bw_istore_n C [(3, .int 0), (2, .int 0), (0, .ref (gad G 0)), (1, .int x1)] dX8_raided_3 rfl (by decide) rfl ?_
  refine bw_sub [2, 3, 1, 0] rfl (bk8_raided_4 C x1 (fun x2_4 x3_4 w_4 h => ?_) 1000 0 0 w h)
  refine bw_iload_n C 0 dX8_raided_115 rfl rfl ?_
  exact bw_iret C dX8_raided_116 h
theorem mt8_raided {l : Launch} {G : GX}   {x1 : Int32} {w : Mem} {z : Int32 × Mem} (h : fn8_raided  x1 w = some z) : MC l G shM 19 eM yX8_raided cX8_raided 6 (some .int) rm8_raided [.ref (gad G 0), .int x1] w z := by
  refine met_of (by decide +kernel) (eM_ok _) rfl (Nat.le_of_ble_eq_true rfl) (fun M hM C => ?_)
  subst hM
  exact bk8_raided C  x1 h
def rm8_raid : Room := { frames := 5, cells := 0, slots := 0, locals := 114 }
def fn8_raid_75 (x1 : Int32) (x2 : Int32) (x4 : Int32) (x5 : Int32) (t0 : Int32) (kb : Int32 → Int32 → Int32 → Mem → Option (Int32 × Mem)) (w : Mem) : Option (Int32 × Mem) := (if x5 ≤ x2 then kb x2 t0 (x4 + 1) w else kb x5 t0 (x4 + 1) w)
set_option maxRecDepth 20000 in
theorem bk8_raid_75 {M : MX} {G : GX} (C : BC M G shM 19 eM RX8 cX8_raid 6 (some .int) rm8_raid) {z : Int32 × Mem} (x1 : Int32) (x2 : Int32) (x4 : Int32) (x5 : Int32) (t0 : Int32) {kb : Int32 → Int32 → Int32 → Mem → Option (Int32 × Mem)} (hkb : ∀ (x2 : Int32) (x3 : Int32) (x4 : Int32) (w : Mem), kb x2 x3 x4 w = some z → BW M G shM 19 6 (ZR M G shM 19 (some .int) z) 48 [(0, .ref (gad G 0)), (1, .int x1), (2, .int x2), (3, .int x3), (4, .int x4)] [] w) {w : Mem} (h : fn8_raid_75 x1 x2 x4 x5 t0 kb w = some z) : BW M G shM 19 6 (ZR M G shM 19 (some .int) z) 75 [(0, .ref (gad G 0)), (1, .int x1), (2, .int x2), (4, .int x4), (5, .int x5)] [.int t0] w := by
  rw [fn8_raid_75] at h
  refine bw_istore_n C [(3, .int t0), (0, .ref (gad G 0)), (1, .int x1), (2, .int x2), (4, .int x4), (5, .int x5)] dX8_raid_75 rfl (by decide) rfl ?_
  refine bw_iload C 5 dX8_raid_76 rfl ?_
  refine bw_iload_n C 3 dX8_raid_78 rfl rfl ?_
  refine bw_icmp_le C (tgt := 87) dX8_raid_79 (by decide) h (fun h => ?_) (fun h => ?_)
  · refine bw_iload_n C 3 dX8_raid_87 rfl rfl ?_
    refine bw_istore_n C [(2, .int x2), (3, .int t0), (0, .ref (gad G 0)), (1, .int x1), (4, .int x4), (5, .int x5)] dX8_raid_88 rfl (by decide) rfl ?_
    refine bw_iinc C [(4, .int (x4 + 1)), (2, .int x2), (3, .int t0), (0, .ref (gad G 0)), (1, .int x1), (5, .int x5)] 4 dX8_raid_89 rfl rfl (by decide) rfl ?_
    refine bw_goto C (tgt := 48) dX8_raid_92 (by decide) ?_
    exact bw_sub [3, 4, 1, 2, 0] rfl (hkb x2 t0 (x4 + 1) w h)
  · refine bw_iload C 5 dX8_raid_82 rfl ?_
    refine bw_goto C (tgt := 88) dX8_raid_84 (by decide) ?_
    refine bw_istore_n C [(2, .int x5), (3, .int t0), (0, .ref (gad G 0)), (1, .int x1), (4, .int x4), (5, .int x5)] dX8_raid_88 rfl (by decide) rfl ?_
    refine bw_iinc C [(4, .int (x4 + 1)), (2, .int x5), (3, .int t0), (0, .ref (gad G 0)), (1, .int x1), (5, .int x5)] 4 dX8_raid_89 rfl rfl (by decide) rfl ?_
    refine bw_goto C (tgt := 48) dX8_raid_92 (by decide) ?_
    exact bw_sub [3, 4, 1, 2, 0] rfl (hkb x5 t0 (x4 + 1) w h)
def fn8_raid_48 (x1 : Int32) (k : Int32 → Int32 → Int32 → Mem → Option (Int32 × Mem)) : Nat → Int32 → Int32 → Int32 → Mem → Option (Int32 × Mem)
  | 0, _, _, _, _ => none
  | nn + 1, x2, x3, x4, w => (if 12 ≤ x4 then k x2 x3 x4 w else (fn8_raided x4 w).bind (fun q58 => (if q58.1 ≤ x2 then fn8_raid_75 x1 x2 x4 q58.1 x3 (fn8_raid_48 x1 k nn) q58.2 else fn8_raid_75 x1 x2 x4 q58.1 x4 (fn8_raid_48 x1 k nn) q58.2)))
set_option maxRecDepth 20000 in
theorem bk8_raid_48 {M : MX} {G : GX} (C : BC M G shM 19 eM RX8 cX8_raid 6 (some .int) rm8_raid) {z : Int32 × Mem} (x1 : Int32) {k : Int32 → Int32 → Int32 → Mem → Option (Int32 × Mem)} (hk : ∀ (x2 : Int32) (x3 : Int32) (x4 : Int32) (w : Mem), k x2 x3 x4 w = some z → BW M G shM 19 6 (ZR M G shM 19 (some .int) z) 95 [(1, .int x1), (2, .int x2), (3, .int x3)] [] w) : ∀ (nn : Nat) (x2 : Int32) (x3 : Int32) (x4 : Int32) (w : Mem), fn8_raid_48 x1 k nn x2 x3 x4 w = some z → BW M G shM 19 6 (ZR M G shM 19 (some .int) z) 48 [(0, .ref (gad G 0)), (1, .int x1), (2, .int x2), (3, .int x3), (4, .int x4)] [] w := by
  intro nn
  induction nn with
  | zero =>
    intro x2 x3 x4 w h
    have h : (none : Option (Int32 × Mem)) = some z := h
    cases h
  | succ nn ih =>
    intro x2 x3 x4 w h
    rw [fn8_raid_48] at h
    refine bw_iload C 4 dX8_raid_48 rfl ?_
    refine bw_bipush C (v := 12) dX8_raid_50 (by decide) ?_
    refine bw_icmp_ge C (tgt := 95) dX8_raid_52 (by decide) h (fun h => ?_) (fun h => ?_)
    · exact bw_sub [1, 2, 3] rfl (hk x2 x3 x4 w h)
    · refine bw_aload_n C 0 dX8_raid_55 rfl rfl ?_
      refine bw_iload C 4 dX8_raid_56 rfl ?_
      refine bw_callVi C (As := [.int x4]) lM0 sM0 rfl miX8_raided mlX8_248 imX8_raided seX8_raided (by decide) rfl rfl (fun z1 h1 => mt8_raided h1) rfl (Nat.le_of_ble_eq_true rfl) rfl dX8_raid_58 h (fun q58 _ h => ?_)
      refine bw_istore C [(5, .int q58.1), (0, .ref (gad G 0)), (1, .int x1), (2, .int x2), (3, .int x3), (4, .int x4)] dX8_raid_61 (by decide) rfl ?_
      refine bw_iload C 0 dX8_raid_63 rfl ?_
      refine bw_iload_n C 3 dX8_raid_65 rfl rfl ?_
      refine bw_icmp_le C (tgt := 74) dX8_raid_66 (by decide) h (fun h => ?_) (fun h => ?_)
      · refine bw_iload_n C 4 dX8_raid_74 rfl rfl ?_
        exact bw_sub [1, 2, 3, 5, 0] rfl (bk8_raid_75 C x1 x2 x4 q58.1 x3 ih h)
      · refine bw_iload C 5 dX8_raid_69 rfl ?_
        refine bw_goto C (tgt := 75) dX8_raid_71 (by decide) ?_
        exact bw_sub [1, 2, 3, 5, 0] rfl (bk8_raid_75 C x1 x2 x4 q58.1 x4 ih h)
def fn8_raid_26 (x1 : Int32) (w : Mem) : Option (Int32 × Mem) := (if x1 ≤ 1 then fn8_raid_48 x1 (fun x2_48 x3_48 x4_48 w_48 => (if ¬ x1 = 0 then some (x3_48, w_48) else some (x2_48, w_48))) 1000 (-4) 0 0 w else (fn8_raided (x1 - 10) w).bind (fun q36 => some (q36.1, q36.2)))
set_option maxRecDepth 20000 in
theorem bk8_raid_26 {M : MX} {G : GX} (C : BC M G shM 19 eM RX8 cX8_raid 6 (some .int) rm8_raid) {z : Int32 × Mem} (x1 : Int32) {w : Mem} (h : fn8_raid_26 x1 w = some z) : BW M G shM 19 6 (ZR M G shM 19 (some .int) z) 26 [(0, .ref (gad G 0)), (1, .int x1)] [] w := by
  rw [fn8_raid_26] at h
  refine bw_iload_n C 1 dX8_raid_26 rfl rfl ?_
  refine bw_iconst C (v := 1) dX8_raid_27 (by decide) ?_
  refine bw_icmp_le C (tgt := 40) dX8_raid_28 (by decide) h (fun h => ?_) (fun h => ?_)
  · refine bw_bipush C (v := (-4)) dX8_raid_40 (by decide) ?_
    refine bw_istore_n C [(2, .int (-4)), (0, .ref (gad G 0)), (1, .int x1)] dX8_raid_42 rfl (by decide) rfl ?_
    refine bw_iconst C (v := 0) dX8_raid_43 (by decide) ?_
    refine bw_istore_n C [(3, .int 0), (2, .int (-4)), (0, .ref (gad G 0)), (1, .int x1)] dX8_raid_44 rfl (by decide) rfl ?_
    refine bw_iconst C (v := 0) dX8_raid_45 (by decide) ?_
    refine bw_istore C [(4, .int 0), (3, .int 0), (2, .int (-4)), (0, .ref (gad G 0)), (1, .int x1)] dX8_raid_46 (by decide) rfl ?_
    refine bw_sub [3, 4, 2, 1, 0] rfl (bk8_raid_48 C x1 (fun x2_48 x3_48 x4_48 w_48 h => ?_) 1000 (-4) 0 0 w h)
    refine bw_iload_n C 0 dX8_raid_95 rfl rfl ?_
    refine bw_if_ne C (tgt := 103) dX8_raid_96 (by decide) h (fun h => ?_) (fun h => ?_)
    · refine bw_iload_n C 2 dX8_raid_103 rfl rfl ?_
      exact bw_iret C dX8_raid_104 h
    · refine bw_iload_n C 1 dX8_raid_99 rfl rfl ?_
      refine bw_goto C (tgt := 104) dX8_raid_100 (by decide) ?_
      exact bw_iret C dX8_raid_104 h
  · refine bw_aload_n C 0 dX8_raid_31 rfl rfl ?_
    refine bw_iload_n C 1 dX8_raid_32 rfl rfl ?_
    refine bw_bipush C (v := 10) dX8_raid_33 (by decide) ?_
    refine bw_isub C dX8_raid_35 ?_
    refine bw_callVi C (As := [.int (x1 - 10)]) lM0 sM0 rfl miX8_raided mlX8_248 imX8_raided seX8_raided (by decide) rfl rfl (fun z1 h1 => mt8_raided h1) rfl (Nat.le_of_ble_eq_true rfl) rfl dX8_raid_36 h (fun q36 _ h => ?_)
    exact bw_iret C dX8_raid_39 h
def fn8_raid  (x1 : Int32) (w : Mem) : Option (Int32 × Mem) := (fn8_in ((x1 : Int32).toInt64) 0 1 w).bind (fun q4 => (if ¬ q4.1 = 0 then fn8_raid_26 x1 q4.2 else (fn8_in ((x1 : Int32).toInt64) 10 21 q4.2).bind (fun q18 => (if ¬ q18.1 = 0 then fn8_raid_26 x1 q18.2 else some ((-1), q18.2)))))
set_option maxRecDepth 20000 in
theorem bk8_raid {M : MX} {G : GX} (C : BC M G shM 19 eM RX8 cX8_raid 6 (some .int) rm8_raid) {z : Int32 × Mem}   (x1 : Int32) {w : Mem} (h : fn8_raid  x1 w = some z) : BW M G shM 19 6 (ZR M G shM 19 (some .int) z) 0 [(0, .ref (gad G 0)), (1, .int x1)] [] w := by
  rw [fn8_raid] at h
  refine bw_iload_n C 1 dX8_raid_0 rfl rfl ?_
  refine bw_i2l C dX8_raid_1 rfl ?_
  refine bw_lconst C (v := 0) dX8_raid_2 (by decide) ?_
  refine bw_lconst C (v := 1) dX8_raid_3 (by decide) ?_
  refine bw_callSi C (As := [.long ((x1 : Int32).toInt64), .long 0, .long 1]) miX8_in mlX8_69 smX8_in (by decide) rfl rfl (fun z1 h1 => mt8_in h1) rfl (Nat.le_of_ble_eq_true rfl) rfl dX8_raid_4 h (fun q4 _ h => ?_)
  refine bw_if_ne C (tgt := 26) dX8_raid_7 (by decide) h (fun h => ?_) (fun h => ?_)
  · exact bw_sub [0, 1] rfl (bk8_raid_26 C x1 h)
  · refine bw_iload_n C 1 dX8_raid_10 rfl rfl ?_
    refine bw_i2l C dX8_raid_11 rfl ?_
    refine bw_ldc2 C dX8_raid_12 clX8_241 ?_
    refine bw_ldc2 C dX8_raid_15 clX8_246 ?_
    refine bw_callSi C (As := [.long ((x1 : Int32).toInt64), .long 10, .long 21]) miX8_in mlX8_69 smX8_in (by decide) rfl rfl (fun z1 h1 => mt8_in h1) rfl (Nat.le_of_ble_eq_true rfl) rfl dX8_raid_18 h (fun q18 _ h => ?_)
    refine bw_if_ne C (tgt := 26) dX8_raid_21 (by decide) h (fun h => ?_) (fun h => ?_)
    · exact bw_sub [0, 1] rfl (bk8_raid_26 C x1 h)
    · refine bw_iconst C (v := (-1)) dX8_raid_24 (by decide) ?_
      exact bw_iret C dX8_raid_25 h
theorem mt8_raid {l : Launch} {G : GX}   {x1 : Int32} {w : Mem} {z : Int32 × Mem} (h : fn8_raid  x1 w = some z) : MC l G shM 19 eM yX8_raid cX8_raid 6 (some .int) rm8_raid [.ref (gad G 0), .int x1] w z := by
  refine met_of (by decide +kernel) (eM_ok _) rfl (Nat.le_of_ble_eq_true rfl) (fun M hM C => ?_)
  subst hM
  exact bk8_raid C  x1 h
def rm8_unspent : Room := { frames := 1, cells := 0, slots := 0, locals := 21 }
def fn8_unspent_4 (k : Int32 → Int32 → Mem → Option (Int32 × Mem)) : Nat → Int32 → Int32 → Mem → Option (Int32 × Mem)
  | 0, _, _, _ => none
  | nn + 1, x1, x2, w => (if (w 0 3) ≤ x2 then k x1 x2 w else (fn8_isSpent x2 w).bind (fun q15 => (if q15.1 = 0 then (if ib (4 * x2) 228 = true then fn8_unspent_4 k nn (x1 + (q15.2 1 (4 * x2).toNatClampNeg)) (x2 + 1) q15.2 else none) else fn8_unspent_4 k nn (x1 + 0) (x2 + 1) q15.2)))
set_option maxRecDepth 20000 in
theorem bk8_unspent_4 {M : MX} {G : GX} (C : BC M G shM 19 eM RX8 cX8_unspent 3 (some .int) rm8_unspent) {z : Int32 × Mem} {k : Int32 → Int32 → Mem → Option (Int32 × Mem)} (hk : ∀ (x1 : Int32) (x2 : Int32) (w : Mem), k x1 x2 w = some z → BW M G shM 19 3 (ZR M G shM 19 (some .int) z) 41 [(1, .int x1)] [] w) : ∀ (nn : Nat) (x1 : Int32) (x2 : Int32) (w : Mem), fn8_unspent_4 k nn x1 x2 w = some z → BW M G shM 19 3 (ZR M G shM 19 (some .int) z) 4 [(0, .ref (gad G 0)), (1, .int x1), (2, .int x2)] [] w := by
  intro nn
  induction nn with
  | zero =>
    intro x1 x2 w h
    have h : (none : Option (Int32 × Mem)) = some z := h
    cases h
  | succ nn ih =>
    intro x1 x2 w h
    rw [fn8_unspent_4] at h
    refine bw_iload_n C 2 dX8_unspent_4 rfl rfl ?_
    refine bw_aload_n C 0 dX8_unspent_5 rfl rfl ?_
    refine bw_geti C (j := 3) lM0 sM0 rfl inlX8 (by decide) rfl flX8_169 dX8_unspent_6 ?_
    refine bw_icmp_ge C (tgt := 41) dX8_unspent_9 (by decide) h (fun h => ?_) (fun h => ?_)
    · exact bw_sub [1] rfl (hk x1 x2 w h)
    · refine bw_iload_n C 1 dX8_unspent_12 rfl rfl ?_
      refine bw_aload_n C 0 dX8_unspent_13 rfl rfl ?_
      refine bw_iload_n C 2 dX8_unspent_14 rfl rfl ?_
      refine bw_callVi C (As := [.int x2]) lM0 sM0 rfl miX8_isSpent mlX8_203 imX8_isSpent seX8_isSpent (by decide) rfl rfl (fun z1 h1 => mt8_isSpent h1) rfl (Nat.le_of_ble_eq_true rfl) rfl dX8_unspent_15 h (fun q15 _ h => ?_)
      refine bw_if_eq C (tgt := 25) dX8_unspent_18 (by decide) h (fun h => ?_) (fun h => ?_)
      · refine bw_aload_n C 0 dX8_unspent_25 rfl rfl ?_
        refine bw_getr C (j := 0) (t := 1) lM0 sM0 rfl inlX8 (by decide) rfl flX8_7 dX8_unspent_26 ?_
        refine bw_iconst C (v := 4) dX8_unspent_29 (by decide) ?_
        refine bw_iload_n C 2 dX8_unspent_30 rfl rfl ?_
        refine bw_imul C dX8_unspent_31 ?_
        refine bw_iald C lM1 sM1 dX8_unspent_32 h (fun h => ?_)
        refine bw_iadd C dX8_unspent_33 ?_
        refine bw_istore_n C [(1, .int (x1 + (q15.2 1 (4 * x2).toNatClampNeg))), (0, .ref (gad G 0)), (2, .int x2)] dX8_unspent_34 rfl (by decide) rfl ?_
        refine bw_iinc C [(2, .int (x2 + 1)), (1, .int (x1 + (q15.2 1 (4 * x2).toNatClampNeg))), (0, .ref (gad G 0))] 2 dX8_unspent_35 rfl rfl (by decide) rfl ?_
        refine bw_goto C (tgt := 4) dX8_unspent_38 (by decide) ?_
        exact bw_sub [2, 1, 0] rfl (ih (x1 + (q15.2 1 (4 * x2).toNatClampNeg)) (x2 + 1) q15.2 h)
      · refine bw_iconst C (v := 0) dX8_unspent_21 (by decide) ?_
        refine bw_goto C (tgt := 33) dX8_unspent_22 (by decide) ?_
        refine bw_iadd C dX8_unspent_33 ?_
        refine bw_istore_n C [(1, .int (x1 + 0)), (0, .ref (gad G 0)), (2, .int x2)] dX8_unspent_34 rfl (by decide) rfl ?_
        refine bw_iinc C [(2, .int (x2 + 1)), (1, .int (x1 + 0)), (0, .ref (gad G 0))] 2 dX8_unspent_35 rfl rfl (by decide) rfl ?_
        refine bw_goto C (tgt := 4) dX8_unspent_38 (by decide) ?_
        exact bw_sub [2, 1, 0] rfl (ih (x1 + 0) (x2 + 1) q15.2 h)
def fn8_unspent   (w : Mem) : Option (Int32 × Mem) := fn8_unspent_4 (fun x1_4 x2_4 w_4 => some (x1_4, w_4)) 1000 0 0 w
set_option maxRecDepth 20000 in
theorem bk8_unspent {M : MX} {G : GX} (C : BC M G shM 19 eM RX8 cX8_unspent 3 (some .int) rm8_unspent) {z : Int32 × Mem}    {w : Mem} (h : fn8_unspent   w = some z) : BW M G shM 19 3 (ZR M G shM 19 (some .int) z) 0 [(0, .ref (gad G 0))] [] w := by
  rw [fn8_unspent] at h
  refine bw_iconst C (v := 0) dX8_unspent_0 (by decide) ?_
  refine bw_istore_n C [(1, .int 0), (0, .ref (gad G 0))] dX8_unspent_1 rfl (by decide) rfl ?_
  refine bw_iconst C (v := 0) dX8_unspent_2 (by decide) ?_
  refine bw_istore_n C [(2, .int 0), (1, .int 0), (0, .ref (gad G 0))] dX8_unspent_3 rfl (by decide) rfl ?_
  refine bw_sub [2, 1, 0] rfl (bk8_unspent_4 C (fun x1_4 x2_4 w_4 h => ?_) 1000 0 0 w h)
  refine bw_iload_n C 0 dX8_unspent_41 rfl rfl ?_
  exact bw_iret C dX8_unspent_42 h
theorem mt8_unspent {l : Launch} {G : GX}    {w : Mem} {z : Int32 × Mem} (h : fn8_unspent   w = some z) : MC l G shM 19 eM yX8_unspent cX8_unspent 3 (some .int) rm8_unspent [.ref (gad G 0)] w z := by
  refine met_of (by decide +kernel) (eM_ok _) rfl (Nat.le_of_ble_eq_true rfl) (fun M hM C => ?_)
  subst hM
  exact bk8_unspent C   h
