def rm8_isHour : Room := { frames := 1, cells := 0, slots := 0, locals := 25 }
def fn8_isHour  (x0 : Int32) (w : Mem) : Option (Int32 × Mem) := (fn8_in ((x0 : Int32).toInt64) 0 11 w).bind (fun q6 => (if isb q6.1 = true then some (q6.1, q6.2) else none))
set_option maxRecDepth 20000 in
theorem bk8_isHour {M : MX} {G : GX} (C : BC M G shM 19 eM RX8 cX8_isHour 1 (some .boolean) rm8_isHour) {z : Int32 × Mem}   (x0 : Int32) {w : Mem} (h : fn8_isHour  x0 w = some z) : BW M G shM 19 1 (ZR M G shM 19 (some .boolean) z) 0 [(0, .int x0)] [] w := by
  rw [fn8_isHour] at h
  refine bw_iload_n C 0 dX8_isHour_0 rfl rfl ?_
  refine bw_i2l C dX8_isHour_1 rfl ?_
  refine bw_lconst C (v := 0) dX8_isHour_2 (by decide) ?_
  refine bw_ldc2 C dX8_isHour_3 clX8_178 ?_
  refine bw_callSi C (As := [.long ((x0 : Int32).toInt64), .long 0, .long 11]) miX8_in mlX8_69 smX8_in (by decide) rfl rfl (fun z1 h1 => mt8_in h1) rfl (Nat.le_of_ble_eq_true rfl) rfl dX8_isHour_6 h (fun q6 _ h => ?_)
  exact bw_zret C dX8_isHour_9 h
theorem mt8_isHour {l : Launch} {G : GX}   {x0 : Int32} {w : Mem} {z : Int32 × Mem} (h : fn8_isHour  x0 w = some z) : MC l G shM 19 eM yX8_isHour cX8_isHour 1 (some .boolean) rm8_isHour [.int x0] w z := by
  refine met_of (by decide +kernel) (eM_ok _) rfl (Nat.le_of_ble_eq_true rfl) (fun M hM C => ?_)
  subst hM
  exact bk8_isHour C  x0 h
def rm8_areTwo : Room := { frames := 2, cells := 0, slots := 0, locals := 46 }
def fn8_areTwo  (x1 : Int32) (x2 : Int32) (w : Mem) : Option (Int32 × Mem) := (fn8_isOne x1 w).bind (fun q2 => (if q2.1 = 0 then some (0, q2.2) else (fn8_isOne x2 q2.2).bind (fun q10 => (if q10.1 = 0 then some (0, q10.2) else (if x1 = x2 then some (0, q10.2) else some (1, q10.2))))))
set_option maxRecDepth 20000 in
theorem bk8_areTwo {M : MX} {G : GX} (C : BC M G shM 19 eM RX8 cX8_areTwo 3 (some .boolean) rm8_areTwo) {z : Int32 × Mem}   (x1 : Int32) (x2 : Int32) {w : Mem} (h : fn8_areTwo  x1 x2 w = some z) : BW M G shM 19 3 (ZR M G shM 19 (some .boolean) z) 0 [(0, .ref (gad G 0)), (1, .int x1), (2, .int x2)] [] w := by
  rw [fn8_areTwo] at h
  refine bw_aload_n C 0 dX8_areTwo_0 rfl rfl ?_
  refine bw_iload_n C 1 dX8_areTwo_1 rfl rfl ?_
  refine bw_callVi C (As := [.int x1]) lM0 sM0 rfl miX8_isOne mlX8_180 imX8_isOne seX8_isOne (by decide) rfl rfl (fun z1 h1 => mt8_isOne h1) rfl (Nat.le_of_ble_eq_true rfl) rfl dX8_areTwo_2 h (fun q2 _ h => ?_)
  refine bw_if_eq C (tgt := 25) dX8_areTwo_5 (by decide) h (fun h => ?_) (fun h => ?_)
  · refine bw_iconst C (v := 0) dX8_areTwo_25 (by decide) ?_
    exact bw_zretc C dX8_areTwo_26 rfl h
  · refine bw_aload_n C 0 dX8_areTwo_8 rfl rfl ?_
    refine bw_iload_n C 2 dX8_areTwo_9 rfl rfl ?_
    refine bw_callVi C (As := [.int x2]) lM0 sM0 rfl miX8_isOne mlX8_180 imX8_isOne seX8_isOne (by decide) rfl rfl (fun z1 h1 => mt8_isOne h1) rfl (Nat.le_of_ble_eq_true rfl) rfl dX8_areTwo_10 h (fun q10 _ h => ?_)
    refine bw_if_eq C (tgt := 25) dX8_areTwo_13 (by decide) h (fun h => ?_) (fun h => ?_)
    · refine bw_iconst C (v := 0) dX8_areTwo_25 (by decide) ?_
      exact bw_zretc C dX8_areTwo_26 rfl h
    · refine bw_iload_n C 1 dX8_areTwo_16 rfl rfl ?_
      refine bw_iload_n C 2 dX8_areTwo_17 rfl rfl ?_
      refine bw_icmp_eq C (tgt := 25) dX8_areTwo_18 (by decide) h (fun h => ?_) (fun h => ?_)
      · refine bw_iconst C (v := 0) dX8_areTwo_25 (by decide) ?_
        exact bw_zretc C dX8_areTwo_26 rfl h
      · refine bw_iconst C (v := 1) dX8_areTwo_21 (by decide) ?_
        refine bw_goto C (tgt := 26) dX8_areTwo_22 (by decide) ?_
        exact bw_zretc C dX8_areTwo_26 rfl h
theorem mt8_areTwo {l : Launch} {G : GX}   {x1 : Int32} {x2 : Int32} {w : Mem} {z : Int32 × Mem} (h : fn8_areTwo  x1 x2 w = some z) : MC l G shM 19 eM yX8_areTwo cX8_areTwo 3 (some .boolean) rm8_areTwo [.ref (gad G 0), .int x1, .int x2] w z := by
  refine met_of (by decide +kernel) (eM_ok _) rfl (Nat.le_of_ble_eq_true rfl) (fun M hM C => ?_)
  subst hM
  exact bk8_areTwo C  x1 x2 h
def rm8_feeNow : Room := { frames := 0, cells := 0, slots := 0, locals := 0 }
def fn8_feeNow   (w : Mem) : Option (Int32 × Mem) := (if ib 56 228 = true then some (((w 1 (56 : Int32).toNatClampNeg) + 1), w) else none)
set_option maxRecDepth 20000 in
theorem bk8_feeNow {M : MX} {G : GX} (C : BC M G shM 19 eM RX8 cX8_feeNow 1 (some .int) rm8_feeNow) {z : Int32 × Mem}    {w : Mem} (h : fn8_feeNow   w = some z) : BW M G shM 19 1 (ZR M G shM 19 (some .int) z) 0 [(0, .ref (gad G 0))] [] w := by
  rw [fn8_feeNow] at h
  refine bw_aload_n C 0 dX8_feeNow_0 rfl rfl ?_
  refine bw_getr C (j := 0) (t := 1) lM0 sM0 rfl inlX8 (by decide) rfl flX8_7 dX8_feeNow_1 ?_
  refine bw_bipush C (v := 56) dX8_feeNow_4 (by decide) ?_
  refine bw_iald C lM1 sM1 dX8_feeNow_6 h (fun h => ?_)
  refine bw_iconst C (v := 1) dX8_feeNow_7 (by decide) ?_
  refine bw_iadd C dX8_feeNow_8 ?_
  exact bw_iret C dX8_feeNow_9 h
theorem mt8_feeNow {l : Launch} {G : GX}    {w : Mem} {z : Int32 × Mem} (h : fn8_feeNow   w = some z) : MC l G shM 19 eM yX8_feeNow cX8_feeNow 1 (some .int) rm8_feeNow [.ref (gad G 0)] w z := by
  refine met_of (by decide +kernel) (eM_ok _) rfl (Nat.le_of_ble_eq_true rfl) (fun M hM C => ?_)
  subst hM
  exact bk8_feeNow C   h
def rm8_rule : Room := { frames := 1, cells := 0, slots := 0, locals := 20 }
def fn8_rule  (x1 : Int32) (w : Mem) : Option (Int32 × Mem) := (if x1 = 0 then some ((w 0 2), w) else (if x1 = 1 then some ((w 0 3), w) else (if x1 = 2 then (if ib 54 228 = true then some ((w 1 (54 : Int32).toNatClampNeg), w) else none) else (if x1 = 3 then (if ib 55 228 = true then some ((w 1 (55 : Int32).toNatClampNeg), w) else none) else (if x1 = 4 then (fn8_feeNow w).bind (fun q63 => some (q63.1, q63.2)) else some ((-1), w))))))
set_option maxRecDepth 20000 in
theorem bk8_rule {M : MX} {G : GX} (C : BC M G shM 19 eM RX8 cX8_rule 2 (some .int) rm8_rule) {z : Int32 × Mem}   (x1 : Int32) {w : Mem} (h : fn8_rule  x1 w = some z) : BW M G shM 19 2 (ZR M G shM 19 (some .int) z) 0 [(0, .ref (gad G 0)), (1, .int x1)] [] w := by
  rw [fn8_rule] at h
  refine bw_iload_n C 1 dX8_rule_0 rfl rfl ?_
  refine bw_case h (fun hx h => ?_) (fun hn0 h => ?_)
  · refine bw_tsIn C (tgt := 36) (v := 0) dX8_rule_1 hx (by decide) (by decide) rfl (by decide) ?_
    refine bw_aload_n C 0 dX8_rule_36 rfl rfl ?_
    refine bw_geti C (j := 2) lM0 sM0 rfl inlX8 (by decide) rfl flX8_166 dX8_rule_37 ?_
    exact bw_iret C dX8_rule_40 h
  · refine bw_case h (fun hx h => ?_) (fun hn1 h => ?_)
    · refine bw_tsIn C (tgt := 41) (v := 1) dX8_rule_1 hx (by decide) (by decide) rfl (by decide) ?_
      refine bw_aload_n C 0 dX8_rule_41 rfl rfl ?_
      refine bw_geti C (j := 3) lM0 sM0 rfl inlX8 (by decide) rfl flX8_169 dX8_rule_42 ?_
      exact bw_iret C dX8_rule_45 h
    · refine bw_case h (fun hx h => ?_) (fun hn2 h => ?_)
      · refine bw_tsIn C (tgt := 46) (v := 2) dX8_rule_1 hx (by decide) (by decide) rfl (by decide) ?_
        refine bw_aload_n C 0 dX8_rule_46 rfl rfl ?_
        refine bw_getr C (j := 0) (t := 1) lM0 sM0 rfl inlX8 (by decide) rfl flX8_7 dX8_rule_47 ?_
        refine bw_bipush C (v := 54) dX8_rule_50 (by decide) ?_
        refine bw_iald C lM1 sM1 dX8_rule_52 h (fun h => ?_)
        exact bw_iret C dX8_rule_53 h
      · refine bw_case h (fun hx h => ?_) (fun hn3 h => ?_)
        · refine bw_tsIn C (tgt := 54) (v := 3) dX8_rule_1 hx (by decide) (by decide) rfl (by decide) ?_
          refine bw_aload_n C 0 dX8_rule_54 rfl rfl ?_
          refine bw_getr C (j := 0) (t := 1) lM0 sM0 rfl inlX8 (by decide) rfl flX8_7 dX8_rule_55 ?_
          refine bw_bipush C (v := 55) dX8_rule_58 (by decide) ?_
          refine bw_iald C lM1 sM1 dX8_rule_60 h (fun h => ?_)
          exact bw_iret C dX8_rule_61 h
        · refine bw_case h (fun hx h => ?_) (fun hn4 h => ?_)
          · refine bw_tsIn C (tgt := 62) (v := 4) dX8_rule_1 hx (by decide) (by decide) rfl (by decide) ?_
            refine bw_aload_n C 0 dX8_rule_62 rfl rfl ?_
            refine bw_callVi C (As := []) lM0 sM0 rfl miX8_feeNow mlX8_183 imX8_feeNow seX8_feeNow (by decide) rfl rfl (fun z1 h1 => mt8_feeNow h1) rfl (Nat.le_of_ble_eq_true rfl) rfl dX8_rule_63 h (fun q63 _ h => ?_)
            exact bw_iret C dX8_rule_66 h
          · refine bw_tsOut C (tgt := 67) dX8_rule_1 (sw_out (lo := 0) (hi := 4) (fun q h1 h2 => ?_)) (by decide) ?_
            · rcases (show q = 0 ∨ q = 1 ∨ q = 2 ∨ q = 3 ∨ q = 4 by omega) with e | e | e | e | e
              · exact fun g => hn0 (sw_eq g (by rw [e]; decide))
              · exact fun g => hn1 (sw_eq g (by rw [e]; decide))
              · exact fun g => hn2 (sw_eq g (by rw [e]; decide))
              · exact fun g => hn3 (sw_eq g (by rw [e]; decide))
              · exact fun g => hn4 (sw_eq g (by rw [e]; decide))
            · refine bw_iconst C (v := (-1)) dX8_rule_67 (by decide) ?_
              exact bw_iret C dX8_rule_68 h
theorem mt8_rule {l : Launch} {G : GX}   {x1 : Int32} {w : Mem} {z : Int32 × Mem} (h : fn8_rule  x1 w = some z) : MC l G shM 19 eM yX8_rule cX8_rule 2 (some .int) rm8_rule [.ref (gad G 0), .int x1] w z := by
  refine met_of (by decide +kernel) (eM_ok _) rfl (Nat.le_of_ble_eq_true rfl) (fun M hM C => ?_)
  subst hM
  exact bk8_rule C  x1 h
def rm8_one : Room := { frames := 2, cells := 0, slots := 0, locals := 46 }
def fn8_one  (x1 : Int32) (x2 : Int32) (w : Mem) : Option (Int32 × Mem) := (fn8_isOne x1 w).bind (fun q2 => (if q2.1 = 0 then some ((-1), q2.2) else (fn8_in ((x2 : Int32).toInt64) 0 2 q2.2).bind (fun q14 => (if q14.1 = 0 then some ((-1), q14.2) else (if ib ((3 * x1) + x2) 18 = true then some ((q14.2 2 ((3 * x1) + x2).toNatClampNeg), q14.2) else none)))))
set_option maxRecDepth 20000 in
theorem bk8_one {M : MX} {G : GX} (C : BC M G shM 19 eM RX8 cX8_one 3 (some .int) rm8_one) {z : Int32 × Mem}   (x1 : Int32) (x2 : Int32) {w : Mem} (h : fn8_one  x1 x2 w = some z) : BW M G shM 19 3 (ZR M G shM 19 (some .int) z) 0 [(0, .ref (gad G 0)), (1, .int x1), (2, .int x2)] [] w := by
  rw [fn8_one] at h
  refine bw_aload_n C 0 dX8_one_0 rfl rfl ?_
  refine bw_iload_n C 1 dX8_one_1 rfl rfl ?_
  refine bw_callVi C (As := [.int x1]) lM0 sM0 rfl miX8_isOne mlX8_180 imX8_isOne seX8_isOne (by decide) rfl rfl (fun z1 h1 => mt8_isOne h1) rfl (Nat.le_of_ble_eq_true rfl) rfl dX8_one_2 h (fun q2 _ h => ?_)
  refine bw_if_eq C (tgt := 33) dX8_one_5 (by decide) h (fun h => ?_) (fun h => ?_)
  · refine bw_iconst C (v := (-1)) dX8_one_33 (by decide) ?_
    exact bw_iret C dX8_one_34 h
  · refine bw_iload_n C 2 dX8_one_8 rfl rfl ?_
    refine bw_i2l C dX8_one_9 rfl ?_
    refine bw_lconst C (v := 0) dX8_one_10 (by decide) ?_
    refine bw_ldc2 C dX8_one_11 clX8_186 ?_
    refine bw_callSi C (As := [.long ((x2 : Int32).toInt64), .long 0, .long 2]) miX8_in mlX8_69 smX8_in (by decide) rfl rfl (fun z1 h1 => mt8_in h1) rfl (Nat.le_of_ble_eq_true rfl) rfl dX8_one_14 h (fun q14 _ h => ?_)
    refine bw_if_eq C (tgt := 33) dX8_one_17 (by decide) h (fun h => ?_) (fun h => ?_)
    · refine bw_iconst C (v := (-1)) dX8_one_33 (by decide) ?_
      exact bw_iret C dX8_one_34 h
    · refine bw_aload_n C 0 dX8_one_20 rfl rfl ?_
      refine bw_getr C (j := 1) (t := 2) lM0 sM0 rfl inlX8 (by decide) rfl flX8_13 dX8_one_21 ?_
      refine bw_iconst C (v := 3) dX8_one_24 (by decide) ?_
      refine bw_iload_n C 1 dX8_one_25 rfl rfl ?_
      refine bw_imul C dX8_one_26 ?_
      refine bw_iload_n C 2 dX8_one_27 rfl rfl ?_
      refine bw_iadd C dX8_one_28 ?_
      refine bw_iald C lM2 sM2 dX8_one_29 h (fun h => ?_)
      refine bw_goto C (tgt := 34) dX8_one_30 (by decide) ?_
      exact bw_iret C dX8_one_34 h
theorem mt8_one {l : Launch} {G : GX}   {x1 : Int32} {x2 : Int32} {w : Mem} {z : Int32 × Mem} (h : fn8_one  x1 x2 w = some z) : MC l G shM 19 eM yX8_one cX8_one 3 (some .int) rm8_one [.ref (gad G 0), .int x1, .int x2] w z := by
  refine met_of (by decide +kernel) (eM_ok _) rfl (Nat.le_of_ble_eq_true rfl) (fun M hM C => ?_)
  subst hM
  exact bk8_one C  x1 x2 h
def rm8_kindOf : Room := { frames := 0, cells := 0, slots := 0, locals := 0 }
def fn8_kindOf  (x1 : Int32) (w : Mem) : Option (Int32 × Mem) := (if ib (3 * x1) 18 = true then some ((w 2 (3 * x1).toNatClampNeg), w) else none)
set_option maxRecDepth 20000 in
theorem bk8_kindOf {M : MX} {G : GX} (C : BC M G shM 19 eM RX8 cX8_kindOf 2 (some .int) rm8_kindOf) {z : Int32 × Mem}   (x1 : Int32) {w : Mem} (h : fn8_kindOf  x1 w = some z) : BW M G shM 19 2 (ZR M G shM 19 (some .int) z) 0 [(0, .ref (gad G 0)), (1, .int x1)] [] w := by
  rw [fn8_kindOf] at h
  refine bw_aload_n C 0 dX8_kindOf_0 rfl rfl ?_
  refine bw_getr C (j := 1) (t := 2) lM0 sM0 rfl inlX8 (by decide) rfl flX8_13 dX8_kindOf_1 ?_
  refine bw_iconst C (v := 3) dX8_kindOf_4 (by decide) ?_
  refine bw_iload_n C 1 dX8_kindOf_5 rfl rfl ?_
  refine bw_imul C dX8_kindOf_6 ?_
  refine bw_iald C lM2 sM2 dX8_kindOf_7 h (fun h => ?_)
  exact bw_iret C dX8_kindOf_8 h
theorem mt8_kindOf {l : Launch} {G : GX}   {x1 : Int32} {w : Mem} {z : Int32 × Mem} (h : fn8_kindOf  x1 w = some z) : MC l G shM 19 eM yX8_kindOf cX8_kindOf 2 (some .int) rm8_kindOf [.ref (gad G 0), .int x1] w z := by
  refine met_of (by decide +kernel) (eM_ok _) rfl (Nat.le_of_ble_eq_true rfl) (fun M hM C => ?_)
  subst hM
  exact bk8_kindOf C  x1 h
def rm8_lengthBy : Room := { frames := 1, cells := 0, slots := 0, locals := 21 }
def fn8_lengthBy_30 (x2 : Int32) (t0 : Int32) (w : Mem) : Option (Int32 × Mem) := (fn8_kindOf x2 w).bind (fun q32 => (if ¬ q32.1 = 3 then some ((t0 + 0), q32.2) else some ((t0 + 1), q32.2)))
set_option maxRecDepth 20000 in
theorem bk8_lengthBy_30 {M : MX} {G : GX} (C : BC M G shM 19 eM RX8 cX8_lengthBy 4 (some .int) rm8_lengthBy) {z : Int32 × Mem} (x2 : Int32) (t0 : Int32) {w : Mem} (h : fn8_lengthBy_30 x2 t0 w = some z) : BW M G shM 19 4 (ZR M G shM 19 (some .int) z) 30 [(0, .ref (gad G 0)), (2, .int x2)] [.int t0] w := by
  rw [fn8_lengthBy_30] at h
  refine bw_aload_n C 0 dX8_lengthBy_30 rfl rfl ?_
  refine bw_iload_n C 1 dX8_lengthBy_31 rfl rfl ?_
  refine bw_callVi C (As := [.int x2]) lM0 sM0 rfl miX8_kindOf mlX8_188 imX8_kindOf seX8_kindOf (by decide) rfl rfl (fun z1 h1 => mt8_kindOf h1) rfl (Nat.le_of_ble_eq_true rfl) rfl dX8_lengthBy_32 h (fun q32 _ h => ?_)
  refine bw_iconst C (v := 3) dX8_lengthBy_35 (by decide) ?_
  refine bw_icmp_ne C (tgt := 43) dX8_lengthBy_36 (by decide) h (fun h => ?_) (fun h => ?_)
  · refine bw_iconst C (v := 0) dX8_lengthBy_43 (by decide) ?_
    refine bw_iadd C dX8_lengthBy_44 ?_
    exact bw_iret C dX8_lengthBy_45 h
  · refine bw_iconst C (v := 1) dX8_lengthBy_39 (by decide) ?_
    refine bw_goto C (tgt := 44) dX8_lengthBy_40 (by decide) ?_
    refine bw_iadd C dX8_lengthBy_44 ?_
    exact bw_iret C dX8_lengthBy_45 h
def fn8_lengthBy  (x1 : Int32) (x2 : Int32) (w : Mem) : Option (Int32 × Mem) := (if ib (4 * x1) 228 = true then (if ib ((4 * x1) + 2) 228 = true then (if 1 ≤ ((w 1 (4 * x1).toNatClampNeg) - (w 1 ((4 * x1) + 2).toNatClampNeg)) then fn8_lengthBy_30 x2 ((w 1 (4 * x1).toNatClampNeg) - (w 1 ((4 * x1) + 2).toNatClampNeg)) w else fn8_lengthBy_30 x2 1 w) else none) else none)
set_option maxRecDepth 20000 in
theorem bk8_lengthBy {M : MX} {G : GX} (C : BC M G shM 19 eM RX8 cX8_lengthBy 4 (some .int) rm8_lengthBy) {z : Int32 × Mem}   (x1 : Int32) (x2 : Int32) {w : Mem} (h : fn8_lengthBy  x1 x2 w = some z) : BW M G shM 19 4 (ZR M G shM 19 (some .int) z) 0 [(0, .ref (gad G 0)), (1, .int x1), (2, .int x2)] [] w := by
  rw [fn8_lengthBy] at h
  refine bw_aload_n C 0 dX8_lengthBy_0 rfl rfl ?_
  refine bw_getr C (j := 0) (t := 1) lM0 sM0 rfl inlX8 (by decide) rfl flX8_7 dX8_lengthBy_1 ?_
  refine bw_iconst C (v := 4) dX8_lengthBy_4 (by decide) ?_
  refine bw_iload_n C 1 dX8_lengthBy_5 rfl rfl ?_
  refine bw_imul C dX8_lengthBy_6 ?_
  refine bw_iald C lM1 sM1 dX8_lengthBy_7 h (fun h => ?_)
  refine bw_aload_n C 0 dX8_lengthBy_8 rfl rfl ?_
  refine bw_getr C (j := 0) (t := 1) lM0 sM0 rfl inlX8 (by decide) rfl flX8_7 dX8_lengthBy_9 ?_
  refine bw_iconst C (v := 4) dX8_lengthBy_12 (by decide) ?_
  refine bw_iload_n C 1 dX8_lengthBy_13 rfl rfl ?_
  refine bw_imul C dX8_lengthBy_14 ?_
  refine bw_iconst C (v := 2) dX8_lengthBy_15 (by decide) ?_
  refine bw_iadd C dX8_lengthBy_16 ?_
  refine bw_iald C lM1 sM1 dX8_lengthBy_17 h (fun h => ?_)
  refine bw_isub C dX8_lengthBy_18 ?_
  refine bw_istore_n C [(3, .int ((w 1 (4 * x1).toNatClampNeg) - (w 1 ((4 * x1) + 2).toNatClampNeg))), (0, .ref (gad G 0)), (1, .int x1), (2, .int x2)] dX8_lengthBy_19 rfl (by decide) rfl ?_
  refine bw_iload_n C 0 dX8_lengthBy_20 rfl rfl ?_
  refine bw_iconst C (v := 1) dX8_lengthBy_21 (by decide) ?_
  refine bw_icmp_ge C (tgt := 29) dX8_lengthBy_22 (by decide) h (fun h => ?_) (fun h => ?_)
  · refine bw_iload_n C 0 dX8_lengthBy_29 rfl rfl ?_
    exact bw_sub [1, 3] rfl (bk8_lengthBy_30 C x2 ((w 1 (4 * x1).toNatClampNeg) - (w 1 ((4 * x1) + 2).toNatClampNeg)) h)
  · refine bw_iconst C (v := 1) dX8_lengthBy_25 (by decide) ?_
    refine bw_goto C (tgt := 30) dX8_lengthBy_26 (by decide) ?_
    exact bw_sub [1, 3] rfl (bk8_lengthBy_30 C x2 1 h)
theorem mt8_lengthBy {l : Launch} {G : GX}   {x1 : Int32} {x2 : Int32} {w : Mem} {z : Int32 × Mem} (h : fn8_lengthBy  x1 x2 w = some z) : MC l G shM 19 eM yX8_lengthBy cX8_lengthBy 4 (some .int) rm8_lengthBy [.ref (gad G 0), .int x1, .int x2] w z := by
  refine met_of (by decide +kernel) (eM_ok _) rfl (Nat.le_of_ble_eq_true rfl) (fun M hM C => ?_)
  subst hM
  exact bk8_lengthBy C  x1 x2 h
def rm8_ownerOf : Room := { frames := 0, cells := 0, slots := 0, locals := 0 }
def fn8_ownerOf  (x1 : Int32) (w : Mem) : Option (Int32 × Mem) := (if ib ((4 * x1) + 1) 228 = true then some ((w 1 ((4 * x1) + 1).toNatClampNeg), w) else none)
set_option maxRecDepth 20000 in
theorem bk8_ownerOf {M : MX} {G : GX} (C : BC M G shM 19 eM RX8 cX8_ownerOf 2 (some .int) rm8_ownerOf) {z : Int32 × Mem}   (x1 : Int32) {w : Mem} (h : fn8_ownerOf  x1 w = some z) : BW M G shM 19 2 (ZR M G shM 19 (some .int) z) 0 [(0, .ref (gad G 0)), (1, .int x1)] [] w := by
  rw [fn8_ownerOf] at h
  refine bw_aload_n C 0 dX8_ownerOf_0 rfl rfl ?_
  refine bw_getr C (j := 0) (t := 1) lM0 sM0 rfl inlX8 (by decide) rfl flX8_7 dX8_ownerOf_1 ?_
  refine bw_iconst C (v := 4) dX8_ownerOf_4 (by decide) ?_
  refine bw_iload_n C 1 dX8_ownerOf_5 rfl rfl ?_
  refine bw_imul C dX8_ownerOf_6 ?_
  refine bw_iconst C (v := 1) dX8_ownerOf_7 (by decide) ?_
  refine bw_iadd C dX8_ownerOf_8 ?_
  refine bw_iald C lM1 sM1 dX8_ownerOf_9 h (fun h => ?_)
  exact bw_iret C dX8_ownerOf_10 h
theorem mt8_ownerOf {l : Launch} {G : GX}   {x1 : Int32} {w : Mem} {z : Int32 × Mem} (h : fn8_ownerOf  x1 w = some z) : MC l G shM 19 eM yX8_ownerOf cX8_ownerOf 2 (some .int) rm8_ownerOf [.ref (gad G 0), .int x1] w z := by
  refine met_of (by decide +kernel) (eM_ok _) rfl (Nat.le_of_ble_eq_true rfl) (fun M hM C => ?_)
  subst hM
  exact bk8_ownerOf C  x1 h
def rm8_isSpent : Room := { frames := 0, cells := 0, slots := 0, locals := 0 }
def fn8_isSpent  (x1 : Int32) (w : Mem) : Option (Int32 × Mem) := (if ib ((4 * x1) + 3) 228 = true then (if (w 1 ((4 * x1) + 3).toNatClampNeg) ≤ 0 then some (0, w) else some (1, w)) else none)
set_option maxRecDepth 20000 in
theorem bk8_isSpent {M : MX} {G : GX} (C : BC M G shM 19 eM RX8 cX8_isSpent 2 (some .boolean) rm8_isSpent) {z : Int32 × Mem}   (x1 : Int32) {w : Mem} (h : fn8_isSpent  x1 w = some z) : BW M G shM 19 2 (ZR M G shM 19 (some .boolean) z) 0 [(0, .ref (gad G 0)), (1, .int x1)] [] w := by
  rw [fn8_isSpent] at h
  refine bw_aload_n C 0 dX8_isSpent_0 rfl rfl ?_
  refine bw_getr C (j := 0) (t := 1) lM0 sM0 rfl inlX8 (by decide) rfl flX8_7 dX8_isSpent_1 ?_
  refine bw_iconst C (v := 4) dX8_isSpent_4 (by decide) ?_
  refine bw_iload_n C 1 dX8_isSpent_5 rfl rfl ?_
  refine bw_imul C dX8_isSpent_6 ?_
  refine bw_iconst C (v := 3) dX8_isSpent_7 (by decide) ?_
  refine bw_iadd C dX8_isSpent_8 ?_
  refine bw_iald C lM1 sM1 dX8_isSpent_9 h (fun h => ?_)
  refine bw_if_le C (tgt := 17) dX8_isSpent_10 (by decide) h (fun h => ?_) (fun h => ?_)
  · refine bw_iconst C (v := 0) dX8_isSpent_17 (by decide) ?_
    exact bw_zretc C dX8_isSpent_18 rfl h
  · refine bw_iconst C (v := 1) dX8_isSpent_13 (by decide) ?_
    refine bw_goto C (tgt := 18) dX8_isSpent_14 (by decide) ?_
    exact bw_zretc C dX8_isSpent_18 rfl h
theorem mt8_isSpent {l : Launch} {G : GX}   {x1 : Int32} {w : Mem} {z : Int32 × Mem} (h : fn8_isSpent  x1 w = some z) : MC l G shM 19 eM yX8_isSpent cX8_isSpent 2 (some .boolean) rm8_isSpent [.ref (gad G 0), .int x1] w z := by
  refine met_of (by decide +kernel) (eM_ok _) rfl (Nat.le_of_ble_eq_true rfl) (fun M hM C => ?_)
  subst hM
  exact bk8_isSpent C  x1 h
def rm8_coin : Room := { frames := 2, cells := 0, slots := 0, locals := 46 }
def fn8_coin  (x1 : Int32) (x2 : Int32) (w : Mem) : Option (Int32 × Mem) := (fn8_isCoin x1 w).bind (fun q2 => (if q2.1 = 0 then some ((-1), q2.2) else (fn8_in ((x2 : Int32).toInt64) 0 4 q2.2).bind (fun q14 => (if ¬ q14.1 = 0 then (if ¬ x2 = 4 then (if ¬ x2 = 3 then (if ib ((4 * x1) + x2) 228 = true then some ((q14.2 1 ((4 * x1) + x2).toNatClampNeg), q14.2) else none) else (fn8_isSpent x1 q14.2).bind (fun q47 => (if q47.1 = 0 then some ((-4), q47.2) else (if ib ((4 * x1) + 3) 228 = true then some (((q47.2 1 ((4 * x1) + 3).toNatClampNeg) - 1), q47.2) else none)))) else (fn8_ownerOf x1 q14.2).bind (fun q31 => (fn8_lengthBy x1 q31.1 q31.2).bind (fun q34 => some (q34.1, q34.2)))) else some ((-1), q14.2)))))
set_option maxRecDepth 20000 in
theorem bk8_coin {M : MX} {G : GX} (C : BC M G shM 19 eM RX8 cX8_coin 3 (some .int) rm8_coin) {z : Int32 × Mem}   (x1 : Int32) (x2 : Int32) {w : Mem} (h : fn8_coin  x1 x2 w = some z) : BW M G shM 19 3 (ZR M G shM 19 (some .int) z) 0 [(0, .ref (gad G 0)), (1, .int x1), (2, .int x2)] [] w := by
  rw [fn8_coin] at h
  refine bw_aload_n C 0 dX8_coin_0 rfl rfl ?_
  refine bw_iload_n C 1 dX8_coin_1 rfl rfl ?_
  refine bw_callVi C (As := [.int x1]) lM0 sM0 rfl miX8_isCoin mlX8_191 imX8_isCoin seX8_isCoin (by decide) rfl rfl (fun z1 h1 => mt8_isCoin h1) rfl (Nat.le_of_ble_eq_true rfl) rfl dX8_coin_2 h (fun q2 _ h => ?_)
  refine bw_if_eq C (tgt := 20) dX8_coin_5 (by decide) h (fun h => ?_) (fun h => ?_)
  · refine bw_iconst C (v := (-1)) dX8_coin_20 (by decide) ?_
    exact bw_iret C dX8_coin_21 h
  · refine bw_iload_n C 2 dX8_coin_8 rfl rfl ?_
    refine bw_i2l C dX8_coin_9 rfl ?_
    refine bw_lconst C (v := 0) dX8_coin_10 (by decide) ?_
    refine bw_ldc2 C dX8_coin_11 clX8_194 ?_
    refine bw_callSi C (As := [.long ((x2 : Int32).toInt64), .long 0, .long 4]) miX8_in mlX8_69 smX8_in (by decide) rfl rfl (fun z1 h1 => mt8_in h1) rfl (Nat.le_of_ble_eq_true rfl) rfl dX8_coin_14 h (fun q14 _ h => ?_)
    refine bw_if_ne C (tgt := 22) dX8_coin_17 (by decide) h (fun h => ?_) (fun h => ?_)
    · refine bw_iload_n C 2 dX8_coin_22 rfl rfl ?_
      refine bw_iconst C (v := 4) dX8_coin_23 (by decide) ?_
      refine bw_icmp_ne C (tgt := 40) dX8_coin_24 (by decide) h (fun h => ?_) (fun h => ?_)
      · refine bw_iload_n C 2 dX8_coin_40 rfl rfl ?_
        refine bw_iconst C (v := 3) dX8_coin_41 (by decide) ?_
        refine bw_icmp_ne C (tgt := 73) dX8_coin_42 (by decide) h (fun h => ?_) (fun h => ?_)
        · refine bw_aload_n C 0 dX8_coin_73 rfl rfl ?_
          refine bw_getr C (j := 0) (t := 1) lM0 sM0 rfl inlX8 (by decide) rfl flX8_7 dX8_coin_74 ?_
          refine bw_iconst C (v := 4) dX8_coin_77 (by decide) ?_
          refine bw_iload_n C 1 dX8_coin_78 rfl rfl ?_
          refine bw_imul C dX8_coin_79 ?_
          refine bw_iload_n C 2 dX8_coin_80 rfl rfl ?_
          refine bw_iadd C dX8_coin_81 ?_
          refine bw_iald C lM1 sM1 dX8_coin_82 h (fun h => ?_)
          exact bw_iret C dX8_coin_83 h
        · refine bw_aload_n C 0 dX8_coin_45 rfl rfl ?_
          refine bw_iload_n C 1 dX8_coin_46 rfl rfl ?_
          refine bw_callVi C (As := [.int x1]) lM0 sM0 rfl miX8_isSpent mlX8_203 imX8_isSpent seX8_isSpent (by decide) rfl rfl (fun z1 h1 => mt8_isSpent h1) rfl (Nat.le_of_ble_eq_true rfl) rfl dX8_coin_47 h (fun q47 _ h => ?_)
          refine bw_if_eq C (tgt := 68) dX8_coin_50 (by decide) h (fun h => ?_) (fun h => ?_)
          · refine bw_bipush C (v := (-4)) dX8_coin_68 (by decide) ?_
            refine bw_goto C (tgt := 83) dX8_coin_70 (by decide) ?_
            exact bw_iret C dX8_coin_83 h
          · refine bw_aload_n C 0 dX8_coin_53 rfl rfl ?_
            refine bw_getr C (j := 0) (t := 1) lM0 sM0 rfl inlX8 (by decide) rfl flX8_7 dX8_coin_54 ?_
            refine bw_iconst C (v := 4) dX8_coin_57 (by decide) ?_
            refine bw_iload_n C 1 dX8_coin_58 rfl rfl ?_
            refine bw_imul C dX8_coin_59 ?_
            refine bw_iconst C (v := 3) dX8_coin_60 (by decide) ?_
            refine bw_iadd C dX8_coin_61 ?_
            refine bw_iald C lM1 sM1 dX8_coin_62 h (fun h => ?_)
            refine bw_iconst C (v := 1) dX8_coin_63 (by decide) ?_
            refine bw_isub C dX8_coin_64 ?_
            refine bw_goto C (tgt := 83) dX8_coin_65 (by decide) ?_
            exact bw_iret C dX8_coin_83 h
      · refine bw_aload_n C 0 dX8_coin_27 rfl rfl ?_
        refine bw_iload_n C 1 dX8_coin_28 rfl rfl ?_
        refine bw_aload_n C 0 dX8_coin_29 rfl rfl ?_
        refine bw_iload_n C 1 dX8_coin_30 rfl rfl ?_
        refine bw_callVi C (As := [.int x1]) lM0 sM0 rfl miX8_ownerOf mlX8_196 imX8_ownerOf seX8_ownerOf (by decide) rfl rfl (fun z1 h1 => mt8_ownerOf h1) rfl (Nat.le_of_ble_eq_true rfl) rfl dX8_coin_31 h (fun q31 _ h => ?_)
        refine bw_callVi C (As := [.int x1, .int q31.1]) lM0 sM0 rfl miX8_lengthBy mlX8_199 imX8_lengthBy seX8_lengthBy (by decide) rfl rfl (fun z1 h1 => mt8_lengthBy h1) rfl (Nat.le_of_ble_eq_true rfl) rfl dX8_coin_34 h (fun q34 _ h => ?_)
        refine bw_goto C (tgt := 83) dX8_coin_37 (by decide) ?_
        exact bw_iret C dX8_coin_83 h
    · refine bw_iconst C (v := (-1)) dX8_coin_20 (by decide) ?_
      exact bw_iret C dX8_coin_21 h
theorem mt8_coin {l : Launch} {G : GX}   {x1 : Int32} {x2 : Int32} {w : Mem} {z : Int32 × Mem} (h : fn8_coin  x1 x2 w = some z) : MC l G shM 19 eM yX8_coin cX8_coin 3 (some .int) rm8_coin [.ref (gad G 0), .int x1, .int x2] w z := by
  refine met_of (by decide +kernel) (eM_ok _) rfl (Nat.le_of_ble_eq_true rfl) (fun M hM C => ?_)
  subst hM
  exact bk8_coin C  x1 x2 h
def rm8_quietOf : Room := { frames := 2, cells := 0, slots := 0, locals := 44 }
def fn8_quietOf_4 (x1 : Int32) (k : Int32 → Int32 → Mem → Option (Int32 × Mem)) : Nat → Int32 → Int32 → Mem → Option (Int32 × Mem)
  | 0, _, _, _ => none
  | nn + 1, x2, x3, w => (if (w 0 3) ≤ x3 then k x2 x3 w else (fn8_isSpent x3 w).bind (fun q14 => (if q14.1 = 0 then fn8_quietOf_4 x1 k nn x2 (x3 + 1) q14.2 else (fn8_ownerOf x3 q14.2).bind (fun q22 => (if ¬ q22.1 = x1 then fn8_quietOf_4 x1 k nn x2 (x3 + 1) q22.2 else (fn8_lengthBy x3 x1 q22.2).bind (fun q34 => (if ib ((4 * x3) + 3) 228 = true then fn8_quietOf_4 x1 k nn (x2 ||| ((((1 : Int32) <<< (q34.1 &&& 31)) - 1) <<< (((q34.2 1 ((4 * x3) + 3).toNatClampNeg) - 1) &&& 31))) (x3 + 1) q34.2 else none)))))))
set_option maxRecDepth 20000 in
theorem bk8_quietOf_4 {M : MX} {G : GX} (C : BC M G shM 19 eM RX8 cX8_quietOf 4 (some .int) rm8_quietOf) {z : Int32 × Mem} (x1 : Int32) {k : Int32 → Int32 → Mem → Option (Int32 × Mem)} (hk : ∀ (x2 : Int32) (x3 : Int32) (w : Mem), k x2 x3 w = some z → BW M G shM 19 4 (ZR M G shM 19 (some .int) z) 61 [(2, .int x2)] [] w) : ∀ (nn : Nat) (x2 : Int32) (x3 : Int32) (w : Mem), fn8_quietOf_4 x1 k nn x2 x3 w = some z → BW M G shM 19 4 (ZR M G shM 19 (some .int) z) 4 [(0, .ref (gad G 0)), (1, .int x1), (2, .int x2), (3, .int x3)] [] w := by
  intro nn
  induction nn with
  | zero =>
    intro x2 x3 w h
    have h : (none : Option (Int32 × Mem)) = some z := h
    cases h
  | succ nn ih =>
    intro x2 x3 w h
    rw [fn8_quietOf_4] at h
    refine bw_iload_n C 3 dX8_quietOf_4 rfl rfl ?_
    refine bw_aload_n C 0 dX8_quietOf_5 rfl rfl ?_
    refine bw_geti C (j := 3) lM0 sM0 rfl inlX8 (by decide) rfl flX8_169 dX8_quietOf_6 ?_
    refine bw_icmp_ge C (tgt := 61) dX8_quietOf_9 (by decide) h (fun h => ?_) (fun h => ?_)
    · exact bw_sub [2] rfl (hk x2 x3 w h)
    · refine bw_aload_n C 0 dX8_quietOf_12 rfl rfl ?_
      refine bw_iload_n C 3 dX8_quietOf_13 rfl rfl ?_
      refine bw_callVi C (As := [.int x3]) lM0 sM0 rfl miX8_isSpent mlX8_203 imX8_isSpent seX8_isSpent (by decide) rfl rfl (fun z1 h1 => mt8_isSpent h1) rfl (Nat.le_of_ble_eq_true rfl) rfl dX8_quietOf_14 h (fun q14 _ h => ?_)
      refine bw_if_eq C (tgt := 55) dX8_quietOf_17 (by decide) h (fun h => ?_) (fun h => ?_)
      · refine bw_iinc C [(3, .int (x3 + 1)), (0, .ref (gad G 0)), (1, .int x1), (2, .int x2)] 3 dX8_quietOf_55 rfl rfl (by decide) rfl ?_
        refine bw_goto C (tgt := 4) dX8_quietOf_58 (by decide) ?_
        exact bw_sub [1, 2, 3, 0] rfl (ih x2 (x3 + 1) q14.2 h)
      · refine bw_aload_n C 0 dX8_quietOf_20 rfl rfl ?_
        refine bw_iload_n C 3 dX8_quietOf_21 rfl rfl ?_
        refine bw_callVi C (As := [.int x3]) lM0 sM0 rfl miX8_ownerOf mlX8_196 imX8_ownerOf seX8_ownerOf (by decide) rfl rfl (fun z1 h1 => mt8_ownerOf h1) rfl (Nat.le_of_ble_eq_true rfl) rfl dX8_quietOf_22 h (fun q22 _ h => ?_)
        refine bw_iload_n C 1 dX8_quietOf_25 rfl rfl ?_
        refine bw_icmp_ne C (tgt := 55) dX8_quietOf_26 (by decide) h (fun h => ?_) (fun h => ?_)
        · refine bw_iinc C [(3, .int (x3 + 1)), (0, .ref (gad G 0)), (1, .int x1), (2, .int x2)] 3 dX8_quietOf_55 rfl rfl (by decide) rfl ?_
          refine bw_goto C (tgt := 4) dX8_quietOf_58 (by decide) ?_
          exact bw_sub [1, 2, 3, 0] rfl (ih x2 (x3 + 1) q22.2 h)
        · refine bw_iload_n C 2 dX8_quietOf_29 rfl rfl ?_
          refine bw_iconst C (v := 1) dX8_quietOf_30 (by decide) ?_
          refine bw_aload_n C 0 dX8_quietOf_31 rfl rfl ?_
          refine bw_iload_n C 3 dX8_quietOf_32 rfl rfl ?_
          refine bw_iload_n C 1 dX8_quietOf_33 rfl rfl ?_
          refine bw_callVi C (As := [.int x3, .int x1]) lM0 sM0 rfl miX8_lengthBy mlX8_199 imX8_lengthBy seX8_lengthBy (by decide) rfl rfl (fun z1 h1 => mt8_lengthBy h1) rfl (Nat.le_of_ble_eq_true rfl) rfl dX8_quietOf_34 h (fun q34 _ h => ?_)
          refine bw_ishl C dX8_quietOf_37 ?_
          refine bw_iconst C (v := 1) dX8_quietOf_38 (by decide) ?_
          refine bw_isub C dX8_quietOf_39 ?_
          refine bw_aload_n C 0 dX8_quietOf_40 rfl rfl ?_
          refine bw_getr C (j := 0) (t := 1) lM0 sM0 rfl inlX8 (by decide) rfl flX8_7 dX8_quietOf_41 ?_
          refine bw_iconst C (v := 4) dX8_quietOf_44 (by decide) ?_
          refine bw_iload_n C 3 dX8_quietOf_45 rfl rfl ?_
          refine bw_imul C dX8_quietOf_46 ?_
          refine bw_iconst C (v := 3) dX8_quietOf_47 (by decide) ?_
          refine bw_iadd C dX8_quietOf_48 ?_
          refine bw_iald C lM1 sM1 dX8_quietOf_49 h (fun h => ?_)
          refine bw_iconst C (v := 1) dX8_quietOf_50 (by decide) ?_
          refine bw_isub C dX8_quietOf_51 ?_
          refine bw_ishl C dX8_quietOf_52 ?_
          refine bw_ior C dX8_quietOf_53 ?_
          refine bw_istore_n C [(2, .int (x2 ||| ((((1 : Int32) <<< (q34.1 &&& 31)) - 1) <<< (((q34.2 1 ((4 * x3) + 3).toNatClampNeg) - 1) &&& 31)))), (0, .ref (gad G 0)), (1, .int x1), (3, .int x3)] dX8_quietOf_54 rfl (by decide) rfl ?_
          refine bw_iinc C [(3, .int (x3 + 1)), (2, .int (x2 ||| ((((1 : Int32) <<< (q34.1 &&& 31)) - 1) <<< (((q34.2 1 ((4 * x3) + 3).toNatClampNeg) - 1) &&& 31)))), (0, .ref (gad G 0)), (1, .int x1)] 3 dX8_quietOf_55 rfl rfl (by decide) rfl ?_
          refine bw_goto C (tgt := 4) dX8_quietOf_58 (by decide) ?_
          exact bw_sub [2, 3, 1, 0] rfl (ih (x2 ||| ((((1 : Int32) <<< (q34.1 &&& 31)) - 1) <<< (((q34.2 1 ((4 * x3) + 3).toNatClampNeg) - 1) &&& 31))) (x3 + 1) q34.2 h)
def fn8_quietOf  (x1 : Int32) (w : Mem) : Option (Int32 × Mem) := fn8_quietOf_4 x1 (fun x2_4 x3_4 w_4 => some ((x2_4 &&& 4095), w_4)) 1000 0 0 w
set_option maxRecDepth 20000 in
theorem bk8_quietOf {M : MX} {G : GX} (C : BC M G shM 19 eM RX8 cX8_quietOf 4 (some .int) rm8_quietOf) {z : Int32 × Mem}   (x1 : Int32) {w : Mem} (h : fn8_quietOf  x1 w = some z) : BW M G shM 19 4 (ZR M G shM 19 (some .int) z) 0 [(0, .ref (gad G 0)), (1, .int x1)] [] w := by
  rw [fn8_quietOf] at h
  refine bw_iconst C (v := 0) dX8_quietOf_0 (by decide) ?_
  refine bw_istore_n C [(2, .int 0), (0, .ref (gad G 0)), (1, .int x1)] dX8_quietOf_1 rfl (by decide) rfl ?_
  refine bw_iconst C (v := 0) dX8_quietOf_2 (by decide) ?_
  refine bw_istore_n C [(3, .int 0), (2, .int 0), (0, .ref (gad G 0)), (1, .int x1)] dX8_quietOf_3 rfl (by decide) rfl ?_
  refine bw_sub [2, 3, 1, 0] rfl (bk8_quietOf_4 C x1 (fun x2_4 x3_4 w_4 h => ?_) 1000 0 0 w h)
  refine bw_iload_n C 0 dX8_quietOf_61 rfl rfl ?_
  refine bw_sipush C (v := 4095) dX8_quietOf_62 (by decide) ?_
  refine bw_iand C dX8_quietOf_65 ?_
  exact bw_iret C dX8_quietOf_66 h
theorem mt8_quietOf {l : Launch} {G : GX}   {x1 : Int32} {w : Mem} {z : Int32 × Mem} (h : fn8_quietOf  x1 w = some z) : MC l G shM 19 eM yX8_quietOf cX8_quietOf 4 (some .int) rm8_quietOf [.ref (gad G 0), .int x1] w z := by
  refine met_of (by decide +kernel) (eM_ok _) rfl (Nat.le_of_ble_eq_true rfl) (fun M hM C => ?_)
  subst hM
  exact bk8_quietOf C  x1 h
def rm8_isSilent : Room := { frames := 3, cells := 0, slots := 0, locals := 67 }
def fn8_isSilent  (x1 : Int32) (x2 : Int32) (w : Mem) : Option (Int32 × Mem) := (fn8_quietOf x1 w).bind (fun q2 => (if ¬ ((q2.1 >>> (x2 &&& 31)) &&& 1) = 1 then some (0, q2.2) else some (1, q2.2)))
set_option maxRecDepth 20000 in
theorem bk8_isSilent {M : MX} {G : GX} (C : BC M G shM 19 eM RX8 cX8_isSilent 3 (some .boolean) rm8_isSilent) {z : Int32 × Mem}   (x1 : Int32) (x2 : Int32) {w : Mem} (h : fn8_isSilent  x1 x2 w = some z) : BW M G shM 19 3 (ZR M G shM 19 (some .boolean) z) 0 [(0, .ref (gad G 0)), (1, .int x1), (2, .int x2)] [] w := by
  rw [fn8_isSilent] at h
  refine bw_aload_n C 0 dX8_isSilent_0 rfl rfl ?_
  refine bw_iload_n C 1 dX8_isSilent_1 rfl rfl ?_
  refine bw_callVi C (As := [.int x1]) lM0 sM0 rfl miX8_quietOf mlX8_206 imX8_quietOf seX8_quietOf (by decide) rfl rfl (fun z1 h1 => mt8_quietOf h1) rfl (Nat.le_of_ble_eq_true rfl) rfl dX8_isSilent_2 h (fun q2 _ h => ?_)
  refine bw_iload_n C 2 dX8_isSilent_5 rfl rfl ?_
  refine bw_ishr C dX8_isSilent_6 ?_
  refine bw_iconst C (v := 1) dX8_isSilent_7 (by decide) ?_
  refine bw_iand C dX8_isSilent_8 ?_
  refine bw_iconst C (v := 1) dX8_isSilent_9 (by decide) ?_
  refine bw_icmp_ne C (tgt := 17) dX8_isSilent_10 (by decide) h (fun h => ?_) (fun h => ?_)
  · refine bw_iconst C (v := 0) dX8_isSilent_17 (by decide) ?_
    exact bw_zretc C dX8_isSilent_18 rfl h
  · refine bw_iconst C (v := 1) dX8_isSilent_13 (by decide) ?_
    refine bw_goto C (tgt := 18) dX8_isSilent_14 (by decide) ?_
    exact bw_zretc C dX8_isSilent_18 rfl h
theorem mt8_isSilent {l : Launch} {G : GX}   {x1 : Int32} {x2 : Int32} {w : Mem} {z : Int32 × Mem} (h : fn8_isSilent  x1 x2 w = some z) : MC l G shM 19 eM yX8_isSilent cX8_isSilent 3 (some .boolean) rm8_isSilent [.ref (gad G 0), .int x1, .int x2] w z := by
  refine met_of (by decide +kernel) (eM_ok _) rfl (Nat.le_of_ble_eq_true rfl) (fun M hM C => ?_)
  subst hM
  exact bk8_isSilent C  x1 x2 h
def rm8_isSaid : Room := { frames := 4, cells := 0, slots := 0, locals := 89 }
def fn8_isSaid_71 (w : Mem) : Option (Int32 × Mem) := some (1, w)
set_option maxRecDepth 20000 in
theorem bk8_isSaid_71 {M : MX} {G : GX} (C : BC M G shM 19 eM RX8 cX8_isSaid 6 (some .boolean) rm8_isSaid) {z : Int32 × Mem} {w : Mem} (h : fn8_isSaid_71 w = some z) : BW M G shM 19 6 (ZR M G shM 19 (some .boolean) z) 71 [] [] w := by
  rw [fn8_isSaid_71] at h
  refine bw_iconst C (v := 1) dX8_isSaid_71 (by decide) ?_
  refine bw_goto C (tgt := 94) dX8_isSaid_72 (by decide) ?_
  exact bw_zretc C dX8_isSaid_94 rfl h
def fn8_isSaid  (x1 : Int32) (x2 : Int32) (x3 : Int32) (w : Mem) : Option (Int32 × Mem) := (fn8_kindOf x2 w).bind (fun q2 => (if ¬ q2.1 = 4 then (fn8_isSilent x2 x1 q2.2).bind (fun q14 => (fn8_isSilent x3 x1 q14.2).bind (fun q22 => (if ib 55 228 = true then (if ¬ (q22.2 1 (55 : Int32).toNatClampNeg) = 0 then (if ib 55 228 = true then (if ¬ (q22.2 1 (55 : Int32).toNatClampNeg) = 1 then (if ¬ q22.1 = 0 then some (0, q22.2) else (if ¬ q14.1 = 0 then some (0, q22.2) else some (1, q22.2))) else (if q22.1 = 0 then fn8_isSaid_71 q22.2 else (if q14.1 = 0 then some (0, q22.2) else fn8_isSaid_71 q22.2))) else none) else (if ¬ q22.1 = 0 then some (0, q22.2) else some (1, q22.2))) else none))) else some (1, q2.2)))
set_option maxRecDepth 20000 in
theorem bk8_isSaid {M : MX} {G : GX} (C : BC M G shM 19 eM RX8 cX8_isSaid 6 (some .boolean) rm8_isSaid) {z : Int32 × Mem}   (x1 : Int32) (x2 : Int32) (x3 : Int32) {w : Mem} (h : fn8_isSaid  x1 x2 x3 w = some z) : BW M G shM 19 6 (ZR M G shM 19 (some .boolean) z) 0 [(0, .ref (gad G 0)), (1, .int x1), (2, .int x2), (3, .int x3)] [] w := by
  rw [fn8_isSaid] at h
  refine bw_aload_n C 0 dX8_isSaid_0 rfl rfl ?_
  refine bw_iload_n C 2 dX8_isSaid_1 rfl rfl ?_
  refine bw_callVi C (As := [.int x2]) lM0 sM0 rfl miX8_kindOf mlX8_188 imX8_kindOf seX8_kindOf (by decide) rfl rfl (fun z1 h1 => mt8_kindOf h1) rfl (Nat.le_of_ble_eq_true rfl) rfl dX8_isSaid_2 h (fun q2 _ h => ?_)
  refine bw_iconst C (v := 4) dX8_isSaid_5 (by decide) ?_
  refine bw_icmp_ne C (tgt := 11) dX8_isSaid_6 (by decide) h (fun h => ?_) (fun h => ?_)
  · refine bw_aload_n C 0 dX8_isSaid_11 rfl rfl ?_
    refine bw_iload_n C 2 dX8_isSaid_12 rfl rfl ?_
    refine bw_iload_n C 1 dX8_isSaid_13 rfl rfl ?_
    refine bw_callVi C (As := [.int x2, .int x1]) lM0 sM0 rfl miX8_isSilent mlX8_209 imX8_isSilent seX8_isSilent (by decide) rfl rfl (fun z1 h1 => mt8_isSilent h1) rfl (Nat.le_of_ble_eq_true rfl) rfl dX8_isSaid_14 h (fun q14 _ h => ?_)
    refine bw_istore C [(4, .int q14.1), (0, .ref (gad G 0)), (1, .int x1), (2, .int x2), (3, .int x3)] dX8_isSaid_17 (by decide) rfl ?_
    refine bw_aload_n C 1 dX8_isSaid_19 rfl rfl ?_
    refine bw_iload_n C 4 dX8_isSaid_20 rfl rfl ?_
    refine bw_iload_n C 2 dX8_isSaid_21 rfl rfl ?_
    refine bw_callVi C (As := [.int x3, .int x1]) lM0 sM0 rfl miX8_isSilent mlX8_209 imX8_isSilent seX8_isSilent (by decide) rfl rfl (fun z1 h1 => mt8_isSilent h1) rfl (Nat.le_of_ble_eq_true rfl) rfl dX8_isSaid_22 h (fun q22 _ h => ?_)
    refine bw_istore C [(5, .int q22.1), (4, .int q14.1), (0, .ref (gad G 0)), (1, .int x1), (2, .int x2), (3, .int x3)] dX8_isSaid_25 (by decide) rfl ?_
    refine bw_aload_n C 2 dX8_isSaid_27 rfl rfl ?_
    refine bw_getr C (j := 0) (t := 1) lM0 sM0 rfl inlX8 (by decide) rfl flX8_7 dX8_isSaid_28 ?_
    refine bw_bipush C (v := 55) dX8_isSaid_31 (by decide) ?_
    refine bw_iald C lM1 sM1 dX8_isSaid_33 h (fun h => ?_)
    refine bw_if_ne C (tgt := 50) dX8_isSaid_34 (by decide) h (fun h => ?_) (fun h => ?_)
    · refine bw_aload_n C 2 dX8_isSaid_50 rfl rfl ?_
      refine bw_getr C (j := 0) (t := 1) lM0 sM0 rfl inlX8 (by decide) rfl flX8_7 dX8_isSaid_51 ?_
      refine bw_bipush C (v := 55) dX8_isSaid_54 (by decide) ?_
      refine bw_iald C lM1 sM1 dX8_isSaid_56 h (fun h => ?_)
      refine bw_iconst C (v := 1) dX8_isSaid_57 (by decide) ?_
      refine bw_icmp_ne C (tgt := 79) dX8_isSaid_58 (by decide) h (fun h => ?_) (fun h => ?_)
      · refine bw_iload C 0 dX8_isSaid_79 rfl ?_
        refine bw_if_ne C (tgt := 93) dX8_isSaid_81 (by decide) h (fun h => ?_) (fun h => ?_)
        · refine bw_iconst C (v := 0) dX8_isSaid_93 (by decide) ?_
          exact bw_zretc C dX8_isSaid_94 rfl h
        · refine bw_iload C 1 dX8_isSaid_84 rfl ?_
          refine bw_if_ne C (tgt := 93) dX8_isSaid_86 (by decide) h (fun h => ?_) (fun h => ?_)
          · refine bw_iconst C (v := 0) dX8_isSaid_93 (by decide) ?_
            exact bw_zretc C dX8_isSaid_94 rfl h
          · refine bw_iconst C (v := 1) dX8_isSaid_89 (by decide) ?_
            refine bw_goto C (tgt := 94) dX8_isSaid_90 (by decide) ?_
            exact bw_zretc C dX8_isSaid_94 rfl h
      · refine bw_iload C 0 dX8_isSaid_61 rfl ?_
        refine bw_if_eq C (tgt := 71) dX8_isSaid_63 (by decide) h (fun h => ?_) (fun h => ?_)
        · exact bw_sub [] rfl (bk8_isSaid_71 C h)
        · refine bw_iload C 1 dX8_isSaid_66 rfl ?_
          refine bw_if_eq C (tgt := 75) dX8_isSaid_68 (by decide) h (fun h => ?_) (fun h => ?_)
          · refine bw_iconst C (v := 0) dX8_isSaid_75 (by decide) ?_
            refine bw_goto C (tgt := 94) dX8_isSaid_76 (by decide) ?_
            exact bw_zretc C dX8_isSaid_94 rfl h
          · exact bw_sub [] rfl (bk8_isSaid_71 C h)
    · refine bw_iload C 0 dX8_isSaid_37 rfl ?_
      refine bw_if_ne C (tgt := 46) dX8_isSaid_39 (by decide) h (fun h => ?_) (fun h => ?_)
      · refine bw_iconst C (v := 0) dX8_isSaid_46 (by decide) ?_
        refine bw_goto C (tgt := 94) dX8_isSaid_47 (by decide) ?_
        exact bw_zretc C dX8_isSaid_94 rfl h
      · refine bw_iconst C (v := 1) dX8_isSaid_42 (by decide) ?_
        refine bw_goto C (tgt := 94) dX8_isSaid_43 (by decide) ?_
        exact bw_zretc C dX8_isSaid_94 rfl h
  · refine bw_iconst C (v := 1) dX8_isSaid_9 (by decide) ?_
    exact bw_zretc C dX8_isSaid_10 rfl h
theorem mt8_isSaid {l : Launch} {G : GX}   {x1 : Int32} {x2 : Int32} {x3 : Int32} {w : Mem} {z : Int32 × Mem} (h : fn8_isSaid  x1 x2 x3 w = some z) : MC l G shM 19 eM yX8_isSaid cX8_isSaid 6 (some .boolean) rm8_isSaid [.ref (gad G 0), .int x1, .int x2, .int x3] w z := by
  refine met_of (by decide +kernel) (eM_ok _) rfl (Nat.le_of_ble_eq_true rfl) (fun M hM C => ?_)
  subst hM
  exact bk8_isSaid C  x1 x2 x3 h
def rm8_isTalkSaid : Room := { frames := 5, cells := 0, slots := 0, locals := 114 }
def fn8_isTalkSaid  (x1 : Int32) (w : Mem) : Option (Int32 × Mem) := (if ib (24 + (3 * x1)) 228 = true then (if ib ((24 + (3 * x1)) + 1) 228 = true then (if ib ((24 + (3 * x1)) + 2) 228 = true then (fn8_isSaid (w 1 (24 + (3 * x1)).toNatClampNeg) (w 1 ((24 + (3 * x1)) + 1).toNatClampNeg) (w 1 ((24 + (3 * x1)) + 2).toNatClampNeg) w).bind (fun q30 => (if isb q30.1 = true then some (q30.1, q30.2) else none)) else none) else none) else none)
set_option maxRecDepth 20000 in
theorem bk8_isTalkSaid {M : MX} {G : GX} (C : BC M G shM 19 eM RX8 cX8_isTalkSaid 3 (some .boolean) rm8_isTalkSaid) {z : Int32 × Mem}   (x1 : Int32) {w : Mem} (h : fn8_isTalkSaid  x1 w = some z) : BW M G shM 19 3 (ZR M G shM 19 (some .boolean) z) 0 [(0, .ref (gad G 0)), (1, .int x1)] [] w := by
  rw [fn8_isTalkSaid] at h
  refine bw_bipush C (v := 24) dX8_isTalkSaid_0 (by decide) ?_
  refine bw_iconst C (v := 3) dX8_isTalkSaid_2 (by decide) ?_
  refine bw_iload_n C 1 dX8_isTalkSaid_3 rfl rfl ?_
  refine bw_imul C dX8_isTalkSaid_4 ?_
  refine bw_iadd C dX8_isTalkSaid_5 ?_
  refine bw_istore_n C [(2, .int (24 + (3 * x1))), (0, .ref (gad G 0)), (1, .int x1)] dX8_isTalkSaid_6 rfl (by decide) rfl ?_
  refine bw_aload_n C 1 dX8_isTalkSaid_7 rfl rfl ?_
  refine bw_aload_n C 1 dX8_isTalkSaid_8 rfl rfl ?_
  refine bw_getr C (j := 0) (t := 1) lM0 sM0 rfl inlX8 (by decide) rfl flX8_7 dX8_isTalkSaid_9 ?_
  refine bw_iload_n C 0 dX8_isTalkSaid_12 rfl rfl ?_
  refine bw_iald C lM1 sM1 dX8_isTalkSaid_13 h (fun h => ?_)
  refine bw_aload_n C 1 dX8_isTalkSaid_14 rfl rfl ?_
  refine bw_getr C (j := 0) (t := 1) lM0 sM0 rfl inlX8 (by decide) rfl flX8_7 dX8_isTalkSaid_15 ?_
  refine bw_iload_n C 0 dX8_isTalkSaid_18 rfl rfl ?_
  refine bw_iconst C (v := 1) dX8_isTalkSaid_19 (by decide) ?_
  refine bw_iadd C dX8_isTalkSaid_20 ?_
  refine bw_iald C lM1 sM1 dX8_isTalkSaid_21 h (fun h => ?_)
  refine bw_aload_n C 1 dX8_isTalkSaid_22 rfl rfl ?_
  refine bw_getr C (j := 0) (t := 1) lM0 sM0 rfl inlX8 (by decide) rfl flX8_7 dX8_isTalkSaid_23 ?_
  refine bw_iload_n C 0 dX8_isTalkSaid_26 rfl rfl ?_
  refine bw_iconst C (v := 2) dX8_isTalkSaid_27 (by decide) ?_
  refine bw_iadd C dX8_isTalkSaid_28 ?_
  refine bw_iald C lM1 sM1 dX8_isTalkSaid_29 h (fun h => ?_)
  refine bw_callVi C (As := [.int (w 1 (24 + (3 * x1)).toNatClampNeg), .int (w 1 ((24 + (3 * x1)) + 1).toNatClampNeg), .int (w 1 ((24 + (3 * x1)) + 2).toNatClampNeg)]) lM0 sM0 rfl miX8_isSaid mlX8_213 imX8_isSaid seX8_isSaid (by decide) rfl rfl (fun z1 h1 => mt8_isSaid h1) rfl (Nat.le_of_ble_eq_true rfl) rfl dX8_isTalkSaid_30 h (fun q30 _ h => ?_)
  exact bw_zret C dX8_isTalkSaid_33 h
theorem mt8_isTalkSaid {l : Launch} {G : GX}   {x1 : Int32} {w : Mem} {z : Int32 × Mem} (h : fn8_isTalkSaid  x1 w = some z) : MC l G shM 19 eM yX8_isTalkSaid cX8_isTalkSaid 3 (some .boolean) rm8_isTalkSaid [.ref (gad G 0), .int x1] w z := by
  refine met_of (by decide +kernel) (eM_ok _) rfl (Nat.le_of_ble_eq_true rfl) (fun M hM C => ?_)
  subst hM
  exact bk8_isTalkSaid C  x1 h
def rm8_talk : Room := { frames := 6, cells := 0, slots := 0, locals := 136 }
def fn8_talk  (x1 : Int32) (x2 : Int32) (w : Mem) : Option (Int32 × Mem) := (if ib 54 228 = true then (fn8_in ((x1 : Int32).toInt64) 0 ((((w 1 (54 : Int32).toNatClampNeg) - 1) : Int32).toInt64) w).bind (fun q13 => (if q13.1 = 0 then some ((-1), q13.2) else (fn8_in ((x2 : Int32).toInt64) 0 3 q13.2).bind (fun q25 => (if ¬ q25.1 = 0 then (if ¬ x2 = 3 then (if ib ((24 + (3 * x1)) + x2) 228 = true then some ((q25.2 1 ((24 + (3 * x1)) + x2).toNatClampNeg), q25.2) else none) else (fn8_isTalkSaid x1 q25.2).bind (fun q40 => (if q40.1 = 0 then some (0, q40.2) else some (1, q40.2)))) else some ((-1), q25.2))))) else none)
set_option maxRecDepth 20000 in
theorem bk8_talk {M : MX} {G : GX} (C : BC M G shM 19 eM RX8 cX8_talk 3 (some .int) rm8_talk) {z : Int32 × Mem}   (x1 : Int32) (x2 : Int32) {w : Mem} (h : fn8_talk  x1 x2 w = some z) : BW M G shM 19 3 (ZR M G shM 19 (some .int) z) 0 [(0, .ref (gad G 0)), (1, .int x1), (2, .int x2)] [] w := by
  rw [fn8_talk] at h
  refine bw_iload_n C 1 dX8_talk_0 rfl rfl ?_
  refine bw_i2l C dX8_talk_1 rfl ?_
  refine bw_lconst C (v := 0) dX8_talk_2 (by decide) ?_
  refine bw_aload_n C 0 dX8_talk_3 rfl rfl ?_
  refine bw_getr C (j := 0) (t := 1) lM0 sM0 rfl inlX8 (by decide) rfl flX8_7 dX8_talk_4 ?_
  refine bw_bipush C (v := 54) dX8_talk_7 (by decide) ?_
  refine bw_iald C lM1 sM1 dX8_talk_9 h (fun h => ?_)
  refine bw_iconst C (v := 1) dX8_talk_10 (by decide) ?_
  refine bw_isub C dX8_talk_11 ?_
  refine bw_i2l C dX8_talk_12 rfl ?_
  refine bw_callSi C (As := [.long ((x1 : Int32).toInt64), .long 0, .long ((((w 1 (54 : Int32).toNatClampNeg) - 1) : Int32).toInt64)]) miX8_in mlX8_69 smX8_in (by decide) rfl rfl (fun z1 h1 => mt8_in h1) rfl (Nat.le_of_ble_eq_true rfl) rfl dX8_talk_13 h (fun q13 _ h => ?_)
  refine bw_if_eq C (tgt := 31) dX8_talk_16 (by decide) h (fun h => ?_) (fun h => ?_)
  · refine bw_iconst C (v := (-1)) dX8_talk_31 (by decide) ?_
    exact bw_iret C dX8_talk_32 h
  · refine bw_iload_n C 2 dX8_talk_19 rfl rfl ?_
    refine bw_i2l C dX8_talk_20 rfl ?_
    refine bw_lconst C (v := 0) dX8_talk_21 (by decide) ?_
    refine bw_ldc2 C dX8_talk_22 clX8_217 ?_
    refine bw_callSi C (As := [.long ((x2 : Int32).toInt64), .long 0, .long 3]) miX8_in mlX8_69 smX8_in (by decide) rfl rfl (fun z1 h1 => mt8_in h1) rfl (Nat.le_of_ble_eq_true rfl) rfl dX8_talk_25 h (fun q25 _ h => ?_)
    refine bw_if_ne C (tgt := 33) dX8_talk_28 (by decide) h (fun h => ?_) (fun h => ?_)
    · refine bw_iload_n C 2 dX8_talk_33 rfl rfl ?_
      refine bw_iconst C (v := 3) dX8_talk_34 (by decide) ?_
      refine bw_icmp_ne C (tgt := 54) dX8_talk_35 (by decide) h (fun h => ?_) (fun h => ?_)
      · refine bw_aload_n C 0 dX8_talk_54 rfl rfl ?_
        refine bw_getr C (j := 0) (t := 1) lM0 sM0 rfl inlX8 (by decide) rfl flX8_7 dX8_talk_55 ?_
        refine bw_bipush C (v := 24) dX8_talk_58 (by decide) ?_
        refine bw_iconst C (v := 3) dX8_talk_60 (by decide) ?_
        refine bw_iload_n C 1 dX8_talk_61 rfl rfl ?_
        refine bw_imul C dX8_talk_62 ?_
        refine bw_iadd C dX8_talk_63 ?_
        refine bw_iload_n C 2 dX8_talk_64 rfl rfl ?_
        refine bw_iadd C dX8_talk_65 ?_
        refine bw_iald C lM1 sM1 dX8_talk_66 h (fun h => ?_)
        exact bw_iret C dX8_talk_67 h
      · refine bw_aload_n C 0 dX8_talk_38 rfl rfl ?_
        refine bw_iload_n C 1 dX8_talk_39 rfl rfl ?_
        refine bw_callVi C (As := [.int x1]) lM0 sM0 rfl miX8_isTalkSaid mlX8_219 imX8_isTalkSaid seX8_isTalkSaid (by decide) rfl rfl (fun z1 h1 => mt8_isTalkSaid h1) rfl (Nat.le_of_ble_eq_true rfl) rfl dX8_talk_40 h (fun q40 _ h => ?_)
        refine bw_if_eq C (tgt := 50) dX8_talk_43 (by decide) h (fun h => ?_) (fun h => ?_)
        · refine bw_iconst C (v := 0) dX8_talk_50 (by decide) ?_
          refine bw_goto C (tgt := 67) dX8_talk_51 (by decide) ?_
          exact bw_iret C dX8_talk_67 h
        · refine bw_iconst C (v := 1) dX8_talk_46 (by decide) ?_
          refine bw_goto C (tgt := 67) dX8_talk_47 (by decide) ?_
          exact bw_iret C dX8_talk_67 h
    · refine bw_iconst C (v := (-1)) dX8_talk_31 (by decide) ?_
      exact bw_iret C dX8_talk_32 h
theorem mt8_talk {l : Launch} {G : GX}   {x1 : Int32} {x2 : Int32} {w : Mem} {z : Int32 × Mem} (h : fn8_talk  x1 x2 w = some z) : MC l G shM 19 eM yX8_talk cX8_talk 3 (some .int) rm8_talk [.ref (gad G 0), .int x1, .int x2] w z := by
  refine met_of (by decide +kernel) (eM_ok _) rfl (Nat.le_of_ble_eq_true rfl) (fun M hM C => ?_)
  subst hM
  exact bk8_talk C  x1 x2 h
def rm8_silent : Room := { frames := 4, cells := 0, slots := 0, locals := 89 }
def fn8_silent_13 (x1 : Int32) (k : Int32 → Int32 → Mem → Option (Int32 × Mem)) : Nat → Int32 → Int32 → Mem → Option (Int32 × Mem)
  | 0, _, _, _ => none
  | nn + 1, x2, x3, w => (if (w 0 2) ≤ x3 then k x2 x3 w else (fn8_isSilent x3 x1 w).bind (fun q25 => (if q25.1 = 0 then fn8_silent_13 x1 k nn (x2 ||| 0) (x3 + 1) q25.2 else fn8_silent_13 x1 k nn (x2 ||| ((1 : Int32) <<< (x3 &&& 31))) (x3 + 1) q25.2)))
set_option maxRecDepth 20000 in
theorem bk8_silent_13 {M : MX} {G : GX} (C : BC M G shM 19 eM RX8 cX8_silent 4 (some .int) rm8_silent) {z : Int32 × Mem} (x1 : Int32) {k : Int32 → Int32 → Mem → Option (Int32 × Mem)} (hk : ∀ (x2 : Int32) (x3 : Int32) (w : Mem), k x2 x3 w = some z → BW M G shM 19 4 (ZR M G shM 19 (some .int) z) 46 [(2, .int x2)] [] w) : ∀ (nn : Nat) (x2 : Int32) (x3 : Int32) (w : Mem), fn8_silent_13 x1 k nn x2 x3 w = some z → BW M G shM 19 4 (ZR M G shM 19 (some .int) z) 13 [(0, .ref (gad G 0)), (1, .int x1), (2, .int x2), (3, .int x3)] [] w := by
  intro nn
  induction nn with
  | zero =>
    intro x2 x3 w h
    have h : (none : Option (Int32 × Mem)) = some z := h
    cases h
  | succ nn ih =>
    intro x2 x3 w h
    rw [fn8_silent_13] at h
    refine bw_iload_n C 3 dX8_silent_13 rfl rfl ?_
    refine bw_aload_n C 0 dX8_silent_14 rfl rfl ?_
    refine bw_geti C (j := 2) lM0 sM0 rfl inlX8 (by decide) rfl flX8_166 dX8_silent_15 ?_
    refine bw_icmp_ge C (tgt := 46) dX8_silent_18 (by decide) h (fun h => ?_) (fun h => ?_)
    · exact bw_sub [2] rfl (hk x2 x3 w h)
    · refine bw_iload_n C 2 dX8_silent_21 rfl rfl ?_
      refine bw_aload_n C 0 dX8_silent_22 rfl rfl ?_
      refine bw_iload_n C 3 dX8_silent_23 rfl rfl ?_
      refine bw_iload_n C 1 dX8_silent_24 rfl rfl ?_
      refine bw_callVi C (As := [.int x3, .int x1]) lM0 sM0 rfl miX8_isSilent mlX8_209 imX8_isSilent seX8_isSilent (by decide) rfl rfl (fun z1 h1 => mt8_isSilent h1) rfl (Nat.le_of_ble_eq_true rfl) rfl dX8_silent_25 h (fun q25 _ h => ?_)
      refine bw_if_eq C (tgt := 37) dX8_silent_28 (by decide) h (fun h => ?_) (fun h => ?_)
      · refine bw_iconst C (v := 0) dX8_silent_37 (by decide) ?_
        refine bw_ior C dX8_silent_38 ?_
        refine bw_istore_n C [(2, .int (x2 ||| 0)), (0, .ref (gad G 0)), (1, .int x1), (3, .int x3)] dX8_silent_39 rfl (by decide) rfl ?_
        refine bw_iinc C [(3, .int (x3 + 1)), (2, .int (x2 ||| 0)), (0, .ref (gad G 0)), (1, .int x1)] 3 dX8_silent_40 rfl rfl (by decide) rfl ?_
        refine bw_goto C (tgt := 13) dX8_silent_43 (by decide) ?_
        exact bw_sub [2, 3, 1, 0] rfl (ih (x2 ||| 0) (x3 + 1) q25.2 h)
      · refine bw_iconst C (v := 1) dX8_silent_31 (by decide) ?_
        refine bw_iload_n C 3 dX8_silent_32 rfl rfl ?_
        refine bw_ishl C dX8_silent_33 ?_
        refine bw_goto C (tgt := 38) dX8_silent_34 (by decide) ?_
        refine bw_ior C dX8_silent_38 ?_
        refine bw_istore_n C [(2, .int (x2 ||| ((1 : Int32) <<< (x3 &&& 31)))), (0, .ref (gad G 0)), (1, .int x1), (3, .int x3)] dX8_silent_39 rfl (by decide) rfl ?_
        refine bw_iinc C [(3, .int (x3 + 1)), (2, .int (x2 ||| ((1 : Int32) <<< (x3 &&& 31)))), (0, .ref (gad G 0)), (1, .int x1)] 3 dX8_silent_40 rfl rfl (by decide) rfl ?_
        refine bw_goto C (tgt := 13) dX8_silent_43 (by decide) ?_
        exact bw_sub [2, 3, 1, 0] rfl (ih (x2 ||| ((1 : Int32) <<< (x3 &&& 31))) (x3 + 1) q25.2 h)
def fn8_silent  (x1 : Int32) (w : Mem) : Option (Int32 × Mem) := (fn8_isHour x1 w).bind (fun q1 => (if ¬ q1.1 = 0 then fn8_silent_13 x1 (fun x2_13 x3_13 w_13 => some (x2_13, w_13)) 1000 0 0 q1.2 else some ((-1), q1.2)))
set_option maxRecDepth 20000 in
theorem bk8_silent {M : MX} {G : GX} (C : BC M G shM 19 eM RX8 cX8_silent 4 (some .int) rm8_silent) {z : Int32 × Mem}   (x1 : Int32) {w : Mem} (h : fn8_silent  x1 w = some z) : BW M G shM 19 4 (ZR M G shM 19 (some .int) z) 0 [(0, .ref (gad G 0)), (1, .int x1)] [] w := by
  rw [fn8_silent] at h
  refine bw_iload_n C 1 dX8_silent_0 rfl rfl ?_
  refine bw_callSi C (As := [.int x1]) miX8_isHour mlX8_222 smX8_isHour (by decide) rfl rfl (fun z1 h1 => mt8_isHour h1) rfl (Nat.le_of_ble_eq_true rfl) rfl dX8_silent_1 h (fun q1 _ h => ?_)
  refine bw_if_ne C (tgt := 9) dX8_silent_4 (by decide) h (fun h => ?_) (fun h => ?_)
  · refine bw_iconst C (v := 0) dX8_silent_9 (by decide) ?_
    refine bw_istore_n C [(2, .int 0), (0, .ref (gad G 0)), (1, .int x1)] dX8_silent_10 rfl (by decide) rfl ?_
    refine bw_iconst C (v := 0) dX8_silent_11 (by decide) ?_
    refine bw_istore_n C [(3, .int 0), (2, .int 0), (0, .ref (gad G 0)), (1, .int x1)] dX8_silent_12 rfl (by decide) rfl ?_
    refine bw_sub [2, 3, 1, 0] rfl (bk8_silent_13 C x1 (fun x2_13 x3_13 w_13 h => ?_) 1000 0 0 q1.2 h)
    refine bw_iload_n C 0 dX8_silent_46 rfl rfl ?_
    exact bw_iret C dX8_silent_47 h
  · refine bw_iconst C (v := (-1)) dX8_silent_7 (by decide) ?_
    exact bw_iret C dX8_silent_8 h
theorem mt8_silent {l : Launch} {G : GX}   {x1 : Int32} {w : Mem} {z : Int32 × Mem} (h : fn8_silent  x1 w = some z) : MC l G shM 19 eM yX8_silent cX8_silent 4 (some .int) rm8_silent [.ref (gad G 0), .int x1] w z := by
  refine met_of (by decide +kernel) (eM_ok _) rfl (Nat.le_of_ble_eq_true rfl) (fun M hM C => ?_)
  subst hM
  exact bk8_silent C  x1 h
def rm8_quiet : Room := { frames := 3, cells := 0, slots := 0, locals := 67 }
def fn8_quiet  (x1 : Int32) (w : Mem) : Option (Int32 × Mem) := (fn8_isOne x1 w).bind (fun q2 => (if q2.1 = 0 then some ((-1), q2.2) else (fn8_quietOf x1 q2.2).bind (fun q10 => some (q10.1, q10.2))))
set_option maxRecDepth 20000 in
theorem bk8_quiet {M : MX} {G : GX} (C : BC M G shM 19 eM RX8 cX8_quiet 2 (some .int) rm8_quiet) {z : Int32 × Mem}   (x1 : Int32) {w : Mem} (h : fn8_quiet  x1 w = some z) : BW M G shM 19 2 (ZR M G shM 19 (some .int) z) 0 [(0, .ref (gad G 0)), (1, .int x1)] [] w := by
  rw [fn8_quiet] at h
  refine bw_aload_n C 0 dX8_quiet_0 rfl rfl ?_
  refine bw_iload_n C 1 dX8_quiet_1 rfl rfl ?_
  refine bw_callVi C (As := [.int x1]) lM0 sM0 rfl miX8_isOne mlX8_180 imX8_isOne seX8_isOne (by decide) rfl rfl (fun z1 h1 => mt8_isOne h1) rfl (Nat.le_of_ble_eq_true rfl) rfl dX8_quiet_2 h (fun q2 _ h => ?_)
  refine bw_if_eq C (tgt := 16) dX8_quiet_5 (by decide) h (fun h => ?_) (fun h => ?_)
  · refine bw_iconst C (v := (-1)) dX8_quiet_16 (by decide) ?_
    exact bw_iret C dX8_quiet_17 h
  · refine bw_aload_n C 0 dX8_quiet_8 rfl rfl ?_
    refine bw_iload_n C 1 dX8_quiet_9 rfl rfl ?_
    refine bw_callVi C (As := [.int x1]) lM0 sM0 rfl miX8_quietOf mlX8_206 imX8_quietOf seX8_quietOf (by decide) rfl rfl (fun z1 h1 => mt8_quietOf h1) rfl (Nat.le_of_ble_eq_true rfl) rfl dX8_quiet_10 h (fun q10 _ h => ?_)
    refine bw_goto C (tgt := 17) dX8_quiet_13 (by decide) ?_
    exact bw_iret C dX8_quiet_17 h
theorem mt8_quiet {l : Launch} {G : GX}   {x1 : Int32} {w : Mem} {z : Int32 × Mem} (h : fn8_quiet  x1 w = some z) : MC l G shM 19 eM yX8_quiet cX8_quiet 2 (some .int) rm8_quiet [.ref (gad G 0), .int x1] w z := by
  refine met_of (by decide +kernel) (eM_ok _) rfl (Nat.le_of_ble_eq_true rfl) (fun M hM C => ?_)
  subst hM
  exact bk8_quiet C  x1 h
def rm8_may : Room := { frames := 5, cells := 0, slots := 0, locals := 114 }
def fn8_may  (x1 : Int32) (x2 : Int32) (x3 : Int32) (w : Mem) : Option (Int32 × Mem) := (fn8_isHour x1 w).bind (fun q1 => (if q1.1 = 0 then some ((-1), q1.2) else (fn8_areTwo x2 x3 q1.2).bind (fun q10 => (if q10.1 = 0 then some ((-1), q10.2) else (fn8_isSaid x1 x2 x3 q10.2).bind (fun q20 => (if q20.1 = 0 then some (0, q20.2) else some (1, q20.2)))))))
set_option maxRecDepth 20000 in
theorem bk8_may {M : MX} {G : GX} (C : BC M G shM 19 eM RX8 cX8_may 4 (some .int) rm8_may) {z : Int32 × Mem}   (x1 : Int32) (x2 : Int32) (x3 : Int32) {w : Mem} (h : fn8_may  x1 x2 x3 w = some z) : BW M G shM 19 4 (ZR M G shM 19 (some .int) z) 0 [(0, .ref (gad G 0)), (1, .int x1), (2, .int x2), (3, .int x3)] [] w := by
  rw [fn8_may] at h
  refine bw_iload_n C 1 dX8_may_0 rfl rfl ?_
  refine bw_callSi C (As := [.int x1]) miX8_isHour mlX8_222 smX8_isHour (by decide) rfl rfl (fun z1 h1 => mt8_isHour h1) rfl (Nat.le_of_ble_eq_true rfl) rfl dX8_may_1 h (fun q1 _ h => ?_)
  refine bw_if_eq C (tgt := 34) dX8_may_4 (by decide) h (fun h => ?_) (fun h => ?_)
  · refine bw_iconst C (v := (-1)) dX8_may_34 (by decide) ?_
    exact bw_iret C dX8_may_35 h
  · refine bw_aload_n C 0 dX8_may_7 rfl rfl ?_
    refine bw_iload_n C 2 dX8_may_8 rfl rfl ?_
    refine bw_iload_n C 3 dX8_may_9 rfl rfl ?_
    refine bw_callVi C (As := [.int x2, .int x3]) lM0 sM0 rfl miX8_areTwo mlX8_225 imX8_areTwo seX8_areTwo (by decide) rfl rfl (fun z1 h1 => mt8_areTwo h1) rfl (Nat.le_of_ble_eq_true rfl) rfl dX8_may_10 h (fun q10 _ h => ?_)
    refine bw_if_eq C (tgt := 34) dX8_may_13 (by decide) h (fun h => ?_) (fun h => ?_)
    · refine bw_iconst C (v := (-1)) dX8_may_34 (by decide) ?_
      exact bw_iret C dX8_may_35 h
    · refine bw_aload_n C 0 dX8_may_16 rfl rfl ?_
      refine bw_iload_n C 1 dX8_may_17 rfl rfl ?_
      refine bw_iload_n C 2 dX8_may_18 rfl rfl ?_
      refine bw_iload_n C 3 dX8_may_19 rfl rfl ?_
      refine bw_callVi C (As := [.int x1, .int x2, .int x3]) lM0 sM0 rfl miX8_isSaid mlX8_213 imX8_isSaid seX8_isSaid (by decide) rfl rfl (fun z1 h1 => mt8_isSaid h1) rfl (Nat.le_of_ble_eq_true rfl) rfl dX8_may_20 h (fun q20 _ h => ?_)
      refine bw_if_eq C (tgt := 30) dX8_may_23 (by decide) h (fun h => ?_) (fun h => ?_)
      · refine bw_iconst C (v := 0) dX8_may_30 (by decide) ?_
        refine bw_goto C (tgt := 35) dX8_may_31 (by decide) ?_
        exact bw_iret C dX8_may_35 h
      · refine bw_iconst C (v := 1) dX8_may_26 (by decide) ?_
        refine bw_goto C (tgt := 35) dX8_may_27 (by decide) ?_
        exact bw_iret C dX8_may_35 h
theorem mt8_may {l : Launch} {G : GX}   {x1 : Int32} {x2 : Int32} {x3 : Int32} {w : Mem} {z : Int32 × Mem} (h : fn8_may  x1 x2 x3 w = some z) : MC l G shM 19 eM yX8_may cX8_may 4 (some .int) rm8_may [.ref (gad G 0), .int x1, .int x2, .int x3] w z := by
  refine met_of (by decide +kernel) (eM_ok _) rfl (Nat.le_of_ble_eq_true rfl) (fun M hM C => ?_)
  subst hM
  exact bk8_may C  x1 x2 x3 h
def rm8_said : Room := { frames := 6, cells := 0, slots := 0, locals := 136 }
def fn8_said_4 (k : Int32 → Int32 → Mem → Option (Int32 × Mem)) : Nat → Int32 → Int32 → Mem → Option (Int32 × Mem)
  | 0, _, _, _ => none
  | nn + 1, x1, x2, w => (if ib 54 228 = true then (if (w 1 (54 : Int32).toNatClampNeg) ≤ x2 then k x1 x2 w else (fn8_isTalkSaid x2 w).bind (fun q18 => (if q18.1 = 0 then fn8_said_4 k nn (x1 ||| 0) (x2 + 1) q18.2 else fn8_said_4 k nn (x1 ||| ((1 : Int32) <<< (x2 &&& 31))) (x2 + 1) q18.2))) else none)
set_option maxRecDepth 20000 in
theorem bk8_said_4 {M : MX} {G : GX} (C : BC M G shM 19 eM RX8 cX8_said 3 (some .int) rm8_said) {z : Int32 × Mem} {k : Int32 → Int32 → Mem → Option (Int32 × Mem)} (hk : ∀ (x1 : Int32) (x2 : Int32) (w : Mem), k x1 x2 w = some z → BW M G shM 19 3 (ZR M G shM 19 (some .int) z) 39 [(1, .int x1)] [] w) : ∀ (nn : Nat) (x1 : Int32) (x2 : Int32) (w : Mem), fn8_said_4 k nn x1 x2 w = some z → BW M G shM 19 3 (ZR M G shM 19 (some .int) z) 4 [(0, .ref (gad G 0)), (1, .int x1), (2, .int x2)] [] w := by
  intro nn
  induction nn with
  | zero =>
    intro x1 x2 w h
    have h : (none : Option (Int32 × Mem)) = some z := h
    cases h
  | succ nn ih =>
    intro x1 x2 w h
    rw [fn8_said_4] at h
    refine bw_iload_n C 2 dX8_said_4 rfl rfl ?_
    refine bw_aload_n C 0 dX8_said_5 rfl rfl ?_
    refine bw_getr C (j := 0) (t := 1) lM0 sM0 rfl inlX8 (by decide) rfl flX8_7 dX8_said_6 ?_
    refine bw_bipush C (v := 54) dX8_said_9 (by decide) ?_
    refine bw_iald C lM1 sM1 dX8_said_11 h (fun h => ?_)
    refine bw_icmp_ge C (tgt := 39) dX8_said_12 (by decide) h (fun h => ?_) (fun h => ?_)
    · exact bw_sub [1] rfl (hk x1 x2 w h)
    · refine bw_iload_n C 1 dX8_said_15 rfl rfl ?_
      refine bw_aload_n C 0 dX8_said_16 rfl rfl ?_
      refine bw_iload_n C 2 dX8_said_17 rfl rfl ?_
      refine bw_callVi C (As := [.int x2]) lM0 sM0 rfl miX8_isTalkSaid mlX8_219 imX8_isTalkSaid seX8_isTalkSaid (by decide) rfl rfl (fun z1 h1 => mt8_isTalkSaid h1) rfl (Nat.le_of_ble_eq_true rfl) rfl dX8_said_18 h (fun q18 _ h => ?_)
      refine bw_if_eq C (tgt := 30) dX8_said_21 (by decide) h (fun h => ?_) (fun h => ?_)
      · refine bw_iconst C (v := 0) dX8_said_30 (by decide) ?_
        refine bw_ior C dX8_said_31 ?_
        refine bw_istore_n C [(1, .int (x1 ||| 0)), (0, .ref (gad G 0)), (2, .int x2)] dX8_said_32 rfl (by decide) rfl ?_
        refine bw_iinc C [(2, .int (x2 + 1)), (1, .int (x1 ||| 0)), (0, .ref (gad G 0))] 2 dX8_said_33 rfl rfl (by decide) rfl ?_
        refine bw_goto C (tgt := 4) dX8_said_36 (by decide) ?_
        exact bw_sub [2, 1, 0] rfl (ih (x1 ||| 0) (x2 + 1) q18.2 h)
      · refine bw_iconst C (v := 1) dX8_said_24 (by decide) ?_
        refine bw_iload_n C 2 dX8_said_25 rfl rfl ?_
        refine bw_ishl C dX8_said_26 ?_
        refine bw_goto C (tgt := 31) dX8_said_27 (by decide) ?_
        refine bw_ior C dX8_said_31 ?_
        refine bw_istore_n C [(1, .int (x1 ||| ((1 : Int32) <<< (x2 &&& 31)))), (0, .ref (gad G 0)), (2, .int x2)] dX8_said_32 rfl (by decide) rfl ?_
        refine bw_iinc C [(2, .int (x2 + 1)), (1, .int (x1 ||| ((1 : Int32) <<< (x2 &&& 31)))), (0, .ref (gad G 0))] 2 dX8_said_33 rfl rfl (by decide) rfl ?_
        refine bw_goto C (tgt := 4) dX8_said_36 (by decide) ?_
        exact bw_sub [2, 1, 0] rfl (ih (x1 ||| ((1 : Int32) <<< (x2 &&& 31))) (x2 + 1) q18.2 h)
def fn8_said   (w : Mem) : Option (Int32 × Mem) := fn8_said_4 (fun x1_4 x2_4 w_4 => some (x1_4, w_4)) 1000 0 0 w
set_option maxRecDepth 20000 in
theorem bk8_said {M : MX} {G : GX} (C : BC M G shM 19 eM RX8 cX8_said 3 (some .int) rm8_said) {z : Int32 × Mem}    {w : Mem} (h : fn8_said   w = some z) : BW M G shM 19 3 (ZR M G shM 19 (some .int) z) 0 [(0, .ref (gad G 0))] [] w := by
  rw [fn8_said] at h
  refine bw_iconst C (v := 0) dX8_said_0 (by decide) ?_
  refine bw_istore_n C [(1, .int 0), (0, .ref (gad G 0))] dX8_said_1 rfl (by decide) rfl ?_
  refine bw_iconst C (v := 0) dX8_said_2 (by decide) ?_
  refine bw_istore_n C [(2, .int 0), (1, .int 0), (0, .ref (gad G 0))] dX8_said_3 rfl (by decide) rfl ?_
  refine bw_sub [2, 1, 0] rfl (bk8_said_4 C (fun x1_4 x2_4 w_4 h => ?_) 1000 0 0 w h)
  refine bw_iload_n C 0 dX8_said_39 rfl rfl ?_
  exact bw_iret C dX8_said_40 h
theorem mt8_said {l : Launch} {G : GX}    {w : Mem} {z : Int32 × Mem} (h : fn8_said   w = some z) : MC l G shM 19 eM yX8_said cX8_said 3 (some .int) rm8_said [.ref (gad G 0)] w z := by
  refine met_of (by decide +kernel) (eM_ok _) rfl (Nat.le_of_ble_eq_true rfl) (fun M hM C => ?_)
  subst hM
  exact bk8_said C   h
def rm8_law : Room := { frames := 1, cells := 0, slots := 0, locals := 25 }
def fn8_law  (x1 : Int32) (w : Mem) : Option (Int32 × Mem) := (fn8_in ((x1 : Int32).toInt64) 0 2 w).bind (fun q6 => (if ¬ q6.1 = 0 then (if ib 55 228 = true then (if ib 55 228 = true then some ((q6.2 1 (55 : Int32).toNatClampNeg), (up2 q6.2 1 (55 : Int32).toNatClampNeg x1)) else none) else none) else some ((-1), q6.2)))
set_option maxRecDepth 20000 in
theorem bk8_law {M : MX} {G : GX} (C : BC M G shM 19 eM RX8 cX8_law 3 (some .int) rm8_law) {z : Int32 × Mem}   (x1 : Int32) {w : Mem} (h : fn8_law  x1 w = some z) : BW M G shM 19 3 (ZR M G shM 19 (some .int) z) 0 [(0, .ref (gad G 0)), (1, .int x1)] [] w := by
  rw [fn8_law] at h
  refine bw_iload_n C 1 dX8_law_0 rfl rfl ?_
  refine bw_i2l C dX8_law_1 rfl ?_
  refine bw_lconst C (v := 0) dX8_law_2 (by decide) ?_
  refine bw_ldc2 C dX8_law_3 clX8_186 ?_
  refine bw_callSi C (As := [.long ((x1 : Int32).toInt64), .long 0, .long 2]) miX8_in mlX8_69 smX8_in (by decide) rfl rfl (fun z1 h1 => mt8_in h1) rfl (Nat.le_of_ble_eq_true rfl) rfl dX8_law_6 h (fun q6 _ h => ?_)
  refine bw_if_ne C (tgt := 14) dX8_law_9 (by decide) h (fun h => ?_) (fun h => ?_)
  · refine bw_aload_n C 0 dX8_law_14 rfl rfl ?_
    refine bw_getr C (j := 0) (t := 1) lM0 sM0 rfl inlX8 (by decide) rfl flX8_7 dX8_law_15 ?_
    refine bw_bipush C (v := 55) dX8_law_18 (by decide) ?_
    refine bw_iald C lM1 sM1 dX8_law_20 h (fun h => ?_)
    refine bw_istore_n C [(2, .int (q6.2 1 (55 : Int32).toNatClampNeg)), (0, .ref (gad G 0)), (1, .int x1)] dX8_law_21 rfl (by decide) rfl ?_
    refine bw_aload_n C 1 dX8_law_22 rfl rfl ?_
    refine bw_getr C (j := 0) (t := 1) lM0 sM0 rfl inlX8 (by decide) rfl flX8_7 dX8_law_23 ?_
    refine bw_bipush C (v := 55) dX8_law_26 (by decide) ?_
    refine bw_iload_n C 2 dX8_law_28 rfl rfl ?_
    refine bw_iast C lM1 sM1 dX8_law_29 h (fun h => ?_)
    refine bw_iload_n C 0 dX8_law_30 rfl rfl ?_
    exact bw_iret C dX8_law_31 h
  · refine bw_iconst C (v := (-1)) dX8_law_12 (by decide) ?_
    exact bw_iret C dX8_law_13 h
theorem mt8_law {l : Launch} {G : GX}   {x1 : Int32} {w : Mem} {z : Int32 × Mem} (h : fn8_law  x1 w = some z) : MC l G shM 19 eM yX8_law cX8_law 3 (some .int) rm8_law [.ref (gad G 0), .int x1] w z := by
  refine met_of (by decide +kernel) (eM_ok _) rfl (Nat.le_of_ble_eq_true rfl) (fun M hM C => ?_)
  subst hM
  exact bk8_law C  x1 h
