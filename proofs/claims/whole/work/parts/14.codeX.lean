def rm6_putTalk : Room := { frames := 0, cells := 0, slots := 0, locals := 0 }
def fn6_putTalk_39 (b : Nat) (w : Mem) : Option (Int32 × Mem) := some (0, (up2 w b 9 ((w b 9) + 1)))
set_option maxRecDepth 20000 in
theorem bk6_putTalk_39 {M : MX} {G : GX} (C : BC M G shX 71 (eX G) RX6 cX6_putTalk 4 none rm6_putTalk) {z : Int32 × Mem} {b : Nat} (hb : isTown b) {w : Mem} (h : fn6_putTalk_39 b w = some z) : BW M G shX 71 4 (ZR M G shX 71 none z) 39 [(0, .ref (gad G b))] [] w := by
  rw [fn6_putTalk_39] at h
  refine bw_aload_n C 0 dX6_putTalk_39 rfl rfl ?_
  refine bw_dup C dX6_putTalk_40 rfl ?_
  refine bw_geti C (j := 9) (isT_lt hb) (isT_sh hb) rfl inlX6 (by decide) rfl flX6_53 dX6_putTalk_41 ?_
  refine bw_iconst C (v := 1) dX6_putTalk_44 (by decide) ?_
  refine bw_iadd C dX6_putTalk_45 ?_
  refine bw_puti C (j := 9) (ty := .int) (isT_lt hb) (isT_sh hb) rfl inlX6 (by decide) tyX6 tyX6_ok nmX6 rfl flX6_53 rfl (by decide +kernel) rfl rfl dX6_putTalk_46 ?_
  exact bw_vret C dX6_putTalk_49 h
def fn6_putTalk (b : Nat) (x1 : Int32) (x2 : Int32) (x3 : Int32) (w : Mem) : Option (Int32 × Mem) := (if 10 ≤ (w b 9) then some (0, w) else (if ib (w b 9) 10 = true then (if ib ((up2 w (b + 8) (w b 9).toNatClampNeg x1) b 9) 10 = true then (if ib ((up2 (up2 w (b + 8) (w b 9).toNatClampNeg x1) (b + 9) ((up2 w (b + 8) (w b 9).toNatClampNeg x1) b 9).toNatClampNeg x2) b 9) 10 = true then fn6_putTalk_39 b (up2 (up2 (up2 w (b + 8) (w b 9).toNatClampNeg x1) (b + 9) ((up2 w (b + 8) (w b 9).toNatClampNeg x1) b 9).toNatClampNeg x2) (b + 10) ((up2 (up2 w (b + 8) (w b 9).toNatClampNeg x1) (b + 9) ((up2 w (b + 8) (w b 9).toNatClampNeg x1) b 9).toNatClampNeg x2) b 9).toNatClampNeg x3) else none) else none) else none))
set_option maxRecDepth 20000 in
theorem bk6_putTalk {M : MX} {G : GX} (C : BC M G shX 71 (eX G) RX6 cX6_putTalk 4 none rm6_putTalk) {z : Int32 × Mem} {b : Nat} (hb : isTown b) (x1 : Int32) (x2 : Int32) (x3 : Int32) {w : Mem} (h : fn6_putTalk b x1 x2 x3 w = some z) : BW M G shX 71 4 (ZR M G shX 71 none z) 0 [(0, .ref (gad G b)), (1, .int x1), (2, .int x2), (3, .int x3)] [] w := by
  rw [fn6_putTalk] at h
  refine bw_aload_n C 0 dX6_putTalk_0 rfl rfl ?_
  refine bw_geti C (j := 9) (isT_lt hb) (isT_sh hb) rfl inlX6 (by decide) rfl flX6_53 dX6_putTalk_1 ?_
  refine bw_bipush C (v := 10) dX6_putTalk_4 (by decide) ?_
  refine bw_icmp_ge C (tgt := 49) dX6_putTalk_6 (by decide) h (fun h => ?_) (fun h => ?_)
  · exact bw_vret C dX6_putTalk_49 h
  · refine bw_aload_n C 0 dX6_putTalk_9 rfl rfl ?_
    refine bw_getr C (j := 10) (t := (b + 8)) (isT_lt hb) (isT_sh hb) rfl inlX6 (by decide) rfl flX6_34 dX6_putTalk_10 ?_
    refine bw_aload_n C 0 dX6_putTalk_13 rfl rfl ?_
    refine bw_geti C (j := 9) (isT_lt hb) (isT_sh hb) rfl inlX6 (by decide) rfl flX6_53 dX6_putTalk_14 ?_
    refine bw_iload_n C 1 dX6_putTalk_17 rfl rfl ?_
    refine bw_iast C (isT_l8 hb) (isT_s8 hb) dX6_putTalk_18 h (fun h => ?_)
    refine bw_aload_n C 0 dX6_putTalk_19 rfl rfl ?_
    refine bw_getr C (j := 11) (t := (b + 9)) (isT_lt hb) (isT_sh hb) rfl inlX6 (by decide) rfl flX6_37 dX6_putTalk_20 ?_
    refine bw_aload_n C 0 dX6_putTalk_23 rfl rfl ?_
    refine bw_geti C (j := 9) (isT_lt hb) (isT_sh hb) rfl inlX6 (by decide) rfl flX6_53 dX6_putTalk_24 ?_
    refine bw_iload_n C 2 dX6_putTalk_27 rfl rfl ?_
    refine bw_iast C (isT_l9 hb) (isT_s9 hb) dX6_putTalk_28 h (fun h => ?_)
    refine bw_aload_n C 0 dX6_putTalk_29 rfl rfl ?_
    refine bw_getr C (j := 12) (t := (b + 10)) (isT_lt hb) (isT_sh hb) rfl inlX6 (by decide) rfl flX6_40 dX6_putTalk_30 ?_
    refine bw_aload_n C 0 dX6_putTalk_33 rfl rfl ?_
    refine bw_geti C (j := 9) (isT_lt hb) (isT_sh hb) rfl inlX6 (by decide) rfl flX6_53 dX6_putTalk_34 ?_
    refine bw_iload_n C 3 dX6_putTalk_37 rfl rfl ?_
    refine bw_iast C (isT_l10 hb) (isT_s10 hb) dX6_putTalk_38 h (fun h => ?_)
    exact bw_sub [0] rfl (bk6_putTalk_39 C hb h)
theorem mt6_putTalk {l : Launch} {G : GX} {b : Nat} (hb : isTown b) {x1 : Int32} {x2 : Int32} {x3 : Int32} {w : Mem} {z : Int32 × Mem} (h : fn6_putTalk b x1 x2 x3 w = some z) : MC l G shX 71 (eX G) yX6_putTalk cX6_putTalk 4 none rm6_putTalk [.ref (gad G b), .int x1, .int x2, .int x3] w z := by
  refine met_of (by decide +kernel) (eX_ok G) rfl (Nat.le_of_ble_eq_true rfl) (fun M hM C => ?_)
  subst hM
  exact bk6_putTalk C hb x1 x2 x3 h
def rm5_readTalk : Room := { frames := 3, cells := 0, slots := 0, locals := 67 }
def fn5_readTalk   (w : Mem) : Option (Int32 × Mem) := (if (w 12 9) < 10 then (fn5_readNumber 0 11 w).bind (fun q26 => (if ¬ q26.1 = 0 then (fn5_readNumber 0 5 q26.2).bind (fun q42 => (if ¬ q42.1 = 0 then (fn5_readNumber 0 5 q42.2).bind (fun q58 => (if ¬ q58.1 = 0 then (if ¬ (q58.2 55 10) = (q42.2 55 10) then (fn6_putTalk 12 (q26.2 55 10) (q42.2 55 10) (q58.2 55 10) q58.2).bind (fun q94 => (fn5_readStop q94.2).bind (fun q98 => (if isb q98.1 = true then some (q98.1, q98.2) else none))) else (fn5_fail 4 (q58.2 55 8) q58.2).bind (fun q80 => (if isb q80.1 = true then some (q80.1, q80.2) else none))) else some (0, q58.2))) else some (0, q42.2))) else some (0, q26.2))) else (fn5_fail 5 (w 55 8) w).bind (fun q18 => (if isb q18.1 = true then some (q18.1, q18.2) else none)))
set_option maxRecDepth 20000 in
theorem bk5_readTalk {M : MX} {G : GX} (C : BC M G shX 71 (eX G) RX5 cX5_readTalk 3 (some .boolean) rm5_readTalk) {z : Int32 × Mem}    {w : Mem} (h : fn5_readTalk   w = some z) : BW M G shX 71 3 (ZR M G shX 71 (some .boolean) z) 0 [(0, .ref (gad G 55))] [] w := by
  rw [fn5_readTalk] at h
  refine bw_aload_n C 0 dX5_readTalk_0 rfl rfl ?_
  refine bw_getr C (j := 0) (t := 12) lX55 sX55 rfl inlX5 (by decide) rfl flX5_12 dX5_readTalk_1 ?_
  refine bw_geti C (j := 9) lX12 sX12 rfl inlX6 (by decide) rfl flX5_187 dX5_readTalk_4 ?_
  refine bw_bipush C (v := 10) dX5_readTalk_7 (by decide) ?_
  refine bw_icmp_lt C (tgt := 22) dX5_readTalk_9 (by decide) h (fun h => ?_) (fun h => ?_)
  · refine bw_aload_n C 0 dX5_readTalk_22 rfl rfl ?_
    refine bw_iconst C (v := 0) dX5_readTalk_23 (by decide) ?_
    refine bw_bipush C (v := 11) dX5_readTalk_24 (by decide) ?_
    refine bw_callVi C (As := [.int 0, .int 11]) lX55 sX55 rfl miX5_readNumber mlX5_127 imX5_readNumber seX5_readNumber (by decide) rfl rfl (fun z1 h1 => mt5_readNumber h1) rfl (Nat.le_of_ble_eq_true rfl) rfl dX5_readTalk_26 h (fun q26 _ h => ?_)
    refine bw_if_ne C (tgt := 34) dX5_readTalk_29 (by decide) h (fun h => ?_) (fun h => ?_)
    · refine bw_aload_n C 0 dX5_readTalk_34 rfl rfl ?_
      refine bw_geti C (j := 10) lX55 sX55 rfl inlX5 (by decide) rfl flX5_87 dX5_readTalk_35 ?_
      refine bw_istore_n C [(1, .int (q26.2 55 10)), (0, .ref (gad G 55))] dX5_readTalk_38 rfl (by decide) rfl ?_
      refine bw_aload_n C 1 dX5_readTalk_39 rfl rfl ?_
      refine bw_iconst C (v := 0) dX5_readTalk_40 (by decide) ?_
      refine bw_iconst C (v := 5) dX5_readTalk_41 (by decide) ?_
      refine bw_callVi C (As := [.int 0, .int 5]) lX55 sX55 rfl miX5_readNumber mlX5_127 imX5_readNumber seX5_readNumber (by decide) rfl rfl (fun z1 h1 => mt5_readNumber h1) rfl (Nat.le_of_ble_eq_true rfl) rfl dX5_readTalk_42 h (fun q42 _ h => ?_)
      refine bw_if_ne C (tgt := 50) dX5_readTalk_45 (by decide) h (fun h => ?_) (fun h => ?_)
      · refine bw_aload_n C 1 dX5_readTalk_50 rfl rfl ?_
        refine bw_geti C (j := 10) lX55 sX55 rfl inlX5 (by decide) rfl flX5_87 dX5_readTalk_51 ?_
        refine bw_istore_n C [(2, .int (q42.2 55 10)), (1, .int (q26.2 55 10)), (0, .ref (gad G 55))] dX5_readTalk_54 rfl (by decide) rfl ?_
        refine bw_aload_n C 2 dX5_readTalk_55 rfl rfl ?_
        refine bw_iconst C (v := 0) dX5_readTalk_56 (by decide) ?_
        refine bw_iconst C (v := 5) dX5_readTalk_57 (by decide) ?_
        refine bw_callVi C (As := [.int 0, .int 5]) lX55 sX55 rfl miX5_readNumber mlX5_127 imX5_readNumber seX5_readNumber (by decide) rfl rfl (fun z1 h1 => mt5_readNumber h1) rfl (Nat.le_of_ble_eq_true rfl) rfl dX5_readTalk_58 h (fun q58 _ h => ?_)
        refine bw_if_ne C (tgt := 66) dX5_readTalk_61 (by decide) h (fun h => ?_) (fun h => ?_)
        · refine bw_aload_n C 2 dX5_readTalk_66 rfl rfl ?_
          refine bw_geti C (j := 10) lX55 sX55 rfl inlX5 (by decide) rfl flX5_87 dX5_readTalk_67 ?_
          refine bw_iload_n C 0 dX5_readTalk_70 rfl rfl ?_
          refine bw_icmp_ne C (tgt := 84) dX5_readTalk_71 (by decide) h (fun h => ?_) (fun h => ?_)
          · refine bw_aload_n C 2 dX5_readTalk_84 rfl rfl ?_
            refine bw_getr C (j := 0) (t := 12) lX55 sX55 rfl inlX5 (by decide) rfl flX5_12 dX5_readTalk_85 ?_
            refine bw_iload_n C 1 dX5_readTalk_88 rfl rfl ?_
            refine bw_iload_n C 0 dX5_readTalk_89 rfl rfl ?_
            refine bw_aload_n C 2 dX5_readTalk_90 rfl rfl ?_
            refine bw_geti C (j := 10) lX55 sX55 rfl inlX5 (by decide) rfl flX5_87 dX5_readTalk_91 ?_
            refine bw_callVv C (As := [.int (q26.2 55 10), .int (q42.2 55 10), .int (q58.2 55 10)]) lX12 sX12 rfl miX6_putTalk mlX5_190 imX6_putTalk seX6_putTalk (by decide) rfl rfl (fun z1 h1 => mt6_putTalk isT_12 h1) rfl (Nat.le_of_ble_eq_true rfl) rfl dX5_readTalk_94 h (fun q94 _ h => ?_)
            refine bw_aload_n C 2 dX5_readTalk_97 rfl rfl ?_
            refine bw_callVi C (As := []) lX55 sX55 rfl miX5_readStop mlX5_133 imX5_readStop seX5_readStop (by decide) rfl rfl (fun z1 h1 => mt5_readStop h1) rfl (Nat.le_of_ble_eq_true rfl) rfl dX5_readTalk_98 h (fun q98 _ h => ?_)
            exact bw_zret C dX5_readTalk_101 h
          · refine bw_aload_n C 2 dX5_readTalk_74 rfl rfl ?_
            refine bw_iconst C (v := 4) dX5_readTalk_75 (by decide) ?_
            refine bw_aload_n C 2 dX5_readTalk_76 rfl rfl ?_
            refine bw_geti C (j := 8) lX55 sX55 rfl inlX5 (by decide) rfl flX5_63 dX5_readTalk_77 ?_
            refine bw_callVi C (As := [.int 4, .int (q58.2 55 8)]) lX55 sX55 rfl miX5_fail mlX5_74 imX5_fail seX5_fail (by decide) rfl rfl (fun z1 h1 => mt5_fail h1) rfl (Nat.le_of_ble_eq_true rfl) rfl dX5_readTalk_80 h (fun q80 _ h => ?_)
            exact bw_zret C dX5_readTalk_83 h
        · refine bw_iconst C (v := 0) dX5_readTalk_64 (by decide) ?_
          exact bw_zretc C dX5_readTalk_65 rfl h
      · refine bw_iconst C (v := 0) dX5_readTalk_48 (by decide) ?_
        exact bw_zretc C dX5_readTalk_49 rfl h
    · refine bw_iconst C (v := 0) dX5_readTalk_32 (by decide) ?_
      exact bw_zretc C dX5_readTalk_33 rfl h
  · refine bw_aload_n C 0 dX5_readTalk_12 rfl rfl ?_
    refine bw_iconst C (v := 5) dX5_readTalk_13 (by decide) ?_
    refine bw_aload_n C 0 dX5_readTalk_14 rfl rfl ?_
    refine bw_geti C (j := 8) lX55 sX55 rfl inlX5 (by decide) rfl flX5_63 dX5_readTalk_15 ?_
    refine bw_callVi C (As := [.int 5, .int (w 55 8)]) lX55 sX55 rfl miX5_fail mlX5_74 imX5_fail seX5_fail (by decide) rfl rfl (fun z1 h1 => mt5_fail h1) rfl (Nat.le_of_ble_eq_true rfl) rfl dX5_readTalk_18 h (fun q18 _ h => ?_)
    exact bw_zret C dX5_readTalk_21 h
theorem mt5_readTalk {l : Launch} {G : GX}    {w : Mem} {z : Int32 × Mem} (h : fn5_readTalk   w = some z) : MC l G shX 71 (eX G) yX5_readTalk cX5_readTalk 3 (some .boolean) rm5_readTalk [.ref (gad G 55)] w z := by
  refine met_of (by decide +kernel) (eX_ok G) rfl (Nat.le_of_ble_eq_true rfl) (fun M hM C => ?_)
  subst hM
  exact bk5_readTalk C   h
def rm5_readLine : Room := { frames := 7, cells := 0, slots := 0, locals := 174 }
def fn5_readLine   (w : Mem) : Option (Int32 × Mem) := (fn5_isName 0 w).bind (fun q3 => (if q3.1 = 0 then (fn5_isName 1 q3.2).bind (fun q17 => (if q17.1 = 0 then (fn5_isName 2 q17.2).bind (fun q31 => (if q31.1 = 0 then (fn5_isName 8 q31.2).bind (fun q45 => (if q45.1 = 0 then (fn5_isName 10 q45.2).bind (fun q59 => (if q59.1 = 0 then (fn5_isName 11 q59.2).bind (fun q73 => (if q73.1 = 0 then (fn5_fail 2 (q73.2 55 8) q73.2).bind (fun q92 => (if isb q92.1 = true then some (q92.1, q92.2) else none)) else (fn5_readTalk q73.2).bind (fun q80 => (if isb q80.1 = true then some (q80.1, q80.2) else none)))) else (fn5_readSpend q59.2).bind (fun q66 => (if isb q66.1 = true then some (q66.1, q66.2) else none)))) else (fn5_readCoin q45.2).bind (fun q52 => (if isb q52.1 = true then some (q52.1, q52.2) else none)))) else (fn5_readOne q31.2).bind (fun q38 => (if isb q38.1 = true then some (q38.1, q38.2) else none)))) else (fn5_readFee q17.2).bind (fun q24 => (if isb q24.1 = true then some (q24.1, q24.2) else none)))) else (fn5_readLaw q3.2).bind (fun q10 => (if isb q10.1 = true then some (q10.1, q10.2) else none))))
set_option maxRecDepth 20000 in
theorem bk5_readLine {M : MX} {G : GX} (C : BC M G shX 71 (eX G) RX5 cX5_readLine 1 (some .boolean) rm5_readLine) {z : Int32 × Mem}    {w : Mem} (h : fn5_readLine   w = some z) : BW M G shX 71 1 (ZR M G shX 71 (some .boolean) z) 0 [(0, .ref (gad G 55))] [] w := by
  rw [fn5_readLine] at h
  refine bw_aload_n C 0 dX5_readLine_0 rfl rfl ?_
  refine bw_ldcS C 0 (by decide) rfl dX5_readLine_1 ?_
  refine bw_callVi C (As := [.ref (gaK G 0)]) lX55 sX55 rfl miX5_isName mlX5_95 imX5_isName seX5_isName (by decide) rfl rfl (fun z1 h1 => mt5_isName (by decide) h1) rfl (Nat.le_of_ble_eq_true rfl) rfl dX5_readLine_3 h (fun q3 _ h => ?_)
  refine bw_if_eq C (tgt := 14) dX5_readLine_6 (by decide) h (fun h => ?_) (fun h => ?_)
  · refine bw_aload_n C 0 dX5_readLine_14 rfl rfl ?_
    refine bw_ldcS C 1 (by decide) rfl dX5_readLine_15 ?_
    refine bw_callVi C (As := [.ref (gaK G 1)]) lX55 sX55 rfl miX5_isName mlX5_95 imX5_isName seX5_isName (by decide) rfl rfl (fun z1 h1 => mt5_isName (by decide) h1) rfl (Nat.le_of_ble_eq_true rfl) rfl dX5_readLine_17 h (fun q17 _ h => ?_)
    refine bw_if_eq C (tgt := 28) dX5_readLine_20 (by decide) h (fun h => ?_) (fun h => ?_)
    · refine bw_aload_n C 0 dX5_readLine_28 rfl rfl ?_
      refine bw_ldcS C 2 (by decide) rfl dX5_readLine_29 ?_
      refine bw_callVi C (As := [.ref (gaK G 2)]) lX55 sX55 rfl miX5_isName mlX5_95 imX5_isName seX5_isName (by decide) rfl rfl (fun z1 h1 => mt5_isName (by decide) h1) rfl (Nat.le_of_ble_eq_true rfl) rfl dX5_readLine_31 h (fun q31 _ h => ?_)
      refine bw_if_eq C (tgt := 42) dX5_readLine_34 (by decide) h (fun h => ?_) (fun h => ?_)
      · refine bw_aload_n C 0 dX5_readLine_42 rfl rfl ?_
        refine bw_ldcS C 8 (by decide) rfl dX5_readLine_43 ?_
        refine bw_callVi C (As := [.ref (gaK G 8)]) lX55 sX55 rfl miX5_isName mlX5_95 imX5_isName seX5_isName (by decide) rfl rfl (fun z1 h1 => mt5_isName (by decide) h1) rfl (Nat.le_of_ble_eq_true rfl) rfl dX5_readLine_45 h (fun q45 _ h => ?_)
        refine bw_if_eq C (tgt := 56) dX5_readLine_48 (by decide) h (fun h => ?_) (fun h => ?_)
        · refine bw_aload_n C 0 dX5_readLine_56 rfl rfl ?_
          refine bw_ldcS C 10 (by decide) rfl dX5_readLine_57 ?_
          refine bw_callVi C (As := [.ref (gaK G 10)]) lX55 sX55 rfl miX5_isName mlX5_95 imX5_isName seX5_isName (by decide) rfl rfl (fun z1 h1 => mt5_isName (by decide) h1) rfl (Nat.le_of_ble_eq_true rfl) rfl dX5_readLine_59 h (fun q59 _ h => ?_)
          refine bw_if_eq C (tgt := 70) dX5_readLine_62 (by decide) h (fun h => ?_) (fun h => ?_)
          · refine bw_aload_n C 0 dX5_readLine_70 rfl rfl ?_
            refine bw_ldcS C 11 (by decide) rfl dX5_readLine_71 ?_
            refine bw_callVi C (As := [.ref (gaK G 11)]) lX55 sX55 rfl miX5_isName mlX5_95 imX5_isName seX5_isName (by decide) rfl rfl (fun z1 h1 => mt5_isName (by decide) h1) rfl (Nat.le_of_ble_eq_true rfl) rfl dX5_readLine_73 h (fun q73 _ h => ?_)
            refine bw_if_eq C (tgt := 86) dX5_readLine_76 (by decide) h (fun h => ?_) (fun h => ?_)
            · refine bw_aload_n C 0 dX5_readLine_86 rfl rfl ?_
              refine bw_iconst C (v := 2) dX5_readLine_87 (by decide) ?_
              refine bw_aload_n C 0 dX5_readLine_88 rfl rfl ?_
              refine bw_geti C (j := 8) lX55 sX55 rfl inlX5 (by decide) rfl flX5_63 dX5_readLine_89 ?_
              refine bw_callVi C (As := [.int 2, .int (q73.2 55 8)]) lX55 sX55 rfl miX5_fail mlX5_74 imX5_fail seX5_fail (by decide) rfl rfl (fun z1 h1 => mt5_fail h1) rfl (Nat.le_of_ble_eq_true rfl) rfl dX5_readLine_92 h (fun q92 _ h => ?_)
              exact bw_zret C dX5_readLine_95 h
            · refine bw_aload_n C 0 dX5_readLine_79 rfl rfl ?_
              refine bw_callVi C (As := []) lX55 sX55 rfl miX5_readTalk mlX5_124 imX5_readTalk seX5_readTalk (by decide) rfl rfl (fun z1 h1 => mt5_readTalk h1) rfl (Nat.le_of_ble_eq_true rfl) rfl dX5_readLine_80 h (fun q80 _ h => ?_)
              refine bw_goto C (tgt := 95) dX5_readLine_83 (by decide) ?_
              exact bw_zret C dX5_readLine_95 h
          · refine bw_aload_n C 0 dX5_readLine_65 rfl rfl ?_
            refine bw_callVi C (As := []) lX55 sX55 rfl miX5_readSpend mlX5_119 imX5_readSpend seX5_readSpend (by decide) rfl rfl (fun z1 h1 => mt5_readSpend h1) rfl (Nat.le_of_ble_eq_true rfl) rfl dX5_readLine_66 h (fun q66 _ h => ?_)
            exact bw_zret C dX5_readLine_69 h
        · refine bw_aload_n C 0 dX5_readLine_51 rfl rfl ?_
          refine bw_callVi C (As := []) lX55 sX55 rfl miX5_readCoin mlX5_114 imX5_readCoin seX5_readCoin (by decide) rfl rfl (fun z1 h1 => mt5_readCoin h1) rfl (Nat.le_of_ble_eq_true rfl) rfl dX5_readLine_52 h (fun q52 _ h => ?_)
          exact bw_zret C dX5_readLine_55 h
      · refine bw_aload_n C 0 dX5_readLine_37 rfl rfl ?_
        refine bw_callVi C (As := []) lX55 sX55 rfl miX5_readOne mlX5_109 imX5_readOne seX5_readOne (by decide) rfl rfl (fun z1 h1 => mt5_readOne h1) rfl (Nat.le_of_ble_eq_true rfl) rfl dX5_readLine_38 h (fun q38 _ h => ?_)
        exact bw_zret C dX5_readLine_41 h
    · refine bw_aload_n C 0 dX5_readLine_23 rfl rfl ?_
      refine bw_callVi C (As := []) lX55 sX55 rfl miX5_readFee mlX5_104 imX5_readFee seX5_readFee (by decide) rfl rfl (fun z1 h1 => mt5_readFee h1) rfl (Nat.le_of_ble_eq_true rfl) rfl dX5_readLine_24 h (fun q24 _ h => ?_)
      exact bw_zret C dX5_readLine_27 h
  · refine bw_aload_n C 0 dX5_readLine_9 rfl rfl ?_
    refine bw_callVi C (As := []) lX55 sX55 rfl miX5_readLaw mlX5_99 imX5_readLaw seX5_readLaw (by decide) rfl rfl (fun z1 h1 => mt5_readLaw h1) rfl (Nat.le_of_ble_eq_true rfl) rfl dX5_readLine_10 h (fun q10 _ h => ?_)
    exact bw_zret C dX5_readLine_13 h
theorem mt5_readLine {l : Launch} {G : GX}    {w : Mem} {z : Int32 × Mem} (h : fn5_readLine   w = some z) : MC l G shX 71 (eX G) yX5_readLine cX5_readLine 1 (some .boolean) rm5_readLine [.ref (gad G 55)] w z := by
  refine met_of (by decide +kernel) (eX_ok G) rfl (Nat.le_of_ble_eq_true rfl) (fun M hM C => ?_)
  subst hM
  exact bk5_readLine C   h
def rm5_readTape : Room := { frames := 8, cells := 0, slots := 0, locals := 194 }
def fn5_readTape_39 (k : Int32 → Mem → Option (Int32 × Mem)) : Nat → Int32 → Mem → Option (Int32 × Mem)
  | 0, _, _ => none
  | nn + 1, x1, w => (if (w 53 1) < x1 then k x1 w else (fn5_readToken w).bind (fun q51 => (if ¬ q51.1 = 0 then (if ¬ (q51.2 55 7) = 0 then (fn5_readLine q51.2).bind (fun q72 => (if ¬ q72.1 = 0 then fn5_readTape_39 k nn (x1 + 1) (up2 q72.2 55 1 ((q72.2 55 1) + 1)) else some (0, q72.2))) else (fn5_checkNamed q51.2).bind (fun q67 => (if isb q67.1 = true then some (q67.1, q67.2) else none))) else some (0, q51.2))))
set_option maxRecDepth 20000 in
theorem bk5_readTape_39 {M : MX} {G : GX} (C : BC M G shX 71 (eX G) RX5 cX5_readTape 2 (some .boolean) rm5_readTape) {z : Int32 × Mem} {k : Int32 → Mem → Option (Int32 × Mem)} (hk : ∀ (x1 : Int32) (w : Mem), k x1 w = some z → BW M G shX 71 2 (ZR M G shX 71 (some .boolean) z) 96 [] [] w) : ∀ (nn : Nat) (x1 : Int32) (w : Mem), fn5_readTape_39 k nn x1 w = some z → BW M G shX 71 2 (ZR M G shX 71 (some .boolean) z) 39 [(0, .ref (gad G 55)), (1, .int x1)] [] w := by
  intro nn
  induction nn with
  | zero =>
    intro x1 w h
    have h : (none : Option (Int32 × Mem)) = some z := h
    cases h
  | succ nn ih =>
    intro x1 w h
    rw [fn5_readTape_39] at h
    refine bw_iload_n C 1 dX5_readTape_39 rfl rfl ?_
    refine bw_aload_n C 0 dX5_readTape_40 rfl rfl ?_
    refine bw_getr C (j := 4) (t := 53) lX55 sX55 rfl inlX5 (by decide) rfl flX5_18 dX5_readTape_41 ?_
    refine bw_geti C (j := 1) lX53 sX53 rfl inlX4 (by decide) rfl flX5_45 dX5_readTape_44 ?_
    refine bw_icmp_gt C (tgt := 96) dX5_readTape_47 (by decide) h (fun h => ?_) (fun h => ?_)
    · exact bw_sub [] rfl (hk x1 w h)
    · refine bw_aload_n C 0 dX5_readTape_50 rfl rfl ?_
      refine bw_callVi C (As := []) lX55 sX55 rfl miX5_readToken mlX5_50 imX5_readToken seX5_readToken (by decide) rfl rfl (fun z1 h1 => mt5_readToken h1) rfl (Nat.le_of_ble_eq_true rfl) rfl dX5_readTape_51 h (fun q51 _ h => ?_)
      refine bw_if_ne C (tgt := 59) dX5_readTape_54 (by decide) h (fun h => ?_) (fun h => ?_)
      · refine bw_aload_n C 0 dX5_readTape_59 rfl rfl ?_
        refine bw_geti C (j := 7) lX55 sX55 rfl inlX5 (by decide) rfl flX5_54 dX5_readTape_60 ?_
        refine bw_if_ne C (tgt := 71) dX5_readTape_63 (by decide) h (fun h => ?_) (fun h => ?_)
        · refine bw_aload_n C 0 dX5_readTape_71 rfl rfl ?_
          refine bw_callVi C (As := []) lX55 sX55 rfl miX5_readLine mlX5_60 imX5_readLine seX5_readLine (by decide) rfl rfl (fun z1 h1 => mt5_readLine h1) rfl (Nat.le_of_ble_eq_true rfl) rfl dX5_readTape_72 h (fun q72 _ h => ?_)
          refine bw_if_ne C (tgt := 80) dX5_readTape_75 (by decide) h (fun h => ?_) (fun h => ?_)
          · refine bw_aload_n C 0 dX5_readTape_80 rfl rfl ?_
            refine bw_dup C dX5_readTape_81 rfl ?_
            refine bw_geti C (j := 1) lX55 sX55 rfl inlX5 (by decide) rfl flX5_25 dX5_readTape_82 ?_
            refine bw_iconst C (v := 1) dX5_readTape_85 (by decide) ?_
            refine bw_iadd C dX5_readTape_86 ?_
            refine bw_puti C (j := 1) (ty := .int) lX55 sX55 rfl inlX5 (by decide) tyX5 tyX5_ok nmX5 rfl flX5_25 rfl (by decide +kernel) rfl rfl dX5_readTape_87 ?_
            refine bw_iinc C [(1, .int (x1 + 1)), (0, .ref (gad G 55))] 1 dX5_readTape_90 rfl rfl (by decide) rfl ?_
            refine bw_goto C (tgt := 39) dX5_readTape_93 (by decide) ?_
            exact bw_sub [1, 0] rfl (ih (x1 + 1) (up2 q72.2 55 1 ((q72.2 55 1) + 1)) h)
          · refine bw_iconst C (v := 0) dX5_readTape_78 (by decide) ?_
            exact bw_zretc C dX5_readTape_79 rfl h
        · refine bw_aload_n C 0 dX5_readTape_66 rfl rfl ?_
          refine bw_callVi C (As := []) lX55 sX55 rfl miX5_checkNamed mlX5_57 imX5_checkNamed seX5_checkNamed (by decide) rfl rfl (fun z1 h1 => mt5_checkNamed h1) rfl (Nat.le_of_ble_eq_true rfl) rfl dX5_readTape_67 h (fun q67 _ h => ?_)
          exact bw_zret C dX5_readTape_70 h
      · refine bw_iconst C (v := 0) dX5_readTape_57 (by decide) ?_
        exact bw_zretc C dX5_readTape_58 rfl h
def fn5_readTape   (w : Mem) : Option (Int32 × Mem) := (fn6_clear 12 w).bind (fun q4 => fn5_readTape_39 (fun x1_39 w_39 => some (0, w_39)) 1000 0 (up2 (up2 (up2 (up2 (up2 (up2 q4.2 55 1 0) 55 2 0) 55 3 0) 55 5 0) 55 6 0) 55 9 0))
set_option maxRecDepth 20000 in
theorem bk5_readTape {M : MX} {G : GX} (C : BC M G shX 71 (eX G) RX5 cX5_readTape 2 (some .boolean) rm5_readTape) {z : Int32 × Mem}    {w : Mem} (h : fn5_readTape   w = some z) : BW M G shX 71 2 (ZR M G shX 71 (some .boolean) z) 0 [(0, .ref (gad G 55))] [] w := by
  rw [fn5_readTape] at h
  refine bw_aload_n C 0 dX5_readTape_0 rfl rfl ?_
  refine bw_getr C (j := 0) (t := 12) lX55 sX55 rfl inlX5 (by decide) rfl flX5_12 dX5_readTape_1 ?_
  refine bw_callVv C (As := []) lX12 sX12 rfl miX6_clear mlX5_22 imX6_clear seX6_clear (by decide) rfl rfl (fun z1 h1 => mt6_clear isT_12 h1) rfl (Nat.le_of_ble_eq_true rfl) rfl dX5_readTape_4 h (fun q4 _ h => ?_)
  refine bw_aload_n C 0 dX5_readTape_7 rfl rfl ?_
  refine bw_iconst C (v := 0) dX5_readTape_8 (by decide) ?_
  refine bw_puti C (j := 1) (ty := .int) lX55 sX55 rfl inlX5 (by decide) tyX5 tyX5_ok nmX5 rfl flX5_25 rfl (by decide +kernel) rfl rfl dX5_readTape_9 ?_
  refine bw_aload_n C 0 dX5_readTape_12 rfl rfl ?_
  refine bw_iconst C (v := 0) dX5_readTape_13 (by decide) ?_
  refine bw_puti C (j := 2) (ty := .int) lX55 sX55 rfl inlX5 (by decide) tyX5 tyX5_ok nmX5 rfl flX5_29 rfl (by decide +kernel) rfl rfl dX5_readTape_14 ?_
  refine bw_aload_n C 0 dX5_readTape_17 rfl rfl ?_
  refine bw_iconst C (v := 0) dX5_readTape_18 (by decide) ?_
  refine bw_puti C (j := 3) (ty := .int) lX55 sX55 rfl inlX5 (by decide) tyX5 tyX5_ok nmX5 rfl flX5_32 rfl (by decide +kernel) rfl rfl dX5_readTape_19 ?_
  refine bw_aload_n C 0 dX5_readTape_22 rfl rfl ?_
  refine bw_iconst C (v := 0) dX5_readTape_23 (by decide) ?_
  refine bw_puti C (j := 5) (ty := .boolean) lX55 sX55 rfl inlX5 (by decide) tyX5 tyX5_ok nmX5 rfl flX5_35 rfl (by decide +kernel) rfl rfl dX5_readTape_24 ?_
  refine bw_aload_n C 0 dX5_readTape_27 rfl rfl ?_
  refine bw_iconst C (v := 0) dX5_readTape_28 (by decide) ?_
  refine bw_puti C (j := 6) (ty := .boolean) lX55 sX55 rfl inlX5 (by decide) tyX5 tyX5_ok nmX5 rfl flX5_39 rfl (by decide +kernel) rfl rfl dX5_readTape_29 ?_
  refine bw_aload_n C 0 dX5_readTape_32 rfl rfl ?_
  refine bw_iconst C (v := 0) dX5_readTape_33 (by decide) ?_
  refine bw_puti C (j := 9) (ty := .int) lX55 sX55 rfl inlX5 (by decide) tyX5 tyX5_ok nmX5 rfl flX5_42 rfl (by decide +kernel) rfl rfl dX5_readTape_34 ?_
  refine bw_iconst C (v := 0) dX5_readTape_37 (by decide) ?_
  refine bw_istore_n C [(1, .int 0), (0, .ref (gad G 55))] dX5_readTape_38 rfl (by decide) rfl ?_
  refine bw_sub [1, 0] rfl (bk5_readTape_39 C (fun x1_39 w_39 h => ?_) 1000 0 (up2 (up2 (up2 (up2 (up2 (up2 q4.2 55 1 0) 55 2 0) 55 3 0) 55 5 0) 55 6 0) 55 9 0) h)
  refine bw_iconst C (v := 0) dX5_readTape_96 (by decide) ?_
  exact bw_zretc C dX5_readTape_97 rfl h
theorem mt5_readTape {l : Launch} {G : GX}    {w : Mem} {z : Int32 × Mem} (h : fn5_readTape   w = some z) : MC l G shX 71 (eX G) yX5_readTape cX5_readTape 2 (some .boolean) rm5_readTape [.ref (gad G 55)] w z := by
  refine met_of (by decide +kernel) (eX_ok G) rfl (Nat.le_of_ble_eq_true rfl) (fun M hM C => ?_)
  subst hM
  exact bk5_readTape C   h
def rm6_copyFrom : Room := { frames := 1, cells := 0, slots := 0, locals := 18 }
def fn6_copyFrom_108 (b : Nat) (f : Nat) (k : Int32 → Mem → Option (Int32 × Mem)) : Nat → Int32 → Mem → Option (Int32 × Mem)
  | 0, _, _ => none
  | nn + 1, x2, w => (if 6 ≤ x2 then k x2 w else (if ib x2 6 = true then (if ib x2 6 = true then fn6_copyFrom_108 b f k nn (x2 + 1) (up2 w (b + 6) x2.toNatClampNeg (vp_nar .boolean (w (f + 6) x2.toNatClampNeg))) else none) else none))
set_option maxRecDepth 20000 in
theorem bk6_copyFrom_108 {M : MX} {G : GX} (C : BC M G shX 71 (eX G) RX6 cX6_copyFrom 3 none rm6_copyFrom) {z : Int32 × Mem} {b : Nat} {f : Nat} (hb : isTown b) (hf : isTown f) {k : Int32 → Mem → Option (Int32 × Mem)} (hk : ∀ (x2 : Int32) (w : Mem), k x2 w = some z → BW M G shX 71 3 (ZR M G shX 71 none z) 132 [(0, .ref (gad G b)), (1, .ref (gad G f))] [] w) : ∀ (nn : Nat) (x2 : Int32) (w : Mem), fn6_copyFrom_108 b f k nn x2 w = some z → BW M G shX 71 3 (ZR M G shX 71 none z) 108 [(0, .ref (gad G b)), (1, .ref (gad G f)), (2, .int x2)] [] w := by
  intro nn
  induction nn with
  | zero =>
    intro x2 w h
    have h : (none : Option (Int32 × Mem)) = some z := h
    cases h
  | succ nn ih =>
    intro x2 w h
    rw [fn6_copyFrom_108] at h
    refine bw_iload_n C 2 dX6_copyFrom_108 rfl rfl ?_
    refine bw_bipush C (v := 6) dX6_copyFrom_109 (by decide) ?_
    refine bw_icmp_ge C (tgt := 132) dX6_copyFrom_111 (by decide) h (fun h => ?_) (fun h => ?_)
    · exact bw_sub [0, 1] rfl (hk x2 w h)
    · refine bw_aload_n C 0 dX6_copyFrom_114 rfl rfl ?_
      refine bw_getr C (j := 7) (t := (b + 6)) (isT_lt hb) (isT_sh hb) rfl inlX6 (by decide) rfl flX6_27 dX6_copyFrom_115 ?_
      refine bw_iload_n C 2 dX6_copyFrom_118 rfl rfl ?_
      refine bw_aload_n C 1 dX6_copyFrom_119 rfl rfl ?_
      refine bw_getr C (j := 7) (t := (f + 6)) (isT_lt hf) (isT_sh hf) rfl inlX6 (by decide) rfl flX6_27 dX6_copyFrom_120 ?_
      refine bw_iload_n C 2 dX6_copyFrom_123 rfl rfl ?_
      refine bw_zald C (isT_l6 hf) (isT_s6 hf) dX6_copyFrom_124 h (fun h => ?_)
      refine bw_zast C (isT_l6 hb) (isT_s6 hb) dX6_copyFrom_125 h (fun h => ?_)
      refine bw_iinc C [(2, .int (x2 + 1)), (0, .ref (gad G b)), (1, .ref (gad G f))] 2 dX6_copyFrom_126 rfl rfl (by decide) rfl ?_
      refine bw_goto C (tgt := 108) dX6_copyFrom_129 (by decide) ?_
      exact bw_sub [1, 2, 0] rfl (ih (x2 + 1) (up2 w (b + 6) x2.toNatClampNeg (vp_nar .boolean (w (f + 6) x2.toNatClampNeg))) h)
def fn6_copyFrom_193 (b : Nat) (f : Nat) (w : Mem) : Option (Int32 × Mem) := some (0, (up2 w b 14 (w f 14)))
set_option maxRecDepth 20000 in
theorem bk6_copyFrom_193 {M : MX} {G : GX} (C : BC M G shX 71 (eX G) RX6 cX6_copyFrom 3 none rm6_copyFrom) {z : Int32 × Mem} {b : Nat} {f : Nat} (hb : isTown b) (hf : isTown f) {w : Mem} (h : fn6_copyFrom_193 b f w = some z) : BW M G shX 71 3 (ZR M G shX 71 none z) 193 [(0, .ref (gad G b)), (1, .ref (gad G f))] [] w := by
  rw [fn6_copyFrom_193] at h
  refine bw_aload_n C 0 dX6_copyFrom_193 rfl rfl ?_
  refine bw_aload_n C 1 dX6_copyFrom_194 rfl rfl ?_
  refine bw_geti C (j := 14) (isT_lt hf) (isT_sh hf) rfl inlX6 (by decide) rfl flX6_59 dX6_copyFrom_195 ?_
  refine bw_puti C (j := 14) (ty := .int) (isT_lt hb) (isT_sh hb) rfl inlX6 (by decide) tyX6 tyX6_ok nmX6 rfl flX6_59 rfl (by decide +kernel) rfl rfl dX6_copyFrom_198 ?_
  exact bw_vret C dX6_copyFrom_201 h
def fn6_copyFrom_170 (b : Nat) (f : Nat) (w : Mem) : Option (Int32 × Mem) := fn6_copyFrom_193 b f (up2 (cpm w (f + 10) (b + 10) (10 : Int32).toNatClampNeg) b 13 ((cpm w (f + 10) (b + 10) (10 : Int32).toNatClampNeg) f 13))
set_option maxRecDepth 20000 in
theorem bk6_copyFrom_170 {M : MX} {G : GX} (C : BC M G shX 71 (eX G) RX6 cX6_copyFrom 3 none rm6_copyFrom) {z : Int32 × Mem} {b : Nat} {f : Nat} (hb : isTown b) (hf : isTown f) {w : Mem} (h : fn6_copyFrom_170 b f w = some z) : BW M G shX 71 3 (ZR M G shX 71 none z) 170 [(0, .ref (gad G b)), (1, .ref (gad G f))] [] w := by
  rw [fn6_copyFrom_170] at h
  refine bw_aload_n C 1 dX6_copyFrom_170 rfl rfl ?_
  refine bw_getr C (j := 12) (t := (f + 10)) (isT_lt hf) (isT_sh hf) rfl inlX6 (by decide) rfl flX6_40 dX6_copyFrom_171 ?_
  refine bw_iconst C (v := 0) dX6_copyFrom_174 (by decide) ?_
  refine bw_aload_n C 0 dX6_copyFrom_175 rfl rfl ?_
  refine bw_getr C (j := 12) (t := (b + 10)) (isT_lt hb) (isT_sh hb) rfl inlX6 (by decide) rfl flX6_40 dX6_copyFrom_176 ?_
  refine bw_iconst C (v := 0) dX6_copyFrom_179 (by decide) ?_
  refine bw_bipush C (v := 10) dX6_copyFrom_180 (by decide) ?_
  refine bw_copy C (isT_l10 hf) (isT_s10 hf) (isT_l10 hb) (isT_s10 hb) mlX6_62 acp_n acp_s acp_i (by decide) (by decide) (by decide) (by decide) (Nat.le_of_ble_eq_true rfl) dX6_copyFrom_182 ?_
  refine bw_aload_n C 0 dX6_copyFrom_185 rfl rfl ?_
  refine bw_aload_n C 1 dX6_copyFrom_186 rfl rfl ?_
  refine bw_geti C (j := 13) (isT_lt hf) (isT_sh hf) rfl inlX6 (by decide) rfl flX6_56 dX6_copyFrom_187 ?_
  refine bw_puti C (j := 13) (ty := .int) (isT_lt hb) (isT_sh hb) rfl inlX6 (by decide) tyX6 tyX6_ok nmX6 rfl flX6_56 rfl (by decide +kernel) rfl rfl dX6_copyFrom_190 ?_
  exact bw_sub [0, 1] rfl (bk6_copyFrom_193 C hb hf h)
def fn6_copyFrom_106 (b : Nat) (f : Nat) (w : Mem) : Option (Int32 × Mem) := fn6_copyFrom_108 b f (fun x2_108 w_108 => fn6_copyFrom_170 b f (cpm (cpm (up2 w_108 b 9 (w_108 f 9)) (f + 8) (b + 8) (10 : Int32).toNatClampNeg) (f + 9) (b + 9) (10 : Int32).toNatClampNeg)) 1000 0 w
set_option maxRecDepth 20000 in
theorem bk6_copyFrom_106 {M : MX} {G : GX} (C : BC M G shX 71 (eX G) RX6 cX6_copyFrom 3 none rm6_copyFrom) {z : Int32 × Mem} {b : Nat} {f : Nat} (hb : isTown b) (hf : isTown f) {w : Mem} (h : fn6_copyFrom_106 b f w = some z) : BW M G shX 71 3 (ZR M G shX 71 none z) 106 [(0, .ref (gad G b)), (1, .ref (gad G f))] [] w := by
  rw [fn6_copyFrom_106] at h
  refine bw_iconst C (v := 0) dX6_copyFrom_106 (by decide) ?_
  refine bw_istore_n C [(2, .int 0), (0, .ref (gad G b)), (1, .ref (gad G f))] dX6_copyFrom_107 rfl (by decide) rfl ?_
  refine bw_sub [1, 2, 0] rfl (bk6_copyFrom_108 C hb hf (fun x2_108 w_108 h => ?_) 1000 0 w h)
  refine bw_aload_n C 0 dX6_copyFrom_132 rfl rfl ?_
  refine bw_aload_n C 1 dX6_copyFrom_133 rfl rfl ?_
  refine bw_geti C (j := 9) (isT_lt hf) (isT_sh hf) rfl inlX6 (by decide) rfl flX6_53 dX6_copyFrom_134 ?_
  refine bw_puti C (j := 9) (ty := .int) (isT_lt hb) (isT_sh hb) rfl inlX6 (by decide) tyX6 tyX6_ok nmX6 rfl flX6_53 rfl (by decide +kernel) rfl rfl dX6_copyFrom_137 ?_
  refine bw_aload_n C 1 dX6_copyFrom_140 rfl rfl ?_
  refine bw_getr C (j := 10) (t := (f + 8)) (isT_lt hf) (isT_sh hf) rfl inlX6 (by decide) rfl flX6_34 dX6_copyFrom_141 ?_
  refine bw_iconst C (v := 0) dX6_copyFrom_144 (by decide) ?_
  refine bw_aload_n C 0 dX6_copyFrom_145 rfl rfl ?_
  refine bw_getr C (j := 10) (t := (b + 8)) (isT_lt hb) (isT_sh hb) rfl inlX6 (by decide) rfl flX6_34 dX6_copyFrom_146 ?_
  refine bw_iconst C (v := 0) dX6_copyFrom_149 (by decide) ?_
  refine bw_bipush C (v := 10) dX6_copyFrom_150 (by decide) ?_
  refine bw_copy C (isT_l8 hf) (isT_s8 hf) (isT_l8 hb) (isT_s8 hb) mlX6_62 acp_n acp_s acp_i (by decide) (by decide) (by decide) (by decide) (Nat.le_of_ble_eq_true rfl) dX6_copyFrom_152 ?_
  refine bw_aload_n C 1 dX6_copyFrom_155 rfl rfl ?_
  refine bw_getr C (j := 11) (t := (f + 9)) (isT_lt hf) (isT_sh hf) rfl inlX6 (by decide) rfl flX6_37 dX6_copyFrom_156 ?_
  refine bw_iconst C (v := 0) dX6_copyFrom_159 (by decide) ?_
  refine bw_aload_n C 0 dX6_copyFrom_160 rfl rfl ?_
  refine bw_getr C (j := 11) (t := (b + 9)) (isT_lt hb) (isT_sh hb) rfl inlX6 (by decide) rfl flX6_37 dX6_copyFrom_161 ?_
  refine bw_iconst C (v := 0) dX6_copyFrom_164 (by decide) ?_
  refine bw_bipush C (v := 10) dX6_copyFrom_165 (by decide) ?_
  refine bw_copy C (isT_l9 hf) (isT_s9 hf) (isT_l9 hb) (isT_s9 hb) mlX6_62 acp_n acp_s acp_i (by decide) (by decide) (by decide) (by decide) (Nat.le_of_ble_eq_true rfl) dX6_copyFrom_167 ?_
  exact bw_sub [0, 1] rfl (bk6_copyFrom_170 C hb hf h)
def fn6_copyFrom_53 (b : Nat) (f : Nat) (w : Mem) : Option (Int32 × Mem) := fn6_copyFrom_106 b f (cpm (cpm (cpm (up2 w b 4 (w f 4)) (f + 4) (b + 4) (6 : Int32).toNatClampNeg) (f + 5) (b + 5) (6 : Int32).toNatClampNeg) (f + 7) (b + 7) (6 : Int32).toNatClampNeg)
set_option maxRecDepth 20000 in
theorem bk6_copyFrom_53 {M : MX} {G : GX} (C : BC M G shX 71 (eX G) RX6 cX6_copyFrom 3 none rm6_copyFrom) {z : Int32 × Mem} {b : Nat} {f : Nat} (hb : isTown b) (hf : isTown f) {w : Mem} (h : fn6_copyFrom_53 b f w = some z) : BW M G shX 71 3 (ZR M G shX 71 none z) 53 [(0, .ref (gad G b)), (1, .ref (gad G f))] [] w := by
  rw [fn6_copyFrom_53] at h
  refine bw_aload_n C 0 dX6_copyFrom_53 rfl rfl ?_
  refine bw_aload_n C 1 dX6_copyFrom_54 rfl rfl ?_
  refine bw_geti C (j := 4) (isT_lt hf) (isT_sh hf) rfl inlX6 (by decide) rfl flX6_50 dX6_copyFrom_55 ?_
  refine bw_puti C (j := 4) (ty := .int) (isT_lt hb) (isT_sh hb) rfl inlX6 (by decide) tyX6 tyX6_ok nmX6 rfl flX6_50 rfl (by decide +kernel) rfl rfl dX6_copyFrom_58 ?_
  refine bw_aload_n C 1 dX6_copyFrom_61 rfl rfl ?_
  refine bw_getr C (j := 5) (t := (f + 4)) (isT_lt hf) (isT_sh hf) rfl inlX6 (by decide) rfl flX6_21 dX6_copyFrom_62 ?_
  refine bw_iconst C (v := 0) dX6_copyFrom_65 (by decide) ?_
  refine bw_aload_n C 0 dX6_copyFrom_66 rfl rfl ?_
  refine bw_getr C (j := 5) (t := (b + 4)) (isT_lt hb) (isT_sh hb) rfl inlX6 (by decide) rfl flX6_21 dX6_copyFrom_67 ?_
  refine bw_iconst C (v := 0) dX6_copyFrom_70 (by decide) ?_
  refine bw_bipush C (v := 6) dX6_copyFrom_71 (by decide) ?_
  refine bw_copy C (isT_l4 hf) (isT_s4 hf) (isT_l4 hb) (isT_s4 hb) mlX6_62 acp_n acp_s acp_i (by decide) (by decide) (by decide) (by decide) (Nat.le_of_ble_eq_true rfl) dX6_copyFrom_73 ?_
  refine bw_aload_n C 1 dX6_copyFrom_76 rfl rfl ?_
  refine bw_getr C (j := 6) (t := (f + 5)) (isT_lt hf) (isT_sh hf) rfl inlX6 (by decide) rfl flX6_24 dX6_copyFrom_77 ?_
  refine bw_iconst C (v := 0) dX6_copyFrom_80 (by decide) ?_
  refine bw_aload_n C 0 dX6_copyFrom_81 rfl rfl ?_
  refine bw_getr C (j := 6) (t := (b + 5)) (isT_lt hb) (isT_sh hb) rfl inlX6 (by decide) rfl flX6_24 dX6_copyFrom_82 ?_
  refine bw_iconst C (v := 0) dX6_copyFrom_85 (by decide) ?_
  refine bw_bipush C (v := 6) dX6_copyFrom_86 (by decide) ?_
  refine bw_copy C (isT_l5 hf) (isT_s5 hf) (isT_l5 hb) (isT_s5 hb) mlX6_62 acp_n acp_s acp_i (by decide) (by decide) (by decide) (by decide) (Nat.le_of_ble_eq_true rfl) dX6_copyFrom_88 ?_
  refine bw_aload_n C 1 dX6_copyFrom_91 rfl rfl ?_
  refine bw_getr C (j := 8) (t := (f + 7)) (isT_lt hf) (isT_sh hf) rfl inlX6 (by decide) rfl flX6_31 dX6_copyFrom_92 ?_
  refine bw_iconst C (v := 0) dX6_copyFrom_95 (by decide) ?_
  refine bw_aload_n C 0 dX6_copyFrom_96 rfl rfl ?_
  refine bw_getr C (j := 8) (t := (b + 7)) (isT_lt hb) (isT_sh hb) rfl inlX6 (by decide) rfl flX6_31 dX6_copyFrom_97 ?_
  refine bw_iconst C (v := 0) dX6_copyFrom_100 (by decide) ?_
  refine bw_bipush C (v := 6) dX6_copyFrom_101 (by decide) ?_
  refine bw_copy C (isT_l7 hf) (isT_s7 hf) (isT_l7 hb) (isT_s7 hb) mlX6_62 acp_n acp_s acp_i (by decide) (by decide) (by decide) (by decide) (Nat.le_of_ble_eq_true rfl) dX6_copyFrom_103 ?_
  exact bw_sub [0, 1] rfl (bk6_copyFrom_106 C hb hf h)
def fn6_copyFrom (b : Nat) (f : Nat)  (w : Mem) : Option (Int32 × Mem) := fn6_copyFrom_53 b f (cpm (cpm (cpm (up2 w b 0 (w f 0)) (f + 1) (b + 1) (6 : Int32).toNatClampNeg) (f + 2) (b + 2) (6 : Int32).toNatClampNeg) (f + 3) (b + 3) (6 : Int32).toNatClampNeg)
set_option maxRecDepth 20000 in
theorem bk6_copyFrom {M : MX} {G : GX} (C : BC M G shX 71 (eX G) RX6 cX6_copyFrom 3 none rm6_copyFrom) {z : Int32 × Mem} {b : Nat} {f : Nat} (hb : isTown b) (hf : isTown f)  {w : Mem} (h : fn6_copyFrom b f  w = some z) : BW M G shX 71 3 (ZR M G shX 71 none z) 0 [(0, .ref (gad G b)), (1, .ref (gad G f))] [] w := by
  rw [fn6_copyFrom] at h
  refine bw_aload_n C 0 dX6_copyFrom_0 rfl rfl ?_
  refine bw_aload_n C 1 dX6_copyFrom_1 rfl rfl ?_
  refine bw_geti C (j := 0) (isT_lt hf) (isT_sh hf) rfl inlX6 (by decide) rfl flX6_46 dX6_copyFrom_2 ?_
  refine bw_puti C (j := 0) (ty := .int) (isT_lt hb) (isT_sh hb) rfl inlX6 (by decide) tyX6 tyX6_ok nmX6 rfl flX6_46 rfl (by decide +kernel) rfl rfl dX6_copyFrom_5 ?_
  refine bw_aload_n C 1 dX6_copyFrom_8 rfl rfl ?_
  refine bw_getr C (j := 1) (t := (f + 1)) (isT_lt hf) (isT_sh hf) rfl inlX6 (by decide) rfl flX6_9 dX6_copyFrom_9 ?_
  refine bw_iconst C (v := 0) dX6_copyFrom_12 (by decide) ?_
  refine bw_aload_n C 0 dX6_copyFrom_13 rfl rfl ?_
  refine bw_getr C (j := 1) (t := (b + 1)) (isT_lt hb) (isT_sh hb) rfl inlX6 (by decide) rfl flX6_9 dX6_copyFrom_14 ?_
  refine bw_iconst C (v := 0) dX6_copyFrom_17 (by decide) ?_
  refine bw_bipush C (v := 6) dX6_copyFrom_18 (by decide) ?_
  refine bw_copy C (isT_l1 hf) (isT_s1 hf) (isT_l1 hb) (isT_s1 hb) mlX6_62 acp_n acp_s acp_i (by decide) (by decide) (by decide) (by decide) (Nat.le_of_ble_eq_true rfl) dX6_copyFrom_20 ?_
  refine bw_aload_n C 1 dX6_copyFrom_23 rfl rfl ?_
  refine bw_getr C (j := 2) (t := (f + 2)) (isT_lt hf) (isT_sh hf) rfl inlX6 (by decide) rfl flX6_15 dX6_copyFrom_24 ?_
  refine bw_iconst C (v := 0) dX6_copyFrom_27 (by decide) ?_
  refine bw_aload_n C 0 dX6_copyFrom_28 rfl rfl ?_
  refine bw_getr C (j := 2) (t := (b + 2)) (isT_lt hb) (isT_sh hb) rfl inlX6 (by decide) rfl flX6_15 dX6_copyFrom_29 ?_
  refine bw_iconst C (v := 0) dX6_copyFrom_32 (by decide) ?_
  refine bw_bipush C (v := 6) dX6_copyFrom_33 (by decide) ?_
  refine bw_copy C (isT_l2 hf) (isT_s2 hf) (isT_l2 hb) (isT_s2 hb) mlX6_62 acp_n acp_s acp_i (by decide) (by decide) (by decide) (by decide) (Nat.le_of_ble_eq_true rfl) dX6_copyFrom_35 ?_
  refine bw_aload_n C 1 dX6_copyFrom_38 rfl rfl ?_
  refine bw_getr C (j := 3) (t := (f + 3)) (isT_lt hf) (isT_sh hf) rfl inlX6 (by decide) rfl flX6_18 dX6_copyFrom_39 ?_
  refine bw_iconst C (v := 0) dX6_copyFrom_42 (by decide) ?_
  refine bw_aload_n C 0 dX6_copyFrom_43 rfl rfl ?_
  refine bw_getr C (j := 3) (t := (b + 3)) (isT_lt hb) (isT_sh hb) rfl inlX6 (by decide) rfl flX6_18 dX6_copyFrom_44 ?_
  refine bw_iconst C (v := 0) dX6_copyFrom_47 (by decide) ?_
  refine bw_bipush C (v := 6) dX6_copyFrom_48 (by decide) ?_
  refine bw_copy C (isT_l3 hf) (isT_s3 hf) (isT_l3 hb) (isT_s3 hb) mlX6_62 acp_n acp_s acp_i (by decide) (by decide) (by decide) (by decide) (Nat.le_of_ble_eq_true rfl) dX6_copyFrom_50 ?_
  exact bw_sub [0, 1] rfl (bk6_copyFrom_53 C hb hf h)
theorem mt6_copyFrom {l : Launch} {G : GX} {b : Nat} {f : Nat} (hb : isTown b) (hf : isTown f)  {w : Mem} {z : Int32 × Mem} (h : fn6_copyFrom b f  w = some z) : MC l G shX 71 (eX G) yX6_copyFrom cX6_copyFrom 3 none rm6_copyFrom [.ref (gad G b), .ref (gad G f)] w z := by
  refine met_of (by decide +kernel) (eX_ok G) rfl (Nat.le_of_ble_eq_true rfl) (fun M hM C => ?_)
  subst hM
  exact bk6_copyFrom C hb hf  h
def rm7_isHour : Room := { frames := 0, cells := 0, slots := 0, locals := 0 }
def fn7_isHour  (x0 : Int32) (w : Mem) : Option (Int32 × Mem) := (if x0 < 0 then some (0, w) else (if 12 ≤ x0 then some (0, w) else some (1, w)))
set_option maxRecDepth 20000 in
theorem bk7_isHour {M : MX} {G : GX} (C : BC M G shX 71 (eX G) RX7 cX7_isHour 1 (some .boolean) rm7_isHour) {z : Int32 × Mem}   (x0 : Int32) {w : Mem} (h : fn7_isHour  x0 w = some z) : BW M G shX 71 1 (ZR M G shX 71 (some .boolean) z) 0 [(0, .int x0)] [] w := by
  rw [fn7_isHour] at h
  refine bw_iload_n C 0 dX7_isHour_0 rfl rfl ?_
  refine bw_if_lt C (tgt := 14) dX7_isHour_1 (by decide) h (fun h => ?_) (fun h => ?_)
  · refine bw_iconst C (v := 0) dX7_isHour_14 (by decide) ?_
    exact bw_zretc C dX7_isHour_15 rfl h
  · refine bw_iload_n C 0 dX7_isHour_4 rfl rfl ?_
    refine bw_bipush C (v := 12) dX7_isHour_5 (by decide) ?_
    refine bw_icmp_ge C (tgt := 14) dX7_isHour_7 (by decide) h (fun h => ?_) (fun h => ?_)
    · refine bw_iconst C (v := 0) dX7_isHour_14 (by decide) ?_
      exact bw_zretc C dX7_isHour_15 rfl h
    · refine bw_iconst C (v := 1) dX7_isHour_10 (by decide) ?_
      refine bw_goto C (tgt := 15) dX7_isHour_11 (by decide) ?_
      exact bw_zretc C dX7_isHour_15 rfl h
theorem mt7_isHour {l : Launch} {G : GX}   {x0 : Int32} {w : Mem} {z : Int32 × Mem} (h : fn7_isHour  x0 w = some z) : MC l G shX 71 (eX G) yX7_isHour cX7_isHour 1 (some .boolean) rm7_isHour [.int x0] w z := by
  refine met_of (by decide +kernel) (eX_ok G) rfl (Nat.le_of_ble_eq_true rfl) (fun M hM C => ?_)
  subst hM
  exact bk7_isHour C  x0 h
def rm6_canTalk : Room := { frames := 1, cells := 0, slots := 0, locals := 21 }
def fn6_canTalk (b : Nat) (x1 : Int32) (x2 : Int32) (x3 : Int32) (w : Mem) : Option (Int32 × Mem) := (fn7_isHour x1 w).bind (fun q1 => (if q1.1 = 0 then some (0, q1.2) else (fn6_hasOne b x2 q1.2).bind (fun q9 => (if q9.1 = 0 then some (0, q9.2) else (fn6_hasOne b x3 q9.2).bind (fun q17 => (if q17.1 = 0 then some (0, q17.2) else (if x2 = x3 then some (0, q17.2) else some (1, q17.2))))))))
set_option maxRecDepth 20000 in
theorem bk6_canTalk {M : MX} {G : GX} (C : BC M G shX 71 (eX G) RX6 cX6_canTalk 4 (some .boolean) rm6_canTalk) {z : Int32 × Mem} {b : Nat} (hb : isTown b) (x1 : Int32) (x2 : Int32) (x3 : Int32) {w : Mem} (h : fn6_canTalk b x1 x2 x3 w = some z) : BW M G shX 71 4 (ZR M G shX 71 (some .boolean) z) 0 [(0, .ref (gad G b)), (1, .int x1), (2, .int x2), (3, .int x3)] [] w := by
  rw [fn6_canTalk] at h
  refine bw_iload_n C 1 dX6_canTalk_0 rfl rfl ?_
  refine bw_callSNi C (As := [.int x1]) miX7_isHour (nstAt C.2.2.2.2.2.2.2.2.2.1.1 4 rfl) smX7_isHour (by decide) rfl rfl (fun z1 h1 => mt7_isHour h1) rfl (Nat.le_of_ble_eq_true rfl) rfl dX6_canTalk_1 h (fun q1 _ h => ?_)
  refine bw_if_eq C (tgt := 32) dX6_canTalk_4 (by decide) h (fun h => ?_) (fun h => ?_)
  · refine bw_iconst C (v := 0) dX6_canTalk_32 (by decide) ?_
    exact bw_zretc C dX6_canTalk_33 rfl h
  · refine bw_aload_n C 0 dX6_canTalk_7 rfl rfl ?_
    refine bw_iload_n C 2 dX6_canTalk_8 rfl rfl ?_
    refine bw_callVi C (As := [.int x2]) (isT_lt hb) (isT_sh hb) rfl miX6_hasOne mlX6_72 imX6_hasOne seX6_hasOne (by decide) rfl rfl (fun z1 h1 => mt6_hasOne hb h1) rfl (Nat.le_of_ble_eq_true rfl) rfl dX6_canTalk_9 h (fun q9 _ h => ?_)
    refine bw_if_eq C (tgt := 32) dX6_canTalk_12 (by decide) h (fun h => ?_) (fun h => ?_)
    · refine bw_iconst C (v := 0) dX6_canTalk_32 (by decide) ?_
      exact bw_zretc C dX6_canTalk_33 rfl h
    · refine bw_aload_n C 0 dX6_canTalk_15 rfl rfl ?_
      refine bw_iload_n C 3 dX6_canTalk_16 rfl rfl ?_
      refine bw_callVi C (As := [.int x3]) (isT_lt hb) (isT_sh hb) rfl miX6_hasOne mlX6_72 imX6_hasOne seX6_hasOne (by decide) rfl rfl (fun z1 h1 => mt6_hasOne hb h1) rfl (Nat.le_of_ble_eq_true rfl) rfl dX6_canTalk_17 h (fun q17 _ h => ?_)
      refine bw_if_eq C (tgt := 32) dX6_canTalk_20 (by decide) h (fun h => ?_) (fun h => ?_)
      · refine bw_iconst C (v := 0) dX6_canTalk_32 (by decide) ?_
        exact bw_zretc C dX6_canTalk_33 rfl h
      · refine bw_iload_n C 2 dX6_canTalk_23 rfl rfl ?_
        refine bw_iload_n C 3 dX6_canTalk_24 rfl rfl ?_
        refine bw_icmp_eq C (tgt := 32) dX6_canTalk_25 (by decide) h (fun h => ?_) (fun h => ?_)
        · refine bw_iconst C (v := 0) dX6_canTalk_32 (by decide) ?_
          exact bw_zretc C dX6_canTalk_33 rfl h
        · refine bw_iconst C (v := 1) dX6_canTalk_28 (by decide) ?_
          refine bw_goto C (tgt := 33) dX6_canTalk_29 (by decide) ?_
          exact bw_zretc C dX6_canTalk_33 rfl h
theorem mt6_canTalk {l : Launch} {G : GX} {b : Nat} (hb : isTown b) {x1 : Int32} {x2 : Int32} {x3 : Int32} {w : Mem} {z : Int32 × Mem} (h : fn6_canTalk b x1 x2 x3 w = some z) : MC l G shX 71 (eX G) yX6_canTalk cX6_canTalk 4 (some .boolean) rm6_canTalk [.ref (gad G b), .int x1, .int x2, .int x3] w z := by
  refine met_of (by decide +kernel) (eX_ok G) rfl (Nat.le_of_ble_eq_true rfl) (fun M hM C => ?_)
  subst hM
  exact bk6_canTalk C hb x1 x2 x3 h
def rm6_addTalk : Room := { frames := 2, cells := 0, slots := 0, locals := 44 }
def fn6_addTalk (b : Nat) (x1 : Int32) (x2 : Int32) (x3 : Int32) (w : Mem) : Option (Int32 × Mem) := (fn6_canTalk b x1 x2 x3 w).bind (fun q4 => (if ¬ q4.1 = 0 then (if (q4.2 b 9) < 10 then (fn6_putTalk b x1 x2 x3 q4.2).bind (fun q28 => some ((q28.2 b 9), q28.2)) else some ((-3), q4.2)) else some ((-1), q4.2)))
set_option maxRecDepth 20000 in
theorem bk6_addTalk {M : MX} {G : GX} (C : BC M G shX 71 (eX G) RX6 cX6_addTalk 4 (some .int) rm6_addTalk) {z : Int32 × Mem} {b : Nat} (hb : isTown b) (x1 : Int32) (x2 : Int32) (x3 : Int32) {w : Mem} (h : fn6_addTalk b x1 x2 x3 w = some z) : BW M G shX 71 4 (ZR M G shX 71 (some .int) z) 0 [(0, .ref (gad G b)), (1, .int x1), (2, .int x2), (3, .int x3)] [] w := by
  rw [fn6_addTalk] at h
  refine bw_aload_n C 0 dX6_addTalk_0 rfl rfl ?_
  refine bw_iload_n C 1 dX6_addTalk_1 rfl rfl ?_
  refine bw_iload_n C 2 dX6_addTalk_2 rfl rfl ?_
  refine bw_iload_n C 3 dX6_addTalk_3 rfl rfl ?_
  refine bw_callVi C (As := [.int x1, .int x2, .int x3]) (isT_lt hb) (isT_sh hb) rfl miX6_canTalk mlX6_75 imX6_canTalk seX6_canTalk (by decide) rfl rfl (fun z1 h1 => mt6_canTalk hb h1) rfl (Nat.le_of_ble_eq_true rfl) rfl dX6_addTalk_4 h (fun q4 _ h => ?_)
  refine bw_if_ne C (tgt := 12) dX6_addTalk_7 (by decide) h (fun h => ?_) (fun h => ?_)
  · refine bw_aload_n C 0 dX6_addTalk_12 rfl rfl ?_
    refine bw_geti C (j := 9) (isT_lt hb) (isT_sh hb) rfl inlX6 (by decide) rfl flX6_53 dX6_addTalk_13 ?_
    refine bw_bipush C (v := 10) dX6_addTalk_16 (by decide) ?_
    refine bw_icmp_lt C (tgt := 24) dX6_addTalk_18 (by decide) h (fun h => ?_) (fun h => ?_)
    · refine bw_aload_n C 0 dX6_addTalk_24 rfl rfl ?_
      refine bw_iload_n C 1 dX6_addTalk_25 rfl rfl ?_
      refine bw_iload_n C 2 dX6_addTalk_26 rfl rfl ?_
      refine bw_iload_n C 3 dX6_addTalk_27 rfl rfl ?_
      refine bw_callVv C (As := [.int x1, .int x2, .int x3]) (isT_lt hb) (isT_sh hb) rfl miX6_putTalk mlX6_79 imX6_putTalk seX6_putTalk (by decide) rfl rfl (fun z1 h1 => mt6_putTalk hb h1) rfl (Nat.le_of_ble_eq_true rfl) rfl dX6_addTalk_28 h (fun q28 _ h => ?_)
      refine bw_aload_n C 0 dX6_addTalk_31 rfl rfl ?_
      refine bw_geti C (j := 9) (isT_lt hb) (isT_sh hb) rfl inlX6 (by decide) rfl flX6_53 dX6_addTalk_32 ?_
      exact bw_iret C dX6_addTalk_35 h
    · refine bw_bipush C (v := (-3)) dX6_addTalk_21 (by decide) ?_
      exact bw_iret C dX6_addTalk_23 h
  · refine bw_iconst C (v := (-1)) dX6_addTalk_10 (by decide) ?_
    exact bw_iret C dX6_addTalk_11 h
theorem mt6_addTalk {l : Launch} {G : GX} {b : Nat} (hb : isTown b) {x1 : Int32} {x2 : Int32} {x3 : Int32} {w : Mem} {z : Int32 × Mem} (h : fn6_addTalk b x1 x2 x3 w = some z) : MC l G shX 71 (eX G) yX6_addTalk cX6_addTalk 4 (some .int) rm6_addTalk [.ref (gad G b), .int x1, .int x2, .int x3] w z := by
  refine met_of (by decide +kernel) (eX_ok G) rfl (Nat.le_of_ble_eq_true rfl) (fun M hM C => ?_)
  subst hM
  exact bk6_addTalk C hb x1 x2 x3 h
def rm6_isTalkSaid : Room := { frames := 4, cells := 0, slots := 0, locals := 83 }
def fn6_isTalkSaid (b : Nat) (x1 : Int32) (w : Mem) : Option (Int32 × Mem) := (if ib x1 10 = true then (fn6_silentOnes b (w (b + 8) x1.toNatClampNeg) w).bind (fun q8 => (if ib x1 10 = true then (if ib x1 10 = true then (fn6_isSaid b q8.1 (q8.2 (b + 9) x1.toNatClampNeg) (q8.2 (b + 10) x1.toNatClampNeg) q8.2).bind (fun q23 => (if isb q23.1 = true then some (q23.1, q23.2) else none)) else none) else none)) else none)
set_option maxRecDepth 20000 in
theorem bk6_isTalkSaid {M : MX} {G : GX} (C : BC M G shX 71 (eX G) RX6 cX6_isTalkSaid 2 (some .boolean) rm6_isTalkSaid) {z : Int32 × Mem} {b : Nat} (hb : isTown b) (x1 : Int32) {w : Mem} (h : fn6_isTalkSaid b x1 w = some z) : BW M G shX 71 2 (ZR M G shX 71 (some .boolean) z) 0 [(0, .ref (gad G b)), (1, .int x1)] [] w := by
  rw [fn6_isTalkSaid] at h
  refine bw_aload_n C 0 dX6_isTalkSaid_0 rfl rfl ?_
  refine bw_aload_n C 0 dX6_isTalkSaid_1 rfl rfl ?_
  refine bw_aload_n C 0 dX6_isTalkSaid_2 rfl rfl ?_
  refine bw_getr C (j := 10) (t := (b + 8)) (isT_lt hb) (isT_sh hb) rfl inlX6 (by decide) rfl flX6_34 dX6_isTalkSaid_3 ?_
  refine bw_iload_n C 1 dX6_isTalkSaid_6 rfl rfl ?_
  refine bw_iald C (isT_l8 hb) (isT_s8 hb) dX6_isTalkSaid_7 h (fun h => ?_)
  refine bw_callVi C (As := [.int (w (b + 8) x1.toNatClampNeg)]) (isT_lt hb) (isT_sh hb) rfl miX6_silentOnes mlX6_103 imX6_silentOnes seX6_silentOnes (by decide) rfl rfl (fun z1 h1 => mt6_silentOnes hb h1) rfl (Nat.le_of_ble_eq_true rfl) rfl dX6_isTalkSaid_8 h (fun q8 _ h => ?_)
  refine bw_aload_n C 0 dX6_isTalkSaid_11 rfl rfl ?_
  refine bw_getr C (j := 11) (t := (b + 9)) (isT_lt hb) (isT_sh hb) rfl inlX6 (by decide) rfl flX6_37 dX6_isTalkSaid_12 ?_
  refine bw_iload_n C 1 dX6_isTalkSaid_15 rfl rfl ?_
  refine bw_iald C (isT_l9 hb) (isT_s9 hb) dX6_isTalkSaid_16 h (fun h => ?_)
  refine bw_aload_n C 0 dX6_isTalkSaid_17 rfl rfl ?_
  refine bw_getr C (j := 12) (t := (b + 10)) (isT_lt hb) (isT_sh hb) rfl inlX6 (by decide) rfl flX6_40 dX6_isTalkSaid_18 ?_
  refine bw_iload_n C 1 dX6_isTalkSaid_21 rfl rfl ?_
  refine bw_iald C (isT_l10 hb) (isT_s10 hb) dX6_isTalkSaid_22 h (fun h => ?_)
  refine bw_callVi C (As := [.int q8.1, .int (q8.2 (b + 9) x1.toNatClampNeg), .int (q8.2 (b + 10) x1.toNatClampNeg)]) (isT_lt hb) (isT_sh hb) rfl miX6_isSaid mlX6_107 imX6_isSaid seX6_isSaid (by decide) rfl rfl (fun z1 h1 => mt6_isSaid hb h1) rfl (Nat.le_of_ble_eq_true rfl) rfl dX6_isTalkSaid_23 h (fun q23 _ h => ?_)
  exact bw_zret C dX6_isTalkSaid_26 h
theorem mt6_isTalkSaid {l : Launch} {G : GX} {b : Nat} (hb : isTown b) {x1 : Int32} {w : Mem} {z : Int32 × Mem} (h : fn6_isTalkSaid b x1 w = some z) : MC l G shX 71 (eX G) yX6_isTalkSaid cX6_isTalkSaid 2 (some .boolean) rm6_isTalkSaid [.ref (gad G b), .int x1] w z := by
  refine met_of (by decide +kernel) (eX_ok G) rfl (Nat.le_of_ble_eq_true rfl) (fun M hM C => ?_)
  subst hM
  exact bk6_isTalkSaid C hb x1 h
def rm6_spentCoins : Room := { frames := 1, cells := 0, slots := 0, locals := 21 }
def fn6_spentCoins_4 (b : Nat) (k : Int32 → Int32 → Mem → Option (Int32 × Mem)) : Nat → Int32 → Int32 → Mem → Option (Int32 × Mem)
  | 0, _, _, _ => none
  | nn + 1, x1, x2, w => (if (w b 4) ≤ x2 then k x1 x2 w else (fn6_isSpent b x2 w).bind (fun q15 => (fn7_oneIf q15.1 q15.2).bind (fun q18 => fn6_spentCoins_4 b k nn (x1 + q18.1) (x2 + 1) q18.2)))
set_option maxRecDepth 20000 in
theorem bk6_spentCoins_4 {M : MX} {G : GX} (C : BC M G shX 71 (eX G) RX6 cX6_spentCoins 3 (some .int) rm6_spentCoins) {z : Int32 × Mem} {b : Nat} (hb : isTown b) {k : Int32 → Int32 → Mem → Option (Int32 × Mem)} (hk : ∀ (x1 : Int32) (x2 : Int32) (w : Mem), k x1 x2 w = some z → BW M G shX 71 3 (ZR M G shX 71 (some .int) z) 29 [(1, .int x1)] [] w) : ∀ (nn : Nat) (x1 : Int32) (x2 : Int32) (w : Mem), fn6_spentCoins_4 b k nn x1 x2 w = some z → BW M G shX 71 3 (ZR M G shX 71 (some .int) z) 4 [(0, .ref (gad G b)), (1, .int x1), (2, .int x2)] [] w := by
  intro nn
  induction nn with
  | zero =>
    intro x1 x2 w h
    have h : (none : Option (Int32 × Mem)) = some z := h
    cases h
  | succ nn ih =>
    intro x1 x2 w h
    rw [fn6_spentCoins_4] at h
    refine bw_iload_n C 2 dX6_spentCoins_4 rfl rfl ?_
    refine bw_aload_n C 0 dX6_spentCoins_5 rfl rfl ?_
    refine bw_geti C (j := 4) (isT_lt hb) (isT_sh hb) rfl inlX6 (by decide) rfl flX6_50 dX6_spentCoins_6 ?_
    refine bw_icmp_ge C (tgt := 29) dX6_spentCoins_9 (by decide) h (fun h => ?_) (fun h => ?_)
    · exact bw_sub [1] rfl (hk x1 x2 w h)
    · refine bw_iload_n C 1 dX6_spentCoins_12 rfl rfl ?_
      refine bw_aload_n C 0 dX6_spentCoins_13 rfl rfl ?_
      refine bw_iload_n C 2 dX6_spentCoins_14 rfl rfl ?_
      refine bw_callVi C (As := [.int x2]) (isT_lt hb) (isT_sh hb) rfl miX6_isSpent mlX6_92 imX6_isSpent seX6_isSpent (by decide) rfl rfl (fun z1 h1 => mt6_isSpent hb h1) rfl (Nat.le_of_ble_eq_true rfl) rfl dX6_spentCoins_15 h (fun q15 _ h => ?_)
      refine bw_callSNi C (As := [.int q15.1]) miX7_oneIf (nstAt C.2.2.2.2.2.2.2.2.2.1.1 10 rfl) smX7_oneIf (by decide) rfl rfl (fun z1 h1 => mt7_oneIf h1) rfl (Nat.le_of_ble_eq_true rfl) rfl dX6_spentCoins_18 h (fun q18 _ h => ?_)
      refine bw_iadd C dX6_spentCoins_21 ?_
      refine bw_istore_n C [(1, .int (x1 + q18.1)), (0, .ref (gad G b)), (2, .int x2)] dX6_spentCoins_22 rfl (by decide) rfl ?_
      refine bw_iinc C [(2, .int (x2 + 1)), (1, .int (x1 + q18.1)), (0, .ref (gad G b))] 2 dX6_spentCoins_23 rfl rfl (by decide) rfl ?_
      refine bw_goto C (tgt := 4) dX6_spentCoins_26 (by decide) ?_
      exact bw_sub [2, 1, 0] rfl (ih (x1 + q18.1) (x2 + 1) q18.2 h)
def fn6_spentCoins (b : Nat)  (w : Mem) : Option (Int32 × Mem) := fn6_spentCoins_4 b (fun x1_4 x2_4 w_4 => some (x1_4, w_4)) 1000 0 0 w
set_option maxRecDepth 20000 in
theorem bk6_spentCoins {M : MX} {G : GX} (C : BC M G shX 71 (eX G) RX6 cX6_spentCoins 3 (some .int) rm6_spentCoins) {z : Int32 × Mem} {b : Nat} (hb : isTown b)  {w : Mem} (h : fn6_spentCoins b  w = some z) : BW M G shX 71 3 (ZR M G shX 71 (some .int) z) 0 [(0, .ref (gad G b))] [] w := by
  rw [fn6_spentCoins] at h
  refine bw_iconst C (v := 0) dX6_spentCoins_0 (by decide) ?_
  refine bw_istore_n C [(1, .int 0), (0, .ref (gad G b))] dX6_spentCoins_1 rfl (by decide) rfl ?_
  refine bw_iconst C (v := 0) dX6_spentCoins_2 (by decide) ?_
  refine bw_istore_n C [(2, .int 0), (1, .int 0), (0, .ref (gad G b))] dX6_spentCoins_3 rfl (by decide) rfl ?_
  refine bw_sub [2, 1, 0] rfl (bk6_spentCoins_4 C hb (fun x1_4 x2_4 w_4 h => ?_) 1000 0 0 w h)
  refine bw_iload_n C 0 dX6_spentCoins_29 rfl rfl ?_
  exact bw_iret C dX6_spentCoins_30 h
theorem mt6_spentCoins {l : Launch} {G : GX} {b : Nat} (hb : isTown b)  {w : Mem} {z : Int32 × Mem} (h : fn6_spentCoins b  w = some z) : MC l G shX 71 (eX G) yX6_spentCoins cX6_spentCoins 3 (some .int) rm6_spentCoins [.ref (gad G b)] w z := by
  refine met_of (by decide +kernel) (eX_ok G) rfl (Nat.le_of_ble_eq_true rfl) (fun M hM C => ?_)
  subst hM
  exact bk6_spentCoins C hb  h
def rm6_unspentWorths : Room := { frames := 1, cells := 0, slots := 0, locals := 21 }
def fn6_unspentWorths_4 (b : Nat) (k : Int32 → Int32 → Mem → Option (Int32 × Mem)) : Nat → Int32 → Int32 → Mem → Option (Int32 × Mem)
  | 0, _, _, _ => none
  | nn + 1, x1, x2, w => (if (w b 4) ≤ x2 then k x1 x2 w else (fn6_isSpent b x2 w).bind (fun q15 => (if q15.1 = 0 then (if ib x2 6 = true then fn6_unspentWorths_4 b k nn (x1 + (q15.2 (b + 4) x2.toNatClampNeg)) (x2 + 1) q15.2 else none) else fn6_unspentWorths_4 b k nn (x1 + 0) (x2 + 1) q15.2)))
set_option maxRecDepth 20000 in
theorem bk6_unspentWorths_4 {M : MX} {G : GX} (C : BC M G shX 71 (eX G) RX6 cX6_unspentWorths 3 (some .int) rm6_unspentWorths) {z : Int32 × Mem} {b : Nat} (hb : isTown b) {k : Int32 → Int32 → Mem → Option (Int32 × Mem)} (hk : ∀ (x1 : Int32) (x2 : Int32) (w : Mem), k x1 x2 w = some z → BW M G shX 71 3 (ZR M G shX 71 (some .int) z) 39 [(1, .int x1)] [] w) : ∀ (nn : Nat) (x1 : Int32) (x2 : Int32) (w : Mem), fn6_unspentWorths_4 b k nn x1 x2 w = some z → BW M G shX 71 3 (ZR M G shX 71 (some .int) z) 4 [(0, .ref (gad G b)), (1, .int x1), (2, .int x2)] [] w := by
  intro nn
  induction nn with
  | zero =>
    intro x1 x2 w h
    have h : (none : Option (Int32 × Mem)) = some z := h
    cases h
  | succ nn ih =>
    intro x1 x2 w h
    rw [fn6_unspentWorths_4] at h
    refine bw_iload_n C 2 dX6_unspentWorths_4 rfl rfl ?_
    refine bw_aload_n C 0 dX6_unspentWorths_5 rfl rfl ?_
    refine bw_geti C (j := 4) (isT_lt hb) (isT_sh hb) rfl inlX6 (by decide) rfl flX6_50 dX6_unspentWorths_6 ?_
    refine bw_icmp_ge C (tgt := 39) dX6_unspentWorths_9 (by decide) h (fun h => ?_) (fun h => ?_)
    · exact bw_sub [1] rfl (hk x1 x2 w h)
    · refine bw_iload_n C 1 dX6_unspentWorths_12 rfl rfl ?_
      refine bw_aload_n C 0 dX6_unspentWorths_13 rfl rfl ?_
      refine bw_iload_n C 2 dX6_unspentWorths_14 rfl rfl ?_
      refine bw_callVi C (As := [.int x2]) (isT_lt hb) (isT_sh hb) rfl miX6_isSpent mlX6_92 imX6_isSpent seX6_isSpent (by decide) rfl rfl (fun z1 h1 => mt6_isSpent hb h1) rfl (Nat.le_of_ble_eq_true rfl) rfl dX6_unspentWorths_15 h (fun q15 _ h => ?_)
      refine bw_if_eq C (tgt := 25) dX6_unspentWorths_18 (by decide) h (fun h => ?_) (fun h => ?_)
      · refine bw_aload_n C 0 dX6_unspentWorths_25 rfl rfl ?_
        refine bw_getr C (j := 5) (t := (b + 4)) (isT_lt hb) (isT_sh hb) rfl inlX6 (by decide) rfl flX6_21 dX6_unspentWorths_26 ?_
        refine bw_iload_n C 2 dX6_unspentWorths_29 rfl rfl ?_
        refine bw_iald C (isT_l4 hb) (isT_s4 hb) dX6_unspentWorths_30 h (fun h => ?_)
        refine bw_iadd C dX6_unspentWorths_31 ?_
        refine bw_istore_n C [(1, .int (x1 + (q15.2 (b + 4) x2.toNatClampNeg))), (0, .ref (gad G b)), (2, .int x2)] dX6_unspentWorths_32 rfl (by decide) rfl ?_
        refine bw_iinc C [(2, .int (x2 + 1)), (1, .int (x1 + (q15.2 (b + 4) x2.toNatClampNeg))), (0, .ref (gad G b))] 2 dX6_unspentWorths_33 rfl rfl (by decide) rfl ?_
        refine bw_goto C (tgt := 4) dX6_unspentWorths_36 (by decide) ?_
        exact bw_sub [2, 1, 0] rfl (ih (x1 + (q15.2 (b + 4) x2.toNatClampNeg)) (x2 + 1) q15.2 h)
      · refine bw_iconst C (v := 0) dX6_unspentWorths_21 (by decide) ?_
        refine bw_goto C (tgt := 31) dX6_unspentWorths_22 (by decide) ?_
        refine bw_iadd C dX6_unspentWorths_31 ?_
        refine bw_istore_n C [(1, .int (x1 + 0)), (0, .ref (gad G b)), (2, .int x2)] dX6_unspentWorths_32 rfl (by decide) rfl ?_
        refine bw_iinc C [(2, .int (x2 + 1)), (1, .int (x1 + 0)), (0, .ref (gad G b))] 2 dX6_unspentWorths_33 rfl rfl (by decide) rfl ?_
        refine bw_goto C (tgt := 4) dX6_unspentWorths_36 (by decide) ?_
        exact bw_sub [2, 1, 0] rfl (ih (x1 + 0) (x2 + 1) q15.2 h)
def fn6_unspentWorths (b : Nat)  (w : Mem) : Option (Int32 × Mem) := fn6_unspentWorths_4 b (fun x1_4 x2_4 w_4 => some (x1_4, w_4)) 1000 0 0 w
set_option maxRecDepth 20000 in
theorem bk6_unspentWorths {M : MX} {G : GX} (C : BC M G shX 71 (eX G) RX6 cX6_unspentWorths 3 (some .int) rm6_unspentWorths) {z : Int32 × Mem} {b : Nat} (hb : isTown b)  {w : Mem} (h : fn6_unspentWorths b  w = some z) : BW M G shX 71 3 (ZR M G shX 71 (some .int) z) 0 [(0, .ref (gad G b))] [] w := by
  rw [fn6_unspentWorths] at h
  refine bw_iconst C (v := 0) dX6_unspentWorths_0 (by decide) ?_
  refine bw_istore_n C [(1, .int 0), (0, .ref (gad G b))] dX6_unspentWorths_1 rfl (by decide) rfl ?_
  refine bw_iconst C (v := 0) dX6_unspentWorths_2 (by decide) ?_
  refine bw_istore_n C [(2, .int 0), (1, .int 0), (0, .ref (gad G b))] dX6_unspentWorths_3 rfl (by decide) rfl ?_
  refine bw_sub [2, 1, 0] rfl (bk6_unspentWorths_4 C hb (fun x1_4 x2_4 w_4 h => ?_) 1000 0 0 w h)
  refine bw_iload_n C 0 dX6_unspentWorths_39 rfl rfl ?_
  exact bw_iret C dX6_unspentWorths_40 h
theorem mt6_unspentWorths {l : Launch} {G : GX} {b : Nat} (hb : isTown b)  {w : Mem} {z : Int32 × Mem} (h : fn6_unspentWorths b  w = some z) : MC l G shX 71 (eX G) yX6_unspentWorths cX6_unspentWorths 3 (some .int) rm6_unspentWorths [.ref (gad G b)] w z := by
  refine met_of (by decide +kernel) (eX_ok G) rfl (Nat.le_of_ble_eq_true rfl) (fun M hM C => ?_)
  subst hM
  exact bk6_unspentWorths C hb  h
def rm6_greatestUnspent : Room := { frames := 1, cells := 0, slots := 0, locals := 21 }
def fn6_greatestUnspent_4 (b : Nat) (x1 : Int32) (k : Int32 → Int32 → Mem → Option (Int32 × Mem)) : Nat → Int32 → Int32 → Mem → Option (Int32 × Mem)
  | 0, _, _, _ => none
  | nn + 1, x2, x3, w => (if (w b 4) ≤ x3 then k x2 x3 w else (if ib x3 6 = true then (if ¬ (w (b + 5) x3.toNatClampNeg) = x1 then fn6_greatestUnspent_4 b x1 k nn x2 (x3 + 1) w else (fn6_isSpent b x3 w).bind (fun q24 => (if ¬ q24.1 = 0 then fn6_greatestUnspent_4 b x1 k nn x2 (x3 + 1) q24.2 else (if ib x3 6 = true then fn6_greatestUnspent_4 b x1 k nn (if x2 < (q24.2 (b + 4) x3.toNatClampNeg) then (q24.2 (b + 4) x3.toNatClampNeg) else x2) (x3 + 1) q24.2 else none)))) else none))
set_option maxRecDepth 20000 in
theorem bk6_greatestUnspent_4 {M : MX} {G : GX} (C : BC M G shX 71 (eX G) RX6 cX6_greatestUnspent 4 (some .int) rm6_greatestUnspent) {z : Int32 × Mem} {b : Nat} (hb : isTown b) (x1 : Int32) {k : Int32 → Int32 → Mem → Option (Int32 × Mem)} (hk : ∀ (x2 : Int32) (x3 : Int32) (w : Mem), k x2 x3 w = some z → BW M G shX 71 4 (ZR M G shX 71 (some .int) z) 47 [(2, .int x2)] [] w) : ∀ (nn : Nat) (x2 : Int32) (x3 : Int32) (w : Mem), fn6_greatestUnspent_4 b x1 k nn x2 x3 w = some z → BW M G shX 71 4 (ZR M G shX 71 (some .int) z) 4 [(0, .ref (gad G b)), (1, .int x1), (2, .int x2), (3, .int x3)] [] w := by
  intro nn
  induction nn with
  | zero =>
    intro x2 x3 w h
    have h : (none : Option (Int32 × Mem)) = some z := h
    cases h
  | succ nn ih =>
    intro x2 x3 w h
    rw [fn6_greatestUnspent_4] at h
    refine bw_iload_n C 3 dX6_greatestUnspent_4 rfl rfl ?_
    refine bw_aload_n C 0 dX6_greatestUnspent_5 rfl rfl ?_
    refine bw_geti C (j := 4) (isT_lt hb) (isT_sh hb) rfl inlX6 (by decide) rfl flX6_50 dX6_greatestUnspent_6 ?_
    refine bw_icmp_ge C (tgt := 47) dX6_greatestUnspent_9 (by decide) h (fun h => ?_) (fun h => ?_)
    · exact bw_sub [2] rfl (hk x2 x3 w h)
    · refine bw_aload_n C 0 dX6_greatestUnspent_12 rfl rfl ?_
      refine bw_getr C (j := 6) (t := (b + 5)) (isT_lt hb) (isT_sh hb) rfl inlX6 (by decide) rfl flX6_24 dX6_greatestUnspent_13 ?_
      refine bw_iload_n C 3 dX6_greatestUnspent_16 rfl rfl ?_
      refine bw_iald C (isT_l5 hb) (isT_s5 hb) dX6_greatestUnspent_17 h (fun h => ?_)
      refine bw_iload_n C 1 dX6_greatestUnspent_18 rfl rfl ?_
      refine bw_icmp_ne C (tgt := 41) dX6_greatestUnspent_19 (by decide) h (fun h => ?_) (fun h => ?_)
      · refine bw_iinc C [(3, .int (x3 + 1)), (0, .ref (gad G b)), (1, .int x1), (2, .int x2)] 3 dX6_greatestUnspent_41 rfl rfl (by decide) rfl ?_
        refine bw_goto C (tgt := 4) dX6_greatestUnspent_44 (by decide) ?_
        exact bw_sub [1, 2, 3, 0] rfl (ih x2 (x3 + 1) w h)
      · refine bw_aload_n C 0 dX6_greatestUnspent_22 rfl rfl ?_
        refine bw_iload_n C 3 dX6_greatestUnspent_23 rfl rfl ?_
        refine bw_callVi C (As := [.int x3]) (isT_lt hb) (isT_sh hb) rfl miX6_isSpent mlX6_92 imX6_isSpent seX6_isSpent (by decide) rfl rfl (fun z1 h1 => mt6_isSpent hb h1) rfl (Nat.le_of_ble_eq_true rfl) rfl dX6_greatestUnspent_24 h (fun q24 _ h => ?_)
        refine bw_if_ne C (tgt := 41) dX6_greatestUnspent_27 (by decide) h (fun h => ?_) (fun h => ?_)
        · refine bw_iinc C [(3, .int (x3 + 1)), (0, .ref (gad G b)), (1, .int x1), (2, .int x2)] 3 dX6_greatestUnspent_41 rfl rfl (by decide) rfl ?_
          refine bw_goto C (tgt := 4) dX6_greatestUnspent_44 (by decide) ?_
          exact bw_sub [1, 2, 3, 0] rfl (ih x2 (x3 + 1) q24.2 h)
        · refine bw_iload_n C 2 dX6_greatestUnspent_30 rfl rfl ?_
          refine bw_aload_n C 0 dX6_greatestUnspent_31 rfl rfl ?_
          refine bw_getr C (j := 5) (t := (b + 4)) (isT_lt hb) (isT_sh hb) rfl inlX6 (by decide) rfl flX6_21 dX6_greatestUnspent_32 ?_
          refine bw_iload_n C 3 dX6_greatestUnspent_35 rfl rfl ?_
          refine bw_iald C (isT_l4 hb) (isT_s4 hb) dX6_greatestUnspent_36 h (fun h => ?_)
          refine bw_mmax C mlX6_83 mth_max_s mth_i mth_max_c (by decide) (Nat.le_of_ble_eq_true rfl) dX6_greatestUnspent_37 ?_
          refine bw_istore_n C [(2, .int (if x2 < (q24.2 (b + 4) x3.toNatClampNeg) then (q24.2 (b + 4) x3.toNatClampNeg) else x2)), (0, .ref (gad G b)), (1, .int x1), (3, .int x3)] dX6_greatestUnspent_40 rfl (by decide) rfl ?_
          refine bw_iinc C [(3, .int (x3 + 1)), (2, .int (if x2 < (q24.2 (b + 4) x3.toNatClampNeg) then (q24.2 (b + 4) x3.toNatClampNeg) else x2)), (0, .ref (gad G b)), (1, .int x1)] 3 dX6_greatestUnspent_41 rfl rfl (by decide) rfl ?_
          refine bw_goto C (tgt := 4) dX6_greatestUnspent_44 (by decide) ?_
          exact bw_sub [2, 3, 1, 0] rfl (ih (if x2 < (q24.2 (b + 4) x3.toNatClampNeg) then (q24.2 (b + 4) x3.toNatClampNeg) else x2) (x3 + 1) q24.2 h)
def fn6_greatestUnspent (b : Nat) (x1 : Int32) (w : Mem) : Option (Int32 × Mem) := fn6_greatestUnspent_4 b x1 (fun x2_4 x3_4 w_4 => some (x2_4, w_4)) 1000 0 0 w
set_option maxRecDepth 20000 in
theorem bk6_greatestUnspent {M : MX} {G : GX} (C : BC M G shX 71 (eX G) RX6 cX6_greatestUnspent 4 (some .int) rm6_greatestUnspent) {z : Int32 × Mem} {b : Nat} (hb : isTown b) (x1 : Int32) {w : Mem} (h : fn6_greatestUnspent b x1 w = some z) : BW M G shX 71 4 (ZR M G shX 71 (some .int) z) 0 [(0, .ref (gad G b)), (1, .int x1)] [] w := by
  rw [fn6_greatestUnspent] at h
  refine bw_iconst C (v := 0) dX6_greatestUnspent_0 (by decide) ?_
  refine bw_istore_n C [(2, .int 0), (0, .ref (gad G b)), (1, .int x1)] dX6_greatestUnspent_1 rfl (by decide) rfl ?_
  refine bw_iconst C (v := 0) dX6_greatestUnspent_2 (by decide) ?_
  refine bw_istore_n C [(3, .int 0), (2, .int 0), (0, .ref (gad G b)), (1, .int x1)] dX6_greatestUnspent_3 rfl (by decide) rfl ?_
  refine bw_sub [2, 3, 1, 0] rfl (bk6_greatestUnspent_4 C hb x1 (fun x2_4 x3_4 w_4 h => ?_) 1000 0 0 w h)
  refine bw_iload_n C 0 dX6_greatestUnspent_47 rfl rfl ?_
  exact bw_iret C dX6_greatestUnspent_48 h
theorem mt6_greatestUnspent {l : Launch} {G : GX} {b : Nat} (hb : isTown b) {x1 : Int32} {w : Mem} {z : Int32 × Mem} (h : fn6_greatestUnspent b x1 w = some z) : MC l G shX 71 (eX G) yX6_greatestUnspent cX6_greatestUnspent 4 (some .int) rm6_greatestUnspent [.ref (gad G b), .int x1] w z := by
  refine met_of (by decide +kernel) (eX_ok G) rfl (Nat.le_of_ble_eq_true rfl) (fun M hM C => ?_)
  subst hM
  exact bk6_greatestUnspent C hb x1 h
def rm6_raidedIn : Room := { frames := 4, cells := 0, slots := 0, locals := 83 }
def fn6_raidedIn_11 (b : Nat) (x2 : Int32) (k : Int32 → Int32 → Mem → Option (Int32 × Mem)) : Nat → Int32 → Int32 → Mem → Option (Int32 × Mem)
  | 0, _, _, _ => none
  | nn + 1, x3, x4, w => (if (w b 0) ≤ x4 then k x3 x4 w else (if ib x4 6 = true then (if (w (b + 1) x4.toNatClampNeg) = 4 then fn6_raidedIn_11 b x2 k nn x3 (x4 + 1) w else (fn7_hasBit x2 x4 w).bind (fun q34 => (if ¬ q34.1 = 0 then fn6_raidedIn_11 b x2 k nn x3 (x4 + 1) q34.2 else (fn6_greatestUnspent b x4 q34.2).bind (fun q44 => fn6_raidedIn_11 b x2 k nn (x3 + q44.1) (x4 + 1) q44.2)))) else none))
set_option maxRecDepth 20000 in
theorem bk6_raidedIn_11 {M : MX} {G : GX} (C : BC M G shX 71 (eX G) RX6 cX6_raidedIn 5 (some .int) rm6_raidedIn) {z : Int32 × Mem} {b : Nat} (hb : isTown b) (x2 : Int32) {k : Int32 → Int32 → Mem → Option (Int32 × Mem)} (hk : ∀ (x3 : Int32) (x4 : Int32) (w : Mem), k x3 x4 w = some z → BW M G shX 71 5 (ZR M G shX 71 (some .int) z) 55 [(3, .int x3)] [] w) : ∀ (nn : Nat) (x3 : Int32) (x4 : Int32) (w : Mem), fn6_raidedIn_11 b x2 k nn x3 x4 w = some z → BW M G shX 71 5 (ZR M G shX 71 (some .int) z) 11 [(0, .ref (gad G b)), (2, .int x2), (3, .int x3), (4, .int x4)] [] w := by
  intro nn
  induction nn with
  | zero =>
    intro x3 x4 w h
    have h : (none : Option (Int32 × Mem)) = some z := h
    cases h
  | succ nn ih =>
    intro x3 x4 w h
    rw [fn6_raidedIn_11] at h
    refine bw_iload C 3 dX6_raidedIn_11 rfl ?_
    refine bw_aload_n C 0 dX6_raidedIn_13 rfl rfl ?_
    refine bw_geti C (j := 0) (isT_lt hb) (isT_sh hb) rfl inlX6 (by decide) rfl flX6_46 dX6_raidedIn_14 ?_
    refine bw_icmp_ge C (tgt := 55) dX6_raidedIn_17 (by decide) h (fun h => ?_) (fun h => ?_)
    · exact bw_sub [2] rfl (hk x3 x4 w h)
    · refine bw_aload_n C 0 dX6_raidedIn_20 rfl rfl ?_
      refine bw_getr C (j := 1) (t := (b + 1)) (isT_lt hb) (isT_sh hb) rfl inlX6 (by decide) rfl flX6_9 dX6_raidedIn_21 ?_
      refine bw_iload C 3 dX6_raidedIn_24 rfl ?_
      refine bw_iald C (isT_l1 hb) (isT_s1 hb) dX6_raidedIn_26 h (fun h => ?_)
      refine bw_iconst C (v := 4) dX6_raidedIn_27 (by decide) ?_
      refine bw_icmp_eq C (tgt := 49) dX6_raidedIn_28 (by decide) h (fun h => ?_) (fun h => ?_)
      · refine bw_iinc C [(4, .int (x4 + 1)), (0, .ref (gad G b)), (2, .int x2), (3, .int x3)] 3 dX6_raidedIn_49 rfl rfl (by decide) rfl ?_
        refine bw_goto C (tgt := 11) dX6_raidedIn_52 (by decide) ?_
        exact bw_sub [1, 2, 3, 0] rfl (ih x3 (x4 + 1) w h)
      · refine bw_iload_n C 1 dX6_raidedIn_31 rfl rfl ?_
        refine bw_iload C 3 dX6_raidedIn_32 rfl ?_
        refine bw_callSNi C (As := [.int x2, .int x4]) miX7_hasBit (nstAt C.2.2.2.2.2.2.2.2.2.1.1 3 rfl) smX7_hasBit (by decide) rfl rfl (fun z1 h1 => mt7_hasBit h1) rfl (Nat.le_of_ble_eq_true rfl) rfl dX6_raidedIn_34 h (fun q34 _ h => ?_)
        refine bw_if_ne C (tgt := 49) dX6_raidedIn_37 (by decide) h (fun h => ?_) (fun h => ?_)
        · refine bw_iinc C [(4, .int (x4 + 1)), (0, .ref (gad G b)), (2, .int x2), (3, .int x3)] 3 dX6_raidedIn_49 rfl rfl (by decide) rfl ?_
          refine bw_goto C (tgt := 11) dX6_raidedIn_52 (by decide) ?_
          exact bw_sub [1, 2, 3, 0] rfl (ih x3 (x4 + 1) q34.2 h)
        · refine bw_iload_n C 2 dX6_raidedIn_40 rfl rfl ?_
          refine bw_aload_n C 0 dX6_raidedIn_41 rfl rfl ?_
          refine bw_iload C 3 dX6_raidedIn_42 rfl ?_
          refine bw_callVi C (As := [.int x4]) (isT_lt hb) (isT_sh hb) rfl miX6_greatestUnspent mlX6_114 imX6_greatestUnspent seX6_greatestUnspent (by decide) rfl rfl (fun z1 h1 => mt6_greatestUnspent hb h1) rfl (Nat.le_of_ble_eq_true rfl) rfl dX6_raidedIn_44 h (fun q44 _ h => ?_)
          refine bw_iadd C dX6_raidedIn_47 ?_
          refine bw_istore_n C [(3, .int (x3 + q44.1)), (0, .ref (gad G b)), (2, .int x2), (4, .int x4)] dX6_raidedIn_48 rfl (by decide) rfl ?_
          refine bw_iinc C [(4, .int (x4 + 1)), (3, .int (x3 + q44.1)), (0, .ref (gad G b)), (2, .int x2)] 3 dX6_raidedIn_49 rfl rfl (by decide) rfl ?_
          refine bw_goto C (tgt := 11) dX6_raidedIn_52 (by decide) ?_
          exact bw_sub [2, 3, 1, 0] rfl (ih (x3 + q44.1) (x4 + 1) q44.2 h)
def fn6_raidedIn (b : Nat) (x1 : Int32) (w : Mem) : Option (Int32 × Mem) := (fn6_silentOnes b x1 w).bind (fun q2 => fn6_raidedIn_11 b q2.1 (fun x3_11 x4_11 w_11 => some (x3_11, w_11)) 1000 0 0 q2.2)
set_option maxRecDepth 20000 in
theorem bk6_raidedIn {M : MX} {G : GX} (C : BC M G shX 71 (eX G) RX6 cX6_raidedIn 5 (some .int) rm6_raidedIn) {z : Int32 × Mem} {b : Nat} (hb : isTown b) (x1 : Int32) {w : Mem} (h : fn6_raidedIn b x1 w = some z) : BW M G shX 71 5 (ZR M G shX 71 (some .int) z) 0 [(0, .ref (gad G b)), (1, .int x1)] [] w := by
  rw [fn6_raidedIn] at h
  refine bw_aload_n C 0 dX6_raidedIn_0 rfl rfl ?_
  refine bw_iload_n C 1 dX6_raidedIn_1 rfl rfl ?_
  refine bw_callVi C (As := [.int x1]) (isT_lt hb) (isT_sh hb) rfl miX6_silentOnes mlX6_103 imX6_silentOnes seX6_silentOnes (by decide) rfl rfl (fun z1 h1 => mt6_silentOnes hb h1) rfl (Nat.le_of_ble_eq_true rfl) rfl dX6_raidedIn_2 h (fun q2 _ h => ?_)
  refine bw_istore_n C [(2, .int q2.1), (0, .ref (gad G b)), (1, .int x1)] dX6_raidedIn_5 rfl (by decide) rfl ?_
  refine bw_iconst C (v := 0) dX6_raidedIn_6 (by decide) ?_
  refine bw_istore_n C [(3, .int 0), (2, .int q2.1), (0, .ref (gad G b)), (1, .int x1)] dX6_raidedIn_7 rfl (by decide) rfl ?_
  refine bw_iconst C (v := 0) dX6_raidedIn_8 (by decide) ?_
  refine bw_istore C [(4, .int 0), (3, .int 0), (2, .int q2.1), (0, .ref (gad G b)), (1, .int x1)] dX6_raidedIn_9 (by decide) rfl ?_
  refine bw_sub [3, 2, 1, 0] rfl (bk6_raidedIn_11 C hb q2.1 (fun x3_11 x4_11 w_11 h => ?_) 1000 0 0 q2.2 h)
  refine bw_iload_n C 0 dX6_raidedIn_55 rfl rfl ?_
  exact bw_iret C dX6_raidedIn_56 h
theorem mt6_raidedIn {l : Launch} {G : GX} {b : Nat} (hb : isTown b) {x1 : Int32} {w : Mem} {z : Int32 × Mem} (h : fn6_raidedIn b x1 w = some z) : MC l G shX 71 (eX G) yX6_raidedIn cX6_raidedIn 5 (some .int) rm6_raidedIn [.ref (gad G b), .int x1] w z := by
  refine met_of (by decide +kernel) (eX_ok G) rfl (Nat.le_of_ble_eq_true rfl) (fun M hM C => ?_)
  subst hM
  exact bk6_raidedIn C hb x1 h
def rm6_priceAfter : Room := { frames := 2, cells := 0, slots := 0, locals := 43 }
def fn6_priceAfter_11 (b : Nat) (x1 : Int32) (x2 : Int32) (k : Int32 → Int32 → Mem → Option (Int32 × Mem)) : Nat → Int32 → Int32 → Mem → Option (Int32 × Mem)
  | 0, _, _, _ => none
  | nn + 1, x3, x4, w => (if (w b 0) ≤ x4 then k x3 x4 w else (if ib x4 6 = true then (if ib x4 6 = true then (if x2 = 0 then none else fn6_priceAfter_11 b x1 x2 k nn (x3 + (if ((w (b + 3) x4.toNatClampNeg) / x2) < (w (b + 2) x4.toNatClampNeg) then ((w (b + 3) x4.toNatClampNeg) / x2) else (w (b + 2) x4.toNatClampNeg))) (x4 + 1) w) else none) else none))
set_option maxRecDepth 20000 in
theorem bk6_priceAfter_11 {M : MX} {G : GX} (C : BC M G shX 71 (eX G) RX6 cX6_priceAfter 5 (some .int) rm6_priceAfter) {z : Int32 × Mem} {b : Nat} (hb : isTown b) (x1 : Int32) (x2 : Int32) {k : Int32 → Int32 → Mem → Option (Int32 × Mem)} (hk : ∀ (x3 : Int32) (x4 : Int32) (w : Mem), k x3 x4 w = some z → BW M G shX 71 5 (ZR M G shX 71 (some .int) z) 48 [(0, .ref (gad G b)), (1, .int x1), (3, .int x3)] [] w) : ∀ (nn : Nat) (x3 : Int32) (x4 : Int32) (w : Mem), fn6_priceAfter_11 b x1 x2 k nn x3 x4 w = some z → BW M G shX 71 5 (ZR M G shX 71 (some .int) z) 11 [(0, .ref (gad G b)), (1, .int x1), (2, .int x2), (3, .int x3), (4, .int x4)] [] w := by
  intro nn
  induction nn with
  | zero =>
    intro x3 x4 w h
    have h : (none : Option (Int32 × Mem)) = some z := h
    cases h
  | succ nn ih =>
    intro x3 x4 w h
    rw [fn6_priceAfter_11] at h
    refine bw_iload C 4 dX6_priceAfter_11 rfl ?_
    refine bw_aload_n C 0 dX6_priceAfter_13 rfl rfl ?_
    refine bw_geti C (j := 0) (isT_lt hb) (isT_sh hb) rfl inlX6 (by decide) rfl flX6_46 dX6_priceAfter_14 ?_
    refine bw_icmp_ge C (tgt := 48) dX6_priceAfter_17 (by decide) h (fun h => ?_) (fun h => ?_)
    · exact bw_sub [0, 1, 3] rfl (hk x3 x4 w h)
    · refine bw_iload_n C 3 dX6_priceAfter_20 rfl rfl ?_
      refine bw_aload_n C 0 dX6_priceAfter_21 rfl rfl ?_
      refine bw_getr C (j := 2) (t := (b + 2)) (isT_lt hb) (isT_sh hb) rfl inlX6 (by decide) rfl flX6_15 dX6_priceAfter_22 ?_
      refine bw_iload C 4 dX6_priceAfter_25 rfl ?_
      refine bw_iald C (isT_l2 hb) (isT_s2 hb) dX6_priceAfter_27 h (fun h => ?_)
      refine bw_aload_n C 0 dX6_priceAfter_28 rfl rfl ?_
      refine bw_getr C (j := 3) (t := (b + 3)) (isT_lt hb) (isT_sh hb) rfl inlX6 (by decide) rfl flX6_18 dX6_priceAfter_29 ?_
      refine bw_iload C 4 dX6_priceAfter_32 rfl ?_
      refine bw_iald C (isT_l3 hb) (isT_s3 hb) dX6_priceAfter_34 h (fun h => ?_)
      refine bw_iload_n C 2 dX6_priceAfter_35 rfl rfl ?_
      refine bw_idiv C dX6_priceAfter_36 h (fun h => ?_)
      refine bw_mmin C mlX6_117 mth_min_s mth_i mth_min_c (by decide) (Nat.le_of_ble_eq_true rfl) dX6_priceAfter_37 ?_
      refine bw_iadd C dX6_priceAfter_40 ?_
      refine bw_istore_n C [(3, .int (x3 + (if ((w (b + 3) x4.toNatClampNeg) / x2) < (w (b + 2) x4.toNatClampNeg) then ((w (b + 3) x4.toNatClampNeg) / x2) else (w (b + 2) x4.toNatClampNeg)))), (0, .ref (gad G b)), (1, .int x1), (2, .int x2), (4, .int x4)] dX6_priceAfter_41 rfl (by decide) rfl ?_
      refine bw_iinc C [(4, .int (x4 + 1)), (3, .int (x3 + (if ((w (b + 3) x4.toNatClampNeg) / x2) < (w (b + 2) x4.toNatClampNeg) then ((w (b + 3) x4.toNatClampNeg) / x2) else (w (b + 2) x4.toNatClampNeg)))), (0, .ref (gad G b)), (1, .int x1), (2, .int x2)] 4 dX6_priceAfter_42 rfl rfl (by decide) rfl ?_
      refine bw_goto C (tgt := 11) dX6_priceAfter_45 (by decide) ?_
      exact bw_sub [2, 3, 4, 1, 0] rfl (ih (x3 + (if ((w (b + 3) x4.toNatClampNeg) / x2) < (w (b + 2) x4.toNatClampNeg) then ((w (b + 3) x4.toNatClampNeg) / x2) else (w (b + 2) x4.toNatClampNeg))) (x4 + 1) w h)
def fn6_priceAfter (b : Nat) (x1 : Int32) (w : Mem) : Option (Int32 × Mem) := fn6_priceAfter_11 b x1 (if 1 < x1 then x1 else 1) (fun x3_11 x4_11 w_11 => (fn6_unspentWorths b w_11).bind (fun q49 => (if x3_11 ≤ q49.1 then (if q49.1 ≤ x3_11 then some (x1, q49.2) else some ((if 1 < (x1 - 1) then (x1 - 1) else 1), q49.2)) else some ((if (x1 + 1) < 99 then (x1 + 1) else 99), q49.2)))) 1000 0 0 w
set_option maxRecDepth 20000 in
theorem bk6_priceAfter {M : MX} {G : GX} (C : BC M G shX 71 (eX G) RX6 cX6_priceAfter 5 (some .int) rm6_priceAfter) {z : Int32 × Mem} {b : Nat} (hb : isTown b) (x1 : Int32) {w : Mem} (h : fn6_priceAfter b x1 w = some z) : BW M G shX 71 5 (ZR M G shX 71 (some .int) z) 0 [(0, .ref (gad G b)), (1, .int x1)] [] w := by
  rw [fn6_priceAfter] at h
  refine bw_iconst C (v := 1) dX6_priceAfter_0 (by decide) ?_
  refine bw_iload_n C 1 dX6_priceAfter_1 rfl rfl ?_
  refine bw_mmax C mlX6_83 mth_max_s mth_i mth_max_c (by decide) (Nat.le_of_ble_eq_true rfl) dX6_priceAfter_2 ?_
  refine bw_istore_n C [(2, .int (if 1 < x1 then x1 else 1)), (0, .ref (gad G b)), (1, .int x1)] dX6_priceAfter_5 rfl (by decide) rfl ?_
  refine bw_iconst C (v := 0) dX6_priceAfter_6 (by decide) ?_
  refine bw_istore_n C [(3, .int 0), (2, .int (if 1 < x1 then x1 else 1)), (0, .ref (gad G b)), (1, .int x1)] dX6_priceAfter_7 rfl (by decide) rfl ?_
  refine bw_iconst C (v := 0) dX6_priceAfter_8 (by decide) ?_
  refine bw_istore C [(4, .int 0), (3, .int 0), (2, .int (if 1 < x1 then x1 else 1)), (0, .ref (gad G b)), (1, .int x1)] dX6_priceAfter_9 (by decide) rfl ?_
  refine bw_sub [3, 4, 2, 1, 0] rfl (bk6_priceAfter_11 C hb x1 (if 1 < x1 then x1 else 1) (fun x3_11 x4_11 w_11 h => ?_) 1000 0 0 w h)
  refine bw_aload_n C 0 dX6_priceAfter_48 rfl rfl ?_
  refine bw_callVi C (As := []) (isT_lt hb) (isT_sh hb) rfl miX6_unspentWorths mlX6_120 imX6_unspentWorths seX6_unspentWorths (by decide) rfl rfl (fun z1 h1 => mt6_unspentWorths hb h1) rfl (Nat.le_of_ble_eq_true rfl) rfl dX6_priceAfter_49 h (fun q49 _ h => ?_)
  refine bw_istore C [(4, .int q49.1), (0, .ref (gad G b)), (1, .int x1), (3, .int x3_11)] dX6_priceAfter_52 (by decide) rfl ?_
  refine bw_iload_n C 3 dX6_priceAfter_54 rfl rfl ?_
  refine bw_iload C 0 dX6_priceAfter_55 rfl ?_
  refine bw_icmp_le C (tgt := 69) dX6_priceAfter_57 (by decide) h (fun h => ?_) (fun h => ?_)
  · refine bw_iload_n C 3 dX6_priceAfter_69 rfl rfl ?_
    refine bw_iload C 0 dX6_priceAfter_70 rfl ?_
    refine bw_icmp_ge C (tgt := 85) dX6_priceAfter_72 (by decide) h (fun h => ?_) (fun h => ?_)
    · refine bw_iload_n C 2 dX6_priceAfter_85 rfl rfl ?_
      exact bw_iret C dX6_priceAfter_86 h
    · refine bw_iconst C (v := 1) dX6_priceAfter_75 (by decide) ?_
      refine bw_iload_n C 2 dX6_priceAfter_76 rfl rfl ?_
      refine bw_iconst C (v := 1) dX6_priceAfter_77 (by decide) ?_
      refine bw_isub C dX6_priceAfter_78 ?_
      refine bw_mmax C mlX6_83 mth_max_s mth_i mth_max_c (by decide) (Nat.le_of_ble_eq_true rfl) dX6_priceAfter_79 ?_
      refine bw_goto C (tgt := 86) dX6_priceAfter_82 (by decide) ?_
      exact bw_iret C dX6_priceAfter_86 h
  · refine bw_bipush C (v := 99) dX6_priceAfter_60 (by decide) ?_
    refine bw_iload_n C 2 dX6_priceAfter_62 rfl rfl ?_
    refine bw_iconst C (v := 1) dX6_priceAfter_63 (by decide) ?_
    refine bw_iadd C dX6_priceAfter_64 ?_
    refine bw_mmin C mlX6_117 mth_min_s mth_i mth_min_c (by decide) (Nat.le_of_ble_eq_true rfl) dX6_priceAfter_65 ?_
    exact bw_iret C dX6_priceAfter_68 h
theorem mt6_priceAfter {l : Launch} {G : GX} {b : Nat} (hb : isTown b) {x1 : Int32} {w : Mem} {z : Int32 × Mem} (h : fn6_priceAfter b x1 w = some z) : MC l G shX 71 (eX G) yX6_priceAfter cX6_priceAfter 5 (some .int) rm6_priceAfter [.ref (gad G b), .int x1] w z := by
  refine met_of (by decide +kernel) (eX_ok G) rfl (Nat.le_of_ble_eq_true rfl) (fun M hM C => ?_)
  subst hM
  exact bk6_priceAfter C hb x1 h
def rm7_feed : Room := { frames := 1, cells := 0, slots := 0, locals := 23 }
def fn7_feed  (x1 : Int64) (w : Mem) : Option (Int32 × Mem) := (fn4_append x1 w).bind (fun q5 => some (q5.1, q5.2))
set_option maxRecDepth 20000 in
theorem bk7_feed {M : MX} {G : GX} (C : BC M G shX 71 (eX G) RX7 cX7_feed 3 (some .int) rm7_feed) {z : Int32 × Mem}   (x1 : Int64) {w : Mem} (h : fn7_feed  x1 w = some z) : BW M G shX 71 3 (ZR M G shX 71 (some .int) z) 0 [(0, .ref (gad G 0)), (1, .long x1)] [] w := by
  rw [fn7_feed] at h
  refine bw_aload_n C 0 dX7_feed_0 rfl rfl ?_
  refine bw_getr C (j := 0) (t := 53) lX0 sX0 rfl inlX7 (by decide) rfl flX7_10 dX7_feed_1 ?_
  refine bw_lload_n C 1 dX7_feed_4 rfl rfl ?_
  refine bw_callVi C (As := [.long x1]) lX53 sX53 rfl miX4_append mlX7_70 imX4_append seX4_append (by decide) rfl rfl (fun z1 h1 => mt4_append h1) rfl (Nat.le_of_ble_eq_true rfl) rfl dX7_feed_5 h (fun q5 _ h => ?_)
  exact bw_iret C dX7_feed_8 h
theorem mt7_feed {l : Launch} {G : GX}   {x1 : Int64} {w : Mem} {z : Int32 × Mem} (h : fn7_feed  x1 w = some z) : MC l G shX 71 (eX G) yX7_feed cX7_feed 3 (some .int) rm7_feed [.ref (gad G 0), .long x1] w z := by
  refine met_of (by decide +kernel) (eX_ok G) rfl (Nat.le_of_ble_eq_true rfl) (fun M hM C => ?_)
  subst hM
  exact bk7_feed C  x1 h
