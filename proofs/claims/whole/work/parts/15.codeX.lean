def rm7_end : Room := { frames := 1, cells := 0, slots := 0, locals := 22 }
def fn7_end  (x1 : Int32) (w : Mem) : Option (Int32 × Mem) := (fn4_cutTo x1 w).bind (fun q5 => some (q5.1, q5.2))
set_option maxRecDepth 20000 in
theorem bk7_end {M : MX} {G : GX} (C : BC M G shX 71 (eX G) RX7 cX7_end 2 (some .int) rm7_end) {z : Int32 × Mem}   (x1 : Int32) {w : Mem} (h : fn7_end  x1 w = some z) : BW M G shX 71 2 (ZR M G shX 71 (some .int) z) 0 [(0, .ref (gad G 0)), (1, .int x1)] [] w := by
  rw [fn7_end] at h
  refine bw_aload_n C 0 dX7_end_0 rfl rfl ?_
  refine bw_getr C (j := 0) (t := 53) lX0 sX0 rfl inlX7 (by decide) rfl flX7_10 dX7_end_1 ?_
  refine bw_iload_n C 1 dX7_end_4 rfl rfl ?_
  refine bw_callVi C (As := [.int x1]) lX53 sX53 rfl miX4_cutTo mlX7_74 imX4_cutTo seX4_cutTo (by decide) rfl rfl (fun z1 h1 => mt4_cutTo h1) rfl (Nat.le_of_ble_eq_true rfl) rfl dX7_end_5 h (fun q5 _ h => ?_)
  exact bw_iret C dX7_end_8 h
theorem mt7_end {l : Launch} {G : GX}   {x1 : Int32} {w : Mem} {z : Int32 × Mem} (h : fn7_end  x1 w = some z) : MC l G shX 71 (eX G) yX7_end cX7_end 2 (some .int) rm7_end [.ref (gad G 0), .int x1] w z := by
  refine met_of (by decide +kernel) (eX_ok G) rfl (Nat.le_of_ble_eq_true rfl) (fun M hM C => ?_)
  subst hM
  exact bk7_end C  x1 h
def rm7_text : Room := { frames := 9, cells := 0, slots := 0, locals := 215 }
def fn7_text_63 (k : Int32 → Mem → Option (Int32 × Mem)) : Nat → Int32 → Mem → Option (Int32 × Mem)
  | 0, _, _ => none
  | nn + 1, x2, w => (if 2 ≤ x2 then k x2 w else (if ib x2 2 = true then fn7_text_63 k nn (x2 + 1) (up2 w 69 x2.toNatClampNeg (vp_nar .boolean 0)) else none))
set_option maxRecDepth 20000 in
theorem bk7_text_63 {M : MX} {G : GX} (C : BC M G shX 71 (eX G) RX7 cX7_text 3 (some .int) rm7_text) {z : Int32 × Mem} {k : Int32 → Mem → Option (Int32 × Mem)} (hk : ∀ (x2 : Int32) (w : Mem), k x2 w = some z → BW M G shX 71 3 (ZR M G shX 71 (some .int) z) 81 [(0, .ref (gad G 0))] [] w) : ∀ (nn : Nat) (x2 : Int32) (w : Mem), fn7_text_63 k nn x2 w = some z → BW M G shX 71 3 (ZR M G shX 71 (some .int) z) 63 [(0, .ref (gad G 0)), (2, .int x2)] [] w := by
  intro nn
  induction nn with
  | zero =>
    intro x2 w h
    have h : (none : Option (Int32 × Mem)) = some z := h
    cases h
  | succ nn ih =>
    intro x2 w h
    rw [fn7_text_63] at h
    refine bw_iload_n C 1 dX7_text_63 rfl rfl ?_
    refine bw_iconst C (v := 2) dX7_text_64 (by decide) ?_
    refine bw_icmp_ge C (tgt := 81) dX7_text_65 (by decide) h (fun h => ?_) (fun h => ?_)
    · exact bw_sub [0] rfl (hk x2 w h)
    · refine bw_aload_n C 0 dX7_text_68 rfl rfl ?_
      refine bw_getr C (j := 7) (t := 69) lX0 sX0 rfl inlX7 (by decide) rfl flX7_59 dX7_text_69 ?_
      refine bw_iload_n C 1 dX7_text_72 rfl rfl ?_
      refine bw_iconst C (v := 0) dX7_text_73 (by decide) ?_
      refine bw_zast C lX69 sX69 dX7_text_74 h (fun h => ?_)
      refine bw_iinc C [(2, .int (x2 + 1)), (0, .ref (gad G 0))] 1 dX7_text_75 rfl rfl (by decide) rfl ?_
      refine bw_goto C (tgt := 63) dX7_text_78 (by decide) ?_
      exact bw_sub [1, 0] rfl (ih (x2 + 1) (up2 w 69 x2.toNatClampNeg (vp_nar .boolean 0)) h)
def fn7_text   (w : Mem) : Option (Int32 × Mem) := (fn5_readTape w).bind (fun q4 => (if ¬ q4.1 = 0 then (fn6_copyFrom 1 12 (up2 q4.2 53 1 0)).bind (fun q42 => fn7_text_63 (fun x2_63 w_63 => some ((w_63 55 1), w_63)) 1000 0 (up2 (up2 q42.2 56 0 0) 64 0 0)) else some (((-10) - ((up2 q4.2 53 1 0) 55 3)), (up2 q4.2 53 1 0))))
set_option maxRecDepth 20000 in
theorem bk7_text {M : MX} {G : GX} (C : BC M G shX 71 (eX G) RX7 cX7_text 3 (some .int) rm7_text) {z : Int32 × Mem}    {w : Mem} (h : fn7_text   w = some z) : BW M G shX 71 3 (ZR M G shX 71 (some .int) z) 0 [(0, .ref (gad G 0))] [] w := by
  rw [fn7_text] at h
  refine bw_aload_n C 0 dX7_text_0 rfl rfl ?_
  refine bw_getr C (j := 1) (t := 55) lX0 sX0 rfl inlX7 (by decide) rfl flX7_21 dX7_text_1 ?_
  refine bw_callVi C (As := []) lX55 sX55 rfl miX5_readTape mlX7_78 imX5_readTape seX5_readTape (by decide) rfl rfl (fun z1 h1 => mt5_readTape h1) rfl (Nat.le_of_ble_eq_true rfl) rfl dX7_text_4 h (fun q4 _ h => ?_)
  refine bw_istore_n C [(1, .int q4.1), (0, .ref (gad G 0))] dX7_text_7 rfl (by decide) rfl ?_
  refine bw_aload_n C 1 dX7_text_8 rfl rfl ?_
  refine bw_getr C (j := 0) (t := 53) lX0 sX0 rfl inlX7 (by decide) rfl flX7_10 dX7_text_9 ?_
  refine bw_iconst C (v := 0) dX7_text_12 (by decide) ?_
  refine bw_puti C (j := 1) (ty := .int) lX53 sX53 rfl inlX4 (by decide) tyX4 tyX4_ok nmX4 rfl flX7_82 rfl (by decide +kernel) rfl rfl dX7_text_13 ?_
  refine bw_iload_n C 0 dX7_text_16 rfl rfl ?_
  refine bw_if_ne C (tgt := 31) dX7_text_17 (by decide) h (fun h => ?_) (fun h => ?_)
  · refine bw_aload_n C 1 dX7_text_31 rfl rfl ?_
    refine bw_getr C (j := 2) (t := 1) lX0 sX0 rfl inlX7 (by decide) rfl flX7_28 dX7_text_32 ?_
    refine bw_aload_n C 1 dX7_text_35 rfl rfl ?_
    refine bw_getr C (j := 1) (t := 55) lX0 sX0 rfl inlX7 (by decide) rfl flX7_21 dX7_text_36 ?_
    refine bw_getr C (j := 0) (t := 12) lX55 sX55 rfl inlX5 (by decide) rfl flX7_89 dX7_text_39 ?_
    refine bw_callVv C (As := [.ref (gad G 12)]) lX1 sX1 rfl miX6_copyFrom mlX7_92 imX6_copyFrom seX6_copyFrom (by decide) rfl rfl (fun z1 h1 => mt6_copyFrom isT_1 isT_12 h1) rfl (Nat.le_of_ble_eq_true rfl) rfl dX7_text_42 h (fun q42 _ h => ?_)
    refine bw_aload_n C 1 dX7_text_45 rfl rfl ?_
    refine bw_getr C (j := 3) (t := 56) lX0 sX0 rfl inlX7 (by decide) rfl flX7_37 dX7_text_46 ?_
    refine bw_iconst C (v := 0) dX7_text_49 (by decide) ?_
    refine bw_puti C (j := 0) (ty := .int) lX56 sX56 rfl inlX2 (by decide) tyX2 tyX2_ok nmX2 rfl flX7_95 rfl (by decide +kernel) rfl rfl dX7_text_50 ?_
    refine bw_aload_n C 1 dX7_text_53 rfl rfl ?_
    refine bw_getr C (j := 5) (t := 64) lX0 sX0 rfl inlX7 (by decide) rfl flX7_51 dX7_text_54 ?_
    refine bw_iconst C (v := 0) dX7_text_57 (by decide) ?_
    refine bw_puti C (j := 0) (ty := .int) lX64 sX64 rfl inlX1 (by decide) tyX1 tyX1_ok nmX1 rfl flX7_98 rfl (by decide +kernel) rfl rfl dX7_text_58 ?_
    refine bw_iconst C (v := 0) dX7_text_61 (by decide) ?_
    refine bw_istore_n C [(2, .int 0), (1, .int q4.1), (0, .ref (gad G 0))] dX7_text_62 rfl (by decide) rfl ?_
    refine bw_sub [2, 0] rfl (bk7_text_63 C (fun x2_63 w_63 h => ?_) 1000 0 (up2 (up2 q42.2 56 0 0) 64 0 0) h)
    refine bw_aload_n C 0 dX7_text_81 rfl rfl ?_
    refine bw_getr C (j := 1) (t := 55) lX0 sX0 rfl inlX7 (by decide) rfl flX7_21 dX7_text_82 ?_
    refine bw_geti C (j := 1) lX55 sX55 rfl inlX5 (by decide) rfl flX7_101 dX7_text_85 ?_
    exact bw_iret C dX7_text_88 h
  · refine bw_bipush C (v := (-10)) dX7_text_20 (by decide) ?_
    refine bw_aload_n C 1 dX7_text_22 rfl rfl ?_
    refine bw_getr C (j := 1) (t := 55) lX0 sX0 rfl inlX7 (by decide) rfl flX7_21 dX7_text_23 ?_
    refine bw_geti C (j := 3) lX55 sX55 rfl inlX5 (by decide) rfl flX7_86 dX7_text_26 ?_
    refine bw_isub C dX7_text_29 ?_
    exact bw_iret C dX7_text_30 h
theorem mt7_text {l : Launch} {G : GX}    {w : Mem} {z : Int32 × Mem} (h : fn7_text   w = some z) : MC l G shX 71 (eX G) yX7_text cX7_text 3 (some .int) rm7_text [.ref (gad G 0)] w z := by
  refine met_of (by decide +kernel) (eX_ok G) rfl (Nat.le_of_ble_eq_true rfl) (fun M hM C => ?_)
  subst hM
  exact bk7_text C   h
def rm7_fault : Room := { frames := 0, cells := 0, slots := 0, locals := 0 }
def fn7_fault   (w : Mem) : Option (Int32 × Mem) := some ((w 55 2), w)
set_option maxRecDepth 20000 in
theorem bk7_fault {M : MX} {G : GX} (C : BC M G shX 71 (eX G) RX7 cX7_fault 1 (some .int) rm7_fault) {z : Int32 × Mem}    {w : Mem} (h : fn7_fault   w = some z) : BW M G shX 71 1 (ZR M G shX 71 (some .int) z) 0 [(0, .ref (gad G 0))] [] w := by
  rw [fn7_fault] at h
  refine bw_aload_n C 0 dX7_fault_0 rfl rfl ?_
  refine bw_getr C (j := 1) (t := 55) lX0 sX0 rfl inlX7 (by decide) rfl flX7_21 dX7_fault_1 ?_
  refine bw_geti C (j := 2) lX55 sX55 rfl inlX5 (by decide) rfl flX7_104 dX7_fault_4 ?_
  exact bw_iret C dX7_fault_7 h
theorem mt7_fault {l : Launch} {G : GX}    {w : Mem} {z : Int32 × Mem} (h : fn7_fault   w = some z) : MC l G shX 71 (eX G) yX7_fault cX7_fault 1 (some .int) rm7_fault [.ref (gad G 0)] w z := by
  refine met_of (by decide +kernel) (eX_ok G) rfl (Nat.le_of_ble_eq_true rfl) (fun M hM C => ?_)
  subst hM
  exact bk7_fault C   h
def rm7_rule : Room := { frames := 0, cells := 0, slots := 0, locals := 0 }
def fn7_rule  (x1 : Int32) (w : Mem) : Option (Int32 × Mem) := (if x1 = 0 then some ((w 1 0), w) else (if x1 = 1 then some ((w 1 4), w) else (if x1 = 2 then some ((w 1 9), w) else (if x1 = 3 then some ((w 1 13), w) else (if x1 = 4 then some ((w 1 14), w) else some ((-1), w))))))
set_option maxRecDepth 20000 in
theorem bk7_rule {M : MX} {G : GX} (C : BC M G shX 71 (eX G) RX7 cX7_rule 2 (some .int) rm7_rule) {z : Int32 × Mem}   (x1 : Int32) {w : Mem} (h : fn7_rule  x1 w = some z) : BW M G shX 71 2 (ZR M G shX 71 (some .int) z) 0 [(0, .ref (gad G 0)), (1, .int x1)] [] w := by
  rw [fn7_rule] at h
  refine bw_iload_n C 1 dX7_rule_0 rfl rfl ?_
  refine bw_case h (fun hx h => ?_) (fun hn0 h => ?_)
  · refine bw_tsIn C (tgt := 36) (v := 0) dX7_rule_1 hx (by decide) (by decide) rfl (by decide) ?_
    refine bw_aload_n C 0 dX7_rule_36 rfl rfl ?_
    refine bw_getr C (j := 2) (t := 1) lX0 sX0 rfl inlX7 (by decide) rfl flX7_28 dX7_rule_37 ?_
    refine bw_geti C (j := 0) lX1 sX1 rfl inlX6 (by decide) rfl flX7_107 dX7_rule_40 ?_
    exact bw_iret C dX7_rule_43 h
  · refine bw_case h (fun hx h => ?_) (fun hn1 h => ?_)
    · refine bw_tsIn C (tgt := 44) (v := 1) dX7_rule_1 hx (by decide) (by decide) rfl (by decide) ?_
      refine bw_aload_n C 0 dX7_rule_44 rfl rfl ?_
      refine bw_getr C (j := 2) (t := 1) lX0 sX0 rfl inlX7 (by decide) rfl flX7_28 dX7_rule_45 ?_
      refine bw_geti C (j := 4) lX1 sX1 rfl inlX6 (by decide) rfl flX7_110 dX7_rule_48 ?_
      exact bw_iret C dX7_rule_51 h
    · refine bw_case h (fun hx h => ?_) (fun hn2 h => ?_)
      · refine bw_tsIn C (tgt := 52) (v := 2) dX7_rule_1 hx (by decide) (by decide) rfl (by decide) ?_
        refine bw_aload_n C 0 dX7_rule_52 rfl rfl ?_
        refine bw_getr C (j := 2) (t := 1) lX0 sX0 rfl inlX7 (by decide) rfl flX7_28 dX7_rule_53 ?_
        refine bw_geti C (j := 9) lX1 sX1 rfl inlX6 (by decide) rfl flX7_113 dX7_rule_56 ?_
        exact bw_iret C dX7_rule_59 h
      · refine bw_case h (fun hx h => ?_) (fun hn3 h => ?_)
        · refine bw_tsIn C (tgt := 60) (v := 3) dX7_rule_1 hx (by decide) (by decide) rfl (by decide) ?_
          refine bw_aload_n C 0 dX7_rule_60 rfl rfl ?_
          refine bw_getr C (j := 2) (t := 1) lX0 sX0 rfl inlX7 (by decide) rfl flX7_28 dX7_rule_61 ?_
          refine bw_geti C (j := 13) lX1 sX1 rfl inlX6 (by decide) rfl flX7_116 dX7_rule_64 ?_
          exact bw_iret C dX7_rule_67 h
        · refine bw_case h (fun hx h => ?_) (fun hn4 h => ?_)
          · refine bw_tsIn C (tgt := 68) (v := 4) dX7_rule_1 hx (by decide) (by decide) rfl (by decide) ?_
            refine bw_aload_n C 0 dX7_rule_68 rfl rfl ?_
            refine bw_getr C (j := 2) (t := 1) lX0 sX0 rfl inlX7 (by decide) rfl flX7_28 dX7_rule_69 ?_
            refine bw_geti C (j := 14) lX1 sX1 rfl inlX6 (by decide) rfl flX7_119 dX7_rule_72 ?_
            exact bw_iret C dX7_rule_75 h
          · refine bw_tsOut C (tgt := 76) dX7_rule_1 (sw_out (lo := 0) (hi := 4) (fun q h1 h2 => ?_)) (by decide) ?_
            · rcases (show q = 0 ∨ q = 1 ∨ q = 2 ∨ q = 3 ∨ q = 4 by omega) with e | e | e | e | e
              · exact fun g => hn0 (sw_eq g (by rw [e]; decide))
              · exact fun g => hn1 (sw_eq g (by rw [e]; decide))
              · exact fun g => hn2 (sw_eq g (by rw [e]; decide))
              · exact fun g => hn3 (sw_eq g (by rw [e]; decide))
              · exact fun g => hn4 (sw_eq g (by rw [e]; decide))
            · refine bw_iconst C (v := (-1)) dX7_rule_76 (by decide) ?_
              exact bw_iret C dX7_rule_77 h
theorem mt7_rule {l : Launch} {G : GX}   {x1 : Int32} {w : Mem} {z : Int32 × Mem} (h : fn7_rule  x1 w = some z) : MC l G shX 71 (eX G) yX7_rule cX7_rule 2 (some .int) rm7_rule [.ref (gad G 0), .int x1] w z := by
  refine met_of (by decide +kernel) (eX_ok G) rfl (Nat.le_of_ble_eq_true rfl) (fun M hM C => ?_)
  subst hM
  exact bk7_rule C  x1 h
def rm7_one : Room := { frames := 1, cells := 0, slots := 0, locals := 21 }
def fn7_one  (x1 : Int32) (x2 : Int32) (w : Mem) : Option (Int32 × Mem) := (fn6_hasOne 1 x1 w).bind (fun q5 => (if ¬ q5.1 = 0 then (if x2 = 0 then (if ib x1 6 = true then some ((q5.2 2 x1.toNatClampNeg), q5.2) else none) else (if x2 = 1 then (if ib x1 6 = true then some ((q5.2 3 x1.toNatClampNeg), q5.2) else none) else (if x2 = 2 then (if ib x1 6 = true then some ((q5.2 4 x1.toNatClampNeg), q5.2) else none) else some ((-1), q5.2)))) else some ((-1), q5.2)))
set_option maxRecDepth 20000 in
theorem bk7_one {M : MX} {G : GX} (C : BC M G shX 71 (eX G) RX7 cX7_one 3 (some .int) rm7_one) {z : Int32 × Mem}   (x1 : Int32) (x2 : Int32) {w : Mem} (h : fn7_one  x1 x2 w = some z) : BW M G shX 71 3 (ZR M G shX 71 (some .int) z) 0 [(0, .ref (gad G 0)), (1, .int x1), (2, .int x2)] [] w := by
  rw [fn7_one] at h
  refine bw_aload_n C 0 dX7_one_0 rfl rfl ?_
  refine bw_getr C (j := 2) (t := 1) lX0 sX0 rfl inlX7 (by decide) rfl flX7_28 dX7_one_1 ?_
  refine bw_iload_n C 1 dX7_one_4 rfl rfl ?_
  refine bw_callVi C (As := [.int x1]) lX1 sX1 rfl miX6_hasOne mlX7_122 imX6_hasOne seX6_hasOne (by decide) rfl rfl (fun z1 h1 => mt6_hasOne isT_1 h1) rfl (Nat.le_of_ble_eq_true rfl) rfl dX7_one_5 h (fun q5 _ h => ?_)
  refine bw_if_ne C (tgt := 13) dX7_one_8 (by decide) h (fun h => ?_) (fun h => ?_)
  · refine bw_iload_n C 2 dX7_one_13 rfl rfl ?_
    refine bw_case h (fun hx h => ?_) (fun hn0 h => ?_)
    · refine bw_tsIn C (tgt := 40) (v := 0) dX7_one_14 hx (by decide) (by decide) rfl (by decide) ?_
      refine bw_aload_n C 0 dX7_one_40 rfl rfl ?_
      refine bw_getr C (j := 2) (t := 1) lX0 sX0 rfl inlX7 (by decide) rfl flX7_28 dX7_one_41 ?_
      refine bw_getr C (j := 1) (t := 2) lX1 sX1 rfl inlX6 (by decide) rfl flX7_126 dX7_one_44 ?_
      refine bw_iload_n C 1 dX7_one_47 rfl rfl ?_
      refine bw_iald C lX2 sX2 dX7_one_48 h (fun h => ?_)
      exact bw_iret C dX7_one_49 h
    · refine bw_case h (fun hx h => ?_) (fun hn1 h => ?_)
      · refine bw_tsIn C (tgt := 50) (v := 1) dX7_one_14 hx (by decide) (by decide) rfl (by decide) ?_
        refine bw_aload_n C 0 dX7_one_50 rfl rfl ?_
        refine bw_getr C (j := 2) (t := 1) lX0 sX0 rfl inlX7 (by decide) rfl flX7_28 dX7_one_51 ?_
        refine bw_getr C (j := 2) (t := 3) lX1 sX1 rfl inlX6 (by decide) rfl flX7_130 dX7_one_54 ?_
        refine bw_iload_n C 1 dX7_one_57 rfl rfl ?_
        refine bw_iald C lX3 sX3 dX7_one_58 h (fun h => ?_)
        exact bw_iret C dX7_one_59 h
      · refine bw_case h (fun hx h => ?_) (fun hn2 h => ?_)
        · refine bw_tsIn C (tgt := 60) (v := 2) dX7_one_14 hx (by decide) (by decide) rfl (by decide) ?_
          refine bw_aload_n C 0 dX7_one_60 rfl rfl ?_
          refine bw_getr C (j := 2) (t := 1) lX0 sX0 rfl inlX7 (by decide) rfl flX7_28 dX7_one_61 ?_
          refine bw_getr C (j := 3) (t := 4) lX1 sX1 rfl inlX6 (by decide) rfl flX7_133 dX7_one_64 ?_
          refine bw_iload_n C 1 dX7_one_67 rfl rfl ?_
          refine bw_iald C lX4 sX4 dX7_one_68 h (fun h => ?_)
          exact bw_iret C dX7_one_69 h
        · refine bw_tsOut C (tgt := 70) dX7_one_14 (sw_out (lo := 0) (hi := 2) (fun q h1 h2 => ?_)) (by decide) ?_
          · rcases (show q = 0 ∨ q = 1 ∨ q = 2 by omega) with e | e | e
            · exact fun g => hn0 (sw_eq g (by rw [e]; decide))
            · exact fun g => hn1 (sw_eq g (by rw [e]; decide))
            · exact fun g => hn2 (sw_eq g (by rw [e]; decide))
          · refine bw_iconst C (v := (-1)) dX7_one_70 (by decide) ?_
            exact bw_iret C dX7_one_71 h
  · refine bw_iconst C (v := (-1)) dX7_one_11 (by decide) ?_
    exact bw_iret C dX7_one_12 h
theorem mt7_one {l : Launch} {G : GX}   {x1 : Int32} {x2 : Int32} {w : Mem} {z : Int32 × Mem} (h : fn7_one  x1 x2 w = some z) : MC l G shX 71 (eX G) yX7_one cX7_one 3 (some .int) rm7_one [.ref (gad G 0), .int x1, .int x2] w z := by
  refine met_of (by decide +kernel) (eX_ok G) rfl (Nat.le_of_ble_eq_true rfl) (fun M hM C => ?_)
  subst hM
  exact bk7_one C  x1 x2 h
def rm7_coin : Room := { frames := 2, cells := 0, slots := 0, locals := 36 }
def fn7_coin  (x1 : Int32) (x2 : Int32) (w : Mem) : Option (Int32 × Mem) := (fn6_hasCoin 1 x1 w).bind (fun q5 => (if ¬ q5.1 = 0 then (if x2 = 0 then (if ib x1 6 = true then some ((q5.2 5 x1.toNatClampNeg), q5.2) else none) else (if x2 = 1 then (if ib x1 6 = true then some ((q5.2 6 x1.toNatClampNeg), q5.2) else none) else (if x2 = 2 then (if ib x1 6 = true then (fn7_oneIf (q5.2 7 x1.toNatClampNeg) q5.2).bind (fun q77 => some (q77.1, q77.2)) else none) else (if x2 = 3 then (if ib x1 6 = true then some ((q5.2 8 x1.toNatClampNeg), q5.2) else none) else (if x2 = 4 then (if ib x1 6 = true then (fn6_lengthBy 1 x1 (q5.2 6 x1.toNatClampNeg) q5.2).bind (fun q105 => some (q105.1, q105.2)) else none) else some ((-1), q5.2)))))) else some ((-1), q5.2)))
set_option maxRecDepth 20000 in
theorem bk7_coin {M : MX} {G : GX} (C : BC M G shX 71 (eX G) RX7 cX7_coin 3 (some .int) rm7_coin) {z : Int32 × Mem}   (x1 : Int32) (x2 : Int32) {w : Mem} (h : fn7_coin  x1 x2 w = some z) : BW M G shX 71 3 (ZR M G shX 71 (some .int) z) 0 [(0, .ref (gad G 0)), (1, .int x1), (2, .int x2)] [] w := by
  rw [fn7_coin] at h
  refine bw_aload_n C 0 dX7_coin_0 rfl rfl ?_
  refine bw_getr C (j := 2) (t := 1) lX0 sX0 rfl inlX7 (by decide) rfl flX7_28 dX7_coin_1 ?_
  refine bw_iload_n C 1 dX7_coin_4 rfl rfl ?_
  refine bw_callVi C (As := [.int x1]) lX1 sX1 rfl miX6_hasCoin mlX7_136 imX6_hasCoin seX6_hasCoin (by decide) rfl rfl (fun z1 h1 => mt6_hasCoin isT_1 h1) rfl (Nat.le_of_ble_eq_true rfl) rfl dX7_coin_5 h (fun q5 _ h => ?_)
  refine bw_if_ne C (tgt := 13) dX7_coin_8 (by decide) h (fun h => ?_) (fun h => ?_)
  · refine bw_iload_n C 2 dX7_coin_13 rfl rfl ?_
    refine bw_case h (fun hx h => ?_) (fun hn0 h => ?_)
    · refine bw_tsIn C (tgt := 48) (v := 0) dX7_coin_14 hx (by decide) (by decide) rfl (by decide) ?_
      refine bw_aload_n C 0 dX7_coin_48 rfl rfl ?_
      refine bw_getr C (j := 2) (t := 1) lX0 sX0 rfl inlX7 (by decide) rfl flX7_28 dX7_coin_49 ?_
      refine bw_getr C (j := 5) (t := 5) lX1 sX1 rfl inlX6 (by decide) rfl flX7_139 dX7_coin_52 ?_
      refine bw_iload_n C 1 dX7_coin_55 rfl rfl ?_
      refine bw_iald C lX5 sX5 dX7_coin_56 h (fun h => ?_)
      exact bw_iret C dX7_coin_57 h
    · refine bw_case h (fun hx h => ?_) (fun hn1 h => ?_)
      · refine bw_tsIn C (tgt := 58) (v := 1) dX7_coin_14 hx (by decide) (by decide) rfl (by decide) ?_
        refine bw_aload_n C 0 dX7_coin_58 rfl rfl ?_
        refine bw_getr C (j := 2) (t := 1) lX0 sX0 rfl inlX7 (by decide) rfl flX7_28 dX7_coin_59 ?_
        refine bw_getr C (j := 6) (t := 6) lX1 sX1 rfl inlX6 (by decide) rfl flX7_142 dX7_coin_62 ?_
        refine bw_iload_n C 1 dX7_coin_65 rfl rfl ?_
        refine bw_iald C lX6 sX6 dX7_coin_66 h (fun h => ?_)
        exact bw_iret C dX7_coin_67 h
      · refine bw_case h (fun hx h => ?_) (fun hn2 h => ?_)
        · refine bw_tsIn C (tgt := 68) (v := 2) dX7_coin_14 hx (by decide) (by decide) rfl (by decide) ?_
          refine bw_aload_n C 0 dX7_coin_68 rfl rfl ?_
          refine bw_getr C (j := 2) (t := 1) lX0 sX0 rfl inlX7 (by decide) rfl flX7_28 dX7_coin_69 ?_
          refine bw_getr C (j := 7) (t := 7) lX1 sX1 rfl inlX6 (by decide) rfl flX7_145 dX7_coin_72 ?_
          refine bw_iload_n C 1 dX7_coin_75 rfl rfl ?_
          refine bw_zald C lX7 sX7 dX7_coin_76 h (fun h => ?_)
          refine bw_callSi C (As := [.int (q5.2 7 x1.toNatClampNeg)]) miX7_oneIf mlX7_148 smX7_oneIf (by decide) rfl rfl (fun z1 h1 => mt7_oneIf h1) rfl (Nat.le_of_ble_eq_true rfl) rfl dX7_coin_77 h (fun q77 _ h => ?_)
          exact bw_iret C dX7_coin_80 h
        · refine bw_case h (fun hx h => ?_) (fun hn3 h => ?_)
          · refine bw_tsIn C (tgt := 81) (v := 3) dX7_coin_14 hx (by decide) (by decide) rfl (by decide) ?_
            refine bw_aload_n C 0 dX7_coin_81 rfl rfl ?_
            refine bw_getr C (j := 2) (t := 1) lX0 sX0 rfl inlX7 (by decide) rfl flX7_28 dX7_coin_82 ?_
            refine bw_getr C (j := 8) (t := 8) lX1 sX1 rfl inlX6 (by decide) rfl flX7_152 dX7_coin_85 ?_
            refine bw_iload_n C 1 dX7_coin_88 rfl rfl ?_
            refine bw_iald C lX8 sX8 dX7_coin_89 h (fun h => ?_)
            exact bw_iret C dX7_coin_90 h
          · refine bw_case h (fun hx h => ?_) (fun hn4 h => ?_)
            · refine bw_tsIn C (tgt := 91) (v := 4) dX7_coin_14 hx (by decide) (by decide) rfl (by decide) ?_
              refine bw_aload_n C 0 dX7_coin_91 rfl rfl ?_
              refine bw_getr C (j := 2) (t := 1) lX0 sX0 rfl inlX7 (by decide) rfl flX7_28 dX7_coin_92 ?_
              refine bw_iload_n C 1 dX7_coin_95 rfl rfl ?_
              refine bw_aload_n C 0 dX7_coin_96 rfl rfl ?_
              refine bw_getr C (j := 2) (t := 1) lX0 sX0 rfl inlX7 (by decide) rfl flX7_28 dX7_coin_97 ?_
              refine bw_getr C (j := 6) (t := 6) lX1 sX1 rfl inlX6 (by decide) rfl flX7_142 dX7_coin_100 ?_
              refine bw_iload_n C 1 dX7_coin_103 rfl rfl ?_
              refine bw_iald C lX6 sX6 dX7_coin_104 h (fun h => ?_)
              refine bw_callVi C (As := [.int x1, .int (q5.2 6 x1.toNatClampNeg)]) lX1 sX1 rfl miX6_lengthBy mlX7_155 imX6_lengthBy seX6_lengthBy (by decide) rfl rfl (fun z1 h1 => mt6_lengthBy isT_1 h1) rfl (Nat.le_of_ble_eq_true rfl) rfl dX7_coin_105 h (fun q105 _ h => ?_)
              exact bw_iret C dX7_coin_108 h
            · refine bw_tsOut C (tgt := 109) dX7_coin_14 (sw_out (lo := 0) (hi := 4) (fun q h1 h2 => ?_)) (by decide) ?_
              · rcases (show q = 0 ∨ q = 1 ∨ q = 2 ∨ q = 3 ∨ q = 4 by omega) with e | e | e | e | e
                · exact fun g => hn0 (sw_eq g (by rw [e]; decide))
                · exact fun g => hn1 (sw_eq g (by rw [e]; decide))
                · exact fun g => hn2 (sw_eq g (by rw [e]; decide))
                · exact fun g => hn3 (sw_eq g (by rw [e]; decide))
                · exact fun g => hn4 (sw_eq g (by rw [e]; decide))
              · refine bw_iconst C (v := (-1)) dX7_coin_109 (by decide) ?_
                exact bw_iret C dX7_coin_110 h
  · refine bw_iconst C (v := (-1)) dX7_coin_11 (by decide) ?_
    exact bw_iret C dX7_coin_12 h
theorem mt7_coin {l : Launch} {G : GX}   {x1 : Int32} {x2 : Int32} {w : Mem} {z : Int32 × Mem} (h : fn7_coin  x1 x2 w = some z) : MC l G shX 71 (eX G) yX7_coin cX7_coin 3 (some .int) rm7_coin [.ref (gad G 0), .int x1, .int x2] w z := by
  refine met_of (by decide +kernel) (eX_ok G) rfl (Nat.le_of_ble_eq_true rfl) (fun M hM C => ?_)
  subst hM
  exact bk7_coin C  x1 x2 h
def rm7_talk : Room := { frames := 5, cells := 0, slots := 0, locals := 104 }
def fn7_talk  (x1 : Int32) (x2 : Int32) (w : Mem) : Option (Int32 × Mem) := (if x1 < 0 then some ((-1), w) else (if x1 < (w 1 9) then (if x2 = 0 then (if ib x1 10 = true then some ((w 9 x1.toNatClampNeg), w) else none) else (if x2 = 1 then (if ib x1 10 = true then some ((w 10 x1.toNatClampNeg), w) else none) else (if x2 = 2 then (if ib x1 10 = true then some ((w 11 x1.toNatClampNeg), w) else none) else (if x2 = 3 then (fn6_isTalkSaid 1 x1 w).bind (fun q83 => (fn7_oneIf q83.1 q83.2).bind (fun q86 => some (q86.1, q86.2))) else some ((-1), w))))) else some ((-1), w)))
set_option maxRecDepth 20000 in
theorem bk7_talk {M : MX} {G : GX} (C : BC M G shX 71 (eX G) RX7 cX7_talk 3 (some .int) rm7_talk) {z : Int32 × Mem}   (x1 : Int32) (x2 : Int32) {w : Mem} (h : fn7_talk  x1 x2 w = some z) : BW M G shX 71 3 (ZR M G shX 71 (some .int) z) 0 [(0, .ref (gad G 0)), (1, .int x1), (2, .int x2)] [] w := by
  rw [fn7_talk] at h
  refine bw_iload_n C 1 dX7_talk_0 rfl rfl ?_
  refine bw_if_lt C (tgt := 15) dX7_talk_1 (by decide) h (fun h => ?_) (fun h => ?_)
  · refine bw_iconst C (v := (-1)) dX7_talk_15 (by decide) ?_
    exact bw_iret C dX7_talk_16 h
  · refine bw_iload_n C 1 dX7_talk_4 rfl rfl ?_
    refine bw_aload_n C 0 dX7_talk_5 rfl rfl ?_
    refine bw_getr C (j := 2) (t := 1) lX0 sX0 rfl inlX7 (by decide) rfl flX7_28 dX7_talk_6 ?_
    refine bw_geti C (j := 9) lX1 sX1 rfl inlX6 (by decide) rfl flX7_113 dX7_talk_9 ?_
    refine bw_icmp_lt C (tgt := 17) dX7_talk_12 (by decide) h (fun h => ?_) (fun h => ?_)
    · refine bw_iload_n C 2 dX7_talk_17 rfl rfl ?_
      refine bw_case h (fun hx h => ?_) (fun hn0 h => ?_)
      · refine bw_tsIn C (tgt := 48) (v := 0) dX7_talk_18 hx (by decide) (by decide) rfl (by decide) ?_
        refine bw_aload_n C 0 dX7_talk_48 rfl rfl ?_
        refine bw_getr C (j := 2) (t := 1) lX0 sX0 rfl inlX7 (by decide) rfl flX7_28 dX7_talk_49 ?_
        refine bw_getr C (j := 10) (t := 9) lX1 sX1 rfl inlX6 (by decide) rfl flX7_159 dX7_talk_52 ?_
        refine bw_iload_n C 1 dX7_talk_55 rfl rfl ?_
        refine bw_iald C lX9 sX9 dX7_talk_56 h (fun h => ?_)
        exact bw_iret C dX7_talk_57 h
      · refine bw_case h (fun hx h => ?_) (fun hn1 h => ?_)
        · refine bw_tsIn C (tgt := 58) (v := 1) dX7_talk_18 hx (by decide) (by decide) rfl (by decide) ?_
          refine bw_aload_n C 0 dX7_talk_58 rfl rfl ?_
          refine bw_getr C (j := 2) (t := 1) lX0 sX0 rfl inlX7 (by decide) rfl flX7_28 dX7_talk_59 ?_
          refine bw_getr C (j := 11) (t := 10) lX1 sX1 rfl inlX6 (by decide) rfl flX7_162 dX7_talk_62 ?_
          refine bw_iload_n C 1 dX7_talk_65 rfl rfl ?_
          refine bw_iald C lX10 sX10 dX7_talk_66 h (fun h => ?_)
          exact bw_iret C dX7_talk_67 h
        · refine bw_case h (fun hx h => ?_) (fun hn2 h => ?_)
          · refine bw_tsIn C (tgt := 68) (v := 2) dX7_talk_18 hx (by decide) (by decide) rfl (by decide) ?_
            refine bw_aload_n C 0 dX7_talk_68 rfl rfl ?_
            refine bw_getr C (j := 2) (t := 1) lX0 sX0 rfl inlX7 (by decide) rfl flX7_28 dX7_talk_69 ?_
            refine bw_getr C (j := 12) (t := 11) lX1 sX1 rfl inlX6 (by decide) rfl flX7_165 dX7_talk_72 ?_
            refine bw_iload_n C 1 dX7_talk_75 rfl rfl ?_
            refine bw_iald C lX11 sX11 dX7_talk_76 h (fun h => ?_)
            exact bw_iret C dX7_talk_77 h
          · refine bw_case h (fun hx h => ?_) (fun hn3 h => ?_)
            · refine bw_tsIn C (tgt := 78) (v := 3) dX7_talk_18 hx (by decide) (by decide) rfl (by decide) ?_
              refine bw_aload_n C 0 dX7_talk_78 rfl rfl ?_
              refine bw_getr C (j := 2) (t := 1) lX0 sX0 rfl inlX7 (by decide) rfl flX7_28 dX7_talk_79 ?_
              refine bw_iload_n C 1 dX7_talk_82 rfl rfl ?_
              refine bw_callVi C (As := [.int x1]) lX1 sX1 rfl miX6_isTalkSaid mlX7_168 imX6_isTalkSaid seX6_isTalkSaid (by decide) rfl rfl (fun z1 h1 => mt6_isTalkSaid isT_1 h1) rfl (Nat.le_of_ble_eq_true rfl) rfl dX7_talk_83 h (fun q83 _ h => ?_)
              refine bw_callSi C (As := [.int q83.1]) miX7_oneIf mlX7_148 smX7_oneIf (by decide) rfl rfl (fun z1 h1 => mt7_oneIf h1) rfl (Nat.le_of_ble_eq_true rfl) rfl dX7_talk_86 h (fun q86 _ h => ?_)
              exact bw_iret C dX7_talk_89 h
            · refine bw_tsOut C (tgt := 90) dX7_talk_18 (sw_out (lo := 0) (hi := 3) (fun q h1 h2 => ?_)) (by decide) ?_
              · rcases (show q = 0 ∨ q = 1 ∨ q = 2 ∨ q = 3 by omega) with e | e | e | e
                · exact fun g => hn0 (sw_eq g (by rw [e]; decide))
                · exact fun g => hn1 (sw_eq g (by rw [e]; decide))
                · exact fun g => hn2 (sw_eq g (by rw [e]; decide))
                · exact fun g => hn3 (sw_eq g (by rw [e]; decide))
              · refine bw_iconst C (v := (-1)) dX7_talk_90 (by decide) ?_
                exact bw_iret C dX7_talk_91 h
    · refine bw_iconst C (v := (-1)) dX7_talk_15 (by decide) ?_
      exact bw_iret C dX7_talk_16 h
theorem mt7_talk {l : Launch} {G : GX}   {x1 : Int32} {x2 : Int32} {w : Mem} {z : Int32 × Mem} (h : fn7_talk  x1 x2 w = some z) : MC l G shX 71 (eX G) yX7_talk cX7_talk 3 (some .int) rm7_talk [.ref (gad G 0), .int x1, .int x2] w z := by
  refine met_of (by decide +kernel) (eX_ok G) rfl (Nat.le_of_ble_eq_true rfl) (fun M hM C => ?_)
  subst hM
  exact bk7_talk C  x1 x2 h
def rm7_law : Room := { frames := 0, cells := 0, slots := 0, locals := 0 }
def fn7_law  (x1 : Int32) (w : Mem) : Option (Int32 × Mem) := (if x1 < 0 then some ((-1), w) else (if x1 ≤ 2 then some ((w 1 13), (up2 w 1 13 x1)) else some ((-1), w)))
set_option maxRecDepth 20000 in
theorem bk7_law {M : MX} {G : GX} (C : BC M G shX 71 (eX G) RX7 cX7_law 3 (some .int) rm7_law) {z : Int32 × Mem}   (x1 : Int32) {w : Mem} (h : fn7_law  x1 w = some z) : BW M G shX 71 3 (ZR M G shX 71 (some .int) z) 0 [(0, .ref (gad G 0)), (1, .int x1)] [] w := by
  rw [fn7_law] at h
  refine bw_iload_n C 1 dX7_law_0 rfl rfl ?_
  refine bw_if_lt C (tgt := 9) dX7_law_1 (by decide) h (fun h => ?_) (fun h => ?_)
  · refine bw_iconst C (v := (-1)) dX7_law_9 (by decide) ?_
    exact bw_iret C dX7_law_10 h
  · refine bw_iload_n C 1 dX7_law_4 rfl rfl ?_
    refine bw_iconst C (v := 2) dX7_law_5 (by decide) ?_
    refine bw_icmp_le C (tgt := 11) dX7_law_6 (by decide) h (fun h => ?_) (fun h => ?_)
    · refine bw_aload_n C 0 dX7_law_11 rfl rfl ?_
      refine bw_getr C (j := 2) (t := 1) lX0 sX0 rfl inlX7 (by decide) rfl flX7_28 dX7_law_12 ?_
      refine bw_geti C (j := 13) lX1 sX1 rfl inlX6 (by decide) rfl flX7_116 dX7_law_15 ?_
      refine bw_istore_n C [(2, .int (w 1 13)), (0, .ref (gad G 0)), (1, .int x1)] dX7_law_18 rfl (by decide) rfl ?_
      refine bw_aload_n C 1 dX7_law_19 rfl rfl ?_
      refine bw_getr C (j := 2) (t := 1) lX0 sX0 rfl inlX7 (by decide) rfl flX7_28 dX7_law_20 ?_
      refine bw_iload_n C 2 dX7_law_23 rfl rfl ?_
      refine bw_puti C (j := 13) (ty := .int) lX1 sX1 rfl inlX6 (by decide) tyX6 tyX6_ok nmX6 rfl flX7_116 rfl (by decide +kernel) rfl rfl dX7_law_24 ?_
      refine bw_iload_n C 0 dX7_law_27 rfl rfl ?_
      exact bw_iret C dX7_law_28 h
    · refine bw_iconst C (v := (-1)) dX7_law_9 (by decide) ?_
      exact bw_iret C dX7_law_10 h
theorem mt7_law {l : Launch} {G : GX}   {x1 : Int32} {w : Mem} {z : Int32 × Mem} (h : fn7_law  x1 w = some z) : MC l G shX 71 (eX G) yX7_law cX7_law 3 (some .int) rm7_law [.ref (gad G 0), .int x1] w z := by
  refine met_of (by decide +kernel) (eX_ok G) rfl (Nat.le_of_ble_eq_true rfl) (fun M hM C => ?_)
  subst hM
  exact bk7_law C  x1 h
def rm7_fee : Room := { frames := 0, cells := 0, slots := 0, locals := 0 }
def fn7_fee  (x1 : Int32) (w : Mem) : Option (Int32 × Mem) := (if x1 < 0 then some ((-1), w) else (if x1 ≤ 9 then some ((w 1 14), (up2 w 1 14 x1)) else some ((-1), w)))
set_option maxRecDepth 20000 in
theorem bk7_fee {M : MX} {G : GX} (C : BC M G shX 71 (eX G) RX7 cX7_fee 3 (some .int) rm7_fee) {z : Int32 × Mem}   (x1 : Int32) {w : Mem} (h : fn7_fee  x1 w = some z) : BW M G shX 71 3 (ZR M G shX 71 (some .int) z) 0 [(0, .ref (gad G 0)), (1, .int x1)] [] w := by
  rw [fn7_fee] at h
  refine bw_iload_n C 1 dX7_fee_0 rfl rfl ?_
  refine bw_if_lt C (tgt := 10) dX7_fee_1 (by decide) h (fun h => ?_) (fun h => ?_)
  · refine bw_iconst C (v := (-1)) dX7_fee_10 (by decide) ?_
    exact bw_iret C dX7_fee_11 h
  · refine bw_iload_n C 1 dX7_fee_4 rfl rfl ?_
    refine bw_bipush C (v := 9) dX7_fee_5 (by decide) ?_
    refine bw_icmp_le C (tgt := 12) dX7_fee_7 (by decide) h (fun h => ?_) (fun h => ?_)
    · refine bw_aload_n C 0 dX7_fee_12 rfl rfl ?_
      refine bw_getr C (j := 2) (t := 1) lX0 sX0 rfl inlX7 (by decide) rfl flX7_28 dX7_fee_13 ?_
      refine bw_geti C (j := 14) lX1 sX1 rfl inlX6 (by decide) rfl flX7_119 dX7_fee_16 ?_
      refine bw_istore_n C [(2, .int (w 1 14)), (0, .ref (gad G 0)), (1, .int x1)] dX7_fee_19 rfl (by decide) rfl ?_
      refine bw_aload_n C 1 dX7_fee_20 rfl rfl ?_
      refine bw_getr C (j := 2) (t := 1) lX0 sX0 rfl inlX7 (by decide) rfl flX7_28 dX7_fee_21 ?_
      refine bw_iload_n C 2 dX7_fee_24 rfl rfl ?_
      refine bw_puti C (j := 14) (ty := .int) lX1 sX1 rfl inlX6 (by decide) tyX6 tyX6_ok nmX6 rfl flX7_119 rfl (by decide +kernel) rfl rfl dX7_fee_25 ?_
      refine bw_iload_n C 0 dX7_fee_28 rfl rfl ?_
      exact bw_iret C dX7_fee_29 h
    · refine bw_iconst C (v := (-1)) dX7_fee_10 (by decide) ?_
      exact bw_iret C dX7_fee_11 h
theorem mt7_fee {l : Launch} {G : GX}   {x1 : Int32} {w : Mem} {z : Int32 × Mem} (h : fn7_fee  x1 w = some z) : MC l G shX 71 (eX G) yX7_fee cX7_fee 3 (some .int) rm7_fee [.ref (gad G 0), .int x1] w z := by
  refine met_of (by decide +kernel) (eX_ok G) rfl (Nat.le_of_ble_eq_true rfl) (fun M hM C => ?_)
  subst hM
  exact bk7_fee C  x1 h
def rm7_give : Room := { frames := 1, cells := 0, slots := 0, locals := 21 }
def fn7_give  (x1 : Int32) (x2 : Int32) (w : Mem) : Option (Int32 × Mem) := (fn6_hasCoin 1 x1 w).bind (fun q5 => (if q5.1 = 0 then some ((-1), q5.2) else (fn6_hasOne 1 x2 q5.2).bind (fun q16 => (if ¬ q16.1 = 0 then (fn6_isSpent 1 x1 q16.2).bind (fun q29 => (if q29.1 = 0 then (if ib x1 6 = true then (if ib x1 6 = true then some ((q29.2 6 x1.toNatClampNeg), (up2 q29.2 6 x1.toNatClampNeg x2)) else none) else none) else some ((-2), q29.2))) else some ((-1), q16.2)))))
set_option maxRecDepth 20000 in
theorem bk7_give {M : MX} {G : GX} (C : BC M G shX 71 (eX G) RX7 cX7_give 4 (some .int) rm7_give) {z : Int32 × Mem}   (x1 : Int32) (x2 : Int32) {w : Mem} (h : fn7_give  x1 x2 w = some z) : BW M G shX 71 4 (ZR M G shX 71 (some .int) z) 0 [(0, .ref (gad G 0)), (1, .int x1), (2, .int x2)] [] w := by
  rw [fn7_give] at h
  refine bw_aload_n C 0 dX7_give_0 rfl rfl ?_
  refine bw_getr C (j := 2) (t := 1) lX0 sX0 rfl inlX7 (by decide) rfl flX7_28 dX7_give_1 ?_
  refine bw_iload_n C 1 dX7_give_4 rfl rfl ?_
  refine bw_callVi C (As := [.int x1]) lX1 sX1 rfl miX6_hasCoin mlX7_136 imX6_hasCoin seX6_hasCoin (by decide) rfl rfl (fun z1 h1 => mt6_hasCoin isT_1 h1) rfl (Nat.le_of_ble_eq_true rfl) rfl dX7_give_5 h (fun q5 _ h => ?_)
  refine bw_if_eq C (tgt := 22) dX7_give_8 (by decide) h (fun h => ?_) (fun h => ?_)
  · refine bw_iconst C (v := (-1)) dX7_give_22 (by decide) ?_
    exact bw_iret C dX7_give_23 h
  · refine bw_aload_n C 0 dX7_give_11 rfl rfl ?_
    refine bw_getr C (j := 2) (t := 1) lX0 sX0 rfl inlX7 (by decide) rfl flX7_28 dX7_give_12 ?_
    refine bw_iload_n C 2 dX7_give_15 rfl rfl ?_
    refine bw_callVi C (As := [.int x2]) lX1 sX1 rfl miX6_hasOne mlX7_122 imX6_hasOne seX6_hasOne (by decide) rfl rfl (fun z1 h1 => mt6_hasOne isT_1 h1) rfl (Nat.le_of_ble_eq_true rfl) rfl dX7_give_16 h (fun q16 _ h => ?_)
    refine bw_if_ne C (tgt := 24) dX7_give_19 (by decide) h (fun h => ?_) (fun h => ?_)
    · refine bw_aload_n C 0 dX7_give_24 rfl rfl ?_
      refine bw_getr C (j := 2) (t := 1) lX0 sX0 rfl inlX7 (by decide) rfl flX7_28 dX7_give_25 ?_
      refine bw_iload_n C 1 dX7_give_28 rfl rfl ?_
      refine bw_callVi C (As := [.int x1]) lX1 sX1 rfl miX6_isSpent mlX7_171 imX6_isSpent seX6_isSpent (by decide) rfl rfl (fun z1 h1 => mt6_isSpent isT_1 h1) rfl (Nat.le_of_ble_eq_true rfl) rfl dX7_give_29 h (fun q29 _ h => ?_)
      refine bw_if_eq C (tgt := 38) dX7_give_32 (by decide) h (fun h => ?_) (fun h => ?_)
      · refine bw_aload_n C 0 dX7_give_38 rfl rfl ?_
        refine bw_getr C (j := 2) (t := 1) lX0 sX0 rfl inlX7 (by decide) rfl flX7_28 dX7_give_39 ?_
        refine bw_getr C (j := 6) (t := 6) lX1 sX1 rfl inlX6 (by decide) rfl flX7_142 dX7_give_42 ?_
        refine bw_iload_n C 1 dX7_give_45 rfl rfl ?_
        refine bw_iald C lX6 sX6 dX7_give_46 h (fun h => ?_)
        refine bw_istore_n C [(3, .int (q29.2 6 x1.toNatClampNeg)), (0, .ref (gad G 0)), (1, .int x1), (2, .int x2)] dX7_give_47 rfl (by decide) rfl ?_
        refine bw_aload_n C 1 dX7_give_48 rfl rfl ?_
        refine bw_getr C (j := 2) (t := 1) lX0 sX0 rfl inlX7 (by decide) rfl flX7_28 dX7_give_49 ?_
        refine bw_getr C (j := 6) (t := 6) lX1 sX1 rfl inlX6 (by decide) rfl flX7_142 dX7_give_52 ?_
        refine bw_iload_n C 2 dX7_give_55 rfl rfl ?_
        refine bw_iload_n C 3 dX7_give_56 rfl rfl ?_
        refine bw_iast C lX6 sX6 dX7_give_57 h (fun h => ?_)
        refine bw_iload_n C 0 dX7_give_58 rfl rfl ?_
        exact bw_iret C dX7_give_59 h
      · refine bw_bipush C (v := (-2)) dX7_give_35 (by decide) ?_
        exact bw_iret C dX7_give_37 h
    · refine bw_iconst C (v := (-1)) dX7_give_22 (by decide) ?_
      exact bw_iret C dX7_give_23 h
theorem mt7_give {l : Launch} {G : GX}   {x1 : Int32} {x2 : Int32} {w : Mem} {z : Int32 × Mem} (h : fn7_give  x1 x2 w = some z) : MC l G shX 71 (eX G) yX7_give cX7_give 4 (some .int) rm7_give [.ref (gad G 0), .int x1, .int x2] w z := by
  refine met_of (by decide +kernel) (eX_ok G) rfl (Nat.le_of_ble_eq_true rfl) (fun M hM C => ?_)
  subst hM
  exact bk7_give C  x1 x2 h
def rm7_clip : Room := { frames := 1, cells := 0, slots := 0, locals := 21 }
def fn7_clip_30 (x1 : Int32) (t0 : Int32) (w : Mem) : Option (Int32 × Mem) := (fn7_oneIf t0 w).bind (fun q30 => (if ib x1 6 = true then some (q30.1, (up2 q30.2 7 x1.toNatClampNeg (vp_nar .boolean 1))) else none))
set_option maxRecDepth 20000 in
theorem bk7_clip_30 {M : MX} {G : GX} (C : BC M G shX 71 (eX G) RX7 cX7_clip 3 (some .int) rm7_clip) {z : Int32 × Mem} (x1 : Int32) (t0 : Int32) {w : Mem} (h : fn7_clip_30 x1 t0 w = some z) : BW M G shX 71 3 (ZR M G shX 71 (some .int) z) 30 [(0, .ref (gad G 0)), (1, .int x1)] [.int t0] w := by
  rw [fn7_clip_30] at h
  refine bw_callSi C (As := [.int t0]) miX7_oneIf mlX7_148 smX7_oneIf (by decide) rfl rfl (fun z1 h1 => mt7_oneIf h1) rfl (Nat.le_of_ble_eq_true rfl) rfl dX7_clip_30 h (fun q30 _ h => ?_)
  refine bw_istore_n C [(2, .int q30.1), (0, .ref (gad G 0)), (1, .int x1)] dX7_clip_33 rfl (by decide) rfl ?_
  refine bw_aload_n C 1 dX7_clip_34 rfl rfl ?_
  refine bw_getr C (j := 2) (t := 1) lX0 sX0 rfl inlX7 (by decide) rfl flX7_28 dX7_clip_35 ?_
  refine bw_getr C (j := 7) (t := 7) lX1 sX1 rfl inlX6 (by decide) rfl flX7_145 dX7_clip_38 ?_
  refine bw_iload_n C 2 dX7_clip_41 rfl rfl ?_
  refine bw_iconst C (v := 1) dX7_clip_42 (by decide) ?_
  refine bw_zast C lX7 sX7 dX7_clip_43 h (fun h => ?_)
  refine bw_iload_n C 0 dX7_clip_44 rfl rfl ?_
  exact bw_iret C dX7_clip_45 h
def fn7_clip  (x1 : Int32) (w : Mem) : Option (Int32 × Mem) := (fn6_hasCoin 1 x1 w).bind (fun q5 => (if ¬ q5.1 = 0 then (if ib x1 6 = true then (if ¬ (q5.2 7 x1.toNatClampNeg) = 0 then fn7_clip_30 x1 0 q5.2 else fn7_clip_30 x1 1 q5.2) else none) else some ((-1), q5.2)))
set_option maxRecDepth 20000 in
theorem bk7_clip {M : MX} {G : GX} (C : BC M G shX 71 (eX G) RX7 cX7_clip 3 (some .int) rm7_clip) {z : Int32 × Mem}   (x1 : Int32) {w : Mem} (h : fn7_clip  x1 w = some z) : BW M G shX 71 3 (ZR M G shX 71 (some .int) z) 0 [(0, .ref (gad G 0)), (1, .int x1)] [] w := by
  rw [fn7_clip] at h
  refine bw_aload_n C 0 dX7_clip_0 rfl rfl ?_
  refine bw_getr C (j := 2) (t := 1) lX0 sX0 rfl inlX7 (by decide) rfl flX7_28 dX7_clip_1 ?_
  refine bw_iload_n C 1 dX7_clip_4 rfl rfl ?_
  refine bw_callVi C (As := [.int x1]) lX1 sX1 rfl miX6_hasCoin mlX7_136 imX6_hasCoin seX6_hasCoin (by decide) rfl rfl (fun z1 h1 => mt6_hasCoin isT_1 h1) rfl (Nat.le_of_ble_eq_true rfl) rfl dX7_clip_5 h (fun q5 _ h => ?_)
  refine bw_if_ne C (tgt := 13) dX7_clip_8 (by decide) h (fun h => ?_) (fun h => ?_)
  · refine bw_aload_n C 0 dX7_clip_13 rfl rfl ?_
    refine bw_getr C (j := 2) (t := 1) lX0 sX0 rfl inlX7 (by decide) rfl flX7_28 dX7_clip_14 ?_
    refine bw_getr C (j := 7) (t := 7) lX1 sX1 rfl inlX6 (by decide) rfl flX7_145 dX7_clip_17 ?_
    refine bw_iload_n C 1 dX7_clip_20 rfl rfl ?_
    refine bw_zald C lX7 sX7 dX7_clip_21 h (fun h => ?_)
    refine bw_if_ne C (tgt := 29) dX7_clip_22 (by decide) h (fun h => ?_) (fun h => ?_)
    · refine bw_iconst C (v := 0) dX7_clip_29 (by decide) ?_
      exact bw_sub [0, 1] rfl (bk7_clip_30 C x1 0 h)
    · refine bw_iconst C (v := 1) dX7_clip_25 (by decide) ?_
      refine bw_goto C (tgt := 30) dX7_clip_26 (by decide) ?_
      exact bw_sub [0, 1] rfl (bk7_clip_30 C x1 1 h)
  · refine bw_iconst C (v := (-1)) dX7_clip_11 (by decide) ?_
    exact bw_iret C dX7_clip_12 h
theorem mt7_clip {l : Launch} {G : GX}   {x1 : Int32} {w : Mem} {z : Int32 × Mem} (h : fn7_clip  x1 w = some z) : MC l G shX 71 (eX G) yX7_clip cX7_clip 3 (some .int) rm7_clip [.ref (gad G 0), .int x1] w z := by
  refine met_of (by decide +kernel) (eX_ok G) rfl (Nat.le_of_ble_eq_true rfl) (fun M hM C => ?_)
  subst hM
  exact bk7_clip C  x1 h
def rm7_spend : Room := { frames := 2, cells := 0, slots := 0, locals := 36 }
def fn7_spend  (x1 : Int32) (x2 : Int32) (w : Mem) : Option (Int32 × Mem) := (fn6_hasCoin 1 x1 w).bind (fun q5 => (if q5.1 = 0 then some ((-1), q5.2) else (fn7_isHour x2 q5.2).bind (fun q12 => (if ¬ q12.1 = 0 then (fn6_isSpent 1 x1 q12.2).bind (fun q25 => (if q25.1 = 0 then (if ib x1 6 = true then (if ib x1 6 = true then (fn6_lengthBy 1 x1 ((up2 q25.2 8 x1.toNatClampNeg x2) 6 x1.toNatClampNeg) (up2 q25.2 8 x1.toNatClampNeg x2)).bind (fun q58 => some (q58.1, q58.2)) else none) else none) else some ((-2), q25.2))) else some ((-1), q12.2)))))
set_option maxRecDepth 20000 in
theorem bk7_spend {M : MX} {G : GX} (C : BC M G shX 71 (eX G) RX7 cX7_spend 3 (some .int) rm7_spend) {z : Int32 × Mem}   (x1 : Int32) (x2 : Int32) {w : Mem} (h : fn7_spend  x1 x2 w = some z) : BW M G shX 71 3 (ZR M G shX 71 (some .int) z) 0 [(0, .ref (gad G 0)), (1, .int x1), (2, .int x2)] [] w := by
  rw [fn7_spend] at h
  refine bw_aload_n C 0 dX7_spend_0 rfl rfl ?_
  refine bw_getr C (j := 2) (t := 1) lX0 sX0 rfl inlX7 (by decide) rfl flX7_28 dX7_spend_1 ?_
  refine bw_iload_n C 1 dX7_spend_4 rfl rfl ?_
  refine bw_callVi C (As := [.int x1]) lX1 sX1 rfl miX6_hasCoin mlX7_136 imX6_hasCoin seX6_hasCoin (by decide) rfl rfl (fun z1 h1 => mt6_hasCoin isT_1 h1) rfl (Nat.le_of_ble_eq_true rfl) rfl dX7_spend_5 h (fun q5 _ h => ?_)
  refine bw_if_eq C (tgt := 18) dX7_spend_8 (by decide) h (fun h => ?_) (fun h => ?_)
  · refine bw_iconst C (v := (-1)) dX7_spend_18 (by decide) ?_
    exact bw_iret C dX7_spend_19 h
  · refine bw_iload_n C 2 dX7_spend_11 rfl rfl ?_
    refine bw_callSi C (As := [.int x2]) miX7_isHour mlX7_174 smX7_isHour (by decide) rfl rfl (fun z1 h1 => mt7_isHour h1) rfl (Nat.le_of_ble_eq_true rfl) rfl dX7_spend_12 h (fun q12 _ h => ?_)
    refine bw_if_ne C (tgt := 20) dX7_spend_15 (by decide) h (fun h => ?_) (fun h => ?_)
    · refine bw_aload_n C 0 dX7_spend_20 rfl rfl ?_
      refine bw_getr C (j := 2) (t := 1) lX0 sX0 rfl inlX7 (by decide) rfl flX7_28 dX7_spend_21 ?_
      refine bw_iload_n C 1 dX7_spend_24 rfl rfl ?_
      refine bw_callVi C (As := [.int x1]) lX1 sX1 rfl miX6_isSpent mlX7_171 imX6_isSpent seX6_isSpent (by decide) rfl rfl (fun z1 h1 => mt6_isSpent isT_1 h1) rfl (Nat.le_of_ble_eq_true rfl) rfl dX7_spend_25 h (fun q25 _ h => ?_)
      refine bw_if_eq C (tgt := 34) dX7_spend_28 (by decide) h (fun h => ?_) (fun h => ?_)
      · refine bw_aload_n C 0 dX7_spend_34 rfl rfl ?_
        refine bw_getr C (j := 2) (t := 1) lX0 sX0 rfl inlX7 (by decide) rfl flX7_28 dX7_spend_35 ?_
        refine bw_getr C (j := 8) (t := 8) lX1 sX1 rfl inlX6 (by decide) rfl flX7_152 dX7_spend_38 ?_
        refine bw_iload_n C 1 dX7_spend_41 rfl rfl ?_
        refine bw_iload_n C 2 dX7_spend_42 rfl rfl ?_
        refine bw_iast C lX8 sX8 dX7_spend_43 h (fun h => ?_)
        refine bw_aload_n C 0 dX7_spend_44 rfl rfl ?_
        refine bw_getr C (j := 2) (t := 1) lX0 sX0 rfl inlX7 (by decide) rfl flX7_28 dX7_spend_45 ?_
        refine bw_iload_n C 1 dX7_spend_48 rfl rfl ?_
        refine bw_aload_n C 0 dX7_spend_49 rfl rfl ?_
        refine bw_getr C (j := 2) (t := 1) lX0 sX0 rfl inlX7 (by decide) rfl flX7_28 dX7_spend_50 ?_
        refine bw_getr C (j := 6) (t := 6) lX1 sX1 rfl inlX6 (by decide) rfl flX7_142 dX7_spend_53 ?_
        refine bw_iload_n C 1 dX7_spend_56 rfl rfl ?_
        refine bw_iald C lX6 sX6 dX7_spend_57 h (fun h => ?_)
        refine bw_callVi C (As := [.int x1, .int ((up2 q25.2 8 x1.toNatClampNeg x2) 6 x1.toNatClampNeg)]) lX1 sX1 rfl miX6_lengthBy mlX7_155 imX6_lengthBy seX6_lengthBy (by decide) rfl rfl (fun z1 h1 => mt6_lengthBy isT_1 h1) rfl (Nat.le_of_ble_eq_true rfl) rfl dX7_spend_58 h (fun q58 _ h => ?_)
        exact bw_iret C dX7_spend_61 h
      · refine bw_bipush C (v := (-2)) dX7_spend_31 (by decide) ?_
        exact bw_iret C dX7_spend_33 h
    · refine bw_iconst C (v := (-1)) dX7_spend_18 (by decide) ?_
      exact bw_iret C dX7_spend_19 h
theorem mt7_spend {l : Launch} {G : GX}   {x1 : Int32} {x2 : Int32} {w : Mem} {z : Int32 × Mem} (h : fn7_spend  x1 x2 w = some z) : MC l G shX 71 (eX G) yX7_spend cX7_spend 3 (some .int) rm7_spend [.ref (gad G 0), .int x1, .int x2] w z := by
  refine met_of (by decide +kernel) (eX_ok G) rfl (Nat.le_of_ble_eq_true rfl) (fun M hM C => ?_)
  subst hM
  exact bk7_spend C  x1 x2 h
def rm7_undo : Room := { frames := 1, cells := 0, slots := 0, locals := 21 }
def fn7_undo  (x1 : Int32) (w : Mem) : Option (Int32 × Mem) := (fn6_hasCoin 1 x1 w).bind (fun q5 => (if ¬ q5.1 = 0 then (if ib x1 6 = true then (if ib x1 6 = true then some ((q5.2 8 x1.toNatClampNeg), (up2 q5.2 8 x1.toNatClampNeg (-4))) else none) else none) else some ((-1), q5.2)))
set_option maxRecDepth 20000 in
theorem bk7_undo {M : MX} {G : GX} (C : BC M G shX 71 (eX G) RX7 cX7_undo 3 (some .int) rm7_undo) {z : Int32 × Mem}   (x1 : Int32) {w : Mem} (h : fn7_undo  x1 w = some z) : BW M G shX 71 3 (ZR M G shX 71 (some .int) z) 0 [(0, .ref (gad G 0)), (1, .int x1)] [] w := by
  rw [fn7_undo] at h
  refine bw_aload_n C 0 dX7_undo_0 rfl rfl ?_
  refine bw_getr C (j := 2) (t := 1) lX0 sX0 rfl inlX7 (by decide) rfl flX7_28 dX7_undo_1 ?_
  refine bw_iload_n C 1 dX7_undo_4 rfl rfl ?_
  refine bw_callVi C (As := [.int x1]) lX1 sX1 rfl miX6_hasCoin mlX7_136 imX6_hasCoin seX6_hasCoin (by decide) rfl rfl (fun z1 h1 => mt6_hasCoin isT_1 h1) rfl (Nat.le_of_ble_eq_true rfl) rfl dX7_undo_5 h (fun q5 _ h => ?_)
  refine bw_if_ne C (tgt := 13) dX7_undo_8 (by decide) h (fun h => ?_) (fun h => ?_)
  · refine bw_aload_n C 0 dX7_undo_13 rfl rfl ?_
    refine bw_getr C (j := 2) (t := 1) lX0 sX0 rfl inlX7 (by decide) rfl flX7_28 dX7_undo_14 ?_
    refine bw_getr C (j := 8) (t := 8) lX1 sX1 rfl inlX6 (by decide) rfl flX7_152 dX7_undo_17 ?_
    refine bw_iload_n C 1 dX7_undo_20 rfl rfl ?_
    refine bw_iald C lX8 sX8 dX7_undo_21 h (fun h => ?_)
    refine bw_istore_n C [(2, .int (q5.2 8 x1.toNatClampNeg)), (0, .ref (gad G 0)), (1, .int x1)] dX7_undo_22 rfl (by decide) rfl ?_
    refine bw_aload_n C 1 dX7_undo_23 rfl rfl ?_
    refine bw_getr C (j := 2) (t := 1) lX0 sX0 rfl inlX7 (by decide) rfl flX7_28 dX7_undo_24 ?_
    refine bw_getr C (j := 8) (t := 8) lX1 sX1 rfl inlX6 (by decide) rfl flX7_152 dX7_undo_27 ?_
    refine bw_iload_n C 2 dX7_undo_30 rfl rfl ?_
    refine bw_bipush C (v := (-4)) dX7_undo_31 (by decide) ?_
    refine bw_iast C lX8 sX8 dX7_undo_33 h (fun h => ?_)
    refine bw_iload_n C 0 dX7_undo_34 rfl rfl ?_
    exact bw_iret C dX7_undo_35 h
  · refine bw_iconst C (v := (-1)) dX7_undo_11 (by decide) ?_
    exact bw_iret C dX7_undo_12 h
theorem mt7_undo {l : Launch} {G : GX}   {x1 : Int32} {w : Mem} {z : Int32 × Mem} (h : fn7_undo  x1 w = some z) : MC l G shX 71 (eX G) yX7_undo cX7_undo 3 (some .int) rm7_undo [.ref (gad G 0), .int x1] w z := by
  refine met_of (by decide +kernel) (eX_ok G) rfl (Nat.le_of_ble_eq_true rfl) (fun M hM C => ?_)
  subst hM
  exact bk7_undo C  x1 h
def rm7_speak : Room := { frames := 3, cells := 0, slots := 0, locals := 67 }
def fn7_speak  (x1 : Int32) (x2 : Int32) (x3 : Int32) (w : Mem) : Option (Int32 × Mem) := (fn6_addTalk 1 x1 x2 x3 w).bind (fun q7 => some (q7.1, q7.2))
set_option maxRecDepth 20000 in
theorem bk7_speak {M : MX} {G : GX} (C : BC M G shX 71 (eX G) RX7 cX7_speak 4 (some .int) rm7_speak) {z : Int32 × Mem}   (x1 : Int32) (x2 : Int32) (x3 : Int32) {w : Mem} (h : fn7_speak  x1 x2 x3 w = some z) : BW M G shX 71 4 (ZR M G shX 71 (some .int) z) 0 [(0, .ref (gad G 0)), (1, .int x1), (2, .int x2), (3, .int x3)] [] w := by
  rw [fn7_speak] at h
  refine bw_aload_n C 0 dX7_speak_0 rfl rfl ?_
  refine bw_getr C (j := 2) (t := 1) lX0 sX0 rfl inlX7 (by decide) rfl flX7_28 dX7_speak_1 ?_
  refine bw_iload_n C 1 dX7_speak_4 rfl rfl ?_
  refine bw_iload_n C 2 dX7_speak_5 rfl rfl ?_
  refine bw_iload_n C 3 dX7_speak_6 rfl rfl ?_
  refine bw_callVi C (As := [.int x1, .int x2, .int x3]) lX1 sX1 rfl miX6_addTalk mlX7_177 imX6_addTalk seX6_addTalk (by decide) rfl rfl (fun z1 h1 => mt6_addTalk isT_1 h1) rfl (Nat.le_of_ble_eq_true rfl) rfl dX7_speak_7 h (fun q7 _ h => ?_)
  exact bw_iret C dX7_speak_10 h
theorem mt7_speak {l : Launch} {G : GX}   {x1 : Int32} {x2 : Int32} {x3 : Int32} {w : Mem} {z : Int32 × Mem} (h : fn7_speak  x1 x2 x3 w = some z) : MC l G shX 71 (eX G) yX7_speak cX7_speak 4 (some .int) rm7_speak [.ref (gad G 0), .int x1, .int x2, .int x3] w z := by
  refine met_of (by decide +kernel) (eX_ok G) rfl (Nat.le_of_ble_eq_true rfl) (fun M hM C => ?_)
  subst hM
  exact bk7_speak C  x1 x2 x3 h
def rm7_silent : Room := { frames := 4, cells := 0, slots := 0, locals := 83 }
def fn7_silent  (x1 : Int32) (w : Mem) : Option (Int32 × Mem) := (fn7_isHour x1 w).bind (fun q1 => (if q1.1 = 0 then some ((-1), q1.2) else (fn6_silentOnes 1 x1 q1.2).bind (fun q12 => some (q12.1, q12.2))))
set_option maxRecDepth 20000 in
theorem bk7_silent {M : MX} {G : GX} (C : BC M G shX 71 (eX G) RX7 cX7_silent 2 (some .int) rm7_silent) {z : Int32 × Mem}   (x1 : Int32) {w : Mem} (h : fn7_silent  x1 w = some z) : BW M G shX 71 2 (ZR M G shX 71 (some .int) z) 0 [(0, .ref (gad G 0)), (1, .int x1)] [] w := by
  rw [fn7_silent] at h
  refine bw_iload_n C 1 dX7_silent_0 rfl rfl ?_
  refine bw_callSi C (As := [.int x1]) miX7_isHour mlX7_174 smX7_isHour (by decide) rfl rfl (fun z1 h1 => mt7_isHour h1) rfl (Nat.le_of_ble_eq_true rfl) rfl dX7_silent_1 h (fun q1 _ h => ?_)
  refine bw_if_eq C (tgt := 18) dX7_silent_4 (by decide) h (fun h => ?_) (fun h => ?_)
  · refine bw_iconst C (v := (-1)) dX7_silent_18 (by decide) ?_
    exact bw_iret C dX7_silent_19 h
  · refine bw_aload_n C 0 dX7_silent_7 rfl rfl ?_
    refine bw_getr C (j := 2) (t := 1) lX0 sX0 rfl inlX7 (by decide) rfl flX7_28 dX7_silent_8 ?_
    refine bw_iload_n C 1 dX7_silent_11 rfl rfl ?_
    refine bw_callVi C (As := [.int x1]) lX1 sX1 rfl miX6_silentOnes mlX7_181 imX6_silentOnes seX6_silentOnes (by decide) rfl rfl (fun z1 h1 => mt6_silentOnes isT_1 h1) rfl (Nat.le_of_ble_eq_true rfl) rfl dX7_silent_12 h (fun q12 _ h => ?_)
    refine bw_goto C (tgt := 19) dX7_silent_15 (by decide) ?_
    exact bw_iret C dX7_silent_19 h
theorem mt7_silent {l : Launch} {G : GX}   {x1 : Int32} {w : Mem} {z : Int32 × Mem} (h : fn7_silent  x1 w = some z) : MC l G shX 71 (eX G) yX7_silent cX7_silent 2 (some .int) rm7_silent [.ref (gad G 0), .int x1] w z := by
  refine met_of (by decide +kernel) (eX_ok G) rfl (Nat.le_of_ble_eq_true rfl) (fun M hM C => ?_)
  subst hM
  exact bk7_silent C  x1 h
def rm7_quiet : Room := { frames := 4, cells := 0, slots := 0, locals := 83 }
def fn7_quiet_17 (x1 : Int32) (k : Int32 → Int32 → Mem → Option (Int32 × Mem)) : Nat → Int32 → Int32 → Mem → Option (Int32 × Mem)
  | 0, _, _, _ => none
  | nn + 1, x2, x3, w => (if 12 ≤ x3 then k x2 x3 w else (fn6_silentOnes 1 x3 w).bind (fun q28 => (fn7_hasBit q28.1 x1 q28.2).bind (fun q32 => (if q32.1 = 0 then fn7_quiet_17 x1 k nn x2 (x3 + 1) q32.2 else fn7_quiet_17 x1 k nn (x2 ||| ((1 : Int32) <<< (x3 &&& 31))) (x3 + 1) q32.2))))
set_option maxRecDepth 20000 in
theorem bk7_quiet_17 {M : MX} {G : GX} (C : BC M G shX 71 (eX G) RX7 cX7_quiet 4 (some .int) rm7_quiet) {z : Int32 × Mem} (x1 : Int32) {k : Int32 → Int32 → Mem → Option (Int32 × Mem)} (hk : ∀ (x2 : Int32) (x3 : Int32) (w : Mem), k x2 x3 w = some z → BW M G shX 71 4 (ZR M G shX 71 (some .int) z) 50 [(2, .int x2)] [] w) : ∀ (nn : Nat) (x2 : Int32) (x3 : Int32) (w : Mem), fn7_quiet_17 x1 k nn x2 x3 w = some z → BW M G shX 71 4 (ZR M G shX 71 (some .int) z) 17 [(0, .ref (gad G 0)), (1, .int x1), (2, .int x2), (3, .int x3)] [] w := by
  intro nn
  induction nn with
  | zero =>
    intro x2 x3 w h
    have h : (none : Option (Int32 × Mem)) = some z := h
    cases h
  | succ nn ih =>
    intro x2 x3 w h
    rw [fn7_quiet_17] at h
    refine bw_iload_n C 3 dX7_quiet_17 rfl rfl ?_
    refine bw_bipush C (v := 12) dX7_quiet_18 (by decide) ?_
    refine bw_icmp_ge C (tgt := 50) dX7_quiet_20 (by decide) h (fun h => ?_) (fun h => ?_)
    · exact bw_sub [2] rfl (hk x2 x3 w h)
    · refine bw_aload_n C 0 dX7_quiet_23 rfl rfl ?_
      refine bw_getr C (j := 2) (t := 1) lX0 sX0 rfl inlX7 (by decide) rfl flX7_28 dX7_quiet_24 ?_
      refine bw_iload_n C 3 dX7_quiet_27 rfl rfl ?_
      refine bw_callVi C (As := [.int x3]) lX1 sX1 rfl miX6_silentOnes mlX7_181 imX6_silentOnes seX6_silentOnes (by decide) rfl rfl (fun z1 h1 => mt6_silentOnes isT_1 h1) rfl (Nat.le_of_ble_eq_true rfl) rfl dX7_quiet_28 h (fun q28 _ h => ?_)
      refine bw_iload_n C 1 dX7_quiet_31 rfl rfl ?_
      refine bw_callSi C (As := [.int q28.1, .int x1]) miX7_hasBit mlX7_184 smX7_hasBit (by decide) rfl rfl (fun z1 h1 => mt7_hasBit h1) rfl (Nat.le_of_ble_eq_true rfl) rfl dX7_quiet_32 h (fun q32 _ h => ?_)
      refine bw_if_eq C (tgt := 44) dX7_quiet_35 (by decide) h (fun h => ?_) (fun h => ?_)
      · refine bw_iinc C [(3, .int (x3 + 1)), (0, .ref (gad G 0)), (1, .int x1), (2, .int x2)] 3 dX7_quiet_44 rfl rfl (by decide) rfl ?_
        refine bw_goto C (tgt := 17) dX7_quiet_47 (by decide) ?_
        exact bw_sub [1, 2, 3, 0] rfl (ih x2 (x3 + 1) q32.2 h)
      · refine bw_iload_n C 2 dX7_quiet_38 rfl rfl ?_
        refine bw_iconst C (v := 1) dX7_quiet_39 (by decide) ?_
        refine bw_iload_n C 3 dX7_quiet_40 rfl rfl ?_
        refine bw_ishl C dX7_quiet_41 ?_
        refine bw_ior C dX7_quiet_42 ?_
        refine bw_istore_n C [(2, .int (x2 ||| ((1 : Int32) <<< (x3 &&& 31)))), (0, .ref (gad G 0)), (1, .int x1), (3, .int x3)] dX7_quiet_43 rfl (by decide) rfl ?_
        refine bw_iinc C [(3, .int (x3 + 1)), (2, .int (x2 ||| ((1 : Int32) <<< (x3 &&& 31)))), (0, .ref (gad G 0)), (1, .int x1)] 3 dX7_quiet_44 rfl rfl (by decide) rfl ?_
        refine bw_goto C (tgt := 17) dX7_quiet_47 (by decide) ?_
        exact bw_sub [2, 3, 1, 0] rfl (ih (x2 ||| ((1 : Int32) <<< (x3 &&& 31))) (x3 + 1) q32.2 h)
def fn7_quiet  (x1 : Int32) (w : Mem) : Option (Int32 × Mem) := (fn6_hasOne 1 x1 w).bind (fun q5 => (if ¬ q5.1 = 0 then fn7_quiet_17 x1 (fun x2_17 x3_17 w_17 => some (x2_17, w_17)) 1000 0 0 q5.2 else some ((-1), q5.2)))
set_option maxRecDepth 20000 in
theorem bk7_quiet {M : MX} {G : GX} (C : BC M G shX 71 (eX G) RX7 cX7_quiet 4 (some .int) rm7_quiet) {z : Int32 × Mem}   (x1 : Int32) {w : Mem} (h : fn7_quiet  x1 w = some z) : BW M G shX 71 4 (ZR M G shX 71 (some .int) z) 0 [(0, .ref (gad G 0)), (1, .int x1)] [] w := by
  rw [fn7_quiet] at h
  refine bw_aload_n C 0 dX7_quiet_0 rfl rfl ?_
  refine bw_getr C (j := 2) (t := 1) lX0 sX0 rfl inlX7 (by decide) rfl flX7_28 dX7_quiet_1 ?_
  refine bw_iload_n C 1 dX7_quiet_4 rfl rfl ?_
  refine bw_callVi C (As := [.int x1]) lX1 sX1 rfl miX6_hasOne mlX7_122 imX6_hasOne seX6_hasOne (by decide) rfl rfl (fun z1 h1 => mt6_hasOne isT_1 h1) rfl (Nat.le_of_ble_eq_true rfl) rfl dX7_quiet_5 h (fun q5 _ h => ?_)
  refine bw_if_ne C (tgt := 13) dX7_quiet_8 (by decide) h (fun h => ?_) (fun h => ?_)
  · refine bw_iconst C (v := 0) dX7_quiet_13 (by decide) ?_
    refine bw_istore_n C [(2, .int 0), (0, .ref (gad G 0)), (1, .int x1)] dX7_quiet_14 rfl (by decide) rfl ?_
    refine bw_iconst C (v := 0) dX7_quiet_15 (by decide) ?_
    refine bw_istore_n C [(3, .int 0), (2, .int 0), (0, .ref (gad G 0)), (1, .int x1)] dX7_quiet_16 rfl (by decide) rfl ?_
    refine bw_sub [2, 3, 1, 0] rfl (bk7_quiet_17 C x1 (fun x2_17 x3_17 w_17 h => ?_) 1000 0 0 q5.2 h)
    refine bw_iload_n C 0 dX7_quiet_50 rfl rfl ?_
    exact bw_iret C dX7_quiet_51 h
  · refine bw_iconst C (v := (-1)) dX7_quiet_11 (by decide) ?_
    exact bw_iret C dX7_quiet_12 h
theorem mt7_quiet {l : Launch} {G : GX}   {x1 : Int32} {w : Mem} {z : Int32 × Mem} (h : fn7_quiet  x1 w = some z) : MC l G shX 71 (eX G) yX7_quiet cX7_quiet 4 (some .int) rm7_quiet [.ref (gad G 0), .int x1] w z := by
  refine met_of (by decide +kernel) (eX_ok G) rfl (Nat.le_of_ble_eq_true rfl) (fun M hM C => ?_)
  subst hM
  exact bk7_quiet C  x1 h
def rm7_may : Room := { frames := 4, cells := 0, slots := 0, locals := 83 }
def fn7_may  (x1 : Int32) (x2 : Int32) (x3 : Int32) (w : Mem) : Option (Int32 × Mem) := (fn6_canTalk 1 x1 x2 x3 w).bind (fun q7 => (if ¬ q7.1 = 0 then (fn6_silentOnes 1 x1 q7.2).bind (fun q24 => (fn6_isSaid 1 q24.1 x2 x3 q24.2).bind (fun q29 => (fn7_oneIf q29.1 q29.2).bind (fun q32 => some (q32.1, q32.2)))) else some ((-1), q7.2)))
set_option maxRecDepth 20000 in
theorem bk7_may {M : MX} {G : GX} (C : BC M G shX 71 (eX G) RX7 cX7_may 4 (some .int) rm7_may) {z : Int32 × Mem}   (x1 : Int32) (x2 : Int32) (x3 : Int32) {w : Mem} (h : fn7_may  x1 x2 x3 w = some z) : BW M G shX 71 4 (ZR M G shX 71 (some .int) z) 0 [(0, .ref (gad G 0)), (1, .int x1), (2, .int x2), (3, .int x3)] [] w := by
  rw [fn7_may] at h
  refine bw_aload_n C 0 dX7_may_0 rfl rfl ?_
  refine bw_getr C (j := 2) (t := 1) lX0 sX0 rfl inlX7 (by decide) rfl flX7_28 dX7_may_1 ?_
  refine bw_iload_n C 1 dX7_may_4 rfl rfl ?_
  refine bw_iload_n C 2 dX7_may_5 rfl rfl ?_
  refine bw_iload_n C 3 dX7_may_6 rfl rfl ?_
  refine bw_callVi C (As := [.int x1, .int x2, .int x3]) lX1 sX1 rfl miX6_canTalk mlX7_188 imX6_canTalk seX6_canTalk (by decide) rfl rfl (fun z1 h1 => mt6_canTalk isT_1 h1) rfl (Nat.le_of_ble_eq_true rfl) rfl dX7_may_7 h (fun q7 _ h => ?_)
  refine bw_if_ne C (tgt := 15) dX7_may_10 (by decide) h (fun h => ?_) (fun h => ?_)
  · refine bw_aload_n C 0 dX7_may_15 rfl rfl ?_
    refine bw_getr C (j := 2) (t := 1) lX0 sX0 rfl inlX7 (by decide) rfl flX7_28 dX7_may_16 ?_
    refine bw_aload_n C 0 dX7_may_19 rfl rfl ?_
    refine bw_getr C (j := 2) (t := 1) lX0 sX0 rfl inlX7 (by decide) rfl flX7_28 dX7_may_20 ?_
    refine bw_iload_n C 1 dX7_may_23 rfl rfl ?_
    refine bw_callVi C (As := [.int x1]) lX1 sX1 rfl miX6_silentOnes mlX7_181 imX6_silentOnes seX6_silentOnes (by decide) rfl rfl (fun z1 h1 => mt6_silentOnes isT_1 h1) rfl (Nat.le_of_ble_eq_true rfl) rfl dX7_may_24 h (fun q24 _ h => ?_)
    refine bw_iload_n C 2 dX7_may_27 rfl rfl ?_
    refine bw_iload_n C 3 dX7_may_28 rfl rfl ?_
    refine bw_callVi C (As := [.int q24.1, .int x2, .int x3]) lX1 sX1 rfl miX6_isSaid mlX7_192 imX6_isSaid seX6_isSaid (by decide) rfl rfl (fun z1 h1 => mt6_isSaid isT_1 h1) rfl (Nat.le_of_ble_eq_true rfl) rfl dX7_may_29 h (fun q29 _ h => ?_)
    refine bw_callSi C (As := [.int q29.1]) miX7_oneIf mlX7_148 smX7_oneIf (by decide) rfl rfl (fun z1 h1 => mt7_oneIf h1) rfl (Nat.le_of_ble_eq_true rfl) rfl dX7_may_32 h (fun q32 _ h => ?_)
    exact bw_iret C dX7_may_35 h
  · refine bw_iconst C (v := (-1)) dX7_may_13 (by decide) ?_
    exact bw_iret C dX7_may_14 h
theorem mt7_may {l : Launch} {G : GX}   {x1 : Int32} {x2 : Int32} {x3 : Int32} {w : Mem} {z : Int32 × Mem} (h : fn7_may  x1 x2 x3 w = some z) : MC l G shX 71 (eX G) yX7_may cX7_may 4 (some .int) rm7_may [.ref (gad G 0), .int x1, .int x2, .int x3] w z := by
  refine met_of (by decide +kernel) (eX_ok G) rfl (Nat.le_of_ble_eq_true rfl) (fun M hM C => ?_)
  subst hM
  exact bk7_may C  x1 x2 x3 h
def rm7_said : Room := { frames := 5, cells := 0, slots := 0, locals := 104 }
def fn7_said_4 (k : Int32 → Int32 → Mem → Option (Int32 × Mem)) : Nat → Int32 → Int32 → Mem → Option (Int32 × Mem)
  | 0, _, _, _ => none
  | nn + 1, x1, x2, w => (if (w 1 9) ≤ x2 then k x1 x2 w else (fn6_isTalkSaid 1 x2 w).bind (fun q20 => (if q20.1 = 0 then fn7_said_4 k nn x1 (x2 + 1) q20.2 else fn7_said_4 k nn (x1 ||| ((1 : Int32) <<< (x2 &&& 31))) (x2 + 1) q20.2)))
set_option maxRecDepth 20000 in
theorem bk7_said_4 {M : MX} {G : GX} (C : BC M G shX 71 (eX G) RX7 cX7_said 3 (some .int) rm7_said) {z : Int32 × Mem} {k : Int32 → Int32 → Mem → Option (Int32 × Mem)} (hk : ∀ (x1 : Int32) (x2 : Int32) (w : Mem), k x1 x2 w = some z → BW M G shX 71 3 (ZR M G shX 71 (some .int) z) 38 [(1, .int x1)] [] w) : ∀ (nn : Nat) (x1 : Int32) (x2 : Int32) (w : Mem), fn7_said_4 k nn x1 x2 w = some z → BW M G shX 71 3 (ZR M G shX 71 (some .int) z) 4 [(0, .ref (gad G 0)), (1, .int x1), (2, .int x2)] [] w := by
  intro nn
  induction nn with
  | zero =>
    intro x1 x2 w h
    have h : (none : Option (Int32 × Mem)) = some z := h
    cases h
  | succ nn ih =>
    intro x1 x2 w h
    rw [fn7_said_4] at h
    refine bw_iload_n C 2 dX7_said_4 rfl rfl ?_
    refine bw_aload_n C 0 dX7_said_5 rfl rfl ?_
    refine bw_getr C (j := 2) (t := 1) lX0 sX0 rfl inlX7 (by decide) rfl flX7_28 dX7_said_6 ?_
    refine bw_geti C (j := 9) lX1 sX1 rfl inlX6 (by decide) rfl flX7_113 dX7_said_9 ?_
    refine bw_icmp_ge C (tgt := 38) dX7_said_12 (by decide) h (fun h => ?_) (fun h => ?_)
    · exact bw_sub [1] rfl (hk x1 x2 w h)
    · refine bw_aload_n C 0 dX7_said_15 rfl rfl ?_
      refine bw_getr C (j := 2) (t := 1) lX0 sX0 rfl inlX7 (by decide) rfl flX7_28 dX7_said_16 ?_
      refine bw_iload_n C 2 dX7_said_19 rfl rfl ?_
      refine bw_callVi C (As := [.int x2]) lX1 sX1 rfl miX6_isTalkSaid mlX7_168 imX6_isTalkSaid seX6_isTalkSaid (by decide) rfl rfl (fun z1 h1 => mt6_isTalkSaid isT_1 h1) rfl (Nat.le_of_ble_eq_true rfl) rfl dX7_said_20 h (fun q20 _ h => ?_)
      refine bw_if_eq C (tgt := 32) dX7_said_23 (by decide) h (fun h => ?_) (fun h => ?_)
      · refine bw_iinc C [(2, .int (x2 + 1)), (0, .ref (gad G 0)), (1, .int x1)] 2 dX7_said_32 rfl rfl (by decide) rfl ?_
        refine bw_goto C (tgt := 4) dX7_said_35 (by decide) ?_
        exact bw_sub [1, 2, 0] rfl (ih x1 (x2 + 1) q20.2 h)
      · refine bw_iload_n C 1 dX7_said_26 rfl rfl ?_
        refine bw_iconst C (v := 1) dX7_said_27 (by decide) ?_
        refine bw_iload_n C 2 dX7_said_28 rfl rfl ?_
        refine bw_ishl C dX7_said_29 ?_
        refine bw_ior C dX7_said_30 ?_
        refine bw_istore_n C [(1, .int (x1 ||| ((1 : Int32) <<< (x2 &&& 31)))), (0, .ref (gad G 0)), (2, .int x2)] dX7_said_31 rfl (by decide) rfl ?_
        refine bw_iinc C [(2, .int (x2 + 1)), (1, .int (x1 ||| ((1 : Int32) <<< (x2 &&& 31)))), (0, .ref (gad G 0))] 2 dX7_said_32 rfl rfl (by decide) rfl ?_
        refine bw_goto C (tgt := 4) dX7_said_35 (by decide) ?_
        exact bw_sub [2, 1, 0] rfl (ih (x1 ||| ((1 : Int32) <<< (x2 &&& 31))) (x2 + 1) q20.2 h)
def fn7_said   (w : Mem) : Option (Int32 × Mem) := fn7_said_4 (fun x1_4 x2_4 w_4 => some (x1_4, w_4)) 1000 0 0 w
set_option maxRecDepth 20000 in
theorem bk7_said {M : MX} {G : GX} (C : BC M G shX 71 (eX G) RX7 cX7_said 3 (some .int) rm7_said) {z : Int32 × Mem}    {w : Mem} (h : fn7_said   w = some z) : BW M G shX 71 3 (ZR M G shX 71 (some .int) z) 0 [(0, .ref (gad G 0))] [] w := by
  rw [fn7_said] at h
  refine bw_iconst C (v := 0) dX7_said_0 (by decide) ?_
  refine bw_istore_n C [(1, .int 0), (0, .ref (gad G 0))] dX7_said_1 rfl (by decide) rfl ?_
  refine bw_iconst C (v := 0) dX7_said_2 (by decide) ?_
  refine bw_istore_n C [(2, .int 0), (1, .int 0), (0, .ref (gad G 0))] dX7_said_3 rfl (by decide) rfl ?_
  refine bw_sub [2, 1, 0] rfl (bk7_said_4 C (fun x1_4 x2_4 w_4 h => ?_) 1000 0 0 w h)
  refine bw_iload_n C 0 dX7_said_38 rfl rfl ?_
  exact bw_iret C dX7_said_39 h
theorem mt7_said {l : Launch} {G : GX}    {w : Mem} {z : Int32 × Mem} (h : fn7_said   w = some z) : MC l G shX 71 (eX G) yX7_said cX7_said 3 (some .int) rm7_said [.ref (gad G 0)] w z := by
  refine met_of (by decide +kernel) (eX_ok G) rfl (Nat.le_of_ble_eq_true rfl) (fun M hM C => ?_)
  subst hM
  exact bk7_said C   h
