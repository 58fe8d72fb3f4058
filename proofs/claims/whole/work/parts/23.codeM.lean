def rm8_pricedThen : Room := { frames := 2, cells := 0, slots := 0, locals := 43 }
def fn8_pricedThen_4 (x1 : Int32) (k : Int32 → Int32 → Mem → Option (Int32 × Mem)) : Nat → Int32 → Int32 → Mem → Option (Int32 × Mem)
  | 0, _, _, _ => none
  | nn + 1, x2, x3, w => (if (w 0 2) ≤ x3 then k x2 x3 w else (if ib ((3 * x3) + 2) 18 = true then (if x1 = 0 then none else (if ib ((3 * x3) + 1) 18 = true then (if (w 2 ((3 * x3) + 1).toNatClampNeg) ≤ ((w 2 ((3 * x3) + 2).toNatClampNeg) / x1) then (if ib ((3 * x3) + 1) 18 = true then fn8_pricedThen_4 x1 k nn (x2 + (w 2 ((3 * x3) + 1).toNatClampNeg)) (x3 + 1) w else none) else fn8_pricedThen_4 x1 k nn (x2 + ((w 2 ((3 * x3) + 2).toNatClampNeg) / x1)) (x3 + 1) w) else none)) else none))
set_option maxRecDepth 20000 in
theorem bk8_pricedThen_4 {M : MX} {G : GX} (C : BC M G shM 19 eM RX8 cX8_pricedThen 5 (some .int) rm8_pricedThen) {z : Int32 × Mem} (x1 : Int32) {k : Int32 → Int32 → Mem → Option (Int32 × Mem)} (hk : ∀ (x2 : Int32) (x3 : Int32) (w : Mem), k x2 x3 w = some z → BW M G shM 19 5 (ZR M G shM 19 (some .int) z) 65 [(0, .ref (gad G 0)), (1, .int x1), (2, .int x2)] [] w) : ∀ (nn : Nat) (x2 : Int32) (x3 : Int32) (w : Mem), fn8_pricedThen_4 x1 k nn x2 x3 w = some z → BW M G shM 19 5 (ZR M G shM 19 (some .int) z) 4 [(0, .ref (gad G 0)), (1, .int x1), (2, .int x2), (3, .int x3)] [] w := by
  intro nn
  induction nn with
  | zero =>
    intro x2 x3 w h
    have h : (none : Option (Int32 × Mem)) = some z := h
    cases h
  | succ nn ih =>
    intro x2 x3 w h
    rw [fn8_pricedThen_4] at h
    refine bw_iload_n C 3 dX8_pricedThen_4 rfl rfl ?_
    refine bw_aload_n C 0 dX8_pricedThen_5 rfl rfl ?_
    refine bw_geti C (j := 2) lM0 sM0 rfl inlX8 (by decide) rfl flX8_166 dX8_pricedThen_6 ?_
    refine bw_icmp_ge C (tgt := 65) dX8_pricedThen_9 (by decide) h (fun h => ?_) (fun h => ?_)
    · exact bw_sub [0, 1, 2] rfl (hk x2 x3 w h)
    · refine bw_aload_n C 0 dX8_pricedThen_12 rfl rfl ?_
      refine bw_getr C (j := 1) (t := 2) lM0 sM0 rfl inlX8 (by decide) rfl flX8_13 dX8_pricedThen_13 ?_
      refine bw_iconst C (v := 3) dX8_pricedThen_16 (by decide) ?_
      refine bw_iload_n C 3 dX8_pricedThen_17 rfl rfl ?_
      refine bw_imul C dX8_pricedThen_18 ?_
      refine bw_iconst C (v := 2) dX8_pricedThen_19 (by decide) ?_
      refine bw_iadd C dX8_pricedThen_20 ?_
      refine bw_iald C lM2 sM2 dX8_pricedThen_21 h (fun h => ?_)
      refine bw_iload_n C 1 dX8_pricedThen_22 rfl rfl ?_
      refine bw_idiv C dX8_pricedThen_23 h (fun h => ?_)
      refine bw_istore C [(4, .int ((w 2 ((3 * x3) + 2).toNatClampNeg) / x1)), (0, .ref (gad G 0)), (1, .int x1), (2, .int x2), (3, .int x3)] dX8_pricedThen_24 (by decide) rfl ?_
      refine bw_iload_n C 3 dX8_pricedThen_26 rfl rfl ?_
      refine bw_iload C 0 dX8_pricedThen_27 rfl ?_
      refine bw_aload_n C 1 dX8_pricedThen_29 rfl rfl ?_
      refine bw_getr C (j := 1) (t := 2) lM0 sM0 rfl inlX8 (by decide) rfl flX8_13 dX8_pricedThen_30 ?_
      refine bw_iconst C (v := 3) dX8_pricedThen_33 (by decide) ?_
      refine bw_iload_n C 4 dX8_pricedThen_34 rfl rfl ?_
      refine bw_imul C dX8_pricedThen_35 ?_
      refine bw_iconst C (v := 1) dX8_pricedThen_36 (by decide) ?_
      refine bw_iadd C dX8_pricedThen_37 ?_
      refine bw_iald C lM2 sM2 dX8_pricedThen_38 h (fun h => ?_)
      refine bw_icmp_ge C (tgt := 47) dX8_pricedThen_39 (by decide) h (fun h => ?_) (fun h => ?_)
      · refine bw_aload_n C 1 dX8_pricedThen_47 rfl rfl ?_
        refine bw_getr C (j := 1) (t := 2) lM0 sM0 rfl inlX8 (by decide) rfl flX8_13 dX8_pricedThen_48 ?_
        refine bw_iconst C (v := 3) dX8_pricedThen_51 (by decide) ?_
        refine bw_iload_n C 4 dX8_pricedThen_52 rfl rfl ?_
        refine bw_imul C dX8_pricedThen_53 ?_
        refine bw_iconst C (v := 1) dX8_pricedThen_54 (by decide) ?_
        refine bw_iadd C dX8_pricedThen_55 ?_
        refine bw_iald C lM2 sM2 dX8_pricedThen_56 h (fun h => ?_)
        refine bw_iadd C dX8_pricedThen_57 ?_
        refine bw_istore_n C [(2, .int (x2 + (w 2 ((3 * x3) + 1).toNatClampNeg))), (4, .int ((w 2 ((3 * x3) + 2).toNatClampNeg) / x1)), (0, .ref (gad G 0)), (1, .int x1), (3, .int x3)] dX8_pricedThen_58 rfl (by decide) rfl ?_
        refine bw_iinc C [(3, .int (x3 + 1)), (2, .int (x2 + (w 2 ((3 * x3) + 1).toNatClampNeg))), (4, .int ((w 2 ((3 * x3) + 2).toNatClampNeg) / x1)), (0, .ref (gad G 0)), (1, .int x1)] 4 dX8_pricedThen_59 rfl rfl (by decide) rfl ?_
        refine bw_goto C (tgt := 4) dX8_pricedThen_62 (by decide) ?_
        exact bw_sub [3, 4, 1, 0] rfl (ih (x2 + (w 2 ((3 * x3) + 1).toNatClampNeg)) (x3 + 1) w h)
      · refine bw_iload C 0 dX8_pricedThen_42 rfl ?_
        refine bw_goto C (tgt := 57) dX8_pricedThen_44 (by decide) ?_
        refine bw_iadd C dX8_pricedThen_57 ?_
        refine bw_istore_n C [(2, .int (x2 + ((w 2 ((3 * x3) + 2).toNatClampNeg) / x1))), (4, .int ((w 2 ((3 * x3) + 2).toNatClampNeg) / x1)), (0, .ref (gad G 0)), (1, .int x1), (3, .int x3)] dX8_pricedThen_58 rfl (by decide) rfl ?_
        refine bw_iinc C [(3, .int (x3 + 1)), (2, .int (x2 + ((w 2 ((3 * x3) + 2).toNatClampNeg) / x1))), (4, .int ((w 2 ((3 * x3) + 2).toNatClampNeg) / x1)), (0, .ref (gad G 0)), (1, .int x1)] 4 dX8_pricedThen_59 rfl rfl (by decide) rfl ?_
        refine bw_goto C (tgt := 4) dX8_pricedThen_62 (by decide) ?_
        exact bw_sub [3, 4, 1, 0] rfl (ih (x2 + ((w 2 ((3 * x3) + 2).toNatClampNeg) / x1)) (x3 + 1) w h)
def fn8_pricedThen  (x1 : Int32) (w : Mem) : Option (Int32 × Mem) := fn8_pricedThen_4 x1 (fun x2_4 x3_4 w_4 => (fn8_unspent w_4).bind (fun q66 => (if x2_4 ≤ q66.1 then (if q66.1 ≤ x2_4 then some (x1, q66.2) else (if x1 ≤ 1 then some (1, q66.2) else some ((x1 - 1), q66.2))) else (if 99 ≤ x1 then some (99, q66.2) else some ((x1 + 1), q66.2))))) 1000 0 0 w
set_option maxRecDepth 20000 in
theorem bk8_pricedThen {M : MX} {G : GX} (C : BC M G shM 19 eM RX8 cX8_pricedThen 5 (some .int) rm8_pricedThen) {z : Int32 × Mem}   (x1 : Int32) {w : Mem} (h : fn8_pricedThen  x1 w = some z) : BW M G shM 19 5 (ZR M G shM 19 (some .int) z) 0 [(0, .ref (gad G 0)), (1, .int x1)] [] w := by
  rw [fn8_pricedThen] at h
  refine bw_iconst C (v := 0) dX8_pricedThen_0 (by decide) ?_
  refine bw_istore_n C [(2, .int 0), (0, .ref (gad G 0)), (1, .int x1)] dX8_pricedThen_1 rfl (by decide) rfl ?_
  refine bw_iconst C (v := 0) dX8_pricedThen_2 (by decide) ?_
  refine bw_istore_n C [(3, .int 0), (2, .int 0), (0, .ref (gad G 0)), (1, .int x1)] dX8_pricedThen_3 rfl (by decide) rfl ?_
  refine bw_sub [2, 3, 1, 0] rfl (bk8_pricedThen_4 C x1 (fun x2_4 x3_4 w_4 h => ?_) 1000 0 0 w h)
  refine bw_aload_n C 0 dX8_pricedThen_65 rfl rfl ?_
  refine bw_callVi C (As := []) lM0 sM0 rfl miX8_unspent mlX8_251 imX8_unspent seX8_unspent (by decide) rfl rfl (fun z1 h1 => mt8_unspent h1) rfl (Nat.le_of_ble_eq_true rfl) rfl dX8_pricedThen_66 h (fun q66 _ h => ?_)
  refine bw_istore_n C [(3, .int q66.1), (0, .ref (gad G 0)), (1, .int x1), (2, .int x2_4)] dX8_pricedThen_69 rfl (by decide) rfl ?_
  refine bw_iload_n C 3 dX8_pricedThen_70 rfl rfl ?_
  refine bw_iload_n C 0 dX8_pricedThen_71 rfl rfl ?_
  refine bw_icmp_le C (tgt := 92) dX8_pricedThen_72 (by decide) h (fun h => ?_) (fun h => ?_)
  · refine bw_iload_n C 3 dX8_pricedThen_92 rfl rfl ?_
    refine bw_iload_n C 0 dX8_pricedThen_93 rfl rfl ?_
    refine bw_icmp_ge C (tgt := 112) dX8_pricedThen_94 (by decide) h (fun h => ?_) (fun h => ?_)
    · refine bw_iload_n C 2 dX8_pricedThen_112 rfl rfl ?_
      exact bw_iret C dX8_pricedThen_113 h
    · refine bw_iload_n C 2 dX8_pricedThen_97 rfl rfl ?_
      refine bw_iconst C (v := 1) dX8_pricedThen_98 (by decide) ?_
      refine bw_icmp_le C (tgt := 108) dX8_pricedThen_99 (by decide) h (fun h => ?_) (fun h => ?_)
      · refine bw_iconst C (v := 1) dX8_pricedThen_108 (by decide) ?_
        refine bw_goto C (tgt := 113) dX8_pricedThen_109 (by decide) ?_
        exact bw_iret C dX8_pricedThen_113 h
      · refine bw_iload_n C 2 dX8_pricedThen_102 rfl rfl ?_
        refine bw_iconst C (v := 1) dX8_pricedThen_103 (by decide) ?_
        refine bw_isub C dX8_pricedThen_104 ?_
        refine bw_goto C (tgt := 113) dX8_pricedThen_105 (by decide) ?_
        exact bw_iret C dX8_pricedThen_113 h
  · refine bw_iload_n C 2 dX8_pricedThen_75 rfl rfl ?_
    refine bw_bipush C (v := 99) dX8_pricedThen_76 (by decide) ?_
    refine bw_icmp_ge C (tgt := 87) dX8_pricedThen_78 (by decide) h (fun h => ?_) (fun h => ?_)
    · refine bw_bipush C (v := 99) dX8_pricedThen_87 (by decide) ?_
      refine bw_goto C (tgt := 113) dX8_pricedThen_89 (by decide) ?_
      exact bw_iret C dX8_pricedThen_113 h
    · refine bw_iload_n C 2 dX8_pricedThen_81 rfl rfl ?_
      refine bw_iconst C (v := 1) dX8_pricedThen_82 (by decide) ?_
      refine bw_iadd C dX8_pricedThen_83 ?_
      refine bw_goto C (tgt := 113) dX8_pricedThen_84 (by decide) ?_
      exact bw_iret C dX8_pricedThen_113 h
theorem mt8_pricedThen {l : Launch} {G : GX}   {x1 : Int32} {w : Mem} {z : Int32 × Mem} (h : fn8_pricedThen  x1 w = some z) : MC l G shM 19 eM yX8_pricedThen cX8_pricedThen 5 (some .int) rm8_pricedThen [.ref (gad G 0), .int x1] w z := by
  refine met_of (by decide +kernel) (eM_ok _) rfl (Nat.le_of_ble_eq_true rfl) (fun M hM C => ?_)
  subst hM
  exact bk8_pricedThen C  x1 h
def rm8_settle : Room := { frames := 3, cells := 0, slots := 0, locals := 67 }
def fn8_settle_26 (x1 : Int32) (x2 : Int32) (k : Int32 → Mem → Option (Int32 × Mem)) : Nat → Int32 → Mem → Option (Int32 × Mem)
  | 0, _, _ => none
  | nn + 1, x3, w => (if 100 ≤ x3 then k x3 w else (if ib x3 100 = true then fn8_settle_26 x1 x2 k nn (x3 + 1) (up2 w 13 x3.toNatClampNeg 0) else none))
set_option maxRecDepth 20000 in
theorem bk8_settle_26 {M : MX} {G : GX} (C : BC M G shM 19 eM RX8 cX8_settle 5 (some .int) rm8_settle) {z : Int32 × Mem} (x1 : Int32) (x2 : Int32) {k : Int32 → Mem → Option (Int32 × Mem)} (hk : ∀ (x3 : Int32) (w : Mem), k x3 w = some z → BW M G shM 19 5 (ZR M G shM 19 (some .int) z) 45 [(0, .ref (gad G 0)), (1, .int x1), (2, .int x2)] [] w) : ∀ (nn : Nat) (x3 : Int32) (w : Mem), fn8_settle_26 x1 x2 k nn x3 w = some z → BW M G shM 19 5 (ZR M G shM 19 (some .int) z) 26 [(0, .ref (gad G 0)), (1, .int x1), (2, .int x2), (3, .int x3)] [] w := by
  intro nn
  induction nn with
  | zero =>
    intro x3 w h
    have h : (none : Option (Int32 × Mem)) = some z := h
    cases h
  | succ nn ih =>
    intro x3 w h
    rw [fn8_settle_26] at h
    refine bw_iload_n C 3 dX8_settle_26 rfl rfl ?_
    refine bw_bipush C (v := 100) dX8_settle_27 (by decide) ?_
    refine bw_icmp_ge C (tgt := 45) dX8_settle_29 (by decide) h (fun h => ?_) (fun h => ?_)
    · exact bw_sub [0, 1, 2] rfl (hk x3 w h)
    · refine bw_aload_n C 0 dX8_settle_32 rfl rfl ?_
      refine bw_getr C (j := 29) (t := 13) lM0 sM0 rfl inlX8 (by decide) rfl flX8_46 dX8_settle_33 ?_
      refine bw_iload_n C 3 dX8_settle_36 rfl rfl ?_
      refine bw_iconst C (v := 0) dX8_settle_37 (by decide) ?_
      refine bw_iast C lM13 sM13 dX8_settle_38 h (fun h => ?_)
      refine bw_iinc C [(3, .int (x3 + 1)), (0, .ref (gad G 0)), (1, .int x1), (2, .int x2)] 3 dX8_settle_39 rfl rfl (by decide) rfl ?_
      refine bw_goto C (tgt := 26) dX8_settle_42 (by decide) ?_
      exact bw_sub [1, 2, 3, 0] rfl (ih (x3 + 1) (up2 w 13 x3.toNatClampNeg 0) h)
def fn8_settle_57 (x2 : Int32) (k : Int32 → Int32 → Mem → Option (Int32 × Mem)) : Nat → Int32 → Int32 → Mem → Option (Int32 × Mem)
  | 0, _, _, _ => none
  | nn + 1, x3, x4, w => (fn8_pricedThen x3 w).bind (fun q59 => (if q59.1 = x3 then k x3 x4 q59.2 else (fn8_pricedThen x3 q59.2).bind (fun q68 => (if ib q68.1 100 = true then (if ¬ (q68.2 13 q68.1.toNatClampNeg) = 1 then (if ib q68.1 100 = true then fn8_settle_57 x2 k nn q68.1 (x4 + 1) (up2 q68.2 13 q68.1.toNatClampNeg 1) else none) else some ((-4), q68.2)) else none))))
set_option maxRecDepth 20000 in
theorem bk8_settle_57 {M : MX} {G : GX} (C : BC M G shM 19 eM RX8 cX8_settle 5 (some .int) rm8_settle) {z : Int32 × Mem} (x2 : Int32) {k : Int32 → Int32 → Mem → Option (Int32 × Mem)} (hk : ∀ (x3 : Int32) (x4 : Int32) (w : Mem), k x3 x4 w = some z → BW M G shM 19 5 (ZR M G shM 19 (some .int) z) 98 [(2, .int x2), (3, .int x3), (4, .int x4)] [] w) : ∀ (nn : Nat) (x3 : Int32) (x4 : Int32) (w : Mem), fn8_settle_57 x2 k nn x3 x4 w = some z → BW M G shM 19 5 (ZR M G shM 19 (some .int) z) 57 [(0, .ref (gad G 0)), (2, .int x2), (3, .int x3), (4, .int x4)] [] w := by
  intro nn
  induction nn with
  | zero =>
    intro x3 x4 w h
    have h : (none : Option (Int32 × Mem)) = some z := h
    cases h
  | succ nn ih =>
    intro x3 x4 w h
    rw [fn8_settle_57] at h
    refine bw_aload_n C 0 dX8_settle_57 rfl rfl ?_
    refine bw_iload_n C 2 dX8_settle_58 rfl rfl ?_
    refine bw_callVi C (As := [.int x3]) lM0 sM0 rfl miX8_pricedThen mlX8_256 imX8_pricedThen seX8_pricedThen (by decide) rfl rfl (fun z1 h1 => mt8_pricedThen h1) rfl (Nat.le_of_ble_eq_true rfl) rfl dX8_settle_59 h (fun q59 _ h => ?_)
    refine bw_iload_n C 2 dX8_settle_62 rfl rfl ?_
    refine bw_icmp_eq C (tgt := 98) dX8_settle_63 (by decide) h (fun h => ?_) (fun h => ?_)
    · exact bw_sub [1, 2, 3] rfl (hk x3 x4 q59.2 h)
    · refine bw_aload_n C 0 dX8_settle_66 rfl rfl ?_
      refine bw_iload_n C 2 dX8_settle_67 rfl rfl ?_
      refine bw_callVi C (As := [.int x3]) lM0 sM0 rfl miX8_pricedThen mlX8_256 imX8_pricedThen seX8_pricedThen (by decide) rfl rfl (fun z1 h1 => mt8_pricedThen h1) rfl (Nat.le_of_ble_eq_true rfl) rfl dX8_settle_68 h (fun q68 _ h => ?_)
      refine bw_istore_n C [(3, .int q68.1), (0, .ref (gad G 0)), (2, .int x2), (4, .int x4)] dX8_settle_71 rfl (by decide) rfl ?_
      refine bw_aload_n C 1 dX8_settle_72 rfl rfl ?_
      refine bw_getr C (j := 29) (t := 13) lM0 sM0 rfl inlX8 (by decide) rfl flX8_46 dX8_settle_73 ?_
      refine bw_iload_n C 0 dX8_settle_76 rfl rfl ?_
      refine bw_iald C lM13 sM13 dX8_settle_77 h (fun h => ?_)
      refine bw_iconst C (v := 1) dX8_settle_78 (by decide) ?_
      refine bw_icmp_ne C (tgt := 85) dX8_settle_79 (by decide) h (fun h => ?_) (fun h => ?_)
      · refine bw_aload_n C 1 dX8_settle_85 rfl rfl ?_
        refine bw_getr C (j := 29) (t := 13) lM0 sM0 rfl inlX8 (by decide) rfl flX8_46 dX8_settle_86 ?_
        refine bw_iload_n C 0 dX8_settle_89 rfl rfl ?_
        refine bw_iconst C (v := 1) dX8_settle_90 (by decide) ?_
        refine bw_iast C lM13 sM13 dX8_settle_91 h (fun h => ?_)
        refine bw_iinc C [(4, .int (x4 + 1)), (3, .int q68.1), (0, .ref (gad G 0)), (2, .int x2)] 3 dX8_settle_92 rfl rfl (by decide) rfl ?_
        refine bw_goto C (tgt := 57) dX8_settle_95 (by decide) ?_
        exact bw_sub [2, 3, 1, 0] rfl (ih q68.1 (x4 + 1) (up2 q68.2 13 q68.1.toNatClampNeg 1) h)
      · refine bw_bipush C (v := (-4)) dX8_settle_82 (by decide) ?_
        exact bw_iret C dX8_settle_84 h
def fn8_settle  (x1 : Int32) (x2 : Int32) (w : Mem) : Option (Int32 × Mem) := (fn8_in ((x1 : Int32).toInt64) 1 99 w).bind (fun q6 => (if q6.1 = 0 then some ((-1), q6.2) else (fn8_in ((x2 : Int32).toInt64) 0 1 q6.2).bind (fun q16 => (if ¬ q16.1 = 0 then fn8_settle_26 x1 x2 (fun x3_26 w_26 => (if ib x1 100 = true then fn8_settle_57 x2 (fun x3_57 x4_57 w_57 => (if ¬ x2 = 0 then some (x4_57, w_57) else some (x3_57, w_57))) 1000 x1 1 (up2 w_26 13 x1.toNatClampNeg 1) else none)) 1000 0 q16.2 else some ((-1), q16.2)))))
set_option maxRecDepth 20000 in
theorem bk8_settle {M : MX} {G : GX} (C : BC M G shM 19 eM RX8 cX8_settle 5 (some .int) rm8_settle) {z : Int32 × Mem}   (x1 : Int32) (x2 : Int32) {w : Mem} (h : fn8_settle  x1 x2 w = some z) : BW M G shM 19 5 (ZR M G shM 19 (some .int) z) 0 [(0, .ref (gad G 0)), (1, .int x1), (2, .int x2)] [] w := by
  rw [fn8_settle] at h
  refine bw_iload_n C 1 dX8_settle_0 rfl rfl ?_
  refine bw_i2l C dX8_settle_1 rfl ?_
  refine bw_lconst C (v := 1) dX8_settle_2 (by decide) ?_
  refine bw_ldc2 C dX8_settle_3 clX8_254 ?_
  refine bw_callSi C (As := [.long ((x1 : Int32).toInt64), .long 1, .long 99]) miX8_in mlX8_69 smX8_in (by decide) rfl rfl (fun z1 h1 => mt8_in h1) rfl (Nat.le_of_ble_eq_true rfl) rfl dX8_settle_6 h (fun q6 _ h => ?_)
  refine bw_if_eq C (tgt := 22) dX8_settle_9 (by decide) h (fun h => ?_) (fun h => ?_)
  · refine bw_iconst C (v := (-1)) dX8_settle_22 (by decide) ?_
    exact bw_iret C dX8_settle_23 h
  · refine bw_iload_n C 2 dX8_settle_12 rfl rfl ?_
    refine bw_i2l C dX8_settle_13 rfl ?_
    refine bw_lconst C (v := 0) dX8_settle_14 (by decide) ?_
    refine bw_lconst C (v := 1) dX8_settle_15 (by decide) ?_
    refine bw_callSi C (As := [.long ((x2 : Int32).toInt64), .long 0, .long 1]) miX8_in mlX8_69 smX8_in (by decide) rfl rfl (fun z1 h1 => mt8_in h1) rfl (Nat.le_of_ble_eq_true rfl) rfl dX8_settle_16 h (fun q16 _ h => ?_)
    refine bw_if_ne C (tgt := 24) dX8_settle_19 (by decide) h (fun h => ?_) (fun h => ?_)
    · refine bw_iconst C (v := 0) dX8_settle_24 (by decide) ?_
      refine bw_istore_n C [(3, .int 0), (0, .ref (gad G 0)), (1, .int x1), (2, .int x2)] dX8_settle_25 rfl (by decide) rfl ?_
      refine bw_sub [1, 2, 3, 0] rfl (bk8_settle_26 C x1 x2 (fun x3_26 w_26 h => ?_) 1000 0 q16.2 h)
      refine bw_iload_n C 1 dX8_settle_45 rfl rfl ?_
      refine bw_istore_n C [(3, .int x1), (0, .ref (gad G 0)), (1, .int x1), (2, .int x2)] dX8_settle_46 rfl (by decide) rfl ?_
      refine bw_iconst C (v := 1) dX8_settle_47 (by decide) ?_
      refine bw_istore C [(4, .int 1), (3, .int x1), (0, .ref (gad G 0)), (1, .int x1), (2, .int x2)] dX8_settle_48 (by decide) rfl ?_
      refine bw_aload_n C 2 dX8_settle_50 rfl rfl ?_
      refine bw_getr C (j := 29) (t := 13) lM0 sM0 rfl inlX8 (by decide) rfl flX8_46 dX8_settle_51 ?_
      refine bw_iload_n C 3 dX8_settle_54 rfl rfl ?_
      refine bw_iconst C (v := 1) dX8_settle_55 (by decide) ?_
      refine bw_iast C lM13 sM13 dX8_settle_56 h (fun h => ?_)
      refine bw_sub [2, 4, 1, 0] rfl (bk8_settle_57 C x2 (fun x3_57 x4_57 w_57 h => ?_) 1000 x1 1 (up2 w_26 13 x1.toNatClampNeg 1) h)
      refine bw_iload_n C 0 dX8_settle_98 rfl rfl ?_
      refine bw_if_ne C (tgt := 106) dX8_settle_99 (by decide) h (fun h => ?_) (fun h => ?_)
      · refine bw_iload C 2 dX8_settle_106 rfl ?_
        exact bw_iret C dX8_settle_108 h
      · refine bw_iload_n C 1 dX8_settle_102 rfl rfl ?_
        refine bw_goto C (tgt := 108) dX8_settle_103 (by decide) ?_
        exact bw_iret C dX8_settle_108 h
    · refine bw_iconst C (v := (-1)) dX8_settle_22 (by decide) ?_
      exact bw_iret C dX8_settle_23 h
theorem mt8_settle {l : Launch} {G : GX}   {x1 : Int32} {x2 : Int32} {w : Mem} {z : Int32 × Mem} (h : fn8_settle  x1 x2 w = some z) : MC l G shM 19 eM yX8_settle cX8_settle 5 (some .int) rm8_settle [.ref (gad G 0), .int x1, .int x2] w z := by
  refine met_of (by decide +kernel) (eM_ok _) rfl (Nat.le_of_ble_eq_true rfl) (fun M hM C => ?_)
  subst hM
  exact bk8_settle C  x1 x2 h
def rm8_test : Room := { frames := 1, cells := 0, slots := 0, locals := 25 }
def fn8_test_65 (t0 : Int32) (t1 : Int32) (w : Mem) : Option (Int32 × Mem) := (if ib t1 16 = true then some (((up2 (up2 w 14 t1.toNatClampNeg t0) 0 31 (((up2 w 14 t1.toNatClampNeg t0) 0 31) + 1)) 0 31), (up2 (up2 w 14 t1.toNatClampNeg t0) 0 31 (((up2 w 14 t1.toNatClampNeg t0) 0 31) + 1))) else none)
set_option maxRecDepth 20000 in
theorem bk8_test_65 {M : MX} {G : GX} (C : BC M G shM 19 eM RX8 cX8_test 3 (some .int) rm8_test) {z : Int32 × Mem} (t0 : Int32) (t1 : Int32) {w : Mem} (h : fn8_test_65 t0 t1 w = some z) : BW M G shM 19 3 (ZR M G shM 19 (some .int) z) 65 [(0, .ref (gad G 0))] [.int t0, .int t1, .ref (gad G 14)] w := by
  rw [fn8_test_65] at h
  refine bw_iast C lM14 sM14 dX8_test_65 h (fun h => ?_)
  refine bw_aload_n C 0 dX8_test_66 rfl rfl ?_
  refine bw_dup C dX8_test_67 rfl ?_
  refine bw_geti C (j := 31) lM0 sM0 rfl inlX8 (by decide) rfl flX8_175 dX8_test_68 ?_
  refine bw_iconst C (v := 1) dX8_test_71 (by decide) ?_
  refine bw_iadd C dX8_test_72 ?_
  refine bw_puti C (j := 31) (ty := .int) lM0 sM0 rfl inlX8 (by decide) tyX8 tyX8_ok nmX8 rfl flX8_175 rfl (by decide +kernel) rfl rfl dX8_test_73 ?_
  refine bw_aload_n C 0 dX8_test_76 rfl rfl ?_
  refine bw_geti C (j := 31) lM0 sM0 rfl inlX8 (by decide) rfl flX8_175 dX8_test_77 ?_
  exact bw_iret C dX8_test_80 h
def fn8_test  (x1 : Int32) (x2 : Int32) (w : Mem) : Option (Int32 × Mem) := (fn8_in ((x1 : Int32).toInt64) 1 (((((1 : Int32) <<< ((w 0 3) &&& 31)) - 1) : Int32).toInt64) w).bind (fun q12 => (if ¬ q12.1 = 0 then (if ¬ (q12.2 0 31) = 8 then (if ib (2 * (q12.2 0 31)) 16 = true then (if x2 = 0 then fn8_test_65 0 ((2 * ((up2 q12.2 14 (2 * (q12.2 0 31)).toNatClampNeg x1) 0 31)) + 1) (up2 q12.2 14 (2 * (q12.2 0 31)).toNatClampNeg x1) else fn8_test_65 1 ((2 * ((up2 q12.2 14 (2 * (q12.2 0 31)).toNatClampNeg x1) 0 31)) + 1) (up2 q12.2 14 (2 * (q12.2 0 31)).toNatClampNeg x1)) else none) else some ((-3), q12.2)) else some ((-1), q12.2)))
set_option maxRecDepth 20000 in
theorem bk8_test {M : MX} {G : GX} (C : BC M G shM 19 eM RX8 cX8_test 3 (some .int) rm8_test) {z : Int32 × Mem}   (x1 : Int32) (x2 : Int32) {w : Mem} (h : fn8_test  x1 x2 w = some z) : BW M G shM 19 3 (ZR M G shM 19 (some .int) z) 0 [(0, .ref (gad G 0)), (1, .int x1), (2, .int x2)] [] w := by
  rw [fn8_test] at h
  refine bw_iload_n C 1 dX8_test_0 rfl rfl ?_
  refine bw_i2l C dX8_test_1 rfl ?_
  refine bw_lconst C (v := 1) dX8_test_2 (by decide) ?_
  refine bw_iconst C (v := 1) dX8_test_3 (by decide) ?_
  refine bw_aload_n C 0 dX8_test_4 rfl rfl ?_
  refine bw_geti C (j := 3) lM0 sM0 rfl inlX8 (by decide) rfl flX8_169 dX8_test_5 ?_
  refine bw_ishl C dX8_test_8 ?_
  refine bw_iconst C (v := 1) dX8_test_9 (by decide) ?_
  refine bw_isub C dX8_test_10 ?_
  refine bw_i2l C dX8_test_11 rfl ?_
  refine bw_callSi C (As := [.long ((x1 : Int32).toInt64), .long 1, .long (((((1 : Int32) <<< ((w 0 3) &&& 31)) - 1) : Int32).toInt64)]) miX8_in mlX8_69 smX8_in (by decide) rfl rfl (fun z1 h1 => mt8_in h1) rfl (Nat.le_of_ble_eq_true rfl) rfl dX8_test_12 h (fun q12 _ h => ?_)
  refine bw_if_ne C (tgt := 20) dX8_test_15 (by decide) h (fun h => ?_) (fun h => ?_)
  · refine bw_aload_n C 0 dX8_test_20 rfl rfl ?_
    refine bw_geti C (j := 31) lM0 sM0 rfl inlX8 (by decide) rfl flX8_175 dX8_test_21 ?_
    refine bw_bipush C (v := 8) dX8_test_24 (by decide) ?_
    refine bw_icmp_ne C (tgt := 32) dX8_test_26 (by decide) h (fun h => ?_) (fun h => ?_)
    · refine bw_aload_n C 0 dX8_test_32 rfl rfl ?_
      refine bw_getr C (j := 30) (t := 14) lM0 sM0 rfl inlX8 (by decide) rfl flX8_49 dX8_test_33 ?_
      refine bw_iconst C (v := 2) dX8_test_36 (by decide) ?_
      refine bw_aload_n C 0 dX8_test_37 rfl rfl ?_
      refine bw_geti C (j := 31) lM0 sM0 rfl inlX8 (by decide) rfl flX8_175 dX8_test_38 ?_
      refine bw_imul C dX8_test_41 ?_
      refine bw_iload_n C 1 dX8_test_42 rfl rfl ?_
      refine bw_iast C lM14 sM14 dX8_test_43 h (fun h => ?_)
      refine bw_aload_n C 0 dX8_test_44 rfl rfl ?_
      refine bw_getr C (j := 30) (t := 14) lM0 sM0 rfl inlX8 (by decide) rfl flX8_49 dX8_test_45 ?_
      refine bw_iconst C (v := 2) dX8_test_48 (by decide) ?_
      refine bw_aload_n C 0 dX8_test_49 rfl rfl ?_
      refine bw_geti C (j := 31) lM0 sM0 rfl inlX8 (by decide) rfl flX8_175 dX8_test_50 ?_
      refine bw_imul C dX8_test_53 ?_
      refine bw_iconst C (v := 1) dX8_test_54 (by decide) ?_
      refine bw_iadd C dX8_test_55 ?_
      refine bw_iload_n C 2 dX8_test_56 rfl rfl ?_
      refine bw_if_eq C (tgt := 64) dX8_test_57 (by decide) h (fun h => ?_) (fun h => ?_)
      · refine bw_iconst C (v := 0) dX8_test_64 (by decide) ?_
        exact bw_sub [0] rfl (bk8_test_65 C 0 ((2 * ((up2 q12.2 14 (2 * (q12.2 0 31)).toNatClampNeg x1) 0 31)) + 1) h)
      · refine bw_iconst C (v := 1) dX8_test_60 (by decide) ?_
        refine bw_goto C (tgt := 65) dX8_test_61 (by decide) ?_
        exact bw_sub [0] rfl (bk8_test_65 C 1 ((2 * ((up2 q12.2 14 (2 * (q12.2 0 31)).toNatClampNeg x1) 0 31)) + 1) h)
    · refine bw_bipush C (v := (-3)) dX8_test_29 (by decide) ?_
      exact bw_iret C dX8_test_31 h
  · refine bw_iconst C (v := (-1)) dX8_test_18 (by decide) ?_
    exact bw_iret C dX8_test_19 h
theorem mt8_test {l : Launch} {G : GX}   {x1 : Int32} {x2 : Int32} {w : Mem} {z : Int32 × Mem} (h : fn8_test  x1 x2 w = some z) : MC l G shM 19 eM yX8_test cX8_test 3 (some .int) rm8_test [.ref (gad G 0), .int x1, .int x2] w z := by
  refine met_of (by decide +kernel) (eM_ok _) rfl (Nat.le_of_ble_eq_true rfl) (fun M hM C => ?_)
  subst hM
  exact bk8_test C  x1 x2 h
def rm8_untest : Room := { frames := 1, cells := 0, slots := 0, locals := 25 }
def fn8_untest  (x1 : Int32) (w : Mem) : Option (Int32 × Mem) := (fn8_in ((x1 : Int32).toInt64) 0 (((w 0 31) : Int32).toInt64) w).bind (fun q8 => (if ¬ q8.1 = 0 then some ((q8.2 0 31), (up2 q8.2 0 31 x1)) else some ((-1), q8.2)))
set_option maxRecDepth 20000 in
theorem bk8_untest {M : MX} {G : GX} (C : BC M G shM 19 eM RX8 cX8_untest 3 (some .int) rm8_untest) {z : Int32 × Mem}   (x1 : Int32) {w : Mem} (h : fn8_untest  x1 w = some z) : BW M G shM 19 3 (ZR M G shM 19 (some .int) z) 0 [(0, .ref (gad G 0)), (1, .int x1)] [] w := by
  rw [fn8_untest] at h
  refine bw_iload_n C 1 dX8_untest_0 rfl rfl ?_
  refine bw_i2l C dX8_untest_1 rfl ?_
  refine bw_lconst C (v := 0) dX8_untest_2 (by decide) ?_
  refine bw_aload_n C 0 dX8_untest_3 rfl rfl ?_
  refine bw_geti C (j := 31) lM0 sM0 rfl inlX8 (by decide) rfl flX8_175 dX8_untest_4 ?_
  refine bw_i2l C dX8_untest_7 rfl ?_
  refine bw_callSi C (As := [.long ((x1 : Int32).toInt64), .long 0, .long (((w 0 31) : Int32).toInt64)]) miX8_in mlX8_69 smX8_in (by decide) rfl rfl (fun z1 h1 => mt8_in h1) rfl (Nat.le_of_ble_eq_true rfl) rfl dX8_untest_8 h (fun q8 _ h => ?_)
  refine bw_if_ne C (tgt := 16) dX8_untest_11 (by decide) h (fun h => ?_) (fun h => ?_)
  · refine bw_aload_n C 0 dX8_untest_16 rfl rfl ?_
    refine bw_geti C (j := 31) lM0 sM0 rfl inlX8 (by decide) rfl flX8_175 dX8_untest_17 ?_
    refine bw_istore_n C [(2, .int (q8.2 0 31)), (0, .ref (gad G 0)), (1, .int x1)] dX8_untest_20 rfl (by decide) rfl ?_
    refine bw_aload_n C 1 dX8_untest_21 rfl rfl ?_
    refine bw_iload_n C 2 dX8_untest_22 rfl rfl ?_
    refine bw_puti C (j := 31) (ty := .int) lM0 sM0 rfl inlX8 (by decide) tyX8 tyX8_ok nmX8 rfl flX8_175 rfl (by decide +kernel) rfl rfl dX8_untest_23 ?_
    refine bw_iload_n C 0 dX8_untest_26 rfl rfl ?_
    exact bw_iret C dX8_untest_27 h
  · refine bw_iconst C (v := (-1)) dX8_untest_14 (by decide) ?_
    exact bw_iret C dX8_untest_15 h
theorem mt8_untest {l : Launch} {G : GX}   {x1 : Int32} {w : Mem} {z : Int32 × Mem} (h : fn8_untest  x1 w = some z) : MC l G shM 19 eM yX8_untest cX8_untest 3 (some .int) rm8_untest [.ref (gad G 0), .int x1] w z := by
  refine met_of (by decide +kernel) (eM_ok _) rfl (Nat.le_of_ble_eq_true rfl) (fun M hM C => ?_)
  subst hM
  exact bk8_untest C  x1 h
def rm8_canBeFalse : Room := { frames := 0, cells := 0, slots := 0, locals := 0 }
def fn8_canBeFalse_5 (x1 : Int32) (x2 : Int32) (k : Int32 → Int32 → Mem → Option (Int32 × Mem)) : Nat → Int32 → Int32 → Mem → Option (Int32 × Mem)
  | 0, _, _, _ => none
  | nn + 1, x3, x4, w => (if (w 0 3) ≤ x4 then k x3 x4 w else fn8_canBeFalse_5 x1 x2 k nn (x3 + ((x1 >>> (x4 &&& 31)) &&& 1)) (x4 + 1) w)
set_option maxRecDepth 20000 in
theorem bk8_canBeFalse_5 {M : MX} {G : GX} (C : BC M G shM 19 eM RX8 cX8_canBeFalse 6 (some .boolean) rm8_canBeFalse) {z : Int32 × Mem} (x1 : Int32) (x2 : Int32) {k : Int32 → Int32 → Mem → Option (Int32 × Mem)} (hk : ∀ (x3 : Int32) (x4 : Int32) (w : Mem), k x3 x4 w = some z → BW M G shM 19 6 (ZR M G shM 19 (some .boolean) z) 29 [(0, .ref (gad G 0)), (1, .int x1), (2, .int x2), (3, .int x3)] [] w) : ∀ (nn : Nat) (x3 : Int32) (x4 : Int32) (w : Mem), fn8_canBeFalse_5 x1 x2 k nn x3 x4 w = some z → BW M G shM 19 6 (ZR M G shM 19 (some .boolean) z) 5 [(0, .ref (gad G 0)), (1, .int x1), (2, .int x2), (3, .int x3), (4, .int x4)] [] w := by
  intro nn
  induction nn with
  | zero =>
    intro x3 x4 w h
    have h : (none : Option (Int32 × Mem)) = some z := h
    cases h
  | succ nn ih =>
    intro x3 x4 w h
    rw [fn8_canBeFalse_5] at h
    refine bw_iload C 4 dX8_canBeFalse_5 rfl ?_
    refine bw_aload_n C 0 dX8_canBeFalse_7 rfl rfl ?_
    refine bw_geti C (j := 3) lM0 sM0 rfl inlX8 (by decide) rfl flX8_169 dX8_canBeFalse_8 ?_
    refine bw_icmp_ge C (tgt := 29) dX8_canBeFalse_11 (by decide) h (fun h => ?_) (fun h => ?_)
    · exact bw_sub [0, 1, 2, 3] rfl (hk x3 x4 w h)
    · refine bw_iload_n C 3 dX8_canBeFalse_14 rfl rfl ?_
      refine bw_iload_n C 1 dX8_canBeFalse_15 rfl rfl ?_
      refine bw_iload C 4 dX8_canBeFalse_16 rfl ?_
      refine bw_ishr C dX8_canBeFalse_18 ?_
      refine bw_iconst C (v := 1) dX8_canBeFalse_19 (by decide) ?_
      refine bw_iand C dX8_canBeFalse_20 ?_
      refine bw_iadd C dX8_canBeFalse_21 ?_
      refine bw_istore_n C [(3, .int (x3 + ((x1 >>> (x4 &&& 31)) &&& 1))), (0, .ref (gad G 0)), (1, .int x1), (2, .int x2), (4, .int x4)] dX8_canBeFalse_22 rfl (by decide) rfl ?_
      refine bw_iinc C [(4, .int (x4 + 1)), (3, .int (x3 + ((x1 >>> (x4 &&& 31)) &&& 1))), (0, .ref (gad G 0)), (1, .int x1), (2, .int x2)] 4 dX8_canBeFalse_23 rfl rfl (by decide) rfl ?_
      refine bw_goto C (tgt := 5) dX8_canBeFalse_26 (by decide) ?_
      exact bw_sub [2, 3, 4, 1, 0] rfl (ih (x3 + ((x1 >>> (x4 &&& 31)) &&& 1)) (x4 + 1) w h)
def fn8_canBeFalse_97 (x1 : Int32) (x5 : Int32) (t0 : Int32) (t1 : Int32) (kb : Int32 → Int32 → Mem → Option (Int32 × Mem)) (w : Mem) : Option (Int32 × Mem) := (if ¬ t1 = t0 then kb 0 (x5 + 1) w else kb 1 (x5 + 1) w)
set_option maxRecDepth 20000 in
theorem bk8_canBeFalse_97 {M : MX} {G : GX} (C : BC M G shM 19 eM RX8 cX8_canBeFalse 6 (some .boolean) rm8_canBeFalse) {z : Int32 × Mem} (x1 : Int32) (x5 : Int32) (t0 : Int32) (t1 : Int32) {kb : Int32 → Int32 → Mem → Option (Int32 × Mem)} (hkb : ∀ (x4 : Int32) (x5 : Int32) (w : Mem), kb x4 x5 w = some z → BW M G shM 19 6 (ZR M G shM 19 (some .boolean) z) 44 [(0, .ref (gad G 0)), (1, .int x1), (4, .int x4), (5, .int x5)] [] w) {w : Mem} (h : fn8_canBeFalse_97 x1 x5 t0 t1 kb w = some z) : BW M G shM 19 6 (ZR M G shM 19 (some .boolean) z) 97 [(0, .ref (gad G 0)), (1, .int x1), (5, .int x5)] [.int t0, .int t1] w := by
  rw [fn8_canBeFalse_97] at h
  refine bw_icmp_ne C (tgt := 104) dX8_canBeFalse_97 (by decide) h (fun h => ?_) (fun h => ?_)
  · refine bw_iconst C (v := 0) dX8_canBeFalse_104 (by decide) ?_
    refine bw_istore C [(4, .int 0), (0, .ref (gad G 0)), (1, .int x1), (5, .int x5)] dX8_canBeFalse_105 (by decide) rfl ?_
    refine bw_iinc C [(5, .int (x5 + 1)), (4, .int 0), (0, .ref (gad G 0)), (1, .int x1)] 3 dX8_canBeFalse_107 rfl rfl (by decide) rfl ?_
    refine bw_goto C (tgt := 44) dX8_canBeFalse_110 (by decide) ?_
    exact bw_sub [2, 3, 1, 0] rfl (hkb 0 (x5 + 1) w h)
  · refine bw_iconst C (v := 1) dX8_canBeFalse_100 (by decide) ?_
    refine bw_goto C (tgt := 105) dX8_canBeFalse_101 (by decide) ?_
    refine bw_istore C [(4, .int 1), (0, .ref (gad G 0)), (1, .int x1), (5, .int x5)] dX8_canBeFalse_105 (by decide) rfl ?_
    refine bw_iinc C [(5, .int (x5 + 1)), (4, .int 1), (0, .ref (gad G 0)), (1, .int x1)] 3 dX8_canBeFalse_107 rfl rfl (by decide) rfl ?_
    refine bw_goto C (tgt := 44) dX8_canBeFalse_110 (by decide) ?_
    exact bw_sub [2, 3, 1, 0] rfl (hkb 1 (x5 + 1) w h)
def fn8_canBeFalse_77 (x1 : Int32) (x5 : Int32) (t0 : Int32) (kb : Int32 → Int32 → Mem → Option (Int32 × Mem)) (w : Mem) : Option (Int32 × Mem) := (if ib ((2 * x5) + 1) 16 = true then (if ¬ (w 14 ((2 * x5) + 1).toNatClampNeg) = 1 then fn8_canBeFalse_97 x1 x5 0 t0 kb w else fn8_canBeFalse_97 x1 x5 1 t0 kb w) else none)
set_option maxRecDepth 20000 in
theorem bk8_canBeFalse_77 {M : MX} {G : GX} (C : BC M G shM 19 eM RX8 cX8_canBeFalse 6 (some .boolean) rm8_canBeFalse) {z : Int32 × Mem} (x1 : Int32) (x5 : Int32) (t0 : Int32) {kb : Int32 → Int32 → Mem → Option (Int32 × Mem)} (hkb : ∀ (x4 : Int32) (x5 : Int32) (w : Mem), kb x4 x5 w = some z → BW M G shM 19 6 (ZR M G shM 19 (some .boolean) z) 44 [(0, .ref (gad G 0)), (1, .int x1), (4, .int x4), (5, .int x5)] [] w) {w : Mem} (h : fn8_canBeFalse_77 x1 x5 t0 kb w = some z) : BW M G shM 19 6 (ZR M G shM 19 (some .boolean) z) 77 [(0, .ref (gad G 0)), (1, .int x1), (5, .int x5)] [.int t0] w := by
  rw [fn8_canBeFalse_77] at h
  refine bw_aload_n C 0 dX8_canBeFalse_77 rfl rfl ?_
  refine bw_getr C (j := 30) (t := 14) lM0 sM0 rfl inlX8 (by decide) rfl flX8_49 dX8_canBeFalse_78 ?_
  refine bw_iconst C (v := 2) dX8_canBeFalse_81 (by decide) ?_
  refine bw_iload C 2 dX8_canBeFalse_82 rfl ?_
  refine bw_imul C dX8_canBeFalse_84 ?_
  refine bw_iconst C (v := 1) dX8_canBeFalse_85 (by decide) ?_
  refine bw_iadd C dX8_canBeFalse_86 ?_
  refine bw_iald C lM14 sM14 dX8_canBeFalse_87 h (fun h => ?_)
  refine bw_iconst C (v := 1) dX8_canBeFalse_88 (by decide) ?_
  refine bw_icmp_ne C (tgt := 96) dX8_canBeFalse_89 (by decide) h (fun h => ?_) (fun h => ?_)
  · refine bw_iconst C (v := 0) dX8_canBeFalse_96 (by decide) ?_
    exact bw_sub [0, 1, 2] rfl (bk8_canBeFalse_97 C x1 x5 0 t0 hkb h)
  · refine bw_iconst C (v := 1) dX8_canBeFalse_92 (by decide) ?_
    refine bw_goto C (tgt := 97) dX8_canBeFalse_93 (by decide) ?_
    exact bw_sub [0, 1, 2] rfl (bk8_canBeFalse_97 C x1 x5 1 t0 hkb h)
def fn8_canBeFalse_44 (x1 : Int32) (k : Int32 → Int32 → Mem → Option (Int32 × Mem)) : Nat → Int32 → Int32 → Mem → Option (Int32 × Mem)
  | 0, _, _, _ => none
  | nn + 1, x4, x5, w => (if (w 0 31) ≤ x5 then k x4 x5 w else (if x4 = 0 then fn8_canBeFalse_44 x1 k nn 0 (x5 + 1) w else (if ib (2 * x5) 16 = true then (if (x1 &&& (w 14 (2 * x5).toNatClampNeg)) = 0 then fn8_canBeFalse_77 x1 x5 0 (fn8_canBeFalse_44 x1 k nn) w else fn8_canBeFalse_77 x1 x5 1 (fn8_canBeFalse_44 x1 k nn) w) else none)))
set_option maxRecDepth 20000 in
theorem bk8_canBeFalse_44 {M : MX} {G : GX} (C : BC M G shM 19 eM RX8 cX8_canBeFalse 6 (some .boolean) rm8_canBeFalse) {z : Int32 × Mem} (x1 : Int32) {k : Int32 → Int32 → Mem → Option (Int32 × Mem)} (hk : ∀ (x4 : Int32) (x5 : Int32) (w : Mem), k x4 x5 w = some z → BW M G shM 19 6 (ZR M G shM 19 (some .boolean) z) 113 [(4, .int x4)] [] w) : ∀ (nn : Nat) (x4 : Int32) (x5 : Int32) (w : Mem), fn8_canBeFalse_44 x1 k nn x4 x5 w = some z → BW M G shM 19 6 (ZR M G shM 19 (some .boolean) z) 44 [(0, .ref (gad G 0)), (1, .int x1), (4, .int x4), (5, .int x5)] [] w := by
  intro nn
  induction nn with
  | zero =>
    intro x4 x5 w h
    have h : (none : Option (Int32 × Mem)) = some z := h
    cases h
  | succ nn ih =>
    intro x4 x5 w h
    rw [fn8_canBeFalse_44] at h
    refine bw_iload C 3 dX8_canBeFalse_44 rfl ?_
    refine bw_aload_n C 0 dX8_canBeFalse_46 rfl rfl ?_
    refine bw_geti C (j := 31) lM0 sM0 rfl inlX8 (by decide) rfl flX8_175 dX8_canBeFalse_47 ?_
    refine bw_icmp_ge C (tgt := 113) dX8_canBeFalse_50 (by decide) h (fun h => ?_) (fun h => ?_)
    · exact bw_sub [2] rfl (hk x4 x5 w h)
    · refine bw_iload C 2 dX8_canBeFalse_53 rfl ?_
      refine bw_if_eq C (tgt := 104) dX8_canBeFalse_55 (by decide) h (fun h => ?_) (fun h => ?_)
      · refine bw_iconst C (v := 0) dX8_canBeFalse_104 (by decide) ?_
        refine bw_istore C [(4, .int 0), (0, .ref (gad G 0)), (1, .int x1), (5, .int x5)] dX8_canBeFalse_105 (by decide) rfl ?_
        refine bw_iinc C [(5, .int (x5 + 1)), (4, .int 0), (0, .ref (gad G 0)), (1, .int x1)] 3 dX8_canBeFalse_107 rfl rfl (by decide) rfl ?_
        refine bw_goto C (tgt := 44) dX8_canBeFalse_110 (by decide) ?_
        exact bw_sub [2, 3, 1, 0] rfl (ih 0 (x5 + 1) w h)
      · refine bw_iload_n C 1 dX8_canBeFalse_58 rfl rfl ?_
        refine bw_aload_n C 0 dX8_canBeFalse_59 rfl rfl ?_
        refine bw_getr C (j := 30) (t := 14) lM0 sM0 rfl inlX8 (by decide) rfl flX8_49 dX8_canBeFalse_60 ?_
        refine bw_iconst C (v := 2) dX8_canBeFalse_63 (by decide) ?_
        refine bw_iload C 3 dX8_canBeFalse_64 rfl ?_
        refine bw_imul C dX8_canBeFalse_66 ?_
        refine bw_iald C lM14 sM14 dX8_canBeFalse_67 h (fun h => ?_)
        refine bw_iand C dX8_canBeFalse_68 ?_
        refine bw_if_eq C (tgt := 76) dX8_canBeFalse_69 (by decide) h (fun h => ?_) (fun h => ?_)
        · refine bw_iconst C (v := 0) dX8_canBeFalse_76 (by decide) ?_
          exact bw_sub [0, 1, 3] rfl (bk8_canBeFalse_77 C x1 x5 0 ih h)
        · refine bw_iconst C (v := 1) dX8_canBeFalse_72 (by decide) ?_
          refine bw_goto C (tgt := 77) dX8_canBeFalse_73 (by decide) ?_
          exact bw_sub [0, 1, 3] rfl (bk8_canBeFalse_77 C x1 x5 1 ih h)
def fn8_canBeFalse_39 (x1 : Int32) (t0 : Int32) (w : Mem) : Option (Int32 × Mem) := fn8_canBeFalse_44 x1 (fun x4_44 x5_44 w_44 => (if isb x4_44 = true then some (x4_44, w_44) else none)) 1000 t0 0 w
set_option maxRecDepth 20000 in
theorem bk8_canBeFalse_39 {M : MX} {G : GX} (C : BC M G shM 19 eM RX8 cX8_canBeFalse 6 (some .boolean) rm8_canBeFalse) {z : Int32 × Mem} (x1 : Int32) (t0 : Int32) {w : Mem} (h : fn8_canBeFalse_39 x1 t0 w = some z) : BW M G shM 19 6 (ZR M G shM 19 (some .boolean) z) 39 [(0, .ref (gad G 0)), (1, .int x1)] [.int t0] w := by
  rw [fn8_canBeFalse_39] at h
  refine bw_istore C [(4, .int t0), (0, .ref (gad G 0)), (1, .int x1)] dX8_canBeFalse_39 (by decide) rfl ?_
  refine bw_iconst C (v := 0) dX8_canBeFalse_41 (by decide) ?_
  refine bw_istore C [(5, .int 0), (4, .int t0), (0, .ref (gad G 0)), (1, .int x1)] dX8_canBeFalse_42 (by decide) rfl ?_
  refine bw_sub [2, 3, 1, 0] rfl (bk8_canBeFalse_44 C x1 (fun x4_44 x5_44 w_44 h => ?_) 1000 t0 0 w h)
  refine bw_iload C 0 dX8_canBeFalse_113 rfl ?_
  exact bw_zret C dX8_canBeFalse_115 h
def fn8_canBeFalse  (x1 : Int32) (x2 : Int32) (w : Mem) : Option (Int32 × Mem) := fn8_canBeFalse_5 x1 x2 (fun x3_5 x4_5 w_5 => (if ¬ x3_5 = x2 then fn8_canBeFalse_39 x1 0 w_5 else fn8_canBeFalse_39 x1 1 w_5)) 1000 0 0 w
set_option maxRecDepth 20000 in
theorem bk8_canBeFalse {M : MX} {G : GX} (C : BC M G shM 19 eM RX8 cX8_canBeFalse 6 (some .boolean) rm8_canBeFalse) {z : Int32 × Mem}   (x1 : Int32) (x2 : Int32) {w : Mem} (h : fn8_canBeFalse  x1 x2 w = some z) : BW M G shM 19 6 (ZR M G shM 19 (some .boolean) z) 0 [(0, .ref (gad G 0)), (1, .int x1), (2, .int x2)] [] w := by
  rw [fn8_canBeFalse] at h
  refine bw_iconst C (v := 0) dX8_canBeFalse_0 (by decide) ?_
  refine bw_istore_n C [(3, .int 0), (0, .ref (gad G 0)), (1, .int x1), (2, .int x2)] dX8_canBeFalse_1 rfl (by decide) rfl ?_
  refine bw_iconst C (v := 0) dX8_canBeFalse_2 (by decide) ?_
  refine bw_istore C [(4, .int 0), (3, .int 0), (0, .ref (gad G 0)), (1, .int x1), (2, .int x2)] dX8_canBeFalse_3 (by decide) rfl ?_
  refine bw_sub [2, 3, 4, 1, 0] rfl (bk8_canBeFalse_5 C x1 x2 (fun x3_5 x4_5 w_5 h => ?_) 1000 0 0 w h)
  refine bw_iload_n C 3 dX8_canBeFalse_29 rfl rfl ?_
  refine bw_iload_n C 2 dX8_canBeFalse_30 rfl rfl ?_
  refine bw_icmp_ne C (tgt := 38) dX8_canBeFalse_31 (by decide) h (fun h => ?_) (fun h => ?_)
  · refine bw_iconst C (v := 0) dX8_canBeFalse_38 (by decide) ?_
    exact bw_sub [0, 1] rfl (bk8_canBeFalse_39 C x1 0 h)
  · refine bw_iconst C (v := 1) dX8_canBeFalse_34 (by decide) ?_
    refine bw_goto C (tgt := 39) dX8_canBeFalse_35 (by decide) ?_
    exact bw_sub [0, 1] rfl (bk8_canBeFalse_39 C x1 1 h)
theorem mt8_canBeFalse {l : Launch} {G : GX}   {x1 : Int32} {x2 : Int32} {w : Mem} {z : Int32 × Mem} (h : fn8_canBeFalse  x1 x2 w = some z) : MC l G shM 19 eM yX8_canBeFalse cX8_canBeFalse 6 (some .boolean) rm8_canBeFalse [.ref (gad G 0), .int x1, .int x2] w z := by
  refine met_of (by decide +kernel) (eM_ok _) rfl (Nat.le_of_ble_eq_true rfl) (fun M hM C => ?_)
  subst hM
  exact bk8_canBeFalse C  x1 x2 h
def rm8_fakes : Room := { frames := 1, cells := 0, slots := 0, locals := 25 }
def fn8_fakes_80 (x1 : Int32) (x2 : Int32) (x3 : Int32) (x5 : Int32) (x6 : Int32) (x7 : Int32) (t0 : Int32) (kb : Int32 → Int32 → Int32 → Int32 → Int32 → Mem → Option (Int32 × Mem)) (w : Mem) : Option (Int32 × Mem) := kb (x3 + 1) t0 (x5 &&& x7) (x6 ||| x7) (x7 + 1) w
set_option maxRecDepth 20000 in
theorem bk8_fakes_80 {M : MX} {G : GX} (C : BC M G shM 19 eM RX8 cX8_fakes 8 (some .int) rm8_fakes) {z : Int32 × Mem} (x1 : Int32) (x2 : Int32) (x3 : Int32) (x5 : Int32) (x6 : Int32) (x7 : Int32) (t0 : Int32) {kb : Int32 → Int32 → Int32 → Int32 → Int32 → Mem → Option (Int32 × Mem)} (hkb : ∀ (x3 : Int32) (x4 : Int32) (x5 : Int32) (x6 : Int32) (x7 : Int32) (w : Mem), kb x3 x4 x5 x6 x7 w = some z → BW M G shM 19 8 (ZR M G shM 19 (some .int) z) 48 [(0, .ref (gad G 0)), (1, .int x1), (2, .int x2), (3, .int x3), (4, .int x4), (5, .int x5), (6, .int x6), (7, .int x7)] [] w) {w : Mem} (h : fn8_fakes_80 x1 x2 x3 x5 x6 x7 t0 kb w = some z) : BW M G shM 19 8 (ZR M G shM 19 (some .int) z) 80 [(0, .ref (gad G 0)), (1, .int x1), (2, .int x2), (3, .int x3), (5, .int x5), (6, .int x6), (7, .int x7)] [.int t0] w := by
  rw [fn8_fakes_80] at h
  refine bw_istore C [(4, .int t0), (0, .ref (gad G 0)), (1, .int x1), (2, .int x2), (3, .int x3), (5, .int x5), (6, .int x6), (7, .int x7)] dX8_fakes_80 (by decide) rfl ?_
  refine bw_iload C 5 dX8_fakes_82 rfl ?_
  refine bw_iload C 7 dX8_fakes_84 rfl ?_
  refine bw_iand C dX8_fakes_86 ?_
  refine bw_istore C [(5, .int (x5 &&& x7)), (4, .int t0), (0, .ref (gad G 0)), (1, .int x1), (2, .int x2), (3, .int x3), (6, .int x6), (7, .int x7)] dX8_fakes_87 (by decide) rfl ?_
  refine bw_iload C 6 dX8_fakes_89 rfl ?_
  refine bw_iload C 7 dX8_fakes_91 rfl ?_
  refine bw_ior C dX8_fakes_93 ?_
  refine bw_istore C [(6, .int (x6 ||| x7)), (5, .int (x5 &&& x7)), (4, .int t0), (0, .ref (gad G 0)), (1, .int x1), (2, .int x2), (3, .int x3), (7, .int x7)] dX8_fakes_94 (by decide) rfl ?_
  refine bw_iinc C [(3, .int (x3 + 1)), (6, .int (x6 ||| x7)), (5, .int (x5 &&& x7)), (4, .int t0), (0, .ref (gad G 0)), (1, .int x1), (2, .int x2), (7, .int x7)] 6 dX8_fakes_96 rfl rfl (by decide) rfl ?_
  refine bw_iinc C [(7, .int (x7 + 1)), (3, .int (x3 + 1)), (6, .int (x6 ||| x7)), (5, .int (x5 &&& x7)), (4, .int t0), (0, .ref (gad G 0)), (1, .int x1), (2, .int x2)] 7 dX8_fakes_99 rfl rfl (by decide) rfl ?_
  refine bw_goto C (tgt := 48) dX8_fakes_102 (by decide) ?_
  exact bw_sub [5, 6, 7, 1, 4, 3, 2, 0] rfl (hkb (x3 + 1) t0 (x5 &&& x7) (x6 ||| x7) (x7 + 1) w h)
def fn8_fakes_48 (x1 : Int32) (x2 : Int32) (k : Int32 → Int32 → Int32 → Int32 → Int32 → Mem → Option (Int32 × Mem)) : Nat → Int32 → Int32 → Int32 → Int32 → Int32 → Mem → Option (Int32 × Mem)
  | 0, _, _, _, _, _, _ => none
  | nn + 1, x3, x4, x5, x6, x7, w => (if ((1 : Int32) <<< ((w 0 3) &&& 31)) ≤ x7 then k x3 x4 x5 x6 x7 w else (fn8_canBeFalse x7 x1 w).bind (fun q63 => (if q63.1 = 0 then fn8_fakes_48 x1 x2 k nn x3 x4 x5 x6 (x7 + 1) q63.2 else (if ¬ x3 = 0 then fn8_fakes_80 x1 x2 x3 x5 x6 x7 x4 (fn8_fakes_48 x1 x2 k nn) q63.2 else fn8_fakes_80 x1 x2 x3 x5 x6 x7 x7 (fn8_fakes_48 x1 x2 k nn) q63.2))))
set_option maxRecDepth 20000 in
theorem bk8_fakes_48 {M : MX} {G : GX} (C : BC M G shM 19 eM RX8 cX8_fakes 8 (some .int) rm8_fakes) {z : Int32 × Mem} (x1 : Int32) (x2 : Int32) {k : Int32 → Int32 → Int32 → Int32 → Int32 → Mem → Option (Int32 × Mem)} (hk : ∀ (x3 : Int32) (x4 : Int32) (x5 : Int32) (x6 : Int32) (x7 : Int32) (w : Mem), k x3 x4 x5 x6 x7 w = some z → BW M G shM 19 8 (ZR M G shM 19 (some .int) z) 105 [(0, .ref (gad G 0)), (2, .int x2), (3, .int x3), (4, .int x4), (5, .int x5), (6, .int x6)] [] w) : ∀ (nn : Nat) (x3 : Int32) (x4 : Int32) (x5 : Int32) (x6 : Int32) (x7 : Int32) (w : Mem), fn8_fakes_48 x1 x2 k nn x3 x4 x5 x6 x7 w = some z → BW M G shM 19 8 (ZR M G shM 19 (some .int) z) 48 [(0, .ref (gad G 0)), (1, .int x1), (2, .int x2), (3, .int x3), (4, .int x4), (5, .int x5), (6, .int x6), (7, .int x7)] [] w := by
  intro nn
  induction nn with
  | zero =>
    intro x3 x4 x5 x6 x7 w h
    have h : (none : Option (Int32 × Mem)) = some z := h
    cases h
  | succ nn ih =>
    intro x3 x4 x5 x6 x7 w h
    rw [fn8_fakes_48] at h
    refine bw_iload C 7 dX8_fakes_48 rfl ?_
    refine bw_iconst C (v := 1) dX8_fakes_50 (by decide) ?_
    refine bw_aload_n C 0 dX8_fakes_51 rfl rfl ?_
    refine bw_geti C (j := 3) lM0 sM0 rfl inlX8 (by decide) rfl flX8_169 dX8_fakes_52 ?_
    refine bw_ishl C dX8_fakes_55 ?_
    refine bw_icmp_ge C (tgt := 105) dX8_fakes_56 (by decide) h (fun h => ?_) (fun h => ?_)
    · exact bw_sub [0, 2, 3, 4, 5, 6] rfl (hk x3 x4 x5 x6 x7 w h)
    · refine bw_aload_n C 0 dX8_fakes_59 rfl rfl ?_
      refine bw_iload C 7 dX8_fakes_60 rfl ?_
      refine bw_iload_n C 1 dX8_fakes_62 rfl rfl ?_
      refine bw_callVi C (As := [.int x7, .int x1]) lM0 sM0 rfl miX8_canBeFalse mlX8_259 imX8_canBeFalse seX8_canBeFalse (by decide) rfl rfl (fun z1 h1 => mt8_canBeFalse h1) rfl (Nat.le_of_ble_eq_true rfl) rfl dX8_fakes_63 h (fun q63 _ h => ?_)
      refine bw_if_eq C (tgt := 99) dX8_fakes_66 (by decide) h (fun h => ?_) (fun h => ?_)
      · refine bw_iinc C [(7, .int (x7 + 1)), (0, .ref (gad G 0)), (1, .int x1), (2, .int x2), (3, .int x3), (4, .int x4), (5, .int x5), (6, .int x6)] 7 dX8_fakes_99 rfl rfl (by decide) rfl ?_
        refine bw_goto C (tgt := 48) dX8_fakes_102 (by decide) ?_
        exact bw_sub [1, 2, 3, 4, 5, 6, 7, 0] rfl (ih x3 x4 x5 x6 (x7 + 1) q63.2 h)
      · refine bw_iload_n C 3 dX8_fakes_69 rfl rfl ?_
        refine bw_if_ne C (tgt := 78) dX8_fakes_70 (by decide) h (fun h => ?_) (fun h => ?_)
        · refine bw_iload C 4 dX8_fakes_78 rfl ?_
          exact bw_sub [0, 1, 2, 3, 5, 6, 7] rfl (bk8_fakes_80 C x1 x2 x3 x5 x6 x7 x4 ih h)
        · refine bw_iload C 7 dX8_fakes_73 rfl ?_
          refine bw_goto C (tgt := 80) dX8_fakes_75 (by decide) ?_
          exact bw_sub [0, 1, 2, 3, 5, 6, 7] rfl (bk8_fakes_80 C x1 x2 x3 x5 x6 x7 x7 ih h)
def fn8_fakes  (x1 : Int32) (x2 : Int32) (w : Mem) : Option (Int32 × Mem) := (fn8_in ((x1 : Int32).toInt64) 0 3 w).bind (fun q6 => (if q6.1 = 0 then some ((-1), q6.2) else (fn8_in ((x2 : Int32).toInt64) 0 3 q6.2).bind (fun q18 => (if ¬ q18.1 = 0 then fn8_fakes_48 x1 x2 (fun x3_48 x4_48 x5_48 x6_48 x7_48 w_48 => (if ¬ x2 = 0 then (if ¬ x3_48 = 0 then (if ¬ x2 = 1 then (if ¬ x2 = 2 then some (((((1 : Int32) <<< ((w_48 0 3) &&& 31)) - 1) &&& (x6_48 ^^^ (-1))), w_48) else some (x5_48, w_48)) else some (x4_48, w_48)) else some ((-4), w_48)) else some (x3_48, w_48))) 1000 0 (-4) (((1 : Int32) <<< ((q18.2 0 3) &&& 31)) - 1) 0 0 q18.2 else some ((-1), q18.2)))))
set_option maxRecDepth 20000 in
theorem bk8_fakes {M : MX} {G : GX} (C : BC M G shM 19 eM RX8 cX8_fakes 8 (some .int) rm8_fakes) {z : Int32 × Mem}   (x1 : Int32) (x2 : Int32) {w : Mem} (h : fn8_fakes  x1 x2 w = some z) : BW M G shM 19 8 (ZR M G shM 19 (some .int) z) 0 [(0, .ref (gad G 0)), (1, .int x1), (2, .int x2)] [] w := by
  rw [fn8_fakes] at h
  refine bw_iload_n C 1 dX8_fakes_0 rfl rfl ?_
  refine bw_i2l C dX8_fakes_1 rfl ?_
  refine bw_lconst C (v := 0) dX8_fakes_2 (by decide) ?_
  refine bw_ldc2 C dX8_fakes_3 clX8_217 ?_
  refine bw_callSi C (As := [.long ((x1 : Int32).toInt64), .long 0, .long 3]) miX8_in mlX8_69 smX8_in (by decide) rfl rfl (fun z1 h1 => mt8_in h1) rfl (Nat.le_of_ble_eq_true rfl) rfl dX8_fakes_6 h (fun q6 _ h => ?_)
  refine bw_if_eq C (tgt := 24) dX8_fakes_9 (by decide) h (fun h => ?_) (fun h => ?_)
  · refine bw_iconst C (v := (-1)) dX8_fakes_24 (by decide) ?_
    exact bw_iret C dX8_fakes_25 h
  · refine bw_iload_n C 2 dX8_fakes_12 rfl rfl ?_
    refine bw_i2l C dX8_fakes_13 rfl ?_
    refine bw_lconst C (v := 0) dX8_fakes_14 (by decide) ?_
    refine bw_ldc2 C dX8_fakes_15 clX8_217 ?_
    refine bw_callSi C (As := [.long ((x2 : Int32).toInt64), .long 0, .long 3]) miX8_in mlX8_69 smX8_in (by decide) rfl rfl (fun z1 h1 => mt8_in h1) rfl (Nat.le_of_ble_eq_true rfl) rfl dX8_fakes_18 h (fun q18 _ h => ?_)
    refine bw_if_ne C (tgt := 26) dX8_fakes_21 (by decide) h (fun h => ?_) (fun h => ?_)
    · refine bw_iconst C (v := 0) dX8_fakes_26 (by decide) ?_
      refine bw_istore_n C [(3, .int 0), (0, .ref (gad G 0)), (1, .int x1), (2, .int x2)] dX8_fakes_27 rfl (by decide) rfl ?_
      refine bw_bipush C (v := (-4)) dX8_fakes_28 (by decide) ?_
      refine bw_istore C [(4, .int (-4)), (3, .int 0), (0, .ref (gad G 0)), (1, .int x1), (2, .int x2)] dX8_fakes_30 (by decide) rfl ?_
      refine bw_iconst C (v := 1) dX8_fakes_32 (by decide) ?_
      refine bw_aload_n C 2 dX8_fakes_33 rfl rfl ?_
      refine bw_geti C (j := 3) lM0 sM0 rfl inlX8 (by decide) rfl flX8_169 dX8_fakes_34 ?_
      refine bw_ishl C dX8_fakes_37 ?_
      refine bw_iconst C (v := 1) dX8_fakes_38 (by decide) ?_
      refine bw_isub C dX8_fakes_39 ?_
      refine bw_istore C [(5, .int (((1 : Int32) <<< ((q18.2 0 3) &&& 31)) - 1)), (4, .int (-4)), (3, .int 0), (0, .ref (gad G 0)), (1, .int x1), (2, .int x2)] dX8_fakes_40 (by decide) rfl ?_
      refine bw_iconst C (v := 0) dX8_fakes_42 (by decide) ?_
      refine bw_istore C [(6, .int 0), (5, .int (((1 : Int32) <<< ((q18.2 0 3) &&& 31)) - 1)), (4, .int (-4)), (3, .int 0), (0, .ref (gad G 0)), (1, .int x1), (2, .int x2)] dX8_fakes_43 (by decide) rfl ?_
      refine bw_iconst C (v := 0) dX8_fakes_45 (by decide) ?_
      refine bw_istore C [(7, .int 0), (6, .int 0), (5, .int (((1 : Int32) <<< ((q18.2 0 3) &&& 31)) - 1)), (4, .int (-4)), (3, .int 0), (0, .ref (gad G 0)), (1, .int x1), (2, .int x2)] dX8_fakes_46 (by decide) rfl ?_
      refine bw_sub [5, 6, 7, 4, 3, 2, 1, 0] rfl (bk8_fakes_48 C x1 x2 (fun x3_48 x4_48 x5_48 x6_48 x7_48 w_48 h => ?_) 1000 0 (-4) (((1 : Int32) <<< ((q18.2 0 3) &&& 31)) - 1) 0 0 q18.2 h)
      refine bw_iload_n C 1 dX8_fakes_105 rfl rfl ?_
      refine bw_if_ne C (tgt := 113) dX8_fakes_106 (by decide) h (fun h => ?_) (fun h => ?_)
      · refine bw_iload_n C 2 dX8_fakes_113 rfl rfl ?_
        refine bw_if_ne C (tgt := 122) dX8_fakes_114 (by decide) h (fun h => ?_) (fun h => ?_)
        · refine bw_iload_n C 1 dX8_fakes_122 rfl rfl ?_
          refine bw_iconst C (v := 1) dX8_fakes_123 (by decide) ?_
          refine bw_icmp_ne C (tgt := 132) dX8_fakes_124 (by decide) h (fun h => ?_) (fun h => ?_)
          · refine bw_iload_n C 1 dX8_fakes_132 rfl rfl ?_
            refine bw_iconst C (v := 2) dX8_fakes_133 (by decide) ?_
            refine bw_icmp_ne C (tgt := 142) dX8_fakes_134 (by decide) h (fun h => ?_) (fun h => ?_)
            · refine bw_iconst C (v := 1) dX8_fakes_142 (by decide) ?_
              refine bw_aload_n C 0 dX8_fakes_143 rfl rfl ?_
              refine bw_geti C (j := 3) lM0 sM0 rfl inlX8 (by decide) rfl flX8_169 dX8_fakes_144 ?_
              refine bw_ishl C dX8_fakes_147 ?_
              refine bw_iconst C (v := 1) dX8_fakes_148 (by decide) ?_
              refine bw_isub C dX8_fakes_149 ?_
              refine bw_iload C 5 dX8_fakes_150 rfl ?_
              refine bw_iconst C (v := (-1)) dX8_fakes_152 (by decide) ?_
              refine bw_ixor C dX8_fakes_153 ?_
              refine bw_iand C dX8_fakes_154 ?_
              exact bw_iret C dX8_fakes_155 h
            · refine bw_iload C 4 dX8_fakes_137 rfl ?_
              refine bw_goto C (tgt := 155) dX8_fakes_139 (by decide) ?_
              exact bw_iret C dX8_fakes_155 h
          · refine bw_iload C 3 dX8_fakes_127 rfl ?_
            refine bw_goto C (tgt := 155) dX8_fakes_129 (by decide) ?_
            exact bw_iret C dX8_fakes_155 h
        · refine bw_bipush C (v := (-4)) dX8_fakes_117 (by decide) ?_
          refine bw_goto C (tgt := 155) dX8_fakes_119 (by decide) ?_
          exact bw_iret C dX8_fakes_155 h
      · refine bw_iload_n C 2 dX8_fakes_109 rfl rfl ?_
        refine bw_goto C (tgt := 155) dX8_fakes_110 (by decide) ?_
        exact bw_iret C dX8_fakes_155 h
    · refine bw_iconst C (v := (-1)) dX8_fakes_24 (by decide) ?_
      exact bw_iret C dX8_fakes_25 h
theorem mt8_fakes {l : Launch} {G : GX}   {x1 : Int32} {x2 : Int32} {w : Mem} {z : Int32 × Mem} (h : fn8_fakes  x1 x2 w = some z) : MC l G shM 19 eM yX8_fakes cX8_fakes 8 (some .int) rm8_fakes [.ref (gad G 0), .int x1, .int x2] w z := by
  refine met_of (by decide +kernel) (eM_ok _) rfl (Nat.le_of_ble_eq_true rfl) (fun M hM C => ?_)
  subst hM
  exact bk8_fakes C  x1 x2 h
def rm8_next : Room := { frames := 2, cells := 0, slots := 0, locals := 52 }
def fn8_next_93 (x1 : Int32) (x2 : Int32) (x3 : Int32) (x4 : Int32) (x5 : Int32) (x6 : Int32) (x8 : Int32) (t0 : Int32) (kb : Int32 → Int32 → Mem → Option (Int32 × Mem)) (w : Mem) : Option (Int32 × Mem) := kb (t0 + 0) (x8 + 1) w
set_option maxRecDepth 20000 in
theorem bk8_next_93 {M : MX} {G : GX} (C : BC M G shM 19 eM RX8 cX8_next 9 (some .int) rm8_next) {z : Int32 × Mem} (x1 : Int32) (x2 : Int32) (x3 : Int32) (x4 : Int32) (x5 : Int32) (x6 : Int32) (x8 : Int32) (t0 : Int32) {kb : Int32 → Int32 → Mem → Option (Int32 × Mem)} (hkb : ∀ (x7 : Int32) (x8 : Int32) (w : Mem), kb x7 x8 w = some z → BW M G shM 19 9 (ZR M G shM 19 (some .int) z) 58 [(0, .ref (gad G 0)), (1, .int x1), (2, .int x2), (3, .int x3), (4, .int x4), (5, .int x5), (6, .int x6), (7, .int x7), (8, .int x8)] [] w) {w : Mem} (h : fn8_next_93 x1 x2 x3 x4 x5 x6 x8 t0 kb w = some z) : BW M G shM 19 9 (ZR M G shM 19 (some .int) z) 93 [(0, .ref (gad G 0)), (1, .int x1), (2, .int x2), (3, .int x3), (4, .int x4), (5, .int x5), (6, .int x6), (8, .int x8)] [.int t0] w := by
  rw [fn8_next_93] at h
  refine bw_iconst C (v := 0) dX8_next_93 (by decide) ?_
  refine bw_iadd C dX8_next_94 ?_
  refine bw_istore C [(7, .int (t0 + 0)), (0, .ref (gad G 0)), (1, .int x1), (2, .int x2), (3, .int x3), (4, .int x4), (5, .int x5), (6, .int x6), (8, .int x8)] dX8_next_95 (by decide) rfl ?_
  refine bw_iinc C [(8, .int (x8 + 1)), (7, .int (t0 + 0)), (0, .ref (gad G 0)), (1, .int x1), (2, .int x2), (3, .int x3), (4, .int x4), (5, .int x5), (6, .int x6)] 8 dX8_next_97 rfl rfl (by decide) rfl ?_
  refine bw_goto C (tgt := 58) dX8_next_100 (by decide) ?_
  exact bw_sub [2, 3, 4, 5, 6, 7, 8, 1, 0] rfl (hkb (t0 + 0) (x8 + 1) w h)
def fn8_next_58 (x1 : Int32) (x2 : Int32) (x3 : Int32) (x4 : Int32) (x5 : Int32) (x6 : Int32) (k : Int32 → Int32 → Mem → Option (Int32 × Mem)) : Nat → Int32 → Int32 → Mem → Option (Int32 × Mem)
  | 0, _, _, _ => none
  | nn + 1, x7, x8, w => (if ((1 : Int32) <<< ((w 0 3) &&& 31)) ≤ x8 then k x7 x8 w else (if (x8 &&& x6) = 0 then fn8_next_93 x1 x2 x3 x4 x5 x6 x8 x7 (fn8_next_58 x1 x2 x3 x4 x5 x6 k nn) w else (fn8_canBeFalse x8 x1 w).bind (fun q83 => (if q83.1 = 0 then fn8_next_93 x1 x2 x3 x4 x5 x6 x8 x7 (fn8_next_58 x1 x2 x3 x4 x5 x6 k nn) q83.2 else fn8_next_58 x1 x2 x3 x4 x5 x6 k nn (x7 + 1) (x8 + 1) q83.2))))
set_option maxRecDepth 20000 in
theorem bk8_next_58 {M : MX} {G : GX} (C : BC M G shM 19 eM RX8 cX8_next 9 (some .int) rm8_next) {z : Int32 × Mem} (x1 : Int32) (x2 : Int32) (x3 : Int32) (x4 : Int32) (x5 : Int32) (x6 : Int32) {k : Int32 → Int32 → Mem → Option (Int32 × Mem)} (hk : ∀ (x7 : Int32) (x8 : Int32) (w : Mem), k x7 x8 w = some z → BW M G shM 19 9 (ZR M G shM 19 (some .int) z) 103 [(0, .ref (gad G 0)), (1, .int x1), (2, .int x2), (3, .int x3), (4, .int x4), (5, .int x5), (6, .int x6), (7, .int x7)] [] w) : ∀ (nn : Nat) (x7 : Int32) (x8 : Int32) (w : Mem), fn8_next_58 x1 x2 x3 x4 x5 x6 k nn x7 x8 w = some z → BW M G shM 19 9 (ZR M G shM 19 (some .int) z) 58 [(0, .ref (gad G 0)), (1, .int x1), (2, .int x2), (3, .int x3), (4, .int x4), (5, .int x5), (6, .int x6), (7, .int x7), (8, .int x8)] [] w := by
  intro nn
  induction nn with
  | zero =>
    intro x7 x8 w h
    have h : (none : Option (Int32 × Mem)) = some z := h
    cases h
  | succ nn ih =>
    intro x7 x8 w h
    rw [fn8_next_58] at h
    refine bw_iload C 8 dX8_next_58 rfl ?_
    refine bw_iconst C (v := 1) dX8_next_60 (by decide) ?_
    refine bw_aload_n C 0 dX8_next_61 rfl rfl ?_
    refine bw_geti C (j := 3) lM0 sM0 rfl inlX8 (by decide) rfl flX8_169 dX8_next_62 ?_
    refine bw_ishl C dX8_next_65 ?_
    refine bw_icmp_ge C (tgt := 103) dX8_next_66 (by decide) h (fun h => ?_) (fun h => ?_)
    · exact bw_sub [0, 1, 2, 3, 4, 5, 6, 7] rfl (hk x7 x8 w h)
    · refine bw_iload C 7 dX8_next_69 rfl ?_
      refine bw_iload C 8 dX8_next_71 rfl ?_
      refine bw_iload C 6 dX8_next_73 rfl ?_
      refine bw_iand C dX8_next_75 ?_
      refine bw_if_eq C (tgt := 93) dX8_next_76 (by decide) h (fun h => ?_) (fun h => ?_)
      · exact bw_sub [0, 1, 2, 3, 4, 5, 6, 8] rfl (bk8_next_93 C x1 x2 x3 x4 x5 x6 x8 x7 ih h)
      · refine bw_aload_n C 0 dX8_next_79 rfl rfl ?_
        refine bw_iload C 8 dX8_next_80 rfl ?_
        refine bw_iload_n C 1 dX8_next_82 rfl rfl ?_
        refine bw_callVi C (As := [.int x8, .int x1]) lM0 sM0 rfl miX8_canBeFalse mlX8_259 imX8_canBeFalse seX8_canBeFalse (by decide) rfl rfl (fun z1 h1 => mt8_canBeFalse h1) rfl (Nat.le_of_ble_eq_true rfl) rfl dX8_next_83 h (fun q83 _ h => ?_)
        refine bw_if_eq C (tgt := 93) dX8_next_86 (by decide) h (fun h => ?_) (fun h => ?_)
        · exact bw_sub [0, 1, 2, 3, 4, 5, 6, 8] rfl (bk8_next_93 C x1 x2 x3 x4 x5 x6 x8 x7 ih h)
        · refine bw_iconst C (v := 1) dX8_next_89 (by decide) ?_
          refine bw_goto C (tgt := 94) dX8_next_90 (by decide) ?_
          refine bw_iadd C dX8_next_94 ?_
          refine bw_istore C [(7, .int (x7 + 1)), (0, .ref (gad G 0)), (1, .int x1), (2, .int x2), (3, .int x3), (4, .int x4), (5, .int x5), (6, .int x6), (8, .int x8)] dX8_next_95 (by decide) rfl ?_
          refine bw_iinc C [(8, .int (x8 + 1)), (7, .int (x7 + 1)), (0, .ref (gad G 0)), (1, .int x1), (2, .int x2), (3, .int x3), (4, .int x4), (5, .int x5), (6, .int x6)] 8 dX8_next_97 rfl rfl (by decide) rfl ?_
          refine bw_goto C (tgt := 58) dX8_next_100 (by decide) ?_
          exact bw_sub [2, 3, 4, 5, 6, 7, 8, 1, 0] rfl (ih (x7 + 1) (x8 + 1) q83.2 h)
def fn8_next_137 (x1 : Int32) (x2 : Int32) (x3 : Int32) (x4 : Int32) (x6 : Int32) (x8 : Int32) (t0 : Int32) (kb : Int32 → Int32 → Int32 → Mem → Option (Int32 × Mem)) (w : Mem) : Option (Int32 × Mem) := (if x4 ≤ x8 then kb x4 t0 (x6 + 1) w else kb x8 t0 (x6 + 1) w)
set_option maxRecDepth 20000 in
theorem bk8_next_137 {M : MX} {G : GX} (C : BC M G shM 19 eM RX8 cX8_next 9 (some .int) rm8_next) {z : Int32 × Mem} (x1 : Int32) (x2 : Int32) (x3 : Int32) (x4 : Int32) (x6 : Int32) (x8 : Int32) (t0 : Int32) {kb : Int32 → Int32 → Int32 → Mem → Option (Int32 × Mem)} (hkb : ∀ (x4 : Int32) (x5 : Int32) (x6 : Int32) (w : Mem), kb x4 x5 x6 w = some z → BW M G shM 19 9 (ZR M G shM 19 (some .int) z) 41 [(0, .ref (gad G 0)), (1, .int x1), (2, .int x2), (3, .int x3), (4, .int x4), (5, .int x5), (6, .int x6)] [] w) {w : Mem} (h : fn8_next_137 x1 x2 x3 x4 x6 x8 t0 kb w = some z) : BW M G shM 19 9 (ZR M G shM 19 (some .int) z) 137 [(0, .ref (gad G 0)), (1, .int x1), (2, .int x2), (3, .int x3), (4, .int x4), (6, .int x6), (8, .int x8)] [.int t0] w := by
  rw [fn8_next_137] at h
  refine bw_istore C [(5, .int t0), (0, .ref (gad G 0)), (1, .int x1), (2, .int x2), (3, .int x3), (4, .int x4), (6, .int x6), (8, .int x8)] dX8_next_137 (by decide) rfl ?_
  refine bw_iload C 7 dX8_next_139 rfl ?_
  refine bw_iload C 5 dX8_next_141 rfl ?_
  refine bw_icmp_ge C (tgt := 151) dX8_next_143 (by decide) h (fun h => ?_) (fun h => ?_)
  · refine bw_iload C 5 dX8_next_151 rfl ?_
    refine bw_istore C [(4, .int x4), (5, .int t0), (0, .ref (gad G 0)), (1, .int x1), (2, .int x2), (3, .int x3), (6, .int x6), (8, .int x8)] dX8_next_153 (by decide) rfl ?_
    refine bw_iinc C [(6, .int (x6 + 1)), (4, .int x4), (5, .int t0), (0, .ref (gad G 0)), (1, .int x1), (2, .int x2), (3, .int x3), (8, .int x8)] 6 dX8_next_155 rfl rfl (by decide) rfl ?_
    refine bw_goto C (tgt := 41) dX8_next_158 (by decide) ?_
    exact bw_sub [3, 4, 5, 6, 1, 2, 0] rfl (hkb x4 t0 (x6 + 1) w h)
  · refine bw_iload C 7 dX8_next_146 rfl ?_
    refine bw_goto C (tgt := 153) dX8_next_148 (by decide) ?_
    refine bw_istore C [(4, .int x8), (5, .int t0), (0, .ref (gad G 0)), (1, .int x1), (2, .int x2), (3, .int x3), (6, .int x6), (8, .int x8)] dX8_next_153 (by decide) rfl ?_
    refine bw_iinc C [(6, .int (x6 + 1)), (4, .int x8), (5, .int t0), (0, .ref (gad G 0)), (1, .int x1), (2, .int x2), (3, .int x3), (8, .int x8)] 6 dX8_next_155 rfl rfl (by decide) rfl ?_
    refine bw_goto C (tgt := 41) dX8_next_158 (by decide) ?_
    exact bw_sub [3, 4, 5, 6, 1, 2, 0] rfl (hkb x8 t0 (x6 + 1) w h)
def fn8_next_121 (x1 : Int32) (x2 : Int32) (x3 : Int32) (x4 : Int32) (x5 : Int32) (x6 : Int32) (t0 : Int32) (kb : Int32 → Int32 → Int32 → Mem → Option (Int32 × Mem)) (w : Mem) : Option (Int32 × Mem) := (if x4 ≤ t0 then fn8_next_137 x1 x2 x3 x4 x6 t0 x5 kb w else fn8_next_137 x1 x2 x3 x4 x6 t0 x6 kb w)
set_option maxRecDepth 20000 in
theorem bk8_next_121 {M : MX} {G : GX} (C : BC M G shM 19 eM RX8 cX8_next 9 (some .int) rm8_next) {z : Int32 × Mem} (x1 : Int32) (x2 : Int32) (x3 : Int32) (x4 : Int32) (x5 : Int32) (x6 : Int32) (t0 : Int32) {kb : Int32 → Int32 → Int32 → Mem → Option (Int32 × Mem)} (hkb : ∀ (x4 : Int32) (x5 : Int32) (x6 : Int32) (w : Mem), kb x4 x5 x6 w = some z → BW M G shM 19 9 (ZR M G shM 19 (some .int) z) 41 [(0, .ref (gad G 0)), (1, .int x1), (2, .int x2), (3, .int x3), (4, .int x4), (5, .int x5), (6, .int x6)] [] w) {w : Mem} (h : fn8_next_121 x1 x2 x3 x4 x5 x6 t0 kb w = some z) : BW M G shM 19 9 (ZR M G shM 19 (some .int) z) 121 [(0, .ref (gad G 0)), (1, .int x1), (2, .int x2), (3, .int x3), (4, .int x4), (5, .int x5), (6, .int x6)] [.int t0] w := by
  rw [fn8_next_121] at h
  refine bw_istore C [(8, .int t0), (0, .ref (gad G 0)), (1, .int x1), (2, .int x2), (3, .int x3), (4, .int x4), (5, .int x5), (6, .int x6)] dX8_next_121 (by decide) rfl ?_
  refine bw_iload C 0 dX8_next_123 rfl ?_
  refine bw_iload C 5 dX8_next_125 rfl ?_
  refine bw_icmp_ge C (tgt := 135) dX8_next_127 (by decide) h (fun h => ?_) (fun h => ?_)
  · refine bw_iload C 6 dX8_next_135 rfl ?_
    exact bw_sub [1, 2, 3, 4, 5, 7, 0] rfl (bk8_next_137 C x1 x2 x3 x4 x6 t0 x5 hkb h)
  · refine bw_iload C 7 dX8_next_130 rfl ?_
    refine bw_goto C (tgt := 137) dX8_next_132 (by decide) ?_
    exact bw_sub [1, 2, 3, 4, 5, 7, 0] rfl (bk8_next_137 C x1 x2 x3 x4 x6 t0 x6 hkb h)
def fn8_next_41 (x1 : Int32) (x2 : Int32) (x3 : Int32) (k : Int32 → Int32 → Int32 → Mem → Option (Int32 × Mem)) : Nat → Int32 → Int32 → Int32 → Mem → Option (Int32 × Mem)
  | 0, _, _, _, _ => none
  | nn + 1, x4, x5, x6, w => (if ((1 : Int32) <<< ((w 0 3) &&& 31)) ≤ x6 then k x4 x5 x6 w else fn8_next_58 x1 x2 x3 x4 x5 x6 (fun x7_58 x8_58 w_58 => (if x7_58 ≤ (x3 - x7_58) then fn8_next_121 x1 x2 x3 x4 x5 x6 (x3 - x7_58) (fn8_next_41 x1 x2 x3 k nn) w_58 else fn8_next_121 x1 x2 x3 x4 x5 x6 x7_58 (fn8_next_41 x1 x2 x3 k nn) w_58)) 1000 0 0 w)
set_option maxRecDepth 20000 in
theorem bk8_next_41 {M : MX} {G : GX} (C : BC M G shM 19 eM RX8 cX8_next 9 (some .int) rm8_next) {z : Int32 × Mem} (x1 : Int32) (x2 : Int32) (x3 : Int32) {k : Int32 → Int32 → Int32 → Mem → Option (Int32 × Mem)} (hk : ∀ (x4 : Int32) (x5 : Int32) (x6 : Int32) (w : Mem), k x4 x5 x6 w = some z → BW M G shM 19 9 (ZR M G shM 19 (some .int) z) 161 [(2, .int x2), (4, .int x4), (5, .int x5)] [] w) : ∀ (nn : Nat) (x4 : Int32) (x5 : Int32) (x6 : Int32) (w : Mem), fn8_next_41 x1 x2 x3 k nn x4 x5 x6 w = some z → BW M G shM 19 9 (ZR M G shM 19 (some .int) z) 41 [(0, .ref (gad G 0)), (1, .int x1), (2, .int x2), (3, .int x3), (4, .int x4), (5, .int x5), (6, .int x6)] [] w := by
  intro nn
  induction nn with
  | zero =>
    intro x4 x5 x6 w h
    have h : (none : Option (Int32 × Mem)) = some z := h
    cases h
  | succ nn ih =>
    intro x4 x5 x6 w h
    rw [fn8_next_41] at h
    refine bw_iload C 6 dX8_next_41 rfl ?_
    refine bw_iconst C (v := 1) dX8_next_43 (by decide) ?_
    refine bw_aload_n C 0 dX8_next_44 rfl rfl ?_
    refine bw_geti C (j := 3) lM0 sM0 rfl inlX8 (by decide) rfl flX8_169 dX8_next_45 ?_
    refine bw_ishl C dX8_next_48 ?_
    refine bw_icmp_ge C (tgt := 161) dX8_next_49 (by decide) h (fun h => ?_) (fun h => ?_)
    · exact bw_sub [2, 4, 5] rfl (hk x4 x5 x6 w h)
    · refine bw_iconst C (v := 0) dX8_next_52 (by decide) ?_
      refine bw_istore C [(7, .int 0), (0, .ref (gad G 0)), (1, .int x1), (2, .int x2), (3, .int x3), (4, .int x4), (5, .int x5), (6, .int x6)] dX8_next_53 (by decide) rfl ?_
      refine bw_iconst C (v := 0) dX8_next_55 (by decide) ?_
      refine bw_istore C [(8, .int 0), (7, .int 0), (0, .ref (gad G 0)), (1, .int x1), (2, .int x2), (3, .int x3), (4, .int x4), (5, .int x5), (6, .int x6)] dX8_next_56 (by decide) rfl ?_
      refine bw_sub [2, 3, 4, 5, 6, 7, 8, 1, 0] rfl (bk8_next_58 C x1 x2 x3 x4 x5 x6 (fun x7_58 x8_58 w_58 h => ?_) 1000 0 0 w h)
      refine bw_iload C 7 dX8_next_103 rfl ?_
      refine bw_iload_n C 3 dX8_next_105 rfl rfl ?_
      refine bw_iload C 7 dX8_next_106 rfl ?_
      refine bw_isub C dX8_next_108 ?_
      refine bw_icmp_le C (tgt := 117) dX8_next_109 (by decide) h (fun h => ?_) (fun h => ?_)
      · refine bw_iload_n C 3 dX8_next_117 rfl rfl ?_
        refine bw_iload C 7 dX8_next_118 rfl ?_
        refine bw_isub C dX8_next_120 ?_
        exact bw_sub [0, 1, 2, 3, 4, 5, 6] rfl (bk8_next_121 C x1 x2 x3 x4 x5 x6 (x3 - x7_58) ih h)
      · refine bw_iload C 7 dX8_next_112 rfl ?_
        refine bw_goto C (tgt := 121) dX8_next_114 (by decide) ?_
        exact bw_sub [0, 1, 2, 3, 4, 5, 6] rfl (bk8_next_121 C x1 x2 x3 x4 x5 x6 x7_58 ih h)
def fn8_next_172 (x5 : Int32) (w : Mem) : Option (Int32 × Mem) := some (x5, w)
set_option maxRecDepth 20000 in
theorem bk8_next_172 {M : MX} {G : GX} (C : BC M G shM 19 eM RX8 cX8_next 9 (some .int) rm8_next) {z : Int32 × Mem} (x5 : Int32) {w : Mem} (h : fn8_next_172 x5 w = some z) : BW M G shM 19 9 (ZR M G shM 19 (some .int) z) 172 [(5, .int x5)] [] w := by
  rw [fn8_next_172] at h
  refine bw_iload C 0 dX8_next_172 rfl ?_
  refine bw_goto C (tgt := 179) dX8_next_174 (by decide) ?_
  exact bw_iret C dX8_next_179 h
def fn8_next  (x1 : Int32) (x2 : Int32) (w : Mem) : Option (Int32 × Mem) := (fn8_in ((x1 : Int32).toInt64) 0 3 w).bind (fun q6 => (if q6.1 = 0 then some ((-1), q6.2) else (fn8_in ((x2 : Int32).toInt64) 0 1 q6.2).bind (fun q16 => (if ¬ q16.1 = 0 then (fn8_fakes x1 0 q16.2).bind (fun q27 => fn8_next_41 x1 x2 q27.1 (fun x4_41 x5_41 x6_41 w_41 => (if x5_41 = (-4) then fn8_next_172 x5_41 w_41 else (if ¬ x2 = 0 then some (x4_41, w_41) else fn8_next_172 x5_41 w_41))) 1000 q27.1 (-4) 1 q27.2) else some ((-1), q16.2)))))
set_option maxRecDepth 20000 in
theorem bk8_next {M : MX} {G : GX} (C : BC M G shM 19 eM RX8 cX8_next 9 (some .int) rm8_next) {z : Int32 × Mem}   (x1 : Int32) (x2 : Int32) {w : Mem} (h : fn8_next  x1 x2 w = some z) : BW M G shM 19 9 (ZR M G shM 19 (some .int) z) 0 [(0, .ref (gad G 0)), (1, .int x1), (2, .int x2)] [] w := by
  rw [fn8_next] at h
  refine bw_iload_n C 1 dX8_next_0 rfl rfl ?_
  refine bw_i2l C dX8_next_1 rfl ?_
  refine bw_lconst C (v := 0) dX8_next_2 (by decide) ?_
  refine bw_ldc2 C dX8_next_3 clX8_217 ?_
  refine bw_callSi C (As := [.long ((x1 : Int32).toInt64), .long 0, .long 3]) miX8_in mlX8_69 smX8_in (by decide) rfl rfl (fun z1 h1 => mt8_in h1) rfl (Nat.le_of_ble_eq_true rfl) rfl dX8_next_6 h (fun q6 _ h => ?_)
  refine bw_if_eq C (tgt := 22) dX8_next_9 (by decide) h (fun h => ?_) (fun h => ?_)
  · refine bw_iconst C (v := (-1)) dX8_next_22 (by decide) ?_
    exact bw_iret C dX8_next_23 h
  · refine bw_iload_n C 2 dX8_next_12 rfl rfl ?_
    refine bw_i2l C dX8_next_13 rfl ?_
    refine bw_lconst C (v := 0) dX8_next_14 (by decide) ?_
    refine bw_lconst C (v := 1) dX8_next_15 (by decide) ?_
    refine bw_callSi C (As := [.long ((x2 : Int32).toInt64), .long 0, .long 1]) miX8_in mlX8_69 smX8_in (by decide) rfl rfl (fun z1 h1 => mt8_in h1) rfl (Nat.le_of_ble_eq_true rfl) rfl dX8_next_16 h (fun q16 _ h => ?_)
    refine bw_if_ne C (tgt := 24) dX8_next_19 (by decide) h (fun h => ?_) (fun h => ?_)
    · refine bw_aload_n C 0 dX8_next_24 rfl rfl ?_
      refine bw_iload_n C 1 dX8_next_25 rfl rfl ?_
      refine bw_iconst C (v := 0) dX8_next_26 (by decide) ?_
      refine bw_callVi C (As := [.int x1, .int 0]) lM0 sM0 rfl miX8_fakes mlX8_262 imX8_fakes seX8_fakes (by decide) rfl rfl (fun z1 h1 => mt8_fakes h1) rfl (Nat.le_of_ble_eq_true rfl) rfl dX8_next_27 h (fun q27 _ h => ?_)
      refine bw_istore_n C [(3, .int q27.1), (0, .ref (gad G 0)), (1, .int x1), (2, .int x2)] dX8_next_30 rfl (by decide) rfl ?_
      refine bw_iload_n C 0 dX8_next_31 rfl rfl ?_
      refine bw_istore C [(4, .int q27.1), (3, .int q27.1), (0, .ref (gad G 0)), (1, .int x1), (2, .int x2)] dX8_next_32 (by decide) rfl ?_
      refine bw_bipush C (v := (-4)) dX8_next_34 (by decide) ?_
      refine bw_istore C [(5, .int (-4)), (4, .int q27.1), (3, .int q27.1), (0, .ref (gad G 0)), (1, .int x1), (2, .int x2)] dX8_next_36 (by decide) rfl ?_
      refine bw_iconst C (v := 1) dX8_next_38 (by decide) ?_
      refine bw_istore C [(6, .int 1), (5, .int (-4)), (4, .int q27.1), (3, .int q27.1), (0, .ref (gad G 0)), (1, .int x1), (2, .int x2)] dX8_next_39 (by decide) rfl ?_
      refine bw_sub [4, 5, 6, 3, 2, 1, 0] rfl (bk8_next_41 C x1 x2 q27.1 (fun x4_41 x5_41 x6_41 w_41 h => ?_) 1000 q27.1 (-4) 1 q27.2 h)
      refine bw_iload C 2 dX8_next_161 rfl ?_
      refine bw_bipush C (v := (-4)) dX8_next_163 (by decide) ?_
      refine bw_icmp_eq C (tgt := 172) dX8_next_165 (by decide) h (fun h => ?_) (fun h => ?_)
      · exact bw_sub [2] rfl (bk8_next_172 C x5_41 h)
      · refine bw_iload_n C 0 dX8_next_168 rfl rfl ?_
        refine bw_if_ne C (tgt := 177) dX8_next_169 (by decide) h (fun h => ?_) (fun h => ?_)
        · refine bw_iload C 1 dX8_next_177 rfl ?_
          exact bw_iret C dX8_next_179 h
        · exact bw_sub [2] rfl (bk8_next_172 C x5_41 h)
    · refine bw_iconst C (v := (-1)) dX8_next_22 (by decide) ?_
      exact bw_iret C dX8_next_23 h
theorem mt8_next {l : Launch} {G : GX}   {x1 : Int32} {x2 : Int32} {w : Mem} {z : Int32 × Mem} (h : fn8_next  x1 x2 w = some z) : MC l G shM 19 eM yX8_next cX8_next 9 (some .int) rm8_next [.ref (gad G 0), .int x1, .int x2] w z := by
  refine met_of (by decide +kernel) (eM_ok _) rfl (Nat.le_of_ble_eq_true rfl) (fun M hM C => ?_)
  subst hM
  exact bk8_next C  x1 x2 h
def rm8_draws : Room := { frames := 0, cells := 0, slots := 0, locals := 0 }
def fn8_draws  (x1 : Int32) (w : Mem) : Option (Int32 × Mem) := (if x1 = 0 then none else some ((((((up2 w 0 32 (((w 0 32) * 1103515245) + 12345)) 0 32) >>> ((16 : Int32) &&& 31)) &&& 32767) - ((((up2 w 0 32 (((w 0 32) * 1103515245) + 12345)) 0 32) >>> ((16 : Int32) &&& 31)) &&& 32767) / x1 * x1), (up2 w 0 32 (((w 0 32) * 1103515245) + 12345))))
set_option maxRecDepth 20000 in
theorem bk8_draws {M : MX} {G : GX} (C : BC M G shM 19 eM RX8 cX8_draws 2 (some .int) rm8_draws) {z : Int32 × Mem}   (x1 : Int32) {w : Mem} (h : fn8_draws  x1 w = some z) : BW M G shM 19 2 (ZR M G shM 19 (some .int) z) 0 [(0, .ref (gad G 0)), (1, .int x1)] [] w := by
  rw [fn8_draws] at h
  refine bw_aload_n C 0 dX8_draws_0 rfl rfl ?_
  refine bw_aload_n C 0 dX8_draws_1 rfl rfl ?_
  refine bw_geti C (j := 32) lM0 sM0 rfl inlX8 (by decide) rfl flX8_265 dX8_draws_2 ?_
  refine bw_ldcw C dX8_draws_5 ctX8_268 ?_
  refine bw_imul C dX8_draws_8 ?_
  refine bw_sipush C (v := 12345) dX8_draws_9 (by decide) ?_
  refine bw_iadd C dX8_draws_12 ?_
  refine bw_puti C (j := 32) (ty := .int) lM0 sM0 rfl inlX8 (by decide) tyX8 tyX8_ok nmX8 rfl flX8_265 rfl (by decide +kernel) rfl rfl dX8_draws_13 ?_
  refine bw_aload_n C 0 dX8_draws_16 rfl rfl ?_
  refine bw_geti C (j := 32) lM0 sM0 rfl inlX8 (by decide) rfl flX8_265 dX8_draws_17 ?_
  refine bw_bipush C (v := 16) dX8_draws_20 (by decide) ?_
  refine bw_ishr C dX8_draws_22 ?_
  refine bw_sipush C (v := 32767) dX8_draws_23 (by decide) ?_
  refine bw_iand C dX8_draws_26 ?_
  refine bw_iload_n C 1 dX8_draws_27 rfl rfl ?_
  refine bw_irem C dX8_draws_28 h (fun h => ?_)
  exact bw_iret C dX8_draws_29 h
theorem mt8_draws {l : Launch} {G : GX}   {x1 : Int32} {w : Mem} {z : Int32 × Mem} (h : fn8_draws  x1 w = some z) : MC l G shM 19 eM yX8_draws cX8_draws 2 (some .int) rm8_draws [.ref (gad G 0), .int x1] w z := by
  refine met_of (by decide +kernel) (eM_ok _) rfl (Nat.le_of_ble_eq_true rfl) (fun M hM C => ?_)
  subst hM
  exact bk8_draws C  x1 h
def rm8_chatter : Room := { frames := 5, cells := 0, slots := 0, locals := 114 }
def fn8_chatter_93 (x2 : Int32) (x4 : Int32) (t0 : Int32) (kb : Int32 → Int32 → Mem → Option (Int32 × Mem)) (w : Mem) : Option (Int32 × Mem) := kb (t0 + 0) (x4 + 1) w
set_option maxRecDepth 20000 in
theorem bk8_chatter_93 {M : MX} {G : GX} (C : BC M G shM 19 eM RX8 cX8_chatter 8 (some .int) rm8_chatter) {z : Int32 × Mem} (x2 : Int32) (x4 : Int32) (t0 : Int32) {kb : Int32 → Int32 → Mem → Option (Int32 × Mem)} (hkb : ∀ (x3 : Int32) (x4 : Int32) (w : Mem), kb x3 x4 w = some z → BW M G shM 19 8 (ZR M G shM 19 (some .int) z) 34 [(0, .ref (gad G 0)), (2, .int x2), (3, .int x3), (4, .int x4)] [] w) {w : Mem} (h : fn8_chatter_93 x2 x4 t0 kb w = some z) : BW M G shM 19 8 (ZR M G shM 19 (some .int) z) 93 [(0, .ref (gad G 0)), (2, .int x2), (4, .int x4)] [.int t0] w := by
  rw [fn8_chatter_93] at h
  refine bw_iconst C (v := 0) dX8_chatter_93 (by decide) ?_
  refine bw_iadd C dX8_chatter_94 ?_
  refine bw_istore_n C [(3, .int (t0 + 0)), (0, .ref (gad G 0)), (2, .int x2), (4, .int x4)] dX8_chatter_95 rfl (by decide) rfl ?_
  refine bw_iinc C [(4, .int (x4 + 1)), (3, .int (t0 + 0)), (0, .ref (gad G 0)), (2, .int x2)] 3 dX8_chatter_96 rfl rfl (by decide) rfl ?_
  refine bw_goto C (tgt := 34) dX8_chatter_99 (by decide) ?_
  exact bw_sub [2, 3, 1, 0] rfl (hkb (t0 + 0) (x4 + 1) w h)
def fn8_chatter_34 (x2 : Int32) (k : Int32 → Int32 → Mem → Option (Int32 × Mem)) : Nat → Int32 → Int32 → Mem → Option (Int32 × Mem)
  | 0, _, _, _ => none
  | nn + 1, x3, x4, w => (if x2 ≤ x4 then k x3 x4 w else (fn8_draws 12 w).bind (fun q43 => (fn8_draws (q43.2 0 2) q43.2).bind (fun q53 => (fn8_draws (q53.2 0 2) q53.2).bind (fun q63 => (if q53.1 = q63.1 then fn8_chatter_93 x2 x4 x3 (fn8_chatter_34 x2 k nn) q63.2 else (fn8_isSaid q43.1 q53.1 q63.1 q63.2).bind (fun q83 => (if q83.1 = 0 then fn8_chatter_93 x2 x4 x3 (fn8_chatter_34 x2 k nn) q83.2 else fn8_chatter_34 x2 k nn (x3 + 1) (x4 + 1) q83.2)))))))
set_option maxRecDepth 20000 in
theorem bk8_chatter_34 {M : MX} {G : GX} (C : BC M G shM 19 eM RX8 cX8_chatter 8 (some .int) rm8_chatter) {z : Int32 × Mem} (x2 : Int32) {k : Int32 → Int32 → Mem → Option (Int32 × Mem)} (hk : ∀ (x3 : Int32) (x4 : Int32) (w : Mem), k x3 x4 w = some z → BW M G shM 19 8 (ZR M G shM 19 (some .int) z) 102 [(3, .int x3)] [] w) : ∀ (nn : Nat) (x3 : Int32) (x4 : Int32) (w : Mem), fn8_chatter_34 x2 k nn x3 x4 w = some z → BW M G shM 19 8 (ZR M G shM 19 (some .int) z) 34 [(0, .ref (gad G 0)), (2, .int x2), (3, .int x3), (4, .int x4)] [] w := by
  intro nn
  induction nn with
  | zero =>
    intro x3 x4 w h
    have h : (none : Option (Int32 × Mem)) = some z := h
    cases h
  | succ nn ih =>
    intro x3 x4 w h
    rw [fn8_chatter_34] at h
    refine bw_iload C 3 dX8_chatter_34 rfl ?_
    refine bw_iload_n C 1 dX8_chatter_36 rfl rfl ?_
    refine bw_icmp_ge C (tgt := 102) dX8_chatter_37 (by decide) h (fun h => ?_) (fun h => ?_)
    · exact bw_sub [2] rfl (hk x3 x4 w h)
    · refine bw_aload_n C 0 dX8_chatter_40 rfl rfl ?_
      refine bw_bipush C (v := 12) dX8_chatter_41 (by decide) ?_
      refine bw_callVi C (As := [.int 12]) lM0 sM0 rfl miX8_draws mlX8_271 imX8_draws seX8_draws (by decide) rfl rfl (fun z1 h1 => mt8_draws h1) rfl (Nat.le_of_ble_eq_true rfl) rfl dX8_chatter_43 h (fun q43 _ h => ?_)
      refine bw_istore C [(5, .int q43.1), (0, .ref (gad G 0)), (2, .int x2), (3, .int x3), (4, .int x4)] dX8_chatter_46 (by decide) rfl ?_
      refine bw_aload_n C 1 dX8_chatter_48 rfl rfl ?_
      refine bw_aload_n C 1 dX8_chatter_49 rfl rfl ?_
      refine bw_geti C (j := 2) lM0 sM0 rfl inlX8 (by decide) rfl flX8_166 dX8_chatter_50 ?_
      refine bw_callVi C (As := [.int (q43.2 0 2)]) lM0 sM0 rfl miX8_draws mlX8_271 imX8_draws seX8_draws (by decide) rfl rfl (fun z1 h1 => mt8_draws h1) rfl (Nat.le_of_ble_eq_true rfl) rfl dX8_chatter_53 h (fun q53 _ h => ?_)
      refine bw_istore C [(6, .int q53.1), (5, .int q43.1), (0, .ref (gad G 0)), (2, .int x2), (3, .int x3), (4, .int x4)] dX8_chatter_56 (by decide) rfl ?_
      refine bw_aload_n C 2 dX8_chatter_58 rfl rfl ?_
      refine bw_aload_n C 2 dX8_chatter_59 rfl rfl ?_
      refine bw_geti C (j := 2) lM0 sM0 rfl inlX8 (by decide) rfl flX8_166 dX8_chatter_60 ?_
      refine bw_callVi C (As := [.int (q53.2 0 2)]) lM0 sM0 rfl miX8_draws mlX8_271 imX8_draws seX8_draws (by decide) rfl rfl (fun z1 h1 => mt8_draws h1) rfl (Nat.le_of_ble_eq_true rfl) rfl dX8_chatter_63 h (fun q63 _ h => ?_)
      refine bw_istore C [(7, .int q63.1), (6, .int q53.1), (5, .int q43.1), (0, .ref (gad G 0)), (2, .int x2), (3, .int x3), (4, .int x4)] dX8_chatter_66 (by decide) rfl ?_
      refine bw_iload_n C 5 dX8_chatter_68 rfl rfl ?_
      refine bw_iload C 1 dX8_chatter_69 rfl ?_
      refine bw_iload C 0 dX8_chatter_71 rfl ?_
      refine bw_icmp_eq C (tgt := 93) dX8_chatter_73 (by decide) h (fun h => ?_) (fun h => ?_)
      · exact bw_sub [3, 4, 6] rfl (bk8_chatter_93 C x2 x4 x3 ih h)
      · refine bw_aload_n C 3 dX8_chatter_76 rfl rfl ?_
        refine bw_iload C 2 dX8_chatter_77 rfl ?_
        refine bw_iload C 1 dX8_chatter_79 rfl ?_
        refine bw_iload C 0 dX8_chatter_81 rfl ?_
        refine bw_callVi C (As := [.int q43.1, .int q53.1, .int q63.1]) lM0 sM0 rfl miX8_isSaid mlX8_213 imX8_isSaid seX8_isSaid (by decide) rfl rfl (fun z1 h1 => mt8_isSaid h1) rfl (Nat.le_of_ble_eq_true rfl) rfl dX8_chatter_83 h (fun q83 _ h => ?_)
        refine bw_if_eq C (tgt := 93) dX8_chatter_86 (by decide) h (fun h => ?_) (fun h => ?_)
        · exact bw_sub [3, 4, 6] rfl (bk8_chatter_93 C x2 x4 x3 ih h)
        · refine bw_iconst C (v := 1) dX8_chatter_89 (by decide) ?_
          refine bw_goto C (tgt := 94) dX8_chatter_90 (by decide) ?_
          refine bw_iadd C dX8_chatter_94 ?_
          refine bw_istore_n C [(3, .int (x3 + 1)), (7, .int q63.1), (6, .int q53.1), (5, .int q43.1), (0, .ref (gad G 0)), (2, .int x2), (4, .int x4)] dX8_chatter_95 rfl (by decide) rfl ?_
          refine bw_iinc C [(4, .int (x4 + 1)), (3, .int (x3 + 1)), (7, .int q63.1), (6, .int q53.1), (5, .int q43.1), (0, .ref (gad G 0)), (2, .int x2)] 6 dX8_chatter_96 rfl rfl (by decide) rfl ?_
          refine bw_goto C (tgt := 34) dX8_chatter_99 (by decide) ?_
          exact bw_sub [5, 6, 1, 0] rfl (ih (x3 + 1) (x4 + 1) q83.2 h)
def fn8_chatter  (x1 : Int32) (x2 : Int32) (w : Mem) : Option (Int32 × Mem) := (fn8_in ((x2 : Int32).toInt64) 1 60 w).bind (fun q6 => (if ¬ q6.1 = 0 then (if ¬ (q6.2 0 2) = 0 then fn8_chatter_34 x2 (fun x3_34 x4_34 w_34 => some (x3_34, w_34)) 1000 0 0 (up2 q6.2 0 32 x1) else some ((-2), q6.2)) else some ((-1), q6.2)))
set_option maxRecDepth 20000 in
theorem bk8_chatter {M : MX} {G : GX} (C : BC M G shM 19 eM RX8 cX8_chatter 8 (some .int) rm8_chatter) {z : Int32 × Mem}   (x1 : Int32) (x2 : Int32) {w : Mem} (h : fn8_chatter  x1 x2 w = some z) : BW M G shM 19 8 (ZR M G shM 19 (some .int) z) 0 [(0, .ref (gad G 0)), (1, .int x1), (2, .int x2)] [] w := by
  rw [fn8_chatter] at h
  refine bw_iload_n C 2 dX8_chatter_0 rfl rfl ?_
  refine bw_i2l C dX8_chatter_1 rfl ?_
  refine bw_lconst C (v := 1) dX8_chatter_2 (by decide) ?_
  refine bw_ldc2 C dX8_chatter_3 clX8_269 ?_
  refine bw_callSi C (As := [.long ((x2 : Int32).toInt64), .long 1, .long 60]) miX8_in mlX8_69 smX8_in (by decide) rfl rfl (fun z1 h1 => mt8_in h1) rfl (Nat.le_of_ble_eq_true rfl) rfl dX8_chatter_6 h (fun q6 _ h => ?_)
  refine bw_if_ne C (tgt := 14) dX8_chatter_9 (by decide) h (fun h => ?_) (fun h => ?_)
  · refine bw_aload_n C 0 dX8_chatter_14 rfl rfl ?_
    refine bw_geti C (j := 2) lM0 sM0 rfl inlX8 (by decide) rfl flX8_166 dX8_chatter_15 ?_
    refine bw_if_ne C (tgt := 24) dX8_chatter_18 (by decide) h (fun h => ?_) (fun h => ?_)
    · refine bw_aload_n C 0 dX8_chatter_24 rfl rfl ?_
      refine bw_iload_n C 1 dX8_chatter_25 rfl rfl ?_
      refine bw_puti C (j := 32) (ty := .int) lM0 sM0 rfl inlX8 (by decide) tyX8 tyX8_ok nmX8 rfl flX8_265 rfl (by decide +kernel) rfl rfl dX8_chatter_26 ?_
      refine bw_iconst C (v := 0) dX8_chatter_29 (by decide) ?_
      refine bw_istore_n C [(3, .int 0), (0, .ref (gad G 0)), (1, .int x1), (2, .int x2)] dX8_chatter_30 rfl (by decide) rfl ?_
      refine bw_iconst C (v := 0) dX8_chatter_31 (by decide) ?_
      refine bw_istore C [(4, .int 0), (3, .int 0), (0, .ref (gad G 0)), (1, .int x1), (2, .int x2)] dX8_chatter_32 (by decide) rfl ?_
      refine bw_sub [2, 4, 1, 0] rfl (bk8_chatter_34 C x2 (fun x3_34 x4_34 w_34 h => ?_) 1000 0 0 (up2 q6.2 0 32 x1) h)
      refine bw_iload_n C 0 dX8_chatter_102 rfl rfl ?_
      exact bw_iret C dX8_chatter_103 h
    · refine bw_bipush C (v := (-2)) dX8_chatter_21 (by decide) ?_
      exact bw_iret C dX8_chatter_23 h
  · refine bw_iconst C (v := (-1)) dX8_chatter_12 (by decide) ?_
    exact bw_iret C dX8_chatter_13 h
theorem mt8_chatter {l : Launch} {G : GX}   {x1 : Int32} {x2 : Int32} {w : Mem} {z : Int32 × Mem} (h : fn8_chatter  x1 x2 w = some z) : MC l G shM 19 eM yX8_chatter cX8_chatter 8 (some .int) rm8_chatter [.ref (gad G 0), .int x1, .int x2] w z := by
  refine met_of (by decide +kernel) (eM_ok _) rfl (Nat.le_of_ble_eq_true rfl) (fun M hM C => ?_)
  subst hM
  exact bk8_chatter C  x1 x2 h
def rm8_copies : Room := { frames := 0, cells := 0, slots := 0, locals := 0 }
def fn8_copies_2 (x1 : Int32) (x2 : Int32) (k : Int32 → Mem → Option (Int32 × Mem)) : Nat → Int32 → Mem → Option (Int32 × Mem)
  | 0, _, _ => none
  | nn + 1, x3, w => (if 57 ≤ x3 then k x3 w else (if ib (x1 + x3) 228 = true then (if ib (x2 + x3) 228 = true then fn8_copies_2 x1 x2 k nn (x3 + 1) (up2 w 1 (x2 + x3).toNatClampNeg (w 1 (x1 + x3).toNatClampNeg)) else none) else none))
set_option maxRecDepth 20000 in
theorem bk8_copies_2 {M : MX} {G : GX} (C : BC M G shM 19 eM RX8 cX8_copies 4 none rm8_copies) {z : Int32 × Mem} (x1 : Int32) (x2 : Int32) {k : Int32 → Mem → Option (Int32 × Mem)} (hk : ∀ (x3 : Int32) (w : Mem), k x3 w = some z → BW M G shM 19 4 (ZR M G shM 19 none z) 30 [] [] w) : ∀ (nn : Nat) (x3 : Int32) (w : Mem), fn8_copies_2 x1 x2 k nn x3 w = some z → BW M G shM 19 4 (ZR M G shM 19 none z) 2 [(0, .ref (gad G 0)), (1, .int x1), (2, .int x2), (3, .int x3)] [] w := by
  intro nn
  induction nn with
  | zero =>
    intro x3 w h
    have h : (none : Option (Int32 × Mem)) = some z := h
    cases h
  | succ nn ih =>
    intro x3 w h
    rw [fn8_copies_2] at h
    refine bw_iload_n C 3 dX8_copies_2 rfl rfl ?_
    refine bw_bipush C (v := 57) dX8_copies_3 (by decide) ?_
    refine bw_icmp_ge C (tgt := 30) dX8_copies_5 (by decide) h (fun h => ?_) (fun h => ?_)
    · exact bw_sub [] rfl (hk x3 w h)
    · refine bw_aload_n C 0 dX8_copies_8 rfl rfl ?_
      refine bw_getr C (j := 0) (t := 1) lM0 sM0 rfl inlX8 (by decide) rfl flX8_7 dX8_copies_9 ?_
      refine bw_iload_n C 2 dX8_copies_12 rfl rfl ?_
      refine bw_iload_n C 3 dX8_copies_13 rfl rfl ?_
      refine bw_iadd C dX8_copies_14 ?_
      refine bw_aload_n C 0 dX8_copies_15 rfl rfl ?_
      refine bw_getr C (j := 0) (t := 1) lM0 sM0 rfl inlX8 (by decide) rfl flX8_7 dX8_copies_16 ?_
      refine bw_iload_n C 1 dX8_copies_19 rfl rfl ?_
      refine bw_iload_n C 3 dX8_copies_20 rfl rfl ?_
      refine bw_iadd C dX8_copies_21 ?_
      refine bw_iald C lM1 sM1 dX8_copies_22 h (fun h => ?_)
      refine bw_iast C lM1 sM1 dX8_copies_23 h (fun h => ?_)
      refine bw_iinc C [(3, .int (x3 + 1)), (0, .ref (gad G 0)), (1, .int x1), (2, .int x2)] 3 dX8_copies_24 rfl rfl (by decide) rfl ?_
      refine bw_goto C (tgt := 2) dX8_copies_27 (by decide) ?_
      exact bw_sub [1, 2, 3, 0] rfl (ih (x3 + 1) (up2 w 1 (x2 + x3).toNatClampNeg (w 1 (x1 + x3).toNatClampNeg)) h)
def fn8_copies  (x1 : Int32) (x2 : Int32) (w : Mem) : Option (Int32 × Mem) := fn8_copies_2 x1 x2 (fun x3_2 w_2 => some (0, w_2)) 1000 0 w
set_option maxRecDepth 20000 in
theorem bk8_copies {M : MX} {G : GX} (C : BC M G shM 19 eM RX8 cX8_copies 4 none rm8_copies) {z : Int32 × Mem}   (x1 : Int32) (x2 : Int32) {w : Mem} (h : fn8_copies  x1 x2 w = some z) : BW M G shM 19 4 (ZR M G shM 19 none z) 0 [(0, .ref (gad G 0)), (1, .int x1), (2, .int x2)] [] w := by
  rw [fn8_copies] at h
  refine bw_iconst C (v := 0) dX8_copies_0 (by decide) ?_
  refine bw_istore_n C [(3, .int 0), (0, .ref (gad G 0)), (1, .int x1), (2, .int x2)] dX8_copies_1 rfl (by decide) rfl ?_
  refine bw_sub [1, 2, 3, 0] rfl (bk8_copies_2 C x1 x2 (fun x3_2 w_2 h => ?_) 1000 0 w h)
  exact bw_vret C dX8_copies_30 h
theorem mt8_copies {l : Launch} {G : GX}   {x1 : Int32} {x2 : Int32} {w : Mem} {z : Int32 × Mem} (h : fn8_copies  x1 x2 w = some z) : MC l G shM 19 eM yX8_copies cX8_copies 4 none rm8_copies [.ref (gad G 0), .int x1, .int x2] w z := by
  refine met_of (by decide +kernel) (eM_ok _) rfl (Nat.le_of_ble_eq_true rfl) (fun M hM C => ?_)
  subst hM
  exact bk8_copies C  x1 x2 h
def rm8_keep : Room := { frames := 1, cells := 0, slots := 0, locals := 25 }
def fn8_keep_37 (x1 : Int32) (t0 : Int32) (w : Mem) : Option (Int32 × Mem) := (if ib x1 2 = true then some (t0, (up2 w 15 x1.toNatClampNeg (vp_nar .boolean 1))) else none)
set_option maxRecDepth 20000 in
theorem bk8_keep_37 {M : MX} {G : GX} (C : BC M G shM 19 eM RX8 cX8_keep 3 (some .int) rm8_keep) {z : Int32 × Mem} (x1 : Int32) (t0 : Int32) {w : Mem} (h : fn8_keep_37 x1 t0 w = some z) : BW M G shM 19 3 (ZR M G shM 19 (some .int) z) 37 [(0, .ref (gad G 0)), (1, .int x1)] [.int t0] w := by
  rw [fn8_keep_37] at h
  refine bw_istore_n C [(2, .int t0), (0, .ref (gad G 0)), (1, .int x1)] dX8_keep_37 rfl (by decide) rfl ?_
  refine bw_aload_n C 1 dX8_keep_38 rfl rfl ?_
  refine bw_getr C (j := 33) (t := 15) lM0 sM0 rfl inlX8 (by decide) rfl flX8_52 dX8_keep_39 ?_
  refine bw_iload_n C 2 dX8_keep_42 rfl rfl ?_
  refine bw_iconst C (v := 1) dX8_keep_43 (by decide) ?_
  refine bw_zast C lM15 sM15 dX8_keep_44 h (fun h => ?_)
  refine bw_iload_n C 0 dX8_keep_45 rfl rfl ?_
  exact bw_iret C dX8_keep_46 h
def fn8_keep  (x1 : Int32) (w : Mem) : Option (Int32 × Mem) := (fn8_in ((x1 : Int32).toInt64) 0 1 w).bind (fun q4 => (if ¬ q4.1 = 0 then (fn8_copies 0 (57 * (x1 + 1)) q4.2).bind (fun q20 => (if ib x1 2 = true then (if (q20.2 15 x1.toNatClampNeg) = 0 then fn8_keep_37 x1 0 q20.2 else fn8_keep_37 x1 1 q20.2) else none)) else some ((-1), q4.2)))
set_option maxRecDepth 20000 in
theorem bk8_keep {M : MX} {G : GX} (C : BC M G shM 19 eM RX8 cX8_keep 3 (some .int) rm8_keep) {z : Int32 × Mem}   (x1 : Int32) {w : Mem} (h : fn8_keep  x1 w = some z) : BW M G shM 19 3 (ZR M G shM 19 (some .int) z) 0 [(0, .ref (gad G 0)), (1, .int x1)] [] w := by
  rw [fn8_keep] at h
  refine bw_iload_n C 1 dX8_keep_0 rfl rfl ?_
  refine bw_i2l C dX8_keep_1 rfl ?_
  refine bw_lconst C (v := 0) dX8_keep_2 (by decide) ?_
  refine bw_lconst C (v := 1) dX8_keep_3 (by decide) ?_
  refine bw_callSi C (As := [.long ((x1 : Int32).toInt64), .long 0, .long 1]) miX8_in mlX8_69 smX8_in (by decide) rfl rfl (fun z1 h1 => mt8_in h1) rfl (Nat.le_of_ble_eq_true rfl) rfl dX8_keep_4 h (fun q4 _ h => ?_)
  refine bw_if_ne C (tgt := 12) dX8_keep_7 (by decide) h (fun h => ?_) (fun h => ?_)
  · refine bw_aload_n C 0 dX8_keep_12 rfl rfl ?_
    refine bw_iconst C (v := 0) dX8_keep_13 (by decide) ?_
    refine bw_bipush C (v := 57) dX8_keep_14 (by decide) ?_
    refine bw_iload_n C 1 dX8_keep_16 rfl rfl ?_
    refine bw_iconst C (v := 1) dX8_keep_17 (by decide) ?_
    refine bw_iadd C dX8_keep_18 ?_
    refine bw_imul C dX8_keep_19 ?_
    refine bw_callVv C (As := [.int 0, .int (57 * (x1 + 1))]) lM0 sM0 rfl miX8_copies mlX8_274 imX8_copies seX8_copies (by decide) rfl rfl (fun z1 h1 => mt8_copies h1) rfl (Nat.le_of_ble_eq_true rfl) rfl dX8_keep_20 h (fun q20 _ h => ?_)
    refine bw_aload_n C 0 dX8_keep_23 rfl rfl ?_
    refine bw_getr C (j := 33) (t := 15) lM0 sM0 rfl inlX8 (by decide) rfl flX8_52 dX8_keep_24 ?_
    refine bw_iload_n C 1 dX8_keep_27 rfl rfl ?_
    refine bw_zald C lM15 sM15 dX8_keep_28 h (fun h => ?_)
    refine bw_if_eq C (tgt := 36) dX8_keep_29 (by decide) h (fun h => ?_) (fun h => ?_)
    · refine bw_iconst C (v := 0) dX8_keep_36 (by decide) ?_
      exact bw_sub [0, 1] rfl (bk8_keep_37 C x1 0 h)
    · refine bw_iconst C (v := 1) dX8_keep_32 (by decide) ?_
      refine bw_goto C (tgt := 37) dX8_keep_33 (by decide) ?_
      exact bw_sub [0, 1] rfl (bk8_keep_37 C x1 1 h)
  · refine bw_iconst C (v := (-1)) dX8_keep_10 (by decide) ?_
    exact bw_iret C dX8_keep_11 h
theorem mt8_keep {l : Launch} {G : GX}   {x1 : Int32} {w : Mem} {z : Int32 × Mem} (h : fn8_keep  x1 w = some z) : MC l G shM 19 eM yX8_keep cX8_keep 3 (some .int) rm8_keep [.ref (gad G 0), .int x1] w z := by
  refine met_of (by decide +kernel) (eM_ok _) rfl (Nat.le_of_ble_eq_true rfl) (fun M hM C => ?_)
  subst hM
  exact bk8_keep C  x1 h
def rm8_back : Room := { frames := 1, cells := 0, slots := 0, locals := 25 }
def fn8_back  (x1 : Int32) (w : Mem) : Option (Int32 × Mem) := (fn8_in ((x1 : Int32).toInt64) 0 1 w).bind (fun q4 => (if ¬ q4.1 = 0 then (if ib x1 2 = true then (if ¬ (q4.2 15 x1.toNatClampNeg) = 0 then (fn8_copies (57 * (x1 + 1)) 0 q4.2).bind (fun q32 => (if ib 54 228 = true then some ((q32.2 1 (54 : Int32).toNatClampNeg), q32.2) else none)) else some ((-2), q4.2)) else none) else some ((-1), q4.2)))
set_option maxRecDepth 20000 in
theorem bk8_back {M : MX} {G : GX} (C : BC M G shM 19 eM RX8 cX8_back 2 (some .int) rm8_back) {z : Int32 × Mem}   (x1 : Int32) {w : Mem} (h : fn8_back  x1 w = some z) : BW M G shM 19 2 (ZR M G shM 19 (some .int) z) 0 [(0, .ref (gad G 0)), (1, .int x1)] [] w := by
  rw [fn8_back] at h
  refine bw_iload_n C 1 dX8_back_0 rfl rfl ?_
  refine bw_i2l C dX8_back_1 rfl ?_
  refine bw_lconst C (v := 0) dX8_back_2 (by decide) ?_
  refine bw_lconst C (v := 1) dX8_back_3 (by decide) ?_
  refine bw_callSi C (As := [.long ((x1 : Int32).toInt64), .long 0, .long 1]) miX8_in mlX8_69 smX8_in (by decide) rfl rfl (fun z1 h1 => mt8_in h1) rfl (Nat.le_of_ble_eq_true rfl) rfl dX8_back_4 h (fun q4 _ h => ?_)
  refine bw_if_ne C (tgt := 12) dX8_back_7 (by decide) h (fun h => ?_) (fun h => ?_)
  · refine bw_aload_n C 0 dX8_back_12 rfl rfl ?_
    refine bw_getr C (j := 33) (t := 15) lM0 sM0 rfl inlX8 (by decide) rfl flX8_52 dX8_back_13 ?_
    refine bw_iload_n C 1 dX8_back_16 rfl rfl ?_
    refine bw_zald C lM15 sM15 dX8_back_17 h (fun h => ?_)
    refine bw_if_ne C (tgt := 24) dX8_back_18 (by decide) h (fun h => ?_) (fun h => ?_)
    · refine bw_aload_n C 0 dX8_back_24 rfl rfl ?_
      refine bw_bipush C (v := 57) dX8_back_25 (by decide) ?_
      refine bw_iload_n C 1 dX8_back_27 rfl rfl ?_
      refine bw_iconst C (v := 1) dX8_back_28 (by decide) ?_
      refine bw_iadd C dX8_back_29 ?_
      refine bw_imul C dX8_back_30 ?_
      refine bw_iconst C (v := 0) dX8_back_31 (by decide) ?_
      refine bw_callVv C (As := [.int (57 * (x1 + 1)), .int 0]) lM0 sM0 rfl miX8_copies mlX8_274 imX8_copies seX8_copies (by decide) rfl rfl (fun z1 h1 => mt8_copies h1) rfl (Nat.le_of_ble_eq_true rfl) rfl dX8_back_32 h (fun q32 _ h => ?_)
      refine bw_aload_n C 0 dX8_back_35 rfl rfl ?_
      refine bw_getr C (j := 0) (t := 1) lM0 sM0 rfl inlX8 (by decide) rfl flX8_7 dX8_back_36 ?_
      refine bw_bipush C (v := 54) dX8_back_39 (by decide) ?_
      refine bw_iald C lM1 sM1 dX8_back_41 h (fun h => ?_)
      exact bw_iret C dX8_back_42 h
    · refine bw_bipush C (v := (-2)) dX8_back_21 (by decide) ?_
      exact bw_iret C dX8_back_23 h
  · refine bw_iconst C (v := (-1)) dX8_back_10 (by decide) ?_
    exact bw_iret C dX8_back_11 h
theorem mt8_back {l : Launch} {G : GX}   {x1 : Int32} {w : Mem} {z : Int32 × Mem} (h : fn8_back  x1 w = some z) : MC l G shM 19 eM yX8_back cX8_back 2 (some .int) rm8_back [.ref (gad G 0), .int x1] w z := by
  refine met_of (by decide +kernel) (eM_ok _) rfl (Nat.le_of_ble_eq_true rfl) (fun M hM C => ?_)
  subst hM
  exact bk8_back C  x1 h
def rm8_sheet : Room := { frames := 1, cells := 0, slots := 0, locals := 25 }
def fn8_sheet_56 (x1 : Int32) (k : Int32 → Mem → Option (Int32 × Mem)) : Nat → Int32 → Mem → Option (Int32 × Mem)
  | 0, _, _ => none
  | nn + 1, x4, w => (if 40 ≤ x4 then k x4 w else (if ib ((40 * x1) + x4) 160 = true then fn8_sheet_56 x1 k nn (x4 + 1) (up2 w 18 ((40 * x1) + x4).toNatClampNeg 0) else none))
set_option maxRecDepth 20000 in
theorem bk8_sheet_56 {M : MX} {G : GX} (C : BC M G shM 19 eM RX8 cX8_sheet 5 (some .int) rm8_sheet) {z : Int32 × Mem} (x1 : Int32) {k : Int32 → Mem → Option (Int32 × Mem)} (hk : ∀ (x4 : Int32) (w : Mem), k x4 w = some z → BW M G shM 19 5 (ZR M G shM 19 (some .int) z) 82 [] [] w) : ∀ (nn : Nat) (x4 : Int32) (w : Mem), fn8_sheet_56 x1 k nn x4 w = some z → BW M G shM 19 5 (ZR M G shM 19 (some .int) z) 56 [(0, .ref (gad G 0)), (1, .int x1), (4, .int x4)] [] w := by
  intro nn
  induction nn with
  | zero =>
    intro x4 w h
    have h : (none : Option (Int32 × Mem)) = some z := h
    cases h
  | succ nn ih =>
    intro x4 w h
    rw [fn8_sheet_56] at h
    refine bw_iload C 2 dX8_sheet_56 rfl ?_
    refine bw_bipush C (v := 40) dX8_sheet_58 (by decide) ?_
    refine bw_icmp_ge C (tgt := 82) dX8_sheet_60 (by decide) h (fun h => ?_) (fun h => ?_)
    · exact bw_sub [] rfl (hk x4 w h)
    · refine bw_aload_n C 0 dX8_sheet_63 rfl rfl ?_
      refine bw_getr C (j := 36) (t := 18) lM0 sM0 rfl inlX8 (by decide) rfl flX8_62 dX8_sheet_64 ?_
      refine bw_bipush C (v := 40) dX8_sheet_67 (by decide) ?_
      refine bw_iload_n C 1 dX8_sheet_69 rfl rfl ?_
      refine bw_imul C dX8_sheet_70 ?_
      refine bw_iload C 2 dX8_sheet_71 rfl ?_
      refine bw_iadd C dX8_sheet_73 ?_
      refine bw_iconst C (v := 0) dX8_sheet_74 (by decide) ?_
      refine bw_iast C lM18 sM18 dX8_sheet_75 h (fun h => ?_)
      refine bw_iinc C [(4, .int (x4 + 1)), (0, .ref (gad G 0)), (1, .int x1)] 2 dX8_sheet_76 rfl rfl (by decide) rfl ?_
      refine bw_goto C (tgt := 56) dX8_sheet_79 (by decide) ?_
      exact bw_sub [1, 2, 0] rfl (ih (x4 + 1) (up2 w 18 ((40 * x1) + x4).toNatClampNeg 0) h)
def fn8_sheet  (x1 : Int32) (x2 : Int32) (x3 : Int32) (w : Mem) : Option (Int32 × Mem) := (fn8_in ((x1 : Int32).toInt64) 0 3 w).bind (fun q6 => (if q6.1 = 0 then some ((-1), q6.2) else (fn8_in ((x2 : Int32).toInt64) 0 2 q6.2).bind (fun q18 => (if q18.1 = 0 then some ((-1), q18.2) else (if x3 ≤ 40 then (if 0 ≤ x3 then (if ib x1 4 = true then (if ib x1 4 = true then fn8_sheet_56 x1 (fun x4_56 w_56 => some (1, w_56)) 1000 0 (up2 (up2 q18.2 16 x1.toNatClampNeg x2) 17 x1.toNatClampNeg x3) else none) else none) else some ((-14), q18.2)) else some ((-1), q18.2))))))
set_option maxRecDepth 20000 in
theorem bk8_sheet {M : MX} {G : GX} (C : BC M G shM 19 eM RX8 cX8_sheet 5 (some .int) rm8_sheet) {z : Int32 × Mem}   (x1 : Int32) (x2 : Int32) (x3 : Int32) {w : Mem} (h : fn8_sheet  x1 x2 x3 w = some z) : BW M G shM 19 5 (ZR M G shM 19 (some .int) z) 0 [(0, .ref (gad G 0)), (1, .int x1), (2, .int x2), (3, .int x3)] [] w := by
  rw [fn8_sheet] at h
  refine bw_iload_n C 1 dX8_sheet_0 rfl rfl ?_
  refine bw_i2l C dX8_sheet_1 rfl ?_
  refine bw_lconst C (v := 0) dX8_sheet_2 (by decide) ?_
  refine bw_ldc2 C dX8_sheet_3 clX8_217 ?_
  refine bw_callSi C (As := [.long ((x1 : Int32).toInt64), .long 0, .long 3]) miX8_in mlX8_69 smX8_in (by decide) rfl rfl (fun z1 h1 => mt8_in h1) rfl (Nat.le_of_ble_eq_true rfl) rfl dX8_sheet_6 h (fun q6 _ h => ?_)
  refine bw_if_eq C (tgt := 30) dX8_sheet_9 (by decide) h (fun h => ?_) (fun h => ?_)
  · refine bw_iconst C (v := (-1)) dX8_sheet_30 (by decide) ?_
    exact bw_iret C dX8_sheet_31 h
  · refine bw_iload_n C 2 dX8_sheet_12 rfl rfl ?_
    refine bw_i2l C dX8_sheet_13 rfl ?_
    refine bw_lconst C (v := 0) dX8_sheet_14 (by decide) ?_
    refine bw_ldc2 C dX8_sheet_15 clX8_186 ?_
    refine bw_callSi C (As := [.long ((x2 : Int32).toInt64), .long 0, .long 2]) miX8_in mlX8_69 smX8_in (by decide) rfl rfl (fun z1 h1 => mt8_in h1) rfl (Nat.le_of_ble_eq_true rfl) rfl dX8_sheet_18 h (fun q18 _ h => ?_)
    refine bw_if_eq C (tgt := 30) dX8_sheet_21 (by decide) h (fun h => ?_) (fun h => ?_)
    · refine bw_iconst C (v := (-1)) dX8_sheet_30 (by decide) ?_
      exact bw_iret C dX8_sheet_31 h
    · refine bw_iload_n C 3 dX8_sheet_24 rfl rfl ?_
      refine bw_bipush C (v := 40) dX8_sheet_25 (by decide) ?_
      refine bw_icmp_le C (tgt := 32) dX8_sheet_27 (by decide) h (fun h => ?_) (fun h => ?_)
      · refine bw_iload_n C 3 dX8_sheet_32 rfl rfl ?_
        refine bw_if_ge C (tgt := 39) dX8_sheet_33 (by decide) h (fun h => ?_) (fun h => ?_)
        · refine bw_aload_n C 0 dX8_sheet_39 rfl rfl ?_
          refine bw_getr C (j := 34) (t := 16) lM0 sM0 rfl inlX8 (by decide) rfl flX8_56 dX8_sheet_40 ?_
          refine bw_iload_n C 1 dX8_sheet_43 rfl rfl ?_
          refine bw_iload_n C 2 dX8_sheet_44 rfl rfl ?_
          refine bw_iast C lM16 sM16 dX8_sheet_45 h (fun h => ?_)
          refine bw_aload_n C 0 dX8_sheet_46 rfl rfl ?_
          refine bw_getr C (j := 35) (t := 17) lM0 sM0 rfl inlX8 (by decide) rfl flX8_59 dX8_sheet_47 ?_
          refine bw_iload_n C 1 dX8_sheet_50 rfl rfl ?_
          refine bw_iload_n C 3 dX8_sheet_51 rfl rfl ?_
          refine bw_iast C lM17 sM17 dX8_sheet_52 h (fun h => ?_)
          refine bw_iconst C (v := 0) dX8_sheet_53 (by decide) ?_
          refine bw_istore C [(4, .int 0), (0, .ref (gad G 0)), (1, .int x1), (2, .int x2), (3, .int x3)] dX8_sheet_54 (by decide) rfl ?_
          refine bw_sub [1, 2, 0] rfl (bk8_sheet_56 C x1 (fun x4_56 w_56 h => ?_) 1000 0 (up2 (up2 q18.2 16 x1.toNatClampNeg x2) 17 x1.toNatClampNeg x3) h)
          refine bw_iconst C (v := 1) dX8_sheet_82 (by decide) ?_
          exact bw_iret C dX8_sheet_83 h
        · refine bw_bipush C (v := (-14)) dX8_sheet_36 (by decide) ?_
          exact bw_iret C dX8_sheet_38 h
      · refine bw_iconst C (v := (-1)) dX8_sheet_30 (by decide) ?_
        exact bw_iret C dX8_sheet_31 h
theorem mt8_sheet {l : Launch} {G : GX}   {x1 : Int32} {x2 : Int32} {x3 : Int32} {w : Mem} {z : Int32 × Mem} (h : fn8_sheet  x1 x2 x3 w = some z) : MC l G shM 19 eM yX8_sheet cX8_sheet 5 (some .int) rm8_sheet [.ref (gad G 0), .int x1, .int x2, .int x3] w z := by
  refine met_of (by decide +kernel) (eM_ok _) rfl (Nat.le_of_ble_eq_true rfl) (fun M hM C => ?_)
  subst hM
  exact bk8_sheet C  x1 x2 x3 h
def rm8_lay : Room := { frames := 1, cells := 0, slots := 0, locals := 25 }
def fn8_lay_99 (t0 : Int32) (t1 : Int32) (w : Mem) : Option (Int32 × Mem) := (if ib t1 160 = true then some (1, (up2 w 18 t1.toNatClampNeg t0)) else none)
set_option maxRecDepth 20000 in
theorem bk8_lay_99 {M : MX} {G : GX} (C : BC M G shM 19 eM RX8 cX8_lay 4 (some .int) rm8_lay) {z : Int32 × Mem} (t0 : Int32) (t1 : Int32) {w : Mem} (h : fn8_lay_99 t0 t1 w = some z) : BW M G shM 19 4 (ZR M G shM 19 (some .int) z) 99 [] [.int t0, .int t1, .ref (gad G 18)] w := by
  rw [fn8_lay_99] at h
  refine bw_iast C lM18 sM18 dX8_lay_99 h (fun h => ?_)
  refine bw_iconst C (v := 1) dX8_lay_100 (by decide) ?_
  exact bw_iret C dX8_lay_101 h
def fn8_lay  (x1 : Int32) (x2 : Int32) (x3 : Int32) (w : Mem) : Option (Int32 × Mem) := (fn8_in ((x1 : Int32).toInt64) 0 3 w).bind (fun q6 => (if ¬ q6.1 = 0 then (if ib x1 4 = true then (if ¬ (q6.2 16 x1.toNatClampNeg) = (-4) then (if ib x1 4 = true then (fn8_in ((x2 : Int32).toInt64) 0 ((((q6.2 17 x1.toNatClampNeg) - 1) : Int32).toInt64) q6.2).bind (fun q40 => (if ¬ q40.1 = 0 then (if ib x1 4 = true then (if ¬ (q40.2 16 x1.toNatClampNeg) = 0 then (if ib x1 4 = true then (if ¬ (q40.2 16 x1.toNatClampNeg) = 1 then fn8_lay_99 x3 ((40 * x1) + x2) q40.2 else fn8_lay_99 ((x3 <<< ((16 : Int32) &&& 31)) >>> ((16 : Int32) &&& 31)) ((40 * x1) + x2) q40.2) else none) else fn8_lay_99 ((x3 <<< ((24 : Int32) &&& 31)) >>> ((24 : Int32) &&& 31)) ((40 * x1) + x2) q40.2) else none) else some ((-12), q40.2))) else none) else some ((-11), q6.2)) else none) else some ((-1), q6.2)))
set_option maxRecDepth 20000 in
theorem bk8_lay {M : MX} {G : GX} (C : BC M G shM 19 eM RX8 cX8_lay 4 (some .int) rm8_lay) {z : Int32 × Mem}   (x1 : Int32) (x2 : Int32) (x3 : Int32) {w : Mem} (h : fn8_lay  x1 x2 x3 w = some z) : BW M G shM 19 4 (ZR M G shM 19 (some .int) z) 0 [(0, .ref (gad G 0)), (1, .int x1), (2, .int x2), (3, .int x3)] [] w := by
  rw [fn8_lay] at h
  refine bw_iload_n C 1 dX8_lay_0 rfl rfl ?_
  refine bw_i2l C dX8_lay_1 rfl ?_
  refine bw_lconst C (v := 0) dX8_lay_2 (by decide) ?_
  refine bw_ldc2 C dX8_lay_3 clX8_217 ?_
  refine bw_callSi C (As := [.long ((x1 : Int32).toInt64), .long 0, .long 3]) miX8_in mlX8_69 smX8_in (by decide) rfl rfl (fun z1 h1 => mt8_in h1) rfl (Nat.le_of_ble_eq_true rfl) rfl dX8_lay_6 h (fun q6 _ h => ?_)
  refine bw_if_ne C (tgt := 14) dX8_lay_9 (by decide) h (fun h => ?_) (fun h => ?_)
  · refine bw_aload_n C 0 dX8_lay_14 rfl rfl ?_
    refine bw_getr C (j := 34) (t := 16) lM0 sM0 rfl inlX8 (by decide) rfl flX8_56 dX8_lay_15 ?_
    refine bw_iload_n C 1 dX8_lay_18 rfl rfl ?_
    refine bw_iald C lM16 sM16 dX8_lay_19 h (fun h => ?_)
    refine bw_bipush C (v := (-4)) dX8_lay_20 (by decide) ?_
    refine bw_icmp_ne C (tgt := 28) dX8_lay_22 (by decide) h (fun h => ?_) (fun h => ?_)
    · refine bw_iload_n C 2 dX8_lay_28 rfl rfl ?_
      refine bw_i2l C dX8_lay_29 rfl ?_
      refine bw_lconst C (v := 0) dX8_lay_30 (by decide) ?_
      refine bw_aload_n C 0 dX8_lay_31 rfl rfl ?_
      refine bw_getr C (j := 35) (t := 17) lM0 sM0 rfl inlX8 (by decide) rfl flX8_59 dX8_lay_32 ?_
      refine bw_iload_n C 1 dX8_lay_35 rfl rfl ?_
      refine bw_iald C lM17 sM17 dX8_lay_36 h (fun h => ?_)
      refine bw_iconst C (v := 1) dX8_lay_37 (by decide) ?_
      refine bw_isub C dX8_lay_38 ?_
      refine bw_i2l C dX8_lay_39 rfl ?_
      refine bw_callSi C (As := [.long ((x2 : Int32).toInt64), .long 0, .long ((((q6.2 17 x1.toNatClampNeg) - 1) : Int32).toInt64)]) miX8_in mlX8_69 smX8_in (by decide) rfl rfl (fun z1 h1 => mt8_in h1) rfl (Nat.le_of_ble_eq_true rfl) rfl dX8_lay_40 h (fun q40 _ h => ?_)
      refine bw_if_ne C (tgt := 49) dX8_lay_43 (by decide) h (fun h => ?_) (fun h => ?_)
      · refine bw_aload_n C 0 dX8_lay_49 rfl rfl ?_
        refine bw_getr C (j := 36) (t := 18) lM0 sM0 rfl inlX8 (by decide) rfl flX8_62 dX8_lay_50 ?_
        refine bw_bipush C (v := 40) dX8_lay_53 (by decide) ?_
        refine bw_iload_n C 1 dX8_lay_55 rfl rfl ?_
        refine bw_imul C dX8_lay_56 ?_
        refine bw_iload_n C 2 dX8_lay_57 rfl rfl ?_
        refine bw_iadd C dX8_lay_58 ?_
        refine bw_aload_n C 0 dX8_lay_59 rfl rfl ?_
        refine bw_getr C (j := 34) (t := 16) lM0 sM0 rfl inlX8 (by decide) rfl flX8_56 dX8_lay_60 ?_
        refine bw_iload_n C 1 dX8_lay_63 rfl rfl ?_
        refine bw_iald C lM16 sM16 dX8_lay_64 h (fun h => ?_)
        refine bw_if_ne C (tgt := 78) dX8_lay_65 (by decide) h (fun h => ?_) (fun h => ?_)
        · refine bw_aload_n C 0 dX8_lay_78 rfl rfl ?_
          refine bw_getr C (j := 34) (t := 16) lM0 sM0 rfl inlX8 (by decide) rfl flX8_56 dX8_lay_79 ?_
          refine bw_iload_n C 1 dX8_lay_82 rfl rfl ?_
          refine bw_iald C lM16 sM16 dX8_lay_83 h (fun h => ?_)
          refine bw_iconst C (v := 1) dX8_lay_84 (by decide) ?_
          refine bw_icmp_ne C (tgt := 98) dX8_lay_85 (by decide) h (fun h => ?_) (fun h => ?_)
          · refine bw_iload_n C 3 dX8_lay_98 rfl rfl ?_
            exact bw_sub [] rfl (bk8_lay_99 C x3 ((40 * x1) + x2) h)
          · refine bw_iload_n C 3 dX8_lay_88 rfl rfl ?_
            refine bw_bipush C (v := 16) dX8_lay_89 (by decide) ?_
            refine bw_ishl C dX8_lay_91 ?_
            refine bw_bipush C (v := 16) dX8_lay_92 (by decide) ?_
            refine bw_ishr C dX8_lay_94 ?_
            refine bw_goto C (tgt := 99) dX8_lay_95 (by decide) ?_
            exact bw_sub [] rfl (bk8_lay_99 C ((x3 <<< ((16 : Int32) &&& 31)) >>> ((16 : Int32) &&& 31)) ((40 * x1) + x2) h)
        · refine bw_iload_n C 3 dX8_lay_68 rfl rfl ?_
          refine bw_bipush C (v := 24) dX8_lay_69 (by decide) ?_
          refine bw_ishl C dX8_lay_71 ?_
          refine bw_bipush C (v := 24) dX8_lay_72 (by decide) ?_
          refine bw_ishr C dX8_lay_74 ?_
          refine bw_goto C (tgt := 99) dX8_lay_75 (by decide) ?_
          exact bw_sub [] rfl (bk8_lay_99 C ((x3 <<< ((24 : Int32) &&& 31)) >>> ((24 : Int32) &&& 31)) ((40 * x1) + x2) h)
      · refine bw_bipush C (v := (-12)) dX8_lay_46 (by decide) ?_
        exact bw_iret C dX8_lay_48 h
    · refine bw_bipush C (v := (-11)) dX8_lay_25 (by decide) ?_
      exact bw_iret C dX8_lay_27 h
  · refine bw_iconst C (v := (-1)) dX8_lay_12 (by decide) ?_
    exact bw_iret C dX8_lay_13 h
theorem mt8_lay {l : Launch} {G : GX}   {x1 : Int32} {x2 : Int32} {x3 : Int32} {w : Mem} {z : Int32 × Mem} (h : fn8_lay  x1 x2 x3 w = some z) : MC l G shM 19 eM yX8_lay cX8_lay 4 (some .int) rm8_lay [.ref (gad G 0), .int x1, .int x2, .int x3] w z := by
  refine met_of (by decide +kernel) (eM_ok _) rfl (Nat.le_of_ble_eq_true rfl) (fun M hM C => ?_)
  subst hM
  exact bk8_lay C  x1 x2 x3 h
def rm8_read : Room := { frames := 4, cells := 0, slots := 0, locals := 92 }
def fn8_read_126 (x1 : Int32) (x2 : Int32) (x3 : Int32) (x4 : Int32) (x6 : Int32) (x7 : Int32) (t0 : Int32) (kb : Int32 → Int32 → Int32 → Mem → Option (Int32 × Mem)) (w : Mem) : Option (Int32 × Mem) := (if ¬ t0 = 0 then kb t0 x6 (x7 + 1) w else (if 3 = 0 then none else (if ¬ (x7 - x7 / 3 * 3) = 2 then kb t0 x6 (x7 + 1) w else (if ib ((((40 * x1) + x3) + x7) - 2) 160 = true then (if ib ((((40 * x1) + x3) + x7) - 1) 160 = true then (if ib (((40 * x1) + x3) + x7) 160 = true then (fn8_speaks (w 18 ((((40 * x1) + x3) + x7) - 2).toNatClampNeg) (w 18 ((((40 * x1) + x3) + x7) - 1).toNatClampNeg) (w 18 (((40 * x1) + x3) + x7).toNatClampNeg) w).bind (fun q178 => (if 0 ≤ q178.1 then kb t0 (x6 + 1) (x7 + 1) q178.2 else (fn8_copies 171 0 q178.2).bind (fun q189 => some (((-20) - x6), q189.2)))) else none) else none) else none))))
set_option maxRecDepth 20000 in
theorem bk8_read_126 {M : MX} {G : GX} (C : BC M G shM 19 eM RX8 cX8_read 9 (some .int) rm8_read) {z : Int32 × Mem} (x1 : Int32) (x2 : Int32) (x3 : Int32) (x4 : Int32) (x6 : Int32) (x7 : Int32) (t0 : Int32) {kb : Int32 → Int32 → Int32 → Mem → Option (Int32 × Mem)} (hkb : ∀ (x5 : Int32) (x6 : Int32) (x7 : Int32) (w : Mem), kb x5 x6 x7 w = some z → BW M G shM 19 9 (ZR M G shM 19 (some .int) z) 56 [(0, .ref (gad G 0)), (1, .int x1), (2, .int x2), (3, .int x3), (4, .int x4), (5, .int x5), (6, .int x6), (7, .int x7)] [] w) {w : Mem} (h : fn8_read_126 x1 x2 x3 x4 x6 x7 t0 kb w = some z) : BW M G shM 19 9 (ZR M G shM 19 (some .int) z) 126 [(0, .ref (gad G 0)), (1, .int x1), (2, .int x2), (3, .int x3), (4, .int x4), (6, .int x6), (7, .int x7)] [.int t0] w := by
  rw [fn8_read_126] at h
  refine bw_istore C [(5, .int t0), (0, .ref (gad G 0)), (1, .int x1), (2, .int x2), (3, .int x3), (4, .int x4), (6, .int x6), (7, .int x7)] dX8_read_126 (by decide) rfl ?_
  refine bw_iload C 0 dX8_read_128 rfl ?_
  refine bw_if_ne C (tgt := 201) dX8_read_130 (by decide) h (fun h => ?_) (fun h => ?_)
  · refine bw_iinc C [(7, .int (x7 + 1)), (5, .int t0), (0, .ref (gad G 0)), (1, .int x1), (2, .int x2), (3, .int x3), (4, .int x4), (6, .int x6)] 7 dX8_read_201 rfl rfl (by decide) rfl ?_
    refine bw_goto C (tgt := 56) dX8_read_204 (by decide) ?_
    exact bw_sub [2, 3, 4, 5, 6, 1, 7, 0] rfl (hkb t0 x6 (x7 + 1) w h)
  · refine bw_iload C 7 dX8_read_133 rfl ?_
    refine bw_iconst C (v := 3) dX8_read_135 (by decide) ?_
    refine bw_irem C dX8_read_136 h (fun h => ?_)
    refine bw_iconst C (v := 2) dX8_read_137 (by decide) ?_
    refine bw_icmp_ne C (tgt := 201) dX8_read_138 (by decide) h (fun h => ?_) (fun h => ?_)
    · refine bw_iinc C [(7, .int (x7 + 1)), (5, .int t0), (0, .ref (gad G 0)), (1, .int x1), (2, .int x2), (3, .int x3), (4, .int x4), (6, .int x6)] 7 dX8_read_201 rfl rfl (by decide) rfl ?_
      refine bw_goto C (tgt := 56) dX8_read_204 (by decide) ?_
      exact bw_sub [2, 3, 4, 5, 6, 1, 7, 0] rfl (hkb t0 x6 (x7 + 1) w h)
    · refine bw_bipush C (v := 40) dX8_read_141 (by decide) ?_
      refine bw_iload_n C 2 dX8_read_143 rfl rfl ?_
      refine bw_imul C dX8_read_144 ?_
      refine bw_iload_n C 4 dX8_read_145 rfl rfl ?_
      refine bw_iadd C dX8_read_146 ?_
      refine bw_iload C 7 dX8_read_147 rfl ?_
      refine bw_iadd C dX8_read_149 ?_
      refine bw_istore C [(8, .int (((40 * x1) + x3) + x7)), (5, .int t0), (0, .ref (gad G 0)), (1, .int x1), (2, .int x2), (3, .int x3), (4, .int x4), (6, .int x6), (7, .int x7)] dX8_read_150 (by decide) rfl ?_
      refine bw_aload_n C 2 dX8_read_152 rfl rfl ?_
      refine bw_aload_n C 2 dX8_read_153 rfl rfl ?_
      refine bw_getr C (j := 36) (t := 18) lM0 sM0 rfl inlX8 (by decide) rfl flX8_62 dX8_read_154 ?_
      refine bw_iload C 0 dX8_read_157 rfl ?_
      refine bw_iconst C (v := 2) dX8_read_159 (by decide) ?_
      refine bw_isub C dX8_read_160 ?_
      refine bw_iald C lM18 sM18 dX8_read_161 h (fun h => ?_)
      refine bw_aload_n C 2 dX8_read_162 rfl rfl ?_
      refine bw_getr C (j := 36) (t := 18) lM0 sM0 rfl inlX8 (by decide) rfl flX8_62 dX8_read_163 ?_
      refine bw_iload C 0 dX8_read_166 rfl ?_
      refine bw_iconst C (v := 1) dX8_read_168 (by decide) ?_
      refine bw_isub C dX8_read_169 ?_
      refine bw_iald C lM18 sM18 dX8_read_170 h (fun h => ?_)
      refine bw_aload_n C 2 dX8_read_171 rfl rfl ?_
      refine bw_getr C (j := 36) (t := 18) lM0 sM0 rfl inlX8 (by decide) rfl flX8_62 dX8_read_172 ?_
      refine bw_iload C 0 dX8_read_175 rfl ?_
      refine bw_iald C lM18 sM18 dX8_read_177 h (fun h => ?_)
      refine bw_callVi C (As := [.int (w 18 ((((40 * x1) + x3) + x7) - 2).toNatClampNeg), .int (w 18 ((((40 * x1) + x3) + x7) - 1).toNatClampNeg), .int (w 18 (((40 * x1) + x3) + x7).toNatClampNeg)]) lM0 sM0 rfl miX8_speaks mlX8_230 imX8_speaks seX8_speaks (by decide) rfl rfl (fun z1 h1 => mt8_speaks h1) rfl (Nat.le_of_ble_eq_true rfl) rfl dX8_read_178 h (fun q178 _ h => ?_)
      refine bw_if_ge C (tgt := 198) dX8_read_181 (by decide) h (fun h => ?_) (fun h => ?_)
      · refine bw_iinc C [(6, .int (x6 + 1)), (8, .int (((40 * x1) + x3) + x7)), (5, .int t0), (0, .ref (gad G 0)), (1, .int x1), (2, .int x2), (3, .int x3), (4, .int x4), (7, .int x7)] 7 dX8_read_198 rfl rfl (by decide) rfl ?_
        refine bw_iinc C [(7, .int (x7 + 1)), (6, .int (x6 + 1)), (8, .int (((40 * x1) + x3) + x7)), (5, .int t0), (0, .ref (gad G 0)), (1, .int x1), (2, .int x2), (3, .int x3), (4, .int x4)] 8 dX8_read_201 rfl rfl (by decide) rfl ?_
        refine bw_goto C (tgt := 56) dX8_read_204 (by decide) ?_
        exact bw_sub [4, 5, 6, 7, 8, 3, 1, 0] rfl (hkb t0 (x6 + 1) (x7 + 1) q178.2 h)
      · refine bw_aload_n C 2 dX8_read_184 rfl rfl ?_
        refine bw_sipush C (v := 171) dX8_read_185 (by decide) ?_
        refine bw_iconst C (v := 0) dX8_read_188 (by decide) ?_
        refine bw_callVv C (As := [.int 171, .int 0]) lM0 sM0 rfl miX8_copies mlX8_274 imX8_copies seX8_copies (by decide) rfl rfl (fun z1 h1 => mt8_copies h1) rfl (Nat.le_of_ble_eq_true rfl) rfl dX8_read_189 h (fun q189 _ h => ?_)
        refine bw_bipush C (v := (-20)) dX8_read_192 (by decide) ?_
        refine bw_iload C 7 dX8_read_194 rfl ?_
        refine bw_isub C dX8_read_196 ?_
        exact bw_iret C dX8_read_197 h
def fn8_read_56 (x1 : Int32) (x2 : Int32) (x3 : Int32) (x4 : Int32) (k : Int32 → Int32 → Int32 → Mem → Option (Int32 × Mem)) : Nat → Int32 → Int32 → Int32 → Mem → Option (Int32 × Mem)
  | 0, _, _, _, _ => none
  | nn + 1, x5, x6, x7, w => (if (3 * x4) ≤ x7 then k x5 x6 x7 w else (if ¬ x5 = 0 then k x5 x6 x7 w else (if ib x1 4 = true then (if ¬ (w 16 x1.toNatClampNeg) = (-4) then (if ib x1 4 = true then (if (w 16 x1.toNatClampNeg) = x2 then (if ib x1 4 = true then (fn8_in (((x3 : Int32).toInt64) + ((x7 : Int32).toInt64)) 0 ((((w 17 x1.toNatClampNeg) - 1) : Int32).toInt64) w).bind (fun q115 => (if ¬ q115.1 = 0 then fn8_read_126 x1 x2 x3 x4 x6 x7 0 (fn8_read_56 x1 x2 x3 x4 k nn) q115.2 else fn8_read_126 x1 x2 x3 x4 x6 x7 2 (fn8_read_56 x1 x2 x3 x4 k nn) q115.2)) else none) else fn8_read_126 x1 x2 x3 x4 x6 x7 3 (fn8_read_56 x1 x2 x3 x4 k nn) w) else none) else fn8_read_126 x1 x2 x3 x4 x6 x7 1 (fn8_read_56 x1 x2 x3 x4 k nn) w) else none)))
set_option maxRecDepth 20000 in
theorem bk8_read_56 {M : MX} {G : GX} (C : BC M G shM 19 eM RX8 cX8_read 9 (some .int) rm8_read) {z : Int32 × Mem} (x1 : Int32) (x2 : Int32) (x3 : Int32) (x4 : Int32) {k : Int32 → Int32 → Int32 → Mem → Option (Int32 × Mem)} (hk : ∀ (x5 : Int32) (x6 : Int32) (x7 : Int32) (w : Mem), k x5 x6 x7 w = some z → BW M G shM 19 9 (ZR M G shM 19 (some .int) z) 207 [(0, .ref (gad G 0)), (5, .int x5), (6, .int x6)] [] w) : ∀ (nn : Nat) (x5 : Int32) (x6 : Int32) (x7 : Int32) (w : Mem), fn8_read_56 x1 x2 x3 x4 k nn x5 x6 x7 w = some z → BW M G shM 19 9 (ZR M G shM 19 (some .int) z) 56 [(0, .ref (gad G 0)), (1, .int x1), (2, .int x2), (3, .int x3), (4, .int x4), (5, .int x5), (6, .int x6), (7, .int x7)] [] w := by
  intro nn
  induction nn with
  | zero =>
    intro x5 x6 x7 w h
    have h : (none : Option (Int32 × Mem)) = some z := h
    cases h
  | succ nn ih =>
    intro x5 x6 x7 w h
    rw [fn8_read_56] at h
    refine bw_iload C 7 dX8_read_56 rfl ?_
    refine bw_iconst C (v := 3) dX8_read_58 (by decide) ?_
    refine bw_iload C 4 dX8_read_59 rfl ?_
    refine bw_imul C dX8_read_61 ?_
    refine bw_icmp_ge C (tgt := 207) dX8_read_62 (by decide) h (fun h => ?_) (fun h => ?_)
    · exact bw_sub [0, 5, 6] rfl (hk x5 x6 x7 w h)
    · refine bw_iload C 5 dX8_read_65 rfl ?_
      refine bw_if_ne C (tgt := 207) dX8_read_67 (by decide) h (fun h => ?_) (fun h => ?_)
      · exact bw_sub [0, 5, 6] rfl (hk x5 x6 x7 w h)
      · refine bw_aload_n C 0 dX8_read_70 rfl rfl ?_
        refine bw_getr C (j := 34) (t := 16) lM0 sM0 rfl inlX8 (by decide) rfl flX8_56 dX8_read_71 ?_
        refine bw_iload_n C 1 dX8_read_74 rfl rfl ?_
        refine bw_iald C lM16 sM16 dX8_read_75 h (fun h => ?_)
        refine bw_bipush C (v := (-4)) dX8_read_76 (by decide) ?_
        refine bw_icmp_ne C (tgt := 85) dX8_read_78 (by decide) h (fun h => ?_) (fun h => ?_)
        · refine bw_aload_n C 0 dX8_read_85 rfl rfl ?_
          refine bw_getr C (j := 34) (t := 16) lM0 sM0 rfl inlX8 (by decide) rfl flX8_56 dX8_read_86 ?_
          refine bw_iload_n C 1 dX8_read_89 rfl rfl ?_
          refine bw_iald C lM16 sM16 dX8_read_90 h (fun h => ?_)
          refine bw_iload_n C 2 dX8_read_91 rfl rfl ?_
          refine bw_icmp_eq C (tgt := 99) dX8_read_92 (by decide) h (fun h => ?_) (fun h => ?_)
          · refine bw_iload_n C 3 dX8_read_99 rfl rfl ?_
            refine bw_i2l C dX8_read_100 rfl ?_
            refine bw_iload C 7 dX8_read_101 rfl ?_
            refine bw_i2l C dX8_read_103 rfl ?_
            refine bw_ladd C dX8_read_104 ?_
            refine bw_lconst C (v := 0) dX8_read_105 (by decide) ?_
            refine bw_aload_n C 0 dX8_read_106 rfl rfl ?_
            refine bw_getr C (j := 35) (t := 17) lM0 sM0 rfl inlX8 (by decide) rfl flX8_59 dX8_read_107 ?_
            refine bw_iload_n C 1 dX8_read_110 rfl rfl ?_
            refine bw_iald C lM17 sM17 dX8_read_111 h (fun h => ?_)
            refine bw_iconst C (v := 1) dX8_read_112 (by decide) ?_
            refine bw_isub C dX8_read_113 ?_
            refine bw_i2l C dX8_read_114 rfl ?_
            refine bw_callSi C (As := [.long (((x3 : Int32).toInt64) + ((x7 : Int32).toInt64)), .long 0, .long ((((w 17 x1.toNatClampNeg) - 1) : Int32).toInt64)]) miX8_in mlX8_69 smX8_in (by decide) rfl rfl (fun z1 h1 => mt8_in h1) rfl (Nat.le_of_ble_eq_true rfl) rfl dX8_read_115 h (fun q115 _ h => ?_)
            refine bw_if_ne C (tgt := 125) dX8_read_118 (by decide) h (fun h => ?_) (fun h => ?_)
            · refine bw_iconst C (v := 0) dX8_read_125 (by decide) ?_
              exact bw_sub [0, 1, 2, 3, 4, 6, 7] rfl (bk8_read_126 C x1 x2 x3 x4 x6 x7 0 ih h)
            · refine bw_iconst C (v := 2) dX8_read_121 (by decide) ?_
              refine bw_goto C (tgt := 126) dX8_read_122 (by decide) ?_
              exact bw_sub [0, 1, 2, 3, 4, 6, 7] rfl (bk8_read_126 C x1 x2 x3 x4 x6 x7 2 ih h)
          · refine bw_iconst C (v := 3) dX8_read_95 (by decide) ?_
            refine bw_goto C (tgt := 126) dX8_read_96 (by decide) ?_
            exact bw_sub [0, 1, 2, 3, 4, 6, 7] rfl (bk8_read_126 C x1 x2 x3 x4 x6 x7 3 ih h)
        · refine bw_iconst C (v := 1) dX8_read_81 (by decide) ?_
          refine bw_goto C (tgt := 126) dX8_read_82 (by decide) ?_
          exact bw_sub [0, 1, 2, 3, 4, 6, 7] rfl (bk8_read_126 C x1 x2 x3 x4 x6 x7 1 ih h)
def fn8_read_207 (x5 : Int32) (x6 : Int32) (w : Mem) : Option (Int32 × Mem) := some (x6, (up2 w 0 37 x5))
set_option maxRecDepth 20000 in
theorem bk8_read_207 {M : MX} {G : GX} (C : BC M G shM 19 eM RX8 cX8_read 9 (some .int) rm8_read) {z : Int32 × Mem} (x5 : Int32) (x6 : Int32) {w : Mem} (h : fn8_read_207 x5 x6 w = some z) : BW M G shM 19 9 (ZR M G shM 19 (some .int) z) 207 [(0, .ref (gad G 0)), (5, .int x5), (6, .int x6)] [] w := by
  rw [fn8_read_207] at h
  refine bw_aload_n C 0 dX8_read_207 rfl rfl ?_
  refine bw_iload C 1 dX8_read_208 rfl ?_
  refine bw_puti C (j := 37) (ty := .int) lM0 sM0 rfl inlX8 (by decide) tyX8 tyX8_ok nmX8 rfl flX8_280 rfl (by decide +kernel) rfl rfl dX8_read_210 ?_
  refine bw_iload C 2 dX8_read_213 rfl ?_
  exact bw_iret C dX8_read_215 h
def fn8_read  (x1 : Int32) (x2 : Int32) (x3 : Int32) (x4 : Int32) (w : Mem) : Option (Int32 × Mem) := (fn8_in ((x1 : Int32).toInt64) 0 3 w).bind (fun q6 => (if q6.1 = 0 then some ((-1), q6.2) else (fn8_in ((x2 : Int32).toInt64) 0 2 q6.2).bind (fun q18 => (if q18.1 = 0 then some ((-1), q18.2) else (fn8_in ((x4 : Int32).toInt64) 0 13 q18.2).bind (fun q31 => (if ¬ q31.1 = 0 then (fn8_copies 0 171 q31.2).bind (fun q44 => fn8_read_56 x1 x2 x3 x4 (fun x5_56 x6_56 x7_56 w_56 => fn8_read_207 x5_56 x6_56 w_56) 1000 0 0 0 q44.2) else some ((-1), q31.2)))))))
set_option maxRecDepth 20000 in
theorem bk8_read {M : MX} {G : GX} (C : BC M G shM 19 eM RX8 cX8_read 9 (some .int) rm8_read) {z : Int32 × Mem}   (x1 : Int32) (x2 : Int32) (x3 : Int32) (x4 : Int32) {w : Mem} (h : fn8_read  x1 x2 x3 x4 w = some z) : BW M G shM 19 9 (ZR M G shM 19 (some .int) z) 0 [(0, .ref (gad G 0)), (1, .int x1), (2, .int x2), (3, .int x3), (4, .int x4)] [] w := by
  rw [fn8_read] at h
  refine bw_iload_n C 1 dX8_read_0 rfl rfl ?_
  refine bw_i2l C dX8_read_1 rfl ?_
  refine bw_lconst C (v := 0) dX8_read_2 (by decide) ?_
  refine bw_ldc2 C dX8_read_3 clX8_217 ?_
  refine bw_callSi C (As := [.long ((x1 : Int32).toInt64), .long 0, .long 3]) miX8_in mlX8_69 smX8_in (by decide) rfl rfl (fun z1 h1 => mt8_in h1) rfl (Nat.le_of_ble_eq_true rfl) rfl dX8_read_6 h (fun q6 _ h => ?_)
  refine bw_if_eq C (tgt := 37) dX8_read_9 (by decide) h (fun h => ?_) (fun h => ?_)
  · refine bw_iconst C (v := (-1)) dX8_read_37 (by decide) ?_
    exact bw_iret C dX8_read_38 h
  · refine bw_iload_n C 2 dX8_read_12 rfl rfl ?_
    refine bw_i2l C dX8_read_13 rfl ?_
    refine bw_lconst C (v := 0) dX8_read_14 (by decide) ?_
    refine bw_ldc2 C dX8_read_15 clX8_186 ?_
    refine bw_callSi C (As := [.long ((x2 : Int32).toInt64), .long 0, .long 2]) miX8_in mlX8_69 smX8_in (by decide) rfl rfl (fun z1 h1 => mt8_in h1) rfl (Nat.le_of_ble_eq_true rfl) rfl dX8_read_18 h (fun q18 _ h => ?_)
    refine bw_if_eq C (tgt := 37) dX8_read_21 (by decide) h (fun h => ?_) (fun h => ?_)
    · refine bw_iconst C (v := (-1)) dX8_read_37 (by decide) ?_
      exact bw_iret C dX8_read_38 h
    · refine bw_iload C 4 dX8_read_24 rfl ?_
      refine bw_i2l C dX8_read_26 rfl ?_
      refine bw_lconst C (v := 0) dX8_read_27 (by decide) ?_
      refine bw_ldc2 C dX8_read_28 clX8_278 ?_
      refine bw_callSi C (As := [.long ((x4 : Int32).toInt64), .long 0, .long 13]) miX8_in mlX8_69 smX8_in (by decide) rfl rfl (fun z1 h1 => mt8_in h1) rfl (Nat.le_of_ble_eq_true rfl) rfl dX8_read_31 h (fun q31 _ h => ?_)
      refine bw_if_ne C (tgt := 39) dX8_read_34 (by decide) h (fun h => ?_) (fun h => ?_)
      · refine bw_aload_n C 0 dX8_read_39 rfl rfl ?_
        refine bw_iconst C (v := 0) dX8_read_40 (by decide) ?_
        refine bw_sipush C (v := 171) dX8_read_41 (by decide) ?_
        refine bw_callVv C (As := [.int 0, .int 171]) lM0 sM0 rfl miX8_copies mlX8_274 imX8_copies seX8_copies (by decide) rfl rfl (fun z1 h1 => mt8_copies h1) rfl (Nat.le_of_ble_eq_true rfl) rfl dX8_read_44 h (fun q44 _ h => ?_)
        refine bw_iconst C (v := 0) dX8_read_47 (by decide) ?_
        refine bw_istore C [(5, .int 0), (0, .ref (gad G 0)), (1, .int x1), (2, .int x2), (3, .int x3), (4, .int x4)] dX8_read_48 (by decide) rfl ?_
        refine bw_iconst C (v := 0) dX8_read_50 (by decide) ?_
        refine bw_istore C [(6, .int 0), (5, .int 0), (0, .ref (gad G 0)), (1, .int x1), (2, .int x2), (3, .int x3), (4, .int x4)] dX8_read_51 (by decide) rfl ?_
        refine bw_iconst C (v := 0) dX8_read_53 (by decide) ?_
        refine bw_istore C [(7, .int 0), (6, .int 0), (5, .int 0), (0, .ref (gad G 0)), (1, .int x1), (2, .int x2), (3, .int x3), (4, .int x4)] dX8_read_54 (by decide) rfl ?_
        refine bw_sub [3, 4, 5, 6, 7, 2, 1, 0] rfl (bk8_read_56 C x1 x2 x3 x4 (fun x5_56 x6_56 x7_56 w_56 h => ?_) 1000 0 0 0 q44.2 h)
        exact bw_sub [0, 1, 2] rfl (bk8_read_207 C x5_56 x6_56 h)
      · refine bw_iconst C (v := (-1)) dX8_read_37 (by decide) ?_
        exact bw_iret C dX8_read_38 h
theorem mt8_read {l : Launch} {G : GX}   {x1 : Int32} {x2 : Int32} {x3 : Int32} {x4 : Int32} {w : Mem} {z : Int32 × Mem} (h : fn8_read  x1 x2 x3 x4 w = some z) : MC l G shM 19 eM yX8_read cX8_read 9 (some .int) rm8_read [.ref (gad G 0), .int x1, .int x2, .int x3, .int x4] w z := by
  refine met_of (by decide +kernel) (eM_ok _) rfl (Nat.le_of_ble_eq_true rfl) (fun M hM C => ?_)
  subst hM
  exact bk8_read C  x1 x2 x3 x4 h
def rm8_torn : Room := { frames := 0, cells := 0, slots := 0, locals := 0 }
def fn8_torn   (w : Mem) : Option (Int32 × Mem) := some ((w 0 37), w)
set_option maxRecDepth 20000 in
theorem bk8_torn {M : MX} {G : GX} (C : BC M G shM 19 eM RX8 cX8_torn 1 (some .int) rm8_torn) {z : Int32 × Mem}    {w : Mem} (h : fn8_torn   w = some z) : BW M G shM 19 1 (ZR M G shM 19 (some .int) z) 0 [(0, .ref (gad G 0))] [] w := by
  rw [fn8_torn] at h
  refine bw_aload_n C 0 dX8_torn_0 rfl rfl ?_
  refine bw_geti C (j := 37) lM0 sM0 rfl inlX8 (by decide) rfl flX8_280 dX8_torn_1 ?_
  exact bw_iret C dX8_torn_4 h
theorem mt8_torn {l : Launch} {G : GX}    {w : Mem} {z : Int32 × Mem} (h : fn8_torn   w = some z) : MC l G shM 19 eM yX8_torn cX8_torn 1 (some .int) rm8_torn [.ref (gad G 0)] w z := by
  refine met_of (by decide +kernel) (eM_ok _) rfl (Nat.le_of_ble_eq_true rfl) (fun M hM C => ?_)
  subst hM
  exact bk8_torn C   h
def rm8_count : Room := { frames := 2, cells := 0, slots := 0, locals := 43 }
def fn8_count_4 (x1 : Int32) (k : Int32 → Int32 → Mem → Option (Int32 × Mem)) : Nat → Int32 → Int32 → Mem → Option (Int32 × Mem)
  | 0, _, _, _ => none
  | nn + 1, x2, x3, w => (if (w 0 3) ≤ x3 then k x2 x3 w else (fn8_isSpent x3 w).bind (fun q15 => (if q15.1 = 0 then fn8_count_4 x1 k nn (x2 + 0) (x3 + 1) q15.2 else fn8_count_4 x1 k nn (x2 + 1) (x3 + 1) q15.2)))
set_option maxRecDepth 20000 in
theorem bk8_count_4 {M : MX} {G : GX} (C : BC M G shM 19 eM RX8 cX8_count 4 (some .int) rm8_count) {z : Int32 × Mem} (x1 : Int32) {k : Int32 → Int32 → Mem → Option (Int32 × Mem)} (hk : ∀ (x2 : Int32) (x3 : Int32) (w : Mem), k x2 x3 w = some z → BW M G shM 19 4 (ZR M G shM 19 (some .int) z) 34 [(0, .ref (gad G 0)), (1, .int x1), (2, .int x2)] [] w) : ∀ (nn : Nat) (x2 : Int32) (x3 : Int32) (w : Mem), fn8_count_4 x1 k nn x2 x3 w = some z → BW M G shM 19 4 (ZR M G shM 19 (some .int) z) 4 [(0, .ref (gad G 0)), (1, .int x1), (2, .int x2), (3, .int x3)] [] w := by
  intro nn
  induction nn with
  | zero =>
    intro x2 x3 w h
    have h : (none : Option (Int32 × Mem)) = some z := h
    cases h
  | succ nn ih =>
    intro x2 x3 w h
    rw [fn8_count_4] at h
    refine bw_iload_n C 3 dX8_count_4 rfl rfl ?_
    refine bw_aload_n C 0 dX8_count_5 rfl rfl ?_
    refine bw_geti C (j := 3) lM0 sM0 rfl inlX8 (by decide) rfl flX8_169 dX8_count_6 ?_
    refine bw_icmp_ge C (tgt := 34) dX8_count_9 (by decide) h (fun h => ?_) (fun h => ?_)
    · exact bw_sub [0, 1, 2] rfl (hk x2 x3 w h)
    · refine bw_iload_n C 2 dX8_count_12 rfl rfl ?_
      refine bw_aload_n C 0 dX8_count_13 rfl rfl ?_
      refine bw_iload_n C 3 dX8_count_14 rfl rfl ?_
      refine bw_callVi C (As := [.int x3]) lM0 sM0 rfl miX8_isSpent mlX8_203 imX8_isSpent seX8_isSpent (by decide) rfl rfl (fun z1 h1 => mt8_isSpent h1) rfl (Nat.le_of_ble_eq_true rfl) rfl dX8_count_15 h (fun q15 _ h => ?_)
      refine bw_if_eq C (tgt := 25) dX8_count_18 (by decide) h (fun h => ?_) (fun h => ?_)
      · refine bw_iconst C (v := 0) dX8_count_25 (by decide) ?_
        refine bw_iadd C dX8_count_26 ?_
        refine bw_istore_n C [(2, .int (x2 + 0)), (0, .ref (gad G 0)), (1, .int x1), (3, .int x3)] dX8_count_27 rfl (by decide) rfl ?_
        refine bw_iinc C [(3, .int (x3 + 1)), (2, .int (x2 + 0)), (0, .ref (gad G 0)), (1, .int x1)] 3 dX8_count_28 rfl rfl (by decide) rfl ?_
        refine bw_goto C (tgt := 4) dX8_count_31 (by decide) ?_
        exact bw_sub [2, 3, 1, 0] rfl (ih (x2 + 0) (x3 + 1) q15.2 h)
      · refine bw_iconst C (v := 1) dX8_count_21 (by decide) ?_
        refine bw_goto C (tgt := 26) dX8_count_22 (by decide) ?_
        refine bw_iadd C dX8_count_26 ?_
        refine bw_istore_n C [(2, .int (x2 + 1)), (0, .ref (gad G 0)), (1, .int x1), (3, .int x3)] dX8_count_27 rfl (by decide) rfl ?_
        refine bw_iinc C [(3, .int (x3 + 1)), (2, .int (x2 + 1)), (0, .ref (gad G 0)), (1, .int x1)] 3 dX8_count_28 rfl rfl (by decide) rfl ?_
        refine bw_goto C (tgt := 4) dX8_count_31 (by decide) ?_
        exact bw_sub [2, 3, 1, 0] rfl (ih (x2 + 1) (x3 + 1) q15.2 h)
def fn8_count_102 (t0 : Int32) (w : Mem) : Option (Int32 × Mem) := (if ib 1 2 = true then (if (w 15 (1 : Int32).toNatClampNeg) = 0 then some ((t0 + 0), w) else some ((t0 + 1), w)) else none)
set_option maxRecDepth 20000 in
theorem bk8_count_102 {M : MX} {G : GX} (C : BC M G shM 19 eM RX8 cX8_count 4 (some .int) rm8_count) {z : Int32 × Mem} (t0 : Int32) {w : Mem} (h : fn8_count_102 t0 w = some z) : BW M G shM 19 4 (ZR M G shM 19 (some .int) z) 102 [(0, .ref (gad G 0))] [.int t0] w := by
  rw [fn8_count_102] at h
  refine bw_aload_n C 0 dX8_count_102 rfl rfl ?_
  refine bw_getr C (j := 33) (t := 15) lM0 sM0 rfl inlX8 (by decide) rfl flX8_52 dX8_count_103 ?_
  refine bw_iconst C (v := 1) dX8_count_106 (by decide) ?_
  refine bw_zald C lM15 sM15 dX8_count_107 h (fun h => ?_)
  refine bw_if_eq C (tgt := 115) dX8_count_108 (by decide) h (fun h => ?_) (fun h => ?_)
  · refine bw_iconst C (v := 0) dX8_count_115 (by decide) ?_
    refine bw_iadd C dX8_count_116 ?_
    exact bw_iret C dX8_count_117 h
  · refine bw_iconst C (v := 1) dX8_count_111 (by decide) ?_
    refine bw_goto C (tgt := 116) dX8_count_112 (by decide) ?_
    refine bw_iadd C dX8_count_116 ?_
    exact bw_iret C dX8_count_117 h
def fn8_count  (x1 : Int32) (w : Mem) : Option (Int32 × Mem) := fn8_count_4 x1 (fun x2_4 x3_4 w_4 => (if x1 = 0 then some (x2_4, w_4) else (if x1 = 1 then some ((w_4 0 26), w_4) else (if x1 = 2 then some ((w_4 0 31), w_4) else (if x1 = 3 then (if ib 0 2 = true then (if (w_4 15 (0 : Int32).toNatClampNeg) = 0 then fn8_count_102 0 w_4 else fn8_count_102 1 w_4) else none) else (if x1 = 4 then some ((w_4 0 14), w_4) else (if x1 = 5 then (if ib 0 4 = true then (if ¬ (w_4 16 (0 : Int32).toNatClampNeg) = (-4) then (if ib 0 4 = true then some ((w_4 17 (0 : Int32).toNatClampNeg), w_4) else none) else some ((-4), w_4)) else none) else (if x1 = 6 then (fn8_unspent w_4).bind (fun q147 => some (q147.1, q147.2)) else some ((-1), w_4))))))))) 1000 0 0 w
set_option maxRecDepth 20000 in
theorem bk8_count {M : MX} {G : GX} (C : BC M G shM 19 eM RX8 cX8_count 4 (some .int) rm8_count) {z : Int32 × Mem}   (x1 : Int32) {w : Mem} (h : fn8_count  x1 w = some z) : BW M G shM 19 4 (ZR M G shM 19 (some .int) z) 0 [(0, .ref (gad G 0)), (1, .int x1)] [] w := by
  rw [fn8_count] at h
  refine bw_iconst C (v := 0) dX8_count_0 (by decide) ?_
  refine bw_istore_n C [(2, .int 0), (0, .ref (gad G 0)), (1, .int x1)] dX8_count_1 rfl (by decide) rfl ?_
  refine bw_iconst C (v := 0) dX8_count_2 (by decide) ?_
  refine bw_istore_n C [(3, .int 0), (2, .int 0), (0, .ref (gad G 0)), (1, .int x1)] dX8_count_3 rfl (by decide) rfl ?_
  refine bw_sub [2, 3, 1, 0] rfl (bk8_count_4 C x1 (fun x2_4 x3_4 w_4 h => ?_) 1000 0 0 w h)
  refine bw_iload_n C 1 dX8_count_34 rfl rfl ?_
  refine bw_case h (fun hx h => ?_) (fun hn0 h => ?_)
  · refine bw_tsIn C (tgt := 76) (v := 0) dX8_count_35 hx (by decide) (by decide) rfl (by decide) ?_
    refine bw_iload_n C 2 dX8_count_76 rfl rfl ?_
    exact bw_iret C dX8_count_77 h
  · refine bw_case h (fun hx h => ?_) (fun hn1 h => ?_)
    · refine bw_tsIn C (tgt := 78) (v := 1) dX8_count_35 hx (by decide) (by decide) rfl (by decide) ?_
      refine bw_aload_n C 0 dX8_count_78 rfl rfl ?_
      refine bw_geti C (j := 26) lM0 sM0 rfl inlX8 (by decide) rfl flX8_172 dX8_count_79 ?_
      exact bw_iret C dX8_count_82 h
    · refine bw_case h (fun hx h => ?_) (fun hn2 h => ?_)
      · refine bw_tsIn C (tgt := 83) (v := 2) dX8_count_35 hx (by decide) (by decide) rfl (by decide) ?_
        refine bw_aload_n C 0 dX8_count_83 rfl rfl ?_
        refine bw_geti C (j := 31) lM0 sM0 rfl inlX8 (by decide) rfl flX8_175 dX8_count_84 ?_
        exact bw_iret C dX8_count_87 h
      · refine bw_case h (fun hx h => ?_) (fun hn3 h => ?_)
        · refine bw_tsIn C (tgt := 88) (v := 3) dX8_count_35 hx (by decide) (by decide) rfl (by decide) ?_
          refine bw_aload_n C 0 dX8_count_88 rfl rfl ?_
          refine bw_getr C (j := 33) (t := 15) lM0 sM0 rfl inlX8 (by decide) rfl flX8_52 dX8_count_89 ?_
          refine bw_iconst C (v := 0) dX8_count_92 (by decide) ?_
          refine bw_zald C lM15 sM15 dX8_count_93 h (fun h => ?_)
          refine bw_if_eq C (tgt := 101) dX8_count_94 (by decide) h (fun h => ?_) (fun h => ?_)
          · refine bw_iconst C (v := 0) dX8_count_101 (by decide) ?_
            exact bw_sub [0] rfl (bk8_count_102 C 0 h)
          · refine bw_iconst C (v := 1) dX8_count_97 (by decide) ?_
            refine bw_goto C (tgt := 102) dX8_count_98 (by decide) ?_
            exact bw_sub [0] rfl (bk8_count_102 C 1 h)
        · refine bw_case h (fun hx h => ?_) (fun hn4 h => ?_)
          · refine bw_tsIn C (tgt := 118) (v := 4) dX8_count_35 hx (by decide) (by decide) rfl (by decide) ?_
            refine bw_aload_n C 0 dX8_count_118 rfl rfl ?_
            refine bw_geti C (j := 14) lM0 sM0 rfl inlX8 (by decide) rfl flX8_65 dX8_count_119 ?_
            exact bw_iret C dX8_count_122 h
          · refine bw_case h (fun hx h => ?_) (fun hn5 h => ?_)
            · refine bw_tsIn C (tgt := 123) (v := 5) dX8_count_35 hx (by decide) (by decide) rfl (by decide) ?_
              refine bw_aload_n C 0 dX8_count_123 rfl rfl ?_
              refine bw_getr C (j := 34) (t := 16) lM0 sM0 rfl inlX8 (by decide) rfl flX8_56 dX8_count_124 ?_
              refine bw_iconst C (v := 0) dX8_count_127 (by decide) ?_
              refine bw_iald C lM16 sM16 dX8_count_128 h (fun h => ?_)
              refine bw_bipush C (v := (-4)) dX8_count_129 (by decide) ?_
              refine bw_icmp_ne C (tgt := 139) dX8_count_131 (by decide) h (fun h => ?_) (fun h => ?_)
              · refine bw_aload_n C 0 dX8_count_139 rfl rfl ?_
                refine bw_getr C (j := 35) (t := 17) lM0 sM0 rfl inlX8 (by decide) rfl flX8_59 dX8_count_140 ?_
                refine bw_iconst C (v := 0) dX8_count_143 (by decide) ?_
                refine bw_iald C lM17 sM17 dX8_count_144 h (fun h => ?_)
                exact bw_iret C dX8_count_145 h
              · refine bw_bipush C (v := (-4)) dX8_count_134 (by decide) ?_
                refine bw_goto C (tgt := 145) dX8_count_136 (by decide) ?_
                exact bw_iret C dX8_count_145 h
            · refine bw_case h (fun hx h => ?_) (fun hn6 h => ?_)
              · refine bw_tsIn C (tgt := 146) (v := 6) dX8_count_35 hx (by decide) (by decide) rfl (by decide) ?_
                refine bw_aload_n C 0 dX8_count_146 rfl rfl ?_
                refine bw_callVi C (As := []) lM0 sM0 rfl miX8_unspent mlX8_251 imX8_unspent seX8_unspent (by decide) rfl rfl (fun z1 h1 => mt8_unspent h1) rfl (Nat.le_of_ble_eq_true rfl) rfl dX8_count_147 h (fun q147 _ h => ?_)
                exact bw_iret C dX8_count_150 h
              · refine bw_tsOut C (tgt := 151) dX8_count_35 (sw_out (lo := 0) (hi := 6) (fun q h1 h2 => ?_)) (by decide) ?_
                · rcases (show q = 0 ∨ q = 1 ∨ q = 2 ∨ q = 3 ∨ q = 4 ∨ q = 5 ∨ q = 6 by omega) with e | e | e | e | e | e | e
                  · exact fun g => hn0 (sw_eq g (by rw [e]; decide))
                  · exact fun g => hn1 (sw_eq g (by rw [e]; decide))
                  · exact fun g => hn2 (sw_eq g (by rw [e]; decide))
                  · exact fun g => hn3 (sw_eq g (by rw [e]; decide))
                  · exact fun g => hn4 (sw_eq g (by rw [e]; decide))
                  · exact fun g => hn5 (sw_eq g (by rw [e]; decide))
                  · exact fun g => hn6 (sw_eq g (by rw [e]; decide))
                · refine bw_iconst C (v := (-1)) dX8_count_151 (by decide) ?_
                  exact bw_iret C dX8_count_152 h
theorem mt8_count {l : Launch} {G : GX}   {x1 : Int32} {w : Mem} {z : Int32 × Mem} (h : fn8_count  x1 w = some z) : MC l G shM 19 eM yX8_count cX8_count 4 (some .int) rm8_count [.ref (gad G 0), .int x1] w z := by
  refine met_of (by decide +kernel) (eM_ok _) rfl (Nat.le_of_ble_eq_true rfl) (fun M hM C => ?_)
  subst hM
  exact bk8_count C  x1 h
