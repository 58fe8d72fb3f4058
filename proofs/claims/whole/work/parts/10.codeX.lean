def rm7_hasBit : Room := { frames := 0, cells := 0, slots := 0, locals := 0 }
def fn7_hasBit  (x0 : Int32) (x1 : Int32) (w : Mem) : Option (Int32 × Mem) := (if ((x0 >>> (x1 &&& 31)) &&& 1) = 0 then some (0, w) else some (1, w))
set_option maxRecDepth 20000 in
theorem bk7_hasBit {M : MX} {G : GX} (C : BC M G shX 71 (eX G) RX7 cX7_hasBit 2 (some .boolean) rm7_hasBit) {z : Int32 × Mem}   (x0 : Int32) (x1 : Int32) {w : Mem} (h : fn7_hasBit  x0 x1 w = some z) : BW M G shX 71 2 (ZR M G shX 71 (some .boolean) z) 0 [(0, .int x0), (1, .int x1)] [] w := by
  rw [fn7_hasBit] at h
  refine bw_iload_n C 0 dX7_hasBit_0 rfl rfl ?_
  refine bw_iload_n C 1 dX7_hasBit_1 rfl rfl ?_
  refine bw_ishr C dX7_hasBit_2 ?_
  refine bw_iconst C (v := 1) dX7_hasBit_3 (by decide) ?_
  refine bw_iand C dX7_hasBit_4 ?_
  refine bw_if_eq C (tgt := 12) dX7_hasBit_5 (by decide) h (fun h => ?_) (fun h => ?_)
  · refine bw_iconst C (v := 0) dX7_hasBit_12 (by decide) ?_
    exact bw_zretc C dX7_hasBit_13 rfl h
  · refine bw_iconst C (v := 1) dX7_hasBit_8 (by decide) ?_
    refine bw_goto C (tgt := 13) dX7_hasBit_9 (by decide) ?_
    exact bw_zretc C dX7_hasBit_13 rfl h
theorem mt7_hasBit {l : Launch} {G : GX}   {x0 : Int32} {x1 : Int32} {w : Mem} {z : Int32 × Mem} (h : fn7_hasBit  x0 x1 w = some z) : MC l G shX 71 (eX G) yX7_hasBit cX7_hasBit 2 (some .boolean) rm7_hasBit [.int x0, .int x1] w z := by
  refine met_of (by decide +kernel) (eX_ok G) rfl (Nat.le_of_ble_eq_true rfl) (fun M hM C => ?_)
  subst hM
  exact bk7_hasBit C  x0 x1 h
def rm7_oneIf : Room := { frames := 0, cells := 0, slots := 0, locals := 0 }
def fn7_oneIf  (x0 : Int32) (w : Mem) : Option (Int32 × Mem) := (if x0 = 0 then some (0, w) else some (1, w))
set_option maxRecDepth 20000 in
theorem bk7_oneIf {M : MX} {G : GX} (C : BC M G shX 71 (eX G) RX7 cX7_oneIf 1 (some .int) rm7_oneIf) {z : Int32 × Mem}   (x0 : Int32) {w : Mem} (h : fn7_oneIf  x0 w = some z) : BW M G shX 71 1 (ZR M G shX 71 (some .int) z) 0 [(0, .int x0)] [] w := by
  rw [fn7_oneIf] at h
  refine bw_iload_n C 0 dX7_oneIf_0 rfl rfl ?_
  refine bw_if_eq C (tgt := 8) dX7_oneIf_1 (by decide) h (fun h => ?_) (fun h => ?_)
  · refine bw_iconst C (v := 0) dX7_oneIf_8 (by decide) ?_
    exact bw_iret C dX7_oneIf_9 h
  · refine bw_iconst C (v := 1) dX7_oneIf_4 (by decide) ?_
    refine bw_goto C (tgt := 9) dX7_oneIf_5 (by decide) ?_
    exact bw_iret C dX7_oneIf_9 h
theorem mt7_oneIf {l : Launch} {G : GX}   {x0 : Int32} {w : Mem} {z : Int32 × Mem} (h : fn7_oneIf  x0 w = some z) : MC l G shX 71 (eX G) yX7_oneIf cX7_oneIf 1 (some .int) rm7_oneIf [.int x0] w z := by
  refine met_of (by decide +kernel) (eX_ok G) rfl (Nat.le_of_ble_eq_true rfl) (fun M hM C => ?_)
  subst hM
  exact bk7_oneIf C  x0 h
def rm0_needyOnes : Room := { frames := 1, cells := 0, slots := 0, locals := 20 }
def fn0_needyOnes_30 (x2 : Int32) (t0 : Int32) (t1 : Int32) (kb : Int32 → Int32 → Mem → Option (Int32 × Mem)) (w : Mem) : Option (Int32 × Mem) := (fn7_oneIf t0 w).bind (fun q30 => kb (t1 + q30.1) (x2 + 1) q30.2)
set_option maxRecDepth 20000 in
theorem bk0_needyOnes_30 {M : MX} {G : GX} (C : BC M G shX 71 (eX G) RX0 cX0_needyOnes 3 (some .int) rm0_needyOnes) {z : Int32 × Mem} (x2 : Int32) (t0 : Int32) (t1 : Int32) {kb : Int32 → Int32 → Mem → Option (Int32 × Mem)} (hkb : ∀ (x1 : Int32) (x2 : Int32) (w : Mem), kb x1 x2 w = some z → BW M G shX 71 3 (ZR M G shX 71 (some .int) z) 4 [(0, .ref (gad G 60)), (1, .int x1), (2, .int x2)] [] w) {w : Mem} (h : fn0_needyOnes_30 x2 t0 t1 kb w = some z) : BW M G shX 71 3 (ZR M G shX 71 (some .int) z) 30 [(0, .ref (gad G 60)), (2, .int x2)] [.int t0, .int t1] w := by
  rw [fn0_needyOnes_30] at h
  refine bw_callSNi C (As := [.int t0]) miX7_oneIf (nstAt C.2.2.2.2.2.2.2.2.2.1.1 7 rfl) smX7_oneIf (by decide) rfl rfl (fun z1 h1 => mt7_oneIf h1) rfl (Nat.le_of_ble_eq_true rfl) rfl dX0_needyOnes_30 h (fun q30 _ h => ?_)
  refine bw_iadd C dX0_needyOnes_33 ?_
  refine bw_istore_n C [(1, .int (t1 + q30.1)), (0, .ref (gad G 60)), (2, .int x2)] dX0_needyOnes_34 rfl (by decide) rfl ?_
  refine bw_iinc C [(2, .int (x2 + 1)), (1, .int (t1 + q30.1)), (0, .ref (gad G 60))] 2 dX0_needyOnes_35 rfl rfl (by decide) rfl ?_
  refine bw_goto C (tgt := 4) dX0_needyOnes_38 (by decide) ?_
  exact bw_sub [2, 1, 0] rfl (hkb (t1 + q30.1) (x2 + 1) q30.2 h)
def fn0_needyOnes_4 (k : Int32 → Int32 → Mem → Option (Int32 × Mem)) : Nat → Int32 → Int32 → Mem → Option (Int32 × Mem)
  | 0, _, _, _ => none
  | nn + 1, x1, x2, w => (if (w 1 0) ≤ x2 then k x1 x2 w else (if ib x2 6 = true then (if (w 63 x2.toNatClampNeg) ≤ 0 then fn0_needyOnes_30 x2 0 x1 (fn0_needyOnes_4 k nn) w else fn0_needyOnes_30 x2 1 x1 (fn0_needyOnes_4 k nn) w) else none))
set_option maxRecDepth 20000 in
theorem bk0_needyOnes_4 {M : MX} {G : GX} (C : BC M G shX 71 (eX G) RX0 cX0_needyOnes 3 (some .int) rm0_needyOnes) {z : Int32 × Mem} {k : Int32 → Int32 → Mem → Option (Int32 × Mem)} (hk : ∀ (x1 : Int32) (x2 : Int32) (w : Mem), k x1 x2 w = some z → BW M G shX 71 3 (ZR M G shX 71 (some .int) z) 41 [(1, .int x1)] [] w) : ∀ (nn : Nat) (x1 : Int32) (x2 : Int32) (w : Mem), fn0_needyOnes_4 k nn x1 x2 w = some z → BW M G shX 71 3 (ZR M G shX 71 (some .int) z) 4 [(0, .ref (gad G 60)), (1, .int x1), (2, .int x2)] [] w := by
  intro nn
  induction nn with
  | zero =>
    intro x1 x2 w h
    have h : (none : Option (Int32 × Mem)) = some z := h
    cases h
  | succ nn ih =>
    intro x1 x2 w h
    rw [fn0_needyOnes_4] at h
    refine bw_iload_n C 2 dX0_needyOnes_4 rfl rfl ?_
    refine bw_aload_n C 0 dX0_needyOnes_5 rfl rfl ?_
    refine bw_getr C (j := 2) (t := 1) lX60 sX60 rfl inlX0 (by decide) rfl flX0_21 dX0_needyOnes_6 ?_
    refine bw_geti C (j := 0) lX1 sX1 rfl inlX6 (by decide) rfl flX0_49 dX0_needyOnes_9 ?_
    refine bw_icmp_ge C (tgt := 41) dX0_needyOnes_12 (by decide) h (fun h => ?_) (fun h => ?_)
    · exact bw_sub [1] rfl (hk x1 x2 w h)
    · refine bw_iload_n C 1 dX0_needyOnes_15 rfl rfl ?_
      refine bw_aload_n C 0 dX0_needyOnes_16 rfl rfl ?_
      refine bw_getr C (j := 4) (t := 63) lX60 sX60 rfl inlX0 (by decide) rfl flX0_18 dX0_needyOnes_17 ?_
      refine bw_iload_n C 2 dX0_needyOnes_20 rfl rfl ?_
      refine bw_iald C lX63 sX63 dX0_needyOnes_21 h (fun h => ?_)
      refine bw_if_le C (tgt := 29) dX0_needyOnes_22 (by decide) h (fun h => ?_) (fun h => ?_)
      · refine bw_iconst C (v := 0) dX0_needyOnes_29 (by decide) ?_
        exact bw_sub [0, 2] rfl (bk0_needyOnes_30 C x2 0 x1 ih h)
      · refine bw_iconst C (v := 1) dX0_needyOnes_25 (by decide) ?_
        refine bw_goto C (tgt := 30) dX0_needyOnes_26 (by decide) ?_
        exact bw_sub [0, 2] rfl (bk0_needyOnes_30 C x2 1 x1 ih h)
def fn0_needyOnes   (w : Mem) : Option (Int32 × Mem) := fn0_needyOnes_4 (fun x1_4 x2_4 w_4 => some (x1_4, w_4)) 1000 0 0 w
set_option maxRecDepth 20000 in
theorem bk0_needyOnes {M : MX} {G : GX} (C : BC M G shX 71 (eX G) RX0 cX0_needyOnes 3 (some .int) rm0_needyOnes) {z : Int32 × Mem}    {w : Mem} (h : fn0_needyOnes   w = some z) : BW M G shX 71 3 (ZR M G shX 71 (some .int) z) 0 [(0, .ref (gad G 60))] [] w := by
  rw [fn0_needyOnes] at h
  refine bw_iconst C (v := 0) dX0_needyOnes_0 (by decide) ?_
  refine bw_istore_n C [(1, .int 0), (0, .ref (gad G 60))] dX0_needyOnes_1 rfl (by decide) rfl ?_
  refine bw_iconst C (v := 0) dX0_needyOnes_2 (by decide) ?_
  refine bw_istore_n C [(2, .int 0), (1, .int 0), (0, .ref (gad G 60))] dX0_needyOnes_3 rfl (by decide) rfl ?_
  refine bw_sub [2, 1, 0] rfl (bk0_needyOnes_4 C (fun x1_4 x2_4 w_4 h => ?_) 1000 0 0 w h)
  refine bw_iload_n C 0 dX0_needyOnes_41 rfl rfl ?_
  exact bw_iret C dX0_needyOnes_42 h
theorem mt0_needyOnes {l : Launch} {G : GX}    {w : Mem} {z : Int32 × Mem} (h : fn0_needyOnes   w = some z) : MC l G shX 71 (eX G) yX0_needyOnes cX0_needyOnes 3 (some .int) rm0_needyOnes [.ref (gad G 60)] w z := by
  refine met_of (by decide +kernel) (eX_ok G) rfl (Nat.le_of_ble_eq_true rfl) (fun M hM C => ?_)
  subst hM
  exact bk0_needyOnes C   h
def rm0_takeAsBest : Room := { frames := 0, cells := 0, slots := 0, locals := 0 }
def fn0_takeAsBest_34 (x1 : Int32) (x3 : Int32) (t0 : Int32) (t1 : Int32) (kb : Int32 → Mem → Option (Int32 × Mem)) (w : Mem) : Option (Int32 × Mem) := (if ib t1 6 = true then kb (x3 + 1) (up2 w 61 t1.toNatClampNeg t0) else none)
set_option maxRecDepth 20000 in
theorem bk0_takeAsBest_34 {M : MX} {G : GX} (C : BC M G shX 71 (eX G) RX0 cX0_takeAsBest 4 none rm0_takeAsBest) {z : Int32 × Mem} (x1 : Int32) (x3 : Int32) (t0 : Int32) (t1 : Int32) {kb : Int32 → Mem → Option (Int32 × Mem)} (hkb : ∀ (x3 : Int32) (w : Mem), kb x3 w = some z → BW M G shX 71 4 (ZR M G shX 71 none z) 7 [(0, .ref (gad G 60)), (1, .int x1), (3, .int x3)] [] w) {w : Mem} (h : fn0_takeAsBest_34 x1 x3 t0 t1 kb w = some z) : BW M G shX 71 4 (ZR M G shX 71 none z) 34 [(0, .ref (gad G 60)), (1, .int x1), (3, .int x3)] [.int t0, .int t1, .ref (gad G 61)] w := by
  rw [fn0_takeAsBest_34] at h
  refine bw_iast C lX61 sX61 dX0_takeAsBest_34 h (fun h => ?_)
  refine bw_iinc C [(3, .int (x3 + 1)), (0, .ref (gad G 60)), (1, .int x1)] 2 dX0_takeAsBest_35 rfl rfl (by decide) rfl ?_
  refine bw_goto C (tgt := 7) dX0_takeAsBest_38 (by decide) ?_
  exact bw_sub [1, 2, 0] rfl (hkb (x3 + 1) (up2 w 61 t1.toNatClampNeg t0) h)
def fn0_takeAsBest_7 (x1 : Int32) (k : Int32 → Mem → Option (Int32 × Mem)) : Nat → Int32 → Mem → Option (Int32 × Mem)
  | 0, _, _ => none
  | nn + 1, x3, w => (if 6 ≤ x3 then k x3 w else (if x1 ≤ x3 then fn0_takeAsBest_34 x1 x3 (-4) x3 (fn0_takeAsBest_7 x1 k nn) w else (if ib x3 6 = true then fn0_takeAsBest_34 x1 x3 (w 62 x3.toNatClampNeg) x3 (fn0_takeAsBest_7 x1 k nn) w else none)))
set_option maxRecDepth 20000 in
theorem bk0_takeAsBest_7 {M : MX} {G : GX} (C : BC M G shX 71 (eX G) RX0 cX0_takeAsBest 4 none rm0_takeAsBest) {z : Int32 × Mem} (x1 : Int32) {k : Int32 → Mem → Option (Int32 × Mem)} (hk : ∀ (x3 : Int32) (w : Mem), k x3 w = some z → BW M G shX 71 4 (ZR M G shX 71 none z) 41 [] [] w) : ∀ (nn : Nat) (x3 : Int32) (w : Mem), fn0_takeAsBest_7 x1 k nn x3 w = some z → BW M G shX 71 4 (ZR M G shX 71 none z) 7 [(0, .ref (gad G 60)), (1, .int x1), (3, .int x3)] [] w := by
  intro nn
  induction nn with
  | zero =>
    intro x3 w h
    have h : (none : Option (Int32 × Mem)) = some z := h
    cases h
  | succ nn ih =>
    intro x3 w h
    rw [fn0_takeAsBest_7] at h
    refine bw_iload_n C 2 dX0_takeAsBest_7 rfl rfl ?_
    refine bw_bipush C (v := 6) dX0_takeAsBest_8 (by decide) ?_
    refine bw_icmp_ge C (tgt := 41) dX0_takeAsBest_10 (by decide) h (fun h => ?_) (fun h => ?_)
    · exact bw_sub [] rfl (hk x3 w h)
    · refine bw_aload_n C 0 dX0_takeAsBest_13 rfl rfl ?_
      refine bw_getr C (j := 1) (t := 61) lX60 sX60 rfl inlX0 (by decide) rfl flX0_9 dX0_takeAsBest_14 ?_
      refine bw_iload_n C 2 dX0_takeAsBest_17 rfl rfl ?_
      refine bw_iload_n C 2 dX0_takeAsBest_18 rfl rfl ?_
      refine bw_iload_n C 1 dX0_takeAsBest_19 rfl rfl ?_
      refine bw_icmp_ge C (tgt := 32) dX0_takeAsBest_20 (by decide) h (fun h => ?_) (fun h => ?_)
      · refine bw_bipush C (v := (-4)) dX0_takeAsBest_32 (by decide) ?_
        exact bw_sub [0, 1, 2] rfl (bk0_takeAsBest_34 C x1 x3 (-4) x3 ih h)
      · refine bw_aload_n C 0 dX0_takeAsBest_23 rfl rfl ?_
        refine bw_getr C (j := 3) (t := 62) lX60 sX60 rfl inlX0 (by decide) rfl flX0_15 dX0_takeAsBest_24 ?_
        refine bw_iload_n C 2 dX0_takeAsBest_27 rfl rfl ?_
        refine bw_iald C lX62 sX62 dX0_takeAsBest_28 h (fun h => ?_)
        refine bw_goto C (tgt := 34) dX0_takeAsBest_29 (by decide) ?_
        exact bw_sub [0, 1, 2] rfl (bk0_takeAsBest_34 C x1 x3 (w 62 x3.toNatClampNeg) x3 ih h)
def fn0_takeAsBest  (x1 : Int32) (x2 : Int32) (w : Mem) : Option (Int32 × Mem) := fn0_takeAsBest_7 x1 (fun x3_7 w_7 => some (0, w_7)) 1000 0 (up2 w 60 0 x2)
set_option maxRecDepth 20000 in
theorem bk0_takeAsBest {M : MX} {G : GX} (C : BC M G shX 71 (eX G) RX0 cX0_takeAsBest 4 none rm0_takeAsBest) {z : Int32 × Mem}   (x1 : Int32) (x2 : Int32) {w : Mem} (h : fn0_takeAsBest  x1 x2 w = some z) : BW M G shX 71 4 (ZR M G shX 71 none z) 0 [(0, .ref (gad G 60)), (1, .int x1), (2, .int x2)] [] w := by
  rw [fn0_takeAsBest] at h
  refine bw_aload_n C 0 dX0_takeAsBest_0 rfl rfl ?_
  refine bw_iload_n C 2 dX0_takeAsBest_1 rfl rfl ?_
  refine bw_puti C (j := 0) (ty := .int) lX60 sX60 rfl inlX0 (by decide) tyX0 tyX0_ok nmX0 rfl flX0_29 rfl (by decide +kernel) rfl rfl dX0_takeAsBest_2 ?_
  refine bw_iconst C (v := 0) dX0_takeAsBest_5 (by decide) ?_
  refine bw_istore_n C [(3, .int 0), (0, .ref (gad G 60)), (1, .int x1), (2, .int x2)] dX0_takeAsBest_6 rfl (by decide) rfl ?_
  refine bw_sub [1, 2, 0] rfl (bk0_takeAsBest_7 C x1 (fun x3_7 w_7 h => ?_) 1000 0 (up2 w 60 0 x2) h)
  exact bw_vret C dX0_takeAsBest_41 h
theorem mt0_takeAsBest {l : Launch} {G : GX}   {x1 : Int32} {x2 : Int32} {w : Mem} {z : Int32 × Mem} (h : fn0_takeAsBest  x1 x2 w = some z) : MC l G shX 71 (eX G) yX0_takeAsBest cX0_takeAsBest 4 none rm0_takeAsBest [.ref (gad G 60), .int x1, .int x2] w z := by
  refine met_of (by decide +kernel) (eX_ok G) rfl (Nat.le_of_ble_eq_true rfl) (fun M hM C => ?_)
  subst hM
  exact bk0_takeAsBest C  x1 x2 h
def rm6_isSpent : Room := { frames := 0, cells := 0, slots := 0, locals := 0 }
def fn6_isSpent (b : Nat) (x1 : Int32) (w : Mem) : Option (Int32 × Mem) := (if ib x1 6 = true then (if (w (b + 7) x1.toNatClampNeg) = (-4) then some (0, w) else some (1, w)) else none)
set_option maxRecDepth 20000 in
theorem bk6_isSpent {M : MX} {G : GX} (C : BC M G shX 71 (eX G) RX6 cX6_isSpent 2 (some .boolean) rm6_isSpent) {z : Int32 × Mem} {b : Nat} (hb : isTown b) (x1 : Int32) {w : Mem} (h : fn6_isSpent b x1 w = some z) : BW M G shX 71 2 (ZR M G shX 71 (some .boolean) z) 0 [(0, .ref (gad G b)), (1, .int x1)] [] w := by
  rw [fn6_isSpent] at h
  refine bw_aload_n C 0 dX6_isSpent_0 rfl rfl ?_
  refine bw_getr C (j := 8) (t := (b + 7)) (isT_lt hb) (isT_sh hb) rfl inlX6 (by decide) rfl flX6_31 dX6_isSpent_1 ?_
  refine bw_iload_n C 1 dX6_isSpent_4 rfl rfl ?_
  refine bw_iald C (isT_l7 hb) (isT_s7 hb) dX6_isSpent_5 h (fun h => ?_)
  refine bw_bipush C (v := (-4)) dX6_isSpent_6 (by decide) ?_
  refine bw_icmp_eq C (tgt := 15) dX6_isSpent_8 (by decide) h (fun h => ?_) (fun h => ?_)
  · refine bw_iconst C (v := 0) dX6_isSpent_15 (by decide) ?_
    exact bw_zretc C dX6_isSpent_16 rfl h
  · refine bw_iconst C (v := 1) dX6_isSpent_11 (by decide) ?_
    refine bw_goto C (tgt := 16) dX6_isSpent_12 (by decide) ?_
    exact bw_zretc C dX6_isSpent_16 rfl h
theorem mt6_isSpent {l : Launch} {G : GX} {b : Nat} (hb : isTown b) {x1 : Int32} {w : Mem} {z : Int32 × Mem} (h : fn6_isSpent b x1 w = some z) : MC l G shX 71 (eX G) yX6_isSpent cX6_isSpent 2 (some .boolean) rm6_isSpent [.ref (gad G b), .int x1] w z := by
  refine met_of (by decide +kernel) (eX_ok G) rfl (Nat.le_of_ble_eq_true rfl) (fun M hM C => ?_)
  subst hM
  exact bk6_isSpent C hb x1 h
def rm6_lengthBy : Room := { frames := 1, cells := 0, slots := 0, locals := 13 }
def fn6_lengthBy_30 (b : Nat) (x2 : Int32) (t0 : Int32) (w : Mem) : Option (Int32 × Mem) := (if ib x2 6 = true then (if ¬ (w (b + 1) x2.toNatClampNeg) = 3 then some (t0, w) else some ((t0 + 1), w)) else none)
set_option maxRecDepth 20000 in
theorem bk6_lengthBy_30 {M : MX} {G : GX} (C : BC M G shX 71 (eX G) RX6 cX6_lengthBy 4 (some .int) rm6_lengthBy) {z : Int32 × Mem} {b : Nat} (hb : isTown b) (x2 : Int32) (t0 : Int32) {w : Mem} (h : fn6_lengthBy_30 b x2 t0 w = some z) : BW M G shX 71 4 (ZR M G shX 71 (some .int) z) 30 [(0, .ref (gad G b)), (2, .int x2)] [.int t0] w := by
  rw [fn6_lengthBy_30] at h
  refine bw_istore_n C [(3, .int t0), (0, .ref (gad G b)), (2, .int x2)] dX6_lengthBy_30 rfl (by decide) rfl ?_
  refine bw_aload_n C 1 dX6_lengthBy_31 rfl rfl ?_
  refine bw_getr C (j := 1) (t := (b + 1)) (isT_lt hb) (isT_sh hb) rfl inlX6 (by decide) rfl flX6_9 dX6_lengthBy_32 ?_
  refine bw_iload_n C 2 dX6_lengthBy_35 rfl rfl ?_
  refine bw_iald C (isT_l1 hb) (isT_s1 hb) dX6_lengthBy_36 h (fun h => ?_)
  refine bw_iconst C (v := 3) dX6_lengthBy_37 (by decide) ?_
  refine bw_icmp_ne C (tgt := 47) dX6_lengthBy_38 (by decide) h (fun h => ?_) (fun h => ?_)
  · refine bw_iload_n C 0 dX6_lengthBy_47 rfl rfl ?_
    exact bw_iret C dX6_lengthBy_48 h
  · refine bw_iload_n C 0 dX6_lengthBy_41 rfl rfl ?_
    refine bw_iconst C (v := 1) dX6_lengthBy_42 (by decide) ?_
    refine bw_iadd C dX6_lengthBy_43 ?_
    refine bw_goto C (tgt := 48) dX6_lengthBy_44 (by decide) ?_
    exact bw_iret C dX6_lengthBy_48 h
def fn6_lengthBy (b : Nat) (x1 : Int32) (x2 : Int32) (w : Mem) : Option (Int32 × Mem) := (if ib x1 6 = true then (if (w (b + 6) x1.toNatClampNeg) = 0 then (if ib x1 6 = true then fn6_lengthBy_30 b x2 (w (b + 4) x1.toNatClampNeg) w else none) else (if ib x1 6 = true then fn6_lengthBy_30 b x2 (if 1 < ((w (b + 4) x1.toNatClampNeg) - 1) then ((w (b + 4) x1.toNatClampNeg) - 1) else 1) w else none)) else none)
set_option maxRecDepth 20000 in
theorem bk6_lengthBy {M : MX} {G : GX} (C : BC M G shX 71 (eX G) RX6 cX6_lengthBy 4 (some .int) rm6_lengthBy) {z : Int32 × Mem} {b : Nat} (hb : isTown b) (x1 : Int32) (x2 : Int32) {w : Mem} (h : fn6_lengthBy b x1 x2 w = some z) : BW M G shX 71 4 (ZR M G shX 71 (some .int) z) 0 [(0, .ref (gad G b)), (1, .int x1), (2, .int x2)] [] w := by
  rw [fn6_lengthBy] at h
  refine bw_aload_n C 0 dX6_lengthBy_0 rfl rfl ?_
  refine bw_getr C (j := 7) (t := (b + 6)) (isT_lt hb) (isT_sh hb) rfl inlX6 (by decide) rfl flX6_27 dX6_lengthBy_1 ?_
  refine bw_iload_n C 1 dX6_lengthBy_4 rfl rfl ?_
  refine bw_zald C (isT_l6 hb) (isT_s6 hb) dX6_lengthBy_5 h (fun h => ?_)
  refine bw_if_eq C (tgt := 24) dX6_lengthBy_6 (by decide) h (fun h => ?_) (fun h => ?_)
  · refine bw_aload_n C 0 dX6_lengthBy_24 rfl rfl ?_
    refine bw_getr C (j := 5) (t := (b + 4)) (isT_lt hb) (isT_sh hb) rfl inlX6 (by decide) rfl flX6_21 dX6_lengthBy_25 ?_
    refine bw_iload_n C 1 dX6_lengthBy_28 rfl rfl ?_
    refine bw_iald C (isT_l4 hb) (isT_s4 hb) dX6_lengthBy_29 h (fun h => ?_)
    exact bw_sub [0, 2] rfl (bk6_lengthBy_30 C hb x2 (w (b + 4) x1.toNatClampNeg) h)
  · refine bw_iconst C (v := 1) dX6_lengthBy_9 (by decide) ?_
    refine bw_aload_n C 0 dX6_lengthBy_10 rfl rfl ?_
    refine bw_getr C (j := 5) (t := (b + 4)) (isT_lt hb) (isT_sh hb) rfl inlX6 (by decide) rfl flX6_21 dX6_lengthBy_11 ?_
    refine bw_iload_n C 1 dX6_lengthBy_14 rfl rfl ?_
    refine bw_iald C (isT_l4 hb) (isT_s4 hb) dX6_lengthBy_15 h (fun h => ?_)
    refine bw_iconst C (v := 1) dX6_lengthBy_16 (by decide) ?_
    refine bw_isub C dX6_lengthBy_17 ?_
    refine bw_mmax C mlX6_83 mth_max_s mth_i mth_max_c (by decide) (Nat.le_of_ble_eq_true rfl) dX6_lengthBy_18 ?_
    refine bw_goto C (tgt := 30) dX6_lengthBy_21 (by decide) ?_
    exact bw_sub [0, 2] rfl (bk6_lengthBy_30 C hb x2 (if 1 < ((w (b + 4) x1.toNatClampNeg) - 1) then ((w (b + 4) x1.toNatClampNeg) - 1) else 1) h)
theorem mt6_lengthBy {l : Launch} {G : GX} {b : Nat} (hb : isTown b) {x1 : Int32} {x2 : Int32} {w : Mem} {z : Int32 × Mem} (h : fn6_lengthBy b x1 x2 w = some z) : MC l G shX 71 (eX G) yX6_lengthBy cX6_lengthBy 4 (some .int) rm6_lengthBy [.ref (gad G b), .int x1, .int x2] w z := by
  refine met_of (by decide +kernel) (eX_ok G) rfl (Nat.le_of_ble_eq_true rfl) (fun M hM C => ?_)
  subst hM
  exact bk6_lengthBy C hb x1 x2 h
def rm0_costTo : Room := { frames := 0, cells := 0, slots := 0, locals := 0 }
def fn0_costTo  (x1 : Int32) (x2 : Int32) (w : Mem) : Option (Int32 × Mem) := (if ib x1 6 = true then (if ¬ (w 6 x1.toNatClampNeg) = x2 then (if ib x1 6 = true then some (((w 5 x1.toNatClampNeg) + (w 1 14)), w) else none) else (if ib x1 6 = true then some ((w 5 x1.toNatClampNeg), w) else none)) else none)
set_option maxRecDepth 20000 in
theorem bk0_costTo {M : MX} {G : GX} (C : BC M G shX 71 (eX G) RX0 cX0_costTo 3 (some .int) rm0_costTo) {z : Int32 × Mem}   (x1 : Int32) (x2 : Int32) {w : Mem} (h : fn0_costTo  x1 x2 w = some z) : BW M G shX 71 3 (ZR M G shX 71 (some .int) z) 0 [(0, .ref (gad G 60)), (1, .int x1), (2, .int x2)] [] w := by
  rw [fn0_costTo] at h
  refine bw_aload_n C 0 dX0_costTo_0 rfl rfl ?_
  refine bw_getr C (j := 2) (t := 1) lX60 sX60 rfl inlX0 (by decide) rfl flX0_21 dX0_costTo_1 ?_
  refine bw_getr C (j := 6) (t := 6) lX1 sX1 rfl inlX6 (by decide) rfl flX0_63 dX0_costTo_4 ?_
  refine bw_iload_n C 1 dX0_costTo_7 rfl rfl ?_
  refine bw_iald C lX6 sX6 dX0_costTo_8 h (fun h => ?_)
  refine bw_iload_n C 2 dX0_costTo_9 rfl rfl ?_
  refine bw_icmp_ne C (tgt := 25) dX0_costTo_10 (by decide) h (fun h => ?_) (fun h => ?_)
  · refine bw_aload_n C 0 dX0_costTo_25 rfl rfl ?_
    refine bw_getr C (j := 2) (t := 1) lX60 sX60 rfl inlX0 (by decide) rfl flX0_21 dX0_costTo_26 ?_
    refine bw_getr C (j := 5) (t := 5) lX1 sX1 rfl inlX6 (by decide) rfl flX0_66 dX0_costTo_29 ?_
    refine bw_iload_n C 1 dX0_costTo_32 rfl rfl ?_
    refine bw_iald C lX5 sX5 dX0_costTo_33 h (fun h => ?_)
    refine bw_aload_n C 0 dX0_costTo_34 rfl rfl ?_
    refine bw_getr C (j := 2) (t := 1) lX60 sX60 rfl inlX0 (by decide) rfl flX0_21 dX0_costTo_35 ?_
    refine bw_geti C (j := 14) lX1 sX1 rfl inlX6 (by decide) rfl flX0_69 dX0_costTo_38 ?_
    refine bw_iadd C dX0_costTo_41 ?_
    exact bw_iret C dX0_costTo_42 h
  · refine bw_aload_n C 0 dX0_costTo_13 rfl rfl ?_
    refine bw_getr C (j := 2) (t := 1) lX60 sX60 rfl inlX0 (by decide) rfl flX0_21 dX0_costTo_14 ?_
    refine bw_getr C (j := 5) (t := 5) lX1 sX1 rfl inlX6 (by decide) rfl flX0_66 dX0_costTo_17 ?_
    refine bw_iload_n C 1 dX0_costTo_20 rfl rfl ?_
    refine bw_iald C lX5 sX5 dX0_costTo_21 h (fun h => ?_)
    refine bw_goto C (tgt := 42) dX0_costTo_22 (by decide) ?_
    exact bw_iret C dX0_costTo_42 h
theorem mt0_costTo {l : Launch} {G : GX}   {x1 : Int32} {x2 : Int32} {w : Mem} {z : Int32 × Mem} (h : fn0_costTo  x1 x2 w = some z) : MC l G shX 71 (eX G) yX0_costTo cX0_costTo 3 (some .int) rm0_costTo [.ref (gad G 60), .int x1, .int x2] w z := by
  refine met_of (by decide +kernel) (eX_ok G) rfl (Nat.le_of_ble_eq_true rfl) (fun M hM C => ?_)
  subst hM
  exact bk0_costTo C  x1 x2 h
def rm0_giveFrom (dd : Nat) : Room := { frames := 2 + dd, cells := 0, slots := 0, locals := 42 + dd * 25 }
def fn0_giveFrom_129 (rc : Int32 → Int32 → Mem → Option (Int32 × Mem)) (x1 : Int32) (x2 : Int32) (x4 : Int32) (x5 : Int32) (kb : Int32 → Mem → Option (Int32 × Mem)) (w : Mem) : Option (Int32 × Mem) := (fn0_costTo x1 x4 w).bind (fun q138 => (rc (x1 + 1) (x2 + q138.1) q138.2).bind (fun q142 => (if ib x4 6 = true then (if ib x4 6 = true then kb (x4 + 1) (up2 q142.2 63 x4.toNatClampNeg ((q142.2 63 x4.toNatClampNeg) + x5)) else none) else none)))
set_option maxRecDepth 20000 in
theorem bk0_giveFrom_129 {M : MX} {G : GX} {dd dd0 : Nat} (hdd : dd = dd0 + 1) (C : BC M G shX 71 (eX G) RX0 cX0_giveFrom 6 none (rm0_giveFrom dd)) {z : Int32 × Mem} {rc : Int32 → Int32 → Mem → Option (Int32 × Mem)} (hrc : ∀ (x1 x2 : Int32) (w : Mem) (z : Int32 × Mem), rc x1 x2 w = some z → MC (mL M) G shX 71 (eX G) yX0_giveFrom cX0_giveFrom 6 none (rm0_giveFrom dd0) [.ref (gad G 60), .int x1, .int x2] w z) (x1 : Int32) (x2 : Int32) (x4 : Int32) (x5 : Int32) {kb : Int32 → Mem → Option (Int32 × Mem)} (hkb : ∀ (x4 : Int32) (w : Mem), kb x4 w = some z → BW M G shX 71 6 (ZR M G shX 71 none z) 64 [(0, .ref (gad G 60)), (1, .int x1), (2, .int x2), (4, .int x4)] [] w) {w : Mem} (h : fn0_giveFrom_129 rc x1 x2 x4 x5 kb w = some z) : BW M G shX 71 6 (ZR M G shX 71 none z) 129 [(0, .ref (gad G 60)), (1, .int x1), (2, .int x2), (4, .int x4), (5, .int x5)] [] w := by
  rw [fn0_giveFrom_129] at h
  refine bw_aload_n C 0 dX0_giveFrom_129 rfl rfl ?_
  refine bw_iload_n C 1 dX0_giveFrom_130 rfl rfl ?_
  refine bw_iconst C (v := 1) dX0_giveFrom_131 (by decide) ?_
  refine bw_iadd C dX0_giveFrom_132 ?_
  refine bw_iload_n C 2 dX0_giveFrom_133 rfl rfl ?_
  refine bw_aload_n C 0 dX0_giveFrom_134 rfl rfl ?_
  refine bw_iload_n C 1 dX0_giveFrom_135 rfl rfl ?_
  refine bw_iload C 3 dX0_giveFrom_136 rfl ?_
  refine bw_callVi C (As := [.int x1, .int x4]) lX60 sX60 rfl miX0_costTo mlX0_60 imX0_costTo seX0_costTo (by subst hdd; constructor <;> simp only [rm0_giveFrom, rm0_costTo] <;> omega) rfl rfl (fun z1 h1 => mt0_costTo h1) rfl (Nat.le_of_ble_eq_true rfl) rfl dX0_giveFrom_138 h (fun q138 _ h => ?_)
  refine bw_iadd C dX0_giveFrom_141 ?_
  refine bw_callVv C (As := [.int (x1 + 1), .int (x2 + q138.1)]) lX60 sX60 rfl miX0_giveFrom mlX0_33 imX0_giveFrom seX0_giveFrom (by subst hdd; constructor <;> simp only [rm0_giveFrom] <;> omega) rfl rfl (fun z1 h1 => hrc (x1 + 1) (x2 + q138.1) q138.2 z1 h1) rfl (Nat.le_of_ble_eq_true rfl) rfl dX0_giveFrom_142 h (fun q142 _ h => ?_)
  refine bw_aload_n C 0 dX0_giveFrom_145 rfl rfl ?_
  refine bw_getr C (j := 4) (t := 63) lX60 sX60 rfl inlX0 (by decide) rfl flX0_18 dX0_giveFrom_146 ?_
  refine bw_iload C 3 dX0_giveFrom_149 rfl ?_
  refine bw_dup2 C dX0_giveFrom_151 rfl rfl ?_
  refine bw_iald C lX63 sX63 dX0_giveFrom_152 h (fun h => ?_)
  refine bw_iload C 4 dX0_giveFrom_153 rfl ?_
  refine bw_iadd C dX0_giveFrom_155 ?_
  refine bw_iast C lX63 sX63 dX0_giveFrom_156 h (fun h => ?_)
  refine bw_iinc C [(4, .int (x4 + 1)), (0, .ref (gad G 60)), (1, .int x1), (2, .int x2), (5, .int x5)] 3 dX0_giveFrom_157 rfl rfl (by decide) rfl ?_
  refine bw_goto C (tgt := 64) dX0_giveFrom_160 (by decide) ?_
  exact bw_sub [1, 2, 3, 0] rfl (hkb (x4 + 1) (up2 q142.2 63 x4.toNatClampNeg ((q142.2 63 x4.toNatClampNeg) + x5)) h)
def fn0_giveFrom_64 (rc : Int32 → Int32 → Mem → Option (Int32 × Mem)) (x1 : Int32) (x2 : Int32) (k : Int32 → Mem → Option (Int32 × Mem)) : Nat → Int32 → Mem → Option (Int32 × Mem)
  | 0, _, _ => none
  | nn + 1, x4, w => (if (w 1 0) ≤ x4 then k x4 w else (fn6_isSpent 1 x1 w).bind (fun q81 => (if ¬ q81.1 = 0 then k x4 q81.2 else (if ib x4 6 = true then (if (q81.2 63 x4.toNatClampNeg) ≤ 0 then fn0_giveFrom_64 rc x1 x2 k nn (x4 + 1) q81.2 else (fn6_lengthBy 1 x1 x4 q81.2).bind (fun q104 => (if ib x1 6 = true then (if ib x4 6 = true then (if ib x4 6 = true then fn0_giveFrom_129 rc x1 x2 x4 q104.1 (fn0_giveFrom_64 rc x1 x2 k nn) (up2 (up2 q104.2 62 x1.toNatClampNeg x4) 63 x4.toNatClampNeg (((up2 q104.2 62 x1.toNatClampNeg x4) 63 x4.toNatClampNeg) - q104.1)) else none) else none) else none))) else none))))
set_option maxRecDepth 20000 in
theorem bk0_giveFrom_64 {M : MX} {G : GX} {dd dd0 : Nat} (hdd : dd = dd0 + 1) (C : BC M G shX 71 (eX G) RX0 cX0_giveFrom 6 none (rm0_giveFrom dd)) {z : Int32 × Mem} {rc : Int32 → Int32 → Mem → Option (Int32 × Mem)} (hrc : ∀ (x1 x2 : Int32) (w : Mem) (z : Int32 × Mem), rc x1 x2 w = some z → MC (mL M) G shX 71 (eX G) yX0_giveFrom cX0_giveFrom 6 none (rm0_giveFrom dd0) [.ref (gad G 60), .int x1, .int x2] w z) (x1 : Int32) (x2 : Int32) {k : Int32 → Mem → Option (Int32 × Mem)} (hk : ∀ (x4 : Int32) (w : Mem), k x4 w = some z → BW M G shX 71 6 (ZR M G shX 71 none z) 163 [] [] w) : ∀ (nn : Nat) (x4 : Int32) (w : Mem), fn0_giveFrom_64 rc x1 x2 k nn x4 w = some z → BW M G shX 71 6 (ZR M G shX 71 none z) 64 [(0, .ref (gad G 60)), (1, .int x1), (2, .int x2), (4, .int x4)] [] w := by
  intro nn
  induction nn with
  | zero =>
    intro x4 w h
    have h : (none : Option (Int32 × Mem)) = some z := h
    cases h
  | succ nn ih =>
    intro x4 w h
    rw [fn0_giveFrom_64] at h
    refine bw_iload C 3 dX0_giveFrom_64 rfl ?_
    refine bw_aload_n C 0 dX0_giveFrom_66 rfl rfl ?_
    refine bw_getr C (j := 2) (t := 1) lX60 sX60 rfl inlX0 (by decide) rfl flX0_21 dX0_giveFrom_67 ?_
    refine bw_geti C (j := 0) lX1 sX1 rfl inlX6 (by decide) rfl flX0_49 dX0_giveFrom_70 ?_
    refine bw_icmp_ge C (tgt := 163) dX0_giveFrom_73 (by decide) h (fun h => ?_) (fun h => ?_)
    · exact bw_sub [] rfl (hk x4 w h)
    · refine bw_aload_n C 0 dX0_giveFrom_76 rfl rfl ?_
      refine bw_getr C (j := 2) (t := 1) lX60 sX60 rfl inlX0 (by decide) rfl flX0_21 dX0_giveFrom_77 ?_
      refine bw_iload_n C 1 dX0_giveFrom_80 rfl rfl ?_
      refine bw_callVi C (As := [.int x1]) lX1 sX1 rfl miX6_isSpent mlX0_52 imX6_isSpent seX6_isSpent (by subst hdd; constructor <;> simp only [rm0_giveFrom, rm6_isSpent] <;> omega) rfl rfl (fun z1 h1 => mt6_isSpent isT_1 h1) rfl (Nat.le_of_ble_eq_true rfl) rfl dX0_giveFrom_81 h (fun q81 _ h => ?_)
      refine bw_if_ne C (tgt := 163) dX0_giveFrom_84 (by decide) h (fun h => ?_) (fun h => ?_)
      · exact bw_sub [] rfl (hk x4 q81.2 h)
      · refine bw_aload_n C 0 dX0_giveFrom_87 rfl rfl ?_
        refine bw_getr C (j := 4) (t := 63) lX60 sX60 rfl inlX0 (by decide) rfl flX0_18 dX0_giveFrom_88 ?_
        refine bw_iload C 3 dX0_giveFrom_91 rfl ?_
        refine bw_iald C lX63 sX63 dX0_giveFrom_93 h (fun h => ?_)
        refine bw_if_le C (tgt := 157) dX0_giveFrom_94 (by decide) h (fun h => ?_) (fun h => ?_)
        · refine bw_iinc C [(4, .int (x4 + 1)), (0, .ref (gad G 60)), (1, .int x1), (2, .int x2)] 3 dX0_giveFrom_157 rfl rfl (by decide) rfl ?_
          refine bw_goto C (tgt := 64) dX0_giveFrom_160 (by decide) ?_
          exact bw_sub [1, 2, 3, 0] rfl (ih (x4 + 1) q81.2 h)
        · refine bw_aload_n C 0 dX0_giveFrom_97 rfl rfl ?_
          refine bw_getr C (j := 2) (t := 1) lX60 sX60 rfl inlX0 (by decide) rfl flX0_21 dX0_giveFrom_98 ?_
          refine bw_iload_n C 1 dX0_giveFrom_101 rfl rfl ?_
          refine bw_iload C 3 dX0_giveFrom_102 rfl ?_
          refine bw_callVi C (As := [.int x1, .int x4]) lX1 sX1 rfl miX6_lengthBy mlX0_56 imX6_lengthBy seX6_lengthBy (by subst hdd; constructor <;> simp only [rm0_giveFrom, rm6_lengthBy] <;> omega) rfl rfl (fun z1 h1 => mt6_lengthBy isT_1 h1) rfl (Nat.le_of_ble_eq_true rfl) rfl dX0_giveFrom_104 h (fun q104 _ h => ?_)
          refine bw_istore C [(5, .int q104.1), (0, .ref (gad G 60)), (1, .int x1), (2, .int x2), (4, .int x4)] dX0_giveFrom_107 (by decide) rfl ?_
          refine bw_aload_n C 1 dX0_giveFrom_109 rfl rfl ?_
          refine bw_getr C (j := 3) (t := 62) lX60 sX60 rfl inlX0 (by decide) rfl flX0_15 dX0_giveFrom_110 ?_
          refine bw_iload_n C 2 dX0_giveFrom_113 rfl rfl ?_
          refine bw_iload C 4 dX0_giveFrom_114 rfl ?_
          refine bw_iast C lX62 sX62 dX0_giveFrom_116 h (fun h => ?_)
          refine bw_aload_n C 1 dX0_giveFrom_117 rfl rfl ?_
          refine bw_getr C (j := 4) (t := 63) lX60 sX60 rfl inlX0 (by decide) rfl flX0_18 dX0_giveFrom_118 ?_
          refine bw_iload C 4 dX0_giveFrom_121 rfl ?_
          refine bw_dup2 C dX0_giveFrom_123 rfl rfl ?_
          refine bw_iald C lX63 sX63 dX0_giveFrom_124 h (fun h => ?_)
          refine bw_iload C 0 dX0_giveFrom_125 rfl ?_
          refine bw_isub C dX0_giveFrom_127 ?_
          refine bw_iast C lX63 sX63 dX0_giveFrom_128 h (fun h => ?_)
          exact bw_sub [1, 2, 3, 4, 0] rfl (bk0_giveFrom_129 hdd C hrc x1 x2 x4 q104.1 ih h)
def fn0_giveFrom_b  (rc : Int32 → Int32 → Mem → Option (Int32 × Mem)) (x1 : Int32) (x2 : Int32) (w : Mem) : Option (Int32 × Mem) := (if x2 < (w 60 0) then (fn0_needyOnes w).bind (fun q10 => (if ¬ q10.1 = 0 then (if ((q10.2 1 4) - x1) < q10.1 then some (0, q10.2) else (if x1 < 6 then (if ib x1 6 = true then (rc (x1 + 1) x2 (up2 q10.2 62 x1.toNatClampNeg (-4))).bind (fun q58 => fn0_giveFrom_64 rc x1 x2 (fun x4_64 w_64 => some (0, w_64)) 1000 0 q58.2) else none) else some (0, q10.2))) else (fn0_takeAsBest x1 x2 q10.2).bind (fun q21 => some (0, q21.2)))) else some (0, w))
def fn0_giveFrom  : Nat → Int32 → Int32 → Mem → Option (Int32 × Mem)
  | 0, _, _, _ => none
  | dd + 1, x1, x2, w => fn0_giveFrom_b  (fn0_giveFrom  dd) x1 x2 w
set_option maxRecDepth 20000 in
theorem bk0_giveFrom {M : MX} {G : GX} {dd dd0 : Nat} (hdd : dd = dd0 + 1) (C : BC M G shX 71 (eX G) RX0 cX0_giveFrom 6 none (rm0_giveFrom dd)) {z : Int32 × Mem}   {rc : Int32 → Int32 → Mem → Option (Int32 × Mem)} (hrc : ∀ (x1 x2 : Int32) (w : Mem) (z : Int32 × Mem), rc x1 x2 w = some z → MC (mL M) G shX 71 (eX G) yX0_giveFrom cX0_giveFrom 6 none (rm0_giveFrom dd0) [.ref (gad G 60), .int x1, .int x2] w z) (x1 : Int32) (x2 : Int32) {w : Mem} (h : fn0_giveFrom_b  rc x1 x2 w = some z) : BW M G shX 71 6 (ZR M G shX 71 none z) 0 [(0, .ref (gad G 60)), (1, .int x1), (2, .int x2)] [] w := by
  rw [fn0_giveFrom_b] at h
  refine bw_iload_n C 2 dX0_giveFrom_0 rfl rfl ?_
  refine bw_aload_n C 0 dX0_giveFrom_1 rfl rfl ?_
  refine bw_geti C (j := 0) lX60 sX60 rfl inlX0 (by decide) rfl flX0_29 dX0_giveFrom_2 ?_
  refine bw_icmp_lt C (tgt := 9) dX0_giveFrom_5 (by decide) h (fun h => ?_) (fun h => ?_)
  · refine bw_aload_n C 0 dX0_giveFrom_9 rfl rfl ?_
    refine bw_callVi C (As := []) lX60 sX60 rfl miX0_needyOnes mlX0_37 imX0_needyOnes seX0_needyOnes (by subst hdd; constructor <;> simp only [rm0_giveFrom, rm0_needyOnes] <;> omega) rfl rfl (fun z1 h1 => mt0_needyOnes h1) rfl (Nat.le_of_ble_eq_true rfl) rfl dX0_giveFrom_10 h (fun q10 _ h => ?_)
    refine bw_istore_n C [(3, .int q10.1), (0, .ref (gad G 60)), (1, .int x1), (2, .int x2)] dX0_giveFrom_13 rfl (by decide) rfl ?_
    refine bw_iload_n C 0 dX0_giveFrom_14 rfl rfl ?_
    refine bw_if_ne C (tgt := 25) dX0_giveFrom_15 (by decide) h (fun h => ?_) (fun h => ?_)
    · refine bw_iload_n C 0 dX0_giveFrom_25 rfl rfl ?_
      refine bw_aload_n C 1 dX0_giveFrom_26 rfl rfl ?_
      refine bw_getr C (j := 2) (t := 1) lX60 sX60 rfl inlX0 (by decide) rfl flX0_21 dX0_giveFrom_27 ?_
      refine bw_geti C (j := 4) lX1 sX1 rfl inlX6 (by decide) rfl flX0_44 dX0_giveFrom_30 ?_
      refine bw_iload_n C 2 dX0_giveFrom_33 rfl rfl ?_
      refine bw_isub C dX0_giveFrom_34 ?_
      refine bw_icmp_gt C (tgt := 44) dX0_giveFrom_35 (by decide) h (fun h => ?_) (fun h => ?_)
      · exact bw_vret C dX0_giveFrom_44 h
      · refine bw_iload_n C 2 dX0_giveFrom_38 rfl rfl ?_
        refine bw_bipush C (v := 6) dX0_giveFrom_39 (by decide) ?_
        refine bw_icmp_lt C (tgt := 45) dX0_giveFrom_41 (by decide) h (fun h => ?_) (fun h => ?_)
        · refine bw_aload_n C 1 dX0_giveFrom_45 rfl rfl ?_
          refine bw_getr C (j := 3) (t := 62) lX60 sX60 rfl inlX0 (by decide) rfl flX0_15 dX0_giveFrom_46 ?_
          refine bw_iload_n C 2 dX0_giveFrom_49 rfl rfl ?_
          refine bw_bipush C (v := (-4)) dX0_giveFrom_50 (by decide) ?_
          refine bw_iast C lX62 sX62 dX0_giveFrom_52 h (fun h => ?_)
          refine bw_aload_n C 1 dX0_giveFrom_53 rfl rfl ?_
          refine bw_iload_n C 2 dX0_giveFrom_54 rfl rfl ?_
          refine bw_iconst C (v := 1) dX0_giveFrom_55 (by decide) ?_
          refine bw_iadd C dX0_giveFrom_56 ?_
          refine bw_iload_n C 3 dX0_giveFrom_57 rfl rfl ?_
          refine bw_callVv C (As := [.int (x1 + 1), .int x2]) lX60 sX60 rfl miX0_giveFrom mlX0_33 imX0_giveFrom seX0_giveFrom (by subst hdd; constructor <;> simp only [rm0_giveFrom] <;> omega) rfl rfl (fun z1 h1 => hrc (x1 + 1) x2 (up2 q10.2 62 x1.toNatClampNeg (-4)) z1 h1) rfl (Nat.le_of_ble_eq_true rfl) rfl dX0_giveFrom_58 h (fun q58 _ h => ?_)
          refine bw_iconst C (v := 0) dX0_giveFrom_61 (by decide) ?_
          refine bw_istore C [(4, .int 0), (3, .int q10.1), (0, .ref (gad G 60)), (1, .int x1), (2, .int x2)] dX0_giveFrom_62 (by decide) rfl ?_
          refine bw_sub [2, 3, 4, 0] rfl (bk0_giveFrom_64 hdd C hrc x1 x2 (fun x4_64 w_64 h => ?_) 1000 0 q58.2 h)
          exact bw_vret C dX0_giveFrom_163 h
        · exact bw_vret C dX0_giveFrom_44 h
    · refine bw_aload_n C 1 dX0_giveFrom_18 rfl rfl ?_
      refine bw_iload_n C 2 dX0_giveFrom_19 rfl rfl ?_
      refine bw_iload_n C 3 dX0_giveFrom_20 rfl rfl ?_
      refine bw_callVv C (As := [.int x1, .int x2]) lX60 sX60 rfl miX0_takeAsBest mlX0_41 imX0_takeAsBest seX0_takeAsBest (by subst hdd; constructor <;> simp only [rm0_giveFrom, rm0_takeAsBest] <;> omega) rfl rfl (fun z1 h1 => mt0_takeAsBest h1) rfl (Nat.le_of_ble_eq_true rfl) rfl dX0_giveFrom_21 h (fun q21 _ h => ?_)
      exact bw_vret C dX0_giveFrom_24 h
  · exact bw_vret C dX0_giveFrom_8 h
theorem mt0_giveFrom {l : Launch} {G : GX}   : ∀ (dd : Nat) (x1 : Int32) (x2 : Int32) (w : Mem) (z : Int32 × Mem), fn0_giveFrom  dd x1 x2 w = some z → MC l G shX 71 (eX G) yX0_giveFrom cX0_giveFrom 6 none (rm0_giveFrom dd) [.ref (gad G 60), .int x1, .int x2] w z := by
  intro dd
  induction dd with
  | zero =>
    intro x1 x2 w z h
    have h : (none : Option (Int32 × Mem)) = some z := h
    cases h
  | succ dd ih =>
    intro x1 x2 w z h
    rw [fn0_giveFrom] at h
    refine met_of (by decide +kernel) (eX_ok G) rfl (Nat.le_of_ble_eq_true rfl) (fun M hM C => ?_)
    subst hM
    exact bk0_giveFrom (dd0 := dd) rfl C  ih x1 x2 h
def rm0_plan : Room := { frames := 11, cells := 0, slots := 0, locals := 267 }
def fn0_plan_26 (x1 : Int32) (x2 : Int32) (x3 : Int32) (t0 : Int32) (t1 : Int32) (kb : Int32 → Mem → Option (Int32 × Mem)) (w : Mem) : Option (Int32 × Mem) := (if ib t1 6 = true then kb (x3 + 1) (up2 w 63 t1.toNatClampNeg t0) else none)
set_option maxRecDepth 20000 in
theorem bk0_plan_26 {M : MX} {G : GX} (C : BC M G shX 71 (eX G) RX0 cX0_plan 4 (some .boolean) rm0_plan) {z : Int32 × Mem} (x1 : Int32) (x2 : Int32) (x3 : Int32) (t0 : Int32) (t1 : Int32) {kb : Int32 → Mem → Option (Int32 × Mem)} (hkb : ∀ (x3 : Int32) (w : Mem), kb x3 w = some z → BW M G shX 71 4 (ZR M G shX 71 (some .boolean) z) 2 [(0, .ref (gad G 60)), (1, .int x1), (2, .int x2), (3, .int x3)] [] w) {w : Mem} (h : fn0_plan_26 x1 x2 x3 t0 t1 kb w = some z) : BW M G shX 71 4 (ZR M G shX 71 (some .boolean) z) 26 [(0, .ref (gad G 60)), (1, .int x1), (2, .int x2), (3, .int x3)] [.int t0, .int t1, .ref (gad G 63)] w := by
  rw [fn0_plan_26] at h
  refine bw_iast C lX63 sX63 dX0_plan_26 h (fun h => ?_)
  refine bw_iinc C [(3, .int (x3 + 1)), (0, .ref (gad G 60)), (1, .int x1), (2, .int x2)] 3 dX0_plan_27 rfl rfl (by decide) rfl ?_
  refine bw_goto C (tgt := 2) dX0_plan_30 (by decide) ?_
  exact bw_sub [1, 2, 3, 0] rfl (hkb (x3 + 1) (up2 w 63 t1.toNatClampNeg t0) h)
def fn0_plan_2 (x1 : Int32) (x2 : Int32) (k : Int32 → Mem → Option (Int32 × Mem)) : Nat → Int32 → Mem → Option (Int32 × Mem)
  | 0, _, _ => none
  | nn + 1, x3, w => (if 6 ≤ x3 then k x3 w else (fn7_hasBit x1 x3 w).bind (fun q15 => (if q15.1 = 0 then fn0_plan_26 x1 x2 x3 0 x3 (fn0_plan_2 x1 x2 k nn) q15.2 else fn0_plan_26 x1 x2 x3 x2 x3 (fn0_plan_2 x1 x2 k nn) q15.2)))
set_option maxRecDepth 20000 in
theorem bk0_plan_2 {M : MX} {G : GX} (C : BC M G shX 71 (eX G) RX0 cX0_plan 4 (some .boolean) rm0_plan) {z : Int32 × Mem} (x1 : Int32) (x2 : Int32) {k : Int32 → Mem → Option (Int32 × Mem)} (hk : ∀ (x3 : Int32) (w : Mem), k x3 w = some z → BW M G shX 71 4 (ZR M G shX 71 (some .boolean) z) 33 [(0, .ref (gad G 60))] [] w) : ∀ (nn : Nat) (x3 : Int32) (w : Mem), fn0_plan_2 x1 x2 k nn x3 w = some z → BW M G shX 71 4 (ZR M G shX 71 (some .boolean) z) 2 [(0, .ref (gad G 60)), (1, .int x1), (2, .int x2), (3, .int x3)] [] w := by
  intro nn
  induction nn with
  | zero =>
    intro x3 w h
    have h : (none : Option (Int32 × Mem)) = some z := h
    cases h
  | succ nn ih =>
    intro x3 w h
    rw [fn0_plan_2] at h
    refine bw_iload_n C 3 dX0_plan_2 rfl rfl ?_
    refine bw_bipush C (v := 6) dX0_plan_3 (by decide) ?_
    refine bw_icmp_ge C (tgt := 33) dX0_plan_5 (by decide) h (fun h => ?_) (fun h => ?_)
    · exact bw_sub [0] rfl (hk x3 w h)
    · refine bw_aload_n C 0 dX0_plan_8 rfl rfl ?_
      refine bw_getr C (j := 4) (t := 63) lX60 sX60 rfl inlX0 (by decide) rfl flX0_18 dX0_plan_9 ?_
      refine bw_iload_n C 3 dX0_plan_12 rfl rfl ?_
      refine bw_iload_n C 1 dX0_plan_13 rfl rfl ?_
      refine bw_iload_n C 3 dX0_plan_14 rfl rfl ?_
      refine bw_callSNi C (As := [.int x1, .int x3]) miX7_hasBit (nstAt C.2.2.2.2.2.2.2.2.2.1.1 6 rfl) smX7_hasBit (by decide) rfl rfl (fun z1 h1 => mt7_hasBit h1) rfl (Nat.le_of_ble_eq_true rfl) rfl dX0_plan_15 h (fun q15 _ h => ?_)
      refine bw_if_eq C (tgt := 25) dX0_plan_18 (by decide) h (fun h => ?_) (fun h => ?_)
      · refine bw_iconst C (v := 0) dX0_plan_25 (by decide) ?_
        exact bw_sub [0, 1, 2, 3] rfl (bk0_plan_26 C x1 x2 x3 0 x3 ih h)
      · refine bw_iload_n C 2 dX0_plan_21 rfl rfl ?_
        refine bw_goto C (tgt := 26) dX0_plan_22 (by decide) ?_
        exact bw_sub [0, 1, 2, 3] rfl (bk0_plan_26 C x1 x2 x3 x2 x3 ih h)
def fn0_plan  (x1 : Int32) (x2 : Int32) (w : Mem) : Option (Int32 × Mem) := fn0_plan_2 x1 x2 (fun x3_2 w_2 => (fn0_giveFrom 8 0 0 (up2 w_2 60 0 73)).bind (fun q42 => (if (q42.2 60 0) = 73 then some (0, q42.2) else some (1, q42.2)))) 1000 0 w
set_option maxRecDepth 20000 in
theorem bk0_plan {M : MX} {G : GX} (C : BC M G shX 71 (eX G) RX0 cX0_plan 4 (some .boolean) rm0_plan) {z : Int32 × Mem}   (x1 : Int32) (x2 : Int32) {w : Mem} (h : fn0_plan  x1 x2 w = some z) : BW M G shX 71 4 (ZR M G shX 71 (some .boolean) z) 0 [(0, .ref (gad G 60)), (1, .int x1), (2, .int x2)] [] w := by
  rw [fn0_plan] at h
  refine bw_iconst C (v := 0) dX0_plan_0 (by decide) ?_
  refine bw_istore_n C [(3, .int 0), (0, .ref (gad G 60)), (1, .int x1), (2, .int x2)] dX0_plan_1 rfl (by decide) rfl ?_
  refine bw_sub [1, 2, 3, 0] rfl (bk0_plan_2 C x1 x2 (fun x3_2 w_2 h => ?_) 1000 0 w h)
  refine bw_aload_n C 0 dX0_plan_33 rfl rfl ?_
  refine bw_bipush C (v := 73) dX0_plan_34 (by decide) ?_
  refine bw_puti C (j := 0) (ty := .int) lX60 sX60 rfl inlX0 (by decide) tyX0 tyX0_ok nmX0 rfl flX0_29 rfl (by decide +kernel) rfl rfl dX0_plan_36 ?_
  refine bw_aload_n C 0 dX0_plan_39 rfl rfl ?_
  refine bw_iconst C (v := 0) dX0_plan_40 (by decide) ?_
  refine bw_iconst C (v := 0) dX0_plan_41 (by decide) ?_
  refine bw_callVv C (As := [.int 0, .int 0]) lX60 sX60 rfl miX0_giveFrom mlX0_33 imX0_giveFrom seX0_giveFrom (by decide) rfl rfl (fun z1 h1 => mt0_giveFrom 8 0 0 (up2 w_2 60 0 73) z1 h1) rfl (Nat.le_of_ble_eq_true rfl) rfl dX0_plan_42 h (fun q42 _ h => ?_)
  refine bw_aload_n C 0 dX0_plan_45 rfl rfl ?_
  refine bw_geti C (j := 0) lX60 sX60 rfl inlX0 (by decide) rfl flX0_29 dX0_plan_46 ?_
  refine bw_bipush C (v := 73) dX0_plan_49 (by decide) ?_
  refine bw_icmp_eq C (tgt := 58) dX0_plan_51 (by decide) h (fun h => ?_) (fun h => ?_)
  · refine bw_iconst C (v := 0) dX0_plan_58 (by decide) ?_
    exact bw_zretc C dX0_plan_59 rfl h
  · refine bw_iconst C (v := 1) dX0_plan_54 (by decide) ?_
    refine bw_goto C (tgt := 59) dX0_plan_55 (by decide) ?_
    exact bw_zretc C dX0_plan_59 rfl h
theorem mt0_plan {l : Launch} {G : GX}   {x1 : Int32} {x2 : Int32} {w : Mem} {z : Int32 × Mem} (h : fn0_plan  x1 x2 w = some z) : MC l G shX 71 (eX G) yX0_plan cX0_plan 4 (some .boolean) rm0_plan [.ref (gad G 60), .int x1, .int x2] w z := by
  refine met_of (by decide +kernel) (eX_ok G) rfl (Nat.le_of_ble_eq_true rfl) (fun M hM C => ?_)
  subst hM
  exact bk0_plan C  x1 x2 h
