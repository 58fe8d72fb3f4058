def rm7_knows : Room := { frames := 5, cells := 0, slots := 0, locals := 104 }
def fn7_knows  (x1 : Int32) (x2 : Int32) (w : Mem) : Option (Int32 × Mem) := (fn6_hasOne 1 x1 w).bind (fun q5 => (if q5.1 = 0 then some ((-1), q5.2) else (fn7_isHour x2 q5.2).bind (fun q12 => (if ¬ q12.1 = 0 then (fn2_takeSilence q12.2).bind (fun q24 => (fn2_knowersBehind x1 x2 q24.2).bind (fun q33 => some (q33.1, q33.2))) else some ((-1), q12.2)))))
set_option maxRecDepth 20000 in
theorem bk7_knows {M : MX} {G : GX} (C : BC M G shX 71 (eX G) RX7 cX7_knows 3 (some .int) rm7_knows) {z : Int32 × Mem}   (x1 : Int32) (x2 : Int32) {w : Mem} (h : fn7_knows  x1 x2 w = some z) : BW M G shX 71 3 (ZR M G shX 71 (some .int) z) 0 [(0, .ref (gad G 0)), (1, .int x1), (2, .int x2)] [] w := by
  rw [fn7_knows] at h
  refine bw_aload_n C 0 dX7_knows_0 rfl rfl ?_
  refine bw_getr C (j := 2) (t := 1) lX0 sX0 rfl inlX7 (by decide) rfl flX7_28 dX7_knows_1 ?_
  refine bw_iload_n C 1 dX7_knows_4 rfl rfl ?_
  refine bw_callVi C (As := [.int x1]) lX1 sX1 rfl miX6_hasOne mlX7_122 imX6_hasOne seX6_hasOne (by decide) rfl rfl (fun z1 h1 => mt6_hasOne isT_1 h1) rfl (Nat.le_of_ble_eq_true rfl) rfl dX7_knows_5 h (fun q5 _ h => ?_)
  refine bw_if_eq C (tgt := 18) dX7_knows_8 (by decide) h (fun h => ?_) (fun h => ?_)
  · refine bw_iconst C (v := (-1)) dX7_knows_18 (by decide) ?_
    exact bw_iret C dX7_knows_19 h
  · refine bw_iload_n C 2 dX7_knows_11 rfl rfl ?_
    refine bw_callSi C (As := [.int x2]) miX7_isHour mlX7_174 smX7_isHour (by decide) rfl rfl (fun z1 h1 => mt7_isHour h1) rfl (Nat.le_of_ble_eq_true rfl) rfl dX7_knows_12 h (fun q12 _ h => ?_)
    refine bw_if_ne C (tgt := 20) dX7_knows_15 (by decide) h (fun h => ?_) (fun h => ?_)
    · refine bw_aload_n C 0 dX7_knows_20 rfl rfl ?_
      refine bw_getr C (j := 3) (t := 56) lX0 sX0 rfl inlX7 (by decide) rfl flX7_37 dX7_knows_21 ?_
      refine bw_callVv C (As := []) lX56 sX56 rfl miX2_takeSilence mlX7_195 imX2_takeSilence seX2_takeSilence (by decide) rfl rfl (fun z1 h1 => mt2_takeSilence h1) rfl (Nat.le_of_ble_eq_true rfl) rfl dX7_knows_24 h (fun q24 _ h => ?_)
      refine bw_aload_n C 0 dX7_knows_27 rfl rfl ?_
      refine bw_getr C (j := 3) (t := 56) lX0 sX0 rfl inlX7 (by decide) rfl flX7_37 dX7_knows_28 ?_
      refine bw_iload_n C 1 dX7_knows_31 rfl rfl ?_
      refine bw_iload_n C 2 dX7_knows_32 rfl rfl ?_
      refine bw_callVi C (As := [.int x1, .int x2]) lX56 sX56 rfl miX2_knowersBehind mlX7_198 imX2_knowersBehind seX2_knowersBehind (by decide) rfl rfl (fun z1 h1 => mt2_knowersBehind h1) rfl (Nat.le_of_ble_eq_true rfl) rfl dX7_knows_33 h (fun q33 _ h => ?_)
      exact bw_iret C dX7_knows_36 h
    · refine bw_iconst C (v := (-1)) dX7_knows_18 (by decide) ?_
      exact bw_iret C dX7_knows_19 h
theorem mt7_knows {l : Launch} {G : GX}   {x1 : Int32} {x2 : Int32} {w : Mem} {z : Int32 × Mem} (h : fn7_knows  x1 x2 w = some z) : MC l G shX 71 (eX G) yX7_knows cX7_knows 3 (some .int) rm7_knows [.ref (gad G 0), .int x1, .int x2] w z := by
  refine met_of (by decide +kernel) (eX_ok G) rfl (Nat.le_of_ble_eq_true rfl) (fun M hM C => ?_)
  subst hM
  exact bk7_knows C  x1 x2 h
def rm7_learns : Room := { frames := 5, cells := 0, slots := 0, locals := 104 }
def fn7_learns  (x1 : Int32) (x2 : Int32) (w : Mem) : Option (Int32 × Mem) := (fn6_hasOne 1 x1 w).bind (fun q5 => (if q5.1 = 0 then some ((-1), q5.2) else (fn6_hasOne 1 x2 q5.2).bind (fun q16 => (if ¬ q16.1 = 0 then (fn2_takeSilence q16.2).bind (fun q28 => (fn2_hourItComes x1 x2 q28.2).bind (fun q37 => some (q37.1, q37.2))) else some ((-1), q16.2)))))
set_option maxRecDepth 20000 in
theorem bk7_learns {M : MX} {G : GX} (C : BC M G shX 71 (eX G) RX7 cX7_learns 3 (some .int) rm7_learns) {z : Int32 × Mem}   (x1 : Int32) (x2 : Int32) {w : Mem} (h : fn7_learns  x1 x2 w = some z) : BW M G shX 71 3 (ZR M G shX 71 (some .int) z) 0 [(0, .ref (gad G 0)), (1, .int x1), (2, .int x2)] [] w := by
  rw [fn7_learns] at h
  refine bw_aload_n C 0 dX7_learns_0 rfl rfl ?_
  refine bw_getr C (j := 2) (t := 1) lX0 sX0 rfl inlX7 (by decide) rfl flX7_28 dX7_learns_1 ?_
  refine bw_iload_n C 1 dX7_learns_4 rfl rfl ?_
  refine bw_callVi C (As := [.int x1]) lX1 sX1 rfl miX6_hasOne mlX7_122 imX6_hasOne seX6_hasOne (by decide) rfl rfl (fun z1 h1 => mt6_hasOne isT_1 h1) rfl (Nat.le_of_ble_eq_true rfl) rfl dX7_learns_5 h (fun q5 _ h => ?_)
  refine bw_if_eq C (tgt := 22) dX7_learns_8 (by decide) h (fun h => ?_) (fun h => ?_)
  · refine bw_iconst C (v := (-1)) dX7_learns_22 (by decide) ?_
    exact bw_iret C dX7_learns_23 h
  · refine bw_aload_n C 0 dX7_learns_11 rfl rfl ?_
    refine bw_getr C (j := 2) (t := 1) lX0 sX0 rfl inlX7 (by decide) rfl flX7_28 dX7_learns_12 ?_
    refine bw_iload_n C 2 dX7_learns_15 rfl rfl ?_
    refine bw_callVi C (As := [.int x2]) lX1 sX1 rfl miX6_hasOne mlX7_122 imX6_hasOne seX6_hasOne (by decide) rfl rfl (fun z1 h1 => mt6_hasOne isT_1 h1) rfl (Nat.le_of_ble_eq_true rfl) rfl dX7_learns_16 h (fun q16 _ h => ?_)
    refine bw_if_ne C (tgt := 24) dX7_learns_19 (by decide) h (fun h => ?_) (fun h => ?_)
    · refine bw_aload_n C 0 dX7_learns_24 rfl rfl ?_
      refine bw_getr C (j := 3) (t := 56) lX0 sX0 rfl inlX7 (by decide) rfl flX7_37 dX7_learns_25 ?_
      refine bw_callVv C (As := []) lX56 sX56 rfl miX2_takeSilence mlX7_195 imX2_takeSilence seX2_takeSilence (by decide) rfl rfl (fun z1 h1 => mt2_takeSilence h1) rfl (Nat.le_of_ble_eq_true rfl) rfl dX7_learns_28 h (fun q28 _ h => ?_)
      refine bw_aload_n C 0 dX7_learns_31 rfl rfl ?_
      refine bw_getr C (j := 3) (t := 56) lX0 sX0 rfl inlX7 (by decide) rfl flX7_37 dX7_learns_32 ?_
      refine bw_iload_n C 1 dX7_learns_35 rfl rfl ?_
      refine bw_iload_n C 2 dX7_learns_36 rfl rfl ?_
      refine bw_callVi C (As := [.int x1, .int x2]) lX56 sX56 rfl miX2_hourItComes mlX7_201 imX2_hourItComes seX2_hourItComes (by decide) rfl rfl (fun z1 h1 => mt2_hourItComes h1) rfl (Nat.le_of_ble_eq_true rfl) rfl dX7_learns_37 h (fun q37 _ h => ?_)
      exact bw_iret C dX7_learns_40 h
    · refine bw_iconst C (v := (-1)) dX7_learns_22 (by decide) ?_
      exact bw_iret C dX7_learns_23 h
theorem mt7_learns {l : Launch} {G : GX}   {x1 : Int32} {x2 : Int32} {w : Mem} {z : Int32 × Mem} (h : fn7_learns  x1 x2 w = some z) : MC l G shX 71 (eX G) yX7_learns cX7_learns 3 (some .int) rm7_learns [.ref (gad G 0), .int x1, .int x2] w z := by
  refine met_of (by decide +kernel) (eX_ok G) rfl (Nat.le_of_ble_eq_true rfl) (fun M hM C => ?_)
  subst hM
  exact bk7_learns C  x1 x2 h
def rm7_hush : Room := { frames := 6, cells := 0, slots := 0, locals := 128 }
def fn7_hush_105 (x1 : Int32) (x2 : Int32) (x3 : Int32) (x4 : Int32) (t0 : Int32) (kb : Int32 → Mem → Option (Int32 × Mem)) (w : Mem) : Option (Int32 × Mem) := (if t0 = (-4) then kb (x4 + 1) w else (if ¬ x3 = 0 then some (t0, w) else some (x4, w)))
set_option maxRecDepth 20000 in
theorem bk7_hush_105 {M : MX} {G : GX} (C : BC M G shX 71 (eX G) RX7 cX7_hush 6 (some .int) rm7_hush) {z : Int32 × Mem} (x1 : Int32) (x2 : Int32) (x3 : Int32) (x4 : Int32) (t0 : Int32) {kb : Int32 → Mem → Option (Int32 × Mem)} (hkb : ∀ (x4 : Int32) (w : Mem), kb x4 w = some z → BW M G shX 71 6 (ZR M G shX 71 (some .int) z) 65 [(0, .ref (gad G 0)), (1, .int x1), (2, .int x2), (3, .int x3), (4, .int x4)] [] w) {w : Mem} (h : fn7_hush_105 x1 x2 x3 x4 t0 kb w = some z) : BW M G shX 71 6 (ZR M G shX 71 (some .int) z) 105 [(0, .ref (gad G 0)), (1, .int x1), (2, .int x2), (3, .int x3), (4, .int x4)] [.int t0] w := by
  rw [fn7_hush_105] at h
  refine bw_istore C [(5, .int t0), (0, .ref (gad G 0)), (1, .int x1), (2, .int x2), (3, .int x3), (4, .int x4)] dX7_hush_105 (by decide) rfl ?_
  refine bw_iload C 0 dX7_hush_107 rfl ?_
  refine bw_bipush C (v := (-4)) dX7_hush_109 (by decide) ?_
  refine bw_icmp_eq C (tgt := 126) dX7_hush_111 (by decide) h (fun h => ?_) (fun h => ?_)
  · refine bw_iinc C [(4, .int (x4 + 1)), (5, .int t0), (0, .ref (gad G 0)), (1, .int x1), (2, .int x2), (3, .int x3)] 5 dX7_hush_126 rfl rfl (by decide) rfl ?_
    refine bw_goto C (tgt := 65) dX7_hush_129 (by decide) ?_
    exact bw_sub [2, 3, 4, 5, 0] rfl (hkb (x4 + 1) w h)
  · refine bw_iload_n C 4 dX7_hush_114 rfl rfl ?_
    refine bw_if_ne C (tgt := 123) dX7_hush_115 (by decide) h (fun h => ?_) (fun h => ?_)
    · refine bw_iload C 0 dX7_hush_123 rfl ?_
      exact bw_iret C dX7_hush_125 h
    · refine bw_iload C 5 dX7_hush_118 rfl ?_
      refine bw_goto C (tgt := 125) dX7_hush_120 (by decide) ?_
      exact bw_iret C dX7_hush_125 h
def fn7_hush_65 (x1 : Int32) (x2 : Int32) (x3 : Int32) (k : Int32 → Mem → Option (Int32 × Mem)) : Nat → Int32 → Mem → Option (Int32 × Mem)
  | 0, _, _ => none
  | nn + 1, x4, w => (if (w 1 4) ≤ x4 then k x4 w else (fn6_isSpent 1 x4 w).bind (fun q83 => (if q83.1 = 0 then (fn2_hushingHour x4 x1 x2 q83.2).bind (fun q102 => fn7_hush_105 x1 x2 x3 x4 q102.1 (fn7_hush_65 x1 x2 x3 k nn) q102.2) else fn7_hush_105 x1 x2 x3 x4 (-4) (fn7_hush_65 x1 x2 x3 k nn) q83.2)))
set_option maxRecDepth 20000 in
theorem bk7_hush_65 {M : MX} {G : GX} (C : BC M G shX 71 (eX G) RX7 cX7_hush 6 (some .int) rm7_hush) {z : Int32 × Mem} (x1 : Int32) (x2 : Int32) (x3 : Int32) {k : Int32 → Mem → Option (Int32 × Mem)} (hk : ∀ (x4 : Int32) (w : Mem), k x4 w = some z → BW M G shX 71 6 (ZR M G shX 71 (some .int) z) 132 [] [] w) : ∀ (nn : Nat) (x4 : Int32) (w : Mem), fn7_hush_65 x1 x2 x3 k nn x4 w = some z → BW M G shX 71 6 (ZR M G shX 71 (some .int) z) 65 [(0, .ref (gad G 0)), (1, .int x1), (2, .int x2), (3, .int x3), (4, .int x4)] [] w := by
  intro nn
  induction nn with
  | zero =>
    intro x4 w h
    have h : (none : Option (Int32 × Mem)) = some z := h
    cases h
  | succ nn ih =>
    intro x4 w h
    rw [fn7_hush_65] at h
    refine bw_iload C 4 dX7_hush_65 rfl ?_
    refine bw_aload_n C 0 dX7_hush_67 rfl rfl ?_
    refine bw_getr C (j := 2) (t := 1) lX0 sX0 rfl inlX7 (by decide) rfl flX7_28 dX7_hush_68 ?_
    refine bw_geti C (j := 4) lX1 sX1 rfl inlX6 (by decide) rfl flX7_110 dX7_hush_71 ?_
    refine bw_icmp_ge C (tgt := 132) dX7_hush_74 (by decide) h (fun h => ?_) (fun h => ?_)
    · exact bw_sub [] rfl (hk x4 w h)
    · refine bw_aload_n C 0 dX7_hush_77 rfl rfl ?_
      refine bw_getr C (j := 2) (t := 1) lX0 sX0 rfl inlX7 (by decide) rfl flX7_28 dX7_hush_78 ?_
      refine bw_iload C 4 dX7_hush_81 rfl ?_
      refine bw_callVi C (As := [.int x4]) lX1 sX1 rfl miX6_isSpent mlX7_171 imX6_isSpent seX6_isSpent (by decide) rfl rfl (fun z1 h1 => mt6_isSpent isT_1 h1) rfl (Nat.le_of_ble_eq_true rfl) rfl dX7_hush_83 h (fun q83 _ h => ?_)
      refine bw_if_eq C (tgt := 94) dX7_hush_86 (by decide) h (fun h => ?_) (fun h => ?_)
      · refine bw_aload_n C 0 dX7_hush_94 rfl rfl ?_
        refine bw_getr C (j := 3) (t := 56) lX0 sX0 rfl inlX7 (by decide) rfl flX7_37 dX7_hush_95 ?_
        refine bw_iload C 4 dX7_hush_98 rfl ?_
        refine bw_iload_n C 1 dX7_hush_100 rfl rfl ?_
        refine bw_iload_n C 2 dX7_hush_101 rfl rfl ?_
        refine bw_callVi C (As := [.int x4, .int x1, .int x2]) lX56 sX56 rfl miX2_hushingHour mlX7_204 imX2_hushingHour seX2_hushingHour (by decide) rfl rfl (fun z1 h1 => mt2_hushingHour h1) rfl (Nat.le_of_ble_eq_true rfl) rfl dX7_hush_102 h (fun q102 _ h => ?_)
        exact bw_sub [0, 1, 2, 3, 4] rfl (bk7_hush_105 C x1 x2 x3 x4 q102.1 ih h)
      · refine bw_bipush C (v := (-4)) dX7_hush_89 (by decide) ?_
        refine bw_goto C (tgt := 105) dX7_hush_91 (by decide) ?_
        exact bw_sub [0, 1, 2, 3, 4] rfl (bk7_hush_105 C x1 x2 x3 x4 (-4) ih h)
def fn7_hush  (x1 : Int32) (x2 : Int32) (x3 : Int32) (w : Mem) : Option (Int32 × Mem) := (fn6_hasOne 1 x1 w).bind (fun q5 => (if q5.1 = 0 then some ((-1), q5.2) else (fn6_hasOne 1 x2 q5.2).bind (fun q16 => (if q16.1 = 0 then some ((-1), q16.2) else (if x1 = x2 then some ((-1), q16.2) else (if x3 < 0 then some ((-1), q16.2) else (if x3 ≤ 1 then (fn2_takeSilence q16.2).bind (fun q42 => (fn2_hourItComes x1 x2 q42.2).bind (fun q51 => (if ¬ q51.1 = (-4) then fn7_hush_65 x1 x2 x3 (fun x4_65 w_65 => some ((-4), w_65)) 1000 0 q51.2 else some ((-2), q51.2)))) else some ((-1), q16.2))))))))
set_option maxRecDepth 20000 in
theorem bk7_hush {M : MX} {G : GX} (C : BC M G shX 71 (eX G) RX7 cX7_hush 6 (some .int) rm7_hush) {z : Int32 × Mem}   (x1 : Int32) (x2 : Int32) (x3 : Int32) {w : Mem} (h : fn7_hush  x1 x2 x3 w = some z) : BW M G shX 71 6 (ZR M G shX 71 (some .int) z) 0 [(0, .ref (gad G 0)), (1, .int x1), (2, .int x2), (3, .int x3)] [] w := by
  rw [fn7_hush] at h
  refine bw_aload_n C 0 dX7_hush_0 rfl rfl ?_
  refine bw_getr C (j := 2) (t := 1) lX0 sX0 rfl inlX7 (by decide) rfl flX7_28 dX7_hush_1 ?_
  refine bw_iload_n C 1 dX7_hush_4 rfl rfl ?_
  refine bw_callVi C (As := [.int x1]) lX1 sX1 rfl miX6_hasOne mlX7_122 imX6_hasOne seX6_hasOne (by decide) rfl rfl (fun z1 h1 => mt6_hasOne isT_1 h1) rfl (Nat.le_of_ble_eq_true rfl) rfl dX7_hush_5 h (fun q5 _ h => ?_)
  refine bw_if_eq C (tgt := 36) dX7_hush_8 (by decide) h (fun h => ?_) (fun h => ?_)
  · refine bw_iconst C (v := (-1)) dX7_hush_36 (by decide) ?_
    exact bw_iret C dX7_hush_37 h
  · refine bw_aload_n C 0 dX7_hush_11 rfl rfl ?_
    refine bw_getr C (j := 2) (t := 1) lX0 sX0 rfl inlX7 (by decide) rfl flX7_28 dX7_hush_12 ?_
    refine bw_iload_n C 2 dX7_hush_15 rfl rfl ?_
    refine bw_callVi C (As := [.int x2]) lX1 sX1 rfl miX6_hasOne mlX7_122 imX6_hasOne seX6_hasOne (by decide) rfl rfl (fun z1 h1 => mt6_hasOne isT_1 h1) rfl (Nat.le_of_ble_eq_true rfl) rfl dX7_hush_16 h (fun q16 _ h => ?_)
    refine bw_if_eq C (tgt := 36) dX7_hush_19 (by decide) h (fun h => ?_) (fun h => ?_)
    · refine bw_iconst C (v := (-1)) dX7_hush_36 (by decide) ?_
      exact bw_iret C dX7_hush_37 h
    · refine bw_iload_n C 1 dX7_hush_22 rfl rfl ?_
      refine bw_iload_n C 2 dX7_hush_23 rfl rfl ?_
      refine bw_icmp_eq C (tgt := 36) dX7_hush_24 (by decide) h (fun h => ?_) (fun h => ?_)
      · refine bw_iconst C (v := (-1)) dX7_hush_36 (by decide) ?_
        exact bw_iret C dX7_hush_37 h
      · refine bw_iload_n C 3 dX7_hush_27 rfl rfl ?_
        refine bw_if_lt C (tgt := 36) dX7_hush_28 (by decide) h (fun h => ?_) (fun h => ?_)
        · refine bw_iconst C (v := (-1)) dX7_hush_36 (by decide) ?_
          exact bw_iret C dX7_hush_37 h
        · refine bw_iload_n C 3 dX7_hush_31 rfl rfl ?_
          refine bw_iconst C (v := 1) dX7_hush_32 (by decide) ?_
          refine bw_icmp_le C (tgt := 38) dX7_hush_33 (by decide) h (fun h => ?_) (fun h => ?_)
          · refine bw_aload_n C 0 dX7_hush_38 rfl rfl ?_
            refine bw_getr C (j := 3) (t := 56) lX0 sX0 rfl inlX7 (by decide) rfl flX7_37 dX7_hush_39 ?_
            refine bw_callVv C (As := []) lX56 sX56 rfl miX2_takeSilence mlX7_195 imX2_takeSilence seX2_takeSilence (by decide) rfl rfl (fun z1 h1 => mt2_takeSilence h1) rfl (Nat.le_of_ble_eq_true rfl) rfl dX7_hush_42 h (fun q42 _ h => ?_)
            refine bw_aload_n C 0 dX7_hush_45 rfl rfl ?_
            refine bw_getr C (j := 3) (t := 56) lX0 sX0 rfl inlX7 (by decide) rfl flX7_37 dX7_hush_46 ?_
            refine bw_iload_n C 1 dX7_hush_49 rfl rfl ?_
            refine bw_iload_n C 2 dX7_hush_50 rfl rfl ?_
            refine bw_callVi C (As := [.int x1, .int x2]) lX56 sX56 rfl miX2_hourItComes mlX7_201 imX2_hourItComes seX2_hourItComes (by decide) rfl rfl (fun z1 h1 => mt2_hourItComes h1) rfl (Nat.le_of_ble_eq_true rfl) rfl dX7_hush_51 h (fun q51 _ h => ?_)
            refine bw_bipush C (v := (-4)) dX7_hush_54 (by decide) ?_
            refine bw_icmp_ne C (tgt := 62) dX7_hush_56 (by decide) h (fun h => ?_) (fun h => ?_)
            · refine bw_iconst C (v := 0) dX7_hush_62 (by decide) ?_
              refine bw_istore C [(4, .int 0), (0, .ref (gad G 0)), (1, .int x1), (2, .int x2), (3, .int x3)] dX7_hush_63 (by decide) rfl ?_
              refine bw_sub [1, 2, 3, 4, 0] rfl (bk7_hush_65 C x1 x2 x3 (fun x4_65 w_65 h => ?_) 1000 0 q51.2 h)
              refine bw_bipush C (v := (-4)) dX7_hush_132 (by decide) ?_
              exact bw_iret C dX7_hush_134 h
            · refine bw_bipush C (v := (-2)) dX7_hush_59 (by decide) ?_
              exact bw_iret C dX7_hush_61 h
          · refine bw_iconst C (v := (-1)) dX7_hush_36 (by decide) ?_
            exact bw_iret C dX7_hush_37 h
theorem mt7_hush {l : Launch} {G : GX}   {x1 : Int32} {x2 : Int32} {x3 : Int32} {w : Mem} {z : Int32 × Mem} (h : fn7_hush  x1 x2 x3 w = some z) : MC l G shX 71 (eX G) yX7_hush cX7_hush 6 (some .int) rm7_hush [.ref (gad G 0), .int x1, .int x2, .int x3] w z := by
  refine met_of (by decide +kernel) (eX_ok G) rfl (Nat.le_of_ble_eq_true rfl) (fun M hM C => ?_)
  subst hM
  exact bk7_hush C  x1 x2 x3 h
def rm7_hear : Room := { frames := 1, cells := 0, slots := 0, locals := 22 }
def fn7_hear  (x1 : Int32) (x2 : Int32) (w : Mem) : Option (Int32 × Mem) := (fn6_hasOne 1 x1 w).bind (fun q5 => (if q5.1 = 0 then some ((-1), q5.2) else (fn2_note x1 x2 q5.2).bind (fun q17 => some (q17.1, q17.2))))
set_option maxRecDepth 20000 in
theorem bk7_hear {M : MX} {G : GX} (C : BC M G shX 71 (eX G) RX7 cX7_hear 3 (some .int) rm7_hear) {z : Int32 × Mem}   (x1 : Int32) (x2 : Int32) {w : Mem} (h : fn7_hear  x1 x2 w = some z) : BW M G shX 71 3 (ZR M G shX 71 (some .int) z) 0 [(0, .ref (gad G 0)), (1, .int x1), (2, .int x2)] [] w := by
  rw [fn7_hear] at h
  refine bw_aload_n C 0 dX7_hear_0 rfl rfl ?_
  refine bw_getr C (j := 2) (t := 1) lX0 sX0 rfl inlX7 (by decide) rfl flX7_28 dX7_hear_1 ?_
  refine bw_iload_n C 1 dX7_hear_4 rfl rfl ?_
  refine bw_callVi C (As := [.int x1]) lX1 sX1 rfl miX6_hasOne mlX7_122 imX6_hasOne seX6_hasOne (by decide) rfl rfl (fun z1 h1 => mt6_hasOne isT_1 h1) rfl (Nat.le_of_ble_eq_true rfl) rfl dX7_hear_5 h (fun q5 _ h => ?_)
  refine bw_if_eq C (tgt := 23) dX7_hear_8 (by decide) h (fun h => ?_) (fun h => ?_)
  · refine bw_iconst C (v := (-1)) dX7_hear_23 (by decide) ?_
    exact bw_iret C dX7_hear_24 h
  · refine bw_aload_n C 0 dX7_hear_11 rfl rfl ?_
    refine bw_getr C (j := 3) (t := 56) lX0 sX0 rfl inlX7 (by decide) rfl flX7_37 dX7_hear_12 ?_
    refine bw_iload_n C 1 dX7_hear_15 rfl rfl ?_
    refine bw_iload_n C 2 dX7_hear_16 rfl rfl ?_
    refine bw_callVi C (As := [.int x1, .int x2]) lX56 sX56 rfl miX2_note mlX7_207 imX2_note seX2_note (by decide) rfl rfl (fun z1 h1 => mt2_note h1) rfl (Nat.le_of_ble_eq_true rfl) rfl dX7_hear_17 h (fun q17 _ h => ?_)
    refine bw_goto C (tgt := 24) dX7_hear_20 (by decide) ?_
    exact bw_iret C dX7_hear_24 h
theorem mt7_hear {l : Launch} {G : GX}   {x1 : Int32} {x2 : Int32} {w : Mem} {z : Int32 × Mem} (h : fn7_hear  x1 x2 w = some z) : MC l G shX 71 (eX G) yX7_hear cX7_hear 3 (some .int) rm7_hear [.ref (gad G 0), .int x1, .int x2] w z := by
  refine met_of (by decide +kernel) (eX_ok G) rfl (Nat.le_of_ble_eq_true rfl) (fun M hM C => ?_)
  subst hM
  exact bk7_hear C  x1 x2 h
def rm7_forget : Room := { frames := 0, cells := 0, slots := 0, locals := 0 }
def fn7_forget  (x1 : Int32) (w : Mem) : Option (Int32 × Mem) := (if x1 < 0 then some ((-1), w) else (if x1 ≤ (w 56 0) then some ((w 56 0), (up2 w 56 0 x1)) else some ((-1), w)))
set_option maxRecDepth 20000 in
theorem bk7_forget {M : MX} {G : GX} (C : BC M G shX 71 (eX G) RX7 cX7_forget 3 (some .int) rm7_forget) {z : Int32 × Mem}   (x1 : Int32) {w : Mem} (h : fn7_forget  x1 w = some z) : BW M G shX 71 3 (ZR M G shX 71 (some .int) z) 0 [(0, .ref (gad G 0)), (1, .int x1)] [] w := by
  rw [fn7_forget] at h
  refine bw_aload_n C 0 dX7_forget_0 rfl rfl ?_
  refine bw_getr C (j := 3) (t := 56) lX0 sX0 rfl inlX7 (by decide) rfl flX7_37 dX7_forget_1 ?_
  refine bw_geti C (j := 0) lX56 sX56 rfl inlX2 (by decide) rfl flX7_95 dX7_forget_4 ?_
  refine bw_istore_n C [(2, .int (w 56 0)), (0, .ref (gad G 0)), (1, .int x1)] dX7_forget_7 rfl (by decide) rfl ?_
  refine bw_iload_n C 2 dX7_forget_8 rfl rfl ?_
  refine bw_if_lt C (tgt := 17) dX7_forget_9 (by decide) h (fun h => ?_) (fun h => ?_)
  · refine bw_iconst C (v := (-1)) dX7_forget_17 (by decide) ?_
    exact bw_iret C dX7_forget_18 h
  · refine bw_iload_n C 2 dX7_forget_12 rfl rfl ?_
    refine bw_iload_n C 0 dX7_forget_13 rfl rfl ?_
    refine bw_icmp_le C (tgt := 19) dX7_forget_14 (by decide) h (fun h => ?_) (fun h => ?_)
    · refine bw_aload_n C 1 dX7_forget_19 rfl rfl ?_
      refine bw_getr C (j := 3) (t := 56) lX0 sX0 rfl inlX7 (by decide) rfl flX7_37 dX7_forget_20 ?_
      refine bw_iload_n C 2 dX7_forget_23 rfl rfl ?_
      refine bw_puti C (j := 0) (ty := .int) lX56 sX56 rfl inlX2 (by decide) tyX2 tyX2_ok nmX2 rfl flX7_95 rfl (by decide +kernel) rfl rfl dX7_forget_24 ?_
      refine bw_iload_n C 0 dX7_forget_27 rfl rfl ?_
      exact bw_iret C dX7_forget_28 h
    · refine bw_iconst C (v := (-1)) dX7_forget_17 (by decide) ?_
      exact bw_iret C dX7_forget_18 h
theorem mt7_forget {l : Launch} {G : GX}   {x1 : Int32} {w : Mem} {z : Int32 × Mem} (h : fn7_forget  x1 w = some z) : MC l G shX 71 (eX G) yX7_forget cX7_forget 3 (some .int) rm7_forget [.ref (gad G 0), .int x1] w z := by
  refine met_of (by decide +kernel) (eX_ok G) rfl (Nat.le_of_ble_eq_true rfl) (fun M hM C => ?_)
  subst hM
  exact bk7_forget C  x1 h
def rm7_first : Room := { frames := 5, cells := 0, slots := 0, locals := 120 }
def fn7_first_11 (k : Int32 → Int32 → Mem → Option (Int32 × Mem)) : Nat → Int32 → Int32 → Mem → Option (Int32 × Mem)
  | 0, _, _, _ => none
  | nn + 1, x1, x2, w => (if (w 1 0) ≤ x2 then k x1 x2 w else (fn2_canBeginWith x2 w).bind (fun q27 => (if q27.1 = 0 then fn7_first_11 k nn x1 (x2 + 1) q27.2 else fn7_first_11 k nn (x1 ||| ((1 : Int32) <<< (x2 &&& 31))) (x2 + 1) q27.2)))
set_option maxRecDepth 20000 in
theorem bk7_first_11 {M : MX} {G : GX} (C : BC M G shX 71 (eX G) RX7 cX7_first 3 (some .int) rm7_first) {z : Int32 × Mem} {k : Int32 → Int32 → Mem → Option (Int32 × Mem)} (hk : ∀ (x1 : Int32) (x2 : Int32) (w : Mem), k x1 x2 w = some z → BW M G shX 71 3 (ZR M G shX 71 (some .int) z) 45 [(1, .int x1)] [] w) : ∀ (nn : Nat) (x1 : Int32) (x2 : Int32) (w : Mem), fn7_first_11 k nn x1 x2 w = some z → BW M G shX 71 3 (ZR M G shX 71 (some .int) z) 11 [(0, .ref (gad G 0)), (1, .int x1), (2, .int x2)] [] w := by
  intro nn
  induction nn with
  | zero =>
    intro x1 x2 w h
    have h : (none : Option (Int32 × Mem)) = some z := h
    cases h
  | succ nn ih =>
    intro x1 x2 w h
    rw [fn7_first_11] at h
    refine bw_iload_n C 2 dX7_first_11 rfl rfl ?_
    refine bw_aload_n C 0 dX7_first_12 rfl rfl ?_
    refine bw_getr C (j := 2) (t := 1) lX0 sX0 rfl inlX7 (by decide) rfl flX7_28 dX7_first_13 ?_
    refine bw_geti C (j := 0) lX1 sX1 rfl inlX6 (by decide) rfl flX7_107 dX7_first_16 ?_
    refine bw_icmp_ge C (tgt := 45) dX7_first_19 (by decide) h (fun h => ?_) (fun h => ?_)
    · exact bw_sub [1] rfl (hk x1 x2 w h)
    · refine bw_aload_n C 0 dX7_first_22 rfl rfl ?_
      refine bw_getr C (j := 3) (t := 56) lX0 sX0 rfl inlX7 (by decide) rfl flX7_37 dX7_first_23 ?_
      refine bw_iload_n C 2 dX7_first_26 rfl rfl ?_
      refine bw_callVi C (As := [.int x2]) lX56 sX56 rfl miX2_canBeginWith mlX7_211 imX2_canBeginWith seX2_canBeginWith (by decide) rfl rfl (fun z1 h1 => mt2_canBeginWith h1) rfl (Nat.le_of_ble_eq_true rfl) rfl dX7_first_27 h (fun q27 _ h => ?_)
      refine bw_if_eq C (tgt := 39) dX7_first_30 (by decide) h (fun h => ?_) (fun h => ?_)
      · refine bw_iinc C [(2, .int (x2 + 1)), (0, .ref (gad G 0)), (1, .int x1)] 2 dX7_first_39 rfl rfl (by decide) rfl ?_
        refine bw_goto C (tgt := 11) dX7_first_42 (by decide) ?_
        exact bw_sub [1, 2, 0] rfl (ih x1 (x2 + 1) q27.2 h)
      · refine bw_iload_n C 1 dX7_first_33 rfl rfl ?_
        refine bw_iconst C (v := 1) dX7_first_34 (by decide) ?_
        refine bw_iload_n C 2 dX7_first_35 rfl rfl ?_
        refine bw_ishl C dX7_first_36 ?_
        refine bw_ior C dX7_first_37 ?_
        refine bw_istore_n C [(1, .int (x1 ||| ((1 : Int32) <<< (x2 &&& 31)))), (0, .ref (gad G 0)), (2, .int x2)] dX7_first_38 rfl (by decide) rfl ?_
        refine bw_iinc C [(2, .int (x2 + 1)), (1, .int (x1 ||| ((1 : Int32) <<< (x2 &&& 31)))), (0, .ref (gad G 0))] 2 dX7_first_39 rfl rfl (by decide) rfl ?_
        refine bw_goto C (tgt := 11) dX7_first_42 (by decide) ?_
        exact bw_sub [2, 1, 0] rfl (ih (x1 ||| ((1 : Int32) <<< (x2 &&& 31))) (x2 + 1) q27.2 h)
def fn7_first   (w : Mem) : Option (Int32 × Mem) := (fn2_takeSilence w).bind (fun q4 => fn7_first_11 (fun x1_11 x2_11 w_11 => some (x1_11, w_11)) 1000 0 0 q4.2)
set_option maxRecDepth 20000 in
theorem bk7_first {M : MX} {G : GX} (C : BC M G shX 71 (eX G) RX7 cX7_first 3 (some .int) rm7_first) {z : Int32 × Mem}    {w : Mem} (h : fn7_first   w = some z) : BW M G shX 71 3 (ZR M G shX 71 (some .int) z) 0 [(0, .ref (gad G 0))] [] w := by
  rw [fn7_first] at h
  refine bw_aload_n C 0 dX7_first_0 rfl rfl ?_
  refine bw_getr C (j := 3) (t := 56) lX0 sX0 rfl inlX7 (by decide) rfl flX7_37 dX7_first_1 ?_
  refine bw_callVv C (As := []) lX56 sX56 rfl miX2_takeSilence mlX7_195 imX2_takeSilence seX2_takeSilence (by decide) rfl rfl (fun z1 h1 => mt2_takeSilence h1) rfl (Nat.le_of_ble_eq_true rfl) rfl dX7_first_4 h (fun q4 _ h => ?_)
  refine bw_iconst C (v := 0) dX7_first_7 (by decide) ?_
  refine bw_istore_n C [(1, .int 0), (0, .ref (gad G 0))] dX7_first_8 rfl (by decide) rfl ?_
  refine bw_iconst C (v := 0) dX7_first_9 (by decide) ?_
  refine bw_istore_n C [(2, .int 0), (1, .int 0), (0, .ref (gad G 0))] dX7_first_10 rfl (by decide) rfl ?_
  refine bw_sub [2, 1, 0] rfl (bk7_first_11 C (fun x1_11 x2_11 w_11 h => ?_) 1000 0 0 q4.2 h)
  refine bw_iload_n C 0 dX7_first_45 rfl rfl ?_
  exact bw_iret C dX7_first_46 h
theorem mt7_first {l : Launch} {G : GX}    {w : Mem} {z : Int32 × Mem} (h : fn7_first   w = some z) : MC l G shX 71 (eX G) yX7_first cX7_first 3 (some .int) rm7_first [.ref (gad G 0)] w z := by
  refine met_of (by decide +kernel) (eX_ok G) rfl (Nat.le_of_ble_eq_true rfl) (fun M hM C => ?_)
  subst hM
  exact bk7_first C   h
def rm7_isSubset : Room := { frames := 1, cells := 0, slots := 0, locals := 20 }
def fn7_isSubset  (x0 : Int32) (x1 : Int32) (w : Mem) : Option (Int32 × Mem) := (if x0 < 0 then some (0, w) else (fn7_allOf x1 w).bind (fun q6 => (if q6.1 < x0 then some (0, q6.2) else some (1, q6.2))))
set_option maxRecDepth 20000 in
theorem bk7_isSubset {M : MX} {G : GX} (C : BC M G shX 71 (eX G) RX7 cX7_isSubset 2 (some .boolean) rm7_isSubset) {z : Int32 × Mem}   (x0 : Int32) (x1 : Int32) {w : Mem} (h : fn7_isSubset  x0 x1 w = some z) : BW M G shX 71 2 (ZR M G shX 71 (some .boolean) z) 0 [(0, .int x0), (1, .int x1)] [] w := by
  rw [fn7_isSubset] at h
  refine bw_iload_n C 0 dX7_isSubset_0 rfl rfl ?_
  refine bw_if_lt C (tgt := 16) dX7_isSubset_1 (by decide) h (fun h => ?_) (fun h => ?_)
  · refine bw_iconst C (v := 0) dX7_isSubset_16 (by decide) ?_
    exact bw_zretc C dX7_isSubset_17 rfl h
  · refine bw_iload_n C 0 dX7_isSubset_4 rfl rfl ?_
    refine bw_iload_n C 1 dX7_isSubset_5 rfl rfl ?_
    refine bw_callSi C (As := [.int x1]) miX7_allOf mlX7_247 smX7_allOf (by decide) rfl rfl (fun z1 h1 => mt7_allOf h1) rfl (Nat.le_of_ble_eq_true rfl) rfl dX7_isSubset_6 h (fun q6 _ h => ?_)
    refine bw_icmp_gt C (tgt := 16) dX7_isSubset_9 (by decide) h (fun h => ?_) (fun h => ?_)
    · refine bw_iconst C (v := 0) dX7_isSubset_16 (by decide) ?_
      exact bw_zretc C dX7_isSubset_17 rfl h
    · refine bw_iconst C (v := 1) dX7_isSubset_12 (by decide) ?_
      refine bw_goto C (tgt := 17) dX7_isSubset_13 (by decide) ?_
      exact bw_zretc C dX7_isSubset_17 rfl h
theorem mt7_isSubset {l : Launch} {G : GX}   {x0 : Int32} {x1 : Int32} {w : Mem} {z : Int32 × Mem} (h : fn7_isSubset  x0 x1 w = some z) : MC l G shX 71 (eX G) yX7_isSubset cX7_isSubset 2 (some .boolean) rm7_isSubset [.int x0, .int x1] w z := by
  refine met_of (by decide +kernel) (eX_ok G) rfl (Nat.le_of_ble_eq_true rfl) (fun M hM C => ?_)
  subst hM
  exact bk7_isSubset C  x0 x1 h
def rm7_funeral : Room := { frames := 12, cells := 0, slots := 0, locals := 290 }
def fn7_funeral_69 (x1 : Int32) (x2 : Int32) (x4 : Int32) (x5 : Int32) (w : Mem) : Option (Int32 × Mem) := (fn0_plan x1 x2 w).bind (fun q75 => (if ¬ q75.1 = 0 then (if x5 = 0 then some ((q75.2 60 0), q75.2) else (if ib x4 6 = true then some ((q75.2 61 x4.toNatClampNeg), q75.2) else none)) else some ((-4), q75.2)))
set_option maxRecDepth 20000 in
theorem bk7_funeral_69 {M : MX} {G : GX} (C : BC M G shX 71 (eX G) RX7 cX7_funeral 6 (some .int) rm7_funeral) {z : Int32 × Mem} (x1 : Int32) (x2 : Int32) (x4 : Int32) (x5 : Int32) {w : Mem} (h : fn7_funeral_69 x1 x2 x4 x5 w = some z) : BW M G shX 71 6 (ZR M G shX 71 (some .int) z) 69 [(0, .ref (gad G 0)), (1, .int x1), (2, .int x2), (4, .int x4), (5, .int x5)] [] w := by
  rw [fn7_funeral_69] at h
  refine bw_aload_n C 0 dX7_funeral_69 rfl rfl ?_
  refine bw_getr C (j := 4) (t := 60) lX0 sX0 rfl inlX7 (by decide) rfl flX7_44 dX7_funeral_70 ?_
  refine bw_iload_n C 1 dX7_funeral_73 rfl rfl ?_
  refine bw_iload_n C 2 dX7_funeral_74 rfl rfl ?_
  refine bw_callVi C (As := [.int x1, .int x2]) lX60 sX60 rfl miX0_plan mlX7_217 imX0_plan seX0_plan (by decide) rfl rfl (fun z1 h1 => mt0_plan h1) rfl (Nat.le_of_ble_eq_true rfl) rfl dX7_funeral_75 h (fun q75 _ h => ?_)
  refine bw_if_ne C (tgt := 84) dX7_funeral_78 (by decide) h (fun h => ?_) (fun h => ?_)
  · refine bw_iload C 4 dX7_funeral_84 rfl ?_
    refine bw_if_eq C (tgt := 102) dX7_funeral_86 (by decide) h (fun h => ?_) (fun h => ?_)
    · refine bw_aload_n C 0 dX7_funeral_102 rfl rfl ?_
      refine bw_getr C (j := 4) (t := 60) lX0 sX0 rfl inlX7 (by decide) rfl flX7_44 dX7_funeral_103 ?_
      refine bw_geti C (j := 0) lX60 sX60 rfl inlX0 (by decide) rfl flX7_223 dX7_funeral_106 ?_
      exact bw_iret C dX7_funeral_109 h
    · refine bw_aload_n C 0 dX7_funeral_89 rfl rfl ?_
      refine bw_getr C (j := 4) (t := 60) lX0 sX0 rfl inlX7 (by decide) rfl flX7_44 dX7_funeral_90 ?_
      refine bw_getr C (j := 1) (t := 61) lX60 sX60 rfl inlX0 (by decide) rfl flX7_220 dX7_funeral_93 ?_
      refine bw_iload C 3 dX7_funeral_96 rfl ?_
      refine bw_iald C lX61 sX61 dX7_funeral_98 h (fun h => ?_)
      refine bw_goto C (tgt := 109) dX7_funeral_99 (by decide) ?_
      exact bw_iret C dX7_funeral_109 h
  · refine bw_bipush C (v := (-4)) dX7_funeral_81 (by decide) ?_
    exact bw_iret C dX7_funeral_83 h
def fn7_funeral_56 (x1 : Int32) (x2 : Int32) (x3 : Int32) (x4 : Int32) (t0 : Int32) (w : Mem) : Option (Int32 × Mem) := (if x3 = 0 then fn7_funeral_69 x1 x2 x4 t0 w else (if ¬ t0 = 0 then fn7_funeral_69 x1 x2 x4 t0 w else some ((-1), w)))
set_option maxRecDepth 20000 in
theorem bk7_funeral_56 {M : MX} {G : GX} (C : BC M G shX 71 (eX G) RX7 cX7_funeral 6 (some .int) rm7_funeral) {z : Int32 × Mem} (x1 : Int32) (x2 : Int32) (x3 : Int32) (x4 : Int32) (t0 : Int32) {w : Mem} (h : fn7_funeral_56 x1 x2 x3 x4 t0 w = some z) : BW M G shX 71 6 (ZR M G shX 71 (some .int) z) 56 [(0, .ref (gad G 0)), (1, .int x1), (2, .int x2), (3, .int x3), (4, .int x4)] [.int t0] w := by
  rw [fn7_funeral_56] at h
  refine bw_istore C [(5, .int t0), (0, .ref (gad G 0)), (1, .int x1), (2, .int x2), (3, .int x3), (4, .int x4)] dX7_funeral_56 (by decide) rfl ?_
  refine bw_iload_n C 4 dX7_funeral_58 rfl rfl ?_
  refine bw_if_eq C (tgt := 69) dX7_funeral_59 (by decide) h (fun h => ?_) (fun h => ?_)
  · exact bw_sub [1, 2, 3, 5, 0] rfl (bk7_funeral_69 C x1 x2 x4 t0 h)
  · refine bw_iload C 0 dX7_funeral_62 rfl ?_
    refine bw_if_ne C (tgt := 69) dX7_funeral_64 (by decide) h (fun h => ?_) (fun h => ?_)
    · exact bw_sub [1, 2, 3, 5, 0] rfl (bk7_funeral_69 C x1 x2 x4 t0 h)
    · refine bw_iconst C (v := (-1)) dX7_funeral_67 (by decide) ?_
      exact bw_iret C dX7_funeral_68 h
def fn7_funeral_55 (x1 : Int32) (x2 : Int32) (x3 : Int32) (x4 : Int32) (w : Mem) : Option (Int32 × Mem) := fn7_funeral_56 x1 x2 x3 x4 0 w
set_option maxRecDepth 20000 in
theorem bk7_funeral_55 {M : MX} {G : GX} (C : BC M G shX 71 (eX G) RX7 cX7_funeral 6 (some .int) rm7_funeral) {z : Int32 × Mem} (x1 : Int32) (x2 : Int32) (x3 : Int32) (x4 : Int32) {w : Mem} (h : fn7_funeral_55 x1 x2 x3 x4 w = some z) : BW M G shX 71 6 (ZR M G shX 71 (some .int) z) 55 [(0, .ref (gad G 0)), (1, .int x1), (2, .int x2), (3, .int x3), (4, .int x4)] [] w := by
  rw [fn7_funeral_55] at h
  refine bw_iconst C (v := 0) dX7_funeral_55 (by decide) ?_
  exact bw_sub [0, 1, 2, 3, 4] rfl (bk7_funeral_56 C x1 x2 x3 x4 0 h)
def fn7_funeral  (x1 : Int32) (x2 : Int32) (x3 : Int32) (w : Mem) : Option (Int32 × Mem) := (fn7_isSubset x1 (w 1 0) w).bind (fun q8 => (if q8.1 = 0 then some ((-1), q8.2) else (if x2 < 1 then some ((-1), q8.2) else (if x2 ≤ 12 then (if x3 < 10 then fn7_funeral_55 x1 x2 x3 (x3 - 10) q8.2 else (fn6_hasCoin 1 (x3 - 10) q8.2).bind (fun q45 => (if q45.1 = 0 then fn7_funeral_55 x1 x2 x3 (x3 - 10) q45.2 else fn7_funeral_56 x1 x2 x3 (x3 - 10) 1 q45.2))) else some ((-1), q8.2)))))
set_option maxRecDepth 20000 in
theorem bk7_funeral {M : MX} {G : GX} (C : BC M G shX 71 (eX G) RX7 cX7_funeral 6 (some .int) rm7_funeral) {z : Int32 × Mem}   (x1 : Int32) (x2 : Int32) (x3 : Int32) {w : Mem} (h : fn7_funeral  x1 x2 x3 w = some z) : BW M G shX 71 6 (ZR M G shX 71 (some .int) z) 0 [(0, .ref (gad G 0)), (1, .int x1), (2, .int x2), (3, .int x3)] [] w := by
  rw [fn7_funeral] at h
  refine bw_iload_n C 1 dX7_funeral_0 rfl rfl ?_
  refine bw_aload_n C 0 dX7_funeral_1 rfl rfl ?_
  refine bw_getr C (j := 2) (t := 1) lX0 sX0 rfl inlX7 (by decide) rfl flX7_28 dX7_funeral_2 ?_
  refine bw_geti C (j := 0) lX1 sX1 rfl inlX6 (by decide) rfl flX7_107 dX7_funeral_5 ?_
  refine bw_callSi C (As := [.int x1, .int (w 1 0)]) miX7_isSubset mlX7_214 smX7_isSubset (by decide) rfl rfl (fun z1 h1 => mt7_isSubset h1) rfl (Nat.le_of_ble_eq_true rfl) rfl dX7_funeral_8 h (fun q8 _ h => ?_)
  refine bw_if_eq C (tgt := 25) dX7_funeral_11 (by decide) h (fun h => ?_) (fun h => ?_)
  · refine bw_iconst C (v := (-1)) dX7_funeral_25 (by decide) ?_
    exact bw_iret C dX7_funeral_26 h
  · refine bw_iload_n C 2 dX7_funeral_14 rfl rfl ?_
    refine bw_iconst C (v := 1) dX7_funeral_15 (by decide) ?_
    refine bw_icmp_lt C (tgt := 25) dX7_funeral_16 (by decide) h (fun h => ?_) (fun h => ?_)
    · refine bw_iconst C (v := (-1)) dX7_funeral_25 (by decide) ?_
      exact bw_iret C dX7_funeral_26 h
    · refine bw_iload_n C 2 dX7_funeral_19 rfl rfl ?_
      refine bw_bipush C (v := 12) dX7_funeral_20 (by decide) ?_
      refine bw_icmp_le C (tgt := 27) dX7_funeral_22 (by decide) h (fun h => ?_) (fun h => ?_)
      · refine bw_iload_n C 3 dX7_funeral_27 rfl rfl ?_
        refine bw_bipush C (v := 10) dX7_funeral_28 (by decide) ?_
        refine bw_isub C dX7_funeral_30 ?_
        refine bw_istore C [(4, .int (x3 - 10)), (0, .ref (gad G 0)), (1, .int x1), (2, .int x2), (3, .int x3)] dX7_funeral_31 (by decide) rfl ?_
        refine bw_iload_n C 4 dX7_funeral_33 rfl rfl ?_
        refine bw_bipush C (v := 10) dX7_funeral_34 (by decide) ?_
        refine bw_icmp_lt C (tgt := 55) dX7_funeral_36 (by decide) h (fun h => ?_) (fun h => ?_)
        · exact bw_sub [1, 2, 3, 4, 0] rfl (bk7_funeral_55 C x1 x2 x3 (x3 - 10) h)
        · refine bw_aload_n C 1 dX7_funeral_39 rfl rfl ?_
          refine bw_getr C (j := 2) (t := 1) lX0 sX0 rfl inlX7 (by decide) rfl flX7_28 dX7_funeral_40 ?_
          refine bw_iload C 0 dX7_funeral_43 rfl ?_
          refine bw_callVi C (As := [.int (x3 - 10)]) lX1 sX1 rfl miX6_hasCoin mlX7_136 imX6_hasCoin seX6_hasCoin (by decide) rfl rfl (fun z1 h1 => mt6_hasCoin isT_1 h1) rfl (Nat.le_of_ble_eq_true rfl) rfl dX7_funeral_45 h (fun q45 _ h => ?_)
          refine bw_if_eq C (tgt := 55) dX7_funeral_48 (by decide) h (fun h => ?_) (fun h => ?_)
          · exact bw_sub [1, 2, 3, 4, 0] rfl (bk7_funeral_55 C x1 x2 x3 (x3 - 10) h)
          · refine bw_iconst C (v := 1) dX7_funeral_51 (by decide) ?_
            refine bw_goto C (tgt := 56) dX7_funeral_52 (by decide) ?_
            exact bw_sub [1, 2, 3, 4, 0] rfl (bk7_funeral_56 C x1 x2 x3 (x3 - 10) 1 h)
      · refine bw_iconst C (v := (-1)) dX7_funeral_25 (by decide) ?_
        exact bw_iret C dX7_funeral_26 h
theorem mt7_funeral {l : Launch} {G : GX}   {x1 : Int32} {x2 : Int32} {x3 : Int32} {w : Mem} {z : Int32 × Mem} (h : fn7_funeral  x1 x2 x3 w = some z) : MC l G shX 71 (eX G) yX7_funeral cX7_funeral 6 (some .int) rm7_funeral [.ref (gad G 0), .int x1, .int x2, .int x3] w z := by
  refine met_of (by decide +kernel) (eX_ok G) rfl (Nat.le_of_ble_eq_true rfl) (fun M hM C => ?_)
  subst hM
  exact bk7_funeral C  x1 x2 x3 h
def rm7_raid : Room := { frames := 5, cells := 0, slots := 0, locals := 107 }
def fn7_raid_47 (x1 : Int32) (k : Int32 → Int32 → Int32 → Mem → Option (Int32 × Mem)) : Nat → Int32 → Int32 → Int32 → Mem → Option (Int32 × Mem)
  | 0, _, _, _, _ => none
  | nn + 1, x2, x3, x4, w => (if 12 ≤ x4 then k x2 x3 x4 w else (fn6_raidedIn 1 x4 w).bind (fun q60 => (if q60.1 ≤ x2 then fn7_raid_47 x1 k nn x2 x3 (x4 + 1) q60.2 else fn7_raid_47 x1 k nn q60.1 x4 (x4 + 1) q60.2)))
set_option maxRecDepth 20000 in
theorem bk7_raid_47 {M : MX} {G : GX} (C : BC M G shX 71 (eX G) RX7 cX7_raid 6 (some .int) rm7_raid) {z : Int32 × Mem} (x1 : Int32) {k : Int32 → Int32 → Int32 → Mem → Option (Int32 × Mem)} (hk : ∀ (x2 : Int32) (x3 : Int32) (x4 : Int32) (w : Mem), k x2 x3 x4 w = some z → BW M G shX 71 6 (ZR M G shX 71 (some .int) z) 83 [(1, .int x1), (2, .int x2), (3, .int x3)] [] w) : ∀ (nn : Nat) (x2 : Int32) (x3 : Int32) (x4 : Int32) (w : Mem), fn7_raid_47 x1 k nn x2 x3 x4 w = some z → BW M G shX 71 6 (ZR M G shX 71 (some .int) z) 47 [(0, .ref (gad G 0)), (1, .int x1), (2, .int x2), (3, .int x3), (4, .int x4)] [] w := by
  intro nn
  induction nn with
  | zero =>
    intro x2 x3 x4 w h
    have h : (none : Option (Int32 × Mem)) = some z := h
    cases h
  | succ nn ih =>
    intro x2 x3 x4 w h
    rw [fn7_raid_47] at h
    refine bw_iload C 4 dX7_raid_47 rfl ?_
    refine bw_bipush C (v := 12) dX7_raid_49 (by decide) ?_
    refine bw_icmp_ge C (tgt := 83) dX7_raid_51 (by decide) h (fun h => ?_) (fun h => ?_)
    · exact bw_sub [1, 2, 3] rfl (hk x2 x3 x4 w h)
    · refine bw_aload_n C 0 dX7_raid_54 rfl rfl ?_
      refine bw_getr C (j := 2) (t := 1) lX0 sX0 rfl inlX7 (by decide) rfl flX7_28 dX7_raid_55 ?_
      refine bw_iload C 4 dX7_raid_58 rfl ?_
      refine bw_callVi C (As := [.int x4]) lX1 sX1 rfl miX6_raidedIn mlX7_226 imX6_raidedIn seX6_raidedIn (by decide) rfl rfl (fun z1 h1 => mt6_raidedIn isT_1 h1) rfl (Nat.le_of_ble_eq_true rfl) rfl dX7_raid_60 h (fun q60 _ h => ?_)
      refine bw_istore C [(5, .int q60.1), (0, .ref (gad G 0)), (1, .int x1), (2, .int x2), (3, .int x3), (4, .int x4)] dX7_raid_63 (by decide) rfl ?_
      refine bw_iload C 0 dX7_raid_65 rfl ?_
      refine bw_iload_n C 3 dX7_raid_67 rfl rfl ?_
      refine bw_icmp_le C (tgt := 77) dX7_raid_68 (by decide) h (fun h => ?_) (fun h => ?_)
      · refine bw_iinc C [(4, .int (x4 + 1)), (5, .int q60.1), (0, .ref (gad G 0)), (1, .int x1), (2, .int x2), (3, .int x3)] 5 dX7_raid_77 rfl rfl (by decide) rfl ?_
        refine bw_goto C (tgt := 47) dX7_raid_80 (by decide) ?_
        exact bw_sub [2, 3, 4, 5, 0] rfl (ih x2 x3 (x4 + 1) q60.2 h)
      · refine bw_iload C 0 dX7_raid_71 rfl ?_
        refine bw_istore_n C [(2, .int q60.1), (5, .int q60.1), (0, .ref (gad G 0)), (1, .int x1), (3, .int x3), (4, .int x4)] dX7_raid_73 rfl (by decide) rfl ?_
        refine bw_iload C 5 dX7_raid_74 rfl ?_
        refine bw_istore_n C [(3, .int x4), (2, .int q60.1), (5, .int q60.1), (0, .ref (gad G 0)), (1, .int x1), (4, .int x4)] dX7_raid_76 rfl (by decide) rfl ?_
        refine bw_iinc C [(4, .int (x4 + 1)), (3, .int x4), (2, .int q60.1), (5, .int q60.1), (0, .ref (gad G 0)), (1, .int x1)] 5 dX7_raid_77 rfl rfl (by decide) rfl ?_
        refine bw_goto C (tgt := 47) dX7_raid_80 (by decide) ?_
        exact bw_sub [4, 5, 2, 1, 0] rfl (ih q60.1 x4 (x4 + 1) q60.2 h)
def fn7_raid_39 (x1 : Int32) (w : Mem) : Option (Int32 × Mem) := fn7_raid_47 x1 (fun x2_47 x3_47 x4_47 w_47 => (if ¬ x1 = 0 then some (x3_47, w_47) else some (x2_47, w_47))) 1000 (-4) 0 0 w
set_option maxRecDepth 20000 in
theorem bk7_raid_39 {M : MX} {G : GX} (C : BC M G shX 71 (eX G) RX7 cX7_raid 6 (some .int) rm7_raid) {z : Int32 × Mem} (x1 : Int32) {w : Mem} (h : fn7_raid_39 x1 w = some z) : BW M G shX 71 6 (ZR M G shX 71 (some .int) z) 39 [(0, .ref (gad G 0)), (1, .int x1)] [] w := by
  rw [fn7_raid_39] at h
  refine bw_bipush C (v := (-4)) dX7_raid_39 (by decide) ?_
  refine bw_istore_n C [(2, .int (-4)), (0, .ref (gad G 0)), (1, .int x1)] dX7_raid_41 rfl (by decide) rfl ?_
  refine bw_iconst C (v := 0) dX7_raid_42 (by decide) ?_
  refine bw_istore_n C [(3, .int 0), (2, .int (-4)), (0, .ref (gad G 0)), (1, .int x1)] dX7_raid_43 rfl (by decide) rfl ?_
  refine bw_iconst C (v := 0) dX7_raid_44 (by decide) ?_
  refine bw_istore C [(4, .int 0), (3, .int 0), (2, .int (-4)), (0, .ref (gad G 0)), (1, .int x1)] dX7_raid_45 (by decide) rfl ?_
  refine bw_sub [3, 4, 2, 1, 0] rfl (bk7_raid_47 C x1 (fun x2_47 x3_47 x4_47 w_47 h => ?_) 1000 (-4) 0 0 w h)
  refine bw_iload_n C 0 dX7_raid_83 rfl rfl ?_
  refine bw_if_ne C (tgt := 91) dX7_raid_84 (by decide) h (fun h => ?_) (fun h => ?_)
  · refine bw_iload_n C 2 dX7_raid_91 rfl rfl ?_
    exact bw_iret C dX7_raid_92 h
  · refine bw_iload_n C 1 dX7_raid_87 rfl rfl ?_
    refine bw_goto C (tgt := 92) dX7_raid_88 (by decide) ?_
    exact bw_iret C dX7_raid_92 h
def fn7_raid_28 (x1 : Int32) (w : Mem) : Option (Int32 × Mem) := (if x1 = 0 then fn7_raid_39 x1 w else (if x1 = 1 then fn7_raid_39 x1 w else some ((-1), w)))
set_option maxRecDepth 20000 in
theorem bk7_raid_28 {M : MX} {G : GX} (C : BC M G shX 71 (eX G) RX7 cX7_raid 6 (some .int) rm7_raid) {z : Int32 × Mem} (x1 : Int32) {w : Mem} (h : fn7_raid_28 x1 w = some z) : BW M G shX 71 6 (ZR M G shX 71 (some .int) z) 28 [(0, .ref (gad G 0)), (1, .int x1)] [] w := by
  rw [fn7_raid_28] at h
  refine bw_iload_n C 1 dX7_raid_28 rfl rfl ?_
  refine bw_if_eq C (tgt := 39) dX7_raid_29 (by decide) h (fun h => ?_) (fun h => ?_)
  · exact bw_sub [0, 1] rfl (bk7_raid_39 C x1 h)
  · refine bw_iload_n C 1 dX7_raid_32 rfl rfl ?_
    refine bw_iconst C (v := 1) dX7_raid_33 (by decide) ?_
    refine bw_icmp_eq C (tgt := 39) dX7_raid_34 (by decide) h (fun h => ?_) (fun h => ?_)
    · exact bw_sub [0, 1] rfl (bk7_raid_39 C x1 h)
    · refine bw_iconst C (v := (-1)) dX7_raid_37 (by decide) ?_
      exact bw_iret C dX7_raid_38 h
def fn7_raid  (x1 : Int32) (w : Mem) : Option (Int32 × Mem) := (if x1 < 10 then fn7_raid_28 x1 w else (fn7_isHour (x1 - 10) w).bind (fun q10 => (if q10.1 = 0 then fn7_raid_28 x1 q10.2 else (fn6_raidedIn 1 (x1 - 10) q10.2).bind (fun q24 => some (q24.1, q24.2)))))
set_option maxRecDepth 20000 in
theorem bk7_raid {M : MX} {G : GX} (C : BC M G shX 71 (eX G) RX7 cX7_raid 6 (some .int) rm7_raid) {z : Int32 × Mem}   (x1 : Int32) {w : Mem} (h : fn7_raid  x1 w = some z) : BW M G shX 71 6 (ZR M G shX 71 (some .int) z) 0 [(0, .ref (gad G 0)), (1, .int x1)] [] w := by
  rw [fn7_raid] at h
  refine bw_iload_n C 1 dX7_raid_0 rfl rfl ?_
  refine bw_bipush C (v := 10) dX7_raid_1 (by decide) ?_
  refine bw_icmp_lt C (tgt := 28) dX7_raid_3 (by decide) h (fun h => ?_) (fun h => ?_)
  · exact bw_sub [0, 1] rfl (bk7_raid_28 C x1 h)
  · refine bw_iload_n C 1 dX7_raid_6 rfl rfl ?_
    refine bw_bipush C (v := 10) dX7_raid_7 (by decide) ?_
    refine bw_isub C dX7_raid_9 ?_
    refine bw_callSi C (As := [.int (x1 - 10)]) miX7_isHour mlX7_174 smX7_isHour (by decide) rfl rfl (fun z1 h1 => mt7_isHour h1) rfl (Nat.le_of_ble_eq_true rfl) rfl dX7_raid_10 h (fun q10 _ h => ?_)
    refine bw_if_eq C (tgt := 28) dX7_raid_13 (by decide) h (fun h => ?_) (fun h => ?_)
    · exact bw_sub [0, 1] rfl (bk7_raid_28 C x1 h)
    · refine bw_aload_n C 0 dX7_raid_16 rfl rfl ?_
      refine bw_getr C (j := 2) (t := 1) lX0 sX0 rfl inlX7 (by decide) rfl flX7_28 dX7_raid_17 ?_
      refine bw_iload_n C 1 dX7_raid_20 rfl rfl ?_
      refine bw_bipush C (v := 10) dX7_raid_21 (by decide) ?_
      refine bw_isub C dX7_raid_23 ?_
      refine bw_callVi C (As := [.int (x1 - 10)]) lX1 sX1 rfl miX6_raidedIn mlX7_226 imX6_raidedIn seX6_raidedIn (by decide) rfl rfl (fun z1 h1 => mt6_raidedIn isT_1 h1) rfl (Nat.le_of_ble_eq_true rfl) rfl dX7_raid_24 h (fun q24 _ h => ?_)
      exact bw_iret C dX7_raid_27 h
theorem mt7_raid {l : Launch} {G : GX}   {x1 : Int32} {w : Mem} {z : Int32 × Mem} (h : fn7_raid  x1 w = some z) : MC l G shX 71 (eX G) yX7_raid cX7_raid 6 (some .int) rm7_raid [.ref (gad G 0), .int x1] w z := by
  refine met_of (by decide +kernel) (eX_ok G) rfl (Nat.le_of_ble_eq_true rfl) (fun M hM C => ?_)
  subst hM
  exact bk7_raid C  x1 h
def rm7_settle : Room := { frames := 3, cells := 0, slots := 0, locals := 67 }
def fn7_settle_27 (x2 : Int32) (k : Int32 → Int32 → Mem → Option (Int32 × Mem)) : Nat → Int32 → Int32 → Mem → Option (Int32 × Mem)
  | 0, _, _, _ => none
  | nn + 1, x3, x4, w => (if 99 < x4 then k x3 x4 w else (fn6_priceAfter 1 x3 w).bind (fun q39 => (if ¬ q39.1 = x3 then fn7_settle_27 x2 k nn q39.1 (x4 + 1) q39.2 else (if ¬ x2 = 0 then some (x4, q39.2) else some (x3, q39.2)))))
set_option maxRecDepth 20000 in
theorem bk7_settle_27 {M : MX} {G : GX} (C : BC M G shX 71 (eX G) RX7 cX7_settle 6 (some .int) rm7_settle) {z : Int32 × Mem} (x2 : Int32) {k : Int32 → Int32 → Mem → Option (Int32 × Mem)} (hk : ∀ (x3 : Int32) (x4 : Int32) (w : Mem), k x3 x4 w = some z → BW M G shX 71 6 (ZR M G shX 71 (some .int) z) 70 [] [] w) : ∀ (nn : Nat) (x3 : Int32) (x4 : Int32) (w : Mem), fn7_settle_27 x2 k nn x3 x4 w = some z → BW M G shX 71 6 (ZR M G shX 71 (some .int) z) 27 [(0, .ref (gad G 0)), (2, .int x2), (3, .int x3), (4, .int x4)] [] w := by
  intro nn
  induction nn with
  | zero =>
    intro x3 x4 w h
    have h : (none : Option (Int32 × Mem)) = some z := h
    cases h
  | succ nn ih =>
    intro x3 x4 w h
    rw [fn7_settle_27] at h
    refine bw_iload C 3 dX7_settle_27 rfl ?_
    refine bw_bipush C (v := 99) dX7_settle_29 (by decide) ?_
    refine bw_icmp_gt C (tgt := 70) dX7_settle_31 (by decide) h (fun h => ?_) (fun h => ?_)
    · exact bw_sub [] rfl (hk x3 x4 w h)
    · refine bw_aload_n C 0 dX7_settle_34 rfl rfl ?_
      refine bw_getr C (j := 2) (t := 1) lX0 sX0 rfl inlX7 (by decide) rfl flX7_28 dX7_settle_35 ?_
      refine bw_iload_n C 2 dX7_settle_38 rfl rfl ?_
      refine bw_callVi C (As := [.int x3]) lX1 sX1 rfl miX6_priceAfter mlX7_229 imX6_priceAfter seX6_priceAfter (by decide) rfl rfl (fun z1 h1 => mt6_priceAfter isT_1 h1) rfl (Nat.le_of_ble_eq_true rfl) rfl dX7_settle_39 h (fun q39 _ h => ?_)
      refine bw_istore C [(5, .int q39.1), (0, .ref (gad G 0)), (2, .int x2), (3, .int x3), (4, .int x4)] dX7_settle_42 (by decide) rfl ?_
      refine bw_iload C 0 dX7_settle_44 rfl ?_
      refine bw_iload_n C 3 dX7_settle_46 rfl rfl ?_
      refine bw_icmp_ne C (tgt := 61) dX7_settle_47 (by decide) h (fun h => ?_) (fun h => ?_)
      · refine bw_iload C 0 dX7_settle_61 rfl ?_
        refine bw_istore_n C [(3, .int q39.1), (5, .int q39.1), (0, .ref (gad G 0)), (2, .int x2), (4, .int x4)] dX7_settle_63 rfl (by decide) rfl ?_
        refine bw_iinc C [(4, .int (x4 + 1)), (3, .int q39.1), (5, .int q39.1), (0, .ref (gad G 0)), (2, .int x2)] 4 dX7_settle_64 rfl rfl (by decide) rfl ?_
        refine bw_goto C (tgt := 27) dX7_settle_67 (by decide) ?_
        exact bw_sub [3, 4, 1, 0] rfl (ih q39.1 (x4 + 1) q39.2 h)
      · refine bw_iload_n C 2 dX7_settle_50 rfl rfl ?_
        refine bw_if_ne C (tgt := 58) dX7_settle_51 (by decide) h (fun h => ?_) (fun h => ?_)
        · refine bw_iload C 4 dX7_settle_58 rfl ?_
          exact bw_iret C dX7_settle_60 h
        · refine bw_iload_n C 3 dX7_settle_54 rfl rfl ?_
          refine bw_goto C (tgt := 60) dX7_settle_55 (by decide) ?_
          exact bw_iret C dX7_settle_60 h
def fn7_settle  (x1 : Int32) (x2 : Int32) (w : Mem) : Option (Int32 × Mem) := (if x1 < 1 then some ((-1), w) else (if 99 < x1 then some ((-1), w) else (if x2 < 0 then some ((-1), w) else (if x2 ≤ 1 then fn7_settle_27 x2 (fun x3_27 x4_27 w_27 => some ((-4), w_27)) 1000 x1 1 w else some ((-1), w)))))
set_option maxRecDepth 20000 in
theorem bk7_settle {M : MX} {G : GX} (C : BC M G shX 71 (eX G) RX7 cX7_settle 6 (some .int) rm7_settle) {z : Int32 × Mem}   (x1 : Int32) (x2 : Int32) {w : Mem} (h : fn7_settle  x1 x2 w = some z) : BW M G shX 71 6 (ZR M G shX 71 (some .int) z) 0 [(0, .ref (gad G 0)), (1, .int x1), (2, .int x2)] [] w := by
  rw [fn7_settle] at h
  refine bw_iload_n C 1 dX7_settle_0 rfl rfl ?_
  refine bw_iconst C (v := 1) dX7_settle_1 (by decide) ?_
  refine bw_icmp_lt C (tgt := 20) dX7_settle_2 (by decide) h (fun h => ?_) (fun h => ?_)
  · refine bw_iconst C (v := (-1)) dX7_settle_20 (by decide) ?_
    exact bw_iret C dX7_settle_21 h
  · refine bw_iload_n C 1 dX7_settle_5 rfl rfl ?_
    refine bw_bipush C (v := 99) dX7_settle_6 (by decide) ?_
    refine bw_icmp_gt C (tgt := 20) dX7_settle_8 (by decide) h (fun h => ?_) (fun h => ?_)
    · refine bw_iconst C (v := (-1)) dX7_settle_20 (by decide) ?_
      exact bw_iret C dX7_settle_21 h
    · refine bw_iload_n C 2 dX7_settle_11 rfl rfl ?_
      refine bw_if_lt C (tgt := 20) dX7_settle_12 (by decide) h (fun h => ?_) (fun h => ?_)
      · refine bw_iconst C (v := (-1)) dX7_settle_20 (by decide) ?_
        exact bw_iret C dX7_settle_21 h
      · refine bw_iload_n C 2 dX7_settle_15 rfl rfl ?_
        refine bw_iconst C (v := 1) dX7_settle_16 (by decide) ?_
        refine bw_icmp_le C (tgt := 22) dX7_settle_17 (by decide) h (fun h => ?_) (fun h => ?_)
        · refine bw_iload_n C 1 dX7_settle_22 rfl rfl ?_
          refine bw_istore_n C [(3, .int x1), (0, .ref (gad G 0)), (1, .int x1), (2, .int x2)] dX7_settle_23 rfl (by decide) rfl ?_
          refine bw_iconst C (v := 1) dX7_settle_24 (by decide) ?_
          refine bw_istore C [(4, .int 1), (3, .int x1), (0, .ref (gad G 0)), (1, .int x1), (2, .int x2)] dX7_settle_25 (by decide) rfl ?_
          refine bw_sub [2, 4, 1, 0] rfl (bk7_settle_27 C x2 (fun x3_27 x4_27 w_27 h => ?_) 1000 x1 1 w h)
          refine bw_bipush C (v := (-4)) dX7_settle_70 (by decide) ?_
          exact bw_iret C dX7_settle_72 h
        · refine bw_iconst C (v := (-1)) dX7_settle_20 (by decide) ?_
          exact bw_iret C dX7_settle_21 h
theorem mt7_settle {l : Launch} {G : GX}   {x1 : Int32} {x2 : Int32} {w : Mem} {z : Int32 × Mem} (h : fn7_settle  x1 x2 w = some z) : MC l G shX 71 (eX G) yX7_settle cX7_settle 6 (some .int) rm7_settle [.ref (gad G 0), .int x1, .int x2] w z := by
  refine met_of (by decide +kernel) (eX_ok G) rfl (Nat.le_of_ble_eq_true rfl) (fun M hM C => ?_)
  subst hM
  exact bk7_settle C  x1 x2 h
def rm7_test : Room := { frames := 2, cells := 0, slots := 0, locals := 41 }
def fn7_test  (x1 : Int32) (x2 : Int32) (w : Mem) : Option (Int32 × Mem) := (if x1 = 0 then some ((-1), w) else (fn7_isSubset x1 (w 1 4) w).bind (fun q12 => (if ¬ q12.1 = 0 then (fn1_note x1 x2 q12.2).bind (fun q26 => some (q26.1, q26.2)) else some ((-1), q12.2))))
set_option maxRecDepth 20000 in
theorem bk7_test {M : MX} {G : GX} (C : BC M G shX 71 (eX G) RX7 cX7_test 3 (some .int) rm7_test) {z : Int32 × Mem}   (x1 : Int32) (x2 : Int32) {w : Mem} (h : fn7_test  x1 x2 w = some z) : BW M G shX 71 3 (ZR M G shX 71 (some .int) z) 0 [(0, .ref (gad G 0)), (1, .int x1), (2, .int x2)] [] w := by
  rw [fn7_test] at h
  refine bw_iload_n C 1 dX7_test_0 rfl rfl ?_
  refine bw_if_eq C (tgt := 18) dX7_test_1 (by decide) h (fun h => ?_) (fun h => ?_)
  · refine bw_iconst C (v := (-1)) dX7_test_18 (by decide) ?_
    exact bw_iret C dX7_test_19 h
  · refine bw_iload_n C 1 dX7_test_4 rfl rfl ?_
    refine bw_aload_n C 0 dX7_test_5 rfl rfl ?_
    refine bw_getr C (j := 2) (t := 1) lX0 sX0 rfl inlX7 (by decide) rfl flX7_28 dX7_test_6 ?_
    refine bw_geti C (j := 4) lX1 sX1 rfl inlX6 (by decide) rfl flX7_110 dX7_test_9 ?_
    refine bw_callSi C (As := [.int x1, .int (w 1 4)]) miX7_isSubset mlX7_214 smX7_isSubset (by decide) rfl rfl (fun z1 h1 => mt7_isSubset h1) rfl (Nat.le_of_ble_eq_true rfl) rfl dX7_test_12 h (fun q12 _ h => ?_)
    refine bw_if_ne C (tgt := 20) dX7_test_15 (by decide) h (fun h => ?_) (fun h => ?_)
    · refine bw_aload_n C 0 dX7_test_20 rfl rfl ?_
      refine bw_getr C (j := 5) (t := 64) lX0 sX0 rfl inlX7 (by decide) rfl flX7_51 dX7_test_21 ?_
      refine bw_iload_n C 1 dX7_test_24 rfl rfl ?_
      refine bw_iload_n C 2 dX7_test_25 rfl rfl ?_
      refine bw_callVi C (As := [.int x1, .int x2]) lX64 sX64 rfl miX1_note mlX7_232 imX1_note seX1_note (by decide) rfl rfl (fun z1 h1 => mt1_note h1) rfl (Nat.le_of_ble_eq_true rfl) rfl dX7_test_26 h (fun q26 _ h => ?_)
      exact bw_iret C dX7_test_29 h
    · refine bw_iconst C (v := (-1)) dX7_test_18 (by decide) ?_
      exact bw_iret C dX7_test_19 h
theorem mt7_test {l : Launch} {G : GX}   {x1 : Int32} {x2 : Int32} {w : Mem} {z : Int32 × Mem} (h : fn7_test  x1 x2 w = some z) : MC l G shX 71 (eX G) yX7_test cX7_test 3 (some .int) rm7_test [.ref (gad G 0), .int x1, .int x2] w z := by
  refine met_of (by decide +kernel) (eX_ok G) rfl (Nat.le_of_ble_eq_true rfl) (fun M hM C => ?_)
  subst hM
  exact bk7_test C  x1 x2 h
def rm7_untest : Room := { frames := 0, cells := 0, slots := 0, locals := 0 }
def fn7_untest  (x1 : Int32) (w : Mem) : Option (Int32 × Mem) := (if x1 < 0 then some ((-1), w) else (if x1 ≤ (w 64 0) then some ((w 64 0), (up2 w 64 0 x1)) else some ((-1), w)))
set_option maxRecDepth 20000 in
theorem bk7_untest {M : MX} {G : GX} (C : BC M G shX 71 (eX G) RX7 cX7_untest 3 (some .int) rm7_untest) {z : Int32 × Mem}   (x1 : Int32) {w : Mem} (h : fn7_untest  x1 w = some z) : BW M G shX 71 3 (ZR M G shX 71 (some .int) z) 0 [(0, .ref (gad G 0)), (1, .int x1)] [] w := by
  rw [fn7_untest] at h
  refine bw_aload_n C 0 dX7_untest_0 rfl rfl ?_
  refine bw_getr C (j := 5) (t := 64) lX0 sX0 rfl inlX7 (by decide) rfl flX7_51 dX7_untest_1 ?_
  refine bw_geti C (j := 0) lX64 sX64 rfl inlX1 (by decide) rfl flX7_98 dX7_untest_4 ?_
  refine bw_istore_n C [(2, .int (w 64 0)), (0, .ref (gad G 0)), (1, .int x1)] dX7_untest_7 rfl (by decide) rfl ?_
  refine bw_iload_n C 2 dX7_untest_8 rfl rfl ?_
  refine bw_if_lt C (tgt := 17) dX7_untest_9 (by decide) h (fun h => ?_) (fun h => ?_)
  · refine bw_iconst C (v := (-1)) dX7_untest_17 (by decide) ?_
    exact bw_iret C dX7_untest_18 h
  · refine bw_iload_n C 2 dX7_untest_12 rfl rfl ?_
    refine bw_iload_n C 0 dX7_untest_13 rfl rfl ?_
    refine bw_icmp_le C (tgt := 19) dX7_untest_14 (by decide) h (fun h => ?_) (fun h => ?_)
    · refine bw_aload_n C 1 dX7_untest_19 rfl rfl ?_
      refine bw_getr C (j := 5) (t := 64) lX0 sX0 rfl inlX7 (by decide) rfl flX7_51 dX7_untest_20 ?_
      refine bw_iload_n C 2 dX7_untest_23 rfl rfl ?_
      refine bw_puti C (j := 0) (ty := .int) lX64 sX64 rfl inlX1 (by decide) tyX1 tyX1_ok nmX1 rfl flX7_98 rfl (by decide +kernel) rfl rfl dX7_untest_24 ?_
      refine bw_iload_n C 0 dX7_untest_27 rfl rfl ?_
      exact bw_iret C dX7_untest_28 h
    · refine bw_iconst C (v := (-1)) dX7_untest_17 (by decide) ?_
      exact bw_iret C dX7_untest_18 h
theorem mt7_untest {l : Launch} {G : GX}   {x1 : Int32} {w : Mem} {z : Int32 × Mem} (h : fn7_untest  x1 w = some z) : MC l G shX 71 (eX G) yX7_untest cX7_untest 3 (some .int) rm7_untest [.ref (gad G 0), .int x1] w z := by
  refine met_of (by decide +kernel) (eX_ok G) rfl (Nat.le_of_ble_eq_true rfl) (fun M hM C => ?_)
  subst hM
  exact bk7_untest C  x1 h
def rm7_fakes : Room := { frames := 2, cells := 0, slots := 0, locals := 45 }
def fn7_fakes  (x1 : Int32) (x2 : Int32) (w : Mem) : Option (Int32 × Mem) := (if x1 < 0 then some ((-1), w) else (if 3 < x1 then some ((-1), w) else (if x2 < 0 then some ((-1), w) else (if x2 ≤ 3 then (fn1_findSets x1 (w 1 4) w).bind (fun q32 => (if ¬ x2 = 0 then (if ¬ (q32.2 64 1) = 0 then (if x2 = 1 then (if ib 0 64 = true then some ((q32.2 65 (0 : Int32).toNatClampNeg), q32.2) else none) else (if x2 = 2 then (fn1_inAll q32.2).bind (fun q102 => some (q102.1, q102.2)) else (fn7_allOf (q32.2 1 4) q32.2).bind (fun q113 => (fn1_inAny q113.2).bind (fun q120 => some ((q113.1 &&& (q120.1 ^^^ (-1))), q120.2))))) else some ((-4), q32.2)) else some ((q32.2 64 1), q32.2))) else some ((-1), w)))))
set_option maxRecDepth 20000 in
theorem bk7_fakes {M : MX} {G : GX} (C : BC M G shX 71 (eX G) RX7 cX7_fakes 3 (some .int) rm7_fakes) {z : Int32 × Mem}   (x1 : Int32) (x2 : Int32) {w : Mem} (h : fn7_fakes  x1 x2 w = some z) : BW M G shX 71 3 (ZR M G shX 71 (some .int) z) 0 [(0, .ref (gad G 0)), (1, .int x1), (2, .int x2)] [] w := by
  rw [fn7_fakes] at h
  refine bw_iload_n C 1 dX7_fakes_0 rfl rfl ?_
  refine bw_if_lt C (tgt := 18) dX7_fakes_1 (by decide) h (fun h => ?_) (fun h => ?_)
  · refine bw_iconst C (v := (-1)) dX7_fakes_18 (by decide) ?_
    exact bw_iret C dX7_fakes_19 h
  · refine bw_iload_n C 1 dX7_fakes_4 rfl rfl ?_
    refine bw_iconst C (v := 3) dX7_fakes_5 (by decide) ?_
    refine bw_icmp_gt C (tgt := 18) dX7_fakes_6 (by decide) h (fun h => ?_) (fun h => ?_)
    · refine bw_iconst C (v := (-1)) dX7_fakes_18 (by decide) ?_
      exact bw_iret C dX7_fakes_19 h
    · refine bw_iload_n C 2 dX7_fakes_9 rfl rfl ?_
      refine bw_if_lt C (tgt := 18) dX7_fakes_10 (by decide) h (fun h => ?_) (fun h => ?_)
      · refine bw_iconst C (v := (-1)) dX7_fakes_18 (by decide) ?_
        exact bw_iret C dX7_fakes_19 h
      · refine bw_iload_n C 2 dX7_fakes_13 rfl rfl ?_
        refine bw_iconst C (v := 3) dX7_fakes_14 (by decide) ?_
        refine bw_icmp_le C (tgt := 20) dX7_fakes_15 (by decide) h (fun h => ?_) (fun h => ?_)
        · refine bw_aload_n C 0 dX7_fakes_20 rfl rfl ?_
          refine bw_getr C (j := 5) (t := 64) lX0 sX0 rfl inlX7 (by decide) rfl flX7_51 dX7_fakes_21 ?_
          refine bw_iload_n C 1 dX7_fakes_24 rfl rfl ?_
          refine bw_aload_n C 0 dX7_fakes_25 rfl rfl ?_
          refine bw_getr C (j := 2) (t := 1) lX0 sX0 rfl inlX7 (by decide) rfl flX7_28 dX7_fakes_26 ?_
          refine bw_geti C (j := 4) lX1 sX1 rfl inlX6 (by decide) rfl flX7_110 dX7_fakes_29 ?_
          refine bw_callVv C (As := [.int x1, .int (w 1 4)]) lX64 sX64 rfl miX1_findSets mlX7_233 imX1_findSets seX1_findSets (by decide) rfl rfl (fun z1 h1 => mt1_findSets h1) rfl (Nat.le_of_ble_eq_true rfl) rfl dX7_fakes_32 h (fun q32 _ h => ?_)
          refine bw_iload_n C 2 dX7_fakes_35 rfl rfl ?_
          refine bw_if_ne C (tgt := 47) dX7_fakes_36 (by decide) h (fun h => ?_) (fun h => ?_)
          · refine bw_aload_n C 0 dX7_fakes_47 rfl rfl ?_
            refine bw_getr C (j := 5) (t := 64) lX0 sX0 rfl inlX7 (by decide) rfl flX7_51 dX7_fakes_48 ?_
            refine bw_geti C (j := 1) lX64 sX64 rfl inlX1 (by decide) rfl flX7_237 dX7_fakes_51 ?_
            refine bw_if_ne C (tgt := 60) dX7_fakes_54 (by decide) h (fun h => ?_) (fun h => ?_)
            · refine bw_iload_n C 2 dX7_fakes_60 rfl rfl ?_
              refine bw_case h (fun hx h => ?_) (fun hn0 h => ?_)
              · refine bw_lsw C (tgt := 88) dX7_fakes_61 (by decide) (show _ = (27 : Int) from ?_) (by decide) ?_
                · rw [hx]; rfl
                · refine bw_aload_n C 0 dX7_fakes_88 rfl rfl ?_
                  refine bw_getr C (j := 5) (t := 64) lX0 sX0 rfl inlX7 (by decide) rfl flX7_51 dX7_fakes_89 ?_
                  refine bw_getr C (j := 2) (t := 65) lX64 sX64 rfl inlX1 (by decide) rfl flX7_240 dX7_fakes_92 ?_
                  refine bw_iconst C (v := 0) dX7_fakes_95 (by decide) ?_
                  refine bw_iald C lX65 sX65 dX7_fakes_96 h (fun h => ?_)
                  exact bw_iret C dX7_fakes_97 h
              · refine bw_case h (fun hx h => ?_) (fun hn1 h => ?_)
                · refine bw_lsw C (tgt := 98) dX7_fakes_61 (by decide) (show _ = (37 : Int) from ?_) (by decide) ?_
                  · rw [hx]; rfl
                  · refine bw_aload_n C 0 dX7_fakes_98 rfl rfl ?_
                    refine bw_getr C (j := 5) (t := 64) lX0 sX0 rfl inlX7 (by decide) rfl flX7_51 dX7_fakes_99 ?_
                    refine bw_callVi C (As := []) lX64 sX64 rfl miX1_inAll mlX7_243 imX1_inAll seX1_inAll (by decide) rfl rfl (fun z1 h1 => mt1_inAll h1) rfl (Nat.le_of_ble_eq_true rfl) rfl dX7_fakes_102 h (fun q102 _ h => ?_)
                    exact bw_iret C dX7_fakes_105 h
                · refine bw_lsw C (tgt := 106) dX7_fakes_61 (by decide) (show _ = (45 : Int) from ?_) (by decide) ?_
                  · first | (rw [lv_osw hn0 (by decide), lv_osw hn1 (by decide)]; rfl) | (rw [lv_osw hn0 (by decide)]; rfl)
                  · refine bw_aload_n C 0 dX7_fakes_106 rfl rfl ?_
                    refine bw_getr C (j := 2) (t := 1) lX0 sX0 rfl inlX7 (by decide) rfl flX7_28 dX7_fakes_107 ?_
                    refine bw_geti C (j := 4) lX1 sX1 rfl inlX6 (by decide) rfl flX7_110 dX7_fakes_110 ?_
                    refine bw_callSi C (As := [.int (q32.2 1 4)]) miX7_allOf mlX7_247 smX7_allOf (by decide) rfl rfl (fun z1 h1 => mt7_allOf h1) rfl (Nat.le_of_ble_eq_true rfl) rfl dX7_fakes_113 h (fun q113 _ h => ?_)
                    refine bw_aload_n C 0 dX7_fakes_116 rfl rfl ?_
                    refine bw_getr C (j := 5) (t := 64) lX0 sX0 rfl inlX7 (by decide) rfl flX7_51 dX7_fakes_117 ?_
                    refine bw_callVi C (As := []) lX64 sX64 rfl miX1_inAny mlX7_250 imX1_inAny seX1_inAny (by decide) rfl rfl (fun z1 h1 => mt1_inAny h1) rfl (Nat.le_of_ble_eq_true rfl) rfl dX7_fakes_120 h (fun q120 _ h => ?_)
                    refine bw_iconst C (v := (-1)) dX7_fakes_123 (by decide) ?_
                    refine bw_ixor C dX7_fakes_124 ?_
                    refine bw_iand C dX7_fakes_125 ?_
                    exact bw_iret C dX7_fakes_126 h
            · refine bw_bipush C (v := (-4)) dX7_fakes_57 (by decide) ?_
              exact bw_iret C dX7_fakes_59 h
          · refine bw_aload_n C 0 dX7_fakes_39 rfl rfl ?_
            refine bw_getr C (j := 5) (t := 64) lX0 sX0 rfl inlX7 (by decide) rfl flX7_51 dX7_fakes_40 ?_
            refine bw_geti C (j := 1) lX64 sX64 rfl inlX1 (by decide) rfl flX7_237 dX7_fakes_43 ?_
            exact bw_iret C dX7_fakes_46 h
        · refine bw_iconst C (v := (-1)) dX7_fakes_18 (by decide) ?_
          exact bw_iret C dX7_fakes_19 h
theorem mt7_fakes {l : Launch} {G : GX}   {x1 : Int32} {x2 : Int32} {w : Mem} {z : Int32 × Mem} (h : fn7_fakes  x1 x2 w = some z) : MC l G shX 71 (eX G) yX7_fakes cX7_fakes 3 (some .int) rm7_fakes [.ref (gad G 0), .int x1, .int x2] w z := by
  refine met_of (by decide +kernel) (eX_ok G) rfl (Nat.le_of_ble_eq_true rfl) (fun M hM C => ?_)
  subst hM
  exact bk7_fakes C  x1 x2 h
def rm7_next : Room := { frames := 2, cells := 0, slots := 0, locals := 45 }
def fn7_next_50 (x2 : Int32) (k : Int32 → Int32 → Int32 → Mem → Option (Int32 × Mem)) : Nat → Int32 → Int32 → Int32 → Mem → Option (Int32 × Mem)
  | 0, _, _, _, _ => none
  | nn + 1, x3, x4, x5, w => (fn7_allOf (w 1 4) w).bind (fun q59 => (if q59.1 < x5 then k x3 x4 x5 q59.2 else (fn1_leftAtWorst x5 q59.2).bind (fun q71 => (if x3 ≤ q71.1 then fn7_next_50 x2 k nn x3 x4 (x5 + 1) q71.2 else fn7_next_50 x2 k nn q71.1 x5 (x5 + 1) q71.2))))
set_option maxRecDepth 20000 in
theorem bk7_next_50 {M : MX} {G : GX} (C : BC M G shX 71 (eX G) RX7 cX7_next 7 (some .int) rm7_next) {z : Int32 × Mem} (x2 : Int32) {k : Int32 → Int32 → Int32 → Mem → Option (Int32 × Mem)} (hk : ∀ (x3 : Int32) (x4 : Int32) (x5 : Int32) (w : Mem), k x3 x4 x5 w = some z → BW M G shX 71 7 (ZR M G shX 71 (some .int) z) 95 [(2, .int x2), (3, .int x3), (4, .int x4)] [] w) : ∀ (nn : Nat) (x3 : Int32) (x4 : Int32) (x5 : Int32) (w : Mem), fn7_next_50 x2 k nn x3 x4 x5 w = some z → BW M G shX 71 7 (ZR M G shX 71 (some .int) z) 50 [(0, .ref (gad G 0)), (2, .int x2), (3, .int x3), (4, .int x4), (5, .int x5)] [] w := by
  intro nn
  induction nn with
  | zero =>
    intro x3 x4 x5 w h
    have h : (none : Option (Int32 × Mem)) = some z := h
    cases h
  | succ nn ih =>
    intro x3 x4 x5 w h
    rw [fn7_next_50] at h
    refine bw_iload C 4 dX7_next_50 rfl ?_
    refine bw_aload_n C 0 dX7_next_52 rfl rfl ?_
    refine bw_getr C (j := 2) (t := 1) lX0 sX0 rfl inlX7 (by decide) rfl flX7_28 dX7_next_53 ?_
    refine bw_geti C (j := 4) lX1 sX1 rfl inlX6 (by decide) rfl flX7_110 dX7_next_56 ?_
    refine bw_callSi C (As := [.int (w 1 4)]) miX7_allOf mlX7_247 smX7_allOf (by decide) rfl rfl (fun z1 h1 => mt7_allOf h1) rfl (Nat.le_of_ble_eq_true rfl) rfl dX7_next_59 h (fun q59 _ h => ?_)
    refine bw_icmp_gt C (tgt := 95) dX7_next_62 (by decide) h (fun h => ?_) (fun h => ?_)
    · exact bw_sub [1, 2, 3] rfl (hk x3 x4 x5 q59.2 h)
    · refine bw_aload_n C 0 dX7_next_65 rfl rfl ?_
      refine bw_getr C (j := 5) (t := 64) lX0 sX0 rfl inlX7 (by decide) rfl flX7_51 dX7_next_66 ?_
      refine bw_iload C 4 dX7_next_69 rfl ?_
      refine bw_callVi C (As := [.int x5]) lX64 sX64 rfl miX1_leftAtWorst mlX7_253 imX1_leftAtWorst seX1_leftAtWorst (by decide) rfl rfl (fun z1 h1 => mt1_leftAtWorst h1) rfl (Nat.le_of_ble_eq_true rfl) rfl dX7_next_71 h (fun q71 _ h => ?_)
      refine bw_istore C [(6, .int q71.1), (0, .ref (gad G 0)), (2, .int x2), (3, .int x3), (4, .int x4), (5, .int x5)] dX7_next_74 (by decide) rfl ?_
      refine bw_iload C 0 dX7_next_76 rfl ?_
      refine bw_iload_n C 3 dX7_next_78 rfl rfl ?_
      refine bw_icmp_ge C (tgt := 89) dX7_next_79 (by decide) h (fun h => ?_) (fun h => ?_)
      · refine bw_iinc C [(5, .int (x5 + 1)), (6, .int q71.1), (0, .ref (gad G 0)), (2, .int x2), (3, .int x3), (4, .int x4)] 5 dX7_next_89 rfl rfl (by decide) rfl ?_
        refine bw_goto C (tgt := 50) dX7_next_92 (by decide) ?_
        exact bw_sub [2, 3, 4, 5, 0] rfl (ih x3 x4 (x5 + 1) q71.2 h)
      · refine bw_iload C 0 dX7_next_82 rfl ?_
        refine bw_istore_n C [(3, .int q71.1), (6, .int q71.1), (0, .ref (gad G 0)), (2, .int x2), (4, .int x4), (5, .int x5)] dX7_next_84 rfl (by decide) rfl ?_
        refine bw_iload C 5 dX7_next_85 rfl ?_
        refine bw_istore C [(4, .int x5), (3, .int q71.1), (6, .int q71.1), (0, .ref (gad G 0)), (2, .int x2), (5, .int x5)] dX7_next_87 (by decide) rfl ?_
        refine bw_iinc C [(5, .int (x5 + 1)), (4, .int x5), (3, .int q71.1), (6, .int q71.1), (0, .ref (gad G 0)), (2, .int x2)] 5 dX7_next_89 rfl rfl (by decide) rfl ?_
        refine bw_goto C (tgt := 50) dX7_next_92 (by decide) ?_
        exact bw_sub [4, 5, 2, 1, 0] rfl (ih q71.1 x5 (x5 + 1) q71.2 h)
def fn7_next_106 (x4 : Int32) (w : Mem) : Option (Int32 × Mem) := some (x4, w)
set_option maxRecDepth 20000 in
theorem bk7_next_106 {M : MX} {G : GX} (C : BC M G shX 71 (eX G) RX7 cX7_next 7 (some .int) rm7_next) {z : Int32 × Mem} (x4 : Int32) {w : Mem} (h : fn7_next_106 x4 w = some z) : BW M G shX 71 7 (ZR M G shX 71 (some .int) z) 106 [(4, .int x4)] [] w := by
  rw [fn7_next_106] at h
  refine bw_iload C 0 dX7_next_106 rfl ?_
  refine bw_goto C (tgt := 112) dX7_next_108 (by decide) ?_
  exact bw_iret C dX7_next_112 h
def fn7_next  (x1 : Int32) (x2 : Int32) (w : Mem) : Option (Int32 × Mem) := (if x1 < 0 then some ((-1), w) else (if 3 < x1 then some ((-1), w) else (if x2 < 0 then some ((-1), w) else (if x2 ≤ 1 then (fn1_findSets x1 (w 1 4) w).bind (fun q32 => fn7_next_50 x2 (fun x3_50 x4_50 x5_50 w_50 => (if x2 = 0 then fn7_next_106 x4_50 w_50 else (if ¬ x4_50 = (-4) then some (x3_50, w_50) else fn7_next_106 x4_50 w_50))) 1000 (q32.2 64 1) (-4) 1 q32.2) else some ((-1), w)))))
set_option maxRecDepth 20000 in
theorem bk7_next {M : MX} {G : GX} (C : BC M G shX 71 (eX G) RX7 cX7_next 7 (some .int) rm7_next) {z : Int32 × Mem}   (x1 : Int32) (x2 : Int32) {w : Mem} (h : fn7_next  x1 x2 w = some z) : BW M G shX 71 7 (ZR M G shX 71 (some .int) z) 0 [(0, .ref (gad G 0)), (1, .int x1), (2, .int x2)] [] w := by
  rw [fn7_next] at h
  refine bw_iload_n C 1 dX7_next_0 rfl rfl ?_
  refine bw_if_lt C (tgt := 18) dX7_next_1 (by decide) h (fun h => ?_) (fun h => ?_)
  · refine bw_iconst C (v := (-1)) dX7_next_18 (by decide) ?_
    exact bw_iret C dX7_next_19 h
  · refine bw_iload_n C 1 dX7_next_4 rfl rfl ?_
    refine bw_iconst C (v := 3) dX7_next_5 (by decide) ?_
    refine bw_icmp_gt C (tgt := 18) dX7_next_6 (by decide) h (fun h => ?_) (fun h => ?_)
    · refine bw_iconst C (v := (-1)) dX7_next_18 (by decide) ?_
      exact bw_iret C dX7_next_19 h
    · refine bw_iload_n C 2 dX7_next_9 rfl rfl ?_
      refine bw_if_lt C (tgt := 18) dX7_next_10 (by decide) h (fun h => ?_) (fun h => ?_)
      · refine bw_iconst C (v := (-1)) dX7_next_18 (by decide) ?_
        exact bw_iret C dX7_next_19 h
      · refine bw_iload_n C 2 dX7_next_13 rfl rfl ?_
        refine bw_iconst C (v := 1) dX7_next_14 (by decide) ?_
        refine bw_icmp_le C (tgt := 20) dX7_next_15 (by decide) h (fun h => ?_) (fun h => ?_)
        · refine bw_aload_n C 0 dX7_next_20 rfl rfl ?_
          refine bw_getr C (j := 5) (t := 64) lX0 sX0 rfl inlX7 (by decide) rfl flX7_51 dX7_next_21 ?_
          refine bw_iload_n C 1 dX7_next_24 rfl rfl ?_
          refine bw_aload_n C 0 dX7_next_25 rfl rfl ?_
          refine bw_getr C (j := 2) (t := 1) lX0 sX0 rfl inlX7 (by decide) rfl flX7_28 dX7_next_26 ?_
          refine bw_geti C (j := 4) lX1 sX1 rfl inlX6 (by decide) rfl flX7_110 dX7_next_29 ?_
          refine bw_callVv C (As := [.int x1, .int (w 1 4)]) lX64 sX64 rfl miX1_findSets mlX7_233 imX1_findSets seX1_findSets (by decide) rfl rfl (fun z1 h1 => mt1_findSets h1) rfl (Nat.le_of_ble_eq_true rfl) rfl dX7_next_32 h (fun q32 _ h => ?_)
          refine bw_aload_n C 0 dX7_next_35 rfl rfl ?_
          refine bw_getr C (j := 5) (t := 64) lX0 sX0 rfl inlX7 (by decide) rfl flX7_51 dX7_next_36 ?_
          refine bw_geti C (j := 1) lX64 sX64 rfl inlX1 (by decide) rfl flX7_237 dX7_next_39 ?_
          refine bw_istore_n C [(3, .int (q32.2 64 1)), (0, .ref (gad G 0)), (1, .int x1), (2, .int x2)] dX7_next_42 rfl (by decide) rfl ?_
          refine bw_bipush C (v := (-4)) dX7_next_43 (by decide) ?_
          refine bw_istore C [(4, .int (-4)), (3, .int (q32.2 64 1)), (0, .ref (gad G 0)), (1, .int x1), (2, .int x2)] dX7_next_45 (by decide) rfl ?_
          refine bw_iconst C (v := 1) dX7_next_47 (by decide) ?_
          refine bw_istore C [(5, .int 1), (4, .int (-4)), (3, .int (q32.2 64 1)), (0, .ref (gad G 0)), (1, .int x1), (2, .int x2)] dX7_next_48 (by decide) rfl ?_
          refine bw_sub [3, 5, 2, 1, 0] rfl (bk7_next_50 C x2 (fun x3_50 x4_50 x5_50 w_50 h => ?_) 1000 (q32.2 64 1) (-4) 1 q32.2 h)
          refine bw_iload_n C 0 dX7_next_95 rfl rfl ?_
          refine bw_if_eq C (tgt := 106) dX7_next_96 (by decide) h (fun h => ?_) (fun h => ?_)
          · exact bw_sub [2] rfl (bk7_next_106 C x4_50 h)
          · refine bw_iload C 2 dX7_next_99 rfl ?_
            refine bw_bipush C (v := (-4)) dX7_next_101 (by decide) ?_
            refine bw_icmp_ne C (tgt := 111) dX7_next_103 (by decide) h (fun h => ?_) (fun h => ?_)
            · refine bw_iload_n C 1 dX7_next_111 rfl rfl ?_
              exact bw_iret C dX7_next_112 h
            · exact bw_sub [2] rfl (bk7_next_106 C x4_50 h)
        · refine bw_iconst C (v := (-1)) dX7_next_18 (by decide) ?_
          exact bw_iret C dX7_next_19 h
theorem mt7_next {l : Launch} {G : GX}   {x1 : Int32} {x2 : Int32} {w : Mem} {z : Int32 × Mem} (h : fn7_next  x1 x2 w = some z) : MC l G shX 71 (eX G) yX7_next cX7_next 7 (some .int) rm7_next [.ref (gad G 0), .int x1, .int x2] w z := by
  refine met_of (by decide +kernel) (eX_ok G) rfl (Nat.le_of_ble_eq_true rfl) (fun M hM C => ?_)
  subst hM
  exact bk7_next C  x1 x2 h
def rm7_stepSeed : Room := { frames := 0, cells := 0, slots := 0, locals := 0 }
def fn7_stepSeed  (x0 : Int32) (w : Mem) : Option (Int32 × Mem) := some (((x0 * 1103515245) + 12345), w)
set_option maxRecDepth 20000 in
theorem bk7_stepSeed {M : MX} {G : GX} (C : BC M G shX 71 (eX G) RX7 cX7_stepSeed 1 (some .int) rm7_stepSeed) {z : Int32 × Mem}   (x0 : Int32) {w : Mem} (h : fn7_stepSeed  x0 w = some z) : BW M G shX 71 1 (ZR M G shX 71 (some .int) z) 0 [(0, .int x0)] [] w := by
  rw [fn7_stepSeed] at h
  refine bw_iload_n C 0 dX7_stepSeed_0 rfl rfl ?_
  refine bw_ldcw C dX7_stepSeed_1 ctX7_295 ?_
  refine bw_imul C dX7_stepSeed_4 ?_
  refine bw_sipush C (v := 12345) dX7_stepSeed_5 (by decide) ?_
  refine bw_iadd C dX7_stepSeed_8 ?_
  exact bw_iret C dX7_stepSeed_9 h
theorem mt7_stepSeed {l : Launch} {G : GX}   {x0 : Int32} {w : Mem} {z : Int32 × Mem} (h : fn7_stepSeed  x0 w = some z) : MC l G shX 71 (eX G) yX7_stepSeed cX7_stepSeed 1 (some .int) rm7_stepSeed [.int x0] w z := by
  refine met_of (by decide +kernel) (eX_ok G) rfl (Nat.le_of_ble_eq_true rfl) (fun M hM C => ?_)
  subst hM
  exact bk7_stepSeed C  x0 h
def rm7_drawn : Room := { frames := 0, cells := 0, slots := 0, locals := 0 }
def fn7_drawn  (x0 : Int32) (w : Mem) : Option (Int32 × Mem) := some (((x0 >>> ((16 : Int32) &&& 31)) &&& 32767), w)
set_option maxRecDepth 20000 in
theorem bk7_drawn {M : MX} {G : GX} (C : BC M G shX 71 (eX G) RX7 cX7_drawn 1 (some .int) rm7_drawn) {z : Int32 × Mem}   (x0 : Int32) {w : Mem} (h : fn7_drawn  x0 w = some z) : BW M G shX 71 1 (ZR M G shX 71 (some .int) z) 0 [(0, .int x0)] [] w := by
  rw [fn7_drawn] at h
  refine bw_iload_n C 0 dX7_drawn_0 rfl rfl ?_
  refine bw_bipush C (v := 16) dX7_drawn_1 (by decide) ?_
  refine bw_ishr C dX7_drawn_3 ?_
  refine bw_sipush C (v := 32767) dX7_drawn_4 (by decide) ?_
  refine bw_iand C dX7_drawn_7 ?_
  exact bw_iret C dX7_drawn_8 h
theorem mt7_drawn {l : Launch} {G : GX}   {x0 : Int32} {w : Mem} {z : Int32 × Mem} (h : fn7_drawn  x0 w = some z) : MC l G shX 71 (eX G) yX7_drawn cX7_drawn 1 (some .int) rm7_drawn [.int x0] w z := by
  refine met_of (by decide +kernel) (eX_ok G) rfl (Nat.le_of_ble_eq_true rfl) (fun M hM C => ?_)
  subst hM
  exact bk7_drawn C  x0 h
def rm7_chatter : Room := { frames := 4, cells := 0, slots := 0, locals := 83 }
def fn7_chatter_34 (x2 : Int32) (k : Int32 → Int32 → Int32 → Mem → Option (Int32 × Mem)) : Nat → Int32 → Int32 → Int32 → Mem → Option (Int32 × Mem)
  | 0, _, _, _, _ => none
  | nn + 1, x3, x4, x5, w => (if x2 ≤ x5 then k x3 x4 x5 w else (fn7_stepSeed x3 w).bind (fun q41 => (fn7_drawn q41.1 q41.2).bind (fun q46 => (if 12 = 0 then none else (fn7_stepSeed q41.1 q46.2).bind (fun q55 => (fn7_drawn q55.1 q55.2).bind (fun q60 => (if (q60.2 1 0) = 0 then none else (fn7_stepSeed q55.1 q60.2).bind (fun q74 => (fn7_drawn q74.1 q74.2).bind (fun q79 => (if (q79.2 1 0) = 0 then none else (if (q60.1 - q60.1 / (q60.2 1 0) * (q60.2 1 0)) = (q79.1 - q79.1 / (q79.2 1 0) * (q79.2 1 0)) then fn7_chatter_34 x2 k nn q74.1 x4 (x5 + 1) q79.2 else (fn6_silentOnes 1 (q46.1 - q46.1 / 12 * 12) q79.2).bind (fun q109 => (fn6_isSaid 1 q109.1 (q60.1 - q60.1 / (q60.2 1 0) * (q60.2 1 0)) (q79.1 - q79.1 / (q79.2 1 0) * (q79.2 1 0)) q109.2).bind (fun q116 => (if q116.1 = 0 then fn7_chatter_34 x2 k nn q74.1 x4 (x5 + 1) q116.2 else fn7_chatter_34 x2 k nn q74.1 (x4 + 1) (x5 + 1) q116.2))))))))))))))
set_option maxRecDepth 20000 in
theorem bk7_chatter_34 {M : MX} {G : GX} (C : BC M G shX 71 (eX G) RX7 cX7_chatter 9 (some .int) rm7_chatter) {z : Int32 × Mem} (x2 : Int32) {k : Int32 → Int32 → Int32 → Mem → Option (Int32 × Mem)} (hk : ∀ (x3 : Int32) (x4 : Int32) (x5 : Int32) (w : Mem), k x3 x4 x5 w = some z → BW M G shX 71 9 (ZR M G shX 71 (some .int) z) 131 [(4, .int x4)] [] w) : ∀ (nn : Nat) (x3 : Int32) (x4 : Int32) (x5 : Int32) (w : Mem), fn7_chatter_34 x2 k nn x3 x4 x5 w = some z → BW M G shX 71 9 (ZR M G shX 71 (some .int) z) 34 [(0, .ref (gad G 0)), (2, .int x2), (3, .int x3), (4, .int x4), (5, .int x5)] [] w := by
  intro nn
  induction nn with
  | zero =>
    intro x3 x4 x5 w h
    have h : (none : Option (Int32 × Mem)) = some z := h
    cases h
  | succ nn ih =>
    intro x3 x4 x5 w h
    rw [fn7_chatter_34] at h
    refine bw_iload C 4 dX7_chatter_34 rfl ?_
    refine bw_iload_n C 1 dX7_chatter_36 rfl rfl ?_
    refine bw_icmp_ge C (tgt := 131) dX7_chatter_37 (by decide) h (fun h => ?_) (fun h => ?_)
    · exact bw_sub [3] rfl (hk x3 x4 x5 w h)
    · refine bw_iload_n C 2 dX7_chatter_40 rfl rfl ?_
      refine bw_callSi C (As := [.int x3]) miX7_stepSeed mlX7_256 smX7_stepSeed (by decide) rfl rfl (fun z1 h1 => mt7_stepSeed h1) rfl (Nat.le_of_ble_eq_true rfl) rfl dX7_chatter_41 h (fun q41 _ h => ?_)
      refine bw_istore_n C [(3, .int q41.1), (0, .ref (gad G 0)), (2, .int x2), (4, .int x4), (5, .int x5)] dX7_chatter_44 rfl (by decide) rfl ?_
      refine bw_iload_n C 0 dX7_chatter_45 rfl rfl ?_
      refine bw_callSi C (As := [.int q41.1]) miX7_drawn mlX7_259 smX7_drawn (by decide) rfl rfl (fun z1 h1 => mt7_drawn h1) rfl (Nat.le_of_ble_eq_true rfl) rfl dX7_chatter_46 h (fun q46 _ h => ?_)
      refine bw_bipush C (v := 12) dX7_chatter_49 (by decide) ?_
      refine bw_irem C dX7_chatter_51 h (fun h => ?_)
      refine bw_istore C [(6, .int (q46.1 - q46.1 / 12 * 12)), (3, .int q41.1), (0, .ref (gad G 0)), (2, .int x2), (4, .int x4), (5, .int x5)] dX7_chatter_52 (by decide) rfl ?_
      refine bw_iload_n C 1 dX7_chatter_54 rfl rfl ?_
      refine bw_callSi C (As := [.int q41.1]) miX7_stepSeed mlX7_256 smX7_stepSeed (by decide) rfl rfl (fun z1 h1 => mt7_stepSeed h1) rfl (Nat.le_of_ble_eq_true rfl) rfl dX7_chatter_55 h (fun q55 _ h => ?_)
      refine bw_istore_n C [(3, .int q55.1), (6, .int (q46.1 - q46.1 / 12 * 12)), (0, .ref (gad G 0)), (2, .int x2), (4, .int x4), (5, .int x5)] dX7_chatter_58 rfl (by decide) rfl ?_
      refine bw_iload_n C 0 dX7_chatter_59 rfl rfl ?_
      refine bw_callSi C (As := [.int q55.1]) miX7_drawn mlX7_259 smX7_drawn (by decide) rfl rfl (fun z1 h1 => mt7_drawn h1) rfl (Nat.le_of_ble_eq_true rfl) rfl dX7_chatter_60 h (fun q60 _ h => ?_)
      refine bw_aload_n C 2 dX7_chatter_63 rfl rfl ?_
      refine bw_getr C (j := 2) (t := 1) lX0 sX0 rfl inlX7 (by decide) rfl flX7_28 dX7_chatter_64 ?_
      refine bw_geti C (j := 0) lX1 sX1 rfl inlX6 (by decide) rfl flX7_107 dX7_chatter_67 ?_
      refine bw_irem C dX7_chatter_70 h (fun h => ?_)
      refine bw_istore C [(7, .int (q60.1 - q60.1 / (q60.2 1 0) * (q60.2 1 0))), (3, .int q55.1), (6, .int (q46.1 - q46.1 / 12 * 12)), (0, .ref (gad G 0)), (2, .int x2), (4, .int x4), (5, .int x5)] dX7_chatter_71 (by decide) rfl ?_
      refine bw_iload_n C 1 dX7_chatter_73 rfl rfl ?_
      refine bw_callSi C (As := [.int q55.1]) miX7_stepSeed mlX7_256 smX7_stepSeed (by decide) rfl rfl (fun z1 h1 => mt7_stepSeed h1) rfl (Nat.le_of_ble_eq_true rfl) rfl dX7_chatter_74 h (fun q74 _ h => ?_)
      refine bw_istore_n C [(3, .int q74.1), (7, .int (q60.1 - q60.1 / (q60.2 1 0) * (q60.2 1 0))), (6, .int (q46.1 - q46.1 / 12 * 12)), (0, .ref (gad G 0)), (2, .int x2), (4, .int x4), (5, .int x5)] dX7_chatter_77 rfl (by decide) rfl ?_
      refine bw_iload_n C 0 dX7_chatter_78 rfl rfl ?_
      refine bw_callSi C (As := [.int q74.1]) miX7_drawn mlX7_259 smX7_drawn (by decide) rfl rfl (fun z1 h1 => mt7_drawn h1) rfl (Nat.le_of_ble_eq_true rfl) rfl dX7_chatter_79 h (fun q79 _ h => ?_)
      refine bw_aload_n C 3 dX7_chatter_82 rfl rfl ?_
      refine bw_getr C (j := 2) (t := 1) lX0 sX0 rfl inlX7 (by decide) rfl flX7_28 dX7_chatter_83 ?_
      refine bw_geti C (j := 0) lX1 sX1 rfl inlX6 (by decide) rfl flX7_107 dX7_chatter_86 ?_
      refine bw_irem C dX7_chatter_89 h (fun h => ?_)
      refine bw_istore C [(8, .int (q79.1 - q79.1 / (q79.2 1 0) * (q79.2 1 0))), (3, .int q74.1), (7, .int (q60.1 - q60.1 / (q60.2 1 0) * (q60.2 1 0))), (6, .int (q46.1 - q46.1 / 12 * 12)), (0, .ref (gad G 0)), (2, .int x2), (4, .int x4), (5, .int x5)] dX7_chatter_90 (by decide) rfl ?_
      refine bw_iload C 2 dX7_chatter_92 rfl ?_
      refine bw_iload C 0 dX7_chatter_94 rfl ?_
      refine bw_icmp_eq C (tgt := 125) dX7_chatter_96 (by decide) h (fun h => ?_) (fun h => ?_)
      · refine bw_iinc C [(5, .int (x5 + 1)), (8, .int (q79.1 - q79.1 / (q79.2 1 0) * (q79.2 1 0))), (3, .int q74.1), (7, .int (q60.1 - q60.1 / (q60.2 1 0) * (q60.2 1 0))), (6, .int (q46.1 - q46.1 / 12 * 12)), (0, .ref (gad G 0)), (2, .int x2), (4, .int x4)] 7 dX7_chatter_125 rfl rfl (by decide) rfl ?_
        refine bw_goto C (tgt := 34) dX7_chatter_128 (by decide) ?_
        exact bw_sub [5, 6, 2, 7, 0] rfl (ih q74.1 x4 (x5 + 1) q79.2 h)
      · refine bw_aload_n C 4 dX7_chatter_99 rfl rfl ?_
        refine bw_getr C (j := 2) (t := 1) lX0 sX0 rfl inlX7 (by decide) rfl flX7_28 dX7_chatter_100 ?_
        refine bw_aload_n C 4 dX7_chatter_103 rfl rfl ?_
        refine bw_getr C (j := 2) (t := 1) lX0 sX0 rfl inlX7 (by decide) rfl flX7_28 dX7_chatter_104 ?_
        refine bw_iload C 3 dX7_chatter_107 rfl ?_
        refine bw_callVi C (As := [.int (q46.1 - q46.1 / 12 * 12)]) lX1 sX1 rfl miX6_silentOnes mlX7_181 imX6_silentOnes seX6_silentOnes (by decide) rfl rfl (fun z1 h1 => mt6_silentOnes isT_1 h1) rfl (Nat.le_of_ble_eq_true rfl) rfl dX7_chatter_109 h (fun q109 _ h => ?_)
        refine bw_iload C 2 dX7_chatter_112 rfl ?_
        refine bw_iload C 0 dX7_chatter_114 rfl ?_
        refine bw_callVi C (As := [.int q109.1, .int (q60.1 - q60.1 / (q60.2 1 0) * (q60.2 1 0)), .int (q79.1 - q79.1 / (q79.2 1 0) * (q79.2 1 0))]) lX1 sX1 rfl miX6_isSaid mlX7_192 imX6_isSaid seX6_isSaid (by decide) rfl rfl (fun z1 h1 => mt6_isSaid isT_1 h1) rfl (Nat.le_of_ble_eq_true rfl) rfl dX7_chatter_116 h (fun q116 _ h => ?_)
        refine bw_if_eq C (tgt := 125) dX7_chatter_119 (by decide) h (fun h => ?_) (fun h => ?_)
        · refine bw_iinc C [(5, .int (x5 + 1)), (8, .int (q79.1 - q79.1 / (q79.2 1 0) * (q79.2 1 0))), (3, .int q74.1), (7, .int (q60.1 - q60.1 / (q60.2 1 0) * (q60.2 1 0))), (6, .int (q46.1 - q46.1 / 12 * 12)), (0, .ref (gad G 0)), (2, .int x2), (4, .int x4)] 7 dX7_chatter_125 rfl rfl (by decide) rfl ?_
          refine bw_goto C (tgt := 34) dX7_chatter_128 (by decide) ?_
          exact bw_sub [5, 6, 2, 7, 0] rfl (ih q74.1 x4 (x5 + 1) q116.2 h)
        · refine bw_iinc C [(4, .int (x4 + 1)), (8, .int (q79.1 - q79.1 / (q79.2 1 0) * (q79.2 1 0))), (3, .int q74.1), (7, .int (q60.1 - q60.1 / (q60.2 1 0) * (q60.2 1 0))), (6, .int (q46.1 - q46.1 / 12 * 12)), (0, .ref (gad G 0)), (2, .int x2), (5, .int x5)] 6 dX7_chatter_122 rfl rfl (by decide) rfl ?_
          refine bw_iinc C [(5, .int (x5 + 1)), (4, .int (x4 + 1)), (8, .int (q79.1 - q79.1 / (q79.2 1 0) * (q79.2 1 0))), (3, .int q74.1), (7, .int (q60.1 - q60.1 / (q60.2 1 0) * (q60.2 1 0))), (6, .int (q46.1 - q46.1 / 12 * 12)), (0, .ref (gad G 0)), (2, .int x2)] 7 dX7_chatter_125 rfl rfl (by decide) rfl ?_
          refine bw_goto C (tgt := 34) dX7_chatter_128 (by decide) ?_
          exact bw_sub [6, 7, 3, 1, 0] rfl (ih q74.1 (x4 + 1) (x5 + 1) q116.2 h)
def fn7_chatter  (x1 : Int32) (x2 : Int32) (w : Mem) : Option (Int32 × Mem) := (if x2 < 1 then some ((-1), w) else (if x2 ≤ 60 then (if ¬ (w 1 0) = 0 then fn7_chatter_34 x2 (fun x3_34 x4_34 x5_34 w_34 => some (x4_34, w_34)) 1000 x1 0 0 w else some ((-2), w)) else some ((-1), w)))
set_option maxRecDepth 20000 in
theorem bk7_chatter {M : MX} {G : GX} (C : BC M G shX 71 (eX G) RX7 cX7_chatter 9 (some .int) rm7_chatter) {z : Int32 × Mem}   (x1 : Int32) (x2 : Int32) {w : Mem} (h : fn7_chatter  x1 x2 w = some z) : BW M G shX 71 9 (ZR M G shX 71 (some .int) z) 0 [(0, .ref (gad G 0)), (1, .int x1), (2, .int x2)] [] w := by
  rw [fn7_chatter] at h
  refine bw_iload_n C 2 dX7_chatter_0 rfl rfl ?_
  refine bw_iconst C (v := 1) dX7_chatter_1 (by decide) ?_
  refine bw_icmp_lt C (tgt := 11) dX7_chatter_2 (by decide) h (fun h => ?_) (fun h => ?_)
  · refine bw_iconst C (v := (-1)) dX7_chatter_11 (by decide) ?_
    exact bw_iret C dX7_chatter_12 h
  · refine bw_iload_n C 2 dX7_chatter_5 rfl rfl ?_
    refine bw_bipush C (v := 60) dX7_chatter_6 (by decide) ?_
    refine bw_icmp_le C (tgt := 13) dX7_chatter_8 (by decide) h (fun h => ?_) (fun h => ?_)
    · refine bw_aload_n C 0 dX7_chatter_13 rfl rfl ?_
      refine bw_getr C (j := 2) (t := 1) lX0 sX0 rfl inlX7 (by decide) rfl flX7_28 dX7_chatter_14 ?_
      refine bw_geti C (j := 0) lX1 sX1 rfl inlX6 (by decide) rfl flX7_107 dX7_chatter_17 ?_
      refine bw_if_ne C (tgt := 26) dX7_chatter_20 (by decide) h (fun h => ?_) (fun h => ?_)
      · refine bw_iload_n C 1 dX7_chatter_26 rfl rfl ?_
        refine bw_istore_n C [(3, .int x1), (0, .ref (gad G 0)), (1, .int x1), (2, .int x2)] dX7_chatter_27 rfl (by decide) rfl ?_
        refine bw_iconst C (v := 0) dX7_chatter_28 (by decide) ?_
        refine bw_istore C [(4, .int 0), (3, .int x1), (0, .ref (gad G 0)), (1, .int x1), (2, .int x2)] dX7_chatter_29 (by decide) rfl ?_
        refine bw_iconst C (v := 0) dX7_chatter_31 (by decide) ?_
        refine bw_istore C [(5, .int 0), (4, .int 0), (3, .int x1), (0, .ref (gad G 0)), (1, .int x1), (2, .int x2)] dX7_chatter_32 (by decide) rfl ?_
        refine bw_sub [3, 5, 2, 1, 0] rfl (bk7_chatter_34 C x2 (fun x3_34 x4_34 x5_34 w_34 h => ?_) 1000 x1 0 0 w h)
        refine bw_iload C 0 dX7_chatter_131 rfl ?_
        exact bw_iret C dX7_chatter_133 h
      · refine bw_bipush C (v := (-2)) dX7_chatter_23 (by decide) ?_
        exact bw_iret C dX7_chatter_25 h
    · refine bw_iconst C (v := (-1)) dX7_chatter_11 (by decide) ?_
      exact bw_iret C dX7_chatter_12 h
theorem mt7_chatter {l : Launch} {G : GX}   {x1 : Int32} {x2 : Int32} {w : Mem} {z : Int32 × Mem} (h : fn7_chatter  x1 x2 w = some z) : MC l G shX 71 (eX G) yX7_chatter cX7_chatter 9 (some .int) rm7_chatter [.ref (gad G 0), .int x1, .int x2] w z := by
  refine met_of (by decide +kernel) (eX_ok G) rfl (Nat.le_of_ble_eq_true rfl) (fun M hM C => ?_)
  subst hM
  exact bk7_chatter C  x1 x2 h
