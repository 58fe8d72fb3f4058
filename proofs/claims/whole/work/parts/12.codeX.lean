def rm2_addSilence : Room := { frames := 3, cells := 0, slots := 0, locals := 60 }
def fn2_addSilence_2 (x1 : Int32) (x2 : Int32) (k : Int32 → Mem → Option (Int32 × Mem)) : Nat → Int32 → Mem → Option (Int32 × Mem)
  | 0, _, _ => none
  | nn + 1, x3, w => (if 12 ≤ x3 then k x3 w else (if ib x3 12 = true then (fn6_silencedBy 1 x1 x2 x3 w).bind (fun q22 => (if ib x3 12 = true then fn2_addSilence_2 x1 x2 k nn (x3 + 1) (up2 q22.2 59 x3.toNatClampNeg ((w 59 x3.toNatClampNeg) ||| q22.1)) else none)) else none))
set_option maxRecDepth 20000 in
theorem bk2_addSilence_2 {M : MX} {G : GX} (C : BC M G shX 71 (eX G) RX2 cX2_addSilence 4 none rm2_addSilence) {z : Int32 × Mem} (x1 : Int32) (x2 : Int32) {k : Int32 → Mem → Option (Int32 × Mem)} (hk : ∀ (x3 : Int32) (w : Mem), k x3 w = some z → BW M G shX 71 4 (ZR M G shX 71 none z) 33 [] [] w) : ∀ (nn : Nat) (x3 : Int32) (w : Mem), fn2_addSilence_2 x1 x2 k nn x3 w = some z → BW M G shX 71 4 (ZR M G shX 71 none z) 2 [(0, .ref (gad G 56)), (1, .int x1), (2, .int x2), (3, .int x3)] [] w := by
  intro nn
  induction nn with
  | zero =>
    intro x3 w h
    have h : (none : Option (Int32 × Mem)) = some z := h
    cases h
  | succ nn ih =>
    intro x3 w h
    rw [fn2_addSilence_2] at h
    refine bw_iload_n C 3 dX2_addSilence_2 rfl rfl ?_
    refine bw_bipush C (v := 12) dX2_addSilence_3 (by decide) ?_
    refine bw_icmp_ge C (tgt := 33) dX2_addSilence_5 (by decide) h (fun h => ?_) (fun h => ?_)
    · exact bw_sub [] rfl (hk x3 w h)
    · refine bw_aload_n C 0 dX2_addSilence_8 rfl rfl ?_
      refine bw_getr C (j := 4) (t := 59) lX56 sX56 rfl inlX2 (by decide) rfl flX2_19 dX2_addSilence_9 ?_
      refine bw_iload_n C 3 dX2_addSilence_12 rfl rfl ?_
      refine bw_dup2 C dX2_addSilence_13 rfl rfl ?_
      refine bw_iald C lX59 sX59 dX2_addSilence_14 h (fun h => ?_)
      refine bw_aload_n C 0 dX2_addSilence_15 rfl rfl ?_
      refine bw_getr C (j := 3) (t := 1) lX56 sX56 rfl inlX2 (by decide) rfl flX2_22 dX2_addSilence_16 ?_
      refine bw_iload_n C 1 dX2_addSilence_19 rfl rfl ?_
      refine bw_iload_n C 2 dX2_addSilence_20 rfl rfl ?_
      refine bw_iload_n C 3 dX2_addSilence_21 rfl rfl ?_
      refine bw_callVi C (As := [.int x1, .int x2, .int x3]) lX1 sX1 rfl miX6_silencedBy mlX2_36 imX6_silencedBy seX6_silencedBy (by decide) rfl rfl (fun z1 h1 => mt6_silencedBy isT_1 h1) rfl (Nat.le_of_ble_eq_true rfl) rfl dX2_addSilence_22 h (fun q22 _ h => ?_)
      refine bw_ior C dX2_addSilence_25 ?_
      refine bw_iast C lX59 sX59 dX2_addSilence_26 h (fun h => ?_)
      refine bw_iinc C [(3, .int (x3 + 1)), (0, .ref (gad G 56)), (1, .int x1), (2, .int x2)] 3 dX2_addSilence_27 rfl rfl (by decide) rfl ?_
      refine bw_goto C (tgt := 2) dX2_addSilence_30 (by decide) ?_
      exact bw_sub [1, 2, 3, 0] rfl (ih (x3 + 1) (up2 q22.2 59 x3.toNatClampNeg ((w 59 x3.toNatClampNeg) ||| q22.1)) h)
def fn2_addSilence  (x1 : Int32) (x2 : Int32) (w : Mem) : Option (Int32 × Mem) := fn2_addSilence_2 x1 x2 (fun x3_2 w_2 => some (0, w_2)) 1000 0 w
set_option maxRecDepth 20000 in
theorem bk2_addSilence {M : MX} {G : GX} (C : BC M G shX 71 (eX G) RX2 cX2_addSilence 4 none rm2_addSilence) {z : Int32 × Mem}   (x1 : Int32) (x2 : Int32) {w : Mem} (h : fn2_addSilence  x1 x2 w = some z) : BW M G shX 71 4 (ZR M G shX 71 none z) 0 [(0, .ref (gad G 56)), (1, .int x1), (2, .int x2)] [] w := by
  rw [fn2_addSilence] at h
  refine bw_iconst C (v := 0) dX2_addSilence_0 (by decide) ?_
  refine bw_istore_n C [(3, .int 0), (0, .ref (gad G 56)), (1, .int x1), (2, .int x2)] dX2_addSilence_1 rfl (by decide) rfl ?_
  refine bw_sub [1, 2, 3, 0] rfl (bk2_addSilence_2 C x1 x2 (fun x3_2 w_2 h => ?_) 1000 0 w h)
  exact bw_vret C dX2_addSilence_33 h
theorem mt2_addSilence {l : Launch} {G : GX}   {x1 : Int32} {x2 : Int32} {w : Mem} {z : Int32 × Mem} (h : fn2_addSilence  x1 x2 w = some z) : MC l G shX 71 (eX G) yX2_addSilence cX2_addSilence 4 none rm2_addSilence [.ref (gad G 56), .int x1, .int x2] w z := by
  refine met_of (by decide +kernel) (eX_ok G) rfl (Nat.le_of_ble_eq_true rfl) (fun M hM C => ?_)
  subst hM
  exact bk2_addSilence C  x1 x2 h
def rm6_isSaid : Room := { frames := 1, cells := 0, slots := 0, locals := 21 }
def fn6_isSaid_77 (b : Nat) (w : Mem) : Option (Int32 × Mem) := some (1, w)
set_option maxRecDepth 20000 in
theorem bk6_isSaid_77 {M : MX} {G : GX} (C : BC M G shX 71 (eX G) RX6 cX6_isSaid 6 (some .boolean) rm6_isSaid) {z : Int32 × Mem} {b : Nat} (hb : isTown b) {w : Mem} (h : fn6_isSaid_77 b w = some z) : BW M G shX 71 6 (ZR M G shX 71 (some .boolean) z) 77 [] [] w := by
  rw [fn6_isSaid_77] at h
  refine bw_iconst C (v := 1) dX6_isSaid_77 (by decide) ?_
  refine bw_goto C (tgt := 82) dX6_isSaid_78 (by decide) ?_
  exact bw_zretc C dX6_isSaid_82 rfl h
def fn6_isSaid (b : Nat) (x1 : Int32) (x2 : Int32) (x3 : Int32) (w : Mem) : Option (Int32 × Mem) := (if ib x2 6 = true then (if ¬ (w (b + 1) x2.toNatClampNeg) = 4 then (fn7_hasBit x1 x2 w).bind (fun q14 => (fn7_hasBit x1 x3 q14.2).bind (fun q21 => (if (q21.2 b 13) = 0 then (if ¬ q21.1 = 0 then some (0, q21.2) else some (1, q21.2)) else (if (q21.2 b 13) = 1 then (if q21.1 = 0 then fn6_isSaid_77 b q21.2 else (if q14.1 = 0 then some (0, q21.2) else fn6_isSaid_77 b q21.2)) else (if ¬ q21.1 = 0 then some (0, q21.2) else (if ¬ q14.1 = 0 then some (0, q21.2) else some (1, q21.2))))))) else some (1, w)) else none)
set_option maxRecDepth 20000 in
theorem bk6_isSaid {M : MX} {G : GX} (C : BC M G shX 71 (eX G) RX6 cX6_isSaid 6 (some .boolean) rm6_isSaid) {z : Int32 × Mem} {b : Nat} (hb : isTown b) (x1 : Int32) (x2 : Int32) (x3 : Int32) {w : Mem} (h : fn6_isSaid b x1 x2 x3 w = some z) : BW M G shX 71 6 (ZR M G shX 71 (some .boolean) z) 0 [(0, .ref (gad G b)), (1, .int x1), (2, .int x2), (3, .int x3)] [] w := by
  rw [fn6_isSaid] at h
  refine bw_aload_n C 0 dX6_isSaid_0 rfl rfl ?_
  refine bw_getr C (j := 1) (t := (b + 1)) (isT_lt hb) (isT_sh hb) rfl inlX6 (by decide) rfl flX6_9 dX6_isSaid_1 ?_
  refine bw_iload_n C 2 dX6_isSaid_4 rfl rfl ?_
  refine bw_iald C (isT_l1 hb) (isT_s1 hb) dX6_isSaid_5 h (fun h => ?_)
  refine bw_iconst C (v := 4) dX6_isSaid_6 (by decide) ?_
  refine bw_icmp_ne C (tgt := 12) dX6_isSaid_7 (by decide) h (fun h => ?_) (fun h => ?_)
  · refine bw_iload_n C 1 dX6_isSaid_12 rfl rfl ?_
    refine bw_iload_n C 2 dX6_isSaid_13 rfl rfl ?_
    refine bw_callSNi C (As := [.int x1, .int x2]) miX7_hasBit (nstAt C.2.2.2.2.2.2.2.2.2.1.1 3 rfl) smX7_hasBit (by decide) rfl rfl (fun z1 h1 => mt7_hasBit h1) rfl (Nat.le_of_ble_eq_true rfl) rfl dX6_isSaid_14 h (fun q14 _ h => ?_)
    refine bw_istore C [(4, .int q14.1), (0, .ref (gad G b)), (1, .int x1), (2, .int x2), (3, .int x3)] dX6_isSaid_17 (by decide) rfl ?_
    refine bw_iload_n C 2 dX6_isSaid_19 rfl rfl ?_
    refine bw_iload_n C 4 dX6_isSaid_20 rfl rfl ?_
    refine bw_callSNi C (As := [.int x1, .int x3]) miX7_hasBit (nstAt C.2.2.2.2.2.2.2.2.2.1.1 3 rfl) smX7_hasBit (by decide) rfl rfl (fun z1 h1 => mt7_hasBit h1) rfl (Nat.le_of_ble_eq_true rfl) rfl dX6_isSaid_21 h (fun q21 _ h => ?_)
    refine bw_istore C [(5, .int q21.1), (4, .int q14.1), (0, .ref (gad G b)), (1, .int x1), (2, .int x2), (3, .int x3)] dX6_isSaid_24 (by decide) rfl ?_
    refine bw_aload_n C 2 dX6_isSaid_26 rfl rfl ?_
    refine bw_geti C (j := 13) (isT_lt hb) (isT_sh hb) rfl inlX6 (by decide) rfl flX6_56 dX6_isSaid_27 ?_
    refine bw_case h (fun hx h => ?_) (fun hn0 h => ?_)
    · refine bw_lsw C (tgt := 56) dX6_isSaid_30 (by decide) (show _ = (26 : Int) from ?_) (by decide) ?_
      · rw [hx]; rfl
      · refine bw_iload C 0 dX6_isSaid_56 rfl ?_
        refine bw_if_ne C (tgt := 65) dX6_isSaid_58 (by decide) h (fun h => ?_) (fun h => ?_)
        · refine bw_iconst C (v := 0) dX6_isSaid_65 (by decide) ?_
          exact bw_zretc C dX6_isSaid_66 rfl h
        · refine bw_iconst C (v := 1) dX6_isSaid_61 (by decide) ?_
          refine bw_goto C (tgt := 66) dX6_isSaid_62 (by decide) ?_
          exact bw_zretc C dX6_isSaid_66 rfl h
    · refine bw_case h (fun hx h => ?_) (fun hn1 h => ?_)
      · refine bw_lsw C (tgt := 67) dX6_isSaid_30 (by decide) (show _ = (37 : Int) from ?_) (by decide) ?_
        · rw [hx]; rfl
        · refine bw_iload C 0 dX6_isSaid_67 rfl ?_
          refine bw_if_eq C (tgt := 77) dX6_isSaid_69 (by decide) h (fun h => ?_) (fun h => ?_)
          · exact bw_sub [] rfl (bk6_isSaid_77 C hb h)
          · refine bw_iload C 1 dX6_isSaid_72 rfl ?_
            refine bw_if_eq C (tgt := 81) dX6_isSaid_74 (by decide) h (fun h => ?_) (fun h => ?_)
            · refine bw_iconst C (v := 0) dX6_isSaid_81 (by decide) ?_
              exact bw_zretc C dX6_isSaid_82 rfl h
            · exact bw_sub [] rfl (bk6_isSaid_77 C hb h)
      · refine bw_lsw C (tgt := 83) dX6_isSaid_30 (by decide) (show _ = (53 : Int) from ?_) (by decide) ?_
        · first | (rw [lv_osw hn0 (by decide), lv_osw hn1 (by decide)]; rfl) | (rw [lv_osw hn0 (by decide)]; rfl)
        · refine bw_iload C 0 dX6_isSaid_83 rfl ?_
          refine bw_if_ne C (tgt := 97) dX6_isSaid_85 (by decide) h (fun h => ?_) (fun h => ?_)
          · refine bw_iconst C (v := 0) dX6_isSaid_97 (by decide) ?_
            exact bw_zretc C dX6_isSaid_98 rfl h
          · refine bw_iload C 1 dX6_isSaid_88 rfl ?_
            refine bw_if_ne C (tgt := 97) dX6_isSaid_90 (by decide) h (fun h => ?_) (fun h => ?_)
            · refine bw_iconst C (v := 0) dX6_isSaid_97 (by decide) ?_
              exact bw_zretc C dX6_isSaid_98 rfl h
            · refine bw_iconst C (v := 1) dX6_isSaid_93 (by decide) ?_
              refine bw_goto C (tgt := 98) dX6_isSaid_94 (by decide) ?_
              exact bw_zretc C dX6_isSaid_98 rfl h
  · refine bw_iconst C (v := 1) dX6_isSaid_10 (by decide) ?_
    exact bw_zretc C dX6_isSaid_11 rfl h
theorem mt6_isSaid {l : Launch} {G : GX} {b : Nat} (hb : isTown b) {x1 : Int32} {x2 : Int32} {x3 : Int32} {w : Mem} {z : Int32 × Mem} (h : fn6_isSaid b x1 x2 x3 w = some z) : MC l G shX 71 (eX G) yX6_isSaid cX6_isSaid 6 (some .boolean) rm6_isSaid [.ref (gad G b), .int x1, .int x2, .int x3] w z := by
  refine met_of (by decide +kernel) (eX_ok G) rfl (Nat.le_of_ble_eq_true rfl) (fun M hM C => ?_)
  subst hM
  exact bk6_isSaid C hb x1 x2 x3 h
def rm2_comingTo : Room := { frames := 0, cells := 0, slots := 0, locals := 0 }
def fn2_comingTo  (x1 : Int32) (w : Mem) : Option (Int32 × Mem) := (if ib x1 6 = true then (if ¬ (w 2 x1.toNatClampNeg) = 2 then some (((1 : Int32) <<< (x1 &&& 31)), w) else some (0, w)) else none)
set_option maxRecDepth 20000 in
theorem bk2_comingTo {M : MX} {G : GX} (C : BC M G shX 71 (eX G) RX2 cX2_comingTo 2 (some .int) rm2_comingTo) {z : Int32 × Mem}   (x1 : Int32) {w : Mem} (h : fn2_comingTo  x1 w = some z) : BW M G shX 71 2 (ZR M G shX 71 (some .int) z) 0 [(0, .ref (gad G 56)), (1, .int x1)] [] w := by
  rw [fn2_comingTo] at h
  refine bw_aload_n C 0 dX2_comingTo_0 rfl rfl ?_
  refine bw_getr C (j := 3) (t := 1) lX56 sX56 rfl inlX2 (by decide) rfl flX2_22 dX2_comingTo_1 ?_
  refine bw_getr C (j := 1) (t := 2) lX1 sX1 rfl inlX6 (by decide) rfl flX2_67 dX2_comingTo_4 ?_
  refine bw_iload_n C 1 dX2_comingTo_7 rfl rfl ?_
  refine bw_iald C lX2 sX2 dX2_comingTo_8 h (fun h => ?_)
  refine bw_iconst C (v := 2) dX2_comingTo_9 (by decide) ?_
  refine bw_icmp_ne C (tgt := 17) dX2_comingTo_10 (by decide) h (fun h => ?_) (fun h => ?_)
  · refine bw_iconst C (v := 1) dX2_comingTo_17 (by decide) ?_
    refine bw_iload_n C 1 dX2_comingTo_18 rfl rfl ?_
    refine bw_ishl C dX2_comingTo_19 ?_
    exact bw_iret C dX2_comingTo_20 h
  · refine bw_iconst C (v := 0) dX2_comingTo_13 (by decide) ?_
    refine bw_goto C (tgt := 20) dX2_comingTo_14 (by decide) ?_
    exact bw_iret C dX2_comingTo_20 h
theorem mt2_comingTo {l : Launch} {G : GX}   {x1 : Int32} {w : Mem} {z : Int32 × Mem} (h : fn2_comingTo  x1 w = some z) : MC l G shX 71 (eX G) yX2_comingTo cX2_comingTo 2 (some .int) rm2_comingTo [.ref (gad G 56), .int x1] w z := by
  refine met_of (by decide +kernel) (eX_ok G) rfl (Nat.le_of_ble_eq_true rfl) (fun M hM C => ?_)
  subst hM
  exact bk2_comingTo C  x1 h
def rm2_knowersAfter : Room := { frames := 2, cells := 0, slots := 0, locals := 46 }
def fn2_knowersAfter_129 (x2 : Int32) (x3 : Int32) (x4 : Int32) (x5 : Int32) (x6 : Int32) (t0 : Int32) (kb : Int32 → Int32 → Mem → Option (Int32 × Mem)) (w : Mem) : Option (Int32 × Mem) := (if t0 = 0 then kb x3 (x4 + 1) w else (fn7_hasBit x3 x6 w).bind (fun q139 => (if q139.1 = 0 then kb x3 (x4 + 1) q139.2 else (fn2_comingTo x5 q139.2).bind (fun q149 => kb (x3 ||| q149.1) (x4 + 1) q149.2))))
set_option maxRecDepth 20000 in
theorem bk2_knowersAfter_129 {M : MX} {G : GX} (C : BC M G shX 71 (eX G) RX2 cX2_knowersAfter 8 (some .int) rm2_knowersAfter) {z : Int32 × Mem} (x2 : Int32) (x3 : Int32) (x4 : Int32) (x5 : Int32) (x6 : Int32) (t0 : Int32) {kb : Int32 → Int32 → Mem → Option (Int32 × Mem)} (hkb : ∀ (x3 : Int32) (x4 : Int32) (w : Mem), kb x3 x4 w = some z → BW M G shX 71 8 (ZR M G shX 71 (some .int) z) 5 [(0, .ref (gad G 56)), (2, .int x2), (3, .int x3), (4, .int x4)] [] w) {w : Mem} (h : fn2_knowersAfter_129 x2 x3 x4 x5 x6 t0 kb w = some z) : BW M G shX 71 8 (ZR M G shX 71 (some .int) z) 129 [(0, .ref (gad G 56)), (2, .int x2), (3, .int x3), (4, .int x4), (5, .int x5), (6, .int x6)] [.int t0] w := by
  rw [fn2_knowersAfter_129] at h
  refine bw_istore C [(7, .int t0), (0, .ref (gad G 56)), (2, .int x2), (3, .int x3), (4, .int x4), (5, .int x5), (6, .int x6)] dX2_knowersAfter_129 (by decide) rfl ?_
  refine bw_iload C 0 dX2_knowersAfter_131 rfl ?_
  refine bw_if_eq C (tgt := 154) dX2_knowersAfter_133 (by decide) h (fun h => ?_) (fun h => ?_)
  · refine bw_iinc C [(4, .int (x4 + 1)), (7, .int t0), (0, .ref (gad G 56)), (2, .int x2), (3, .int x3), (5, .int x5), (6, .int x6)] 4 dX2_knowersAfter_154 rfl rfl (by decide) rfl ?_
    refine bw_goto C (tgt := 5) dX2_knowersAfter_157 (by decide) ?_
    exact bw_sub [2, 3, 4, 0] rfl (hkb x3 (x4 + 1) w h)
  · refine bw_iload_n C 3 dX2_knowersAfter_136 rfl rfl ?_
    refine bw_iload C 6 dX2_knowersAfter_137 rfl ?_
    refine bw_callSNi C (As := [.int x3, .int x6]) miX7_hasBit (nstAt C.2.2.2.2.2.2.2.2.2.1.1 5 rfl) smX7_hasBit (by decide) rfl rfl (fun z1 h1 => mt7_hasBit h1) rfl (Nat.le_of_ble_eq_true rfl) rfl dX2_knowersAfter_139 h (fun q139 _ h => ?_)
    refine bw_if_eq C (tgt := 154) dX2_knowersAfter_142 (by decide) h (fun h => ?_) (fun h => ?_)
    · refine bw_iinc C [(4, .int (x4 + 1)), (7, .int t0), (0, .ref (gad G 56)), (2, .int x2), (3, .int x3), (5, .int x5), (6, .int x6)] 4 dX2_knowersAfter_154 rfl rfl (by decide) rfl ?_
      refine bw_goto C (tgt := 5) dX2_knowersAfter_157 (by decide) ?_
      exact bw_sub [2, 3, 4, 0] rfl (hkb x3 (x4 + 1) q139.2 h)
    · refine bw_iload_n C 3 dX2_knowersAfter_145 rfl rfl ?_
      refine bw_aload_n C 1 dX2_knowersAfter_146 rfl rfl ?_
      refine bw_iload C 5 dX2_knowersAfter_147 rfl ?_
      refine bw_callVi C (As := [.int x5]) lX56 sX56 rfl miX2_comingTo mlX2_64 imX2_comingTo seX2_comingTo (by decide) rfl rfl (fun z1 h1 => mt2_comingTo h1) rfl (Nat.le_of_ble_eq_true rfl) rfl dX2_knowersAfter_149 h (fun q149 _ h => ?_)
      refine bw_ior C dX2_knowersAfter_152 ?_
      refine bw_istore_n C [(3, .int (x3 ||| q149.1)), (7, .int t0), (0, .ref (gad G 56)), (2, .int x2), (4, .int x4), (5, .int x5), (6, .int x6)] dX2_knowersAfter_153 rfl (by decide) rfl ?_
      refine bw_iinc C [(4, .int (x4 + 1)), (3, .int (x3 ||| q149.1)), (7, .int t0), (0, .ref (gad G 56)), (2, .int x2), (5, .int x5), (6, .int x6)] 4 dX2_knowersAfter_154 rfl rfl (by decide) rfl ?_
      refine bw_goto C (tgt := 5) dX2_knowersAfter_157 (by decide) ?_
      exact bw_sub [3, 4, 1, 0] rfl (hkb (x3 ||| q149.1) (x4 + 1) q149.2 h)
def fn2_knowersAfter_124 (x2 : Int32) (x3 : Int32) (x4 : Int32) (x5 : Int32) (x6 : Int32) (kb : Int32 → Int32 → Mem → Option (Int32 × Mem)) (w : Mem) : Option (Int32 × Mem) := fn2_knowersAfter_129 x2 x3 x4 x5 x6 1 kb w
set_option maxRecDepth 20000 in
theorem bk2_knowersAfter_124 {M : MX} {G : GX} (C : BC M G shX 71 (eX G) RX2 cX2_knowersAfter 8 (some .int) rm2_knowersAfter) {z : Int32 × Mem} (x2 : Int32) (x3 : Int32) (x4 : Int32) (x5 : Int32) (x6 : Int32) {kb : Int32 → Int32 → Mem → Option (Int32 × Mem)} (hkb : ∀ (x3 : Int32) (x4 : Int32) (w : Mem), kb x3 x4 w = some z → BW M G shX 71 8 (ZR M G shX 71 (some .int) z) 5 [(0, .ref (gad G 56)), (2, .int x2), (3, .int x3), (4, .int x4)] [] w) {w : Mem} (h : fn2_knowersAfter_124 x2 x3 x4 x5 x6 kb w = some z) : BW M G shX 71 8 (ZR M G shX 71 (some .int) z) 124 [(0, .ref (gad G 56)), (2, .int x2), (3, .int x3), (4, .int x4), (5, .int x5), (6, .int x6)] [] w := by
  rw [fn2_knowersAfter_124] at h
  refine bw_iconst C (v := 1) dX2_knowersAfter_124 (by decide) ?_
  refine bw_goto C (tgt := 129) dX2_knowersAfter_125 (by decide) ?_
  exact bw_sub [0, 1, 2, 3, 4, 5] rfl (bk2_knowersAfter_129 C x2 x3 x4 x5 x6 1 hkb h)
def fn2_knowersAfter_96 (x2 : Int32) (x3 : Int32) (x4 : Int32) (x5 : Int32) (x6 : Int32) (kb : Int32 → Int32 → Mem → Option (Int32 × Mem)) (w : Mem) : Option (Int32 × Mem) := (if ib x5 6 = true then (if (w 2 x5.toNatClampNeg) = 1 then fn2_knowersAfter_124 x2 x3 x4 x5 x6 kb w else (if ib x6 6 = true then (if ¬ (w 2 x6.toNatClampNeg) = 1 then fn2_knowersAfter_129 x2 x3 x4 x5 x6 0 kb w else fn2_knowersAfter_124 x2 x3 x4 x5 x6 kb w) else none)) else none)
set_option maxRecDepth 20000 in
theorem bk2_knowersAfter_96 {M : MX} {G : GX} (C : BC M G shX 71 (eX G) RX2 cX2_knowersAfter 8 (some .int) rm2_knowersAfter) {z : Int32 × Mem} (x2 : Int32) (x3 : Int32) (x4 : Int32) (x5 : Int32) (x6 : Int32) {kb : Int32 → Int32 → Mem → Option (Int32 × Mem)} (hkb : ∀ (x3 : Int32) (x4 : Int32) (w : Mem), kb x3 x4 w = some z → BW M G shX 71 8 (ZR M G shX 71 (some .int) z) 5 [(0, .ref (gad G 56)), (2, .int x2), (3, .int x3), (4, .int x4)] [] w) {w : Mem} (h : fn2_knowersAfter_96 x2 x3 x4 x5 x6 kb w = some z) : BW M G shX 71 8 (ZR M G shX 71 (some .int) z) 96 [(0, .ref (gad G 56)), (2, .int x2), (3, .int x3), (4, .int x4), (5, .int x5), (6, .int x6)] [] w := by
  rw [fn2_knowersAfter_96] at h
  refine bw_aload_n C 0 dX2_knowersAfter_96 rfl rfl ?_
  refine bw_getr C (j := 3) (t := 1) lX56 sX56 rfl inlX2 (by decide) rfl flX2_22 dX2_knowersAfter_97 ?_
  refine bw_getr C (j := 1) (t := 2) lX1 sX1 rfl inlX6 (by decide) rfl flX2_67 dX2_knowersAfter_100 ?_
  refine bw_iload C 4 dX2_knowersAfter_103 rfl ?_
  refine bw_iald C lX2 sX2 dX2_knowersAfter_105 h (fun h => ?_)
  refine bw_iconst C (v := 1) dX2_knowersAfter_106 (by decide) ?_
  refine bw_icmp_eq C (tgt := 124) dX2_knowersAfter_107 (by decide) h (fun h => ?_) (fun h => ?_)
  · exact bw_sub [0, 1, 2, 3, 4, 5] rfl (bk2_knowersAfter_124 C x2 x3 x4 x5 x6 hkb h)
  · refine bw_aload_n C 0 dX2_knowersAfter_110 rfl rfl ?_
    refine bw_getr C (j := 3) (t := 1) lX56 sX56 rfl inlX2 (by decide) rfl flX2_22 dX2_knowersAfter_111 ?_
    refine bw_getr C (j := 1) (t := 2) lX1 sX1 rfl inlX6 (by decide) rfl flX2_67 dX2_knowersAfter_114 ?_
    refine bw_iload C 5 dX2_knowersAfter_117 rfl ?_
    refine bw_iald C lX2 sX2 dX2_knowersAfter_119 h (fun h => ?_)
    refine bw_iconst C (v := 1) dX2_knowersAfter_120 (by decide) ?_
    refine bw_icmp_ne C (tgt := 128) dX2_knowersAfter_121 (by decide) h (fun h => ?_) (fun h => ?_)
    · refine bw_iconst C (v := 0) dX2_knowersAfter_128 (by decide) ?_
      exact bw_sub [0, 1, 2, 3, 4, 5] rfl (bk2_knowersAfter_129 C x2 x3 x4 x5 x6 0 hkb h)
    · exact bw_sub [0, 1, 2, 3, 4, 5] rfl (bk2_knowersAfter_124 C x2 x3 x4 x5 x6 hkb h)
def fn2_knowersAfter_5 (x2 : Int32) (k : Int32 → Int32 → Mem → Option (Int32 × Mem)) : Nat → Int32 → Int32 → Mem → Option (Int32 × Mem)
  | 0, _, _, _ => none
  | nn + 1, x3, x4, w => (if (w 1 9) ≤ x4 then k x3 x4 w else (if ib x4 10 = true then (if ib x4 10 = true then (if ib x4 10 = true then (if ¬ (w 9 x4.toNatClampNeg) = x2 then fn2_knowersAfter_5 x2 k nn x3 (x4 + 1) w else (if ib x2 12 = true then (fn6_isSaid 1 (w 59 x2.toNatClampNeg) (w 10 x4.toNatClampNeg) (w 11 x4.toNatClampNeg) w).bind (fun q69 => (if ¬ q69.1 = 0 then (fn7_hasBit x3 (w 10 x4.toNatClampNeg) q69.2).bind (fun q81 => (if q81.1 = 0 then fn2_knowersAfter_96 x2 x3 x4 (w 10 x4.toNatClampNeg) (w 11 x4.toNatClampNeg) (fn2_knowersAfter_5 x2 k nn) q81.2 else (fn2_comingTo (w 11 x4.toNatClampNeg) q81.2).bind (fun q91 => fn2_knowersAfter_96 x2 (x3 ||| q91.1) x4 (w 10 x4.toNatClampNeg) (w 11 x4.toNatClampNeg) (fn2_knowersAfter_5 x2 k nn) q91.2))) else fn2_knowersAfter_5 x2 k nn x3 (x4 + 1) q69.2)) else none)) else none) else none) else none))
set_option maxRecDepth 20000 in
theorem bk2_knowersAfter_5 {M : MX} {G : GX} (C : BC M G shX 71 (eX G) RX2 cX2_knowersAfter 8 (some .int) rm2_knowersAfter) {z : Int32 × Mem} (x2 : Int32) {k : Int32 → Int32 → Mem → Option (Int32 × Mem)} (hk : ∀ (x3 : Int32) (x4 : Int32) (w : Mem), k x3 x4 w = some z → BW M G shX 71 8 (ZR M G shX 71 (some .int) z) 160 [(3, .int x3)] [] w) : ∀ (nn : Nat) (x3 : Int32) (x4 : Int32) (w : Mem), fn2_knowersAfter_5 x2 k nn x3 x4 w = some z → BW M G shX 71 8 (ZR M G shX 71 (some .int) z) 5 [(0, .ref (gad G 56)), (2, .int x2), (3, .int x3), (4, .int x4)] [] w := by
  intro nn
  induction nn with
  | zero =>
    intro x3 x4 w h
    have h : (none : Option (Int32 × Mem)) = some z := h
    cases h
  | succ nn ih =>
    intro x3 x4 w h
    rw [fn2_knowersAfter_5] at h
    refine bw_iload C 3 dX2_knowersAfter_5 rfl ?_
    refine bw_aload_n C 0 dX2_knowersAfter_7 rfl rfl ?_
    refine bw_getr C (j := 3) (t := 1) lX56 sX56 rfl inlX2 (by decide) rfl flX2_22 dX2_knowersAfter_8 ?_
    refine bw_geti C (j := 9) lX1 sX1 rfl inlX6 (by decide) rfl flX2_48 dX2_knowersAfter_11 ?_
    refine bw_icmp_ge C (tgt := 160) dX2_knowersAfter_14 (by decide) h (fun h => ?_) (fun h => ?_)
    · exact bw_sub [2] rfl (hk x3 x4 w h)
    · refine bw_aload_n C 0 dX2_knowersAfter_17 rfl rfl ?_
      refine bw_getr C (j := 3) (t := 1) lX56 sX56 rfl inlX2 (by decide) rfl flX2_22 dX2_knowersAfter_18 ?_
      refine bw_getr C (j := 11) (t := 10) lX1 sX1 rfl inlX6 (by decide) rfl flX2_51 dX2_knowersAfter_21 ?_
      refine bw_iload C 3 dX2_knowersAfter_24 rfl ?_
      refine bw_iald C lX10 sX10 dX2_knowersAfter_26 h (fun h => ?_)
      refine bw_istore C [(5, .int (w 10 x4.toNatClampNeg)), (0, .ref (gad G 56)), (2, .int x2), (3, .int x3), (4, .int x4)] dX2_knowersAfter_27 (by decide) rfl ?_
      refine bw_aload_n C 1 dX2_knowersAfter_29 rfl rfl ?_
      refine bw_getr C (j := 3) (t := 1) lX56 sX56 rfl inlX2 (by decide) rfl flX2_22 dX2_knowersAfter_30 ?_
      refine bw_getr C (j := 12) (t := 11) lX1 sX1 rfl inlX6 (by decide) rfl flX2_54 dX2_knowersAfter_33 ?_
      refine bw_iload C 4 dX2_knowersAfter_36 rfl ?_
      refine bw_iald C lX11 sX11 dX2_knowersAfter_38 h (fun h => ?_)
      refine bw_istore C [(6, .int (w 11 x4.toNatClampNeg)), (5, .int (w 10 x4.toNatClampNeg)), (0, .ref (gad G 56)), (2, .int x2), (3, .int x3), (4, .int x4)] dX2_knowersAfter_39 (by decide) rfl ?_
      refine bw_aload_n C 2 dX2_knowersAfter_41 rfl rfl ?_
      refine bw_getr C (j := 3) (t := 1) lX56 sX56 rfl inlX2 (by decide) rfl flX2_22 dX2_knowersAfter_42 ?_
      refine bw_getr C (j := 10) (t := 9) lX1 sX1 rfl inlX6 (by decide) rfl flX2_57 dX2_knowersAfter_45 ?_
      refine bw_iload C 5 dX2_knowersAfter_48 rfl ?_
      refine bw_iald C lX9 sX9 dX2_knowersAfter_50 h (fun h => ?_)
      refine bw_iload_n C 3 dX2_knowersAfter_51 rfl rfl ?_
      refine bw_icmp_ne C (tgt := 154) dX2_knowersAfter_52 (by decide) h (fun h => ?_) (fun h => ?_)
      · refine bw_iinc C [(4, .int (x4 + 1)), (6, .int (w 11 x4.toNatClampNeg)), (5, .int (w 10 x4.toNatClampNeg)), (0, .ref (gad G 56)), (2, .int x2), (3, .int x3)] 5 dX2_knowersAfter_154 rfl rfl (by decide) rfl ?_
        refine bw_goto C (tgt := 5) dX2_knowersAfter_157 (by decide) ?_
        exact bw_sub [3, 4, 5, 0] rfl (ih x3 (x4 + 1) w h)
      · refine bw_aload_n C 2 dX2_knowersAfter_55 rfl rfl ?_
        refine bw_getr C (j := 3) (t := 1) lX56 sX56 rfl inlX2 (by decide) rfl flX2_22 dX2_knowersAfter_56 ?_
        refine bw_aload_n C 2 dX2_knowersAfter_59 rfl rfl ?_
        refine bw_getr C (j := 4) (t := 59) lX56 sX56 rfl inlX2 (by decide) rfl flX2_19 dX2_knowersAfter_60 ?_
        refine bw_iload_n C 3 dX2_knowersAfter_63 rfl rfl ?_
        refine bw_iald C lX59 sX59 dX2_knowersAfter_64 h (fun h => ?_)
        refine bw_iload C 1 dX2_knowersAfter_65 rfl ?_
        refine bw_iload C 0 dX2_knowersAfter_67 rfl ?_
        refine bw_callVi C (As := [.int (w 59 x2.toNatClampNeg), .int (w 10 x4.toNatClampNeg), .int (w 11 x4.toNatClampNeg)]) lX1 sX1 rfl miX6_isSaid mlX2_60 imX6_isSaid seX6_isSaid (by decide) rfl rfl (fun z1 h1 => mt6_isSaid isT_1 h1) rfl (Nat.le_of_ble_eq_true rfl) rfl dX2_knowersAfter_69 h (fun q69 _ h => ?_)
        refine bw_if_ne C (tgt := 78) dX2_knowersAfter_72 (by decide) h (fun h => ?_) (fun h => ?_)
        · refine bw_iload_n C 4 dX2_knowersAfter_78 rfl rfl ?_
          refine bw_iload C 1 dX2_knowersAfter_79 rfl ?_
          refine bw_callSNi C (As := [.int x3, .int (w 10 x4.toNatClampNeg)]) miX7_hasBit (nstAt C.2.2.2.2.2.2.2.2.2.1.1 5 rfl) smX7_hasBit (by decide) rfl rfl (fun z1 h1 => mt7_hasBit h1) rfl (Nat.le_of_ble_eq_true rfl) rfl dX2_knowersAfter_81 h (fun q81 _ h => ?_)
          refine bw_if_eq C (tgt := 96) dX2_knowersAfter_84 (by decide) h (fun h => ?_) (fun h => ?_)
          · exact bw_sub [2, 3, 4, 5, 1, 0] rfl (bk2_knowersAfter_96 C x2 x3 x4 (w 10 x4.toNatClampNeg) (w 11 x4.toNatClampNeg) ih h)
          · refine bw_iload_n C 4 dX2_knowersAfter_87 rfl rfl ?_
            refine bw_aload_n C 2 dX2_knowersAfter_88 rfl rfl ?_
            refine bw_iload C 0 dX2_knowersAfter_89 rfl ?_
            refine bw_callVi C (As := [.int (w 11 x4.toNatClampNeg)]) lX56 sX56 rfl miX2_comingTo mlX2_64 imX2_comingTo seX2_comingTo (by decide) rfl rfl (fun z1 h1 => mt2_comingTo h1) rfl (Nat.le_of_ble_eq_true rfl) rfl dX2_knowersAfter_91 h (fun q91 _ h => ?_)
            refine bw_ior C dX2_knowersAfter_94 ?_
            refine bw_istore_n C [(3, .int (x3 ||| q91.1)), (6, .int (w 11 x4.toNatClampNeg)), (5, .int (w 10 x4.toNatClampNeg)), (0, .ref (gad G 56)), (2, .int x2), (4, .int x4)] dX2_knowersAfter_95 rfl (by decide) rfl ?_
            exact bw_sub [3, 4, 0, 5, 2, 1] rfl (bk2_knowersAfter_96 C x2 (x3 ||| q91.1) x4 (w 10 x4.toNatClampNeg) (w 11 x4.toNatClampNeg) ih h)
        · refine bw_goto C (tgt := 154) dX2_knowersAfter_75 (by decide) ?_
          refine bw_iinc C [(4, .int (x4 + 1)), (6, .int (w 11 x4.toNatClampNeg)), (5, .int (w 10 x4.toNatClampNeg)), (0, .ref (gad G 56)), (2, .int x2), (3, .int x3)] 5 dX2_knowersAfter_154 rfl rfl (by decide) rfl ?_
          refine bw_goto C (tgt := 5) dX2_knowersAfter_157 (by decide) ?_
          exact bw_sub [3, 4, 5, 0] rfl (ih x3 (x4 + 1) q69.2 h)
def fn2_knowersAfter  (x1 : Int32) (x2 : Int32) (w : Mem) : Option (Int32 × Mem) := fn2_knowersAfter_5 x2 (fun x3_5 x4_5 w_5 => some (x3_5, w_5)) 1000 x1 0 w
set_option maxRecDepth 20000 in
theorem bk2_knowersAfter {M : MX} {G : GX} (C : BC M G shX 71 (eX G) RX2 cX2_knowersAfter 8 (some .int) rm2_knowersAfter) {z : Int32 × Mem}   (x1 : Int32) (x2 : Int32) {w : Mem} (h : fn2_knowersAfter  x1 x2 w = some z) : BW M G shX 71 8 (ZR M G shX 71 (some .int) z) 0 [(0, .ref (gad G 56)), (1, .int x1), (2, .int x2)] [] w := by
  rw [fn2_knowersAfter] at h
  refine bw_iload_n C 1 dX2_knowersAfter_0 rfl rfl ?_
  refine bw_istore_n C [(3, .int x1), (0, .ref (gad G 56)), (1, .int x1), (2, .int x2)] dX2_knowersAfter_1 rfl (by decide) rfl ?_
  refine bw_iconst C (v := 0) dX2_knowersAfter_2 (by decide) ?_
  refine bw_istore C [(4, .int 0), (3, .int x1), (0, .ref (gad G 56)), (1, .int x1), (2, .int x2)] dX2_knowersAfter_3 (by decide) rfl ?_
  refine bw_sub [2, 4, 1, 0] rfl (bk2_knowersAfter_5 C x2 (fun x3_5 x4_5 w_5 h => ?_) 1000 x1 0 w h)
  refine bw_iload_n C 0 dX2_knowersAfter_160 rfl rfl ?_
  exact bw_iret C dX2_knowersAfter_161 h
theorem mt2_knowersAfter {l : Launch} {G : GX}   {x1 : Int32} {x2 : Int32} {w : Mem} {z : Int32 × Mem} (h : fn2_knowersAfter  x1 x2 w = some z) : MC l G shX 71 (eX G) yX2_knowersAfter cX2_knowersAfter 8 (some .int) rm2_knowersAfter [.ref (gad G 56), .int x1, .int x2] w z := by
  refine met_of (by decide +kernel) (eX_ok G) rfl (Nat.le_of_ble_eq_true rfl) (fun M hM C => ?_)
  subst hM
  exact bk2_knowersAfter C  x1 x2 h
def rm2_knowersBehind : Room := { frames := 3, cells := 0, slots := 0, locals := 73 }
def fn2_knowersBehind_7 (x2 : Int32) (k : Int32 → Int32 → Mem → Option (Int32 × Mem)) : Nat → Int32 → Int32 → Mem → Option (Int32 × Mem)
  | 0, _, _, _ => none
  | nn + 1, x3, x4, w => (if x2 < x4 then k x3 x4 w else (if 12 ≤ x4 then k x3 x4 w else (fn2_knowersAfter x3 x4 w).bind (fun q24 => fn2_knowersBehind_7 x2 k nn q24.1 (x4 + 1) q24.2)))
set_option maxRecDepth 20000 in
theorem bk2_knowersBehind_7 {M : MX} {G : GX} (C : BC M G shX 71 (eX G) RX2 cX2_knowersBehind 5 (some .int) rm2_knowersBehind) {z : Int32 × Mem} (x2 : Int32) {k : Int32 → Int32 → Mem → Option (Int32 × Mem)} (hk : ∀ (x3 : Int32) (x4 : Int32) (w : Mem), k x3 x4 w = some z → BW M G shX 71 5 (ZR M G shX 71 (some .int) z) 34 [(3, .int x3)] [] w) : ∀ (nn : Nat) (x3 : Int32) (x4 : Int32) (w : Mem), fn2_knowersBehind_7 x2 k nn x3 x4 w = some z → BW M G shX 71 5 (ZR M G shX 71 (some .int) z) 7 [(0, .ref (gad G 56)), (2, .int x2), (3, .int x3), (4, .int x4)] [] w := by
  intro nn
  induction nn with
  | zero =>
    intro x3 x4 w h
    have h : (none : Option (Int32 × Mem)) = some z := h
    cases h
  | succ nn ih =>
    intro x3 x4 w h
    rw [fn2_knowersBehind_7] at h
    refine bw_iload C 3 dX2_knowersBehind_7 rfl ?_
    refine bw_iload_n C 1 dX2_knowersBehind_9 rfl rfl ?_
    refine bw_icmp_gt C (tgt := 34) dX2_knowersBehind_10 (by decide) h (fun h => ?_) (fun h => ?_)
    · exact bw_sub [2] rfl (hk x3 x4 w h)
    · refine bw_iload C 3 dX2_knowersBehind_13 rfl ?_
      refine bw_bipush C (v := 12) dX2_knowersBehind_15 (by decide) ?_
      refine bw_icmp_ge C (tgt := 34) dX2_knowersBehind_17 (by decide) h (fun h => ?_) (fun h => ?_)
      · exact bw_sub [2] rfl (hk x3 x4 w h)
      · refine bw_aload_n C 0 dX2_knowersBehind_20 rfl rfl ?_
        refine bw_iload_n C 2 dX2_knowersBehind_21 rfl rfl ?_
        refine bw_iload C 3 dX2_knowersBehind_22 rfl ?_
        refine bw_callVi C (As := [.int x3, .int x4]) lX56 sX56 rfl miX2_knowersAfter mlX2_40 imX2_knowersAfter seX2_knowersAfter (by decide) rfl rfl (fun z1 h1 => mt2_knowersAfter h1) rfl (Nat.le_of_ble_eq_true rfl) rfl dX2_knowersBehind_24 h (fun q24 _ h => ?_)
        refine bw_istore_n C [(3, .int q24.1), (0, .ref (gad G 56)), (2, .int x2), (4, .int x4)] dX2_knowersBehind_27 rfl (by decide) rfl ?_
        refine bw_iinc C [(4, .int (x4 + 1)), (3, .int q24.1), (0, .ref (gad G 56)), (2, .int x2)] 3 dX2_knowersBehind_28 rfl rfl (by decide) rfl ?_
        refine bw_goto C (tgt := 7) dX2_knowersBehind_31 (by decide) ?_
        exact bw_sub [2, 3, 1, 0] rfl (ih q24.1 (x4 + 1) q24.2 h)
def fn2_knowersBehind  (x1 : Int32) (x2 : Int32) (w : Mem) : Option (Int32 × Mem) := fn2_knowersBehind_7 x2 (fun x3_7 x4_7 w_7 => some (x3_7, w_7)) 1000 ((1 : Int32) <<< (x1 &&& 31)) 0 w
set_option maxRecDepth 20000 in
theorem bk2_knowersBehind {M : MX} {G : GX} (C : BC M G shX 71 (eX G) RX2 cX2_knowersBehind 5 (some .int) rm2_knowersBehind) {z : Int32 × Mem}   (x1 : Int32) (x2 : Int32) {w : Mem} (h : fn2_knowersBehind  x1 x2 w = some z) : BW M G shX 71 5 (ZR M G shX 71 (some .int) z) 0 [(0, .ref (gad G 56)), (1, .int x1), (2, .int x2)] [] w := by
  rw [fn2_knowersBehind] at h
  refine bw_iconst C (v := 1) dX2_knowersBehind_0 (by decide) ?_
  refine bw_iload_n C 1 dX2_knowersBehind_1 rfl rfl ?_
  refine bw_ishl C dX2_knowersBehind_2 ?_
  refine bw_istore_n C [(3, .int ((1 : Int32) <<< (x1 &&& 31))), (0, .ref (gad G 56)), (1, .int x1), (2, .int x2)] dX2_knowersBehind_3 rfl (by decide) rfl ?_
  refine bw_iconst C (v := 0) dX2_knowersBehind_4 (by decide) ?_
  refine bw_istore C [(4, .int 0), (3, .int ((1 : Int32) <<< (x1 &&& 31))), (0, .ref (gad G 56)), (1, .int x1), (2, .int x2)] dX2_knowersBehind_5 (by decide) rfl ?_
  refine bw_sub [2, 4, 1, 0] rfl (bk2_knowersBehind_7 C x2 (fun x3_7 x4_7 w_7 h => ?_) 1000 ((1 : Int32) <<< (x1 &&& 31)) 0 w h)
  refine bw_iload_n C 0 dX2_knowersBehind_34 rfl rfl ?_
  exact bw_iret C dX2_knowersBehind_35 h
theorem mt2_knowersBehind {l : Launch} {G : GX}   {x1 : Int32} {x2 : Int32} {w : Mem} {z : Int32 × Mem} (h : fn2_knowersBehind  x1 x2 w = some z) : MC l G shX 71 (eX G) yX2_knowersBehind cX2_knowersBehind 5 (some .int) rm2_knowersBehind [.ref (gad G 56), .int x1, .int x2] w z := by
  refine met_of (by decide +kernel) (eX_ok G) rfl (Nat.le_of_ble_eq_true rfl) (fun M hM C => ?_)
  subst hM
  exact bk2_knowersBehind C  x1 x2 h
def rm2_hourItComes : Room := { frames := 3, cells := 0, slots := 0, locals := 73 }
def fn2_hourItComes_14 (x2 : Int32) (k : Int32 → Int32 → Mem → Option (Int32 × Mem)) : Nat → Int32 → Int32 → Mem → Option (Int32 × Mem)
  | 0, _, _, _ => none
  | nn + 1, x3, x4, w => (if 12 ≤ x4 then k x3 x4 w else (fn2_knowersAfter x3 x4 w).bind (fun q25 => (fn7_hasBit q25.1 x2 q25.2).bind (fun q31 => (if q31.1 = 0 then fn2_hourItComes_14 x2 k nn q25.1 (x4 + 1) q31.2 else some (x4, q31.2)))))
set_option maxRecDepth 20000 in
theorem bk2_hourItComes_14 {M : MX} {G : GX} (C : BC M G shX 71 (eX G) RX2 cX2_hourItComes 5 (some .int) rm2_hourItComes) {z : Int32 × Mem} (x2 : Int32) {k : Int32 → Int32 → Mem → Option (Int32 × Mem)} (hk : ∀ (x3 : Int32) (x4 : Int32) (w : Mem), k x3 x4 w = some z → BW M G shX 71 5 (ZR M G shX 71 (some .int) z) 46 [] [] w) : ∀ (nn : Nat) (x3 : Int32) (x4 : Int32) (w : Mem), fn2_hourItComes_14 x2 k nn x3 x4 w = some z → BW M G shX 71 5 (ZR M G shX 71 (some .int) z) 14 [(0, .ref (gad G 56)), (2, .int x2), (3, .int x3), (4, .int x4)] [] w := by
  intro nn
  induction nn with
  | zero =>
    intro x3 x4 w h
    have h : (none : Option (Int32 × Mem)) = some z := h
    cases h
  | succ nn ih =>
    intro x3 x4 w h
    rw [fn2_hourItComes_14] at h
    refine bw_iload C 3 dX2_hourItComes_14 rfl ?_
    refine bw_bipush C (v := 12) dX2_hourItComes_16 (by decide) ?_
    refine bw_icmp_ge C (tgt := 46) dX2_hourItComes_18 (by decide) h (fun h => ?_) (fun h => ?_)
    · exact bw_sub [] rfl (hk x3 x4 w h)
    · refine bw_aload_n C 0 dX2_hourItComes_21 rfl rfl ?_
      refine bw_iload_n C 2 dX2_hourItComes_22 rfl rfl ?_
      refine bw_iload C 3 dX2_hourItComes_23 rfl ?_
      refine bw_callVi C (As := [.int x3, .int x4]) lX56 sX56 rfl miX2_knowersAfter mlX2_40 imX2_knowersAfter seX2_knowersAfter (by decide) rfl rfl (fun z1 h1 => mt2_knowersAfter h1) rfl (Nat.le_of_ble_eq_true rfl) rfl dX2_hourItComes_25 h (fun q25 _ h => ?_)
      refine bw_istore_n C [(3, .int q25.1), (0, .ref (gad G 56)), (2, .int x2), (4, .int x4)] dX2_hourItComes_28 rfl (by decide) rfl ?_
      refine bw_iload_n C 0 dX2_hourItComes_29 rfl rfl ?_
      refine bw_iload_n C 2 dX2_hourItComes_30 rfl rfl ?_
      refine bw_callSNi C (As := [.int q25.1, .int x2]) miX7_hasBit (nstAt C.2.2.2.2.2.2.2.2.2.1.1 5 rfl) smX7_hasBit (by decide) rfl rfl (fun z1 h1 => mt7_hasBit h1) rfl (Nat.le_of_ble_eq_true rfl) rfl dX2_hourItComes_31 h (fun q31 _ h => ?_)
      refine bw_if_eq C (tgt := 40) dX2_hourItComes_34 (by decide) h (fun h => ?_) (fun h => ?_)
      · refine bw_iinc C [(4, .int (x4 + 1)), (3, .int q25.1), (0, .ref (gad G 56)), (2, .int x2)] 3 dX2_hourItComes_40 rfl rfl (by decide) rfl ?_
        refine bw_goto C (tgt := 14) dX2_hourItComes_43 (by decide) ?_
        exact bw_sub [2, 3, 1, 0] rfl (ih q25.1 (x4 + 1) q31.2 h)
      · refine bw_iload C 3 dX2_hourItComes_37 rfl ?_
        exact bw_iret C dX2_hourItComes_39 h
def fn2_hourItComes  (x1 : Int32) (x2 : Int32) (w : Mem) : Option (Int32 × Mem) := (if ¬ x1 = x2 then fn2_hourItComes_14 x2 (fun x3_14 x4_14 w_14 => some ((-4), w_14)) 1000 ((1 : Int32) <<< (x1 &&& 31)) 0 w else some (0, w))
set_option maxRecDepth 20000 in
theorem bk2_hourItComes {M : MX} {G : GX} (C : BC M G shX 71 (eX G) RX2 cX2_hourItComes 5 (some .int) rm2_hourItComes) {z : Int32 × Mem}   (x1 : Int32) (x2 : Int32) {w : Mem} (h : fn2_hourItComes  x1 x2 w = some z) : BW M G shX 71 5 (ZR M G shX 71 (some .int) z) 0 [(0, .ref (gad G 56)), (1, .int x1), (2, .int x2)] [] w := by
  rw [fn2_hourItComes] at h
  refine bw_iload_n C 1 dX2_hourItComes_0 rfl rfl ?_
  refine bw_iload_n C 2 dX2_hourItComes_1 rfl rfl ?_
  refine bw_icmp_ne C (tgt := 7) dX2_hourItComes_2 (by decide) h (fun h => ?_) (fun h => ?_)
  · refine bw_iconst C (v := 1) dX2_hourItComes_7 (by decide) ?_
    refine bw_iload_n C 1 dX2_hourItComes_8 rfl rfl ?_
    refine bw_ishl C dX2_hourItComes_9 ?_
    refine bw_istore_n C [(3, .int ((1 : Int32) <<< (x1 &&& 31))), (0, .ref (gad G 56)), (1, .int x1), (2, .int x2)] dX2_hourItComes_10 rfl (by decide) rfl ?_
    refine bw_iconst C (v := 0) dX2_hourItComes_11 (by decide) ?_
    refine bw_istore C [(4, .int 0), (3, .int ((1 : Int32) <<< (x1 &&& 31))), (0, .ref (gad G 56)), (1, .int x1), (2, .int x2)] dX2_hourItComes_12 (by decide) rfl ?_
    refine bw_sub [2, 4, 1, 0] rfl (bk2_hourItComes_14 C x2 (fun x3_14 x4_14 w_14 h => ?_) 1000 ((1 : Int32) <<< (x1 &&& 31)) 0 w h)
    refine bw_bipush C (v := (-4)) dX2_hourItComes_46 (by decide) ?_
    exact bw_iret C dX2_hourItComes_48 h
  · refine bw_iconst C (v := 0) dX2_hourItComes_5 (by decide) ?_
    exact bw_iret C dX2_hourItComes_6 h
theorem mt2_hourItComes {l : Launch} {G : GX}   {x1 : Int32} {x2 : Int32} {w : Mem} {z : Int32 × Mem} (h : fn2_hourItComes  x1 x2 w = some z) : MC l G shX 71 (eX G) yX2_hourItComes cX2_hourItComes 5 (some .int) rm2_hourItComes [.ref (gad G 56), .int x1, .int x2] w z := by
  refine met_of (by decide +kernel) (eX_ok G) rfl (Nat.le_of_ble_eq_true rfl) (fun M hM C => ?_)
  subst hM
  exact bk2_hourItComes C  x1 x2 h
def rm2_hushingHour : Room := { frames := 5, cells := 0, slots := 0, locals := 104 }
def fn2_hushingHour_3 (x1 : Int32) (x2 : Int32) (x3 : Int32) (k : Int32 → Mem → Option (Int32 × Mem)) : Nat → Int32 → Mem → Option (Int32 × Mem)
  | 0, _, _ => none
  | nn + 1, x4, w => (if 12 ≤ x4 then k x4 w else (fn2_takeSilence w).bind (fun q11 => (fn2_addSilence x1 x4 q11.2).bind (fun q18 => (fn2_hourItComes x2 x3 q18.2).bind (fun q24 => (if ¬ q24.1 = (-4) then fn2_hushingHour_3 x1 x2 x3 k nn (x4 + 1) q24.2 else some (x4, q24.2))))))
set_option maxRecDepth 20000 in
theorem bk2_hushingHour_3 {M : MX} {G : GX} (C : BC M G shX 71 (eX G) RX2 cX2_hushingHour 5 (some .int) rm2_hushingHour) {z : Int32 × Mem} (x1 : Int32) (x2 : Int32) (x3 : Int32) {k : Int32 → Mem → Option (Int32 × Mem)} (hk : ∀ (x4 : Int32) (w : Mem), k x4 w = some z → BW M G shX 71 5 (ZR M G shX 71 (some .int) z) 41 [] [] w) : ∀ (nn : Nat) (x4 : Int32) (w : Mem), fn2_hushingHour_3 x1 x2 x3 k nn x4 w = some z → BW M G shX 71 5 (ZR M G shX 71 (some .int) z) 3 [(0, .ref (gad G 56)), (1, .int x1), (2, .int x2), (3, .int x3), (4, .int x4)] [] w := by
  intro nn
  induction nn with
  | zero =>
    intro x4 w h
    have h : (none : Option (Int32 × Mem)) = some z := h
    cases h
  | succ nn ih =>
    intro x4 w h
    rw [fn2_hushingHour_3] at h
    refine bw_iload C 4 dX2_hushingHour_3 rfl ?_
    refine bw_bipush C (v := 12) dX2_hushingHour_5 (by decide) ?_
    refine bw_icmp_ge C (tgt := 41) dX2_hushingHour_7 (by decide) h (fun h => ?_) (fun h => ?_)
    · exact bw_sub [] rfl (hk x4 w h)
    · refine bw_aload_n C 0 dX2_hushingHour_10 rfl rfl ?_
      refine bw_callVv C (As := []) lX56 sX56 rfl miX2_takeSilence mlX2_70 imX2_takeSilence seX2_takeSilence (by decide) rfl rfl (fun z1 h1 => mt2_takeSilence h1) rfl (Nat.le_of_ble_eq_true rfl) rfl dX2_hushingHour_11 h (fun q11 _ h => ?_)
      refine bw_aload_n C 0 dX2_hushingHour_14 rfl rfl ?_
      refine bw_iload_n C 1 dX2_hushingHour_15 rfl rfl ?_
      refine bw_iload C 4 dX2_hushingHour_16 rfl ?_
      refine bw_callVv C (As := [.int x1, .int x4]) lX56 sX56 rfl miX2_addSilence mlX2_73 imX2_addSilence seX2_addSilence (by decide) rfl rfl (fun z1 h1 => mt2_addSilence h1) rfl (Nat.le_of_ble_eq_true rfl) rfl dX2_hushingHour_18 h (fun q18 _ h => ?_)
      refine bw_aload_n C 0 dX2_hushingHour_21 rfl rfl ?_
      refine bw_iload_n C 2 dX2_hushingHour_22 rfl rfl ?_
      refine bw_iload_n C 3 dX2_hushingHour_23 rfl rfl ?_
      refine bw_callVi C (As := [.int x2, .int x3]) lX56 sX56 rfl miX2_hourItComes mlX2_77 imX2_hourItComes seX2_hourItComes (by decide) rfl rfl (fun z1 h1 => mt2_hourItComes h1) rfl (Nat.le_of_ble_eq_true rfl) rfl dX2_hushingHour_24 h (fun q24 _ h => ?_)
      refine bw_bipush C (v := (-4)) dX2_hushingHour_27 (by decide) ?_
      refine bw_icmp_ne C (tgt := 35) dX2_hushingHour_29 (by decide) h (fun h => ?_) (fun h => ?_)
      · refine bw_iinc C [(4, .int (x4 + 1)), (0, .ref (gad G 56)), (1, .int x1), (2, .int x2), (3, .int x3)] 4 dX2_hushingHour_35 rfl rfl (by decide) rfl ?_
        refine bw_goto C (tgt := 3) dX2_hushingHour_38 (by decide) ?_
        exact bw_sub [1, 2, 3, 4, 0] rfl (ih (x4 + 1) q24.2 h)
      · refine bw_iload C 4 dX2_hushingHour_32 rfl ?_
        exact bw_iret C dX2_hushingHour_34 h
def fn2_hushingHour  (x1 : Int32) (x2 : Int32) (x3 : Int32) (w : Mem) : Option (Int32 × Mem) := fn2_hushingHour_3 x1 x2 x3 (fun x4_3 w_3 => some ((-4), w_3)) 1000 0 w
set_option maxRecDepth 20000 in
theorem bk2_hushingHour {M : MX} {G : GX} (C : BC M G shX 71 (eX G) RX2 cX2_hushingHour 5 (some .int) rm2_hushingHour) {z : Int32 × Mem}   (x1 : Int32) (x2 : Int32) (x3 : Int32) {w : Mem} (h : fn2_hushingHour  x1 x2 x3 w = some z) : BW M G shX 71 5 (ZR M G shX 71 (some .int) z) 0 [(0, .ref (gad G 56)), (1, .int x1), (2, .int x2), (3, .int x3)] [] w := by
  rw [fn2_hushingHour] at h
  refine bw_iconst C (v := 0) dX2_hushingHour_0 (by decide) ?_
  refine bw_istore C [(4, .int 0), (0, .ref (gad G 56)), (1, .int x1), (2, .int x2), (3, .int x3)] dX2_hushingHour_1 (by decide) rfl ?_
  refine bw_sub [1, 2, 3, 4, 0] rfl (bk2_hushingHour_3 C x1 x2 x3 (fun x4_3 w_3 h => ?_) 1000 0 w h)
  refine bw_bipush C (v := (-4)) dX2_hushingHour_41 (by decide) ?_
  exact bw_iret C dX2_hushingHour_43 h
theorem mt2_hushingHour {l : Launch} {G : GX}   {x1 : Int32} {x2 : Int32} {x3 : Int32} {w : Mem} {z : Int32 × Mem} (h : fn2_hushingHour  x1 x2 x3 w = some z) : MC l G shX 71 (eX G) yX2_hushingHour cX2_hushingHour 5 (some .int) rm2_hushingHour [.ref (gad G 56), .int x1, .int x2, .int x3] w z := by
  refine met_of (by decide +kernel) (eX_ok G) rfl (Nat.le_of_ble_eq_true rfl) (fun M hM C => ?_)
  subst hM
  exact bk2_hushingHour C  x1 x2 x3 h
def rm2_canBeginWith : Room := { frames := 4, cells := 0, slots := 0, locals := 97 }
def fn2_canBeginWith_10 (x2 : Int32) (k : Int32 → Mem → Option (Int32 × Mem)) : Nat → Int32 → Mem → Option (Int32 × Mem)
  | 0, _, _ => none
  | nn + 1, x3, w => (if (w 56 0) ≤ x3 then k x3 w else (if ib x3 6 = true then (fn7_hasBit x2 (w 57 x3.toNatClampNeg) w).bind (fun q25 => (if ib x3 6 = true then (if q25.1 = (q25.2 58 x3.toNatClampNeg) then fn2_canBeginWith_10 x2 k nn (x3 + 1) q25.2 else some (0, q25.2)) else none)) else none))
set_option maxRecDepth 20000 in
theorem bk2_canBeginWith_10 {M : MX} {G : GX} (C : BC M G shX 71 (eX G) RX2 cX2_canBeginWith 4 (some .boolean) rm2_canBeginWith) {z : Int32 × Mem} (x2 : Int32) {k : Int32 → Mem → Option (Int32 × Mem)} (hk : ∀ (x3 : Int32) (w : Mem), k x3 w = some z → BW M G shX 71 4 (ZR M G shX 71 (some .boolean) z) 45 [] [] w) : ∀ (nn : Nat) (x3 : Int32) (w : Mem), fn2_canBeginWith_10 x2 k nn x3 w = some z → BW M G shX 71 4 (ZR M G shX 71 (some .boolean) z) 10 [(0, .ref (gad G 56)), (2, .int x2), (3, .int x3)] [] w := by
  intro nn
  induction nn with
  | zero =>
    intro x3 w h
    have h : (none : Option (Int32 × Mem)) = some z := h
    cases h
  | succ nn ih =>
    intro x3 w h
    rw [fn2_canBeginWith_10] at h
    refine bw_iload_n C 2 dX2_canBeginWith_10 rfl rfl ?_
    refine bw_aload_n C 0 dX2_canBeginWith_11 rfl rfl ?_
    refine bw_geti C (j := 0) lX56 sX56 rfl inlX2 (by decide) rfl flX2_26 dX2_canBeginWith_12 ?_
    refine bw_icmp_ge C (tgt := 45) dX2_canBeginWith_15 (by decide) h (fun h => ?_) (fun h => ?_)
    · exact bw_sub [] rfl (hk x3 w h)
    · refine bw_iload_n C 1 dX2_canBeginWith_18 rfl rfl ?_
      refine bw_aload_n C 0 dX2_canBeginWith_19 rfl rfl ?_
      refine bw_getr C (j := 1) (t := 57) lX56 sX56 rfl inlX2 (by decide) rfl flX2_11 dX2_canBeginWith_20 ?_
      refine bw_iload_n C 2 dX2_canBeginWith_23 rfl rfl ?_
      refine bw_iald C lX57 sX57 dX2_canBeginWith_24 h (fun h => ?_)
      refine bw_callSNi C (As := [.int x2, .int (w 57 x3.toNatClampNeg)]) miX7_hasBit (nstAt C.2.2.2.2.2.2.2.2.2.1.1 5 rfl) smX7_hasBit (by decide) rfl rfl (fun z1 h1 => mt7_hasBit h1) rfl (Nat.le_of_ble_eq_true rfl) rfl dX2_canBeginWith_25 h (fun q25 _ h => ?_)
      refine bw_aload_n C 0 dX2_canBeginWith_28 rfl rfl ?_
      refine bw_getr C (j := 2) (t := 58) lX56 sX56 rfl inlX2 (by decide) rfl flX2_15 dX2_canBeginWith_29 ?_
      refine bw_iload_n C 2 dX2_canBeginWith_32 rfl rfl ?_
      refine bw_zald C lX58 sX58 dX2_canBeginWith_33 h (fun h => ?_)
      refine bw_icmp_eq C (tgt := 39) dX2_canBeginWith_34 (by decide) h (fun h => ?_) (fun h => ?_)
      · refine bw_iinc C [(3, .int (x3 + 1)), (0, .ref (gad G 56)), (2, .int x2)] 2 dX2_canBeginWith_39 rfl rfl (by decide) rfl ?_
        refine bw_goto C (tgt := 10) dX2_canBeginWith_42 (by decide) ?_
        exact bw_sub [1, 2, 0] rfl (ih (x3 + 1) q25.2 h)
      · refine bw_iconst C (v := 0) dX2_canBeginWith_37 (by decide) ?_
        exact bw_zretc C dX2_canBeginWith_38 rfl h
def fn2_canBeginWith  (x1 : Int32) (w : Mem) : Option (Int32 × Mem) := (fn2_knowersBehind x1 11 w).bind (fun q4 => fn2_canBeginWith_10 q4.1 (fun x3_10 w_10 => some (1, w_10)) 1000 0 q4.2)
set_option maxRecDepth 20000 in
theorem bk2_canBeginWith {M : MX} {G : GX} (C : BC M G shX 71 (eX G) RX2 cX2_canBeginWith 4 (some .boolean) rm2_canBeginWith) {z : Int32 × Mem}   (x1 : Int32) {w : Mem} (h : fn2_canBeginWith  x1 w = some z) : BW M G shX 71 4 (ZR M G shX 71 (some .boolean) z) 0 [(0, .ref (gad G 56)), (1, .int x1)] [] w := by
  rw [fn2_canBeginWith] at h
  refine bw_aload_n C 0 dX2_canBeginWith_0 rfl rfl ?_
  refine bw_iload_n C 1 dX2_canBeginWith_1 rfl rfl ?_
  refine bw_bipush C (v := 11) dX2_canBeginWith_2 (by decide) ?_
  refine bw_callVi C (As := [.int x1, .int 11]) lX56 sX56 rfl miX2_knowersBehind mlX2_80 imX2_knowersBehind seX2_knowersBehind (by decide) rfl rfl (fun z1 h1 => mt2_knowersBehind h1) rfl (Nat.le_of_ble_eq_true rfl) rfl dX2_canBeginWith_4 h (fun q4 _ h => ?_)
  refine bw_istore_n C [(2, .int q4.1), (0, .ref (gad G 56)), (1, .int x1)] dX2_canBeginWith_7 rfl (by decide) rfl ?_
  refine bw_iconst C (v := 0) dX2_canBeginWith_8 (by decide) ?_
  refine bw_istore_n C [(3, .int 0), (2, .int q4.1), (0, .ref (gad G 56)), (1, .int x1)] dX2_canBeginWith_9 rfl (by decide) rfl ?_
  refine bw_sub [2, 1, 0] rfl (bk2_canBeginWith_10 C q4.1 (fun x3_10 w_10 h => ?_) 1000 0 q4.2 h)
  refine bw_iconst C (v := 1) dX2_canBeginWith_45 (by decide) ?_
  exact bw_zretc C dX2_canBeginWith_46 rfl h
theorem mt2_canBeginWith {l : Launch} {G : GX}   {x1 : Int32} {w : Mem} {z : Int32 × Mem} (h : fn2_canBeginWith  x1 w = some z) : MC l G shX 71 (eX G) yX2_canBeginWith cX2_canBeginWith 4 (some .boolean) rm2_canBeginWith [.ref (gad G 56), .int x1] w z := by
  refine met_of (by decide +kernel) (eX_ok G) rfl (Nat.le_of_ble_eq_true rfl) (fun M hM C => ?_)
  subst hM
  exact bk2_canBeginWith C  x1 h
def rm3_isNothing : Room := { frames := 0, cells := 0, slots := 0, locals := 0 }
def fn3_isNothing (b : Nat)  (w : Mem) : Option (Int32 × Mem) := (if ¬ (w b 2) = (-4) then some (0, w) else some (1, w))
set_option maxRecDepth 20000 in
theorem bk3_isNothing {M : MX} {G : GX} (C : BC M G shX 71 (eX G) RX3 cX3_isNothing 1 (some .boolean) rm3_isNothing) {z : Int32 × Mem} {b : Nat} (hb : isSheetB b)  {w : Mem} (h : fn3_isNothing b  w = some z) : BW M G shX 71 1 (ZR M G shX 71 (some .boolean) z) 0 [(0, .ref (gad G b))] [] w := by
  rw [fn3_isNothing] at h
  refine bw_aload_n C 0 dX3_isNothing_0 rfl rfl ?_
  refine bw_geti C (j := 2) (isS_lt hb) (isS_sh hb) rfl inlX3 (by decide) rfl flX3_15 dX3_isNothing_1 ?_
  refine bw_bipush C (v := (-4)) dX3_isNothing_4 (by decide) ?_
  refine bw_icmp_ne C (tgt := 13) dX3_isNothing_6 (by decide) h (fun h => ?_) (fun h => ?_)
  · refine bw_iconst C (v := 0) dX3_isNothing_13 (by decide) ?_
    exact bw_zretc C dX3_isNothing_14 rfl h
  · refine bw_iconst C (v := 1) dX3_isNothing_9 (by decide) ?_
    refine bw_goto C (tgt := 14) dX3_isNothing_10 (by decide) ?_
    exact bw_zretc C dX3_isNothing_14 rfl h
theorem mt3_isNothing {l : Launch} {G : GX} {b : Nat} (hb : isSheetB b)  {w : Mem} {z : Int32 × Mem} (h : fn3_isNothing b  w = some z) : MC l G shX 71 (eX G) yX3_isNothing cX3_isNothing 1 (some .boolean) rm3_isNothing [.ref (gad G b)] w z := by
  refine met_of (by decide +kernel) (eX_ok G) rfl (Nat.le_of_ble_eq_true rfl) (fun M hM C => ?_)
  subst hM
  exact bk3_isNothing C hb  h
def rm3_renew : Room := { frames := 0, cells := 0, slots := 0, locals := 0 }
def fn3_renew_12 (b : Nat) (k : Int32 → Mem → Option (Int32 × Mem)) : Nat → Int32 → Mem → Option (Int32 × Mem)
  | 0, _, _ => none
  | nn + 1, x3, w => (if 40 ≤ x3 then k x3 w else (if ib x3 40 = true then fn3_renew_12 b k nn (x3 + 1) (up2 w (b + 1) x3.toNatClampNeg 0) else none))
set_option maxRecDepth 20000 in
theorem bk3_renew_12 {M : MX} {G : GX} (C : BC M G shX 71 (eX G) RX3 cX3_renew 4 none rm3_renew) {z : Int32 × Mem} {b : Nat} (hb : isSheetB b) {k : Int32 → Mem → Option (Int32 × Mem)} (hk : ∀ (x3 : Int32) (w : Mem), k x3 w = some z → BW M G shX 71 4 (ZR M G shX 71 none z) 31 [] [] w) : ∀ (nn : Nat) (x3 : Int32) (w : Mem), fn3_renew_12 b k nn x3 w = some z → BW M G shX 71 4 (ZR M G shX 71 none z) 12 [(0, .ref (gad G b)), (3, .int x3)] [] w := by
  intro nn
  induction nn with
  | zero =>
    intro x3 w h
    have h : (none : Option (Int32 × Mem)) = some z := h
    cases h
  | succ nn ih =>
    intro x3 w h
    rw [fn3_renew_12] at h
    refine bw_iload_n C 1 dX3_renew_12 rfl rfl ?_
    refine bw_bipush C (v := 40) dX3_renew_13 (by decide) ?_
    refine bw_icmp_ge C (tgt := 31) dX3_renew_15 (by decide) h (fun h => ?_) (fun h => ?_)
    · exact bw_sub [] rfl (hk x3 w h)
    · refine bw_aload_n C 0 dX3_renew_18 rfl rfl ?_
      refine bw_getr C (j := 0) (t := (b + 1)) (isS_lt hb) (isS_sh hb) rfl inlX3 (by decide) rfl flX3_11 dX3_renew_19 ?_
      refine bw_iload_n C 1 dX3_renew_22 rfl rfl ?_
      refine bw_iconst C (v := 0) dX3_renew_23 (by decide) ?_
      refine bw_iast C (isS_l1 hb) (isS_s1 hb) dX3_renew_24 h (fun h => ?_)
      refine bw_iinc C [(3, .int (x3 + 1)), (0, .ref (gad G b))] 1 dX3_renew_25 rfl rfl (by decide) rfl ?_
      refine bw_goto C (tgt := 12) dX3_renew_28 (by decide) ?_
      exact bw_sub [1, 0] rfl (ih (x3 + 1) (up2 w (b + 1) x3.toNatClampNeg 0) h)
def fn3_renew (b : Nat) (x1 : Int32) (x2 : Int32) (w : Mem) : Option (Int32 × Mem) := fn3_renew_12 b (fun x3_12 w_12 => some (0, w_12)) 1000 0 (up2 (up2 w b 2 x1) b 1 x2)
set_option maxRecDepth 20000 in
theorem bk3_renew {M : MX} {G : GX} (C : BC M G shX 71 (eX G) RX3 cX3_renew 4 none rm3_renew) {z : Int32 × Mem} {b : Nat} (hb : isSheetB b) (x1 : Int32) (x2 : Int32) {w : Mem} (h : fn3_renew b x1 x2 w = some z) : BW M G shX 71 4 (ZR M G shX 71 none z) 0 [(0, .ref (gad G b)), (1, .int x1), (2, .int x2)] [] w := by
  rw [fn3_renew] at h
  refine bw_aload_n C 0 dX3_renew_0 rfl rfl ?_
  refine bw_iload_n C 1 dX3_renew_1 rfl rfl ?_
  refine bw_puti C (j := 2) (ty := .int) (isS_lt hb) (isS_sh hb) rfl inlX3 (by decide) tyX3 tyX3_ok nmX3 rfl flX3_15 rfl (by decide +kernel) rfl rfl dX3_renew_2 ?_
  refine bw_aload_n C 0 dX3_renew_5 rfl rfl ?_
  refine bw_iload_n C 2 dX3_renew_6 rfl rfl ?_
  refine bw_puti C (j := 1) (ty := .int) (isS_lt hb) (isS_sh hb) rfl inlX3 (by decide) tyX3 tyX3_ok nmX3 rfl flX3_19 rfl (by decide +kernel) rfl rfl dX3_renew_7 ?_
  refine bw_iconst C (v := 0) dX3_renew_10 (by decide) ?_
  refine bw_istore_n C [(3, .int 0), (0, .ref (gad G b)), (1, .int x1), (2, .int x2)] dX3_renew_11 rfl (by decide) rfl ?_
  refine bw_sub [1, 0] rfl (bk3_renew_12 C hb (fun x3_12 w_12 h => ?_) 1000 0 (up2 (up2 w b 2 x1) b 1 x2) h)
  exact bw_vret C dX3_renew_31 h
theorem mt3_renew {l : Launch} {G : GX} {b : Nat} (hb : isSheetB b) {x1 : Int32} {x2 : Int32} {w : Mem} {z : Int32 × Mem} (h : fn3_renew b x1 x2 w = some z) : MC l G shX 71 (eX G) yX3_renew cX3_renew 4 none rm3_renew [.ref (gad G b), .int x1, .int x2] w z := by
  refine met_of (by decide +kernel) (eX_ok G) rfl (Nat.le_of_ble_eq_true rfl) (fun M hM C => ?_)
  subst hM
  exact bk3_renew C hb x1 x2 h
def rm3_put : Room := { frames := 0, cells := 0, slots := 0, locals := 0 }
def fn3_put (b : Nat) (x1 : Int32) (x2 : Int32) (w : Mem) : Option (Int32 × Mem) := (if (w b 2) = 0 then (if ib x1 40 = true then some (0, (up2 w (b + 1) x1.toNatClampNeg ((x2 : Int32).toInt8.toInt32))) else none) else (if (w b 2) = 1 then (if ib x1 40 = true then some (0, (up2 w (b + 1) x1.toNatClampNeg ((x2 : Int32).toInt16.toInt32))) else none) else (if ib x1 40 = true then some (0, (up2 w (b + 1) x1.toNatClampNeg x2)) else none)))
set_option maxRecDepth 20000 in
theorem bk3_put {M : MX} {G : GX} (C : BC M G shX 71 (eX G) RX3 cX3_put 3 none rm3_put) {z : Int32 × Mem} {b : Nat} (hb : isSheetB b) (x1 : Int32) (x2 : Int32) {w : Mem} (h : fn3_put b x1 x2 w = some z) : BW M G shX 71 3 (ZR M G shX 71 none z) 0 [(0, .ref (gad G b)), (1, .int x1), (2, .int x2)] [] w := by
  rw [fn3_put] at h
  refine bw_aload_n C 0 dX3_put_0 rfl rfl ?_
  refine bw_geti C (j := 2) (isS_lt hb) (isS_sh hb) rfl inlX3 (by decide) rfl flX3_15 dX3_put_1 ?_
  refine bw_case h (fun hx h => ?_) (fun hn0 h => ?_)
  · refine bw_lsw C (tgt := 32) dX3_put_4 (by decide) (show _ = (28 : Int) from ?_) (by decide) ?_
    · rw [hx]; rfl
    · refine bw_aload_n C 0 dX3_put_32 rfl rfl ?_
      refine bw_getr C (j := 0) (t := (b + 1)) (isS_lt hb) (isS_sh hb) rfl inlX3 (by decide) rfl flX3_11 dX3_put_33 ?_
      refine bw_iload_n C 1 dX3_put_36 rfl rfl ?_
      refine bw_iload_n C 2 dX3_put_37 rfl rfl ?_
      refine bw_i2b C dX3_put_38 rfl ?_
      refine bw_iast C (isS_l1 hb) (isS_s1 hb) dX3_put_39 h (fun h => ?_)
      refine bw_goto C (tgt := 61) dX3_put_40 (by decide) ?_
      exact bw_vret C dX3_put_61 h
  · refine bw_case h (fun hx h => ?_) (fun hn1 h => ?_)
    · refine bw_lsw C (tgt := 43) dX3_put_4 (by decide) (show _ = (39 : Int) from ?_) (by decide) ?_
      · rw [hx]; rfl
      · refine bw_aload_n C 0 dX3_put_43 rfl rfl ?_
        refine bw_getr C (j := 0) (t := (b + 1)) (isS_lt hb) (isS_sh hb) rfl inlX3 (by decide) rfl flX3_11 dX3_put_44 ?_
        refine bw_iload_n C 1 dX3_put_47 rfl rfl ?_
        refine bw_iload_n C 2 dX3_put_48 rfl rfl ?_
        refine bw_i2s C dX3_put_49 rfl ?_
        refine bw_iast C (isS_l1 hb) (isS_s1 hb) dX3_put_50 h (fun h => ?_)
        refine bw_goto C (tgt := 61) dX3_put_51 (by decide) ?_
        exact bw_vret C dX3_put_61 h
    · refine bw_lsw C (tgt := 54) dX3_put_4 (by decide) (show _ = (50 : Int) from ?_) (by decide) ?_
      · first | (rw [lv_osw hn0 (by decide), lv_osw hn1 (by decide)]; rfl) | (rw [lv_osw hn0 (by decide)]; rfl)
      · refine bw_aload_n C 0 dX3_put_54 rfl rfl ?_
        refine bw_getr C (j := 0) (t := (b + 1)) (isS_lt hb) (isS_sh hb) rfl inlX3 (by decide) rfl flX3_11 dX3_put_55 ?_
        refine bw_iload_n C 1 dX3_put_58 rfl rfl ?_
        refine bw_iload_n C 2 dX3_put_59 rfl rfl ?_
        refine bw_iast C (isS_l1 hb) (isS_s1 hb) dX3_put_60 h (fun h => ?_)
        exact bw_vret C dX3_put_61 h
theorem mt3_put {l : Launch} {G : GX} {b : Nat} (hb : isSheetB b) {x1 : Int32} {x2 : Int32} {w : Mem} {z : Int32 × Mem} (h : fn3_put b x1 x2 w = some z) : MC l G shX 71 (eX G) yX3_put cX3_put 3 none rm3_put [.ref (gad G b), .int x1, .int x2] w z := by
  refine met_of (by decide +kernel) (eX_ok G) rfl (Nat.le_of_ble_eq_true rfl) (fun M hM C => ?_)
  subst hM
  exact bk3_put C hb x1 x2 h
def rm3_faultInThree : Room := { frames := 1, cells := 0, slots := 0, locals := 20 }
def fn3_faultInThree (b : Nat) (x1 : Int32) (x2 : Int32) (w : Mem) : Option (Int32 × Mem) := (fn3_isNothing b w).bind (fun q1 => (if q1.1 = 0 then (if (q1.2 b 2) = x1 then (if x2 < 0 then some (2, q1.2) else (if ((q1.2 b 1) - 3) < x2 then some (2, q1.2) else some (0, q1.2))) else some (3, q1.2)) else some (1, q1.2)))
set_option maxRecDepth 20000 in
theorem bk3_faultInThree {M : MX} {G : GX} (C : BC M G shX 71 (eX G) RX3 cX3_faultInThree 3 (some .int) rm3_faultInThree) {z : Int32 × Mem} {b : Nat} (hb : isSheetB b) (x1 : Int32) (x2 : Int32) {w : Mem} (h : fn3_faultInThree b x1 x2 w = some z) : BW M G shX 71 3 (ZR M G shX 71 (some .int) z) 0 [(0, .ref (gad G b)), (1, .int x1), (2, .int x2)] [] w := by
  rw [fn3_faultInThree] at h
  refine bw_aload_n C 0 dX3_faultInThree_0 rfl rfl ?_
  refine bw_callVi C (As := []) (isS_lt hb) (isS_sh hb) rfl miX3_isNothing mlX3_22 imX3_isNothing seX3_isNothing (by decide) rfl rfl (fun z1 h1 => mt3_isNothing hb h1) rfl (Nat.le_of_ble_eq_true rfl) rfl dX3_faultInThree_1 h (fun q1 _ h => ?_)
  refine bw_if_eq C (tgt := 9) dX3_faultInThree_4 (by decide) h (fun h => ?_) (fun h => ?_)
  · refine bw_aload_n C 0 dX3_faultInThree_9 rfl rfl ?_
    refine bw_geti C (j := 2) (isS_lt hb) (isS_sh hb) rfl inlX3 (by decide) rfl flX3_15 dX3_faultInThree_10 ?_
    refine bw_iload_n C 1 dX3_faultInThree_13 rfl rfl ?_
    refine bw_icmp_eq C (tgt := 19) dX3_faultInThree_14 (by decide) h (fun h => ?_) (fun h => ?_)
    · refine bw_iload_n C 2 dX3_faultInThree_19 rfl rfl ?_
      refine bw_if_lt C (tgt := 37) dX3_faultInThree_20 (by decide) h (fun h => ?_) (fun h => ?_)
      · refine bw_iconst C (v := 2) dX3_faultInThree_37 (by decide) ?_
        exact bw_iret C dX3_faultInThree_38 h
      · refine bw_iload_n C 2 dX3_faultInThree_23 rfl rfl ?_
        refine bw_aload_n C 0 dX3_faultInThree_24 rfl rfl ?_
        refine bw_geti C (j := 1) (isS_lt hb) (isS_sh hb) rfl inlX3 (by decide) rfl flX3_19 dX3_faultInThree_25 ?_
        refine bw_iconst C (v := 3) dX3_faultInThree_28 (by decide) ?_
        refine bw_isub C dX3_faultInThree_29 ?_
        refine bw_icmp_gt C (tgt := 37) dX3_faultInThree_30 (by decide) h (fun h => ?_) (fun h => ?_)
        · refine bw_iconst C (v := 2) dX3_faultInThree_37 (by decide) ?_
          exact bw_iret C dX3_faultInThree_38 h
        · refine bw_iconst C (v := 0) dX3_faultInThree_33 (by decide) ?_
          refine bw_goto C (tgt := 38) dX3_faultInThree_34 (by decide) ?_
          exact bw_iret C dX3_faultInThree_38 h
    · refine bw_iconst C (v := 3) dX3_faultInThree_17 (by decide) ?_
      exact bw_iret C dX3_faultInThree_18 h
  · refine bw_iconst C (v := 1) dX3_faultInThree_7 (by decide) ?_
    exact bw_iret C dX3_faultInThree_8 h
theorem mt3_faultInThree {l : Launch} {G : GX} {b : Nat} (hb : isSheetB b) {x1 : Int32} {x2 : Int32} {w : Mem} {z : Int32 × Mem} (h : fn3_faultInThree b x1 x2 w = some z) : MC l G shX 71 (eX G) yX3_faultInThree cX3_faultInThree 3 (some .int) rm3_faultInThree [.ref (gad G b), .int x1, .int x2] w z := by
  refine met_of (by decide +kernel) (eX_ok G) rfl (Nat.le_of_ble_eq_true rfl) (fun M hM C => ?_)
  subst hM
  exact bk3_faultInThree C hb x1 x2 h
def rm4_append : Room := { frames := 0, cells := 0, slots := 0, locals := 0 }
def fn4_append_46 (x1 : Int64) (x3 : Int32) (kb : Int32 → Mem → Option (Int32 × Mem)) (w : Mem) : Option (Int32 × Mem) := kb (x3 + 1) w
set_option maxRecDepth 20000 in
theorem bk4_append_46 {M : MX} {G : GX} (C : BC M G shX 71 (eX G) RX4 cX4_append 4 (some .int) rm4_append) {z : Int32 × Mem} (x1 : Int64) (x3 : Int32) {kb : Int32 → Mem → Option (Int32 × Mem)} (hkb : ∀ (x3 : Int32) (w : Mem), kb x3 w = some z → BW M G shX 71 4 (ZR M G shX 71 (some .int) z) 18 [(0, .ref (gad G 53)), (1, .long x1), (3, .int x3)] [] w) {w : Mem} (h : fn4_append_46 x1 x3 kb w = some z) : BW M G shX 71 4 (ZR M G shX 71 (some .int) z) 46 [(0, .ref (gad G 53)), (1, .long x1), (3, .int x3)] [] w := by
  rw [fn4_append_46] at h
  refine bw_iinc C [(3, .int (x3 + 1)), (0, .ref (gad G 53)), (1, .long x1)] 2 dX4_append_46 rfl rfl (by decide) rfl ?_
  refine bw_goto C (tgt := 18) dX4_append_49 (by decide) ?_
  exact bw_sub [1, 2, 0] rfl (hkb (x3 + 1) w h)
def fn4_append_18 (x1 : Int64) (k : Int32 → Mem → Option (Int32 × Mem)) : Nat → Int32 → Mem → Option (Int32 × Mem)
  | 0, _, _ => none
  | nn + 1, x3, w => (if 8 ≤ x3 then k x3 w else (if ib ((w 53 1) + x3) 320 = true then fn4_append_46 x1 x3 (fn4_append_18 x1 k nn) (up2 w 54 ((w 53 1) + x3).toNatClampNeg (vp_nar .byte ((((x1 >>> (((56 - (8 * x3)) : Int32).toInt64 &&& 63)) : Int64).toInt32 : Int32).toInt8.toInt32))) else none))
set_option maxRecDepth 20000 in
theorem bk4_append_18 {M : MX} {G : GX} (C : BC M G shX 71 (eX G) RX4 cX4_append 4 (some .int) rm4_append) {z : Int32 × Mem} (x1 : Int64) {k : Int32 → Mem → Option (Int32 × Mem)} (hk : ∀ (x3 : Int32) (w : Mem), k x3 w = some z → BW M G shX 71 4 (ZR M G shX 71 (some .int) z) 52 [(0, .ref (gad G 53))] [] w) : ∀ (nn : Nat) (x3 : Int32) (w : Mem), fn4_append_18 x1 k nn x3 w = some z → BW M G shX 71 4 (ZR M G shX 71 (some .int) z) 18 [(0, .ref (gad G 53)), (1, .long x1), (3, .int x3)] [] w := by
  intro nn
  induction nn with
  | zero =>
    intro x3 w h
    have h : (none : Option (Int32 × Mem)) = some z := h
    cases h
  | succ nn ih =>
    intro x3 w h
    rw [fn4_append_18] at h
    refine bw_iload_n C 2 dX4_append_18 rfl rfl ?_
    refine bw_bipush C (v := 8) dX4_append_19 (by decide) ?_
    refine bw_icmp_ge C (tgt := 52) dX4_append_21 (by decide) h (fun h => ?_) (fun h => ?_)
    · exact bw_sub [0] rfl (hk x3 w h)
    · refine bw_aload_n C 0 dX4_append_24 rfl rfl ?_
      refine bw_getr C (j := 0) (t := 54) lX53 sX53 rfl inlX4 (by decide) rfl flX4_11 dX4_append_25 ?_
      refine bw_aload_n C 0 dX4_append_28 rfl rfl ?_
      refine bw_geti C (j := 1) lX53 sX53 rfl inlX4 (by decide) rfl flX4_15 dX4_append_29 ?_
      refine bw_iload_n C 2 dX4_append_32 rfl rfl ?_
      refine bw_iadd C dX4_append_33 ?_
      refine bw_lload_n C 1 dX4_append_34 rfl rfl ?_
      refine bw_bipush C (v := 56) dX4_append_35 (by decide) ?_
      refine bw_bipush C (v := 8) dX4_append_37 (by decide) ?_
      refine bw_iload_n C 2 dX4_append_39 rfl rfl ?_
      refine bw_imul C dX4_append_40 ?_
      refine bw_isub C dX4_append_41 ?_
      refine bw_lshr C dX4_append_42 rfl ?_
      refine bw_l2i C dX4_append_43 rfl ?_
      refine bw_i2b C dX4_append_44 rfl ?_
      refine bw_bast C lX54 sX54 dX4_append_45 h (fun h => ?_)
      exact bw_sub [0, 1, 2] rfl (bk4_append_46 C x1 x3 ih h)
def fn4_append  (x1 : Int64) (w : Mem) : Option (Int32 × Mem) := (if ((w 53 1) + 8) ≤ 320 then fn4_append_18 x1 (fun x3_18 w_18 => some (((up2 w_18 53 1 ((w_18 53 1) + 8)) 53 1), (up2 w_18 53 1 ((w_18 53 1) + 8)))) 1000 0 w else some ((-3), w))
set_option maxRecDepth 20000 in
theorem bk4_append {M : MX} {G : GX} (C : BC M G shX 71 (eX G) RX4 cX4_append 4 (some .int) rm4_append) {z : Int32 × Mem}   (x1 : Int64) {w : Mem} (h : fn4_append  x1 w = some z) : BW M G shX 71 4 (ZR M G shX 71 (some .int) z) 0 [(0, .ref (gad G 53)), (1, .long x1)] [] w := by
  rw [fn4_append] at h
  refine bw_aload_n C 0 dX4_append_0 rfl rfl ?_
  refine bw_geti C (j := 1) lX53 sX53 rfl inlX4 (by decide) rfl flX4_15 dX4_append_1 ?_
  refine bw_bipush C (v := 8) dX4_append_4 (by decide) ?_
  refine bw_iadd C dX4_append_6 ?_
  refine bw_sipush C (v := 320) dX4_append_7 (by decide) ?_
  refine bw_icmp_le C (tgt := 16) dX4_append_10 (by decide) h (fun h => ?_) (fun h => ?_)
  · refine bw_iconst C (v := 0) dX4_append_16 (by decide) ?_
    refine bw_istore_n C [(3, .int 0), (0, .ref (gad G 53)), (1, .long x1)] dX4_append_17 rfl (by decide) rfl ?_
    refine bw_sub [1, 2, 0] rfl (bk4_append_18 C x1 (fun x3_18 w_18 h => ?_) 1000 0 w h)
    refine bw_aload_n C 0 dX4_append_52 rfl rfl ?_
    refine bw_dup C dX4_append_53 rfl ?_
    refine bw_geti C (j := 1) lX53 sX53 rfl inlX4 (by decide) rfl flX4_15 dX4_append_54 ?_
    refine bw_bipush C (v := 8) dX4_append_57 (by decide) ?_
    refine bw_iadd C dX4_append_59 ?_
    refine bw_puti C (j := 1) (ty := .int) lX53 sX53 rfl inlX4 (by decide) tyX4 tyX4_ok nmX4 rfl flX4_15 rfl (by decide +kernel) rfl rfl dX4_append_60 ?_
    refine bw_aload_n C 0 dX4_append_63 rfl rfl ?_
    refine bw_geti C (j := 1) lX53 sX53 rfl inlX4 (by decide) rfl flX4_15 dX4_append_64 ?_
    exact bw_iret C dX4_append_67 h
  · refine bw_bipush C (v := (-3)) dX4_append_13 (by decide) ?_
    exact bw_iret C dX4_append_15 h
theorem mt4_append {l : Launch} {G : GX}   {x1 : Int64} {w : Mem} {z : Int32 × Mem} (h : fn4_append  x1 w = some z) : MC l G shX 71 (eX G) yX4_append cX4_append 4 (some .int) rm4_append [.ref (gad G 53), .long x1] w z := by
  refine met_of (by decide +kernel) (eX_ok G) rfl (Nat.le_of_ble_eq_true rfl) (fun M hM C => ?_)
  subst hM
  exact bk4_append C  x1 h
def rm4_cutTo : Room := { frames := 0, cells := 0, slots := 0, locals := 0 }
def fn4_cutTo  (x1 : Int32) (w : Mem) : Option (Int32 × Mem) := (if x1 < 0 then some ((-1), w) else (if x1 ≤ (w 53 1) then some ((w 53 1), (up2 w 53 1 x1)) else some ((-1), w)))
set_option maxRecDepth 20000 in
theorem bk4_cutTo {M : MX} {G : GX} (C : BC M G shX 71 (eX G) RX4 cX4_cutTo 3 (some .int) rm4_cutTo) {z : Int32 × Mem}   (x1 : Int32) {w : Mem} (h : fn4_cutTo  x1 w = some z) : BW M G shX 71 3 (ZR M G shX 71 (some .int) z) 0 [(0, .ref (gad G 53)), (1, .int x1)] [] w := by
  rw [fn4_cutTo] at h
  refine bw_iload_n C 1 dX4_cutTo_0 rfl rfl ?_
  refine bw_if_lt C (tgt := 12) dX4_cutTo_1 (by decide) h (fun h => ?_) (fun h => ?_)
  · refine bw_iconst C (v := (-1)) dX4_cutTo_12 (by decide) ?_
    exact bw_iret C dX4_cutTo_13 h
  · refine bw_iload_n C 1 dX4_cutTo_4 rfl rfl ?_
    refine bw_aload_n C 0 dX4_cutTo_5 rfl rfl ?_
    refine bw_geti C (j := 1) lX53 sX53 rfl inlX4 (by decide) rfl flX4_15 dX4_cutTo_6 ?_
    refine bw_icmp_le C (tgt := 14) dX4_cutTo_9 (by decide) h (fun h => ?_) (fun h => ?_)
    · refine bw_aload_n C 0 dX4_cutTo_14 rfl rfl ?_
      refine bw_geti C (j := 1) lX53 sX53 rfl inlX4 (by decide) rfl flX4_15 dX4_cutTo_15 ?_
      refine bw_istore_n C [(2, .int (w 53 1)), (0, .ref (gad G 53)), (1, .int x1)] dX4_cutTo_18 rfl (by decide) rfl ?_
      refine bw_aload_n C 1 dX4_cutTo_19 rfl rfl ?_
      refine bw_iload_n C 2 dX4_cutTo_20 rfl rfl ?_
      refine bw_puti C (j := 1) (ty := .int) lX53 sX53 rfl inlX4 (by decide) tyX4 tyX4_ok nmX4 rfl flX4_15 rfl (by decide +kernel) rfl rfl dX4_cutTo_21 ?_
      refine bw_iload_n C 0 dX4_cutTo_24 rfl rfl ?_
      exact bw_iret C dX4_cutTo_25 h
    · refine bw_iconst C (v := (-1)) dX4_cutTo_12 (by decide) ?_
      exact bw_iret C dX4_cutTo_13 h
theorem mt4_cutTo {l : Launch} {G : GX}   {x1 : Int32} {w : Mem} {z : Int32 × Mem} (h : fn4_cutTo  x1 w = some z) : MC l G shX 71 (eX G) yX4_cutTo cX4_cutTo 3 (some .int) rm4_cutTo [.ref (gad G 53), .int x1] w z := by
  refine met_of (by decide +kernel) (eX_ok G) rfl (Nat.le_of_ble_eq_true rfl) (fun M hM C => ?_)
  subst hM
  exact bk4_cutTo C  x1 h
def rm6_clear : Room := { frames := 0, cells := 0, slots := 0, locals := 0 }
def fn6_clear_27 (b : Nat) (k : Int32 → Mem → Option (Int32 × Mem)) : Nat → Int32 → Mem → Option (Int32 × Mem)
  | 0, _, _ => none
  | nn + 1, x1, w => (if 6 ≤ x1 then k x1 w else (if ib x1 6 = true then (if ib x1 6 = true then fn6_clear_27 b k nn (x1 + 1) (up2 (up2 w (b + 6) x1.toNatClampNeg (vp_nar .boolean 0)) (b + 7) x1.toNatClampNeg (-4)) else none) else none))
set_option maxRecDepth 20000 in
theorem bk6_clear_27 {M : MX} {G : GX} (C : BC M G shX 71 (eX G) RX6 cX6_clear 2 none rm6_clear) {z : Int32 × Mem} {b : Nat} (hb : isTown b) {k : Int32 → Mem → Option (Int32 × Mem)} (hk : ∀ (x1 : Int32) (w : Mem), k x1 w = some z → BW M G shX 71 2 (ZR M G shX 71 none z) 54 [] [] w) : ∀ (nn : Nat) (x1 : Int32) (w : Mem), fn6_clear_27 b k nn x1 w = some z → BW M G shX 71 2 (ZR M G shX 71 none z) 27 [(0, .ref (gad G b)), (1, .int x1)] [] w := by
  intro nn
  induction nn with
  | zero =>
    intro x1 w h
    have h : (none : Option (Int32 × Mem)) = some z := h
    cases h
  | succ nn ih =>
    intro x1 w h
    rw [fn6_clear_27] at h
    refine bw_iload_n C 1 dX6_clear_27 rfl rfl ?_
    refine bw_bipush C (v := 6) dX6_clear_28 (by decide) ?_
    refine bw_icmp_ge C (tgt := 54) dX6_clear_30 (by decide) h (fun h => ?_) (fun h => ?_)
    · exact bw_sub [] rfl (hk x1 w h)
    · refine bw_aload_n C 0 dX6_clear_33 rfl rfl ?_
      refine bw_getr C (j := 7) (t := (b + 6)) (isT_lt hb) (isT_sh hb) rfl inlX6 (by decide) rfl flX6_27 dX6_clear_34 ?_
      refine bw_iload_n C 1 dX6_clear_37 rfl rfl ?_
      refine bw_iconst C (v := 0) dX6_clear_38 (by decide) ?_
      refine bw_zast C (isT_l6 hb) (isT_s6 hb) dX6_clear_39 h (fun h => ?_)
      refine bw_aload_n C 0 dX6_clear_40 rfl rfl ?_
      refine bw_getr C (j := 8) (t := (b + 7)) (isT_lt hb) (isT_sh hb) rfl inlX6 (by decide) rfl flX6_31 dX6_clear_41 ?_
      refine bw_iload_n C 1 dX6_clear_44 rfl rfl ?_
      refine bw_bipush C (v := (-4)) dX6_clear_45 (by decide) ?_
      refine bw_iast C (isT_l7 hb) (isT_s7 hb) dX6_clear_47 h (fun h => ?_)
      refine bw_iinc C [(1, .int (x1 + 1)), (0, .ref (gad G b))] 1 dX6_clear_48 rfl rfl (by decide) rfl ?_
      refine bw_goto C (tgt := 27) dX6_clear_51 (by decide) ?_
      exact bw_sub [1, 0] rfl (ih (x1 + 1) (up2 (up2 w (b + 6) x1.toNatClampNeg (vp_nar .boolean 0)) (b + 7) x1.toNatClampNeg (-4)) h)
def fn6_clear (b : Nat)  (w : Mem) : Option (Int32 × Mem) := fn6_clear_27 b (fun x1_27 w_27 => some (0, w_27)) 1000 0 (up2 (up2 (up2 (up2 (up2 w b 0 0) b 4 0) b 9 0) b 13 0) b 14 1)
set_option maxRecDepth 20000 in
theorem bk6_clear {M : MX} {G : GX} (C : BC M G shX 71 (eX G) RX6 cX6_clear 2 none rm6_clear) {z : Int32 × Mem} {b : Nat} (hb : isTown b)  {w : Mem} (h : fn6_clear b  w = some z) : BW M G shX 71 2 (ZR M G shX 71 none z) 0 [(0, .ref (gad G b))] [] w := by
  rw [fn6_clear] at h
  refine bw_aload_n C 0 dX6_clear_0 rfl rfl ?_
  refine bw_iconst C (v := 0) dX6_clear_1 (by decide) ?_
  refine bw_puti C (j := 0) (ty := .int) (isT_lt hb) (isT_sh hb) rfl inlX6 (by decide) tyX6 tyX6_ok nmX6 rfl flX6_46 rfl (by decide +kernel) rfl rfl dX6_clear_2 ?_
  refine bw_aload_n C 0 dX6_clear_5 rfl rfl ?_
  refine bw_iconst C (v := 0) dX6_clear_6 (by decide) ?_
  refine bw_puti C (j := 4) (ty := .int) (isT_lt hb) (isT_sh hb) rfl inlX6 (by decide) tyX6 tyX6_ok nmX6 rfl flX6_50 rfl (by decide +kernel) rfl rfl dX6_clear_7 ?_
  refine bw_aload_n C 0 dX6_clear_10 rfl rfl ?_
  refine bw_iconst C (v := 0) dX6_clear_11 (by decide) ?_
  refine bw_puti C (j := 9) (ty := .int) (isT_lt hb) (isT_sh hb) rfl inlX6 (by decide) tyX6 tyX6_ok nmX6 rfl flX6_53 rfl (by decide +kernel) rfl rfl dX6_clear_12 ?_
  refine bw_aload_n C 0 dX6_clear_15 rfl rfl ?_
  refine bw_iconst C (v := 0) dX6_clear_16 (by decide) ?_
  refine bw_puti C (j := 13) (ty := .int) (isT_lt hb) (isT_sh hb) rfl inlX6 (by decide) tyX6 tyX6_ok nmX6 rfl flX6_56 rfl (by decide +kernel) rfl rfl dX6_clear_17 ?_
  refine bw_aload_n C 0 dX6_clear_20 rfl rfl ?_
  refine bw_iconst C (v := 1) dX6_clear_21 (by decide) ?_
  refine bw_puti C (j := 14) (ty := .int) (isT_lt hb) (isT_sh hb) rfl inlX6 (by decide) tyX6 tyX6_ok nmX6 rfl flX6_59 rfl (by decide +kernel) rfl rfl dX6_clear_22 ?_
  refine bw_iconst C (v := 0) dX6_clear_25 (by decide) ?_
  refine bw_istore_n C [(1, .int 0), (0, .ref (gad G b))] dX6_clear_26 rfl (by decide) rfl ?_
  refine bw_sub [1, 0] rfl (bk6_clear_27 C hb (fun x1_27 w_27 h => ?_) 1000 0 (up2 (up2 (up2 (up2 (up2 w b 0 0) b 4 0) b 9 0) b 13 0) b 14 1) h)
  exact bw_vret C dX6_clear_54 h
theorem mt6_clear {l : Launch} {G : GX} {b : Nat} (hb : isTown b)  {w : Mem} {z : Int32 × Mem} (h : fn6_clear b  w = some z) : MC l G shX 71 (eX G) yX6_clear cX6_clear 2 none rm6_clear [.ref (gad G b)] w z := by
  refine met_of (by decide +kernel) (eX_ok G) rfl (Nat.le_of_ble_eq_true rfl) (fun M hM C => ?_)
  subst hM
  exact bk6_clear C hb  h
def rm5_tokenBegunBy : Room := { frames := 0, cells := 0, slots := 0, locals := 0 }
def fn5_tokenBegunBy_28 (x0 : Int32) (w : Mem) : Option (Int32 × Mem) := (if ¬ x0 = 59 then some (4, w) else some (3, w))
set_option maxRecDepth 20000 in
theorem bk5_tokenBegunBy_28 {M : MX} {G : GX} (C : BC M G shX 71 (eX G) RX5 cX5_tokenBegunBy 1 (some .int) rm5_tokenBegunBy) {z : Int32 × Mem} (x0 : Int32) {w : Mem} (h : fn5_tokenBegunBy_28 x0 w = some z) : BW M G shX 71 1 (ZR M G shX 71 (some .int) z) 28 [(0, .int x0)] [] w := by
  rw [fn5_tokenBegunBy_28] at h
  refine bw_iload_n C 0 dX5_tokenBegunBy_28 rfl rfl ?_
  refine bw_bipush C (v := 59) dX5_tokenBegunBy_29 (by decide) ?_
  refine bw_icmp_ne C (tgt := 38) dX5_tokenBegunBy_31 (by decide) h (fun h => ?_) (fun h => ?_)
  · refine bw_iconst C (v := 4) dX5_tokenBegunBy_38 (by decide) ?_
    exact bw_iret C dX5_tokenBegunBy_39 h
  · refine bw_iconst C (v := 3) dX5_tokenBegunBy_34 (by decide) ?_
    refine bw_goto C (tgt := 39) dX5_tokenBegunBy_35 (by decide) ?_
    exact bw_iret C dX5_tokenBegunBy_39 h
def fn5_tokenBegunBy_14 (x0 : Int32) (w : Mem) : Option (Int32 × Mem) := (if x0 < 48 then fn5_tokenBegunBy_28 x0 w else (if 57 < x0 then fn5_tokenBegunBy_28 x0 w else some (2, w)))
set_option maxRecDepth 20000 in
theorem bk5_tokenBegunBy_14 {M : MX} {G : GX} (C : BC M G shX 71 (eX G) RX5 cX5_tokenBegunBy 1 (some .int) rm5_tokenBegunBy) {z : Int32 × Mem} (x0 : Int32) {w : Mem} (h : fn5_tokenBegunBy_14 x0 w = some z) : BW M G shX 71 1 (ZR M G shX 71 (some .int) z) 14 [(0, .int x0)] [] w := by
  rw [fn5_tokenBegunBy_14] at h
  refine bw_iload_n C 0 dX5_tokenBegunBy_14 rfl rfl ?_
  refine bw_bipush C (v := 48) dX5_tokenBegunBy_15 (by decide) ?_
  refine bw_icmp_lt C (tgt := 28) dX5_tokenBegunBy_17 (by decide) h (fun h => ?_) (fun h => ?_)
  · exact bw_sub [0] rfl (bk5_tokenBegunBy_28 C x0 h)
  · refine bw_iload_n C 0 dX5_tokenBegunBy_20 rfl rfl ?_
    refine bw_bipush C (v := 57) dX5_tokenBegunBy_21 (by decide) ?_
    refine bw_icmp_gt C (tgt := 28) dX5_tokenBegunBy_23 (by decide) h (fun h => ?_) (fun h => ?_)
    · exact bw_sub [0] rfl (bk5_tokenBegunBy_28 C x0 h)
    · refine bw_iconst C (v := 2) dX5_tokenBegunBy_26 (by decide) ?_
      exact bw_iret C dX5_tokenBegunBy_27 h
def fn5_tokenBegunBy  (x0 : Int32) (w : Mem) : Option (Int32 × Mem) := (if x0 < 97 then fn5_tokenBegunBy_14 x0 w else (if 122 < x0 then fn5_tokenBegunBy_14 x0 w else some (1, w)))
set_option maxRecDepth 20000 in
theorem bk5_tokenBegunBy {M : MX} {G : GX} (C : BC M G shX 71 (eX G) RX5 cX5_tokenBegunBy 1 (some .int) rm5_tokenBegunBy) {z : Int32 × Mem}   (x0 : Int32) {w : Mem} (h : fn5_tokenBegunBy  x0 w = some z) : BW M G shX 71 1 (ZR M G shX 71 (some .int) z) 0 [(0, .int x0)] [] w := by
  rw [fn5_tokenBegunBy] at h
  refine bw_iload_n C 0 dX5_tokenBegunBy_0 rfl rfl ?_
  refine bw_bipush C (v := 97) dX5_tokenBegunBy_1 (by decide) ?_
  refine bw_icmp_lt C (tgt := 14) dX5_tokenBegunBy_3 (by decide) h (fun h => ?_) (fun h => ?_)
  · exact bw_sub [0] rfl (bk5_tokenBegunBy_14 C x0 h)
  · refine bw_iload_n C 0 dX5_tokenBegunBy_6 rfl rfl ?_
    refine bw_bipush C (v := 122) dX5_tokenBegunBy_7 (by decide) ?_
    refine bw_icmp_gt C (tgt := 14) dX5_tokenBegunBy_9 (by decide) h (fun h => ?_) (fun h => ?_)
    · exact bw_sub [0] rfl (bk5_tokenBegunBy_14 C x0 h)
    · refine bw_iconst C (v := 1) dX5_tokenBegunBy_12 (by decide) ?_
      exact bw_iret C dX5_tokenBegunBy_13 h
theorem mt5_tokenBegunBy {l : Launch} {G : GX}   {x0 : Int32} {w : Mem} {z : Int32 × Mem} (h : fn5_tokenBegunBy  x0 w = some z) : MC l G shX 71 (eX G) yX5_tokenBegunBy cX5_tokenBegunBy 1 (some .int) rm5_tokenBegunBy [.int x0] w z := by
  refine met_of (by decide +kernel) (eX_ok G) rfl (Nat.le_of_ble_eq_true rfl) (fun M hM C => ?_)
  subst hM
  exact bk5_tokenBegunBy C  x0 h
def rm5_fail : Room := { frames := 0, cells := 0, slots := 0, locals := 0 }
def fn5_fail  (x1 : Int32) (x2 : Int32) (w : Mem) : Option (Int32 × Mem) := some (0, (up2 (up2 w 55 2 x1) 55 3 x2))
set_option maxRecDepth 20000 in
theorem bk5_fail {M : MX} {G : GX} (C : BC M G shX 71 (eX G) RX5 cX5_fail 3 (some .boolean) rm5_fail) {z : Int32 × Mem}   (x1 : Int32) (x2 : Int32) {w : Mem} (h : fn5_fail  x1 x2 w = some z) : BW M G shX 71 3 (ZR M G shX 71 (some .boolean) z) 0 [(0, .ref (gad G 55)), (1, .int x1), (2, .int x2)] [] w := by
  rw [fn5_fail] at h
  refine bw_aload_n C 0 dX5_fail_0 rfl rfl ?_
  refine bw_iload_n C 1 dX5_fail_1 rfl rfl ?_
  refine bw_puti C (j := 2) (ty := .int) lX55 sX55 rfl inlX5 (by decide) tyX5 tyX5_ok nmX5 rfl flX5_29 rfl (by decide +kernel) rfl rfl dX5_fail_2 ?_
  refine bw_aload_n C 0 dX5_fail_5 rfl rfl ?_
  refine bw_iload_n C 2 dX5_fail_6 rfl rfl ?_
  refine bw_puti C (j := 3) (ty := .int) lX55 sX55 rfl inlX5 (by decide) tyX5 tyX5_ok nmX5 rfl flX5_32 rfl (by decide +kernel) rfl rfl dX5_fail_7 ?_
  refine bw_iconst C (v := 0) dX5_fail_10 (by decide) ?_
  exact bw_zretc C dX5_fail_11 rfl h
theorem mt5_fail {l : Launch} {G : GX}   {x1 : Int32} {x2 : Int32} {w : Mem} {z : Int32 × Mem} (h : fn5_fail  x1 x2 w = some z) : MC l G shX 71 (eX G) yX5_fail cX5_fail 3 (some .boolean) rm5_fail [.ref (gad G 55), .int x1, .int x2] w z := by
  refine met_of (by decide +kernel) (eX_ok G) rfl (Nat.le_of_ble_eq_true rfl) (fun M hM C => ?_)
  subst hM
  exact bk5_fail C  x1 x2 h
