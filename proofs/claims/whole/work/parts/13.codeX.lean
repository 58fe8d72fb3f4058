def rm5_readToken : Room := { frames := 1, cells := 0, slots := 0, locals := 22 }
def fn5_readToken_8 (k : Mem → Option (Int32 × Mem)) : Nat → Mem → Option (Int32 × Mem)
  | 0, _ => none
  | nn + 1, w => (if (w 53 1) ≤ (w 55 8) then k w else (if ib (w 55 8) 320 = true then (if ¬ (w 54 (w 55 8).toNatClampNeg) = 32 then k w else fn5_readToken_8 k nn (up2 w 55 8 ((w 55 8) + 1))) else none))
set_option maxRecDepth 20000 in
theorem bk5_readToken_8 {M : MX} {G : GX} (C : BC M G shX 71 (eX G) RX5 cX5_readToken 3 (some .boolean) rm5_readToken) {z : Int32 × Mem} {k : Mem → Option (Int32 × Mem)} (hk : ∀ (w : Mem), k w = some z → BW M G shX 71 3 (ZR M G shX 71 (some .boolean) z) 52 [(0, .ref (gad G 55))] [] w) : ∀ (nn : Nat) (w : Mem), fn5_readToken_8 k nn w = some z → BW M G shX 71 3 (ZR M G shX 71 (some .boolean) z) 8 [(0, .ref (gad G 55))] [] w := by
  intro nn
  induction nn with
  | zero =>
    intro  w h
    have h : (none : Option (Int32 × Mem)) = some z := h
    cases h
  | succ nn ih =>
    intro  w h
    rw [fn5_readToken_8] at h
    refine bw_aload_n C 0 dX5_readToken_8 rfl rfl ?_
    refine bw_geti C (j := 8) lX55 sX55 rfl inlX5 (by decide) rfl flX5_63 dX5_readToken_9 ?_
    refine bw_aload_n C 0 dX5_readToken_12 rfl rfl ?_
    refine bw_getr C (j := 4) (t := 53) lX55 sX55 rfl inlX5 (by decide) rfl flX5_18 dX5_readToken_13 ?_
    refine bw_geti C (j := 1) lX53 sX53 rfl inlX4 (by decide) rfl flX5_45 dX5_readToken_16 ?_
    refine bw_icmp_ge C (tgt := 52) dX5_readToken_19 (by decide) h (fun h => ?_) (fun h => ?_)
    · exact bw_sub [0] rfl (hk w h)
    · refine bw_aload_n C 0 dX5_readToken_22 rfl rfl ?_
      refine bw_getr C (j := 4) (t := 53) lX55 sX55 rfl inlX5 (by decide) rfl flX5_18 dX5_readToken_23 ?_
      refine bw_getr C (j := 0) (t := 54) lX53 sX53 rfl inlX4 (by decide) rfl flX5_66 dX5_readToken_26 ?_
      refine bw_aload_n C 0 dX5_readToken_29 rfl rfl ?_
      refine bw_geti C (j := 8) lX55 sX55 rfl inlX5 (by decide) rfl flX5_63 dX5_readToken_30 ?_
      refine bw_bald C lX54 sX54 dX5_readToken_33 h (fun h => ?_)
      refine bw_bipush C (v := 32) dX5_readToken_34 (by decide) ?_
      refine bw_icmp_ne C (tgt := 52) dX5_readToken_36 (by decide) h (fun h => ?_) (fun h => ?_)
      · exact bw_sub [0] rfl (hk w h)
      · refine bw_aload_n C 0 dX5_readToken_39 rfl rfl ?_
        refine bw_dup C dX5_readToken_40 rfl ?_
        refine bw_geti C (j := 8) lX55 sX55 rfl inlX5 (by decide) rfl flX5_63 dX5_readToken_41 ?_
        refine bw_iconst C (v := 1) dX5_readToken_44 (by decide) ?_
        refine bw_iadd C dX5_readToken_45 ?_
        refine bw_puti C (j := 8) (ty := .int) lX55 sX55 rfl inlX5 (by decide) tyX5 tyX5_ok nmX5 rfl flX5_63 rfl (by decide +kernel) rfl rfl dX5_readToken_46 ?_
        refine bw_goto C (tgt := 8) dX5_readToken_49 (by decide) ?_
        exact bw_sub [0] rfl (ih (up2 w 55 8 ((w 55 8) + 1)) h)
def fn5_readToken_132 (x1 : Int32) (k : Mem → Option (Int32 × Mem)) : Nat → Mem → Option (Int32 × Mem)
  | 0, _ => none
  | nn + 1, w => (if x1 = 0 then k w else (if (w 53 1) ≤ (w 55 9) then k w else (if ib (w 55 9) 320 = true then (fn5_tokenBegunBy (w 54 (w 55 9).toNatClampNeg) w).bind (fun q162 => (if ¬ q162.1 = (q162.2 55 7) then k q162.2 else fn5_readToken_132 x1 k nn (up2 q162.2 55 9 ((q162.2 55 9) + 1)))) else none)))
set_option maxRecDepth 20000 in
theorem bk5_readToken_132 {M : MX} {G : GX} (C : BC M G shX 71 (eX G) RX5 cX5_readToken 3 (some .boolean) rm5_readToken) {z : Int32 × Mem} (x1 : Int32) {k : Mem → Option (Int32 × Mem)} (hk : ∀ (w : Mem), k w = some z → BW M G shX 71 3 (ZR M G shX 71 (some .boolean) z) 185 [(0, .ref (gad G 55))] [] w) : ∀ (nn : Nat) (w : Mem), fn5_readToken_132 x1 k nn w = some z → BW M G shX 71 3 (ZR M G shX 71 (some .boolean) z) 132 [(0, .ref (gad G 55)), (1, .int x1)] [] w := by
  intro nn
  induction nn with
  | zero =>
    intro  w h
    have h : (none : Option (Int32 × Mem)) = some z := h
    cases h
  | succ nn ih =>
    intro  w h
    rw [fn5_readToken_132] at h
    refine bw_iload_n C 1 dX5_readToken_132 rfl rfl ?_
    refine bw_if_eq C (tgt := 185) dX5_readToken_133 (by decide) h (fun h => ?_) (fun h => ?_)
    · exact bw_sub [0] rfl (hk w h)
    · refine bw_aload_n C 0 dX5_readToken_136 rfl rfl ?_
      refine bw_geti C (j := 9) lX55 sX55 rfl inlX5 (by decide) rfl flX5_42 dX5_readToken_137 ?_
      refine bw_aload_n C 0 dX5_readToken_140 rfl rfl ?_
      refine bw_getr C (j := 4) (t := 53) lX55 sX55 rfl inlX5 (by decide) rfl flX5_18 dX5_readToken_141 ?_
      refine bw_geti C (j := 1) lX53 sX53 rfl inlX4 (by decide) rfl flX5_45 dX5_readToken_144 ?_
      refine bw_icmp_ge C (tgt := 185) dX5_readToken_147 (by decide) h (fun h => ?_) (fun h => ?_)
      · exact bw_sub [0] rfl (hk w h)
      · refine bw_aload_n C 0 dX5_readToken_150 rfl rfl ?_
        refine bw_getr C (j := 4) (t := 53) lX55 sX55 rfl inlX5 (by decide) rfl flX5_18 dX5_readToken_151 ?_
        refine bw_getr C (j := 0) (t := 54) lX53 sX53 rfl inlX4 (by decide) rfl flX5_66 dX5_readToken_154 ?_
        refine bw_aload_n C 0 dX5_readToken_157 rfl rfl ?_
        refine bw_geti C (j := 9) lX55 sX55 rfl inlX5 (by decide) rfl flX5_42 dX5_readToken_158 ?_
        refine bw_bald C lX54 sX54 dX5_readToken_161 h (fun h => ?_)
        refine bw_callSi C (As := [.int (w 54 (w 55 9).toNatClampNeg)]) miX5_tokenBegunBy mlX5_70 smX5_tokenBegunBy (by decide) rfl rfl (fun z1 h1 => mt5_tokenBegunBy h1) rfl (Nat.le_of_ble_eq_true rfl) rfl dX5_readToken_162 h (fun q162 _ h => ?_)
        refine bw_aload_n C 0 dX5_readToken_165 rfl rfl ?_
        refine bw_geti C (j := 7) lX55 sX55 rfl inlX5 (by decide) rfl flX5_54 dX5_readToken_166 ?_
        refine bw_icmp_ne C (tgt := 185) dX5_readToken_169 (by decide) h (fun h => ?_) (fun h => ?_)
        · exact bw_sub [0] rfl (hk q162.2 h)
        · refine bw_aload_n C 0 dX5_readToken_172 rfl rfl ?_
          refine bw_dup C dX5_readToken_173 rfl ?_
          refine bw_geti C (j := 9) lX55 sX55 rfl inlX5 (by decide) rfl flX5_42 dX5_readToken_174 ?_
          refine bw_iconst C (v := 1) dX5_readToken_177 (by decide) ?_
          refine bw_iadd C dX5_readToken_178 ?_
          refine bw_puti C (j := 9) (ty := .int) lX55 sX55 rfl inlX5 (by decide) tyX5 tyX5_ok nmX5 rfl flX5_42 rfl (by decide +kernel) rfl rfl dX5_readToken_179 ?_
          refine bw_goto C (tgt := 132) dX5_readToken_182 (by decide) ?_
          exact bw_sub [0, 1] rfl (ih (up2 q162.2 55 9 ((q162.2 55 9) + 1)) h)
def fn5_readToken_236 (w : Mem) : Option (Int32 × Mem) := some (1, w)
set_option maxRecDepth 20000 in
theorem bk5_readToken_236 {M : MX} {G : GX} (C : BC M G shX 71 (eX G) RX5 cX5_readToken 3 (some .boolean) rm5_readToken) {z : Int32 × Mem} {w : Mem} (h : fn5_readToken_236 w = some z) : BW M G shX 71 3 (ZR M G shX 71 (some .boolean) z) 236 [] [] w := by
  rw [fn5_readToken_236] at h
  refine bw_iconst C (v := 1) dX5_readToken_236 (by decide) ?_
  refine bw_goto C (tgt := 241) dX5_readToken_237 (by decide) ?_
  exact bw_zretc C dX5_readToken_241 rfl h
def fn5_readToken_224 (w : Mem) : Option (Int32 × Mem) := (fn5_fail 1 (w 55 8) w).bind (fun q230 => (if q230.1 = 0 then some (0, q230.2) else fn5_readToken_236 q230.2))
set_option maxRecDepth 20000 in
theorem bk5_readToken_224 {M : MX} {G : GX} (C : BC M G shX 71 (eX G) RX5 cX5_readToken 3 (some .boolean) rm5_readToken) {z : Int32 × Mem} {w : Mem} (h : fn5_readToken_224 w = some z) : BW M G shX 71 3 (ZR M G shX 71 (some .boolean) z) 224 [(0, .ref (gad G 55))] [] w := by
  rw [fn5_readToken_224] at h
  refine bw_aload_n C 0 dX5_readToken_224 rfl rfl ?_
  refine bw_iconst C (v := 1) dX5_readToken_225 (by decide) ?_
  refine bw_aload_n C 0 dX5_readToken_226 rfl rfl ?_
  refine bw_geti C (j := 8) lX55 sX55 rfl inlX5 (by decide) rfl flX5_63 dX5_readToken_227 ?_
  refine bw_callVi C (As := [.int 1, .int (w 55 8)]) lX55 sX55 rfl miX5_fail mlX5_74 imX5_fail seX5_fail (by decide) rfl rfl (fun z1 h1 => mt5_fail h1) rfl (Nat.le_of_ble_eq_true rfl) rfl dX5_readToken_230 h (fun q230 _ h => ?_)
  refine bw_if_eq C (tgt := 240) dX5_readToken_233 (by decide) h (fun h => ?_) (fun h => ?_)
  · refine bw_iconst C (v := 0) dX5_readToken_240 (by decide) ?_
    exact bw_zretc C dX5_readToken_241 rfl h
  · exact bw_sub [] rfl (bk5_readToken_236 C h)
def fn5_readToken_211 (t0 : Int32) (w : Mem) : Option (Int32 × Mem) := (if (w 55 7) = 4 then fn5_readToken_224 w else (if t0 = 0 then fn5_readToken_236 w else fn5_readToken_224 w))
set_option maxRecDepth 20000 in
theorem bk5_readToken_211 {M : MX} {G : GX} (C : BC M G shX 71 (eX G) RX5 cX5_readToken 3 (some .boolean) rm5_readToken) {z : Int32 × Mem} (t0 : Int32) {w : Mem} (h : fn5_readToken_211 t0 w = some z) : BW M G shX 71 3 (ZR M G shX 71 (some .boolean) z) 211 [(0, .ref (gad G 55))] [.int t0] w := by
  rw [fn5_readToken_211] at h
  refine bw_istore_n C [(2, .int t0), (0, .ref (gad G 55))] dX5_readToken_211 rfl (by decide) rfl ?_
  refine bw_aload_n C 1 dX5_readToken_212 rfl rfl ?_
  refine bw_geti C (j := 7) lX55 sX55 rfl inlX5 (by decide) rfl flX5_54 dX5_readToken_213 ?_
  refine bw_iconst C (v := 4) dX5_readToken_216 (by decide) ?_
  refine bw_icmp_eq C (tgt := 224) dX5_readToken_217 (by decide) h (fun h => ?_) (fun h => ?_)
  · exact bw_sub [1] rfl (bk5_readToken_224 C h)
  · refine bw_iload_n C 0 dX5_readToken_220 rfl rfl ?_
    refine bw_if_eq C (tgt := 236) dX5_readToken_221 (by decide) h (fun h => ?_) (fun h => ?_)
    · exact bw_sub [] rfl (bk5_readToken_236 C h)
    · exact bw_sub [1] rfl (bk5_readToken_224 C h)
def fn5_readToken_210 (w : Mem) : Option (Int32 × Mem) := fn5_readToken_211 0 w
set_option maxRecDepth 20000 in
theorem bk5_readToken_210 {M : MX} {G : GX} (C : BC M G shX 71 (eX G) RX5 cX5_readToken 3 (some .boolean) rm5_readToken) {z : Int32 × Mem} {w : Mem} (h : fn5_readToken_210 w = some z) : BW M G shX 71 3 (ZR M G shX 71 (some .boolean) z) 210 [(0, .ref (gad G 55))] [] w := by
  rw [fn5_readToken_210] at h
  refine bw_iconst C (v := 0) dX5_readToken_210 (by decide) ?_
  exact bw_sub [0] rfl (bk5_readToken_211 C 0 h)
def fn5_readToken_185 (w : Mem) : Option (Int32 × Mem) := (if ¬ (w 55 7) = 2 then fn5_readToken_210 w else (if ((w 55 9) - (w 55 8)) ≤ 2 then fn5_readToken_210 w else fn5_readToken_211 1 w))
set_option maxRecDepth 20000 in
theorem bk5_readToken_185 {M : MX} {G : GX} (C : BC M G shX 71 (eX G) RX5 cX5_readToken 3 (some .boolean) rm5_readToken) {z : Int32 × Mem} {w : Mem} (h : fn5_readToken_185 w = some z) : BW M G shX 71 3 (ZR M G shX 71 (some .boolean) z) 185 [(0, .ref (gad G 55))] [] w := by
  rw [fn5_readToken_185] at h
  refine bw_aload_n C 0 dX5_readToken_185 rfl rfl ?_
  refine bw_geti C (j := 7) lX55 sX55 rfl inlX5 (by decide) rfl flX5_54 dX5_readToken_186 ?_
  refine bw_iconst C (v := 2) dX5_readToken_189 (by decide) ?_
  refine bw_icmp_ne C (tgt := 210) dX5_readToken_190 (by decide) h (fun h => ?_) (fun h => ?_)
  · exact bw_sub [0] rfl (bk5_readToken_210 C h)
  · refine bw_aload_n C 0 dX5_readToken_193 rfl rfl ?_
    refine bw_geti C (j := 9) lX55 sX55 rfl inlX5 (by decide) rfl flX5_42 dX5_readToken_194 ?_
    refine bw_aload_n C 0 dX5_readToken_197 rfl rfl ?_
    refine bw_geti C (j := 8) lX55 sX55 rfl inlX5 (by decide) rfl flX5_63 dX5_readToken_198 ?_
    refine bw_isub C dX5_readToken_201 ?_
    refine bw_iconst C (v := 2) dX5_readToken_202 (by decide) ?_
    refine bw_icmp_le C (tgt := 210) dX5_readToken_203 (by decide) h (fun h => ?_) (fun h => ?_)
    · exact bw_sub [0] rfl (bk5_readToken_210 C h)
    · refine bw_iconst C (v := 1) dX5_readToken_206 (by decide) ?_
      refine bw_goto C (tgt := 211) dX5_readToken_207 (by decide) ?_
      exact bw_sub [0] rfl (bk5_readToken_211 C 1 h)
def fn5_readToken_131 (t0 : Int32) (w : Mem) : Option (Int32 × Mem) := fn5_readToken_132 t0 (fun w_132 => fn5_readToken_185 w_132) 1000 w
set_option maxRecDepth 20000 in
theorem bk5_readToken_131 {M : MX} {G : GX} (C : BC M G shX 71 (eX G) RX5 cX5_readToken 3 (some .boolean) rm5_readToken) {z : Int32 × Mem} (t0 : Int32) {w : Mem} (h : fn5_readToken_131 t0 w = some z) : BW M G shX 71 3 (ZR M G shX 71 (some .boolean) z) 131 [(0, .ref (gad G 55))] [.int t0] w := by
  rw [fn5_readToken_131] at h
  refine bw_istore_n C [(1, .int t0), (0, .ref (gad G 55))] dX5_readToken_131 rfl (by decide) rfl ?_
  refine bw_sub [1, 0] rfl (bk5_readToken_132 C t0 (fun w_132 h => ?_) 1000 w h)
  exact bw_sub [0] rfl (bk5_readToken_185 C h)
def fn5_readToken_126 (w : Mem) : Option (Int32 × Mem) := fn5_readToken_131 1 w
set_option maxRecDepth 20000 in
theorem bk5_readToken_126 {M : MX} {G : GX} (C : BC M G shX 71 (eX G) RX5 cX5_readToken 3 (some .boolean) rm5_readToken) {z : Int32 × Mem} {w : Mem} (h : fn5_readToken_126 w = some z) : BW M G shX 71 3 (ZR M G shX 71 (some .boolean) z) 126 [(0, .ref (gad G 55))] [] w := by
  rw [fn5_readToken_126] at h
  refine bw_iconst C (v := 1) dX5_readToken_126 (by decide) ?_
  refine bw_goto C (tgt := 131) dX5_readToken_127 (by decide) ?_
  exact bw_sub [0] rfl (bk5_readToken_131 C 1 h)
def fn5_readToken_52 (w : Mem) : Option (Int32 × Mem) := (if ((up2 w 55 9 (w 55 8)) 55 8) < ((up2 w 55 9 (w 55 8)) 53 1) then (if ib ((up2 w 55 9 (w 55 8)) 55 8) 320 = true then (fn5_tokenBegunBy ((up2 w 55 9 (w 55 8)) 54 ((up2 w 55 9 (w 55 8)) 55 8).toNatClampNeg) (up2 w 55 9 (w 55 8))).bind (fun q94 => (if ((up2 (up2 q94.2 55 7 q94.1) 55 9 (((up2 q94.2 55 7 q94.1) 55 9) + 1)) 55 7) = 1 then fn5_readToken_126 (up2 (up2 q94.2 55 7 q94.1) 55 9 (((up2 q94.2 55 7 q94.1) 55 9) + 1)) else (if ¬ ((up2 (up2 q94.2 55 7 q94.1) 55 9 (((up2 q94.2 55 7 q94.1) 55 9) + 1)) 55 7) = 2 then fn5_readToken_131 0 (up2 (up2 q94.2 55 7 q94.1) 55 9 (((up2 q94.2 55 7 q94.1) 55 9) + 1)) else fn5_readToken_126 (up2 (up2 q94.2 55 7 q94.1) 55 9 (((up2 q94.2 55 7 q94.1) 55 9) + 1))))) else none) else some (1, (up2 (up2 w 55 9 (w 55 8)) 55 7 0)))
set_option maxRecDepth 20000 in
theorem bk5_readToken_52 {M : MX} {G : GX} (C : BC M G shX 71 (eX G) RX5 cX5_readToken 3 (some .boolean) rm5_readToken) {z : Int32 × Mem} {w : Mem} (h : fn5_readToken_52 w = some z) : BW M G shX 71 3 (ZR M G shX 71 (some .boolean) z) 52 [(0, .ref (gad G 55))] [] w := by
  rw [fn5_readToken_52] at h
  refine bw_aload_n C 0 dX5_readToken_52 rfl rfl ?_
  refine bw_aload_n C 0 dX5_readToken_53 rfl rfl ?_
  refine bw_geti C (j := 8) lX55 sX55 rfl inlX5 (by decide) rfl flX5_63 dX5_readToken_54 ?_
  refine bw_puti C (j := 9) (ty := .int) lX55 sX55 rfl inlX5 (by decide) tyX5 tyX5_ok nmX5 rfl flX5_42 rfl (by decide +kernel) rfl rfl dX5_readToken_57 ?_
  refine bw_aload_n C 0 dX5_readToken_60 rfl rfl ?_
  refine bw_geti C (j := 8) lX55 sX55 rfl inlX5 (by decide) rfl flX5_63 dX5_readToken_61 ?_
  refine bw_aload_n C 0 dX5_readToken_64 rfl rfl ?_
  refine bw_getr C (j := 4) (t := 53) lX55 sX55 rfl inlX5 (by decide) rfl flX5_18 dX5_readToken_65 ?_
  refine bw_geti C (j := 1) lX53 sX53 rfl inlX4 (by decide) rfl flX5_45 dX5_readToken_68 ?_
  refine bw_icmp_lt C (tgt := 81) dX5_readToken_71 (by decide) h (fun h => ?_) (fun h => ?_)
  · refine bw_aload_n C 0 dX5_readToken_81 rfl rfl ?_
    refine bw_aload_n C 0 dX5_readToken_82 rfl rfl ?_
    refine bw_getr C (j := 4) (t := 53) lX55 sX55 rfl inlX5 (by decide) rfl flX5_18 dX5_readToken_83 ?_
    refine bw_getr C (j := 0) (t := 54) lX53 sX53 rfl inlX4 (by decide) rfl flX5_66 dX5_readToken_86 ?_
    refine bw_aload_n C 0 dX5_readToken_89 rfl rfl ?_
    refine bw_geti C (j := 8) lX55 sX55 rfl inlX5 (by decide) rfl flX5_63 dX5_readToken_90 ?_
    refine bw_bald C lX54 sX54 dX5_readToken_93 h (fun h => ?_)
    refine bw_callSi C (As := [.int ((up2 w 55 9 (w 55 8)) 54 ((up2 w 55 9 (w 55 8)) 55 8).toNatClampNeg)]) miX5_tokenBegunBy mlX5_70 smX5_tokenBegunBy (by decide) rfl rfl (fun z1 h1 => mt5_tokenBegunBy h1) rfl (Nat.le_of_ble_eq_true rfl) rfl dX5_readToken_94 h (fun q94 _ h => ?_)
    refine bw_puti C (j := 7) (ty := .int) lX55 sX55 rfl inlX5 (by decide) tyX5 tyX5_ok nmX5 rfl flX5_54 rfl (by decide +kernel) rfl rfl dX5_readToken_97 ?_
    refine bw_aload_n C 0 dX5_readToken_100 rfl rfl ?_
    refine bw_dup C dX5_readToken_101 rfl ?_
    refine bw_geti C (j := 9) lX55 sX55 rfl inlX5 (by decide) rfl flX5_42 dX5_readToken_102 ?_
    refine bw_iconst C (v := 1) dX5_readToken_105 (by decide) ?_
    refine bw_iadd C dX5_readToken_106 ?_
    refine bw_puti C (j := 9) (ty := .int) lX55 sX55 rfl inlX5 (by decide) tyX5 tyX5_ok nmX5 rfl flX5_42 rfl (by decide +kernel) rfl rfl dX5_readToken_107 ?_
    refine bw_aload_n C 0 dX5_readToken_110 rfl rfl ?_
    refine bw_geti C (j := 7) lX55 sX55 rfl inlX5 (by decide) rfl flX5_54 dX5_readToken_111 ?_
    refine bw_iconst C (v := 1) dX5_readToken_114 (by decide) ?_
    refine bw_icmp_eq C (tgt := 126) dX5_readToken_115 (by decide) h (fun h => ?_) (fun h => ?_)
    · exact bw_sub [0] rfl (bk5_readToken_126 C h)
    · refine bw_aload_n C 0 dX5_readToken_118 rfl rfl ?_
      refine bw_geti C (j := 7) lX55 sX55 rfl inlX5 (by decide) rfl flX5_54 dX5_readToken_119 ?_
      refine bw_iconst C (v := 2) dX5_readToken_122 (by decide) ?_
      refine bw_icmp_ne C (tgt := 130) dX5_readToken_123 (by decide) h (fun h => ?_) (fun h => ?_)
      · refine bw_iconst C (v := 0) dX5_readToken_130 (by decide) ?_
        exact bw_sub [0] rfl (bk5_readToken_131 C 0 h)
      · exact bw_sub [0] rfl (bk5_readToken_126 C h)
  · refine bw_aload_n C 0 dX5_readToken_74 rfl rfl ?_
    refine bw_iconst C (v := 0) dX5_readToken_75 (by decide) ?_
    refine bw_puti C (j := 7) (ty := .int) lX55 sX55 rfl inlX5 (by decide) tyX5 tyX5_ok nmX5 rfl flX5_54 rfl (by decide +kernel) rfl rfl dX5_readToken_76 ?_
    refine bw_iconst C (v := 1) dX5_readToken_79 (by decide) ?_
    exact bw_zretc C dX5_readToken_80 rfl h
def fn5_readToken   (w : Mem) : Option (Int32 × Mem) := fn5_readToken_8 (fun w_8 => fn5_readToken_52 w_8) 1000 (up2 w 55 8 (w 55 9))
set_option maxRecDepth 20000 in
theorem bk5_readToken {M : MX} {G : GX} (C : BC M G shX 71 (eX G) RX5 cX5_readToken 3 (some .boolean) rm5_readToken) {z : Int32 × Mem}    {w : Mem} (h : fn5_readToken   w = some z) : BW M G shX 71 3 (ZR M G shX 71 (some .boolean) z) 0 [(0, .ref (gad G 55))] [] w := by
  rw [fn5_readToken] at h
  refine bw_aload_n C 0 dX5_readToken_0 rfl rfl ?_
  refine bw_aload_n C 0 dX5_readToken_1 rfl rfl ?_
  refine bw_geti C (j := 9) lX55 sX55 rfl inlX5 (by decide) rfl flX5_42 dX5_readToken_2 ?_
  refine bw_puti C (j := 8) (ty := .int) lX55 sX55 rfl inlX5 (by decide) tyX5 tyX5_ok nmX5 rfl flX5_63 rfl (by decide +kernel) rfl rfl dX5_readToken_5 ?_
  refine bw_sub [0] rfl (bk5_readToken_8 C (fun w_8 h => ?_) 1000 (up2 w 55 8 (w 55 9)) h)
  exact bw_sub [0] rfl (bk5_readToken_52 C h)
theorem mt5_readToken {l : Launch} {G : GX}    {w : Mem} {z : Int32 × Mem} (h : fn5_readToken   w = some z) : MC l G shX 71 (eX G) yX5_readToken cX5_readToken 3 (some .boolean) rm5_readToken [.ref (gad G 55)] w z := by
  refine met_of (by decide +kernel) (eX_ok G) rfl (Nat.le_of_ble_eq_true rfl) (fun M hM C => ?_)
  subst hM
  exact bk5_readToken C   h
def rm6_hasCoin : Room := { frames := 0, cells := 0, slots := 0, locals := 0 }
def fn6_hasCoin (b : Nat) (x1 : Int32) (w : Mem) : Option (Int32 × Mem) := (if x1 < 0 then some (0, w) else (if (w b 4) ≤ x1 then some (0, w) else some (1, w)))
set_option maxRecDepth 20000 in
theorem bk6_hasCoin {M : MX} {G : GX} (C : BC M G shX 71 (eX G) RX6 cX6_hasCoin 2 (some .boolean) rm6_hasCoin) {z : Int32 × Mem} {b : Nat} (hb : isTown b) (x1 : Int32) {w : Mem} (h : fn6_hasCoin b x1 w = some z) : BW M G shX 71 2 (ZR M G shX 71 (some .boolean) z) 0 [(0, .ref (gad G b)), (1, .int x1)] [] w := by
  rw [fn6_hasCoin] at h
  refine bw_iload_n C 1 dX6_hasCoin_0 rfl rfl ?_
  refine bw_if_lt C (tgt := 16) dX6_hasCoin_1 (by decide) h (fun h => ?_) (fun h => ?_)
  · refine bw_iconst C (v := 0) dX6_hasCoin_16 (by decide) ?_
    exact bw_zretc C dX6_hasCoin_17 rfl h
  · refine bw_iload_n C 1 dX6_hasCoin_4 rfl rfl ?_
    refine bw_aload_n C 0 dX6_hasCoin_5 rfl rfl ?_
    refine bw_geti C (j := 4) (isT_lt hb) (isT_sh hb) rfl inlX6 (by decide) rfl flX6_50 dX6_hasCoin_6 ?_
    refine bw_icmp_ge C (tgt := 16) dX6_hasCoin_9 (by decide) h (fun h => ?_) (fun h => ?_)
    · refine bw_iconst C (v := 0) dX6_hasCoin_16 (by decide) ?_
      exact bw_zretc C dX6_hasCoin_17 rfl h
    · refine bw_iconst C (v := 1) dX6_hasCoin_12 (by decide) ?_
      refine bw_goto C (tgt := 17) dX6_hasCoin_13 (by decide) ?_
      exact bw_zretc C dX6_hasCoin_17 rfl h
theorem mt6_hasCoin {l : Launch} {G : GX} {b : Nat} (hb : isTown b) {x1 : Int32} {w : Mem} {z : Int32 × Mem} (h : fn6_hasCoin b x1 w = some z) : MC l G shX 71 (eX G) yX6_hasCoin cX6_hasCoin 2 (some .boolean) rm6_hasCoin [.ref (gad G b), .int x1] w z := by
  refine met_of (by decide +kernel) (eX_ok G) rfl (Nat.le_of_ble_eq_true rfl) (fun M hM C => ?_)
  subst hM
  exact bk6_hasCoin C hb x1 h
def rm6_hasOne : Room := { frames := 0, cells := 0, slots := 0, locals := 0 }
def fn6_hasOne (b : Nat) (x1 : Int32) (w : Mem) : Option (Int32 × Mem) := (if x1 < 0 then some (0, w) else (if (w b 0) ≤ x1 then some (0, w) else some (1, w)))
set_option maxRecDepth 20000 in
theorem bk6_hasOne {M : MX} {G : GX} (C : BC M G shX 71 (eX G) RX6 cX6_hasOne 2 (some .boolean) rm6_hasOne) {z : Int32 × Mem} {b : Nat} (hb : isTown b) (x1 : Int32) {w : Mem} (h : fn6_hasOne b x1 w = some z) : BW M G shX 71 2 (ZR M G shX 71 (some .boolean) z) 0 [(0, .ref (gad G b)), (1, .int x1)] [] w := by
  rw [fn6_hasOne] at h
  refine bw_iload_n C 1 dX6_hasOne_0 rfl rfl ?_
  refine bw_if_lt C (tgt := 16) dX6_hasOne_1 (by decide) h (fun h => ?_) (fun h => ?_)
  · refine bw_iconst C (v := 0) dX6_hasOne_16 (by decide) ?_
    exact bw_zretc C dX6_hasOne_17 rfl h
  · refine bw_iload_n C 1 dX6_hasOne_4 rfl rfl ?_
    refine bw_aload_n C 0 dX6_hasOne_5 rfl rfl ?_
    refine bw_geti C (j := 0) (isT_lt hb) (isT_sh hb) rfl inlX6 (by decide) rfl flX6_46 dX6_hasOne_6 ?_
    refine bw_icmp_ge C (tgt := 16) dX6_hasOne_9 (by decide) h (fun h => ?_) (fun h => ?_)
    · refine bw_iconst C (v := 0) dX6_hasOne_16 (by decide) ?_
      exact bw_zretc C dX6_hasOne_17 rfl h
    · refine bw_iconst C (v := 1) dX6_hasOne_12 (by decide) ?_
      refine bw_goto C (tgt := 17) dX6_hasOne_13 (by decide) ?_
      exact bw_zretc C dX6_hasOne_17 rfl h
theorem mt6_hasOne {l : Launch} {G : GX} {b : Nat} (hb : isTown b) {x1 : Int32} {w : Mem} {z : Int32 × Mem} (h : fn6_hasOne b x1 w = some z) : MC l G shX 71 (eX G) yX6_hasOne cX6_hasOne 2 (some .boolean) rm6_hasOne [.ref (gad G b), .int x1] w z := by
  refine met_of (by decide +kernel) (eX_ok G) rfl (Nat.le_of_ble_eq_true rfl) (fun M hM C => ?_)
  subst hM
  exact bk6_hasOne C hb x1 h
def rm5_checkNamed : Room := { frames := 1, cells := 0, slots := 0, locals := 22 }
def fn5_checkNamed_55 (w : Mem) : Option (Int32 × Mem) := (fn5_fail 6 (w 53 1) w).bind (fun q65 => (if isb q65.1 = true then some (q65.1, q65.2) else none))
set_option maxRecDepth 20000 in
theorem bk5_checkNamed_55 {M : MX} {G : GX} (C : BC M G shX 71 (eX G) RX5 cX5_checkNamed 3 (some .boolean) rm5_checkNamed) {z : Int32 × Mem} {w : Mem} (h : fn5_checkNamed_55 w = some z) : BW M G shX 71 3 (ZR M G shX 71 (some .boolean) z) 55 [(0, .ref (gad G 55))] [] w := by
  rw [fn5_checkNamed_55] at h
  refine bw_aload_n C 0 dX5_checkNamed_55 rfl rfl ?_
  refine bw_bipush C (v := 6) dX5_checkNamed_56 (by decide) ?_
  refine bw_aload_n C 0 dX5_checkNamed_58 rfl rfl ?_
  refine bw_getr C (j := 4) (t := 53) lX55 sX55 rfl inlX5 (by decide) rfl flX5_18 dX5_checkNamed_59 ?_
  refine bw_geti C (j := 1) lX53 sX53 rfl inlX4 (by decide) rfl flX5_45 dX5_checkNamed_62 ?_
  refine bw_callVi C (As := [.int 6, .int (w 53 1)]) lX55 sX55 rfl miX5_fail mlX5_74 imX5_fail seX5_fail (by decide) rfl rfl (fun z1 h1 => mt5_fail h1) rfl (Nat.le_of_ble_eq_true rfl) rfl dX5_checkNamed_65 h (fun q65 _ h => ?_)
  exact bw_zret C dX5_checkNamed_68 h
def fn5_checkNamed_40 (x1 : Int32) (x2 : Int32) (kb : Int32 → Mem → Option (Int32 × Mem)) (w : Mem) : Option (Int32 × Mem) := (if ¬ x2 = 0 then kb (x1 + 1) w else (fn6_isSpent 12 x1 w).bind (fun q49 => (if q49.1 = 0 then kb (x1 + 1) q49.2 else fn5_checkNamed_55 q49.2)))
set_option maxRecDepth 20000 in
theorem bk5_checkNamed_40 {M : MX} {G : GX} (C : BC M G shX 71 (eX G) RX5 cX5_checkNamed 3 (some .boolean) rm5_checkNamed) {z : Int32 × Mem} (x1 : Int32) (x2 : Int32) {kb : Int32 → Mem → Option (Int32 × Mem)} (hkb : ∀ (x1 : Int32) (w : Mem), kb x1 w = some z → BW M G shX 71 3 (ZR M G shX 71 (some .boolean) z) 2 [(0, .ref (gad G 55)), (1, .int x1)] [] w) {w : Mem} (h : fn5_checkNamed_40 x1 x2 kb w = some z) : BW M G shX 71 3 (ZR M G shX 71 (some .boolean) z) 40 [(0, .ref (gad G 55)), (1, .int x1), (2, .int x2)] [] w := by
  rw [fn5_checkNamed_40] at h
  refine bw_iload_n C 2 dX5_checkNamed_40 rfl rfl ?_
  refine bw_if_ne C (tgt := 69) dX5_checkNamed_41 (by decide) h (fun h => ?_) (fun h => ?_)
  · refine bw_iinc C [(1, .int (x1 + 1)), (0, .ref (gad G 55)), (2, .int x2)] 1 dX5_checkNamed_69 rfl rfl (by decide) rfl ?_
    refine bw_goto C (tgt := 2) dX5_checkNamed_72 (by decide) ?_
    exact bw_sub [1, 0] rfl (hkb (x1 + 1) w h)
  · refine bw_aload_n C 0 dX5_checkNamed_44 rfl rfl ?_
    refine bw_getr C (j := 0) (t := 12) lX55 sX55 rfl inlX5 (by decide) rfl flX5_12 dX5_checkNamed_45 ?_
    refine bw_iload_n C 1 dX5_checkNamed_48 rfl rfl ?_
    refine bw_callVi C (As := [.int x1]) lX12 sX12 rfl miX6_isSpent mlX5_180 imX6_isSpent seX6_isSpent (by decide) rfl rfl (fun z1 h1 => mt6_isSpent isT_12 h1) rfl (Nat.le_of_ble_eq_true rfl) rfl dX5_checkNamed_49 h (fun q49 _ h => ?_)
    refine bw_if_eq C (tgt := 69) dX5_checkNamed_52 (by decide) h (fun h => ?_) (fun h => ?_)
    · refine bw_iinc C [(1, .int (x1 + 1)), (0, .ref (gad G 55)), (2, .int x2)] 1 dX5_checkNamed_69 rfl rfl (by decide) rfl ?_
      refine bw_goto C (tgt := 2) dX5_checkNamed_72 (by decide) ?_
      exact bw_sub [1, 0] rfl (hkb (x1 + 1) q49.2 h)
    · exact bw_sub [0] rfl (bk5_checkNamed_55 C h)
def fn5_checkNamed_2 (k : Int32 → Mem → Option (Int32 × Mem)) : Nat → Int32 → Mem → Option (Int32 × Mem)
  | 0, _, _ => none
  | nn + 1, x1, w => (if 6 ≤ x1 then k x1 w else (fn6_hasCoin 12 x1 w).bind (fun q13 => (if q13.1 = 0 then fn5_checkNamed_40 x1 q13.1 (fn5_checkNamed_2 k nn) q13.2 else (if ib x1 6 = true then (fn6_hasOne 12 (q13.2 17 x1.toNatClampNeg) q13.2).bind (fun q34 => (if q34.1 = 0 then fn5_checkNamed_55 q34.2 else fn5_checkNamed_40 x1 q13.1 (fn5_checkNamed_2 k nn) q34.2)) else none))))
set_option maxRecDepth 20000 in
theorem bk5_checkNamed_2 {M : MX} {G : GX} (C : BC M G shX 71 (eX G) RX5 cX5_checkNamed 3 (some .boolean) rm5_checkNamed) {z : Int32 × Mem} {k : Int32 → Mem → Option (Int32 × Mem)} (hk : ∀ (x1 : Int32) (w : Mem), k x1 w = some z → BW M G shX 71 3 (ZR M G shX 71 (some .boolean) z) 75 [(0, .ref (gad G 55))] [] w) : ∀ (nn : Nat) (x1 : Int32) (w : Mem), fn5_checkNamed_2 k nn x1 w = some z → BW M G shX 71 3 (ZR M G shX 71 (some .boolean) z) 2 [(0, .ref (gad G 55)), (1, .int x1)] [] w := by
  intro nn
  induction nn with
  | zero =>
    intro x1 w h
    have h : (none : Option (Int32 × Mem)) = some z := h
    cases h
  | succ nn ih =>
    intro x1 w h
    rw [fn5_checkNamed_2] at h
    refine bw_iload_n C 1 dX5_checkNamed_2 rfl rfl ?_
    refine bw_bipush C (v := 6) dX5_checkNamed_3 (by decide) ?_
    refine bw_icmp_ge C (tgt := 75) dX5_checkNamed_5 (by decide) h (fun h => ?_) (fun h => ?_)
    · exact bw_sub [0] rfl (hk x1 w h)
    · refine bw_aload_n C 0 dX5_checkNamed_8 rfl rfl ?_
      refine bw_getr C (j := 0) (t := 12) lX55 sX55 rfl inlX5 (by decide) rfl flX5_12 dX5_checkNamed_9 ?_
      refine bw_iload_n C 1 dX5_checkNamed_12 rfl rfl ?_
      refine bw_callVi C (As := [.int x1]) lX12 sX12 rfl miX6_hasCoin mlX5_194 imX6_hasCoin seX6_hasCoin (by decide) rfl rfl (fun z1 h1 => mt6_hasCoin isT_12 h1) rfl (Nat.le_of_ble_eq_true rfl) rfl dX5_checkNamed_13 h (fun q13 _ h => ?_)
      refine bw_istore_n C [(2, .int q13.1), (0, .ref (gad G 55)), (1, .int x1)] dX5_checkNamed_16 rfl (by decide) rfl ?_
      refine bw_iload_n C 0 dX5_checkNamed_17 rfl rfl ?_
      refine bw_if_eq C (tgt := 40) dX5_checkNamed_18 (by decide) h (fun h => ?_) (fun h => ?_)
      · exact bw_sub [1, 2, 0] rfl (bk5_checkNamed_40 C x1 q13.1 ih h)
      · refine bw_aload_n C 1 dX5_checkNamed_21 rfl rfl ?_
        refine bw_getr C (j := 0) (t := 12) lX55 sX55 rfl inlX5 (by decide) rfl flX5_12 dX5_checkNamed_22 ?_
        refine bw_aload_n C 1 dX5_checkNamed_25 rfl rfl ?_
        refine bw_getr C (j := 0) (t := 12) lX55 sX55 rfl inlX5 (by decide) rfl flX5_12 dX5_checkNamed_26 ?_
        refine bw_getr C (j := 6) (t := 17) lX12 sX12 rfl inlX6 (by decide) rfl flX5_171 dX5_checkNamed_29 ?_
        refine bw_iload_n C 2 dX5_checkNamed_32 rfl rfl ?_
        refine bw_iald C lX17 sX17 dX5_checkNamed_33 h (fun h => ?_)
        refine bw_callVi C (As := [.int (q13.2 17 x1.toNatClampNeg)]) lX12 sX12 rfl miX6_hasOne mlX5_197 imX6_hasOne seX6_hasOne (by decide) rfl rfl (fun z1 h1 => mt6_hasOne isT_12 h1) rfl (Nat.le_of_ble_eq_true rfl) rfl dX5_checkNamed_34 h (fun q34 _ h => ?_)
        refine bw_if_eq C (tgt := 55) dX5_checkNamed_37 (by decide) h (fun h => ?_) (fun h => ?_)
        · exact bw_sub [1] rfl (bk5_checkNamed_55 C h)
        · exact bw_sub [1, 2, 0] rfl (bk5_checkNamed_40 C x1 q13.1 ih h)
def fn5_checkNamed_126 (w : Mem) : Option (Int32 × Mem) := (fn5_fail 6 (w 53 1) w).bind (fun q136 => (if isb q136.1 = true then some (q136.1, q136.2) else none))
set_option maxRecDepth 20000 in
theorem bk5_checkNamed_126 {M : MX} {G : GX} (C : BC M G shX 71 (eX G) RX5 cX5_checkNamed 3 (some .boolean) rm5_checkNamed) {z : Int32 × Mem} {w : Mem} (h : fn5_checkNamed_126 w = some z) : BW M G shX 71 3 (ZR M G shX 71 (some .boolean) z) 126 [(0, .ref (gad G 55))] [] w := by
  rw [fn5_checkNamed_126] at h
  refine bw_aload_n C 0 dX5_checkNamed_126 rfl rfl ?_
  refine bw_bipush C (v := 6) dX5_checkNamed_127 (by decide) ?_
  refine bw_aload_n C 0 dX5_checkNamed_129 rfl rfl ?_
  refine bw_getr C (j := 4) (t := 53) lX55 sX55 rfl inlX5 (by decide) rfl flX5_18 dX5_checkNamed_130 ?_
  refine bw_geti C (j := 1) lX53 sX53 rfl inlX4 (by decide) rfl flX5_45 dX5_checkNamed_133 ?_
  refine bw_callVi C (As := [.int 6, .int (w 53 1)]) lX55 sX55 rfl miX5_fail mlX5_74 imX5_fail seX5_fail (by decide) rfl rfl (fun z1 h1 => mt5_fail h1) rfl (Nat.le_of_ble_eq_true rfl) rfl dX5_checkNamed_136 h (fun q136 _ h => ?_)
  exact bw_zret C dX5_checkNamed_139 h
def fn5_checkNamed_77 (k : Int32 → Mem → Option (Int32 × Mem)) : Nat → Int32 → Mem → Option (Int32 × Mem)
  | 0, _, _ => none
  | nn + 1, x1, w => (if (w 12 9) ≤ x1 then k x1 w else (if ib x1 10 = true then (fn6_hasOne 12 (w 21 x1.toNatClampNeg) w).bind (fun q101 => (if q101.1 = 0 then fn5_checkNamed_126 q101.2 else (if ib x1 10 = true then (fn6_hasOne 12 (q101.2 22 x1.toNatClampNeg) q101.2).bind (fun q120 => (if ¬ q120.1 = 0 then fn5_checkNamed_77 k nn (x1 + 1) q120.2 else fn5_checkNamed_126 q120.2)) else none))) else none))
set_option maxRecDepth 20000 in
theorem bk5_checkNamed_77 {M : MX} {G : GX} (C : BC M G shX 71 (eX G) RX5 cX5_checkNamed 3 (some .boolean) rm5_checkNamed) {z : Int32 × Mem} {k : Int32 → Mem → Option (Int32 × Mem)} (hk : ∀ (x1 : Int32) (w : Mem), k x1 w = some z → BW M G shX 71 3 (ZR M G shX 71 (some .boolean) z) 146 [] [] w) : ∀ (nn : Nat) (x1 : Int32) (w : Mem), fn5_checkNamed_77 k nn x1 w = some z → BW M G shX 71 3 (ZR M G shX 71 (some .boolean) z) 77 [(0, .ref (gad G 55)), (1, .int x1)] [] w := by
  intro nn
  induction nn with
  | zero =>
    intro x1 w h
    have h : (none : Option (Int32 × Mem)) = some z := h
    cases h
  | succ nn ih =>
    intro x1 w h
    rw [fn5_checkNamed_77] at h
    refine bw_iload_n C 1 dX5_checkNamed_77 rfl rfl ?_
    refine bw_aload_n C 0 dX5_checkNamed_78 rfl rfl ?_
    refine bw_getr C (j := 0) (t := 12) lX55 sX55 rfl inlX5 (by decide) rfl flX5_12 dX5_checkNamed_79 ?_
    refine bw_geti C (j := 9) lX12 sX12 rfl inlX6 (by decide) rfl flX5_187 dX5_checkNamed_82 ?_
    refine bw_icmp_ge C (tgt := 146) dX5_checkNamed_85 (by decide) h (fun h => ?_) (fun h => ?_)
    · exact bw_sub [] rfl (hk x1 w h)
    · refine bw_aload_n C 0 dX5_checkNamed_88 rfl rfl ?_
      refine bw_getr C (j := 0) (t := 12) lX55 sX55 rfl inlX5 (by decide) rfl flX5_12 dX5_checkNamed_89 ?_
      refine bw_aload_n C 0 dX5_checkNamed_92 rfl rfl ?_
      refine bw_getr C (j := 0) (t := 12) lX55 sX55 rfl inlX5 (by decide) rfl flX5_12 dX5_checkNamed_93 ?_
      refine bw_getr C (j := 11) (t := 21) lX12 sX12 rfl inlX6 (by decide) rfl flX5_200 dX5_checkNamed_96 ?_
      refine bw_iload_n C 1 dX5_checkNamed_99 rfl rfl ?_
      refine bw_iald C lX21 sX21 dX5_checkNamed_100 h (fun h => ?_)
      refine bw_callVi C (As := [.int (w 21 x1.toNatClampNeg)]) lX12 sX12 rfl miX6_hasOne mlX5_197 imX6_hasOne seX6_hasOne (by decide) rfl rfl (fun z1 h1 => mt6_hasOne isT_12 h1) rfl (Nat.le_of_ble_eq_true rfl) rfl dX5_checkNamed_101 h (fun q101 _ h => ?_)
      refine bw_if_eq C (tgt := 126) dX5_checkNamed_104 (by decide) h (fun h => ?_) (fun h => ?_)
      · exact bw_sub [0] rfl (bk5_checkNamed_126 C h)
      · refine bw_aload_n C 0 dX5_checkNamed_107 rfl rfl ?_
        refine bw_getr C (j := 0) (t := 12) lX55 sX55 rfl inlX5 (by decide) rfl flX5_12 dX5_checkNamed_108 ?_
        refine bw_aload_n C 0 dX5_checkNamed_111 rfl rfl ?_
        refine bw_getr C (j := 0) (t := 12) lX55 sX55 rfl inlX5 (by decide) rfl flX5_12 dX5_checkNamed_112 ?_
        refine bw_getr C (j := 12) (t := 22) lX12 sX12 rfl inlX6 (by decide) rfl flX5_203 dX5_checkNamed_115 ?_
        refine bw_iload_n C 1 dX5_checkNamed_118 rfl rfl ?_
        refine bw_iald C lX22 sX22 dX5_checkNamed_119 h (fun h => ?_)
        refine bw_callVi C (As := [.int (q101.2 22 x1.toNatClampNeg)]) lX12 sX12 rfl miX6_hasOne mlX5_197 imX6_hasOne seX6_hasOne (by decide) rfl rfl (fun z1 h1 => mt6_hasOne isT_12 h1) rfl (Nat.le_of_ble_eq_true rfl) rfl dX5_checkNamed_120 h (fun q120 _ h => ?_)
        refine bw_if_ne C (tgt := 140) dX5_checkNamed_123 (by decide) h (fun h => ?_) (fun h => ?_)
        · refine bw_iinc C [(1, .int (x1 + 1)), (0, .ref (gad G 55))] 1 dX5_checkNamed_140 rfl rfl (by decide) rfl ?_
          refine bw_goto C (tgt := 77) dX5_checkNamed_143 (by decide) ?_
          exact bw_sub [1, 0] rfl (ih (x1 + 1) q120.2 h)
        · exact bw_sub [0] rfl (bk5_checkNamed_126 C h)
def fn5_checkNamed   (w : Mem) : Option (Int32 × Mem) := fn5_checkNamed_2 (fun x1_2 w_2 => fn5_checkNamed_77 (fun x1_77 w_77 => some (1, w_77)) 1000 0 w_2) 1000 0 w
set_option maxRecDepth 20000 in
theorem bk5_checkNamed {M : MX} {G : GX} (C : BC M G shX 71 (eX G) RX5 cX5_checkNamed 3 (some .boolean) rm5_checkNamed) {z : Int32 × Mem}    {w : Mem} (h : fn5_checkNamed   w = some z) : BW M G shX 71 3 (ZR M G shX 71 (some .boolean) z) 0 [(0, .ref (gad G 55))] [] w := by
  rw [fn5_checkNamed] at h
  refine bw_iconst C (v := 0) dX5_checkNamed_0 (by decide) ?_
  refine bw_istore_n C [(1, .int 0), (0, .ref (gad G 55))] dX5_checkNamed_1 rfl (by decide) rfl ?_
  refine bw_sub [1, 0] rfl (bk5_checkNamed_2 C (fun x1_2 w_2 h => ?_) 1000 0 w h)
  refine bw_iconst C (v := 0) dX5_checkNamed_75 (by decide) ?_
  refine bw_istore_n C [(1, .int 0), (0, .ref (gad G 55))] dX5_checkNamed_76 rfl (by decide) rfl ?_
  refine bw_sub [1, 0] rfl (bk5_checkNamed_77 C (fun x1_77 w_77 h => ?_) 1000 0 w_2 h)
  refine bw_iconst C (v := 1) dX5_checkNamed_146 (by decide) ?_
  exact bw_zretc C dX5_checkNamed_147 rfl h
theorem mt5_checkNamed {l : Launch} {G : GX}    {w : Mem} {z : Int32 × Mem} (h : fn5_checkNamed   w = some z) : MC l G shX 71 (eX G) yX5_checkNamed cX5_checkNamed 3 (some .boolean) rm5_checkNamed [.ref (gad G 55)] w z := by
  refine met_of (by decide +kernel) (eX_ok G) rfl (Nat.le_of_ble_eq_true rfl) (fun M hM C => ?_)
  subst hM
  exact bk5_checkNamed C   h
def rm5_isName : Room := { frames := 4, cells := 0, slots := 0, locals := 111 }
def fn5_isName_28 (cs : Nat) (k : Int32 → Mem → Option (Int32 × Mem)) : Nat → Int32 → Mem → Option (Int32 × Mem)
  | 0, _, _ => none
  | nn + 1, x2, w => (fnS_length cs w).bind (fun q30 => (if q30.1 ≤ x2 then k x2 q30.2 else (if (q30.2 53 1) ≤ ((q30.2 55 8) + x2) then k x2 q30.2 else (if ib ((q30.2 55 8) + x2) 320 = true then (fnS_charAt cs x2 q30.2).bind (fun q68 => (if (q30.2 54 ((q30.2 55 8) + x2).toNatClampNeg) = q68.1 then fn5_isName_28 cs k nn (x2 + 1) q68.2 else some (0, q68.2))) else none))))
set_option maxRecDepth 20000 in
theorem bk5_isName_28 {M : MX} {G : GX} (C : BC M G shX 71 (eX G) RX5 cX5_isName 3 (some .boolean) rm5_isName) {z : Int32 × Mem} {cs : Nat} (hcs : cs < 12) {k : Int32 → Mem → Option (Int32 × Mem)} (hk : ∀ (x2 : Int32) (w : Mem), k x2 w = some z → BW M G shX 71 3 (ZR M G shX 71 (some .boolean) z) 82 [] [] w) : ∀ (nn : Nat) (x2 : Int32) (w : Mem), fn5_isName_28 cs k nn x2 w = some z → BW M G shX 71 3 (ZR M G shX 71 (some .boolean) z) 28 [(0, .ref (gad G 55)), (1, .ref (gaK G cs)), (2, .int x2)] [] w := by
  intro nn
  induction nn with
  | zero =>
    intro x2 w h
    have h : (none : Option (Int32 × Mem)) = some z := h
    cases h
  | succ nn ih =>
    intro x2 w h
    rw [fn5_isName_28] at h
    refine bw_iload_n C 2 dX5_isName_28 rfl rfl ?_
    refine bw_aload_n C 1 dX5_isName_29 rfl rfl ?_
    refine bw_slen C mlX5_78 hcs (by decide) (Nat.le_of_ble_eq_true rfl) dX5_isName_30 h (fun q30 _ h => ?_)
    refine bw_icmp_ge C (tgt := 82) dX5_isName_33 (by decide) h (fun h => ?_) (fun h => ?_)
    · exact bw_sub [] rfl (hk x2 q30.2 h)
    · refine bw_aload_n C 0 dX5_isName_36 rfl rfl ?_
      refine bw_geti C (j := 8) lX55 sX55 rfl inlX5 (by decide) rfl flX5_63 dX5_isName_37 ?_
      refine bw_iload_n C 2 dX5_isName_40 rfl rfl ?_
      refine bw_iadd C dX5_isName_41 ?_
      refine bw_aload_n C 0 dX5_isName_42 rfl rfl ?_
      refine bw_getr C (j := 4) (t := 53) lX55 sX55 rfl inlX5 (by decide) rfl flX5_18 dX5_isName_43 ?_
      refine bw_geti C (j := 1) lX53 sX53 rfl inlX4 (by decide) rfl flX5_45 dX5_isName_46 ?_
      refine bw_icmp_ge C (tgt := 82) dX5_isName_49 (by decide) h (fun h => ?_) (fun h => ?_)
      · exact bw_sub [] rfl (hk x2 q30.2 h)
      · refine bw_aload_n C 0 dX5_isName_52 rfl rfl ?_
        refine bw_getr C (j := 4) (t := 53) lX55 sX55 rfl inlX5 (by decide) rfl flX5_18 dX5_isName_53 ?_
        refine bw_getr C (j := 0) (t := 54) lX53 sX53 rfl inlX4 (by decide) rfl flX5_66 dX5_isName_56 ?_
        refine bw_aload_n C 0 dX5_isName_59 rfl rfl ?_
        refine bw_geti C (j := 8) lX55 sX55 rfl inlX5 (by decide) rfl flX5_63 dX5_isName_60 ?_
        refine bw_iload_n C 2 dX5_isName_63 rfl rfl ?_
        refine bw_iadd C dX5_isName_64 ?_
        refine bw_bald C lX54 sX54 dX5_isName_65 h (fun h => ?_)
        refine bw_aload_n C 1 dX5_isName_66 rfl rfl ?_
        refine bw_iload_n C 2 dX5_isName_67 rfl rfl ?_
        refine bw_schr C mlX5_83 hcs (by decide) (Nat.le_of_ble_eq_true rfl) dX5_isName_68 h (fun q68 _ h => ?_)
        refine bw_icmp_eq C (tgt := 76) dX5_isName_71 (by decide) h (fun h => ?_) (fun h => ?_)
        · refine bw_iinc C [(2, .int (x2 + 1)), (0, .ref (gad G 55)), (1, .ref (gaK G cs))] 2 dX5_isName_76 rfl rfl (by decide) rfl ?_
          refine bw_goto C (tgt := 28) dX5_isName_79 (by decide) ?_
          exact bw_sub [1, 2, 0] rfl (ih (x2 + 1) q68.2 h)
        · refine bw_iconst C (v := 0) dX5_isName_74 (by decide) ?_
          exact bw_zretc C dX5_isName_75 rfl h
def fn5_isName (cs : Nat)  (w : Mem) : Option (Int32 × Mem) := (if ¬ (w 55 7) = 1 then some (0, w) else (fnS_length cs w).bind (fun q18 => (if ((w 55 9) - (w 55 8)) = q18.1 then fn5_isName_28 cs (fun x2_28 w_28 => some (1, w_28)) 1000 0 q18.2 else some (0, q18.2))))
set_option maxRecDepth 20000 in
theorem bk5_isName {M : MX} {G : GX} (C : BC M G shX 71 (eX G) RX5 cX5_isName 3 (some .boolean) rm5_isName) {z : Int32 × Mem} {cs : Nat} (hcs : cs < 12)  {w : Mem} (h : fn5_isName cs  w = some z) : BW M G shX 71 3 (ZR M G shX 71 (some .boolean) z) 0 [(0, .ref (gad G 55)), (1, .ref (gaK G cs))] [] w := by
  rw [fn5_isName] at h
  refine bw_aload_n C 0 dX5_isName_0 rfl rfl ?_
  refine bw_geti C (j := 7) lX55 sX55 rfl inlX5 (by decide) rfl flX5_54 dX5_isName_1 ?_
  refine bw_iconst C (v := 1) dX5_isName_4 (by decide) ?_
  refine bw_icmp_ne C (tgt := 24) dX5_isName_5 (by decide) h (fun h => ?_) (fun h => ?_)
  · refine bw_iconst C (v := 0) dX5_isName_24 (by decide) ?_
    exact bw_zretc C dX5_isName_25 rfl h
  · refine bw_aload_n C 0 dX5_isName_8 rfl rfl ?_
    refine bw_geti C (j := 9) lX55 sX55 rfl inlX5 (by decide) rfl flX5_42 dX5_isName_9 ?_
    refine bw_aload_n C 0 dX5_isName_12 rfl rfl ?_
    refine bw_geti C (j := 8) lX55 sX55 rfl inlX5 (by decide) rfl flX5_63 dX5_isName_13 ?_
    refine bw_isub C dX5_isName_16 ?_
    refine bw_aload_n C 1 dX5_isName_17 rfl rfl ?_
    refine bw_slen C mlX5_78 hcs (by decide) (Nat.le_of_ble_eq_true rfl) dX5_isName_18 h (fun q18 _ h => ?_)
    refine bw_icmp_eq C (tgt := 26) dX5_isName_21 (by decide) h (fun h => ?_) (fun h => ?_)
    · refine bw_iconst C (v := 0) dX5_isName_26 (by decide) ?_
      refine bw_istore_n C [(2, .int 0), (0, .ref (gad G 55)), (1, .ref (gaK G cs))] dX5_isName_27 rfl (by decide) rfl ?_
      refine bw_sub [1, 2, 0] rfl (bk5_isName_28 C hcs (fun x2_28 w_28 h => ?_) 1000 0 q18.2 h)
      refine bw_iconst C (v := 1) dX5_isName_82 (by decide) ?_
      exact bw_zretc C dX5_isName_83 rfl h
    · refine bw_iconst C (v := 0) dX5_isName_24 (by decide) ?_
      exact bw_zretc C dX5_isName_25 rfl h
theorem mt5_isName {l : Launch} {G : GX} {cs : Nat} (hcs : cs < 12)  {w : Mem} {z : Int32 × Mem} (h : fn5_isName cs  w = some z) : MC l G shX 71 (eX G) yX5_isName cX5_isName 3 (some .boolean) rm5_isName [.ref (gad G 55), .ref (gaK G cs)] w z := by
  refine met_of (by decide +kernel) (eX_ok G) rfl (Nat.le_of_ble_eq_true rfl) (fun M hM C => ?_)
  subst hM
  exact bk5_isName C hcs  h
def rm5_readNumber : Room := { frames := 2, cells := 0, slots := 0, locals := 44 }
def fn5_readNumber_37 (x1 : Int32) (x2 : Int32) (k : Int32 → Mem → Option (Int32 × Mem)) : Nat → Int32 → Mem → Option (Int32 × Mem)
  | 0, _, _ => none
  | nn + 1, x3, w => (if (w 55 9) ≤ x3 then k x3 w else (if ib x3 320 = true then fn5_readNumber_37 x1 x2 k nn (x3 + 1) (up2 w 55 10 ((((w 55 10) * 10) + (w 54 x3.toNatClampNeg)) - 48)) else none))
set_option maxRecDepth 20000 in
theorem bk5_readNumber_37 {M : MX} {G : GX} (C : BC M G shX 71 (eX G) RX5 cX5_readNumber 4 (some .boolean) rm5_readNumber) {z : Int32 × Mem} (x1 : Int32) (x2 : Int32) {k : Int32 → Mem → Option (Int32 × Mem)} (hk : ∀ (x3 : Int32) (w : Mem), k x3 w = some z → BW M G shX 71 4 (ZR M G shX 71 (some .boolean) z) 75 [(0, .ref (gad G 55)), (1, .int x1), (2, .int x2)] [] w) : ∀ (nn : Nat) (x3 : Int32) (w : Mem), fn5_readNumber_37 x1 x2 k nn x3 w = some z → BW M G shX 71 4 (ZR M G shX 71 (some .boolean) z) 37 [(0, .ref (gad G 55)), (1, .int x1), (2, .int x2), (3, .int x3)] [] w := by
  intro nn
  induction nn with
  | zero =>
    intro x3 w h
    have h : (none : Option (Int32 × Mem)) = some z := h
    cases h
  | succ nn ih =>
    intro x3 w h
    rw [fn5_readNumber_37] at h
    refine bw_iload_n C 3 dX5_readNumber_37 rfl rfl ?_
    refine bw_aload_n C 0 dX5_readNumber_38 rfl rfl ?_
    refine bw_geti C (j := 9) lX55 sX55 rfl inlX5 (by decide) rfl flX5_42 dX5_readNumber_39 ?_
    refine bw_icmp_ge C (tgt := 75) dX5_readNumber_42 (by decide) h (fun h => ?_) (fun h => ?_)
    · exact bw_sub [0, 1, 2] rfl (hk x3 w h)
    · refine bw_aload_n C 0 dX5_readNumber_45 rfl rfl ?_
      refine bw_aload_n C 0 dX5_readNumber_46 rfl rfl ?_
      refine bw_geti C (j := 10) lX55 sX55 rfl inlX5 (by decide) rfl flX5_87 dX5_readNumber_47 ?_
      refine bw_bipush C (v := 10) dX5_readNumber_50 (by decide) ?_
      refine bw_imul C dX5_readNumber_52 ?_
      refine bw_aload_n C 0 dX5_readNumber_53 rfl rfl ?_
      refine bw_getr C (j := 4) (t := 53) lX55 sX55 rfl inlX5 (by decide) rfl flX5_18 dX5_readNumber_54 ?_
      refine bw_getr C (j := 0) (t := 54) lX53 sX53 rfl inlX4 (by decide) rfl flX5_66 dX5_readNumber_57 ?_
      refine bw_iload_n C 3 dX5_readNumber_60 rfl rfl ?_
      refine bw_bald C lX54 sX54 dX5_readNumber_61 h (fun h => ?_)
      refine bw_iadd C dX5_readNumber_62 ?_
      refine bw_bipush C (v := 48) dX5_readNumber_63 (by decide) ?_
      refine bw_isub C dX5_readNumber_65 ?_
      refine bw_puti C (j := 10) (ty := .int) lX55 sX55 rfl inlX5 (by decide) tyX5 tyX5_ok nmX5 rfl flX5_87 rfl (by decide +kernel) rfl rfl dX5_readNumber_66 ?_
      refine bw_iinc C [(3, .int (x3 + 1)), (0, .ref (gad G 55)), (1, .int x1), (2, .int x2)] 3 dX5_readNumber_69 rfl rfl (by decide) rfl ?_
      refine bw_goto C (tgt := 37) dX5_readNumber_72 (by decide) ?_
      exact bw_sub [1, 2, 3, 0] rfl (ih (x3 + 1) (up2 w 55 10 ((((w 55 10) * 10) + (w 54 x3.toNatClampNeg)) - 48)) h)
def fn5_readNumber_103 (w : Mem) : Option (Int32 × Mem) := some (1, w)
set_option maxRecDepth 20000 in
theorem bk5_readNumber_103 {M : MX} {G : GX} (C : BC M G shX 71 (eX G) RX5 cX5_readNumber 4 (some .boolean) rm5_readNumber) {z : Int32 × Mem} {w : Mem} (h : fn5_readNumber_103 w = some z) : BW M G shX 71 4 (ZR M G shX 71 (some .boolean) z) 103 [] [] w := by
  rw [fn5_readNumber_103] at h
  refine bw_iconst C (v := 1) dX5_readNumber_103 (by decide) ?_
  refine bw_goto C (tgt := 108) dX5_readNumber_104 (by decide) ?_
  exact bw_zretc C dX5_readNumber_108 rfl h
def fn5_readNumber_91 (w : Mem) : Option (Int32 × Mem) := (fn5_fail 3 (w 55 8) w).bind (fun q97 => (if q97.1 = 0 then some (0, q97.2) else fn5_readNumber_103 q97.2))
set_option maxRecDepth 20000 in
theorem bk5_readNumber_91 {M : MX} {G : GX} (C : BC M G shX 71 (eX G) RX5 cX5_readNumber 4 (some .boolean) rm5_readNumber) {z : Int32 × Mem} {w : Mem} (h : fn5_readNumber_91 w = some z) : BW M G shX 71 4 (ZR M G shX 71 (some .boolean) z) 91 [(0, .ref (gad G 55))] [] w := by
  rw [fn5_readNumber_91] at h
  refine bw_aload_n C 0 dX5_readNumber_91 rfl rfl ?_
  refine bw_iconst C (v := 3) dX5_readNumber_92 (by decide) ?_
  refine bw_aload_n C 0 dX5_readNumber_93 rfl rfl ?_
  refine bw_geti C (j := 8) lX55 sX55 rfl inlX5 (by decide) rfl flX5_63 dX5_readNumber_94 ?_
  refine bw_callVi C (As := [.int 3, .int (w 55 8)]) lX55 sX55 rfl miX5_fail mlX5_74 imX5_fail seX5_fail (by decide) rfl rfl (fun z1 h1 => mt5_fail h1) rfl (Nat.le_of_ble_eq_true rfl) rfl dX5_readNumber_97 h (fun q97 _ h => ?_)
  refine bw_if_eq C (tgt := 107) dX5_readNumber_100 (by decide) h (fun h => ?_) (fun h => ?_)
  · refine bw_iconst C (v := 0) dX5_readNumber_107 (by decide) ?_
    exact bw_zretc C dX5_readNumber_108 rfl h
  · exact bw_sub [] rfl (bk5_readNumber_103 C h)
def fn5_readNumber  (x1 : Int32) (x2 : Int32) (w : Mem) : Option (Int32 × Mem) := (fn5_readToken w).bind (fun q1 => (if ¬ q1.1 = 0 then (if (q1.2 55 7) = 2 then fn5_readNumber_37 x1 x2 (fun x3_37 w_37 => (if (w_37 55 10) < x1 then fn5_readNumber_91 w_37 else (if (w_37 55 10) ≤ x2 then fn5_readNumber_103 w_37 else fn5_readNumber_91 w_37))) 1000 ((up2 q1.2 55 10 0) 55 8) (up2 q1.2 55 10 0) else (fn5_fail 2 (q1.2 55 8) q1.2).bind (fun q23 => (if isb q23.1 = true then some (q23.1, q23.2) else none))) else some (0, q1.2)))
set_option maxRecDepth 20000 in
theorem bk5_readNumber {M : MX} {G : GX} (C : BC M G shX 71 (eX G) RX5 cX5_readNumber 4 (some .boolean) rm5_readNumber) {z : Int32 × Mem}   (x1 : Int32) (x2 : Int32) {w : Mem} (h : fn5_readNumber  x1 x2 w = some z) : BW M G shX 71 4 (ZR M G shX 71 (some .boolean) z) 0 [(0, .ref (gad G 55)), (1, .int x1), (2, .int x2)] [] w := by
  rw [fn5_readNumber] at h
  refine bw_aload_n C 0 dX5_readNumber_0 rfl rfl ?_
  refine bw_callVi C (As := []) lX55 sX55 rfl miX5_readToken mlX5_50 imX5_readToken seX5_readToken (by decide) rfl rfl (fun z1 h1 => mt5_readToken h1) rfl (Nat.le_of_ble_eq_true rfl) rfl dX5_readNumber_1 h (fun q1 _ h => ?_)
  refine bw_if_ne C (tgt := 9) dX5_readNumber_4 (by decide) h (fun h => ?_) (fun h => ?_)
  · refine bw_aload_n C 0 dX5_readNumber_9 rfl rfl ?_
    refine bw_geti C (j := 7) lX55 sX55 rfl inlX5 (by decide) rfl flX5_54 dX5_readNumber_10 ?_
    refine bw_iconst C (v := 2) dX5_readNumber_13 (by decide) ?_
    refine bw_icmp_eq C (tgt := 27) dX5_readNumber_14 (by decide) h (fun h => ?_) (fun h => ?_)
    · refine bw_aload_n C 0 dX5_readNumber_27 rfl rfl ?_
      refine bw_iconst C (v := 0) dX5_readNumber_28 (by decide) ?_
      refine bw_puti C (j := 10) (ty := .int) lX55 sX55 rfl inlX5 (by decide) tyX5 tyX5_ok nmX5 rfl flX5_87 rfl (by decide +kernel) rfl rfl dX5_readNumber_29 ?_
      refine bw_aload_n C 0 dX5_readNumber_32 rfl rfl ?_
      refine bw_geti C (j := 8) lX55 sX55 rfl inlX5 (by decide) rfl flX5_63 dX5_readNumber_33 ?_
      refine bw_istore_n C [(3, .int ((up2 q1.2 55 10 0) 55 8)), (0, .ref (gad G 55)), (1, .int x1), (2, .int x2)] dX5_readNumber_36 rfl (by decide) rfl ?_
      refine bw_sub [1, 2, 3, 0] rfl (bk5_readNumber_37 C x1 x2 (fun x3_37 w_37 h => ?_) 1000 ((up2 q1.2 55 10 0) 55 8) (up2 q1.2 55 10 0) h)
      refine bw_aload_n C 0 dX5_readNumber_75 rfl rfl ?_
      refine bw_geti C (j := 10) lX55 sX55 rfl inlX5 (by decide) rfl flX5_87 dX5_readNumber_76 ?_
      refine bw_iload_n C 1 dX5_readNumber_79 rfl rfl ?_
      refine bw_icmp_lt C (tgt := 91) dX5_readNumber_80 (by decide) h (fun h => ?_) (fun h => ?_)
      · exact bw_sub [0] rfl (bk5_readNumber_91 C h)
      · refine bw_aload_n C 0 dX5_readNumber_83 rfl rfl ?_
        refine bw_geti C (j := 10) lX55 sX55 rfl inlX5 (by decide) rfl flX5_87 dX5_readNumber_84 ?_
        refine bw_iload_n C 2 dX5_readNumber_87 rfl rfl ?_
        refine bw_icmp_le C (tgt := 103) dX5_readNumber_88 (by decide) h (fun h => ?_) (fun h => ?_)
        · exact bw_sub [] rfl (bk5_readNumber_103 C h)
        · exact bw_sub [0] rfl (bk5_readNumber_91 C h)
    · refine bw_aload_n C 0 dX5_readNumber_17 rfl rfl ?_
      refine bw_iconst C (v := 2) dX5_readNumber_18 (by decide) ?_
      refine bw_aload_n C 0 dX5_readNumber_19 rfl rfl ?_
      refine bw_geti C (j := 8) lX55 sX55 rfl inlX5 (by decide) rfl flX5_63 dX5_readNumber_20 ?_
      refine bw_callVi C (As := [.int 2, .int (q1.2 55 8)]) lX55 sX55 rfl miX5_fail mlX5_74 imX5_fail seX5_fail (by decide) rfl rfl (fun z1 h1 => mt5_fail h1) rfl (Nat.le_of_ble_eq_true rfl) rfl dX5_readNumber_23 h (fun q23 _ h => ?_)
      exact bw_zret C dX5_readNumber_26 h
  · refine bw_iconst C (v := 0) dX5_readNumber_7 (by decide) ?_
    exact bw_zretc C dX5_readNumber_8 rfl h
theorem mt5_readNumber {l : Launch} {G : GX}   {x1 : Int32} {x2 : Int32} {w : Mem} {z : Int32 × Mem} (h : fn5_readNumber  x1 x2 w = some z) : MC l G shX 71 (eX G) yX5_readNumber cX5_readNumber 4 (some .boolean) rm5_readNumber [.ref (gad G 55), .int x1, .int x2] w z := by
  refine met_of (by decide +kernel) (eX_ok G) rfl (Nat.le_of_ble_eq_true rfl) (fun M hM C => ?_)
  subst hM
  exact bk5_readNumber C  x1 x2 h
def rm5_checkStop : Room := { frames := 1, cells := 0, slots := 0, locals := 22 }
def fn5_checkStop_20 (w : Mem) : Option (Int32 × Mem) := some (1, w)
set_option maxRecDepth 20000 in
theorem bk5_checkStop_20 {M : MX} {G : GX} (C : BC M G shX 71 (eX G) RX5 cX5_checkStop 1 (some .boolean) rm5_checkStop) {z : Int32 × Mem} {w : Mem} (h : fn5_checkStop_20 w = some z) : BW M G shX 71 1 (ZR M G shX 71 (some .boolean) z) 20 [] [] w := by
  rw [fn5_checkStop_20] at h
  refine bw_iconst C (v := 1) dX5_checkStop_20 (by decide) ?_
  refine bw_goto C (tgt := 25) dX5_checkStop_21 (by decide) ?_
  exact bw_zretc C dX5_checkStop_25 rfl h
def fn5_checkStop   (w : Mem) : Option (Int32 × Mem) := (if (w 55 7) = 3 then fn5_checkStop_20 w else (fn5_fail 2 (w 55 8) w).bind (fun q14 => (if q14.1 = 0 then some (0, q14.2) else fn5_checkStop_20 q14.2)))
set_option maxRecDepth 20000 in
theorem bk5_checkStop {M : MX} {G : GX} (C : BC M G shX 71 (eX G) RX5 cX5_checkStop 1 (some .boolean) rm5_checkStop) {z : Int32 × Mem}    {w : Mem} (h : fn5_checkStop   w = some z) : BW M G shX 71 1 (ZR M G shX 71 (some .boolean) z) 0 [(0, .ref (gad G 55))] [] w := by
  rw [fn5_checkStop] at h
  refine bw_aload_n C 0 dX5_checkStop_0 rfl rfl ?_
  refine bw_geti C (j := 7) lX55 sX55 rfl inlX5 (by decide) rfl flX5_54 dX5_checkStop_1 ?_
  refine bw_iconst C (v := 3) dX5_checkStop_4 (by decide) ?_
  refine bw_icmp_eq C (tgt := 20) dX5_checkStop_5 (by decide) h (fun h => ?_) (fun h => ?_)
  · exact bw_sub [] rfl (bk5_checkStop_20 C h)
  · refine bw_aload_n C 0 dX5_checkStop_8 rfl rfl ?_
    refine bw_iconst C (v := 2) dX5_checkStop_9 (by decide) ?_
    refine bw_aload_n C 0 dX5_checkStop_10 rfl rfl ?_
    refine bw_geti C (j := 8) lX55 sX55 rfl inlX5 (by decide) rfl flX5_63 dX5_checkStop_11 ?_
    refine bw_callVi C (As := [.int 2, .int (w 55 8)]) lX55 sX55 rfl miX5_fail mlX5_74 imX5_fail seX5_fail (by decide) rfl rfl (fun z1 h1 => mt5_fail h1) rfl (Nat.le_of_ble_eq_true rfl) rfl dX5_checkStop_14 h (fun q14 _ h => ?_)
    refine bw_if_eq C (tgt := 24) dX5_checkStop_17 (by decide) h (fun h => ?_) (fun h => ?_)
    · refine bw_iconst C (v := 0) dX5_checkStop_24 (by decide) ?_
      exact bw_zretc C dX5_checkStop_25 rfl h
    · exact bw_sub [] rfl (bk5_checkStop_20 C h)
theorem mt5_checkStop {l : Launch} {G : GX}    {w : Mem} {z : Int32 × Mem} (h : fn5_checkStop   w = some z) : MC l G shX 71 (eX G) yX5_checkStop cX5_checkStop 1 (some .boolean) rm5_checkStop [.ref (gad G 55)] w z := by
  refine met_of (by decide +kernel) (eX_ok G) rfl (Nat.le_of_ble_eq_true rfl) (fun M hM C => ?_)
  subst hM
  exact bk5_checkStop C   h
def rm5_readStop : Room := { frames := 2, cells := 0, slots := 0, locals := 44 }
def fn5_readStop   (w : Mem) : Option (Int32 × Mem) := (fn5_readToken w).bind (fun q1 => (if q1.1 = 0 then some (0, q1.2) else (fn5_checkStop q1.2).bind (fun q8 => (if q8.1 = 0 then some (0, q8.2) else some (1, q8.2)))))
set_option maxRecDepth 20000 in
theorem bk5_readStop {M : MX} {G : GX} (C : BC M G shX 71 (eX G) RX5 cX5_readStop 1 (some .boolean) rm5_readStop) {z : Int32 × Mem}    {w : Mem} (h : fn5_readStop   w = some z) : BW M G shX 71 1 (ZR M G shX 71 (some .boolean) z) 0 [(0, .ref (gad G 55))] [] w := by
  rw [fn5_readStop] at h
  refine bw_aload_n C 0 dX5_readStop_0 rfl rfl ?_
  refine bw_callVi C (As := []) lX55 sX55 rfl miX5_readToken mlX5_50 imX5_readToken seX5_readToken (by decide) rfl rfl (fun z1 h1 => mt5_readToken h1) rfl (Nat.le_of_ble_eq_true rfl) rfl dX5_readStop_1 h (fun q1 _ h => ?_)
  refine bw_if_eq C (tgt := 18) dX5_readStop_4 (by decide) h (fun h => ?_) (fun h => ?_)
  · refine bw_iconst C (v := 0) dX5_readStop_18 (by decide) ?_
    exact bw_zretc C dX5_readStop_19 rfl h
  · refine bw_aload_n C 0 dX5_readStop_7 rfl rfl ?_
    refine bw_callVi C (As := []) lX55 sX55 rfl miX5_checkStop mlX5_90 imX5_checkStop seX5_checkStop (by decide) rfl rfl (fun z1 h1 => mt5_checkStop h1) rfl (Nat.le_of_ble_eq_true rfl) rfl dX5_readStop_8 h (fun q8 _ h => ?_)
    refine bw_if_eq C (tgt := 18) dX5_readStop_11 (by decide) h (fun h => ?_) (fun h => ?_)
    · refine bw_iconst C (v := 0) dX5_readStop_18 (by decide) ?_
      exact bw_zretc C dX5_readStop_19 rfl h
    · refine bw_iconst C (v := 1) dX5_readStop_14 (by decide) ?_
      refine bw_goto C (tgt := 19) dX5_readStop_15 (by decide) ?_
      exact bw_zretc C dX5_readStop_19 rfl h
theorem mt5_readStop {l : Launch} {G : GX}    {w : Mem} {z : Int32 × Mem} (h : fn5_readStop   w = some z) : MC l G shX 71 (eX G) yX5_readStop cX5_readStop 1 (some .boolean) rm5_readStop [.ref (gad G 55)] w z := by
  refine met_of (by decide +kernel) (eX_ok G) rfl (Nat.le_of_ble_eq_true rfl) (fun M hM C => ?_)
  subst hM
  exact bk5_readStop C   h
def rm5_readLaw : Room := { frames := 3, cells := 0, slots := 0, locals := 67 }
def fn5_readLaw   (w : Mem) : Option (Int32 × Mem) := (if (w 55 5) = 0 then (fn5_readNumber 0 2 (up2 w 55 5 1)).bind (fun q25 => (if ¬ q25.1 = 0 then (fn5_readStop (up2 q25.2 12 13 (q25.2 55 10))).bind (fun q45 => (if isb q45.1 = true then some (q45.1, q45.2) else none)) else some (0, q25.2))) else (fn5_fail 4 (w 55 8) w).bind (fun q13 => (if isb q13.1 = true then some (q13.1, q13.2) else none)))
set_option maxRecDepth 20000 in
theorem bk5_readLaw {M : MX} {G : GX} (C : BC M G shX 71 (eX G) RX5 cX5_readLaw 1 (some .boolean) rm5_readLaw) {z : Int32 × Mem}    {w : Mem} (h : fn5_readLaw   w = some z) : BW M G shX 71 1 (ZR M G shX 71 (some .boolean) z) 0 [(0, .ref (gad G 55))] [] w := by
  rw [fn5_readLaw] at h
  refine bw_aload_n C 0 dX5_readLaw_0 rfl rfl ?_
  refine bw_geti C (j := 5) lX55 sX55 rfl inlX5 (by decide) rfl flX5_35 dX5_readLaw_1 ?_
  refine bw_if_eq C (tgt := 17) dX5_readLaw_4 (by decide) h (fun h => ?_) (fun h => ?_)
  · refine bw_aload_n C 0 dX5_readLaw_17 rfl rfl ?_
    refine bw_iconst C (v := 1) dX5_readLaw_18 (by decide) ?_
    refine bw_puti C (j := 5) (ty := .boolean) lX55 sX55 rfl inlX5 (by decide) tyX5 tyX5_ok nmX5 rfl flX5_35 rfl (by decide +kernel) rfl rfl dX5_readLaw_19 ?_
    refine bw_aload_n C 0 dX5_readLaw_22 rfl rfl ?_
    refine bw_iconst C (v := 0) dX5_readLaw_23 (by decide) ?_
    refine bw_iconst C (v := 2) dX5_readLaw_24 (by decide) ?_
    refine bw_callVi C (As := [.int 0, .int 2]) lX55 sX55 rfl miX5_readNumber mlX5_127 imX5_readNumber seX5_readNumber (by decide) rfl rfl (fun z1 h1 => mt5_readNumber h1) rfl (Nat.le_of_ble_eq_true rfl) rfl dX5_readLaw_25 h (fun q25 _ h => ?_)
    refine bw_if_ne C (tgt := 33) dX5_readLaw_28 (by decide) h (fun h => ?_) (fun h => ?_)
    · refine bw_aload_n C 0 dX5_readLaw_33 rfl rfl ?_
      refine bw_getr C (j := 0) (t := 12) lX55 sX55 rfl inlX5 (by decide) rfl flX5_12 dX5_readLaw_34 ?_
      refine bw_aload_n C 0 dX5_readLaw_37 rfl rfl ?_
      refine bw_geti C (j := 10) lX55 sX55 rfl inlX5 (by decide) rfl flX5_87 dX5_readLaw_38 ?_
      refine bw_puti C (j := 13) (ty := .int) lX12 sX12 rfl inlX6 (by decide) tyX6 tyX6_ok nmX6 rfl flX5_130 rfl (by decide +kernel) rfl rfl dX5_readLaw_41 ?_
      refine bw_aload_n C 0 dX5_readLaw_44 rfl rfl ?_
      refine bw_callVi C (As := []) lX55 sX55 rfl miX5_readStop mlX5_133 imX5_readStop seX5_readStop (by decide) rfl rfl (fun z1 h1 => mt5_readStop h1) rfl (Nat.le_of_ble_eq_true rfl) rfl dX5_readLaw_45 h (fun q45 _ h => ?_)
      exact bw_zret C dX5_readLaw_48 h
    · refine bw_iconst C (v := 0) dX5_readLaw_31 (by decide) ?_
      exact bw_zretc C dX5_readLaw_32 rfl h
  · refine bw_aload_n C 0 dX5_readLaw_7 rfl rfl ?_
    refine bw_iconst C (v := 4) dX5_readLaw_8 (by decide) ?_
    refine bw_aload_n C 0 dX5_readLaw_9 rfl rfl ?_
    refine bw_geti C (j := 8) lX55 sX55 rfl inlX5 (by decide) rfl flX5_63 dX5_readLaw_10 ?_
    refine bw_callVi C (As := [.int 4, .int (w 55 8)]) lX55 sX55 rfl miX5_fail mlX5_74 imX5_fail seX5_fail (by decide) rfl rfl (fun z1 h1 => mt5_fail h1) rfl (Nat.le_of_ble_eq_true rfl) rfl dX5_readLaw_13 h (fun q13 _ h => ?_)
    exact bw_zret C dX5_readLaw_16 h
theorem mt5_readLaw {l : Launch} {G : GX}    {w : Mem} {z : Int32 × Mem} (h : fn5_readLaw   w = some z) : MC l G shX 71 (eX G) yX5_readLaw cX5_readLaw 1 (some .boolean) rm5_readLaw [.ref (gad G 55)] w z := by
  refine met_of (by decide +kernel) (eX_ok G) rfl (Nat.le_of_ble_eq_true rfl) (fun M hM C => ?_)
  subst hM
  exact bk5_readLaw C   h
def rm5_readFee : Room := { frames := 3, cells := 0, slots := 0, locals := 67 }
def fn5_readFee   (w : Mem) : Option (Int32 × Mem) := (if (w 55 6) = 0 then (fn5_readNumber 0 9 (up2 w 55 6 1)).bind (fun q26 => (if ¬ q26.1 = 0 then (fn5_readStop (up2 q26.2 12 14 (q26.2 55 10))).bind (fun q46 => (if isb q46.1 = true then some (q46.1, q46.2) else none)) else some (0, q26.2))) else (fn5_fail 4 (w 55 8) w).bind (fun q13 => (if isb q13.1 = true then some (q13.1, q13.2) else none)))
set_option maxRecDepth 20000 in
theorem bk5_readFee {M : MX} {G : GX} (C : BC M G shX 71 (eX G) RX5 cX5_readFee 1 (some .boolean) rm5_readFee) {z : Int32 × Mem}    {w : Mem} (h : fn5_readFee   w = some z) : BW M G shX 71 1 (ZR M G shX 71 (some .boolean) z) 0 [(0, .ref (gad G 55))] [] w := by
  rw [fn5_readFee] at h
  refine bw_aload_n C 0 dX5_readFee_0 rfl rfl ?_
  refine bw_geti C (j := 6) lX55 sX55 rfl inlX5 (by decide) rfl flX5_39 dX5_readFee_1 ?_
  refine bw_if_eq C (tgt := 17) dX5_readFee_4 (by decide) h (fun h => ?_) (fun h => ?_)
  · refine bw_aload_n C 0 dX5_readFee_17 rfl rfl ?_
    refine bw_iconst C (v := 1) dX5_readFee_18 (by decide) ?_
    refine bw_puti C (j := 6) (ty := .boolean) lX55 sX55 rfl inlX5 (by decide) tyX5 tyX5_ok nmX5 rfl flX5_39 rfl (by decide +kernel) rfl rfl dX5_readFee_19 ?_
    refine bw_aload_n C 0 dX5_readFee_22 rfl rfl ?_
    refine bw_iconst C (v := 0) dX5_readFee_23 (by decide) ?_
    refine bw_bipush C (v := 9) dX5_readFee_24 (by decide) ?_
    refine bw_callVi C (As := [.int 0, .int 9]) lX55 sX55 rfl miX5_readNumber mlX5_127 imX5_readNumber seX5_readNumber (by decide) rfl rfl (fun z1 h1 => mt5_readNumber h1) rfl (Nat.le_of_ble_eq_true rfl) rfl dX5_readFee_26 h (fun q26 _ h => ?_)
    refine bw_if_ne C (tgt := 34) dX5_readFee_29 (by decide) h (fun h => ?_) (fun h => ?_)
    · refine bw_aload_n C 0 dX5_readFee_34 rfl rfl ?_
      refine bw_getr C (j := 0) (t := 12) lX55 sX55 rfl inlX5 (by decide) rfl flX5_12 dX5_readFee_35 ?_
      refine bw_aload_n C 0 dX5_readFee_38 rfl rfl ?_
      refine bw_geti C (j := 10) lX55 sX55 rfl inlX5 (by decide) rfl flX5_87 dX5_readFee_39 ?_
      refine bw_puti C (j := 14) (ty := .int) lX12 sX12 rfl inlX6 (by decide) tyX6 tyX6_ok nmX6 rfl flX5_136 rfl (by decide +kernel) rfl rfl dX5_readFee_42 ?_
      refine bw_aload_n C 0 dX5_readFee_45 rfl rfl ?_
      refine bw_callVi C (As := []) lX55 sX55 rfl miX5_readStop mlX5_133 imX5_readStop seX5_readStop (by decide) rfl rfl (fun z1 h1 => mt5_readStop h1) rfl (Nat.le_of_ble_eq_true rfl) rfl dX5_readFee_46 h (fun q46 _ h => ?_)
      exact bw_zret C dX5_readFee_49 h
    · refine bw_iconst C (v := 0) dX5_readFee_32 (by decide) ?_
      exact bw_zretc C dX5_readFee_33 rfl h
  · refine bw_aload_n C 0 dX5_readFee_7 rfl rfl ?_
    refine bw_iconst C (v := 4) dX5_readFee_8 (by decide) ?_
    refine bw_aload_n C 0 dX5_readFee_9 rfl rfl ?_
    refine bw_geti C (j := 8) lX55 sX55 rfl inlX5 (by decide) rfl flX5_63 dX5_readFee_10 ?_
    refine bw_callVi C (As := [.int 4, .int (w 55 8)]) lX55 sX55 rfl miX5_fail mlX5_74 imX5_fail seX5_fail (by decide) rfl rfl (fun z1 h1 => mt5_fail h1) rfl (Nat.le_of_ble_eq_true rfl) rfl dX5_readFee_13 h (fun q13 _ h => ?_)
    exact bw_zret C dX5_readFee_16 h
theorem mt5_readFee {l : Launch} {G : GX}    {w : Mem} {z : Int32 × Mem} (h : fn5_readFee   w = some z) : MC l G shX 71 (eX G) yX5_readFee cX5_readFee 1 (some .boolean) rm5_readFee [.ref (gad G 55)] w z := by
  refine met_of (by decide +kernel) (eX_ok G) rfl (Nat.le_of_ble_eq_true rfl) (fun M hM C => ?_)
  subst hM
  exact bk5_readFee C   h
def rm5_kindNamed : Room := { frames := 5, cells := 0, slots := 0, locals := 133 }
def fn5_kindNamed   (w : Mem) : Option (Int32 × Mem) := (fn5_isName 3 w).bind (fun q3 => (if q3.1 = 0 then (fn5_isName 4 q3.2).bind (fun q14 => (if q14.1 = 0 then (fn5_isName 5 q14.2).bind (fun q25 => (if q25.1 = 0 then (fn5_isName 6 q25.2).bind (fun q36 => (if q36.1 = 0 then (fn5_isName 7 q36.2).bind (fun q47 => (if q47.1 = 0 then some ((-4), q47.2) else some (4, q47.2))) else some (3, q36.2))) else some (2, q25.2))) else some (1, q14.2))) else some (0, q3.2)))
set_option maxRecDepth 20000 in
theorem bk5_kindNamed {M : MX} {G : GX} (C : BC M G shX 71 (eX G) RX5 cX5_kindNamed 1 (some .int) rm5_kindNamed) {z : Int32 × Mem}    {w : Mem} (h : fn5_kindNamed   w = some z) : BW M G shX 71 1 (ZR M G shX 71 (some .int) z) 0 [(0, .ref (gad G 55))] [] w := by
  rw [fn5_kindNamed] at h
  refine bw_aload_n C 0 dX5_kindNamed_0 rfl rfl ?_
  refine bw_ldcS C 3 (by decide) rfl dX5_kindNamed_1 ?_
  refine bw_callVi C (As := [.ref (gaK G 3)]) lX55 sX55 rfl miX5_isName mlX5_95 imX5_isName seX5_isName (by decide) rfl rfl (fun z1 h1 => mt5_isName (by decide) h1) rfl (Nat.le_of_ble_eq_true rfl) rfl dX5_kindNamed_3 h (fun q3 _ h => ?_)
  refine bw_if_eq C (tgt := 11) dX5_kindNamed_6 (by decide) h (fun h => ?_) (fun h => ?_)
  · refine bw_aload_n C 0 dX5_kindNamed_11 rfl rfl ?_
    refine bw_ldcS C 4 (by decide) rfl dX5_kindNamed_12 ?_
    refine bw_callVi C (As := [.ref (gaK G 4)]) lX55 sX55 rfl miX5_isName mlX5_95 imX5_isName seX5_isName (by decide) rfl rfl (fun z1 h1 => mt5_isName (by decide) h1) rfl (Nat.le_of_ble_eq_true rfl) rfl dX5_kindNamed_14 h (fun q14 _ h => ?_)
    refine bw_if_eq C (tgt := 22) dX5_kindNamed_17 (by decide) h (fun h => ?_) (fun h => ?_)
    · refine bw_aload_n C 0 dX5_kindNamed_22 rfl rfl ?_
      refine bw_ldcS C 5 (by decide) rfl dX5_kindNamed_23 ?_
      refine bw_callVi C (As := [.ref (gaK G 5)]) lX55 sX55 rfl miX5_isName mlX5_95 imX5_isName seX5_isName (by decide) rfl rfl (fun z1 h1 => mt5_isName (by decide) h1) rfl (Nat.le_of_ble_eq_true rfl) rfl dX5_kindNamed_25 h (fun q25 _ h => ?_)
      refine bw_if_eq C (tgt := 33) dX5_kindNamed_28 (by decide) h (fun h => ?_) (fun h => ?_)
      · refine bw_aload_n C 0 dX5_kindNamed_33 rfl rfl ?_
        refine bw_ldcS C 6 (by decide) rfl dX5_kindNamed_34 ?_
        refine bw_callVi C (As := [.ref (gaK G 6)]) lX55 sX55 rfl miX5_isName mlX5_95 imX5_isName seX5_isName (by decide) rfl rfl (fun z1 h1 => mt5_isName (by decide) h1) rfl (Nat.le_of_ble_eq_true rfl) rfl dX5_kindNamed_36 h (fun q36 _ h => ?_)
        refine bw_if_eq C (tgt := 44) dX5_kindNamed_39 (by decide) h (fun h => ?_) (fun h => ?_)
        · refine bw_aload_n C 0 dX5_kindNamed_44 rfl rfl ?_
          refine bw_ldcS C 7 (by decide) rfl dX5_kindNamed_45 ?_
          refine bw_callVi C (As := [.ref (gaK G 7)]) lX55 sX55 rfl miX5_isName mlX5_95 imX5_isName seX5_isName (by decide) rfl rfl (fun z1 h1 => mt5_isName (by decide) h1) rfl (Nat.le_of_ble_eq_true rfl) rfl dX5_kindNamed_47 h (fun q47 _ h => ?_)
          refine bw_if_eq C (tgt := 57) dX5_kindNamed_50 (by decide) h (fun h => ?_) (fun h => ?_)
          · refine bw_bipush C (v := (-4)) dX5_kindNamed_57 (by decide) ?_
            exact bw_iret C dX5_kindNamed_59 h
          · refine bw_iconst C (v := 4) dX5_kindNamed_53 (by decide) ?_
            refine bw_goto C (tgt := 59) dX5_kindNamed_54 (by decide) ?_
            exact bw_iret C dX5_kindNamed_59 h
        · refine bw_iconst C (v := 3) dX5_kindNamed_42 (by decide) ?_
          exact bw_iret C dX5_kindNamed_43 h
      · refine bw_iconst C (v := 2) dX5_kindNamed_31 (by decide) ?_
        exact bw_iret C dX5_kindNamed_32 h
    · refine bw_iconst C (v := 1) dX5_kindNamed_20 (by decide) ?_
      exact bw_iret C dX5_kindNamed_21 h
  · refine bw_iconst C (v := 0) dX5_kindNamed_9 (by decide) ?_
    exact bw_iret C dX5_kindNamed_10 h
theorem mt5_kindNamed {l : Launch} {G : GX}    {w : Mem} {z : Int32 × Mem} (h : fn5_kindNamed   w = some z) : MC l G shX 71 (eX G) yX5_kindNamed cX5_kindNamed 1 (some .int) rm5_kindNamed [.ref (gad G 55)] w z := by
  refine met_of (by decide +kernel) (eX_ok G) rfl (Nat.le_of_ble_eq_true rfl) (fun M hM C => ?_)
  subst hM
  exact bk5_kindNamed C   h
def rm5_readOne : Room := { frames := 6, cells := 0, slots := 0, locals := 153 }
def fn5_readOne_133 (w : Mem) : Option (Int32 × Mem) := (fn5_readStop w).bind (fun q134 => (if isb q134.1 = true then some (q134.1, q134.2) else none))
set_option maxRecDepth 20000 in
theorem bk5_readOne_133 {M : MX} {G : GX} (C : BC M G shX 71 (eX G) RX5 cX5_readOne 2 (some .boolean) rm5_readOne) {z : Int32 × Mem} {w : Mem} (h : fn5_readOne_133 w = some z) : BW M G shX 71 2 (ZR M G shX 71 (some .boolean) z) 133 [(0, .ref (gad G 55))] [] w := by
  rw [fn5_readOne_133] at h
  refine bw_aload_n C 0 dX5_readOne_133 rfl rfl ?_
  refine bw_callVi C (As := []) lX55 sX55 rfl miX5_readStop mlX5_133 imX5_readStop seX5_readStop (by decide) rfl rfl (fun z1 h1 => mt5_readStop h1) rfl (Nat.le_of_ble_eq_true rfl) rfl dX5_readOne_134 h (fun q134 _ h => ?_)
  exact bw_zret C dX5_readOne_137 h
def fn5_readOne   (w : Mem) : Option (Int32 × Mem) := (if (w 12 0) < 6 then (fn5_readToken w).bind (fun q25 => (if ¬ q25.1 = 0 then (fn5_kindNamed q25.2).bind (fun q42 => (if ib (w 12 0) 6 = true then (if ib (w 12 0) 6 = true then (if ¬ ((up2 q42.2 13 (w 12 0).toNatClampNeg q42.1) 13 (w 12 0).toNatClampNeg) = (-4) then (fn5_readNumber 0 9 (up2 q42.2 13 (w 12 0).toNatClampNeg q42.1)).bind (fun q74 => (if ¬ q74.1 = 0 then (if ib (w 12 0) 6 = true then (fn5_readNumber 0 50 (up2 q74.2 14 (w 12 0).toNatClampNeg (q74.2 55 10))).bind (fun q99 => (if ¬ q99.1 = 0 then (if ib (w 12 0) 6 = true then fn5_readOne_133 (up2 (up2 q99.2 15 (w 12 0).toNatClampNeg (q99.2 55 10)) 12 0 (((up2 q99.2 15 (w 12 0).toNatClampNeg (q99.2 55 10)) 12 0) + 1)) else none) else some (0, q99.2))) else none) else some (0, q74.2))) else (fn5_fail 2 ((up2 q42.2 13 (w 12 0).toNatClampNeg q42.1) 55 8) (up2 q42.2 13 (w 12 0).toNatClampNeg q42.1)).bind (fun q66 => (if isb q66.1 = true then some (q66.1, q66.2) else none))) else none) else none)) else some (0, q25.2))) else (fn5_fail 5 (w 55 8) w).bind (fun q20 => (if isb q20.1 = true then some (q20.1, q20.2) else none)))
set_option maxRecDepth 20000 in
theorem bk5_readOne {M : MX} {G : GX} (C : BC M G shX 71 (eX G) RX5 cX5_readOne 2 (some .boolean) rm5_readOne) {z : Int32 × Mem}    {w : Mem} (h : fn5_readOne   w = some z) : BW M G shX 71 2 (ZR M G shX 71 (some .boolean) z) 0 [(0, .ref (gad G 55))] [] w := by
  rw [fn5_readOne] at h
  refine bw_aload_n C 0 dX5_readOne_0 rfl rfl ?_
  refine bw_getr C (j := 0) (t := 12) lX55 sX55 rfl inlX5 (by decide) rfl flX5_12 dX5_readOne_1 ?_
  refine bw_geti C (j := 0) lX12 sX12 rfl inlX6 (by decide) rfl flX5_139 dX5_readOne_4 ?_
  refine bw_istore_n C [(1, .int (w 12 0)), (0, .ref (gad G 55))] dX5_readOne_7 rfl (by decide) rfl ?_
  refine bw_iload_n C 0 dX5_readOne_8 rfl rfl ?_
  refine bw_bipush C (v := 6) dX5_readOne_9 (by decide) ?_
  refine bw_icmp_lt C (tgt := 24) dX5_readOne_11 (by decide) h (fun h => ?_) (fun h => ?_)
  · refine bw_aload_n C 1 dX5_readOne_24 rfl rfl ?_
    refine bw_callVi C (As := []) lX55 sX55 rfl miX5_readToken mlX5_50 imX5_readToken seX5_readToken (by decide) rfl rfl (fun z1 h1 => mt5_readToken h1) rfl (Nat.le_of_ble_eq_true rfl) rfl dX5_readOne_25 h (fun q25 _ h => ?_)
    refine bw_if_ne C (tgt := 33) dX5_readOne_28 (by decide) h (fun h => ?_) (fun h => ?_)
    · refine bw_aload_n C 1 dX5_readOne_33 rfl rfl ?_
      refine bw_getr C (j := 0) (t := 12) lX55 sX55 rfl inlX5 (by decide) rfl flX5_12 dX5_readOne_34 ?_
      refine bw_getr C (j := 1) (t := 13) lX12 sX12 rfl inlX6 (by decide) rfl flX5_142 dX5_readOne_37 ?_
      refine bw_iload_n C 0 dX5_readOne_40 rfl rfl ?_
      refine bw_aload_n C 1 dX5_readOne_41 rfl rfl ?_
      refine bw_callVi C (As := []) lX55 sX55 rfl miX5_kindNamed mlX5_146 imX5_kindNamed seX5_kindNamed (by decide) rfl rfl (fun z1 h1 => mt5_kindNamed h1) rfl (Nat.le_of_ble_eq_true rfl) rfl dX5_readOne_42 h (fun q42 _ h => ?_)
      refine bw_iast C lX13 sX13 dX5_readOne_45 h (fun h => ?_)
      refine bw_aload_n C 1 dX5_readOne_46 rfl rfl ?_
      refine bw_getr C (j := 0) (t := 12) lX55 sX55 rfl inlX5 (by decide) rfl flX5_12 dX5_readOne_47 ?_
      refine bw_getr C (j := 1) (t := 13) lX12 sX12 rfl inlX6 (by decide) rfl flX5_142 dX5_readOne_50 ?_
      refine bw_iload_n C 0 dX5_readOne_53 rfl rfl ?_
      refine bw_iald C lX13 sX13 dX5_readOne_54 h (fun h => ?_)
      refine bw_bipush C (v := (-4)) dX5_readOne_55 (by decide) ?_
      refine bw_icmp_ne C (tgt := 70) dX5_readOne_57 (by decide) h (fun h => ?_) (fun h => ?_)
      · refine bw_aload_n C 1 dX5_readOne_70 rfl rfl ?_
        refine bw_iconst C (v := 0) dX5_readOne_71 (by decide) ?_
        refine bw_bipush C (v := 9) dX5_readOne_72 (by decide) ?_
        refine bw_callVi C (As := [.int 0, .int 9]) lX55 sX55 rfl miX5_readNumber mlX5_127 imX5_readNumber seX5_readNumber (by decide) rfl rfl (fun z1 h1 => mt5_readNumber h1) rfl (Nat.le_of_ble_eq_true rfl) rfl dX5_readOne_74 h (fun q74 _ h => ?_)
        refine bw_if_ne C (tgt := 82) dX5_readOne_77 (by decide) h (fun h => ?_) (fun h => ?_)
        · refine bw_aload_n C 1 dX5_readOne_82 rfl rfl ?_
          refine bw_getr C (j := 0) (t := 12) lX55 sX55 rfl inlX5 (by decide) rfl flX5_12 dX5_readOne_83 ?_
          refine bw_getr C (j := 2) (t := 14) lX12 sX12 rfl inlX6 (by decide) rfl flX5_149 dX5_readOne_86 ?_
          refine bw_iload_n C 0 dX5_readOne_89 rfl rfl ?_
          refine bw_aload_n C 1 dX5_readOne_90 rfl rfl ?_
          refine bw_geti C (j := 10) lX55 sX55 rfl inlX5 (by decide) rfl flX5_87 dX5_readOne_91 ?_
          refine bw_iast C lX14 sX14 dX5_readOne_94 h (fun h => ?_)
          refine bw_aload_n C 1 dX5_readOne_95 rfl rfl ?_
          refine bw_iconst C (v := 0) dX5_readOne_96 (by decide) ?_
          refine bw_bipush C (v := 50) dX5_readOne_97 (by decide) ?_
          refine bw_callVi C (As := [.int 0, .int 50]) lX55 sX55 rfl miX5_readNumber mlX5_127 imX5_readNumber seX5_readNumber (by decide) rfl rfl (fun z1 h1 => mt5_readNumber h1) rfl (Nat.le_of_ble_eq_true rfl) rfl dX5_readOne_99 h (fun q99 _ h => ?_)
          refine bw_if_ne C (tgt := 107) dX5_readOne_102 (by decide) h (fun h => ?_) (fun h => ?_)
          · refine bw_aload_n C 1 dX5_readOne_107 rfl rfl ?_
            refine bw_getr C (j := 0) (t := 12) lX55 sX55 rfl inlX5 (by decide) rfl flX5_12 dX5_readOne_108 ?_
            refine bw_getr C (j := 3) (t := 15) lX12 sX12 rfl inlX6 (by decide) rfl flX5_152 dX5_readOne_111 ?_
            refine bw_iload_n C 0 dX5_readOne_114 rfl rfl ?_
            refine bw_aload_n C 1 dX5_readOne_115 rfl rfl ?_
            refine bw_geti C (j := 10) lX55 sX55 rfl inlX5 (by decide) rfl flX5_87 dX5_readOne_116 ?_
            refine bw_iast C lX15 sX15 dX5_readOne_119 h (fun h => ?_)
            refine bw_aload_n C 1 dX5_readOne_120 rfl rfl ?_
            refine bw_getr C (j := 0) (t := 12) lX55 sX55 rfl inlX5 (by decide) rfl flX5_12 dX5_readOne_121 ?_
            refine bw_dup C dX5_readOne_124 rfl ?_
            refine bw_geti C (j := 0) lX12 sX12 rfl inlX6 (by decide) rfl flX5_139 dX5_readOne_125 ?_
            refine bw_iconst C (v := 1) dX5_readOne_128 (by decide) ?_
            refine bw_iadd C dX5_readOne_129 ?_
            refine bw_puti C (j := 0) (ty := .int) lX12 sX12 rfl inlX6 (by decide) tyX6 tyX6_ok nmX6 rfl flX5_139 rfl (by decide +kernel) rfl rfl dX5_readOne_130 ?_
            exact bw_sub [1] rfl (bk5_readOne_133 C h)
          · refine bw_iconst C (v := 0) dX5_readOne_105 (by decide) ?_
            exact bw_zretc C dX5_readOne_106 rfl h
        · refine bw_iconst C (v := 0) dX5_readOne_80 (by decide) ?_
          exact bw_zretc C dX5_readOne_81 rfl h
      · refine bw_aload_n C 1 dX5_readOne_60 rfl rfl ?_
        refine bw_iconst C (v := 2) dX5_readOne_61 (by decide) ?_
        refine bw_aload_n C 1 dX5_readOne_62 rfl rfl ?_
        refine bw_geti C (j := 8) lX55 sX55 rfl inlX5 (by decide) rfl flX5_63 dX5_readOne_63 ?_
        refine bw_callVi C (As := [.int 2, .int ((up2 q42.2 13 (w 12 0).toNatClampNeg q42.1) 55 8)]) lX55 sX55 rfl miX5_fail mlX5_74 imX5_fail seX5_fail (by decide) rfl rfl (fun z1 h1 => mt5_fail h1) rfl (Nat.le_of_ble_eq_true rfl) rfl dX5_readOne_66 h (fun q66 _ h => ?_)
        exact bw_zret C dX5_readOne_69 h
    · refine bw_iconst C (v := 0) dX5_readOne_31 (by decide) ?_
      exact bw_zretc C dX5_readOne_32 rfl h
  · refine bw_aload_n C 1 dX5_readOne_14 rfl rfl ?_
    refine bw_iconst C (v := 5) dX5_readOne_15 (by decide) ?_
    refine bw_aload_n C 1 dX5_readOne_16 rfl rfl ?_
    refine bw_geti C (j := 8) lX55 sX55 rfl inlX5 (by decide) rfl flX5_63 dX5_readOne_17 ?_
    refine bw_callVi C (As := [.int 5, .int (w 55 8)]) lX55 sX55 rfl miX5_fail mlX5_74 imX5_fail seX5_fail (by decide) rfl rfl (fun z1 h1 => mt5_fail h1) rfl (Nat.le_of_ble_eq_true rfl) rfl dX5_readOne_20 h (fun q20 _ h => ?_)
    exact bw_zret C dX5_readOne_23 h
theorem mt5_readOne {l : Launch} {G : GX}    {w : Mem} {z : Int32 × Mem} (h : fn5_readOne   w = some z) : MC l G shX 71 (eX G) yX5_readOne cX5_readOne 2 (some .boolean) rm5_readOne [.ref (gad G 55)] w z := by
  refine met_of (by decide +kernel) (eX_ok G) rfl (Nat.le_of_ble_eq_true rfl) (fun M hM C => ?_)
  subst hM
  exact bk5_readOne C   h
def rm5_readCoin : Room := { frames := 5, cells := 0, slots := 0, locals := 133 }
def fn5_readCoin_85 (x1 : Int32) (w : Mem) : Option (Int32 × Mem) := (fn5_readToken w).bind (fun q86 => (if ¬ q86.1 = 0 then (fn5_isName 9 q86.2).bind (fun q97 => (if q97.1 = 0 then (fn5_checkStop q97.2).bind (fun q119 => (if isb q119.1 = true then some (q119.1, q119.2) else none)) else (if ib x1 6 = true then (fn5_readStop (up2 q97.2 18 x1.toNatClampNeg (vp_nar .boolean 1))).bind (fun q114 => (if isb q114.1 = true then some (q114.1, q114.2) else none)) else none))) else some (0, q86.2)))
set_option maxRecDepth 20000 in
theorem bk5_readCoin_85 {M : MX} {G : GX} (C : BC M G shX 71 (eX G) RX5 cX5_readCoin 2 (some .boolean) rm5_readCoin) {z : Int32 × Mem} (x1 : Int32) {w : Mem} (h : fn5_readCoin_85 x1 w = some z) : BW M G shX 71 2 (ZR M G shX 71 (some .boolean) z) 85 [(0, .ref (gad G 55)), (1, .int x1)] [] w := by
  rw [fn5_readCoin_85] at h
  refine bw_aload_n C 0 dX5_readCoin_85 rfl rfl ?_
  refine bw_callVi C (As := []) lX55 sX55 rfl miX5_readToken mlX5_50 imX5_readToken seX5_readToken (by decide) rfl rfl (fun z1 h1 => mt5_readToken h1) rfl (Nat.le_of_ble_eq_true rfl) rfl dX5_readCoin_86 h (fun q86 _ h => ?_)
  refine bw_if_ne C (tgt := 94) dX5_readCoin_89 (by decide) h (fun h => ?_) (fun h => ?_)
  · refine bw_aload_n C 0 dX5_readCoin_94 rfl rfl ?_
    refine bw_ldcS C 9 (by decide) rfl dX5_readCoin_95 ?_
    refine bw_callVi C (As := [.ref (gaK G 9)]) lX55 sX55 rfl miX5_isName mlX5_95 imX5_isName seX5_isName (by decide) rfl rfl (fun z1 h1 => mt5_isName (by decide) h1) rfl (Nat.le_of_ble_eq_true rfl) rfl dX5_readCoin_97 h (fun q97 _ h => ?_)
    refine bw_if_eq C (tgt := 118) dX5_readCoin_100 (by decide) h (fun h => ?_) (fun h => ?_)
    · refine bw_aload_n C 0 dX5_readCoin_118 rfl rfl ?_
      refine bw_callVi C (As := []) lX55 sX55 rfl miX5_checkStop mlX5_90 imX5_checkStop seX5_checkStop (by decide) rfl rfl (fun z1 h1 => mt5_checkStop h1) rfl (Nat.le_of_ble_eq_true rfl) rfl dX5_readCoin_119 h (fun q119 _ h => ?_)
      exact bw_zret C dX5_readCoin_122 h
    · refine bw_aload_n C 0 dX5_readCoin_103 rfl rfl ?_
      refine bw_getr C (j := 0) (t := 12) lX55 sX55 rfl inlX5 (by decide) rfl flX5_12 dX5_readCoin_104 ?_
      refine bw_getr C (j := 7) (t := 18) lX12 sX12 rfl inlX6 (by decide) rfl flX5_176 dX5_readCoin_107 ?_
      refine bw_iload_n C 1 dX5_readCoin_110 rfl rfl ?_
      refine bw_iconst C (v := 1) dX5_readCoin_111 (by decide) ?_
      refine bw_zast C lX18 sX18 dX5_readCoin_112 h (fun h => ?_)
      refine bw_aload_n C 0 dX5_readCoin_113 rfl rfl ?_
      refine bw_callVi C (As := []) lX55 sX55 rfl miX5_readStop mlX5_133 imX5_readStop seX5_readStop (by decide) rfl rfl (fun z1 h1 => mt5_readStop h1) rfl (Nat.le_of_ble_eq_true rfl) rfl dX5_readCoin_114 h (fun q114 _ h => ?_)
      exact bw_zret C dX5_readCoin_117 h
  · refine bw_iconst C (v := 0) dX5_readCoin_92 (by decide) ?_
    exact bw_zretc C dX5_readCoin_93 rfl h
def fn5_readCoin   (w : Mem) : Option (Int32 × Mem) := (if (w 12 4) < 6 then (fn5_readNumber 1 3 w).bind (fun q27 => (if ¬ q27.1 = 0 then (if ib (w 12 4) 6 = true then (fn5_readNumber 0 5 (up2 q27.2 16 (w 12 4).toNatClampNeg (q27.2 55 10))).bind (fun q51 => (if ¬ q51.1 = 0 then (if ib (w 12 4) 6 = true then fn5_readCoin_85 (w 12 4) (up2 (up2 q51.2 17 (w 12 4).toNatClampNeg (q51.2 55 10)) 12 4 (((up2 q51.2 17 (w 12 4).toNatClampNeg (q51.2 55 10)) 12 4) + 1)) else none) else some (0, q51.2))) else none) else some (0, q27.2))) else (fn5_fail 5 (w 55 8) w).bind (fun q20 => (if isb q20.1 = true then some (q20.1, q20.2) else none)))
set_option maxRecDepth 20000 in
theorem bk5_readCoin {M : MX} {G : GX} (C : BC M G shX 71 (eX G) RX5 cX5_readCoin 2 (some .boolean) rm5_readCoin) {z : Int32 × Mem}    {w : Mem} (h : fn5_readCoin   w = some z) : BW M G shX 71 2 (ZR M G shX 71 (some .boolean) z) 0 [(0, .ref (gad G 55))] [] w := by
  rw [fn5_readCoin] at h
  refine bw_aload_n C 0 dX5_readCoin_0 rfl rfl ?_
  refine bw_getr C (j := 0) (t := 12) lX55 sX55 rfl inlX5 (by decide) rfl flX5_12 dX5_readCoin_1 ?_
  refine bw_geti C (j := 4) lX12 sX12 rfl inlX6 (by decide) rfl flX5_165 dX5_readCoin_4 ?_
  refine bw_istore_n C [(1, .int (w 12 4)), (0, .ref (gad G 55))] dX5_readCoin_7 rfl (by decide) rfl ?_
  refine bw_iload_n C 0 dX5_readCoin_8 rfl rfl ?_
  refine bw_bipush C (v := 6) dX5_readCoin_9 (by decide) ?_
  refine bw_icmp_lt C (tgt := 24) dX5_readCoin_11 (by decide) h (fun h => ?_) (fun h => ?_)
  · refine bw_aload_n C 1 dX5_readCoin_24 rfl rfl ?_
    refine bw_iconst C (v := 1) dX5_readCoin_25 (by decide) ?_
    refine bw_iconst C (v := 3) dX5_readCoin_26 (by decide) ?_
    refine bw_callVi C (As := [.int 1, .int 3]) lX55 sX55 rfl miX5_readNumber mlX5_127 imX5_readNumber seX5_readNumber (by decide) rfl rfl (fun z1 h1 => mt5_readNumber h1) rfl (Nat.le_of_ble_eq_true rfl) rfl dX5_readCoin_27 h (fun q27 _ h => ?_)
    refine bw_if_ne C (tgt := 35) dX5_readCoin_30 (by decide) h (fun h => ?_) (fun h => ?_)
    · refine bw_aload_n C 1 dX5_readCoin_35 rfl rfl ?_
      refine bw_getr C (j := 0) (t := 12) lX55 sX55 rfl inlX5 (by decide) rfl flX5_12 dX5_readCoin_36 ?_
      refine bw_getr C (j := 5) (t := 16) lX12 sX12 rfl inlX6 (by decide) rfl flX5_168 dX5_readCoin_39 ?_
      refine bw_iload_n C 0 dX5_readCoin_42 rfl rfl ?_
      refine bw_aload_n C 1 dX5_readCoin_43 rfl rfl ?_
      refine bw_geti C (j := 10) lX55 sX55 rfl inlX5 (by decide) rfl flX5_87 dX5_readCoin_44 ?_
      refine bw_iast C lX16 sX16 dX5_readCoin_47 h (fun h => ?_)
      refine bw_aload_n C 1 dX5_readCoin_48 rfl rfl ?_
      refine bw_iconst C (v := 0) dX5_readCoin_49 (by decide) ?_
      refine bw_iconst C (v := 5) dX5_readCoin_50 (by decide) ?_
      refine bw_callVi C (As := [.int 0, .int 5]) lX55 sX55 rfl miX5_readNumber mlX5_127 imX5_readNumber seX5_readNumber (by decide) rfl rfl (fun z1 h1 => mt5_readNumber h1) rfl (Nat.le_of_ble_eq_true rfl) rfl dX5_readCoin_51 h (fun q51 _ h => ?_)
      refine bw_if_ne C (tgt := 59) dX5_readCoin_54 (by decide) h (fun h => ?_) (fun h => ?_)
      · refine bw_aload_n C 1 dX5_readCoin_59 rfl rfl ?_
        refine bw_getr C (j := 0) (t := 12) lX55 sX55 rfl inlX5 (by decide) rfl flX5_12 dX5_readCoin_60 ?_
        refine bw_getr C (j := 6) (t := 17) lX12 sX12 rfl inlX6 (by decide) rfl flX5_171 dX5_readCoin_63 ?_
        refine bw_iload_n C 0 dX5_readCoin_66 rfl rfl ?_
        refine bw_aload_n C 1 dX5_readCoin_67 rfl rfl ?_
        refine bw_geti C (j := 10) lX55 sX55 rfl inlX5 (by decide) rfl flX5_87 dX5_readCoin_68 ?_
        refine bw_iast C lX17 sX17 dX5_readCoin_71 h (fun h => ?_)
        refine bw_aload_n C 1 dX5_readCoin_72 rfl rfl ?_
        refine bw_getr C (j := 0) (t := 12) lX55 sX55 rfl inlX5 (by decide) rfl flX5_12 dX5_readCoin_73 ?_
        refine bw_dup C dX5_readCoin_76 rfl ?_
        refine bw_geti C (j := 4) lX12 sX12 rfl inlX6 (by decide) rfl flX5_165 dX5_readCoin_77 ?_
        refine bw_iconst C (v := 1) dX5_readCoin_80 (by decide) ?_
        refine bw_iadd C dX5_readCoin_81 ?_
        refine bw_puti C (j := 4) (ty := .int) lX12 sX12 rfl inlX6 (by decide) tyX6 tyX6_ok nmX6 rfl flX5_165 rfl (by decide +kernel) rfl rfl dX5_readCoin_82 ?_
        exact bw_sub [1, 0] rfl (bk5_readCoin_85 C (w 12 4) h)
      · refine bw_iconst C (v := 0) dX5_readCoin_57 (by decide) ?_
        exact bw_zretc C dX5_readCoin_58 rfl h
    · refine bw_iconst C (v := 0) dX5_readCoin_33 (by decide) ?_
      exact bw_zretc C dX5_readCoin_34 rfl h
  · refine bw_aload_n C 1 dX5_readCoin_14 rfl rfl ?_
    refine bw_iconst C (v := 5) dX5_readCoin_15 (by decide) ?_
    refine bw_aload_n C 1 dX5_readCoin_16 rfl rfl ?_
    refine bw_geti C (j := 8) lX55 sX55 rfl inlX5 (by decide) rfl flX5_63 dX5_readCoin_17 ?_
    refine bw_callVi C (As := [.int 5, .int (w 55 8)]) lX55 sX55 rfl miX5_fail mlX5_74 imX5_fail seX5_fail (by decide) rfl rfl (fun z1 h1 => mt5_fail h1) rfl (Nat.le_of_ble_eq_true rfl) rfl dX5_readCoin_20 h (fun q20 _ h => ?_)
    exact bw_zret C dX5_readCoin_23 h
theorem mt5_readCoin {l : Launch} {G : GX}    {w : Mem} {z : Int32 × Mem} (h : fn5_readCoin   w = some z) : MC l G shX 71 (eX G) yX5_readCoin cX5_readCoin 2 (some .boolean) rm5_readCoin [.ref (gad G 55)] w z := by
  refine met_of (by decide +kernel) (eX_ok G) rfl (Nat.le_of_ble_eq_true rfl) (fun M hM C => ?_)
  subst hM
  exact bk5_readCoin C   h
def rm5_readSpend : Room := { frames := 3, cells := 0, slots := 0, locals := 67 }
def fn5_readSpend   (w : Mem) : Option (Int32 × Mem) := (fn5_readNumber 0 5 w).bind (fun q3 => (if ¬ q3.1 = 0 then (fn6_isSpent 12 (q3.2 55 10) q3.2).bind (fun q21 => (if q21.1 = 0 then (fn5_readNumber 0 11 q21.2).bind (fun q41 => (if ¬ q41.1 = 0 then (if ib (q3.2 55 10) 6 = true then (fn5_readStop (up2 q41.2 19 (q3.2 55 10).toNatClampNeg (q41.2 55 10))).bind (fun q63 => (if isb q63.1 = true then some (q63.1, q63.2) else none)) else none) else some (0, q41.2))) else (fn5_fail 4 (q21.2 55 8) q21.2).bind (fun q33 => (if isb q33.1 = true then some (q33.1, q33.2) else none)))) else some (0, q3.2)))
set_option maxRecDepth 20000 in
theorem bk5_readSpend {M : MX} {G : GX} (C : BC M G shX 71 (eX G) RX5 cX5_readSpend 2 (some .boolean) rm5_readSpend) {z : Int32 × Mem}    {w : Mem} (h : fn5_readSpend   w = some z) : BW M G shX 71 2 (ZR M G shX 71 (some .boolean) z) 0 [(0, .ref (gad G 55))] [] w := by
  rw [fn5_readSpend] at h
  refine bw_aload_n C 0 dX5_readSpend_0 rfl rfl ?_
  refine bw_iconst C (v := 0) dX5_readSpend_1 (by decide) ?_
  refine bw_iconst C (v := 5) dX5_readSpend_2 (by decide) ?_
  refine bw_callVi C (As := [.int 0, .int 5]) lX55 sX55 rfl miX5_readNumber mlX5_127 imX5_readNumber seX5_readNumber (by decide) rfl rfl (fun z1 h1 => mt5_readNumber h1) rfl (Nat.le_of_ble_eq_true rfl) rfl dX5_readSpend_3 h (fun q3 _ h => ?_)
  refine bw_if_ne C (tgt := 11) dX5_readSpend_6 (by decide) h (fun h => ?_) (fun h => ?_)
  · refine bw_aload_n C 0 dX5_readSpend_11 rfl rfl ?_
    refine bw_geti C (j := 10) lX55 sX55 rfl inlX5 (by decide) rfl flX5_87 dX5_readSpend_12 ?_
    refine bw_istore_n C [(1, .int (q3.2 55 10)), (0, .ref (gad G 55))] dX5_readSpend_15 rfl (by decide) rfl ?_
    refine bw_aload_n C 1 dX5_readSpend_16 rfl rfl ?_
    refine bw_getr C (j := 0) (t := 12) lX55 sX55 rfl inlX5 (by decide) rfl flX5_12 dX5_readSpend_17 ?_
    refine bw_iload_n C 0 dX5_readSpend_20 rfl rfl ?_
    refine bw_callVi C (As := [.int (q3.2 55 10)]) lX12 sX12 rfl miX6_isSpent mlX5_180 imX6_isSpent seX6_isSpent (by decide) rfl rfl (fun z1 h1 => mt6_isSpent isT_12 h1) rfl (Nat.le_of_ble_eq_true rfl) rfl dX5_readSpend_21 h (fun q21 _ h => ?_)
    refine bw_if_eq C (tgt := 37) dX5_readSpend_24 (by decide) h (fun h => ?_) (fun h => ?_)
    · refine bw_aload_n C 1 dX5_readSpend_37 rfl rfl ?_
      refine bw_iconst C (v := 0) dX5_readSpend_38 (by decide) ?_
      refine bw_bipush C (v := 11) dX5_readSpend_39 (by decide) ?_
      refine bw_callVi C (As := [.int 0, .int 11]) lX55 sX55 rfl miX5_readNumber mlX5_127 imX5_readNumber seX5_readNumber (by decide) rfl rfl (fun z1 h1 => mt5_readNumber h1) rfl (Nat.le_of_ble_eq_true rfl) rfl dX5_readSpend_41 h (fun q41 _ h => ?_)
      refine bw_if_ne C (tgt := 49) dX5_readSpend_44 (by decide) h (fun h => ?_) (fun h => ?_)
      · refine bw_aload_n C 1 dX5_readSpend_49 rfl rfl ?_
        refine bw_getr C (j := 0) (t := 12) lX55 sX55 rfl inlX5 (by decide) rfl flX5_12 dX5_readSpend_50 ?_
        refine bw_getr C (j := 8) (t := 19) lX12 sX12 rfl inlX6 (by decide) rfl flX5_184 dX5_readSpend_53 ?_
        refine bw_iload_n C 0 dX5_readSpend_56 rfl rfl ?_
        refine bw_aload_n C 1 dX5_readSpend_57 rfl rfl ?_
        refine bw_geti C (j := 10) lX55 sX55 rfl inlX5 (by decide) rfl flX5_87 dX5_readSpend_58 ?_
        refine bw_iast C lX19 sX19 dX5_readSpend_61 h (fun h => ?_)
        refine bw_aload_n C 1 dX5_readSpend_62 rfl rfl ?_
        refine bw_callVi C (As := []) lX55 sX55 rfl miX5_readStop mlX5_133 imX5_readStop seX5_readStop (by decide) rfl rfl (fun z1 h1 => mt5_readStop h1) rfl (Nat.le_of_ble_eq_true rfl) rfl dX5_readSpend_63 h (fun q63 _ h => ?_)
        exact bw_zret C dX5_readSpend_66 h
      · refine bw_iconst C (v := 0) dX5_readSpend_47 (by decide) ?_
        exact bw_zretc C dX5_readSpend_48 rfl h
    · refine bw_aload_n C 1 dX5_readSpend_27 rfl rfl ?_
      refine bw_iconst C (v := 4) dX5_readSpend_28 (by decide) ?_
      refine bw_aload_n C 1 dX5_readSpend_29 rfl rfl ?_
      refine bw_geti C (j := 8) lX55 sX55 rfl inlX5 (by decide) rfl flX5_63 dX5_readSpend_30 ?_
      refine bw_callVi C (As := [.int 4, .int (q21.2 55 8)]) lX55 sX55 rfl miX5_fail mlX5_74 imX5_fail seX5_fail (by decide) rfl rfl (fun z1 h1 => mt5_fail h1) rfl (Nat.le_of_ble_eq_true rfl) rfl dX5_readSpend_33 h (fun q33 _ h => ?_)
      exact bw_zret C dX5_readSpend_36 h
  · refine bw_iconst C (v := 0) dX5_readSpend_9 (by decide) ?_
    exact bw_zretc C dX5_readSpend_10 rfl h
theorem mt5_readSpend {l : Launch} {G : GX}    {w : Mem} {z : Int32 × Mem} (h : fn5_readSpend   w = some z) : MC l G shX 71 (eX G) yX5_readSpend cX5_readSpend 2 (some .boolean) rm5_readSpend [.ref (gad G 55)] w z := by
  refine met_of (by decide +kernel) (eX_ok G) rfl (Nat.le_of_ble_eq_true rfl) (fun M hM C => ?_)
  subst hM
  exact bk5_readSpend C   h
