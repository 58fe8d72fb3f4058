def shTl : List Shp := [.inl (6, [none, some 1, some 2, some 3, none, some 4, some 5, some 6, some 7, none, some 8, some 9, some 10, none, none]), .inr (.inl (0, 6)), .inr (.inl (0, 6)), .inr (.inl (0, 6)), .inr (.inl (0, 6)), .inr (.inl (0, 6)), .inr (.inl (2, 6)), .inr (.inl (0, 6)), .inr (.inl (0, 10)), .inr (.inl (0, 10)), .inr (.inl (0, 10))]
def shT (k : Nat) : Shp := shTl.getD k (.inr (.inl (0, 0)))
theorem sT0 : shT 0 = .inl (6, [none, some 1, some 2, some 3, none, some 4, some 5, some 6, some 7, none, some 8, some 9, some 10, none, none]) := rfl
theorem lT0 : 0 < 11 := by decide
theorem sT1 : shT 1 = .inr (.inl (0, 6)) := rfl
theorem lT1 : 1 < 11 := by decide
theorem sT2 : shT 2 = .inr (.inl (0, 6)) := rfl
theorem lT2 : 2 < 11 := by decide
theorem sT3 : shT 3 = .inr (.inl (0, 6)) := rfl
theorem lT3 : 3 < 11 := by decide
theorem sT4 : shT 4 = .inr (.inl (0, 6)) := rfl
theorem lT4 : 4 < 11 := by decide
theorem sT5 : shT 5 = .inr (.inl (0, 6)) := rfl
theorem lT5 : 5 < 11 := by decide
theorem sT6 : shT 6 = .inr (.inl (2, 6)) := rfl
theorem lT6 : 6 < 11 := by decide
theorem sT7 : shT 7 = .inr (.inl (0, 6)) := rfl
theorem lT7 : 7 < 11 := by decide
theorem sT8 : shT 8 = .inr (.inl (0, 10)) := rfl
theorem lT8 : 8 < 11 := by decide
theorem sT9 : shT 9 = .inr (.inl (0, 10)) := rfl
theorem lT9 : 9 < 11 := by decide
theorem sT10 : shT 10 = .inr (.inl (0, 10)) := rfl
theorem lT10 : 10 < 11 := by decide
def rmT6_clear : Room := { frames := 0, cells := 0, slots := 0, locals := 0 }
def fnT6_clear_27 (k : Int32 → Mem → Option (Int32 × Mem)) : Nat → Int32 → Mem → Option (Int32 × Mem)
  | 0, _, _ => none
  | nn + 1, x1, w => (if 6 ≤ x1 then k x1 w else (if ib x1 6 = true then (if ib x1 6 = true then fnT6_clear_27 k nn (x1 + 1) (up2 (up2 w 6 x1.toNatClampNeg (vp_nar .boolean 0)) 7 x1.toNatClampNeg (-4)) else none) else none))
set_option maxRecDepth 20000 in
theorem bkT6_clear_27 {M : MX} {G : GX} (C : BC M G shT 11 eM RX6 cX6_clear 2 none rmT6_clear) {z : Int32 × Mem} {k : Int32 → Mem → Option (Int32 × Mem)} (hk : ∀ (x1 : Int32) (w : Mem), k x1 w = some z → BW M G shT 11 2 (ZR M G shT 11 none z) 54 [] [] w) : ∀ (nn : Nat) (x1 : Int32) (w : Mem), fnT6_clear_27 k nn x1 w = some z → BW M G shT 11 2 (ZR M G shT 11 none z) 27 [(0, .ref (gad G 0)), (1, .int x1)] [] w := by
  intro nn
  induction nn with
  | zero =>
    intro x1 w h
    have h : (none : Option (Int32 × Mem)) = some z := h
    cases h
  | succ nn ih =>
    intro x1 w h
    rw [fnT6_clear_27] at h
    refine bw_iload_n C 1 dX6_clear_27 rfl rfl ?_
    refine bw_bipush C (v := 6) dX6_clear_28 (by decide) ?_
    refine bw_icmp_ge C (tgt := 54) dX6_clear_30 (by decide) h (fun h => ?_) (fun h => ?_)
    · exact bw_sub [] rfl (hk x1 w h)
    · refine bw_aload_n C 0 dX6_clear_33 rfl rfl ?_
      refine bw_getr C (j := 7) (t := 6) lT0 sT0 rfl inlX6 (by decide) rfl flX6_27 dX6_clear_34 ?_
      refine bw_iload_n C 1 dX6_clear_37 rfl rfl ?_
      refine bw_iconst C (v := 0) dX6_clear_38 (by decide) ?_
      refine bw_zast C lT6 sT6 dX6_clear_39 h (fun h => ?_)
      refine bw_aload_n C 0 dX6_clear_40 rfl rfl ?_
      refine bw_getr C (j := 8) (t := 7) lT0 sT0 rfl inlX6 (by decide) rfl flX6_31 dX6_clear_41 ?_
      refine bw_iload_n C 1 dX6_clear_44 rfl rfl ?_
      refine bw_bipush C (v := (-4)) dX6_clear_45 (by decide) ?_
      refine bw_iast C lT7 sT7 dX6_clear_47 h (fun h => ?_)
      refine bw_iinc C [(1, .int (x1 + 1)), (0, .ref (gad G 0))] 1 dX6_clear_48 rfl rfl (by decide) rfl ?_
      refine bw_goto C (tgt := 27) dX6_clear_51 (by decide) ?_
      exact bw_sub [1, 0] rfl (ih (x1 + 1) (up2 (up2 w 6 x1.toNatClampNeg (vp_nar .boolean 0)) 7 x1.toNatClampNeg (-4)) h)
def fnT6_clear   (w : Mem) : Option (Int32 × Mem) := fnT6_clear_27 (fun x1_27 w_27 => some (0, w_27)) 1000 0 (up2 (up2 (up2 (up2 (up2 w 0 0 0) 0 4 0) 0 9 0) 0 13 0) 0 14 1)
set_option maxRecDepth 20000 in
theorem bkT6_clear {M : MX} {G : GX} (C : BC M G shT 11 eM RX6 cX6_clear 2 none rmT6_clear) {z : Int32 × Mem}    {w : Mem} (h : fnT6_clear   w = some z) : BW M G shT 11 2 (ZR M G shT 11 none z) 0 [(0, .ref (gad G 0))] [] w := by
  rw [fnT6_clear] at h
  refine bw_aload_n C 0 dX6_clear_0 rfl rfl ?_
  refine bw_iconst C (v := 0) dX6_clear_1 (by decide) ?_
  refine bw_puti C (j := 0) (ty := .int) lT0 sT0 rfl inlX6 (by decide) tyX6 tyX6_ok nmX6 rfl flX6_46 rfl (by decide +kernel) rfl rfl dX6_clear_2 ?_
  refine bw_aload_n C 0 dX6_clear_5 rfl rfl ?_
  refine bw_iconst C (v := 0) dX6_clear_6 (by decide) ?_
  refine bw_puti C (j := 4) (ty := .int) lT0 sT0 rfl inlX6 (by decide) tyX6 tyX6_ok nmX6 rfl flX6_50 rfl (by decide +kernel) rfl rfl dX6_clear_7 ?_
  refine bw_aload_n C 0 dX6_clear_10 rfl rfl ?_
  refine bw_iconst C (v := 0) dX6_clear_11 (by decide) ?_
  refine bw_puti C (j := 9) (ty := .int) lT0 sT0 rfl inlX6 (by decide) tyX6 tyX6_ok nmX6 rfl flX6_53 rfl (by decide +kernel) rfl rfl dX6_clear_12 ?_
  refine bw_aload_n C 0 dX6_clear_15 rfl rfl ?_
  refine bw_iconst C (v := 0) dX6_clear_16 (by decide) ?_
  refine bw_puti C (j := 13) (ty := .int) lT0 sT0 rfl inlX6 (by decide) tyX6 tyX6_ok nmX6 rfl flX6_56 rfl (by decide +kernel) rfl rfl dX6_clear_17 ?_
  refine bw_aload_n C 0 dX6_clear_20 rfl rfl ?_
  refine bw_iconst C (v := 1) dX6_clear_21 (by decide) ?_
  refine bw_puti C (j := 14) (ty := .int) lT0 sT0 rfl inlX6 (by decide) tyX6 tyX6_ok nmX6 rfl flX6_59 rfl (by decide +kernel) rfl rfl dX6_clear_22 ?_
  refine bw_iconst C (v := 0) dX6_clear_25 (by decide) ?_
  refine bw_istore_n C [(1, .int 0), (0, .ref (gad G 0))] dX6_clear_26 rfl (by decide) rfl ?_
  refine bw_sub [1, 0] rfl (bkT6_clear_27 C (fun x1_27 w_27 h => ?_) 1000 0 (up2 (up2 (up2 (up2 (up2 w 0 0 0) 0 4 0) 0 9 0) 0 13 0) 0 14 1) h)
  exact bw_vret C dX6_clear_54 h
theorem mtT6_clear {l : Launch} {G : GX}    {w : Mem} {z : Int32 × Mem} (h : fnT6_clear   w = some z) : MC l G shT 11 eM yX6_clear cX6_clear 2 none rmT6_clear [.ref (gad G 0)] w z := by
  refine met_of (by decide +kernel) (eM_ok _) rfl (Nat.le_of_ble_eq_true rfl) (fun M hM C => ?_)
  subst hM
  exact bkT6_clear C   h
theorem acl_int : Cond.arrayClass .int ∈ wsL_law := in_r3 _ (List.mem_of_getElem? (i := 12) rfl)
theorem acl_byte : Cond.arrayClass .byte ∈ wsL_law := in_r2 _ (List.mem_of_getElem? (i := 23) rfl)
theorem acl_boolean : Cond.arrayClass .boolean ∈ wsL_law := in_r2 _ (List.mem_of_getElem? (i := 14) rfl)
theorem oi_im : Cond.instanceMethod objectInit ∈ wsL_law := in_r1 _ (List.mem_of_getElem? (i := 11) rfl)
theorem oi_cd : Cond.code objectInit ⟨#[0xb1]⟩ 1 none ∈ wsL_law := in_r1 _ (List.mem_of_getElem? (i := 12) rfl)
theorem cllL_7 : Cond.classLink RL 7 RX7 ∈ wsL_law := in_r1 _ (List.mem_of_getElem? (i := 0) rfl)
theorem insX7 : Cond.instantiable RX7 10 ∈ wsL_law := in_r1 _ (List.mem_of_getElem? (i := 1) rfl)
theorem iniX7 : Cond.initialized RX7 ∈ wsL_law := in_r1 _ (List.mem_of_getElem? (i := 2) rfl)
theorem cllL_10 : Cond.classLink RL 10 RX8 ∈ wsL_law := in_r1 _ (List.mem_of_getElem? (i := 3) rfl)
theorem insX8 : Cond.instantiable RX8 38 ∈ wsL_law := in_r1 _ (List.mem_of_getElem? (i := 4) rfl)
theorem iniX8 : Cond.initialized RX8 ∈ wsL_law := in_r1 _ (List.mem_of_getElem? (i := 5) rfl)
theorem cllX7_7 : Cond.classLink RX7 7 RX4 ∈ wsL_law := in_r1 _ (List.mem_of_getElem? (i := 13) rfl)
theorem insX4 : Cond.instantiable RX4 2 ∈ wsL_law := in_r1 _ (List.mem_of_getElem? (i := 14) rfl)
theorem iniX4 : Cond.initialized RX4 ∈ wsL_law := in_r1 _ (List.mem_of_getElem? (i := 15) rfl)
theorem cllX7_16 : Cond.classLink RX7 16 RX5 ∈ wsL_law := in_r1 _ (List.mem_of_getElem? (i := 17) rfl)
theorem insX5 : Cond.instantiable RX5 11 ∈ wsL_law := in_r1 _ (List.mem_of_getElem? (i := 18) rfl)
theorem iniX5 : Cond.initialized RX5 ∈ wsL_law := in_r1 _ (List.mem_of_getElem? (i := 19) rfl)
theorem cllX7_25 : Cond.classLink RX7 25 RX6 ∈ wsL_law := in_r1 _ (List.mem_of_getElem? (i := 21) rfl)
theorem insX6 : Cond.instantiable RX6 15 ∈ wsL_law := in_r1 _ (List.mem_of_getElem? (i := 22) rfl)
theorem iniX6 : Cond.initialized RX6 ∈ wsL_law := in_r1 _ (List.mem_of_getElem? (i := 23) rfl)
theorem cllX7_32 : Cond.classLink RX7 32 RX2 ∈ wsL_law := in_r2 _ (List.mem_of_getElem? (i := 1) rfl)
theorem insX2 : Cond.instantiable RX2 5 ∈ wsL_law := in_r2 _ (List.mem_of_getElem? (i := 2) rfl)
theorem iniX2 : Cond.initialized RX2 ∈ wsL_law := in_r2 _ (List.mem_of_getElem? (i := 3) rfl)
theorem cllX7_41 : Cond.classLink RX7 41 RX0 ∈ wsL_law := in_r2 _ (List.mem_of_getElem? (i := 5) rfl)
theorem insX0 : Cond.instantiable RX0 5 ∈ wsL_law := in_r2 _ (List.mem_of_getElem? (i := 6) rfl)
theorem iniX0 : Cond.initialized RX0 ∈ wsL_law := in_r2 _ (List.mem_of_getElem? (i := 7) rfl)
theorem cllX7_48 : Cond.classLink RX7 48 RX1 ∈ wsL_law := in_r2 _ (List.mem_of_getElem? (i := 9) rfl)
theorem insX1 : Cond.instantiable RX1 5 ∈ wsL_law := in_r2 _ (List.mem_of_getElem? (i := 10) rfl)
theorem iniX1 : Cond.initialized RX1 ∈ wsL_law := in_r2 _ (List.mem_of_getElem? (i := 11) rfl)
theorem cllX7_63 : Cond.classLink RX7 63 RX3 ∈ wsL_law := in_r2 _ (List.mem_of_getElem? (i := 16) rfl)
theorem insX3 : Cond.instantiable RX3 3 ∈ wsL_law := in_r2 _ (List.mem_of_getElem? (i := 18) rfl)
theorem iniX3 : Cond.initialized RX3 ∈ wsL_law := in_r2 _ (List.mem_of_getElem? (i := 19) rfl)
theorem cllX5_9 : Cond.classLink RX5 9 RX6 ∈ wsL_law := in_r3 _ (List.mem_of_getElem? (i := 5) rfl)
theorem dvX0 : ∀ j, j < 5 → defaultValue (tyX0 j) = vp_V [.int 0, .null, .null, .null, .null] j := by decide +kernel
theorem dvX1 : ∀ j, j < 5 → defaultValue (tyX1 j) = vp_V [.int 0, .int 0, .null, .null, .null] j := by decide +kernel
theorem dvX2 : ∀ j, j < 5 → defaultValue (tyX2 j) = vp_V [.int 0, .null, .null, .null, .null] j := by decide +kernel
theorem dvX3 : ∀ j, j < 3 → defaultValue (tyX3 j) = vp_V [.null, .int 0, .int 0] j := by decide +kernel
theorem dvX4 : ∀ j, j < 2 → defaultValue (tyX4 j) = vp_V [.null, .int 0] j := by decide +kernel
theorem dvX5 : ∀ j, j < 11 → defaultValue (tyX5 j) = vp_V [.null, .int 0, .int 0, .int 0, .null, .int 0, .int 0, .int 0, .int 0, .int 0, .int 0] j := by decide +kernel
theorem dvX6 : ∀ j, j < 15 → defaultValue (tyX6 j) = vp_V [.int 0, .null, .null, .null, .int 0, .null, .null, .null, .null, .int 0, .null, .null, .null, .int 0, .int 0] j := by decide +kernel
theorem dvX7 : ∀ j, j < 10 → defaultValue (tyX7 j) = vp_V [.null, .null, .null, .null, .null, .null, .null, .null, .null, .int 0] j := by decide +kernel
theorem dvX8 : ∀ j, j < 38 → defaultValue (tyX8 j) = vp_V [.null, .null, .int 0, .int 0, .null, .null, .int 0, .int 0, .int 0, .int 0, .int 0, .int 0, .null, .null, .int 0, .int 0, .int 0, .int 0, .int 0, .int 0, .int 0, .int 0, .null, .null, .null, .null, .int 0, .null, .null, .null, .null, .int 0, .int 0, .null, .null, .null, .null, .int 0] j := by decide +kernel
abbrev gd (G : GX) (ad : Nat → Nat) : GX := (G.1, G.2.1, ad, G.2.2.2)
theorem clear_ok {z : Int32 × Mem} (h : fnT6_clear (fun _ _ => 0) = some z) : z.2 0 0 = 0 ∧ z.2 0 4 = 0 ∧ z.2 0 9 = 0 ∧ z.2 0 13 = 0 ∧ z.2 0 14 = 1 := by
  have e : (fnT6_clear (fun _ _ => 0)).map (fun z => (z.2 0 0, z.2 0 4, z.2 0 9, z.2 0 13, z.2 0 14)) = some (0, 0, 0, 0, 1) := by decide +kernel
  rw [h] at e
  simp only [Option.map_some, Option.some.injEq, Prod.mk.injEq] at e
  exact ⟨e.1, e.2.1, e.2.2.1, e.2.2.2.1, e.2.2.2.2⟩
theorem clear_some : (fnT6_clear (fun _ _ => 0)).isSome = true := by decide +kernel
theorem cw_clear {M : MX} {G : GX} {A : Nat → Prop} {own : String} {cc : ByteArray} {nL : Nat} {ret : Option FieldType} {rm : Room} {Z : State → Prop} {c s pc : Nat} {L : List (Nat × Value)} {S : List Value} {ws : va_W} (C : CC M G A own cc nL ret rm) {index : Nat} (ad : Nat → Nat) (hws : ws = wl (gd G ad) shT 11 (fun _ _ => 0)) (hlk : Cond.methodLink own index yX6_clear ∈ wsL_law) (hR : rmT6_clear.frames + 1 ≤ rm.frames ∧ 8 + (2 + 11) + rmT6_clear.locals ≤ rm.locals) (hcat : (S.map fun v => v.category).sum ≤ 8) (hf : c ≤ rm.cells ∧ s ≤ rm.slots) (hdg : decode cc pc = .ok (.invokevirtual index, 3))
    (kk : ∀ z : Int32 × Mem, fnT6_clear (fun _ _ => 0) = some z → CW M G A nL Z c s (pc + 3) L S (wl (gd G ad) shT 11 z.2)) : CW M G A nL Z c s pc L (.ref (ad 0) :: S) ws := by
  subst hws
  obtain ⟨z, hz⟩ := Option.isSome_iff_exists.mp clear_some
  intro H locs ls hP hD hS hl
  have hts := C.2.2.2.2.1
  have e := C.2.2.2.2.2.2.2.2.2.2
  have hi : ∀ i j, i < 11 → j < 11 → gad (gd G ad) i = gad (gd G ad) j → i = j := fun i j h1 h2 h3 => hD.1 i j _ _ (wl_get h1) (wl_get h2) h3
  have hAX : ∀ q, AX (gd G ad) 11 q → A q := fun q ⟨k, h1, h2⟩ => by rw [h2]; exact hD.2 k _ (wl_get h1)
  have hM : MC (mL M) (gd G ad) shT 11 eM yX6_clear cX6_clear 2 none rmT6_clear [.ref (gad (gd G ad) 0)] (fun _ _ => 0) z := mtT6_clear hz
  have hr := va_runV (p := mP M) (l := mL M) (e := mE M) (R := mR M) (s := mS M) (m := mM M) (args := mA M) (below := mB M) (meth := mMe M) (c := mC M) (H := H) (locs := locs) (cells := c) (slots := s) (As := []) (rest := S) (b := gad (gd G ad) 0) (g := F0 (mM M) pc ls (.ref (ad 0) :: S)) (Ts := wsL_law) ⟨C.1, C.2.1, C.2.2.1, C.2.2.2.1, hts⟩ hM ⟨callB_of 0 hts (goodIn_all miX6_clear.1) rfl rfl rfl (hts _ miX6_clear.2.1) (hts _ hlk) miX6_clear.2.2 (by rw [e]; exact hR), hts _ imX6_clear, hts _ seX6_clear⟩ ⟨px_blind (eM_ok (fun _ => True)), va_recv C.2.2.2.2.2.2.2.1 hP (ci := 6) (q0 := 0) rfl (by rw [wl_get (by decide)]; rfl), fun U hU hW => ⟨rfl, by rw [hU]; exact hP, va_K.moved hW.alike C.2.2.2.2.2.2.2.1, hi, trivial⟩⟩ rfl rfl hl.1 rfl (lv_room hcat) hdg (by rw [e]; exact hf)
  intro T hT X
  obtain ⟨v, st0', t, T', L', h0, X', hL', e1, e2, ⟨hv, hP1, hF⟩, st⟩ := hr T hT X
  cases hv
  have hS1 : va_S A (mS M).heap T'.heap (locs ++ L') := by
    refine ⟨Nat.le_trans hS.1 (by rw [e1, ← h0]; exact hF.1), fun q h1 h2 => ?_, fun q hq => ?_⟩
    · rw [e1, hF.2 q (by rw [h0]; exact Nat.lt_of_lt_of_le h1 hS.1) (fun y => h2 (hAX q y)), h0]
      exact hS.2.1 q h1 h2
    · rcases List.mem_append.mp hq with h | h
      · exact hS.2.2 q h
      · exact hAX _ (hL' q h)
  have hD1 : va_D A (wl (gd G ad) shT 11 z.2) := (wl_D hi).weaken (fun k q _ h => hAX _ h)
  obtain ⟨t2, a1, b1⟩ := kk z hz T'.heap (locs ++ L') ls (by rw [e1]; exact hP1) hD1 hS1 hl T' rfl X'
  exact ⟨t2, st t2 a1, b1⟩

def poX4 (G : GX) (h : Nat) (ws : va_W) : Prop := ∃ q : Nat, ws = [(h, .inr (4, [.ref q, .int 0])), (q, .inl (G.2.1 1, 320, .inl (fun _ => 0)))]
def rkX4 : Room := { frames := 1, cells := 1, slots := 320, locals := 14 }
theorem kcX4 {l : Launch} {G : GX} {h : Nat} : KM l G yX4_init cX4_init 1 rkX4 h 4 [.null, .int 0] [] 1 320 (poX4 G h) := by
  refine km_of (by decide +kernel) rfl rfl (Nat.le_of_ble_eq_true rfl) (fun M hM C hin => ?_)
  refine cw_aload_n C 0 dX4_init_0 rfl rfl ?_
  refine cw_objInit C mlX4_3 oi_im oi_cd (by decide) (Nat.le_of_ble_eq_true rfl) dX4_init_1 ?_
  refine cw_aload_n C 0 dX4_init_4 rfl rfl ?_
  refine cw_sipush C (v := 320) dX4_init_5 (by decide) ?_
  refine cw_newa C (atype := .byte) 1 320 acl_byte rfl rfl (fun _ => rfl) (by decide) (by decide) (by decide) (by decide) (by decide) dX4_init_8 (fun q1 => ?_)
  refine cw_ws (ws' := [(h, .inr (4, [.null, .int 0])), (q1, .inl (G.2.1 1, 320, .inl (fun _ => 0)))]) rfl ?_
  refine cw_putF C hin (j := 0) (ty := .array .byte) 0 rfl rfl inlX4 (by decide) tyX4 tyX4_ok nmX4 flX4_11 rfl rfl (by decide +kernel) rfl rfl (Nat.le_of_ble_eq_true rfl) dX4_init_10 ?_
  refine cw_ws (ws' := [(h, .inr (4, [.ref q1, .int 0])), (q1, .inl (G.2.1 1, 320, .inl (fun _ => 0)))]) rfl ?_
  refine cw_widen (c' := 1) (s' := 320) (by decide) (by decide) ?_
  exact cw_vret C dX4_init_13 ⟨q1, rfl⟩
def poX3 (G : GX) (h : Nat) (ws : va_W) : Prop := ∃ q : Nat, ws = [(h, .inr (3, [.ref q, .int 0, .int (-4)])), (q, .inl (G.2.1 0, 40, .inl (fun _ => 0)))]
def rkX3 : Room := { frames := 1, cells := 1, slots := 40, locals := 14 }
theorem kcX3 {l : Launch} {G : GX} {h : Nat} : KM l G yX3_init cX3_init 1 rkX3 h 3 [.null, .int 0, .int 0] [] 1 40 (poX3 G h) := by
  refine km_of (by decide +kernel) rfl rfl (Nat.le_of_ble_eq_true rfl) (fun M hM C hin => ?_)
  refine cw_aload_n C 0 dX3_init_0 rfl rfl ?_
  refine cw_objInit C mlX3_3 oi_im oi_cd (by decide) (Nat.le_of_ble_eq_true rfl) dX3_init_1 ?_
  refine cw_aload_n C 0 dX3_init_4 rfl rfl ?_
  refine cw_bipush C (v := 40) dX3_init_5 (by decide) ?_
  refine cw_newa C (atype := .int) 0 40 acl_int rfl rfl (fun _ => rfl) (by decide) (by decide) (by decide) (by decide) (by decide) dX3_init_7 (fun q1 => ?_)
  refine cw_ws (ws' := [(h, .inr (3, [.null, .int 0, .int 0])), (q1, .inl (G.2.1 0, 40, .inl (fun _ => 0)))]) rfl ?_
  refine cw_putF C hin (j := 0) (ty := .array .int) 0 rfl rfl inlX3 (by decide) tyX3 tyX3_ok nmX3 flX3_11 rfl rfl (by decide +kernel) rfl rfl (Nat.le_of_ble_eq_true rfl) dX3_init_9 ?_
  refine cw_ws (ws' := [(h, .inr (3, [.ref q1, .int 0, .int 0])), (q1, .inl (G.2.1 0, 40, .inl (fun _ => 0)))]) rfl ?_
  refine cw_aload_n C 0 dX3_init_12 rfl rfl ?_
  refine cw_bipush C (v := (-4)) dX3_init_13 (by decide) ?_
  refine cw_putI C (j := 2) (ty := .int) 0 rfl rfl inlX3 (by decide) tyX3 tyX3_ok nmX3 flX3_15 rfl (by decide +kernel) rfl rfl (Nat.le_of_ble_eq_true rfl) dX3_init_15 ?_
  refine cw_ws (ws' := [(h, .inr (3, [.ref q1, .int 0, .int (-4)])), (q1, .inl (G.2.1 0, 40, .inl (fun _ => 0)))]) rfl ?_
  refine cw_widen (c' := 1) (s' := 40) (by decide) (by decide) ?_
  exact cw_vret C dX3_init_18 ⟨q1, rfl⟩
def poX2 (G : GX) (h t : Nat) (ws : va_W) : Prop := ∃ q1 q2 q3 : Nat, ws = [(h, .inr (2, [.int 0, .ref q1, .ref q2, .ref t, .ref q3])), (q1, .inl (G.2.1 0, 6, .inl (fun _ => 0))), (q2, .inl (G.2.1 2, 6, .inl (fun _ => 0))), (q3, .inl (G.2.1 0, 12, .inl (fun _ => 0)))]
def rkX2 : Room := { frames := 1, cells := 3, slots := 24, locals := 14 }
theorem kcX2 {l : Launch} {G : GX} {h t : Nat} : KM l G yX2_init cX2_init 2 rkX2 h 2 [.int 0, .null, .null, .null, .null] [.ref t] 3 24 (poX2 G h t) := by
  refine km_of (by decide +kernel) rfl rfl (Nat.le_of_ble_eq_true rfl) (fun M hM C hin => ?_)
  refine cw_aload_n C 0 dX2_init_0 rfl rfl ?_
  refine cw_objInit C mlX2_3 oi_im oi_cd (by decide) (Nat.le_of_ble_eq_true rfl) dX2_init_1 ?_
  refine cw_aload_n C 0 dX2_init_4 rfl rfl ?_
  refine cw_bipush C (v := 6) dX2_init_5 (by decide) ?_
  refine cw_newa C (atype := .int) 0 6 acl_int rfl rfl (fun _ => rfl) (by decide) (by decide) (by decide) (by decide) (by decide) dX2_init_7 (fun q1 => ?_)
  refine cw_ws (ws' := [(h, .inr (2, [.int 0, .null, .null, .null, .null])), (q1, .inl (G.2.1 0, 6, .inl (fun _ => 0)))]) rfl ?_
  refine cw_putF C hin (j := 1) (ty := .array .int) 0 rfl rfl inlX2 (by decide) tyX2 tyX2_ok nmX2 flX2_11 rfl rfl (by decide +kernel) rfl rfl (Nat.le_of_ble_eq_true rfl) dX2_init_9 ?_
  refine cw_ws (ws' := [(h, .inr (2, [.int 0, .ref q1, .null, .null, .null])), (q1, .inl (G.2.1 0, 6, .inl (fun _ => 0)))]) rfl ?_
  refine cw_aload_n C 0 dX2_init_12 rfl rfl ?_
  refine cw_bipush C (v := 6) dX2_init_13 (by decide) ?_
  refine cw_newa C (atype := .boolean) 2 6 acl_boolean rfl rfl (fun _ => rfl) (by decide) (by decide) (by decide) (by decide) (by decide) dX2_init_15 (fun q2 => ?_)
  refine cw_ws (ws' := [(h, .inr (2, [.int 0, .ref q1, .null, .null, .null])), (q1, .inl (G.2.1 0, 6, .inl (fun _ => 0))), (q2, .inl (G.2.1 2, 6, .inl (fun _ => 0)))]) rfl ?_
  refine cw_putF C hin (j := 2) (ty := .array .boolean) 0 rfl rfl inlX2 (by decide) tyX2 tyX2_ok nmX2 flX2_15 rfl rfl (by decide +kernel) rfl rfl (Nat.le_of_ble_eq_true rfl) dX2_init_17 ?_
  refine cw_ws (ws' := [(h, .inr (2, [.int 0, .ref q1, .ref q2, .null, .null])), (q1, .inl (G.2.1 0, 6, .inl (fun _ => 0))), (q2, .inl (G.2.1 2, 6, .inl (fun _ => 0)))]) rfl ?_
  refine cw_aload_n C 0 dX2_init_20 rfl rfl ?_
  refine cw_bipush C (v := 12) dX2_init_21 (by decide) ?_
  refine cw_newa C (atype := .int) 0 12 acl_int rfl rfl (fun _ => rfl) (by decide) (by decide) (by decide) (by decide) (by decide) dX2_init_23 (fun q3 => ?_)
  refine cw_ws (ws' := [(h, .inr (2, [.int 0, .ref q1, .ref q2, .null, .null])), (q1, .inl (G.2.1 0, 6, .inl (fun _ => 0))), (q2, .inl (G.2.1 2, 6, .inl (fun _ => 0))), (q3, .inl (G.2.1 0, 12, .inl (fun _ => 0)))]) rfl ?_
  refine cw_putF C hin (j := 4) (ty := .array .int) 0 rfl rfl inlX2 (by decide) tyX2 tyX2_ok nmX2 flX2_19 rfl rfl (by decide +kernel) rfl rfl (Nat.le_of_ble_eq_true rfl) dX2_init_25 ?_
  refine cw_ws (ws' := [(h, .inr (2, [.int 0, .ref q1, .ref q2, .null, .ref q3])), (q1, .inl (G.2.1 0, 6, .inl (fun _ => 0))), (q2, .inl (G.2.1 2, 6, .inl (fun _ => 0))), (q3, .inl (G.2.1 0, 12, .inl (fun _ => 0)))]) rfl ?_
  refine cw_aload_n C 0 dX2_init_28 rfl rfl ?_
  refine cw_aload_n C 1 dX2_init_29 rfl rfl ?_
  refine cw_putF C hin (j := 3) (ty := .object "SilenceCoin$Town") 0 rfl rfl inlX2 (by decide) tyX2 tyX2_ok nmX2 flX2_22 rfl rfl (by decide +kernel) rfl rfl (Nat.le_of_ble_eq_true rfl) dX2_init_30 ?_
  refine cw_ws (ws' := [(h, .inr (2, [.int 0, .ref q1, .ref q2, .ref t, .ref q3])), (q1, .inl (G.2.1 0, 6, .inl (fun _ => 0))), (q2, .inl (G.2.1 2, 6, .inl (fun _ => 0))), (q3, .inl (G.2.1 0, 12, .inl (fun _ => 0)))]) rfl ?_
  refine cw_widen (c' := 3) (s' := 24) (by decide) (by decide) ?_
  exact cw_vret C dX2_init_33 ⟨q1, q2, q3, rfl⟩
def poX1 (G : GX) (h : Nat) (ws : va_W) : Prop := ∃ q1 q2 q3 : Nat, ws = [(h, .inr (1, [.int 0, .int 0, .ref q1, .ref q2, .ref q3])), (q1, .inl (G.2.1 0, 64, .inl (fun _ => 0))), (q2, .inl (G.2.1 0, 8, .inl (fun _ => 0))), (q3, .inl (G.2.1 2, 8, .inl (fun _ => 0)))]
def rkX1 : Room := { frames := 1, cells := 3, slots := 80, locals := 14 }
theorem kcX1 {l : Launch} {G : GX} {h : Nat} : KM l G yX1_init cX1_init 1 rkX1 h 1 [.int 0, .int 0, .null, .null, .null] [] 3 80 (poX1 G h) := by
  refine km_of (by decide +kernel) rfl rfl (Nat.le_of_ble_eq_true rfl) (fun M hM C hin => ?_)
  refine cw_aload_n C 0 dX1_init_0 rfl rfl ?_
  refine cw_objInit C mlX1_3 oi_im oi_cd (by decide) (Nat.le_of_ble_eq_true rfl) dX1_init_1 ?_
  refine cw_aload_n C 0 dX1_init_4 rfl rfl ?_
  refine cw_bipush C (v := 64) dX1_init_5 (by decide) ?_
  refine cw_newa C (atype := .int) 0 64 acl_int rfl rfl (fun _ => rfl) (by decide) (by decide) (by decide) (by decide) (by decide) dX1_init_7 (fun q1 => ?_)
  refine cw_ws (ws' := [(h, .inr (1, [.int 0, .int 0, .null, .null, .null])), (q1, .inl (G.2.1 0, 64, .inl (fun _ => 0)))]) rfl ?_
  refine cw_putF C hin (j := 2) (ty := .array .int) 0 rfl rfl inlX1 (by decide) tyX1 tyX1_ok nmX1 flX1_11 rfl rfl (by decide +kernel) rfl rfl (Nat.le_of_ble_eq_true rfl) dX1_init_9 ?_
  refine cw_ws (ws' := [(h, .inr (1, [.int 0, .int 0, .ref q1, .null, .null])), (q1, .inl (G.2.1 0, 64, .inl (fun _ => 0)))]) rfl ?_
  refine cw_aload_n C 0 dX1_init_12 rfl rfl ?_
  refine cw_bipush C (v := 8) dX1_init_13 (by decide) ?_
  refine cw_newa C (atype := .int) 0 8 acl_int rfl rfl (fun _ => rfl) (by decide) (by decide) (by decide) (by decide) (by decide) dX1_init_15 (fun q2 => ?_)
  refine cw_ws (ws' := [(h, .inr (1, [.int 0, .int 0, .ref q1, .null, .null])), (q1, .inl (G.2.1 0, 64, .inl (fun _ => 0))), (q2, .inl (G.2.1 0, 8, .inl (fun _ => 0)))]) rfl ?_
  refine cw_putF C hin (j := 3) (ty := .array .int) 0 rfl rfl inlX1 (by decide) tyX1 tyX1_ok nmX1 flX1_15 rfl rfl (by decide +kernel) rfl rfl (Nat.le_of_ble_eq_true rfl) dX1_init_17 ?_
  refine cw_ws (ws' := [(h, .inr (1, [.int 0, .int 0, .ref q1, .ref q2, .null])), (q1, .inl (G.2.1 0, 64, .inl (fun _ => 0))), (q2, .inl (G.2.1 0, 8, .inl (fun _ => 0)))]) rfl ?_
  refine cw_aload_n C 0 dX1_init_20 rfl rfl ?_
  refine cw_bipush C (v := 8) dX1_init_21 (by decide) ?_
  refine cw_newa C (atype := .boolean) 2 8 acl_boolean rfl rfl (fun _ => rfl) (by decide) (by decide) (by decide) (by decide) (by decide) dX1_init_23 (fun q3 => ?_)
  refine cw_ws (ws' := [(h, .inr (1, [.int 0, .int 0, .ref q1, .ref q2, .null])), (q1, .inl (G.2.1 0, 64, .inl (fun _ => 0))), (q2, .inl (G.2.1 0, 8, .inl (fun _ => 0))), (q3, .inl (G.2.1 2, 8, .inl (fun _ => 0)))]) rfl ?_
  refine cw_putF C hin (j := 4) (ty := .array .boolean) 0 rfl rfl inlX1 (by decide) tyX1 tyX1_ok nmX1 flX1_18 rfl rfl (by decide +kernel) rfl rfl (Nat.le_of_ble_eq_true rfl) dX1_init_25 ?_
  refine cw_ws (ws' := [(h, .inr (1, [.int 0, .int 0, .ref q1, .ref q2, .ref q3])), (q1, .inl (G.2.1 0, 64, .inl (fun _ => 0))), (q2, .inl (G.2.1 0, 8, .inl (fun _ => 0))), (q3, .inl (G.2.1 2, 8, .inl (fun _ => 0)))]) rfl ?_
  refine cw_widen (c' := 3) (s' := 80) (by decide) (by decide) ?_
  exact cw_vret C dX1_init_28 ⟨q1, q2, q3, rfl⟩
def poX0 (G : GX) (h t : Nat) (ws : va_W) : Prop := ∃ q1 q2 q3 : Nat, ws = [(h, .inr (0, [.int 0, .ref q1, .ref t, .ref q2, .ref q3])), (q1, .inl (G.2.1 0, 6, .inl (fun _ => 0))), (q2, .inl (G.2.1 0, 6, .inl (fun _ => 0))), (q3, .inl (G.2.1 0, 6, .inl (fun _ => 0)))]
def rkX0 : Room := { frames := 1, cells := 3, slots := 18, locals := 14 }
theorem kcX0 {l : Launch} {G : GX} {h t : Nat} : KM l G yX0_init cX0_init 2 rkX0 h 0 [.int 0, .null, .null, .null, .null] [.ref t] 3 18 (poX0 G h t) := by
  refine km_of (by decide +kernel) rfl rfl (Nat.le_of_ble_eq_true rfl) (fun M hM C hin => ?_)
  refine cw_aload_n C 0 dX0_init_0 rfl rfl ?_
  refine cw_objInit C mlX0_3 oi_im oi_cd (by decide) (Nat.le_of_ble_eq_true rfl) dX0_init_1 ?_
  refine cw_aload_n C 0 dX0_init_4 rfl rfl ?_
  refine cw_bipush C (v := 6) dX0_init_5 (by decide) ?_
  refine cw_newa C (atype := .int) 0 6 acl_int rfl rfl (fun _ => rfl) (by decide) (by decide) (by decide) (by decide) (by decide) dX0_init_7 (fun q1 => ?_)
  refine cw_ws (ws' := [(h, .inr (0, [.int 0, .null, .null, .null, .null])), (q1, .inl (G.2.1 0, 6, .inl (fun _ => 0)))]) rfl ?_
  refine cw_putF C hin (j := 1) (ty := .array .int) 0 rfl rfl inlX0 (by decide) tyX0 tyX0_ok nmX0 flX0_9 rfl rfl (by decide +kernel) rfl rfl (Nat.le_of_ble_eq_true rfl) dX0_init_9 ?_
  refine cw_ws (ws' := [(h, .inr (0, [.int 0, .ref q1, .null, .null, .null])), (q1, .inl (G.2.1 0, 6, .inl (fun _ => 0)))]) rfl ?_
  refine cw_aload_n C 0 dX0_init_12 rfl rfl ?_
  refine cw_bipush C (v := 6) dX0_init_13 (by decide) ?_
  refine cw_newa C (atype := .int) 0 6 acl_int rfl rfl (fun _ => rfl) (by decide) (by decide) (by decide) (by decide) (by decide) dX0_init_15 (fun q2 => ?_)
  refine cw_ws (ws' := [(h, .inr (0, [.int 0, .ref q1, .null, .null, .null])), (q1, .inl (G.2.1 0, 6, .inl (fun _ => 0))), (q2, .inl (G.2.1 0, 6, .inl (fun _ => 0)))]) rfl ?_
  refine cw_putF C hin (j := 3) (ty := .array .int) 0 rfl rfl inlX0 (by decide) tyX0 tyX0_ok nmX0 flX0_15 rfl rfl (by decide +kernel) rfl rfl (Nat.le_of_ble_eq_true rfl) dX0_init_17 ?_
  refine cw_ws (ws' := [(h, .inr (0, [.int 0, .ref q1, .null, .ref q2, .null])), (q1, .inl (G.2.1 0, 6, .inl (fun _ => 0))), (q2, .inl (G.2.1 0, 6, .inl (fun _ => 0)))]) rfl ?_
  refine cw_aload_n C 0 dX0_init_20 rfl rfl ?_
  refine cw_bipush C (v := 6) dX0_init_21 (by decide) ?_
  refine cw_newa C (atype := .int) 0 6 acl_int rfl rfl (fun _ => rfl) (by decide) (by decide) (by decide) (by decide) (by decide) dX0_init_23 (fun q3 => ?_)
  refine cw_ws (ws' := [(h, .inr (0, [.int 0, .ref q1, .null, .ref q2, .null])), (q1, .inl (G.2.1 0, 6, .inl (fun _ => 0))), (q2, .inl (G.2.1 0, 6, .inl (fun _ => 0))), (q3, .inl (G.2.1 0, 6, .inl (fun _ => 0)))]) rfl ?_
  refine cw_putF C hin (j := 4) (ty := .array .int) 0 rfl rfl inlX0 (by decide) tyX0 tyX0_ok nmX0 flX0_18 rfl rfl (by decide +kernel) rfl rfl (Nat.le_of_ble_eq_true rfl) dX0_init_25 ?_
  refine cw_ws (ws' := [(h, .inr (0, [.int 0, .ref q1, .null, .ref q2, .ref q3])), (q1, .inl (G.2.1 0, 6, .inl (fun _ => 0))), (q2, .inl (G.2.1 0, 6, .inl (fun _ => 0))), (q3, .inl (G.2.1 0, 6, .inl (fun _ => 0)))]) rfl ?_
  refine cw_aload_n C 0 dX0_init_28 rfl rfl ?_
  refine cw_aload_n C 1 dX0_init_29 rfl rfl ?_
  refine cw_putF C hin (j := 2) (ty := .object "SilenceCoin$Town") 0 rfl rfl inlX0 (by decide) tyX0 tyX0_ok nmX0 flX0_21 rfl rfl (by decide +kernel) rfl rfl (Nat.le_of_ble_eq_true rfl) dX0_init_30 ?_
  refine cw_ws (ws' := [(h, .inr (0, [.int 0, .ref q1, .ref t, .ref q2, .ref q3])), (q1, .inl (G.2.1 0, 6, .inl (fun _ => 0))), (q2, .inl (G.2.1 0, 6, .inl (fun _ => 0))), (q3, .inl (G.2.1 0, 6, .inl (fun _ => 0)))]) rfl ?_
  refine cw_widen (c' := 3) (s' := 18) (by decide) (by decide) ?_
  exact cw_vret C dX0_init_33 ⟨q1, q2, q3, rfl⟩
def poX6 (G : GX) (h : Nat) (ws : va_W) : Prop := ∃ (ad : Nat → Nat) (w : Mem), ad 0 = h ∧ (w 0 0 = 0 ∧ w 0 4 = 0 ∧ w 0 9 = 0 ∧ w 0 13 = 0 ∧ w 0 14 = 1) ∧ ws = wl (gd G ad) shT 11 w
def rkX6 : Room := { frames := 3, cells := 10, slots := 72, locals := 60 }
theorem kcX6 {l : Launch} {G : GX} {h : Nat} : KM l G yX6_init cX6_init 1 rkX6 h 6 [.int 0, .null, .null, .null, .int 0, .null, .null, .null, .null, .int 0, .null, .null, .null, .int 0, .int 0] [] 10 72 (poX6 G h) := by
  refine km_of (by decide +kernel) rfl rfl (Nat.le_of_ble_eq_true rfl) (fun M hM C hin => ?_)
  refine cw_aload_n C 0 dX6_init_0 rfl rfl ?_
  refine cw_objInit C mlX6_3 oi_im oi_cd (by decide) (Nat.le_of_ble_eq_true rfl) dX6_init_1 ?_
  refine cw_aload_n C 0 dX6_init_4 rfl rfl ?_
  refine cw_bipush C (v := 6) dX6_init_5 (by decide) ?_
  refine cw_newa C (atype := .int) 0 6 acl_int rfl rfl (fun _ => rfl) (by decide) (by decide) (by decide) (by decide) (by decide) dX6_init_7 (fun q1 => ?_)
  refine cw_ws (ws' := [(h, .inr (6, [.int 0, .null, .null, .null, .int 0, .null, .null, .null, .null, .int 0, .null, .null, .null, .int 0, .int 0])), (q1, .inl (G.2.1 0, 6, .inl (fun _ => 0)))]) rfl ?_
  refine cw_putF C hin (j := 1) (ty := .array .int) 0 rfl rfl inlX6 (by decide) tyX6 tyX6_ok nmX6 flX6_9 rfl rfl (by decide +kernel) rfl rfl (Nat.le_of_ble_eq_true rfl) dX6_init_9 ?_
  refine cw_ws (ws' := [(h, .inr (6, [.int 0, .ref q1, .null, .null, .int 0, .null, .null, .null, .null, .int 0, .null, .null, .null, .int 0, .int 0])), (q1, .inl (G.2.1 0, 6, .inl (fun _ => 0)))]) rfl ?_
  refine cw_aload_n C 0 dX6_init_12 rfl rfl ?_
  refine cw_bipush C (v := 6) dX6_init_13 (by decide) ?_
  refine cw_newa C (atype := .int) 0 6 acl_int rfl rfl (fun _ => rfl) (by decide) (by decide) (by decide) (by decide) (by decide) dX6_init_15 (fun q2 => ?_)
  refine cw_ws (ws' := [(h, .inr (6, [.int 0, .ref q1, .null, .null, .int 0, .null, .null, .null, .null, .int 0, .null, .null, .null, .int 0, .int 0])), (q1, .inl (G.2.1 0, 6, .inl (fun _ => 0))), (q2, .inl (G.2.1 0, 6, .inl (fun _ => 0)))]) rfl ?_
  refine cw_putF C hin (j := 2) (ty := .array .int) 0 rfl rfl inlX6 (by decide) tyX6 tyX6_ok nmX6 flX6_15 rfl rfl (by decide +kernel) rfl rfl (Nat.le_of_ble_eq_true rfl) dX6_init_17 ?_
  refine cw_ws (ws' := [(h, .inr (6, [.int 0, .ref q1, .ref q2, .null, .int 0, .null, .null, .null, .null, .int 0, .null, .null, .null, .int 0, .int 0])), (q1, .inl (G.2.1 0, 6, .inl (fun _ => 0))), (q2, .inl (G.2.1 0, 6, .inl (fun _ => 0)))]) rfl ?_
  refine cw_aload_n C 0 dX6_init_20 rfl rfl ?_
  refine cw_bipush C (v := 6) dX6_init_21 (by decide) ?_
  refine cw_newa C (atype := .int) 0 6 acl_int rfl rfl (fun _ => rfl) (by decide) (by decide) (by decide) (by decide) (by decide) dX6_init_23 (fun q3 => ?_)
  refine cw_ws (ws' := [(h, .inr (6, [.int 0, .ref q1, .ref q2, .null, .int 0, .null, .null, .null, .null, .int 0, .null, .null, .null, .int 0, .int 0])), (q1, .inl (G.2.1 0, 6, .inl (fun _ => 0))), (q2, .inl (G.2.1 0, 6, .inl (fun _ => 0))), (q3, .inl (G.2.1 0, 6, .inl (fun _ => 0)))]) rfl ?_
  refine cw_putF C hin (j := 3) (ty := .array .int) 0 rfl rfl inlX6 (by decide) tyX6 tyX6_ok nmX6 flX6_18 rfl rfl (by decide +kernel) rfl rfl (Nat.le_of_ble_eq_true rfl) dX6_init_25 ?_
  refine cw_ws (ws' := [(h, .inr (6, [.int 0, .ref q1, .ref q2, .ref q3, .int 0, .null, .null, .null, .null, .int 0, .null, .null, .null, .int 0, .int 0])), (q1, .inl (G.2.1 0, 6, .inl (fun _ => 0))), (q2, .inl (G.2.1 0, 6, .inl (fun _ => 0))), (q3, .inl (G.2.1 0, 6, .inl (fun _ => 0)))]) rfl ?_
  refine cw_aload_n C 0 dX6_init_28 rfl rfl ?_
  refine cw_bipush C (v := 6) dX6_init_29 (by decide) ?_
  refine cw_newa C (atype := .int) 0 6 acl_int rfl rfl (fun _ => rfl) (by decide) (by decide) (by decide) (by decide) (by decide) dX6_init_31 (fun q4 => ?_)
  refine cw_ws (ws' := [(h, .inr (6, [.int 0, .ref q1, .ref q2, .ref q3, .int 0, .null, .null, .null, .null, .int 0, .null, .null, .null, .int 0, .int 0])), (q1, .inl (G.2.1 0, 6, .inl (fun _ => 0))), (q2, .inl (G.2.1 0, 6, .inl (fun _ => 0))), (q3, .inl (G.2.1 0, 6, .inl (fun _ => 0))), (q4, .inl (G.2.1 0, 6, .inl (fun _ => 0)))]) rfl ?_
  refine cw_putF C hin (j := 5) (ty := .array .int) 0 rfl rfl inlX6 (by decide) tyX6 tyX6_ok nmX6 flX6_21 rfl rfl (by decide +kernel) rfl rfl (Nat.le_of_ble_eq_true rfl) dX6_init_33 ?_
  refine cw_ws (ws' := [(h, .inr (6, [.int 0, .ref q1, .ref q2, .ref q3, .int 0, .ref q4, .null, .null, .null, .int 0, .null, .null, .null, .int 0, .int 0])), (q1, .inl (G.2.1 0, 6, .inl (fun _ => 0))), (q2, .inl (G.2.1 0, 6, .inl (fun _ => 0))), (q3, .inl (G.2.1 0, 6, .inl (fun _ => 0))), (q4, .inl (G.2.1 0, 6, .inl (fun _ => 0)))]) rfl ?_
  refine cw_aload_n C 0 dX6_init_36 rfl rfl ?_
  refine cw_bipush C (v := 6) dX6_init_37 (by decide) ?_
  refine cw_newa C (atype := .int) 0 6 acl_int rfl rfl (fun _ => rfl) (by decide) (by decide) (by decide) (by decide) (by decide) dX6_init_39 (fun q5 => ?_)
  refine cw_ws (ws' := [(h, .inr (6, [.int 0, .ref q1, .ref q2, .ref q3, .int 0, .ref q4, .null, .null, .null, .int 0, .null, .null, .null, .int 0, .int 0])), (q1, .inl (G.2.1 0, 6, .inl (fun _ => 0))), (q2, .inl (G.2.1 0, 6, .inl (fun _ => 0))), (q3, .inl (G.2.1 0, 6, .inl (fun _ => 0))), (q4, .inl (G.2.1 0, 6, .inl (fun _ => 0))), (q5, .inl (G.2.1 0, 6, .inl (fun _ => 0)))]) rfl ?_
  refine cw_putF C hin (j := 6) (ty := .array .int) 0 rfl rfl inlX6 (by decide) tyX6 tyX6_ok nmX6 flX6_24 rfl rfl (by decide +kernel) rfl rfl (Nat.le_of_ble_eq_true rfl) dX6_init_41 ?_
  refine cw_ws (ws' := [(h, .inr (6, [.int 0, .ref q1, .ref q2, .ref q3, .int 0, .ref q4, .ref q5, .null, .null, .int 0, .null, .null, .null, .int 0, .int 0])), (q1, .inl (G.2.1 0, 6, .inl (fun _ => 0))), (q2, .inl (G.2.1 0, 6, .inl (fun _ => 0))), (q3, .inl (G.2.1 0, 6, .inl (fun _ => 0))), (q4, .inl (G.2.1 0, 6, .inl (fun _ => 0))), (q5, .inl (G.2.1 0, 6, .inl (fun _ => 0)))]) rfl ?_
  refine cw_aload_n C 0 dX6_init_44 rfl rfl ?_
  refine cw_bipush C (v := 6) dX6_init_45 (by decide) ?_
  refine cw_newa C (atype := .boolean) 2 6 acl_boolean rfl rfl (fun _ => rfl) (by decide) (by decide) (by decide) (by decide) (by decide) dX6_init_47 (fun q6 => ?_)
  refine cw_ws (ws' := [(h, .inr (6, [.int 0, .ref q1, .ref q2, .ref q3, .int 0, .ref q4, .ref q5, .null, .null, .int 0, .null, .null, .null, .int 0, .int 0])), (q1, .inl (G.2.1 0, 6, .inl (fun _ => 0))), (q2, .inl (G.2.1 0, 6, .inl (fun _ => 0))), (q3, .inl (G.2.1 0, 6, .inl (fun _ => 0))), (q4, .inl (G.2.1 0, 6, .inl (fun _ => 0))), (q5, .inl (G.2.1 0, 6, .inl (fun _ => 0))), (q6, .inl (G.2.1 2, 6, .inl (fun _ => 0)))]) rfl ?_
  refine cw_putF C hin (j := 7) (ty := .array .boolean) 0 rfl rfl inlX6 (by decide) tyX6 tyX6_ok nmX6 flX6_27 rfl rfl (by decide +kernel) rfl rfl (Nat.le_of_ble_eq_true rfl) dX6_init_49 ?_
  refine cw_ws (ws' := [(h, .inr (6, [.int 0, .ref q1, .ref q2, .ref q3, .int 0, .ref q4, .ref q5, .ref q6, .null, .int 0, .null, .null, .null, .int 0, .int 0])), (q1, .inl (G.2.1 0, 6, .inl (fun _ => 0))), (q2, .inl (G.2.1 0, 6, .inl (fun _ => 0))), (q3, .inl (G.2.1 0, 6, .inl (fun _ => 0))), (q4, .inl (G.2.1 0, 6, .inl (fun _ => 0))), (q5, .inl (G.2.1 0, 6, .inl (fun _ => 0))), (q6, .inl (G.2.1 2, 6, .inl (fun _ => 0)))]) rfl ?_
  refine cw_aload_n C 0 dX6_init_52 rfl rfl ?_
  refine cw_bipush C (v := 6) dX6_init_53 (by decide) ?_
  refine cw_newa C (atype := .int) 0 6 acl_int rfl rfl (fun _ => rfl) (by decide) (by decide) (by decide) (by decide) (by decide) dX6_init_55 (fun q7 => ?_)
  refine cw_ws (ws' := [(h, .inr (6, [.int 0, .ref q1, .ref q2, .ref q3, .int 0, .ref q4, .ref q5, .ref q6, .null, .int 0, .null, .null, .null, .int 0, .int 0])), (q1, .inl (G.2.1 0, 6, .inl (fun _ => 0))), (q2, .inl (G.2.1 0, 6, .inl (fun _ => 0))), (q3, .inl (G.2.1 0, 6, .inl (fun _ => 0))), (q4, .inl (G.2.1 0, 6, .inl (fun _ => 0))), (q5, .inl (G.2.1 0, 6, .inl (fun _ => 0))), (q6, .inl (G.2.1 2, 6, .inl (fun _ => 0))), (q7, .inl (G.2.1 0, 6, .inl (fun _ => 0)))]) rfl ?_
  refine cw_putF C hin (j := 8) (ty := .array .int) 0 rfl rfl inlX6 (by decide) tyX6 tyX6_ok nmX6 flX6_31 rfl rfl (by decide +kernel) rfl rfl (Nat.le_of_ble_eq_true rfl) dX6_init_57 ?_
  refine cw_ws (ws' := [(h, .inr (6, [.int 0, .ref q1, .ref q2, .ref q3, .int 0, .ref q4, .ref q5, .ref q6, .ref q7, .int 0, .null, .null, .null, .int 0, .int 0])), (q1, .inl (G.2.1 0, 6, .inl (fun _ => 0))), (q2, .inl (G.2.1 0, 6, .inl (fun _ => 0))), (q3, .inl (G.2.1 0, 6, .inl (fun _ => 0))), (q4, .inl (G.2.1 0, 6, .inl (fun _ => 0))), (q5, .inl (G.2.1 0, 6, .inl (fun _ => 0))), (q6, .inl (G.2.1 2, 6, .inl (fun _ => 0))), (q7, .inl (G.2.1 0, 6, .inl (fun _ => 0)))]) rfl ?_
  refine cw_aload_n C 0 dX6_init_60 rfl rfl ?_
  refine cw_bipush C (v := 10) dX6_init_61 (by decide) ?_
  refine cw_newa C (atype := .int) 0 10 acl_int rfl rfl (fun _ => rfl) (by decide) (by decide) (by decide) (by decide) (by decide) dX6_init_63 (fun q8 => ?_)
  refine cw_ws (ws' := [(h, .inr (6, [.int 0, .ref q1, .ref q2, .ref q3, .int 0, .ref q4, .ref q5, .ref q6, .ref q7, .int 0, .null, .null, .null, .int 0, .int 0])), (q1, .inl (G.2.1 0, 6, .inl (fun _ => 0))), (q2, .inl (G.2.1 0, 6, .inl (fun _ => 0))), (q3, .inl (G.2.1 0, 6, .inl (fun _ => 0))), (q4, .inl (G.2.1 0, 6, .inl (fun _ => 0))), (q5, .inl (G.2.1 0, 6, .inl (fun _ => 0))), (q6, .inl (G.2.1 2, 6, .inl (fun _ => 0))), (q7, .inl (G.2.1 0, 6, .inl (fun _ => 0))), (q8, .inl (G.2.1 0, 10, .inl (fun _ => 0)))]) rfl ?_
  refine cw_putF C hin (j := 10) (ty := .array .int) 0 rfl rfl inlX6 (by decide) tyX6 tyX6_ok nmX6 flX6_34 rfl rfl (by decide +kernel) rfl rfl (Nat.le_of_ble_eq_true rfl) dX6_init_65 ?_
  refine cw_ws (ws' := [(h, .inr (6, [.int 0, .ref q1, .ref q2, .ref q3, .int 0, .ref q4, .ref q5, .ref q6, .ref q7, .int 0, .ref q8, .null, .null, .int 0, .int 0])), (q1, .inl (G.2.1 0, 6, .inl (fun _ => 0))), (q2, .inl (G.2.1 0, 6, .inl (fun _ => 0))), (q3, .inl (G.2.1 0, 6, .inl (fun _ => 0))), (q4, .inl (G.2.1 0, 6, .inl (fun _ => 0))), (q5, .inl (G.2.1 0, 6, .inl (fun _ => 0))), (q6, .inl (G.2.1 2, 6, .inl (fun _ => 0))), (q7, .inl (G.2.1 0, 6, .inl (fun _ => 0))), (q8, .inl (G.2.1 0, 10, .inl (fun _ => 0)))]) rfl ?_
  refine cw_aload_n C 0 dX6_init_68 rfl rfl ?_
  refine cw_bipush C (v := 10) dX6_init_69 (by decide) ?_
  refine cw_newa C (atype := .int) 0 10 acl_int rfl rfl (fun _ => rfl) (by decide) (by decide) (by decide) (by decide) (by decide) dX6_init_71 (fun q9 => ?_)
  refine cw_ws (ws' := [(h, .inr (6, [.int 0, .ref q1, .ref q2, .ref q3, .int 0, .ref q4, .ref q5, .ref q6, .ref q7, .int 0, .ref q8, .null, .null, .int 0, .int 0])), (q1, .inl (G.2.1 0, 6, .inl (fun _ => 0))), (q2, .inl (G.2.1 0, 6, .inl (fun _ => 0))), (q3, .inl (G.2.1 0, 6, .inl (fun _ => 0))), (q4, .inl (G.2.1 0, 6, .inl (fun _ => 0))), (q5, .inl (G.2.1 0, 6, .inl (fun _ => 0))), (q6, .inl (G.2.1 2, 6, .inl (fun _ => 0))), (q7, .inl (G.2.1 0, 6, .inl (fun _ => 0))), (q8, .inl (G.2.1 0, 10, .inl (fun _ => 0))), (q9, .inl (G.2.1 0, 10, .inl (fun _ => 0)))]) rfl ?_
  refine cw_putF C hin (j := 11) (ty := .array .int) 0 rfl rfl inlX6 (by decide) tyX6 tyX6_ok nmX6 flX6_37 rfl rfl (by decide +kernel) rfl rfl (Nat.le_of_ble_eq_true rfl) dX6_init_73 ?_
  refine cw_ws (ws' := [(h, .inr (6, [.int 0, .ref q1, .ref q2, .ref q3, .int 0, .ref q4, .ref q5, .ref q6, .ref q7, .int 0, .ref q8, .ref q9, .null, .int 0, .int 0])), (q1, .inl (G.2.1 0, 6, .inl (fun _ => 0))), (q2, .inl (G.2.1 0, 6, .inl (fun _ => 0))), (q3, .inl (G.2.1 0, 6, .inl (fun _ => 0))), (q4, .inl (G.2.1 0, 6, .inl (fun _ => 0))), (q5, .inl (G.2.1 0, 6, .inl (fun _ => 0))), (q6, .inl (G.2.1 2, 6, .inl (fun _ => 0))), (q7, .inl (G.2.1 0, 6, .inl (fun _ => 0))), (q8, .inl (G.2.1 0, 10, .inl (fun _ => 0))), (q9, .inl (G.2.1 0, 10, .inl (fun _ => 0)))]) rfl ?_
  refine cw_aload_n C 0 dX6_init_76 rfl rfl ?_
  refine cw_bipush C (v := 10) dX6_init_77 (by decide) ?_
  refine cw_newa C (atype := .int) 0 10 acl_int rfl rfl (fun _ => rfl) (by decide) (by decide) (by decide) (by decide) (by decide) dX6_init_79 (fun q10 => ?_)
  refine cw_ws (ws' := [(h, .inr (6, [.int 0, .ref q1, .ref q2, .ref q3, .int 0, .ref q4, .ref q5, .ref q6, .ref q7, .int 0, .ref q8, .ref q9, .null, .int 0, .int 0])), (q1, .inl (G.2.1 0, 6, .inl (fun _ => 0))), (q2, .inl (G.2.1 0, 6, .inl (fun _ => 0))), (q3, .inl (G.2.1 0, 6, .inl (fun _ => 0))), (q4, .inl (G.2.1 0, 6, .inl (fun _ => 0))), (q5, .inl (G.2.1 0, 6, .inl (fun _ => 0))), (q6, .inl (G.2.1 2, 6, .inl (fun _ => 0))), (q7, .inl (G.2.1 0, 6, .inl (fun _ => 0))), (q8, .inl (G.2.1 0, 10, .inl (fun _ => 0))), (q9, .inl (G.2.1 0, 10, .inl (fun _ => 0))), (q10, .inl (G.2.1 0, 10, .inl (fun _ => 0)))]) rfl ?_
  refine cw_putF C hin (j := 12) (ty := .array .int) 0 rfl rfl inlX6 (by decide) tyX6 tyX6_ok nmX6 flX6_40 rfl rfl (by decide +kernel) rfl rfl (Nat.le_of_ble_eq_true rfl) dX6_init_81 ?_
  refine cw_ws (ws' := [(h, .inr (6, [.int 0, .ref q1, .ref q2, .ref q3, .int 0, .ref q4, .ref q5, .ref q6, .ref q7, .int 0, .ref q8, .ref q9, .ref q10, .int 0, .int 0])), (q1, .inl (G.2.1 0, 6, .inl (fun _ => 0))), (q2, .inl (G.2.1 0, 6, .inl (fun _ => 0))), (q3, .inl (G.2.1 0, 6, .inl (fun _ => 0))), (q4, .inl (G.2.1 0, 6, .inl (fun _ => 0))), (q5, .inl (G.2.1 0, 6, .inl (fun _ => 0))), (q6, .inl (G.2.1 2, 6, .inl (fun _ => 0))), (q7, .inl (G.2.1 0, 6, .inl (fun _ => 0))), (q8, .inl (G.2.1 0, 10, .inl (fun _ => 0))), (q9, .inl (G.2.1 0, 10, .inl (fun _ => 0))), (q10, .inl (G.2.1 0, 10, .inl (fun _ => 0)))]) rfl ?_
  refine cw_aload_n C 0 dX6_init_84 rfl rfl ?_
  refine cw_clear C (ad := fun k => [h, q1, q2, q3, q4, q5, q6, q7, q8, q9, q10].getD k 0) rfl mlX6_43 (by decide) (Nat.le_of_ble_eq_true rfl) (by decide) dX6_init_85 (fun z hz => ?_)
  refine cw_widen (c' := 10) (s' := 72) (by decide) (by decide) ?_
  exact cw_vret C dX6_init_88 ⟨_, _, rfl, clear_ok hz, rfl⟩
