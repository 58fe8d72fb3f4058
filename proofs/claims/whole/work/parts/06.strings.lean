section STRW
variable {M : MX} {G : GX} {sh : Nat → Shp} {N : Nat} {E : EX} {own : String} {cc : ByteArray} {nL : Nat} {ret : Option FieldType} {rm : Room} {Z : State → Prop} {pc : Nat} {L L' : List (Nat × Value)} {S : List Value} {w : Mem} {z : Int32 × Mem}
theorem bw_callVR (C : BC M G sh N E own cc nL ret rm) {a : Nat} {index : Nat} {y : MethodName} {cy : ByteArray} {nLy n : Nat} {ty : FieldType} {rmy : Room} {As rest : List Value} {z1 : Int32 × Mem}
    (hrecv : ∀ (H : Heap) (locs : List Loc), va_S (AX G N) (mS M).heap H locs → ∃ cell : Cell, H[a]? = some cell ∧ cell.vm.isStatics = false ∧ (mS M).vm.findClass y.cls = some cell.cls) (hmi : MI y cy nLy (some ty) n) (hlk : Cond.methodLink own index y ∈ wsL_law) (hin : Cond.instanceMethod y ∈ wsL_law) (hse : Cond.selects y.cls y y ∈ wsL_law) (hR : rmy.frames + 1 ≤ rm.frames ∧ 8 + (nLy + 11) + rmy.locals ≤ rm.locals) (hrc : rmy.cells = 0) (hrs : rmy.slots = 0) (hM : MC (mL M) G sh N E y cy nLy (some ty) rmy (.ref a :: As) w z1) (hn : As.length = n) (hcat : (rest.map fun v => v.category).sum ≤ 8) (hst : S = As.reverse ++ .ref a :: rest) (hdg : decode cc pc = .ok (.invokevirtual index, 3)) (kk : BW M G sh N nL Z (pc + 3) L (.int z1.1 :: rest) z1.2) : BW M G sh N nL Z pc L S w := by
  subst hst
  intro H locs ls hP hS hl
  have hts := C.2.2.2.2.1
  refine bw_back (rety := some ty) (a := (Value.ref a :: As).toArray) (va_runV (As := As) (rest := rest) (Ts := wsL_law) ⟨C.1, C.2.1, C.2.2.1, C.2.2.2.1, hts⟩ hM ⟨callB_of n hts (goodIn_all hmi.1) rfl hrc hrs (hts _ hmi.2.1) (hts _ hlk) hmi.2.2 (by rw [C.2.2.2.2.2.2.2.2.2.2.2]; exact hR), hts _ hin, hts _ hse⟩ ⟨px_blind C.2.2.2.2.2.2.2.2.2.2.1, hrecv H locs hS, fun U hU hW => ⟨rfl, px_at C hP hS hU hW⟩⟩ rfl hn hl.1 rfl (lv_room hcat) hdg ⟨Nat.zero_le _, Nat.zero_le _⟩) hS hl kk
theorem bw_nret {v : Int32} {ty : FieldType} (C : BC M G sh N E own cc nL (some ty) rm) (hdg : decode cc pc = .ok (.ireturn, 1)) (hn : narrow ty (.int v) = .int v) : BW M G sh N nL (ZR M G sh N (some ty) (v, w)) pc L [.int v] w := by
  intro H locs ls hP hS hl
  exact W.zret C.1 C.2.1 C.2.2.2.2.2.1 hn (fun t ht hW => ⟨rfl, by rw [ht]; exact hP, hS.F ht⟩) hS.2.2 hdg C.2.2.2.2.2.2.1
theorem str_recv (C : BC M G shX 71 (eX G) own cc nL ret rm) {i : Nat} (hi : i < 12) : ∀ (H : Heap) (locs : List Loc), va_S (AX G 71) (mS M).heap H locs → ∃ cell : Cell, H[gaK G i]? = some cell ∧ cell.vm.isStatics = false ∧ (mS M).vm.findClass "java/lang/String" = some cell.cls :=
  fun H locs hS => vk_recv C.2.2.2.2.2.2.2.2.2.1.2.1 hi hS
end STRW
def rmJ0_coder : Room := { frames := 0, cells := 0, slots := 0, locals := 0 }
theorem mtJ0_coder {l : Launch} {G : GX} {i : Nat} (hi : i < 12) {w : Mem} : MC l G shX 71 (eX G) yJ0_coder_7d493 cJ0_coder_7d493 1 (some .byte) rmJ0_coder [.ref (gaK G i)] w (0, w) := by
  refine met_of (by decide +kernel) (eX_ok G) rfl (Nat.le_of_ble_eq_true rfl) (fun M hM C => ?_)
  refine fun H locs ls hP hS hl => va_gets C.1 C.2.1 C.2.2.2.2.2.2.2.2.2.1.2.2.1 hS C.2.2.2.1 (C.2.2.2.2.1 _ fsJ0_38) (fun _ h9 => h9) dJ0_coder_7d493_0 ?_
  refine lv_if_eq (tgt := 13) C.1 C.2.1 dJ0_coder_7d493_3 (by decide) (fun h => absurd h (by decide)) (fun _ => ?_)
  refine lv_aload_n C.1 C.2.1 dJ0_coder_7d493_6 rfl (lv_at hl 0 rfl) ?_
  refine vk_getf C.1 C.2.1 (C.2.2.2.2.2.2.2.2.2.1.2.1.1 i hi).2.1 hS C.2.2.2.1 (C.2.2.2.2.1 _ fsJ0_15) (fun _ h9 => h9) dJ0_coder_7d493_7 ?_
  refine lv_goto (tgt := 14) C.1 C.2.1 dJ0_coder_7d493_10 (by decide) ?_
  exact bw_nret (v := 0) C dJ0_coder_7d493_14 (by decide) H locs ls hP hS hl
def rmJ0_lat : Room := { frames := 0, cells := 0, slots := 0, locals := 0 }
theorem mtJ0_lat {l : Launch} {G : GX} {i : Nat} (hi : i < 12) {w : Mem} : MC l G shX 71 (eX G) yJ0_isLatin1_aae02 cJ0_isLatin1_aae02 1 (some .boolean) rmJ0_lat [.ref (gaK G i)] w (1, w) := by
  refine met_of (by decide +kernel) (eX_ok G) rfl (Nat.le_of_ble_eq_true rfl) (fun M hM C => ?_)
  refine fun H locs ls hP hS hl => va_gets C.1 C.2.1 C.2.2.2.2.2.2.2.2.2.1.2.2.1 hS C.2.2.2.1 (C.2.2.2.2.1 _ fsJ0_38) (fun _ h9 => h9) dJ0_isLatin1_aae02_0 ?_
  refine lv_if_eq (tgt := 17) C.1 C.2.1 dJ0_isLatin1_aae02_3 (by decide) (fun h => absurd h (by decide)) (fun _ => ?_)
  refine lv_aload_n C.1 C.2.1 dJ0_isLatin1_aae02_6 rfl (lv_at hl 0 rfl) ?_
  refine vk_getf C.1 C.2.1 (C.2.2.2.2.2.2.2.2.2.1.2.1.1 i hi).2.1 hS C.2.2.2.1 (C.2.2.2.2.1 _ fsJ0_15) (fun _ h9 => h9) dJ0_isLatin1_aae02_7 ?_
  refine lv_if_ne (tgt := 17) C.1 C.2.1 dJ0_isLatin1_aae02_10 (by decide) (fun h => absurd rfl h) (fun _ => ?_)
  refine lv_iconst (v := 1) C.1 C.2.1 dJ0_isLatin1_aae02_13 (by decide) ?_
  refine lv_goto (tgt := 18) C.1 C.2.1 dJ0_isLatin1_aae02_14 (by decide) ?_
  exact bw_nret (v := 1) C dJ0_isLatin1_aae02_18 (by decide) H locs ls hP hS hl
def slen (i : Nat) : Int32 := nI (lenJS.getD i 0) >>> ((0 : Int32) &&& 31)
def schr (i : Nat) (k : Int32) : Int32 := (((bytJS.getD i []).getD k.toNatClampNeg 0 &&& 255).toUInt32 % 65536).toInt32
def fnS_length (i : Nat) (w : Mem) : Option (Int32 × Mem) := some (slen i, w)
def fnS_charAt (i : Nat) (k : Int32) (w : Mem) : Option (Int32 × Mem) := if ib k (lenJS.getD i 0) = true then some (schr i k, w) else none
def rmS_length : Room := { frames := 1, cells := 0, slots := 0, locals := 40 }
theorem mtJ0_length {l : Launch} {G : GX} {i : Nat} (hi : i < 12) {w : Mem} : MC l G shX 71 (eX G) yJ0_length_8abf5 cJ0_length_8abf5 1 (some .int) rmS_length [.ref (gaK G i)] w (slen i, w) := by
  refine met_of (by decide +kernel) (eX_ok G) rfl (Nat.le_of_ble_eq_true rfl) (fun M hM C => ?_)
  subst hM
  refine bw_aload_n C 0 dJ0_length_8abf5_0 rfl rfl ?_
  refine fun H locs ls hP hS hl => vk_getf C.1 C.2.1 (C.2.2.2.2.2.2.2.2.2.1.2.1.1 i hi).2.2.1 hS C.2.2.2.1 (C.2.2.2.2.1 _ fsJ0_9) (fun _ h9 => h9) dJ0_length_8abf5_1 ?_
  refine va_tlen C.1 C.2.1 (C.2.2.2.2.2.2.2.2.2.1.2.1.1 i hi).2.2.2 hS (v := nI (lenJS.getD i 0)) rfl dJ0_length_8abf5_4 ?_
  refine (?_ : BW M G shX 71 1 _ 5 [(0, .ref (gaK G i))] [.int (nI (lenJS.getD i 0))] w) H locs ls hP hS hl
  refine bw_aload_n C 0 dJ0_length_8abf5_5 rfl rfl ?_
  refine bw_callVR (ty := .byte) (As := []) (z1 := (0, w)) C (str_recv C hi) miJ0_coder_7d493 mlJ0_335 imJ0_coder_7d493 seJ0_coder_7d493 (by decide) rfl rfl (mtJ0_coder hi) rfl (Nat.le_of_ble_eq_true rfl) rfl dJ0_length_8abf5_6 ?_
  refine bw_ishr C dJ0_length_8abf5_9 ?_
  exact bw_iret C dJ0_length_8abf5_10 rfl
def rmJ3_chk : Room := { frames := 0, cells := 0, slots := 0, locals := 0 }
theorem mtJ3_chk {l : Launch} {G : GX} {a n : Int32} {v : Value} (hv : v = .null ∨ ∃ t : Nat, v = .ref t) (h0 : ¬ a < 0) (h1 : a < n) {w : Mem} : MC l G shX 71 (eX G) yJ3_checkIndex_8e157 cJ3_checkIndex_8e157 3 (some .int) rmJ3_chk [.int a, .int n, v] w (a, w) := by
  rcases hv with rfl | ⟨t, rfl⟩
  · refine met_of (by decide +kernel) (eX_ok G) rfl (Nat.le_of_ble_eq_true rfl) (fun M hM C => ?_)
    refine bw_iload_n C 0 dJ3_checkIndex_8e157_0 rfl rfl ?_
    refine fun H locs ls hP hS hl => lv_if_lt (tgt := 9) C.1 C.2.1 dJ3_checkIndex_8e157_1 (by decide) (fun h => absurd h h0) (fun _ => ?_)
    refine lv_iload_n C.1 C.2.1 dJ3_checkIndex_8e157_4 rfl (lv_at hl 0 rfl) ?_
    refine lv_iload_n C.1 C.2.1 dJ3_checkIndex_8e157_5 rfl (lv_at hl 1 rfl) ?_
    refine lv_icmp_lt (tgt := 16) C.1 C.2.1 dJ3_checkIndex_8e157_6 (by decide) (fun _ => ?_) (fun h => absurd h1 h)
    refine lv_iload_n C.1 C.2.1 dJ3_checkIndex_8e157_16 rfl (lv_at hl 0 rfl) ?_
    exact bw_iret C dJ3_checkIndex_8e157_17 rfl H locs ls hP hS hl
  · refine met_of (by decide +kernel) (eX_ok G) rfl (Nat.le_of_ble_eq_true rfl) (fun M hM C => ?_)
    refine bw_iload_n C 0 dJ3_checkIndex_8e157_0 rfl rfl ?_
    refine fun H locs ls hP hS hl => lv_if_lt (tgt := 9) C.1 C.2.1 dJ3_checkIndex_8e157_1 (by decide) (fun h => absurd h h0) (fun _ => ?_)
    refine lv_iload_n C.1 C.2.1 dJ3_checkIndex_8e157_4 rfl (lv_at hl 0 rfl) ?_
    refine lv_iload_n C.1 C.2.1 dJ3_checkIndex_8e157_5 rfl (lv_at hl 1 rfl) ?_
    refine lv_icmp_lt (tgt := 16) C.1 C.2.1 dJ3_checkIndex_8e157_6 (by decide) (fun _ => ?_) (fun h => absurd h1 h)
    refine lv_iload_n C.1 C.2.1 dJ3_checkIndex_8e157_16 rfl (lv_at hl 0 rfl) ?_
    exact bw_iret C dJ3_checkIndex_8e157_17 rfl H locs ls hP hS hl
def rmJ0_chk : Room := { frames := 1, cells := 0, slots := 0, locals := 30 }
theorem mtJ0_chk {l : Launch} {G : GX} {a n : Int32} (h0 : ¬ a < 0) (h1 : a < n) {w : Mem} : MC l G shX 71 (eX G) yJ0_checkIndex_df160 cJ0_checkIndex_df160 2 none rmJ0_chk [.int a, .int n] w (0, w) := by
  refine met_of (by decide +kernel) (eX_ok G) rfl (Nat.le_of_ble_eq_true rfl) (fun M hM C => ?_)
  subst hM
  refine bw_iload_n C 0 dJ0_checkIndex_df160_0 rfl rfl ?_
  refine bw_iload_n C 1 dJ0_checkIndex_df160_1 rfl rfl ?_
  have key : ∀ (v : Value), (v = .null ∨ ∃ t : Nat, v = .ref t) → BW M G shX 71 2 (ZR M G shX 71 none (0, w)) 5 [(0, .int a), (1, .int n)] [v, .int n, .int a] w := by
    intro v hv
    refine bw_callSi (z := (0, w)) (f := some (a, w)) (g := fun _ => some (0, w)) (rmy := rmJ3_chk) C (As := [.int a, .int n, v]) miJ3_checkIndex_8e157 mlJ0_1059 smJ3_checkIndex_8e157 (by decide) rfl rfl (fun z1 h9 => by cases h9; exact mtJ3_chk hv h0 h1) rfl (Nat.le_of_ble_eq_true rfl) rfl dJ0_checkIndex_df160_5 rfl (fun z1 h9 _ => ?_)
    cases h9
    refine bw_pop C dJ0_checkIndex_df160_8 rfl ?_
    exact bw_vret C dJ0_checkIndex_df160_9 rfl
  intro H locs ls hP hS hl
  rcases C.2.2.2.2.2.2.2.2.2.1.2.2.2.1 with hq | ⟨t, hq⟩
  · exact va_gets C.1 C.2.1 hq hS C.2.2.2.1 (C.2.2.2.2.1 _ fsJ0_1053) (fun _ h9 => h9) dJ0_checkIndex_df160_2 (key _ (Or.inl rfl) H locs ls hP hS hl)
  · exact va_gets C.1 C.2.1 hq hS C.2.2.2.1 (C.2.2.2.2.1 _ fsJ0_1053) (fun _ h9 => h9) dJ0_checkIndex_df160_2 (key _ (Or.inr ⟨t, rfl⟩) H locs ls hP hS hl)
def rmJ1_chr : Room := { frames := 2, cells := 0, slots := 0, locals := 60 }
theorem ib_lt {k : Int32} {n : Nat} (h : ib k n = true) (hn : n < 2 ^ 31) : ¬ k < 0 ∧ k < nI n := by
  have h2 := ib_in h
  obtain ⟨j, hj, rfl⟩ := vp_in_of h2 hn
  exact ⟨nI_pos (by omega), nI_lt hj hn⟩
theorem len_small : ∀ i, i < 12 → lenJS.getD i 0 < 2 ^ 31 := by decide
theorem mtJ1_chr {l : Launch} {G : GX} {i : Nat} (hi : i < 12) {k : Int32} (hk : ib k (lenJS.getD i 0) = true) {w : Mem} : MC l G shX 71 (eX G) yJ1_charAt_3b067 cJ1_charAt_3b067 2 (some .char) rmJ1_chr [.ref (gaV G i), .int k] w (schr i k, w) := by
  obtain ⟨h0, h1⟩ := ib_lt hk (len_small i hi)
  refine met_of (by decide +kernel) (eX_ok G) rfl (Nat.le_of_ble_eq_true rfl) (fun M hM C => ?_)
  subst hM
  refine bw_iload_n C 1 dJ1_charAt_3b067_0 rfl rfl ?_
  refine bw_aload_n C 0 dJ1_charAt_3b067_1 rfl rfl ?_
  refine fun H locs ls hP hS hl => va_tlen C.1 C.2.1 (C.2.2.2.2.2.2.2.2.2.1.2.1.1 i hi).2.2.2 hS (v := nI (lenJS.getD i 0)) rfl dJ1_charAt_3b067_2 ?_
  refine (?_ : BW M G shX 71 2 _ 3 [(0, .ref (gaV G i)), (1, .int k)] [.int (nI (lenJS.getD i 0)), .int k] w) H locs ls hP hS hl
  refine bw_callSv (z := (0, w)) (f := some (0, w)) (g := fun _ => some (0, w)) (rmy := rmJ0_chk) C (As := [.int k, .int (nI (lenJS.getD i 0))]) miJ0_checkIndex_df160 mlJ1_9 smJ0_checkIndex_df160 (by decide) rfl rfl (fun z1 h9 => by cases h9; exact mtJ0_chk h0 h1) rfl (Nat.le_of_ble_eq_true rfl) rfl dJ1_charAt_3b067_3 rfl (fun z1 h9 _ => ?_)
  cases h9
  refine bw_aload_n C 0 dJ1_charAt_3b067_6 rfl rfl ?_
  refine bw_iload_n C 1 dJ1_charAt_3b067_7 rfl rfl ?_
  refine fun H locs ls hP hS hl => va_tb C.1 C.2.1 (C.2.2.2.2.2.2.2.2.2.1.2.1.1 i hi).2.2.2 hS (ib_in hk) rfl dJ1_charAt_3b067_8 ?_
  refine (?_ : BW M G shX 71 2 _ 9 [(0, .ref (gaV G i)), (1, .int k)] [.int ((bytJS.getD i []).getD k.toNatClampNeg 0)] w) H locs ls hP hS hl
  refine bw_sipush C (v := 255) dJ1_charAt_3b067_9 (by decide) ?_
  refine bw_iand C dJ1_charAt_3b067_12 ?_
  refine bw_i2c C dJ1_charAt_3b067_13 rfl ?_
  exact bw_nret C dJ1_charAt_3b067_14 (pk_nc _)
def rmS_charAt : Room := { frames := 3, cells := 0, slots := 0, locals := 90 }
theorem mtJ0_chr {l : Launch} {G : GX} {i : Nat} (hi : i < 12) {k : Int32} (hk : ib k (lenJS.getD i 0) = true) {w : Mem} : MC l G shX 71 (eX G) yJ0_charAt_5068e cJ0_charAt_5068e 2 (some .char) rmS_charAt [.ref (gaK G i), .int k] w (schr i k, w) := by
  refine met_of (by decide +kernel) (eX_ok G) rfl (Nat.le_of_ble_eq_true rfl) (fun M hM C => ?_)
  subst hM
  refine bw_aload_n C 0 dJ0_charAt_5068e_0 rfl rfl ?_
  refine bw_callVR (ty := .boolean) (As := []) (z1 := (1, w)) C (str_recv C hi) miJ0_isLatin1_aae02 mlJ0_492 imJ0_isLatin1_aae02 seJ0_isLatin1_aae02 (by decide) rfl rfl (mtJ0_lat hi) rfl (Nat.le_of_ble_eq_true rfl) rfl dJ0_charAt_5068e_1 ?_
  refine fun H locs ls hP hS hl => lv_if_eq (tgt := 16) C.1 C.2.1 dJ0_charAt_5068e_4 (by decide) (fun h => absurd (show (1 : Int32) = 0 from h) (by decide)) (fun _ => ?_)
  refine lv_aload_n C.1 C.2.1 dJ0_charAt_5068e_7 rfl (lv_at hl 0 rfl) ?_
  refine vk_getf C.1 C.2.1 (C.2.2.2.2.2.2.2.2.2.1.2.1.1 i hi).2.2.1 hS C.2.2.2.1 (C.2.2.2.2.1 _ fsJ0_9) (fun _ h9 => h9) dJ0_charAt_5068e_8 ?_
  refine (?_ : BW M G shX 71 2 _ 11 [(0, .ref (gaK G i)), (1, .int k)] [.ref (gaV G i)] w) H locs ls hP hS hl
  refine bw_iload_n C 1 dJ0_charAt_5068e_11 rfl rfl ?_
  refine bw_callSi (z := (0, w)) (f := some (schr i k, w)) (g := fun _ => some (0, w)) (rmy := rmJ1_chr) C (As := [.ref (gaV G i), .int k]) miJ1_charAt_3b067 mlJ0_495 smJ1_charAt_3b067 (by decide) rfl rfl (fun z1 h9 => by cases h9; exact mtJ1_chr hi hk) rfl (Nat.le_of_ble_eq_true rfl) rfl dJ0_charAt_5068e_12 rfl (fun z1 h9 _ => ?_)
  cases h9
  exact bw_nret C dJ0_charAt_5068e_15 (pk_nc _)
section STRC
variable {M : MX} {G : GX} {own : String} {cc : ByteArray} {nL : Nat} {ret : Option FieldType} {rm : Room} {Z : State → Prop} {pc : Nat} {L L' : List (Nat × Value)} {S : List Value} {w : Mem} {z : Int32 × Mem}
theorem bw_slen (C : BC M G shX 71 (eX G) own cc nL ret rm) {index i : Nat} {g : Int32 × Mem → Option (Int32 × Mem)} (hlk : Cond.methodLink own index yJ0_length_8abf5 ∈ wsL_law) (hi : i < 12) (hR : rmS_length.frames + 1 ≤ rm.frames ∧ 8 + (1 + 11) + rmS_length.locals ≤ rm.locals) (hcat : (S.map fun v => v.category).sum ≤ 8) (hdg : decode cc pc = .ok (.invokevirtual index, 3)) (h : (fnS_length i w).bind g = some z) (kk : ∀ z1 : Int32 × Mem, fnS_length i w = some z1 → g z1 = some z → BW M G shX 71 nL Z (pc + 3) L (.int z1.1 :: S) z1.2) : BW M G shX 71 nL Z pc L (.ref (gaK G i) :: S) w :=
  bw_callVR (ty := .int) (As := []) (z1 := (slen i, w)) C (str_recv C hi) miJ0_length_8abf5 hlk imJ0_length_8abf5 seJ0_length_8abf5 hR rfl rfl (mtJ0_length hi) rfl hcat rfl hdg (kk (slen i, w) rfl h)
theorem bw_schr (C : BC M G shX 71 (eX G) own cc nL ret rm) {index i : Nat} {k : Int32} {g : Int32 × Mem → Option (Int32 × Mem)} (hlk : Cond.methodLink own index yJ0_charAt_5068e ∈ wsL_law) (hi : i < 12) (hR : rmS_charAt.frames + 1 ≤ rm.frames ∧ 8 + (2 + 11) + rmS_charAt.locals ≤ rm.locals) (hcat : (S.map fun v => v.category).sum ≤ 8) (hdg : decode cc pc = .ok (.invokevirtual index, 3)) (h : (fnS_charAt i k w).bind g = some z) (kk : ∀ z1 : Int32 × Mem, fnS_charAt i k w = some z1 → g z1 = some z → BW M G shX 71 nL Z (pc + 3) L (.int z1.1 :: S) z1.2) : BW M G shX 71 nL Z pc L (.int k :: .ref (gaK G i) :: S) w := by
  by_cases hk : ib k (lenJS.getD i 0) = true
  · have e : fnS_charAt i k w = some (schr i k, w) := if_pos hk
    refine bw_callVR (ty := .char) (As := [.int k]) (z1 := (schr i k, w)) C (str_recv C hi) miJ0_charAt_5068e hlk imJ0_charAt_5068e seJ0_charAt_5068e hR rfl rfl (mtJ0_chr hi hk) rfl hcat rfl hdg (kk (schr i k, w) e ?_)
    rw [e] at h
    exact h
  · have e : fnS_charAt i k w = none := if_neg hk
    rw [e] at h
    cases h
end STRC
