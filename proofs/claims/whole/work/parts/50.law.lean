/-! The law's own walk: two worlds side by side. -/
abbrev Gx (G : GX) (adx : Nat → Nat) : GX := gd G adx
def AL (M : MX) : Nat → Prop := fun q => (mS M).heap.size ≤ q
def LW (M : MX) (G : GX) (adx adm : Nat → Nat) (Z : State → Prop) (pc : Nat) (L : List (Nat × Value)) (S : List Value) (x m : Mem) : Prop :=
  ∀ (H : Heap) (locs : List Loc) (ls : Array Slot), va_P G.1 vwCl (wl (gd G adx) shX 71 x) H → va_P G.1 vwCl (wl (gd G adm) shM 19 m) H → va_S (AL M) (mS M).heap H locs → lv_has ls 4 L → W (mP M) (mL M) (mE M) (mR M) (mS M) (mM M) (mA M) (mB M) (mMe M) (mC M) H locs 600000 7302250 Z (F0 (mM M) pc ls S)
def LC (M : MX) (G : GX) (adx adm : Nat → Nat) (b Ln : Nat) (xs : Nat → Int32) : Prop :=
  (mP M).tables.exec = Jvm.exec ∧ (mC M).code = code ∧ (mC M).maxLocals = 4 ∧ (mS M).vm.findClass RL = some (mM M).cls ∧ (∀ q ∈ wsL_law, q.before (mA M) (mS M) = true) ∧ va_K G.1 vwCl (tysG G) (mS M) ∧ mR M = room_1 ∧ va_X b Ln xs (mS M) (mS M).heap ∧ b < (mS M).heap.size ∧
  (∀ i j, i < 71 → j < 71 → adx i = adx j → i = j) ∧ (∀ i j, i < 19 → j < 19 → adm i = adm j → i = j) ∧ (∀ i, i < 71 → (mS M).heap.size ≤ adx i) ∧ (∀ i, i < 19 → (mS M).heap.size ≤ adm i) ∧ (∀ i j, i < 71 → j < 19 → adx i ≠ adm j) ∧ eX (gd G adx) (mS M) (mS M).heap
section LAWT
variable {M : MX} {G : GX} {adx adm : Nat → Nat} {b Ln : Nat} {xs : Nat → Int32} {Z : State → Prop} {pc : Nat} {L L' : List (Nat × Value)} {S : List Value} {x m : Mem}
theorem lw_iconst (C : LC M G adx adm b Ln xs) {n : Int} {v : Int32} (hdg : decode code pc = .ok (.iconst n, 1)) (hv : Int32.ofInt n = v) (k : LW M G adx adm Z (pc + 1) L (.int v :: S) x m) : LW M G adx adm Z pc L S x m := fun H locs ls hX hM hS hl => lv_iconst C.1 C.2.1 hdg hv (k H locs ls hX hM hS hl)
theorem lw_bipush (C : LC M G adx adm b Ln xs) {n : Int} {v : Int32} (hdg : decode code pc = .ok (.bipush n, 2)) (hv : (Int8.ofInt n).toInt32 = v) (k : LW M G adx adm Z (pc + 2) L (.int v :: S) x m) : LW M G adx adm Z pc L S x m := fun H locs ls hX hM hS hl => lv_bipush C.1 C.2.1 hdg hv (k H locs ls hX hM hS hl)
theorem lw_aload_n (C : LC M G adx adm b Ln xs) {k : Fin 4} {i a : Nat} (q : Nat) (hdg : decode code pc = .ok (.aload_n k, 1)) (hi : (k : Nat) = i) (hq : L[q]? = some (i, .ref a)) (kk : LW M G adx adm Z (pc + 1) L (.ref a :: S) x m) : LW M G adx adm Z pc L S x m := fun H locs ls hX hM hS hl => lv_aload_n C.1 C.2.1 hdg hi (lv_at hl q hq) (kk H locs ls hX hM hS hl)
theorem lw_iload_n (C : LC M G adx adm b Ln xs) {k : Fin 4} {i : Nat} {a : Int32} (q : Nat) (hdg : decode code pc = .ok (.iload_n k, 1)) (hi : (k : Nat) = i) (hq : L[q]? = some (i, .int a)) (kk : LW M G adx adm Z (pc + 1) L (.int a :: S) x m) : LW M G adx adm Z pc L S x m := fun H locs ls hX hM hS hl => lv_iload_n C.1 C.2.1 hdg hi (lv_at hl q hq) (kk H locs ls hX hM hS hl)
theorem lw_iadd (C : LC M G adx adm b Ln xs) {u v : Int32} (hdg : decode code pc = .ok (.iadd, 1)) (k : LW M G adx adm Z (pc + 1) L (.int (u + v) :: S) x m) : LW M G adx adm Z pc L (.int v :: .int u :: S) x m := fun H locs ls hX hM hS hl => lv_iadd C.1 C.2.1 hdg (k H locs ls hX hM hS hl)
theorem lw_isub (C : LC M G adx adm b Ln xs) {u v : Int32} (hdg : decode code pc = .ok (.isub, 1)) (k : LW M G adx adm Z (pc + 1) L (.int (u - v) :: S) x m) : LW M G adx adm Z pc L (.int v :: .int u :: S) x m := fun H locs ls hX hM hS hl => lv_isub C.1 C.2.1 hdg (k H locs ls hX hM hS hl)
theorem lw_iand (C : LC M G adx adm b Ln xs) {u v : Int32} (hdg : decode code pc = .ok (.iand, 1)) (k : LW M G adx adm Z (pc + 1) L (.int (u &&& v) :: S) x m) : LW M G adx adm Z pc L (.int v :: .int u :: S) x m := fun H locs ls hX hM hS hl => lv_iand C.1 C.2.1 hdg (k H locs ls hX hM hS hl)
theorem lw_land (C : LC M G adx adm b Ln xs) {u v : Int64} (hdg : decode code pc = .ok (.land, 1)) (k : LW M G adx adm Z (pc + 1) L (.long (u &&& v) :: S) x m) : LW M G adx adm Z pc L (.long v :: .long u :: S) x m := fun H locs ls hX hM hS hl => lv_land C.1 C.2.1 hdg (k H locs ls hX hM hS hl)
theorem lw_lor (C : LC M G adx adm b Ln xs) {u v : Int64} (hdg : decode code pc = .ok (.lor, 1)) (k : LW M G adx adm Z (pc + 1) L (.long (u ||| v) :: S) x m) : LW M G adx adm Z pc L (.long v :: .long u :: S) x m := fun H locs ls hX hM hS hl => lv_lor C.1 C.2.1 hdg (k H locs ls hX hM hS hl)
theorem lw_lshl (C : LC M G adx adm b Ln xs) {u v : Int64} {y : Int32} (hdg : decode code pc = .ok (.lshl, 1)) (hv : u <<< (y.toInt64 &&& 63) = v) (k : LW M G adx adm Z (pc + 1) L (.long v :: S) x m) : LW M G adx adm Z pc L (.int y :: .long u :: S) x m := fun H locs ls hX hM hS hl => lv_lshl C.1 C.2.1 hdg hv (k H locs ls hX hM hS hl)
theorem lw_i2l (C : LC M G adx adm b Ln xs) {u : Int32} {v : Int64} (hdg : decode code pc = .ok (.i2l, 1)) (hv : u.toInt64 = v) (k : LW M G adx adm Z (pc + 1) L (.long v :: S) x m) : LW M G adx adm Z pc L (.int u :: S) x m := fun H locs ls hX hM hS hl => lv_i2l C.1 C.2.1 hdg hv (k H locs ls hX hM hS hl)
theorem lw_ldc2 (C : LC M G adx adm b Ln xs) {index : Nat} {v : Int64} (hdg : decode code pc = .ok (.ldc2_w index, 3)) (hc : Cond.constantLong RL index v ∈ wsL_law) (k : LW M G adx adm Z (pc + 3) L (.long v :: S) x m) : LW M G adx adm Z pc L S x m := fun H locs ls hX hM hS hl => lv_ldc2 C.1 C.2.1 C.2.2.2.1 (C.2.2.2.2.1 _ hc) hdg (k H locs ls hX hM hS hl)
theorem lw_sld (C : LC M G adx adm b Ln xs) {i : Int32} (hi : vp_in i Ln) (hdg : decode code pc = .ok (.iaload, 1)) (k : LW M G adx adm Z (pc + 1) L (.int (xs i.toNatClampNeg) :: S) x m) : LW M G adx adm Z pc L (.int i :: .ref b :: S) x m := fun H locs ls hX hM hS hl => va_sld C.1 C.2.1 C.2.2.2.2.2.2.2.1 C.2.2.2.2.2.2.2.2.1 (Nat.not_le.mpr C.2.2.2.2.2.2.2.2.1) hS hi hdg (k H locs ls hX hM hS hl)
theorem lw_slen (C : LC M G adx adm b Ln xs) (hdg : decode code pc = .ok (.arraylength, 1)) (k : LW M G adx adm Z (pc + 1) L (.int (Int32.ofNat Ln) :: S) x m) : LW M G adx adm Z pc L (.ref b :: S) x m := fun H locs ls hX hM hS hl => va_slen C.1 C.2.1 C.2.2.2.2.2.2.2.1 C.2.2.2.2.2.2.2.2.1 (Nat.not_le.mpr C.2.2.2.2.2.2.2.2.1) hS hdg (k H locs ls hX hM hS hl)
theorem lw_gt (C : LC M G adx adm b Ln xs) {u v : Int32} {off : Int} {tgt : Nat} (hdg : decode code pc = .ok (.if_icmp .gt off, 3)) (ht : (pc : Int) + off = (tgt : Int)) (kt : v < u → LW M G adx adm Z tgt L S x m) (kf : ¬ v < u → LW M G adx adm Z (pc + 3) L S x m) : LW M G adx adm Z pc L (.int v :: .int u :: S) x m := fun H locs ls hX hM hS hl => lv_icmp_gt C.1 C.2.1 hdg ht (fun h => kt h H locs ls hX hM hS hl) (fun h => kf h H locs ls hX hM hS hl)
theorem lw_eq (C : LC M G adx adm b Ln xs) {u v : Int32} {off : Int} (tgt : Nat) (hdg : decode code pc = .ok (.if_icmp .eq off, 3)) (ht : (pc : Int) + off = (tgt : Int)) (h : u = v) (k : LW M G adx adm Z tgt L S x m) : LW M G adx adm Z pc L (.int v :: .int u :: S) x m := fun H locs ls hX hM hS hl => lv_icmp_eq C.1 C.2.1 hdg ht (fun _ => k H locs ls hX hM hS hl) (fun q => absurd h q)
theorem lw_if_t (C : LC M G adx adm b Ln xs) {u : Int32} {off : Int} (tgt : Nat) (hdg : decode code pc = .ok (.ifCond .eq off, 3)) (ht : (pc : Int) + off = (tgt : Int)) (h : u = 0) (k : LW M G adx adm Z tgt L S x m) : LW M G adx adm Z pc L (.int u :: S) x m := fun H locs ls hX hM hS hl => lv_if_eq C.1 C.2.1 hdg ht (fun _ => k H locs ls hX hM hS hl) (fun q => absurd h q)
theorem lw_if_f (C : LC M G adx adm b Ln xs) {u : Int32} {off : Int} (tgt : Nat) (hdg : decode code pc = .ok (.ifCond .eq off, 3)) (ht : (pc : Int) + off = (tgt : Int)) (h : ¬ u = 0) (k : LW M G adx adm Z (pc + 3) L S x m) : LW M G adx adm Z pc L (.int u :: S) x m := fun H locs ls hX hM hS hl => lv_if_eq C.1 C.2.1 hdg ht (fun q => absurd q h) (fun _ => k H locs ls hX hM hS hl)
theorem lw_goto (C : LC M G adx adm b Ln xs) {off : Int} (tgt : Nat) (hdg : decode code pc = .ok (.goto off, 3)) (ht : (pc : Int) + off = (tgt : Int)) (k : LW M G adx adm Z tgt L S x m) : LW M G adx adm Z pc L S x m := fun H locs ls hX hM hS hl => lv_goto C.1 C.2.1 hdg ht (k H locs ls hX hM hS hl)
theorem lw_iinc (C : LC M G adx adm b Ln xs) {i : Nat} {n : Int} {u v : Int32} (L' : List (Nat × Value)) (q : Nat) (hdg : decode code pc = .ok (.iinc i n, 3)) (hq : L[q]? = some (i, .int u)) (hv : u + Int32.ofInt n = v) (hn : i < 4) (hl' : (i, Value.int v) :: L.filter (fun q => !(q.1 == i) && !(q.1 + 1 == i && q.2.category == 2)) = L') (kk : LW M G adx adm Z (pc + 3) L' S x m) : LW M G adx adm Z pc L S x m := fun H locs ls hX hM hS hl => lv_iinc C.1 C.2.1 hdg hl hq hv hn hl' (fun ls' hl2 => kk H locs ls' hX hM hS hl2)
theorem lw_tsIn (C : LC M G adx adm b Ln xs) {dflt lo hi : Int} {offs : Array Int} {len tgt : Nat} {u v : Int32} {off : Int} (hdg : decode code pc = .ok (.tableswitch dflt lo hi offs, len)) (hx : u = v) (h1 : ¬ v.toInt < lo) (h2 : ¬ hi < v.toInt) (ho : offs[(v.toInt - lo).toNat]? = some off) (ht : (pc : Int) + off = (tgt : Int)) (k : LW M G adx adm Z tgt L S x m) : LW M G adx adm Z pc L (.int u :: S) x m := fun H locs ls hX hM hS hl => by
  subst hx
  exact lv_tableIn C.1 C.2.1 hdg h1 h2 ho ht (k H locs ls hX hM hS hl)
theorem lw_tsOut (C : LC M G adx adm b Ln xs) {dflt lo hi : Int} {offs : Array Int} {len tgt : Nat} {u : Int32} (hdg : decode code pc = .ok (.tableswitch dflt lo hi offs, len)) (hx : u.toInt < lo ∨ hi < u.toInt) (ht : (pc : Int) + dflt = (tgt : Int)) (k : LW M G adx adm Z tgt L S x m) : LW M G adx adm Z pc L (.int u :: S) x m := fun H locs ls hX hM hS hl => lv_tableOut C.1 C.2.1 hdg hx ht (k H locs ls hX hM hS hl)
theorem lw_sub (ks : List Nat) (hl : lv_pick L ks = L') (k : LW M G adx adm Z pc L' S x m) : LW M G adx adm Z pc L S x m := fun H locs ls hX hM hS hl0 => k H locs ls hX hM hS (lv_sub hl0 ks hl)
theorem px_lawX (C : LC M G adx adm b Ln xs) {H : Heap} {locs : List Loc} (hP : va_P G.1 vwCl (wl (gd G adx) shX 71 x) H) (hS : va_S (AL M) (mS M).heap H locs) {U : State} (hU : U.heap = H) (hW : (mS M).WarmedH U.vm) : PX (gd G adx) shX 71 (eX (gd G adx)) x U := by
  obtain ⟨-, -, -, -, -, hK, -, -, -, hi, -, hlo, -, -, hE⟩ := C
  refine ⟨by rw [hU]; exact hP, va_K.moved hW.alike hK, hi, ?_⟩
  rw [hU]
  have hk : ∀ a : Nat, a < (mS M).heap.size → ¬ AX (gd G adx) 71 a → H[a]? = (mS M).heap[a]? := fun a h1 _ => hS.2.1 a h1 (Nat.not_le.mpr h1)
  exact (eX_ok (gd G adx)).1 (mS M) U H hW ((eX_ok (gd G adx)).2.1 (mS M) (mS M).heap H hk hE)
theorem px_lawM (C : LC M G adx adm b Ln xs) {H : Heap} (hP : va_P G.1 vwCl (wl (gd G adm) shM 19 m) H) {U : State} (hU : U.heap = H) (hW : (mS M).WarmedH U.vm) : PX (gd G adm) shM 19 eM m U := by
  obtain ⟨-, -, -, -, -, hK, -, -, -, -, hi, -, -, -, -⟩ := C
  exact ⟨by rw [hU]; exact hP, va_K.moved hW.alike hK, hi, trivial⟩
theorem wl_kept {G : GX} {sh : Nat → Shp} {N : Nat} {w : Mem} {H H1 : Heap} (h : va_P G.1 vwCl (wl G sh N w) H) (hk : ∀ i, i < N → H1[gad G i]? = H[gad G i]?) : va_P G.1 vwCl (wl G sh N w) H1 := by
  refine h.kept (fun k q hq => ?_)
  have hl : k < N := by
    have := (List.getElem?_eq_some_iff.mp hq).1
    simpa [wl] using this
  rw [wl_get hl] at hq
  cases hq
  exact hk k hl
theorem lw_callX (C : LC M G adx adm b Ln xs) {index nLy n : Nat} {y : MethodName} {cy : ByteArray} {rmy : Room} {As rest : List Value} {z1 : Int32 × Mem} (hyc : y.cls = RX7) (hmi : MI y cy nLy (some .int) n) (hlk : Cond.methodLink RL index y ∈ wsL_law) (hin : Cond.instanceMethod y ∈ wsL_law) (hse : Cond.selects y.cls y y ∈ wsL_law) (hR : rmy.frames + 1 ≤ 2048 ∧ 8 + (nLy + 11) + rmy.locals ≤ 84000) (hrc : rmy.cells = 0) (hrs : rmy.slots = 0) (hM : MC (mL M) (gd G adx) shX 71 (eX (gd G adx)) y cy nLy (some .int) rmy (.ref (adx 0) :: As) x z1) (hn : As.length = n) (hcat : (rest.map fun v => v.category).sum ≤ 8) (hst : S = As.reverse ++ .ref (adx 0) :: rest) (hdg : decode code pc = .ok (.invokevirtual index, 3)) (kk : LW M G adx adm Z (pc + 3) L (.int z1.1 :: rest) z1.2 m) : LW M G adx adm Z pc L S x m := by
  subst hst
  intro H locs ls hP hPm hS hl
  have hts := C.2.2.2.2.1
  have e := C.2.2.2.2.2.2.1
  have hr := va_runV (p := mP M) (l := mL M) (e := mE M) (R := mR M) (s := mS M) (m := mM M) (args := mA M) (below := mB M) (meth := mMe M) (c := mC M) (H := H) (locs := locs) (cells := 600000) (slots := 7302250) (As := As) (rest := rest) (b := adx 0) (g := F0 (mM M) pc ls (As.reverse ++ .ref (adx 0) :: rest)) (Ts := wsL_law) (own := RL) (C := y.cls) ⟨C.1, C.2.1, C.2.2.1, C.2.2.2.1, hts⟩ hM ⟨callB_of n hts (goodIn_all hmi.1) rfl hrc hrs (hts _ hmi.2.1) (hts _ hlk) hmi.2.2 (by rw [e]; exact hR), hts _ hin, hts _ hse⟩ ⟨px_blind (eX_ok (gd G adx)), by rw [hyc]; exact va_recv (q := (RX7, TX7, 10)) C.2.2.2.2.2.1 hP (ci := 7) (q0 := 0) rfl (by rw [wl_get (by decide)]; rfl), fun U hU hW => ⟨rfl, px_lawX C hP hS hU hW⟩⟩ rfl hn hl.1 rfl (lv_room hcat) hdg (by rw [e]; exact ⟨Nat.le_refl _, Nat.le_refl _⟩)
  intro T hT X
  obtain ⟨v, st0', t, T', L', h0, X', hL', e1, e2, ⟨hv, hP1, hF⟩, st⟩ := hr T hT X
  cases hv
  have hAX : ∀ q, AX (gd G adx) 71 q → AL M q := fun q ⟨k, h1, h2⟩ => by rw [h2]; exact C.2.2.2.2.2.2.2.2.2.2.2.1 k h1
  have hS1 : va_S (AL M) (mS M).heap T'.heap (locs ++ L') := by
    refine ⟨Nat.le_trans hS.1 (by rw [e1, ← h0]; exact hF.1), fun q h1 h2 => ?_, fun q hq => ?_⟩
    · rw [e1, hF.2 q (by rw [h0]; exact Nat.lt_of_lt_of_le h1 hS.1) (fun y => h2 (hAX q y)), h0]
      exact hS.2.1 q h1 h2
    · rcases List.mem_append.mp hq with h | h
      · exact hS.2.2 q h
      · exact hAX _ (hL' q h)
  have hPm1 : va_P G.1 vwCl (wl (gd G adm) shM 19 m) T'.heap := by
    refine wl_kept (G := gd G adm) hPm (fun i hi => ?_)
    have hlt : adm i < H.size := (hPm i _ (wl_get hi)).lt
    rw [e1, hF.2 (adm i) (by rw [h0]; exact hlt) (fun ⟨k, h1, h2⟩ => C.2.2.2.2.2.2.2.2.2.2.2.2.2.1 k i h1 hi h2.symm), h0]
  obtain ⟨t2, a1, b1⟩ := kk T'.heap (locs ++ L') ls (by rw [e1]; exact hP1) hPm1 hS1 hl T' rfl X'
  exact ⟨t2, st t2 a1, b1⟩
theorem lw_callM (C : LC M G adx adm b Ln xs) {index nLy n : Nat} {y : MethodName} {cy : ByteArray} {rmy : Room} {As rest : List Value} {z1 : Int32 × Mem} (hyc : y.cls = RX8) (hmi : MI y cy nLy (some .int) n) (hlk : Cond.methodLink RL index y ∈ wsL_law) (hin : Cond.instanceMethod y ∈ wsL_law) (hse : Cond.selects y.cls y y ∈ wsL_law) (hR : rmy.frames + 1 ≤ 2048 ∧ 8 + (nLy + 11) + rmy.locals ≤ 84000) (hrc : rmy.cells = 0) (hrs : rmy.slots = 0) (hM : MC (mL M) (gd G adm) shM 19 eM y cy nLy (some .int) rmy (.ref (adm 0) :: As) m z1) (hn : As.length = n) (hcat : (rest.map fun v => v.category).sum ≤ 8) (hst : S = As.reverse ++ .ref (adm 0) :: rest) (hdg : decode code pc = .ok (.invokevirtual index, 3)) (kk : LW M G adx adm Z (pc + 3) L (.int z1.1 :: rest) x z1.2) : LW M G adx adm Z pc L S x m := by
  subst hst
  intro H locs ls hP hPm hS hl
  have hts := C.2.2.2.2.1
  have e := C.2.2.2.2.2.2.1
  have hr := va_runV (p := mP M) (l := mL M) (e := mE M) (R := mR M) (s := mS M) (m := mM M) (args := mA M) (below := mB M) (meth := mMe M) (c := mC M) (H := H) (locs := locs) (cells := 600000) (slots := 7302250) (As := As) (rest := rest) (b := adm 0) (g := F0 (mM M) pc ls (As.reverse ++ .ref (adm 0) :: rest)) (Ts := wsL_law) (own := RL) (C := y.cls) ⟨C.1, C.2.1, C.2.2.1, C.2.2.2.1, hts⟩ hM ⟨callB_of n hts (goodIn_all hmi.1) rfl hrc hrs (hts _ hmi.2.1) (hts _ hlk) hmi.2.2 (by rw [e]; exact hR), hts _ hin, hts _ hse⟩ ⟨px_blind (eM_ok (fun _ => True)), by rw [hyc]; exact va_recv (q := (RX8, TX8, 38)) C.2.2.2.2.2.1 hPm (ci := 8) (q0 := 0) rfl (by rw [wl_get (by decide)]; rfl), fun U hU hW => ⟨rfl, px_lawM C hPm hU hW⟩⟩ rfl hn hl.1 rfl (lv_room hcat) hdg (by rw [e]; exact ⟨Nat.le_refl _, Nat.le_refl _⟩)
  intro T hT X
  obtain ⟨v, st0', t, T', L', h0, X', hL', e1, e2, ⟨hv, hP1, hF⟩, st⟩ := hr T hT X
  cases hv
  have hAX : ∀ q, AX (gd G adm) 19 q → AL M q := fun q ⟨k, h1, h2⟩ => by rw [h2]; exact C.2.2.2.2.2.2.2.2.2.2.2.2.1 k h1
  have hS1 : va_S (AL M) (mS M).heap T'.heap (locs ++ L') := by
    refine ⟨Nat.le_trans hS.1 (by rw [e1, ← h0]; exact hF.1), fun q h1 h2 => ?_, fun q hq => ?_⟩
    · rw [e1, hF.2 q (by rw [h0]; exact Nat.lt_of_lt_of_le h1 hS.1) (fun y => h2 (hAX q y)), h0]
      exact hS.2.1 q h1 h2
    · rcases List.mem_append.mp hq with h | h
      · exact hS.2.2 q h
      · exact hAX _ (hL' q h)
  have hPx1 : va_P G.1 vwCl (wl (gd G adx) shX 71 x) T'.heap := by
    refine wl_kept (G := gd G adx) hP (fun i hi => ?_)
    have hlt : adx i < H.size := (hP i _ (wl_get hi)).lt
    rw [e1, hF.2 (adx i) (by rw [h0]; exact hlt) (fun ⟨k, h1, h2⟩ => C.2.2.2.2.2.2.2.2.2.2.2.2.2.1 i k hi h1 h2), h0]
  obtain ⟨t2, a1, b1⟩ := kk T'.heap (locs ++ L') ls hPx1 (by rw [e1]; exact hP1) hS1 hl T' rfl X'
  exact ⟨t2, st t2 a1, b1⟩
end LAWT
def S_feed (RR : Mem → Mem → Prop) : Prop := ∀ x m : Mem, RR x m → ∀ (a0 : Int64), ∃ (r : Int32) (x' m' : Mem), fn7_feed a0 x = some (r, x') ∧ fn8_feed a0 m = some (r, m') ∧ RR x' m'
set_option maxRecDepth 20000 in
theorem law_feed {M : MX} {G : GX} {adx adm : Nat → Nat} {b Ln : Nat} {xs : Nat → Int32} {Z : State → Prop} {x m : Mem} {x3 : Int32} {RR : Mem → Mem → Prop} (C : LC M G adx adm b Ln xs) (h1 : vp_in (x3 + 1) Ln) (h2 : vp_in (x3 + 2) Ln) (h3 : vp_in (x3 + 3) Ln) (h4 : vp_in (x3 + 4) Ln) (hs : S_feed RR) (hR : RR x m) (kk : ∀ x' m' : Mem, RR x' m' → LW M G adx adm Z 1420 [(0, .ref b), (1, .ref (adx 0)), (2, .ref (adm 0)), (3, .int x3)] [] x' m') : LW M G adx adm Z 208 [(0, .ref b), (1, .ref (adx 0)), (2, .ref (adm 0)), (3, .int x3)] [] x m := by
  obtain ⟨r, x', m', e1, e2, hR'⟩ := hs x m hR (((xs (x3 + 1).toNatClampNeg).toInt64 <<< ((32 : Int32).toInt64 &&& 63)) ||| ((xs (x3 + 2).toNatClampNeg).toInt64 &&& 4294967295))
  refine lw_aload_n C 1 dL_law_208 rfl rfl ?_
  refine lw_aload_n C 0 dL_law_209 rfl rfl ?_
  refine lw_iload_n C 3 dL_law_210 rfl rfl ?_
  refine lw_iconst C (v := 1) dL_law_211 (by decide) ?_
  refine lw_iadd C dL_law_212 ?_
  refine lw_sld C h1 dL_law_213 ?_
  refine lw_i2l C dL_law_214 rfl ?_
  refine lw_bipush C (v := 32) dL_law_215 (by decide) ?_
  refine lw_lshl C dL_law_217 rfl ?_
  refine lw_aload_n C 0 dL_law_218 rfl rfl ?_
  refine lw_iload_n C 3 dL_law_219 rfl rfl ?_
  refine lw_iconst C (v := 2) dL_law_220 (by decide) ?_
  refine lw_iadd C dL_law_221 ?_
  refine lw_sld C h2 dL_law_222 ?_
  refine lw_i2l C dL_law_223 rfl ?_
  refine lw_ldc2 C dL_law_224 clL_13 ?_
  refine lw_land C dL_law_227 ?_
  refine lw_lor C dL_law_228 ?_
  refine lw_callX C (As := [.long (((xs (x3 + 1).toNatClampNeg).toInt64 <<< ((32 : Int32).toInt64 &&& 63)) ||| ((xs (x3 + 2).toNatClampNeg).toInt64 &&& 4294967295))]) (z1 := (r, x')) rfl miX7_feed mlL_15 imX7_feed seX7_feed (by decide) rfl rfl (mt7_feed e1) rfl (Nat.le_of_ble_eq_true rfl) rfl dL_law_229 ?_
  refine lw_aload_n C 2 dL_law_232 rfl rfl ?_
  refine lw_aload_n C 0 dL_law_233 rfl rfl ?_
  refine lw_iload_n C 3 dL_law_234 rfl rfl ?_
  refine lw_iconst C (v := 1) dL_law_235 (by decide) ?_
  refine lw_iadd C dL_law_236 ?_
  refine lw_sld C h1 dL_law_237 ?_
  refine lw_i2l C dL_law_238 rfl ?_
  refine lw_bipush C (v := 32) dL_law_239 (by decide) ?_
  refine lw_lshl C dL_law_241 rfl ?_
  refine lw_aload_n C 0 dL_law_242 rfl rfl ?_
  refine lw_iload_n C 3 dL_law_243 rfl rfl ?_
  refine lw_iconst C (v := 2) dL_law_244 (by decide) ?_
  refine lw_iadd C dL_law_245 ?_
  refine lw_sld C h2 dL_law_246 ?_
  refine lw_i2l C dL_law_247 rfl ?_
  refine lw_ldc2 C dL_law_248 clL_13 ?_
  refine lw_land C dL_law_251 ?_
  refine lw_lor C dL_law_252 ?_
  refine lw_callM C (As := [.long (((xs (x3 + 1).toNatClampNeg).toInt64 <<< ((32 : Int32).toInt64 &&& 63)) ||| ((xs (x3 + 2).toNatClampNeg).toInt64 &&& 4294967295))]) (z1 := (r, m')) rfl miX8_feed mlL_19 imX8_feed seX8_feed (by decide) rfl rfl (mt8_feed e2) rfl (Nat.le_of_ble_eq_true rfl) rfl dL_law_253 ?_
  refine lw_eq C 1420 dL_law_256 (by decide) rfl ?_
  exact kk x' m' hR'
def S_end (RR : Mem → Mem → Prop) : Prop := ∀ x m : Mem, RR x m → ∀ (a0 : Int32), ∃ (r : Int32) (x' m' : Mem), fn7_end a0 x = some (r, x') ∧ fn8_end a0 m = some (r, m') ∧ RR x' m'
set_option maxRecDepth 20000 in
theorem law_end {M : MX} {G : GX} {adx adm : Nat → Nat} {b Ln : Nat} {xs : Nat → Int32} {Z : State → Prop} {x m : Mem} {x3 : Int32} {RR : Mem → Mem → Prop} (C : LC M G adx adm b Ln xs) (h1 : vp_in (x3 + 1) Ln) (h2 : vp_in (x3 + 2) Ln) (h3 : vp_in (x3 + 3) Ln) (h4 : vp_in (x3 + 4) Ln) (hs : S_end RR) (hR : RR x m) (kk : ∀ x' m' : Mem, RR x' m' → LW M G adx adm Z 1420 [(0, .ref b), (1, .ref (adx 0)), (2, .ref (adm 0)), (3, .int x3)] [] x' m') : LW M G adx adm Z 261 [(0, .ref b), (1, .ref (adx 0)), (2, .ref (adm 0)), (3, .int x3)] [] x m := by
  obtain ⟨r, x', m', e1, e2, hR'⟩ := hs x m hR (xs (x3 + 1).toNatClampNeg)
  refine lw_aload_n C 1 dL_law_261 rfl rfl ?_
  refine lw_aload_n C 0 dL_law_262 rfl rfl ?_
  refine lw_iload_n C 3 dL_law_263 rfl rfl ?_
  refine lw_iconst C (v := 1) dL_law_264 (by decide) ?_
  refine lw_iadd C dL_law_265 ?_
  refine lw_sld C h1 dL_law_266 ?_
  refine lw_callX C (As := [.int (xs (x3 + 1).toNatClampNeg)]) (z1 := (r, x')) rfl miX7_end mlL_20 imX7_end seX7_end (by decide) rfl rfl (mt7_end e1) rfl (Nat.le_of_ble_eq_true rfl) rfl dL_law_267 ?_
  refine lw_aload_n C 2 dL_law_270 rfl rfl ?_
  refine lw_aload_n C 0 dL_law_271 rfl rfl ?_
  refine lw_iload_n C 3 dL_law_272 rfl rfl ?_
  refine lw_iconst C (v := 1) dL_law_273 (by decide) ?_
  refine lw_iadd C dL_law_274 ?_
  refine lw_sld C h1 dL_law_275 ?_
  refine lw_callM C (As := [.int (xs (x3 + 1).toNatClampNeg)]) (z1 := (r, m')) rfl miX8_end mlL_24 imX8_end seX8_end (by decide) rfl rfl (mt8_end e2) rfl (Nat.le_of_ble_eq_true rfl) rfl dL_law_276 ?_
  refine lw_eq C 1420 dL_law_279 (by decide) rfl ?_
  exact kk x' m' hR'
def S_text (RR : Mem → Mem → Prop) : Prop := ∀ x m : Mem, RR x m → ∃ (r : Int32) (x' m' : Mem), fn7_text x = some (r, x') ∧ fn8_text m = some (r, m') ∧ RR x' m'
set_option maxRecDepth 20000 in
theorem law_text {M : MX} {G : GX} {adx adm : Nat → Nat} {b Ln : Nat} {xs : Nat → Int32} {Z : State → Prop} {x m : Mem} {x3 : Int32} {RR : Mem → Mem → Prop} (C : LC M G adx adm b Ln xs) (h1 : vp_in (x3 + 1) Ln) (h2 : vp_in (x3 + 2) Ln) (h3 : vp_in (x3 + 3) Ln) (h4 : vp_in (x3 + 4) Ln) (hs : S_text RR) (hR : RR x m) (kk : ∀ x' m' : Mem, RR x' m' → LW M G adx adm Z 1420 [(0, .ref b), (1, .ref (adx 0)), (2, .ref (adm 0)), (3, .int x3)] [] x' m') : LW M G adx adm Z 284 [(0, .ref b), (1, .ref (adx 0)), (2, .ref (adm 0)), (3, .int x3)] [] x m := by
  obtain ⟨r, x', m', e1, e2, hR'⟩ := hs x m hR 
  refine lw_aload_n C 1 dL_law_284 rfl rfl ?_
  refine lw_callX C (As := []) (z1 := (r, x')) rfl miX7_text mlL_25 imX7_text seX7_text (by decide) rfl rfl (mt7_text e1) rfl (Nat.le_of_ble_eq_true rfl) rfl dL_law_285 ?_
  refine lw_aload_n C 2 dL_law_288 rfl rfl ?_
  refine lw_callM C (As := []) (z1 := (r, m')) rfl miX8_text mlL_29 imX8_text seX8_text (by decide) rfl rfl (mt8_text e2) rfl (Nat.le_of_ble_eq_true rfl) rfl dL_law_289 ?_
  refine lw_eq C 1420 dL_law_292 (by decide) rfl ?_
  exact kk x' m' hR'
def S_fault (RR : Mem → Mem → Prop) : Prop := ∀ x m : Mem, RR x m → ∃ (r : Int32) (x' m' : Mem), fn7_fault x = some (r, x') ∧ fn8_fault m = some (r, m') ∧ RR x' m'
set_option maxRecDepth 20000 in
theorem law_fault {M : MX} {G : GX} {adx adm : Nat → Nat} {b Ln : Nat} {xs : Nat → Int32} {Z : State → Prop} {x m : Mem} {x3 : Int32} {RR : Mem → Mem → Prop} (C : LC M G adx adm b Ln xs) (h1 : vp_in (x3 + 1) Ln) (h2 : vp_in (x3 + 2) Ln) (h3 : vp_in (x3 + 3) Ln) (h4 : vp_in (x3 + 4) Ln) (hs : S_fault RR) (hR : RR x m) (kk : ∀ x' m' : Mem, RR x' m' → LW M G adx adm Z 1420 [(0, .ref b), (1, .ref (adx 0)), (2, .ref (adm 0)), (3, .int x3)] [] x' m') : LW M G adx adm Z 297 [(0, .ref b), (1, .ref (adx 0)), (2, .ref (adm 0)), (3, .int x3)] [] x m := by
  obtain ⟨r, x', m', e1, e2, hR'⟩ := hs x m hR 
  refine lw_aload_n C 1 dL_law_297 rfl rfl ?_
  refine lw_callX C (As := []) (z1 := (r, x')) rfl miX7_fault mlL_30 imX7_fault seX7_fault (by decide) rfl rfl (mt7_fault e1) rfl (Nat.le_of_ble_eq_true rfl) rfl dL_law_298 ?_
  refine lw_aload_n C 2 dL_law_301 rfl rfl ?_
  refine lw_callM C (As := []) (z1 := (r, m')) rfl miX8_fault mlL_33 imX8_fault seX8_fault (by decide) rfl rfl (mt8_fault e2) rfl (Nat.le_of_ble_eq_true rfl) rfl dL_law_302 ?_
  refine lw_eq C 1420 dL_law_305 (by decide) rfl ?_
  exact kk x' m' hR'
def S_rule (RR : Mem → Mem → Prop) : Prop := ∀ x m : Mem, RR x m → ∀ (a0 : Int32), ∃ (r : Int32) (x' m' : Mem), fn7_rule a0 x = some (r, x') ∧ fn8_rule a0 m = some (r, m') ∧ RR x' m'
set_option maxRecDepth 20000 in
theorem law_rule {M : MX} {G : GX} {adx adm : Nat → Nat} {b Ln : Nat} {xs : Nat → Int32} {Z : State → Prop} {x m : Mem} {x3 : Int32} {RR : Mem → Mem → Prop} (C : LC M G adx adm b Ln xs) (h1 : vp_in (x3 + 1) Ln) (h2 : vp_in (x3 + 2) Ln) (h3 : vp_in (x3 + 3) Ln) (h4 : vp_in (x3 + 4) Ln) (hs : S_rule RR) (hR : RR x m) (kk : ∀ x' m' : Mem, RR x' m' → LW M G adx adm Z 1420 [(0, .ref b), (1, .ref (adx 0)), (2, .ref (adm 0)), (3, .int x3)] [] x' m') : LW M G adx adm Z 310 [(0, .ref b), (1, .ref (adx 0)), (2, .ref (adm 0)), (3, .int x3)] [] x m := by
  obtain ⟨r, x', m', e1, e2, hR'⟩ := hs x m hR (xs (x3 + 1).toNatClampNeg)
  refine lw_aload_n C 1 dL_law_310 rfl rfl ?_
  refine lw_aload_n C 0 dL_law_311 rfl rfl ?_
  refine lw_iload_n C 3 dL_law_312 rfl rfl ?_
  refine lw_iconst C (v := 1) dL_law_313 (by decide) ?_
  refine lw_iadd C dL_law_314 ?_
  refine lw_sld C h1 dL_law_315 ?_
  refine lw_callX C (As := [.int (xs (x3 + 1).toNatClampNeg)]) (z1 := (r, x')) rfl miX7_rule mlL_34 imX7_rule seX7_rule (by decide) rfl rfl (mt7_rule e1) rfl (Nat.le_of_ble_eq_true rfl) rfl dL_law_316 ?_
  refine lw_aload_n C 2 dL_law_319 rfl rfl ?_
  refine lw_aload_n C 0 dL_law_320 rfl rfl ?_
  refine lw_iload_n C 3 dL_law_321 rfl rfl ?_
  refine lw_iconst C (v := 1) dL_law_322 (by decide) ?_
  refine lw_iadd C dL_law_323 ?_
  refine lw_sld C h1 dL_law_324 ?_
  refine lw_callM C (As := [.int (xs (x3 + 1).toNatClampNeg)]) (z1 := (r, m')) rfl miX8_rule mlL_37 imX8_rule seX8_rule (by decide) rfl rfl (mt8_rule e2) rfl (Nat.le_of_ble_eq_true rfl) rfl dL_law_325 ?_
  refine lw_eq C 1420 dL_law_328 (by decide) rfl ?_
  exact kk x' m' hR'
def S_one (RR : Mem → Mem → Prop) : Prop := ∀ x m : Mem, RR x m → ∀ (a0 : Int32) (a1 : Int32), ∃ (r : Int32) (x' m' : Mem), fn7_one a0 a1 x = some (r, x') ∧ fn8_one a0 a1 m = some (r, m') ∧ RR x' m'
set_option maxRecDepth 20000 in
theorem law_one {M : MX} {G : GX} {adx adm : Nat → Nat} {b Ln : Nat} {xs : Nat → Int32} {Z : State → Prop} {x m : Mem} {x3 : Int32} {RR : Mem → Mem → Prop} (C : LC M G adx adm b Ln xs) (h1 : vp_in (x3 + 1) Ln) (h2 : vp_in (x3 + 2) Ln) (h3 : vp_in (x3 + 3) Ln) (h4 : vp_in (x3 + 4) Ln) (hs : S_one RR) (hR : RR x m) (kk : ∀ x' m' : Mem, RR x' m' → LW M G adx adm Z 1420 [(0, .ref b), (1, .ref (adx 0)), (2, .ref (adm 0)), (3, .int x3)] [] x' m') : LW M G adx adm Z 333 [(0, .ref b), (1, .ref (adx 0)), (2, .ref (adm 0)), (3, .int x3)] [] x m := by
  obtain ⟨r, x', m', e1, e2, hR'⟩ := hs x m hR (xs (x3 + 1).toNatClampNeg) (xs (x3 + 2).toNatClampNeg)
  refine lw_aload_n C 1 dL_law_333 rfl rfl ?_
  refine lw_aload_n C 0 dL_law_334 rfl rfl ?_
  refine lw_iload_n C 3 dL_law_335 rfl rfl ?_
  refine lw_iconst C (v := 1) dL_law_336 (by decide) ?_
  refine lw_iadd C dL_law_337 ?_
  refine lw_sld C h1 dL_law_338 ?_
  refine lw_aload_n C 0 dL_law_339 rfl rfl ?_
  refine lw_iload_n C 3 dL_law_340 rfl rfl ?_
  refine lw_iconst C (v := 2) dL_law_341 (by decide) ?_
  refine lw_iadd C dL_law_342 ?_
  refine lw_sld C h2 dL_law_343 ?_
  refine lw_callX C (As := [.int (xs (x3 + 1).toNatClampNeg), .int (xs (x3 + 2).toNatClampNeg)]) (z1 := (r, x')) rfl miX7_one mlL_38 imX7_one seX7_one (by decide) rfl rfl (mt7_one e1) rfl (Nat.le_of_ble_eq_true rfl) rfl dL_law_344 ?_
  refine lw_aload_n C 2 dL_law_347 rfl rfl ?_
  refine lw_aload_n C 0 dL_law_348 rfl rfl ?_
  refine lw_iload_n C 3 dL_law_349 rfl rfl ?_
  refine lw_iconst C (v := 1) dL_law_350 (by decide) ?_
  refine lw_iadd C dL_law_351 ?_
  refine lw_sld C h1 dL_law_352 ?_
  refine lw_aload_n C 0 dL_law_353 rfl rfl ?_
  refine lw_iload_n C 3 dL_law_354 rfl rfl ?_
  refine lw_iconst C (v := 2) dL_law_355 (by decide) ?_
  refine lw_iadd C dL_law_356 ?_
  refine lw_sld C h2 dL_law_357 ?_
  refine lw_callM C (As := [.int (xs (x3 + 1).toNatClampNeg), .int (xs (x3 + 2).toNatClampNeg)]) (z1 := (r, m')) rfl miX8_one mlL_42 imX8_one seX8_one (by decide) rfl rfl (mt8_one e2) rfl (Nat.le_of_ble_eq_true rfl) rfl dL_law_358 ?_
  refine lw_eq C 1420 dL_law_361 (by decide) rfl ?_
  exact kk x' m' hR'
def S_coin (RR : Mem → Mem → Prop) : Prop := ∀ x m : Mem, RR x m → ∀ (a0 : Int32) (a1 : Int32), ∃ (r : Int32) (x' m' : Mem), fn7_coin a0 a1 x = some (r, x') ∧ fn8_coin a0 a1 m = some (r, m') ∧ RR x' m'
set_option maxRecDepth 20000 in
theorem law_coin {M : MX} {G : GX} {adx adm : Nat → Nat} {b Ln : Nat} {xs : Nat → Int32} {Z : State → Prop} {x m : Mem} {x3 : Int32} {RR : Mem → Mem → Prop} (C : LC M G adx adm b Ln xs) (h1 : vp_in (x3 + 1) Ln) (h2 : vp_in (x3 + 2) Ln) (h3 : vp_in (x3 + 3) Ln) (h4 : vp_in (x3 + 4) Ln) (hs : S_coin RR) (hR : RR x m) (kk : ∀ x' m' : Mem, RR x' m' → LW M G adx adm Z 1420 [(0, .ref b), (1, .ref (adx 0)), (2, .ref (adm 0)), (3, .int x3)] [] x' m') : LW M G adx adm Z 366 [(0, .ref b), (1, .ref (adx 0)), (2, .ref (adm 0)), (3, .int x3)] [] x m := by
  obtain ⟨r, x', m', e1, e2, hR'⟩ := hs x m hR (xs (x3 + 1).toNatClampNeg) (xs (x3 + 2).toNatClampNeg)
  refine lw_aload_n C 1 dL_law_366 rfl rfl ?_
  refine lw_aload_n C 0 dL_law_367 rfl rfl ?_
  refine lw_iload_n C 3 dL_law_368 rfl rfl ?_
  refine lw_iconst C (v := 1) dL_law_369 (by decide) ?_
  refine lw_iadd C dL_law_370 ?_
  refine lw_sld C h1 dL_law_371 ?_
  refine lw_aload_n C 0 dL_law_372 rfl rfl ?_
  refine lw_iload_n C 3 dL_law_373 rfl rfl ?_
  refine lw_iconst C (v := 2) dL_law_374 (by decide) ?_
  refine lw_iadd C dL_law_375 ?_
  refine lw_sld C h2 dL_law_376 ?_
  refine lw_callX C (As := [.int (xs (x3 + 1).toNatClampNeg), .int (xs (x3 + 2).toNatClampNeg)]) (z1 := (r, x')) rfl miX7_coin mlL_43 imX7_coin seX7_coin (by decide) rfl rfl (mt7_coin e1) rfl (Nat.le_of_ble_eq_true rfl) rfl dL_law_377 ?_
  refine lw_aload_n C 2 dL_law_380 rfl rfl ?_
  refine lw_aload_n C 0 dL_law_381 rfl rfl ?_
  refine lw_iload_n C 3 dL_law_382 rfl rfl ?_
  refine lw_iconst C (v := 1) dL_law_383 (by decide) ?_
  refine lw_iadd C dL_law_384 ?_
  refine lw_sld C h1 dL_law_385 ?_
  refine lw_aload_n C 0 dL_law_386 rfl rfl ?_
  refine lw_iload_n C 3 dL_law_387 rfl rfl ?_
  refine lw_iconst C (v := 2) dL_law_388 (by decide) ?_
  refine lw_iadd C dL_law_389 ?_
  refine lw_sld C h2 dL_law_390 ?_
  refine lw_callM C (As := [.int (xs (x3 + 1).toNatClampNeg), .int (xs (x3 + 2).toNatClampNeg)]) (z1 := (r, m')) rfl miX8_coin mlL_46 imX8_coin seX8_coin (by decide) rfl rfl (mt8_coin e2) rfl (Nat.le_of_ble_eq_true rfl) rfl dL_law_391 ?_
  refine lw_eq C 1420 dL_law_394 (by decide) rfl ?_
  exact kk x' m' hR'
def S_talk (RR : Mem → Mem → Prop) : Prop := ∀ x m : Mem, RR x m → ∀ (a0 : Int32) (a1 : Int32), ∃ (r : Int32) (x' m' : Mem), fn7_talk a0 a1 x = some (r, x') ∧ fn8_talk a0 a1 m = some (r, m') ∧ RR x' m'
set_option maxRecDepth 20000 in
theorem law_talk {M : MX} {G : GX} {adx adm : Nat → Nat} {b Ln : Nat} {xs : Nat → Int32} {Z : State → Prop} {x m : Mem} {x3 : Int32} {RR : Mem → Mem → Prop} (C : LC M G adx adm b Ln xs) (h1 : vp_in (x3 + 1) Ln) (h2 : vp_in (x3 + 2) Ln) (h3 : vp_in (x3 + 3) Ln) (h4 : vp_in (x3 + 4) Ln) (hs : S_talk RR) (hR : RR x m) (kk : ∀ x' m' : Mem, RR x' m' → LW M G adx adm Z 1420 [(0, .ref b), (1, .ref (adx 0)), (2, .ref (adm 0)), (3, .int x3)] [] x' m') : LW M G adx adm Z 399 [(0, .ref b), (1, .ref (adx 0)), (2, .ref (adm 0)), (3, .int x3)] [] x m := by
  obtain ⟨r, x', m', e1, e2, hR'⟩ := hs x m hR (xs (x3 + 1).toNatClampNeg) (xs (x3 + 2).toNatClampNeg)
  refine lw_aload_n C 1 dL_law_399 rfl rfl ?_
  refine lw_aload_n C 0 dL_law_400 rfl rfl ?_
  refine lw_iload_n C 3 dL_law_401 rfl rfl ?_
  refine lw_iconst C (v := 1) dL_law_402 (by decide) ?_
  refine lw_iadd C dL_law_403 ?_
  refine lw_sld C h1 dL_law_404 ?_
  refine lw_aload_n C 0 dL_law_405 rfl rfl ?_
  refine lw_iload_n C 3 dL_law_406 rfl rfl ?_
  refine lw_iconst C (v := 2) dL_law_407 (by decide) ?_
  refine lw_iadd C dL_law_408 ?_
  refine lw_sld C h2 dL_law_409 ?_
  refine lw_callX C (As := [.int (xs (x3 + 1).toNatClampNeg), .int (xs (x3 + 2).toNatClampNeg)]) (z1 := (r, x')) rfl miX7_talk mlL_47 imX7_talk seX7_talk (by decide) rfl rfl (mt7_talk e1) rfl (Nat.le_of_ble_eq_true rfl) rfl dL_law_410 ?_
  refine lw_aload_n C 2 dL_law_413 rfl rfl ?_
  refine lw_aload_n C 0 dL_law_414 rfl rfl ?_
  refine lw_iload_n C 3 dL_law_415 rfl rfl ?_
  refine lw_iconst C (v := 1) dL_law_416 (by decide) ?_
  refine lw_iadd C dL_law_417 ?_
  refine lw_sld C h1 dL_law_418 ?_
  refine lw_aload_n C 0 dL_law_419 rfl rfl ?_
  refine lw_iload_n C 3 dL_law_420 rfl rfl ?_
  refine lw_iconst C (v := 2) dL_law_421 (by decide) ?_
  refine lw_iadd C dL_law_422 ?_
  refine lw_sld C h2 dL_law_423 ?_
  refine lw_callM C (As := [.int (xs (x3 + 1).toNatClampNeg), .int (xs (x3 + 2).toNatClampNeg)]) (z1 := (r, m')) rfl miX8_talk mlL_50 imX8_talk seX8_talk (by decide) rfl rfl (mt8_talk e2) rfl (Nat.le_of_ble_eq_true rfl) rfl dL_law_424 ?_
  refine lw_eq C 1420 dL_law_427 (by decide) rfl ?_
  exact kk x' m' hR'
def S_law (RR : Mem → Mem → Prop) : Prop := ∀ x m : Mem, RR x m → ∀ (a0 : Int32), ∃ (r : Int32) (x' m' : Mem), fn7_law a0 x = some (r, x') ∧ fn8_law a0 m = some (r, m') ∧ RR x' m'
set_option maxRecDepth 20000 in
theorem law_law {M : MX} {G : GX} {adx adm : Nat → Nat} {b Ln : Nat} {xs : Nat → Int32} {Z : State → Prop} {x m : Mem} {x3 : Int32} {RR : Mem → Mem → Prop} (C : LC M G adx adm b Ln xs) (h1 : vp_in (x3 + 1) Ln) (h2 : vp_in (x3 + 2) Ln) (h3 : vp_in (x3 + 3) Ln) (h4 : vp_in (x3 + 4) Ln) (hs : S_law RR) (hR : RR x m) (kk : ∀ x' m' : Mem, RR x' m' → LW M G adx adm Z 1420 [(0, .ref b), (1, .ref (adx 0)), (2, .ref (adm 0)), (3, .int x3)] [] x' m') : LW M G adx adm Z 432 [(0, .ref b), (1, .ref (adx 0)), (2, .ref (adm 0)), (3, .int x3)] [] x m := by
  obtain ⟨r, x', m', e1, e2, hR'⟩ := hs x m hR (xs (x3 + 1).toNatClampNeg)
  refine lw_aload_n C 1 dL_law_432 rfl rfl ?_
  refine lw_aload_n C 0 dL_law_433 rfl rfl ?_
  refine lw_iload_n C 3 dL_law_434 rfl rfl ?_
  refine lw_iconst C (v := 1) dL_law_435 (by decide) ?_
  refine lw_iadd C dL_law_436 ?_
  refine lw_sld C h1 dL_law_437 ?_
  refine lw_callX C (As := [.int (xs (x3 + 1).toNatClampNeg)]) (z1 := (r, x')) rfl miX7_law mlL_51 imX7_law seX7_law (by decide) rfl rfl (mt7_law e1) rfl (Nat.le_of_ble_eq_true rfl) rfl dL_law_438 ?_
  refine lw_aload_n C 2 dL_law_441 rfl rfl ?_
  refine lw_aload_n C 0 dL_law_442 rfl rfl ?_
  refine lw_iload_n C 3 dL_law_443 rfl rfl ?_
  refine lw_iconst C (v := 1) dL_law_444 (by decide) ?_
  refine lw_iadd C dL_law_445 ?_
  refine lw_sld C h1 dL_law_446 ?_
  refine lw_callM C (As := [.int (xs (x3 + 1).toNatClampNeg)]) (z1 := (r, m')) rfl miX8_law mlL_54 imX8_law seX8_law (by decide) rfl rfl (mt8_law e2) rfl (Nat.le_of_ble_eq_true rfl) rfl dL_law_447 ?_
  refine lw_eq C 1420 dL_law_450 (by decide) rfl ?_
  exact kk x' m' hR'
def S_fee (RR : Mem → Mem → Prop) : Prop := ∀ x m : Mem, RR x m → ∀ (a0 : Int32), ∃ (r : Int32) (x' m' : Mem), fn7_fee a0 x = some (r, x') ∧ fn8_fee a0 m = some (r, m') ∧ RR x' m'
set_option maxRecDepth 20000 in
theorem law_fee {M : MX} {G : GX} {adx adm : Nat → Nat} {b Ln : Nat} {xs : Nat → Int32} {Z : State → Prop} {x m : Mem} {x3 : Int32} {RR : Mem → Mem → Prop} (C : LC M G adx adm b Ln xs) (h1 : vp_in (x3 + 1) Ln) (h2 : vp_in (x3 + 2) Ln) (h3 : vp_in (x3 + 3) Ln) (h4 : vp_in (x3 + 4) Ln) (hs : S_fee RR) (hR : RR x m) (kk : ∀ x' m' : Mem, RR x' m' → LW M G adx adm Z 1420 [(0, .ref b), (1, .ref (adx 0)), (2, .ref (adm 0)), (3, .int x3)] [] x' m') : LW M G adx adm Z 455 [(0, .ref b), (1, .ref (adx 0)), (2, .ref (adm 0)), (3, .int x3)] [] x m := by
  obtain ⟨r, x', m', e1, e2, hR'⟩ := hs x m hR (xs (x3 + 1).toNatClampNeg)
  refine lw_aload_n C 1 dL_law_455 rfl rfl ?_
  refine lw_aload_n C 0 dL_law_456 rfl rfl ?_
  refine lw_iload_n C 3 dL_law_457 rfl rfl ?_
  refine lw_iconst C (v := 1) dL_law_458 (by decide) ?_
  refine lw_iadd C dL_law_459 ?_
  refine lw_sld C h1 dL_law_460 ?_
  refine lw_callX C (As := [.int (xs (x3 + 1).toNatClampNeg)]) (z1 := (r, x')) rfl miX7_fee mlL_55 imX7_fee seX7_fee (by decide) rfl rfl (mt7_fee e1) rfl (Nat.le_of_ble_eq_true rfl) rfl dL_law_461 ?_
  refine lw_aload_n C 2 dL_law_464 rfl rfl ?_
  refine lw_aload_n C 0 dL_law_465 rfl rfl ?_
  refine lw_iload_n C 3 dL_law_466 rfl rfl ?_
  refine lw_iconst C (v := 1) dL_law_467 (by decide) ?_
  refine lw_iadd C dL_law_468 ?_
  refine lw_sld C h1 dL_law_469 ?_
  refine lw_callM C (As := [.int (xs (x3 + 1).toNatClampNeg)]) (z1 := (r, m')) rfl miX8_fee mlL_58 imX8_fee seX8_fee (by decide) rfl rfl (mt8_fee e2) rfl (Nat.le_of_ble_eq_true rfl) rfl dL_law_470 ?_
  refine lw_eq C 1420 dL_law_473 (by decide) rfl ?_
  exact kk x' m' hR'
def S_give (RR : Mem → Mem → Prop) : Prop := ∀ x m : Mem, RR x m → ∀ (a0 : Int32) (a1 : Int32), ∃ (r : Int32) (x' m' : Mem), fn7_give a0 a1 x = some (r, x') ∧ fn8_give a0 a1 m = some (r, m') ∧ RR x' m'
set_option maxRecDepth 20000 in
theorem law_give {M : MX} {G : GX} {adx adm : Nat → Nat} {b Ln : Nat} {xs : Nat → Int32} {Z : State → Prop} {x m : Mem} {x3 : Int32} {RR : Mem → Mem → Prop} (C : LC M G adx adm b Ln xs) (h1 : vp_in (x3 + 1) Ln) (h2 : vp_in (x3 + 2) Ln) (h3 : vp_in (x3 + 3) Ln) (h4 : vp_in (x3 + 4) Ln) (hs : S_give RR) (hR : RR x m) (kk : ∀ x' m' : Mem, RR x' m' → LW M G adx adm Z 1420 [(0, .ref b), (1, .ref (adx 0)), (2, .ref (adm 0)), (3, .int x3)] [] x' m') : LW M G adx adm Z 478 [(0, .ref b), (1, .ref (adx 0)), (2, .ref (adm 0)), (3, .int x3)] [] x m := by
  obtain ⟨r, x', m', e1, e2, hR'⟩ := hs x m hR (xs (x3 + 1).toNatClampNeg) (xs (x3 + 2).toNatClampNeg)
  refine lw_aload_n C 1 dL_law_478 rfl rfl ?_
  refine lw_aload_n C 0 dL_law_479 rfl rfl ?_
  refine lw_iload_n C 3 dL_law_480 rfl rfl ?_
  refine lw_iconst C (v := 1) dL_law_481 (by decide) ?_
  refine lw_iadd C dL_law_482 ?_
  refine lw_sld C h1 dL_law_483 ?_
  refine lw_aload_n C 0 dL_law_484 rfl rfl ?_
  refine lw_iload_n C 3 dL_law_485 rfl rfl ?_
  refine lw_iconst C (v := 2) dL_law_486 (by decide) ?_
  refine lw_iadd C dL_law_487 ?_
  refine lw_sld C h2 dL_law_488 ?_
  refine lw_callX C (As := [.int (xs (x3 + 1).toNatClampNeg), .int (xs (x3 + 2).toNatClampNeg)]) (z1 := (r, x')) rfl miX7_give mlL_59 imX7_give seX7_give (by decide) rfl rfl (mt7_give e1) rfl (Nat.le_of_ble_eq_true rfl) rfl dL_law_489 ?_
  refine lw_aload_n C 2 dL_law_492 rfl rfl ?_
  refine lw_aload_n C 0 dL_law_493 rfl rfl ?_
  refine lw_iload_n C 3 dL_law_494 rfl rfl ?_
  refine lw_iconst C (v := 1) dL_law_495 (by decide) ?_
  refine lw_iadd C dL_law_496 ?_
  refine lw_sld C h1 dL_law_497 ?_
  refine lw_aload_n C 0 dL_law_498 rfl rfl ?_
  refine lw_iload_n C 3 dL_law_499 rfl rfl ?_
  refine lw_iconst C (v := 2) dL_law_500 (by decide) ?_
  refine lw_iadd C dL_law_501 ?_
  refine lw_sld C h2 dL_law_502 ?_
  refine lw_callM C (As := [.int (xs (x3 + 1).toNatClampNeg), .int (xs (x3 + 2).toNatClampNeg)]) (z1 := (r, m')) rfl miX8_give mlL_62 imX8_give seX8_give (by decide) rfl rfl (mt8_give e2) rfl (Nat.le_of_ble_eq_true rfl) rfl dL_law_503 ?_
  refine lw_eq C 1420 dL_law_506 (by decide) rfl ?_
  exact kk x' m' hR'
def S_clip (RR : Mem → Mem → Prop) : Prop := ∀ x m : Mem, RR x m → ∀ (a0 : Int32), ∃ (r : Int32) (x' m' : Mem), fn7_clip a0 x = some (r, x') ∧ fn8_clip a0 m = some (r, m') ∧ RR x' m'
set_option maxRecDepth 20000 in
theorem law_clip {M : MX} {G : GX} {adx adm : Nat → Nat} {b Ln : Nat} {xs : Nat → Int32} {Z : State → Prop} {x m : Mem} {x3 : Int32} {RR : Mem → Mem → Prop} (C : LC M G adx adm b Ln xs) (h1 : vp_in (x3 + 1) Ln) (h2 : vp_in (x3 + 2) Ln) (h3 : vp_in (x3 + 3) Ln) (h4 : vp_in (x3 + 4) Ln) (hs : S_clip RR) (hR : RR x m) (kk : ∀ x' m' : Mem, RR x' m' → LW M G adx adm Z 1420 [(0, .ref b), (1, .ref (adx 0)), (2, .ref (adm 0)), (3, .int x3)] [] x' m') : LW M G adx adm Z 511 [(0, .ref b), (1, .ref (adx 0)), (2, .ref (adm 0)), (3, .int x3)] [] x m := by
  obtain ⟨r, x', m', e1, e2, hR'⟩ := hs x m hR (xs (x3 + 1).toNatClampNeg)
  refine lw_aload_n C 1 dL_law_511 rfl rfl ?_
  refine lw_aload_n C 0 dL_law_512 rfl rfl ?_
  refine lw_iload_n C 3 dL_law_513 rfl rfl ?_
  refine lw_iconst C (v := 1) dL_law_514 (by decide) ?_
  refine lw_iadd C dL_law_515 ?_
  refine lw_sld C h1 dL_law_516 ?_
  refine lw_callX C (As := [.int (xs (x3 + 1).toNatClampNeg)]) (z1 := (r, x')) rfl miX7_clip mlL_63 imX7_clip seX7_clip (by decide) rfl rfl (mt7_clip e1) rfl (Nat.le_of_ble_eq_true rfl) rfl dL_law_517 ?_
  refine lw_aload_n C 2 dL_law_520 rfl rfl ?_
  refine lw_aload_n C 0 dL_law_521 rfl rfl ?_
  refine lw_iload_n C 3 dL_law_522 rfl rfl ?_
  refine lw_iconst C (v := 1) dL_law_523 (by decide) ?_
  refine lw_iadd C dL_law_524 ?_
  refine lw_sld C h1 dL_law_525 ?_
  refine lw_callM C (As := [.int (xs (x3 + 1).toNatClampNeg)]) (z1 := (r, m')) rfl miX8_clip mlL_66 imX8_clip seX8_clip (by decide) rfl rfl (mt8_clip e2) rfl (Nat.le_of_ble_eq_true rfl) rfl dL_law_526 ?_
  refine lw_eq C 1420 dL_law_529 (by decide) rfl ?_
  exact kk x' m' hR'
def S_spend (RR : Mem → Mem → Prop) : Prop := ∀ x m : Mem, RR x m → ∀ (a0 : Int32) (a1 : Int32), ∃ (r : Int32) (x' m' : Mem), fn7_spend a0 a1 x = some (r, x') ∧ fn8_spend a0 a1 m = some (r, m') ∧ RR x' m'
set_option maxRecDepth 20000 in
theorem law_spend {M : MX} {G : GX} {adx adm : Nat → Nat} {b Ln : Nat} {xs : Nat → Int32} {Z : State → Prop} {x m : Mem} {x3 : Int32} {RR : Mem → Mem → Prop} (C : LC M G adx adm b Ln xs) (h1 : vp_in (x3 + 1) Ln) (h2 : vp_in (x3 + 2) Ln) (h3 : vp_in (x3 + 3) Ln) (h4 : vp_in (x3 + 4) Ln) (hs : S_spend RR) (hR : RR x m) (kk : ∀ x' m' : Mem, RR x' m' → LW M G adx adm Z 1420 [(0, .ref b), (1, .ref (adx 0)), (2, .ref (adm 0)), (3, .int x3)] [] x' m') : LW M G adx adm Z 534 [(0, .ref b), (1, .ref (adx 0)), (2, .ref (adm 0)), (3, .int x3)] [] x m := by
  obtain ⟨r, x', m', e1, e2, hR'⟩ := hs x m hR (xs (x3 + 1).toNatClampNeg) (xs (x3 + 2).toNatClampNeg)
  refine lw_aload_n C 1 dL_law_534 rfl rfl ?_
  refine lw_aload_n C 0 dL_law_535 rfl rfl ?_
  refine lw_iload_n C 3 dL_law_536 rfl rfl ?_
  refine lw_iconst C (v := 1) dL_law_537 (by decide) ?_
  refine lw_iadd C dL_law_538 ?_
  refine lw_sld C h1 dL_law_539 ?_
  refine lw_aload_n C 0 dL_law_540 rfl rfl ?_
  refine lw_iload_n C 3 dL_law_541 rfl rfl ?_
  refine lw_iconst C (v := 2) dL_law_542 (by decide) ?_
  refine lw_iadd C dL_law_543 ?_
  refine lw_sld C h2 dL_law_544 ?_
  refine lw_callX C (As := [.int (xs (x3 + 1).toNatClampNeg), .int (xs (x3 + 2).toNatClampNeg)]) (z1 := (r, x')) rfl miX7_spend mlL_67 imX7_spend seX7_spend (by decide) rfl rfl (mt7_spend e1) rfl (Nat.le_of_ble_eq_true rfl) rfl dL_law_545 ?_
  refine lw_aload_n C 2 dL_law_548 rfl rfl ?_
  refine lw_aload_n C 0 dL_law_549 rfl rfl ?_
  refine lw_iload_n C 3 dL_law_550 rfl rfl ?_
  refine lw_iconst C (v := 1) dL_law_551 (by decide) ?_
  refine lw_iadd C dL_law_552 ?_
  refine lw_sld C h1 dL_law_553 ?_
  refine lw_aload_n C 0 dL_law_554 rfl rfl ?_
  refine lw_iload_n C 3 dL_law_555 rfl rfl ?_
  refine lw_iconst C (v := 2) dL_law_556 (by decide) ?_
  refine lw_iadd C dL_law_557 ?_
  refine lw_sld C h2 dL_law_558 ?_
  refine lw_callM C (As := [.int (xs (x3 + 1).toNatClampNeg), .int (xs (x3 + 2).toNatClampNeg)]) (z1 := (r, m')) rfl miX8_spend mlL_70 imX8_spend seX8_spend (by decide) rfl rfl (mt8_spend e2) rfl (Nat.le_of_ble_eq_true rfl) rfl dL_law_559 ?_
  refine lw_eq C 1420 dL_law_562 (by decide) rfl ?_
  exact kk x' m' hR'
def S_undo (RR : Mem → Mem → Prop) : Prop := ∀ x m : Mem, RR x m → ∀ (a0 : Int32), ∃ (r : Int32) (x' m' : Mem), fn7_undo a0 x = some (r, x') ∧ fn8_undo a0 m = some (r, m') ∧ RR x' m'
set_option maxRecDepth 20000 in
theorem law_undo {M : MX} {G : GX} {adx adm : Nat → Nat} {b Ln : Nat} {xs : Nat → Int32} {Z : State → Prop} {x m : Mem} {x3 : Int32} {RR : Mem → Mem → Prop} (C : LC M G adx adm b Ln xs) (h1 : vp_in (x3 + 1) Ln) (h2 : vp_in (x3 + 2) Ln) (h3 : vp_in (x3 + 3) Ln) (h4 : vp_in (x3 + 4) Ln) (hs : S_undo RR) (hR : RR x m) (kk : ∀ x' m' : Mem, RR x' m' → LW M G adx adm Z 1420 [(0, .ref b), (1, .ref (adx 0)), (2, .ref (adm 0)), (3, .int x3)] [] x' m') : LW M G adx adm Z 567 [(0, .ref b), (1, .ref (adx 0)), (2, .ref (adm 0)), (3, .int x3)] [] x m := by
  obtain ⟨r, x', m', e1, e2, hR'⟩ := hs x m hR (xs (x3 + 1).toNatClampNeg)
  refine lw_aload_n C 1 dL_law_567 rfl rfl ?_
  refine lw_aload_n C 0 dL_law_568 rfl rfl ?_
  refine lw_iload_n C 3 dL_law_569 rfl rfl ?_
  refine lw_iconst C (v := 1) dL_law_570 (by decide) ?_
  refine lw_iadd C dL_law_571 ?_
  refine lw_sld C h1 dL_law_572 ?_
  refine lw_callX C (As := [.int (xs (x3 + 1).toNatClampNeg)]) (z1 := (r, x')) rfl miX7_undo mlL_71 imX7_undo seX7_undo (by decide) rfl rfl (mt7_undo e1) rfl (Nat.le_of_ble_eq_true rfl) rfl dL_law_573 ?_
  refine lw_aload_n C 2 dL_law_576 rfl rfl ?_
  refine lw_aload_n C 0 dL_law_577 rfl rfl ?_
  refine lw_iload_n C 3 dL_law_578 rfl rfl ?_
  refine lw_iconst C (v := 1) dL_law_579 (by decide) ?_
  refine lw_iadd C dL_law_580 ?_
  refine lw_sld C h1 dL_law_581 ?_
  refine lw_callM C (As := [.int (xs (x3 + 1).toNatClampNeg)]) (z1 := (r, m')) rfl miX8_undo mlL_74 imX8_undo seX8_undo (by decide) rfl rfl (mt8_undo e2) rfl (Nat.le_of_ble_eq_true rfl) rfl dL_law_582 ?_
  refine lw_eq C 1420 dL_law_585 (by decide) rfl ?_
  exact kk x' m' hR'
def S_speak (RR : Mem → Mem → Prop) : Prop := ∀ x m : Mem, RR x m → ∀ (a0 : Int32) (a1 : Int32) (a2 : Int32), ∃ (r : Int32) (x' m' : Mem), fn7_speak a0 a1 a2 x = some (r, x') ∧ fn8_speak a0 a1 a2 m = some (r, m') ∧ RR x' m'
set_option maxRecDepth 20000 in
theorem law_speak {M : MX} {G : GX} {adx adm : Nat → Nat} {b Ln : Nat} {xs : Nat → Int32} {Z : State → Prop} {x m : Mem} {x3 : Int32} {RR : Mem → Mem → Prop} (C : LC M G adx adm b Ln xs) (h1 : vp_in (x3 + 1) Ln) (h2 : vp_in (x3 + 2) Ln) (h3 : vp_in (x3 + 3) Ln) (h4 : vp_in (x3 + 4) Ln) (hs : S_speak RR) (hR : RR x m) (kk : ∀ x' m' : Mem, RR x' m' → LW M G adx adm Z 1420 [(0, .ref b), (1, .ref (adx 0)), (2, .ref (adm 0)), (3, .int x3)] [] x' m') : LW M G adx adm Z 590 [(0, .ref b), (1, .ref (adx 0)), (2, .ref (adm 0)), (3, .int x3)] [] x m := by
  obtain ⟨r, x', m', e1, e2, hR'⟩ := hs x m hR (xs (x3 + 1).toNatClampNeg) (xs (x3 + 2).toNatClampNeg) (xs (x3 + 3).toNatClampNeg)
  refine lw_aload_n C 1 dL_law_590 rfl rfl ?_
  refine lw_aload_n C 0 dL_law_591 rfl rfl ?_
  refine lw_iload_n C 3 dL_law_592 rfl rfl ?_
  refine lw_iconst C (v := 1) dL_law_593 (by decide) ?_
  refine lw_iadd C dL_law_594 ?_
  refine lw_sld C h1 dL_law_595 ?_
  refine lw_aload_n C 0 dL_law_596 rfl rfl ?_
  refine lw_iload_n C 3 dL_law_597 rfl rfl ?_
  refine lw_iconst C (v := 2) dL_law_598 (by decide) ?_
  refine lw_iadd C dL_law_599 ?_
  refine lw_sld C h2 dL_law_600 ?_
  refine lw_aload_n C 0 dL_law_601 rfl rfl ?_
  refine lw_iload_n C 3 dL_law_602 rfl rfl ?_
  refine lw_iconst C (v := 3) dL_law_603 (by decide) ?_
  refine lw_iadd C dL_law_604 ?_
  refine lw_sld C h3 dL_law_605 ?_
  refine lw_callX C (As := [.int (xs (x3 + 1).toNatClampNeg), .int (xs (x3 + 2).toNatClampNeg), .int (xs (x3 + 3).toNatClampNeg)]) (z1 := (r, x')) rfl miX7_speak mlL_75 imX7_speak seX7_speak (by decide) rfl rfl (mt7_speak e1) rfl (Nat.le_of_ble_eq_true rfl) rfl dL_law_606 ?_
  refine lw_aload_n C 2 dL_law_609 rfl rfl ?_
  refine lw_aload_n C 0 dL_law_610 rfl rfl ?_
  refine lw_iload_n C 3 dL_law_611 rfl rfl ?_
  refine lw_iconst C (v := 1) dL_law_612 (by decide) ?_
  refine lw_iadd C dL_law_613 ?_
  refine lw_sld C h1 dL_law_614 ?_
  refine lw_aload_n C 0 dL_law_615 rfl rfl ?_
  refine lw_iload_n C 3 dL_law_616 rfl rfl ?_
  refine lw_iconst C (v := 2) dL_law_617 (by decide) ?_
  refine lw_iadd C dL_law_618 ?_
  refine lw_sld C h2 dL_law_619 ?_
  refine lw_aload_n C 0 dL_law_620 rfl rfl ?_
  refine lw_iload_n C 3 dL_law_621 rfl rfl ?_
  refine lw_iconst C (v := 3) dL_law_622 (by decide) ?_
  refine lw_iadd C dL_law_623 ?_
  refine lw_sld C h3 dL_law_624 ?_
  refine lw_callM C (As := [.int (xs (x3 + 1).toNatClampNeg), .int (xs (x3 + 2).toNatClampNeg), .int (xs (x3 + 3).toNatClampNeg)]) (z1 := (r, m')) rfl miX8_speak mlL_79 imX8_speak seX8_speak (by decide) rfl rfl (mt8_speak e2) rfl (Nat.le_of_ble_eq_true rfl) rfl dL_law_625 ?_
  refine lw_eq C 1420 dL_law_628 (by decide) rfl ?_
  exact kk x' m' hR'
def S_silent (RR : Mem → Mem → Prop) : Prop := ∀ x m : Mem, RR x m → ∀ (a0 : Int32), ∃ (r : Int32) (x' m' : Mem), fn7_silent a0 x = some (r, x') ∧ fn8_silent a0 m = some (r, m') ∧ RR x' m'
set_option maxRecDepth 20000 in
theorem law_silent {M : MX} {G : GX} {adx adm : Nat → Nat} {b Ln : Nat} {xs : Nat → Int32} {Z : State → Prop} {x m : Mem} {x3 : Int32} {RR : Mem → Mem → Prop} (C : LC M G adx adm b Ln xs) (h1 : vp_in (x3 + 1) Ln) (h2 : vp_in (x3 + 2) Ln) (h3 : vp_in (x3 + 3) Ln) (h4 : vp_in (x3 + 4) Ln) (hs : S_silent RR) (hR : RR x m) (kk : ∀ x' m' : Mem, RR x' m' → LW M G adx adm Z 1420 [(0, .ref b), (1, .ref (adx 0)), (2, .ref (adm 0)), (3, .int x3)] [] x' m') : LW M G adx adm Z 633 [(0, .ref b), (1, .ref (adx 0)), (2, .ref (adm 0)), (3, .int x3)] [] x m := by
  obtain ⟨r, x', m', e1, e2, hR'⟩ := hs x m hR (xs (x3 + 1).toNatClampNeg)
  refine lw_aload_n C 1 dL_law_633 rfl rfl ?_
  refine lw_aload_n C 0 dL_law_634 rfl rfl ?_
  refine lw_iload_n C 3 dL_law_635 rfl rfl ?_
  refine lw_iconst C (v := 1) dL_law_636 (by decide) ?_
  refine lw_iadd C dL_law_637 ?_
  refine lw_sld C h1 dL_law_638 ?_
  refine lw_callX C (As := [.int (xs (x3 + 1).toNatClampNeg)]) (z1 := (r, x')) rfl miX7_silent mlL_80 imX7_silent seX7_silent (by decide) rfl rfl (mt7_silent e1) rfl (Nat.le_of_ble_eq_true rfl) rfl dL_law_639 ?_
  refine lw_aload_n C 2 dL_law_642 rfl rfl ?_
  refine lw_aload_n C 0 dL_law_643 rfl rfl ?_
  refine lw_iload_n C 3 dL_law_644 rfl rfl ?_
  refine lw_iconst C (v := 1) dL_law_645 (by decide) ?_
  refine lw_iadd C dL_law_646 ?_
  refine lw_sld C h1 dL_law_647 ?_
  refine lw_callM C (As := [.int (xs (x3 + 1).toNatClampNeg)]) (z1 := (r, m')) rfl miX8_silent mlL_83 imX8_silent seX8_silent (by decide) rfl rfl (mt8_silent e2) rfl (Nat.le_of_ble_eq_true rfl) rfl dL_law_648 ?_
  refine lw_eq C 1420 dL_law_651 (by decide) rfl ?_
  exact kk x' m' hR'
def S_quiet (RR : Mem → Mem → Prop) : Prop := ∀ x m : Mem, RR x m → ∀ (a0 : Int32), ∃ (r : Int32) (x' m' : Mem), fn7_quiet a0 x = some (r, x') ∧ fn8_quiet a0 m = some (r, m') ∧ RR x' m'
set_option maxRecDepth 20000 in
theorem law_quiet {M : MX} {G : GX} {adx adm : Nat → Nat} {b Ln : Nat} {xs : Nat → Int32} {Z : State → Prop} {x m : Mem} {x3 : Int32} {RR : Mem → Mem → Prop} (C : LC M G adx adm b Ln xs) (h1 : vp_in (x3 + 1) Ln) (h2 : vp_in (x3 + 2) Ln) (h3 : vp_in (x3 + 3) Ln) (h4 : vp_in (x3 + 4) Ln) (hs : S_quiet RR) (hR : RR x m) (kk : ∀ x' m' : Mem, RR x' m' → LW M G adx adm Z 1420 [(0, .ref b), (1, .ref (adx 0)), (2, .ref (adm 0)), (3, .int x3)] [] x' m') : LW M G adx adm Z 656 [(0, .ref b), (1, .ref (adx 0)), (2, .ref (adm 0)), (3, .int x3)] [] x m := by
  obtain ⟨r, x', m', e1, e2, hR'⟩ := hs x m hR (xs (x3 + 1).toNatClampNeg)
  refine lw_aload_n C 1 dL_law_656 rfl rfl ?_
  refine lw_aload_n C 0 dL_law_657 rfl rfl ?_
  refine lw_iload_n C 3 dL_law_658 rfl rfl ?_
  refine lw_iconst C (v := 1) dL_law_659 (by decide) ?_
  refine lw_iadd C dL_law_660 ?_
  refine lw_sld C h1 dL_law_661 ?_
  refine lw_callX C (As := [.int (xs (x3 + 1).toNatClampNeg)]) (z1 := (r, x')) rfl miX7_quiet mlL_84 imX7_quiet seX7_quiet (by decide) rfl rfl (mt7_quiet e1) rfl (Nat.le_of_ble_eq_true rfl) rfl dL_law_662 ?_
  refine lw_aload_n C 2 dL_law_665 rfl rfl ?_
  refine lw_aload_n C 0 dL_law_666 rfl rfl ?_
  refine lw_iload_n C 3 dL_law_667 rfl rfl ?_
  refine lw_iconst C (v := 1) dL_law_668 (by decide) ?_
  refine lw_iadd C dL_law_669 ?_
  refine lw_sld C h1 dL_law_670 ?_
  refine lw_callM C (As := [.int (xs (x3 + 1).toNatClampNeg)]) (z1 := (r, m')) rfl miX8_quiet mlL_87 imX8_quiet seX8_quiet (by decide) rfl rfl (mt8_quiet e2) rfl (Nat.le_of_ble_eq_true rfl) rfl dL_law_671 ?_
  refine lw_eq C 1420 dL_law_674 (by decide) rfl ?_
  exact kk x' m' hR'
def S_may (RR : Mem → Mem → Prop) : Prop := ∀ x m : Mem, RR x m → ∀ (a0 : Int32) (a1 : Int32) (a2 : Int32), ∃ (r : Int32) (x' m' : Mem), fn7_may a0 a1 a2 x = some (r, x') ∧ fn8_may a0 a1 a2 m = some (r, m') ∧ RR x' m'
set_option maxRecDepth 20000 in
theorem law_may {M : MX} {G : GX} {adx adm : Nat → Nat} {b Ln : Nat} {xs : Nat → Int32} {Z : State → Prop} {x m : Mem} {x3 : Int32} {RR : Mem → Mem → Prop} (C : LC M G adx adm b Ln xs) (h1 : vp_in (x3 + 1) Ln) (h2 : vp_in (x3 + 2) Ln) (h3 : vp_in (x3 + 3) Ln) (h4 : vp_in (x3 + 4) Ln) (hs : S_may RR) (hR : RR x m) (kk : ∀ x' m' : Mem, RR x' m' → LW M G adx adm Z 1420 [(0, .ref b), (1, .ref (adx 0)), (2, .ref (adm 0)), (3, .int x3)] [] x' m') : LW M G adx adm Z 679 [(0, .ref b), (1, .ref (adx 0)), (2, .ref (adm 0)), (3, .int x3)] [] x m := by
  obtain ⟨r, x', m', e1, e2, hR'⟩ := hs x m hR (xs (x3 + 1).toNatClampNeg) (xs (x3 + 2).toNatClampNeg) (xs (x3 + 3).toNatClampNeg)
  refine lw_aload_n C 1 dL_law_679 rfl rfl ?_
  refine lw_aload_n C 0 dL_law_680 rfl rfl ?_
  refine lw_iload_n C 3 dL_law_681 rfl rfl ?_
  refine lw_iconst C (v := 1) dL_law_682 (by decide) ?_
  refine lw_iadd C dL_law_683 ?_
  refine lw_sld C h1 dL_law_684 ?_
  refine lw_aload_n C 0 dL_law_685 rfl rfl ?_
  refine lw_iload_n C 3 dL_law_686 rfl rfl ?_
  refine lw_iconst C (v := 2) dL_law_687 (by decide) ?_
  refine lw_iadd C dL_law_688 ?_
  refine lw_sld C h2 dL_law_689 ?_
  refine lw_aload_n C 0 dL_law_690 rfl rfl ?_
  refine lw_iload_n C 3 dL_law_691 rfl rfl ?_
  refine lw_iconst C (v := 3) dL_law_692 (by decide) ?_
  refine lw_iadd C dL_law_693 ?_
  refine lw_sld C h3 dL_law_694 ?_
  refine lw_callX C (As := [.int (xs (x3 + 1).toNatClampNeg), .int (xs (x3 + 2).toNatClampNeg), .int (xs (x3 + 3).toNatClampNeg)]) (z1 := (r, x')) rfl miX7_may mlL_88 imX7_may seX7_may (by decide) rfl rfl (mt7_may e1) rfl (Nat.le_of_ble_eq_true rfl) rfl dL_law_695 ?_
  refine lw_aload_n C 2 dL_law_698 rfl rfl ?_
  refine lw_aload_n C 0 dL_law_699 rfl rfl ?_
  refine lw_iload_n C 3 dL_law_700 rfl rfl ?_
  refine lw_iconst C (v := 1) dL_law_701 (by decide) ?_
  refine lw_iadd C dL_law_702 ?_
  refine lw_sld C h1 dL_law_703 ?_
  refine lw_aload_n C 0 dL_law_704 rfl rfl ?_
  refine lw_iload_n C 3 dL_law_705 rfl rfl ?_
  refine lw_iconst C (v := 2) dL_law_706 (by decide) ?_
  refine lw_iadd C dL_law_707 ?_
  refine lw_sld C h2 dL_law_708 ?_
  refine lw_aload_n C 0 dL_law_709 rfl rfl ?_
  refine lw_iload_n C 3 dL_law_710 rfl rfl ?_
  refine lw_iconst C (v := 3) dL_law_711 (by decide) ?_
  refine lw_iadd C dL_law_712 ?_
  refine lw_sld C h3 dL_law_713 ?_
  refine lw_callM C (As := [.int (xs (x3 + 1).toNatClampNeg), .int (xs (x3 + 2).toNatClampNeg), .int (xs (x3 + 3).toNatClampNeg)]) (z1 := (r, m')) rfl miX8_may mlL_91 imX8_may seX8_may (by decide) rfl rfl (mt8_may e2) rfl (Nat.le_of_ble_eq_true rfl) rfl dL_law_714 ?_
  refine lw_eq C 1420 dL_law_717 (by decide) rfl ?_
  exact kk x' m' hR'
def S_said (RR : Mem → Mem → Prop) : Prop := ∀ x m : Mem, RR x m → ∃ (r : Int32) (x' m' : Mem), fn7_said x = some (r, x') ∧ fn8_said m = some (r, m') ∧ RR x' m'
set_option maxRecDepth 20000 in
theorem law_said {M : MX} {G : GX} {adx adm : Nat → Nat} {b Ln : Nat} {xs : Nat → Int32} {Z : State → Prop} {x m : Mem} {x3 : Int32} {RR : Mem → Mem → Prop} (C : LC M G adx adm b Ln xs) (h1 : vp_in (x3 + 1) Ln) (h2 : vp_in (x3 + 2) Ln) (h3 : vp_in (x3 + 3) Ln) (h4 : vp_in (x3 + 4) Ln) (hs : S_said RR) (hR : RR x m) (kk : ∀ x' m' : Mem, RR x' m' → LW M G adx adm Z 1420 [(0, .ref b), (1, .ref (adx 0)), (2, .ref (adm 0)), (3, .int x3)] [] x' m') : LW M G adx adm Z 722 [(0, .ref b), (1, .ref (adx 0)), (2, .ref (adm 0)), (3, .int x3)] [] x m := by
  obtain ⟨r, x', m', e1, e2, hR'⟩ := hs x m hR 
  refine lw_aload_n C 1 dL_law_722 rfl rfl ?_
  refine lw_callX C (As := []) (z1 := (r, x')) rfl miX7_said mlL_92 imX7_said seX7_said (by decide) rfl rfl (mt7_said e1) rfl (Nat.le_of_ble_eq_true rfl) rfl dL_law_723 ?_
  refine lw_aload_n C 2 dL_law_726 rfl rfl ?_
  refine lw_callM C (As := []) (z1 := (r, m')) rfl miX8_said mlL_95 imX8_said seX8_said (by decide) rfl rfl (mt8_said e2) rfl (Nat.le_of_ble_eq_true rfl) rfl dL_law_727 ?_
  refine lw_eq C 1420 dL_law_730 (by decide) rfl ?_
  exact kk x' m' hR'
def S_knows (RR : Mem → Mem → Prop) : Prop := ∀ x m : Mem, RR x m → ∀ (a0 : Int32) (a1 : Int32), ∃ (r : Int32) (x' m' : Mem), fn7_knows a0 a1 x = some (r, x') ∧ fn8_knows a0 a1 m = some (r, m') ∧ RR x' m'
set_option maxRecDepth 20000 in
theorem law_knows {M : MX} {G : GX} {adx adm : Nat → Nat} {b Ln : Nat} {xs : Nat → Int32} {Z : State → Prop} {x m : Mem} {x3 : Int32} {RR : Mem → Mem → Prop} (C : LC M G adx adm b Ln xs) (h1 : vp_in (x3 + 1) Ln) (h2 : vp_in (x3 + 2) Ln) (h3 : vp_in (x3 + 3) Ln) (h4 : vp_in (x3 + 4) Ln) (hs : S_knows RR) (hR : RR x m) (kk : ∀ x' m' : Mem, RR x' m' → LW M G adx adm Z 1420 [(0, .ref b), (1, .ref (adx 0)), (2, .ref (adm 0)), (3, .int x3)] [] x' m') : LW M G adx adm Z 735 [(0, .ref b), (1, .ref (adx 0)), (2, .ref (adm 0)), (3, .int x3)] [] x m := by
  obtain ⟨r, x', m', e1, e2, hR'⟩ := hs x m hR (xs (x3 + 1).toNatClampNeg) (xs (x3 + 2).toNatClampNeg)
  refine lw_aload_n C 1 dL_law_735 rfl rfl ?_
  refine lw_aload_n C 0 dL_law_736 rfl rfl ?_
  refine lw_iload_n C 3 dL_law_737 rfl rfl ?_
  refine lw_iconst C (v := 1) dL_law_738 (by decide) ?_
  refine lw_iadd C dL_law_739 ?_
  refine lw_sld C h1 dL_law_740 ?_
  refine lw_aload_n C 0 dL_law_741 rfl rfl ?_
  refine lw_iload_n C 3 dL_law_742 rfl rfl ?_
  refine lw_iconst C (v := 2) dL_law_743 (by decide) ?_
  refine lw_iadd C dL_law_744 ?_
  refine lw_sld C h2 dL_law_745 ?_
  refine lw_callX C (As := [.int (xs (x3 + 1).toNatClampNeg), .int (xs (x3 + 2).toNatClampNeg)]) (z1 := (r, x')) rfl miX7_knows mlL_96 imX7_knows seX7_knows (by decide) rfl rfl (mt7_knows e1) rfl (Nat.le_of_ble_eq_true rfl) rfl dL_law_746 ?_
  refine lw_aload_n C 2 dL_law_749 rfl rfl ?_
  refine lw_aload_n C 0 dL_law_750 rfl rfl ?_
  refine lw_iload_n C 3 dL_law_751 rfl rfl ?_
  refine lw_iconst C (v := 1) dL_law_752 (by decide) ?_
  refine lw_iadd C dL_law_753 ?_
  refine lw_sld C h1 dL_law_754 ?_
  refine lw_aload_n C 0 dL_law_755 rfl rfl ?_
  refine lw_iload_n C 3 dL_law_756 rfl rfl ?_
  refine lw_iconst C (v := 2) dL_law_757 (by decide) ?_
  refine lw_iadd C dL_law_758 ?_
  refine lw_sld C h2 dL_law_759 ?_
  refine lw_callM C (As := [.int (xs (x3 + 1).toNatClampNeg), .int (xs (x3 + 2).toNatClampNeg)]) (z1 := (r, m')) rfl miX8_knows mlL_99 imX8_knows seX8_knows (by decide) rfl rfl (mt8_knows e2) rfl (Nat.le_of_ble_eq_true rfl) rfl dL_law_760 ?_
  refine lw_eq C 1420 dL_law_763 (by decide) rfl ?_
  exact kk x' m' hR'
def S_learns (RR : Mem → Mem → Prop) : Prop := ∀ x m : Mem, RR x m → ∀ (a0 : Int32) (a1 : Int32), ∃ (r : Int32) (x' m' : Mem), fn7_learns a0 a1 x = some (r, x') ∧ fn8_learns a0 a1 m = some (r, m') ∧ RR x' m'
set_option maxRecDepth 20000 in
theorem law_learns {M : MX} {G : GX} {adx adm : Nat → Nat} {b Ln : Nat} {xs : Nat → Int32} {Z : State → Prop} {x m : Mem} {x3 : Int32} {RR : Mem → Mem → Prop} (C : LC M G adx adm b Ln xs) (h1 : vp_in (x3 + 1) Ln) (h2 : vp_in (x3 + 2) Ln) (h3 : vp_in (x3 + 3) Ln) (h4 : vp_in (x3 + 4) Ln) (hs : S_learns RR) (hR : RR x m) (kk : ∀ x' m' : Mem, RR x' m' → LW M G adx adm Z 1420 [(0, .ref b), (1, .ref (adx 0)), (2, .ref (adm 0)), (3, .int x3)] [] x' m') : LW M G adx adm Z 768 [(0, .ref b), (1, .ref (adx 0)), (2, .ref (adm 0)), (3, .int x3)] [] x m := by
  obtain ⟨r, x', m', e1, e2, hR'⟩ := hs x m hR (xs (x3 + 1).toNatClampNeg) (xs (x3 + 2).toNatClampNeg)
  refine lw_aload_n C 1 dL_law_768 rfl rfl ?_
  refine lw_aload_n C 0 dL_law_769 rfl rfl ?_
  refine lw_iload_n C 3 dL_law_770 rfl rfl ?_
  refine lw_iconst C (v := 1) dL_law_771 (by decide) ?_
  refine lw_iadd C dL_law_772 ?_
  refine lw_sld C h1 dL_law_773 ?_
  refine lw_aload_n C 0 dL_law_774 rfl rfl ?_
  refine lw_iload_n C 3 dL_law_775 rfl rfl ?_
  refine lw_iconst C (v := 2) dL_law_776 (by decide) ?_
  refine lw_iadd C dL_law_777 ?_
  refine lw_sld C h2 dL_law_778 ?_
  refine lw_callX C (As := [.int (xs (x3 + 1).toNatClampNeg), .int (xs (x3 + 2).toNatClampNeg)]) (z1 := (r, x')) rfl miX7_learns mlL_100 imX7_learns seX7_learns (by decide) rfl rfl (mt7_learns e1) rfl (Nat.le_of_ble_eq_true rfl) rfl dL_law_779 ?_
  refine lw_aload_n C 2 dL_law_782 rfl rfl ?_
  refine lw_aload_n C 0 dL_law_783 rfl rfl ?_
  refine lw_iload_n C 3 dL_law_784 rfl rfl ?_
  refine lw_iconst C (v := 1) dL_law_785 (by decide) ?_
  refine lw_iadd C dL_law_786 ?_
  refine lw_sld C h1 dL_law_787 ?_
  refine lw_aload_n C 0 dL_law_788 rfl rfl ?_
  refine lw_iload_n C 3 dL_law_789 rfl rfl ?_
  refine lw_iconst C (v := 2) dL_law_790 (by decide) ?_
  refine lw_iadd C dL_law_791 ?_
  refine lw_sld C h2 dL_law_792 ?_
  refine lw_callM C (As := [.int (xs (x3 + 1).toNatClampNeg), .int (xs (x3 + 2).toNatClampNeg)]) (z1 := (r, m')) rfl miX8_learns mlL_103 imX8_learns seX8_learns (by decide) rfl rfl (mt8_learns e2) rfl (Nat.le_of_ble_eq_true rfl) rfl dL_law_793 ?_
  refine lw_eq C 1420 dL_law_796 (by decide) rfl ?_
  exact kk x' m' hR'
def S_hush (RR : Mem → Mem → Prop) : Prop := ∀ x m : Mem, RR x m → ∀ (a0 : Int32) (a1 : Int32) (a2 : Int32), ∃ (r : Int32) (x' m' : Mem), fn7_hush a0 a1 a2 x = some (r, x') ∧ fn8_hush a0 a1 a2 m = some (r, m') ∧ RR x' m'
set_option maxRecDepth 20000 in
theorem law_hush {M : MX} {G : GX} {adx adm : Nat → Nat} {b Ln : Nat} {xs : Nat → Int32} {Z : State → Prop} {x m : Mem} {x3 : Int32} {RR : Mem → Mem → Prop} (C : LC M G adx adm b Ln xs) (h1 : vp_in (x3 + 1) Ln) (h2 : vp_in (x3 + 2) Ln) (h3 : vp_in (x3 + 3) Ln) (h4 : vp_in (x3 + 4) Ln) (hs : S_hush RR) (hR : RR x m) (kk : ∀ x' m' : Mem, RR x' m' → LW M G adx adm Z 1420 [(0, .ref b), (1, .ref (adx 0)), (2, .ref (adm 0)), (3, .int x3)] [] x' m') : LW M G adx adm Z 801 [(0, .ref b), (1, .ref (adx 0)), (2, .ref (adm 0)), (3, .int x3)] [] x m := by
  obtain ⟨r, x', m', e1, e2, hR'⟩ := hs x m hR (xs (x3 + 1).toNatClampNeg) (xs (x3 + 2).toNatClampNeg) (xs (x3 + 3).toNatClampNeg)
  refine lw_aload_n C 1 dL_law_801 rfl rfl ?_
  refine lw_aload_n C 0 dL_law_802 rfl rfl ?_
  refine lw_iload_n C 3 dL_law_803 rfl rfl ?_
  refine lw_iconst C (v := 1) dL_law_804 (by decide) ?_
  refine lw_iadd C dL_law_805 ?_
  refine lw_sld C h1 dL_law_806 ?_
  refine lw_aload_n C 0 dL_law_807 rfl rfl ?_
  refine lw_iload_n C 3 dL_law_808 rfl rfl ?_
  refine lw_iconst C (v := 2) dL_law_809 (by decide) ?_
  refine lw_iadd C dL_law_810 ?_
  refine lw_sld C h2 dL_law_811 ?_
  refine lw_aload_n C 0 dL_law_812 rfl rfl ?_
  refine lw_iload_n C 3 dL_law_813 rfl rfl ?_
  refine lw_iconst C (v := 3) dL_law_814 (by decide) ?_
  refine lw_iadd C dL_law_815 ?_
  refine lw_sld C h3 dL_law_816 ?_
  refine lw_callX C (As := [.int (xs (x3 + 1).toNatClampNeg), .int (xs (x3 + 2).toNatClampNeg), .int (xs (x3 + 3).toNatClampNeg)]) (z1 := (r, x')) rfl miX7_hush mlL_104 imX7_hush seX7_hush (by decide) rfl rfl (mt7_hush e1) rfl (Nat.le_of_ble_eq_true rfl) rfl dL_law_817 ?_
  refine lw_aload_n C 2 dL_law_820 rfl rfl ?_
  refine lw_aload_n C 0 dL_law_821 rfl rfl ?_
  refine lw_iload_n C 3 dL_law_822 rfl rfl ?_
  refine lw_iconst C (v := 1) dL_law_823 (by decide) ?_
  refine lw_iadd C dL_law_824 ?_
  refine lw_sld C h1 dL_law_825 ?_
  refine lw_aload_n C 0 dL_law_826 rfl rfl ?_
  refine lw_iload_n C 3 dL_law_827 rfl rfl ?_
  refine lw_iconst C (v := 2) dL_law_828 (by decide) ?_
  refine lw_iadd C dL_law_829 ?_
  refine lw_sld C h2 dL_law_830 ?_
  refine lw_aload_n C 0 dL_law_831 rfl rfl ?_
  refine lw_iload_n C 3 dL_law_832 rfl rfl ?_
  refine lw_iconst C (v := 3) dL_law_833 (by decide) ?_
  refine lw_iadd C dL_law_834 ?_
  refine lw_sld C h3 dL_law_835 ?_
  refine lw_callM C (As := [.int (xs (x3 + 1).toNatClampNeg), .int (xs (x3 + 2).toNatClampNeg), .int (xs (x3 + 3).toNatClampNeg)]) (z1 := (r, m')) rfl miX8_hush mlL_107 imX8_hush seX8_hush (by decide) rfl rfl (mt8_hush e2) rfl (Nat.le_of_ble_eq_true rfl) rfl dL_law_836 ?_
  refine lw_eq C 1420 dL_law_839 (by decide) rfl ?_
  exact kk x' m' hR'
def S_hear (RR : Mem → Mem → Prop) : Prop := ∀ x m : Mem, RR x m → ∀ (a0 : Int32) (a1 : Int32), (a1 = 0 ∨ a1 = 1) → ∃ (r : Int32) (x' m' : Mem), fn7_hear a0 a1 x = some (r, x') ∧ fn8_hear a0 a1 m = some (r, m') ∧ RR x' m'
set_option maxRecDepth 20000 in
theorem law_hear {M : MX} {G : GX} {adx adm : Nat → Nat} {b Ln : Nat} {xs : Nat → Int32} {Z : State → Prop} {x m : Mem} {x3 : Int32} {RR : Mem → Mem → Prop} (C : LC M G adx adm b Ln xs) (h1 : vp_in (x3 + 1) Ln) (h2 : vp_in (x3 + 2) Ln) (h3 : vp_in (x3 + 3) Ln) (h4 : vp_in (x3 + 4) Ln) (hs : S_hear RR) (hR : RR x m) (kk : ∀ x' m' : Mem, RR x' m' → LW M G adx adm Z 1420 [(0, .ref b), (1, .ref (adx 0)), (2, .ref (adm 0)), (3, .int x3)] [] x' m') : LW M G adx adm Z 844 [(0, .ref b), (1, .ref (adx 0)), (2, .ref (adm 0)), (3, .int x3)] [] x m := by
  by_cases hb : (xs (x3 + 2).toNatClampNeg) = 0
  · obtain ⟨r, x', m', e1, e2, hR'⟩ := hs x m hR (xs (x3 + 1).toNatClampNeg) 0 (by decide)
    refine lw_aload_n C 1 dL_law_844 rfl rfl ?_
    refine lw_aload_n C 0 dL_law_845 rfl rfl ?_
    refine lw_iload_n C 3 dL_law_846 rfl rfl ?_
    refine lw_iconst C (v := 1) dL_law_847 (by decide) ?_
    refine lw_iadd C dL_law_848 ?_
    refine lw_sld C h1 dL_law_849 ?_
    refine lw_aload_n C 0 dL_law_850 rfl rfl ?_
    refine lw_iload_n C 3 dL_law_851 rfl rfl ?_
    refine lw_iconst C (v := 2) dL_law_852 (by decide) ?_
    refine lw_iadd C dL_law_853 ?_
    refine lw_sld C h2 dL_law_854 ?_
    refine lw_if_t C 862 dL_law_855 (by decide) hb ?_
    refine lw_iconst C (v := 0) dL_law_862 (by decide) ?_
    refine lw_callX C (As := [.int (xs (x3 + 1).toNatClampNeg), .int 0]) (z1 := (r, x')) rfl miX7_hear mlL_108 imX7_hear seX7_hear (by decide) rfl rfl (mt7_hear e1) rfl (Nat.le_of_ble_eq_true rfl) rfl dL_law_863 ?_
    refine lw_aload_n C 2 dL_law_866 rfl rfl ?_
    refine lw_aload_n C 0 dL_law_867 rfl rfl ?_
    refine lw_iload_n C 3 dL_law_868 rfl rfl ?_
    refine lw_iconst C (v := 1) dL_law_869 (by decide) ?_
    refine lw_iadd C dL_law_870 ?_
    refine lw_sld C h1 dL_law_871 ?_
    refine lw_aload_n C 0 dL_law_872 rfl rfl ?_
    refine lw_iload_n C 3 dL_law_873 rfl rfl ?_
    refine lw_iconst C (v := 2) dL_law_874 (by decide) ?_
    refine lw_iadd C dL_law_875 ?_
    refine lw_sld C h2 dL_law_876 ?_
    refine lw_if_t C 884 dL_law_877 (by decide) hb ?_
    refine lw_iconst C (v := 0) dL_law_884 (by decide) ?_
    refine lw_callM C (As := [.int (xs (x3 + 1).toNatClampNeg), .int 0]) (z1 := (r, m')) rfl miX8_hear mlL_112 imX8_hear seX8_hear (by decide) rfl rfl (mt8_hear e2) rfl (Nat.le_of_ble_eq_true rfl) rfl dL_law_885 ?_
    refine lw_eq C 1420 dL_law_888 (by decide) rfl ?_
    exact kk x' m' hR'
  · obtain ⟨r, x', m', e1, e2, hR'⟩ := hs x m hR (xs (x3 + 1).toNatClampNeg) 1 (by decide)
    refine lw_aload_n C 1 dL_law_844 rfl rfl ?_
    refine lw_aload_n C 0 dL_law_845 rfl rfl ?_
    refine lw_iload_n C 3 dL_law_846 rfl rfl ?_
    refine lw_iconst C (v := 1) dL_law_847 (by decide) ?_
    refine lw_iadd C dL_law_848 ?_
    refine lw_sld C h1 dL_law_849 ?_
    refine lw_aload_n C 0 dL_law_850 rfl rfl ?_
    refine lw_iload_n C 3 dL_law_851 rfl rfl ?_
    refine lw_iconst C (v := 2) dL_law_852 (by decide) ?_
    refine lw_iadd C dL_law_853 ?_
    refine lw_sld C h2 dL_law_854 ?_
    refine lw_if_f C 862 dL_law_855 (by decide) hb ?_
    refine lw_iconst C (v := 1) dL_law_858 (by decide) ?_
    refine lw_goto C 863 dL_law_859 (by decide) ?_
    refine lw_callX C (As := [.int (xs (x3 + 1).toNatClampNeg), .int 1]) (z1 := (r, x')) rfl miX7_hear mlL_108 imX7_hear seX7_hear (by decide) rfl rfl (mt7_hear e1) rfl (Nat.le_of_ble_eq_true rfl) rfl dL_law_863 ?_
    refine lw_aload_n C 2 dL_law_866 rfl rfl ?_
    refine lw_aload_n C 0 dL_law_867 rfl rfl ?_
    refine lw_iload_n C 3 dL_law_868 rfl rfl ?_
    refine lw_iconst C (v := 1) dL_law_869 (by decide) ?_
    refine lw_iadd C dL_law_870 ?_
    refine lw_sld C h1 dL_law_871 ?_
    refine lw_aload_n C 0 dL_law_872 rfl rfl ?_
    refine lw_iload_n C 3 dL_law_873 rfl rfl ?_
    refine lw_iconst C (v := 2) dL_law_874 (by decide) ?_
    refine lw_iadd C dL_law_875 ?_
    refine lw_sld C h2 dL_law_876 ?_
    refine lw_if_f C 884 dL_law_877 (by decide) hb ?_
    refine lw_iconst C (v := 1) dL_law_880 (by decide) ?_
    refine lw_goto C 885 dL_law_881 (by decide) ?_
    refine lw_callM C (As := [.int (xs (x3 + 1).toNatClampNeg), .int 1]) (z1 := (r, m')) rfl miX8_hear mlL_112 imX8_hear seX8_hear (by decide) rfl rfl (mt8_hear e2) rfl (Nat.le_of_ble_eq_true rfl) rfl dL_law_885 ?_
    refine lw_eq C 1420 dL_law_888 (by decide) rfl ?_
    exact kk x' m' hR'
def S_forget (RR : Mem → Mem → Prop) : Prop := ∀ x m : Mem, RR x m → ∀ (a0 : Int32), ∃ (r : Int32) (x' m' : Mem), fn7_forget a0 x = some (r, x') ∧ fn8_forget a0 m = some (r, m') ∧ RR x' m'
set_option maxRecDepth 20000 in
theorem law_forget {M : MX} {G : GX} {adx adm : Nat → Nat} {b Ln : Nat} {xs : Nat → Int32} {Z : State → Prop} {x m : Mem} {x3 : Int32} {RR : Mem → Mem → Prop} (C : LC M G adx adm b Ln xs) (h1 : vp_in (x3 + 1) Ln) (h2 : vp_in (x3 + 2) Ln) (h3 : vp_in (x3 + 3) Ln) (h4 : vp_in (x3 + 4) Ln) (hs : S_forget RR) (hR : RR x m) (kk : ∀ x' m' : Mem, RR x' m' → LW M G adx adm Z 1420 [(0, .ref b), (1, .ref (adx 0)), (2, .ref (adm 0)), (3, .int x3)] [] x' m') : LW M G adx adm Z 893 [(0, .ref b), (1, .ref (adx 0)), (2, .ref (adm 0)), (3, .int x3)] [] x m := by
  obtain ⟨r, x', m', e1, e2, hR'⟩ := hs x m hR (xs (x3 + 1).toNatClampNeg)
  refine lw_aload_n C 1 dL_law_893 rfl rfl ?_
  refine lw_aload_n C 0 dL_law_894 rfl rfl ?_
  refine lw_iload_n C 3 dL_law_895 rfl rfl ?_
  refine lw_iconst C (v := 1) dL_law_896 (by decide) ?_
  refine lw_iadd C dL_law_897 ?_
  refine lw_sld C h1 dL_law_898 ?_
  refine lw_callX C (As := [.int (xs (x3 + 1).toNatClampNeg)]) (z1 := (r, x')) rfl miX7_forget mlL_113 imX7_forget seX7_forget (by decide) rfl rfl (mt7_forget e1) rfl (Nat.le_of_ble_eq_true rfl) rfl dL_law_899 ?_
  refine lw_aload_n C 2 dL_law_902 rfl rfl ?_
  refine lw_aload_n C 0 dL_law_903 rfl rfl ?_
  refine lw_iload_n C 3 dL_law_904 rfl rfl ?_
  refine lw_iconst C (v := 1) dL_law_905 (by decide) ?_
  refine lw_iadd C dL_law_906 ?_
  refine lw_sld C h1 dL_law_907 ?_
  refine lw_callM C (As := [.int (xs (x3 + 1).toNatClampNeg)]) (z1 := (r, m')) rfl miX8_forget mlL_116 imX8_forget seX8_forget (by decide) rfl rfl (mt8_forget e2) rfl (Nat.le_of_ble_eq_true rfl) rfl dL_law_908 ?_
  refine lw_eq C 1420 dL_law_911 (by decide) rfl ?_
  exact kk x' m' hR'
def S_first (RR : Mem → Mem → Prop) : Prop := ∀ x m : Mem, RR x m → ∃ (r : Int32) (x' m' : Mem), fn7_first x = some (r, x') ∧ fn8_first m = some (r, m') ∧ RR x' m'
set_option maxRecDepth 20000 in
theorem law_first {M : MX} {G : GX} {adx adm : Nat → Nat} {b Ln : Nat} {xs : Nat → Int32} {Z : State → Prop} {x m : Mem} {x3 : Int32} {RR : Mem → Mem → Prop} (C : LC M G adx adm b Ln xs) (h1 : vp_in (x3 + 1) Ln) (h2 : vp_in (x3 + 2) Ln) (h3 : vp_in (x3 + 3) Ln) (h4 : vp_in (x3 + 4) Ln) (hs : S_first RR) (hR : RR x m) (kk : ∀ x' m' : Mem, RR x' m' → LW M G adx adm Z 1420 [(0, .ref b), (1, .ref (adx 0)), (2, .ref (adm 0)), (3, .int x3)] [] x' m') : LW M G adx adm Z 916 [(0, .ref b), (1, .ref (adx 0)), (2, .ref (adm 0)), (3, .int x3)] [] x m := by
  obtain ⟨r, x', m', e1, e2, hR'⟩ := hs x m hR 
  refine lw_aload_n C 1 dL_law_916 rfl rfl ?_
  refine lw_callX C (As := []) (z1 := (r, x')) rfl miX7_first mlL_117 imX7_first seX7_first (by decide) rfl rfl (mt7_first e1) rfl (Nat.le_of_ble_eq_true rfl) rfl dL_law_917 ?_
  refine lw_aload_n C 2 dL_law_920 rfl rfl ?_
  refine lw_callM C (As := []) (z1 := (r, m')) rfl miX8_first mlL_120 imX8_first seX8_first (by decide) rfl rfl (mt8_first e2) rfl (Nat.le_of_ble_eq_true rfl) rfl dL_law_921 ?_
  refine lw_eq C 1420 dL_law_924 (by decide) rfl ?_
  exact kk x' m' hR'
def S_funeral (RR : Mem → Mem → Prop) : Prop := ∀ x m : Mem, RR x m → ∀ (a0 : Int32) (a1 : Int32) (a2 : Int32), ∃ (r : Int32) (x' m' : Mem), fn7_funeral a0 a1 a2 x = some (r, x') ∧ fn8_funeral a0 a1 a2 m = some (r, m') ∧ RR x' m'
set_option maxRecDepth 20000 in
theorem law_funeral {M : MX} {G : GX} {adx adm : Nat → Nat} {b Ln : Nat} {xs : Nat → Int32} {Z : State → Prop} {x m : Mem} {x3 : Int32} {RR : Mem → Mem → Prop} (C : LC M G adx adm b Ln xs) (h1 : vp_in (x3 + 1) Ln) (h2 : vp_in (x3 + 2) Ln) (h3 : vp_in (x3 + 3) Ln) (h4 : vp_in (x3 + 4) Ln) (hs : S_funeral RR) (hR : RR x m) (kk : ∀ x' m' : Mem, RR x' m' → LW M G adx adm Z 1420 [(0, .ref b), (1, .ref (adx 0)), (2, .ref (adm 0)), (3, .int x3)] [] x' m') : LW M G adx adm Z 929 [(0, .ref b), (1, .ref (adx 0)), (2, .ref (adm 0)), (3, .int x3)] [] x m := by
  obtain ⟨r, x', m', e1, e2, hR'⟩ := hs x m hR (xs (x3 + 1).toNatClampNeg) (xs (x3 + 2).toNatClampNeg) (xs (x3 + 3).toNatClampNeg)
  refine lw_aload_n C 1 dL_law_929 rfl rfl ?_
  refine lw_aload_n C 0 dL_law_930 rfl rfl ?_
  refine lw_iload_n C 3 dL_law_931 rfl rfl ?_
  refine lw_iconst C (v := 1) dL_law_932 (by decide) ?_
  refine lw_iadd C dL_law_933 ?_
  refine lw_sld C h1 dL_law_934 ?_
  refine lw_aload_n C 0 dL_law_935 rfl rfl ?_
  refine lw_iload_n C 3 dL_law_936 rfl rfl ?_
  refine lw_iconst C (v := 2) dL_law_937 (by decide) ?_
  refine lw_iadd C dL_law_938 ?_
  refine lw_sld C h2 dL_law_939 ?_
  refine lw_aload_n C 0 dL_law_940 rfl rfl ?_
  refine lw_iload_n C 3 dL_law_941 rfl rfl ?_
  refine lw_iconst C (v := 3) dL_law_942 (by decide) ?_
  refine lw_iadd C dL_law_943 ?_
  refine lw_sld C h3 dL_law_944 ?_
  refine lw_callX C (As := [.int (xs (x3 + 1).toNatClampNeg), .int (xs (x3 + 2).toNatClampNeg), .int (xs (x3 + 3).toNatClampNeg)]) (z1 := (r, x')) rfl miX7_funeral mlL_121 imX7_funeral seX7_funeral (by decide) rfl rfl (mt7_funeral e1) rfl (Nat.le_of_ble_eq_true rfl) rfl dL_law_945 ?_
  refine lw_aload_n C 2 dL_law_948 rfl rfl ?_
  refine lw_aload_n C 0 dL_law_949 rfl rfl ?_
  refine lw_iload_n C 3 dL_law_950 rfl rfl ?_
  refine lw_iconst C (v := 1) dL_law_951 (by decide) ?_
  refine lw_iadd C dL_law_952 ?_
  refine lw_sld C h1 dL_law_953 ?_
  refine lw_aload_n C 0 dL_law_954 rfl rfl ?_
  refine lw_iload_n C 3 dL_law_955 rfl rfl ?_
  refine lw_iconst C (v := 2) dL_law_956 (by decide) ?_
  refine lw_iadd C dL_law_957 ?_
  refine lw_sld C h2 dL_law_958 ?_
  refine lw_aload_n C 0 dL_law_959 rfl rfl ?_
  refine lw_iload_n C 3 dL_law_960 rfl rfl ?_
  refine lw_iconst C (v := 3) dL_law_961 (by decide) ?_
  refine lw_iadd C dL_law_962 ?_
  refine lw_sld C h3 dL_law_963 ?_
  refine lw_callM C (As := [.int (xs (x3 + 1).toNatClampNeg), .int (xs (x3 + 2).toNatClampNeg), .int (xs (x3 + 3).toNatClampNeg)]) (z1 := (r, m')) rfl miX8_funeral mlL_124 imX8_funeral seX8_funeral (by decide) rfl rfl (mt8_funeral e2) rfl (Nat.le_of_ble_eq_true rfl) rfl dL_law_964 ?_
  refine lw_eq C 1420 dL_law_967 (by decide) rfl ?_
  exact kk x' m' hR'
def S_raid (RR : Mem → Mem → Prop) : Prop := ∀ x m : Mem, RR x m → ∀ (a0 : Int32), ∃ (r : Int32) (x' m' : Mem), fn7_raid a0 x = some (r, x') ∧ fn8_raid a0 m = some (r, m') ∧ RR x' m'
set_option maxRecDepth 20000 in
theorem law_raid {M : MX} {G : GX} {adx adm : Nat → Nat} {b Ln : Nat} {xs : Nat → Int32} {Z : State → Prop} {x m : Mem} {x3 : Int32} {RR : Mem → Mem → Prop} (C : LC M G adx adm b Ln xs) (h1 : vp_in (x3 + 1) Ln) (h2 : vp_in (x3 + 2) Ln) (h3 : vp_in (x3 + 3) Ln) (h4 : vp_in (x3 + 4) Ln) (hs : S_raid RR) (hR : RR x m) (kk : ∀ x' m' : Mem, RR x' m' → LW M G adx adm Z 1420 [(0, .ref b), (1, .ref (adx 0)), (2, .ref (adm 0)), (3, .int x3)] [] x' m') : LW M G adx adm Z 972 [(0, .ref b), (1, .ref (adx 0)), (2, .ref (adm 0)), (3, .int x3)] [] x m := by
  obtain ⟨r, x', m', e1, e2, hR'⟩ := hs x m hR (xs (x3 + 1).toNatClampNeg)
  refine lw_aload_n C 1 dL_law_972 rfl rfl ?_
  refine lw_aload_n C 0 dL_law_973 rfl rfl ?_
  refine lw_iload_n C 3 dL_law_974 rfl rfl ?_
  refine lw_iconst C (v := 1) dL_law_975 (by decide) ?_
  refine lw_iadd C dL_law_976 ?_
  refine lw_sld C h1 dL_law_977 ?_
  refine lw_callX C (As := [.int (xs (x3 + 1).toNatClampNeg)]) (z1 := (r, x')) rfl miX7_raid mlL_125 imX7_raid seX7_raid (by decide) rfl rfl (mt7_raid e1) rfl (Nat.le_of_ble_eq_true rfl) rfl dL_law_978 ?_
  refine lw_aload_n C 2 dL_law_981 rfl rfl ?_
  refine lw_aload_n C 0 dL_law_982 rfl rfl ?_
  refine lw_iload_n C 3 dL_law_983 rfl rfl ?_
  refine lw_iconst C (v := 1) dL_law_984 (by decide) ?_
  refine lw_iadd C dL_law_985 ?_
  refine lw_sld C h1 dL_law_986 ?_
  refine lw_callM C (As := [.int (xs (x3 + 1).toNatClampNeg)]) (z1 := (r, m')) rfl miX8_raid mlL_128 imX8_raid seX8_raid (by decide) rfl rfl (mt8_raid e2) rfl (Nat.le_of_ble_eq_true rfl) rfl dL_law_987 ?_
  refine lw_eq C 1420 dL_law_990 (by decide) rfl ?_
  exact kk x' m' hR'
def S_settle (RR : Mem → Mem → Prop) : Prop := ∀ x m : Mem, RR x m → ∀ (a0 : Int32) (a1 : Int32), ∃ (r : Int32) (x' m' : Mem), fn7_settle a0 a1 x = some (r, x') ∧ fn8_settle a0 a1 m = some (r, m') ∧ RR x' m'
set_option maxRecDepth 20000 in
theorem law_settle {M : MX} {G : GX} {adx adm : Nat → Nat} {b Ln : Nat} {xs : Nat → Int32} {Z : State → Prop} {x m : Mem} {x3 : Int32} {RR : Mem → Mem → Prop} (C : LC M G adx adm b Ln xs) (h1 : vp_in (x3 + 1) Ln) (h2 : vp_in (x3 + 2) Ln) (h3 : vp_in (x3 + 3) Ln) (h4 : vp_in (x3 + 4) Ln) (hs : S_settle RR) (hR : RR x m) (kk : ∀ x' m' : Mem, RR x' m' → LW M G adx adm Z 1420 [(0, .ref b), (1, .ref (adx 0)), (2, .ref (adm 0)), (3, .int x3)] [] x' m') : LW M G adx adm Z 995 [(0, .ref b), (1, .ref (adx 0)), (2, .ref (adm 0)), (3, .int x3)] [] x m := by
  obtain ⟨r, x', m', e1, e2, hR'⟩ := hs x m hR (xs (x3 + 1).toNatClampNeg) (xs (x3 + 2).toNatClampNeg)
  refine lw_aload_n C 1 dL_law_995 rfl rfl ?_
  refine lw_aload_n C 0 dL_law_996 rfl rfl ?_
  refine lw_iload_n C 3 dL_law_997 rfl rfl ?_
  refine lw_iconst C (v := 1) dL_law_998 (by decide) ?_
  refine lw_iadd C dL_law_999 ?_
  refine lw_sld C h1 dL_law_1000 ?_
  refine lw_aload_n C 0 dL_law_1001 rfl rfl ?_
  refine lw_iload_n C 3 dL_law_1002 rfl rfl ?_
  refine lw_iconst C (v := 2) dL_law_1003 (by decide) ?_
  refine lw_iadd C dL_law_1004 ?_
  refine lw_sld C h2 dL_law_1005 ?_
  refine lw_callX C (As := [.int (xs (x3 + 1).toNatClampNeg), .int (xs (x3 + 2).toNatClampNeg)]) (z1 := (r, x')) rfl miX7_settle mlL_129 imX7_settle seX7_settle (by decide) rfl rfl (mt7_settle e1) rfl (Nat.le_of_ble_eq_true rfl) rfl dL_law_1006 ?_
  refine lw_aload_n C 2 dL_law_1009 rfl rfl ?_
  refine lw_aload_n C 0 dL_law_1010 rfl rfl ?_
  refine lw_iload_n C 3 dL_law_1011 rfl rfl ?_
  refine lw_iconst C (v := 1) dL_law_1012 (by decide) ?_
  refine lw_iadd C dL_law_1013 ?_
  refine lw_sld C h1 dL_law_1014 ?_
  refine lw_aload_n C 0 dL_law_1015 rfl rfl ?_
  refine lw_iload_n C 3 dL_law_1016 rfl rfl ?_
  refine lw_iconst C (v := 2) dL_law_1017 (by decide) ?_
  refine lw_iadd C dL_law_1018 ?_
  refine lw_sld C h2 dL_law_1019 ?_
  refine lw_callM C (As := [.int (xs (x3 + 1).toNatClampNeg), .int (xs (x3 + 2).toNatClampNeg)]) (z1 := (r, m')) rfl miX8_settle mlL_132 imX8_settle seX8_settle (by decide) rfl rfl (mt8_settle e2) rfl (Nat.le_of_ble_eq_true rfl) rfl dL_law_1020 ?_
  refine lw_eq C 1420 dL_law_1023 (by decide) rfl ?_
  exact kk x' m' hR'
def S_test (RR : Mem → Mem → Prop) : Prop := ∀ x m : Mem, RR x m → ∀ (a0 : Int32) (a1 : Int32), (a1 = 0 ∨ a1 = 1) → ∃ (r : Int32) (x' m' : Mem), fn7_test a0 a1 x = some (r, x') ∧ fn8_test a0 a1 m = some (r, m') ∧ RR x' m'
set_option maxRecDepth 20000 in
theorem law_test {M : MX} {G : GX} {adx adm : Nat → Nat} {b Ln : Nat} {xs : Nat → Int32} {Z : State → Prop} {x m : Mem} {x3 : Int32} {RR : Mem → Mem → Prop} (C : LC M G adx adm b Ln xs) (h1 : vp_in (x3 + 1) Ln) (h2 : vp_in (x3 + 2) Ln) (h3 : vp_in (x3 + 3) Ln) (h4 : vp_in (x3 + 4) Ln) (hs : S_test RR) (hR : RR x m) (kk : ∀ x' m' : Mem, RR x' m' → LW M G adx adm Z 1420 [(0, .ref b), (1, .ref (adx 0)), (2, .ref (adm 0)), (3, .int x3)] [] x' m') : LW M G adx adm Z 1028 [(0, .ref b), (1, .ref (adx 0)), (2, .ref (adm 0)), (3, .int x3)] [] x m := by
  by_cases hb : (xs (x3 + 2).toNatClampNeg) = 0
  · obtain ⟨r, x', m', e1, e2, hR'⟩ := hs x m hR (xs (x3 + 1).toNatClampNeg) 0 (by decide)
    refine lw_aload_n C 1 dL_law_1028 rfl rfl ?_
    refine lw_aload_n C 0 dL_law_1029 rfl rfl ?_
    refine lw_iload_n C 3 dL_law_1030 rfl rfl ?_
    refine lw_iconst C (v := 1) dL_law_1031 (by decide) ?_
    refine lw_iadd C dL_law_1032 ?_
    refine lw_sld C h1 dL_law_1033 ?_
    refine lw_aload_n C 0 dL_law_1034 rfl rfl ?_
    refine lw_iload_n C 3 dL_law_1035 rfl rfl ?_
    refine lw_iconst C (v := 2) dL_law_1036 (by decide) ?_
    refine lw_iadd C dL_law_1037 ?_
    refine lw_sld C h2 dL_law_1038 ?_
    refine lw_if_t C 1046 dL_law_1039 (by decide) hb ?_
    refine lw_iconst C (v := 0) dL_law_1046 (by decide) ?_
    refine lw_callX C (As := [.int (xs (x3 + 1).toNatClampNeg), .int 0]) (z1 := (r, x')) rfl miX7_test mlL_133 imX7_test seX7_test (by decide) rfl rfl (mt7_test e1) rfl (Nat.le_of_ble_eq_true rfl) rfl dL_law_1047 ?_
    refine lw_aload_n C 2 dL_law_1050 rfl rfl ?_
    refine lw_aload_n C 0 dL_law_1051 rfl rfl ?_
    refine lw_iload_n C 3 dL_law_1052 rfl rfl ?_
    refine lw_iconst C (v := 1) dL_law_1053 (by decide) ?_
    refine lw_iadd C dL_law_1054 ?_
    refine lw_sld C h1 dL_law_1055 ?_
    refine lw_aload_n C 0 dL_law_1056 rfl rfl ?_
    refine lw_iload_n C 3 dL_law_1057 rfl rfl ?_
    refine lw_iconst C (v := 2) dL_law_1058 (by decide) ?_
    refine lw_iadd C dL_law_1059 ?_
    refine lw_sld C h2 dL_law_1060 ?_
    refine lw_if_t C 1068 dL_law_1061 (by decide) hb ?_
    refine lw_iconst C (v := 0) dL_law_1068 (by decide) ?_
    refine lw_callM C (As := [.int (xs (x3 + 1).toNatClampNeg), .int 0]) (z1 := (r, m')) rfl miX8_test mlL_136 imX8_test seX8_test (by decide) rfl rfl (mt8_test e2) rfl (Nat.le_of_ble_eq_true rfl) rfl dL_law_1069 ?_
    refine lw_eq C 1420 dL_law_1072 (by decide) rfl ?_
    exact kk x' m' hR'
  · obtain ⟨r, x', m', e1, e2, hR'⟩ := hs x m hR (xs (x3 + 1).toNatClampNeg) 1 (by decide)
    refine lw_aload_n C 1 dL_law_1028 rfl rfl ?_
    refine lw_aload_n C 0 dL_law_1029 rfl rfl ?_
    refine lw_iload_n C 3 dL_law_1030 rfl rfl ?_
    refine lw_iconst C (v := 1) dL_law_1031 (by decide) ?_
    refine lw_iadd C dL_law_1032 ?_
    refine lw_sld C h1 dL_law_1033 ?_
    refine lw_aload_n C 0 dL_law_1034 rfl rfl ?_
    refine lw_iload_n C 3 dL_law_1035 rfl rfl ?_
    refine lw_iconst C (v := 2) dL_law_1036 (by decide) ?_
    refine lw_iadd C dL_law_1037 ?_
    refine lw_sld C h2 dL_law_1038 ?_
    refine lw_if_f C 1046 dL_law_1039 (by decide) hb ?_
    refine lw_iconst C (v := 1) dL_law_1042 (by decide) ?_
    refine lw_goto C 1047 dL_law_1043 (by decide) ?_
    refine lw_callX C (As := [.int (xs (x3 + 1).toNatClampNeg), .int 1]) (z1 := (r, x')) rfl miX7_test mlL_133 imX7_test seX7_test (by decide) rfl rfl (mt7_test e1) rfl (Nat.le_of_ble_eq_true rfl) rfl dL_law_1047 ?_
    refine lw_aload_n C 2 dL_law_1050 rfl rfl ?_
    refine lw_aload_n C 0 dL_law_1051 rfl rfl ?_
    refine lw_iload_n C 3 dL_law_1052 rfl rfl ?_
    refine lw_iconst C (v := 1) dL_law_1053 (by decide) ?_
    refine lw_iadd C dL_law_1054 ?_
    refine lw_sld C h1 dL_law_1055 ?_
    refine lw_aload_n C 0 dL_law_1056 rfl rfl ?_
    refine lw_iload_n C 3 dL_law_1057 rfl rfl ?_
    refine lw_iconst C (v := 2) dL_law_1058 (by decide) ?_
    refine lw_iadd C dL_law_1059 ?_
    refine lw_sld C h2 dL_law_1060 ?_
    refine lw_if_f C 1068 dL_law_1061 (by decide) hb ?_
    refine lw_iconst C (v := 1) dL_law_1064 (by decide) ?_
    refine lw_goto C 1069 dL_law_1065 (by decide) ?_
    refine lw_callM C (As := [.int (xs (x3 + 1).toNatClampNeg), .int 1]) (z1 := (r, m')) rfl miX8_test mlL_136 imX8_test seX8_test (by decide) rfl rfl (mt8_test e2) rfl (Nat.le_of_ble_eq_true rfl) rfl dL_law_1069 ?_
    refine lw_eq C 1420 dL_law_1072 (by decide) rfl ?_
    exact kk x' m' hR'
def S_untest (RR : Mem → Mem → Prop) : Prop := ∀ x m : Mem, RR x m → ∀ (a0 : Int32), ∃ (r : Int32) (x' m' : Mem), fn7_untest a0 x = some (r, x') ∧ fn8_untest a0 m = some (r, m') ∧ RR x' m'
set_option maxRecDepth 20000 in
theorem law_untest {M : MX} {G : GX} {adx adm : Nat → Nat} {b Ln : Nat} {xs : Nat → Int32} {Z : State → Prop} {x m : Mem} {x3 : Int32} {RR : Mem → Mem → Prop} (C : LC M G adx adm b Ln xs) (h1 : vp_in (x3 + 1) Ln) (h2 : vp_in (x3 + 2) Ln) (h3 : vp_in (x3 + 3) Ln) (h4 : vp_in (x3 + 4) Ln) (hs : S_untest RR) (hR : RR x m) (kk : ∀ x' m' : Mem, RR x' m' → LW M G adx adm Z 1420 [(0, .ref b), (1, .ref (adx 0)), (2, .ref (adm 0)), (3, .int x3)] [] x' m') : LW M G adx adm Z 1077 [(0, .ref b), (1, .ref (adx 0)), (2, .ref (adm 0)), (3, .int x3)] [] x m := by
  obtain ⟨r, x', m', e1, e2, hR'⟩ := hs x m hR (xs (x3 + 1).toNatClampNeg)
  refine lw_aload_n C 1 dL_law_1077 rfl rfl ?_
  refine lw_aload_n C 0 dL_law_1078 rfl rfl ?_
  refine lw_iload_n C 3 dL_law_1079 rfl rfl ?_
  refine lw_iconst C (v := 1) dL_law_1080 (by decide) ?_
  refine lw_iadd C dL_law_1081 ?_
  refine lw_sld C h1 dL_law_1082 ?_
  refine lw_callX C (As := [.int (xs (x3 + 1).toNatClampNeg)]) (z1 := (r, x')) rfl miX7_untest mlL_137 imX7_untest seX7_untest (by decide) rfl rfl (mt7_untest e1) rfl (Nat.le_of_ble_eq_true rfl) rfl dL_law_1083 ?_
  refine lw_aload_n C 2 dL_law_1086 rfl rfl ?_
  refine lw_aload_n C 0 dL_law_1087 rfl rfl ?_
  refine lw_iload_n C 3 dL_law_1088 rfl rfl ?_
  refine lw_iconst C (v := 1) dL_law_1089 (by decide) ?_
  refine lw_iadd C dL_law_1090 ?_
  refine lw_sld C h1 dL_law_1091 ?_
  refine lw_callM C (As := [.int (xs (x3 + 1).toNatClampNeg)]) (z1 := (r, m')) rfl miX8_untest mlL_140 imX8_untest seX8_untest (by decide) rfl rfl (mt8_untest e2) rfl (Nat.le_of_ble_eq_true rfl) rfl dL_law_1092 ?_
  refine lw_eq C 1420 dL_law_1095 (by decide) rfl ?_
  exact kk x' m' hR'
def S_fakes (RR : Mem → Mem → Prop) : Prop := ∀ x m : Mem, RR x m → ∀ (a0 : Int32) (a1 : Int32), ∃ (r : Int32) (x' m' : Mem), fn7_fakes a0 a1 x = some (r, x') ∧ fn8_fakes a0 a1 m = some (r, m') ∧ RR x' m'
set_option maxRecDepth 20000 in
theorem law_fakes {M : MX} {G : GX} {adx adm : Nat → Nat} {b Ln : Nat} {xs : Nat → Int32} {Z : State → Prop} {x m : Mem} {x3 : Int32} {RR : Mem → Mem → Prop} (C : LC M G adx adm b Ln xs) (h1 : vp_in (x3 + 1) Ln) (h2 : vp_in (x3 + 2) Ln) (h3 : vp_in (x3 + 3) Ln) (h4 : vp_in (x3 + 4) Ln) (hs : S_fakes RR) (hR : RR x m) (kk : ∀ x' m' : Mem, RR x' m' → LW M G adx adm Z 1420 [(0, .ref b), (1, .ref (adx 0)), (2, .ref (adm 0)), (3, .int x3)] [] x' m') : LW M G adx adm Z 1100 [(0, .ref b), (1, .ref (adx 0)), (2, .ref (adm 0)), (3, .int x3)] [] x m := by
  obtain ⟨r, x', m', e1, e2, hR'⟩ := hs x m hR (xs (x3 + 1).toNatClampNeg) (xs (x3 + 2).toNatClampNeg)
  refine lw_aload_n C 1 dL_law_1100 rfl rfl ?_
  refine lw_aload_n C 0 dL_law_1101 rfl rfl ?_
  refine lw_iload_n C 3 dL_law_1102 rfl rfl ?_
  refine lw_iconst C (v := 1) dL_law_1103 (by decide) ?_
  refine lw_iadd C dL_law_1104 ?_
  refine lw_sld C h1 dL_law_1105 ?_
  refine lw_aload_n C 0 dL_law_1106 rfl rfl ?_
  refine lw_iload_n C 3 dL_law_1107 rfl rfl ?_
  refine lw_iconst C (v := 2) dL_law_1108 (by decide) ?_
  refine lw_iadd C dL_law_1109 ?_
  refine lw_sld C h2 dL_law_1110 ?_
  refine lw_callX C (As := [.int (xs (x3 + 1).toNatClampNeg), .int (xs (x3 + 2).toNatClampNeg)]) (z1 := (r, x')) rfl miX7_fakes mlL_141 imX7_fakes seX7_fakes (by decide) rfl rfl (mt7_fakes e1) rfl (Nat.le_of_ble_eq_true rfl) rfl dL_law_1111 ?_
  refine lw_aload_n C 2 dL_law_1114 rfl rfl ?_
  refine lw_aload_n C 0 dL_law_1115 rfl rfl ?_
  refine lw_iload_n C 3 dL_law_1116 rfl rfl ?_
  refine lw_iconst C (v := 1) dL_law_1117 (by decide) ?_
  refine lw_iadd C dL_law_1118 ?_
  refine lw_sld C h1 dL_law_1119 ?_
  refine lw_aload_n C 0 dL_law_1120 rfl rfl ?_
  refine lw_iload_n C 3 dL_law_1121 rfl rfl ?_
  refine lw_iconst C (v := 2) dL_law_1122 (by decide) ?_
  refine lw_iadd C dL_law_1123 ?_
  refine lw_sld C h2 dL_law_1124 ?_
  refine lw_callM C (As := [.int (xs (x3 + 1).toNatClampNeg), .int (xs (x3 + 2).toNatClampNeg)]) (z1 := (r, m')) rfl miX8_fakes mlL_144 imX8_fakes seX8_fakes (by decide) rfl rfl (mt8_fakes e2) rfl (Nat.le_of_ble_eq_true rfl) rfl dL_law_1125 ?_
  refine lw_eq C 1420 dL_law_1128 (by decide) rfl ?_
  exact kk x' m' hR'
def S_next (RR : Mem → Mem → Prop) : Prop := ∀ x m : Mem, RR x m → ∀ (a0 : Int32) (a1 : Int32), ∃ (r : Int32) (x' m' : Mem), fn7_next a0 a1 x = some (r, x') ∧ fn8_next a0 a1 m = some (r, m') ∧ RR x' m'
set_option maxRecDepth 20000 in
theorem law_next {M : MX} {G : GX} {adx adm : Nat → Nat} {b Ln : Nat} {xs : Nat → Int32} {Z : State → Prop} {x m : Mem} {x3 : Int32} {RR : Mem → Mem → Prop} (C : LC M G adx adm b Ln xs) (h1 : vp_in (x3 + 1) Ln) (h2 : vp_in (x3 + 2) Ln) (h3 : vp_in (x3 + 3) Ln) (h4 : vp_in (x3 + 4) Ln) (hs : S_next RR) (hR : RR x m) (kk : ∀ x' m' : Mem, RR x' m' → LW M G adx adm Z 1420 [(0, .ref b), (1, .ref (adx 0)), (2, .ref (adm 0)), (3, .int x3)] [] x' m') : LW M G adx adm Z 1133 [(0, .ref b), (1, .ref (adx 0)), (2, .ref (adm 0)), (3, .int x3)] [] x m := by
  obtain ⟨r, x', m', e1, e2, hR'⟩ := hs x m hR (xs (x3 + 1).toNatClampNeg) (xs (x3 + 2).toNatClampNeg)
  refine lw_aload_n C 1 dL_law_1133 rfl rfl ?_
  refine lw_aload_n C 0 dL_law_1134 rfl rfl ?_
  refine lw_iload_n C 3 dL_law_1135 rfl rfl ?_
  refine lw_iconst C (v := 1) dL_law_1136 (by decide) ?_
  refine lw_iadd C dL_law_1137 ?_
  refine lw_sld C h1 dL_law_1138 ?_
  refine lw_aload_n C 0 dL_law_1139 rfl rfl ?_
  refine lw_iload_n C 3 dL_law_1140 rfl rfl ?_
  refine lw_iconst C (v := 2) dL_law_1141 (by decide) ?_
  refine lw_iadd C dL_law_1142 ?_
  refine lw_sld C h2 dL_law_1143 ?_
  refine lw_callX C (As := [.int (xs (x3 + 1).toNatClampNeg), .int (xs (x3 + 2).toNatClampNeg)]) (z1 := (r, x')) rfl miX7_next mlL_145 imX7_next seX7_next (by decide) rfl rfl (mt7_next e1) rfl (Nat.le_of_ble_eq_true rfl) rfl dL_law_1144 ?_
  refine lw_aload_n C 2 dL_law_1147 rfl rfl ?_
  refine lw_aload_n C 0 dL_law_1148 rfl rfl ?_
  refine lw_iload_n C 3 dL_law_1149 rfl rfl ?_
  refine lw_iconst C (v := 1) dL_law_1150 (by decide) ?_
  refine lw_iadd C dL_law_1151 ?_
  refine lw_sld C h1 dL_law_1152 ?_
  refine lw_aload_n C 0 dL_law_1153 rfl rfl ?_
  refine lw_iload_n C 3 dL_law_1154 rfl rfl ?_
  refine lw_iconst C (v := 2) dL_law_1155 (by decide) ?_
  refine lw_iadd C dL_law_1156 ?_
  refine lw_sld C h2 dL_law_1157 ?_
  refine lw_callM C (As := [.int (xs (x3 + 1).toNatClampNeg), .int (xs (x3 + 2).toNatClampNeg)]) (z1 := (r, m')) rfl miX8_next mlL_148 imX8_next seX8_next (by decide) rfl rfl (mt8_next e2) rfl (Nat.le_of_ble_eq_true rfl) rfl dL_law_1158 ?_
  refine lw_eq C 1420 dL_law_1161 (by decide) rfl ?_
  exact kk x' m' hR'
def S_chatter (RR : Mem → Mem → Prop) : Prop := ∀ x m : Mem, RR x m → ∀ (a0 : Int32) (a1 : Int32), ∃ (r : Int32) (x' m' : Mem), fn7_chatter a0 a1 x = some (r, x') ∧ fn8_chatter a0 a1 m = some (r, m') ∧ RR x' m'
set_option maxRecDepth 20000 in
theorem law_chatter {M : MX} {G : GX} {adx adm : Nat → Nat} {b Ln : Nat} {xs : Nat → Int32} {Z : State → Prop} {x m : Mem} {x3 : Int32} {RR : Mem → Mem → Prop} (C : LC M G adx adm b Ln xs) (h1 : vp_in (x3 + 1) Ln) (h2 : vp_in (x3 + 2) Ln) (h3 : vp_in (x3 + 3) Ln) (h4 : vp_in (x3 + 4) Ln) (hs : S_chatter RR) (hR : RR x m) (kk : ∀ x' m' : Mem, RR x' m' → LW M G adx adm Z 1420 [(0, .ref b), (1, .ref (adx 0)), (2, .ref (adm 0)), (3, .int x3)] [] x' m') : LW M G adx adm Z 1166 [(0, .ref b), (1, .ref (adx 0)), (2, .ref (adm 0)), (3, .int x3)] [] x m := by
  obtain ⟨r, x', m', e1, e2, hR'⟩ := hs x m hR (xs (x3 + 1).toNatClampNeg) (xs (x3 + 2).toNatClampNeg)
  refine lw_aload_n C 1 dL_law_1166 rfl rfl ?_
  refine lw_aload_n C 0 dL_law_1167 rfl rfl ?_
  refine lw_iload_n C 3 dL_law_1168 rfl rfl ?_
  refine lw_iconst C (v := 1) dL_law_1169 (by decide) ?_
  refine lw_iadd C dL_law_1170 ?_
  refine lw_sld C h1 dL_law_1171 ?_
  refine lw_aload_n C 0 dL_law_1172 rfl rfl ?_
  refine lw_iload_n C 3 dL_law_1173 rfl rfl ?_
  refine lw_iconst C (v := 2) dL_law_1174 (by decide) ?_
  refine lw_iadd C dL_law_1175 ?_
  refine lw_sld C h2 dL_law_1176 ?_
  refine lw_callX C (As := [.int (xs (x3 + 1).toNatClampNeg), .int (xs (x3 + 2).toNatClampNeg)]) (z1 := (r, x')) rfl miX7_chatter mlL_149 imX7_chatter seX7_chatter (by decide) rfl rfl (mt7_chatter e1) rfl (Nat.le_of_ble_eq_true rfl) rfl dL_law_1177 ?_
  refine lw_aload_n C 2 dL_law_1180 rfl rfl ?_
  refine lw_aload_n C 0 dL_law_1181 rfl rfl ?_
  refine lw_iload_n C 3 dL_law_1182 rfl rfl ?_
  refine lw_iconst C (v := 1) dL_law_1183 (by decide) ?_
  refine lw_iadd C dL_law_1184 ?_
  refine lw_sld C h1 dL_law_1185 ?_
  refine lw_aload_n C 0 dL_law_1186 rfl rfl ?_
  refine lw_iload_n C 3 dL_law_1187 rfl rfl ?_
  refine lw_iconst C (v := 2) dL_law_1188 (by decide) ?_
  refine lw_iadd C dL_law_1189 ?_
  refine lw_sld C h2 dL_law_1190 ?_
  refine lw_callM C (As := [.int (xs (x3 + 1).toNatClampNeg), .int (xs (x3 + 2).toNatClampNeg)]) (z1 := (r, m')) rfl miX8_chatter mlL_152 imX8_chatter seX8_chatter (by decide) rfl rfl (mt8_chatter e2) rfl (Nat.le_of_ble_eq_true rfl) rfl dL_law_1191 ?_
  refine lw_eq C 1420 dL_law_1194 (by decide) rfl ?_
  exact kk x' m' hR'
def S_keep (RR : Mem → Mem → Prop) : Prop := ∀ x m : Mem, RR x m → ∀ (a0 : Int32), ∃ (r : Int32) (x' m' : Mem), fn7_keep a0 x = some (r, x') ∧ fn8_keep a0 m = some (r, m') ∧ RR x' m'
set_option maxRecDepth 20000 in
theorem law_keep {M : MX} {G : GX} {adx adm : Nat → Nat} {b Ln : Nat} {xs : Nat → Int32} {Z : State → Prop} {x m : Mem} {x3 : Int32} {RR : Mem → Mem → Prop} (C : LC M G adx adm b Ln xs) (h1 : vp_in (x3 + 1) Ln) (h2 : vp_in (x3 + 2) Ln) (h3 : vp_in (x3 + 3) Ln) (h4 : vp_in (x3 + 4) Ln) (hs : S_keep RR) (hR : RR x m) (kk : ∀ x' m' : Mem, RR x' m' → LW M G adx adm Z 1420 [(0, .ref b), (1, .ref (adx 0)), (2, .ref (adm 0)), (3, .int x3)] [] x' m') : LW M G adx adm Z 1199 [(0, .ref b), (1, .ref (adx 0)), (2, .ref (adm 0)), (3, .int x3)] [] x m := by
  obtain ⟨r, x', m', e1, e2, hR'⟩ := hs x m hR (xs (x3 + 1).toNatClampNeg)
  refine lw_aload_n C 1 dL_law_1199 rfl rfl ?_
  refine lw_aload_n C 0 dL_law_1200 rfl rfl ?_
  refine lw_iload_n C 3 dL_law_1201 rfl rfl ?_
  refine lw_iconst C (v := 1) dL_law_1202 (by decide) ?_
  refine lw_iadd C dL_law_1203 ?_
  refine lw_sld C h1 dL_law_1204 ?_
  refine lw_callX C (As := [.int (xs (x3 + 1).toNatClampNeg)]) (z1 := (r, x')) rfl miX7_keep mlL_153 imX7_keep seX7_keep (by decide) rfl rfl (mt7_keep e1) rfl (Nat.le_of_ble_eq_true rfl) rfl dL_law_1205 ?_
  refine lw_aload_n C 2 dL_law_1208 rfl rfl ?_
  refine lw_aload_n C 0 dL_law_1209 rfl rfl ?_
  refine lw_iload_n C 3 dL_law_1210 rfl rfl ?_
  refine lw_iconst C (v := 1) dL_law_1211 (by decide) ?_
  refine lw_iadd C dL_law_1212 ?_
  refine lw_sld C h1 dL_law_1213 ?_
  refine lw_callM C (As := [.int (xs (x3 + 1).toNatClampNeg)]) (z1 := (r, m')) rfl miX8_keep mlL_156 imX8_keep seX8_keep (by decide) rfl rfl (mt8_keep e2) rfl (Nat.le_of_ble_eq_true rfl) rfl dL_law_1214 ?_
  refine lw_eq C 1420 dL_law_1217 (by decide) rfl ?_
  exact kk x' m' hR'
def S_back (RR : Mem → Mem → Prop) : Prop := ∀ x m : Mem, RR x m → ∀ (a0 : Int32), ∃ (r : Int32) (x' m' : Mem), fn7_back a0 x = some (r, x') ∧ fn8_back a0 m = some (r, m') ∧ RR x' m'
set_option maxRecDepth 20000 in
theorem law_back {M : MX} {G : GX} {adx adm : Nat → Nat} {b Ln : Nat} {xs : Nat → Int32} {Z : State → Prop} {x m : Mem} {x3 : Int32} {RR : Mem → Mem → Prop} (C : LC M G adx adm b Ln xs) (h1 : vp_in (x3 + 1) Ln) (h2 : vp_in (x3 + 2) Ln) (h3 : vp_in (x3 + 3) Ln) (h4 : vp_in (x3 + 4) Ln) (hs : S_back RR) (hR : RR x m) (kk : ∀ x' m' : Mem, RR x' m' → LW M G adx adm Z 1420 [(0, .ref b), (1, .ref (adx 0)), (2, .ref (adm 0)), (3, .int x3)] [] x' m') : LW M G adx adm Z 1222 [(0, .ref b), (1, .ref (adx 0)), (2, .ref (adm 0)), (3, .int x3)] [] x m := by
  obtain ⟨r, x', m', e1, e2, hR'⟩ := hs x m hR (xs (x3 + 1).toNatClampNeg)
  refine lw_aload_n C 1 dL_law_1222 rfl rfl ?_
  refine lw_aload_n C 0 dL_law_1223 rfl rfl ?_
  refine lw_iload_n C 3 dL_law_1224 rfl rfl ?_
  refine lw_iconst C (v := 1) dL_law_1225 (by decide) ?_
  refine lw_iadd C dL_law_1226 ?_
  refine lw_sld C h1 dL_law_1227 ?_
  refine lw_callX C (As := [.int (xs (x3 + 1).toNatClampNeg)]) (z1 := (r, x')) rfl miX7_back mlL_157 imX7_back seX7_back (by decide) rfl rfl (mt7_back e1) rfl (Nat.le_of_ble_eq_true rfl) rfl dL_law_1228 ?_
  refine lw_aload_n C 2 dL_law_1231 rfl rfl ?_
  refine lw_aload_n C 0 dL_law_1232 rfl rfl ?_
  refine lw_iload_n C 3 dL_law_1233 rfl rfl ?_
  refine lw_iconst C (v := 1) dL_law_1234 (by decide) ?_
  refine lw_iadd C dL_law_1235 ?_
  refine lw_sld C h1 dL_law_1236 ?_
  refine lw_callM C (As := [.int (xs (x3 + 1).toNatClampNeg)]) (z1 := (r, m')) rfl miX8_back mlL_160 imX8_back seX8_back (by decide) rfl rfl (mt8_back e2) rfl (Nat.le_of_ble_eq_true rfl) rfl dL_law_1237 ?_
  refine lw_eq C 1420 dL_law_1240 (by decide) rfl ?_
  exact kk x' m' hR'
def S_sheet (RR : Mem → Mem → Prop) : Prop := ∀ x m : Mem, RR x m → ∀ (a0 : Int32) (a1 : Int32) (a2 : Int32), ∃ (r : Int32) (x' m' : Mem), fn7_sheet a0 a1 a2 x = some (r, x') ∧ fn8_sheet a0 a1 a2 m = some (r, m') ∧ RR x' m'
set_option maxRecDepth 20000 in
theorem law_sheet {M : MX} {G : GX} {adx adm : Nat → Nat} {b Ln : Nat} {xs : Nat → Int32} {Z : State → Prop} {x m : Mem} {x3 : Int32} {RR : Mem → Mem → Prop} (C : LC M G adx adm b Ln xs) (h1 : vp_in (x3 + 1) Ln) (h2 : vp_in (x3 + 2) Ln) (h3 : vp_in (x3 + 3) Ln) (h4 : vp_in (x3 + 4) Ln) (hs : S_sheet RR) (hR : RR x m) (kk : ∀ x' m' : Mem, RR x' m' → LW M G adx adm Z 1420 [(0, .ref b), (1, .ref (adx 0)), (2, .ref (adm 0)), (3, .int x3)] [] x' m') : LW M G adx adm Z 1245 [(0, .ref b), (1, .ref (adx 0)), (2, .ref (adm 0)), (3, .int x3)] [] x m := by
  obtain ⟨r, x', m', e1, e2, hR'⟩ := hs x m hR (xs (x3 + 1).toNatClampNeg) (xs (x3 + 2).toNatClampNeg) (xs (x3 + 3).toNatClampNeg)
  refine lw_aload_n C 1 dL_law_1245 rfl rfl ?_
  refine lw_aload_n C 0 dL_law_1246 rfl rfl ?_
  refine lw_iload_n C 3 dL_law_1247 rfl rfl ?_
  refine lw_iconst C (v := 1) dL_law_1248 (by decide) ?_
  refine lw_iadd C dL_law_1249 ?_
  refine lw_sld C h1 dL_law_1250 ?_
  refine lw_aload_n C 0 dL_law_1251 rfl rfl ?_
  refine lw_iload_n C 3 dL_law_1252 rfl rfl ?_
  refine lw_iconst C (v := 2) dL_law_1253 (by decide) ?_
  refine lw_iadd C dL_law_1254 ?_
  refine lw_sld C h2 dL_law_1255 ?_
  refine lw_aload_n C 0 dL_law_1256 rfl rfl ?_
  refine lw_iload_n C 3 dL_law_1257 rfl rfl ?_
  refine lw_iconst C (v := 3) dL_law_1258 (by decide) ?_
  refine lw_iadd C dL_law_1259 ?_
  refine lw_sld C h3 dL_law_1260 ?_
  refine lw_callX C (As := [.int (xs (x3 + 1).toNatClampNeg), .int (xs (x3 + 2).toNatClampNeg), .int (xs (x3 + 3).toNatClampNeg)]) (z1 := (r, x')) rfl miX7_sheet mlL_161 imX7_sheet seX7_sheet (by decide) rfl rfl (mt7_sheet e1) rfl (Nat.le_of_ble_eq_true rfl) rfl dL_law_1261 ?_
  refine lw_aload_n C 2 dL_law_1264 rfl rfl ?_
  refine lw_aload_n C 0 dL_law_1265 rfl rfl ?_
  refine lw_iload_n C 3 dL_law_1266 rfl rfl ?_
  refine lw_iconst C (v := 1) dL_law_1267 (by decide) ?_
  refine lw_iadd C dL_law_1268 ?_
  refine lw_sld C h1 dL_law_1269 ?_
  refine lw_aload_n C 0 dL_law_1270 rfl rfl ?_
  refine lw_iload_n C 3 dL_law_1271 rfl rfl ?_
  refine lw_iconst C (v := 2) dL_law_1272 (by decide) ?_
  refine lw_iadd C dL_law_1273 ?_
  refine lw_sld C h2 dL_law_1274 ?_
  refine lw_aload_n C 0 dL_law_1275 rfl rfl ?_
  refine lw_iload_n C 3 dL_law_1276 rfl rfl ?_
  refine lw_iconst C (v := 3) dL_law_1277 (by decide) ?_
  refine lw_iadd C dL_law_1278 ?_
  refine lw_sld C h3 dL_law_1279 ?_
  refine lw_callM C (As := [.int (xs (x3 + 1).toNatClampNeg), .int (xs (x3 + 2).toNatClampNeg), .int (xs (x3 + 3).toNatClampNeg)]) (z1 := (r, m')) rfl miX8_sheet mlL_164 imX8_sheet seX8_sheet (by decide) rfl rfl (mt8_sheet e2) rfl (Nat.le_of_ble_eq_true rfl) rfl dL_law_1280 ?_
  refine lw_eq C 1420 dL_law_1283 (by decide) rfl ?_
  exact kk x' m' hR'
def S_lay (RR : Mem → Mem → Prop) : Prop := ∀ x m : Mem, RR x m → ∀ (a0 : Int32) (a1 : Int32) (a2 : Int32), ∃ (r : Int32) (x' m' : Mem), fn7_lay a0 a1 a2 x = some (r, x') ∧ fn8_lay a0 a1 a2 m = some (r, m') ∧ RR x' m'
set_option maxRecDepth 20000 in
theorem law_lay {M : MX} {G : GX} {adx adm : Nat → Nat} {b Ln : Nat} {xs : Nat → Int32} {Z : State → Prop} {x m : Mem} {x3 : Int32} {RR : Mem → Mem → Prop} (C : LC M G adx adm b Ln xs) (h1 : vp_in (x3 + 1) Ln) (h2 : vp_in (x3 + 2) Ln) (h3 : vp_in (x3 + 3) Ln) (h4 : vp_in (x3 + 4) Ln) (hs : S_lay RR) (hR : RR x m) (kk : ∀ x' m' : Mem, RR x' m' → LW M G adx adm Z 1420 [(0, .ref b), (1, .ref (adx 0)), (2, .ref (adm 0)), (3, .int x3)] [] x' m') : LW M G adx adm Z 1288 [(0, .ref b), (1, .ref (adx 0)), (2, .ref (adm 0)), (3, .int x3)] [] x m := by
  obtain ⟨r, x', m', e1, e2, hR'⟩ := hs x m hR (xs (x3 + 1).toNatClampNeg) (xs (x3 + 2).toNatClampNeg) (xs (x3 + 3).toNatClampNeg)
  refine lw_aload_n C 1 dL_law_1288 rfl rfl ?_
  refine lw_aload_n C 0 dL_law_1289 rfl rfl ?_
  refine lw_iload_n C 3 dL_law_1290 rfl rfl ?_
  refine lw_iconst C (v := 1) dL_law_1291 (by decide) ?_
  refine lw_iadd C dL_law_1292 ?_
  refine lw_sld C h1 dL_law_1293 ?_
  refine lw_aload_n C 0 dL_law_1294 rfl rfl ?_
  refine lw_iload_n C 3 dL_law_1295 rfl rfl ?_
  refine lw_iconst C (v := 2) dL_law_1296 (by decide) ?_
  refine lw_iadd C dL_law_1297 ?_
  refine lw_sld C h2 dL_law_1298 ?_
  refine lw_aload_n C 0 dL_law_1299 rfl rfl ?_
  refine lw_iload_n C 3 dL_law_1300 rfl rfl ?_
  refine lw_iconst C (v := 3) dL_law_1301 (by decide) ?_
  refine lw_iadd C dL_law_1302 ?_
  refine lw_sld C h3 dL_law_1303 ?_
  refine lw_callX C (As := [.int (xs (x3 + 1).toNatClampNeg), .int (xs (x3 + 2).toNatClampNeg), .int (xs (x3 + 3).toNatClampNeg)]) (z1 := (r, x')) rfl miX7_lay mlL_165 imX7_lay seX7_lay (by decide) rfl rfl (mt7_lay e1) rfl (Nat.le_of_ble_eq_true rfl) rfl dL_law_1304 ?_
  refine lw_aload_n C 2 dL_law_1307 rfl rfl ?_
  refine lw_aload_n C 0 dL_law_1308 rfl rfl ?_
  refine lw_iload_n C 3 dL_law_1309 rfl rfl ?_
  refine lw_iconst C (v := 1) dL_law_1310 (by decide) ?_
  refine lw_iadd C dL_law_1311 ?_
  refine lw_sld C h1 dL_law_1312 ?_
  refine lw_aload_n C 0 dL_law_1313 rfl rfl ?_
  refine lw_iload_n C 3 dL_law_1314 rfl rfl ?_
  refine lw_iconst C (v := 2) dL_law_1315 (by decide) ?_
  refine lw_iadd C dL_law_1316 ?_
  refine lw_sld C h2 dL_law_1317 ?_
  refine lw_aload_n C 0 dL_law_1318 rfl rfl ?_
  refine lw_iload_n C 3 dL_law_1319 rfl rfl ?_
  refine lw_iconst C (v := 3) dL_law_1320 (by decide) ?_
  refine lw_iadd C dL_law_1321 ?_
  refine lw_sld C h3 dL_law_1322 ?_
  refine lw_callM C (As := [.int (xs (x3 + 1).toNatClampNeg), .int (xs (x3 + 2).toNatClampNeg), .int (xs (x3 + 3).toNatClampNeg)]) (z1 := (r, m')) rfl miX8_lay mlL_168 imX8_lay seX8_lay (by decide) rfl rfl (mt8_lay e2) rfl (Nat.le_of_ble_eq_true rfl) rfl dL_law_1323 ?_
  refine lw_eq C 1420 dL_law_1326 (by decide) rfl ?_
  exact kk x' m' hR'
def S_read (RR : Mem → Mem → Prop) : Prop := ∀ x m : Mem, RR x m → ∀ (a0 : Int32) (a1 : Int32) (a2 : Int32) (a3 : Int32), ∃ (r : Int32) (x' m' : Mem), fn7_read a0 a1 a2 a3 x = some (r, x') ∧ fn8_read a0 a1 a2 a3 m = some (r, m') ∧ RR x' m'
set_option maxRecDepth 20000 in
theorem law_read {M : MX} {G : GX} {adx adm : Nat → Nat} {b Ln : Nat} {xs : Nat → Int32} {Z : State → Prop} {x m : Mem} {x3 : Int32} {RR : Mem → Mem → Prop} (C : LC M G adx adm b Ln xs) (h1 : vp_in (x3 + 1) Ln) (h2 : vp_in (x3 + 2) Ln) (h3 : vp_in (x3 + 3) Ln) (h4 : vp_in (x3 + 4) Ln) (hs : S_read RR) (hR : RR x m) (kk : ∀ x' m' : Mem, RR x' m' → LW M G adx adm Z 1420 [(0, .ref b), (1, .ref (adx 0)), (2, .ref (adm 0)), (3, .int x3)] [] x' m') : LW M G adx adm Z 1331 [(0, .ref b), (1, .ref (adx 0)), (2, .ref (adm 0)), (3, .int x3)] [] x m := by
  obtain ⟨r, x', m', e1, e2, hR'⟩ := hs x m hR (xs (x3 + 1).toNatClampNeg) (xs (x3 + 2).toNatClampNeg) (xs (x3 + 3).toNatClampNeg) (xs (x3 + 4).toNatClampNeg)
  refine lw_aload_n C 1 dL_law_1331 rfl rfl ?_
  refine lw_aload_n C 0 dL_law_1332 rfl rfl ?_
  refine lw_iload_n C 3 dL_law_1333 rfl rfl ?_
  refine lw_iconst C (v := 1) dL_law_1334 (by decide) ?_
  refine lw_iadd C dL_law_1335 ?_
  refine lw_sld C h1 dL_law_1336 ?_
  refine lw_aload_n C 0 dL_law_1337 rfl rfl ?_
  refine lw_iload_n C 3 dL_law_1338 rfl rfl ?_
  refine lw_iconst C (v := 2) dL_law_1339 (by decide) ?_
  refine lw_iadd C dL_law_1340 ?_
  refine lw_sld C h2 dL_law_1341 ?_
  refine lw_aload_n C 0 dL_law_1342 rfl rfl ?_
  refine lw_iload_n C 3 dL_law_1343 rfl rfl ?_
  refine lw_iconst C (v := 3) dL_law_1344 (by decide) ?_
  refine lw_iadd C dL_law_1345 ?_
  refine lw_sld C h3 dL_law_1346 ?_
  refine lw_aload_n C 0 dL_law_1347 rfl rfl ?_
  refine lw_iload_n C 3 dL_law_1348 rfl rfl ?_
  refine lw_iconst C (v := 4) dL_law_1349 (by decide) ?_
  refine lw_iadd C dL_law_1350 ?_
  refine lw_sld C h4 dL_law_1351 ?_
  refine lw_callX C (As := [.int (xs (x3 + 1).toNatClampNeg), .int (xs (x3 + 2).toNatClampNeg), .int (xs (x3 + 3).toNatClampNeg), .int (xs (x3 + 4).toNatClampNeg)]) (z1 := (r, x')) rfl miX7_read mlL_169 imX7_read seX7_read (by decide) rfl rfl (mt7_read e1) rfl (Nat.le_of_ble_eq_true rfl) rfl dL_law_1352 ?_
  refine lw_aload_n C 2 dL_law_1355 rfl rfl ?_
  refine lw_aload_n C 0 dL_law_1356 rfl rfl ?_
  refine lw_iload_n C 3 dL_law_1357 rfl rfl ?_
  refine lw_iconst C (v := 1) dL_law_1358 (by decide) ?_
  refine lw_iadd C dL_law_1359 ?_
  refine lw_sld C h1 dL_law_1360 ?_
  refine lw_aload_n C 0 dL_law_1361 rfl rfl ?_
  refine lw_iload_n C 3 dL_law_1362 rfl rfl ?_
  refine lw_iconst C (v := 2) dL_law_1363 (by decide) ?_
  refine lw_iadd C dL_law_1364 ?_
  refine lw_sld C h2 dL_law_1365 ?_
  refine lw_aload_n C 0 dL_law_1366 rfl rfl ?_
  refine lw_iload_n C 3 dL_law_1367 rfl rfl ?_
  refine lw_iconst C (v := 3) dL_law_1368 (by decide) ?_
  refine lw_iadd C dL_law_1369 ?_
  refine lw_sld C h3 dL_law_1370 ?_
  refine lw_aload_n C 0 dL_law_1371 rfl rfl ?_
  refine lw_iload_n C 3 dL_law_1372 rfl rfl ?_
  refine lw_iconst C (v := 4) dL_law_1373 (by decide) ?_
  refine lw_iadd C dL_law_1374 ?_
  refine lw_sld C h4 dL_law_1375 ?_
  refine lw_callM C (As := [.int (xs (x3 + 1).toNatClampNeg), .int (xs (x3 + 2).toNatClampNeg), .int (xs (x3 + 3).toNatClampNeg), .int (xs (x3 + 4).toNatClampNeg)]) (z1 := (r, m')) rfl miX8_read mlL_173 imX8_read seX8_read (by decide) rfl rfl (mt8_read e2) rfl (Nat.le_of_ble_eq_true rfl) rfl dL_law_1376 ?_
  refine lw_eq C 1420 dL_law_1379 (by decide) rfl ?_
  exact kk x' m' hR'
def S_torn (RR : Mem → Mem → Prop) : Prop := ∀ x m : Mem, RR x m → ∃ (r : Int32) (x' m' : Mem), fn7_torn x = some (r, x') ∧ fn8_torn m = some (r, m') ∧ RR x' m'
set_option maxRecDepth 20000 in
theorem law_torn {M : MX} {G : GX} {adx adm : Nat → Nat} {b Ln : Nat} {xs : Nat → Int32} {Z : State → Prop} {x m : Mem} {x3 : Int32} {RR : Mem → Mem → Prop} (C : LC M G adx adm b Ln xs) (h1 : vp_in (x3 + 1) Ln) (h2 : vp_in (x3 + 2) Ln) (h3 : vp_in (x3 + 3) Ln) (h4 : vp_in (x3 + 4) Ln) (hs : S_torn RR) (hR : RR x m) (kk : ∀ x' m' : Mem, RR x' m' → LW M G adx adm Z 1420 [(0, .ref b), (1, .ref (adx 0)), (2, .ref (adm 0)), (3, .int x3)] [] x' m') : LW M G adx adm Z 1384 [(0, .ref b), (1, .ref (adx 0)), (2, .ref (adm 0)), (3, .int x3)] [] x m := by
  obtain ⟨r, x', m', e1, e2, hR'⟩ := hs x m hR 
  refine lw_aload_n C 1 dL_law_1384 rfl rfl ?_
  refine lw_callX C (As := []) (z1 := (r, x')) rfl miX7_torn mlL_174 imX7_torn seX7_torn (by decide) rfl rfl (mt7_torn e1) rfl (Nat.le_of_ble_eq_true rfl) rfl dL_law_1385 ?_
  refine lw_aload_n C 2 dL_law_1388 rfl rfl ?_
  refine lw_callM C (As := []) (z1 := (r, m')) rfl miX8_torn mlL_177 imX8_torn seX8_torn (by decide) rfl rfl (mt8_torn e2) rfl (Nat.le_of_ble_eq_true rfl) rfl dL_law_1389 ?_
  refine lw_eq C 1420 dL_law_1392 (by decide) rfl ?_
  exact kk x' m' hR'
def S_count (RR : Mem → Mem → Prop) : Prop := ∀ x m : Mem, RR x m → ∀ (a0 : Int32), ∃ (r : Int32) (x' m' : Mem), fn7_count a0 x = some (r, x') ∧ fn8_count a0 m = some (r, m') ∧ RR x' m'
set_option maxRecDepth 20000 in
theorem law_count {M : MX} {G : GX} {adx adm : Nat → Nat} {b Ln : Nat} {xs : Nat → Int32} {Z : State → Prop} {x m : Mem} {x3 : Int32} {RR : Mem → Mem → Prop} (C : LC M G adx adm b Ln xs) (h1 : vp_in (x3 + 1) Ln) (h2 : vp_in (x3 + 2) Ln) (h3 : vp_in (x3 + 3) Ln) (h4 : vp_in (x3 + 4) Ln) (hs : S_count RR) (hR : RR x m) (kk : ∀ x' m' : Mem, RR x' m' → LW M G adx adm Z 1420 [(0, .ref b), (1, .ref (adx 0)), (2, .ref (adm 0)), (3, .int x3)] [] x' m') : LW M G adx adm Z 1397 [(0, .ref b), (1, .ref (adx 0)), (2, .ref (adm 0)), (3, .int x3)] [] x m := by
  obtain ⟨r, x', m', e1, e2, hR'⟩ := hs x m hR (xs (x3 + 1).toNatClampNeg)
  refine lw_aload_n C 1 dL_law_1397 rfl rfl ?_
  refine lw_aload_n C 0 dL_law_1398 rfl rfl ?_
  refine lw_iload_n C 3 dL_law_1399 rfl rfl ?_
  refine lw_iconst C (v := 1) dL_law_1400 (by decide) ?_
  refine lw_iadd C dL_law_1401 ?_
  refine lw_sld C h1 dL_law_1402 ?_
  refine lw_callX C (As := [.int (xs (x3 + 1).toNatClampNeg)]) (z1 := (r, x')) rfl miX7_count mlL_178 imX7_count seX7_count (by decide) rfl rfl (mt7_count e1) rfl (Nat.le_of_ble_eq_true rfl) rfl dL_law_1403 ?_
  refine lw_aload_n C 2 dL_law_1406 rfl rfl ?_
  refine lw_aload_n C 0 dL_law_1407 rfl rfl ?_
  refine lw_iload_n C 3 dL_law_1408 rfl rfl ?_
  refine lw_iconst C (v := 1) dL_law_1409 (by decide) ?_
  refine lw_iadd C dL_law_1410 ?_
  refine lw_sld C h1 dL_law_1411 ?_
  refine lw_callM C (As := [.int (xs (x3 + 1).toNatClampNeg)]) (z1 := (r, m')) rfl miX8_count mlL_181 imX8_count seX8_count (by decide) rfl rfl (mt8_count e2) rfl (Nat.le_of_ble_eq_true rfl) rfl dL_law_1412 ?_
  refine lw_eq C 1420 dL_law_1415 (by decide) rfl ?_
  exact kk x' m' hR'
def SIM (RR : Mem → Mem → Prop) : Prop := S_feed RR ∧ S_end RR ∧ S_text RR ∧ S_fault RR ∧ S_rule RR ∧ S_one RR ∧ S_coin RR ∧ S_talk RR ∧ S_law RR ∧ S_fee RR ∧ S_give RR ∧ S_clip RR ∧ S_spend RR ∧ S_undo RR ∧ S_speak RR ∧ S_silent RR ∧ S_quiet RR ∧ S_may RR ∧ S_said RR ∧ S_knows RR ∧ S_learns RR ∧ S_hush RR ∧ S_hear RR ∧ S_forget RR ∧ S_first RR ∧ S_funeral RR ∧ S_raid RR ∧ S_settle RR ∧ S_test RR ∧ S_untest RR ∧ S_fakes RR ∧ S_next RR ∧ S_chatter RR ∧ S_keep RR ∧ S_back RR ∧ S_sheet RR ∧ S_lay RR ∧ S_read RR ∧ S_torn RR ∧ S_count RR
