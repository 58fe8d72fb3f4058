/-! The layer for methods that make cells: the world is a list that grows. -/
def AC (a sz : Nat) : Nat → Prop := fun q => q = a ∨ sz ≤ q
def eK (U : State) : Prop := NstOK U ∧ va_AO "SilenceCoin$Town" U ∧ va_AO "SilenceCoin$Sheet" U
theorem eK_warm {u U : State} (hW : u.WarmedH U.vm) (h : eK u) : eK U := ⟨fun q hq => va_Nw.warmM hW (h.1 q hq), h.2.1.moved hW.alike, h.2.2.moved hW.alike⟩
theorem eK_same {u U : State} (hv : u.vm = U.vm) (h : eK u) : eK U := ⟨fun q hq => va_Nw.same rfl hv (h.1 q hq), h.2.1.moved (hv ▸ Vm.Alike.refl u.vm), h.2.2.moved (hv ▸ Vm.Alike.refl u.vm)⟩
def CC (M : MX) (G : GX) (A : Nat → Prop) (own : String) (cc : ByteArray) (nL : Nat) (ret : Option FieldType) (rm : Room) : Prop :=
  (mP M).tables.exec = Jvm.exec ∧ (mC M).code = cc ∧ (mC M).maxLocals = nL ∧ (mS M).vm.findClass own = some (mM M).cls ∧ (∀ q ∈ wsL_law, q.before (mA M) (mS M) = true) ∧ (mMe M).sig.returnType = ret ∧ (mMe M).locks = false ∧ va_K G.1 vwCl (tysG G) (mS M) ∧ (∀ q, (mS M).heap.size ≤ q → A q) ∧ eK (mS M) ∧ mR M = rm
def CW (M : MX) (G : GX) (A : Nat → Prop) (nL : Nat) (Z : State → Prop) (c s : Nat) (pc : Nat) (L : List (Nat × Value)) (S : List Value) (ws : va_W) : Prop :=
  ∀ (H : Heap) (locs : List Loc) (ls : Array Slot), va_P G.1 vwCl ws H → va_D A ws → va_S A (mS M).heap H locs → lv_has ls nL L → W (mP M) (mL M) (mE M) (mR M) (mS M) (mM M) (mA M) (mB M) (mMe M) (mC M) H locs c s Z (F0 (mM M) pc ls S)
def KQ (G : GX) (a sz : Nat) (Post : va_W → Prop) : Array Value → State → Outcome → State → Prop := fun _ st oc t => oc = .returned none ∧ (∃ ws : va_W, Post ws ∧ va_P G.1 vwCl ws t.heap ∧ va_D (AC a sz) ws) ∧ va_F (AC a sz) st t
def KP (G : GX) (a sz ci : Nat) (fs : List Value) (U : State) : Prop := U.heap.size = sz ∧ va_P G.1 vwCl [(a, .inr (ci, fs))] U.heap ∧ va_K G.1 vwCl (tysG G) U ∧ eK U
def KM (l : Launch) (G : GX) (y : MethodName) (cc : ByteArray) (nL : Nat) (rm : Room) (a ci : Nat) (fs : List Value) (As : List Value) (mc ms : Nat) (Post : va_W → Prop) : Prop :=
  ∀ sz : Nat, Met l y (Cond.code y cc nL none :: wsL_law) rm (va_Pc (.ref a :: As) (KP G a sz ci fs)) (KQ G a sz Post) mc ms (AC a sz)
def ZK (M : MX) (G : GX) (a mc ms : Nat) (Post : va_W → Prop) : State → Prop := MQ (mB M) (KQ G a (mS M).heap.size Post) (mA M) (mS M) mc ms (AC a (mS M).heap.size)
theorem km_of {l : Launch} {G : GX} {y : MethodName} {cc : ByteArray} {nL : Nat} {rm : Room} {a ci : Nat} {fs As : List Value} {mc ms : Nat} {Post : va_W → Prop} {L : List (Nat × Value)}
    (hpl : Jvm.plainName y.cls = true) (hnm : y.name = "<init>") (hL : lv_args 0 (.ref a :: As) = L) (hn : (lg_sl (.ref a :: As)).length ≤ nL)
    (body : ∀ M : MX, mL M = l → CC M G (AC a (mS M).heap.size) y.cls cc nL none rm → (mMe M).name = "<init>" → CW M G (AC a (mS M).heap.size) nL (ZK M G a mc ms Post) 0 0 0 L [] [(a, .inr (ci, fs))]) : KM l G y cc nL rm a ci fs As mc ms Post := by
  intro sz
  refine Met.ofW (cc := cc) (maxL := nL) (ret := none) hpl rfl ?_
  intro p e s m args below meth c s₁ B hml hv
  obtain ⟨rfl, hsz, hP, hK, hE⟩ := hv
  subst hsz
  have hts := atoms_spec (ws := Cond.code y cc nL none :: wsL_law) B.pre
  have hl := lv_entry (.ref a :: As) (n := nL) hn
  rw [lg_entry_eq]
  rw [hL] at hl
  have hin : meth.name = "<init>" := ((name_of_methodNamed B.named B.method).1).trans hnm
  exact body (p, l, e, rm, s, m, (Value.ref a :: As).toArray, below, meth, c) rfl ⟨B.exec, B.bytes, hml, findClass_of_methodNamed B.named, fun q hq => hts q (List.mem_cons_of_mem _ hq), B.returns, B.notSynchronized, hK, fun q h => Or.inr h, hE, rfl⟩ hin s.heap [] _ hP
    ⟨fun i j x y h1 h2 _ => by
      have a1 := (List.getElem?_eq_some_iff.mp h1).1
      have a2 := (List.getElem?_eq_some_iff.mp h2).1
      simp at a1 a2
      omega, fun k q h => by
      have a1 := (List.getElem?_eq_some_iff.mp h).1
      simp at a1
      subst a1
      cases h
      exact Or.inl rfl⟩ va_S.rf hl
theorem same_cA {D : va_G} {cl : List vw_C} {tys : List (ClassId × FieldType)} {U : State} (h : va_K D cl tys U) {i j : Nat} {c1 c2 : ClassId} {ty : FieldType} (h1 : tys[i]? = some (c1, ty)) (h2 : tys[j]? = some (c2, ty)) : c1 = c2 := by
  have a1 := (h.2 i _ h1).2
  have a2 := (h.2 j _ h2).2
  cases ty with
  | object C =>
    obtain ⟨_, _, _, _, _, e1⟩ := a1
    obtain ⟨_, _, _, _, _, e2⟩ := a2
    exact Option.some.inj (e1.symm.trans e2)
  | _ => exact Option.some.inj (Eq.trans (Eq.symm a1) a2)
section CTOR
variable {M : MX} {G : GX} {A : Nat → Prop} {own : String} {cc : ByteArray} {nL : Nat} {ret : Option FieldType} {rm : Room} {Z : State → Prop} {c s pc : Nat} {L L' : List (Nat × Value)} {S : List Value} {ws ws' : va_W}
theorem cw_ws (h : ws = ws') (k : CW M G A nL Z c s pc L S ws') : CW M G A nL Z c s pc L S ws := h ▸ k
theorem cw_pick (is : List Nat) (hn : va_nd is = true) (h : is.map (fun i => ws[i]?) = ws'.map some) (k : CW M G A nL Z c s pc L S ws') : CW M G A nL Z c s pc L S ws := by
  intro H locs ls hP hD hS hl
  refine k H locs ls (hP.sub is ?_) (hD.sub is hn h) hS hl
  have e : is.filterMap (fun i => ws[i]?) = (is.map (fun i => ws[i]?)).filterMap id := by rw [List.filterMap_map]; rfl
  rw [e, h]
  simp
theorem cw_widen {c' s' : Nat} (h1 : c ≤ c') (h2 : s ≤ s') (k : CW M G A nL Z c' s' pc L S ws) : CW M G A nL Z c s pc L S ws := fun H locs ls hP hD hS hl => W.widen h1 h2 (k H locs ls hP hD hS hl)
theorem cw_iconst (C : CC M G A own cc nL ret rm) {n : Int} {v : Int32} (hdg : decode cc pc = .ok (.iconst n, 1)) (hv : Int32.ofInt n = v) (k : CW M G A nL Z c s (pc + 1) L (.int v :: S) ws) : CW M G A nL Z c s pc L S ws := fun H locs ls hP hD hS hl => lv_iconst C.1 C.2.1 hdg hv (k H locs ls hP hD hS hl)
theorem cw_bipush (C : CC M G A own cc nL ret rm) {n : Int} {v : Int32} (hdg : decode cc pc = .ok (.bipush n, 2)) (hv : (Int8.ofInt n).toInt32 = v) (k : CW M G A nL Z c s (pc + 2) L (.int v :: S) ws) : CW M G A nL Z c s pc L S ws := fun H locs ls hP hD hS hl => lv_bipush C.1 C.2.1 hdg hv (k H locs ls hP hD hS hl)
theorem cw_sipush (C : CC M G A own cc nL ret rm) {n : Int} {v : Int32} (hdg : decode cc pc = .ok (.sipush n, 3)) (hv : (Int16.ofInt n).toInt32 = v) (k : CW M G A nL Z c s (pc + 3) L (.int v :: S) ws) : CW M G A nL Z c s pc L S ws := fun H locs ls hP hD hS hl => lv_sipush C.1 C.2.1 hdg hv (k H locs ls hP hD hS hl)
theorem cw_aload_n (C : CC M G A own cc nL ret rm) {k : Fin 4} {i x : Nat} (q : Nat) (hdg : decode cc pc = .ok (.aload_n k, 1)) (hi : (k : Nat) = i) (hq : L[q]? = some (i, .ref x)) (kk : CW M G A nL Z c s (pc + 1) L (.ref x :: S) ws) : CW M G A nL Z c s pc L S ws := fun H locs ls hP hD hS hl => lv_aload_n C.1 C.2.1 hdg hi (lv_at hl q hq) (kk H locs ls hP hD hS hl)
theorem cw_iload_n (C : CC M G A own cc nL ret rm) {k : Fin 4} {i : Nat} {x : Int32} (q : Nat) (hdg : decode cc pc = .ok (.iload_n k, 1)) (hi : (k : Nat) = i) (hq : L[q]? = some (i, .int x)) (kk : CW M G A nL Z c s (pc + 1) L (.int x :: S) ws) : CW M G A nL Z c s pc L S ws := fun H locs ls hP hD hS hl => lv_iload_n C.1 C.2.1 hdg hi (lv_at hl q hq) (kk H locs ls hP hD hS hl)
theorem cw_istore_n (C : CC M G A own cc nL ret rm) {k : Fin 4} {i : Nat} {x : Int32} (L' : List (Nat × Value)) (hdg : decode cc pc = .ok (.istore_n k, 1)) (hi : (k : Nat) = i) (hn : i < nL) (hl' : (i, Value.int x) :: L.filter (fun q => !(q.1 == i) && !(q.1 + 1 == i && q.2.category == 2)) = L') (kk : CW M G A nL Z c s (pc + 1) L' S ws) : CW M G A nL Z c s pc L (.int x :: S) ws := fun H locs ls hP hD hS hl => lv_istore_n C.1 C.2.1 hdg hi hl hn hl' (fun ls' hl2 => kk H locs ls' hP hD hS hl2)
theorem cw_astore_n (C : CC M G A own cc nL ret rm) {k : Fin 4} {i : Nat} {x : Nat} (L' : List (Nat × Value)) (hdg : decode cc pc = .ok (.astore_n k, 1)) (hi : (k : Nat) = i) (hn : i < nL) (hl' : (i, Value.ref x) :: L.filter (fun q => !(q.1 == i) && !(q.1 + 1 == i && q.2.category == 2)) = L') (kk : CW M G A nL Z c s (pc + 1) L' S ws) : CW M G A nL Z c s pc L (.ref x :: S) ws := fun H locs ls hP hD hS hl => lv_astore_n C.1 C.2.1 hdg hi hl hn hl' (fun ls' hl2 => kk H locs ls' hP hD hS hl2)
theorem cw_iinc (C : CC M G A own cc nL ret rm) {i : Nat} {n : Int} {x v : Int32} (L' : List (Nat × Value)) (q : Nat) (hdg : decode cc pc = .ok (.iinc i n, 3)) (hq : L[q]? = some (i, .int x)) (hv : x + Int32.ofInt n = v) (hn : i < nL) (hl' : (i, Value.int v) :: L.filter (fun q => !(q.1 == i) && !(q.1 + 1 == i && q.2.category == 2)) = L') (kk : CW M G A nL Z c s (pc + 3) L' S ws) : CW M G A nL Z c s pc L S ws := fun H locs ls hP hD hS hl => lv_iinc C.1 C.2.1 hdg hl hq hv hn hl' (fun ls' hl2 => kk H locs ls' hP hD hS hl2)
theorem cw_goto (C : CC M G A own cc nL ret rm) {off : Int} {tgt : Nat} (hdg : decode cc pc = .ok (.goto off, 3)) (ht : (pc : Int) + off = (tgt : Int)) (k : CW M G A nL Z c s tgt L S ws) : CW M G A nL Z c s pc L S ws := fun H locs ls hP hD hS hl => lv_goto C.1 C.2.1 hdg ht (k H locs ls hP hD hS hl)
theorem cw_ge_t (C : CC M G A own cc nL ret rm) {x y : Int32} {off : Int} {tgt : Nat} (hdg : decode cc pc = .ok (.if_icmp .ge off, 3)) (ht : (pc : Int) + off = (tgt : Int)) (h : y ≤ x) (k : CW M G A nL Z c s tgt L S ws) : CW M G A nL Z c s pc L (.int y :: .int x :: S) ws := fun H locs ls hP hD hS hl => lv_icmp_ge C.1 C.2.1 hdg ht (fun _ => k H locs ls hP hD hS hl) (fun q => absurd h q)
theorem cw_ge_f (C : CC M G A own cc nL ret rm) {x y : Int32} {off : Int} (tgt : Nat) (hdg : decode cc pc = .ok (.if_icmp .ge off, 3)) (ht : (pc : Int) + off = (tgt : Int)) (h : ¬ y ≤ x) (k : CW M G A nL Z c s (pc + 3) L S ws) : CW M G A nL Z c s pc L (.int y :: .int x :: S) ws := fun H locs ls hP hD hS hl => lv_icmp_ge C.1 C.2.1 hdg ht (fun q => absurd q h) (fun _ => k H locs ls hP hD hS hl)
theorem cw_dup (C : CC M G A own cc nL ret rm) {va : Value} (hdg : decode cc pc = .ok (.dup, 1)) (hva : va.category = 1) (k : CW M G A nL Z c s (pc + 1) L (va :: va :: S) ws) : CW M G A nL Z c s pc L (va :: S) ws := fun H locs ls hP hD hS hl => lv_dup C.1 C.2.1 hdg hva (k H locs ls hP hD hS hl)
theorem cw_objInit (C : CC M G A own cc nL ret rm) {idx a : Nat} (h1 : Cond.methodLink own idx objectInit ∈ wsL_law) (h2 : Cond.instanceMethod objectInit ∈ wsL_law) (h3 : Cond.code objectInit ⟨#[0xb1]⟩ 1 none ∈ wsL_law) (hf : 1 ≤ rm.frames) (hlo : (S.map fun v => v.category).sum + 12 ≤ rm.locals) (hdg : decode cc pc = .ok (.invokespecial idx, 3)) (k : CW M G A nL Z c s (pc + 3) L S ws) : CW M G A nL Z c s pc L (.ref a :: S) ws := by
  intro H locs ls hP hD hS hl
  have hts := C.2.2.2.2.1
  have e := C.2.2.2.2.2.2.2.2.2.2
  exact W.objInit C.1 C.2.1 C.2.2.2.1 (hts _ h1) (hts _ h2) (hts _ h3) (g := F0 (mM M) pc ls (.ref a :: S)) rfl (by rw [C.2.2.1]; exact hl.1) rfl hdg (by show 1 ≤ (mR M).frames; rw [e]; exact hf) (by show 2 * 0 + _ + 12 ≤ (mR M).locals; rw [e]; omega) (k H locs ls hP hD hS hl)
theorem cw_newa (C : CC M G A own cc nL ret rm) {atype : ArrayType} (tg : Nat) (N' : Nat) {n : Int32} (harr : Cond.arrayClass (newarray.typeOf atype) ∈ wsL_law) (hty : newarray.typeOf atype = agT tg) (htg : (tysG G)[tg]? = some (G.2.1 tg, agT tg)) (ha : ∀ cA : ClassId, vp_cell cA (N', .inl (fun _ => (0 : Int32))) = arrV cA N' (fun _ => defaultValue (agT tg))) (hn : ¬ n < 0) (hN : n.toNatClampNeg = N') (hbytes : N' * componentBytes (agT tg) ≤ 536870912) (hc : c + 1 ≤ rm.cells) (hs : s + N' ≤ rm.slots) (hdg : decode cc pc = .ok (.newarray atype, 2))
    (kk : ∀ q : Nat, CW M G A nL Z (c + 1) (s + N') (pc + 2) L (.ref q :: S) (ws ++ [(q, .inl (G.2.1 tg, N', .inl (fun _ => (0 : Int32))))])) : CW M G A nL Z c s pc L (.int n :: S) ws := by
  intro H locs ls hP hD hS hl
  have e := C.2.2.2.2.2.2.2.2.2.2
  refine va_newa (a0 := (N', .inl (fun _ => (0 : Int32)))) C.1 C.2.1 (C.2.2.2.2.1 _ harr) hty C.2.2.2.2.2.2.2.1 hP hD hS C.2.2.2.2.2.2.2.2.1 ha hn hN hbytes (by show _ ≤ (mR M).cells; rw [e]; exact hc) (by show _ ≤ (mR M).slots; rw [e]; exact hs) hdg (fun q cA H1 hK hP hD hS => ?_)
  have e1 : cA = G.2.1 tg := same_cA (ty := agT tg) hK (i := (tysG G).length) (j := tg) (by simp) (by rw [List.getElem?_append_left (List.getElem?_eq_some_iff.mp htg).1]; exact htg)
  subst e1
  exact kk q H1 locs ls hP hD hS hl
theorem cw_newq (C : CC M G A own cc nL ret rm) {Cn : String} {index : Nat} (tg : Nat) (N' : Nat) {n : Int32} (hcl : Cond.classLink own index Cn ∈ wsL_law) (hov : va_AO Cn (mS M)) (htg : (tysG G)[tg]? = some (G.2.1 tg, .object Cn)) (hn : ¬ n < 0) (hN : n.toNatClampNeg = N') (hbytes : N' * 4 ≤ 536870912) (hc : c + 1 ≤ rm.cells) (hs : s + N' ≤ rm.slots) (hdg : decode cc pc = .ok (.anewarray index, 3))
    (kk : ∀ q : Nat, CW M G A nL Z (c + 1) (s + N') (pc + 3) L (.ref q :: S) (ws ++ [(q, .inl (G.2.1 tg, N', .inr (.inr (.inr (.inr (fun _ => none))))))])) : CW M G A nL Z c s pc L (.int n :: S) ws := by
  intro H locs ls hP hD hS hl
  have e := C.2.2.2.2.2.2.2.2.2.2
  refine va_newq C.1 C.2.1 C.2.2.2.1 (C.2.2.2.2.1 _ hcl) hov C.2.2.2.2.2.2.2.1 hP hD hS C.2.2.2.2.2.2.2.2.1 hn hN hbytes (by show _ ≤ (mR M).cells; rw [e]; exact hc) (by show _ ≤ (mR M).slots; rw [e]; exact hs) hdg (fun q cA H1 hK hP hD hS => ?_)
  have e1 : cA = G.2.1 tg := same_cA (ty := .object Cn) hK (i := (tysG G).length) (j := tg) (by simp) (by rw [List.getElem?_append_left (List.getElem?_eq_some_iff.mp htg).1]; exact htg)
  subst e1
  exact kk q H1 locs ls hP hD hS hl
theorem cw_putF (C : CC M G A own cc nL ret rm) (hin2 : (mMe M).name = "<init>") {a j ci n index : Nat} {Cn : String} {T : u_T} {fs : List Value} {v : Value} {ty : FieldType} (q0 : Nat) (he : ws[q0]? = some (a, .inr (ci, fs))) (hc : vwCl[ci]? = some (Cn, T, n)) (hin : ∀ q ∈ u_ws Cn T n, q ∈ wsL_law) (hj : j < n) (ty0 : Nat → FieldType) (hty : ∀ k, k < n → parseFieldDescriptor (T k).2.2.1 = some (ty0 k)) (hnm : ∀ a, a < n → ∀ b, b < n → a ≠ b → (T a).2.1 ≠ (T b).2.1) (hlk : Cond.fieldLink own index (T j).1 (T j).2.1 (T j).2.2.1 ∈ wsL_law) (hfin : (T j).2.2.2 = true) (hdecl : (T j).1 = own) (hd : parseFieldDescriptor (T j).2.2.1 = some ty) (hn : narrow ty v = v) (hfit : fits ty v = true) (hl : j < fs.length) (hdg : decode cc pc = .ok (.putfield index, 3)) (kk : CW M G A nL Z c s (pc + 3) L S (ws.set q0 (a, .inr (ci, fs.set j v)))) : CW M G A nL Z c s pc L (v :: .ref a :: S) ws :=
  fun H locs ls hP hD hS hl0 => va_putF C.1 C.2.1 C.2.2.2.2.1 hin ty0 hty hnm C.2.2.2.1 C.2.2.2.2.2.2.2.1 hP hD hS q0 he hc j hj (C.2.2.2.2.1 _ hlk) (fun _ h9 => h9) hfin hin2 hdecl hd hn hfit hl hdg (fun H1 locs1 hP1 hD1 hS1 => kk H1 locs1 ls hP1 hD1 hS1 hl0)
theorem cw_putI (C : CC M G A own cc nL ret rm) {a j ci n index : Nat} {Cn : String} {T : u_T} {fs : List Value} {v : Value} {ty : FieldType} (q0 : Nat) (he : ws[q0]? = some (a, .inr (ci, fs))) (hc : vwCl[ci]? = some (Cn, T, n)) (hin : ∀ q ∈ u_ws Cn T n, q ∈ wsL_law) (hj : j < n) (ty0 : Nat → FieldType) (hty : ∀ k, k < n → parseFieldDescriptor (T k).2.2.1 = some (ty0 k)) (hnm : ∀ a, a < n → ∀ b, b < n → a ≠ b → (T a).2.1 ≠ (T b).2.1) (hlk : Cond.fieldLink own index (T j).1 (T j).2.1 (T j).2.2.1 ∈ wsL_law) (hfin : (T j).2.2.2 = false) (hd : parseFieldDescriptor (T j).2.2.1 = some ty) (hn : narrow ty v = v) (hfit : fits ty v = true) (hl : j < fs.length) (hdg : decode cc pc = .ok (.putfield index, 3)) (kk : CW M G A nL Z c s (pc + 3) L S (ws.set q0 (a, .inr (ci, fs.set j v)))) : CW M G A nL Z c s pc L (v :: .ref a :: S) ws :=
  fun H locs ls hP hD hS hl0 => va_put C.1 C.2.1 C.2.2.2.2.1 hin ty0 hty hnm C.2.2.2.1 C.2.2.2.2.2.2.2.1 hP hD hS q0 he hc j hj (C.2.2.2.2.1 _ hlk) (fun _ h9 => h9) hfin hd hn hfit hl hdg (fun H1 locs1 hP1 hD1 hS1 => kk H1 locs1 ls hP1 hD1 hS1 hl0)
theorem cw_get (C : CC M G A own cc nL ret rm) {a j ci n index : Nat} {Cn : String} {T : u_T} {fs : List Value} {v : Value} (q0 : Nat) (he : ws[q0]? = some (a, .inr (ci, fs))) (hc : vwCl[ci]? = some (Cn, T, n)) (hin : ∀ q ∈ u_ws Cn T n, q ∈ wsL_law) (hj : j < n) (hlk : Cond.fieldLink own index (T j).1 (T j).2.1 (T j).2.2.1 ∈ wsL_law) (hv : fs[j]? = some v) (hdg : decode cc pc = .ok (.getfield index, 3)) (kk : CW M G A nL Z c s (pc + 3) L (v :: S) ws) : CW M G A nL Z c s pc L (.ref a :: S) ws :=
  fun H locs ls hP hD hS hl0 => va_get C.1 C.2.1 C.2.2.2.2.1 hin C.2.2.2.1 C.2.2.2.2.2.2.2.1 hP q0 he hc j hj (C.2.2.2.2.1 _ hlk) (fun _ h9 => h9) hv hdg (kk H locs ls hP hD hS hl0)
theorem cw_iast (C : CC M G A own cc nL ret rm) {a n : Nat} {f : Nat → Int32} {i x : Int32} (q0 : Nat) (ha : ws[q0]? = some (a, .inl (G.2.1 0, n, .inl f))) (hi : ib i n = true) (hdg : decode cc pc = .ok (.iastore, 1)) (kk : CW M G A nL Z c s (pc + 1) L S (ws.set q0 (a, .inl (G.2.1 0, n, .inl (upd f i.toNatClampNeg x))))) : CW M G A nL Z c s pc L (.int x :: .int i :: .ref a :: S) ws :=
  fun H locs ls hP hD hS hl0 => va_iast C.1 C.2.1 C.2.2.2.2.2.2.2.1 hP hD hS q0 0 ha rfl (ib_in hi) hdg (fun H1 locs1 hP1 hD1 hS1 => kk H1 locs1 ls hP1 hD1 hS1 hl0)
theorem cw_astq (C : CC M G A own cc nL ret rm) {a n ci v : Nat} {f : Nat → Option Nat} {i : Int32} {r : vw_C} {vs : List Value} (q0 qk tg : Nat) (ha : ws[q0]? = some (a, .inl (G.2.1 tg, n, .inr (.inr (.inr (.inr f)))))) (ht : (tysG G)[tg]? = some (G.2.1 tg, .object r.1)) (hv : ws[qk]? = some (v, .inr (ci, vs))) (hc : vwCl[ci]? = some r) (hi : ib i n = true) (hdg : decode cc pc = .ok (.aastore, 1)) (kk : CW M G A nL Z c s (pc + 1) L S (ws.set q0 (a, .inl (G.2.1 tg, n, .inr (.inr (.inr (.inr (va_up f i.toNatClampNeg (some v))))))))) : CW M G A nL Z c s pc L (.ref v :: .int i :: .ref a :: S) ws :=
  fun H locs ls hP hD hS hl0 => va_astq C.1 C.2.1 C.2.2.2.2.2.2.2.1 hP hD hS q0 tg qk ci ha ht hv hc (ib_in hi) hdg (fun H1 locs1 hP1 hD1 hS1 => kk H1 locs1 ls hP1 hD1 hS1 hl0)
theorem cw_new (C : CC M G A own cc nL ret rm) {Cn : String} {T : u_T} {n ci index : Nat} (fs : List Value) (hin : ∀ q ∈ u_ws Cn T n, q ∈ wsL_law) (ty : Nat → FieldType) (hty : ∀ k, k < n → parseFieldDescriptor (T k).2.2.1 = some (ty k)) (hcl : Cond.classLink own index Cn ∈ wsL_law) (hinst : Cond.instantiable Cn n ∈ wsL_law) (hini : Cond.initialized Cn ∈ wsL_law) (hc : vwCl[ci]? = some (Cn, T, n)) (hfs : ∀ j, j < n → defaultValue (ty j) = vp_V fs j) (hcs : c + 1 ≤ rm.cells) (hss : s + n ≤ rm.slots) (hdg : decode cc pc = .ok (.new index, 3)) (kk : ∀ q : Nat, CW M G A nL Z (c + 1) (s + n) (pc + 3) L (.ref q :: S) (ws ++ [(q, .inr (ci, fs))])) : CW M G A nL Z c s pc L S ws := by
  intro H locs ls hP hD hS hl
  have e := C.2.2.2.2.2.2.2.2.2.2
  have hts := C.2.2.2.2.1
  exact va_new C.1 C.2.1 hts hin ty hty C.2.2.2.1 (hts _ hcl) (hts _ hinst) (hts _ hini) C.2.2.2.2.2.2.2.1 hP hD hS C.2.2.2.2.2.2.2.2.1 hc hfs (by show _ ≤ (mR M).cells; rw [e]; exact hcs) (by show _ ≤ (mR M).slots; rw [e]; exact hss) hdg (fun q H1 hP1 hD1 hS1 => kk q H1 locs ls hP1 hD1 hS1 hl)
theorem ac_va {a sz ci : Nat} {fs : List Value} {q : Nat} : va_A [(a, .inr (ci, fs))] sz q ↔ AC a sz q := by
  constructor
  · intro h
    rcases h with ⟨k, e, h⟩ | h
    · have a1 := (List.getElem?_eq_some_iff.mp h).1
      simp at a1
      subst a1
      cases h
      exact Or.inl rfl
    · exact Or.inr h
  · intro h
    rcases h with h | h
    · exact Or.inl ⟨0, .inr (ci, fs), by rw [h]; rfl⟩
    · exact Or.inr h
theorem va_nd_range (n : Nat) : va_nd (List.range n) = true := by
  have key : ∀ (l : List Nat), l.Nodup → va_nd l = true := by
    intro l
    induction l with
    | nil => intro _; rfl
    | cons x t ih =>
      intro h
      have h1 := List.nodup_cons.mp h
      simp [va_nd, h1.1, ih h1.2]
  exact key _ List.nodup_range
/-- a call of a constructor: the fresh object is the last cell -/
theorem cw_back {a ci mc ms : Nat} {fs : List Value} {ws0 : va_W} {rest st0 : List Value} {Post : va_W → Prop} {ar : Array Value} {H : Heap} {locs : List Loc} {ls : Array Slot} (hA : ∀ q, (mS M).heap.size ≤ q → A q)
    (hr : va_Run (mP M) (mL M) (mE M) (mR M) (mS M) (mM M) (mA M) (mB M) (mMe M) (mC M) H locs c s mc ms (F0 (mM M) pc ls st0) rest (KQ G a H.size Post ar) (AC a H.size)) (hP : va_P G.1 vwCl (ws0 ++ [(a, .inr (ci, fs))]) H) (hD : va_D A (ws0 ++ [(a, .inr (ci, fs))])) (hS : va_S A (mS M).heap H locs) (hl : lv_has ls nL L)
    (kk : ∀ ws' : va_W, Post ws' → CW M G A nL Z (c + mc) (s + ms) (pc + 3) L rest (ws0 ++ ws')) : W (mP M) (mL M) (mE M) (mR M) (mS M) (mM M) (mA M) (mB M) (mMe M) (mC M) H locs c s Z (F0 (mM M) pc ls st0) := by
  intro T hT X
  obtain ⟨v, st0', t, T', L', h0, X', hL', e1, e2, ⟨hv, ⟨ws', hpost, hP1, hD1⟩, hF⟩, st⟩ := hr T hT X
  cases hv
  have hlast : (ws0 ++ [(a, Sum.inr (ci, fs))])[ws0.length]? = some ((a, Sum.inr (ci, fs)) : Nat × va_E) := by simp
  have hAa : A a := hD.2 ws0.length _ hlast
  have hAC : ∀ q, AC a H.size q → A q := fun q h => by
    rcases h with h | h
    · rw [h]; exact hAa
    · exact hA q (Nat.le_trans hS.1 h)
  obtain ⟨hPj, hDj⟩ := va_join (wc := [(a, .inr (ci, fs))]) (wr := ws0) (w1 := ws') (H1 := T'.heap) hP hD [ws0.length] (List.range ws0.length) (by simp) (by
      apply List.ext_getElem?
      intro i
      by_cases hi : i < ws0.length
      · simp only [List.getElem?_map, List.getElem?_range hi, Option.map_some, List.getElem?_append_left hi]
        rw [List.getElem?_eq_getElem hi]
        rfl
      · simp [hi]) (va_nd_range _) (fun i hi hc => by
      have h1 := List.mem_range.mp hi
      have h2 : i = ws0.length := by simpa using hc
      omega) (fun q h1 h2 => by rw [e1, hF.2 q (by rw [h0]; exact h1) (fun z => h2 (ac_va.mpr z)), h0]) (fun q h => hAC q (ac_va.mp h)) (by rw [e1]; exact hP1) (hD1.weaken (fun k q _ h => ac_va.mpr h))
  have hS1 : va_S A (mS M).heap T'.heap (locs ++ L') := by
    refine ⟨Nat.le_trans hS.1 (by rw [e1, ← h0]; exact hF.1), fun q h1 h2 => ?_, fun q hq => ?_⟩
    · rw [e1, hF.2 q (by rw [h0]; exact Nat.lt_of_lt_of_le h1 hS.1) (fun z => h2 (hAC q z)), h0]
      exact hS.2.1 q h1 h2
    · rcases List.mem_append.mp hq with h | h
      · exact hS.2.2 q h
      · exact hAC _ (hL' q h)
  obtain ⟨t2, a1, b1⟩ := kk ws' hpost T'.heap (locs ++ L') ls hPj hDj hS1 hl T' rfl X'
  exact ⟨t2, st t2 a1, b1⟩
theorem kp_blind {a sz ci : Nat} {fs l0 : List Value} : FrameBlind (va_Pc l0 (KP G a sz ci fs)) := fun ar U g mk q => by
  obtain ⟨q0, q1, q2, q3, q4⟩ := q
  exact ⟨q0, q1, q2, va_K.moved (u := U) (U := U.calling g mk ar) (Vm.Alike.refl U.vm) q3, eK_same (u := U) rfl q4⟩
theorem kp_at (C : CC M G A own cc nL ret rm) {a ci : Nat} {fs : List Value} {ws0 : va_W} {H : Heap} (hP : va_P G.1 vwCl (ws0 ++ [(a, .inr (ci, fs))]) H) {U : State} (hU : U.heap = H) (hW : (mS M).WarmedH U.vm) : KP G a H.size ci fs U := by
  refine ⟨by rw [hU], by rw [hU]; exact hP.sub [ws0.length] (by simp), va_K.moved hW.alike C.2.2.2.2.2.2.2.1, eK_warm hW C.2.2.2.2.2.2.2.2.2.1⟩
theorem cw_callI (C : CC M G A own cc nL ret rm) {a ci index nLy n mc ms : Nat} {fs As rest : List Value} {ws0 : va_W} {y : MethodName} {cy : ByteArray} {rmy : Room} {Post : va_W → Prop} (hmi : MI y cy nLy none n) (hlk : Cond.methodLink own index y ∈ wsL_law) (hin : Cond.instanceMethod y ∈ wsL_law) (hnm : y.name = "<init>") (hR : rmy.frames + 1 ≤ rm.frames ∧ 8 + (nLy + 11) + rmy.locals ≤ rm.locals) (hrc : rmy.cells = mc) (hrs : rmy.slots = ms) (hM : KM (mL M) G y cy nLy rmy a ci fs As mc ms Post) (hn : As.length = n) (hcat : (rest.map fun v => v.category).sum ≤ 8) (hst : S = As.reverse ++ .ref a :: rest) (hws : ws = ws0 ++ [(a, .inr (ci, fs))]) (hf : c + mc ≤ rm.cells ∧ s + ms ≤ rm.slots) (hdg : decode cc pc = .ok (.invokespecial index, 3))
    (kk : ∀ ws' : va_W, Post ws' → CW M G A nL Z (c + mc) (s + ms) (pc + 3) L rest (ws0 ++ ws')) : CW M G A nL Z c s pc L S ws := by
  subst hst hws
  intro H locs ls hP hD hS hl
  have hts := C.2.2.2.2.1
  have e := C.2.2.2.2.2.2.2.2.2.2
  exact cw_back (ar := (Value.ref a :: As).toArray) C.2.2.2.2.2.2.2.2.1 (va_runI (As := As) (rest := rest) (Ts := wsL_law) ⟨C.1, C.2.1, C.2.2.1, C.2.2.2.1, hts⟩ (hM H.size) ⟨callB_of n hts (goodIn_all hmi.1) rfl hrc hrs (hts _ hmi.2.1) (hts _ hlk) hmi.2.2 (by rw [e]; exact hR), hnm, hts _ hin⟩ ⟨kp_blind, fun U hU hW => ⟨rfl, kp_at C hP hU hW⟩⟩ rfl hn hl.1 rfl (lv_room hcat) hdg (by rw [e]; exact hf)) hP hD hS hl kk
theorem cw_callIN (C : CC M G A own cc nL ret rm) {host : String} {a ci index nLy n mc ms : Nat} {fs As rest : List Value} {ws0 : va_W} {y : MethodName} {cy : ByteArray} {rmy : Room} {Post : va_W → Prop} (hmi : MI y cy nLy none n) (hlk : va_Nw (.methodLinkNest own index y host) (mS M)) (hin : Cond.instanceMethod y ∈ wsL_law) (hnm : y.name = "<init>") (hR : rmy.frames + 1 ≤ rm.frames ∧ 8 + (nLy + 11) + rmy.locals ≤ rm.locals) (hrc : rmy.cells = mc) (hrs : rmy.slots = ms) (hM : KM (mL M) G y cy nLy rmy a ci fs As mc ms Post) (hn : As.length = n) (hcat : (rest.map fun v => v.category).sum ≤ 8) (hst : S = As.reverse ++ .ref a :: rest) (hws : ws = ws0 ++ [(a, .inr (ci, fs))]) (hf : c + mc ≤ rm.cells ∧ s + ms ≤ rm.slots) (hdg : decode cc pc = .ok (.invokespecial index, 3))
    (kk : ∀ ws' : va_W, Post ws' → CW M G A nL Z (c + mc) (s + ms) (pc + 3) L rest (ws0 ++ ws')) : CW M G A nL Z c s pc L S ws := by
  subst hst hws
  intro H locs ls hP hD hS hl
  have hts := C.2.2.2.2.1
  have e := C.2.2.2.2.2.2.2.2.2.2
  exact cw_back (ar := (Value.ref a :: As).toArray) C.2.2.2.2.2.2.2.2.1 (va_runIN (As := As) (rest := rest) (Ts := wsL_law) ⟨C.1, C.2.1, C.2.2.1, C.2.2.2.1, hts⟩ (hM H.size) ⟨va_cnB n hts (goodIn_all hmi.1) rfl hrc hrs hlk (hts _ hmi.2.1) hmi.2.2 (by rw [e]; exact hR), hnm, hts _ hin⟩ ⟨kp_blind, fun U hU hW => ⟨rfl, kp_at C hP hU hW⟩⟩ rfl hn hl.1 rfl (lv_room hcat) hdg (by rw [e]; exact hf)) hP hD hS hl kk
theorem cw_vret {a mc ms : Nat} {Post : va_W → Prop} (C : CC M G (AC a (mS M).heap.size) own cc nL none rm) (hdg : decode cc pc = .ok (.return_, 1)) (hpost : Post ws) : CW M G (AC a (mS M).heap.size) nL (ZK M G a mc ms Post) mc ms pc L [] ws := by
  intro H locs ls hP hD hS hl
  exact W.vret C.1 C.2.1 C.2.2.2.2.2.1 (fun t ht hW => ⟨rfl, ⟨ws, hpost, by rw [ht]; exact hP, hD⟩, hS.F ht⟩) hS.2.2 hdg C.2.2.2.2.2.2.1
end CTOR
