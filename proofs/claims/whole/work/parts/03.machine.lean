/-! A THIN LAYER over the kit's rows: all data of the system that can change is Int32; a memory gives cell number and place the number that lies there; the shape of the cells is fixed. -/
abbrev Mem : Type := Nat → Nat → Int32
/-- an object (its class's number; a field is an int, or the cell that it names), an array of numbers (tag, length), an array of references (tag, cells) -/
abbrev Shp : Type := (Nat × List (Option Nat)) ⊕ ((Nat × Nat) ⊕ (Nat × List Nat))
abbrev GX : Type := va_G × (Nat → ClassId) × (Nat → Nat) × (Nat → Nat) × (Nat → Nat)
abbrev gad (G : GX) : Nat → Nat := G.2.2.1
abbrev gaK (G : GX) : Nat → Nat := G.2.2.2.1
abbrev gaV (G : GX) : Nat → Nat := G.2.2.2.2
def agT (t : Nat) : FieldType := match t with
  | 0 => .int
  | 1 => .byte
  | 2 => .boolean
  | 3 => .object "SilenceCoin$Town"
  | _ => .object "SilenceCoin$Sheet"
def tysG (G : GX) : List (ClassId × FieldType) := [(G.2.1 0, agT 0), (G.2.1 1, agT 1), (G.2.1 2, agT 2), (G.2.1 3, agT 3), (G.2.1 4, agT 4)]
def fv1 (ad : Nat → Nat) (f : Nat → Int32) (j : Nat) (o : Option Nat) : Value := match o with
  | none => Value.int (f j)
  | some t => Value.ref (ad t)
def fvs (ad : Nat → Nat) (ks : List (Option Nat)) (f : Nat → Int32) : List Value := ks.mapIdx (fv1 ad f)
def ce (G : GX) (sp : Shp) (f : Nat → Int32) : va_E := match sp with
  | .inl o => .inr (o.1, fvs (gad G) o.2 f)
  | .inr (.inl a) => .inl (G.2.1 a.1, a.2, .inl f)
  | .inr (.inr a) => .inl (G.2.1 a.1, a.2.length, .inr (.inr (.inr (.inr (fun i => (a.2[i]?).map (gad G))))))
def wl (G : GX) (sh : Nat → Shp) (N : Nat) (w : Mem) : va_W := (List.range N).map (fun k => (gad G k, ce G (sh k) (w k)))
def upm (w : Mem) (k : Nat) (f : Nat → Int32) : Mem := fun j => if j = k then f else w j
def up2 (w : Mem) (k j : Nat) (v : Int32) : Mem := upm w k (upd (w k) j v)
/-- n numbers from the array k0 to the array k1 -/
def cpm (w : Mem) (k0 k1 n : Nat) : Mem := upm w k1 (va_cpy (w k0) (w k1) 0 0 n)
/-- a place lies in an array of n -/
def ib (i : Int32) (n : Nat) : Bool := decide (¬ (i < 0 ∨ n ≤ i.toNatClampNeg))
/-- a number is a truth value -/
def isb (v : Int32) : Bool := decide (v = 0 ∨ v = 1)
theorem ib_in {i : Int32} {n : Nat} (h : ib i n = true) : vp_in i n := by
  have h2 := of_decide_eq_true (p := ¬ (i < 0 ∨ n ≤ i.toNatClampNeg)) h
  exact h2
theorem wl_get {G : GX} {sh : Nat → Shp} {N k : Nat} {w : Mem} (h : k < N) : (wl G sh N w)[k]? = some (gad G k, ce G (sh k) (w k)) := by
  simp [wl, h]
theorem wl_set {G : GX} {sh : Nat → Shp} {N k : Nat} {w : Mem} (f : Nat → Int32) : (wl G sh N w).set k (gad G k, ce G (sh k) f) = wl G sh N (upm w k f) := by
  apply List.ext_getElem?
  intro i
  rw [List.getElem?_set]
  by_cases hk : k = i
  · subst hk
    by_cases hN : k < N
    · simp [wl, hN, upm]
    · simp [wl, hN]
  · have hk' : ¬ i = k := fun q => hk q.symm
    by_cases hN : i < N
    · simp [wl, hN, upm, hk, hk']
    · simp [wl, hN, hk]
theorem fvs_get {ad : Nat → Nat} {ks : List (Option Nat)} {f : Nat → Int32} {j : Nat} {o : Option Nat} (h : ks[j]? = some o) : (fvs ad ks f)[j]? = some (fv1 ad f j o) := by
  simp [fvs, h]
theorem fvs_set {ad : Nat → Nat} {ks : List (Option Nat)} {f : Nat → Int32} {j : Nat} {v : Int32} (h : ks[j]? = some none) : (fvs ad ks f).set j (.int v) = fvs ad ks (upd f j v) := by
  apply List.ext_getElem?
  intro i
  rw [List.getElem?_set]
  by_cases hk : j = i
  · subst hk
    have hl : j < ks.length := (List.getElem?_eq_some_iff.mp h).1
    have e : ks[j] = none := by
      have := (List.getElem?_eq_some_iff.mp h).2
      exact this
    simp [fvs, hl, h, e, fv1, upd]
  · have hk' : ¬ i = j := fun q => hk q.symm
    rw [if_neg hk]
    simp only [fvs, List.getElem?_mapIdx]
    cases hi : ks[i]? with
    | none => rfl
    | some o => cases o <;> simp [fv1, upd, hk']
abbrev MX : Type := Program × Launch × Env × Room × State × MethodId × Array Value × List Frame × Method × Code
abbrev mP (M : MX) : Program := M.1
abbrev mL (M : MX) : Launch := M.2.1
abbrev mE (M : MX) : Env := M.2.2.1
abbrev mR (M : MX) : Room := M.2.2.2.1
abbrev mS (M : MX) : State := M.2.2.2.2.1
abbrev mM (M : MX) : MethodId := M.2.2.2.2.2.1
abbrev mA (M : MX) : Array Value := M.2.2.2.2.2.2.1
abbrev mB (M : MX) : List Frame := M.2.2.2.2.2.2.2.1
abbrev mMe (M : MX) : Method := M.2.2.2.2.2.2.2.2.1
abbrev mC (M : MX) : Code := M.2.2.2.2.2.2.2.2.2
def AX (G : GX) (N : Nat) : Nat → Prop := fun q => ∃ k, k < N ∧ q = gad G k
abbrev WW (M : MX) (H : Heap) (locs : List Loc) (Z : State → Prop) (g : JFrame) : Prop := W (mP M) (mL M) (mE M) (mR M) (mS M) (mM M) (mA M) (mB M) (mMe M) (mC M) H locs 0 0 Z g
def BW (M : MX) (G : GX) (sh : Nat → Shp) (N nL : Nat) (Z : State → Prop) (pc : Nat) (L : List (Nat × Value)) (S : List Value) (w : Mem) : Prop :=
  ∀ (H : Heap) (locs : List Loc) (ls : Array Slot), va_P G.1 vwCl (wl G sh N w) H → va_S (AX G N) (mS M).heap H locs → lv_has ls nL L → WW M H locs Z (F0 (mM M) pc ls S)
abbrev EX : Type := State → Heap → Prop
def Eok (A : Nat → Prop) (E : EX) : Prop := (∀ (u U : State) (H : Heap), u.WarmedH U.vm → E u H → E U H) ∧ (∀ (U : State) (H H1 : Heap), (∀ a : Nat, a < H.size → ¬ A a → H1[a]? = H[a]?) → E U H → E U H1) ∧ ∀ (u U : State) (H : Heap), u.vm = U.vm → E u H → E U H
def BC (M : MX) (G : GX) (sh : Nat → Shp) (N : Nat) (E : EX) (own : String) (cc : ByteArray) (nL : Nat) (ret : Option FieldType) (rm : Room) : Prop :=
  (mP M).tables.exec = Jvm.exec ∧ (mC M).code = cc ∧ (mC M).maxLocals = nL ∧ (mS M).vm.findClass own = some (mM M).cls ∧ (∀ q ∈ wsL_law, q.before (mA M) (mS M) = true) ∧ (mMe M).sig.returnType = ret ∧ (mMe M).locks = false ∧ va_K G.1 vwCl (tysG G) (mS M) ∧ (∀ i j, i < N → j < N → gad G i = gad G j → i = j) ∧ E (mS M) (mS M).heap ∧ Eok (AX G N) E ∧ mR M = rm
def PX (G : GX) (sh : Nat → Shp) (N : Nat) (E : EX) (w : Mem) (U : State) : Prop := va_P G.1 vwCl (wl G sh N w) U.heap ∧ va_K G.1 vwCl (tysG G) U ∧ (∀ i j, i < N → j < N → gad G i = gad G j → i = j) ∧ E U U.heap
def QX (G : GX) (sh : Nat → Shp) (N : Nat) (rv : Option Value) (w : Mem) : Array Value → State → Outcome → State → Prop := fun _ st oc t => oc = .returned rv ∧ va_P G.1 vwCl (wl G sh N w) t.heap ∧ va_F (AX G N) st t
def rvOf (ret : Option FieldType) (r : Int32) : Option Value := match ret with
  | none => none
  | some _ => some (.int r)
def ZR (M : MX) (G : GX) (sh : Nat → Shp) (N : Nat) (ret : Option FieldType) (z : Int32 × Mem) : State → Prop := MQ (mB M) (QX G sh N (rvOf ret z.1) z.2) (mA M) (mS M) 0 0 (AX G N)
def MC (l : Launch) (G : GX) (sh : Nat → Shp) (N : Nat) (E : EX) (y : MethodName) (cc : ByteArray) (nL : Nat) (ret : Option FieldType) (rm : Room) (av : List Value) (w : Mem) (z : Int32 × Mem) : Prop :=
  Met l y (Cond.code y cc nL ret :: wsL_law) rm (va_Pc av (PX G sh N E w)) (QX G sh N (rvOf ret z.1) z.2) 0 0 (AX G N)
theorem wl_D {G : GX} {sh : Nat → Shp} {N : Nat} {w : Mem} (hi : ∀ i j, i < N → j < N → gad G i = gad G j → i = j) : va_D (AX G N) (wl G sh N w) := by
  have key : ∀ (k : Nat) (q : Nat × va_E), (wl G sh N w)[k]? = some q → k < N ∧ q.1 = gad G k := by
    intro k q h
    have hl : k < N := by
      have := (List.getElem?_eq_some_iff.mp h).1
      simpa [wl] using this
    rw [wl_get hl] at h
    cases h
    exact ⟨hl, rfl⟩
  refine ⟨fun i j p q h1 h2 e => ?_, fun k q h => ?_⟩
  · obtain ⟨a1, a2⟩ := key i p h1
    obtain ⟨b1, b2⟩ := key j q h2
    exact hi i j a1 b1 (by rw [← a2, ← b2]; exact e)
  · obtain ⟨a1, a2⟩ := key k q h
    exact ⟨k, a1, a2⟩
/-- a method's contract out of its walk -/
theorem met_of {l : Launch} {G : GX} {sh : Nat → Shp} {N : Nat} {E : EX} {y : MethodName} {cc : ByteArray} {nL : Nat} {ret : Option FieldType} {rm : Room} {av : List Value} {w : Mem} {z : Int32 × Mem} {L : List (Nat × Value)}
    (hpl : Jvm.plainName y.cls = true) (hE : Eok (AX G N) E) (hL : lv_args 0 av = L) (hn : (lg_sl av).length ≤ nL)
    (body : ∀ M : MX, mL M = l → BC M G sh N E y.cls cc nL ret rm → BW M G sh N nL (ZR M G sh N ret z) 0 L [] w) : MC l G sh N E y cc nL ret rm av w z := by
  refine Met.ofW (cc := cc) (maxL := nL) (ret := ret) hpl rfl ?_
  intro p e s m args below meth c s₁ B hml hv
  obtain ⟨rfl, hP, hK, hi, hEs⟩ := hv
  have hts := atoms_spec (ws := Cond.code y cc nL ret :: wsL_law) B.pre
  have hl := lv_entry av (n := nL) hn
  rw [lg_entry_eq]
  rw [hL] at hl
  exact body (p, l, e, rm, s, m, av.toArray, below, meth, c) rfl ⟨B.exec, B.bytes, hml, findClass_of_methodNamed B.named, fun q hq => hts q (List.mem_cons_of_mem _ hq), B.returns, B.notSynchronized, hK, hi, hEs, hE, rfl⟩ s.heap [] _ hP va_S.rf hl
section THIN
variable {M : MX} {G : GX} {sh : Nat → Shp} {N : Nat} {E : EX} {own : String} {cc : ByteArray} {nL : Nat} {ret : Option FieldType} {rm : Room} {Z : State → Prop} {pc : Nat} {L L' : List (Nat × Value)} {S : List Value} {w : Mem} {z : Int32 × Mem}
theorem bw_iret {v : Int32} (C : BC M G sh N E own cc nL (some .int) rm) (hdg : decode cc pc = .ok (.ireturn, 1)) (h : some (v, w) = some z) : BW M G sh N nL (ZR M G sh N (some .int) z) pc L [.int v] w := by
  intro H locs ls hP hS hl
  cases h
  exact W.iret C.1 C.2.1 C.2.2.2.2.2.1 (fun t ht hW => ⟨rfl, by rw [ht]; exact hP, hS.F ht⟩) hS.2.2 hdg C.2.2.2.2.2.2.1
theorem bw_zret {v : Int32} (C : BC M G sh N E own cc nL (some .boolean) rm) (hdg : decode cc pc = .ok (.ireturn, 1)) (h : (if isb v = true then some (v, w) else none) = some z) : BW M G sh N nL (ZR M G sh N (some .boolean) z) pc L [.int v] w := by
  intro H locs ls hP hS hl
  by_cases hb : isb v = true
  · rw [if_pos hb] at h
    cases h
    have hn : narrow .boolean (.int v) = .int v := by
      rcases of_decide_eq_true hb with q | q <;> (subst q; decide)
    exact W.zret C.1 C.2.1 C.2.2.2.2.2.1 hn (fun t ht hW => ⟨rfl, by rw [ht]; exact hP, hS.F ht⟩) hS.2.2 hdg C.2.2.2.2.2.2.1
  · rw [if_neg hb] at h
    cases h
theorem bw_vret {v : Int32} (C : BC M G sh N E own cc nL none rm) (hdg : decode cc pc = .ok (.return_, 1)) (h : some (v, w) = some z) : BW M G sh N nL (ZR M G sh N none z) pc L [] w := by
  intro H locs ls hP hS hl
  cases h
  exact W.vret C.1 C.2.1 C.2.2.2.2.2.1 (fun t ht hW => ⟨rfl, by rw [ht]; exact hP, hS.F ht⟩) hS.2.2 hdg C.2.2.2.2.2.2.1
theorem bw_zretc {v : Int32} (C : BC M G sh N E own cc nL (some .boolean) rm) (hdg : decode cc pc = .ok (.ireturn, 1)) (hv : isb v = true) (h : some (v, w) = some z) : BW M G sh N nL (ZR M G sh N (some .boolean) z) pc L [.int v] w := bw_zret C hdg (by rw [if_pos hv]; exact h)
theorem bw_sub (ks : List Nat) (hl : lv_pick L ks = L') (k : BW M G sh N nL Z pc L' S w) : BW M G sh N nL Z pc L S w := fun H locs ls hP hS hl0 => k H locs ls hP hS (lv_sub hl0 ks hl)
theorem sw_out {x : Int32} {lo hi : Int} (h : ∀ q : Int, lo ≤ q → q ≤ hi → ¬ x.toInt = q) : x.toInt < lo ∨ hi < x.toInt := by
  by_cases a : x.toInt < lo
  · exact Or.inl a
  · by_cases b : hi < x.toInt
    · exact Or.inr b
    · exact absurd rfl (h x.toInt (by omega) (by omega))
theorem sw_eq {x v : Int32} {q : Int} (h1 : x.toInt = q) (h2 : v.toInt = q) : x = v := Int32.toInt_inj.mp (h1.trans h2.symm)
theorem bw_iconst (C : BC M G sh N E own cc nL ret rm) {n : Int} {v : Int32} (hdg : decode cc pc = .ok (.iconst n, 1)) (hv : Int32.ofInt n = v) (k : BW M G sh N nL Z (pc + 1) L (.int v :: S) w) : BW M G sh N nL Z pc L S w :=
  fun H locs ls hP hS hl => lv_iconst C.1 C.2.1 hdg hv (k H locs ls hP hS hl)
theorem bw_bipush (C : BC M G sh N E own cc nL ret rm) {n : Int} {v : Int32} (hdg : decode cc pc = .ok (.bipush n, 2)) (hv : (Int8.ofInt n).toInt32 = v) (k : BW M G sh N nL Z (pc + 2) L (.int v :: S) w) : BW M G sh N nL Z pc L S w :=
  fun H locs ls hP hS hl => lv_bipush C.1 C.2.1 hdg hv (k H locs ls hP hS hl)
theorem bw_sipush (C : BC M G sh N E own cc nL ret rm) {n : Int} {v : Int32} (hdg : decode cc pc = .ok (.sipush n, 3)) (hv : (Int16.ofInt n).toInt32 = v) (k : BW M G sh N nL Z (pc + 3) L (.int v :: S) w) : BW M G sh N nL Z pc L S w :=
  fun H locs ls hP hS hl => lv_sipush C.1 C.2.1 hdg hv (k H locs ls hP hS hl)
theorem bw_lconst (C : BC M G sh N E own cc nL ret rm) {n : Fin 2} {v : Int64} (hdg : decode cc pc = .ok (.lconst n, 1)) (hv : Int64.ofNat (n : Nat) = v) (k : BW M G sh N nL Z (pc + 1) L (.long v :: S) w) : BW M G sh N nL Z pc L S w :=
  fun H locs ls hP hS hl => lv_lconst C.1 C.2.1 hdg hv (k H locs ls hP hS hl)
theorem bw_ldc (C : BC M G sh N E own cc nL ret rm) {index : Nat} {v : Int32} (hdg : decode cc pc = .ok (.ldc index, 2)) (hc : Cond.constant own index v ∈ wsL_law) (k : BW M G sh N nL Z (pc + 2) L (.int v :: S) w) : BW M G sh N nL Z pc L S w :=
  fun H locs ls hP hS hl => lv_ldc C.1 C.2.1 C.2.2.2.1 (C.2.2.2.2.1 _ hc) hdg (k H locs ls hP hS hl)
theorem bw_ldcw (C : BC M G sh N E own cc nL ret rm) {index : Nat} {v : Int32} (hdg : decode cc pc = .ok (.ldc_w index, 3)) (hc : Cond.constant own index v ∈ wsL_law) (k : BW M G sh N nL Z (pc + 3) L (.int v :: S) w) : BW M G sh N nL Z pc L S w :=
  fun H locs ls hP hS hl => lv_ldcw C.1 C.2.1 C.2.2.2.1 (C.2.2.2.2.1 _ hc) hdg (k H locs ls hP hS hl)
theorem bw_ldc2 (C : BC M G sh N E own cc nL ret rm) {index : Nat} {v : Int64} (hdg : decode cc pc = .ok (.ldc2_w index, 3)) (hc : Cond.constantLong own index v ∈ wsL_law) (k : BW M G sh N nL Z (pc + 3) L (.long v :: S) w) : BW M G sh N nL Z pc L S w :=
  fun H locs ls hP hS hl => lv_ldc2 C.1 C.2.1 C.2.2.2.1 (C.2.2.2.2.1 _ hc) hdg (k H locs ls hP hS hl)
theorem bw_iload_n (C : BC M G sh N E own cc nL ret rm) {k : Fin 4} {i : Nat} {x : Int32} (q : Nat) (hdg : decode cc pc = .ok (.iload_n k, 1)) (hi : (k : Nat) = i) (hq : L[q]? = some (i, .int x)) (kk : BW M G sh N nL Z (pc + 1) L (.int x :: S) w) : BW M G sh N nL Z pc L S w :=
  fun H locs ls hP hS hl => lv_iload_n C.1 C.2.1 hdg hi (lv_at hl q hq) (kk H locs ls hP hS hl)
theorem bw_iload (C : BC M G sh N E own cc nL ret rm) {i : Nat} {x : Int32} (q : Nat) (hdg : decode cc pc = .ok (.iload i, 2)) (hq : L[q]? = some (i, .int x)) (kk : BW M G sh N nL Z (pc + 2) L (.int x :: S) w) : BW M G sh N nL Z pc L S w :=
  fun H locs ls hP hS hl => lv_iload C.1 C.2.1 hdg (lv_at hl q hq) (kk H locs ls hP hS hl)
theorem bw_lload_n (C : BC M G sh N E own cc nL ret rm) {k : Fin 4} {i : Nat} {x : Int64} (q : Nat) (hdg : decode cc pc = .ok (.lload_n k, 1)) (hi : (k : Nat) = i) (hq : L[q]? = some (i, .long x)) (kk : BW M G sh N nL Z (pc + 1) L (.long x :: S) w) : BW M G sh N nL Z pc L S w :=
  fun H locs ls hP hS hl => lv_lload_n C.1 C.2.1 hdg hi (lv_at hl q hq) (kk H locs ls hP hS hl)
theorem bw_lload (C : BC M G sh N E own cc nL ret rm) {i : Nat} {x : Int64} (q : Nat) (hdg : decode cc pc = .ok (.lload i, 2)) (hq : L[q]? = some (i, .long x)) (kk : BW M G sh N nL Z (pc + 2) L (.long x :: S) w) : BW M G sh N nL Z pc L S w :=
  fun H locs ls hP hS hl => lv_lload C.1 C.2.1 hdg (lv_at hl q hq) (kk H locs ls hP hS hl)
theorem bw_aload_n (C : BC M G sh N E own cc nL ret rm) {k : Fin 4} {i : Nat} {x : Nat} (q : Nat) (hdg : decode cc pc = .ok (.aload_n k, 1)) (hi : (k : Nat) = i) (hq : L[q]? = some (i, .ref x)) (kk : BW M G sh N nL Z (pc + 1) L (.ref x :: S) w) : BW M G sh N nL Z pc L S w :=
  fun H locs ls hP hS hl => lv_aload_n C.1 C.2.1 hdg hi (lv_at hl q hq) (kk H locs ls hP hS hl)
theorem bw_aload (C : BC M G sh N E own cc nL ret rm) {i : Nat} {x : Nat} (q : Nat) (hdg : decode cc pc = .ok (.aload i, 2)) (hq : L[q]? = some (i, .ref x)) (kk : BW M G sh N nL Z (pc + 2) L (.ref x :: S) w) : BW M G sh N nL Z pc L S w :=
  fun H locs ls hP hS hl => lv_aload C.1 C.2.1 hdg (lv_at hl q hq) (kk H locs ls hP hS hl)
theorem bw_istore_n (C : BC M G sh N E own cc nL ret rm) {k : Fin 4} {i : Nat} {x : Int32} (L' : List (Nat × Value)) (hdg : decode cc pc = .ok (.istore_n k, 1)) (hi : (k : Nat) = i) (hn : i < nL) (hl' : (i, Value.int x) :: L.filter (fun q => !(q.1 == i) && !(q.1 + 1 == i && q.2.category == 2)) = L') (kk : BW M G sh N nL Z (pc + 1) L' S w) : BW M G sh N nL Z pc L (.int x :: S) w :=
  fun H locs ls hP hS hl => lv_istore_n C.1 C.2.1 hdg hi hl hn hl' (fun ls' hl2 => kk H locs ls' hP hS hl2)
theorem bw_istore (C : BC M G sh N E own cc nL ret rm) {i : Nat} {x : Int32} (L' : List (Nat × Value)) (hdg : decode cc pc = .ok (.istore i, 2)) (hn : i < nL) (hl' : (i, Value.int x) :: L.filter (fun q => !(q.1 == i) && !(q.1 + 1 == i && q.2.category == 2)) = L') (kk : BW M G sh N nL Z (pc + 2) L' S w) : BW M G sh N nL Z pc L (.int x :: S) w :=
  fun H locs ls hP hS hl => lv_istore C.1 C.2.1 hdg hl hn hl' (fun ls' hl2 => kk H locs ls' hP hS hl2)
theorem bw_astore_n (C : BC M G sh N E own cc nL ret rm) {k : Fin 4} {i : Nat} {x : Nat} (L' : List (Nat × Value)) (hdg : decode cc pc = .ok (.astore_n k, 1)) (hi : (k : Nat) = i) (hn : i < nL) (hl' : (i, Value.ref x) :: L.filter (fun q => !(q.1 == i) && !(q.1 + 1 == i && q.2.category == 2)) = L') (kk : BW M G sh N nL Z (pc + 1) L' S w) : BW M G sh N nL Z pc L (.ref x :: S) w :=
  fun H locs ls hP hS hl => lv_astore_n C.1 C.2.1 hdg hi hl hn hl' (fun ls' hl2 => kk H locs ls' hP hS hl2)
theorem bw_astore (C : BC M G sh N E own cc nL ret rm) {i : Nat} {x : Nat} (L' : List (Nat × Value)) (hdg : decode cc pc = .ok (.astore i, 2)) (hn : i < nL) (hl' : (i, Value.ref x) :: L.filter (fun q => !(q.1 == i) && !(q.1 + 1 == i && q.2.category == 2)) = L') (kk : BW M G sh N nL Z (pc + 2) L' S w) : BW M G sh N nL Z pc L (.ref x :: S) w :=
  fun H locs ls hP hS hl => lv_astore C.1 C.2.1 hdg hl hn hl' (fun ls' hl2 => kk H locs ls' hP hS hl2)
theorem bw_iinc (C : BC M G sh N E own cc nL ret rm) {i : Nat} {n : Int} {x v : Int32} (L' : List (Nat × Value)) (q : Nat) (hdg : decode cc pc = .ok (.iinc i n, 3)) (hq : L[q]? = some (i, .int x)) (hv : x + Int32.ofInt n = v) (hn : i < nL) (hl' : (i, Value.int v) :: L.filter (fun q => !(q.1 == i) && !(q.1 + 1 == i && q.2.category == 2)) = L') (kk : BW M G sh N nL Z (pc + 3) L' S w) : BW M G sh N nL Z pc L S w :=
  fun H locs ls hP hS hl => lv_iinc C.1 C.2.1 hdg hl hq hv hn hl' (fun ls' hl2 => kk H locs ls' hP hS hl2)
theorem bw_iadd (C : BC M G sh N E own cc nL ret rm) {x y : Int32} (hdg : decode cc pc = .ok (.iadd, 1)) (k : BW M G sh N nL Z (pc + 1) L (.int (x + y) :: S) w) : BW M G sh N nL Z pc L (.int y :: .int x :: S) w :=
  fun H locs ls hP hS hl => lv_iadd C.1 C.2.1 hdg (k H locs ls hP hS hl)
theorem bw_isub (C : BC M G sh N E own cc nL ret rm) {x y : Int32} (hdg : decode cc pc = .ok (.isub, 1)) (k : BW M G sh N nL Z (pc + 1) L (.int (x - y) :: S) w) : BW M G sh N nL Z pc L (.int y :: .int x :: S) w :=
  fun H locs ls hP hS hl => lv_isub C.1 C.2.1 hdg (k H locs ls hP hS hl)
theorem bw_imul (C : BC M G sh N E own cc nL ret rm) {x y : Int32} (hdg : decode cc pc = .ok (.imul, 1)) (k : BW M G sh N nL Z (pc + 1) L (.int (x * y) :: S) w) : BW M G sh N nL Z pc L (.int y :: .int x :: S) w :=
  fun H locs ls hP hS hl => lv_imul C.1 C.2.1 hdg (k H locs ls hP hS hl)
theorem bw_iand (C : BC M G sh N E own cc nL ret rm) {x y : Int32} (hdg : decode cc pc = .ok (.iand, 1)) (k : BW M G sh N nL Z (pc + 1) L (.int (x &&& y) :: S) w) : BW M G sh N nL Z pc L (.int y :: .int x :: S) w :=
  fun H locs ls hP hS hl => lv_iand C.1 C.2.1 hdg (k H locs ls hP hS hl)
theorem bw_ior (C : BC M G sh N E own cc nL ret rm) {x y : Int32} (hdg : decode cc pc = .ok (.ior, 1)) (k : BW M G sh N nL Z (pc + 1) L (.int (x ||| y) :: S) w) : BW M G sh N nL Z pc L (.int y :: .int x :: S) w :=
  fun H locs ls hP hS hl => lv_ior C.1 C.2.1 hdg (k H locs ls hP hS hl)
theorem bw_ixor (C : BC M G sh N E own cc nL ret rm) {x y : Int32} (hdg : decode cc pc = .ok (.ixor, 1)) (k : BW M G sh N nL Z (pc + 1) L (.int (x ^^^ y) :: S) w) : BW M G sh N nL Z pc L (.int y :: .int x :: S) w :=
  fun H locs ls hP hS hl => lv_ixor C.1 C.2.1 hdg (k H locs ls hP hS hl)
theorem bw_ishl (C : BC M G sh N E own cc nL ret rm) {x y : Int32} (hdg : decode cc pc = .ok (.ishl, 1)) (k : BW M G sh N nL Z (pc + 1) L (.int (x <<< (y &&& 31)) :: S) w) : BW M G sh N nL Z pc L (.int y :: .int x :: S) w :=
  fun H locs ls hP hS hl => lv_ishl C.1 C.2.1 hdg (k H locs ls hP hS hl)
theorem bw_ishr (C : BC M G sh N E own cc nL ret rm) {x y : Int32} (hdg : decode cc pc = .ok (.ishr, 1)) (k : BW M G sh N nL Z (pc + 1) L (.int (x >>> (y &&& 31)) :: S) w) : BW M G sh N nL Z pc L (.int y :: .int x :: S) w :=
  fun H locs ls hP hS hl => lv_ishr C.1 C.2.1 hdg (k H locs ls hP hS hl)
theorem bw_ladd (C : BC M G sh N E own cc nL ret rm) {x y : Int64} (hdg : decode cc pc = .ok (.ladd, 1)) (k : BW M G sh N nL Z (pc + 1) L (.long (x + y) :: S) w) : BW M G sh N nL Z pc L (.long y :: .long x :: S) w :=
  fun H locs ls hP hS hl => lv_ladd C.1 C.2.1 hdg (k H locs ls hP hS hl)
theorem bw_land (C : BC M G sh N E own cc nL ret rm) {x y : Int64} (hdg : decode cc pc = .ok (.land, 1)) (k : BW M G sh N nL Z (pc + 1) L (.long (x &&& y) :: S) w) : BW M G sh N nL Z pc L (.long y :: .long x :: S) w :=
  fun H locs ls hP hS hl => lv_land C.1 C.2.1 hdg (k H locs ls hP hS hl)
theorem bw_lor (C : BC M G sh N E own cc nL ret rm) {x y : Int64} (hdg : decode cc pc = .ok (.lor, 1)) (k : BW M G sh N nL Z (pc + 1) L (.long (x ||| y) :: S) w) : BW M G sh N nL Z pc L (.long y :: .long x :: S) w :=
  fun H locs ls hP hS hl => lv_lor C.1 C.2.1 hdg (k H locs ls hP hS hl)
theorem bw_iushr (C : BC M G sh N E own cc nL ret rm) {x y v : Int32} (hdg : decode cc pc = .ok (.iushr, 1)) (hv : (x.toUInt32 >>> (y.toUInt32 &&& Int32.toUInt32 31)).toInt32 = v) (k : BW M G sh N nL Z (pc + 1) L (.int v :: S) w) : BW M G sh N nL Z pc L (.int y :: .int x :: S) w :=
  fun H locs ls hP hS hl => lv_iushr C.1 C.2.1 hdg hv (k H locs ls hP hS hl)
theorem bw_lshl (C : BC M G sh N E own cc nL ret rm) {x v : Int64} {y : Int32} (hdg : decode cc pc = .ok (.lshl, 1)) (hv : x <<< (y.toInt64 &&& 63) = v) (k : BW M G sh N nL Z (pc + 1) L (.long v :: S) w) : BW M G sh N nL Z pc L (.int y :: .long x :: S) w :=
  fun H locs ls hP hS hl => lv_lshl C.1 C.2.1 hdg hv (k H locs ls hP hS hl)
theorem bw_lshr (C : BC M G sh N E own cc nL ret rm) {x v : Int64} {y : Int32} (hdg : decode cc pc = .ok (.lshr, 1)) (hv : x >>> (y.toInt64 &&& 63) = v) (k : BW M G sh N nL Z (pc + 1) L (.long v :: S) w) : BW M G sh N nL Z pc L (.int y :: .long x :: S) w :=
  fun H locs ls hP hS hl => lv_lshr C.1 C.2.1 hdg hv (k H locs ls hP hS hl)
theorem bw_i2l (C : BC M G sh N E own cc nL ret rm) {x : Int32} {v : Int64} (hdg : decode cc pc = .ok (.i2l, 1)) (hv : x.toInt64 = v) (k : BW M G sh N nL Z (pc + 1) L (.long v :: S) w) : BW M G sh N nL Z pc L (.int x :: S) w :=
  fun H locs ls hP hS hl => lv_i2l C.1 C.2.1 hdg hv (k H locs ls hP hS hl)
theorem bw_l2i (C : BC M G sh N E own cc nL ret rm) {x : Int64} {v : Int32} (hdg : decode cc pc = .ok (.l2i, 1)) (hv : x.toInt32 = v) (k : BW M G sh N nL Z (pc + 1) L (.int v :: S) w) : BW M G sh N nL Z pc L (.long x :: S) w :=
  fun H locs ls hP hS hl => lv_l2i C.1 C.2.1 hdg hv (k H locs ls hP hS hl)
theorem bw_i2b (C : BC M G sh N E own cc nL ret rm) {x v : Int32} (hdg : decode cc pc = .ok (.i2b, 1)) (hv : x.toInt8.toInt32 = v) (k : BW M G sh N nL Z (pc + 1) L (.int v :: S) w) : BW M G sh N nL Z pc L (.int x :: S) w :=
  fun H locs ls hP hS hl => lv_i2b C.1 C.2.1 hdg hv (k H locs ls hP hS hl)
theorem bw_i2s (C : BC M G sh N E own cc nL ret rm) {x v : Int32} (hdg : decode cc pc = .ok (.i2s, 1)) (hv : x.toInt16.toInt32 = v) (k : BW M G sh N nL Z (pc + 1) L (.int v :: S) w) : BW M G sh N nL Z pc L (.int x :: S) w :=
  fun H locs ls hP hS hl => lv_i2s C.1 C.2.1 hdg hv (k H locs ls hP hS hl)
theorem bw_i2c (C : BC M G sh N E own cc nL ret rm) {x v : Int32} (hdg : decode cc pc = .ok (.i2c, 1)) (hv : (x.toUInt32 % 65536).toInt32 = v) (k : BW M G sh N nL Z (pc + 1) L (.int v :: S) w) : BW M G sh N nL Z pc L (.int x :: S) w :=
  fun H locs ls hP hS hl => lv_i2c C.1 C.2.1 hdg hv (k H locs ls hP hS hl)
theorem bw_lcmp (C : BC M G sh N E own cc nL ret rm) {x y : Int64} (hdg : decode cc pc = .ok (.lcmp, 1)) (k : BW M G sh N nL Z (pc + 1) L (.int (lg_cmp x y) :: S) w) : BW M G sh N nL Z pc L (.long y :: .long x :: S) w :=
  fun H locs ls hP hS hl => W.lcmp C.1 C.2.1 hdg (k H locs ls hP hS hl)
theorem bw_dup (C : BC M G sh N E own cc nL ret rm) {va : Value} (hdg : decode cc pc = .ok (.dup, 1)) (hva : va.category = 1) (k : BW M G sh N nL Z (pc + 1) L (va :: va :: S) w) : BW M G sh N nL Z pc L (va :: S) w :=
  fun H locs ls hP hS hl => lv_dup C.1 C.2.1 hdg hva (k H locs ls hP hS hl)
theorem bw_pop (C : BC M G sh N E own cc nL ret rm) {va : Value} (hdg : decode cc pc = .ok (.pop, 1)) (hva : va.category = 1) (k : BW M G sh N nL Z (pc + 1) L S w) : BW M G sh N nL Z pc L (va :: S) w :=
  fun H locs ls hP hS hl => lv_pop C.1 C.2.1 hdg hva (k H locs ls hP hS hl)
theorem bw_dup2 (C : BC M G sh N E own cc nL ret rm) {va vb : Value} (hdg : decode cc pc = .ok (.dup2, 1)) (hva : va.category = 1) (hvb : vb.category = 1) (k : BW M G sh N nL Z (pc + 1) L (va :: vb :: va :: vb :: S) w) : BW M G sh N nL Z pc L (va :: vb :: S) w :=
  fun H locs ls hP hS hl => lv_dup2_11 C.1 C.2.1 hdg hva hvb (k H locs ls hP hS hl)
theorem bw_idiv (C : BC M G sh N E own cc nL ret rm) {x y : Int32} {K : Option (Int32 × Mem)} (hdg : decode cc pc = .ok (.idiv, 1)) (h : (if y = 0 then none else K) = some z) (kk : K = some z → BW M G sh N nL Z (pc + 1) L (.int (x / y) :: S) w) : BW M G sh N nL Z pc L (.int y :: .int x :: S) w := by
  by_cases hy : y = 0
  · rw [if_pos hy] at h
    cases h
  · rw [if_neg hy] at h
    exact fun H locs ls hP hS hl => lv_idiv C.1 C.2.1 hdg hy (kk h H locs ls hP hS hl)
theorem bw_irem (C : BC M G sh N E own cc nL ret rm) {x y : Int32} {K : Option (Int32 × Mem)} (hdg : decode cc pc = .ok (.irem, 1)) (h : (if y = 0 then none else K) = some z) (kk : K = some z → BW M G sh N nL Z (pc + 1) L (.int (x - x / y * y) :: S) w) : BW M G sh N nL Z pc L (.int y :: .int x :: S) w := by
  by_cases hy : y = 0
  · rw [if_pos hy] at h
    cases h
  · rw [if_neg hy] at h
    exact fun H locs ls hP hS hl => lv_irem C.1 C.2.1 hdg hy (kk h H locs ls hP hS hl)
theorem bw_icmp_eq (C : BC M G sh N E own cc nL ret rm) {x y : Int32} {off : Int} {tgt : Nat} {A B : Option (Int32 × Mem)} (hdg : decode cc pc = .ok (.if_icmp .eq off, 3)) (ht : (pc : Int) + off = (tgt : Int)) (h : (if x = y then A else B) = some z) (kt : A = some z → BW M G sh N nL Z tgt L S w) (kf : B = some z → BW M G sh N nL Z (pc + 3) L S w) : BW M G sh N nL Z pc L (.int y :: .int x :: S) w :=
  fun H locs ls hP hS hl => lv_icmp_eq C.1 C.2.1 hdg ht (fun hc => kt ((if_pos hc).symm.trans h) H locs ls hP hS hl) (fun hc => kf ((if_neg hc).symm.trans h) H locs ls hP hS hl)
theorem bw_if_eq (C : BC M G sh N E own cc nL ret rm) {x : Int32} {off : Int} {tgt : Nat} {A B : Option (Int32 × Mem)} (hdg : decode cc pc = .ok (.ifCond .eq off, 3)) (ht : (pc : Int) + off = (tgt : Int)) (h : (if x = 0 then A else B) = some z) (kt : A = some z → BW M G sh N nL Z tgt L S w) (kf : B = some z → BW M G sh N nL Z (pc + 3) L S w) : BW M G sh N nL Z pc L (.int x :: S) w :=
  fun H locs ls hP hS hl => lv_if_eq C.1 C.2.1 hdg ht (fun hc => kt ((if_pos hc).symm.trans h) H locs ls hP hS hl) (fun hc => kf ((if_neg hc).symm.trans h) H locs ls hP hS hl)
theorem bw_icmp_ne (C : BC M G sh N E own cc nL ret rm) {x y : Int32} {off : Int} {tgt : Nat} {A B : Option (Int32 × Mem)} (hdg : decode cc pc = .ok (.if_icmp .ne off, 3)) (ht : (pc : Int) + off = (tgt : Int)) (h : (if ¬ x = y then A else B) = some z) (kt : A = some z → BW M G sh N nL Z tgt L S w) (kf : B = some z → BW M G sh N nL Z (pc + 3) L S w) : BW M G sh N nL Z pc L (.int y :: .int x :: S) w :=
  fun H locs ls hP hS hl => lv_icmp_ne C.1 C.2.1 hdg ht (fun hc => kt ((if_pos hc).symm.trans h) H locs ls hP hS hl) (fun hc => kf ((if_neg (fun q => q hc)).symm.trans h) H locs ls hP hS hl)
theorem bw_if_ne (C : BC M G sh N E own cc nL ret rm) {x : Int32} {off : Int} {tgt : Nat} {A B : Option (Int32 × Mem)} (hdg : decode cc pc = .ok (.ifCond .ne off, 3)) (ht : (pc : Int) + off = (tgt : Int)) (h : (if ¬ x = 0 then A else B) = some z) (kt : A = some z → BW M G sh N nL Z tgt L S w) (kf : B = some z → BW M G sh N nL Z (pc + 3) L S w) : BW M G sh N nL Z pc L (.int x :: S) w :=
  fun H locs ls hP hS hl => lv_if_ne C.1 C.2.1 hdg ht (fun hc => kt ((if_pos hc).symm.trans h) H locs ls hP hS hl) (fun hc => kf ((if_neg (fun q => q hc)).symm.trans h) H locs ls hP hS hl)
theorem bw_icmp_lt (C : BC M G sh N E own cc nL ret rm) {x y : Int32} {off : Int} {tgt : Nat} {A B : Option (Int32 × Mem)} (hdg : decode cc pc = .ok (.if_icmp .lt off, 3)) (ht : (pc : Int) + off = (tgt : Int)) (h : (if x < y then A else B) = some z) (kt : A = some z → BW M G sh N nL Z tgt L S w) (kf : B = some z → BW M G sh N nL Z (pc + 3) L S w) : BW M G sh N nL Z pc L (.int y :: .int x :: S) w :=
  fun H locs ls hP hS hl => lv_icmp_lt C.1 C.2.1 hdg ht (fun hc => kt ((if_pos hc).symm.trans h) H locs ls hP hS hl) (fun hc => kf ((if_neg hc).symm.trans h) H locs ls hP hS hl)
theorem bw_if_lt (C : BC M G sh N E own cc nL ret rm) {x : Int32} {off : Int} {tgt : Nat} {A B : Option (Int32 × Mem)} (hdg : decode cc pc = .ok (.ifCond .lt off, 3)) (ht : (pc : Int) + off = (tgt : Int)) (h : (if x < 0 then A else B) = some z) (kt : A = some z → BW M G sh N nL Z tgt L S w) (kf : B = some z → BW M G sh N nL Z (pc + 3) L S w) : BW M G sh N nL Z pc L (.int x :: S) w :=
  fun H locs ls hP hS hl => lv_if_lt C.1 C.2.1 hdg ht (fun hc => kt ((if_pos hc).symm.trans h) H locs ls hP hS hl) (fun hc => kf ((if_neg hc).symm.trans h) H locs ls hP hS hl)
theorem bw_icmp_ge (C : BC M G sh N E own cc nL ret rm) {x y : Int32} {off : Int} {tgt : Nat} {A B : Option (Int32 × Mem)} (hdg : decode cc pc = .ok (.if_icmp .ge off, 3)) (ht : (pc : Int) + off = (tgt : Int)) (h : (if y ≤ x then A else B) = some z) (kt : A = some z → BW M G sh N nL Z tgt L S w) (kf : B = some z → BW M G sh N nL Z (pc + 3) L S w) : BW M G sh N nL Z pc L (.int y :: .int x :: S) w :=
  fun H locs ls hP hS hl => lv_icmp_ge C.1 C.2.1 hdg ht (fun hc => kt ((if_pos hc).symm.trans h) H locs ls hP hS hl) (fun hc => kf ((if_neg hc).symm.trans h) H locs ls hP hS hl)
theorem bw_if_ge (C : BC M G sh N E own cc nL ret rm) {x : Int32} {off : Int} {tgt : Nat} {A B : Option (Int32 × Mem)} (hdg : decode cc pc = .ok (.ifCond .ge off, 3)) (ht : (pc : Int) + off = (tgt : Int)) (h : (if 0 ≤ x then A else B) = some z) (kt : A = some z → BW M G sh N nL Z tgt L S w) (kf : B = some z → BW M G sh N nL Z (pc + 3) L S w) : BW M G sh N nL Z pc L (.int x :: S) w :=
  fun H locs ls hP hS hl => lv_if_ge C.1 C.2.1 hdg ht (fun hc => kt ((if_pos hc).symm.trans h) H locs ls hP hS hl) (fun hc => kf ((if_neg hc).symm.trans h) H locs ls hP hS hl)
theorem bw_icmp_gt (C : BC M G sh N E own cc nL ret rm) {x y : Int32} {off : Int} {tgt : Nat} {A B : Option (Int32 × Mem)} (hdg : decode cc pc = .ok (.if_icmp .gt off, 3)) (ht : (pc : Int) + off = (tgt : Int)) (h : (if y < x then A else B) = some z) (kt : A = some z → BW M G sh N nL Z tgt L S w) (kf : B = some z → BW M G sh N nL Z (pc + 3) L S w) : BW M G sh N nL Z pc L (.int y :: .int x :: S) w :=
  fun H locs ls hP hS hl => lv_icmp_gt C.1 C.2.1 hdg ht (fun hc => kt ((if_pos hc).symm.trans h) H locs ls hP hS hl) (fun hc => kf ((if_neg hc).symm.trans h) H locs ls hP hS hl)
theorem bw_if_gt (C : BC M G sh N E own cc nL ret rm) {x : Int32} {off : Int} {tgt : Nat} {A B : Option (Int32 × Mem)} (hdg : decode cc pc = .ok (.ifCond .gt off, 3)) (ht : (pc : Int) + off = (tgt : Int)) (h : (if 0 < x then A else B) = some z) (kt : A = some z → BW M G sh N nL Z tgt L S w) (kf : B = some z → BW M G sh N nL Z (pc + 3) L S w) : BW M G sh N nL Z pc L (.int x :: S) w :=
  fun H locs ls hP hS hl => lv_if_gt C.1 C.2.1 hdg ht (fun hc => kt ((if_pos hc).symm.trans h) H locs ls hP hS hl) (fun hc => kf ((if_neg hc).symm.trans h) H locs ls hP hS hl)
theorem bw_icmp_le (C : BC M G sh N E own cc nL ret rm) {x y : Int32} {off : Int} {tgt : Nat} {A B : Option (Int32 × Mem)} (hdg : decode cc pc = .ok (.if_icmp .le off, 3)) (ht : (pc : Int) + off = (tgt : Int)) (h : (if x ≤ y then A else B) = some z) (kt : A = some z → BW M G sh N nL Z tgt L S w) (kf : B = some z → BW M G sh N nL Z (pc + 3) L S w) : BW M G sh N nL Z pc L (.int y :: .int x :: S) w :=
  fun H locs ls hP hS hl => lv_icmp_le C.1 C.2.1 hdg ht (fun hc => kt ((if_pos hc).symm.trans h) H locs ls hP hS hl) (fun hc => kf ((if_neg hc).symm.trans h) H locs ls hP hS hl)
theorem bw_if_le (C : BC M G sh N E own cc nL ret rm) {x : Int32} {off : Int} {tgt : Nat} {A B : Option (Int32 × Mem)} (hdg : decode cc pc = .ok (.ifCond .le off, 3)) (ht : (pc : Int) + off = (tgt : Int)) (h : (if x ≤ 0 then A else B) = some z) (kt : A = some z → BW M G sh N nL Z tgt L S w) (kf : B = some z → BW M G sh N nL Z (pc + 3) L S w) : BW M G sh N nL Z pc L (.int x :: S) w :=
  fun H locs ls hP hS hl => lv_if_le C.1 C.2.1 hdg ht (fun hc => kt ((if_pos hc).symm.trans h) H locs ls hP hS hl) (fun hc => kf ((if_neg hc).symm.trans h) H locs ls hP hS hl)
theorem bw_goto (C : BC M G sh N E own cc nL ret rm) {off : Int} {tgt : Nat} (hdg : decode cc pc = .ok (.goto off, 3)) (ht : (pc : Int) + off = (tgt : Int)) (k : BW M G sh N nL Z tgt L S w) : BW M G sh N nL Z pc L S w :=
  fun H locs ls hP hS hl => lv_goto C.1 C.2.1 hdg ht (k H locs ls hP hS hl)
theorem bw_case {c : Prop} [Decidable c] {A B : Option (Int32 × Mem)} (h : (if c then A else B) = some z) (kt : c → A = some z → BW M G sh N nL Z pc L S w) (kf : ¬ c → B = some z → BW M G sh N nL Z pc L S w) : BW M G sh N nL Z pc L S w := by
  by_cases hc : c
  · rw [if_pos hc] at h
    exact kt hc h
  · rw [if_neg hc] at h
    exact kf hc h
theorem bw_tsIn (C : BC M G sh N E own cc nL ret rm) {dflt lo hi : Int} {offs : Array Int} {len tgt : Nat} {x v : Int32} {off : Int} (hdg : decode cc pc = .ok (.tableswitch dflt lo hi offs, len)) (hx : x = v) (h1 : ¬ v.toInt < lo) (h2 : ¬ hi < v.toInt) (ho : offs[(v.toInt - lo).toNat]? = some off) (ht : (pc : Int) + off = (tgt : Int)) (k : BW M G sh N nL Z tgt L S w) : BW M G sh N nL Z pc L (.int x :: S) w :=
  fun H locs ls hP hS hl => by
    subst hx
    exact lv_tableIn C.1 C.2.1 hdg h1 h2 ho ht (k H locs ls hP hS hl)
theorem bw_tsOut (C : BC M G sh N E own cc nL ret rm) {dflt lo hi : Int} {offs : Array Int} {len tgt : Nat} {x : Int32} (hdg : decode cc pc = .ok (.tableswitch dflt lo hi offs, len)) (hx : x.toInt < lo ∨ hi < x.toInt) (ht : (pc : Int) + dflt = (tgt : Int)) (k : BW M G sh N nL Z tgt L S w) : BW M G sh N nL Z pc L (.int x :: S) w :=
  fun H locs ls hP hS hl => lv_tableOut C.1 C.2.1 hdg hx ht (k H locs ls hP hS hl)
theorem bw_lsw (C : BC M G sh N E own cc nL ret rm) {dflt : Int} {ps : Array (Int × Int)} {len tgt : Nat} {x : Int32} {off : Int} (hdg : decode cc pc = .ok (.lookupswitch dflt ps, len)) (hp : (ps.toList.zip (ps.toList.drop 1)).all (fun (a, next) => a.1 < next.1) = true) (ho : Op.lookupswitch.offset ps.toList dflt x.toInt = off) (ht : (pc : Int) + off = (tgt : Int)) (k : BW M G sh N nL Z tgt L S w) : BW M G sh N nL Z pc L (.int x :: S) w :=
  fun H locs ls hP hS hl => lv_lookup C.1 C.2.1 hdg hp ho ht (k H locs ls hP hS hl)
theorem bw_geti (C : BC M G sh N E own cc nL ret rm) {k j ci n : Nat} {ks : List (Option Nat)} {Cn : String} {T : u_T} {index : Nat} (hk : k < N) (hs : sh k = .inl (ci, ks)) (hc : vwCl[ci]? = some (Cn, T, n)) (hin : ∀ q ∈ u_ws Cn T n, q ∈ wsL_law) (hj : j < n) (hkd : ks[j]? = some none) (hlk : Cond.fieldLink own index (T j).1 (T j).2.1 (T j).2.2.1 ∈ wsL_law) (hdg : decode cc pc = .ok (.getfield index, 3)) (kk : BW M G sh N nL Z (pc + 3) L (.int (w k j) :: S) w) : BW M G sh N nL Z pc L (.ref (gad G k) :: S) w :=
  fun H locs ls hP hS hl => va_get C.1 C.2.1 C.2.2.2.2.1 hin C.2.2.2.1 C.2.2.2.2.2.2.2.1 hP k (by rw [wl_get hk, hs]; rfl) hc j hj (C.2.2.2.2.1 _ hlk) (fun _ h9 => h9) (v := .int (w k j)) (fvs_get hkd) hdg (kk H locs ls hP hS hl)
theorem bw_getr (C : BC M G sh N E own cc nL ret rm) {k j ci n : Nat} {ks : List (Option Nat)} {Cn : String} {T : u_T} {index : Nat} {t : Nat} (hk : k < N) (hs : sh k = .inl (ci, ks)) (hc : vwCl[ci]? = some (Cn, T, n)) (hin : ∀ q ∈ u_ws Cn T n, q ∈ wsL_law) (hj : j < n) (hkd : ks[j]? = some (some t)) (hlk : Cond.fieldLink own index (T j).1 (T j).2.1 (T j).2.2.1 ∈ wsL_law) (hdg : decode cc pc = .ok (.getfield index, 3)) (kk : BW M G sh N nL Z (pc + 3) L (.ref (gad G t) :: S) w) : BW M G sh N nL Z pc L (.ref (gad G k) :: S) w :=
  fun H locs ls hP hS hl => va_get C.1 C.2.1 C.2.2.2.2.1 hin C.2.2.2.1 C.2.2.2.2.2.2.2.1 hP k (by rw [wl_get hk, hs]; rfl) hc j hj (C.2.2.2.2.1 _ hlk) (fun _ h9 => h9) (v := .ref (gad G t)) (fvs_get hkd) hdg (kk H locs ls hP hS hl)
theorem bw_puti (C : BC M G sh N E own cc nL ret rm) {k j ci n : Nat} {ks : List (Option Nat)} {Cn : String} {T : u_T} {index : Nat} {v : Int32} {ty : FieldType} (hk : k < N) (hs : sh k = .inl (ci, ks)) (hc : vwCl[ci]? = some (Cn, T, n)) (hin : ∀ q ∈ u_ws Cn T n, q ∈ wsL_law) (hj : j < n) (ty0 : Nat → FieldType) (hty : ∀ k, k < n → parseFieldDescriptor (T k).2.2.1 = some (ty0 k)) (hnm : ∀ a, a < n → ∀ b, b < n → a ≠ b → (T a).2.1 ≠ (T b).2.1) (hkd : ks[j]? = some none) (hlk : Cond.fieldLink own index (T j).1 (T j).2.1 (T j).2.2.1 ∈ wsL_law) (hfin : (T j).2.2.2 = false) (hd : parseFieldDescriptor (T j).2.2.1 = some ty) (hn : narrow ty (.int v) = .int v) (hfit : fits ty (.int v) = true) (hdg : decode cc pc = .ok (.putfield index, 3)) (kk : BW M G sh N nL Z (pc + 3) L S (up2 w k j v)) : BW M G sh N nL Z pc L (.int v :: .ref (gad G k) :: S) w :=
  fun H locs ls hP hS hl => va_put C.1 C.2.1 C.2.2.2.2.1 hin ty0 hty hnm C.2.2.2.1 C.2.2.2.2.2.2.2.1 hP (wl_D C.2.2.2.2.2.2.2.2.1) hS k (fs := fvs (gad G) ks (w k)) (ci := ci) (by rw [wl_get hk, hs]; rfl) hc j hj (C.2.2.2.2.1 _ hlk) (fun _ h9 => h9) hfin hd hn hfit (by have := (List.getElem?_eq_some_iff.mp hkd).1; simpa [fvs] using this) hdg (fun H1 locs1 hP1 hD1 hS1 => by
    rw [fvs_set hkd] at hP1
    have e := wl_set (G := G) (sh := sh) (N := N) (k := k) (w := w) (upd (w k) j v)
    rw [hs] at e
    exact kk H1 locs1 ls (by rw [← show (wl G sh N w).set k (gad G k, .inr (ci, fvs (gad G) ks (upd (w k) j v))) = wl G sh N (up2 w k j v) from e]; exact hP1) hS1 hl)
theorem bw_iald (C : BC M G sh N E own cc nL ret rm) {k n : Nat} {i : Int32} {K : Option (Int32 × Mem)} (hk : k < N) (hs : sh k = .inr (.inl (0, n))) (hdg : decode cc pc = .ok (.iaload, 1)) (h : (if ib i n = true then K else none) = some z) (kk : K = some z → BW M G sh N nL Z (pc + 1) L (.int (w k i.toNatClampNeg) :: S) w) : BW M G sh N nL Z pc L (.int i :: .ref (gad G k) :: S) w := by
  by_cases hi : ib i n = true
  · rw [if_pos hi] at h
    exact fun H locs ls hP hS hl => va_iald C.1 C.2.1 C.2.2.2.2.2.2.2.1 hP k 0 (cA := G.2.1 0) (n := n) (f := w k) (by rw [wl_get hk, hs]; rfl) rfl (ib_in hi) hdg (kk h H locs ls hP hS hl)
  · rw [if_neg hi] at h
    cases h
theorem bw_bald (C : BC M G sh N E own cc nL ret rm) {k n : Nat} {i : Int32} {K : Option (Int32 × Mem)} (hk : k < N) (hs : sh k = .inr (.inl (1, n))) (hdg : decode cc pc = .ok (.baload, 1)) (h : (if ib i n = true then K else none) = some z) (kk : K = some z → BW M G sh N nL Z (pc + 1) L (.int (w k i.toNatClampNeg) :: S) w) : BW M G sh N nL Z pc L (.int i :: .ref (gad G k) :: S) w := by
  by_cases hi : ib i n = true
  · rw [if_pos hi] at h
    exact fun H locs ls hP hS hl => va_bald C.1 C.2.1 C.2.2.2.2.2.2.2.1 hP k 1 (cA := G.2.1 1) (n := n) (f := w k) (by rw [wl_get hk, hs]; rfl) rfl (ib_in hi) hdg (kk h H locs ls hP hS hl)
  · rw [if_neg hi] at h
    cases h
theorem bw_zald (C : BC M G sh N E own cc nL ret rm) {k n : Nat} {i : Int32} {K : Option (Int32 × Mem)} (hk : k < N) (hs : sh k = .inr (.inl (2, n))) (hdg : decode cc pc = .ok (.baload, 1)) (h : (if ib i n = true then K else none) = some z) (kk : K = some z → BW M G sh N nL Z (pc + 1) L (.int (w k i.toNatClampNeg) :: S) w) : BW M G sh N nL Z pc L (.int i :: .ref (gad G k) :: S) w := by
  by_cases hi : ib i n = true
  · rw [if_pos hi] at h
    exact fun H locs ls hP hS hl => va_zald C.1 C.2.1 C.2.2.2.2.2.2.2.1 hP k 2 (cA := G.2.1 2) (n := n) (f := w k) (by rw [wl_get hk, hs]; rfl) rfl (ib_in hi) hdg (kk h H locs ls hP hS hl)
  · rw [if_neg hi] at h
    cases h
theorem bw_iast (C : BC M G sh N E own cc nL ret rm) {k n : Nat} {i x : Int32} {K : Option (Int32 × Mem)} (hk : k < N) (hs : sh k = .inr (.inl (0, n))) (hdg : decode cc pc = .ok (.iastore, 1)) (h : (if ib i n = true then K else none) = some z) (kk : K = some z → BW M G sh N nL Z (pc + 1) L S (up2 w k i.toNatClampNeg x)) : BW M G sh N nL Z pc L (.int x :: .int i :: .ref (gad G k) :: S) w := by
  by_cases hi : ib i n = true
  · rw [if_pos hi] at h
    refine fun H locs ls hP hS hl => va_iast C.1 C.2.1 C.2.2.2.2.2.2.2.1 hP (wl_D C.2.2.2.2.2.2.2.2.1) hS k 0 (cA := G.2.1 0) (n := n) (f := w k) (by rw [wl_get hk, hs]; rfl) rfl (ib_in hi) hdg (fun H1 locs1 hP1 hD1 hS1 => ?_)
    have e := wl_set (G := G) (sh := sh) (N := N) (k := k) (w := w) (upd (w k) i.toNatClampNeg x)
    rw [hs] at e
    exact kk h H1 locs1 ls (by rw [← show (wl G sh N w).set k (gad G k, .inl (G.2.1 0, n, .inl (upd (w k) i.toNatClampNeg x))) = wl G sh N (up2 w k i.toNatClampNeg x) from e]; exact hP1) hS1 hl
  · rw [if_neg hi] at h
    cases h
theorem bw_bast (C : BC M G sh N E own cc nL ret rm) {k n : Nat} {i x : Int32} {K : Option (Int32 × Mem)} (hk : k < N) (hs : sh k = .inr (.inl (1, n))) (hdg : decode cc pc = .ok (.bastore, 1)) (h : (if ib i n = true then K else none) = some z) (kk : K = some z → BW M G sh N nL Z (pc + 1) L S (up2 w k i.toNatClampNeg (vp_nar .byte x))) : BW M G sh N nL Z pc L (.int x :: .int i :: .ref (gad G k) :: S) w := by
  by_cases hi : ib i n = true
  · rw [if_pos hi] at h
    refine fun H locs ls hP hS hl => va_bast C.1 C.2.1 C.2.2.2.2.2.2.2.1 hP (wl_D C.2.2.2.2.2.2.2.2.1) hS k 1 (cA := G.2.1 1) (n := n) (f := w k) (by rw [wl_get hk, hs]; rfl) rfl (ib_in hi) hdg (fun H1 locs1 hP1 hD1 hS1 => ?_)
    have e := wl_set (G := G) (sh := sh) (N := N) (k := k) (w := w) (upd (w k) i.toNatClampNeg (vp_nar .byte x))
    rw [hs] at e
    exact kk h H1 locs1 ls (by rw [← show (wl G sh N w).set k (gad G k, .inl (G.2.1 1, n, .inl (upd (w k) i.toNatClampNeg (vp_nar .byte x)))) = wl G sh N (up2 w k i.toNatClampNeg (vp_nar .byte x)) from e]; exact hP1) hS1 hl
  · rw [if_neg hi] at h
    cases h
theorem bw_zast (C : BC M G sh N E own cc nL ret rm) {k n : Nat} {i x : Int32} {K : Option (Int32 × Mem)} (hk : k < N) (hs : sh k = .inr (.inl (2, n))) (hdg : decode cc pc = .ok (.bastore, 1)) (h : (if ib i n = true then K else none) = some z) (kk : K = some z → BW M G sh N nL Z (pc + 1) L S (up2 w k i.toNatClampNeg (vp_nar .boolean x))) : BW M G sh N nL Z pc L (.int x :: .int i :: .ref (gad G k) :: S) w := by
  by_cases hi : ib i n = true
  · rw [if_pos hi] at h
    refine fun H locs ls hP hS hl => va_zast C.1 C.2.1 C.2.2.2.2.2.2.2.1 hP (wl_D C.2.2.2.2.2.2.2.2.1) hS k 2 (cA := G.2.1 2) (n := n) (f := w k) (by rw [wl_get hk, hs]; rfl) rfl (ib_in hi) hdg (fun H1 locs1 hP1 hD1 hS1 => ?_)
    have e := wl_set (G := G) (sh := sh) (N := N) (k := k) (w := w) (upd (w k) i.toNatClampNeg (vp_nar .boolean x))
    rw [hs] at e
    exact kk h H1 locs1 ls (by rw [← show (wl G sh N w).set k (gad G k, .inl (G.2.1 2, n, .inl (upd (w k) i.toNatClampNeg (vp_nar .boolean x)))) = wl G sh N (up2 w k i.toNatClampNeg (vp_nar .boolean x)) from e]; exact hP1) hS1 hl
  · rw [if_neg hi] at h
    cases h
theorem bw_aald (C : BC M G sh N E own cc nL ret rm) {k tg : Nat} {ts : List Nat} {i : Int32} {Cn : String} {K : Option (Int32 × Mem)} (hk : k < N) (hs : sh k = .inr (.inr (tg, ts))) (ht : (tysG G)[tg]? = some (G.2.1 tg, .object Cn)) (hdg : decode cc pc = .ok (.aaload, 1)) (h : (if ib i ts.length = true then K else none) = some z) (kk : ib i ts.length = true → K = some z → BW M G sh N nL Z (pc + 1) L (.ref (gad G (ts.getD i.toNatClampNeg 0)) :: S) w) : BW M G sh N nL Z pc L (.int i :: .ref (gad G k) :: S) w := by
  by_cases hi : ib i ts.length = true
  · rw [if_pos hi] at h
    refine fun H locs ls hP hS hl => va_aldq C.1 C.2.1 C.2.2.2.2.2.2.2.1 hP k tg (cA := G.2.1 tg) (n := ts.length) (f := fun i => (ts[i]?).map (gad G)) (by rw [wl_get hk, hs]; rfl) ht (ib_in hi) hdg ?_
    have hlt : i.toNatClampNeg < ts.length := Nat.not_le.mp fun q => (ib_in hi) (Or.inr q)
    have e : va_rf ((ts[i.toNatClampNeg]?).map (gad G)) = .ref (gad G (ts.getD i.toNatClampNeg 0)) := by simp [hlt, va_rf]
    rw [e]
    exact kk hi h H locs ls hP hS hl
  · rw [if_neg hi] at h
    cases h
theorem bw_alen (C : BC M G sh N E own cc nL ret rm) {k tg n : Nat} {v : Int32} {ty : FieldType} (hk : k < N) (hs : sh k = .inr (.inl (tg, n))) (ht : (tysG G)[tg]? = some (G.2.1 tg, ty)) (hv : Int32.ofNat n = v) (hdg : decode cc pc = .ok (.arraylength, 1)) (kk : BW M G sh N nL Z (pc + 1) L (.int v :: S) w) : BW M G sh N nL Z pc L (.ref (gad G k) :: S) w :=
  fun H locs ls hP hS hl => va_alen C.1 C.2.1 C.2.2.2.2.2.2.2.1 hP k tg (cA := G.2.1 tg) (x := (n, .inl (w k))) (by rw [wl_get hk, hs]; rfl) ht hv hdg (kk H locs ls hP hS hl)
theorem bw_mmax (C : BC M G sh N E own cc nL ret rm) {index : Nat} {x y : Int32} (h1 : Cond.methodLink own index Lib.Math.max.name ∈ wsL_law) (h2 : Cond.static Lib.Math.max.name ∈ wsL_law) (h3 : Cond.initialized "java/lang/Math" ∈ wsL_law) (h4 : Cond.code Lib.Math.max.name Lib.Math.max.code 2 (some .int) ∈ wsL_law) (hf : 1 ≤ rm.frames) (hlo : (S.map fun v => v.category).sum + 13 ≤ rm.locals) (hdg : decode cc pc = .ok (.invokestatic index, 3)) (kk : BW M G sh N nL Z (pc + 3) L (.int (if x < y then y else x) :: S) w) : BW M G sh N nL Z pc L (.int y :: .int x :: S) w :=
  fun H locs ls hP hS hl => va_mmax C.1 C.2.1 (by rw [C.2.2.1]; exact hl.1.symm) C.2.2.2.1 (C.2.2.2.2.1 _ h1) (C.2.2.2.2.1 _ h2) (C.2.2.2.2.1 _ h3) (C.2.2.2.2.1 _ h4) (by have e := C.2.2.2.2.2.2.2.2.2.2.2; show 1 ≤ (mR M).frames; rw [e]; exact hf) (by have e := C.2.2.2.2.2.2.2.2.2.2.2; show _ ≤ (mR M).locals; rw [e]; exact hlo) (Nat.zero_le _) (Nat.zero_le _) hdg (kk H locs ls hP hS hl)
theorem bw_mmin (C : BC M G sh N E own cc nL ret rm) {index : Nat} {x y : Int32} (h1 : Cond.methodLink own index Lib.Math.min.name ∈ wsL_law) (h2 : Cond.static Lib.Math.min.name ∈ wsL_law) (h3 : Cond.initialized "java/lang/Math" ∈ wsL_law) (h4 : Cond.code Lib.Math.min.name Lib.Math.min.code 2 (some .int) ∈ wsL_law) (hf : 1 ≤ rm.frames) (hlo : (S.map fun v => v.category).sum + 13 ≤ rm.locals) (hdg : decode cc pc = .ok (.invokestatic index, 3)) (kk : BW M G sh N nL Z (pc + 3) L (.int (if y < x then y else x) :: S) w) : BW M G sh N nL Z pc L (.int y :: .int x :: S) w :=
  fun H locs ls hP hS hl => va_mmin C.1 C.2.1 (by rw [C.2.2.1]; exact hl.1.symm) C.2.2.2.1 (C.2.2.2.2.1 _ h1) (C.2.2.2.2.1 _ h2) (C.2.2.2.2.1 _ h3) (C.2.2.2.2.1 _ h4) (by have e := C.2.2.2.2.2.2.2.2.2.2.2; show 1 ≤ (mR M).frames; rw [e]; exact hf) (by have e := C.2.2.2.2.2.2.2.2.2.2.2; show _ ≤ (mR M).locals; rw [e]; exact hlo) (Nat.zero_le _) (Nat.zero_le _) hdg (kk H locs ls hP hS hl)
/-- what a call takes of its method: the words of it, its parameters -/
def MI (y : MethodName) (cy : ByteArray) (nLy : Nat) (rety : Option FieldType) (n : Nat) : Prop := Cond.code y cy nLy rety ∈ wsL_law ∧ Cond.initialized y.cls ∈ wsL_law ∧ (y.cls ≠ "java/lang/invoke/MethodHandle" ∧ y.cls ≠ "java/lang/invoke/VarHandle" ∧ (parseMethodDescriptor y.desc).map (fun d => d.parameters.length) = some n)
theorem good_all : wsL_law.all goodWord = true := by decide +kernel
theorem goodIn_all {y : MethodName} {cy : ByteArray} {nLy : Nat} {rety : Option FieldType} (h : Cond.code y cy nLy rety ∈ wsL_law) : GoodIn wsL_law (Cond.code y cy nLy rety :: wsL_law) := fun q hq => by
  rcases List.mem_cons.mp hq with e | e
  · subst e
    exact ⟨h, good_of_word (List.all_eq_true.mp good_all _ h)⟩
  · exact ⟨e, good_of_word (List.all_eq_true.mp good_all _ e)⟩
theorem px_blind {A : Nat → Prop} {l0 : List Value} (hE : Eok A E) : FrameBlind (va_Pc l0 (PX G sh N E w)) := fun a U g mk q => by
  obtain ⟨q0, qP, qK, qi, qE⟩ := q
  exact ⟨q0, qP, va_K.moved (u := U) (U := U.calling g mk a) (Vm.Alike.refl U.vm) qK, qi, hE.2.2 U (U.calling g mk a) U.heap rfl qE⟩
theorem px_at (C : BC M G sh N E own cc nL ret rm) {H : Heap} {locs : List Loc} (hP : va_P G.1 vwCl (wl G sh N w) H) (hS : va_S (AX G N) (mS M).heap H locs) {U : State} (hU : U.heap = H) (hW : (mS M).WarmedH U.vm) : PX G sh N E w U := by
  obtain ⟨-, -, -, -, -, -, -, hK, hi, hEs, hE, -⟩ := C
  refine ⟨by rw [hU]; exact hP, va_K.moved hW.alike hK, hi, ?_⟩
  rw [hU]
  exact hE.1 (mS M) U H hW (hE.2.1 (mS M) (mS M).heap H hS.2.1 hEs)
/-- behind a call -/
theorem bw_back {rest : List Value} {st0 : List Value} {z1 : Int32 × Mem} {rety : Option FieldType} {a : Array Value} {H : Heap} {locs : List Loc} {ls : Array Slot}
    (hr : va_Run (mP M) (mL M) (mE M) (mR M) (mS M) (mM M) (mA M) (mB M) (mMe M) (mC M) H locs 0 0 0 0 (F0 (mM M) pc ls st0) rest (QX G sh N (rvOf rety z1.1) z1.2 a) (AX G N)) (hS : va_S (AX G N) (mS M).heap H locs) (hl : lv_has ls nL L)
    (kk : BW M G sh N nL Z (pc + 3) L ((rvOf rety z1.1).toList ++ rest) z1.2) : WW M H locs Z (F0 (mM M) pc ls st0) := by
  intro T hT X
  obtain ⟨v, st0', t, T', L', h0, X', hL', e1, e2, ⟨hv, hP1, hF⟩, st⟩ := hr T hT X
  cases hv
  have hS1 : va_S (AX G N) (mS M).heap T'.heap (locs ++ L') := by
    refine ⟨Nat.le_trans hS.1 (by rw [e1, ← h0]; exact hF.1), fun q h1 h2 => ?_, fun q hq => ?_⟩
    · rw [e1, hF.2 q (by rw [h0]; exact Nat.lt_of_lt_of_le h1 hS.1) h2, h0]
      exact hS.2.1 q h1 h2
    · rcases List.mem_append.mp hq with h | h
      · exact hS.2.2 q h
      · exact hL' q h
  obtain ⟨t2, a1, b1⟩ := kk T'.heap (locs ++ L') ls (by rw [e1]; exact hP1) hS1 hl T' rfl X'
  exact ⟨t2, st t2 a1, b1⟩
theorem bind_some_of {A B : Type} {f : Option A} {g : A → Option B} {z0 : B} (h : f.bind g = some z0) : ∃ x, f = some x ∧ g x = some z0 := by
  cases f with
  | none => cases h
  | some x => exact ⟨x, rfl, h⟩
theorem bw_callV (C : BC M G sh N E own cc nL ret rm) {k ci n0 : Nat} {ks : List (Option Nat)} {T : u_T} {index : Nat} {y : MethodName} {cy : ByteArray} {nLy n : Nat} {rety : Option FieldType} {rmy : Room} {As rest : List Value} {f : Option (Int32 × Mem)} {g : Int32 × Mem → Option (Int32 × Mem)} (hk : k < N) (hs : sh k = .inl (ci, ks)) (hc : vwCl[ci]? = some (y.cls, T, n0)) (hmi : MI y cy nLy rety n) (hlk : Cond.methodLink own index y ∈ wsL_law) (hin : Cond.instanceMethod y ∈ wsL_law) (hse : Cond.selects y.cls y y ∈ wsL_law) (hR : rmy.frames + 1 ≤ rm.frames ∧ 8 + (nLy + 11) + rmy.locals ≤ rm.locals) (hrc : rmy.cells = 0) (hrs : rmy.slots = 0) (hM : ∀ z1 : Int32 × Mem, f = some z1 → MC (mL M) G sh N E y cy nLy rety rmy (.ref (gad G k) :: As) w z1) (hn : As.length = n) (hcat : (rest.map fun v => v.category).sum ≤ 8) (hst : S = As.reverse ++ .ref (gad G k) :: rest) (hdg : decode cc pc = .ok (.invokevirtual index, 3)) (h : f.bind g = some z) (kk : ∀ z1 : Int32 × Mem, f = some z1 → g z1 = some z → BW M G sh N nL Z (pc + 3) L ((rvOf rety z1.1).toList ++ rest) z1.2) : BW M G sh N nL Z pc L S w := by
  obtain ⟨z1, h1, h2⟩ := bind_some_of h
  subst hst
  intro H locs ls hP hS hl
  have hts := C.2.2.2.2.1
  refine bw_back (a := (Value.ref (gad G k) :: As).toArray) (va_runV (As := As) (rest := rest) (Ts := wsL_law) ⟨C.1, C.2.1, C.2.2.1, C.2.2.2.1, hts⟩ (hM z1 h1) ⟨callB_of n hts (goodIn_all hmi.1) rfl hrc hrs (hts _ hmi.2.1) (hts _ hlk) hmi.2.2 (by rw [C.2.2.2.2.2.2.2.2.2.2.2]; exact hR), hts _ hin, hts _ hse⟩ ⟨px_blind C.2.2.2.2.2.2.2.2.2.2.1, va_recv C.2.2.2.2.2.2.2.1 hP (ci := ci) (q0 := k) hc (by rw [wl_get hk, hs]; rfl), fun U hU hW => ⟨rfl, px_at C hP hS hU hW⟩⟩ rfl hn hl.1 rfl (lv_room hcat) hdg ⟨Nat.zero_le _, Nat.zero_le _⟩) hS hl (kk z1 h1 h2)
theorem bw_callS (C : BC M G sh N E own cc nL ret rm) {index : Nat} {y : MethodName} {cy : ByteArray} {nLy n : Nat} {rety : Option FieldType} {rmy : Room} {As rest : List Value} {f : Option (Int32 × Mem)} {g : Int32 × Mem → Option (Int32 × Mem)} (hmi : MI y cy nLy rety n) (hlk : Cond.methodLink own index y ∈ wsL_law) (hin : Cond.static y ∈ wsL_law) (hR : rmy.frames + 1 ≤ rm.frames ∧ 8 + (nLy + 11) + rmy.locals ≤ rm.locals) (hrc : rmy.cells = 0) (hrs : rmy.slots = 0) (hM : ∀ z1 : Int32 × Mem, f = some z1 → MC (mL M) G sh N E y cy nLy rety rmy As w z1) (hn : As.length = n) (hcat : (rest.map fun v => v.category).sum ≤ 8) (hst : S = As.reverse ++ rest) (hdg : decode cc pc = .ok (.invokestatic index, 3)) (h : f.bind g = some z) (kk : ∀ z1 : Int32 × Mem, f = some z1 → g z1 = some z → BW M G sh N nL Z (pc + 3) L ((rvOf rety z1.1).toList ++ rest) z1.2) : BW M G sh N nL Z pc L S w := by
  obtain ⟨z1, h1, h2⟩ := bind_some_of h
  subst hst
  intro H locs ls hP hS hl
  have hts := C.2.2.2.2.1
  refine bw_back (a := As.toArray) (va_runS (As := As) (rest := rest) (Ts := wsL_law) ⟨C.1, C.2.1, C.2.2.1, C.2.2.2.1, hts⟩ (hM z1 h1) ⟨callB_of n hts (goodIn_all hmi.1) rfl hrc hrs (hts _ hmi.2.1) (hts _ hlk) hmi.2.2 (by rw [C.2.2.2.2.2.2.2.2.2.2.2]; exact hR), hts _ hin⟩ ⟨px_blind C.2.2.2.2.2.2.2.2.2.2.1, fun U hU hW => ⟨rfl, px_at C hP hS hU hW⟩⟩ rfl hn hl.1 rfl (lv_room hcat) hdg ⟨Nat.zero_le _, Nat.zero_le _⟩) hS hl (kk z1 h1 h2)
theorem bw_callSN (C : BC M G sh N E own cc nL ret rm) {host : String} {index : Nat} {y : MethodName} {cy : ByteArray} {nLy n : Nat} {rety : Option FieldType} {rmy : Room} {As rest : List Value} {f : Option (Int32 × Mem)} {g : Int32 × Mem → Option (Int32 × Mem)} (hmi : MI y cy nLy rety n) (hlk : va_Nw (.methodLinkNest own index y host) (mS M)) (hin : Cond.static y ∈ wsL_law) (hR : rmy.frames + 1 ≤ rm.frames ∧ 8 + (nLy + 11) + rmy.locals ≤ rm.locals) (hrc : rmy.cells = 0) (hrs : rmy.slots = 0) (hM : ∀ z1 : Int32 × Mem, f = some z1 → MC (mL M) G sh N E y cy nLy rety rmy As w z1) (hn : As.length = n) (hcat : (rest.map fun v => v.category).sum ≤ 8) (hst : S = As.reverse ++ rest) (hdg : decode cc pc = .ok (.invokestatic index, 3)) (h : f.bind g = some z) (kk : ∀ z1 : Int32 × Mem, f = some z1 → g z1 = some z → BW M G sh N nL Z (pc + 3) L ((rvOf rety z1.1).toList ++ rest) z1.2) : BW M G sh N nL Z pc L S w := by
  obtain ⟨z1, h1, h2⟩ := bind_some_of h
  subst hst
  intro H locs ls hP hS hl
  have hts := C.2.2.2.2.1
  refine bw_back (a := As.toArray) (va_runSN (As := As) (rest := rest) (Ts := wsL_law) ⟨C.1, C.2.1, C.2.2.1, C.2.2.2.1, hts⟩ (hM z1 h1) ⟨va_cnB n hts (goodIn_all hmi.1) rfl hrc hrs hlk (hts _ hmi.2.1) hmi.2.2 (by rw [C.2.2.2.2.2.2.2.2.2.2.2]; exact hR), hts _ hin, trivial⟩ ⟨px_blind C.2.2.2.2.2.2.2.2.2.2.1, fun U hU hW => ⟨rfl, px_at C hP hS hU hW⟩⟩ rfl hn hl.1 rfl (lv_room hcat) hdg ⟨Nat.zero_le _, Nat.zero_le _⟩) hS hl (kk z1 h1 h2)
theorem bw_callVi (C : BC M G sh N E own cc nL ret rm) {k ci n0 : Nat} {ks : List (Option Nat)} {T : u_T} {index : Nat} {y : MethodName} {cy : ByteArray} {nLy n : Nat} {ty : FieldType} {rmy : Room} {As rest : List Value} {f : Option (Int32 × Mem)} {g : Int32 × Mem → Option (Int32 × Mem)} (hk : k < N) (hs : sh k = .inl (ci, ks)) (hc : vwCl[ci]? = some (y.cls, T, n0)) (hmi : MI y cy nLy (some ty) n) (hlk : Cond.methodLink own index y ∈ wsL_law) (hin : Cond.instanceMethod y ∈ wsL_law) (hse : Cond.selects y.cls y y ∈ wsL_law) (hR : rmy.frames + 1 ≤ rm.frames ∧ 8 + (nLy + 11) + rmy.locals ≤ rm.locals) (hrc : rmy.cells = 0) (hrs : rmy.slots = 0) (hM : ∀ z1 : Int32 × Mem, f = some z1 → MC (mL M) G sh N E y cy nLy (some ty) rmy (.ref (gad G k) :: As) w z1) (hn : As.length = n) (hcat : (rest.map fun v => v.category).sum ≤ 8) (hst : S = As.reverse ++ .ref (gad G k) :: rest) (hdg : decode cc pc = .ok (.invokevirtual index, 3)) (h : f.bind g = some z) (kk : ∀ z1 : Int32 × Mem, f = some z1 → g z1 = some z → BW M G sh N nL Z (pc + 3) L (.int z1.1 :: rest) z1.2) : BW M G sh N nL Z pc L S w := bw_callV C hk hs hc hmi hlk hin hse hR hrc hrs hM hn hcat hst hdg h kk
theorem bw_callVv (C : BC M G sh N E own cc nL ret rm) {k ci n0 : Nat} {ks : List (Option Nat)} {T : u_T} {index : Nat} {y : MethodName} {cy : ByteArray} {nLy n : Nat} {rmy : Room} {As rest : List Value} {f : Option (Int32 × Mem)} {g : Int32 × Mem → Option (Int32 × Mem)} (hk : k < N) (hs : sh k = .inl (ci, ks)) (hc : vwCl[ci]? = some (y.cls, T, n0)) (hmi : MI y cy nLy none n) (hlk : Cond.methodLink own index y ∈ wsL_law) (hin : Cond.instanceMethod y ∈ wsL_law) (hse : Cond.selects y.cls y y ∈ wsL_law) (hR : rmy.frames + 1 ≤ rm.frames ∧ 8 + (nLy + 11) + rmy.locals ≤ rm.locals) (hrc : rmy.cells = 0) (hrs : rmy.slots = 0) (hM : ∀ z1 : Int32 × Mem, f = some z1 → MC (mL M) G sh N E y cy nLy none rmy (.ref (gad G k) :: As) w z1) (hn : As.length = n) (hcat : (rest.map fun v => v.category).sum ≤ 8) (hst : S = As.reverse ++ .ref (gad G k) :: rest) (hdg : decode cc pc = .ok (.invokevirtual index, 3)) (h : f.bind g = some z) (kk : ∀ z1 : Int32 × Mem, f = some z1 → g z1 = some z → BW M G sh N nL Z (pc + 3) L rest z1.2) : BW M G sh N nL Z pc L S w := bw_callV C hk hs hc hmi hlk hin hse hR hrc hrs hM hn hcat hst hdg h kk
theorem bw_callSi (C : BC M G sh N E own cc nL ret rm) {index : Nat} {y : MethodName} {cy : ByteArray} {nLy n : Nat} {ty : FieldType} {rmy : Room} {As rest : List Value} {f : Option (Int32 × Mem)} {g : Int32 × Mem → Option (Int32 × Mem)} (hmi : MI y cy nLy (some ty) n) (hlk : Cond.methodLink own index y ∈ wsL_law) (hin : Cond.static y ∈ wsL_law) (hR : rmy.frames + 1 ≤ rm.frames ∧ 8 + (nLy + 11) + rmy.locals ≤ rm.locals) (hrc : rmy.cells = 0) (hrs : rmy.slots = 0) (hM : ∀ z1 : Int32 × Mem, f = some z1 → MC (mL M) G sh N E y cy nLy (some ty) rmy As w z1) (hn : As.length = n) (hcat : (rest.map fun v => v.category).sum ≤ 8) (hst : S = As.reverse ++ rest) (hdg : decode cc pc = .ok (.invokestatic index, 3)) (h : f.bind g = some z) (kk : ∀ z1 : Int32 × Mem, f = some z1 → g z1 = some z → BW M G sh N nL Z (pc + 3) L (.int z1.1 :: rest) z1.2) : BW M G sh N nL Z pc L S w := bw_callS C hmi hlk hin hR hrc hrs hM hn hcat hst hdg h kk
theorem bw_callSv (C : BC M G sh N E own cc nL ret rm) {index : Nat} {y : MethodName} {cy : ByteArray} {nLy n : Nat} {rmy : Room} {As rest : List Value} {f : Option (Int32 × Mem)} {g : Int32 × Mem → Option (Int32 × Mem)} (hmi : MI y cy nLy none n) (hlk : Cond.methodLink own index y ∈ wsL_law) (hin : Cond.static y ∈ wsL_law) (hR : rmy.frames + 1 ≤ rm.frames ∧ 8 + (nLy + 11) + rmy.locals ≤ rm.locals) (hrc : rmy.cells = 0) (hrs : rmy.slots = 0) (hM : ∀ z1 : Int32 × Mem, f = some z1 → MC (mL M) G sh N E y cy nLy none rmy As w z1) (hn : As.length = n) (hcat : (rest.map fun v => v.category).sum ≤ 8) (hst : S = As.reverse ++ rest) (hdg : decode cc pc = .ok (.invokestatic index, 3)) (h : f.bind g = some z) (kk : ∀ z1 : Int32 × Mem, f = some z1 → g z1 = some z → BW M G sh N nL Z (pc + 3) L rest z1.2) : BW M G sh N nL Z pc L S w := bw_callS C hmi hlk hin hR hrc hrs hM hn hcat hst hdg h kk
theorem bw_callSNi (C : BC M G sh N E own cc nL ret rm) {host : String} {index : Nat} {y : MethodName} {cy : ByteArray} {nLy n : Nat} {ty : FieldType} {rmy : Room} {As rest : List Value} {f : Option (Int32 × Mem)} {g : Int32 × Mem → Option (Int32 × Mem)} (hmi : MI y cy nLy (some ty) n) (hlk : va_Nw (.methodLinkNest own index y host) (mS M)) (hin : Cond.static y ∈ wsL_law) (hR : rmy.frames + 1 ≤ rm.frames ∧ 8 + (nLy + 11) + rmy.locals ≤ rm.locals) (hrc : rmy.cells = 0) (hrs : rmy.slots = 0) (hM : ∀ z1 : Int32 × Mem, f = some z1 → MC (mL M) G sh N E y cy nLy (some ty) rmy As w z1) (hn : As.length = n) (hcat : (rest.map fun v => v.category).sum ≤ 8) (hst : S = As.reverse ++ rest) (hdg : decode cc pc = .ok (.invokestatic index, 3)) (h : f.bind g = some z) (kk : ∀ z1 : Int32 × Mem, f = some z1 → g z1 = some z → BW M G sh N nL Z (pc + 3) L (.int z1.1 :: rest) z1.2) : BW M G sh N nL Z pc L S w := bw_callSN C hmi hlk hin hR hrc hrs hM hn hcat hst hdg h kk
theorem bw_callSNv (C : BC M G sh N E own cc nL ret rm) {host : String} {index : Nat} {y : MethodName} {cy : ByteArray} {nLy n : Nat} {rmy : Room} {As rest : List Value} {f : Option (Int32 × Mem)} {g : Int32 × Mem → Option (Int32 × Mem)} (hmi : MI y cy nLy none n) (hlk : va_Nw (.methodLinkNest own index y host) (mS M)) (hin : Cond.static y ∈ wsL_law) (hR : rmy.frames + 1 ≤ rm.frames ∧ 8 + (nLy + 11) + rmy.locals ≤ rm.locals) (hrc : rmy.cells = 0) (hrs : rmy.slots = 0) (hM : ∀ z1 : Int32 × Mem, f = some z1 → MC (mL M) G sh N E y cy nLy none rmy As w z1) (hn : As.length = n) (hcat : (rest.map fun v => v.category).sum ≤ 8) (hst : S = As.reverse ++ rest) (hdg : decode cc pc = .ok (.invokestatic index, 3)) (h : f.bind g = some z) (kk : ∀ z1 : Int32 × Mem, f = some z1 → g z1 = some z → BW M G sh N nL Z (pc + 3) L rest z1.2) : BW M G sh N nL Z pc L S w := bw_callSN C hmi hlk hin hR hrc hrs hM hn hcat hst hdg h kk
theorem bw_copy (C : BC M G sh N E own cc nL ret rm) {index k0 k1 n0 n1 : Nat} {n : Int32} (hk0 : k0 < N) (hs0 : sh k0 = .inr (.inl (0, n0))) (hk1 : k1 < N) (hs1 : sh k1 = .inr (.inl (0, n1))) (g1 : Cond.methodLink own index arraycopyName ∈ wsL_law) (g2 : Cond.native arraycopyName ∈ wsL_law) (g3 : Cond.static arraycopyName ∈ wsL_law) (g4 : Cond.initialized "java/lang/System" ∈ wsL_law) (h3 : ¬ n < 0) (h4 : n.toNatClampNeg ≤ n0) (h5 : n.toNatClampNeg ≤ n1) (hf : 1 ≤ rm.frames) (hlo : (S.map fun v => v.category).sum + (nativeFrameWords "java/lang/System" "arraycopy" 5 + 11) ≤ rm.locals) (hdg : decode cc pc = .ok (.invokestatic index, 3)) (kk : BW M G sh N nL Z (pc + 3) L S (cpm w k0 k1 n.toNatClampNeg)) : BW M G sh N nL Z pc L (.int n :: .int 0 :: .ref (gad G k1) :: .int 0 :: .ref (gad G k0) :: S) w := by
  intro H locs ls hP hS hl
  have hts := C.2.2.2.2.1
  refine va_copyi C.1 C.2.1 (by rw [C.2.2.1]; exact hl.1.symm) C.2.2.2.1 (hts _ g1) (hts _ g2) (hts _ g3) (hts _ g4) C.2.2.2.2.2.2.2.1 hP (wl_D C.2.2.2.2.2.2.2.2.1) hS k0 k1 0 0 (c0 := G.2.1 0) (c1 := G.2.1 0) (n0 := n0) (n1 := n1) (f := w k0) (g := w k1) (ty := .int) (by rw [wl_get hk0, hs0]; rfl) (by rw [wl_get hk1, hs1]; rfl) rfl rfl rfl (sp := 0) (dp := 0) (n := n) (by decide) (by decide) h3 (by show 0 + _ ≤ _; omega) (by show 0 + _ ≤ _; omega) (fun i _ => rfl) (by have e := C.2.2.2.2.2.2.2.2.2.2.2; show 1 ≤ (mR M).frames; rw [e]; exact hf) (by have e := C.2.2.2.2.2.2.2.2.2.2.2; show _ ≤ (mR M).locals; rw [e]; exact hlo) hdg (fun H1 locs1 hP1 hD1 hS1 => ?_)
  have e := wl_set (G := G) (sh := sh) (N := N) (k := k1) (w := w) (va_cpy (w k0) (w k1) 0 0 n.toNatClampNeg)
  rw [hs1] at e
  exact kk H1 locs1 ls (by show va_P G.1 vwCl (wl G sh N (upm w k1 (va_cpy (w k0) (w k1) 0 0 n.toNatClampNeg))) H1; rw [← e]; exact hP1) hS1 hl
end THIN
