/-- the texts that the reader knows, by their places -/
def lenJS : List Nat := [3, 3, 3, 5, 6, 4, 6, 6, 4, 7, 5, 4]
def bytJS : List (List Int32) := [[108, 97, 119], [102, 101, 101], [111, 110, 101], [112, 108, 97, 105, 110], [103, 111, 115, 115, 105, 112], [100, 101, 97, 102], [98, 101, 103, 103, 97, 114], [116, 97, 120, 109, 97, 110], [99, 111, 105, 110], [99, 108, 105, 112, 112, 101, 100], [115, 112, 101, 110, 100], [116, 97, 108, 107]]
def idxJS : List Nat := [93, 102, 107, 155, 157, 159, 161, 163, 112, 174, 117, 122]
def txtJS : List String := ["law", "fee", "one", "plain", "gossip", "deaf", "beggar", "taxman", "coin", "clipped", "spend", "talk"]
def StrOK (G : GX) (U : State) (H : Heap) : Prop := vk_S 12 lenJS bytJS (gaK G) (gaV G) (AX G 71) U H ∧ va_Z "java/lang/String" "COMPACT_STRINGS" "Z" (.int 1) (AX G 71) U H ∧ va_Zq "jdk/internal/util/Preconditions" "SIOOBE_FORMATTER" "Ljava/util/function/BiFunction;" (AX G 71) U H ∧ ∀ i : Nat, i < 12 → vk_R RX5 (idxJS.getD i 0) (txtJS.getD i "") (gaK G i) U
def eX (G : GX) : EX := fun U H => NstOK U ∧ StrOK G U H
def eM : EX := fun _ _ => True
theorem eM_ok (A : Nat → Prop) : Eok A eM := ⟨fun _ _ _ _ _ => trivial, fun _ _ _ _ _ => trivial, fun _ _ _ _ _ => trivial⟩
theorem eX_ok (G : GX) : Eok (AX G 71) (eX G) := by
  refine ⟨fun u U H hW h => ?_, fun U H H1 hk h => ?_, fun u U H hv h => ?_⟩
  · obtain ⟨h1, h2, h3, h4, h5⟩ := h
    exact ⟨fun q hq => va_Nw.warmM hW (h1 q hq), h2.moved hW.alike, h3.moved hW.alike, h4.moved hW.alike, fun i hi => (h5 i hi).warm hW⟩
  · obtain ⟨h1, h2, h3, h4, h5⟩ := h
    exact ⟨h1, h2.kept hk, h3.kept hk, h4.kept hk, h5⟩
  · obtain ⟨h1, h2, h3, h4, h5⟩ := h
    have ha : u.vm.Alike U.vm := hv ▸ Vm.Alike.refl u.vm
    exact ⟨fun q hq => va_Nw.same rfl hv (h1 q hq), h2.moved ha, h3.moved ha, h4.moved ha, fun i hi => (h5 i hi).same hv.symm⟩
section STRS
variable {M : MX} {G : GX} {own : String} {cc : ByteArray} {nL : Nat} {ret : Option FieldType} {rm : Room} {Z : State → Prop} {pc : Nat} {L L' : List (Nat × Value)} {S : List Value} {w : Mem} {z : Int32 × Mem}
theorem bw_ldcS (C : BC M G shX 71 (eX G) RX5 cc nL ret rm) {index : Nat} (i : Nat) (hi : i < 12) (hx : idxJS.getD i 0 = index) (hdg : decode cc pc = .ok (.ldc index, 2)) (k : BW M G shX 71 nL Z (pc + 2) L (.ref (gaK G i) :: S) w) : BW M G shX 71 nL Z pc L S w := by
  subst hx
  exact fun H locs ls hP hS hl => va_ldcS C.1 C.2.1 C.2.2.2.1 (C.2.2.2.2.2.2.2.2.2.1.2.2.2.2 i hi) hdg (k H locs ls hP hS hl)
end STRS
