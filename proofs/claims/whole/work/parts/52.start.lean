def tmJS (i : Nat) : Term := .string RX5 (idxJS.getD i 0)
abbrev gvn : Cond := Jvm.Cond.and given_1 narrow_1
theorem sg_ex : ∀ i, i < 12 → Cond.exactly (tmJS i) "java/lang/String" ∈ flatC gvn := by decide +kernel
theorem sg_co : ∀ i, i < 12 → Cond.eq (.field (tmJS i) "java/lang/String" "coder" "B") (.int 0) ∈ flatC gvn := by decide +kernel
theorem sg_ar : ∀ i, i < 12 → Cond.arrayOf (.field (tmJS i) "java/lang/String" "value" "[B") .byte ∈ flatC gvn := by decide +kernel
theorem sg_le : ∀ i, i < 12 → Cond.eq (.length (.field (tmJS i) "java/lang/String" "value" "[B")) (.int (Int32.ofNat (lenJS.getD i 0))) ∈ flatC gvn := by decide +kernel
theorem sg_el : ∀ i, i < 12 → ∀ j, j < lenJS.getD i 0 → Cond.eq (.elem (.field (tmJS i) "java/lang/String" "value" "[B") (.int (Int32.ofNat j))) (.int ((bytJS.getD i []).getD j 0)) ∈ flatC gvn := by decide +kernel
theorem sg_ne : ∀ i, i < 12 → ∀ j, j < 12 → i ≠ j → (Cond.not (Cond.eq (tmJS i) (tmJS j)) ∈ flatC gvn ∨ Cond.not (Cond.eq (tmJS j) (tmJS i)) ∈ flatC gvn) := by decide +kernel
theorem sg_cs : Cond.eq (.static "java/lang/String" "COMPACT_STRINGS" "Z") (.int 1) ∈ flatC gvn := by decide +kernel
theorem sg_sf : Cond.isRef (.static "jdk/internal/util/Preconditions" "SIOOBE_FORMATTER" "Ljava/util/function/BiFunction;") ∈ flatC gvn := by decide +kernel
theorem ts_all : ∀ i, i < 12 → Cond.stringRef RX5 (idxJS.getD i 0) (txtJS.getD i "") ∈ lw_tbl := by
  intro i hi
  match i, hi with
  | 0, _ => exact ts_0
  | 1, _ => exact ts_1
  | 2, _ => exact ts_2
  | 3, _ => exact ts_3
  | 4, _ => exact ts_4
  | 5, _ => exact ts_5
  | 6, _ => exact ts_6
  | 7, _ => exact ts_7
  | 8, _ => exact ts_8
  | 9, _ => exact ts_9
  | 10, _ => exact ts_10
  | 11, _ => exact ts_11
  | n + 12, h => omega
theorem tn_all : ∀ q ∈ Nst, Cond.methodLinkNest q.1 q.2.1 q.2.2.1 q.2.2.2 ∈ lw_tbl := List.forall_mem_cons.mpr ⟨tn_0, List.forall_mem_cons.mpr ⟨tn_1, List.forall_mem_cons.mpr ⟨tn_2, List.forall_mem_cons.mpr ⟨tn_3, List.forall_mem_cons.mpr ⟨tn_4, List.forall_mem_cons.mpr ⟨tn_5, List.forall_mem_cons.mpr ⟨tn_6, List.forall_mem_cons.mpr ⟨tn_7, List.forall_mem_cons.mpr ⟨tn_8, List.forall_mem_cons.mpr ⟨tn_9, List.forall_mem_cons.mpr ⟨tn_10, fun _ h => absurd h List.not_mem_nil⟩⟩⟩⟩⟩⟩⟩⟩⟩⟩⟩
theorem arr_prim {s : State} {args : Array Value} {ty : FieldType} (hp : refKind ty = false) (h : (Cond.arrayClass ty).before args s = true) : ∃ cA : ClassId, ArrOfT s cA ty ∧ va_RA s cA ty := by
  obtain ⟨cA, k, comp, h1, h2, h3⟩ := Cond.arrayClass_spec h
  refine ⟨cA, fun n z => ⟨fun k h => (by cases h), k, h2, comp, h3⟩, ?_⟩
  cases ty <;> first | exact h1 | cases hp
theorem arr_obj {s : State} {args : Array Value} {Cn : String} (h : (Cond.arrayOver (.object Cn)).before args s = true) : ∃ cA : ClassId, ArrOfT s cA (.object Cn) ∧ va_RA s cA (.object Cn) := by
  obtain ⟨comp, cA, k, h1, h2, h3, h4, h5⟩ := Cond.arrayOver_spec h
  exact ⟨cA, fun n z => ⟨fun k h => (by cases h), k, h3, comp, h4⟩, k, comp, h3, h4, h1, h5⟩
set_option maxHeartbeats 4000000 in
set_option maxRecDepth 100000 in
theorem whole_open {RR : Mem → Mem → Prop} (hs : SIM RR) (h0 : ∀ x m : Mem, x0ok x → m0ok m → RR x m) {p : Program} {e : Env} {s : State} {m : MethodId} {below : List Frame} {meth : Method} {c : Code} (l : Launch) {b L : Nat} {xs : Nat → Int32} (hL : L ≤ 2560) (C0 : lw_At p s m meth c b L xs) : W p l e room_1 s m #[Value.ref b] below meth c s.heap [] 0 0 (lw_Z below #[Value.ref b] s) (entryFrame m ([Value.ref b] : List Value).toArray 4) := by
  obtain ⟨hx, hb, hr, hml, hown, hts0, hX, hbl, hlocks, hgv⟩ := C0
  have hts : ∀ w ∈ wsL_law, w.before #[Value.ref b] s = true := fun w h => hts0 w (wsL_law_in w h)
  have hg := flat_of_before _ hgv
  have hAs : ∀ a : Nat, a < s.heap.size → ¬ (fun q : Nat => s.heap.size ≤ q) a := fun a h => Nat.not_le.mpr h
  obtain ⟨c0, i0, k0⟩ := u_known (C := RX0) (T := TX0) (N := 5) (n := 5) hts inlX0 (hts _ insX0)
  obtain ⟨c1, i1, k1⟩ := u_known (C := RX1) (T := TX1) (N := 5) (n := 5) hts inlX1 (hts _ insX1)
  obtain ⟨c2, i2, k2⟩ := u_known (C := RX2) (T := TX2) (N := 5) (n := 5) hts inlX2 (hts _ insX2)
  obtain ⟨c3, i3, k3⟩ := u_known (C := RX3) (T := TX3) (N := 3) (n := 3) hts inlX3 (hts _ insX3)
  obtain ⟨c4, i4, k4⟩ := u_known (C := RX4) (T := TX4) (N := 2) (n := 2) hts inlX4 (hts _ insX4)
  obtain ⟨c5, i5, k5⟩ := u_known (C := RX5) (T := TX5) (N := 11) (n := 11) hts inlX5 (hts _ insX5)
  obtain ⟨c6, i6, k6⟩ := u_known (C := RX6) (T := TX6) (N := 15) (n := 15) hts inlX6 (hts _ insX6)
  obtain ⟨c7, i7, k7⟩ := u_known (C := RX7) (T := TX7) (N := 10) (n := 10) hts inlX7 (hts _ insX7)
  obtain ⟨c8, i8, k8⟩ := u_known (C := RX8) (T := TX8) (N := 38) (n := 38) hts inlX8 (hts _ insX8)
  obtain ⟨a0, p0, q0⟩ := arr_prim (ty := .int) rfl (hts _ acl_int)
  obtain ⟨a1, p1, q1⟩ := arr_prim (ty := .byte) rfl (hts _ acl_byte)
  obtain ⟨a2, p2, q2⟩ := arr_prim (ty := .boolean) rfl (hts _ acl_boolean)
  obtain ⟨a3, p3, q3⟩ := arr_obj (Cn := "SilenceCoin$Town") (hts0 _ tw_town)
  obtain ⟨a4, p4, q4⟩ := arr_obj (Cn := "SilenceCoin$Sheet") (hts0 _ tw_sheet)
  obtain ⟨adK, adV, hvk, hev⟩ := vk_Sof (N := 12) (tm := tmJS) (len := lenJS) (byt := bytJS) (A := fun q : Nat => s.heap.size ≤ q) (args := #[Value.ref b]) (s := s) len_small (fun i hi => hg _ (sg_ex i hi)) (fun i hi => hg _ (sg_co i hi)) (fun i hi => hg _ (sg_ar i hi)) (fun i hi => hg _ (sg_le i hi)) (fun i hi j hj => hg _ (sg_el i hi j hj)) (fun i j hi hj hij => (sg_ne i hi j hj hij).elim (fun h => Or.inl (hg _ h)) (fun h => Or.inr (hg _ h))) hAs
  have hcs : va_Z "java/lang/String" "COMPACT_STRINGS" "Z" (.int 1) (fun q : Nat => s.heap.size ≤ q) s s.heap := va_Zof (hts0 _ tw_cs) (hts0 _ tw_is) (va_eqi (hg _ sg_cs)) hAs
  have hsf : va_Zq "jdk/internal/util/Preconditions" "SIOOBE_FORMATTER" "Ljava/util/function/BiFunction;" (fun q : Nat => s.heap.size ≤ q) s s.heap := va_Zqof (hts0 _ tw_sf) (hts0 _ tw_ip) (hg _ sg_sf) hAs
  have hnst : NstOK s := fun q hq => va_Nw.of rfl (hts0 _ (tn_all q hq))
  obtain ⟨M, hM⟩ : ∃ M : MX, M = (p, l, e, room_1, s, m, #[Value.ref b], below, meth, c) := ⟨_, rfl⟩
  obtain ⟨G, hG⟩ : ∃ G : GX, G = (((fun k => [c0, c1, c2, c3, c4, c5, c6, c7, c8].getD k c0), (fun k => [i0, i1, i2, i3, i4, i5, i6, i7, i8].getD k i0)), (fun k => [a0, a1, a2, a3, a4].getD k a0), (fun _ => 0), adK, adV) := ⟨_, rfl⟩
  have hKc : ∀ (k : Nat) (q : vw_C), vwCl[k]? = some q → u_Kn s q.1 q.2.1 q.2.2 (G.1.1 k) (G.1.2 k) := by
    intro k q hq
    rw [hG]
    match k, hq with
    | 0, hq => cases hq; exact k0
    | 1, hq => cases hq; exact k1
    | 2, hq => cases hq; exact k2
    | 3, hq => cases hq; exact k3
    | 4, hq => cases hq; exact k4
    | 5, hq => cases hq; exact k5
    | 6, hq => cases hq; exact k6
    | 7, hq => cases hq; exact k7
    | 8, hq => cases hq; exact k8
    | k + 9, hq => simp [vwCl] at hq
  have hK : va_K G.1 vwCl (tysG G) s := by
    refine ⟨hKc, fun k q hq => ?_⟩
    rw [hG] at hq
    match k, hq with
    | 0, hq => cases hq; exact ⟨p0, q0⟩
    | 1, hq => cases hq; exact ⟨p1, q1⟩
    | 2, hq => cases hq; exact ⟨p2, q2⟩
    | 3, hq => cases hq; exact ⟨p3, q3⟩
    | 4, hq => cases hq; exact ⟨p4, q4⟩
    | k + 5, hq => simp [tysG] at hq
  have hE : eK s := ⟨hnst, va_AO.of (hts0 _ tw_town), va_AO.of (hts0 _ tw_sheet)⟩
  have CX : CC M G (AL M) RL code 4 ret room_1 := by
    rw [hM]
    exact ⟨hx, hb, hml, hown, hts, hr, hlocks, hK, fun _ h => h, hE, rfl⟩
  have hl := lv_entry ([.ref b]) (n := 4) (Nat.le_of_ble_eq_true rfl)
  rw [lg_entry_eq]
  have key : CW M G (AL M) 4 (lw_Z below #[Value.ref b] s) 0 0 0 [(0, .ref b)] [] [] := by
    refine cw_new CX [.null, .null, .null, .null, .null, .null, .null, .null, .null, .int 0] inlX7 tyX7 tyX7_ok cllL_7 insX7 iniX7 (ci := 7) rfl dvX7 (by decide) (by decide) dL_law_0 (fun h7 => ?_)
    refine cw_dup CX dL_law_3 rfl ?_
    refine cw_callI CX (As := []) (ws0 := []) miX7_init mlL_9 imX7_init rfl (by decide) rfl rfl (kcX7 (h := h7)) rfl (Nat.le_of_ble_eq_true rfl) rfl rfl (by decide) dL_law_4 (fun ws1 hp1 => ?_)
    obtain ⟨adx, x, rfl, hx0, rfl⟩ := hp1
    refine cw_astore_n CX [(1, .ref (adx 0)), (0, .ref b)] dL_law_7 rfl (by decide) rfl ?_
    refine cw_new CX [.null, .null, .int 0, .int 0, .null, .null, .int 0, .int 0, .int 0, .int 0, .int 0, .int 0, .null, .null, .int 0, .int 0, .int 0, .int 0, .int 0, .int 0, .int 0, .int 0, .null, .null, .null, .null, .int 0, .null, .null, .null, .null, .int 0, .int 0, .null, .null, .null, .null, .int 0] inlX8 tyX8 tyX8_ok cllL_10 insX8 iniX8 (ci := 8) rfl dvX8 (by decide) (by decide) dL_law_8 (fun h8 => ?_)
    refine cw_dup CX dL_law_11 rfl ?_
    refine cw_callI CX (As := []) (ws0 := [] ++ wl (gd G adx) shX 71 x) miX8_init mlL_12 imX8_init rfl (by decide) rfl rfl (kcX8 (h := h8)) rfl (Nat.le_of_ble_eq_true rfl) rfl rfl (by decide) dL_law_12 (fun ws1 hp1 => ?_)
    obtain ⟨adm, mm, rfl, hm0, rfl⟩ := hp1
    refine cw_astore_n CX [(2, .ref (adm 0)), (1, .ref (adx 0)), (0, .ref b)] dL_law_15 rfl (by decide) rfl ?_
    refine cw_iconst CX (v := 0) dL_law_16 (by decide) ?_
    refine cw_istore_n CX [(3, .int 0), (2, .ref (adm 0)), (1, .ref (adx 0)), (0, .ref b)] dL_law_17 rfl (by decide) rfl ?_
    refine cw_widen (c' := 600000) (s' := 7302250) (by decide) (by decide) ?_
    intro H locs ls hP hD hS hl
    have lenX : (wl (gd G adx) shX 71 x).length = 71 := by simp [wl]
    have atX : ∀ i, i < 71 → ([] ++ wl (gd G adx) shX 71 x ++ wl (gd G adm) shM 19 mm)[i]? = some (adx i, ce (gd G adx) (shX i) (x i)) := fun i hi => by
      rw [List.nil_append, List.getElem?_append_left (by rw [lenX]; exact hi)]
      exact wl_get hi
    have atM : ∀ i, i < 19 → ([] ++ wl (gd G adx) shX 71 x ++ wl (gd G adm) shM 19 mm)[71 + i]? = some (adm i, ce (gd G adm) (shM i) (mm i)) := fun i hi => by
      rw [List.nil_append, List.getElem?_append_right (by rw [lenX]; omega), lenX, show 71 + i - 71 = i by omega]
      exact wl_get hi
    have hPX : va_P G.1 vwCl (wl (gd G adx) shX 71 x) H := fun k q hq => by
      have hk : k < 71 := by
        have := (List.getElem?_eq_some_iff.mp hq).1
        rw [lenX] at this
        exact this
      rw [wl_get hk] at hq
      cases hq
      exact hP k _ (atX k hk)
    have hPM : va_P G.1 vwCl (wl (gd G adm) shM 19 mm) H := fun k q hq => by
      have hk : k < 19 := by
        have := (List.getElem?_eq_some_iff.mp hq).1
        simpa [wl] using this
      rw [wl_get hk] at hq
      cases hq
      exact hP (71 + k) _ (atM k hk)
    have loX : ∀ i, i < 71 → s.heap.size ≤ adx i := fun i hi => by
      have := hD.2 i _ (atX i hi)
      rw [hM] at this
      exact this
    have hAX : ∀ q, AX (gd G adx) 71 q → s.heap.size ≤ q := fun q ⟨k, h1, h2⟩ => by rw [h2]; exact loX k h1
    have C : LC M G adx adm b L xs := by
      refine ⟨CX.1, CX.2.1, CX.2.2.1, CX.2.2.2.1, CX.2.2.2.2.1, CX.2.2.2.2.2.2.2.1, CX.2.2.2.2.2.2.2.2.2.2, by rw [hM]; exact hX, by rw [hM]; exact hbl, fun i j h1 h2 e => hD.1 i j _ _ (atX i h1) (atX j h2) e, fun i j h1 h2 e => ?_, fun i hi => hD.2 i _ (atX i hi), fun i hi => hD.2 (71 + i) _ (atM i hi), fun i j h1 h2 e => ?_, ?_⟩
      · have := hD.1 (71 + i) (71 + j) _ _ (atM i h1) (atM j h2) e
        omega
      · have := hD.1 i (71 + j) _ _ (atX i h1) (atM j h2) e
        omega
      · rw [hM, hG]
        rw [hG] at hAX
        exact ⟨hnst, hvk.narrow hAX, hcs.narrow hAX, hsf.narrow hAX, fun i hi => vk_R.of (hts0 _ (ts_all i hi)) (hev i hi)⟩
    have hend : ∀ x m : Mem, ∀ {L : List (Nat × Value)}, LW M G adx adm (lw_Z below #[Value.ref b] s) 1426 L [] x m := by
      intro x m L
      refine lw_iconst C (v := 1) dL_law_1426 (by decide) ?_
      intro H locs ls hX hM2 hS hl
      rw [hM] at hS ⊢
      refine va_forget (fun q hq => hS.2.2 q hq) ?_
      exact lw_ret hx hb hr hlocks dL_law_1427
    exact lw_sub [3, 2, 1, 0] rfl (law_loop hL C hs hend (L + 1) 0 x mm (Nat.zero_le L) (by omega) (h0 x mm hx0 hm0)) H locs ls hPX hPM hS hl
  rw [hM] at key
  exact key s.heap [] _ (fun k q h => by simp at h) ⟨fun i j p q h => by simp at h, fun k q h => by simp at h⟩ va_S.rf hl
