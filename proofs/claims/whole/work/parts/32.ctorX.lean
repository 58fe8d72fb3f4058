/-- what an array of references holds, by a list -/
def lk (l : List (Option Nat)) : Nat → Option Nat := fun i => l.getD i none
theorem lk_none (n : Nat) : (fun _ => none : Nat → Option Nat) = lk (List.replicate n none) := by
  funext i
  simp [lk, List.getD_eq_getElem?_getD, List.getElem?_replicate]
  split <;> rfl
theorem lk_up (l : List (Option Nat)) (i : Nat) (v : Option Nat) (h : i < l.length) : va_up (lk l) i v = lk (l.set i v) := by
  funext j
  simp only [va_up, lk, List.getD_eq_getElem?_getD, List.getElem?_set]
  by_cases hj : j = i
  · subst hj
    simp [h]
  · have hj' : ¬ i = j := fun q => hj q.symm
    simp [hj, hj']
def ce2 (G : GX) (sp : Shp) (f : Nat → Int32) : va_E := match sp with
  | .inl o => .inr (o.1, fvs (gad G) o.2 f)
  | .inr (.inl a) => .inl (G.2.1 a.1, a.2, .inl f)
  | .inr (.inr a) => .inl (G.2.1 a.1, a.2.length, .inr (.inr (.inr (.inr (lk (a.2.map (fun t => some (gad G t))))))))
theorem ce_ce2 (G : GX) (sp : Shp) (f : Nat → Int32) : ce G sp f = ce2 G sp f := by
  match sp with
  | .inl o => rfl
  | .inr (.inl a) => rfl
  | .inr (.inr a) =>
    have e : (fun i => (a.2[i]?).map (gad G)) = lk (a.2.map (fun t => some (gad G t))) := by
      funext i
      simp only [lk, List.getD_eq_getElem?_getD, List.getElem?_map]
      cases a.2[i]? <;> rfl
    show (.inl (G.2.1 a.1, a.2.length, .inr (.inr (.inr (.inr (fun i => (a.2[i]?).map (gad G)))))) : va_E) = _
    rw [e]
    rfl
def wl2 (G : GX) (sh : Nat → Shp) (N : Nat) (w : Mem) : va_W := (List.range N).map (fun k => (gad G k, ce2 G (sh k) (w k)))
theorem wl_wl2 (G : GX) (sh : Nat → Shp) (N : Nat) (w : Mem) : wl2 G sh N w = wl G sh N w := by
  unfold wl wl2
  congr 1
  funext k
  rw [ce_ce2]
def stL (l : List (Nat × Int32)) : Nat → Int32 := l.foldl (fun f p => upd f p.1 p.2) (fun _ => 0)
section CT2
variable {M : MX} {G : GX} {A : Nat → Prop} {own : String} {cc : ByteArray} {nL : Nat} {ret : Option FieldType} {rm : Room} {Z : State → Prop} {c s pc : Nat} {L L' : List (Nat × Value)} {S : List Value} {ws ws' : va_W}
theorem cw_newq2 (C : CC M G A own cc nL ret rm) {Cn : String} {index : Nat} (tg : Nat) (N' : Nat) {n : Int32} (hcl : Cond.classLink own index Cn ∈ wsL_law) (hov : va_AO Cn (mS M)) (htg : (tysG G)[tg]? = some (G.2.1 tg, .object Cn)) (hn : ¬ n < 0) (hN : n.toNatClampNeg = N') (hbytes : N' * 4 ≤ 536870912) (hc : c + 1 ≤ rm.cells) (hs : s + N' ≤ rm.slots) (hdg : decode cc pc = .ok (.anewarray index, 3))
    (kk : ∀ q : Nat, CW M G A nL Z (c + 1) (s + N') (pc + 3) L (.ref q :: S) (ws ++ [(q, .inl (G.2.1 tg, N', .inr (.inr (.inr (.inr (lk (List.replicate N' none)))))))])) : CW M G A nL Z c s pc L (.int n :: S) ws :=
  cw_newq C tg N' hcl hov htg hn hN hbytes hc hs hdg (fun q => by have := kk q; rw [← lk_none] at this; exact this)
theorem cw_astq2 (C : CC M G A own cc nL ret rm) {a n ci v : Nat} {l : List (Option Nat)} {i : Int32} {r : vw_C} {vs : List Value} (q0 qk tg : Nat) (ha : ws[q0]? = some (a, .inl (G.2.1 tg, n, .inr (.inr (.inr (.inr (lk l))))))) (ht : (tysG G)[tg]? = some (G.2.1 tg, .object r.1)) (hv : ws[qk]? = some (v, .inr (ci, vs))) (hc : vwCl[ci]? = some r) (hi : ib i n = true) (hil : i.toNatClampNeg < l.length) (hdg : decode cc pc = .ok (.aastore, 1)) (kk : CW M G A nL Z c s (pc + 1) L S (ws.set q0 (a, .inl (G.2.1 tg, n, .inr (.inr (.inr (.inr (lk (l.set i.toNatClampNeg (some v)))))))))) : CW M G A nL Z c s pc L (.ref v :: .int i :: .ref a :: S) ws :=
  cw_astq C q0 qk tg ha ht hv hc hi hdg (by rw [lk_up _ _ _ hil]; exact kk)
end CT2
section CT3
variable {M : MX} {G : GX} {A : Nat → Prop} {nL : Nat} {Z : State → Prop} {c s pc : Nat} {L : List (Nat × Value)} {S : List Value}
/-- the last cell comes to the second place -/
theorem cw_front {x y : Nat × va_E} {R : va_W} (k : CW M G A nL Z c s pc L S (x :: y :: R)) : CW M G A nL Z c s pc L S (x :: (R ++ [y])) := by
  intro H locs ls hP hD hS hl
  have key : ∀ (i : Nat) (q : Nat × va_E), (x :: y :: R)[i]? = some q → ∃ j : Nat, (x :: (R ++ [y]))[j]? = some q ∧ (i = 0 → j = 0) ∧ (i = 1 → j = R.length + 1) ∧ (2 ≤ i → j + 1 = i ∧ j < R.length + 1) := by
    intro i q h
    match i, h with
    | 0, h => exact ⟨0, h, fun _ => rfl, fun q => by omega, fun q => by omega⟩
    | 1, h => exact ⟨R.length + 1, by simpa using h, fun q => by omega, fun _ => rfl, fun q => by omega⟩
    | i + 2, h =>
      have h2 : R[i]? = some q := by simpa using h
      have hi := (List.getElem?_eq_some_iff.mp h2).1
      refine ⟨i + 1, ?_, fun q => by omega, fun q => by omega, fun _ => ⟨by omega, by omega⟩⟩
      show (R ++ [y])[i]? = some q
      rw [List.getElem?_append_left hi]
      exact h2
  refine k H locs ls (fun i q h => ?_) ⟨fun i j p q h1 h2 e => ?_, fun i q h => ?_⟩ hS hl
  · obtain ⟨j, hj, -⟩ := key i q h
    exact hP j q hj
  · obtain ⟨a, ha, a0, a1, a2⟩ := key i p h1
    obtain ⟨b, hb, b0, b1, b2⟩ := key j q h2
    have hab := hD.1 a b p q ha hb e
    rcases Nat.lt_or_ge i 2 with hi | hi
    · rcases (show i = 0 ∨ i = 1 by omega) with hi | hi
      · have := a0 hi
        rcases Nat.lt_or_ge j 2 with hj | hj
        · rcases (show j = 0 ∨ j = 1 by omega) with hj | hj
          · omega
          · have := b1 hj
            omega
        · have := b2 hj
          omega
      · have := a1 hi
        rcases Nat.lt_or_ge j 2 with hj | hj
        · rcases (show j = 0 ∨ j = 1 by omega) with hj | hj
          · have := b0 hj
            omega
          · omega
        · have := b2 hj
          omega
    · have := a2 hi
      rcases Nat.lt_or_ge j 2 with hj | hj
      · rcases (show j = 0 ∨ j = 1 by omega) with hj | hj
        · have := b0 hj
          omega
        · have := b1 hj
          omega
      · have := b2 hj
        omega
  · obtain ⟨j, hj, -⟩ := key i q h
    exact hD.2 j q hj
theorem at_app {x y : Nat × va_E} {R W : va_W} {q : Nat × va_E} (h : W[0]? = some q) : (x :: y :: (R ++ W))[R.length + 2]? = some q := by
  show (R ++ W)[R.length]? = some q
  rw [List.getElem?_append_right (Nat.le_refl _)]
  simpa using h
end CT3

def poX5 (G : GX) (h t : Nat) (ws : va_W) : Prop := ∃ (ad : Nat → Nat) (w : Mem), (w 0 0 = 0 ∧ w 0 4 = 0 ∧ w 0 9 = 0 ∧ w 0 13 = 0 ∧ w 0 14 = 1) ∧ ws = (h, .inr (5, [.ref (ad 0), .int 0, .int 0, .int 0, .ref t, .int 0, .int 0, .int 0, .int 0, .int 0, .int 0])) :: wl (gd G ad) shT 11 w
def rkX5 : Room := { frames := 4, cells := 11, slots := 87, locals := 80 }
theorem kcX5 {l : Launch} {G : GX} {h t : Nat} : KM l G yX5_init cX5_init 2 rkX5 h 5 [.null, .int 0, .int 0, .int 0, .null, .int 0, .int 0, .int 0, .int 0, .int 0, .int 0] [.ref t] 11 87 (poX5 G h t) := by
  refine km_of (by decide +kernel) rfl rfl (Nat.le_of_ble_eq_true rfl) (fun M hM C hin => ?_)
  subst hM
  refine cw_aload_n C 0 dX5_init_0 rfl rfl ?_
  refine cw_objInit C mlX5_3 oi_im oi_cd (by decide) (Nat.le_of_ble_eq_true rfl) dX5_init_1 ?_
  refine cw_aload_n C 0 dX5_init_4 rfl rfl ?_
  refine cw_new C [.int 0, .null, .null, .null, .int 0, .null, .null, .null, .null, .int 0, .null, .null, .null, .int 0, .int 0] inlX6 tyX6 tyX6_ok cllX5_9 insX6 iniX6 (ci := 6) rfl dvX6 (by decide) (by decide) dX5_init_5 (fun q1 => ?_)
  refine cw_dup C dX5_init_8 rfl ?_
  refine cw_callI C (As := []) miX6_init mlX5_11 imX6_init rfl (by decide) rfl rfl (kcX6 (h := q1)) rfl (Nat.le_of_ble_eq_true rfl) rfl rfl (by decide) dX5_init_9 (fun ws1 hp1 => ?_)
  obtain ⟨ad, w, rfl, hf, rfl⟩ := hp1
  refine cw_putF C hin (j := 0) (ty := .object "SilenceCoin$Town") 0 rfl rfl inlX5 (by decide) tyX5 tyX5_ok nmX5 flX5_12 rfl rfl (by decide +kernel) rfl rfl (Nat.le_of_ble_eq_true rfl) dX5_init_12 ?_
  refine cw_aload_n C 0 dX5_init_15 rfl rfl ?_
  refine cw_aload_n C 1 dX5_init_16 rfl rfl ?_
  refine cw_putF C hin (j := 4) (ty := .object "SilenceCoin$Tape") 0 rfl rfl inlX5 (by decide) tyX5 tyX5_ok nmX5 flX5_18 rfl rfl (by decide +kernel) rfl rfl (Nat.le_of_ble_eq_true rfl) dX5_init_17 ?_
  refine cw_widen (c' := 11) (s' := 87) (by decide) (by decide) ?_
  exact cw_vret C dX5_init_20 ⟨ad, w, hf, rfl⟩
def x0ok (w : Mem) : Prop := w 1 0 = 0 ∧ w 1 4 = 0 ∧ w 1 9 = 0 ∧ w 1 13 = 0 ∧ w 1 14 = 1 ∧ w 53 1 = 0 ∧ w 55 2 = 0 ∧ w 56 0 = 0 ∧ w 64 0 = 0 ∧ w 69 0 = 0 ∧ w 69 1 = 0 ∧ w 0 9 = 0 ∧ (w 45 1 = 0 ∧ w 45 2 = -4) ∧ (w 47 1 = 0 ∧ w 47 2 = -4) ∧ (w 49 1 = 0 ∧ w 49 2 = -4) ∧ (w 51 1 = 0 ∧ w 51 2 = -4)
def poX7 (G : GX) (h : Nat) (ws : va_W) : Prop := ∃ (ad : Nat → Nat) (w : Mem), ad 0 = h ∧ x0ok w ∧ ws = wl (gd G ad) shX 71 w
def rkX7 : Room := { frames := 5, cells := 70, slots := 998, locals := 101 }
set_option maxHeartbeats 4000000 in
set_option maxRecDepth 100000 in
theorem kcX7 {l : Launch} {G : GX} {h : Nat} : KM l G yX7_init cX7_init 2 rkX7 h 7 [.null, .null, .null, .null, .null, .null, .null, .null, .null, .int 0] [] 70 998 (poX7 G h) := by
  refine km_of (by decide +kernel) rfl rfl (Nat.le_of_ble_eq_true rfl) (fun M hM C hin => ?_)
  subst hM
  refine cw_aload_n C 0 dX7_init_0 rfl rfl ?_
  refine cw_objInit C mlX7_1 oi_im oi_cd (by decide) (Nat.le_of_ble_eq_true rfl) dX7_init_1 ?_
  refine cw_aload_n C 0 dX7_init_4 rfl rfl ?_
  refine cw_new C [.null, .int 0] inlX4 tyX4 tyX4_ok cllX7_7 insX4 iniX4 (ci := 4) rfl dvX4 (by decide) (by decide) dX7_init_5 (fun p1 => ?_)
  refine cw_dup C dX7_init_8 rfl ?_
  refine cw_callIN C (As := []) (ws0 := (h, .inr (7, [.null, .null, .null, .null, .null, .null, .null, .null, .null, .int 0])) :: []) miX4_init (nstAt C.2.2.2.2.2.2.2.2.2.1.1 0 rfl) imX4_init rfl (by decide) rfl rfl (kcX4 (h := p1)) rfl (Nat.le_of_ble_eq_true rfl) rfl rfl (by decide) dX7_init_9 (fun ws1 hp1 => ?_)
  obtain ⟨p2, rfl⟩ := hp1
  obtain ⟨R1, eR1⟩ : ∃ R : va_W, R = [] ++ [(p1, .inr (4, [.ref p2, .int 0])), (p2, .inl (G.2.1 1, 320, .inl (fun _ => 0)))] := ⟨_, rfl⟩
  refine cw_ws (ws' := (h, .inr (7, [.null, .null, .null, .null, .null, .null, .null, .null, .null, .int 0])) :: R1) (by rw [eR1]; rfl) ?_
  refine cw_putF C hin (j := 0) (ty := .object "SilenceCoin$Tape") 0 rfl rfl inlX7 (by decide) tyX7 tyX7_ok nmX7 flX7_10 rfl rfl (by decide +kernel) rfl rfl (Nat.le_of_ble_eq_true rfl) dX7_init_12 ?_
  refine cw_ws (ws' := (h, .inr (7, [.ref p1, .null, .null, .null, .null, .null, .null, .null, .null, .int 0])) :: R1) rfl ?_
  refine cw_aload_n C 0 dX7_init_15 rfl rfl ?_
  refine cw_new C [.null, .int 0, .int 0, .int 0, .null, .int 0, .int 0, .int 0, .int 0, .int 0, .int 0] inlX5 tyX5 tyX5_ok cllX7_16 insX5 iniX5 (ci := 5) rfl dvX5 (by decide) (by decide) dX7_init_16 (fun p3 => ?_)
  refine cw_dup C dX7_init_19 rfl ?_
  refine cw_aload_n C 0 dX7_init_20 rfl rfl ?_
  refine cw_get C (j := 0) 0 rfl rfl inlX7 (by decide) flX7_10 rfl dX7_init_21 ?_
  refine cw_callI C (As := [.ref p1]) (ws0 := (h, .inr (7, [.ref p1, .null, .null, .null, .null, .null, .null, .null, .null, .int 0])) :: R1) miX5_init mlX7_18 imX5_init rfl (by decide) rfl rfl (kcX5 (h := p3) (t := p1)) rfl (Nat.le_of_ble_eq_true rfl) rfl rfl (by decide) dX7_init_24 (fun ws1 hp1 => ?_)
  obtain ⟨ad2, w2, hf2, rfl⟩ := hp1
  obtain ⟨R2, eR2⟩ : ∃ R : va_W, R = R1 ++ ((p3, .inr (5, [.ref (ad2 0), .int 0, .int 0, .int 0, .ref p1, .int 0, .int 0, .int 0, .int 0, .int 0, .int 0])) :: wl (gd G ad2) shT 11 w2) := ⟨_, rfl⟩
  refine cw_ws (ws' := (h, .inr (7, [.ref p1, .null, .null, .null, .null, .null, .null, .null, .null, .int 0])) :: R2) (by rw [eR2]; rfl) ?_
  refine cw_putF C hin (j := 1) (ty := .object "SilenceCoin$TextReader") 0 rfl rfl inlX7 (by decide) tyX7 tyX7_ok nmX7 flX7_21 rfl rfl (by decide +kernel) rfl rfl (Nat.le_of_ble_eq_true rfl) dX7_init_27 ?_
  refine cw_ws (ws' := (h, .inr (7, [.ref p1, .ref p3, .null, .null, .null, .null, .null, .null, .null, .int 0])) :: R2) rfl ?_
  refine cw_aload_n C 0 dX7_init_30 rfl rfl ?_
  refine cw_new C [.int 0, .null, .null, .null, .int 0, .null, .null, .null, .null, .int 0, .null, .null, .null, .int 0, .int 0] inlX6 tyX6 tyX6_ok cllX7_25 insX6 iniX6 (ci := 6) rfl dvX6 (by decide) (by decide) dX7_init_31 (fun p4 => ?_)
  refine cw_dup C dX7_init_34 rfl ?_
  refine cw_callI C (As := []) (ws0 := (h, .inr (7, [.ref p1, .ref p3, .null, .null, .null, .null, .null, .null, .null, .int 0])) :: R2) miX6_init mlX7_27 imX6_init rfl (by decide) rfl rfl (kcX6 (h := p4)) rfl (Nat.le_of_ble_eq_true rfl) rfl rfl (by decide) dX7_init_35 (fun ws1 hp1 => ?_)
  obtain ⟨ad1, w1, rfl, hf1, rfl⟩ := hp1
  obtain ⟨R3, eR3⟩ : ∃ R : va_W, R = R2 ++ wl (gd G ad1) shT 11 w1 := ⟨_, rfl⟩
  refine cw_ws (ws' := (h, .inr (7, [.ref p1, .ref p3, .null, .null, .null, .null, .null, .null, .null, .int 0])) :: R3) (by rw [eR3]; rfl) ?_
  refine cw_putF C hin (j := 2) (ty := .object "SilenceCoin$Town") 0 rfl rfl inlX7 (by decide) tyX7 tyX7_ok nmX7 flX7_28 rfl rfl (by decide +kernel) rfl rfl (Nat.le_of_ble_eq_true rfl) dX7_init_38 ?_
  refine cw_ws (ws' := (h, .inr (7, [.ref p1, .ref p3, .ref (ad1 0), .null, .null, .null, .null, .null, .null, .int 0])) :: R3) rfl ?_
  refine cw_aload_n C 0 dX7_init_41 rfl rfl ?_
  refine cw_new C [.int 0, .null, .null, .null, .null] inlX2 tyX2 tyX2_ok cllX7_32 insX2 iniX2 (ci := 2) rfl dvX2 (by decide) (by decide) dX7_init_42 (fun p5 => ?_)
  refine cw_dup C dX7_init_45 rfl ?_
  refine cw_aload_n C 0 dX7_init_46 rfl rfl ?_
  refine cw_get C (j := 2) 0 rfl rfl inlX7 (by decide) flX7_28 rfl dX7_init_47 ?_
  refine cw_callI C (As := [.ref (ad1 0)]) (ws0 := (h, .inr (7, [.ref p1, .ref p3, .ref (ad1 0), .null, .null, .null, .null, .null, .null, .int 0])) :: R3) miX2_init mlX7_34 imX2_init rfl (by decide) rfl rfl (kcX2 (h := p5) (t := (ad1 0))) rfl (Nat.le_of_ble_eq_true rfl) rfl rfl (by decide) dX7_init_50 (fun ws1 hp1 => ?_)
  obtain ⟨p6, p7, p8, rfl⟩ := hp1
  obtain ⟨R4, eR4⟩ : ∃ R : va_W, R = R3 ++ [(p5, .inr (2, [.int 0, .ref p6, .ref p7, .ref (ad1 0), .ref p8])), (p6, .inl (G.2.1 0, 6, .inl (fun _ => 0))), (p7, .inl (G.2.1 2, 6, .inl (fun _ => 0))), (p8, .inl (G.2.1 0, 12, .inl (fun _ => 0)))] := ⟨_, rfl⟩
  refine cw_ws (ws' := (h, .inr (7, [.ref p1, .ref p3, .ref (ad1 0), .null, .null, .null, .null, .null, .null, .int 0])) :: R4) (by rw [eR4]; rfl) ?_
  refine cw_putF C hin (j := 3) (ty := .object "SilenceCoin$Rumours") 0 rfl rfl inlX7 (by decide) tyX7 tyX7_ok nmX7 flX7_37 rfl rfl (by decide +kernel) rfl rfl (Nat.le_of_ble_eq_true rfl) dX7_init_53 ?_
  refine cw_ws (ws' := (h, .inr (7, [.ref p1, .ref p3, .ref (ad1 0), .ref p5, .null, .null, .null, .null, .null, .int 0])) :: R4) rfl ?_
  refine cw_aload_n C 0 dX7_init_56 rfl rfl ?_
  refine cw_new C [.int 0, .null, .null, .null, .null] inlX0 tyX0 tyX0_ok cllX7_41 insX0 iniX0 (ci := 0) rfl dvX0 (by decide) (by decide) dX7_init_57 (fun p9 => ?_)
  refine cw_dup C dX7_init_60 rfl ?_
  refine cw_aload_n C 0 dX7_init_61 rfl rfl ?_
  refine cw_get C (j := 2) 0 rfl rfl inlX7 (by decide) flX7_28 rfl dX7_init_62 ?_
  refine cw_callI C (As := [.ref (ad1 0)]) (ws0 := (h, .inr (7, [.ref p1, .ref p3, .ref (ad1 0), .ref p5, .null, .null, .null, .null, .null, .int 0])) :: R4) miX0_init mlX7_43 imX0_init rfl (by decide) rfl rfl (kcX0 (h := p9) (t := (ad1 0))) rfl (Nat.le_of_ble_eq_true rfl) rfl rfl (by decide) dX7_init_65 (fun ws1 hp1 => ?_)
  obtain ⟨p10, p11, p12, rfl⟩ := hp1
  obtain ⟨R5, eR5⟩ : ∃ R : va_W, R = R4 ++ [(p9, .inr (0, [.int 0, .ref p10, .ref (ad1 0), .ref p11, .ref p12])), (p10, .inl (G.2.1 0, 6, .inl (fun _ => 0))), (p11, .inl (G.2.1 0, 6, .inl (fun _ => 0))), (p12, .inl (G.2.1 0, 6, .inl (fun _ => 0)))] := ⟨_, rfl⟩
  refine cw_ws (ws' := (h, .inr (7, [.ref p1, .ref p3, .ref (ad1 0), .ref p5, .null, .null, .null, .null, .null, .int 0])) :: R5) (by rw [eR5]; rfl) ?_
  refine cw_putF C hin (j := 4) (ty := .object "SilenceCoin$Funeral") 0 rfl rfl inlX7 (by decide) tyX7 tyX7_ok nmX7 flX7_44 rfl rfl (by decide +kernel) rfl rfl (Nat.le_of_ble_eq_true rfl) dX7_init_68 ?_
  refine cw_ws (ws' := (h, .inr (7, [.ref p1, .ref p3, .ref (ad1 0), .ref p5, .ref p9, .null, .null, .null, .null, .int 0])) :: R5) rfl ?_
  refine cw_aload_n C 0 dX7_init_71 rfl rfl ?_
  refine cw_new C [.int 0, .int 0, .null, .null, .null] inlX1 tyX1 tyX1_ok cllX7_48 insX1 iniX1 (ci := 1) rfl dvX1 (by decide) (by decide) dX7_init_72 (fun p13 => ?_)
  refine cw_dup C dX7_init_75 rfl ?_
  refine cw_callIN C (As := []) (ws0 := (h, .inr (7, [.ref p1, .ref p3, .ref (ad1 0), .ref p5, .ref p9, .null, .null, .null, .null, .int 0])) :: R5) miX1_init (nstAt C.2.2.2.2.2.2.2.2.2.1.1 1 rfl) imX1_init rfl (by decide) rfl rfl (kcX1 (h := p13)) rfl (Nat.le_of_ble_eq_true rfl) rfl rfl (by decide) dX7_init_76 (fun ws1 hp1 => ?_)
  obtain ⟨p14, p15, p16, rfl⟩ := hp1
  obtain ⟨R6, eR6⟩ : ∃ R : va_W, R = R5 ++ [(p13, .inr (1, [.int 0, .int 0, .ref p14, .ref p15, .ref p16])), (p14, .inl (G.2.1 0, 64, .inl (fun _ => 0))), (p15, .inl (G.2.1 0, 8, .inl (fun _ => 0))), (p16, .inl (G.2.1 2, 8, .inl (fun _ => 0)))] := ⟨_, rfl⟩
  refine cw_ws (ws' := (h, .inr (7, [.ref p1, .ref p3, .ref (ad1 0), .ref p5, .ref p9, .null, .null, .null, .null, .int 0])) :: R6) (by rw [eR6]; rfl) ?_
  refine cw_putF C hin (j := 5) (ty := .object "SilenceCoin$Hisses") 0 rfl rfl inlX7 (by decide) tyX7 tyX7_ok nmX7 flX7_51 rfl rfl (by decide +kernel) rfl rfl (Nat.le_of_ble_eq_true rfl) dX7_init_79 ?_
  refine cw_ws (ws' := (h, .inr (7, [.ref p1, .ref p3, .ref (ad1 0), .ref p5, .ref p9, .ref p13, .null, .null, .null, .int 0])) :: R6) rfl ?_
  refine cw_aload_n C 0 dX7_init_82 rfl rfl ?_
  refine cw_iconst C (v := 2) dX7_init_83 (by decide) ?_
  refine cw_newq2 C 3 2 cllX7_25 C.2.2.2.2.2.2.2.2.2.1.2.1 rfl (by decide) (by decide) (by decide) (by decide) (by decide) dX7_init_84 (fun p17 => ?_)
  refine cw_front (R := R6) (y := (p17, .inl (G.2.1 3, 2, .inr (.inr (.inr (.inr (lk [none, none]))))))) ?_
  refine cw_putF C hin (j := 6) (ty := .array (.object "SilenceCoin$Town")) 0 rfl rfl inlX7 (by decide) tyX7 tyX7_ok nmX7 flX7_55 rfl rfl (by decide +kernel) rfl rfl (Nat.le_of_ble_eq_true rfl) dX7_init_87 ?_
  refine cw_ws (ws' := (h, .inr (7, [.ref p1, .ref p3, .ref (ad1 0), .ref p5, .ref p9, .ref p13, .ref p17, .null, .null, .int 0])) :: (p17, .inl (G.2.1 3, 2, .inr (.inr (.inr (.inr (lk [none, none])))))) :: R6) rfl ?_
  refine cw_iconst C (v := 0) dX7_init_90 (by decide) ?_
  refine cw_istore_n C [(1, .int 0), (0, .ref h)] dX7_init_91 rfl (by decide) rfl ?_
  refine cw_iload_n C 0 dX7_init_92 rfl rfl ?_
  refine cw_iconst C (v := 2) dX7_init_93 (by decide) ?_
  refine cw_ge_f C 116 dX7_init_94 (by decide) (by decide) ?_
  refine cw_aload_n C 1 dX7_init_97 rfl rfl ?_
  refine cw_get C (j := 6) 0 rfl rfl inlX7 (by decide) flX7_55 rfl dX7_init_98 ?_
  refine cw_iload_n C 0 dX7_init_101 rfl rfl ?_
  refine cw_new C [.int 0, .null, .null, .null, .int 0, .null, .null, .null, .null, .int 0, .null, .null, .null, .int 0, .int 0] inlX6 tyX6 tyX6_ok cllX7_25 insX6 iniX6 (ci := 6) rfl dvX6 (by decide) (by decide) dX7_init_102 (fun p18 => ?_)
  refine cw_dup C dX7_init_105 rfl ?_
  refine cw_callI C (As := []) (ws0 := (h, .inr (7, [.ref p1, .ref p3, .ref (ad1 0), .ref p5, .ref p9, .ref p13, .ref p17, .null, .null, .int 0])) :: (p17, .inl (G.2.1 3, 2, .inr (.inr (.inr (.inr (lk [none, none])))))) :: R6) miX6_init mlX7_27 imX6_init rfl (by decide) rfl rfl (kcX6 (h := p18)) rfl (Nat.le_of_ble_eq_true rfl) rfl rfl (by decide) dX7_init_106 (fun ws1 hp1 => ?_)
  obtain ⟨ad3, w3, rfl, hf3, rfl⟩ := hp1
  refine cw_astq2 C (l := [none, none]) 1 (R6.length + 2) 3 rfl rfl (at_app rfl) (ci := 6) rfl (by decide) (Nat.le_of_ble_eq_true rfl) dX7_init_109 ?_
  obtain ⟨R7, eR7⟩ : ∃ R : va_W, R = R6 ++ wl (gd G ad3) shT 11 w3 := ⟨_, rfl⟩
  refine cw_ws (ws' := (h, .inr (7, [.ref p1, .ref p3, .ref (ad1 0), .ref p5, .ref p9, .ref p13, .ref p17, .null, .null, .int 0])) :: (p17, .inl (G.2.1 3, 2, .inr (.inr (.inr (.inr (lk [some (ad3 0), none])))))) :: R7) (by rw [eR7]; rfl) ?_
  refine cw_iinc C (v := 1) [(1, .int 1), (0, .ref h)] 0 dX7_init_110 rfl (by decide) (by decide) rfl ?_
  refine cw_goto C (tgt := 92) dX7_init_113 (by decide) ?_
  refine cw_iload_n C 0 dX7_init_92 rfl rfl ?_
  refine cw_iconst C (v := 2) dX7_init_93 (by decide) ?_
  refine cw_ge_f C 116 dX7_init_94 (by decide) (by decide) ?_
  refine cw_aload_n C 1 dX7_init_97 rfl rfl ?_
  refine cw_get C (j := 6) 0 rfl rfl inlX7 (by decide) flX7_55 rfl dX7_init_98 ?_
  refine cw_iload_n C 0 dX7_init_101 rfl rfl ?_
  refine cw_new C [.int 0, .null, .null, .null, .int 0, .null, .null, .null, .null, .int 0, .null, .null, .null, .int 0, .int 0] inlX6 tyX6 tyX6_ok cllX7_25 insX6 iniX6 (ci := 6) rfl dvX6 (by decide) (by decide) dX7_init_102 (fun p19 => ?_)
  refine cw_dup C dX7_init_105 rfl ?_
  refine cw_callI C (As := []) (ws0 := (h, .inr (7, [.ref p1, .ref p3, .ref (ad1 0), .ref p5, .ref p9, .ref p13, .ref p17, .null, .null, .int 0])) :: (p17, .inl (G.2.1 3, 2, .inr (.inr (.inr (.inr (lk [some (ad3 0), none])))))) :: R7) miX6_init mlX7_27 imX6_init rfl (by decide) rfl rfl (kcX6 (h := p19)) rfl (Nat.le_of_ble_eq_true rfl) rfl rfl (by decide) dX7_init_106 (fun ws1 hp1 => ?_)
  obtain ⟨ad4, w4, rfl, hf4, rfl⟩ := hp1
  refine cw_astq2 C (l := [some (ad3 0), none]) 1 (R7.length + 2) 3 rfl rfl (at_app rfl) (ci := 6) rfl (by decide) (Nat.le_of_ble_eq_true rfl) dX7_init_109 ?_
  obtain ⟨R8, eR8⟩ : ∃ R : va_W, R = R7 ++ wl (gd G ad4) shT 11 w4 := ⟨_, rfl⟩
  refine cw_ws (ws' := (h, .inr (7, [.ref p1, .ref p3, .ref (ad1 0), .ref p5, .ref p9, .ref p13, .ref p17, .null, .null, .int 0])) :: (p17, .inl (G.2.1 3, 2, .inr (.inr (.inr (.inr (lk [some (ad3 0), some (ad4 0)])))))) :: R8) (by rw [eR8]; rfl) ?_
  refine cw_iinc C (v := 2) [(1, .int 2), (0, .ref h)] 0 dX7_init_110 rfl (by decide) (by decide) rfl ?_
  refine cw_goto C (tgt := 92) dX7_init_113 (by decide) ?_
  refine cw_iload_n C 0 dX7_init_92 rfl rfl ?_
  refine cw_iconst C (v := 2) dX7_init_93 (by decide) ?_
  refine cw_ge_t C (tgt := 116) dX7_init_94 (by decide) (by decide) ?_
  refine cw_aload_n C 1 dX7_init_116 rfl rfl ?_
  refine cw_iconst C (v := 2) dX7_init_117 (by decide) ?_
  refine cw_newa C (atype := .boolean) 2 2 acl_boolean rfl rfl (fun _ => rfl) (by decide) (by decide) (by decide) (by decide) (by decide) dX7_init_118 (fun p20 => ?_)
  obtain ⟨R9, eR9⟩ : ∃ R : va_W, R = R8 ++ [(p20, .inl (G.2.1 2, 2, .inl (fun _ => 0)))] := ⟨_, rfl⟩
  refine cw_ws (ws' := (h, .inr (7, [.ref p1, .ref p3, .ref (ad1 0), .ref p5, .ref p9, .ref p13, .ref p17, .null, .null, .int 0])) :: (p17, .inl (G.2.1 3, 2, .inr (.inr (.inr (.inr (lk [some (ad3 0), some (ad4 0)])))))) :: R9) (by rw [eR9]; rfl) ?_
  refine cw_putF C hin (j := 7) (ty := .array .boolean) 0 rfl rfl inlX7 (by decide) tyX7 tyX7_ok nmX7 flX7_59 rfl rfl (by decide +kernel) rfl rfl (Nat.le_of_ble_eq_true rfl) dX7_init_120 ?_
  refine cw_ws (ws' := (h, .inr (7, [.ref p1, .ref p3, .ref (ad1 0), .ref p5, .ref p9, .ref p13, .ref p17, .ref p20, .null, .int 0])) :: (p17, .inl (G.2.1 3, 2, .inr (.inr (.inr (.inr (lk [some (ad3 0), some (ad4 0)])))))) :: R9) rfl ?_
  refine cw_aload_n C 1 dX7_init_123 rfl rfl ?_
  refine cw_iconst C (v := 4) dX7_init_124 (by decide) ?_
  refine cw_newq2 C 4 4 cllX7_63 C.2.2.2.2.2.2.2.2.2.1.2.2 rfl (by decide) (by decide) (by decide) (by decide) (by decide) dX7_init_125 (fun p21 => ?_)
  obtain ⟨R10, eR10⟩ : ∃ R : va_W, R = (p17, .inl (G.2.1 3, 2, .inr (.inr (.inr (.inr (lk [some (ad3 0), some (ad4 0)])))))) :: R9 := ⟨_, rfl⟩
  refine cw_ws (ws' := (h, .inr (7, [.ref p1, .ref p3, .ref (ad1 0), .ref p5, .ref p9, .ref p13, .ref p17, .ref p20, .null, .int 0])) :: (R10 ++ [(p21, .inl (G.2.1 4, 4, .inr (.inr (.inr (.inr (lk [none, none, none, none]))))))])) (by rw [eR10]; rfl) ?_
  refine cw_front ?_
  refine cw_putF C hin (j := 8) (ty := .array (.object "SilenceCoin$Sheet")) 0 rfl rfl inlX7 (by decide) tyX7 tyX7_ok nmX7 flX7_65 rfl rfl (by decide +kernel) rfl rfl (Nat.le_of_ble_eq_true rfl) dX7_init_128 ?_
  refine cw_ws (ws' := (h, .inr (7, [.ref p1, .ref p3, .ref (ad1 0), .ref p5, .ref p9, .ref p13, .ref p17, .ref p20, .ref p21, .int 0])) :: (p21, .inl (G.2.1 4, 4, .inr (.inr (.inr (.inr (lk [none, none, none, none])))))) :: R10) rfl ?_
  refine cw_iconst C (v := 0) dX7_init_131 (by decide) ?_
  refine cw_istore_n C [(1, .int 0), (0, .ref h)] dX7_init_132 rfl (by decide) rfl ?_
  refine cw_iload_n C 0 dX7_init_133 rfl rfl ?_
  refine cw_iconst C (v := 4) dX7_init_134 (by decide) ?_
  refine cw_ge_f C 157 dX7_init_135 (by decide) (by decide) ?_
  refine cw_aload_n C 1 dX7_init_138 rfl rfl ?_
  refine cw_get C (j := 8) 0 rfl rfl inlX7 (by decide) flX7_65 rfl dX7_init_139 ?_
  refine cw_iload_n C 0 dX7_init_142 rfl rfl ?_
  refine cw_new C [.null, .int 0, .int 0] inlX3 tyX3 tyX3_ok cllX7_63 insX3 iniX3 (ci := 3) rfl dvX3 (by decide) (by decide) dX7_init_143 (fun r0 => ?_)
  refine cw_dup C dX7_init_146 rfl ?_
  refine cw_callIN C (As := []) (ws0 := (h, .inr (7, [.ref p1, .ref p3, .ref (ad1 0), .ref p5, .ref p9, .ref p13, .ref p17, .ref p20, .ref p21, .int 0])) :: (p21, .inl (G.2.1 4, 4, .inr (.inr (.inr (.inr (lk [none, none, none, none])))))) :: R10) miX3_init (nstAt C.2.2.2.2.2.2.2.2.2.1.1 2 rfl) imX3_init rfl (by decide) rfl rfl (kcX3 (h := r0)) rfl (Nat.le_of_ble_eq_true rfl) rfl rfl (by decide) dX7_init_147 (fun ws1 hp1 => ?_)
  obtain ⟨u0, rfl⟩ := hp1
  refine cw_astq2 C (l := [none, none, none, none]) 1 (R10.length + 2) 4 rfl rfl (at_app rfl) (ci := 3) rfl (by decide) (Nat.le_of_ble_eq_true rfl) dX7_init_150 ?_
  obtain ⟨R11, eR11⟩ : ∃ R : va_W, R = R10 ++ [(r0, .inr (3, [.ref u0, .int 0, .int (-4)])), (u0, .inl (G.2.1 0, 40, .inl (fun _ => 0)))] := ⟨_, rfl⟩
  refine cw_ws (ws' := (h, .inr (7, [.ref p1, .ref p3, .ref (ad1 0), .ref p5, .ref p9, .ref p13, .ref p17, .ref p20, .ref p21, .int 0])) :: (p21, .inl (G.2.1 4, 4, .inr (.inr (.inr (.inr (lk [some r0, none, none, none])))))) :: R11) (by rw [eR11]; rfl) ?_
  refine cw_iinc C (v := 1) [(1, .int 1), (0, .ref h)] 0 dX7_init_151 rfl (by decide) (by decide) rfl ?_
  refine cw_goto C (tgt := 133) dX7_init_154 (by decide) ?_
  refine cw_iload_n C 0 dX7_init_133 rfl rfl ?_
  refine cw_iconst C (v := 4) dX7_init_134 (by decide) ?_
  refine cw_ge_f C 157 dX7_init_135 (by decide) (by decide) ?_
  refine cw_aload_n C 1 dX7_init_138 rfl rfl ?_
  refine cw_get C (j := 8) 0 rfl rfl inlX7 (by decide) flX7_65 rfl dX7_init_139 ?_
  refine cw_iload_n C 0 dX7_init_142 rfl rfl ?_
  refine cw_new C [.null, .int 0, .int 0] inlX3 tyX3 tyX3_ok cllX7_63 insX3 iniX3 (ci := 3) rfl dvX3 (by decide) (by decide) dX7_init_143 (fun r1 => ?_)
  refine cw_dup C dX7_init_146 rfl ?_
  refine cw_callIN C (As := []) (ws0 := (h, .inr (7, [.ref p1, .ref p3, .ref (ad1 0), .ref p5, .ref p9, .ref p13, .ref p17, .ref p20, .ref p21, .int 0])) :: (p21, .inl (G.2.1 4, 4, .inr (.inr (.inr (.inr (lk [some r0, none, none, none])))))) :: R11) miX3_init (nstAt C.2.2.2.2.2.2.2.2.2.1.1 2 rfl) imX3_init rfl (by decide) rfl rfl (kcX3 (h := r1)) rfl (Nat.le_of_ble_eq_true rfl) rfl rfl (by decide) dX7_init_147 (fun ws1 hp1 => ?_)
  obtain ⟨u1, rfl⟩ := hp1
  refine cw_astq2 C (l := [some r0, none, none, none]) 1 (R11.length + 2) 4 rfl rfl (at_app rfl) (ci := 3) rfl (by decide) (Nat.le_of_ble_eq_true rfl) dX7_init_150 ?_
  obtain ⟨R12, eR12⟩ : ∃ R : va_W, R = R11 ++ [(r1, .inr (3, [.ref u1, .int 0, .int (-4)])), (u1, .inl (G.2.1 0, 40, .inl (fun _ => 0)))] := ⟨_, rfl⟩
  refine cw_ws (ws' := (h, .inr (7, [.ref p1, .ref p3, .ref (ad1 0), .ref p5, .ref p9, .ref p13, .ref p17, .ref p20, .ref p21, .int 0])) :: (p21, .inl (G.2.1 4, 4, .inr (.inr (.inr (.inr (lk [some r0, some r1, none, none])))))) :: R12) (by rw [eR12]; rfl) ?_
  refine cw_iinc C (v := 2) [(1, .int 2), (0, .ref h)] 0 dX7_init_151 rfl (by decide) (by decide) rfl ?_
  refine cw_goto C (tgt := 133) dX7_init_154 (by decide) ?_
  refine cw_iload_n C 0 dX7_init_133 rfl rfl ?_
  refine cw_iconst C (v := 4) dX7_init_134 (by decide) ?_
  refine cw_ge_f C 157 dX7_init_135 (by decide) (by decide) ?_
  refine cw_aload_n C 1 dX7_init_138 rfl rfl ?_
  refine cw_get C (j := 8) 0 rfl rfl inlX7 (by decide) flX7_65 rfl dX7_init_139 ?_
  refine cw_iload_n C 0 dX7_init_142 rfl rfl ?_
  refine cw_new C [.null, .int 0, .int 0] inlX3 tyX3 tyX3_ok cllX7_63 insX3 iniX3 (ci := 3) rfl dvX3 (by decide) (by decide) dX7_init_143 (fun r2 => ?_)
  refine cw_dup C dX7_init_146 rfl ?_
  refine cw_callIN C (As := []) (ws0 := (h, .inr (7, [.ref p1, .ref p3, .ref (ad1 0), .ref p5, .ref p9, .ref p13, .ref p17, .ref p20, .ref p21, .int 0])) :: (p21, .inl (G.2.1 4, 4, .inr (.inr (.inr (.inr (lk [some r0, some r1, none, none])))))) :: R12) miX3_init (nstAt C.2.2.2.2.2.2.2.2.2.1.1 2 rfl) imX3_init rfl (by decide) rfl rfl (kcX3 (h := r2)) rfl (Nat.le_of_ble_eq_true rfl) rfl rfl (by decide) dX7_init_147 (fun ws1 hp1 => ?_)
  obtain ⟨u2, rfl⟩ := hp1
  refine cw_astq2 C (l := [some r0, some r1, none, none]) 1 (R12.length + 2) 4 rfl rfl (at_app rfl) (ci := 3) rfl (by decide) (Nat.le_of_ble_eq_true rfl) dX7_init_150 ?_
  obtain ⟨R13, eR13⟩ : ∃ R : va_W, R = R12 ++ [(r2, .inr (3, [.ref u2, .int 0, .int (-4)])), (u2, .inl (G.2.1 0, 40, .inl (fun _ => 0)))] := ⟨_, rfl⟩
  refine cw_ws (ws' := (h, .inr (7, [.ref p1, .ref p3, .ref (ad1 0), .ref p5, .ref p9, .ref p13, .ref p17, .ref p20, .ref p21, .int 0])) :: (p21, .inl (G.2.1 4, 4, .inr (.inr (.inr (.inr (lk [some r0, some r1, some r2, none])))))) :: R13) (by rw [eR13]; rfl) ?_
  refine cw_iinc C (v := 3) [(1, .int 3), (0, .ref h)] 0 dX7_init_151 rfl (by decide) (by decide) rfl ?_
  refine cw_goto C (tgt := 133) dX7_init_154 (by decide) ?_
  refine cw_iload_n C 0 dX7_init_133 rfl rfl ?_
  refine cw_iconst C (v := 4) dX7_init_134 (by decide) ?_
  refine cw_ge_f C 157 dX7_init_135 (by decide) (by decide) ?_
  refine cw_aload_n C 1 dX7_init_138 rfl rfl ?_
  refine cw_get C (j := 8) 0 rfl rfl inlX7 (by decide) flX7_65 rfl dX7_init_139 ?_
  refine cw_iload_n C 0 dX7_init_142 rfl rfl ?_
  refine cw_new C [.null, .int 0, .int 0] inlX3 tyX3 tyX3_ok cllX7_63 insX3 iniX3 (ci := 3) rfl dvX3 (by decide) (by decide) dX7_init_143 (fun r3 => ?_)
  refine cw_dup C dX7_init_146 rfl ?_
  refine cw_callIN C (As := []) (ws0 := (h, .inr (7, [.ref p1, .ref p3, .ref (ad1 0), .ref p5, .ref p9, .ref p13, .ref p17, .ref p20, .ref p21, .int 0])) :: (p21, .inl (G.2.1 4, 4, .inr (.inr (.inr (.inr (lk [some r0, some r1, some r2, none])))))) :: R13) miX3_init (nstAt C.2.2.2.2.2.2.2.2.2.1.1 2 rfl) imX3_init rfl (by decide) rfl rfl (kcX3 (h := r3)) rfl (Nat.le_of_ble_eq_true rfl) rfl rfl (by decide) dX7_init_147 (fun ws1 hp1 => ?_)
  obtain ⟨u3, rfl⟩ := hp1
  refine cw_astq2 C (l := [some r0, some r1, some r2, none]) 1 (R13.length + 2) 4 rfl rfl (at_app rfl) (ci := 3) rfl (by decide) (Nat.le_of_ble_eq_true rfl) dX7_init_150 ?_
  obtain ⟨R14, eR14⟩ : ∃ R : va_W, R = R13 ++ [(r3, .inr (3, [.ref u3, .int 0, .int (-4)])), (u3, .inl (G.2.1 0, 40, .inl (fun _ => 0)))] := ⟨_, rfl⟩
  refine cw_ws (ws' := (h, .inr (7, [.ref p1, .ref p3, .ref (ad1 0), .ref p5, .ref p9, .ref p13, .ref p17, .ref p20, .ref p21, .int 0])) :: (p21, .inl (G.2.1 4, 4, .inr (.inr (.inr (.inr (lk [some r0, some r1, some r2, some r3])))))) :: R14) (by rw [eR14]; rfl) ?_
  refine cw_iinc C (v := 4) [(1, .int 4), (0, .ref h)] 0 dX7_init_151 rfl (by decide) (by decide) rfl ?_
  refine cw_goto C (tgt := 133) dX7_init_154 (by decide) ?_
  refine cw_iload_n C 0 dX7_init_133 rfl rfl ?_
  refine cw_iconst C (v := 4) dX7_init_134 (by decide) ?_
  refine cw_ge_t C (tgt := 157) dX7_init_135 (by decide) (by decide) ?_
  rw [eR14, eR13, eR12, eR11, eR10, eR9, eR8, eR7, eR6, eR5, eR4, eR3, eR2, eR1]
  refine cw_ws (ws' := [(h, .inr (7, [.ref p1, .ref p3, .ref (ad1 0), .ref p5, .ref p9, .ref p13, .ref p17, .ref p20, .ref p21, .int 0])), (p21, .inl (G.2.1 4, 4, .inr (.inr (.inr (.inr (lk [some r0, some r1, some r2, some r3])))))), (p17, .inl (G.2.1 3, 2, .inr (.inr (.inr (.inr (lk [some (ad3 0), some (ad4 0)])))))), (p1, .inr (4, [.ref p2, .int 0])), (p2, .inl (G.2.1 1, 320, .inl (fun _ => 0))), (p3, .inr (5, [.ref (ad2 0), .int 0, .int 0, .int 0, .ref p1, .int 0, .int 0, .int 0, .int 0, .int 0, .int 0])), (ad2 0, .inr (6, [.int (w2 0 0), .ref (ad2 1), .ref (ad2 2), .ref (ad2 3), .int (w2 0 4), .ref (ad2 4), .ref (ad2 5), .ref (ad2 6), .ref (ad2 7), .int (w2 0 9), .ref (ad2 8), .ref (ad2 9), .ref (ad2 10), .int (w2 0 13), .int (w2 0 14)])), (ad2 1, .inl (G.2.1 0, 6, .inl (w2 1))), (ad2 2, .inl (G.2.1 0, 6, .inl (w2 2))), (ad2 3, .inl (G.2.1 0, 6, .inl (w2 3))), (ad2 4, .inl (G.2.1 0, 6, .inl (w2 4))), (ad2 5, .inl (G.2.1 0, 6, .inl (w2 5))), (ad2 6, .inl (G.2.1 2, 6, .inl (w2 6))), (ad2 7, .inl (G.2.1 0, 6, .inl (w2 7))), (ad2 8, .inl (G.2.1 0, 10, .inl (w2 8))), (ad2 9, .inl (G.2.1 0, 10, .inl (w2 9))), (ad2 10, .inl (G.2.1 0, 10, .inl (w2 10))), (ad1 0, .inr (6, [.int (w1 0 0), .ref (ad1 1), .ref (ad1 2), .ref (ad1 3), .int (w1 0 4), .ref (ad1 4), .ref (ad1 5), .ref (ad1 6), .ref (ad1 7), .int (w1 0 9), .ref (ad1 8), .ref (ad1 9), .ref (ad1 10), .int (w1 0 13), .int (w1 0 14)])), (ad1 1, .inl (G.2.1 0, 6, .inl (w1 1))), (ad1 2, .inl (G.2.1 0, 6, .inl (w1 2))), (ad1 3, .inl (G.2.1 0, 6, .inl (w1 3))), (ad1 4, .inl (G.2.1 0, 6, .inl (w1 4))), (ad1 5, .inl (G.2.1 0, 6, .inl (w1 5))), (ad1 6, .inl (G.2.1 2, 6, .inl (w1 6))), (ad1 7, .inl (G.2.1 0, 6, .inl (w1 7))), (ad1 8, .inl (G.2.1 0, 10, .inl (w1 8))), (ad1 9, .inl (G.2.1 0, 10, .inl (w1 9))), (ad1 10, .inl (G.2.1 0, 10, .inl (w1 10))), (p5, .inr (2, [.int 0, .ref p6, .ref p7, .ref (ad1 0), .ref p8])), (p6, .inl (G.2.1 0, 6, .inl (fun _ => 0))), (p7, .inl (G.2.1 2, 6, .inl (fun _ => 0))), (p8, .inl (G.2.1 0, 12, .inl (fun _ => 0))), (p9, .inr (0, [.int 0, .ref p10, .ref (ad1 0), .ref p11, .ref p12])), (p10, .inl (G.2.1 0, 6, .inl (fun _ => 0))), (p11, .inl (G.2.1 0, 6, .inl (fun _ => 0))), (p12, .inl (G.2.1 0, 6, .inl (fun _ => 0))), (p13, .inr (1, [.int 0, .int 0, .ref p14, .ref p15, .ref p16])), (p14, .inl (G.2.1 0, 64, .inl (fun _ => 0))), (p15, .inl (G.2.1 0, 8, .inl (fun _ => 0))), (p16, .inl (G.2.1 2, 8, .inl (fun _ => 0))), (ad3 0, .inr (6, [.int (w3 0 0), .ref (ad3 1), .ref (ad3 2), .ref (ad3 3), .int (w3 0 4), .ref (ad3 4), .ref (ad3 5), .ref (ad3 6), .ref (ad3 7), .int (w3 0 9), .ref (ad3 8), .ref (ad3 9), .ref (ad3 10), .int (w3 0 13), .int (w3 0 14)])), (ad3 1, .inl (G.2.1 0, 6, .inl (w3 1))), (ad3 2, .inl (G.2.1 0, 6, .inl (w3 2))), (ad3 3, .inl (G.2.1 0, 6, .inl (w3 3))), (ad3 4, .inl (G.2.1 0, 6, .inl (w3 4))), (ad3 5, .inl (G.2.1 0, 6, .inl (w3 5))), (ad3 6, .inl (G.2.1 2, 6, .inl (w3 6))), (ad3 7, .inl (G.2.1 0, 6, .inl (w3 7))), (ad3 8, .inl (G.2.1 0, 10, .inl (w3 8))), (ad3 9, .inl (G.2.1 0, 10, .inl (w3 9))), (ad3 10, .inl (G.2.1 0, 10, .inl (w3 10))), (ad4 0, .inr (6, [.int (w4 0 0), .ref (ad4 1), .ref (ad4 2), .ref (ad4 3), .int (w4 0 4), .ref (ad4 4), .ref (ad4 5), .ref (ad4 6), .ref (ad4 7), .int (w4 0 9), .ref (ad4 8), .ref (ad4 9), .ref (ad4 10), .int (w4 0 13), .int (w4 0 14)])), (ad4 1, .inl (G.2.1 0, 6, .inl (w4 1))), (ad4 2, .inl (G.2.1 0, 6, .inl (w4 2))), (ad4 3, .inl (G.2.1 0, 6, .inl (w4 3))), (ad4 4, .inl (G.2.1 0, 6, .inl (w4 4))), (ad4 5, .inl (G.2.1 0, 6, .inl (w4 5))), (ad4 6, .inl (G.2.1 2, 6, .inl (w4 6))), (ad4 7, .inl (G.2.1 0, 6, .inl (w4 7))), (ad4 8, .inl (G.2.1 0, 10, .inl (w4 8))), (ad4 9, .inl (G.2.1 0, 10, .inl (w4 9))), (ad4 10, .inl (G.2.1 0, 10, .inl (w4 10))), (p20, .inl (G.2.1 2, 2, .inl (fun _ => 0))), (r0, .inr (3, [.ref u0, .int 0, .int (-4)])), (u0, .inl (G.2.1 0, 40, .inl (fun _ => 0))), (r1, .inr (3, [.ref u1, .int 0, .int (-4)])), (u1, .inl (G.2.1 0, 40, .inl (fun _ => 0))), (r2, .inr (3, [.ref u2, .int 0, .int (-4)])), (u2, .inl (G.2.1 0, 40, .inl (fun _ => 0))), (r3, .inr (3, [.ref u3, .int 0, .int (-4)])), (u3, .inl (G.2.1 0, 40, .inl (fun _ => 0)))]) rfl ?_
  refine cw_pick [0, 17, 18, 19, 20, 21, 22, 23, 24, 25, 26, 27, 6, 7, 8, 9, 10, 11, 12, 13, 14, 15, 16, 40, 41, 42, 43, 44, 45, 46, 47, 48, 49, 50, 51, 52, 53, 54, 55, 56, 57, 58, 59, 60, 61, 63, 64, 65, 66, 67, 68, 69, 70, 3, 4, 5, 28, 29, 30, 31, 32, 33, 34, 35, 36, 37, 38, 39, 2, 62, 1] (by decide +kernel) (ws' := wl2 (gd G (fun k => [h, ad1 0, ad1 1, ad1 2, ad1 3, ad1 4, ad1 5, ad1 6, ad1 7, ad1 8, ad1 9, ad1 10, ad2 0, ad2 1, ad2 2, ad2 3, ad2 4, ad2 5, ad2 6, ad2 7, ad2 8, ad2 9, ad2 10, ad3 0, ad3 1, ad3 2, ad3 3, ad3 4, ad3 5, ad3 6, ad3 7, ad3 8, ad3 9, ad3 10, ad4 0, ad4 1, ad4 2, ad4 3, ad4 4, ad4 5, ad4 6, ad4 7, ad4 8, ad4 9, ad4 10, r0, u0, r1, u1, r2, u2, r3, u3, p1, p2, p3, p5, p6, p7, p8, p9, p10, p11, p12, p13, p14, p15, p16, p17, p20, p21].getD k 0)) shX 71 (fun k => [(fun _ => 0), w1 0, w1 1, w1 2, w1 3, w1 4, w1 5, w1 6, w1 7, w1 8, w1 9, w1 10, w2 0, w2 1, w2 2, w2 3, w2 4, w2 5, w2 6, w2 7, w2 8, w2 9, w2 10, w3 0, w3 1, w3 2, w3 3, w3 4, w3 5, w3 6, w3 7, w3 8, w3 9, w3 10, w4 0, w4 1, w4 2, w4 3, w4 4, w4 5, w4 6, w4 7, w4 8, w4 9, w4 10, (stL [(2, -4)]), (fun _ => 0), (stL [(2, -4)]), (fun _ => 0), (stL [(2, -4)]), (fun _ => 0), (stL [(2, -4)]), (fun _ => 0), (fun _ => 0), (fun _ => 0), (fun _ => 0), (fun _ => 0), (fun _ => 0), (fun _ => 0), (fun _ => 0), (fun _ => 0), (fun _ => 0), (fun _ => 0), (fun _ => 0), (fun _ => 0), (fun _ => 0), (fun _ => 0), (fun _ => 0), (fun _ => 0), (fun _ => 0), (fun _ => 0)].getD k (fun _ => 0))) rfl ?_
  rw [wl_wl2]
  refine cw_widen (c' := 70) (s' := 998) (by decide) (by decide) ?_
  exact cw_vret C dX7_init_157 ⟨_, _, rfl, ⟨hf1.1, hf1.2.1, hf1.2.2.1, hf1.2.2.2.1, hf1.2.2.2.2, rfl, rfl, rfl, rfl, rfl, rfl, rfl, ⟨rfl, rfl⟩, ⟨rfl, rfl⟩, ⟨rfl, rfl⟩, ⟨rfl, rfl⟩⟩, rfl⟩
