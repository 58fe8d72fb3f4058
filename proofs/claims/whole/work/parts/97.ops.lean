/-! text: a spend's line -/
theorem x_spentD {x : Mem} {c v : Nat} (hc : c < 6) (hv : v ≤ 12) (h : x 19 c = spc v) : fn6_isSpent 12 (nI c) x = some (bI (decide (v ≠ 0)), x) := by
  unfold fn6_isSpent
  rw [if_pos (ib_y (by omega) (by omega)), cl_n (by omega), show 12 + 7 = 19 from rfl, h]
  unfold spc
  by_cases e : v = 0
  · rw [if_pos e, decide_eq_false (fun z => z e)]
    rfl
  · rw [if_neg e, decide_eq_true e, if_neg (n_neg4 (by omega))]
    rfl
theorem DD_spend {x m : Mem} {lw fe to np nc nk ho sp hc v h : Nat} (d1 : dS x m lw fe to) (d2 : dP x m np) (d3 : dC x m nc ho) (d4 : dT x m nk ho) (d5 : dU x m sp hc) (d6 : dH x m nc nk ho) (hv : v < 6) (hh : h < 12) : DD (up2 x 19 v (nI h)) (up2 (up2 (up2 m 0 9 (nI (sp ||| 2 ^ v))) 0 11 (nI (max hc (v + 1)) - 1)) 5 v (nI (h + 1))) := by
  have X : ∀ k, k ≠ 19 → up2 x 19 v (nI h) k = x k := fun k hk => up2_cell hk
  have M : ∀ k, k ≠ 0 → k ≠ 5 → up2 (up2 (up2 m 0 9 (nI (sp ||| 2 ^ v))) 0 11 (nI (max hc (v + 1)) - 1)) 5 v (nI (h + 1)) k = m k := fun k h1 h2 => by rw [up2_cell h2, up2_cell h1, up2_cell h1]
  have M0 : ∀ j, j ≠ 9 → j ≠ 11 → up2 (up2 (up2 m 0 9 (nI (sp ||| 2 ^ v))) 0 11 (nI (max hc (v + 1)) - 1)) 5 v (nI (h + 1)) 0 j = m 0 j := fun j h1 h2 => by rw [up2_cell (by omega), up2_place h2, up2_place h1]
  refine ⟨lw, fe, to, np, nc, nk, ho, sp ||| 2 ^ v, max hc (v + 1), dS_k d1 (by rw [X 12 (by omega)]) (by rw [X 12 (by omega)]) (by rw [X 55 (by omega)]) (by rw [X 55 (by omega)]) (by rw [M 3 (by omega) (by omega)]) (by rw [M 3 (by omega) (by omega)]) (M0 _ (by omega) (by omega)), dP_k d2 (by rw [X 12 (by omega)]) (X _ (by omega)) (X _ (by omega)) (X _ (by omega)) (M0 _ (by omega) (by omega)) (M _ (by omega) (by omega)), dC_k d3 (by rw [X 12 (by omega)]) (X _ (by omega)) (X _ (by omega)) (X _ (by omega)) (M0 _ (by omega) (by omega)) (fun j _ => by rw [M 3 (by omega) (by omega)]), dT_k d4 (by rw [X 12 (by omega)]) (X _ (by omega)) (X _ (by omega)) (X _ (by omega)) (by rw [M 3 (by omega) (by omega)]) (fun j _ _ => by rw [M 3 (by omega) (by omega)]), ?_, dH_k d6 (X _ (by omega)) (X _ (by omega)) (X _ (by omega)) (M0 _ (by omega) (by omega))⟩
  obtain ⟨u1, u2, u3, u4, u5, u6⟩ := d5
  refine ⟨to_lt u1 hv, ?_, by omega, ?_, fun c hcc => ?_, ?_⟩
  · rw [up2_cell (by omega), up2_place (by omega), up2_same]
  · rw [up2_cell (by omega), up2_same]
  · by_cases e : c = v
    · subst e
      refine ⟨h + 1, by omega, ?_, up2_same, ?_, fun _ => by omega⟩
      · rw [up2_same]
        unfold spc
        rw [if_neg (by omega)]
        rfl
      · rw [to_bit, decide_eq_true rfl, decide_eq_true (show h + 1 ≠ 0 by omega), Bool.or_true]
    · obtain ⟨w, w1, w2, w3, w4, w5⟩ := u5 c hcc
      refine ⟨w, w1, ?_, ?_, ?_, fun z => ?_⟩
      · rw [up2_place e]; exact w2
      · rw [up2_place e, up2_cell (by omega), up2_cell (by omega)]; exact w3
      · rw [to_bit, decide_eq_false (show ¬ v = c by omega), Bool.or_false]; exact w4
      · have := w5 z
        omega
  · right
    by_cases e : v + 1 ≥ hc
    · rw [Nat.max_eq_right e, to_bit, decide_eq_true (show v = v + 1 - 1 by omega), Bool.or_true]
    · rw [Nat.max_eq_left (by omega), to_bit]
      rcases u6 with u6 | u6
      · omega
      · rw [u6, Bool.true_or]
theorem more_B {m : Mem} {e p : Nat} {u : Int32} {t0 : Int32} (h : BR m e p) (he : 1 ≤ e ∧ e ≤ 9) : ∃ m', fn8_readMore_86 (nI 0) t0 (up2 m 0 9 u) = some (0, m') ∧ BR m' e p ∧ ZM m m' := by
  unfold fn8_readMore_86
  have hB : BR (up2 (up2 m 0 9 u) 0 11 t0) e p := BR_u (BR_u h (by omega)) (by omega)
  rw [m_otherB hB he]
  simp only [bp]
  rw [if_pos (show ib (nI 0) 6 = true by decide)]
  exact ⟨_, rfl, BR_u hB (by omega), ZM_u (ZM_u (ZM_u (ZM_rf m) (by omega)) (by omega)) (by omega)⟩
theorem line_spend {x m : Mem} {t : Nat → Nat} {n s : Nat} (S : JS x m t n s) (hk : kdT t n s ≠ 0) (D : DD x m) : LR (fn5_readSpend x) (lineM 4 (fn8_readMore 4) m) x m t n s := by
  obtain ⟨lw, fe, to, np, nc, nk, ho, sp, hc, d1, d2, d3, d4, d5, d6⟩ := D
  obtain ⟨e1, e2, e3, e4, e5, e6, e7, e8, e9, e10⟩ := id d1
  obtain ⟨u1, u2, u3, u4, u5, u6⟩ := id d5
  have hn := S.1.1
  have hd := hd_in (t := t) S.2.2.1
  obtain ⟨m1, g1, g2, g0, g3⟩ := line_open (f := fn8_readMore 4) S e8 e7 (by omega) room_4 hk
  unfold fn5_readSpend
  rw [g3]
  have y1 : ZM m m1 := ZM_tr (ZM_u (ZM_rf m) (by omega)) (ZM_F g1)
  cases eo : okT t n (bhT t n s)
  · obtain ⟨x1, p, f1, f2, f3, f4, f5⟩ := num_f (lo := 0) (hi := 5) g2 (by omega) (by omega) eo
    have f3' : fn5_readNumber 0 5 x = some (0, x1) := f3
    rw [f3', if_neg (show ¬ (false = true) by simp)]
    exact ⟨x1, m1, ZX_F f1, y1, rfl, Or.inl ⟨1, p, by omega, f2, rfl, f4, f5⟩⟩
  · rw [if_pos rfl]
    have m19 : m1 0 9 = nI sp := by
      rw [g1.2 9 (by omega), up2_place (by omega)]
      exact u2
    obtain ⟨x1, m2, f1, f2, f3⟩ := num_j (lo := 0) (hi := 5) (sm := sp) g2 (by omega) (by omega) u1
    have y2 : ZM m m2 := ZM_tr y1 (ZM_F f2)
    unfold fn8_readMore
    rw [if_pos (show ¬ (4 : Int32) = 0 by decide), if_pos (show ¬ (4 : Int32) = 1 by decide), m19]
    have back : ∀ e p, BR m2 e p → 1 ≤ e ∧ e ≤ 9 → ∃ m', ((if nI 0 ≤ ((up2 m2 0 9 ((m2 0 9) ||| ((1 : Int32) <<< (nI 0 &&& 31)))) 0 11) then fn8_readMore_86 (nI 0) ((up2 m2 0 9 ((m2 0 9) ||| ((1 : Int32) <<< (nI 0 &&& 31)))) 0 11) (up2 m2 0 9 ((m2 0 9) ||| ((1 : Int32) <<< (nI 0 &&& 31)))) else fn8_readMore_86 (nI 0) (nI 0) (up2 m2 0 9 ((m2 0 9) ||| ((1 : Int32) <<< (nI 0 &&& 31))))).bind (fun q => fn8_readLine_72 q.2)) = some (0, m') ∧ BR m' e p ∧ ZM m m' := by
      intro e p hB he
      by_cases z : nI 0 ≤ ((up2 m2 0 9 ((m2 0 9) ||| ((1 : Int32) <<< (nI 0 &&& 31)))) 0 11)
      · rw [if_pos z]
        obtain ⟨m', w1, w2, w3⟩ := more_B (u := (m2 0 9) ||| ((1 : Int32) <<< (nI 0 &&& 31))) (t0 := (up2 m2 0 9 ((m2 0 9) ||| ((1 : Int32) <<< (nI 0 &&& 31)))) 0 11) hB he
        rw [w1]
        simp only [bp]
        exact ⟨m', m_72B w2 he, w2, ZM_tr y2 w3⟩
      · rw [if_neg z]
        obtain ⟨m', w1, w2, w3⟩ := more_B (u := (m2 0 9) ||| ((1 : Int32) <<< (nI 0 &&& 31))) (t0 := nI 0) hB he
        rw [w1]
        simp only [bp]
        exact ⟨m', m_72B w2 he, w2, ZM_tr y2 w3⟩
    rcases f3 with ⟨e, p, he, hp, q1, q2, q3, q4⟩ | ⟨v, v1, v2, q1, q2, q3⟩
    · have q1' : fn5_readNumber 0 5 x = some (0, x1) := q1
      have q2' : fn8_other 0 5 (nI sp) m1 = some (nI 0, m2) := q2
      rw [q1', q2']
      simp only [bp]
      obtain ⟨m', w1, w2, w3⟩ := back e p q4 he
      rw [w1]
      exact ⟨x1, m', ZX_F f1, w3, rfl, Or.inl ⟨e, p, he, hp, rfl, q3, w2⟩⟩
    · obtain ⟨w, w1, w2, w3, w4, w5⟩ := u5 v (by omega)
      have q1' : fn5_readNumber 0 5 x = some (1, x1) := q1
      have x19 : x1 19 v = spc w := by
        rw [f1.1 19 (by omega)]
        exact w2
      rw [q1']
      simp only [bp]
      rw [if_pos n10, q2, x_spentD (by omega) w1 x19]
      simp only [bp]
      rcases q3 with ⟨q3, q4, p, q5, q6, q7⟩ | ⟨q3, q4, s', q5, q6⟩
      · have q4' : fn8_other 0 5 (nI sp) m1 = some (nI 0, m2) := q4
        rw [← w4, q3, bI_t, if_neg n10, fail_x, q4']
        simp only [bp]
        obtain ⟨m', r1, r2, r3⟩ := back 4 p q7 (by omega)
        rw [r1]
        exact ⟨_, m', ZX_u (ZX_u (ZX_F f1) (by omega)) (by omega), r3, rfl, Or.inl ⟨4, p, by omega, q5, rfl, FA_up rfl q6, r2⟩⟩
      · have q4' : fn8_other 0 5 (nI sp) m1 = some (nI v, m2) := q4
        have hib : ib (nI v) 6 = true := ib_y (by omega) (by omega)
        have m29 : m2 0 9 = nI sp := by
          rw [f2.2 9 (by omega)]
          exact m19
        have m211 : m2 0 11 = nI hc - 1 := by
          rw [f2.2 11 (by omega), g1.2 11 (by omega), up2_place (by omega)]
          exact u4
        have hpw := pow5 (show v < 6 by omega)
        rw [← w4, q3, bI_f, if_pos rfl, q4']
        simp only [bp]
        have J2 : JT x1 (up2 (up2 m2 0 9 (nI (sp ||| 2 ^ v))) 0 11 (nI (max hc (v + 1)) - 1)) t n s' := JT_m (JT_m q6 (by omega)) (by omega)
        have hmore : (if nI v ≤ ((up2 m2 0 9 ((m2 0 9) ||| ((1 : Int32) <<< (nI v &&& 31)))) 0 11) then fn8_readMore_86 (nI v) ((up2 m2 0 9 ((m2 0 9) ||| ((1 : Int32) <<< (nI v &&& 31)))) 0 11) (up2 m2 0 9 ((m2 0 9) ||| ((1 : Int32) <<< (nI v &&& 31)))) else fn8_readMore_86 (nI v) (nI v) (up2 m2 0 9 ((m2 0 9) ||| ((1 : Int32) <<< (nI v &&& 31))))) = (fn8_other 0 11 0 (up2 (up2 m2 0 9 (nI (sp ||| 2 ^ v))) 0 11 (nI (max hc (v + 1)) - 1))).bind (fun q100 => some (0, (up2 q100.2 5 v (1 + q100.1)))) := by
          rw [m29, one_n v (by omega), or_n (by omega) (by omega), up2_place (show 11 ≠ 9 by omega), m211]
          unfold fn8_readMore_86
          simp only [if_pos hib, cl_n (show v < 1048576 by omega)]
          by_cases z : v + 1 ≤ hc
          · rw [if_pos, Nat.max_eq_left z]
            rw [Int32.le_iff_toInt_le, ti_n (by omega), ti_p (by omega)]
            omega
          · rw [if_neg, Nat.max_eq_right (by omega), nI_pred]
            rw [Int32.le_iff_toInt_le, ti_n (by omega), ti_p (by omega)]
            omega
        rw [hmore]
        simp only [if_pos hib, cl_n (show v < 1048576 by omega)]
        obtain ⟨x2, m3, h1, h2, h3⟩ := num_j (lo := 0) (hi := 11) (sm := 0) J2 (by omega) (by omega) (by omega)
        have y3 : ZM m m3 := ZM_tr (ZM_u (ZM_u y2 (by omega)) (by omega)) (ZM_F h2)
        rcases h3 with ⟨e, p, he, hp, r1, r2, r3, r4⟩ | ⟨h, h5, h6, r1, r2, ⟨r3, -⟩ | ⟨r3, r4, s3, r5, r6⟩⟩
        · have r1' : fn5_readNumber 0 11 x1 = some (0, x2) := r1
          have r2' : fn8_other 0 11 0 (up2 (up2 m2 0 9 (nI (sp ||| 2 ^ v))) 0 11 (nI (max hc (v + 1)) - 1)) = some (nI 0, m3) := r2
          rw [r1', r2']
          simp only [bp]
          have hB : ∀ z, BR (up2 m3 5 v z) e p := fun z => BR_u r4 (by omega)
          rw [m_72B (hB _) he]
          exact ⟨x2, _, ZX_tr (ZX_F f1) (ZX_F h1), ZM_u y3 (by omega), rfl, Or.inl ⟨e, p, he, hp, rfl, r3, hB _⟩⟩
        · rw [Nat.zero_testBit] at r3
          simp at r3
        · have r1' : fn5_readNumber 0 11 x1 = some (1, x2) := r1
          have r4' : fn8_other 0 11 0 (up2 (up2 m2 0 9 (nI (sp ||| 2 ^ v))) 0 11 (nI (max hc (v + 1)) - 1)) = some (nI h, m3) := r4
          rw [r1', r4']
          simp only [bp]
          rw [if_pos n10, r2, show (1 : Int32) + nI h = nI (h + 1) by rw [Nat.add_comm h 1]; exact nI_add 1 h]
          have J3 : JT (up2 x2 19 v (nI h)) (up2 m3 5 v (nI (h + 1))) t n s3 := JT_m (JT_x r6 (by omega)) (by omega)
          obtain ⟨x5, m5, k1, k2, k3, k4⟩ := stop_j J3
          have Fa : FX (up2 x 19 v (nI h)) x5 := FX_tr (FX_c (FX_tr f1 h1)) k1
          have Fb : FM (up2 (up2 (up2 (up2 m 0 8 (nI (to ||| 2 ^ 4))) 0 9 (nI (sp ||| 2 ^ v))) 0 11 (nI (max hc (v + 1)) - 1)) 5 v (nI (h + 1))) m5 := FM_tr (FM_c (FM_tr (FM_c (FM_c (FM_tr g1 f2))) h2)) k2
          have z5 : ZX x x5 := ZX_tr (ZX_u (ZX_rf x) (by omega)) (ZX_F Fa)
          have y5 : ZM m m5 := ZM_tr (ZM_u y3 (by omega)) (ZM_F k2)
          obtain ⟨t2, t3, t4, t5, t6⟩ := d_to (v := nI (to ||| 2 ^ 4)) d2 d3 d4 d5 d6
          have t1 := dS_to d1 (show 2 ≤ 4 by omega) (show 4 < 6 by omega)
          rw [k3]
          rcases k4 with ⟨e, p, he, hp, l1, l2, l3⟩ | ⟨s4, l0, l1, l2⟩
          · rw [l1, isb_0]
            exact ⟨x5, m5, z5, y5, rfl, Or.inl ⟨e, p, he, hp, rfl, l2, l3⟩⟩
          · rw [l1, isb_1]
            refine ⟨x5, m5, z5, y5, rfl, Or.inr ⟨s4, by omega, rfl, l2, DD_F (DD_spend t1 t2 t3 t4 t5 t6 (by omega) (by omega)) Fa Fb, ?_⟩⟩
            rw [Fa.2 1 (by omega) (by omega) (by omega) (by omega) (by omega) (by omega), up2_cell (by omega)]
