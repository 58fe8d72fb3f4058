/-! text: ones, coins -/
theorem x_kind {x m : Mem} {t : Nat → Nat} {n s : Nat} (S : JS x m t n s) : fn5_kindNamed x = some (if 7 ≤ nmk t n s ∧ nmk t n s < 12 then nI (nmk t n s - 7) else -4, x) := by
  obtain ⟨hT, hM, hs, h7, h8, h9, h2, hK, eo⟩ := S
  unfold fn5_kindNamed
  rw [x_isName (c := 3) hT hs h7 h8 h9 (by omega), show ixs 3 = 7 from rfl]
  simp only [bp]
  rw [x_isName (c := 4) hT hs h7 h8 h9 (by omega), show ixs 4 = 8 from rfl]
  simp only [bp]
  rw [x_isName (c := 5) hT hs h7 h8 h9 (by omega), show ixs 5 = 9 from rfl]
  simp only [bp]
  rw [x_isName (c := 6) hT hs h7 h8 h9 (by omega), show ixs 6 = 10 from rfl]
  simp only [bp]
  rw [x_isName (c := 7) hT hs h7 h8 h9 (by omega), show ixs 7 = 11 from rfl]
  simp only [bp]
  generalize nmk t n s = k
  by_cases k7 : k = 7
  · subst k7; rfl
  · rw [decide_eq_false k7, bI_f, if_pos rfl]
    by_cases k8 : k = 8
    · subst k8; rfl
    · rw [decide_eq_false k8, bI_f, if_pos rfl]
      by_cases k9 : k = 9
      · subst k9; rfl
      · rw [decide_eq_false k9, bI_f, if_pos rfl]
        by_cases k10 : k = 10
        · subst k10; rfl
        · rw [decide_eq_false k10, bI_f, if_pos rfl]
          by_cases k11 : k = 11
          · subst k11; rfl
          · rw [decide_eq_false k11, bI_f, if_pos rfl, if_neg (by omega)]
theorem e31 (c : Nat) : (3 : Int32) * nI c + 1 = nI (3 * c + 1) := by rw [e30]; exact nI_add (3 * c) 1
theorem e32 (c : Nat) : (3 : Int32) * nI c + 2 = nI (3 * c + 2) := by rw [e30]; exact nI_add (3 * c) 2
theorem n1 (c : Nat) : nI c + 1 = nI (c + 1) := nI_add c 1
def oX (x : Mem) (np a b c : Nat) : Mem := up2 (up2 (up2 (up2 x 13 np (nI a)) 14 np (nI b)) 15 np (nI c)) 12 0 (nI (np + 1))
def oM (m : Mem) (np a b c : Nat) : Mem := up2 (up2 (up2 (up2 m 4 (3 * np) (nI a)) 4 (3 * np + 1) (nI b)) 4 (3 * np + 2) (nI c)) 0 6 (nI (np + 1))
theorem DD_one {x m : Mem} {lw fe to np nc nk ho sp hc a b c : Nat} (d1 : dS x m lw fe to) (d2 : dP x m np) (d3 : dC x m nc ho) (d4 : dT x m nk ho) (d5 : dU x m sp hc) (d6 : dH x m nc nk ho) (hp : np < 6) (ha : a ≤ 4) (hb : b ≤ 9) (hcc : c ≤ 50) : DD (oX x np a b c) (oM m np a b c) := by
  have X : ∀ k, k < 12 ∨ 15 < k → oX x np a b c k = x k := fun k h => by
    unfold oX
    rw [up2_cell (by omega), up2_cell (by omega), up2_cell (by omega), up2_cell (by omega)]
  have X12 : ∀ j, j ≠ 0 → oX x np a b c 12 j = x 12 j := fun j h1 => by
    unfold oX
    rw [up2_place h1, up2_cell (by omega), up2_cell (by omega), up2_cell (by omega)]
  have M : ∀ k, k ≠ 0 → k ≠ 4 → oM m np a b c k = m k := fun k h1 h2 => by
    unfold oM
    rw [up2_cell h1, up2_cell h2, up2_cell h2, up2_cell h2]
  have M0 : ∀ j, j ≠ 6 → oM m np a b c 0 j = m 0 j := fun j h1 => by
    unfold oM
    rw [up2_place h1, up2_cell (by omega), up2_cell (by omega), up2_cell (by omega)]
  refine ⟨lw, fe, to, np + 1, nc, nk, ho, sp, hc, dS_k d1 (X12 _ (by omega)) (X12 _ (by omega)) (by rw [X 55 (by omega)]) (by rw [X 55 (by omega)]) (by rw [M 3 (by omega) (by omega)]) (by rw [M 3 (by omega) (by omega)]) (M0 _ (by omega)), ?_, dC_k d3 (X12 _ (by omega)) (X _ (by omega)) (X _ (by omega)) (X _ (by omega)) (M0 _ (by omega)) (fun j _ => by rw [M 3 (by omega) (by omega)]), dT_k d4 (X12 _ (by omega)) (X _ (by omega)) (X _ (by omega)) (X _ (by omega)) (by rw [M 3 (by omega) (by omega)]) (fun j _ _ => by rw [M 3 (by omega) (by omega)]), dU_k d5 (X _ (by omega)) (M _ (by omega) (by omega)) (M0 _ (by omega)) (M0 _ (by omega)), dH_k d6 (X _ (by omega)) (X _ (by omega)) (X _ (by omega)) (M0 _ (by omega))⟩
  obtain ⟨p1, p2, p3, p4⟩ := d2
  refine ⟨by omega, ?_, ?_, fun q hq => ?_⟩
  · unfold oX; rw [up2_same]
  · unfold oM; rw [up2_same]
  · have xx : oX x np a b c 13 q = (if q = np then nI a else x 13 q) ∧ oX x np a b c 14 q = (if q = np then nI b else x 14 q) ∧ oX x np a b c 15 q = (if q = np then nI c else x 15 q) := by
      unfold oX
      simp [up2_at]
    have mm : ∀ j, oM m np a b c 4 j = (if j = 3 * np + 2 then nI c else if j = 3 * np + 1 then nI b else if j = 3 * np then nI a else m 4 j) := by
      intro j
      unfold oM
      simp [up2_at]
    rw [xx.1, xx.2.1, xx.2.2, mm, mm, mm]
    by_cases e : q = np
    · subst e
      refine ⟨a, b, c, ha, hb, hcc, if_pos rfl, ?_, if_pos rfl, ?_, if_pos rfl, if_pos rfl⟩
      · rw [if_neg (by omega), if_neg (by omega), if_pos rfl]
      · rw [if_neg (by omega), if_pos rfl]
    · rw [if_neg e, if_neg e, if_neg e, if_neg (by omega), if_neg (by omega), if_neg (by omega), if_neg (by omega), if_neg (by omega), if_neg (by omega), if_neg (by omega), if_neg (by omega), if_neg (by omega)]
      exact p4 q (by omega)
theorem d_to {x m : Mem} {np nc nk ho sp hc : Nat} {v : Int32} (d2 : dP x m np) (d3 : dC x m nc ho) (d4 : dT x m nk ho) (d5 : dU x m sp hc) (d6 : dH x m nc nk ho) : dP x (up2 m 0 8 v) np ∧ dC x (up2 m 0 8 v) nc ho ∧ dT x (up2 m 0 8 v) nk ho ∧ dU x (up2 m 0 8 v) sp hc ∧ dH x (up2 m 0 8 v) nc nk ho := by
  have M : ∀ k, k ≠ 0 → up2 m 0 8 v k = m k := fun k h => up2_cell h
  have M0 : ∀ j, j ≠ 8 → up2 m 0 8 v 0 j = m 0 j := fun j h => up2_place h
  exact ⟨dP_k d2 rfl rfl rfl rfl (M0 _ (by omega)) (M _ (by omega)), dC_k d3 rfl rfl rfl rfl (M0 _ (by omega)) (fun j _ => by rw [M 3 (by omega)]), dT_k d4 rfl rfl rfl rfl (by rw [M 3 (by omega)]) (fun j _ _ => by rw [M 3 (by omega)]), dU_k d5 rfl (M _ (by omega)) (M0 _ (by omega)) (M0 _ (by omega)), dH_k d6 rfl rfl rfl (M0 _ (by omega))⟩
theorem line_one {x m : Mem} {t : Nat → Nat} {n s : Nat} (S : JS x m t n s) (hk : kdT t n s ≠ 0) (D : DD x m) : LR (fn5_readOne x) (lineM 2 fn8_readOne m) x m t n s := by
  obtain ⟨lw, fe, to, np, nc, nk, ho, sp, hc, d1, d2, d3, d4, d5, d6⟩ := D
  obtain ⟨e1, e2, e3, e4, e5, e6, e7, e8, e9, e10⟩ := id d1
  obtain ⟨p1, p2, p3, p4⟩ := id d2
  have hn := S.1.1
  have hd := hd_in (t := t) S.2.2.1
  have hr := room_full (m := m) (nm := 2) (a := np) (Or.inl ⟨rfl, p1, p3⟩)
  rw [if_neg (show ¬ 2 = 5 by omega)] at hr
  unfold fn5_readOne fn5_readOne_133
  rw [p2]
  by_cases eb : np = 6
  · rw [if_pos eb] at hr
    obtain ⟨m1, g1, g2, g3⟩ := line_shut (f := fn8_readOne) S e8 e7 (by omega) (by omega) hr
    rw [g3, if_neg (show ¬ nI np < 6 by rw [eb]; decide), fail_x]
    exact ⟨_, m1, ZX_u (ZX_u (ZX_rf x) (by omega)) (by omega), ZM_tr (ZM_u (ZM_rf m) (by omega)) (ZM_F g1), rfl, Or.inl ⟨5, hdT t n s, by omega, by omega, rfl, FA_up rfl S.2.2.2.2.1, g2⟩⟩
  · rw [if_neg eb] at hr
    obtain ⟨m1, g1, g2, g0, g3⟩ := line_open (f := fn8_readOne) S e8 e7 (by omega) hr hk
    have hib : ib (nI np) 6 = true := ib_y (by omega) (by omega)
    rw [g3, if_pos (show nI np < 6 from nI_lt (b := 6) (by omega) (by omega))]
    simp only [if_pos hib, cl_n (show np < 1048576 by omega)]
    have y1 : ZM m m1 := ZM_tr (ZM_u (ZM_rf m) (by omega)) (ZM_F g1)
    obtain ⟨x1, a1, a2⟩ := tok_j g2
    rcases a2 with ⟨b1, b2, b3, b4, b5⟩ | ⟨b1, b2, S1⟩
    · rw [b2, b1, if_neg (show ¬ (false = true) by simp)]
      exact ⟨x1, m1, ZX_F a1, y1, rfl, Or.inl ⟨1, _, by omega, b3, rfl, b4, b5⟩⟩
    · rw [b2, b1, if_pos rfl]
      simp only [bp]
      rw [if_pos n10, x_kind S1]
      simp only [bp]
      unfold fn8_readOne
      obtain ⟨sT, sM, ss, s7, s8, s9, s2, sK, so⟩ := id S1
      have hd1 := hd_in (t := t) ss
      rw [m_nameHere sM ss sK]
      simp only [bp]
      have hnm := nmk_le (t := t) (n := n) (s := bhT t n s)
      have s16 : m1 0 16 = 0 := (sK.2.2.2.1 so).1
      by_cases ek : 7 ≤ nmk t n (bhT t n s) ∧ nmk t n (bhT t n s) < 12
      · have ekd : kdT t n (bhT t n s) = 1 := by
          unfold nmk at ek
          by_cases z : kdT t n (bhT t n s) = 1
          · exact z
          · rw [if_neg z] at ek
            omega
        have hb1 := bh_lt ss (show kdT t n (bhT t n s) ≠ 0 by omega)
        rw [if_pos ek, if_pos ek.2, show nI (nmk t n (bhT t n s)) - 7 = nI (nmk t n (bhT t n s) - 7) from pk_sub (b := 7) ek.1]
        generalize hkk : nmk t n (bhT t n s) - 7 = kk
        have hkk4 : kk ≤ 4 := by omega
        obtain ⟨m2, c1, c2, c3⟩ := m_step sM hb1.2 s16 sK.1
        rw [c1, if_pos (show (0 : Int32) ≤ nI kk from nI_pos' (by omega))]
        simp only [bp]
        have m26 : m2 0 6 = nI np := by
          rw [c2.2 6 (by omega), g1.2 6 (by omega), up2_place (by omega)]
          exact p3
        rw [m26, e30, show nI (3 * np) + 1 = nI (3 * np + 1) from nI_add _ 1, show nI (3 * np) + 2 = nI (3 * np + 2) from nI_add _ 2]
        have i0 : ib (nI (3 * np)) 18 = true := ib_y (by omega) (by omega)
        have i1 : ib (nI (3 * np + 1)) 18 = true := ib_y (by omega) (by omega)
        have i2 : ib (nI (3 * np + 2)) 18 = true := ib_y (by omega) (by omega)
        simp only [if_pos i0, if_pos i1, if_pos i2, cl_n (show 3 * np < 1048576 by omega), cl_n (show 3 * np + 1 < 1048576 by omega), cl_n (show 3 * np + 2 < 1048576 by omega), up2_same]
        rw [if_pos (show ¬ nI kk = -4 from n_neg4 (by omega))]
        have J1 : JT (up2 x1 13 np (nI kk)) (up2 m2 4 (3 * np) (nI kk)) t n (bhT t n (bhT t n s)) := JT_m (JT_x ⟨sT, TpM_F sM c2, hb1.2, s9, s2, c3⟩ (by omega)) (by omega)
        obtain ⟨x2, m3, f1, f2, f3⟩ := num_j (lo := 0) (hi := 9) (sm := 0) J1 (by omega) (by omega) (by omega)
        have y3 : ZM m m3 := ZM_tr (ZM_u (ZM_tr y1 (ZM_F c2)) (by omega)) (ZM_F f2)
        have z2 : ZX x x2 := ZX_tr (ZX_u (ZX_F a1) (by omega)) (ZX_F f1)
        rcases f3 with ⟨e, p, he, hp, q1, q2, q3, q4⟩ | ⟨v, v1, v2, q1, q2, ⟨q3, -⟩ | ⟨q3, q4, s', q5, q6⟩⟩
        · have q1' : fn5_readNumber 0 9 (up2 x1 13 np (nI kk)) = some (0, x2) := q1
          have q2' : fn8_other 0 9 0 (up2 m2 4 (3 * np) (nI kk)) = some (nI 0, m3) := q2
          rw [q1', q2']
          simp only [bp]
          have hB1 : BR (up2 m3 4 (3 * np + 1) (nI 0)) e p := BR_u q4 (by omega)
          rw [m_otherB hB1 he]
          simp only [bp]
          have hB2 : ∀ u w, BR (up2 (up2 (up2 m3 4 (3 * np + 1) (nI 0)) 4 (3 * np + 2) u) 0 6 w) e p := fun u w => BR_u (BR_u hB1 (by omega)) (by omega)
          rw [m_72B (hB2 _ _) he]
          exact ⟨x2, _, z2, ZM_u (ZM_u (ZM_u y3 (by omega)) (by omega)) (by omega), rfl, Or.inl ⟨e, p, he, hp, rfl, q3, hB2 _ _⟩⟩
        · rw [Nat.zero_testBit] at q3
          simp at q3
        · have q1' : fn5_readNumber 0 9 (up2 x1 13 np (nI kk)) = some (1, x2) := q1
          have q4' : fn8_other 0 9 0 (up2 m2 4 (3 * np) (nI kk)) = some (nI v, m3) := q4
          rw [q1', q4']
          simp only [bp]
          rw [if_pos n10, q2]
          have J2 : JT (up2 x2 14 np (nI v)) (up2 m3 4 (3 * np + 1) (nI v)) t n s' := JT_m (JT_x q6 (by omega)) (by omega)
          obtain ⟨x3, m4, h1, h2, h3⟩ := num_j (lo := 0) (hi := 50) (sm := 0) J2 (by omega) (by omega) (by omega)
          have y4 : ZM m m4 := ZM_tr (ZM_u y3 (by omega)) (ZM_F h2)
          have z3 : ZX x x3 := ZX_tr (ZX_u z2 (by omega)) (ZX_F h1)
          rcases h3 with ⟨e, p, he, hp, r1, r2, r3, r4⟩ | ⟨u, u1, u2, r1, r2, ⟨r3, -⟩ | ⟨r3, r4, s3, r5, r6⟩⟩
          · have r1' : fn5_readNumber 0 50 (up2 x2 14 np (nI v)) = some (0, x3) := r1
            have r2' : fn8_other 0 50 0 (up2 m3 4 (3 * np + 1) (nI v)) = some (nI 0, m4) := r2
            rw [r1', r2']
            simp only [bp]
            have hB2 : ∀ u w, BR (up2 (up2 m4 4 (3 * np + 2) u) 0 6 w) e p := fun u w => BR_u (BR_u r4 (by omega)) (by omega)
            rw [m_72B (hB2 _ _) he]
            exact ⟨x3, _, z3, ZM_u (ZM_u y4 (by omega)) (by omega), rfl, Or.inl ⟨e, p, he, hp, rfl, r3, hB2 _ _⟩⟩
          · rw [Nat.zero_testBit] at r3
            simp at r3
          · have r1' : fn5_readNumber 0 50 (up2 x2 14 np (nI v)) = some (1, x3) := r1
            have r4' : fn8_other 0 50 0 (up2 m3 4 (3 * np + 1) (nI v)) = some (nI u, m4) := r4
            have x12 : x3 12 0 = nI np := by
              rw [h1.1 12 (by omega), up2_cell (by omega), f1.1 12 (by omega), up2_cell (by omega), a1.1 12 (by omega)]
              exact p2
            have m06 : m4 0 6 = nI np := by
              rw [h2.2 6 (by omega), up2_cell (by omega), f2.2 6 (by omega), up2_cell (by omega)]
              exact m26
            rw [r1', r4']
            simp only [bp]
            rw [if_pos n10, r2, up2_cell (w := x3) (k := 15) (k' := 12) (by omega), x12, up2_cell (w := m4) (k := 4) (k' := 0) (by omega), m06, n1]
            have J3 : JT (up2 (up2 x3 15 np (nI u)) 12 0 (nI (np + 1))) (up2 (up2 m4 4 (3 * np + 2) (nI u)) 0 6 (nI (np + 1))) t n s3 := JT_m (JT_m (JT_x (JT_x r6 (by omega)) (by omega)) (by omega)) (by omega)
            obtain ⟨x5, m5, k1, k2, k3, k4⟩ := stop_j J3
            have Fa : FX (oX x np kk v u) x5 := FX_tr (FX_c (FX_c (FX_tr (FX_c (FX_tr (FX_c a1) f1)) h1))) k1
            have Fb : FM (oM (up2 m 0 8 (nI (to ||| 2 ^ 2))) np kk v u) m5 := FM_tr (FM_c (FM_c (FM_tr (FM_c (FM_tr (FM_c (FM_tr g1 c2)) f2)) h2))) k2
            have z5 : ZX x x5 := ZX_tr (ZX_u (ZX_u z3 (by omega)) (by omega)) (ZX_F k1)
            have y5 : ZM m m5 := ZM_tr (ZM_u (ZM_u y4 (by omega)) (by omega)) (ZM_F k2)
            obtain ⟨t2, t3, t4, t5, t6⟩ := d_to (v := nI (to ||| 2 ^ 2)) d2 d3 d4 d5 d6
            rw [k3]
            rcases k4 with ⟨e, p, he, hp, l1, l2, l3⟩ | ⟨s4, l0, l1, l2⟩
            · rw [l1, isb_0]
              exact ⟨x5, m5, z5, y5, rfl, Or.inl ⟨e, p, he, hp, rfl, l2, l3⟩⟩
            · rw [l1, isb_1]
              refine ⟨x5, m5, z5, y5, rfl, Or.inr ⟨s4, by omega, rfl, l2, DD_F (DD_one (dS_to d1 (by omega) (by omega)) t2 t3 t4 t5 t6 (by omega) hkk4 v2 u2) Fa Fb, ?_⟩⟩
              rw [Fa.2 1 (by omega) (by omega) (by omega) (by omega) (by omega) (by omega)]
              unfold oX
              rw [up2_cell (by omega), up2_cell (by omega), up2_cell (by omega), up2_cell (by omega)]
      · have hneg : ¬ (0 : Int32) ≤ (if nmk t n (bhT t n s) < 12 then nI (nmk t n (bhT t n s)) else -4) - 7 := by
          by_cases e12 : nmk t n (bhT t n s) < 12
          · rw [if_pos e12]
            have := pk_sneg (a := nmk t n (bhT t n s)) (b := 7) (by omega) (by omega)
            exact fun z => absurd z (not_le_of_lt32 this)
          · rw [if_neg e12]
            decide
        rw [if_neg ek, if_neg hneg, m_fails s16]
        simp only [bp, up2_same]
        have hB : BR (up2 (up2 m1 0 16 2) 0 17 (m1 0 19)) 2 (hdT t n (bhT t n s)) := br_up sK.2.1
        rw [m_72B hB (by omega), if_neg (show ¬ ¬ True from fun z => z trivial), fail_x]
        have h8 : up2 x1 13 np (-4) 55 8 = nI (hdT t n (bhT t n s)) := by
          rw [up2_cell (by omega)]
          exact s8
        exact ⟨_, _, ZX_u (ZX_u (ZX_u (ZX_F a1) (by omega)) (by omega)) (by omega), ZM_u (ZM_u y1 (by omega)) (by omega), rfl, Or.inl ⟨2, _, by omega, by omega, rfl, FA_up rfl h8, hB⟩⟩
