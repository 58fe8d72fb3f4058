/-! text: a talk's line -/
def tX (x : Mem) (nk a b c : Nat) : Mem := up2 (up2 (up2 (up2 x 20 nk (nI a)) 21 nk (nI b)) 22 nk (nI c)) 12 9 (nI (nk + 1))
def tM (m : Mem) (nk a b c h h2 : Nat) : Mem := up2 (up2 (up2 (up2 (up2 (up2 m 3 (24 + 3 * nk) (nI a)) 0 10 (nI h - 1)) 3 (24 + 3 * nk + 1) (nI b)) 0 10 (nI h2 - 1)) 3 (24 + 3 * nk + 2) (nI c)) 3 54 (nI (nk + 1))
theorem x_put {x : Mem} {nk a b c : Nat} (h : x 12 9 = nI nk) (hn : nk < 10) : fn6_putTalk 12 (nI a) (nI b) (nI c) x = some (0, tX x nk a b c) := by
  unfold fn6_putTalk fn6_putTalk_39
  have hib : ib (nI nk) 10 = true := ib_y (by omega) (by omega)
  simp only [show 12 + 8 = 20 from rfl, show 12 + 9 = 21 from rfl, show 12 + 10 = 22 from rfl, h, up2_cell (show (12 : Nat) ≠ 20 by omega), up2_cell (show (12 : Nat) ≠ 21 by omega), up2_cell (show (12 : Nat) ≠ 22 by omega), if_pos hib, cl_n (show nk < 1048576 by omega), n1]
  rw [if_neg (show ¬ (10 : Int32) ≤ nI nk from nI_ge (b := 10) (by omega) (by omega))]
  rfl
theorem DD_talk {x m : Mem} {lw fe to np nc nk ho sp hc a b c h : Nat} (d1 : dS x m lw fe to) (d2 : dP x m np) (d3 : dC x m nc ho) (d4 : dT x m nk ho) (d5 : dU x m sp hc) (d6 : dH x m nc nk ho) (hn : nk < 10) (ha : a < 12) (hb : b < 6) (hcc : c < 6) (hbc : b ≠ c) : DD (tX x nk a b c) (tM m nk a b c h (max (max ho (b + 1)) (c + 1))) := by
  generalize hH : max (max ho (b + 1)) (c + 1) = H
  have hmx : ho ≤ H ∧ b < H ∧ c < H ∧ (H = ho ∨ H = b + 1 ∨ H = c + 1) := by omega
  have X : ∀ k, k ≠ 12 → k ≠ 20 → k ≠ 21 → k ≠ 22 → tX x nk a b c k = x k := fun k k1 k2 k3 k4 => by
    unfold tX
    rw [up2_cell k1, up2_cell k4, up2_cell k3, up2_cell k2]
  have X12 : ∀ j, j ≠ 9 → tX x nk a b c 12 j = x 12 j := fun j hj => by
    unfold tX
    rw [up2_place hj, up2_cell (by omega), up2_cell (by omega), up2_cell (by omega)]
  have XT : ∀ j, tX x nk a b c 20 j = (if j = nk then nI a else x 20 j) ∧ tX x nk a b c 21 j = (if j = nk then nI b else x 21 j) ∧ tX x nk a b c 22 j = (if j = nk then nI c else x 22 j) := fun j => by
    unfold tX
    simp [up2_at]
  have M : ∀ k, k ≠ 0 → k ≠ 3 → tM m nk a b c h H k = m k := fun k k1 k2 => by
    unfold tM
    rw [up2_cell k2, up2_cell k2, up2_cell k1, up2_cell k2, up2_cell k1, up2_cell k2]
  have M0 : ∀ j, j ≠ 10 → tM m nk a b c h H 0 j = m 0 j := fun j hj => by
    unfold tM
    rw [up2_cell (by omega), up2_cell (by omega), up2_place hj, up2_cell (by omega), up2_place hj, up2_cell (by omega)]
  have M3 : ∀ j, tM m nk a b c h H 3 j = if j = 54 then nI (nk + 1) else if j = 24 + 3 * nk + 2 then nI c else if j = 24 + 3 * nk + 1 then nI b else if j = 24 + 3 * nk then nI a else m 3 j := fun j => by
    unfold tM
    simp [up2_at]
  have far : ∀ j, j < 24 ∨ 54 < j → tM m nk a b c h H 3 j = m 3 j := fun j hj => by
    rw [M3, if_neg (by omega), if_neg (by omega), if_neg (by omega), if_neg (by omega)]
  obtain ⟨c1, c2, c3, c4⟩ := d4
  obtain ⟨h1, h2, h3⟩ := d6
  refine ⟨lw, fe, to, np, nc, nk + 1, H, sp, hc, dS_k d1 (X12 _ (by omega)) (X12 _ (by omega)) (by rw [X 55 (by omega) (by omega) (by omega) (by omega)]) (by rw [X 55 (by omega) (by omega) (by omega) (by omega)]) (far _ (by omega)) (far _ (by omega)) (M0 _ (by omega)), dP_k d2 (X12 _ (by omega)) (X _ (by omega) (by omega) (by omega) (by omega)) (X _ (by omega) (by omega) (by omega) (by omega)) (X _ (by omega) (by omega) (by omega) (by omega)) (M0 _ (by omega)) (M _ (by omega) (by omega)), dC_h (dC_k d3 (X12 _ (by omega)) (X _ (by omega) (by omega) (by omega) (by omega)) (X _ (by omega) (by omega) (by omega) (by omega)) (X _ (by omega) (by omega) (by omega) (by omega)) (M0 _ (by omega)) (fun j hj => far _ (by omega))) hmx.1, ⟨by omega, ?_, ?_, fun q hq => ?_⟩, dU_k d5 (X _ (by omega) (by omega) (by omega) (by omega)) (M _ (by omega) (by omega)) (M0 _ (by omega)) (M0 _ (by omega)), by omega, ?_, ?_⟩
  · unfold tX; rw [up2_same]
  · rw [M3, if_pos rfl]
  · rw [(XT q).1, (XT q).2.1, (XT q).2.2, M3, M3, M3]
    by_cases e : q = nk
    · subst e
      refine ⟨a, b, c, ha, hb, hcc, hbc, hmx.2.1, hmx.2.2.1, if_pos rfl, ?_, if_pos rfl, ?_, if_pos rfl, ?_⟩
      · rw [if_neg (by omega), if_neg (by omega), if_neg (by omega), if_pos rfl]
      · rw [if_neg (by omega), if_neg (by omega), if_pos rfl]
      · rw [if_neg (by omega), if_pos rfl]
    · rw [if_neg e, if_neg e, if_neg e, if_neg (by omega), if_neg (by omega), if_neg (by omega), if_neg (by omega), if_neg (by omega), if_neg (by omega), if_neg (by omega), if_neg (by omega), if_neg (by omega), if_neg (by omega), if_neg (by omega), if_neg (by omega)]
      obtain ⟨a', b', d', r1, r2, r3, r4, r5, r6, r7⟩ := c4 q (by omega)
      exact ⟨a', b', d', r1, r2, r3, r4, by omega, by omega, r7⟩
  · unfold tM
    rw [up2_cell (by omega), up2_cell (by omega), up2_same]
  · rcases hmx.2.2.2 with e | e | e
    · rw [e]
      rcases h3 with h3 | ⟨q, g1, g2⟩ | ⟨k, g1, g2⟩
      · omega
      · exact Or.inr (Or.inl ⟨q, g1, by rw [X 17 (by omega) (by omega) (by omega) (by omega)]; exact g2⟩)
      · refine Or.inr (Or.inr ⟨k, by omega, ?_⟩)
        rw [(XT k).2.1, (XT k).2.2, if_neg (by omega), if_neg (by omega)]
        exact g2
    · rw [e]
      exact Or.inr (Or.inr ⟨nk, by omega, Or.inl (by rw [(XT nk).2.1, if_pos rfl]; rfl)⟩)
    · rw [e]
      exact Or.inr (Or.inr ⟨nk, by omega, Or.inr (by rw [(XT nk).2.2, if_pos rfl]; rfl)⟩)
theorem line_talk {x m : Mem} {t : Nat → Nat} {n s : Nat} (S : JS x m t n s) (hk : kdT t n s ≠ 0) (D : DD x m) : LR (fn5_readTalk x) (lineM 5 fn8_readTalk m) x m t n s := by
  obtain ⟨lw, fe, to, np, nc, nk, ho, sp, hc, d1, d2, d3, d4, d5, d6⟩ := D
  obtain ⟨e1, e2, e3, e4, e5, e6, e7, e8, e9, e10⟩ := id d1
  obtain ⟨p1, p2, p3, p4⟩ := id d4
  obtain ⟨o1, o2, o3⟩ := id d6
  have hn := S.1.1
  have hd := hd_in (t := t) S.2.2.1
  have hr := room_full (m := m) (nm := 5) (a := nk) (Or.inr (Or.inr ⟨rfl, p1, p3⟩))
  rw [if_pos (show 5 = 5 from rfl)] at hr
  unfold fn5_readTalk
  rw [p2]
  by_cases eb : nk = 10
  · rw [if_pos eb] at hr
    obtain ⟨m1, g1, g2, g3⟩ := line_shut (f := fn8_readTalk) S e8 e7 (by omega) (by omega) hr
    rw [g3, if_neg (show ¬ nI nk < 10 by rw [eb]; decide), fail_x]
    exact ⟨_, m1, ZX_u (ZX_u (ZX_rf x) (by omega)) (by omega), ZM_tr (ZM_u (ZM_rf m) (by omega)) (ZM_F g1), rfl, Or.inl ⟨5, hdT t n s, by omega, by omega, rfl, FA_up rfl S.2.2.2.2.1, g2⟩⟩
  · rw [if_neg eb] at hr
    obtain ⟨m1, g1, g2, g0, g3⟩ := line_open (f := fn8_readTalk) S e8 e7 (by omega) hr hk
    rw [g3, if_pos (show nI nk < 10 from nI_lt (b := 10) (by omega) (by omega))]
    have y1 : ZM m m1 := ZM_tr (ZM_u (ZM_rf m) (by omega)) (ZM_F g1)
    cases eo : okT t n (bhT t n s)
    · obtain ⟨x1, p, f1, f2, f3, f4, f5⟩ := num_f (lo := 0) (hi := 11) g2 (by omega) (by omega) eo
      have f3' : fn5_readNumber 0 11 x = some (0, x1) := f3
      rw [f3', if_neg (show ¬ (false = true) by simp)]
      exact ⟨x1, m1, ZX_F f1, y1, rfl, Or.inl ⟨1, p, by omega, f2, rfl, f4, f5⟩⟩
    · rw [if_pos rfl]
      obtain ⟨x1, m2, f1, f2, f3⟩ := num_j (lo := 0) (hi := 11) (sm := 0) g2 (by omega) (by omega) (by omega)
      unfold fn8_readTalk
      have m54 : m1 3 54 = nI nk := by
        rw [g1.1 3 (by omega), up2_cell (by omega)]
        exact p3
      have i0 : ib (nI (24 + 3 * nk)) 57 = true := ib57 (by omega)
      have i1 : ib (nI (24 + 3 * nk + 1)) 57 = true := ib57 (by omega)
      have i2 : ib (nI (24 + 3 * nk + 2)) 57 = true := ib57 (by omega)
      have i54 : ib 54 57 = true := by decide
      have y2 : ZM m m2 := ZM_tr y1 (ZM_F f2)
      rw [if_pos i54, c54, m54, e24, show nI (24 + 3 * nk) + 1 = nI (24 + 3 * nk + 1) from nI_add _ 1, show nI (24 + 3 * nk) + 2 = nI (24 + 3 * nk + 2) from nI_add _ 2]
      simp only [if_pos i0, if_pos i1, if_pos i2, if_pos i54, cl_n (show 24 + 3 * nk < 1048576 by omega), cl_n (show 24 + 3 * nk + 1 < 1048576 by omega), cl_n (show 24 + 3 * nk + 2 < 1048576 by omega), up2_same]
      rcases f3 with ⟨e, p, he, hp, q1, q2, q3, q4⟩ | ⟨a, v1, v2, q1, q2, ⟨q3, -⟩ | ⟨q3, q4, s', q5, q6⟩⟩
      · have q1' : fn5_readNumber 0 11 x = some (0, x1) := q1
        have q2' : fn8_other 0 11 0 m1 = some (nI 0, m2) := q2
        rw [q1', q2']
        simp only [bp]
        have hB1 : BR (up2 m2 3 (24 + 3 * nk) (nI 0)) e p := BR_u q4 (by omega)
        obtain ⟨z, hz⟩ := oneOf_B (c := 0) hB1 he
        rw [hz]
        simp only [bp]
        have hB2 : BR (up2 (up2 (up2 m2 3 (24 + 3 * nk) (nI 0)) 0 10 z) 3 (24 + 3 * nk + 1) 0) e p := BR_u (BR_u hB1 (by omega)) (by omega)
        obtain ⟨z2, hz2⟩ := oneOf_B (c := (1 : Int32) <<< ((0 : Int32) &&& 31)) hB2 he
        rw [hz2]
        simp only [bp]
        have hB3 : ∀ u v, BR (up2 (up2 (up2 (up2 (up2 (up2 m2 3 (24 + 3 * nk) (nI 0)) 0 10 z) 3 (24 + 3 * nk + 1) 0) 0 10 z2) 3 (24 + 3 * nk + 2) u) 3 54 v) e p := fun u v => BR_u (BR_u (BR_u hB2 (by omega)) (by omega)) (by omega)
        rw [m_72B (hB3 _ _) he]
        exact ⟨x1, _, ZX_F f1, ZM_u (ZM_u (ZM_u (ZM_u (ZM_u (ZM_u y2 (by omega)) (by omega)) (by omega)) (by omega)) (by omega)) (by omega), rfl, Or.inl ⟨e, p, he, hp, rfl, q3, hB3 _ _⟩⟩
      · rw [Nat.zero_testBit] at q3
        simp at q3
      · have q1' : fn5_readNumber 0 11 x = some (1, x1) := q1
        have q4' : fn8_other 0 11 0 m1 = some (nI a, m2) := q4
        rw [q1', q4']
        simp only [bp]
        rw [if_pos n10, q2]
        have J2 : JT x1 (up2 m2 3 (24 + 3 * nk) (nI a)) t n s' := JT_m q6 (by omega)
        obtain ⟨x2, m3, h1, h2, h3⟩ := num_j (lo := 0) (hi := 5) (sm := 0) J2 (by omega) (by omega) (by omega)
        have m10 : m3 0 10 = nI ho - 1 := by
          rw [h2.2 10 (by omega), up2_cell (by omega), f2.2 10 (by omega), g1.2 10 (by omega), up2_place (by omega)]
          exact o2
        have y3 : ZM m m3 := ZM_tr (ZM_u y2 (by omega)) (ZM_F h2)
        have z2 : ZX x x2 := ZX_tr (ZX_F f1) (ZX_F h1)
        rcases h3 with ⟨e, p, he, hp, r1, r2, r3, r4⟩ | ⟨b, u1, u2, r1, r2, ⟨r3, -⟩ | ⟨r3, r4, s3, r5, r6⟩⟩
        · have r1' : fn5_readNumber 0 5 x1 = some (0, x2) := r1
          have r2' : fn8_other 0 5 0 (up2 m2 3 (24 + 3 * nk) (nI a)) = some (nI 0, m3) := r2
          rw [r1', oneOf_v r2' m10 (by omega) o1]
          simp only [bp]
          have hB2 : BR (up2 (up2 m3 0 10 (nI (max ho (0 + 1)) - 1)) 3 (24 + 3 * nk + 1) (nI 0)) e p := BR_u (BR_u r4 (by omega)) (by omega)
          obtain ⟨w2, hz2⟩ := oneOf_B (c := (1 : Int32) <<< (nI 0 &&& 31)) hB2 he
          rw [hz2]
          simp only [bp]
          have hB3 : ∀ u v, BR (up2 (up2 (up2 (up2 (up2 m3 0 10 (nI (max ho (0 + 1)) - 1)) 3 (24 + 3 * nk + 1) (nI 0)) 0 10 w2) 3 (24 + 3 * nk + 2) u) 3 54 v) e p := fun u v => BR_u (BR_u (BR_u hB2 (by omega)) (by omega)) (by omega)
          rw [m_72B (hB3 _ _) he]
          exact ⟨x2, _, z2, ZM_u (ZM_u (ZM_u (ZM_u (ZM_u y3 (by omega)) (by omega)) (by omega)) (by omega)) (by omega), rfl, Or.inl ⟨e, p, he, hp, rfl, r3, hB3 _ _⟩⟩
        · rw [Nat.zero_testBit] at r3
          simp at r3
        · have r1' : fn5_readNumber 0 5 x1 = some (1, x2) := r1
          have r4' : fn8_other 0 5 0 (up2 m2 3 (24 + 3 * nk) (nI a)) = some (nI b, m3) := r4
          have hpw := pow5 (show b < 6 by omega)
          rw [r1', oneOf_v r4' m10 (by omega) o1]
          simp only [bp]
          rw [if_pos n10, r2, one_n b (by omega)]
          have J3 : JT x2 (up2 (up2 m3 0 10 (nI (max ho (b + 1)) - 1)) 3 (24 + 3 * nk + 1) (nI b)) t n s3 := JT_m (JT_m r6 (by omega)) (by omega)
          obtain ⟨x3, m4, k1, k2, k3⟩ := num_j (lo := 0) (hi := 5) (sm := 2 ^ b) J3 (by omega) (by omega) hpw
          have m410 : m4 0 10 = nI (max ho (b + 1)) - 1 := by
            rw [k2.2 10 (by omega), up2_cell (by omega), up2_same]
          have y4 : ZM m m4 := ZM_tr (ZM_u (ZM_u y3 (by omega)) (by omega)) (ZM_F k2)
          have z3 : ZX x x3 := ZX_tr z2 (ZX_F k1)
          have m454 : m4 3 54 = nI nk := by
            rw [k2.1 3 (by omega), up2_place (by omega), up2_cell (by omega), h2.1 3 (by omega), up2_place (by omega), f2.1 3 (by omega)]
            exact m54
          have tail : ∀ (z : Mem) (u : Int32), z 3 54 = nI nk → up2 z 3 (24 + 3 * nk + 2) u 3 54 + 1 = nI (nk + 1) := fun z u hz => by
            rw [up2_place (by omega), hz]
            exact n1 nk
          rcases k3 with ⟨e, p, he, hp, l1, l2, l3, l4⟩ | ⟨c, w1, w2, l1, l2, l3⟩
          · have l1' : fn5_readNumber 0 5 x2 = some (0, x3) := l1
            have l2' : fn8_other 0 5 (nI (2 ^ b)) (up2 (up2 m3 0 10 (nI (max ho (b + 1)) - 1)) 3 (24 + 3 * nk + 1) (nI b)) = some (nI 0, m4) := l2
            rw [l1', oneOf_v l2' m410 (by omega) (by omega)]
            simp only [bp]
            have hB3 : ∀ u v, BR (up2 (up2 (up2 m4 0 10 (nI (max (max ho (b + 1)) (0 + 1)) - 1)) 3 (24 + 3 * nk + 2) u) 3 54 v) e p := fun u v => BR_u (BR_u (BR_u l4 (by omega)) (by omega)) (by omega)
            rw [m_72B (hB3 _ _) he]
            exact ⟨x3, _, z3, ZM_u (ZM_u (ZM_u y4 (by omega)) (by omega)) (by omega), rfl, Or.inl ⟨e, p, he, hp, rfl, l3, hB3 _ _⟩⟩
          · have l1' : fn5_readNumber 0 5 x2 = some (1, x3) := l1
            rw [l1']
            simp only [bp]
            rw [if_pos n10, l2]
            rcases l3 with ⟨l3, l4, p, l5, l6, l7⟩ | ⟨l3, l4, s4, l5, l6⟩
            · have ebc : b = c := by
                rw [Nat.testBit_two_pow] at l3
                exact of_decide_eq_true l3
              have l4' : fn8_other 0 5 (nI (2 ^ b)) (up2 (up2 m3 0 10 (nI (max ho (b + 1)) - 1)) 3 (24 + 3 * nk + 1) (nI b)) = some (nI 0, m4) := l4
              rw [if_neg (show ¬ ¬ nI c = nI b by rw [ebc]; exact fun z => z rfl), fail_x, oneOf_v l4' m410 (by omega) (by omega)]
              simp only [bp]
              have hB3 : ∀ u v, BR (up2 (up2 (up2 m4 0 10 (nI (max (max ho (b + 1)) (0 + 1)) - 1)) 3 (24 + 3 * nk + 2) u) 3 54 v) 4 p := fun u v => BR_u (BR_u (BR_u l7 (by omega)) (by omega)) (by omega)
              rw [m_72B (hB3 _ _) (by omega)]
              exact ⟨_, _, ZX_u (ZX_u z3 (by omega)) (by omega), ZM_u (ZM_u (ZM_u y4 (by omega)) (by omega)) (by omega), rfl, Or.inl ⟨4, p, by omega, l5, rfl, FA_up rfl l6, hB3 _ _⟩⟩
            · have ebc : b ≠ c := by
                rw [Nat.testBit_two_pow] at l3
                exact of_decide_eq_false l3
              have l4' : fn8_other 0 5 (nI (2 ^ b)) (up2 (up2 m3 0 10 (nI (max ho (b + 1)) - 1)) 3 (24 + 3 * nk + 1) (nI b)) = some (nI c, m4) := l4
              have x12 : x3 12 9 = nI nk := by
                rw [k1.1 12 (by omega), h1.1 12 (by omega), f1.1 12 (by omega)]
                exact p2
              rw [if_pos (show ¬ nI c = nI b by rw [eq_n (by omega) (by omega)]; omega), x_put x12 (by omega), oneOf_v l4' m410 (by omega) (by omega)]
              simp only [bp]
              rw [tail _ _ (by rw [up2_cell (by omega)]; exact m454)]
              have J4 : JT (tX x3 nk a b c) (up2 (up2 (up2 m4 0 10 (nI (max (max ho (b + 1)) (c + 1)) - 1)) 3 (24 + 3 * nk + 2) (nI c)) 3 54 (nI (nk + 1))) t n s4 := JT_m (JT_m (JT_m (JT_x (JT_x (JT_x (JT_x l6 (by omega)) (by omega)) (by omega)) (by omega)) (by omega)) (by omega)) (by omega)
              obtain ⟨x5, m5, j1, j2, j3, j4⟩ := stop_j J4
              have Fa : FX (tX x nk a b c) x5 := FX_tr (FX_c (FX_c (FX_c (FX_c (FX_tr (FX_tr f1 h1) k1))))) j1
              have Fb : FM (tM (up2 m 0 8 (nI (to ||| 2 ^ 5))) nk a b c (max ho (b + 1)) (max (max ho (b + 1)) (c + 1))) m5 := FM_tr (FM_c (FM_c (FM_c (FM_tr (FM_c (FM_c (FM_tr (FM_c (FM_tr g1 f2)) h2))) k2)))) j2
              have z5 : ZX x x5 := ZX_tr (ZX_u (ZX_u (ZX_u (ZX_u z3 (by omega)) (by omega)) (by omega)) (by omega)) (ZX_F j1)
              have y5 : ZM m m5 := ZM_tr (ZM_u (ZM_u (ZM_u y4 (by omega)) (by omega)) (by omega)) (ZM_F j2)
              obtain ⟨t2, t3, t4, t5, t6⟩ := d_to (v := nI (to ||| 2 ^ 5)) d2 d3 d4 d5 d6
              have t1 := dS_to d1 (show 2 ≤ 5 by omega) (show 5 < 6 by omega)
              rw [j3]
              rcases j4 with ⟨e, p, he, hp, i1, i2, i3⟩ | ⟨s6, i0, i1, i2⟩
              · rw [i1, isb_0]
                exact ⟨x5, m5, z5, y5, rfl, Or.inl ⟨e, p, he, hp, rfl, i2, i3⟩⟩
              · rw [i1, isb_1]
                refine ⟨x5, m5, z5, y5, rfl, Or.inr ⟨s6, by omega, rfl, i2, DD_F (DD_talk t1 t2 t3 t4 t5 t6 (by omega) (by omega) (by omega) (by omega) ebc) Fa Fb, ?_⟩⟩
                rw [Fa.2 1 (by omega) (by omega) (by omega) (by omega) (by omega) (by omega)]
                unfold tX
                rw [up2_cell (by omega), up2_cell (by omega), up2_cell (by omega), up2_cell (by omega)]
