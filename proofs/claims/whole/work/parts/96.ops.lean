/-! text: a coin's line -/
def coinM (nc : Nat) (w : Mem) : Option (Int32 × Mem) := (if ¬ w 0 16 = 0 then fn8_readCoin_75 w else (if ¬ w 0 20 = 1 then fn8_readCoin_75 w else (fn8_nameHere w).bind (fun q49 => (if q49.1 = 6 then fn8_readCoin_62 (nI (4 * nc)) q49.2 else (fn8_fails 2 q49.2).bind (fun q59 => fn8_readCoin_62 (nI (4 * nc)) q59.2)))))
theorem kd_4 {t : Nat → Nat} {n s : Nat} (eo : okT t n s = true) : kdT t n s ≠ 4 := by
  intro z
  unfold okT at eo
  rw [z] at eo
  simp at eo
theorem nmk_no {t : Nat → Nat} {n s : Nat} (h : kdT t n s ≠ 1) : nmk t n s = 12 := by
  unfold nmk
  rw [if_neg h]
theorem coin_end {X M : Mem} {t : Nat → Nat} {n s nc : Nat} (J : JT X M t n s) (hn : nc < 6) (h7 : M 0 7 = nI nc) : ∃ x' m', (coinM nc M).bind (fun q => fn8_readLine_72 q.2) = some (0, m') ∧ ((∃ e p, (1 ≤ e ∧ e ≤ 9) ∧ p ≤ 320 ∧ fn5_readCoin_85 (nI nc) X = some (0, x') ∧ FA x' e p ∧ BR m' e p ∧ ZX X x' ∧ ZM M m') ∨ (∃ s', s < s' ∧ fn5_readCoin_85 (nI nc) X = some (1, x') ∧ JT x' m' t n s' ∧ ((FX X x' ∧ FM (up2 M 0 7 (nI (nc + 1))) m') ∨ (FX (up2 X 18 nc 1) x' ∧ FM (up2 (up2 M 3 (4 * nc + 2) 1) 0 7 (nI (nc + 1))) m')))) := by
  obtain ⟨x4, a1, a2⟩ := tok_j J
  have hib : ib (nI nc) 6 = true := ib_y (by omega) (by omega)
  unfold fn5_readCoin_85 coinM
  rcases a2 with ⟨b1, b2, b3, b4, b5⟩ | ⟨b1, b2, S1⟩
  · rw [b2, if_pos (br_0 b5 (by omega))]
    unfold fn8_readCoin_75
    simp only [bp]
    have hB : ∀ v, BR (up2 M 0 7 v) 1 (hdT t n s) := fun v => BR_u b5 (by omega)
    rw [m_72B (hB _) (by omega)]
    exact ⟨x4, _, rfl, Or.inl ⟨1, _, by omega, b3, rfl, b4, hB _, ZX_F a1, ZM_u (ZM_rf M) (by omega)⟩⟩
  · obtain ⟨sT, sM, ss, s7, s8, s9, s2, sK, so⟩ := id S1
    have s16 : M 0 16 = 0 := (sK.2.2.2.1 so).1
    have e4 := kd_4 so
    have hkd := kd_le (t := t) (n := n) (s := s)
    have hd := hd_in (t := t) ss
    have hn320 := sT.1
    have s20 : M 0 20 = nI (kdT t n s) := by rw [sK.2.2.1, if_neg e4]
    rw [b2, if_neg (show ¬ ¬ M 0 16 = 0 from fun z => z s16), s20]
    simp only [bp]
    rw [if_pos n10, x_isName (c := 9) sT ss s7 s8 s9 (by omega), show ixs 9 = 6 from rfl]
    simp only [bp]
    by_cases ek : kdT t n s = 1
    · have hb1 := bh_lt ss (show kdT t n s ≠ 0 by omega)
      rw [if_neg (show ¬ ¬ nI (kdT t n s) = 1 by rw [ek]; exact fun z => z rfl), m_nameHere sM ss sK]
      simp only [bp]
      have i2 : ib (nI (4 * nc + 2)) 57 = true := ib57 (by omega)
      by_cases e6 : nmk t n s = 6
      · rw [e6, decide_eq_true rfl, bI_t, if_neg n10, if_pos (show 6 < 12 by omega), if_pos (show nI 6 = 6 from rfl), if_pos hib, cl_n (by omega), nar1]
        unfold fn8_readCoin_62 fn8_readCoin_75
        rw [show nI (4 * nc) + 2 = nI (4 * nc + 2) from nI_add _ 2, if_pos i2, cl_n (by omega)]
        have tM : TpM (up2 M 3 (4 * nc + 2) 1) n t := TpM_k sM (by rw [up2_cell (by omega)]) (up2_cell (by omega)) (up2_cell (by omega)) (up2_cell (by omega))
        obtain ⟨m5, c1, c2, c3⟩ := m_step tM hb1.2 (by rw [up2_cell (by omega)]; exact s16) (by rw [up2_cell (by omega)]; exact sK.1)
        rw [c1]
        simp only [bp]
        have m57 : m5 0 7 = nI nc := by
          rw [c2.2 7 (by omega), up2_cell (by omega)]
          exact h7
        rw [m57, n1]
        have J5 : JT (up2 x4 18 nc 1) (up2 m5 0 7 (nI (nc + 1))) t n (bhT t n s) := JT_m (JT_x ⟨sT, TpM_F tM c2, hb1.2, s9, s2, c3⟩ (by omega)) (by omega)
        obtain ⟨x6, m6, k1, k2, k3, k4⟩ := stop_j J5
        rw [k3]
        rcases k4 with ⟨e, p, he, hp, l1, l2, l3⟩ | ⟨s4, l0, l1, l2⟩
        · rw [l1, isb_0]
          exact ⟨x6, m6, rfl, Or.inl ⟨e, p, he, hp, rfl, l2, l3, ZX_tr (ZX_u (ZX_F a1) (by omega)) (ZX_F k1), ZM_tr (ZM_u (ZM_tr (ZM_u (ZM_rf M) (by omega)) (ZM_F c2)) (by omega)) (ZM_F k2)⟩⟩
        · rw [l1, isb_1]
          exact ⟨x6, m6, rfl, Or.inr ⟨s4, by omega, rfl, l2, Or.inr ⟨FX_tr (FX_c a1) k1, FM_tr (FM_c c2) k2⟩⟩⟩
      · have hnm := nmk_le (t := t) (n := n) (s := s)
        have ne : ¬ (if nmk t n s < 12 then nI (nmk t n s) else -4) = 6 := by
          by_cases e12 : nmk t n s < 12
          · rw [if_pos e12, show (6 : Int32) = nI 6 from rfl, eq_n (by omega) (by omega)]
            exact e6
          · rw [if_neg e12]
            decide
        rw [decide_eq_false e6, bI_f, if_pos rfl, if_neg ne, m_fails s16]
        simp only [bp]
        have hB : BR (up2 (up2 M 0 16 2) 0 17 (M 0 19)) 2 (hdT t n s) := br_up sK.2.1
        have hB2 : BR (up2 (up2 (up2 M 0 16 2) 0 17 (M 0 19)) 3 (4 * nc + 2) 1) 2 (hdT t n s) := BR_u hB (by omega)
        have hB3 : ∀ v, BR (up2 (up2 (up2 (up2 M 0 16 2) 0 17 (M 0 19)) 3 (4 * nc + 2) 1) 0 7 v) 2 (hdT t n s) := fun v => BR_u hB2 (by omega)
        unfold fn8_readCoin_62 fn8_readCoin_75
        rw [show nI (4 * nc) + 2 = nI (4 * nc + 2) from nI_add _ 2, if_pos i2, cl_n (by omega), m_stepB hB2 (by omega)]
        simp only [bp]
        rw [m_72B (hB3 _) (by omega)]
        obtain ⟨x5, m5, k1, k2, k3, k4⟩ := check_j S1
        rcases k4 with ⟨l0, l1, l2, l3, l4⟩ | ⟨l1, -⟩
        · rw [l2, isb_0]
          exact ⟨x5, _, rfl, Or.inl ⟨2, _, by omega, l0, rfl, l3, hB3 _, ZX_tr (ZX_F a1) (ZX_F k1), ZM_u (ZM_u (ZM_u (ZM_u (ZM_rf M) (by omega)) (by omega)) (by omega)) (by omega)⟩⟩
        · omega
    · rw [if_pos (show ¬ nI (kdT t n s) = 1 by rw [show (1 : Int32) = nI 1 from rfl, eq_n (by omega) (by omega)]; exact ek), nmk_no ek, decide_eq_false (by omega), bI_f, if_pos rfl]
      unfold fn8_readCoin_75
      simp only [bp]
      rw [h7, n1]
      obtain ⟨x5, m5, k1, k2, k3, k4⟩ := check_j (JS_m S1 (k := 0) (j := 7) (v := nI (nc + 1)) (by omega))
      rw [k3]
      rcases k4 with ⟨l0, l1, l2, l3, l4⟩ | ⟨l1, l2, l3, l4⟩
      · rw [l2, isb_0]
        exact ⟨x5, m5, rfl, Or.inl ⟨2, _, by omega, l0, rfl, l3, l4, ZX_tr (ZX_F a1) (ZX_F k1), ZM_tr (ZM_u (ZM_rf M) (by omega)) (ZM_F k2)⟩⟩
      · rw [l2, isb_1]
        exact ⟨x5, m5, rfl, Or.inr ⟨_, l3, rfl, l4, Or.inl ⟨FX_tr a1 k1, k2⟩⟩⟩
theorem line_coin {x m : Mem} {t : Nat → Nat} {n s : Nat} (S : JS x m t n s) (hk : kdT t n s ≠ 0) (D : DD x m) : LR (fn5_readCoin x) (lineM 3 fn8_readCoin m) x m t n s := by
  obtain ⟨lw, fe, to, np, nc, nk, ho, sp, hc, d1, d2, d3, d4, d5, d6⟩ := D
  obtain ⟨e1, e2, e3, e4, e5, e6, e7, e8, e9, e10⟩ := id d1
  obtain ⟨p1, p2, p3, p4, p5⟩ := id d3
  obtain ⟨o1, o2, o3⟩ := id d6
  have hn := S.1.1
  have hd := hd_in (t := t) S.2.2.1
  have hr := room_full (m := m) (nm := 3) (a := nc) (Or.inr (Or.inl ⟨rfl, p1, p3⟩))
  rw [if_neg (show ¬ 3 = 5 by omega)] at hr
  unfold fn5_readCoin
  rw [p2]
  by_cases eb : nc = 6
  · rw [if_pos eb] at hr
    obtain ⟨m1, g1, g2, g3⟩ := line_shut (f := fn8_readCoin) S e8 e7 (by omega) (by omega) hr
    rw [g3, if_neg (show ¬ nI nc < 6 by rw [eb]; decide), fail_x]
    exact ⟨_, m1, ZX_u (ZX_u (ZX_rf x) (by omega)) (by omega), ZM_tr (ZM_u (ZM_rf m) (by omega)) (ZM_F g1), rfl, Or.inl ⟨5, hdT t n s, by omega, by omega, rfl, FA_up rfl S.2.2.2.2.1, g2⟩⟩
  · rw [if_neg eb] at hr
    obtain ⟨m1, g1, g2, g0, g3⟩ := line_open (f := fn8_readCoin) S e8 e7 (by omega) hr hk
    have hib : ib (nI nc) 6 = true := ib_y (by omega) (by omega)
    rw [g3, if_pos (show nI nc < 6 from nI_lt (b := 6) (by omega) (by omega))]
    simp only [if_pos hib, cl_n (show nc < 1048576 by omega)]
    have y1 : ZM m m1 := ZM_tr (ZM_u (ZM_rf m) (by omega)) (ZM_F g1)
    cases eo : okT t n (bhT t n s)
    · obtain ⟨x1, p, f1, f2, f3, f4, f5⟩ := num_f (lo := 1) (hi := 3) g2 (by omega) (by omega) eo
      have f3' : fn5_readNumber 1 3 x = some (0, x1) := f3
      rw [f3', if_neg (show ¬ (false = true) by simp)]
      exact ⟨x1, m1, ZX_F f1, y1, rfl, Or.inl ⟨1, p, by omega, f2, rfl, f4, f5⟩⟩
    · rw [if_pos rfl]
      obtain ⟨x1, m2, f1, f2, f3⟩ := num_j (lo := 1) (hi := 3) (sm := 0) g2 (by omega) (by omega) (by omega)
      unfold fn8_readCoin
      have m17 : m1 0 7 = nI nc := by
        rw [g1.2 7 (by omega), up2_place (by omega)]
        exact p3
      have i0 : ib (nI (4 * nc)) 57 = true := ib57 (by omega)
      have i1 : ib (nI (4 * nc + 1)) 57 = true := ib57 (by omega)
      have y2 : ZM m m2 := ZM_tr y1 (ZM_F f2)
      rw [m17, e40, show nI (4 * nc) + 1 = nI (4 * nc + 1) from nI_add _ 1]
      simp only [if_pos i0, if_pos i1, cl_n (show 4 * nc < 1048576 by omega), cl_n (show 4 * nc + 1 < 1048576 by omega)]
      rcases f3 with ⟨e, p, he, hp, q1, q2, q3, q4⟩ | ⟨a, v1, v2, q1, q2, ⟨q3, -⟩ | ⟨q3, q4, s', q5, q6⟩⟩
      · have q1' : fn5_readNumber 1 3 x = some (0, x1) := q1
        have q2' : fn8_other 1 3 0 m1 = some (nI 1, m2) := q2
        rw [q1', q2']
        simp only [bp]
        have hB1 : BR (up2 m2 3 (4 * nc) (nI 1)) e p := BR_u q4 (by omega)
        obtain ⟨z, hz⟩ := oneOf_B (c := 0) hB1 he
        rw [hz]
        simp only [bp]
        have hB2 : BR (up2 (up2 (up2 m2 3 (4 * nc) (nI 1)) 0 10 z) 3 (4 * nc + 1) 0) e p := BR_u (BR_u hB1 (by omega)) (by omega)
        rw [if_pos (br_0 hB2 he)]
        unfold fn8_readCoin_75
        simp only [bp]
        have hB3 : ∀ v, BR (up2 (up2 (up2 (up2 m2 3 (4 * nc) (nI 1)) 0 10 z) 3 (4 * nc + 1) 0) 0 7 v) e p := fun v => BR_u hB2 (by omega)
        rw [m_72B (hB3 _) he]
        exact ⟨x1, _, ZX_F f1, ZM_u (ZM_u (ZM_u (ZM_u y2 (by omega)) (by omega)) (by omega)) (by omega), rfl, Or.inl ⟨e, p, he, hp, rfl, q3, hB3 _⟩⟩
      · rw [Nat.zero_testBit] at q3
        simp at q3
      · have q1' : fn5_readNumber 1 3 x = some (1, x1) := q1
        have q4' : fn8_other 1 3 0 m1 = some (nI a, m2) := q4
        rw [q1', q4']
        simp only [bp]
        rw [if_pos n10, q2]
        have J2 : JT (up2 x1 16 nc (nI a)) (up2 m2 3 (4 * nc) (nI a)) t n s' := JT_m (JT_x q6 (by omega)) (by omega)
        obtain ⟨x2, m3, h1, h2, h3⟩ := num_j (lo := 0) (hi := 5) (sm := 0) J2 (by omega) (by omega) (by omega)
        have m10 : m3 0 10 = nI ho - 1 := by
          rw [h2.2 10 (by omega), up2_cell (by omega), f2.2 10 (by omega), g1.2 10 (by omega), up2_place (by omega)]
          exact o2
        have y3 : ZM m m3 := ZM_tr (ZM_u y2 (by omega)) (ZM_F h2)
        have z2 : ZX x x2 := ZX_tr (ZX_u (ZX_F f1) (by omega)) (ZX_F h1)
        rcases h3 with ⟨e, p, he, hp, r1, r2, r3, r4⟩ | ⟨b, u1, u2, r1, r2, ⟨r3, -⟩ | ⟨r3, r4, s3, r5, r6⟩⟩
        · have r1' : fn5_readNumber 0 5 (up2 x1 16 nc (nI a)) = some (0, x2) := r1
          have r2' : fn8_other 0 5 0 (up2 m2 3 (4 * nc) (nI a)) = some (nI 0, m3) := r2
          rw [r1', oneOf_v r2' m10 (by omega) o1]
          simp only [bp]
          have hB2 : ∀ u v, BR (up2 (up2 m3 0 10 u) 3 (4 * nc + 1) v) e p := fun u v => BR_u (BR_u r4 (by omega)) (by omega)
          rw [if_pos (br_0 (hB2 _ _) he)]
          unfold fn8_readCoin_75
          simp only [bp]
          have hB3 : ∀ u v w, BR (up2 (up2 (up2 m3 0 10 u) 3 (4 * nc + 1) v) 0 7 w) e p := fun u v w => BR_u (hB2 u v) (by omega)
          rw [m_72B (hB3 _ _ _) he]
          exact ⟨x2, _, z2, ZM_u (ZM_u (ZM_u y3 (by omega)) (by omega)) (by omega), rfl, Or.inl ⟨e, p, he, hp, rfl, r3, hB3 _ _ _⟩⟩
        · rw [Nat.zero_testBit] at r3
          simp at r3
        · have r1' : fn5_readNumber 0 5 (up2 x1 16 nc (nI a)) = some (1, x2) := r1
          have r4' : fn8_other 0 5 0 (up2 m2 3 (4 * nc) (nI a)) = some (nI b, m3) := r4
          have x12 : x2 12 4 = nI nc := by
            rw [h1.1 12 (by omega), up2_cell (by omega), f1.1 12 (by omega)]
            exact p2
          rw [r1', oneOf_v r4' m10 (by omega) o1]
          simp only [bp]
          rw [if_pos n10, r2, up2_cell (w := x2) (k := 17) (k' := 12) (by omega), x12, n1]
          have J3 : JT (up2 (up2 x2 17 nc (nI b)) 12 4 (nI (nc + 1))) (up2 (up2 m3 0 10 (nI (max ho (b + 1)) - 1)) 3 (4 * nc + 1) (nI b)) t n s3 := JT_m (JT_m (JT_x (JT_x r6 (by omega)) (by omega)) (by omega)) (by omega)
          have Fa : FX (cX x nc a b) (up2 (up2 x2 17 nc (nI b)) 12 4 (nI (nc + 1))) := FX_c (FX_c (FX_tr (FX_c f1) h1))
          have Fb : FM (cM (up2 m 0 8 (nI (to ||| 2 ^ 3))) nc a b (max ho (b + 1))) (up2 (up2 m3 0 10 (nI (max ho (b + 1)) - 1)) 3 (4 * nc + 1) (nI b)) := FM_c (FM_c (FM_tr (FM_c (FM_tr g1 f2)) h2))
          have m07 : up2 (up2 m3 0 10 (nI (max ho (b + 1)) - 1)) 3 (4 * nc + 1) (nI b) 0 7 = nI nc := by
            rw [up2_cell (by omega), up2_place (by omega), h2.2 7 (by omega), up2_cell (by omega), f2.2 7 (by omega)]
            exact m17
          have zX : ZX x (up2 (up2 x2 17 nc (nI b)) 12 4 (nI (nc + 1))) := ZX_u (ZX_u z2 (by omega)) (by omega)
          have zM : ZM m (up2 (up2 m3 0 10 (nI (max ho (b + 1)) - 1)) 3 (4 * nc + 1) (nI b)) := ZM_u (ZM_u y3 (by omega)) (by omega)
          obtain ⟨t2, t3, t4, t5, t6⟩ := d_to (v := nI (to ||| 2 ^ 3)) d2 d3 d4 d5 d6
          have t1 := dS_to d1 (show 2 ≤ 3 by omega) (show 3 < 6 by omega)
          have x551 : up2 (up2 x2 17 nc (nI b)) 12 4 (nI (nc + 1)) 55 1 = x 55 1 := by
            rw [Fa.2 1 (by omega) (by omega) (by omega) (by omega) (by omega) (by omega)]
            unfold cX
            rw [up2_cell (by omega), up2_cell (by omega), up2_cell (by omega)]
          obtain ⟨x', m', w1, w2⟩ := coin_end J3 (show nc < 6 by omega) m07
          unfold coinM at w1
          rw [w1]
          rcases w2 with ⟨e, p, he, hp, l1, l2, l3, l4, l5⟩ | ⟨s4, l0, l1, l2, l3⟩
          · exact ⟨x', m', ZX_tr zX l4, ZM_tr zM l5, rfl, Or.inl ⟨e, p, he, hp, l1, l2, l3⟩⟩
          · rcases l3 with ⟨l4, l5⟩ | ⟨l4, l5⟩
            · refine ⟨x', m', ZX_tr zX (ZX_F l4), ZM_tr (ZM_u zM (by omega)) (ZM_F l5), rfl, Or.inr ⟨s4, by omega, l1, l2, DD_F (DD_coin0 t1 t2 t3 t4 t5 t6 (by omega) ⟨v1, v2⟩ (by omega)) (FX_tr Fa l4) (FM_tr (FM_c Fb) l5), ?_⟩⟩
              rw [l4.2 1 (by omega) (by omega) (by omega) (by omega) (by omega) (by omega), x551]
            · refine ⟨x', m', ZX_tr (ZX_u zX (by omega)) (ZX_F l4), ZM_tr (ZM_u (ZM_u zM (by omega)) (by omega)) (ZM_F l5), rfl, Or.inr ⟨s4, by omega, l1, l2, DD_F (DD_coin1 t1 t2 t3 t4 t5 t6 (by omega) ⟨v1, v2⟩ (by omega)) (FX_tr (FX_c Fa) l4) (FM_tr (FM_c (FM_c Fb)) l5), ?_⟩⟩
              rw [l4.2 1 (by omega) (by omega) (by omega) (by omega) (by omega) (by omega), up2_cell (by omega), x551]
