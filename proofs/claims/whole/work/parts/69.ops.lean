/-- the clipped ones, from c on -/
def cz (w : Mem) (b f c : Nat) : Mem := upm w (b + 6) (fun j => if c ≤ j ∧ j < 6 then vp_nar .boolean (w (f + 6) j) else w (b + 6) j)
theorem cz_cell {w : Mem} {b f c k : Nat} (h : k ≠ b + 6) : cz w b f c k = w k := by simp [cz, upm, h]
theorem cz_at {w : Mem} {b f c j : Nat} : cz w b f c (b + 6) j = if c ≤ j ∧ j < 6 then vp_nar .boolean (w (f + 6) j) else w (b + 6) j := by simp [cz, upm]
theorem cz_nil {w : Mem} {b f : Nat} : cz w b f 6 = w := by
  funext i j
  by_cases h : i = b + 6
  · subst h
    rw [cz_at, if_neg (by omega)]
  · rw [cz_cell h]
theorem cz_step {w : Mem} {b f c : Nat} (hbf : f ≠ b) (h : c < 6) : cz (up2 w (b + 6) c (vp_nar .boolean (w (f + 6) c))) b f (c + 1) = cz w b f c := by
  funext i j
  by_cases hi : i = b + 6
  · subst hi
    rw [cz_at, cz_at, up2_cell (k' := f + 6) (by omega), up2_at]
    by_cases e : j = c
    · subst e
      simp only [true_and, if_true]
      rw [if_neg (by omega), if_pos (by omega)]
    · by_cases e2 : c ≤ j ∧ j < 6
      · rw [if_pos (by omega), if_pos e2]
      · rw [if_neg (by omega), if_neg e2, if_neg (by simp [e])]
  · rw [cz_cell hi, cz_cell hi, up2_cell hi]
theorem x_copyL {b f0 : Nat} (hbf : f0 ≠ b) {k : Int32 → Mem → Option (Int32 × Mem)} : ∀ d c f w, c + d = 6 → d < f → fn6_copyFrom_108 b f0 k f (nI c) w = k (nI 6) (cz w b f0 c) := by
  intro d
  induction d with
  | zero =>
    intro c f w hc hf
    obtain ⟨f, rfl⟩ : ∃ g, f = g + 1 := ⟨f - 1, by omega⟩
    have e : c = 6 := by omega
    subst e
    rw [fn6_copyFrom_108, if_pos (show (6 : Int32) ≤ nI 6 by decide), cz_nil]
  | succ d ih =>
    intro c f w hc hf
    obtain ⟨f, rfl⟩ : ∃ g, f = g + 1 := ⟨f - 1, by omega⟩
    rw [fn6_copyFrom_108, if_neg (show ¬ (6 : Int32) ≤ nI c from nI_ge (b := 6) (by omega) (by omega)), if_pos (ib_y (by omega) (by omega)), if_pos (ib_y (by omega) (by omega)), cl_n (by omega), show nI c + 1 = nI (c + 1) from nI_add c 1, ih (c + 1) f _ (by omega) (by omega), cz_step hbf (by omega)]
theorem c6 : (6 : Int32).toNatClampNeg = 6 := by decide
theorem c10 : (10 : Int32).toNatClampNeg = 10 := by decide
theorem nar_b {n : Nat} (h : n ≤ 1) : vp_nar .boolean (nI n) = nI n := by
  rcases (show n = 0 ∨ n = 1 by omega) with e | e <;> subst e <;> decide
set_option maxHeartbeats 1000000 in
theorem x_copyFrom {w : Mem} {b f : Nat} (h : b + 10 < f ∨ f + 10 < b) : ∃ w' : Mem, fn6_copyFrom b f w = some (0, w') ∧ (∀ k, (k < b ∨ b + 10 < k) → w' k = w k) ∧ ∀ A : Abs, okA A → TX w f A → TX w' b A := by
  unfold fn6_copyFrom fn6_copyFrom_53 fn6_copyFrom_106
  rw [show (0 : Int32) = nI 0 from rfl, x_copyL (by omega) 6 0 1000 _ (by omega) (by omega)]
  unfold fn6_copyFrom_170 fn6_copyFrom_193
  simp only [c6, c10]
  refine ⟨_, rfl, fun k hk => ?_, fun A hA hT => ?_⟩
  · simp (disch := omega) only [up2_cell, cpm_cell, cz_cell]
  · obtain ⟨a1, a2, a3, a4, a5, a6, a7, a8⟩ := hT
    obtain ⟨o1, o2, o3, o4, o5, o6, o7, o8⟩ := hA
    refine ⟨?_, ?_, ?_, ?_, ?_, fun p hp => ⟨?_, ?_, ?_⟩, fun c hc => ⟨?_, ?_, ?_, ?_⟩, fun k hk => ⟨?_, ?_, ?_⟩⟩
    · simp (disch := omega) only [up2_cell, cpm_cell, cz_cell, up2_place, up2_same]; exact a1
    · simp (disch := omega) only [up2_cell, cpm_cell, cz_cell, up2_place, up2_same]; exact a2
    · simp (disch := omega) only [up2_cell, cpm_cell, cz_cell, up2_place, up2_same]; exact a3
    · simp (disch := omega) only [up2_cell, cpm_cell, cz_cell, up2_place, up2_same]; exact a4
    · simp (disch := omega) only [up2_cell, cpm_cell, cz_cell, up2_place, up2_same]; exact a5
    · simp (disch := omega) only [up2_cell, cpm_cell, cz_cell, cpm_same, if_pos]; exact (a6 p hp).1
    · simp (disch := omega) only [up2_cell, cpm_cell, cz_cell, cpm_same, if_pos]; exact (a6 p hp).2.1
    · simp (disch := omega) only [up2_cell, cpm_cell, cz_cell, cpm_same, if_pos]; exact (a6 p hp).2.2
    · simp (disch := omega) only [up2_cell, cpm_cell, cz_cell, cpm_same, if_pos]; exact (a7 c hc).1
    · simp (disch := omega) only [up2_cell, cpm_cell, cz_cell, cpm_same, if_pos]; exact (a7 c hc).2.1
    · simp (disch := omega) only [up2_cell, cpm_cell, cz_at, if_pos]
      rw [(a7 c hc).2.2.1]
      exact nar_b (o7 c hc).2.2.2.1
    · simp (disch := omega) only [up2_cell, cpm_cell, cz_cell, cpm_same, if_pos]; exact (a7 c hc).2.2.2
    · simp (disch := omega) only [up2_cell, cpm_cell, cz_cell, cpm_same, if_pos]; exact (a8 k hk).1
    · simp (disch := omega) only [up2_cell, cpm_cell, cz_cell, cpm_same, if_pos]; exact (a8 k hk).2.1
    · simp (disch := omega) only [up2_cell, cpm_cell, cz_cell, cpm_same, if_pos]; exact (a8 k hk).2.2
/-- a page, from its place c on -/
def pg (w : Mem) (a b c : Nat) : Mem := upm w 1 (fun j => if b + c ≤ j ∧ j < b + 57 then w 1 (a + (j - b)) else w 1 j)
theorem pg_cell {w : Mem} {a b c k : Nat} (h : k ≠ 1) : pg w a b c k = w k := by simp [pg, upm, h]
theorem pg_at {w : Mem} {a b c j : Nat} : pg w a b c 1 j = if b + c ≤ j ∧ j < b + 57 then w 1 (a + (j - b)) else w 1 j := by simp [pg, upm]
theorem pg_nil {w : Mem} {a b : Nat} : pg w a b 57 = w := by
  funext i j
  by_cases h : i = 1
  · subst h
    rw [pg_at, if_neg (by omega)]
  · rw [pg_cell h]
theorem pg_step {w : Mem} {a b c : Nat} (hab : a + 57 ≤ b ∨ b + 57 ≤ a) (h : c < 57) : pg (up2 w 1 (b + c) (w 1 (a + c))) a b (c + 1) = pg w a b c := by
  funext i j
  by_cases hi : i = 1
  · subst hi
    rw [pg_at, pg_at]
    by_cases e : j = b + c
    · subst e
      rw [if_neg (by omega), up2_same, if_pos (by omega), show b + c - b = c by omega]
    · by_cases e2 : b + c ≤ j ∧ j < b + 57
      · rw [if_pos (by omega), if_pos e2, up2_place (by omega)]
      · rw [if_neg (by omega), if_neg e2, up2_place e]
  · rw [pg_cell hi, pg_cell hi, up2_cell hi]
theorem m_copyL {a b : Nat} (hab : a + 57 ≤ b ∨ b + 57 ≤ a) (ha : a + 57 ≤ 228) (hb : b + 57 ≤ 228) {k : Int32 → Mem → Option (Int32 × Mem)} : ∀ d c f w, c + d = 57 → d < f → fn8_copies_2 (nI a) (nI b) k f (nI c) w = k (nI 57) (pg w a b c) := by
  intro d
  induction d with
  | zero =>
    intro c f w hc hf
    obtain ⟨f, rfl⟩ : ∃ g, f = g + 1 := ⟨f - 1, by omega⟩
    have e : c = 57 := by omega
    subst e
    rw [fn8_copies_2, if_pos (show (57 : Int32) ≤ nI 57 by decide), pg_nil]
  | succ d ih =>
    intro c f w hc hf
    obtain ⟨f, rfl⟩ : ∃ g, f = g + 1 := ⟨f - 1, by omega⟩
    rw [fn8_copies_2, if_neg (show ¬ (57 : Int32) ≤ nI c from nI_ge (b := 57) (by omega) (by omega)), nI_add, nI_add, if_pos (ib_y (by omega) (by omega)), if_pos (ib_y (by omega) (by omega)), cl_n (by omega), cl_n (by omega), show nI c + 1 = nI (c + 1) from nI_add c 1, ih (c + 1) f _ (by omega) (by omega), pg_step hab (by omega)]
theorem m_copies {a b : Nat} {w : Mem} (hab : a + 57 ≤ b ∨ b + 57 ≤ a) (ha : a + 57 ≤ 228) (hb : b + 57 ≤ 228) : fn8_copies (nI a) (nI b) w = some (0, pg w a b 0) := m_copyL hab ha hb 57 0 1000 w (by omega) (by omega)
theorem GM_pg {m : Mem} {a b : Nat} {A : Abs} (hA : okA A) (h : GM m a A) : GM (pg m a b 0) b A := by
  have hnc := hA.2.1
  have hnt := hA.2.2.1
  have r : ∀ t, t < 57 → pg m a b 0 1 (b + t) = m 1 (a + t) := fun t ht => by rw [pg_at, if_pos (by omega), show b + t - b = t by omega]
  obtain ⟨g1, g2, g3, g4, g5⟩ := h
  refine ⟨by rw [r _ (by omega)]; exact g1, by rw [r _ (by omega)]; exact g2, by rw [r _ (by omega)]; exact g3, fun c hc => ?_, fun k hk => ?_⟩
  · rw [r _ (by omega), r _ (by omega), r _ (by omega), r _ (by omega)]; exact g4 c hc
  · rw [r _ (by omega), r _ (by omega), r _ (by omega)]; exact g5 k hk
theorem sim_keep : S_keep RR := fun x m h a => by
  obtain ⟨A, hA, hT, hP, hG, hI, hR⟩ := (RR_iff x m).mp h
  unfold fn7_keep fn8_keep
  rw [show (1 : Int64) = (nI 2 - 1).toInt64 by decide]
  rcases in_or a 2 (by omega) with ho | ⟨k, hk, rfl⟩
  · rw [in_no ho (by omega)]
    refine ⟨-1, x, m, ?_, rfl, h⟩
    rcases out_lt ho with g | ⟨g1, g2⟩
    · rw [if_pos g]
    · rw [if_neg g1, if_neg]
      rw [Int32.lt_iff_toInt_lt]
      have := Int32.le_iff_toInt_le.mp g2
      rw [ti_n (by omega)] at this
      have g3 : (2 : Int32).toInt = 2 := by decide
      omega
  · have hib : ib (nI k) 2 = true := ib_y hk (by omega)
    have hib2 : ib (nI k) ([23, 34] : List Nat).length = true := ib_y (n := 2) hk (by omega)
    have eb : [23, 34].getD k 0 = 23 + 11 * k := by
      rcases (show k = 0 ∨ k = 1 by omega) with e | e <;> subst e <;> rfl
    obtain ⟨x', e1, e2, e3⟩ := x_copyFrom (w := x) (b := 23 + 11 * k) (f := 1) (by omega)
    rw [in_yes hk (by omega), if_neg (nI_pos (by omega)), if_pos (show nI k < 2 from nI_lt (b := 2) hk (by omega))]
    have e57 : (57 : Int32) * (nI k + 1) = nI (57 * (k + 1)) := by rw [show nI k + 1 = nI (k + 1) from nI_add k 1]; exact pk_mul 57 (k + 1)
    simp only [bs, if_pos n10, if_pos hib, if_pos hib2]
    rw [cl_n (by omega), eb, e57, show (0 : Int32) = nI 0 from rfl, m_copies (by omega) (by omega) (by omega)]
    simp only [bs]
    unfold fn8_keep_37 fn7_oneIf
    simp only [if_pos hib]
    rw [cl_n (by omega), pg_cell (k := 15) (by omega), ← (hI k hk).1, nar1]
    have fin : RR (up2 x' 69 k 1) (up2 (pg m 0 (57 * (k + 1)) 0) 15 k 1) := by
      refine (RR_iff _ _).mpr ⟨A, hA, TX_keep hT (fun i hi => ?_), PM_congr hP ?_ ?_ ?_, GM_keep hA hG (fun j _ hj => ?_), fun j hj => ?_, ?_⟩
      · rw [up2_cell (by omega), e2 _ (by omega)]
      · rw [up2_cell (by omega), pg_cell (by omega)]
      · rw [up2_cell (by omega), pg_cell (by omega)]
      · rw [up2_cell (by omega), pg_cell (by omega)]
      · rw [up2_cell (by omega), pg_at, if_neg (by omega)]
      · by_cases ej : j = k
        · subst ej
          rw [up2_same, up2_same]
          refine ⟨rfl, Or.inr ⟨rfl, A, hA, likeA_rf A, TX_keep (e3 A hA hT) (fun i hi => up2_cell (by omega)), ?_⟩⟩
          exact GM_keep hA (GM_pg hA hG) (fun j _ _ => by rw [up2_cell (by omega)])
        · obtain ⟨i1, i2⟩ := hI j hj
          rw [up2_place ej, up2_place ej, e2 69 (by omega), pg_cell (k := 15) (by omega)]
          refine ⟨i1, i2.elim Or.inl (fun g => Or.inr ⟨g.1, ?_⟩)⟩
          obtain ⟨I, b1, b2, b3, b4⟩ := g.2
          refine ⟨I, b1, b2, TX_keep b3 (fun i hi => ?_), GM_keep b1 b4 (fun t t1 t2 => ?_)⟩
          · rw [up2_cell (by omega), e2 _ (by omega)]
          · rw [up2_cell (by omega), pg_at, if_neg (by omega)]
      · obtain ⟨r1, r2, r3, r4, r5, r6, r7⟩ := hR
        have mk : ∀ t, t ≠ 1 → t ≠ 15 → up2 (pg m 0 (57 * (k + 1)) 0) 15 k 1 t = m t := fun t t1 t2 => by rw [up2_cell t2, pg_cell t1]
        have xk : ∀ t, 45 ≤ t → t ≠ 69 → up2 x' 69 k 1 t = x t := fun t t1 t2 => by rw [up2_cell t2, e2 t (by omega)]
        refine ⟨RT_congr r1 (xk _ (by omega) (by omega)) (xk _ (by omega) (by omega)) (by rw [mk 0 (by omega) (by omega)]) (mk _ (by omega) (by omega)), by rw [xk 55 (by omega) (by omega), mk 0 (by omega) (by omega)]; exact r2, RK_congr r3 (xk _ (by omega) (by omega)) (xk _ (by omega) (by omega)) (xk _ (by omega) (by omega)) (by rw [mk 0 (by omega) (by omega)]) (mk _ (by omega) (by omega)), RH_congr r4 (by rw [xk 64 (by omega) (by omega)]) (xk _ (by omega) (by omega)) (xk _ (by omega) (by omega)) (by rw [mk 0 (by omega) (by omega)]) (mk _ (by omega) (by omega)), RS_congr r5 (fun t t1 t2 => xk t t1 (by omega)) (mk _ (by omega) (by omega)) (mk _ (by omega) (by omega)) (mk _ (by omega) (by omega)), by rw [up2_cell (k' := 0) (by omega), e2 0 (by omega), mk 0 (by omega) (by omega)]; exact r6, RC_congr r7 (mk _ (by omega) (by omega)) (mk _ (by omega) (by omega))⟩
    rcases (hI k hk).2 with e | e
    · have e' : x 69 k = nI 0 := e
      simp only [if_pos e', if_pos e, bs]
      rw [e1]
      exact ⟨_, _, _, rfl, rfl, fin⟩
    · have e' : ¬ x 69 k = nI 0 := by rw [e.1]; decide
      have e'' : ¬ x 69 k = 0 := by rw [e.1]; decide
      simp only [if_neg e', if_neg e'', bs]
      rw [e1]
      exact ⟨_, _, _, rfl, rfl, fin⟩
theorem sim_back : S_back RR := fun x m h a => by
  obtain ⟨A, hA, hT, hP, hG, hI, hR⟩ := (RR_iff x m).mp h
  unfold fn7_back fn8_back
  rw [show (1 : Int64) = (nI 2 - 1).toInt64 by decide]
  rcases in_or a 2 (by omega) with ho | ⟨k, hk, rfl⟩
  · rw [in_no ho (by omega)]
    refine ⟨-1, x, m, ?_, rfl, h⟩
    rcases out_lt ho with g | ⟨g1, g2⟩
    · rw [if_pos g]
    · rw [if_neg g1, if_neg]
      rw [Int32.lt_iff_toInt_lt]
      have := Int32.le_iff_toInt_le.mp g2
      rw [ti_n (by omega)] at this
      have g3 : (2 : Int32).toInt = 2 := by decide
      omega
  · have hib : ib (nI k) 2 = true := ib_y hk (by omega)
    have hib2 : ib (nI k) ([23, 34] : List Nat).length = true := ib_y (n := 2) hk (by omega)
    have eb : [23, 34].getD k 0 = 23 + 11 * k := by
      rcases (show k = 0 ∨ k = 1 by omega) with e | e <;> subst e <;> rfl
    rw [in_yes hk (by omega), if_neg (nI_pos (by omega)), if_pos (show nI k < 2 from nI_lt (b := 2) hk (by omega))]
    have e57 : (57 : Int32) * (nI k + 1) = nI (57 * (k + 1)) := by rw [show nI k + 1 = nI (k + 1) from nI_add k 1]; exact pk_mul 57 (k + 1)
    simp only [bs, if_pos n10, if_pos hib, if_pos hib2, if_pos ib_54, c54]
    rw [cl_n (by omega), eb, e57, ← (hI k hk).1]
    rcases (hI k hk).2 with e | ⟨e, I, b1, b2, b3, b4⟩
    · rw [if_neg (fun z => z e), if_neg (fun z => z e)]
      exact ⟨-2, x, m, rfl, rfl, h⟩
    · have e' : ¬ x 69 k = 0 := by rw [e]; decide
      obtain ⟨x', e1, e2, e3⟩ := x_copyFrom (w := x) (b := 1) (f := 23 + 11 * k) (by omega)
      rw [if_pos e', if_pos e', e1, show (0 : Int32) = nI 0 from rfl, m_copies (a := 57 * (k + 1)) (b := 0) (by omega) (by omega) (by omega)]
      simp only [bs]
      have hT' := e3 I b1 b3
      have hG' : GM (pg m (57 * (k + 1)) 0 0) 0 I := GM_pg b1 b4
      rw [show x' 1 9 = nI (I 0 2) from hT'.2.2.1, show pg m (57 * (k + 1)) 0 0 1 54 = nI (I 0 2) from hG'.1]
      refine ⟨_, _, _, rfl, rfl, (RR_iff _ _).mpr ⟨I, b1, hT', ?_, hG', RO_keep (A := A) ⟨hI, hR⟩ ?_ ?_ ?_⟩⟩
      · obtain ⟨p1, p2, p3⟩ := hP
        obtain ⟨l1, l2, l3⟩ := b2
        unfold PM
        rw [pg_cell (by omega), pg_cell (by omega), l1, l2]
        refine ⟨p1, p2, fun p hp => ?_⟩
        obtain ⟨q1, q2, q3⟩ := l3 p hp
        rw [q1, q2, q3]
        exact p3 p hp
      · refine ⟨fun i h1 h2 => e2 _ (by omega), ?_, ?_, ?_, ?_, ?_, ?_, ?_, ?_, ?_⟩ <;> rw [e2 _ (by omega)]
      · refine ⟨?_, ?_, ?_, ?_, ?_, fun i h1 h2 => by rw [pg_at, if_neg (by omega)], ?_, ?_, ?_, ?_, ?_, ?_, ?_, ?_, ?_⟩ <;> rw [pg_cell (by omega)]
      · obtain ⟨l1, l2, l3⟩ := b2
        exact ⟨l1.symm, l2.symm, fun p hp => by
          obtain ⟨q1, q2, q3⟩ := l3 p (by omega)
          exact ⟨q1.symm, q2.symm, q3.symm⟩⟩
