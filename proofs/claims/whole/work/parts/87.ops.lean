/-! funeral -/
theorem x_planL {S n : Nat} (hS : S < 64) {k : Int32 → Mem → Option (Int32 × Mem)} : ∀ d p f w, p + d = 6 → d < f → ∃ w', (∀ j, j ≠ 63 → w' j = w j) ∧ (∀ q, q < p → w' 63 q = w 63 q) ∧ (∀ q, p ≤ q → q < 6 → w' 63 q = if S.testBit q = true then nI n else 0) ∧ fn0_plan_2 (nI S) (nI n) k f (nI p) w = k (nI 6) w' := by
  intro d
  induction d with
  | zero =>
    intro p f w hp hf
    obtain ⟨f, rfl⟩ : ∃ g, f = g + 1 := ⟨f - 1, by omega⟩
    have e : p = 6 := by omega
    subst e
    exact ⟨w, fun _ _ => rfl, fun _ _ => rfl, fun i h1 h2 => by omega, by rw [fn0_plan_2, if_pos (by decide)]⟩
  | succ d ih =>
    intro p f w hp hf
    obtain ⟨f, rfl⟩ : ∃ g, f = g + 1 := ⟨f - 1, by omega⟩
    have hib : ib (nI p) 6 = true := ib_y (by omega) (by omega)
    obtain ⟨w', r1, r2, r3, r4⟩ := ih (p + 1) f (up2 w 63 p (if S.testBit p = true then nI n else 0)) (by omega) (by omega)
    refine ⟨w', fun j hj => by rw [r1 j hj, up2_cell hj], fun j hj => by rw [r2 j (by omega), up2_place (by omega)], fun j h1 h2 => ?_, ?_⟩
    · by_cases e : j = p
      · subst e
        rw [r2 j (by omega), up2_same]
      · exact r3 j (by omega) h2
    · rw [fn0_plan_2, if_neg (show ¬ (6 : Int32) ≤ nI p from nI_ge (b := 6) (by omega) (by omega)), x_hasBit (by omega) (by omega)]
      simp only [bp]
      unfold fn0_plan_26
      rw [if_pos hib, if_pos hib, cl_n (by omega), show nI p + 1 = nI (p + 1) from nI_add p 1]
      cases eb : S.testBit p
      · rw [bI_f, if_pos rfl]
        rw [eb] at r4
        exact r4
      · rw [bI_t, if_neg n10]
        rw [eb] at r4
        exact r4
theorem big_n : (73 : Int32) = nI BIG := by decide
theorem x_plan {x : Mem} {A : Abs} (hA : okA A) (hT : TX x 1 A) {S n : Nat} (hS : S < 2 ^ A 0 0) (hn : n ≤ 12) : ∃ w', XI x w' A S n 0 0 (FL (Lw A S n) 0 (7 ^ A 0 1) (BIG, 0)) ∧ fn0_plan (nI S) (nI n) x = some (if (FL (Lw A S n) 0 (7 ^ A 0 1) (BIG, 0)).1 = BIG then 0 else 1, w') := by
  have hnc := hA.2.1
  have hnp := hA.1
  have hB := BIG_lt
  have hS6 : S < 64 := Nat.lt_of_lt_of_le hS (pow_le6 hnp).2
  obtain ⟨w1, r1, r2, r3, r4⟩ := x_planL (S := S) (n := n) hS6 (k := fun x3_2 w_2 => (fn0_giveFrom 8 0 0 (up2 w_2 60 0 73)).bind (fun q42 => (if (q42.2 60 0) = 73 then some (0, q42.2) else some (1, q42.2)))) 6 0 1000 x (by omega) (by omega)
  have hI : XI x (up2 w1 60 0 73) A S n 0 0 (BIG, 0) := by
    refine ⟨fun k hk => by rw [up2_cell (by omega), r1 k (by omega)], fun p hp => ?_, fun i hi => by omega, by rw [up2_same, big_n], fun h => by simp at h⟩
    rw [up2_cell (by omega), r3 p (by omega) hp, ned, gotP, sub_n (by omega)]
    rfl
  obtain ⟨r, w2, k1, k2⟩ := x_giveFrom hA hT hS hn (A 0 1) 0 0 8 _ _ (by omega) (by omega) (by rfl) hI (Nat.le_refl _)
  rw [Nat.zero_mul] at k2
  have hle := (FL_le (L := Lw A S n) (lo := 0) (st := (BIG, 0)) (7 ^ A 0 1)).1
  dsimp only at hle
  refine ⟨w2, k2, ?_⟩
  have r4' : fn0_plan (nI S) (nI n) x = _ := r4
  have k1' : fn0_giveFrom 8 0 0 (up2 w1 60 0 73) = some (r, w2) := k1
  rw [r4', k1']
  simp only [bp]
  rw [k2.2.2.2.1, big_n]
  by_cases e : (FL (Lw A S n) 0 (7 ^ A 0 1) (BIG, 0)).1 = BIG
  · rw [e, if_pos rfl, if_pos rfl]
  · rw [if_neg (show ¬ nI _ = nI BIG by rw [nI_eq (by omega) (by omega)]; exact e), if_neg e]
theorem sim_funeral : S_funeral RR := fun x m h a b c => by
  obtain ⟨A, hA, hT, hP, hG, hO⟩ := (RR_iff x m).mp h
  have hnc := hA.2.1
  have hnp := hA.1
  have hpw := pow_le6 hnp
  have h7 := p7 (c := A 0 1) hnc
  unfold fn7_funeral fn8_funeral
  rw [hT.1, hP.1, all_n _ (by omega), show nI (2 ^ A 0 0 - 1) = nI (2 ^ A 0 0) - 1 from (sub_n (b := 1) (by omega)).symm]
  rcases in_or a (2 ^ A 0 0) (by omega) with ho | ⟨S, hS, rfl⟩
  · rw [in_no ho (by omega), x_noSubset hnp ho]
    exact ⟨-1, x, m, rfl, rfl, h⟩
  · rw [in_yes hS (by omega), x_subset hnp hS]
    simp only [bp, if_neg n10]
    rw [show (12 : Int64) = (nI 12).toInt64 by decide, in1_val (by omega)]
    simp only [bp]
    have g1 : (1 : Int32).toInt = 1 := by decide
    have g12 : (12 : Int32).toInt = 12 := by decide
    by_cases hb1 : b < 1
    · rw [if_pos hb1, if_neg (show ¬ (1 ≤ b.toInt ∧ b.toInt ≤ ((12 : Nat) : Int)) by
        rw [Int32.lt_iff_toInt_lt, g1] at hb1
        omega), if_pos rfl]
      exact ⟨-1, x, m, rfl, rfl, h⟩
    · rw [if_neg hb1]
      have hb1' : 1 ≤ b.toInt := by
        rw [Int32.lt_iff_toInt_lt, g1] at hb1
        omega
      by_cases hb2 : b ≤ 12
      · have hb2' : b.toInt ≤ 12 := by
          rw [Int32.le_iff_toInt_le, g12] at hb2
          omega
        rw [if_pos hb2, if_pos (show (1 ≤ b.toInt ∧ b.toInt ≤ ((12 : Nat) : Int)) by omega), if_neg n10]
        obtain ⟨n, hnb⟩ : ∃ n : Nat, b.toInt = (n : Int) := ⟨b.toInt.toNat, by omega⟩
        have hn : n ≤ 12 := by omega
        have hbn : b = nI n := by
          apply Int32.toInt_inj.mp
          rw [hnb, ti_n (by omega)]
        subst hbn
        have hS6 : S < 64 := Nat.lt_of_lt_of_le hS hpw.2
        -- the plan of both
        obtain ⟨x', hI, hx⟩ := x_plan hA hT hS hn
        have hRx : ∀ m', (∀ j, j ≠ 11 → j ≠ 12 → m' j = m j) → RR x' m' := by
          intro m' hm'
          refine RR_m (m := m) (same_RR h ⟨fun k h1 h2 => hI.1 k (by omega), ?_, hI.1 _ (by omega), hI.1 _ (by omega), hI.1 _ (by omega), ?_, hI.1 _ (by omega), hI.1 _ (by omega), hI.1 _ (by omega), ?_⟩ (fun k h1 h2 => hI.1 k (by omega)) (keepM_rf m) (fun _ _ => rfl) ⟨rfl, rfl, rfl⟩) (fun k _ _ _ _ h11 h12 _ => hm' k h11 h12) <;> rw [hI.1 _ (by omega)]
        have goal : ∀ (w0 t0 : Int32), (c = 0 ∧ t0 = 0) ∨ (∃ j, j < A 0 1 ∧ c = nI (10 + j) ∧ t0 = 1) → ∃ r x' m', fn7_funeral_69 (nI S) (nI n) (c - 10) t0 x = some (r, x') ∧ fn8_funeral_55 (nI S) (nI n) c m = some (r, m') ∧ RR x' m' := by
          intro _ t0 hc
          unfold fn7_funeral_69 fn8_funeral_55
          have hm1 := m_waysL hA hP (a := nI S) (b := nI n) (c0 := c) (z := -4) (k := fun x4_65 x6_65 w_65 => fn8_funeral_90 (nI S) (nI n) c x4_65 (fun x5_90 x6_90 w_90 => (if x5_90 = (-4) then fn8_funeral_179 x5_90 w_90 else (if ¬ c = 0 then (if ib (c - 10) 6 = true then (if ¬ (w_90 12 (c - 10).toNatClampNeg) = 0 then (if ib (c - 10) 6 = true then some (((w_90 12 (c - 10).toNatClampNeg) - 1), w_90) else none) else some ((-4), w_90)) else none) else fn8_funeral_179 x5_90 w_90))) 200000 (-4) 0 w_65) (A 0 1) 0 1000 (by omega) (by omega)
          have hm1' : fn8_funeral_65 (nI S) (nI n) c (-4) _ 1000 1 0 m = _ := hm1
          rw [hm1']
          obtain ⟨m', v, hmI, hm2⟩ := m_allL hA hP hG (c0 := c) hS6 hn (k := fun x5_90 x6_90 w_90 => (if x5_90 = (-4) then fn8_funeral_179 x5_90 w_90 else (if ¬ c = 0 then (if ib (c - 10) 6 = true then (if ¬ (w_90 12 (c - 10).toNatClampNeg) = 0 then (if ib (c - 10) 6 = true then some (((w_90 12 (c - 10).toNatClampNeg) - 1), w_90) else none) else some ((-4), w_90)) else none) else fn8_funeral_179 x5_90 w_90))) (7 ^ A 0 1) 0 200000 m (-4) (by omega) (by omega) ⟨fun _ _ _ => rfl, Or.inl ⟨rfl, rfl⟩⟩
          have hm2' : fn8_funeral_90 (nI S) (nI n) c (nI (7 ^ A 0 1)) _ 200000 (-4) 0 m = _ := hm2
          rw [hm2', hx]
          simp only [bp]
          unfold fn8_funeral_179
          rcases hmI.2 with ⟨q1, q2⟩ | ⟨q1, q2, q3⟩
          · rw [q1, q2, if_pos rfl, if_neg (show ¬ ¬ (0 : Int32) = 0 from fun z => z rfl), if_pos rfl]
            exact ⟨_, _, _, rfl, rfl, hRx m' hmI.1⟩
          · have hB := BIG_gt
            have qn : ¬ (FL (Lw A S n) 0 (7 ^ A 0 1) (BIG, 0)).1 = BIG := by omega
            rw [if_neg qn, if_pos n10, q2, if_neg (n_neg4 (by omega))]
            rcases hc with ⟨c1, c2⟩ | ⟨j, c1, c2, c3⟩
            · rw [c1, c2, if_pos rfl, if_neg (show ¬ ¬ (0 : Int32) = 0 from fun z => z rfl), hI.2.2.2.1]
              exact ⟨_, _, _, rfl, rfl, hRx m' hmI.1⟩
            · have c4 : nI (10 + j) - 10 = nI j := by
                rw [show nI (10 + j) - 10 = nI (10 + j - 10) from sub_n (b := 10) (by omega), show 10 + j - 10 = j by omega]
              have hib : ib (nI j) 6 = true := ib_y (by omega) (by omega)
              rw [c2, c3, if_neg n10, c4, if_pos hib, if_pos hib, if_pos hib, if_pos (nI_ne0 (by omega) (by omega)), cl_n (by omega), q3 j c1, hI.2.2.2.2 (by omega) j c1, gv]
              have hd7 : ∀ c W i, digP c W i < 7 := by
                intro c
                induction c with
                | zero => intro W i; simp [digP]
                | succ c ih =>
                  intro W i
                  rw [digP]
                  split
                  · exact Nat.mod_lt _ (by omega)
                  · exact ih _ _
              have hd := hd7 (A 0 1) (FL (Lw A S n) 0 (7 ^ A 0 1) (BIG, 0)).2 j
              by_cases e : digP (A 0 1) (FL (Lw A S n) 0 (7 ^ A 0 1) (BIG, 0)).2 j = 0
              · rw [e, if_pos rfl, if_neg (show ¬ ¬ nI 0 = 0 from fun z => z rfl)]
                exact ⟨_, _, _, rfl, rfl, hRx m' hmI.1⟩
              · rw [if_neg e, if_pos (nI_ne0 (by omega) (by omega)), show nI _ - 1 = nI (_ - 1) from sub_n (b := 1) (by omega)]
                exact ⟨_, _, _, rfl, rfl, hRx m' hmI.1⟩
        by_cases hc0 : c = 0
        · have := goal 0 0 (Or.inl ⟨hc0, rfl⟩)
          rw [if_pos (show c < 10 by rw [hc0]; decide), if_pos hc0]
          unfold fn7_funeral_55 fn7_funeral_56
          rw [if_pos hc0]
          exact this
        · rw [if_neg hc0, hP.2.1, show (9 : Int32) + nI (A 0 1) = nI (9 + A 0 1) from nI_add 9 _, in_val, ti_l, ti_l, ti_n (by omega)]
          simp only [bp]
          have g10 : (10 : Int64).toInt = 10 := by decide
          have g10' : (10 : Int32).toInt = 10 := by decide
          rw [g10]
          by_cases hc1 : c < 10
          · rw [if_pos hc1, if_neg (show ¬ (10 ≤ c.toInt ∧ c.toInt ≤ ((9 + A 0 1 : Nat) : Int)) by
              rw [Int32.lt_iff_toInt_lt, g10'] at hc1
              omega), if_neg (show ¬ ¬ (0 : Int32) = 0 from fun z => z rfl)]
            unfold fn7_funeral_55 fn7_funeral_56
            rw [if_neg hc0, if_neg (show ¬ ¬ (0 : Int32) = 0 from fun z => z rfl)]
            exact ⟨-1, x, m, rfl, rfl, h⟩
          · rw [if_neg hc1]
            have hc10 : 10 ≤ c.toInt := by
              rw [Int32.lt_iff_toInt_lt, g10'] at hc1
              omega
            have hcl : c.toInt < 2147483648 := by
              have := Int32.toInt_lt c
              omega
            obtain ⟨j, hj⟩ : ∃ j : Nat, c.toInt = ((10 + j : Nat) : Int) := ⟨(c.toInt - 10).toNat, by omega⟩
            have hcj : c = nI (10 + j) := by
              apply Int32.toInt_inj.mp
              rw [hj, nI_toInt (by omega)]
            have c4 : c - 10 = nI j := by
              rw [hcj, show nI (10 + j) - 10 = nI (10 + j - 10) from sub_n (b := 10) (by omega), show 10 + j - 10 = j by omega]
            by_cases hjn : j < A 0 1
            · have := goal 0 1 (Or.inr ⟨j, hjn, hcj, rfl⟩)
              rw [if_pos (show (10 ≤ c.toInt ∧ c.toInt ≤ ((9 + A 0 1 : Nat) : Int)) by omega), if_pos n10]
              rw [c4] at this ⊢
              rw [x_hasCoin hT.2.1 hjn hnc]
              simp only [bp, if_neg n10]
              unfold fn7_funeral_56
              rw [if_neg hc0, if_pos n10]
              exact this
            · rw [if_neg (show ¬ (10 ≤ c.toInt ∧ c.toInt ≤ ((9 + A 0 1 : Nat) : Int)) by omega), if_neg (show ¬ ¬ (0 : Int32) = 0 from fun z => z rfl), c4, x_noCoin hT.2.1 (Or.inr (nI_le (by omega) (by omega)))]
              simp only [bp]
              rw [if_pos trivial]
              unfold fn7_funeral_55 fn7_funeral_56
              rw [if_neg hc0, if_neg (show ¬ ¬ (0 : Int32) = 0 from fun z => z rfl)]
              exact ⟨-1, x, m, rfl, rfl, h⟩
      · rw [if_neg hb2, if_neg (show ¬ (1 ≤ b.toInt ∧ b.toInt ≤ ((12 : Nat) : Int)) by
          rw [Int32.le_iff_toInt_le, g12] at hb2
          omega), if_pos rfl]
        exact ⟨-1, x, m, rfl, rfl, h⟩
