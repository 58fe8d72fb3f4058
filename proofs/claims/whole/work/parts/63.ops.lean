theorem RR_scal {x m : Mem} {A : Abs} (hA : okA A) (hT : TX x 1 A) (hP : PM m A) (hG : GM m 0 A) (hO : RO x m A) {col xp mp n : Nat} {vm : Int32} (h : (col = 3 ∧ xp = 13 ∧ mp = 55 ∧ vm = nI n ∧ n ≤ 2) ∨ (col = 4 ∧ xp = 14 ∧ mp = 56 ∧ vm = nI n - 1 ∧ n ≤ 9)) : RR (up2 x 1 xp (nI n)) (up2 m 1 mp vm) := by
  have hnc := hA.2.1
  have hnt := hA.2.2.1
  have hco : 3 ≤ col ∧ col ≤ 4 ∧ 13 ≤ xp ∧ 55 ≤ mp ∧ mp ≤ 56 := by rcases h with ⟨h1, h2, h3, -⟩ | ⟨h1, h2, h3, -⟩ <;> omega
  have rw0 : ∀ i j, i ≠ 0 → upA A 0 col n i j = A i j := fun i j hi => upA_row hi j
  have r00 : upA A 0 col n 0 0 = A 0 0 := upA_col _ (by omega)
  have r01 : upA A 0 col n 0 1 = A 0 1 := upA_col _ (by omega)
  have r02 : upA A 0 col n 0 2 = A 0 2 := upA_col _ (by omega)
  have xc : ∀ i, i ≠ 1 → up2 x 1 xp (nI n) i = x i := fun i hi => up2_cell hi
  have mc : ∀ j, j ≠ mp → up2 m 1 mp vm 1 j = m 1 j := fun j hj => up2_place hj
  refine (RR_iff _ _).mpr ⟨upA A 0 col n, ?_, ?_, ?_, ?_, RO_keep hO (keepX_up (by omega)) (keepM_up (by omega)) ⟨r00.symm, r01.symm, fun p _ => ⟨(rw0 _ _ (by omega)).symm, (rw0 _ _ (by omega)).symm, (rw0 _ _ (by omega)).symm⟩⟩⟩
  · obtain ⟨h1, h2, h3, h4, h5, h6, h7, h8⟩ := hA
    unfold okA
    rw [r00, r01, r02]
    refine ⟨h1, h2, h3, ?_, ?_, fun p hp => ?_, fun c hc => ?_, fun k hk => ?_⟩
    · unfold upA; split
      · rcases h with ⟨-, -, -, -, h⟩ | ⟨e, -⟩ <;> omega
      · exact h4
    · unfold upA; split
      · rcases h with ⟨e, -⟩ | ⟨-, -, -, -, h⟩ <;> omega
      · exact h5
    · rw [rw0 _ _ (by omega), rw0 _ _ (by omega), rw0 _ _ (by omega)]; exact h6 p hp
    · rw [rw0 _ _ (by omega), rw0 _ _ (by omega), rw0 _ _ (by omega), rw0 _ _ (by omega)]; exact h7 c hc
    · rw [rw0 _ _ (by omega), rw0 _ _ (by omega), rw0 _ _ (by omega)]; exact h8 k hk
  · obtain ⟨h1, h2, h3, h4, h5, h6, h7, h8⟩ := hT
    unfold TX
    rw [r00, r01, r02, xc (1 + 1) (by omega), xc (1 + 2) (by omega), xc (1 + 3) (by omega), xc (1 + 4) (by omega), xc (1 + 5) (by omega), xc (1 + 6) (by omega), xc (1 + 7) (by omega), xc (1 + 8) (by omega), xc (1 + 9) (by omega), xc (1 + 10) (by omega), up2_place (j' := 0) (by omega), up2_place (j' := 4) (by omega), up2_place (j' := 9) (by omega)]
    refine ⟨h1, h2, h3, ?_, ?_, fun p hp => ?_, fun c hc => ?_, fun k hk => ?_⟩
    · rcases h with ⟨rfl, rfl, -⟩ | ⟨rfl, rfl, -⟩
      · rw [up2_same, upA_same]
      · rw [up2_place (by omega), upA_col _ (by omega)]; exact h4
    · rcases h with ⟨rfl, rfl, -⟩ | ⟨rfl, rfl, -⟩
      · rw [up2_place (by omega), upA_col _ (by omega)]; exact h5
      · rw [up2_same, upA_same]
    · rw [rw0 _ _ (by omega), rw0 _ _ (by omega), rw0 _ _ (by omega)]; exact h6 p hp
    · rw [rw0 _ _ (by omega), rw0 _ _ (by omega), rw0 _ _ (by omega), rw0 _ _ (by omega)]; exact h7 c hc
    · rw [rw0 _ _ (by omega), rw0 _ _ (by omega), rw0 _ _ (by omega)]; exact h8 k hk
  · obtain ⟨h1, h2, h3⟩ := hP
    unfold PM
    rw [r00, r01, up2_cell (by omega), up2_cell (by omega)]
    refine ⟨h1, h2, fun p hp => ?_⟩
    rw [rw0 _ _ (by omega), rw0 _ _ (by omega), rw0 _ _ (by omega)]; exact h3 p hp
  · obtain ⟨h1, h2, h3, h4, h5⟩ := hG
    unfold GM
    rw [r01, r02, mc _ (by omega)]
    refine ⟨h1, ?_, ?_, fun c hc => ?_, fun k hk => ?_⟩
    · rcases h with ⟨rfl, -, rfl, rfl, -⟩ | ⟨rfl, -, rfl, -⟩
      · rw [show 0 + 55 = 55 from rfl, up2_same, upA_same]
      · rw [mc _ (by omega), upA_col _ (by omega)]; exact h2
    · rcases h with ⟨rfl, -, rfl, -⟩ | ⟨rfl, -, rfl, rfl, -⟩
      · rw [mc _ (by omega), upA_col _ (by omega)]; exact h3
      · rw [show 0 + 56 = 56 from rfl, up2_same, upA_same]
    · rw [mc _ (by omega), mc _ (by omega), mc _ (by omega), mc _ (by omega), rw0 _ _ (by omega), rw0 _ _ (by omega), rw0 _ _ (by omega), rw0 _ _ (by omega)]; exact h4 c hc
    · rw [mc _ (by omega), mc _ (by omega), mc _ (by omega), rw0 _ _ (by omega), rw0 _ _ (by omega), rw0 _ _ (by omega)]; exact h5 k hk
theorem le_lit {a : Int32} {n : Nat} (h : ¬ a < 0) (h2 : nI (n + 1) ≤ a) (hn : n < 1000000) : ¬ a ≤ nI n := by
  rw [Int32.le_iff_toInt_le] at h2 ⊢
  rw [ti_n (by omega)] at h2 ⊢
  omega
theorem sim_law : S_law RR := fun x m h a => by
  obtain ⟨A, hA, hT, hP, hG, hO⟩ := (RR_iff x m).mp h
  rcases in_or a 3 (by omega) with ho | ⟨n, hn, rfl⟩
  · refine ⟨-1, x, m, ?_, ?_, h⟩
    · unfold fn7_law
      rcases out_lt ho with g | ⟨g1, g2⟩
      · rw [if_pos g]
      · rw [if_neg g1, if_neg (show ¬ a ≤ 2 from le_lit (n := 2) g1 g2 (by omega))]
    · unfold fn8_law
      rw [show (2 : Int64) = (nI 3 - 1).toInt64 by decide, in_no ho (by omega)]
      rfl
  · refine ⟨nI (A 0 3), up2 x 1 13 (nI n), up2 m 1 55 (nI n), ?_, ?_, RR_scal hA hT hP hG hO (Or.inl ⟨rfl, rfl, rfl, rfl, by omega⟩)⟩
    · unfold fn7_law
      rw [if_neg (nI_pos (by omega)), if_pos (show nI n ≤ 2 from nI_le (b := 2) (by omega) (by omega)), hT.2.2.2.1]
    · unfold fn8_law
      rw [show (2 : Int64) = (nI 3 - 1).toInt64 by decide, in_yes hn (by omega)]
      show (if ¬ (1 : Int32) = 0 then (if ib 55 228 = true then (if ib 55 228 = true then some ((m 1 (55 : Int32).toNatClampNeg), (up2 m 1 (55 : Int32).toNatClampNeg (nI n))) else none) else none) else some ((-1), m)) = _
      rw [if_pos (by decide)]
      simp only [if_pos ib_55]
      rw [c55, show m 1 55 = nI (A 0 3) from hG.2.1]
theorem m_feeNow {m : Mem} {A : Abs} (hG : GM m 0 A) : fn8_feeNow m = some (nI (A 0 4), m) := by
  unfold fn8_feeNow
  rw [if_pos ib_56, c56, show m 1 56 = nI (A 0 4) - 1 from hG.2.2.1]
  simp
theorem sim_fee : S_fee RR := fun x m h a => by
  obtain ⟨A, hA, hT, hP, hG, hO⟩ := (RR_iff x m).mp h
  rcases in_or a 10 (by omega) with ho | ⟨n, hn, rfl⟩
  · refine ⟨-1, x, m, ?_, ?_, h⟩
    · unfold fn7_fee
      rcases out_lt ho with g | ⟨g1, g2⟩
      · rw [if_pos g]
      · rw [if_neg g1, if_neg (show ¬ a ≤ 9 from le_lit (n := 9) g1 g2 (by omega))]
    · unfold fn8_fee
      rw [show (9 : Int64) = (nI 10 - 1).toInt64 by decide, in_no ho (by omega)]
      rfl
  · refine ⟨nI (A 0 4), up2 x 1 14 (nI n), up2 m 1 56 (nI n - 1), ?_, ?_, RR_scal hA hT hP hG hO (Or.inr ⟨rfl, rfl, rfl, rfl, by omega⟩)⟩
    · unfold fn7_fee
      rw [if_neg (nI_pos (by omega)), if_pos (show nI n ≤ 9 from nI_le (b := 9) (by omega) (by omega)), hT.2.2.2.2.1]
    · unfold fn8_fee
      rw [show (9 : Int64) = (nI 10 - 1).toInt64 by decide, in_yes hn (by omega)]
      show (if ¬ (1 : Int32) = 0 then (fn8_feeNow m).bind (fun q15 => (if ib 56 228 = true then some (q15.1, (up2 q15.2 1 (56 : Int32).toNatClampNeg (nI n - 1))) else none)) else some ((-1), m)) = _
      rw [if_pos (by decide), m_feeNow hG]
      show (if ib 56 228 = true then some (nI (A 0 4), (up2 m 1 (56 : Int32).toNatClampNeg (nI n - 1))) else none) = _
      rw [if_pos ib_56, c56]
theorem sim_rule : S_rule RR := fun x m h a => by
  obtain ⟨A, hA, hT, hP, hG, hO⟩ := (RR_iff x m).mp h
  have q0 := hT.1
  have q1 := hT.2.1
  have q2 := hT.2.2.1
  have q3 := hT.2.2.2.1
  have q4 := hT.2.2.2.2.1
  have p0 := hP.1
  have p1 := hP.2.1
  have g2 : m 1 54 = nI (A 0 2) := hG.1
  have g3 : m 1 55 = nI (A 0 3) := hG.2.1
  unfold fn7_rule fn8_rule
  simp only [if_pos ib_54, if_pos ib_55, c54, c55, m_feeNow hG, q0, q1, q2, q3, q4, p0, p1, g2, g3]
  by_cases e0 : a = 0
  · simp only [if_pos e0]; exact ⟨_, x, m, rfl, rfl, h⟩
  · simp only [if_neg e0]
    by_cases e1 : a = 1
    · simp only [if_pos e1]; exact ⟨_, x, m, rfl, rfl, h⟩
    · simp only [if_neg e1]
      by_cases e2 : a = 2
      · simp only [if_pos e2]; exact ⟨_, x, m, rfl, rfl, h⟩
      · simp only [if_neg e2]
        by_cases e3 : a = 3
        · simp only [if_pos e3]; exact ⟨_, x, m, rfl, rfl, h⟩
        · simp only [if_neg e3]
          by_cases e4 : a = 4
          · simp only [if_pos e4]; exact ⟨_, x, m, rfl, rfl, h⟩
          · simp only [if_neg e4]; exact ⟨_, x, m, rfl, rfl, h⟩
theorem sim_end : S_end RR := fun x m h a => by
  obtain ⟨A, hA, hT, hP, hG, hI, ⟨n, t, hn, t1, t2, t3⟩, hO⟩ := (RR_iff x m).mp h
  rcases in_or a (n + 1) (by omega) with ho | ⟨k, hk, rfl⟩
  · refine ⟨-1, x, m, ?_, ?_, h⟩
    · show (fn4_cutTo a x).bind _ = _
      unfold fn4_cutTo
      rw [t1]
      rcases out_lt ho with g | ⟨g1, g2⟩
      · rw [if_pos g]; rfl
      · rw [if_neg g1, if_neg (le_lit g1 g2 (by omega))]; rfl
    · unfold fn8_end
      rw [t2, show nI n = nI (n + 1) - 1 from (nI_pred n).symm, in_no ho (by omega)]
      rfl
  · refine ⟨nI n, up2 x 53 1 (nI k), up2 m 0 14 (nI k), ?_, ?_, ?_⟩
    · show (fn4_cutTo (nI k) x).bind _ = _
      unfold fn4_cutTo
      rw [t1, if_neg (nI_pos (by omega)), if_pos (nI_le (by omega) (by omega))]
      rfl
    · unfold fn8_end
      rw [t2, show (nI n).toInt64 = (nI (n + 1) - 1).toInt64 by rw [nI_pred], in_yes hk (by omega)]
      show (if ¬ (1 : Int32) = 0 then some (m 0 14, up2 m 0 14 (nI k)) else some (-1, m)) = _
      rw [if_pos (by decide), t2]
    · refine (RR_iff _ _).mpr ⟨A, hA, TX_keep hT (fun i hi => up2_cell (by omega)), ?_, GM_keep hA hG (fun j _ _ => by rw [up2_cell (by omega)]), ?_⟩
      · unfold PM at hP ⊢
        rw [up2_place (by omega), up2_place (by omega), up2_cell (by omega)]
        exact hP
      · obtain ⟨h3, h4, h5, h6, h7, h8⟩ := hO
        refine ⟨fun j hj => ?_, ⟨k, t, by omega, up2_same, up2_same, fun i hi => ?_⟩, ?_, ?_, ?_, fun s hs => ?_, ?_, ?_⟩
        · rw [up2_cell (by omega), up2_cell (by omega)]
          obtain ⟨a1, a2⟩ := hI j hj
          refine ⟨a1, a2.elim Or.inl (fun g => Or.inr ⟨g.1, ?_⟩)⟩
          obtain ⟨I, b1, b2, b3, b4⟩ := g.2
          exact ⟨I, b1, b2, TX_keep b3 (fun i hi => up2_cell (by omega)), GM_keep b1 b4 (fun i _ _ => by rw [up2_cell (by omega)])⟩
        · rw [up2_cell (by omega), up2_cell (by omega)]
          exact t3 i (by omega)
        · rw [up2_cell (by omega), up2_place (by omega)]; exact h3
        · unfold RK at h4 ⊢
          rw [up2_cell (k' := 56) (by omega), up2_cell (k' := 57) (by omega), up2_cell (k' := 58) (by omega), up2_cell (k' := 10) (by omega), up2_place (j' := 26) (by omega)]
          exact h4
        · unfold RH at h5 ⊢
          rw [up2_cell (k' := 64) (by omega), up2_cell (k' := 66) (by omega), up2_cell (k' := 67) (by omega), up2_cell (k' := 14) (by omega), up2_place (j' := 31) (by omega)]
          exact h5
        · have := h6 s hs
          rw [up2_cell (by omega), up2_cell (by omega), up2_cell (by omega), up2_cell (by omega), up2_cell (by omega)]
          exact this
        · rw [up2_cell (by omega), up2_place (by omega)]; exact h7
        · unfold RC at h8 ⊢
          rw [up2_cell (by omega), up2_cell (by omega)]
          exact h8
