theorem n10 : ¬ (1 : Int32) = 0 := by decide
theorem bs {α β : Type} (a : α) (f : α → Option β) : (some a).bind f = f a := rfl
theorem sim_give : S_give RR := fun x m h a b => by
  obtain ⟨A, hA, hT, hP, hG, hO⟩ := (RR_iff x m).mp h
  have hnp := hA.1
  have hnc := hA.2.1
  unfold fn7_give fn8_give
  rcases in_or a (A 0 1) (by omega) with ho | ⟨c, hc, rfl⟩
  · rw [x_noCoin hT.2.1 ho, m_noCoin hP.2.1 ho hnc]
    exact ⟨-1, x, m, rfl, rfl, h⟩
  · rw [x_hasCoin hT.2.1 hc hnc, m_coin hP.2.1 hc hnc]
    simp only [bs, if_neg n10]
    rcases in_or b (A 0 0) (by omega) with ho | ⟨p, hp, rfl⟩
    · rw [x_noOne hT.1 ho, m_noOne hP.1 ho hnp]
      exact ⟨-1, x, m, rfl, rfl, h⟩
    · rw [x_hasOne hT.1 hp hnp, m_one hP.1 hp hnp]
      simp only [bs, if_pos n10]
      rw [x_isSpent hA hT hc, m_isSpent hA hG hc]
      simp only [bs]
      by_cases e : A 7 c = 0
      · simp only [if_pos e, if_true]
        rw [m_ownerOf hA hG hc]
        simp only [bs]
        have hib : ib (nI c) 6 = true := ib_y (by omega) (by omega)
        have hib2 : ib ((4 : Int32) * nI c + 1) 228 = true := by rw [e41]; exact ib_y (by omega) (by omega)
        rw [if_pos hib, if_pos hib, if_pos hib2, e41, cl_n (by omega), cl_n (by omega), show x 6 c = nI (A 5 c) from (hT.2.2.2.2.2.2.1 c hc).2.1]
        exact ⟨nI (A 5 c), _, _, rfl, rfl, RR_attr (a := 5) hA hT hP hG hO hc (Or.inl ⟨rfl, rfl, hp⟩)⟩
      · simp only [if_neg e]
        rw [if_neg n10, if_neg n10]
        exact ⟨-2, x, m, rfl, rfl, h⟩
theorem sim_clip : S_clip RR := fun x m h a => by
  obtain ⟨A, hA, hT, hP, hG, hO⟩ := (RR_iff x m).mp h
  have hnc := hA.2.1
  unfold fn7_clip fn8_clip
  rcases in_or a (A 0 1) (by omega) with ho | ⟨c, hc, rfl⟩
  · rw [x_noCoin hT.2.1 ho, m_noCoin hP.2.1 ho hnc]
    exact ⟨-1, x, m, rfl, rfl, h⟩
  · rw [x_hasCoin hT.2.1 hc hnc, m_coin hP.2.1 hc hnc]
    simp only [bs, if_pos n10]
    have hib : ib (nI c) 6 = true := ib_y (by omega) (by omega)
    have hib2 : ib ((4 : Int32) * nI c + 2) 228 = true := by rw [e42]; exact ib_y (by omega) (by omega)
    have q : x 7 c = nI (A 6 c) := (hT.2.2.2.2.2.2.1 c hc).2.2.1
    have g : m 1 (4 * c + 2) = nI (A 6 c) := by
      have := (hG.2.2.2.1 c hc).2.2.1
      rwa [Nat.zero_add] at this
    have w := (hA.2.2.2.2.2.2.1 c hc).2.2.2.1
    rw [if_pos hib, if_pos hib2, if_pos hib2, e42, cl_n (by omega), cl_n (by omega), q, g]
    unfold fn7_clip_30 fn7_oneIf
    have fin : RR (up2 x 7 c (vp_nar .boolean 1)) (up2 m 1 (4 * c + 2) 1) := by
      rw [nar1]
      exact RR_attr (a := 6) (n := 1) hA hT hP hG hO hc (Or.inr (Or.inl ⟨rfl, rfl, by omega⟩))
    rcases (show A 6 c = 0 ∨ A 6 c = 1 by omega) with e | e
    · rw [e, if_neg (show ¬ ¬ nI 0 = 0 from fun z => z rfl), if_neg n10]
      simp only [bs, if_pos hib]
      rw [cl_n (by omega)]
      exact ⟨1, _, _, rfl, rfl, fin⟩
    · rw [e, if_pos (show ¬ nI 1 = 0 by decide), if_pos rfl]
      simp only [bs, if_pos hib]
      rw [cl_n (by omega)]
      exact ⟨0, _, _, rfl, rfl, fin⟩
theorem sim_undo : S_undo RR := fun x m h a => by
  obtain ⟨A, hA, hT, hP, hG, hO⟩ := (RR_iff x m).mp h
  have hnc := hA.2.1
  unfold fn7_undo fn8_undo
  rcases in_or a (A 0 1) (by omega) with ho | ⟨c, hc, rfl⟩
  · rw [x_noCoin hT.2.1 ho, m_noCoin hP.2.1 ho hnc]
    exact ⟨-1, x, m, rfl, rfl, h⟩
  · rw [x_hasCoin hT.2.1 hc hnc, m_coin hP.2.1 hc hnc]
    simp only [bs, if_pos n10]
    have hib : ib (nI c) 6 = true := ib_y (by omega) (by omega)
    have hib2 : ib ((4 : Int32) * nI c + 3) 228 = true := by rw [e43]; exact ib_y (by omega) (by omega)
    have q : x 8 c = spc (A 7 c) := (hT.2.2.2.2.2.2.1 c hc).2.2.2
    have g : m 1 (4 * c + 3) = nI (A 7 c) := by
      have := (hG.2.2.2.1 c hc).2.2.2
      rwa [Nat.zero_add] at this
    have w := (hA.2.2.2.2.2.2.1 c hc).2.2.2.2
    rw [m_isSpent hA hG hc]
    simp only [bs]
    have fin : RR (up2 x 8 c (-4)) (up2 m 1 (4 * c + 3) 0) := RR_attr (a := 7) (n := 0) hA hT hP hG hO hc (Or.inr (Or.inr ⟨rfl, rfl, by omega⟩))
    rw [if_pos hib, if_pos hib, cl_n (by omega), q]
    unfold fn8_undo_35
    simp only [if_pos hib2]
    rw [e43, cl_n (by omega), g]
    by_cases e : A 7 c = 0
    · rw [if_pos e, if_pos rfl, spc, if_pos e]
      exact ⟨-4, _, _, rfl, rfl, fin⟩
    · rw [if_neg e, if_neg n10, spc, if_neg e, show nI (A 7 c) - 1 = nI (A 7 c - 1) from sub_n (b := 1) (by omega)]
      exact ⟨_, _, _, rfl, rfl, fin⟩
theorem TX_get {x : Mem} {A : Abs} (h : TX x 1 A) {c : Nat} (hc : c < A 0 1) : x 5 c = nI (A 4 c) ∧ x 6 c = nI (A 5 c) ∧ x 7 c = nI (A 6 c) ∧ x 8 c = spc (A 7 c) := h.2.2.2.2.2.2.1 c hc
theorem GM_get {m : Mem} {A : Abs} (h : GM m 0 A) {c : Nat} (hc : c < A 0 1) : m 1 (4 * c) = nI (A 4 c) ∧ m 1 (4 * c + 1) = nI (A 5 c) ∧ m 1 (4 * c + 2) = nI (A 6 c) ∧ m 1 (4 * c + 3) = nI (A 7 c) := by
  have := h.2.2.2.1 c hc
  simp only [Nat.zero_add] at this
  exact this
theorem sim_spend : S_spend RR := fun x m h a b => by
  obtain ⟨A, hA, hT, hP, hG, hO⟩ := (RR_iff x m).mp h
  have hnp := hA.1
  have hnc := hA.2.1
  unfold fn7_spend fn8_spend
  rcases in_or a (A 0 1) (by omega) with ho | ⟨c, hc, rfl⟩
  · rw [x_noCoin hT.2.1 ho, m_noCoin hP.2.1 ho hnc]
    exact ⟨-1, x, m, rfl, rfl, h⟩
  · rw [x_hasCoin hT.2.1 hc hnc, m_coin hP.2.1 hc hnc]
    simp only [bs, if_neg n10]
    rcases in_or b 12 (by omega) with ho | ⟨t, ht, rfl⟩
    · rw [x_noHour ho, m_noHour ho]
      exact ⟨-1, x, m, rfl, rfl, h⟩
    · rw [x_hour ht, m_hour ht]
      simp only [bs, if_pos n10]
      rw [x_isSpent hA hT hc, m_isSpent hA hG hc]
      simp only [bs]
      by_cases e : A 7 c = 0
      · simp only [if_pos e, if_true]
        have hib : ib (nI c) 6 = true := ib_y (by omega) (by omega)
        have hib2 : ib ((4 : Int32) * nI c + 3) 228 = true := by rw [e43]; exact ib_y (by omega) (by omega)
        have w3 := (hA.2.2.2.2.2.2.1 c hc).2.2.1
        have hA' : okA (upA A 7 c (t + 1)) := okA_attr hA (Or.inr (Or.inr ⟨rfl, by omega⟩))
        have hT' : TX (up2 x 8 c (nI t)) 1 (upA A 7 c (t + 1)) := TX_attr (a := 7) hT (Or.inr (Or.inr ⟨rfl, by simp [spc]⟩))
        have hG' : GM (up2 m 1 (4 * c + 3) (nI (t + 1))) 0 (upA A 7 c (t + 1)) := GM_attr (a := 7) hA hG hc (by omega)
        have hP' : PM (up2 m 1 (4 * c + 3) (nI (t + 1))) (upA A 7 c (t + 1)) := PM_attr hP (by omega)
        have r5 : upA A 7 c (t + 1) 5 c = A 5 c := upA_row (by omega) _
        have r00 : upA A 7 c (t + 1) 0 0 = A 0 0 := upA_row (by omega) _
        have r01 : upA A 7 c (t + 1) 0 1 = A 0 1 := upA_row (by omega) _
        rw [if_pos hib, if_pos hib, if_pos hib2, e43, cl_n (by omega), cl_n (by omega), show nI t + 1 = nI (t + 1) from nI_add t 1, up2_cell (k' := 6) (by omega), (TX_get hT hc).2.1, m_ownerOf hA' hG' (by omega)]
        simp only [bs]
        rw [r5, x_lengthBy (b := 1) hA' hT' (by omega) (by omega), m_lengthBy hA' hP' hG' (by omega) (by omega)]
        simp only [bs]
        exact ⟨_, _, _, rfl, rfl, RR_attr (a := 7) (n := t + 1) (v := nI t) hA hT hP hG hO hc (Or.inr (Or.inr ⟨rfl, by simp [spc], by omega⟩))⟩
      · simp only [if_neg e]
        rw [if_neg n10, if_neg n10]
        exact ⟨-2, x, m, rfl, rfl, h⟩
theorem sim_one : S_one RR := fun x m h a b => by
  obtain ⟨A, hA, hT, hP, hG, hO⟩ := (RR_iff x m).mp h
  have hnp := hA.1
  unfold fn7_one fn8_one
  rcases in_or a (A 0 0) (by omega) with ho | ⟨p, hp, rfl⟩
  · rw [x_noOne hT.1 ho, m_noOne hP.1 ho hnp]
    exact ⟨-1, x, m, rfl, rfl, h⟩
  · rw [x_hasOne hT.1 hp hnp, m_one hP.1 hp hnp]
    simp only [bs, if_pos n10, if_neg n10]
    have hib : ib (nI p) 6 = true := ib_y (by omega) (by omega)
    simp only [if_pos hib]
    rw [cl_n (by omega)]
    obtain ⟨k1, k2, k3⟩ : x 2 p = nI (A 1 p) ∧ x 3 p = nI (A 2 p) ∧ x 4 p = nI (A 3 p) := hT.2.2.2.2.2.1 p hp
    obtain ⟨g1, g2, g3⟩ := hP.2.2 p hp
    rw [k1, k2, k3, show (2 : Int64) = (nI 3 - 1).toInt64 by decide]
    rcases in_or b 3 (by omega) with ho | ⟨j, hj, rfl⟩
    · rw [in_no ho (by omega)]
      have ne : ∀ k : Nat, k < 3 → ¬ b = nI k := by
        intro k hk e
        subst e
        rcases ho with ho | ho
        · exact nI_pos (by omega) ho
        · exact nI_ge hk (by omega) ho
      rw [if_neg (show ¬ b = 0 from ne 0 (by omega)), if_neg (show ¬ b = 1 from ne 1 (by omega)), if_neg (show ¬ b = 2 from ne 2 (by omega))]
      exact ⟨-1, x, m, rfl, rfl, h⟩
    · rw [in_yes hj (by omega)]
      simp only [bs, if_neg n10]
      rw [e30, nI_add, if_pos (ib_y (by omega) (by omega)), cl_n (by omega)]
      rcases (show j = 0 ∨ j = 1 ∨ j = 2 by omega) with e | e | e <;> subst e
      · rw [if_pos (by decide), Nat.add_zero, g1]
        exact ⟨_, x, m, rfl, rfl, h⟩
      · rw [if_neg (by decide), if_pos (by decide), g2]
        exact ⟨_, x, m, rfl, rfl, h⟩
      · rw [if_neg (by decide), if_neg (by decide), if_pos (by decide), g3]
        exact ⟨_, x, m, rfl, rfl, h⟩
theorem ne_out {b : Int32} {n : Nat} (ho : out b n) (hn : n < 1048576) : ∀ k : Nat, k < n → ¬ b = nI k := by
  intro k hk e
  subst e
  rcases ho with ho | ho
  · exact nI_pos (by omega) ho
  · exact nI_ge hk (by omega) ho
theorem sim_coin : S_coin RR := fun x m h a b => by
  obtain ⟨A, hA, hT, hP, hG, hO⟩ := (RR_iff x m).mp h
  have hnp := hA.1
  have hnc := hA.2.1
  unfold fn7_coin fn8_coin
  rcases in_or a (A 0 1) (by omega) with ho | ⟨c, hc, rfl⟩
  · rw [x_noCoin hT.2.1 ho, m_noCoin hP.2.1 ho hnc]
    exact ⟨-1, x, m, rfl, rfl, h⟩
  · rw [x_hasCoin hT.2.1 hc hnc, m_coin hP.2.1 hc hnc]
    simp only [bs, if_pos n10, if_neg n10]
    have hib : ib (nI c) 6 = true := ib_y (by omega) (by omega)
    simp only [if_pos hib]
    obtain ⟨k1, k2, k3, k4⟩ := TX_get hT hc
    obtain ⟨g1, g2, g3, g4⟩ := GM_get hG hc
    obtain ⟨w1, w2, w3, w4, w5⟩ := hA.2.2.2.2.2.2.1 c hc
    rw [cl_n (by omega), k1, k2, k3, k4, x_lengthBy (b := 1) hA hT hc w3, show (4 : Int64) = (nI 5 - 1).toInt64 by decide]
    simp only [bs]
    rcases in_or b 5 (by omega) with ho | ⟨j, hj, rfl⟩
    · rw [in_no ho (by omega)]
      have ne := ne_out ho (by omega)
      rw [if_neg (show ¬ b = 0 from ne 0 (by omega)), if_neg (show ¬ b = 1 from ne 1 (by omega)), if_neg (show ¬ b = 2 from ne 2 (by omega)), if_neg (show ¬ b = 3 from ne 3 (by omega)), if_neg (show ¬ b = 4 from ne 4 (by omega))]
      exact ⟨-1, x, m, rfl, rfl, h⟩
    · rw [in_yes hj (by omega)]
      simp only [bs, if_pos n10]
      rw [m_ownerOf hA hG hc, m_isSpent hA hG hc]
      simp only [bs]
      rw [m_lengthBy hA hP hG hc w3, e43, e40, nI_add, if_pos (ib_y (a := 4 * c + 3) (by omega) (by omega)), cl_n (a := 4 * c + 3) (by omega), g4]
      simp only [bs]
      unfold fn7_oneIf
      rcases (show j = 0 ∨ j = 1 ∨ j = 2 ∨ j = 3 ∨ j = 4 by omega) with e | e | e | e | e <;> subst e
      · rw [if_pos (by decide), if_pos (by decide), if_pos (by decide), if_pos (ib_y (by omega) (by omega)), cl_n (by omega), Nat.add_zero, g1]
        exact ⟨_, x, m, rfl, rfl, h⟩
      · rw [if_neg (by decide), if_pos (by decide), if_pos (by decide), if_pos (by decide), if_pos (ib_y (by omega) (by omega)), cl_n (by omega), g2]
        exact ⟨_, x, m, rfl, rfl, h⟩
      · rw [if_neg (by decide), if_neg (by decide), if_pos (show nI 2 = 2 from rfl), if_pos (show ¬ nI 2 = 4 by decide), if_pos (show ¬ nI 2 = 3 by decide), if_pos (ib_y (by omega) (by omega)), cl_n (by omega), g3]
        rcases (show A 6 c = 0 ∨ A 6 c = 1 by omega) with e | e
        · rw [e]
          exact ⟨0, x, m, rfl, rfl, h⟩
        · rw [e]
          exact ⟨1, x, m, rfl, rfl, h⟩
      · rw [if_neg (by decide), if_neg (by decide), if_neg (by decide), if_pos (by decide), if_pos (by decide), if_neg (by decide)]
        by_cases e : A 7 c = 0
        · rw [if_pos e, if_pos (by decide), spc, if_pos e]
          exact ⟨-4, x, m, rfl, rfl, h⟩
        · rw [if_neg e, if_neg n10, spc, if_neg e, show nI (A 7 c) - 1 = nI (A 7 c - 1) from sub_n (b := 1) (by omega)]
          exact ⟨_, x, m, rfl, rfl, h⟩
      · rw [if_neg (by decide), if_neg (by decide), if_neg (by decide), if_neg (by decide), if_pos (by decide), if_neg (by decide)]
        exact ⟨_, x, m, rfl, rfl, h⟩
