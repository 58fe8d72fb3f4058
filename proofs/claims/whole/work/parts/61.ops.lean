theorem in_val (a lo hi : Int64) (w : Mem) : fn8_in a lo hi w = some (if lo.toInt ≤ a.toInt ∧ a.toInt ≤ hi.toInt then 1 else 0, w) := by
  have c1 : (lg_cmp a lo < 0) = (a.toInt < lo.toInt) := by
    apply propext
    unfold lg_cmp
    by_cases h1 : a > lo
    · have h1' : lo.toInt < a.toInt := Int64.lt_iff_toInt_lt.mp h1
      rw [if_pos h1]
      exact ⟨fun q => absurd q (by decide), fun q => by omega⟩
    · have h1' : ¬ lo.toInt < a.toInt := fun q => h1 (Int64.lt_iff_toInt_lt.mpr q)
      rw [if_neg h1]
      by_cases h2 : a = lo
      · rw [if_pos h2, h2]
        exact ⟨fun q => absurd q (by decide), fun q => by omega⟩
      · rw [if_neg h2]
        have h2' : ¬ a.toInt = lo.toInt := fun q => h2 (Int64.toInt_inj.mp q)
        exact ⟨fun _ => by omega, fun _ => by decide⟩
  have c2 : (0 < lg_cmp a hi) = (hi.toInt < a.toInt) := by
    apply propext
    unfold lg_cmp
    by_cases h1 : a > hi
    · have h1' : hi.toInt < a.toInt := Int64.lt_iff_toInt_lt.mp h1
      rw [if_pos h1]
      exact ⟨fun _ => h1', fun _ => by decide⟩
    · have h1' : ¬ hi.toInt < a.toInt := fun q => h1 (Int64.lt_iff_toInt_lt.mpr q)
      rw [if_neg h1]
      by_cases h2 : a = hi
      · rw [if_pos h2]
        exact ⟨fun q => absurd q (by decide), fun q => absurd q h1'⟩
      · rw [if_neg h2]
        exact ⟨fun q => absurd q (by decide), fun q => absurd q h1'⟩
  unfold fn8_in
  simp only [c1, c2]
  by_cases h1 : a.toInt < lo.toInt
  · rw [if_pos h1, if_neg (by omega)]
  · rw [if_neg h1]
    by_cases h2 : hi.toInt < a.toInt
    · rw [if_pos h2, if_neg (by omega)]
    · rw [if_neg h2, if_pos (by omega)]
theorem ti_l (a : Int32) : a.toInt64.toInt = a.toInt := by simp
theorem ti_n {n : Nat} (h : n < 1048576) : (nI n).toInt = (n : Int) := nI_toInt (by omega)
theorem ti_p {n : Nat} (h : n < 1048576) : (nI n - 1).toInt = (n : Int) - 1 := pk_sub_toInt (a := n) (b := 1) (by omega) (by omega)
theorem neg_ti {a : Int32} (h : a < 0) : a.toInt < 0 := Int32.lt_iff_toInt_lt.mp h
theorem ge_ti {a : Int32} {n : Nat} (hn : n < 1048576) (h : nI n ≤ a) : (n : Int) ≤ a.toInt := by
  have := Int32.le_iff_toInt_le.mp h
  rw [ti_n hn] at this
  exact this
/-- out of the first n numbers -/
def out (a : Int32) (n : Nat) : Prop := a < 0 ∨ nI n ≤ a
theorem in_or (a : Int32) (n : Nat) (hn : n < 1048576) : out a n ∨ ∃ j : Nat, j < n ∧ a = nI j := by
  rcases int_below a n (by omega) with h | h | h
  · exact Or.inl (Or.inl h)
  · exact Or.inl (Or.inr h)
  · exact Or.inr h
theorem in_yes {j n : Nat} {w : Mem} (h : j < n) (hn : n < 1048576) : fn8_in (nI j).toInt64 0 (nI n - 1).toInt64 w = some (1, w) := by
  rw [in_val, ti_l, ti_l, ti_n (by omega), ti_p hn, if_pos]
  exact ⟨by show (0 : Int) ≤ _; omega, by omega⟩
theorem in_no {a : Int32} {n : Nat} {w : Mem} (h : out a n) (hn : n < 1048576) : fn8_in a.toInt64 0 (nI n - 1).toInt64 w = some (0, w) := by
  rw [in_val, ti_l, ti_l, ti_p hn, if_neg]
  rintro ⟨h1, h2⟩
  have h1 : (0 : Int) ≤ a.toInt := h1
  rcases h with h | h
  · have := neg_ti h
    omega
  · have := ge_ti hn h
    omega
theorem out_lt {a : Int32} {n : Nat} (h : out a n) : (a < 0) ∨ (¬ a < 0 ∧ nI n ≤ a) := by
  rcases h with h | h
  · exact Or.inl h
  · by_cases g : a < 0
    · exact Or.inl g
    · exact Or.inr ⟨g, h⟩
theorem ge_of {a : Int32} {n k : Nat} (h : nI n ≤ a) (hk : k ≤ n) (hn : n < 1048576) : nI k ≤ a := by
  rw [Int32.le_iff_toInt_le] at h ⊢
  rw [ti_n hn] at h
  rw [ti_n (by omega)]
  omega
theorem not_le_of_lt32 {a b : Int32} (h : b < a) : ¬ a ≤ b := by
  rw [Int32.lt_iff_toInt_lt] at h
  rw [Int32.le_iff_toInt_le]
  omega
/-! small tests of both sides -/
theorem x_hasOne {b np p : Nat} {w : Mem} (h : w b 0 = nI np) (hp : p < np) (hn : np ≤ 6) : fn6_hasOne b (nI p) w = some (1, w) := by
  unfold fn6_hasOne
  rw [h, if_neg (nI_pos (by omega)), if_neg (nI_ge hp (by omega))]
theorem x_noOne {b np : Nat} {a : Int32} {w : Mem} (h : w b 0 = nI np) (ho : out a np) : fn6_hasOne b a w = some (0, w) := by
  unfold fn6_hasOne
  rw [h]
  rcases out_lt ho with g | ⟨g1, g2⟩
  · rw [if_pos g]
  · rw [if_neg g1, if_pos g2]
theorem x_hasCoin {b nc c : Nat} {w : Mem} (h : w b 4 = nI nc) (hp : c < nc) (hn : nc ≤ 6) : fn6_hasCoin b (nI c) w = some (1, w) := by
  unfold fn6_hasCoin
  rw [h, if_neg (nI_pos (by omega)), if_neg (nI_ge hp (by omega))]
theorem x_noCoin {b nc : Nat} {a : Int32} {w : Mem} (h : w b 4 = nI nc) (ho : out a nc) : fn6_hasCoin b a w = some (0, w) := by
  unfold fn6_hasCoin
  rw [h]
  rcases out_lt ho with g | ⟨g1, g2⟩
  · rw [if_pos g]
  · rw [if_neg g1, if_pos g2]
theorem x_hour {h : Nat} {w : Mem} (hh : h < 12) : fn7_isHour (nI h) w = some (1, w) := by
  unfold fn7_isHour
  rw [if_neg (nI_pos (by omega)), if_neg (show ¬ (12 : Int32) ≤ nI h from nI_ge (b := 12) hh (by omega))]
theorem x_noHour {a : Int32} {w : Mem} (ho : out a 12) : fn7_isHour a w = some (0, w) := by
  unfold fn7_isHour
  rcases out_lt ho with g | ⟨g1, g2⟩
  · rw [if_pos g]
  · rw [if_neg g1, if_pos (show (12 : Int32) ≤ a from g2)]
theorem m_one {np p : Nat} {w : Mem} (h : w 0 2 = nI np) (hp : p < np) (hn : np ≤ 6) : fn8_isOne (nI p) w = some (1, w) := by
  unfold fn8_isOne
  rw [h, in_yes hp (by omega)]
  rfl
theorem m_noOne {np : Nat} {a : Int32} {w : Mem} (h : w 0 2 = nI np) (ho : out a np) (hn : np ≤ 6) : fn8_isOne a w = some (0, w) := by
  unfold fn8_isOne
  rw [h, in_no ho (by omega)]
  rfl
theorem m_coin {nc c : Nat} {w : Mem} (h : w 0 3 = nI nc) (hp : c < nc) (hn : nc ≤ 6) : fn8_isCoin (nI c) w = some (1, w) := by
  unfold fn8_isCoin
  rw [h, in_yes hp (by omega)]
  rfl
theorem m_noCoin {nc : Nat} {a : Int32} {w : Mem} (h : w 0 3 = nI nc) (ho : out a nc) (hn : nc ≤ 6) : fn8_isCoin a w = some (0, w) := by
  unfold fn8_isCoin
  rw [h, in_no ho (by omega)]
  rfl
theorem m_hour {h : Nat} {w : Mem} (hh : h < 12) : fn8_isHour (nI h) w = some (1, w) := by
  unfold fn8_isHour
  rw [show (11 : Int64) = (nI 12 - 1).toInt64 by decide, in_yes hh (by omega)]
  rfl
theorem m_noHour {a : Int32} {w : Mem} (ho : out a 12) : fn8_isHour a w = some (0, w) := by
  unfold fn8_isHour
  rw [show (11 : Int64) = (nI 12 - 1).toInt64 by decide, in_no ho (by omega)]
  rfl
/-- what else is coupled -/
def RO (x m : Mem) (A : Abs) : Prop := RI x m A ∧ RT x m ∧ x 55 2 = m 0 15 ∧ RK x m (A 0 0) ∧ RH x m ∧ RS x m ∧ x 0 9 = m 0 37 ∧ RC m
theorem RR_iff (x m : Mem) : RR x m ↔ ∃ A : Abs, okA A ∧ TX x 1 A ∧ PM m A ∧ GM m 0 A ∧ RO x m A := Iff.rfl
/-- the cells that the other parts live in stand -/
def keepX (x x' : Mem) : Prop := (∀ k, 23 ≤ k → k < 55 → x' k = x k) ∧ x' 55 2 = x 55 2 ∧ x' 56 = x 56 ∧ x' 57 = x 57 ∧ x' 58 = x 58 ∧ x' 64 0 = x 64 0 ∧ x' 66 = x 66 ∧ x' 67 = x 67 ∧ x' 69 = x 69 ∧ x' 0 9 = x 0 9
def keepM (m m' : Mem) : Prop := m' 0 14 = m 0 14 ∧ m' 0 15 = m 0 15 ∧ m' 0 26 = m 0 26 ∧ m' 0 31 = m 0 31 ∧ m' 0 37 = m 0 37 ∧ (∀ j, 57 ≤ j → j < 171 → m' 1 j = m 1 j) ∧ m' 6 = m 6 ∧ m' 7 = m 7 ∧ m' 8 = m 8 ∧ m' 10 = m 10 ∧ m' 14 = m 14 ∧ m' 15 = m 15 ∧ m' 16 = m 16 ∧ m' 17 = m 17 ∧ m' 18 = m 18
theorem TX_keep {x x' : Mem} {b : Nat} {A : Abs} (h : TX x b A) (hk : ∀ i, i ≤ 10 → x' (b + i) = x (b + i)) : TX x' b A := by
  have h0 := hk 0 (by omega)
  rw [Nat.add_zero] at h0
  unfold TX at h ⊢
  rw [h0, hk 1 (by omega), hk 2 (by omega), hk 3 (by omega), hk 4 (by omega), hk 5 (by omega), hk 6 (by omega), hk 7 (by omega), hk 8 (by omega), hk 9 (by omega), hk 10 (by omega)]
  exact h
theorem GM_keep {m m' : Mem} {o : Nat} {A : Abs} (hA : okA A) (h : GM m o A) (hk : ∀ j, o ≤ j → j < o + 57 → m' 1 j = m 1 j) : GM m' o A := by
  obtain ⟨a1, a2, a3, -⟩ := hA
  obtain ⟨g1, g2, g3, g4, g5⟩ := h
  refine ⟨by rw [hk _ (by omega) (by omega)]; exact g1, by rw [hk _ (by omega) (by omega)]; exact g2, by rw [hk _ (by omega) (by omega)]; exact g3, fun c hc => ?_, fun k hk2 => ?_⟩
  · rw [hk _ (by omega) (by omega), hk _ (by omega) (by omega), hk _ (by omega) (by omega), hk _ (by omega) (by omega)]
    exact g4 c hc
  · rw [hk _ (by omega) (by omega), hk _ (by omega) (by omega), hk _ (by omega) (by omega)]
    exact g5 k hk2
theorem likeA_trans {I A A' : Abs} (h : likeA I A) (g : likeA A A') : likeA I A' := by
  obtain ⟨h1, h2, h3⟩ := h
  obtain ⟨g1, g2, g3⟩ := g
  refine ⟨h1.trans g1, h2.trans g2, fun p hp => ?_⟩
  have := h3 p (by omega)
  have := g3 p hp
  omega
theorem RO_keep {x x' m m' : Mem} {A A' : Abs} (h : RO x m A) (hx : keepX x x') (hm : keepM m m') (hA : likeA A A') : RO x' m' A' := by
  obtain ⟨x1, x2, x3, x4, x5, x6, x7, x8, x9, x10⟩ := hx
  obtain ⟨m1, m2, m3, m4, m5, m6, m7, m8, m9, m10, m11, m12, m13, m14, m15⟩ := hm
  obtain ⟨h1, h2, h3, h4, h5, h6, h7, h8⟩ := h
  refine ⟨fun j hj => ?_, ?_, by rw [x2, m2]; exact h3, ?_, ?_, fun k hk => ?_, by rw [x10, m5]; exact h7, ?_⟩
  · obtain ⟨a1, a2⟩ := h1 j hj
    rw [x9, m12]
    refine ⟨a1, a2.elim Or.inl (fun g => Or.inr ⟨g.1, ?_⟩)⟩
    obtain ⟨I, b1, b2, b3, b4⟩ := g.2
    exact ⟨I, b1, likeA_trans b2 hA, TX_keep b3 (fun i hi => x1 _ (by omega) (by omega)), GM_keep b1 b4 (fun i h1 h2 => m6 i (by omega) (by omega))⟩
  · unfold RT at h2 ⊢
    rw [x1 53 (by omega) (by omega), x1 54 (by omega) (by omega), m1, m7]
    exact h2
  · unfold RK at h4 ⊢
    rw [x3, x4, x5, m3, m10, ← hA.1]
    exact h4
  · unfold RH at h5 ⊢
    rw [x6, x7, x8, m4, m11]
    exact h5
  · have := h6 k hk
    rw [x1 _ (by omega) (by omega), x1 _ (by omega) (by omega), m13, m14, m15]
    exact this
  · unfold RC at h8 ⊢
    rw [m8, m9]
    exact h8
theorem likeA_rf (A : Abs) : likeA A A := ⟨rfl, rfl, fun _ _ => ⟨rfl, rfl, rfl⟩⟩
theorem keepX_rf (x : Mem) : keepX x x := ⟨fun _ _ _ => rfl, rfl, rfl, rfl, rfl, rfl, rfl, rfl, rfl, rfl⟩
theorem keepM_rf (m : Mem) : keepM m m := ⟨rfl, rfl, rfl, rfl, rfl, fun _ _ _ => rfl, rfl, rfl, rfl, rfl, rfl, rfl, rfl, rfl, rfl⟩
theorem keepX_up {x : Mem} {k j : Nat} {v : Int32} (h : 1 ≤ k ∧ k < 23) : keepX x (up2 x k j v) := by
  refine ⟨fun i h1 h2 => up2_cell (by omega), ?_, ?_, ?_, ?_, ?_, ?_, ?_, ?_, ?_⟩ <;> rw [up2_cell (by omega)]
theorem keepM_up {m : Mem} {j : Nat} {v : Int32} (h : j < 57) : keepM m (up2 m 1 j v) := by
  refine ⟨?_, ?_, ?_, ?_, ?_, fun i h1 h2 => up2_place (by omega), ?_, ?_, ?_, ?_, ?_, ?_, ?_, ?_, ?_⟩ <;> rw [up2_cell (by omega)]
theorem same_RR {x x' m m' : Mem} (h : RR x m) (hx : keepX x x') (hx1 : ∀ k, 1 ≤ k → k ≤ 11 → x' k = x k) (hm : keepM m m') (hm1 : ∀ j, j < 57 → m' 1 j = m 1 j) (hm2 : m' 2 = m 2 ∧ m' 0 2 = m 0 2 ∧ m' 0 3 = m 0 3) : RR x' m' := by
  obtain ⟨A, h1, h2, h3, h4, h5⟩ := (RR_iff x m).mp h
  refine (RR_iff x' m').mpr ⟨A, h1, TX_keep h2 (fun i hi => hx1 _ (by omega) (by omega)), ?_, GM_keep h1 h4 (fun j _ h9 => hm1 j (by omega)), RO_keep h5 hx hm (likeA_rf A)⟩
  unfold PM at h3 ⊢
  rw [hm2.1, hm2.2.1, hm2.2.2]
  exact h3
/-! questions that only look -/
theorem sim_fault : S_fault RR := fun x m h => by
  obtain ⟨A, h1, h2, h3, h4, h5, h6, h7, h8⟩ := id h
  exact ⟨x 55 2, x, m, rfl, by rw [h7]; rfl, h⟩
theorem sim_torn : S_torn RR := fun x m h => by
  obtain ⟨A, h1, h2, h3, h4, h5, h6, h7, h8, h9, h10, h11, h12⟩ := id h
  exact ⟨x 0 9, x, m, rfl, by rw [h11]; rfl, h⟩
