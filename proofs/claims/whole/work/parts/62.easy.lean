def upA (A : Abs) (i j v : Nat) : Abs := fun i' j' => if i' = i ∧ j' = j then v else A i' j'
theorem upA_same (A : Abs) (i j v : Nat) : upA A i j v i j = v := by simp [upA]
theorem upA_row {A : Abs} {i j v i' : Nat} (h : i' ≠ i) (j' : Nat) : upA A i j v i' j' = A i' j' := by simp [upA, h]
theorem upA_col {A : Abs} {i j v j' : Nat} (i' : Nat) (h : j' ≠ j) : upA A i j v i' j' = A i' j' := by simp [upA, h]
theorem e40 (c : Nat) : (4 : Int32) * nI c = nI (4 * c) := pk_mul 4 c
theorem e41 (c : Nat) : (4 : Int32) * nI c + 1 = nI (4 * c + 1) := by rw [e40]; exact nI_add (4 * c) 1
theorem e42 (c : Nat) : (4 : Int32) * nI c + 2 = nI (4 * c + 2) := by rw [e40]; exact nI_add (4 * c) 2
theorem e43 (c : Nat) : (4 : Int32) * nI c + 3 = nI (4 * c + 3) := by rw [e40]; exact nI_add (4 * c) 3
theorem e30 (c : Nat) : (3 : Int32) * nI c = nI (3 * c) := pk_mul 3 c
theorem ib_y {a n : Nat} (h : a < n) (ha : a < 1048576) : ib (nI a) n = true := by rw [ib_n ha]; exact h
theorem ib_55 : ib 55 228 = true := ib_y (a := 55) (by omega) (by omega)
theorem ib_54 : ib 54 228 = true := ib_y (a := 54) (by omega) (by omega)
theorem ib_56 : ib 56 228 = true := ib_y (a := 56) (by omega) (by omega)
theorem c55 : (55 : Int32).toNatClampNeg = 55 := by decide
theorem c54 : (54 : Int32).toNatClampNeg = 54 := by decide
theorem c56 : (56 : Int32).toNatClampNeg = 56 := by decide
/-- one attribute of one coin: clipped, owner, spent -/
theorem TX_attr {x : Mem} {A : Abs} (h : TX x 1 A) {a c n : Nat} {v : Int32} (ha : (a = 5 ∧ v = nI n) ∨ (a = 6 ∧ v = nI n) ∨ (a = 7 ∧ v = spc n)) : TX (up2 x (1 + a) c v) 1 (upA A a c n) := by
  have hab : 5 ≤ a ∧ a ≤ 7 := by rcases ha with ⟨e, -⟩ | ⟨e, -⟩ | ⟨e, -⟩ <;> omega
  obtain ⟨h1, h2, h3, h4, h5, h6, h7, h8⟩ := h
  refine ⟨?_, ?_, ?_, ?_, ?_, ?_, ?_, ?_⟩
  · rw [up2_cell (by omega), upA_row (by omega)]; exact h1
  · rw [up2_cell (by omega), upA_row (by omega)]; exact h2
  · rw [up2_cell (by omega), upA_row (by omega)]; exact h3
  · rw [up2_cell (by omega), upA_row (by omega)]; exact h4
  · rw [up2_cell (by omega), upA_row (by omega)]; exact h5
  · intro p hp
    rw [upA_row (by omega)] at hp
    rw [up2_cell (by omega), up2_cell (by omega), up2_cell (by omega), upA_row (by omega), upA_row (by omega), upA_row (by omega)]
    exact h6 p hp
  · intro c' hc'
    rw [upA_row (by omega)] at hc'
    obtain ⟨q1, q2, q3, q4⟩ := h7 c' hc'
    have r : ∀ t, 4 ≤ t → t ≤ 7 → (t ≠ a ∨ c' ≠ c) → (up2 x (1 + a) c v (1 + t) c' = x (1 + t) c' ∧ upA A a c n t c' = A t c') := by
      intro t t1 t2 t3
      rcases t3 with t3 | t3
      · exact ⟨by rw [up2_cell (by omega)], upA_row (by omega) _⟩
      · refine ⟨?_, upA_col _ t3⟩
        by_cases e : t = a
        · subst e
          exact up2_place t3
        · rw [up2_cell (by omega)]
    by_cases hcc : c' = c
    · subst hcc
      have w4 := r 4 (by omega) (by omega) (Or.inl (by omega))
      rcases ha with ⟨rfl, rfl⟩ | ⟨rfl, rfl⟩ | ⟨rfl, rfl⟩
      · have w6 := r 6 (by omega) (by omega) (Or.inl (by omega))
        have w7 := r 7 (by omega) (by omega) (Or.inl (by omega))
        rw [w4.1, w4.2, w6.1, w6.2, w7.1, w7.2, up2_same, upA_same]
        exact ⟨q1, rfl, q3, q4⟩
      · have w5 := r 5 (by omega) (by omega) (Or.inl (by omega))
        have w7 := r 7 (by omega) (by omega) (Or.inl (by omega))
        rw [w4.1, w4.2, w5.1, w5.2, w7.1, w7.2, up2_same, upA_same]
        exact ⟨q1, q2, rfl, q4⟩
      · have w5 := r 5 (by omega) (by omega) (Or.inl (by omega))
        have w6 := r 6 (by omega) (by omega) (Or.inl (by omega))
        rw [w4.1, w4.2, w5.1, w5.2, w6.1, w6.2, up2_same, upA_same]
        exact ⟨q1, q2, q3, rfl⟩
    · have w4 := r 4 (by omega) (by omega) (Or.inr hcc)
      have w5 := r 5 (by omega) (by omega) (Or.inr hcc)
      have w6 := r 6 (by omega) (by omega) (Or.inr hcc)
      have w7 := r 7 (by omega) (by omega) (Or.inr hcc)
      rw [w4.1, w4.2, w5.1, w5.2, w6.1, w6.2, w7.1, w7.2]
      exact ⟨q1, q2, q3, q4⟩
  · intro k hk
    rw [upA_row (by omega)] at hk
    rw [up2_cell (by omega), up2_cell (by omega), up2_cell (by omega), upA_row (by omega), upA_row (by omega), upA_row (by omega)]
    exact h8 k hk
theorem GM_attr {m : Mem} {A : Abs} (hA : okA A) (h : GM m 0 A) {a c n : Nat} (hc : c < A 0 1) (ha : a = 5 ∨ a = 6 ∨ a = 7) : GM (up2 m 1 (4 * c + (a - 4)) (nI n)) 0 (upA A a c n) := by
  have hnc := hA.2.1
  obtain ⟨h1, h2, h3, h4, h5⟩ := h
  have far : ∀ j, (j ≠ 4 * c + (a - 4)) → up2 m 1 (4 * c + (a - 4)) (nI n) 1 j = m 1 j := fun j hj => up2_place hj
  refine ⟨?_, ?_, ?_, ?_, ?_⟩
  · rw [far _ (by omega), upA_row (by omega)]; exact h1
  · rw [far _ (by omega), upA_row (by omega)]; exact h2
  · rw [far _ (by omega), upA_row (by omega)]; exact h3
  · intro c' hc'
    rw [upA_row (by omega)] at hc'
    obtain ⟨q1, q2, q3, q4⟩ := h4 c' hc'
    by_cases hcc : c' = c
    · subst hcc
      rcases ha with rfl | rfl | rfl
      · rw [far (0 + 4 * c') (by omega), far (0 + (4 * c' + 2)) (by omega), far (0 + (4 * c' + 3)) (by omega), upA_row (i' := 4) (by omega), upA_row (i' := 6) (by omega), upA_row (i' := 7) (by omega), upA_same, show 0 + (4 * c' + 1) = 4 * c' + (5 - 4) by omega, up2_same]
        exact ⟨q1, rfl, q3, q4⟩
      · rw [far _ (by omega), far _ (by omega), far (0 + (4 * c' + 3)) (by omega), upA_row (by omega), upA_row (by omega), upA_row (i' := 7) (by omega), upA_same, show 0 + (4 * c' + 2) = 4 * c' + (6 - 4) by omega, up2_same]
        exact ⟨q1, q2, rfl, q4⟩
      · rw [far _ (by omega), far _ (by omega), far _ (by omega), upA_row (by omega), upA_row (by omega), upA_row (by omega), upA_same, show 0 + (4 * c' + 3) = 4 * c' + (7 - 4) by omega, up2_same]
        exact ⟨q1, q2, q3, rfl⟩
    · rw [far _ (by omega), far _ (by omega), far _ (by omega), far _ (by omega), upA_col _ hcc, upA_col _ hcc, upA_col _ hcc, upA_col _ hcc]
      exact ⟨q1, q2, q3, q4⟩
  · intro k hk
    rw [upA_row (by omega)] at hk
    rw [far _ (by omega), far _ (by omega), far _ (by omega), upA_row (by omega), upA_row (by omega), upA_row (by omega)]
    exact h5 k hk
theorem PM_attr {m : Mem} {A : Abs} (h : PM m A) {a c n j : Nat} {v : Int32} (ha : 5 ≤ a) : PM (up2 m 1 j v) (upA A a c n) := by
  obtain ⟨h1, h2, h3⟩ := h
  refine ⟨by rw [up2_cell (by omega), upA_row (by omega)]; exact h1, by rw [up2_cell (by omega), upA_row (by omega)]; exact h2, fun p hp => ?_⟩
  rw [upA_row (by omega)] at hp
  rw [up2_cell (by omega), upA_row (by omega), upA_row (by omega), upA_row (by omega)]
  exact h3 p hp
theorem likeA_up {A : Abs} {a c n : Nat} (ha : 4 ≤ a) : likeA A (upA A a c n) := ⟨(upA_row (by omega) _).symm, (upA_row (by omega) _).symm, fun p _ => ⟨(upA_row (by omega) _).symm, (upA_row (by omega) _).symm, (upA_row (by omega) _).symm⟩⟩
theorem okA_attr {A : Abs} (h : okA A) {a c n : Nat} (ha : (a = 5 ∧ n < A 0 0) ∨ (a = 6 ∧ n ≤ 1) ∨ (a = 7 ∧ n ≤ 12)) : okA (upA A a c n) := by
  have hab : 5 ≤ a ∧ a ≤ 7 := by rcases ha with ⟨e, -⟩ | ⟨e, -⟩ | ⟨e, -⟩ <;> omega
  obtain ⟨h1, h2, h3, h4, h5, h6, h7, h8⟩ := h
  have r0 : ∀ j, upA A a c n 0 j = A 0 j := fun j => upA_row (by omega) j
  unfold okA
  rw [r0, r0, r0, r0, r0]
  refine ⟨h1, h2, h3, h4, h5, fun p hp => ?_, fun c' hc' => ?_, fun k hk => ?_⟩
  · rw [upA_row (by omega), upA_row (by omega), upA_row (by omega)]; exact h6 p hp
  · obtain ⟨q1, q2, q3, q4, q5⟩ := h7 c' hc'
    rw [upA_row (i' := 4) (by omega)]
    refine ⟨q1, q2, ?_, ?_, ?_⟩ <;> (unfold upA; split)
    · rename_i e; rcases ha with ⟨_, e2⟩ | ⟨e2, _⟩ | ⟨e2, _⟩ <;> first | exact e2 | omega
    · exact q3
    · rename_i e; rcases ha with ⟨e2, _⟩ | ⟨_, e2⟩ | ⟨e2, _⟩ <;> first | exact e2 | omega
    · exact q4
    · rename_i e; rcases ha with ⟨e2, _⟩ | ⟨e2, _⟩ | ⟨_, e2⟩ <;> first | exact e2 | omega
    · exact q5
  · rw [upA_row (by omega), upA_row (by omega), upA_row (by omega)]; exact h8 k hk
/-- the coupling behind a change of one attribute of a coin -/
theorem RR_attr {x m : Mem} {A : Abs} (hA : okA A) (hT : TX x 1 A) (hP : PM m A) (hG : GM m 0 A) (hO : RO x m A) {a c n : Nat} {v : Int32} (hc : c < A 0 1) (ha : (a = 5 ∧ v = nI n ∧ n < A 0 0) ∨ (a = 6 ∧ v = nI n ∧ n ≤ 1) ∨ (a = 7 ∧ v = spc n ∧ n ≤ 12)) : RR (up2 x (1 + a) c v) (up2 m 1 (4 * c + (a - 4)) (nI n)) := by
  have hab : 5 ≤ a ∧ a ≤ 7 := by rcases ha with ⟨e, -⟩ | ⟨e, -⟩ | ⟨e, -⟩ <;> omega
  have hnc := hA.2.1
  refine (RR_iff _ _).mpr ⟨upA A a c n, okA_attr hA (by rcases ha with ⟨e, -, f⟩ | ⟨e, -, f⟩ | ⟨e, -, f⟩ <;> simp [e, f]), TX_attr hT (by rcases ha with ⟨e, f, -⟩ | ⟨e, f, -⟩ | ⟨e, f, -⟩ <;> simp [e, f]), PM_attr hP hab.1, GM_attr hA hG hc (by omega), RO_keep hO (keepX_up (by omega)) (keepM_up (by omega)) (likeA_up (by omega))⟩
theorem x_isSpent {x : Mem} {A : Abs} (hA : okA A) {b c : Nat} (hT : TX x b A) (hc : c < A 0 1) : fn6_isSpent b (nI c) x = some (if A 7 c = 0 then 0 else 1, x) := by
  have hnc := hA.2.1
  have h12 := (hA.2.2.2.2.2.2.1 c hc).2.2.2.2
  obtain ⟨-, -, -, q4⟩ := hT.2.2.2.2.2.2.1 c hc
  unfold fn6_isSpent
  rw [if_pos (ib_y (by omega) (by omega)), cl_n (by omega), q4]
  unfold spc
  by_cases e : A 7 c = 0
  · simp [e]
  · rw [if_neg e, if_neg e, if_neg]
    intro h
    have := congrArg Int32.toInt h
    rw [ti_n (by omega)] at this
    have g : ((-4 : Int32)).toInt = -4 := by decide
    omega
theorem m_isSpent {m : Mem} {A : Abs} (hA : okA A) (hG : GM m 0 A) {c : Nat} (hc : c < A 0 1) : fn8_isSpent (nI c) m = some (if A 7 c = 0 then 0 else 1, m) := by
  have hnc := hA.2.1
  have h12 := (hA.2.2.2.2.2.2.1 c hc).2.2.2.2
  have q4 := (hG.2.2.2.1 c hc).2.2.2
  rw [Nat.zero_add] at q4
  unfold fn8_isSpent
  rw [e43, if_pos (ib_y (by omega) (by omega)), cl_n (by omega), q4]
  by_cases e : A 7 c = 0
  · rw [if_pos e, e, if_pos (by decide)]
  · rw [if_neg e, if_neg]
    exact nI_nle (by omega) (by omega)
theorem m_ownerOf {m : Mem} {A : Abs} (hA : okA A) (hG : GM m 0 A) {c : Nat} (hc : c < A 0 1) : fn8_ownerOf (nI c) m = some (nI (A 5 c), m) := by
  have hnc := hA.2.1
  have q := (hG.2.2.2.1 c hc).2.1
  rw [Nat.zero_add] at q
  unfold fn8_ownerOf
  rw [e41, if_pos (ib_y (by omega) (by omega)), cl_n (by omega), q]
/-- a coin's length by a person -/
def lenA (A : Abs) (c p : Nat) : Nat := (if A 6 c = 0 then A 4 c else if A 4 c - 1 ≤ 1 then 1 else A 4 c - 1) + (if A 1 p = 3 then 1 else 0)
theorem x_lengthBy {x : Mem} {A : Abs} (hA : okA A) {b c p : Nat} (hT : TX x b A) (hc : c < A 0 1) (hp : p < A 0 0) : fn6_lengthBy b (nI c) (nI p) x = some (nI (lenA A c p), x) := by
  have hnc := hA.2.1
  have hnp := hA.1
  obtain ⟨w1, w2, -, w4, -⟩ := hA.2.2.2.2.2.2.1 c hc
  obtain ⟨k1, -⟩ := hA.2.2.2.2.2.1 p hp
  obtain ⟨q1, -, q3, -⟩ := hT.2.2.2.2.2.2.1 c hc
  obtain ⟨r1, -⟩ := hT.2.2.2.2.2.1 p hp
  have tail : ∀ t : Nat, fn6_lengthBy_30 b (nI p) (nI t) x = some (nI (t + (if A 1 p = 3 then 1 else 0)), x) := by
    intro t
    unfold fn6_lengthBy_30
    rw [if_pos (ib_y (by omega) (by omega)), cl_n (by omega), r1, show (3 : Int32) = nI 3 from rfl]
    by_cases e : A 1 p = 3
    · rw [if_neg (by rw [e]; simp), if_pos e]
      exact congrArg (fun v => some (v, x)) (nI_add t 1)
    · rw [if_pos (by rw [eq_n (by omega) (by omega)]; exact e), if_neg e]
      rfl
  have hib : ib (nI c) 6 = true := ib_y (by omega) (by omega)
  unfold fn6_lengthBy
  simp only [if_pos hib]
  rw [cl_n (by omega), q3, q1]
  by_cases e : A 6 c = 0
  · rw [if_pos (by rw [e]; rfl), tail, lenA, if_pos e]
  · rw [if_neg (by rw [show (0 : Int32) = nI 0 from rfl, eq_n (by omega) (by omega)]; exact e), lenA, if_neg e]
    have e1 : nI (A 4 c) - 1 = nI (A 4 c - 1) := sub_n (b := 1) w1
    rw [e1]
    by_cases e2 : A 4 c - 1 ≤ 1
    · rw [if_neg (show ¬ (1 : Int32) < nI (A 4 c - 1) from nI_nlt (a := 1) e2 (by omega)), if_pos e2]
      exact tail 1
    · rw [if_pos (show (1 : Int32) < nI (A 4 c - 1) from nI_lt (a := 1) (by omega) (by omega)), if_neg e2]
      exact tail _
theorem m_kindOf {m : Mem} {A : Abs} (hA : okA A) (hP : PM m A) {p : Nat} (hp : p < A 0 0) : fn8_kindOf (nI p) m = some (nI (A 1 p), m) := by
  have hnp := hA.1
  unfold fn8_kindOf
  rw [e30, if_pos (ib_y (by omega) (by omega)), cl_n (by omega), (hP.2.2 p hp).1]
theorem m_lengthBy {m : Mem} {A : Abs} (hA : okA A) (hP : PM m A) (hG : GM m 0 A) {c p : Nat} (hc : c < A 0 1) (hp : p < A 0 0) : fn8_lengthBy (nI c) (nI p) m = some (nI (lenA A c p), m) := by
  have hnc := hA.2.1
  have hnp := hA.1
  obtain ⟨w1, w2, -, w4, -⟩ := hA.2.2.2.2.2.2.1 c hc
  obtain ⟨k1, -⟩ := hA.2.2.2.2.2.1 p hp
  obtain ⟨q1, -, q3, -⟩ := hG.2.2.2.1 c hc
  rw [Nat.zero_add] at q1 q3
  have tail : ∀ t : Nat, fn8_lengthBy_30 (nI p) (nI t) m = some (nI (t + (if A 1 p = 3 then 1 else 0)), m) := by
    intro t
    unfold fn8_lengthBy_30
    rw [m_kindOf hA hP hp]
    show (if ¬ nI (A 1 p) = 3 then some (nI t + 0, m) else some (nI t + 1, m)) = _
    rw [show (3 : Int32) = nI 3 from rfl]
    by_cases e : A 1 p = 3
    · rw [if_neg (by rw [e]; simp), if_pos e]
      exact congrArg (fun v => some (v, m)) (nI_add t 1)
    · rw [if_pos (by rw [eq_n (by omega) (by omega)]; exact e), if_neg e]
      exact congrArg (fun v => some (v, m)) (nI_add t 0)
  unfold fn8_lengthBy
  rw [e42, e40, if_pos (ib_y (by omega) (by omega)), if_pos (ib_y (by omega) (by omega)), cl_n (by omega), cl_n (by omega), q1, q3]
  by_cases e : A 6 c = 0
  · rw [e]
    have e1 : nI (A 4 c) - nI 0 = nI (A 4 c) := by rw [sub_n (by omega)]; rfl
    rw [e1, if_pos (show (1 : Int32) ≤ nI (A 4 c) from nI_le (a := 1) w1 (by omega)), tail, lenA, if_pos e]
  · have e6 : A 6 c = 1 := by omega
    rw [e6]
    have e1 : nI (A 4 c) - nI 1 = nI (A 4 c - 1) := sub_n (b := 1) w1
    rw [e1, lenA, if_neg e]
    by_cases e2 : A 4 c - 1 ≤ 1
    · rw [if_pos e2]
      by_cases e3 : A 4 c = 1
      · rw [if_neg (show ¬ (1 : Int32) ≤ nI (A 4 c - 1) by rw [e3]; decide)]
        exact tail 1
      · rw [if_pos (show (1 : Int32) ≤ nI (A 4 c - 1) from nI_le (a := 1) (by omega) (by omega)), show A 4 c - 1 = 1 by omega]
        exact tail 1
    · rw [if_neg e2, if_pos (show (1 : Int32) ≤ nI (A 4 c - 1) from nI_le (a := 1) (by omega) (by omega))]
      exact tail _
