def addT (A : Abs) (h p q : Nat) : Abs := fun i j => if i = 0 ∧ j = 2 then A 0 2 + 1 else if i = 8 ∧ j = A 0 2 then h else if i = 9 ∧ j = A 0 2 then p else if i = 10 ∧ j = A 0 2 then q else A i j
def xT (x : Mem) (n h p q : Nat) : Mem := up2 (up2 (up2 (up2 x 9 n (nI h)) 10 n (nI p)) 11 n (nI q)) 1 9 (nI (n + 1))
def mT (m : Mem) (n h p q : Nat) : Mem := up2 (up2 (up2 (up2 m 1 (24 + 3 * n) (nI h)) 1 (24 + 3 * n + 1) (nI p)) 1 (24 + 3 * n + 2) (nI q)) 1 54 (nI (n + 1))
theorem addT_lo {A : Abs} {h p q i j : Nat} (hi : i < 8) (h2 : ¬ (i = 0 ∧ j = 2)) : addT A h p q i j = A i j := by
  unfold addT
  rw [if_neg h2, if_neg (by omega), if_neg (by omega), if_neg (by omega)]
theorem addT_nt {A : Abs} {h p q : Nat} : addT A h p q 0 2 = A 0 2 + 1 := by simp [addT]
theorem addT_old {A : Abs} {h p q i j : Nat} (hi : 8 ≤ i) (hj : j < A 0 2) : addT A h p q i j = A i j := by
  unfold addT
  rw [if_neg (by omega), if_neg (by omega), if_neg (by omega), if_neg (by omega)]
theorem addT_new {A : Abs} {h p q : Nat} : addT A h p q 8 (A 0 2) = h ∧ addT A h p q 9 (A 0 2) = p ∧ addT A h p q 10 (A 0 2) = q := by
  unfold addT
  simp
theorem e24 (n : Nat) : (24 : Int32) + 3 * nI n = nI (24 + 3 * n) := by rw [e30]; exact nI_add 24 (3 * n)
theorem x_canTalk {x : Mem} {A : Abs} (hA : okA A) (hT : TX x 1 A) {h p q : Nat} (h1 : h < 12) (h2 : p < A 0 0) (h3 : q < A 0 0) (h4 : p ≠ q) : fn6_canTalk 1 (nI h) (nI p) (nI q) x = some (1, x) := by
  have hnp := hA.1
  unfold fn6_canTalk
  rw [x_hour h1]
  simp only [bs, if_neg n10]
  rw [x_hasOne hT.1 h2 hnp]
  simp only [bs, if_neg n10]
  rw [x_hasOne hT.1 h3 hnp]
  simp only [bs, if_neg n10]
  rw [if_neg (by rw [eq_n (by omega) (by omega)]; exact h4)]
theorem m_areTwo {m : Mem} {A : Abs} (hA : okA A) (hP : PM m A) {p q : Nat} (h2 : p < A 0 0) (h3 : q < A 0 0) (h4 : p ≠ q) : fn8_areTwo (nI p) (nI q) m = some (1, m) := by
  have hnp := hA.1
  unfold fn8_areTwo
  rw [m_one hP.1 h2 hnp]
  simp only [bs, if_neg n10]
  rw [m_one hP.1 h3 hnp]
  simp only [bs, if_neg n10]
  rw [if_neg (by rw [eq_n (by omega) (by omega)]; exact h4)]
/-- a talk can be, or not, on both sides -/
theorem can_cases {x m : Mem} {A : Abs} (hA : okA A) (hT : TX x 1 A) (hP : PM m A) (a b c : Int32) : (fn6_canTalk 1 a b c x = some (0, x) ∧ ((fn8_isHour a m = some (0, m)) ∨ (fn8_isHour a m = some (1, m) ∧ fn8_areTwo b c m = some (0, m)))) ∨ ∃ h p q : Nat, h < 12 ∧ p < A 0 0 ∧ q < A 0 0 ∧ p ≠ q ∧ a = nI h ∧ b = nI p ∧ c = nI q := by
  have hnp := hA.1
  rcases in_or a 12 (by omega) with ho | ⟨h, hh, rfl⟩
  · left
    unfold fn6_canTalk
    rw [x_noHour ho]
    exact ⟨rfl, Or.inl (m_noHour ho)⟩
  · rcases in_or b (A 0 0) (by omega) with ho | ⟨p, hp, rfl⟩
    · left
      unfold fn6_canTalk fn8_areTwo
      rw [x_hour hh]
      simp only [bs, if_neg n10]
      rw [x_noOne hT.1 ho, m_noOne hP.1 ho hnp]
      exact ⟨rfl, Or.inr ⟨m_hour hh, rfl⟩⟩
    · rcases in_or c (A 0 0) (by omega) with ho | ⟨q, hq, rfl⟩
      · left
        unfold fn6_canTalk fn8_areTwo
        rw [x_hour hh]
        simp only [bs, if_neg n10]
        rw [x_hasOne hT.1 hp hnp, m_one hP.1 hp hnp]
        simp only [bs, if_neg n10]
        rw [x_noOne hT.1 ho, m_noOne hP.1 ho hnp]
        exact ⟨rfl, Or.inr ⟨m_hour hh, rfl⟩⟩
      · by_cases e : p = q
        · subst e
          left
          unfold fn6_canTalk fn8_areTwo
          rw [x_hour hh]
          simp only [bs, if_neg n10]
          rw [x_hasOne hT.1 hp hnp, m_one hP.1 hp hnp]
          simp only [bs, if_neg n10]
          rw [x_hasOne hT.1 hp hnp, m_one hP.1 hp hnp]
          simp only [bs, if_neg n10, if_true]
          exact ⟨trivial, Or.inr ⟨m_hour hh, trivial⟩⟩
        · exact Or.inr ⟨h, p, q, hh, hp, hq, e, rfl, rfl, rfl⟩
theorem xT_cell {x : Mem} {n h p q k : Nat} (h1 : k ≠ 1) (h2 : k ≠ 9) (h3 : k ≠ 10) (h4 : k ≠ 11) : xT x n h p q k = x k := by
  unfold xT
  rw [up2_cell h1, up2_cell h4, up2_cell h3, up2_cell h2]
theorem xT_1 {x : Mem} {n h p q j : Nat} (hj : j ≠ 9) : xT x n h p q 1 j = x 1 j := by
  unfold xT
  rw [up2_place hj, up2_cell (by omega), up2_cell (by omega), up2_cell (by omega)]
theorem xT_9 {x : Mem} {n h p q : Nat} : xT x n h p q 1 9 = nI (n + 1) := by
  unfold xT
  rw [up2_same]
theorem xT_t {x : Mem} {n h p q k : Nat} : xT x n h p q 9 k = (if k = n then nI h else x 9 k) ∧ xT x n h p q 10 k = (if k = n then nI p else x 10 k) ∧ xT x n h p q 11 k = (if k = n then nI q else x 11 k) := by
  unfold xT
  rw [up2_cell (k' := 9) (by omega), up2_cell (k' := 9) (by omega), up2_cell (k' := 9) (by omega), up2_cell (k' := 10) (by omega), up2_cell (k' := 10) (by omega), up2_cell (k' := 11) (by omega)]
  by_cases e : k = n
  · subst e
    rw [up2_same, up2_same, up2_same]
    simp
  · rw [up2_place e, up2_place e, up2_place e, up2_cell (k' := 10) (by omega), up2_cell (k' := 11) (by omega), up2_cell (k' := 11) (by omega)]
    simp [e]
theorem mT_cell {m : Mem} {n h p q k : Nat} (h1 : k ≠ 1) : mT m n h p q k = m k := by
  unfold mT
  rw [up2_cell h1, up2_cell h1, up2_cell h1, up2_cell h1]
theorem mT_far {m : Mem} {n h p q j : Nat} (h1 : j ≠ 54) (h2 : j < 24 + 3 * n ∨ 24 + 3 * n + 2 < j) : mT m n h p q 1 j = m 1 j := by
  unfold mT
  rw [up2_place (by omega), up2_place (by omega), up2_place (by omega), up2_place (by omega)]
theorem mT_54 {m : Mem} {n h p q : Nat} : mT m n h p q 1 54 = nI (n + 1) := by
  unfold mT
  rw [up2_same]
theorem mT_new {m : Mem} {n h p q : Nat} (hn : n < 10) : mT m n h p q 1 (24 + 3 * n) = nI h ∧ mT m n h p q 1 (24 + 3 * n + 1) = nI p ∧ mT m n h p q 1 (24 + 3 * n + 2) = nI q := by
  unfold mT
  refine ⟨?_, ?_, ?_⟩
  · rw [up2_place (by omega), up2_place (by omega), up2_place (by omega), up2_same]
  · rw [up2_place (by omega), up2_place (by omega), up2_same]
  · rw [up2_place (by omega), up2_same]
theorem okA_add {A : Abs} (hA : okA A) {h p q : Nat} (h0 : A 0 2 < 10) (h1 : h < 12) (h2 : p < A 0 0) (h3 : q < A 0 0) (h4 : p ≠ q) : okA (addT A h p q) := by
  obtain ⟨a1, a2, a3, a4, a5, a6, a7, a8⟩ := hA
  unfold okA
  rw [addT_nt, addT_lo (i := 0) (j := 0) (by omega) (by omega), addT_lo (i := 0) (j := 1) (by omega) (by omega), addT_lo (i := 0) (j := 3) (by omega) (by omega), addT_lo (i := 0) (j := 4) (by omega) (by omega)]
  refine ⟨a1, a2, by omega, a4, a5, fun u hu => ?_, fun u hu => ?_, fun u hu => ?_⟩
  · rw [addT_lo (by omega) (by omega), addT_lo (by omega) (by omega), addT_lo (by omega) (by omega)]; exact a6 u hu
  · rw [addT_lo (by omega) (by omega), addT_lo (by omega) (by omega), addT_lo (by omega) (by omega), addT_lo (by omega) (by omega)]; exact a7 u hu
  · by_cases e : u = A 0 2
    · subst e
      obtain ⟨n1, n2, n3⟩ := addT_new (A := A) (h := h) (p := p) (q := q)
      rw [n1, n2, n3]
      exact ⟨h1, h2, h3, h4⟩
    · rw [addT_old (by omega) (by omega), addT_old (by omega) (by omega), addT_old (by omega) (by omega)]; exact a8 u (by omega)
theorem TX_add {x : Mem} {A : Abs} (hT : TX x 1 A) {h p q : Nat} : TX (xT x (A 0 2) h p q) 1 (addT A h p q) := by
  obtain ⟨a1, a2, a3, a4, a5, a6, a7, a8⟩ := hT
  unfold TX
  rw [addT_nt, addT_lo (i := 0) (j := 0) (by omega) (by omega), addT_lo (i := 0) (j := 1) (by omega) (by omega), addT_lo (i := 0) (j := 3) (by omega) (by omega), addT_lo (i := 0) (j := 4) (by omega) (by omega), xT_9, xT_1 (j := 0) (by omega), xT_1 (j := 4) (by omega), xT_1 (j := 13) (by omega), xT_1 (j := 14) (by omega)]
  refine ⟨a1, a2, rfl, a4, a5, fun u hu => ?_, fun u hu => ?_, fun u hu => ?_⟩
  · rw [xT_cell (by omega) (by omega) (by omega) (by omega), xT_cell (by omega) (by omega) (by omega) (by omega), xT_cell (by omega) (by omega) (by omega) (by omega), addT_lo (by omega) (by omega), addT_lo (by omega) (by omega), addT_lo (by omega) (by omega)]; exact a6 u hu
  · rw [xT_cell (by omega) (by omega) (by omega) (by omega), xT_cell (by omega) (by omega) (by omega) (by omega), xT_cell (by omega) (by omega) (by omega) (by omega), xT_cell (by omega) (by omega) (by omega) (by omega), addT_lo (by omega) (by omega), addT_lo (by omega) (by omega), addT_lo (by omega) (by omega), addT_lo (by omega) (by omega)]; exact a7 u hu
  · obtain ⟨t1, t2, t3⟩ := xT_t (x := x) (n := A 0 2) (h := h) (p := p) (q := q) (k := u)
    show xT x (A 0 2) h p q 9 u = _ ∧ xT x (A 0 2) h p q 10 u = _ ∧ xT x (A 0 2) h p q 11 u = _
    rw [t1, t2, t3]
    by_cases e : u = A 0 2
    · subst e
      obtain ⟨n1, n2, n3⟩ := addT_new (A := A) (h := h) (p := p) (q := q)
      rw [n1, n2, n3]
      simp
    · rw [if_neg e, if_neg e, if_neg e, addT_old (by omega) (by omega), addT_old (by omega) (by omega), addT_old (by omega) (by omega)]; exact a8 u (by omega)
theorem PM_add {m : Mem} {A : Abs} (hP : PM m A) {h p q : Nat} : PM (mT m (A 0 2) h p q) (addT A h p q) := by
  obtain ⟨a1, a2, a3⟩ := hP
  unfold PM
  rw [addT_lo (i := 0) (j := 0) (by omega) (by omega), addT_lo (i := 0) (j := 1) (by omega) (by omega), mT_cell (k := 0) (by omega), mT_cell (k := 2) (by omega)]
  refine ⟨a1, a2, fun u hu => ?_⟩
  rw [addT_lo (by omega) (by omega), addT_lo (by omega) (by omega), addT_lo (by omega) (by omega)]; exact a3 u hu
theorem GM_add {m : Mem} {A : Abs} (hA : okA A) (hG : GM m 0 A) {h p q : Nat} (h0 : A 0 2 < 10) : GM (mT m (A 0 2) h p q) 0 (addT A h p q) := by
  have hnc := hA.2.1
  obtain ⟨a1, a2, a3, a4, a5⟩ := hG
  unfold GM
  rw [addT_nt, addT_lo (i := 0) (j := 1) (by omega) (by omega), addT_lo (i := 0) (j := 3) (by omega) (by omega), addT_lo (i := 0) (j := 4) (by omega) (by omega), show 0 + 54 = 54 from rfl, mT_54, mT_far (j := 0 + 55) (by omega) (by omega), mT_far (j := 0 + 56) (by omega) (by omega)]
  refine ⟨rfl, a2, a3, fun u hu => ?_, fun u hu => ?_⟩
  · rw [mT_far (by omega) (by omega), mT_far (by omega) (by omega), mT_far (by omega) (by omega), mT_far (by omega) (by omega), addT_lo (by omega) (by omega), addT_lo (by omega) (by omega), addT_lo (by omega) (by omega), addT_lo (by omega) (by omega)]; exact a4 u hu
  · by_cases e : u = A 0 2
    · subst e
      obtain ⟨n1, n2, n3⟩ := addT_new (A := A) (h := h) (p := p) (q := q)
      rw [n1, n2, n3]
      simp only [Nat.zero_add]
      exact mT_new h0
    · rw [mT_far (by omega) (by omega), mT_far (by omega) (by omega), mT_far (by omega) (by omega), addT_old (by omega) (by omega), addT_old (by omega) (by omega), addT_old (by omega) (by omega)]; exact a5 u (by omega)
theorem talk_step {x m : Mem} {A : Abs} (hA : okA A) (hT : TX x 1 A) (hP : PM m A) (hG : GM m 0 A) (a b c : Int32) : (∃ r : Int32, r < 0 ∧ fn6_addTalk 1 a b c x = some (r, x) ∧ fn8_speaks a b c m = some (r, m)) ∨ ∃ h p q : Nat, h < 12 ∧ p < A 0 0 ∧ q < A 0 0 ∧ p ≠ q ∧ A 0 2 < 10 ∧ fn6_addTalk 1 a b c x = some (nI (A 0 2 + 1), xT x (A 0 2) h p q) ∧ fn8_speaks a b c m = some (nI (A 0 2 + 1), mT m (A 0 2) h p q) := by
  have hnt := hA.2.2.1
  have g54 : m 1 54 = nI (A 0 2) := hG.1
  unfold fn6_addTalk fn8_speaks
  rcases can_cases hA hT hP a b c with ⟨e1, e2⟩ | ⟨h, p, q, h1, h2, h3, h4, rfl, rfl, rfl⟩
  · left
    refine ⟨-1, by decide, ?_, ?_⟩
    · rw [e1]; rfl
    · rcases e2 with e2 | ⟨e2, e3⟩
      · rw [e2]; rfl
      · rw [e2]
        simp only [bs, if_neg n10]
        rw [e3]; rfl
  · rw [x_canTalk hA hT h1 h2 h3 h4, m_hour h1]
    simp only [bs, if_pos n10, if_neg n10]
    rw [m_areTwo hA hP h2 h3 h4]
    simp only [bs, if_pos n10, if_pos ib_54, c54]
    rw [hT.2.2.1, g54]
    by_cases e : A 0 2 = 10
    · left
      refine ⟨-3, by decide, ?_, ?_⟩
      · rw [e, if_neg (show ¬ nI 10 < 10 by decide)]
      · rw [e, if_neg (show ¬ ¬ nI 10 = 10 from fun z => z rfl)]
    · right
      refine ⟨h, p, q, h1, h2, h3, h4, by omega, ?_, ?_⟩
      · rw [if_pos (show nI (A 0 2) < 10 from nI_lt (b := 10) (by omega) (by omega))]
        unfold fn6_putTalk fn6_putTalk_39
        have w9 : x 1 9 = nI (A 0 2) := hT.2.2.1
        have hib : ib (nI (A 0 2)) 10 = true := ib_y (by omega) (by omega)
        have s : nI (A 0 2) + 1 = nI (A 0 2 + 1) := nI_add _ 1
        simp only [show 1 + 8 = 9 from rfl, show 1 + 9 = 10 from rfl, show 1 + 10 = 11 from rfl, w9, up2_cell (show (1 : Nat) ≠ 9 by omega), up2_cell (show (1 : Nat) ≠ 10 by omega), up2_cell (show (1 : Nat) ≠ 11 by omega), if_pos hib, cl_n (show A 0 2 < 1048576 by omega), s, bs, up2_same]
        rw [if_neg (show ¬ (10 : Int32) ≤ nI (A 0 2) from nI_ge (b := 10) (by omega) (by omega))]
        simp only [bs, up2_same]
        rfl
      · rw [if_pos (show ¬ nI (A 0 2) = 10 by rw [show (10 : Int32) = nI 10 from rfl, eq_n (by omega) (by omega)]; exact e)]
        unfold fn8_speaks_65 fn8_speaks_91
        have s : nI (A 0 2) + 1 = nI (A 0 2 + 1) := nI_add _ 1
        have i1 : nI (24 + 3 * A 0 2) + 1 = nI (24 + 3 * A 0 2 + 1) := nI_add _ 1
        have i2 : nI (24 + 3 * A 0 2) + 2 = nI (24 + 3 * A 0 2 + 2) := nI_add _ 2
        have b0 : ib (nI (24 + 3 * A 0 2)) 228 = true := ib_y (by omega) (by omega)
        have b1 : ib (nI (24 + 3 * A 0 2 + 1)) 228 = true := ib_y (by omega) (by omega)
        have b2 : ib (nI (24 + 3 * A 0 2 + 2)) 228 = true := ib_y (by omega) (by omega)
        simp only [e24, i1, i2, if_pos b0, if_pos b1, if_pos b2, if_pos ib_54, c54, cl_n (show 24 + 3 * A 0 2 < 1048576 by omega), cl_n (show 24 + 3 * A 0 2 + 1 < 1048576 by omega), cl_n (show 24 + 3 * A 0 2 + 2 < 1048576 by omega), up2_place (show 54 ≠ 24 + 3 * A 0 2 by omega), up2_place (show 54 ≠ 24 + 3 * A 0 2 + 1 by omega), up2_place (show 54 ≠ 24 + 3 * A 0 2 + 2 by omega), g54, s]
        rfl
theorem keepX_T {x : Mem} {n h p q : Nat} : keepX x (xT x n h p q) := by
  refine ⟨fun i h1 h2 => xT_cell (by omega) (by omega) (by omega) (by omega), ?_, ?_, ?_, ?_, ?_, ?_, ?_, ?_, ?_⟩ <;> rw [xT_cell (by omega) (by omega) (by omega) (by omega)]
theorem keepM_T {m : Mem} {n h p q : Nat} (hn : n < 10) : keepM m (mT m n h p q) := by
  refine ⟨?_, ?_, ?_, ?_, ?_, fun i h1 h2 => mT_far (by omega) (by omega), ?_, ?_, ?_, ?_, ?_, ?_, ?_, ?_, ?_⟩ <;> rw [mT_cell (by omega)]
theorem likeA_T {A : Abs} {h p q : Nat} : likeA A (addT A h p q) := ⟨(addT_lo (by omega) (by omega)).symm, (addT_lo (by omega) (by omega)).symm, fun u _ => ⟨(addT_lo (by omega) (by omega)).symm, (addT_lo (by omega) (by omega)).symm, (addT_lo (by omega) (by omega)).symm⟩⟩
theorem RR_T {x m : Mem} {A : Abs} (hA : okA A) (hT : TX x 1 A) (hP : PM m A) (hG : GM m 0 A) (hO : RO x m A) {h p q : Nat} (h0 : A 0 2 < 10) (h1 : h < 12) (h2 : p < A 0 0) (h3 : q < A 0 0) (h4 : p ≠ q) : RR (xT x (A 0 2) h p q) (mT m (A 0 2) h p q) := (RR_iff _ _).mpr ⟨addT A h p q, okA_add hA h0 h1 h2 h3 h4, TX_add hT, PM_add hP, GM_add hA hG h0, RO_keep hO keepX_T (keepM_T h0) likeA_T⟩
theorem sim_speak : S_speak RR := fun x m h a b c => by
  obtain ⟨A, hA, hT, hP, hG, hO⟩ := (RR_iff x m).mp h
  unfold fn7_speak fn8_speak
  rcases talk_step hA hT hP hG a b c with ⟨r, -, e1, e2⟩ | ⟨h', p, q, h1, h2, h3, h4, h0, e1, e2⟩
  · rw [e1, e2]
    exact ⟨r, x, m, rfl, rfl, h⟩
  · rw [e1, e2]
    exact ⟨_, _, _, rfl, rfl, RR_T hA hT hP hG hO h0 h1 h2 h3 h4⟩
