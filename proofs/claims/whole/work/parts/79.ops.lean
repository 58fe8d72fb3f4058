/-! false coins -/
def bcv (x0 : Int32) : Int32 :=
  let a : Int32 := (x0 - (((x0.toUInt32 >>> ((1 : Int32).toUInt32 &&& Int32.toUInt32 31)).toInt32) &&& 1431655765))
  let b : Int32 := (a &&& 858993459) + (((a.toUInt32 >>> ((2 : Int32).toUInt32 &&& Int32.toUInt32 31)).toInt32) &&& 858993459)
  let c : Int32 := (b + ((b.toUInt32 >>> ((4 : Int32).toUInt32 &&& Int32.toUInt32 31)).toInt32)) &&& 252645135
  let d : Int32 := c + (c.toUInt32 >>> ((8 : Int32).toUInt32 &&& Int32.toUInt32 31)).toInt32
  (d + ((d.toUInt32 >>> ((16 : Int32).toUInt32 &&& Int32.toUInt32 31)).toInt32)) &&& 63
theorem x_bitCount (x0 : Int32) (w : Mem) : fn6_bitCount_0f7a4 x0 w = some (bcv x0, w) := by
  unfold fn6_bitCount_0f7a4 fn6_bitCount_0f7a4_23 fn6_bitCount_0f7a4_40 bcv
  rfl
def bc (s n : Nat) : Nat := sumF (fun c => if s.testBit c = true then 1 else 0) n
theorem bc_n : ∀ s, s < 64 → bcv (nI s) = nI (bc s 6) := by decide
theorem bc_up {s n : Nat} (h : s < 2 ^ n) : ∀ d, bc s (n + d) = bc s n := by
  intro d
  induction d with
  | zero => rfl
  | succ d ih =>
    have : s.testBit (n + d) = false := Nat.testBit_lt_two_pow (Nat.lt_of_lt_of_le h (Nat.pow_le_pow_right (by omega) (by omega)))
    rw [← Nat.add_assoc, bc, sumF, this]
    exact ih
theorem bc6 {s n : Nat} (hn : n ≤ 6) (h : s < 2 ^ n) : bc s 6 = bc s n := by
  have := bc_up h (6 - n)
  rw [show n + (6 - n) = 6 by omega] at this
  exact this
theorem bc_le (s : Nat) : ∀ n, bc s n ≤ n := by
  intro n
  induction n with
  | zero => simp [bc, sumF]
  | succ n ih =>
    rw [bc, sumF]
    have : sumF (fun c => if s.testBit c = true then 1 else 0) n ≤ n := ih
    split <;> omega
def asT (f g : Nat → Nat) (s i : Nat) : Bool := decide ((if nI s &&& nI (f i) = 0 then 0 else 1) = g i)
def fitS (nc n : Nat) (f g : Nat → Nat) (k s : Nat) : Bool := decide (bc s nc = k) && allB (asT f g s) n 0
def hasT (x : Mem) (n : Nat) (f g : Nat → Nat) : Prop := n ≤ 8 ∧ x 64 0 = nI n ∧ ∀ i, i < n → g i ≤ 1 ∧ x 66 i = nI (f i) ∧ x 67 i = nI (g i)
def hasTM (m : Mem) (n : Nat) (f g : Nat → Nat) : Prop := n ≤ 8 ∧ m 0 31 = nI n ∧ ∀ i, i < n → g i ≤ 1 ∧ m 14 (2 * i) = nI (f i) ∧ m 14 (2 * i + 1) = nI (g i)
theorem x_testedL {x : Mem} {n s : Nat} {f g : Nat → Nat} (hx : hasT x n f g) : ∀ d c fu, c + d = n → d < fu → fn1_isAsTested_2 (nI s) (fun _ w => some (1, w)) fu (nI c) x = some (bI (allB (asT f g s) d c), x) := by
  obtain ⟨hn, h0, hk⟩ := hx
  intro d
  induction d with
  | zero =>
    intro c fu hc hf
    obtain ⟨fu, rfl⟩ : ∃ q, fu = q + 1 := ⟨fu - 1, by omega⟩
    have e : c = n := by omega
    rw [fn1_isAsTested_2, h0, e, if_pos (nI_le (by omega) (by omega))]
    rfl
  | succ d ih =>
    intro c fu hc hf
    obtain ⟨fu, rfl⟩ : ∃ q, fu = q + 1 := ⟨fu - 1, by omega⟩
    have key := ih (c + 1) fu (by omega) (by omega)
    obtain ⟨k2, k3, k4⟩ := hk c (by omega)
    have hib : ib (nI c) 8 = true := ib_y (by omega) (by omega)
    rw [fn1_isAsTested_2, h0, if_neg (nI_ge (by omega) (by omega)), if_pos hib, cl_n (by omega), k3]
    simp only [fn1_isAsTested_26, if_pos hib]
    rw [cl_n (by omega), k4, show nI c + 1 = nI (c + 1) from nI_add c 1, allB, asT]
    by_cases e0 : nI s &&& nI (f c) = 0
    · rw [if_pos e0, if_pos e0]
      by_cases e : 0 = g c
      · rw [if_pos (show (0 : Int32) = nI (g c) by rw [← e]; rfl), decide_eq_true e, Bool.true_and]
        exact key
      · rw [if_neg (show ¬ (0 : Int32) = nI (g c) by rw [show (0 : Int32) = nI 0 from rfl, eq_n (by omega) (by omega)]; exact e), decide_eq_false e, Bool.false_and]
        rfl
    · rw [if_neg e0, if_neg e0]
      by_cases e : 1 = g c
      · rw [if_pos (show (1 : Int32) = nI (g c) by rw [← e]; rfl), decide_eq_true e, Bool.true_and]
        exact key
      · rw [if_neg (show ¬ (1 : Int32) = nI (g c) by rw [show (1 : Int32) = nI 1 from rfl, eq_n (by omega) (by omega)]; exact e), decide_eq_false e, Bool.false_and]
        rfl
theorem m_testedL {m : Mem} {n s : Nat} {f g : Nat → Nat} (hm : hasTM m n f g) {k : Int32 → Int32 → Mem → Option (Int32 × Mem)} : ∀ d c fu b, c + d = n → d < fu → fn8_canBeFalse_44 (nI s) k fu (bI b) (nI c) m = k (bI (b && allB (asT f g s) d c)) (nI n) m := by
  obtain ⟨hn, h0, hk⟩ := hm
  intro d
  induction d with
  | zero =>
    intro c fu b hc hf
    obtain ⟨fu, rfl⟩ : ∃ q, fu = q + 1 := ⟨fu - 1, by omega⟩
    have e : c = n := by omega
    rw [fn8_canBeFalse_44, h0, e, if_pos (nI_le (by omega) (by omega)), allB, Bool.and_true]
  | succ d ih =>
    intro c fu b hc hf
    obtain ⟨fu, rfl⟩ : ∃ q, fu = q + 1 := ⟨fu - 1, by omega⟩
    obtain ⟨k2, k3, k4⟩ := hk c (by omega)
    have hib : ib (nI (2 * c)) 16 = true := ib_y (by omega) (by omega)
    have hib2 : ib (nI (2 * c + 1)) 16 = true := ib_y (by omega) (by omega)
    rw [fn8_canBeFalse_44, h0, if_neg (nI_ge (by omega) (by omega))]
    simp only [fn8_canBeFalse_77, fn8_canBeFalse_97]
    rw [show nI c + 1 = nI (c + 1) from nI_add c 1, e20, show nI (2 * c) + 1 = nI (2 * c + 1) from nI_add _ 1]
    simp only [if_pos hib, if_pos hib2]
    rw [cl_n (by omega), cl_n (by omega), k3, k4]
    have kt := ih (c + 1) fu true (by omega) (by omega)
    have kf := ih (c + 1) fu false (by omega) (by omega)
    cases b
    · rw [if_pos bI_f]
      rw [Bool.false_and] at kf ⊢
      exact kf
    · rw [if_neg (by rw [bI_t]; exact n10), Bool.true_and, allB, asT]
      have g01 : g c = 0 ∨ g c = 1 := by omega
      by_cases e0 : nI s &&& nI (f c) = 0
      · rw [if_pos e0, if_pos e0]
        rcases g01 with e | e
        · rw [e, if_pos (show ¬ nI 0 = 1 by decide), if_neg (show ¬ ¬ True from fun z => z trivial)]
          exact kt
        · rw [e, if_neg (show ¬ ¬ nI 1 = 1 from fun z => z rfl), if_pos (show ¬ (0 : Int32) = 1 by decide)]
          exact kf
      · rw [if_neg e0, if_neg e0]
        rcases g01 with e | e
        · rw [e, if_pos (show ¬ nI 0 = 1 by decide), if_pos (show ¬ (1 : Int32) = 0 by decide)]
          exact kf
        · rw [e, if_neg (show ¬ ¬ nI 1 = 1 from fun z => z rfl), if_neg (show ¬ ¬ True from fun z => z trivial)]
          exact kt
theorem m_bcL {m : Mem} {nc s : Nat} (h3 : m 0 3 = nI nc) (hnc : nc ≤ 6) (hs : s < 1048576) {u : Int32} {k : Int32 → Int32 → Mem → Option (Int32 × Mem)} : ∀ d c fu, c + d = nc → d < fu → fn8_canBeFalse_5 (nI s) u k fu (nI (bc s c)) (nI c) m = k (nI (bc s nc)) (nI nc) m := by
  intro d
  induction d with
  | zero =>
    intro c fu hc hf
    obtain ⟨fu, rfl⟩ : ∃ q, fu = q + 1 := ⟨fu - 1, by omega⟩
    have e : c = nc := by omega
    rw [fn8_canBeFalse_5, h3, e, if_pos (nI_le (by omega) (by omega))]
  | succ d ih =>
    intro c fu hc hf
    obtain ⟨fu, rfl⟩ : ∃ q, fu = q + 1 := ⟨fu - 1, by omega⟩
    have key := ih (c + 1) fu (by omega) (by omega)
    rw [fn8_canBeFalse_5, h3, if_neg (nI_ge (by omega) (by omega)), bit_n hs (by omega), bI_nI, nI_add, show nI c + 1 = nI (c + 1) from nI_add c 1]
    exact key
theorem m_canBe {m : Mem} {nc n s k : Nat} {f g : Nat → Nat} (h3 : m 0 3 = nI nc) (hnc : nc ≤ 6) (hs : s < 1048576) (hk : k < 100) (hm : hasTM m n f g) : fn8_canBeFalse (nI s) (nI k) m = some (bI (fitS nc n f g k s), m) := by
  have hb := bc_le s nc
  have hn := hm.1
  unfold fn8_canBeFalse
  refine (m_bcL h3 hnc hs nc 0 1000 (by omega) (by omega)).trans ?_
  unfold fn8_canBeFalse_39 fitS
  have kt := m_testedL (s := s) hm (k := fun x4_44 x5_44 w_44 => (if isb x4_44 = true then some (x4_44, w_44) else none)) n 0 1000 true (by omega) (by omega)
  have kf := m_testedL (s := s) hm (k := fun x4_44 x5_44 w_44 => (if isb x4_44 = true then some (x4_44, w_44) else none)) n 0 1000 false (by omega) (by omega)
  rw [if_pos (isb_b _)] at kt kf
  by_cases e : bc s nc = k
  · rw [if_neg (show ¬ ¬ nI (bc s nc) = nI k by rw [e]; exact fun z => z rfl), decide_eq_true e]
    exact kt
  · rw [if_pos (show ¬ nI (bc s nc) = nI k by rw [eq_n (by omega) (by omega)]; exact e), decide_eq_false e]
    exact kf
theorem cntS_le' (s : Nat → Bool) : ∀ n, cntS s n ≤ n := by
  intro n
  induction n with
  | zero => simp [cntS]
  | succ n ih =>
    rw [cntS]
    split <;> omega
theorem x_findL {x : Mem} {nc n k : Nat} {f g : Nat → Nat} (hnc : nc ≤ 6) (hk : k < 100) (hx : hasT x n f g) {kk : Int32 → Mem → Option (Int32 × Mem)} : ∀ d c fu w, c + d = 2 ^ nc → d < fu → (∀ j, j ≠ 64 → j ≠ 65 → w j = x j) → w 64 0 = x 64 0 → w 64 1 = nI (cntS (fitS nc n f g k) c) → (∀ s, s < c → fitS nc n f g k s = true → w 65 (cntS (fitS nc n f g k) s) = nI s) → ∃ w', (∀ j, j ≠ 64 → j ≠ 65 → w' j = x j) ∧ w' 64 0 = x 64 0 ∧ w' 64 1 = nI (cntS (fitS nc n f g k) (2 ^ nc)) ∧ (∀ s, s < 2 ^ nc → fitS nc n f g k s = true → w' 65 (cntS (fitS nc n f g k) s) = nI s) ∧ fn1_findSets_7 (nI k) (nI nc) kk fu (nI c) w = kk (nI (2 ^ nc)) w' := by
  have hpw := pow_le6 hnc
  intro d
  induction d with
  | zero =>
    intro c fu w hc hf hw hw0 hw1 hw2
    obtain ⟨fu, rfl⟩ : ∃ q, fu = q + 1 := ⟨fu - 1, by omega⟩
    have e : c = 2 ^ nc := by omega
    subst e
    refine ⟨w, hw, hw0, hw1, hw2, ?_⟩
    rw [fn1_findSets_7]
    unfold fn7_allOf
    simp only [bp]
    rw [all_n nc (by omega), if_pos (nI_lt (by omega) (by omega))]
  | succ d ih =>
    intro c fu w hc hf hw hw0 hw1 hw2
    obtain ⟨fu, rfl⟩ : ∃ q, fu = q + 1 := ⟨fu - 1, by omega⟩
    have hb := bc_le c nc
    have hcl := cntS_le' (fitS nc n f g k) c
    have hx' : hasT w n f g := ⟨hx.1, hw0.trans hx.2.1, fun i hi => by rw [hw 66 (by omega) (by omega), hw 67 (by omega) (by omega)]; exact hx.2.2 i hi⟩
    have hn := hx.1
    have et : fn1_isAsTested (nI c) w = some (bI (allB (asT f g c) n 0), w) := x_testedL hx' n 0 1000 (by omega) (by omega)
    have same : fitS nc n f g k c = false → ∃ w', (∀ j, j ≠ 64 → j ≠ 65 → w' j = x j) ∧ w' 64 0 = x 64 0 ∧ w' 64 1 = nI (cntS (fitS nc n f g k) (2 ^ nc)) ∧ (∀ s, s < 2 ^ nc → fitS nc n f g k s = true → w' 65 (cntS (fitS nc n f g k) s) = nI s) ∧ fn1_findSets_7 (nI k) (nI nc) kk fu (nI (c + 1)) w = kk (nI (2 ^ nc)) w' := by
      intro ef
      refine ih (c + 1) fu w (by omega) (by omega) hw hw0 (by rw [cntS, ef]; exact hw1) (fun s hs hfit => ?_)
      by_cases es : s = c
      · subst es
        rw [ef] at hfit
        exact absurd hfit (by simp)
      · exact hw2 s (by omega) hfit
    rw [fn1_findSets_7]
    unfold fn7_allOf
    simp only [bp]
    rw [all_n nc (by omega), if_neg (nI_nlt (by omega) (by omega)), if_neg (show ¬ (64 : Int32) ≤ nI c from nI_ge (b := 64) (by omega) (by omega)), x_bitCount, bc_n c (by omega), bc6 hnc (by omega), show nI c + 1 = nI (c + 1) from nI_add c 1]
    simp only [bp]
    rw [et]
    simp only [bp]
    by_cases e : bc c nc = k
    · rw [if_neg (show ¬ ¬ nI (bc c nc) = nI k by rw [e]; exact fun z => z rfl)]
      cases ea : allB (asT f g c) n 0
      · rw [if_pos bI_f]
        exact same (by rw [fitS, ea, Bool.and_false])
      · have ef : fitS nc n f g k c = true := by rw [fitS, ea, decide_eq_true e]; rfl
        rw [if_neg (by rw [bI_t]; exact n10), hw1, if_pos (ib_y (by omega) (by omega)), cl_n (by omega), up2_cell (k' := 64) (by omega), hw1, show nI (cntS (fitS nc n f g k) c) + 1 = nI (cntS (fitS nc n f g k) (c + 1)) by rw [cntS, if_pos ef]; exact nI_add _ 1]
        refine ih (c + 1) fu _ (by omega) (by omega) (fun j h1 h2 => by rw [up2_cell h1, up2_cell h2, hw j h1 h2]) (by rw [up2_place (by omega), up2_cell (by omega)]; exact hw0) up2_same (fun s hs hfit => ?_)
        rw [up2_cell (by omega)]
        by_cases es : s = c
        · subst es
          exact up2_same
        · have hmono : cntS (fitS nc n f g k) s < cntS (fitS nc n f g k) c := by
            have : ∀ t, s < t → cntS (fitS nc n f g k) s < cntS (fitS nc n f g k) t := by
              intro t
              induction t with
              | zero => intro h; omega
              | succ t iht =>
                intro h
                rw [cntS]
                by_cases et : s = t
                · subst et
                  rw [if_pos hfit]
                  omega
                · have := iht (by omega)
                  omega
            exact this c (by omega)
          rw [up2_place (by omega)]
          exact hw2 s (by omega) hfit
    · rw [if_pos (show ¬ nI (bc c nc) = nI k by rw [eq_n (by omega) (by omega)]; exact e)]
      exact same (by rw [fitS, decide_eq_false e, Bool.false_and])
theorem x_find {x : Mem} {nc n k : Nat} {f g : Nat → Nat} (hnc : nc ≤ 6) (hk : k < 100) (hx : hasT x n f g) : ∃ w', (∀ j, j ≠ 64 → j ≠ 65 → w' j = x j) ∧ w' 64 0 = x 64 0 ∧ w' 64 1 = nI (cntS (fitS nc n f g k) (2 ^ nc)) ∧ (∀ s, s < 2 ^ nc → fitS nc n f g k s = true → w' 65 (cntS (fitS nc n f g k) s) = nI s) ∧ fn1_findSets (nI k) (nI nc) x = some (0, w') := by
  have hpw := pow_le6 hnc
  have hx' : hasT (up2 x 64 1 0) n f g := ⟨hx.1, by rw [up2_place (by omega)]; exact hx.2.1, fun i hi => by rw [up2_cell (k' := 66) (by omega), up2_cell (k' := 67) (by omega)]; exact hx.2.2 i hi⟩
  obtain ⟨w', r1, r2, r3⟩ := x_findL hnc hk hx' (kk := fun x3_7 w_7 => some (0, w_7)) (2 ^ nc) 0 1000 (up2 x 64 1 0) (by omega) (by omega) (fun _ _ _ => rfl) rfl up2_same (fun s hs => by omega)
  exact ⟨w', fun j h1 h2 => by rw [r1 j h1 h2, up2_cell h1], by rw [r2, up2_place (by omega)], r3⟩
def foldI {β : Type} (st : β → Int32 → β) (b0 : β) (e : Nat → Int32) : Nat → β
  | 0 => b0
  | i + 1 => st (foldI st b0 e i) (e i)
def foldS {β : Type} (st : β → Int32 → β) (b0 : β) (fit : Nat → Bool) : Nat → β
  | 0 => b0
  | s + 1 => if fit s = true then st (foldS st b0 fit s) (nI s) else foldS st b0 fit s
theorem fold_eq {β : Type} {st : β → Int32 → β} {b0 : β} {e : Nat → Int32} {fit : Nat → Bool} {T : Nat} (he : ∀ s, s < T → fit s = true → e (cntS fit s) = nI s) : ∀ c, c ≤ T → foldI st b0 e (cntS fit c) = foldS st b0 fit c := by
  intro c
  induction c with
  | zero => intro _; rfl
  | succ c ih =>
    intro hc
    rw [cntS, foldS]
    cases ef : fit c
    · simp only [Bool.false_eq_true, if_false]
      exact ih (by omega)
    · simp only [if_true]
      rw [foldI, ih (by omega), he c (by omega) ef]
