/-! funeral: the class's way -/
def gv (j : Nat) : Int32 := if j = 0 then -4 else nI (j - 1)
def ned (A : Abs) (S n c P p : Nat) : Int32 := if S.testBit p = true then nI n - nI (gotP A p c P) else 0
def XI (x w : Mem) (A : Abs) (S n c P : Nat) (st : Nat × Nat) : Prop := (∀ k, k < 60 ∨ 63 < k → w k = x k) ∧ (∀ p, p < 6 → w 63 p = ned A S n c P p) ∧ (∀ i, i < c → w 62 i = gv (digP c P i)) ∧ w 60 0 = nI st.1 ∧ (st.1 < BIG → ∀ i, i < A 0 1 → w 61 i = gv (digP (A 0 1) st.2 i))
theorem ned_le {A : Abs} (hA : okA A) {S n c P p : Nat} (hn : n ≤ 12) (hc : c ≤ A 0 1) : (ned A S n c P p ≤ 0) = (ndy A S n c P p = false) := by
  have hnc := hA.2.1
  have hg := gotP_le (p := p) hA c P hc
  unfold ned ndy
  cases eb : S.testBit p
  · simp
  · rw [if_pos rfl, Bool.true_and]
    apply propext
    rw [Int32.le_iff_toInt_le, pk_sub_toInt (by omega) (by omega), show (0 : Int32).toInt = 0 by decide, decide_eq_false_iff_not]
    omega
theorem x_needyL {x : Mem} {A : Abs} (hA : okA A) (hT : TX x 1 A) {S n c P : Nat} (hn : n ≤ 12) (hc : c ≤ A 0 1) (hd : ∀ p, p < 6 → x 63 p = ned A S n c P p) {k : Int32 → Int32 → Mem → Option (Int32 × Mem)} : ∀ d p f, p + d = A 0 0 → d < f → fn0_needyOnes_4 k f (nI (cntS (ndy A S n c P) p)) (nI p) x = k (nI (ndN A S n c P)) (nI (A 0 0)) x := by
  have hnp := hA.1
  intro d
  induction d with
  | zero =>
    intro p f hp hf
    obtain ⟨f, rfl⟩ : ∃ g, f = g + 1 := ⟨f - 1, by omega⟩
    have e : p = A 0 0 := by omega
    rw [fn0_needyOnes_4, hT.1, e, if_pos (nI_le (by omega) (by omega))]
    rfl
  | succ d ih =>
    intro p f hp hf
    obtain ⟨f, rfl⟩ : ∃ g, f = g + 1 := ⟨f - 1, by omega⟩
    have key := ih (p + 1) f (by omega) (by omega)
    rw [cntS] at key
    rw [fn0_needyOnes_4, hT.1, if_neg (nI_ge (by omega) (by omega)), if_pos (ib_y (by omega) (by omega)), cl_n (by omega), hd p (by omega)]
    unfold fn0_needyOnes_30 fn7_oneIf
    simp only [ned_le hA hn hc]
    rw [show nI p + 1 = nI (p + 1) from nI_add p 1]
    cases e : ndy A S n c P p
    · rw [e, if_neg (by simp), Nat.add_zero] at key
      rw [if_pos rfl, if_pos trivial]
      simp only [bp]
      rw [show ∀ a : Nat, nI a + 0 = nI a from fun a => nI_add a 0]
      exact key
    · rw [e, if_pos rfl] at key
      rw [if_neg (by simp), if_neg n10]
      simp only [bp]
      rw [show ∀ a : Nat, nI a + 1 = nI (a + 1) from fun a => nI_add a 1]
      exact key
theorem x_needy {x : Mem} {A : Abs} (hA : okA A) (hT : TX x 1 A) {S n c P : Nat} (hn : n ≤ 12) (hc : c ≤ A 0 1) (hd : ∀ p, p < 6 → x 63 p = ned A S n c P p) : fn0_needyOnes x = some (nI (ndN A S n c P), x) := by
  have hnp := hA.1
  exact x_needyL hA hT hn hc hd (k := fun x1_4 x2_4 w_4 => some (x1_4, w_4)) (A 0 0) 0 1000 (by omega) (by omega)
theorem x_bestL {c : Nat} (hc : c ≤ 6) {k : Int32 → Mem → Option (Int32 × Mem)} : ∀ d i f w, i + d = 6 → d < f → ∃ w', (∀ j, j ≠ 61 → w' j = w j) ∧ (∀ j, j < i → w' 61 j = w 61 j) ∧ (∀ j, i ≤ j → j < 6 → w' 61 j = if c ≤ j then -4 else w 62 j) ∧ fn0_takeAsBest_7 (nI c) k f (nI i) w = k (nI 6) w' := by
  intro d
  induction d with
  | zero =>
    intro i f w hi hf
    obtain ⟨f, rfl⟩ : ∃ g, f = g + 1 := ⟨f - 1, by omega⟩
    have e : i = 6 := by omega
    subst e
    exact ⟨w, fun _ _ => rfl, fun _ _ => rfl, fun i h1 h2 => by omega, by rw [fn0_takeAsBest_7, if_pos (by decide)]⟩
  | succ d ih =>
    intro i f w hi hf
    obtain ⟨f, rfl⟩ : ∃ g, f = g + 1 := ⟨f - 1, by omega⟩
    have hib : ib (nI i) 6 = true := ib_y (by omega) (by omega)
    obtain ⟨w', r1, r2, r3, r4⟩ := ih (i + 1) f (up2 w 61 i (if c ≤ i then -4 else w 62 i)) (by omega) (by omega)
    refine ⟨w', fun j hj => by rw [r1 j hj, up2_cell hj], fun j hj => by rw [r2 j (by omega), up2_place (by omega)], fun j h1 h2 => ?_, ?_⟩
    · by_cases e : j = i
      · subst e
        rw [r2 j (by omega), up2_same]
      · rw [r3 j (by omega) h2, up2_cell (by omega)]
    · rw [fn0_takeAsBest_7, if_neg (show ¬ (6 : Int32) ≤ nI i from nI_ge (b := 6) (by omega) (by omega))]
      unfold fn0_takeAsBest_34
      rw [if_pos hib, if_pos hib, cl_n (by omega), show nI i + 1 = nI (i + 1) from nI_add i 1, if_pos hib]
      by_cases e : c ≤ i
      · rw [if_pos (nI_le e (by omega))]
        rw [if_pos e] at r4
        exact r4
      · rw [if_neg (nI_ge (by omega) (by omega))]
        rw [if_neg e] at r4
        exact r4
theorem x_best {c K : Nat} {w : Mem} (hc : c ≤ 6) : ∃ w', (∀ j, j ≠ 60 → j ≠ 61 → w' j = w j) ∧ w' 60 0 = nI K ∧ (∀ j, j < 6 → w' 61 j = if c ≤ j then -4 else w 62 j) ∧ fn0_takeAsBest (nI c) (nI K) w = some (0, w') := by
  obtain ⟨w', r1, r2, r3, r4⟩ := x_bestL hc (k := fun x3_7 w_7 => some (0, w_7)) 6 0 1000 (up2 w 60 0 (nI K)) (by omega) (by omega)
  refine ⟨w', fun j h1 h2 => by rw [r1 j h2, up2_cell h1], by rw [r1 60 (by omega), up2_same], fun j hj => by rw [r3 j (by omega) hj, up2_cell (by omega)], r4⟩
theorem XI_TX {x w : Mem} {A : Abs} {S n c P : Nat} {st : Nat × Nat} (hT : TX x 1 A) (h : XI x w A S n c P st) : TX w 1 A := TX_keep hT (fun i hi => h.1 _ (by omega))
theorem dig_c {c P j : Nat} (hj : j < 7) : (∀ i, i < c → digP (c + 1) (7 * P + j) i = digP c P i) ∧ digP (c + 1) (7 * P + j) c = j := by
  have d1 : (7 * P + j) / 7 = P := by omega
  have d2 : (7 * P + j) % 7 = j := by omega
  refine ⟨fun i hi => ?_, ?_⟩
  · rw [digP, d1, if_neg (by omega)]
  · rw [digP, d2, if_pos rfl]
theorem got_c {A : Abs} {c P j q : Nat} (hj : j < 7) : gotP A q (c + 1) (7 * P + j) = gotP A q c P + (if j = q + 1 then lenA A c q else 0) := by
  have d1 : (7 * P + j) / 7 = P := by omega
  have d2 : (7 * P + j) % 7 = j := by omega
  rw [gotP, d1, d2]
theorem sub_back (a b c : Int32) : a - (b + c) + c = a - b := by
  rw [Int32.sub_eq_add_neg, Int32.neg_add, Int32.sub_eq_add_neg, Int32.add_assoc, Int32.add_assoc, Int32.add_left_neg, Int32.add_zero]
  exact (Int32.sub_eq_add_neg a b).symm
theorem sub_more (a b c : Int32) : a - b - c = a - (b + c) := by
  rw [Int32.sub_eq_add_neg, Int32.sub_eq_add_neg, Int32.sub_eq_add_neg, Int32.neg_add, Int32.add_assoc, Int32.sub_eq_add_neg (-b) c]
/-- a node where no further coin is looked at -/
theorem x_leaf {x w : Mem} {A : Abs} (hA : okA A) {S n c d P : Nat} {st : Nat × Nat} (hd : c + d = A 0 1) (ha : alwP A S c P = true) (hI : XI x w A S n c P st) (hst : st.1 ≤ BIG) : (st.1 ≤ cstP A c P → FL (Lw A S n) (P * 7 ^ d) (7 ^ d) st = st) ∧ (cstP A c P < st.1 → ndN A S n c P = 0 → FL (Lw A S n) (P * 7 ^ d) (7 ^ d) st = (cstP A c P, P * 7 ^ d)) ∧ (d < ndN A S n c P → FL (Lw A S n) (P * 7 ^ d) (7 ^ d) st = st) := by
  refine ⟨fun h => FL_same _ (fun W h1 h2 => ?_), fun h1 h2 => FL_take (Nat.pow_pos (by omega)) ?_ h1 (fun W g1 g2 => ?_), fun h => FL_same _ (fun W h1 h2 => ?_)⟩
  · have := Lw_cost hA (S := S) (n := n) (W := W) hd
    rw [in_node h1 h2] at this
    omega
  · obtain ⟨z1, z2, z3, -⟩ := zsuf (A := A) (S := S) (c := c) (P := P) d
    rw [hd] at z1 z2 z3
    have z4 : ndN A S n (A 0 1) (P * 7 ^ d) = ndN A S n c P := by
      unfold ndN
      congr 1
      funext p
      unfold ndy
      rw [z2]
    unfold Lw
    rw [z1, z3, z4, if_pos ⟨ha, h2⟩]
  · have := Lw_cost hA (S := S) (n := n) (W := W) hd
    rw [in_node g1 g2] at this
    exact this
  · rw [Lw_needy hd (by rw [in_node h1 h2]; exact h)]
    exact hst
theorem lo_eq (P d j : Nat) : P * 7 ^ (d + 1) + j * 7 ^ d = (7 * P + j) * 7 ^ d := by
  rw [Nat.pow_succ, Nat.add_mul, Nat.mul_comm (7 ^ d) 7, ← Nat.mul_assoc, Nat.mul_comm P 7]
theorem lo_0 (P d : Nat) : P * 7 ^ (d + 1) = 7 * P * 7 ^ d := by
  have h := lo_eq P d 0
  rw [Nat.zero_mul, Nat.add_zero] at h
  exact h
theorem alw_c {A : Abs} {S c Q P : Nat} (h : Q / 7 = P) : alwP A S (c + 1) Q = (alwP A S c P && alw1 A S c (Q % 7)) := by
  rw [alwP, h]
/-- the kids from p on, none of them allowed -/
theorem kids_no {A : Abs} {S n c d P p : Nat} {st : Nat × Nat} (hd : c + 1 + d = A 0 1) (hp : p ≤ 6) (hst : st.1 ≤ BIG) (h : ∀ j, p < j → j < 7 → alw1 A S c j = false) : FL (Lw A S n) (P * 7 ^ (d + 1)) (7 ^ (d + 1)) st = FL (Lw A S n) (P * 7 ^ (d + 1)) ((p + 1) * 7 ^ d) st := by
  have e7 : 7 ^ (d + 1) = (p + 1) * 7 ^ d + (6 - p) * 7 ^ d := by
    rw [← Nat.add_mul, Nat.pow_succ, Nat.mul_comm, show p + 1 + (6 - p) = 7 by omega]
  have hk : ∀ k, FL (Lw A S n) (P * 7 ^ (d + 1)) k st = FL (Lw A S n) (P * 7 ^ (d + 1)) k st := fun _ => rfl
  have e8 : P * 7 ^ (d + 1) + 7 ^ (d + 1) = (7 * P + 7) * 7 ^ d := by
    rw [← lo_eq, Nat.pow_succ, Nat.mul_comm (7 ^ d) 7]
  have key : FL (Lw A S n) (P * 7 ^ (d + 1)) ((p + 1) * 7 ^ d + (6 - p) * 7 ^ d) st = FL (Lw A S n) (P * 7 ^ (d + 1)) ((p + 1) * 7 ^ d) st := by
    rw [FL_add]
    refine FL_same _ (fun W h1 h2 => ?_)
    have hle := (FL_le (L := Lw A S n) (lo := P * 7 ^ (d + 1)) (st := st) ((p + 1) * 7 ^ d)).1
    rw [lo_eq] at h1
    rw [Nat.add_assoc, ← e7, e8] at h2
    have q1 : 7 * P + (p + 1) ≤ W / 7 ^ d := (Nat.le_div_iff_mul_le (Nat.pow_pos (by omega))).mpr h1
    have q2 : W / 7 ^ d < 7 * P + 7 := (Nat.div_lt_iff_lt_mul (Nat.pow_pos (by omega))).mpr h2
    have q3 : alwP A S (c + 1) (W / 7 ^ d) = false := by
      rw [alw_c (P := P) (by omega), h _ (by omega) (by omega), Bool.and_false]
    rw [Lw_not hd q3]
    omega
  rw [← e7] at key
  exact key
theorem kid_no {A : Abs} (hA : okA A) {S n c d P p : Nat} {st : Nat × Nat} (hd : c + 1 + d = A 0 1) (hp : p < 6) (hst : st.1 ≤ BIG) (h : ndy A S n c P p = false) : FL (Lw A S n) (P * 7 ^ (d + 1)) ((p + 1 + 1) * 7 ^ d) st = FL (Lw A S n) (P * 7 ^ (d + 1)) ((p + 1) * 7 ^ d) st := by
  rw [show (p + 1 + 1) * 7 ^ d = (p + 1) * 7 ^ d + 7 ^ d from Nat.succ_mul _ _, FL_add]
  refine FL_same _ (fun W h1 h2 => ?_)
  obtain ⟨f1, f2⟩ := FL_le (L := Lw A S n) (lo := P * 7 ^ (d + 1)) (st := st) ((p + 1) * 7 ^ d)
  rw [lo_eq] at h1 h2
  have hW := in_node h1 h2
  rw [ndy] at h
  cases eb : S.testBit p
  · have q3 : alwP A S (c + 1) (W / 7 ^ d) = false := by
      rw [hW, alw_c (P := P) (by omega), show (7 * P + (p + 1)) % 7 = p + 1 by omega]
      simp [alw1, eb]
    rw [Lw_not hd q3]
    omega
  · rw [eb, Bool.true_and, decide_eq_false_iff_not] at h
    obtain ⟨W', g1, g2⟩ := Lw_enough hA (S := S) (n := n) hd hp hW (by omega)
    refine Nat.le_trans (f2 W' ?_ ?_) g2
    · have := Nat.div_mul_le_self W' (7 ^ d)
      rw [g1] at this
      have h0 := lo_0 P d
      omega
    · have := Nat.lt_div_mul_add (a := W') (b := 7 ^ d) (Nat.pow_pos (by omega))
      rw [g1] at this
      have h0 := lo_0 P d
      have h9 : 1 * 7 ^ d ≤ (p + 1) * 7 ^ d := Nat.mul_le_mul_right _ (by omega)
      omega
theorem x_costTo {x : Mem} {A : Abs} (hA : okA A) (hT : TX x 1 A) {c p : Nat} (hc : c < A 0 1) (hp : p < A 0 0) : fn0_costTo (nI c) (nI p) x = some (nI (cst A c (p + 1)), x) := by
  have hnc := hA.2.1
  have hnp := hA.1
  have ho := (hA.2.2.2.2.2.2.1 c hc).2.2.1
  obtain ⟨t1, t2, -, -⟩ := TX_get hT hc
  have hib : ib (nI c) 6 = true := ib_y (by omega) (by omega)
  unfold fn0_costTo
  rw [if_pos hib, if_pos hib, if_pos hib, cl_n (by omega), t1, t2, hT.2.2.2.2.1, cst, if_neg (show ¬ p + 1 = 0 by omega), show p + 1 - 1 = p by omega]
  by_cases e : A 5 c = p
  · rw [if_neg (show ¬ ¬ nI (A 5 c) = nI p by rw [e]; exact fun z => z rfl), if_pos e]
    rfl
  · rw [if_pos (show ¬ nI (A 5 c) = nI p by rw [eq_n (by omega) (by omega)]; exact e), if_neg e, nI_add]
theorem x_kidsL {x : Mem} {A : Abs} (hA : okA A) (hT : TX x 1 A) {S n c d P f : Nat} {st : Nat × Nat} (hS : S < 2 ^ A 0 0) (hn : n ≤ 12) (hd : c + 1 + d = A 0 1) (ha : alwP A S c P = true) (hst : st.1 ≤ BIG) (H : ∀ Q w st, alwP A S (c + 1) Q = true → XI x w A S n (c + 1) Q st → st.1 ≤ BIG → ∃ r w', fn0_giveFrom f (nI (c + 1)) (nI (cstP A (c + 1) Q)) w = some (r, w') ∧ XI x w' A S n (c + 1) Q (FL (Lw A S n) (Q * 7 ^ d) (7 ^ d) st)) : ∀ e p fu w, p + e = A 0 0 → e < fu → XI x w A S n c P (FL (Lw A S n) (P * 7 ^ (d + 1)) ((p + 1) * 7 ^ d) st) → ∃ w', fn0_giveFrom_64 (fn0_giveFrom f) (nI c) (nI (cstP A c P)) (fun x4_64 w_64 => some (0, w_64)) fu (nI p) w = some (0, w') ∧ XI x w' A S n c P (FL (Lw A S n) (P * 7 ^ (d + 1)) (7 ^ (d + 1)) st) := by
  have hnc := hA.2.1
  have hnp := hA.1
  have hcc : c < A 0 1 := by omega
  intro e
  induction e with
  | zero =>
    intro p fu w hp hf hI
    obtain ⟨fu, rfl⟩ : ∃ g, fu = g + 1 := ⟨fu - 1, by omega⟩
    have ep : p = A 0 0 := by omega
    refine ⟨w, ?_, ?_⟩
    · rw [fn0_giveFrom_64, (XI_TX hT hI).1, ep, if_pos (nI_le (by omega) (by omega))]
    · rw [kids_no (p := p) hd (by omega) hst (fun j h1 h2 => ?_)]
      · exact hI
      · have hb : S.testBit (j - 1) = false := Nat.testBit_lt_two_pow (Nat.lt_of_lt_of_le hS (Nat.pow_le_pow_right (by omega) (by omega)))
        simp [alw1, hb]
        omega
  | succ e ih =>
    intro p fu w hp hf hI
    obtain ⟨fu, rfl⟩ : ∃ g, fu = g + 1 := ⟨fu - 1, by omega⟩
    have hpp : p < A 0 0 := by omega
    have hTw := XI_TX hT hI
    have hib : ib (nI p) 6 = true := ib_y (by omega) (by omega)
    have hibc : ib (nI c) 6 = true := ib_y (by omega) (by omega)
    rw [fn0_giveFrom_64, hTw.1, if_neg (nI_ge (by omega) (by omega)), x_isSpent hA hTw hcc]
    simp only [bp]
    by_cases e7 : A 7 c = 0
    · rw [if_pos e7, if_neg (show ¬ ¬ (0 : Int32) = 0 from fun z => z rfl), if_pos hib, cl_n (by omega), hI.2.1 p (by omega)]
      simp only [ned_le hA hn (show c ≤ A 0 1 by omega)]
      rw [show nI p + 1 = nI (p + 1) from nI_add p 1]
      cases en : ndy A S n c P p
      · rw [if_pos rfl]
        refine ih (p + 1) fu w (by omega) (by omega) ?_
        rw [kid_no hA hd (by omega) hst en]
        exact hI
      · have en' := en
        rw [ndy, Bool.and_eq_true, decide_eq_true_eq] at en'
        obtain ⟨eb, eg⟩ := en'
        rw [if_neg (by simp), x_lengthBy hA hTw hcc hpp]
        simp only [bp]
        rw [if_pos hibc, if_pos hib, if_pos hib, cl_n (by omega)]
        unfold fn0_giveFrom_129
        obtain ⟨g1, g2⟩ := dig_c (c := c) (P := P) (j := p + 1) (by omega)
        have c1 : cstP A (c + 1) (7 * P + (p + 1)) = cstP A c P + cst A c (p + 1) := by
          rw [cstP, show (7 * P + (p + 1)) / 7 = P by omega, show (7 * P + (p + 1)) % 7 = p + 1 by omega]
        -- behind the gift
        have hI1 : XI x (up2 (up2 w 62 c (nI p)) 63 p ((up2 w 62 c (nI p)) 63 p - nI (lenA A c p))) A S n (c + 1) (7 * P + (p + 1)) (FL (Lw A S n) (P * 7 ^ (d + 1)) ((p + 1) * 7 ^ d) st) := by
          obtain ⟨b1, b2, b3, b4, b5⟩ := hI
          refine ⟨fun k hk => ?_, fun q hq => ?_, fun i hi => ?_, ?_, fun h i hi => ?_⟩
          · rw [up2_cell (by omega), up2_cell (by omega), b1 k hk]
          · by_cases eq : q = p
            · subst eq
              rw [up2_same, up2_cell (by omega), b2 q hq, ned, ned, if_pos eb, if_pos eb, got_c (by omega), if_pos rfl, ← nI_add, sub_more]
            · rw [up2_place eq, up2_cell (by omega), b2 q hq, ned, ned, got_c (by omega), if_neg (show ¬ p + 1 = q + 1 by omega), Nat.add_zero]
          · rw [up2_cell (by omega)]
            by_cases ei : i = c
            · subst ei
              rw [up2_same, g2, gv, if_neg (by omega), show p + 1 - 1 = p by omega]
            · rw [up2_place ei, b3 i (by omega), g1 i (by omega)]
          · rw [up2_cell (by omega), up2_cell (by omega), b4]
          · rw [up2_cell (by omega), up2_cell (by omega)]
            exact b5 h i hi
        have ha1 : alwP A S (c + 1) (7 * P + (p + 1)) = true := by
          rw [alw_c (P := P) (by omega), ha, show (7 * P + (p + 1)) % 7 = p + 1 by omega]
          simp [alw1, e7, eb]
        have hle := (FL_le (L := Lw A S n) (lo := P * 7 ^ (d + 1)) (st := st) ((p + 1) * 7 ^ d)).1
        rw [x_costTo hA (XI_TX hT hI1) hcc hpp]
        simp only [bp]
        rw [show nI c + 1 = nI (c + 1) from nI_add c 1, nI_add, ← c1]
        obtain ⟨r, w2, k1, k2⟩ := H _ _ _ ha1 hI1 (by omega)
        rw [k1]
        simp only [bp]
        rw [if_pos hib, if_pos hib, cl_n (by omega), show nI p + 1 = nI (p + 1) from nI_add p 1]
        refine ih (p + 1) fu _ (by omega) (by omega) ?_
        rw [show (p + 1 + 1) * 7 ^ d = (p + 1) * 7 ^ d + 7 ^ d from Nat.succ_mul _ _, FL_add, lo_eq]
        obtain ⟨b1, b2, b3, b4, b5⟩ := k2
        refine ⟨fun k hk => ?_, fun q hq => ?_, fun i hi => ?_, ?_, fun h i hi => ?_⟩
        · rw [up2_cell (by omega), b1 k hk]
        · by_cases eq : q = p
          · subst eq
            rw [up2_same, b2 q hq, ned, ned, if_pos eb, if_pos eb, got_c (by omega), if_pos rfl, ← nI_add, sub_back]
          · rw [up2_place eq, b2 q hq, ned, ned, got_c (by omega), if_neg (show ¬ p + 1 = q + 1 by omega), Nat.add_zero]
        · rw [up2_cell (by omega), b3 i (by omega), g1 i hi]
        · rw [up2_cell (by omega), b4]
        · rw [up2_cell (by omega)]
          exact b5 h i hi
    · rw [if_neg e7, if_pos n10]
      refine ⟨w, rfl, ?_⟩
      rw [kids_no (p := p) hd (by omega) hst (fun j h1 h2 => ?_)]
      · exact hI
      · simp [alw1, e7]
        omega
theorem cnt_le {f : Nat → Bool} : ∀ n, cntS f n ≤ n := by
  intro n
  induction n with
  | zero => exact Nat.le_refl _
  | succ n ih =>
    rw [cntS]
    split <;> omega
theorem x_node {x w : Mem} {A : Abs} (hA : okA A) (hT : TX x 1 A) {S n c d P f : Nat} {st : Nat × Nat} (hn : n ≤ 12) (hd : c + d = A 0 1) (ha : alwP A S c P = true) (hI : XI x w A S n c P st) (hst : st.1 ≤ BIG) (rec : 0 < ndN A S n c P → ndN A S n c P ≤ d → ∃ r w', (fn0_giveFrom f (nI c + 1) (nI (cstP A c P)) (up2 w 62 (nI c).toNatClampNeg (-4))).bind (fun q58 => fn0_giveFrom_64 (fn0_giveFrom f) (nI c) (nI (cstP A c P)) (fun x4_64 w_64 => some (0, w_64)) 1000 0 q58.2) = some (r, w') ∧ XI x w' A S n c P (FL (Lw A S n) (P * 7 ^ d) (7 ^ d) st)) : ∃ r w', fn0_giveFrom (f + 1) (nI c) (nI (cstP A c P)) w = some (r, w') ∧ XI x w' A S n c P (FL (Lw A S n) (P * 7 ^ d) (7 ^ d) st) := by
  have hnc := hA.2.1
  have hnp := hA.1
  have hB := BIG_lt
  obtain ⟨l1, l2, l3⟩ := x_leaf hA hd ha hI hst
  have hTw := XI_TX hT hI
  have hc12 := cstP_le hA c P (by omega)
  rw [fn0_giveFrom]
  unfold fn0_giveFrom_b
  rw [hI.2.2.2.1]
  by_cases e1 : cstP A c P < st.1
  · rw [if_pos (nI_lt e1 (by omega)), x_needy hA hTw hn (by omega) hI.2.1]
    simp only [bp]
    have hnd : ndN A S n c P ≤ A 0 0 := cnt_le _
    by_cases e2 : ndN A S n c P = 0
    · rw [e2, if_neg (show ¬ ¬ nI 0 = 0 from fun z => z rfl)]
      obtain ⟨w', r1, r2, r3, r4⟩ := x_best (c := c) (K := cstP A c P) (w := w) (by omega)
      rw [r4]
      simp only [bp]
      refine ⟨_, _, rfl, ?_⟩
      rw [l2 e1 e2]
      obtain ⟨b1, b2, b3, b4, b5⟩ := hI
      refine ⟨fun k hk => by rw [r1 k (by omega) (by omega), b1 k hk], fun q hq => by rw [r1 63 (by omega) (by omega), b2 q hq], fun i hi => by rw [r1 62 (by omega) (by omega), b3 i hi], r2, fun h i hi => ?_⟩
      have z4 := (zsuf (A := A) (S := S) (c := c) (P := P) d).2.2.2 i
      rw [hd] at z4
      rw [r3 i (by omega), z4]
      by_cases e : c ≤ i
      · rw [if_pos e, if_pos e]
        rfl
      · rw [if_neg e, if_neg e, b3 i (by omega)]
    · rw [if_pos (nI_ne0 (by omega) (by omega)), hTw.2.1, sub_n (by omega), show A 0 1 - c = d by omega]
      by_cases e3 : d < ndN A S n c P
      · rw [if_pos (nI_lt e3 (by omega))]
        exact ⟨_, _, rfl, by rw [l3 e3]; exact hI⟩
      · rw [if_neg (nI_nlt (by omega) (by omega)), if_pos (show nI c < 6 from nI_lt (b := 6) (by omega) (by omega)), if_pos (ib_y (by omega) (by omega))]
        exact rec (by omega) (by omega)
  · rw [if_neg (nI_nlt (by omega) (by omega))]
    exact ⟨_, _, rfl, by rw [l1 (by omega)]; exact hI⟩
theorem x_giveFrom {x : Mem} {A : Abs} (hA : okA A) (hT : TX x 1 A) {S n : Nat} (hS : S < 2 ^ A 0 0) (hn : n ≤ 12) : ∀ d c P f w st, c + d = A 0 1 → d < f → alwP A S c P = true → XI x w A S n c P st → st.1 ≤ BIG → ∃ r w', fn0_giveFrom f (nI c) (nI (cstP A c P)) w = some (r, w') ∧ XI x w' A S n c P (FL (Lw A S n) (P * 7 ^ d) (7 ^ d) st) := by
  have hnc := hA.2.1
  have hnp := hA.1
  intro d
  induction d with
  | zero =>
    intro c P f w st hd hf ha hI hst
    obtain ⟨f, rfl⟩ : ∃ g, f = g + 1 := ⟨f - 1, by omega⟩
    exact x_node hA hT hn hd ha hI hst (fun h1 h2 => by omega)
  | succ d ih =>
    intro c P f w st hd hf ha hI hst
    obtain ⟨f, rfl⟩ : ∃ g, f = g + 1 := ⟨f - 1, by omega⟩
    refine x_node hA hT hn hd ha hI hst (fun h1 h2 => ?_)
    obtain ⟨g1, g2⟩ := dig_c (c := c) (P := P) (j := 0) (by omega)
    have c0 : cstP A (c + 1) (7 * P + 0) = cstP A c P := by
      rw [cstP, show (7 * P + 0) / 7 = P by omega, show (7 * P + 0) % 7 = 0 by omega, cst, if_pos rfl, Nat.add_zero]
    have ha0 : alwP A S (c + 1) (7 * P + 0) = true := by
      rw [alw_c (P := P) (by omega), ha, show (7 * P + 0) % 7 = 0 by omega]
      simp [alw1]
    have hI0 : XI x (up2 w 62 c (-4)) A S n (c + 1) (7 * P + 0) st := by
      obtain ⟨b1, b2, b3, b4, b5⟩ := hI
      refine ⟨fun k hk => by rw [up2_cell (by omega), b1 k hk], fun q hq => ?_, fun i hi => ?_, by rw [up2_cell (by omega), b4], fun h i hi => by rw [up2_cell (by omega)]; exact b5 h i hi⟩
      · rw [up2_cell (by omega), b2 q hq, ned, ned, got_c (by omega), if_neg (show ¬ 0 = q + 1 by omega), Nat.add_zero]
      · by_cases ei : i = c
        · subst ei
          rw [up2_same, g2]
          rfl
        · rw [up2_place ei, b3 i (by omega), g1 i (by omega)]
    obtain ⟨r, w1, k1, k2⟩ := ih (c + 1) (7 * P + 0) f _ st (by omega) (by omega) ha0 hI0 hst
    rw [c0] at k1
    rw [show nI c + 1 = nI (c + 1) from nI_add c 1, cl_n (by omega), k1]
    simp only [bp]
    have hI1 : XI x w1 A S n c P (FL (Lw A S n) (P * 7 ^ (d + 1)) ((0 + 1) * 7 ^ d) st) := by
      have e0 := lo_eq P d 0
      rw [Nat.zero_mul, Nat.add_zero] at e0
      rw [Nat.zero_add, Nat.one_mul, e0]
      obtain ⟨b1, b2, b3, b4, b5⟩ := k2
      refine ⟨b1, fun q hq => ?_, fun i hi => by rw [b3 i (by omega), g1 i hi], b4, b5⟩
      rw [b2 q hq, ned, ned, got_c (by omega), if_neg (show ¬ 0 = q + 1 by omega), Nat.add_zero]
    obtain ⟨w2, k3, k4⟩ := x_kidsL hA hT hS hn (show c + 1 + d = A 0 1 by omega) ha hst (f := f) (fun Q w st q1 q2 q3 => ih (c + 1) Q f w st (by omega) (by omega) q1 q2 q3) (A 0 0) 0 1000 w1 (by omega) (by omega) hI1
    exact ⟨0, w2, k3, k4⟩
