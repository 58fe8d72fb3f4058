/-! PURE: numbers and memories. -/
theorem le_n {a b : Nat} (ha : a < 1048576) (hb : b < 1048576) : (nI a ≤ nI b) = (a ≤ b) := propext (nI_leI (by omega) (by omega))
theorem lt_n {a b : Nat} (ha : a < 1048576) (hb : b < 1048576) : (nI a < nI b) = (a < b) := propext (nI_ltI (by omega) (by omega))
theorem eq_n {a b : Nat} (ha : a < 1048576) (hb : b < 1048576) : (nI a = nI b) = (a = b) := propext (nI_eq (by omega) (by omega))
theorem cl_n {a : Nat} (ha : a < 1048576) : (nI a).toNatClampNeg = a := nI_clamp (by omega)
theorem ib_n {a n : Nat} (ha : a < 1048576) : (ib (nI a) n = true) = (a < n) := by
  apply propext
  constructor
  · intro h
    have h2 := ib_in h
    rcases Nat.lt_or_ge a n with q | q
    · exact q
    · exact absurd (Or.inr (by rw [cl_n ha]; exact q)) h2
  · intro h
    have h2 : ¬ (nI a < 0 ∨ n ≤ (nI a).toNatClampNeg) := by
      intro q
      rcases q with q | q
      · exact nI_pos (by omega) q
      · rw [cl_n ha] at q
        omega
    exact decide_eq_true h2
theorem ib_neg {x : Int32} {n : Nat} (h : x < 0) : ib x n = false := by
  have h2 : ¬ ¬ (x < 0 ∨ n ≤ x.toNatClampNeg) := fun q => q (Or.inl h)
  exact decide_eq_false h2
theorem ng_n {a : Nat} (ha : a < 1048576) : (nI a < 0) = False := by
  apply propext
  constructor
  · intro h
    exact nI_pos (by omega) h
  · intro h
    exact h.elim
theorem add_n (a b : Nat) : nI a + nI b = nI (a + b) := nI_add a b
theorem mul_n (a b : Nat) : nI a * nI b = nI (a * b) := pk_mul a b
theorem sub_n {a b : Nat} (h : b ≤ a) : nI a - nI b = nI (a - b) := pk_sub h
/-- an int is negative, or a number -/
theorem int_cases (x : Int32) : x < 0 ∨ ∃ j : Nat, j < 2 ^ 31 ∧ x = nI j := by
  by_cases h : x < 0
  · exact Or.inl h
  · exact Or.inr (nI_of h)
/-- an int is negative, or n at least, or one of the first n numbers -/
theorem int_below (x : Int32) (n : Nat) (hn : n < 2 ^ 31) : x < 0 ∨ nI n ≤ x ∨ ∃ j : Nat, j < n ∧ x = nI j := pk_ix x hn
theorem up2_same {w : Mem} {k j : Nat} {v : Int32} : up2 w k j v k j = v := by simp [up2, upm, upd]
theorem up2_cell {w : Mem} {k k' j : Nat} {v : Int32} (h : k' ≠ k) : up2 w k j v k' = w k' := by simp [up2, upm, h]
theorem up2_place {w : Mem} {k j j' : Nat} {v : Int32} (h : j' ≠ j) : up2 w k j v k j' = w k j' := by simp [up2, upm, upd, h]
theorem up2_at {w : Mem} {k k' j j' : Nat} {v : Int32} : up2 w k j v k' j' = if k' = k ∧ j' = j then v else w k' j' := by
  by_cases h : k' = k
  · subst h
    by_cases g : j' = j
    · subst g
      simp [up2, upm, upd]
    · simp [up2, upm, upd, g]
  · simp [up2, upm, h]
theorem upm_cell {w : Mem} {k k' : Nat} {f : Nat → Int32} (h : k' ≠ k) : upm w k f k' = w k' := by simp [upm, h]
theorem upm_same {w : Mem} {k : Nat} {f : Nat → Int32} : upm w k f k = f := by simp [upm]
theorem cpm_cell {w : Mem} {a b n k : Nat} (h : k ≠ b) : cpm w a b n k = w k := by simp [cpm, upm, h]
theorem cpm_same {w : Mem} {a b n j : Nat} : cpm w a b n b j = if j < n then w a j else w b j := by
  simp [cpm, upm, va_cpy]
theorem nar0 : vp_nar .boolean 0 = 0 := by decide
theorem nar1 : vp_nar .boolean 1 = 1 := by decide
/-! the shared picture of a town: counts at 0, kinds 1, wishes 2, purses 3, worths 4, owners 5, clipped 6, spent 7 (0, or the hour and 1), hours 8, speakers 9, hearers 10 -/
abbrev Abs : Type := Nat → Nat → Nat
def okA (A : Abs) : Prop := A 0 0 ≤ 6 ∧ A 0 1 ≤ 6 ∧ A 0 2 ≤ 10 ∧ A 0 3 ≤ 2 ∧ A 0 4 ≤ 9 ∧ (∀ p, p < A 0 0 → A 1 p ≤ 4 ∧ A 2 p ≤ 9 ∧ A 3 p ≤ 50) ∧ (∀ c, c < A 0 1 → 1 ≤ A 4 c ∧ A 4 c ≤ 3 ∧ A 5 c < A 0 0 ∧ A 6 c ≤ 1 ∧ A 7 c ≤ 12) ∧ ∀ k, k < A 0 2 → A 8 k < 12 ∧ A 9 k < A 0 0 ∧ A 10 k < A 0 0 ∧ A 9 k ≠ A 10 k
def spc (n : Nat) : Int32 := if n = 0 then -4 else nI (n - 1)
def TX (x : Mem) (b : Nat) (A : Abs) : Prop := x b 0 = nI (A 0 0) ∧ x b 4 = nI (A 0 1) ∧ x b 9 = nI (A 0 2) ∧ x b 13 = nI (A 0 3) ∧ x b 14 = nI (A 0 4) ∧ (∀ p, p < A 0 0 → x (b + 1) p = nI (A 1 p) ∧ x (b + 2) p = nI (A 2 p) ∧ x (b + 3) p = nI (A 3 p)) ∧ (∀ c, c < A 0 1 → x (b + 4) c = nI (A 4 c) ∧ x (b + 5) c = nI (A 5 c) ∧ x (b + 6) c = nI (A 6 c) ∧ x (b + 7) c = spc (A 7 c)) ∧ ∀ k, k < A 0 2 → x (b + 8) k = nI (A 8 k) ∧ x (b + 9) k = nI (A 9 k) ∧ x (b + 10) k = nI (A 10 k)
def PM (m : Mem) (A : Abs) : Prop := m 0 2 = nI (A 0 0) ∧ m 0 3 = nI (A 0 1) ∧ ∀ p, p < A 0 0 → m 2 (3 * p) = nI (A 1 p) ∧ m 2 (3 * p + 1) = nI (A 2 p) ∧ m 2 (3 * p + 2) = nI (A 3 p)
def GM (m : Mem) (o : Nat) (A : Abs) : Prop := m 1 (o + 54) = nI (A 0 2) ∧ m 1 (o + 55) = nI (A 0 3) ∧ m 1 (o + 56) = nI (A 0 4) - 1 ∧ (∀ c, c < A 0 1 → m 1 (o + 4 * c) = nI (A 4 c) ∧ m 1 (o + (4 * c + 1)) = nI (A 5 c) ∧ m 1 (o + (4 * c + 2)) = nI (A 6 c) ∧ m 1 (o + (4 * c + 3)) = nI (A 7 c)) ∧ ∀ k, k < A 0 2 → m 1 (o + (24 + 3 * k)) = nI (A 8 k) ∧ m 1 (o + (24 + 3 * k + 1)) = nI (A 9 k) ∧ m 1 (o + (24 + 3 * k + 2)) = nI (A 10 k)
/-- an image has the town's people and coins -/
def likeA (I A : Abs) : Prop := I 0 0 = A 0 0 ∧ I 0 1 = A 0 1 ∧ ∀ p, p < A 0 0 → I 1 p = A 1 p ∧ I 2 p = A 2 p ∧ I 3 p = A 3 p
def RI (x m : Mem) (A : Abs) : Prop := ∀ j, j < 2 → x 69 j = m 15 j ∧ (x 69 j = 0 ∨ (x 69 j = 1 ∧ ∃ I : Abs, okA I ∧ likeA I A ∧ TX x (23 + 11 * j) I ∧ GM m (57 * (j + 1)) I))
def RT (x m : Mem) : Prop := ∃ (n : Nat) (t : Nat → Nat), n ≤ 320 ∧ x 53 1 = nI n ∧ m 0 14 = nI n ∧ ∀ i, i < n → t i < 256 ∧ x 54 i = (nI (t i)).toInt8.toInt32 ∧ m 6 i = nI (t i)
def RK (x m : Mem) (np : Nat) : Prop := ∃ (n : Nat) (f g : Nat → Nat), n ≤ 6 ∧ x 56 0 = nI n ∧ m 0 26 = nI n ∧ ∀ i, i < n → f i < np ∧ g i ≤ 1 ∧ x 57 i = nI (f i) ∧ m 10 (2 * i) = nI (f i) ∧ x 58 i = nI (g i) ∧ m 10 (2 * i + 1) = nI (g i)
def RH (x m : Mem) : Prop := ∃ (n : Nat) (f g : Nat → Nat), n ≤ 8 ∧ x 64 0 = nI n ∧ m 0 31 = nI n ∧ ∀ i, i < n → f i < 64 ∧ g i ≤ 1 ∧ x 66 i = nI (f i) ∧ m 14 (2 * i) = nI (f i) ∧ x 67 i = nI (g i) ∧ m 14 (2 * i + 1) = nI (g i)
def RS (x m : Mem) : Prop := ∀ k, k < 4 → x (45 + 2 * k) 2 = m 16 k ∧ x (45 + 2 * k) 1 = m 17 k ∧ (∃ n : Nat, n ≤ 40 ∧ m 17 k = nI n) ∧ (m 16 k = -4 ∨ (∃ n : Nat, n ≤ 2 ∧ m 16 k = nI n)) ∧ (m 16 k = -4 ∨ ∀ i, i < 40 → x (45 + 2 * k + 1) i = m 18 (40 * k + i))
def RC (m : Mem) : Prop := (∀ i, i < 13 → m 7 i = cutsL.getD i 0) ∧ ∀ i, i < 56 → m 8 i = letL.getD i 0
/-- the coupling -/
def RR (x m : Mem) : Prop := ∃ A : Abs, okA A ∧ TX x 1 A ∧ PM m A ∧ GM m 0 A ∧ RI x m A ∧ RT x m ∧ x 55 2 = m 0 15 ∧ RK x m (A 0 0) ∧ RH x m ∧ RS x m ∧ x 0 9 = m 0 37 ∧ RC m
