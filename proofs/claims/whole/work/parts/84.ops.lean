/-! funerals: the ways, counted in sevens -/
def BIG : Nat := 73
theorem BIG_gt : 72 < BIG := by decide
theorem BIG_lt : BIG < 2 ^ 31 := by decide
def cst (A : Abs) (c j : Nat) : Nat := if j = 0 then 0 else A 4 c + (if A 5 c = j - 1 then 0 else A 0 4)
def cstP (A : Abs) : Nat → Nat → Nat
  | 0, _ => 0
  | c + 1, P => cstP A c (P / 7) + cst A c (P % 7)
def gotP (A : Abs) (p : Nat) : Nat → Nat → Nat
  | 0, _ => 0
  | c + 1, P => gotP A p c (P / 7) + (if P % 7 = p + 1 then lenA A c p else 0)
def alw1 (A : Abs) (S c j : Nat) : Bool := decide (j = 0) || (decide (A 7 c = 0) && S.testBit (j - 1))
def alwP (A : Abs) (S : Nat) : Nat → Nat → Bool
  | 0, _ => true
  | c + 1, P => alwP A S c (P / 7) && alw1 A S c (P % 7)
def digP : Nat → Nat → Nat → Nat
  | 0, _, _ => 0
  | c + 1, P, i => if i = c then P % 7 else digP c (P / 7) i
def ndy (A : Abs) (S n c P p : Nat) : Bool := S.testBit p && decide (gotP A p c P < n)
def ndN (A : Abs) (S n c P : Nat) : Nat := cntS (ndy A S n c P) (A 0 0)
def Lw (A : Abs) (S n W : Nat) : Nat := if alwP A S (A 0 1) W = true ∧ ndN A S n (A 0 1) W = 0 then cstP A (A 0 1) W else BIG
theorem dv7 (W d : Nat) : W / 7 ^ (d + 1) = W / 7 / 7 ^ d := by
  rw [Nat.pow_succ, Nat.mul_comm, Nat.div_div_eq_div_mul]
theorem cst_le {A : Abs} (hA : okA A) {c j : Nat} (hc : c < A 0 1) : cst A c j ≤ 12 := by
  have := hA.2.2.2.2.2.2.1 c hc
  have := hA.2.2.2.2.1
  unfold cst
  split
  · omega
  · split <;> omega
theorem cstP_le {A : Abs} (hA : okA A) : ∀ c P, c ≤ A 0 1 → cstP A c P ≤ 12 * c := by
  intro c
  induction c with
  | zero => intro P _; simp [cstP]
  | succ c ih =>
    intro P hc
    have := ih (P / 7) (by omega)
    have := cst_le (j := P % 7) hA (c := c) (by omega)
    rw [cstP]
    omega
theorem gotP_le {A : Abs} (hA : okA A) {p : Nat} : ∀ c P, c ≤ A 0 1 → gotP A p c P ≤ 4 * c := by
  intro c
  induction c with
  | zero => intro P _; simp [gotP]
  | succ c ih =>
    intro P hc
    have := ih (P / 7) (by omega)
    have := lenA_le (p := p) hA (c := c) (by omega)
    rw [gotP]
    split <;> omega
theorem cst_mono {A : Abs} {c : Nat} : ∀ d W, cstP A c (W / 7 ^ d) ≤ cstP A (c + d) W := by
  intro d
  induction d with
  | zero => intro W; simp
  | succ d ih =>
    intro W
    rw [dv7, ← Nat.add_assoc, cstP]
    have := ih (W / 7)
    omega
theorem got_mono {A : Abs} {c p : Nat} : ∀ d W, gotP A p c (W / 7 ^ d) ≤ gotP A p (c + d) W := by
  intro d
  induction d with
  | zero => intro W; simp
  | succ d ih =>
    intro W
    rw [dv7, ← Nat.add_assoc, gotP]
    have := ih (W / 7)
    omega
theorem alw_mono {A : Abs} {S c : Nat} : ∀ d W, alwP A S (c + d) W = true → alwP A S c (W / 7 ^ d) = true := by
  intro d
  induction d with
  | zero => intro W h; simpa using h
  | succ d ih =>
    intro W h
    rw [← Nat.add_assoc, alwP, Bool.and_eq_true] at h
    rw [dv7]
    exact ih (W / 7) h.1
theorem cnt_drop {f f' : Nat → Bool} {p0 : Nat} (h : ∀ p, p ≠ p0 → f' p = f p) : ∀ n, cntS f n ≤ cntS f' n + (if p0 < n then 1 else 0) := by
  intro n
  induction n with
  | zero => simp [cntS]
  | succ n ih =>
    rw [cntS, cntS]
    by_cases e : n = p0
    · subst e
      rw [if_neg (by omega)] at ih
      rw [if_pos (show n < n + 1 by omega)]
      split <;> split <;> omega
    · rw [h n e]
      by_cases e2 : p0 < n
      · rw [if_pos e2] at ih
        rw [if_pos (show p0 < n + 1 by omega)]
        omega
      · rw [if_neg e2] at ih
        rw [if_neg (show ¬ p0 < n + 1 by omega)]
        omega
theorem ndN_step {A : Abs} {S n k W : Nat} : ndN A S n k (W / 7) ≤ ndN A S n (k + 1) W + 1 := by
  have := cnt_drop (f := ndy A S n k (W / 7)) (f' := ndy A S n (k + 1) W) (p0 := W % 7 - 1) (fun p hp => by
    unfold ndy
    rw [gotP, if_neg (by omega), Nat.add_zero]) (A 0 0)
  unfold ndN
  split at this <;> omega
theorem ndN_mono {A : Abs} {S n c : Nat} : ∀ d W, ndN A S n c (W / 7 ^ d) ≤ ndN A S n (c + d) W + d := by
  intro d
  induction d with
  | zero => intro W; simp
  | succ d ih =>
    intro W
    rw [dv7, show c + (d + 1) = c + d + 1 from rfl]
    have h1 := ih (W / 7)
    have h2 := ndN_step (A := A) (S := S) (n := n) (k := c + d) (W := W)
    omega
theorem Lw_cost {A : Abs} (hA : okA A) {S n c d W : Nat} (hd : c + d = A 0 1) : cstP A c (W / 7 ^ d) ≤ Lw A S n W := by
  have h1 := cst_mono (A := A) (c := c) d W
  have h2 := cstP_le hA c (W / 7 ^ d) (by omega)
  have hnc := hA.2.1
  have hB := BIG_gt
  rw [hd] at h1
  unfold Lw
  split
  · exact h1
  · omega
theorem Lw_needy {A : Abs} {S n c d W : Nat} (hd : c + d = A 0 1) (h : d < ndN A S n c (W / 7 ^ d)) : Lw A S n W = BIG := by
  have h1 := ndN_mono (A := A) (S := S) (n := n) (c := c) d W
  rw [hd] at h1
  unfold Lw
  rw [if_neg]
  intro z
  have := z.2
  omega
theorem Lw_not {A : Abs} {S n c d W : Nat} (hd : c + d = A 0 1) (h : alwP A S c (W / 7 ^ d) = false) : Lw A S n W = BIG := by
  unfold Lw
  rw [if_neg]
  intro z
  have h1 := z.1
  rw [← hd] at h1
  have := alw_mono (A := A) (S := S) (c := c) d W h1
  rw [h] at this
  simp at this
/-- nothing is given behind -/
theorem zsuf {A : Abs} {S c P : Nat} : ∀ d, cstP A (c + d) (P * 7 ^ d) = cstP A c P ∧ (∀ p, gotP A p (c + d) (P * 7 ^ d) = gotP A p c P) ∧ alwP A S (c + d) (P * 7 ^ d) = alwP A S c P ∧ ∀ i, digP (c + d) (P * 7 ^ d) i = if c ≤ i then 0 else digP c P i := by
  intro d
  induction d with
  | zero =>
    have : ∀ c P i, c ≤ i → digP c P i = 0 := by
      intro c
      induction c with
      | zero => intro P i _; rfl
      | succ c ih =>
        intro P i hi
        rw [digP, if_neg (by omega)]
        exact ih _ _ (by omega)
    simp only [Nat.pow_zero, Nat.mul_one, Nat.add_zero]
    refine ⟨trivial, fun _ => trivial, trivial, fun i => ?_⟩
    by_cases e : c ≤ i
    · rw [if_pos e, this c P i e]
    · rw [if_neg e]
  | succ d ih =>
    obtain ⟨h1, h2, h3, h4⟩ := ih
    have e1 : P * 7 ^ (d + 1) / 7 = P * 7 ^ d := by
      rw [Nat.pow_succ, ← Nat.mul_assoc, Nat.mul_div_cancel _ (by omega)]
    have e2 : P * 7 ^ (d + 1) % 7 = 0 := by
      rw [Nat.pow_succ, ← Nat.mul_assoc, Nat.mul_mod_left]
    rw [← Nat.add_assoc]
    refine ⟨?_, fun p => ?_, ?_, fun i => ?_⟩
    · rw [cstP, e1, e2, h1]
      rfl
    · rw [gotP, e1, e2, h2 p]
      simp
    · rw [alwP, e1, e2, h3]
      simp [alw1]
    · rw [digP, e1, e2, h4]
      by_cases e : i = c + d
      · rw [if_pos e, if_pos (by omega)]
      · rw [if_neg e]
/-- a gift taken back -/
theorem relB {A : Abs} {S c P j : Nat} (hj : j < 7) : ∀ e V, V / 7 ^ e = 7 * P + j → cstP A (c + 1 + e) V = cstP A (c + 1 + e) (V - j * 7 ^ e) + cst A c j ∧ (∀ q, gotP A q (c + 1 + e) V = gotP A q (c + 1 + e) (V - j * 7 ^ e) + (if j = q + 1 then lenA A c q else 0)) ∧ (alwP A S (c + 1 + e) V = true → alwP A S (c + 1 + e) (V - j * 7 ^ e) = true) ∧ (V - j * 7 ^ e) / 7 ^ e = 7 * P := by
  intro e
  induction e with
  | zero =>
    intro V hV
    rw [Nat.pow_zero, Nat.div_one] at hV
    subst hV
    simp only [Nat.pow_zero, Nat.mul_one, Nat.add_zero, Nat.div_one]
    rw [Nat.add_sub_cancel]
    have d1 : (7 * P + j) / 7 = P := by omega
    have d2 : (7 * P + j) % 7 = j := by omega
    have d3 : 7 * P / 7 = P := by omega
    have d4 : 7 * P % 7 = 0 := by omega
    refine ⟨?_, fun q => ?_, fun h => ?_, rfl⟩
    · rw [cstP, cstP, d1, d2, d3, d4]
      simp [cst]
    · rw [gotP, gotP, d1, d2, d3, d4]
      simp
    · rw [alwP, d1, d2, Bool.and_eq_true] at h
      rw [alwP, d3, d4, h.1]
      simp [alw1]
  | succ e ih =>
    intro V hV
    rw [dv7] at hV
    obtain ⟨h1, h2, h3, h4⟩ := ih (V / 7) hV
    have hk : j * 7 ^ (e + 1) = 7 * (j * 7 ^ e) := by
      rw [Nat.pow_succ, Nat.mul_comm (7 ^ e) 7, ← Nat.mul_assoc, Nat.mul_comm j 7, Nat.mul_assoc]
    have hle : j * 7 ^ e ≤ V / 7 := by
      have h5 := Nat.div_mul_le_self (V / 7) (7 ^ e)
      rw [hV] at h5
      have h6 : j * 7 ^ e ≤ (7 * P + j) * 7 ^ e := Nat.mul_le_mul_right _ (by omega)
      omega
    have d1 : (V - j * 7 ^ (e + 1)) / 7 = V / 7 - j * 7 ^ e := by omega
    have d2 : (V - j * 7 ^ (e + 1)) % 7 = V % 7 := by omega
    rw [← Nat.add_assoc]
    refine ⟨?_, fun q => ?_, fun h => ?_, ?_⟩
    · rw [cstP, cstP, d1, d2, h1]
      omega
    · rw [gotP, gotP, d1, d2, h2 q]
      omega
    · rw [alwP, Bool.and_eq_true] at h
      rw [alwP, d1, d2, h3 h.1, h.2]
      rfl
    · rw [dv7, d1]
      exact h4
theorem cnt0 {f : Nat → Bool} : ∀ n, cntS f n = 0 → ∀ p, p < n → f p = false := by
  intro n
  induction n with
  | zero => intro _ p hp; omega
  | succ n ih =>
    intro h p hp
    rw [cntS] at h
    by_cases e : p = n
    · subst e
      cases ef : f p
      · rfl
      · rw [ef, if_pos rfl] at h
        omega
    · exact ih (by omega) p (by omega)
theorem cnt0' {f : Nat → Bool} : ∀ n, (∀ p, p < n → f p = false) → cntS f n = 0 := by
  intro n
  induction n with
  | zero => intro _; rfl
  | succ n ih =>
    intro h
    rw [cntS, ih (fun p hp => h p (by omega)), h n (by omega)]
    rfl
/-- a gift to one who has enough is dearer than none -/
theorem Lw_enough {A : Abs} (hA : okA A) {S n c e P p W : Nat} (hd : c + 1 + e = A 0 1) (hp : p < 6) (hW : W / 7 ^ e = 7 * P + (p + 1)) (hg : n ≤ gotP A p c P) : ∃ W', W' / 7 ^ e = 7 * P ∧ Lw A S n W' ≤ Lw A S n W := by
  obtain ⟨h1, h2, h3, h4⟩ := relB (A := A) (S := S) (c := c) (P := P) (j := p + 1) (by omega) e W hW
  refine ⟨W - (p + 1) * 7 ^ e, h4, ?_⟩
  rw [hd] at h1 h2 h3
  by_cases ok : alwP A S (A 0 1) W = true ∧ ndN A S n (A 0 1) W = 0
  · have hn : ndN A S n (A 0 1) (W - (p + 1) * 7 ^ e) = 0 := by
      refine cnt0' _ (fun q hq => ?_)
      have hq' := cnt0 _ ok.2 q hq
      unfold ndy at hq' ⊢
      by_cases eq : q = p
      · subst eq
        have hm := got_mono (A := A) (c := c) (p := q) (e + 1) (W - (q + 1) * 7 ^ e)
        have h7 : (W - (q + 1) * 7 ^ e) / 7 ^ (e + 1) = P := by
          rw [Nat.pow_succ, ← Nat.div_div_eq_div_mul, h4]
          omega
        rw [h7, show c + (e + 1) = A 0 1 by omega] at hm
        rw [decide_eq_false (by omega), Bool.and_false]
      · have := h2 q
        rw [if_neg (by omega), Nat.add_zero] at this
        rw [← this]
        exact hq'
    unfold Lw
    rw [if_pos ok, if_pos ⟨h3 ok.1, hn⟩]
    omega
  · unfold Lw
    rw [if_neg ok]
    have := cstP_le hA (A 0 1) (W - (p + 1) * 7 ^ e) (Nat.le_refl _)
    have := hA.2.1
    have := BIG_gt
    split <;> omega
/-! the first of the cheapest, in order -/
def updL (L : Nat → Nat) (st : Nat × Nat) (W : Nat) : Nat × Nat := if L W < st.1 then (L W, W) else st
def FL (L : Nat → Nat) (lo : Nat) : Nat → Nat × Nat → Nat × Nat
  | 0, st => st
  | k + 1, st => updL L (FL L lo k st) (lo + k)
theorem FL_add {L : Nat → Nat} {lo a : Nat} {st : Nat × Nat} : ∀ b, FL L lo (a + b) st = FL L (lo + a) b (FL L lo a st) := by
  intro b
  induction b with
  | zero => rfl
  | succ b ih => rw [← Nat.add_assoc, FL, ih, FL, Nat.add_assoc]
theorem FL_le {L : Nat → Nat} {lo : Nat} {st : Nat × Nat} : ∀ k, (FL L lo k st).1 ≤ st.1 ∧ ∀ W, lo ≤ W → W < lo + k → (FL L lo k st).1 ≤ L W := by
  intro k
  induction k with
  | zero => exact ⟨Nat.le_refl _, fun W h1 h2 => by omega⟩
  | succ k ih =>
    obtain ⟨h1, h2⟩ := ih
    rw [FL, updL]
    by_cases e : L (lo + k) < (FL L lo k st).1
    · rw [if_pos e]
      refine ⟨by dsimp only; omega, fun W g1 g2 => ?_⟩
      by_cases ew : W = lo + k
      · subst ew
        exact Nat.le_refl _
      · have := h2 W g1 (by omega)
        dsimp only
        omega
    · rw [if_neg e]
      refine ⟨h1, fun W g1 g2 => ?_⟩
      by_cases ew : W = lo + k
      · subst ew
        omega
      · exact h2 W g1 (by omega)
theorem FL_same {L : Nat → Nat} {lo : Nat} {st : Nat × Nat} : ∀ k, (∀ W, lo ≤ W → W < lo + k → st.1 ≤ L W) → FL L lo k st = st := by
  intro k
  induction k with
  | zero => intro _; rfl
  | succ k ih =>
    intro h
    rw [FL, ih (fun W g1 g2 => h W g1 (by omega)), updL, if_neg]
    have := h (lo + k) (by omega) (by omega)
    omega
theorem FL_take {L : Nat → Nat} {lo k v : Nat} {st : Nat × Nat} (hk : 0 < k) (h0 : L lo = v) (hv : v < st.1) (h : ∀ W, lo ≤ W → W < lo + k → v ≤ L W) : FL L lo k st = (v, lo) := by
  obtain ⟨k, rfl⟩ : ∃ q, k = 1 + q := ⟨k - 1, by omega⟩
  rw [FL_add, show FL L lo 1 st = (v, lo) by rw [FL, FL, updL, Nat.add_zero, h0, if_pos hv]]
  exact FL_same k (fun W g1 g2 => h W (by omega) (by omega))
/-- the ways below a node -/
theorem in_node {P d W : Nat} (h1 : P * 7 ^ d ≤ W) (h2 : W < P * 7 ^ d + 7 ^ d) : W / 7 ^ d = P := by
  rw [Nat.div_eq_of_lt_le]
  · exact h1
  · rw [Nat.succ_mul]
    exact h2
