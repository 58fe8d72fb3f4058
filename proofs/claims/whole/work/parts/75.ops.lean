/-! rumours -/
def cm (A : Abs) (p : Nat) : Nat := if A 1 p = 2 then 0 else 2 ^ p
def kt2 (A : Abs) (M a b : Nat) : Nat := if (A 1 a = 1 ∨ A 1 b = 1) ∧ M.testBit b = true then M ||| cm A a else M
def ktalk (A : Abs) (M a b : Nat) : Nat := kt2 A (if M.testBit a = true then M ||| cm A b else M) a b
def ktm (A : Abs) (M a b : Nat) : Nat := (M ||| (if M.testBit a = true ∧ A 1 b ≠ 2 then 2 ^ b else 0)) ||| (if (A 1 a = 1 ∨ A 1 b = 1) ∧ M.testBit b = true ∧ A 1 a ≠ 2 then 2 ^ a else 0)
theorem cm_bit (A : Abs) (p i : Nat) : (cm A p).testBit i = decide (A 1 p ≠ 2 ∧ p = i) := by
  unfold cm
  by_cases e : A 1 p = 2
  · simp [e]
  · rw [if_neg e, Nat.testBit_two_pow]
    simp [e]
theorem ktm_eq (A : Abs) (M a b : Nat) : ktm A M a b = ktalk A M a b := by
  have i0 : ∀ p, (if A 1 p ≠ 2 then 2 ^ p else 0) = cm A p := by
    intro p
    unfold cm
    by_cases e : A 1 p = 2
    · simp [e]
    · simp [e]
  unfold ktm ktalk
  cases ea : M.testBit a
  · simp only [Bool.false_eq_true, false_and, if_false, Nat.or_zero]
    unfold kt2
    by_cases e : (A 1 a = 1 ∨ A 1 b = 1) ∧ M.testBit b = true
    · rw [if_pos e, ← i0 a]
      by_cases e2 : A 1 a ≠ 2
      · rw [if_pos ⟨e.1, e.2, e2⟩, if_pos e2]
      · rw [if_neg (fun z => e2 z.2.2), if_neg e2]
    · rw [if_neg e, if_neg (fun z => e ⟨z.1, z.2.1⟩)]
      simp
  · have t1 : (if True ∧ A 1 b ≠ 2 then 2 ^ b else 0) = cm A b := by
      rw [← i0 b]
      simp
    simp only [if_true, t1]
    have kb : ∀ i, ((M ||| cm A b) ||| 2 ^ a).testBit i = (M ||| cm A b).testBit i := by
      intro i
      rw [Nat.testBit_or, Nat.testBit_or, Nat.testBit_two_pow]
      by_cases e : a = i
      · subst e
        simp [ea]
      · simp [e]
    have kz : (M ||| cm A b) ||| 2 ^ a = M ||| cm A b := Nat.eq_of_testBit_eq kb
    have ky : (M ||| cm A b) ||| cm A a = M ||| cm A b := by
      unfold cm
      by_cases e : A 1 a = 2
      · rw [if_pos e, Nat.or_zero]
      · rw [if_neg e]
        exact kz
    have l : (M ||| cm A b) ||| (if (A 1 a = 1 ∨ A 1 b = 1) ∧ M.testBit b = true ∧ A 1 a ≠ 2 then 2 ^ a else 0) = M ||| cm A b := by
      split
      · exact kz
      · exact Nat.or_zero _
    rw [l]
    unfold kt2
    split
    · exact ky.symm
    · rfl
theorem cm_lt {A : Abs} {p : Nat} (hp : p < 6) : cm A p < 64 := by
  have := pow5 hp
  unfold cm
  split <;> omega
theorem or64 {a b : Nat} (ha : a < 64) (hb : b < 64) : a ||| b < 64 := Nat.or_lt_two_pow (n := 6) ha hb
theorem kt2_lt {A : Abs} {M a b : Nat} (hM : M < 64) (ha : a < 6) : kt2 A M a b < 64 := by
  unfold kt2
  split
  · exact or64 hM (cm_lt ha)
  · exact hM
theorem kt1_lt {A : Abs} {M a b : Nat} (hM : M < 64) (hb : b < 6) : (if M.testBit a = true then M ||| cm A b else M) < 64 := by
  split
  · exact or64 hM (cm_lt hb)
  · exact hM
theorem ktalk_lt {A : Abs} {M a b : Nat} (hM : M < 64) (ha : a < 6) (hb : b < 6) : ktalk A M a b < 64 := kt2_lt (kt1_lt hM hb) ha
theorem ktalk_mono {A : Abs} {M a b i : Nat} (h : M.testBit i = true) : (ktalk A M a b).testBit i = true := by
  rw [← ktm_eq, ktm, Nat.testBit_or, Nat.testBit_or, h]
  rfl
def kho (A : Abs) (sd : Nat → Bool) (h M : Nat) : Nat → Nat
  | 0 => M
  | k + 1 => if A 8 k = h ∧ sd k = true then ktalk A (kho A sd h M k) (A 9 k) (A 10 k) else kho A sd h M k
def kn (A : Abs) (sd : Nat → Bool) (p : Nat) : Nat → Nat
  | 0 => 2 ^ p
  | h + 1 => kho A sd h (kn A sd p h) (A 0 2)
theorem kho_lt {A : Abs} (hA : okA A) {sd : Nat → Bool} {h M : Nat} (hM : M < 64) : ∀ n, n ≤ A 0 2 → kho A sd h M n < 64 := by
  have hnp := hA.1
  intro n
  induction n with
  | zero => intro _; exact hM
  | succ n ih =>
    intro hn
    obtain ⟨k1, k2, k3, -⟩ := hA.2.2.2.2.2.2.2 n (by omega)
    rw [kho]
    split
    · exact ktalk_lt (ih (by omega)) (by omega) (by omega)
    · exact ih (by omega)
theorem kn_lt {A : Abs} (hA : okA A) {sd : Nat → Bool} {p : Nat} (hp : p < A 0 0) : ∀ n, kn A sd p n < 64 := by
  have hnp := hA.1
  intro n
  induction n with
  | zero => exact pow5 (by omega)
  | succ n ih => exact kho_lt hA ih _ (Nat.le_refl _)
theorem kho_mono {A : Abs} {sd : Nat → Bool} {h M i : Nat} (hi : M.testBit i = true) : ∀ n, (kho A sd h M n).testBit i = true := by
  intro n
  induction n with
  | zero => exact hi
  | succ n ih =>
    rw [kho]
    split
    · exact ktalk_mono ih
    · exact ih
theorem kn_self {A : Abs} {sd : Nat → Bool} {p : Nat} : ∀ n, (kn A sd p n).testBit p = true := by
  intro n
  induction n with
  | zero => rw [kn, Nat.testBit_two_pow]; simp
  | succ n ih => exact kho_mono ih _
theorem kho_up {A : Abs} {sd : Nat → Bool} {c v h M : Nat} : ∀ n, kho (upA A 7 c v) sd h M n = kho A sd h M n := by
  intro n
  induction n with
  | zero => rfl
  | succ n ih =>
    rw [kho, kho, ih]
    unfold ktalk kt2 cm
    simp only [upA_row (A := A) (i := 7) (j := c) (v := v) (i' := 1) (by omega), upA_row (A := A) (i := 7) (j := c) (v := v) (i' := 8) (by omega), upA_row (A := A) (i := 7) (j := c) (v := v) (i' := 9) (by omega), upA_row (A := A) (i := 7) (j := c) (v := v) (i' := 10) (by omega)]
theorem kn_up {A : Abs} {sd : Nat → Bool} {c v p : Nat} : ∀ n, kn (upA A 7 c v) sd p n = kn A sd p n := by
  intro n
  induction n with
  | zero => rfl
  | succ n ih => rw [kn, kn, ih, kho_up, upA_row (by omega)]
theorem x_coming {x : Mem} {A : Abs} (hA : okA A) (hT : TX x 1 A) {p : Nat} (hp : p < A 0 0) : fn2_comingTo (nI p) x = some (nI (cm A p), x) := by
  have hnp := hA.1
  have hk := (hA.2.2.2.2.2.1 p hp).1
  have t1 : x 2 p = nI (A 1 p) := (hT.2.2.2.2.2.1 p hp).1
  unfold fn2_comingTo cm
  rw [if_pos (ib_y (by omega) (by omega)), cl_n (by omega), t1]
  by_cases e : A 1 p = 2
  · rw [e, if_neg (show ¬ ¬ nI 2 = 2 from fun z => z rfl), if_pos rfl]
    rfl
  · rw [if_pos (show ¬ nI (A 1 p) = 2 by rw [show (2 : Int32) = nI 2 from rfl, eq_n (by omega) (by omega)]; exact e), if_neg e, one_n _ (by omega)]
theorem x_after129 {x : Mem} {A : Abs} (hA : okA A) (hT : TX x 1 A) {u : Int32} {M k a b : Nat} {t : Bool} (hM : M < 64) (ha : a < A 0 0) (hb : b < A 0 0) {kb : Int32 → Int32 → Mem → Option (Int32 × Mem)} (ht : t = decide (A 1 a = 1 ∨ A 1 b = 1)) : fn2_knowersAfter_129 u (nI M) (nI k) (nI a) (nI b) (bI t) kb x = kb (nI (kt2 A M a b)) (nI (k + 1)) x := by
  have hnp := hA.1
  have hc := cm_lt (A := A) (p := a) (by omega)
  unfold fn2_knowersAfter_129 kt2
  rw [show nI k + 1 = nI (k + 1) from nI_add k 1]
  cases t
  · have : ¬ (A 1 a = 1 ∨ A 1 b = 1) := of_decide_eq_false ht.symm
    rw [if_pos bI_f, if_neg (fun z => this z.1)]
  · have : (A 1 a = 1 ∨ A 1 b = 1) := of_decide_eq_true ht.symm
    rw [if_neg (by rw [bI_t]; exact n10), x_hasBit (by omega) (by omega)]
    simp only [bs]
    cases e : M.testBit b
    · rw [if_pos bI_f, if_neg (fun z => by have := z.2; simp at this)]
    · rw [if_neg (by rw [bI_t]; exact n10), x_coming hA hT ha, if_pos ⟨this, rfl⟩]
      simp only [bs]
      rw [or_n (by omega) (by omega)]
theorem x_after96 {x : Mem} {A : Abs} (hA : okA A) (hT : TX x 1 A) {u : Int32} {M k a b : Nat} (hM : M < 64) (ha : a < A 0 0) (hb : b < A 0 0) {kb : Int32 → Int32 → Mem → Option (Int32 × Mem)} : fn2_knowersAfter_96 u (nI M) (nI k) (nI a) (nI b) kb x = kb (nI (kt2 A M a b)) (nI (k + 1)) x := by
  have hnp := hA.1
  have hka := (hA.2.2.2.2.2.1 a ha).1
  have hkb := (hA.2.2.2.2.2.1 b hb).1
  have t1 : x 2 a = nI (A 1 a) := (hT.2.2.2.2.2.1 a ha).1
  have t2 : x 2 b = nI (A 1 b) := (hT.2.2.2.2.2.1 b hb).1
  unfold fn2_knowersAfter_96 fn2_knowersAfter_124
  rw [if_pos (ib_y (by omega) (by omega)), if_pos (ib_y (by omega) (by omega)), cl_n (by omega), cl_n (by omega), t1, t2]
  by_cases e : A 1 a = 1
  · rw [if_pos (show nI (A 1 a) = 1 by rw [e]; rfl)]
    exact x_after129 hA hT (t := true) hM ha hb (by simp [e])
  · rw [if_neg (show ¬ nI (A 1 a) = 1 by rw [show (1 : Int32) = nI 1 from rfl, eq_n (by omega) (by omega)]; exact e)]
    by_cases e2 : A 1 b = 1
    · rw [if_neg (show ¬ ¬ nI (A 1 b) = 1 by rw [e2]; exact fun z => z rfl)]
      exact x_after129 hA hT (t := true) hM ha hb (by simp [e2])
    · rw [if_pos (show ¬ nI (A 1 b) = 1 by rw [show (1 : Int32) = nI 1 from rfl, eq_n (by omega) (by omega)]; exact e2)]
      exact x_after129 hA hT (t := false) hM ha hb (by simp [e, e2])
/-- the class's row of who is silent gives which talks are said -/
def sayX (x : Mem) (A : Abs) (sd : Nat → Bool) : Prop := ∃ S : Nat → Nat, (∀ h, h < 12 → S h < 64 ∧ x 59 h = nI (S h)) ∧ ∀ k, k < A 0 2 → saidF A (A 9 k) ((S (A 8 k)).testBit (A 9 k)) ((S (A 8 k)).testBit (A 10 k)) = sd k
theorem x_afterL {x : Mem} {A : Abs} (hA : okA A) (hT : TX x 1 A) {sd : Nat → Bool} (hs : sayX x A sd) {h M : Nat} (hh : h < 12) (hM : M < 64) {k : Int32 → Int32 → Mem → Option (Int32 × Mem)} : ∀ d c f, c + d = A 0 2 → d < f → fn2_knowersAfter_5 (nI h) k f (nI (kho A sd h M c)) (nI c) x = k (nI (kho A sd h M (A 0 2))) (nI (A 0 2)) x := by
  have hnp := hA.1
  have hnt := hA.2.2.1
  obtain ⟨S, hS, hsd⟩ := hs
  obtain ⟨s1, s2⟩ := hS h hh
  intro d
  induction d with
  | zero =>
    intro c f hc hf
    obtain ⟨f, rfl⟩ : ∃ g, f = g + 1 := ⟨f - 1, by omega⟩
    have e : c = A 0 2 := by omega
    rw [fn2_knowersAfter_5, hT.2.2.1, e, if_pos (nI_le (by omega) (by omega))]
  | succ d ih =>
    intro c f hc hf
    obtain ⟨f, rfl⟩ : ∃ g, f = g + 1 := ⟨f - 1, by omega⟩
    have hcc : c < A 0 2 := by omega
    have key := ih (c + 1) f (by omega) (by omega)
    obtain ⟨k1, k2, k3, -⟩ := hA.2.2.2.2.2.2.2 c hcc
    obtain ⟨t1, t2, t3⟩ : x 9 c = nI (A 8 c) ∧ x 10 c = nI (A 9 c) ∧ x 11 c = nI (A 10 c) := hT.2.2.2.2.2.2.2 c hcc
    have hib : ib (nI c) 10 = true := ib_y (by omega) (by omega)
    have hkl := kho_lt (sd := sd) (h := h) hA hM c (by omega)
    have hsc := hsd c hcc
    rw [kho] at key
    rw [fn2_knowersAfter_5, hT.2.2.1, if_neg (nI_ge (by omega) (by omega)), if_pos hib, if_pos hib, if_pos hib, cl_n (by omega), t1, t2, t3]
    by_cases e : A 8 c = h
    · rw [e] at hsc
      rw [if_neg (show ¬ ¬ nI (A 8 c) = nI h by rw [e]; exact fun z => z rfl), if_pos (ib_y (by omega) (by omega)), cl_n (by omega), s2, x_isSaid hA hT (by omega) k2 k3, hsc]
      simp only [bs]
      cases es : sd c
      · rw [if_neg (show ¬ ¬ bI false = 0 from fun z => z rfl), show nI c + 1 = nI (c + 1) from nI_add c 1]
        rw [es, if_neg (by simp)] at key
        exact key
      · rw [if_pos (by rw [bI_t]; exact n10), x_hasBit (by omega) (by omega)]
        simp only [bs]
        rw [es, if_pos ⟨e, rfl⟩, ktalk] at key
        cases eb : (kho A sd h M c).testBit (A 9 c)
        · rw [if_pos bI_f, x_after96 hA hT hkl k2 k3]
          rw [eb, if_neg (by simp)] at key
          exact key
        · rw [if_neg (by rw [bI_t]; exact n10), x_coming hA hT k3]
          simp only [bs]
          rw [eb, if_pos rfl] at key
          have hcl := cm_lt (A := A) (p := A 10 c) (by omega)
          rw [or_n (by omega) (by omega), x_after96 hA hT (or64 hkl hcl) k2 k3]
          exact key
    · rw [if_pos (show ¬ nI (A 8 c) = nI h by rw [eq_n (by omega) (by omega)]; exact e), show nI c + 1 = nI (c + 1) from nI_add c 1]
      rw [if_neg (fun z => e z.1)] at key
      exact key
theorem x_after {x : Mem} {A : Abs} (hA : okA A) (hT : TX x 1 A) {sd : Nat → Bool} (hs : sayX x A sd) {h M : Nat} (hh : h < 12) (hM : M < 64) : fn2_knowersAfter (nI M) (nI h) x = some (nI (kho A sd h M (A 0 2)), x) := by
  have hnt := hA.2.2.1
  exact x_afterL hA hT hs hh hM (A 0 2) 0 1000 (by omega) (by omega)
theorem x_behindL {x : Mem} {A : Abs} (hA : okA A) (hT : TX x 1 A) {sd : Nat → Bool} (hs : sayX x A sd) {p n : Nat} (hp : p < A 0 0) (hn : n < 12) {k : Int32 → Int32 → Mem → Option (Int32 × Mem)} : ∀ d c f, c + d = n + 1 → d < f → fn2_knowersBehind_7 (nI n) k f (nI (kn A sd p c)) (nI c) x = k (nI (kn A sd p (n + 1))) (nI (n + 1)) x := by
  intro d
  induction d with
  | zero =>
    intro c f hc hf
    obtain ⟨f, rfl⟩ : ∃ g, f = g + 1 := ⟨f - 1, by omega⟩
    have e : c = n + 1 := by omega
    rw [fn2_knowersBehind_7, e, if_pos (nI_lt (by omega) (by omega))]
  | succ d ih =>
    intro c f hc hf
    obtain ⟨f, rfl⟩ : ∃ g, f = g + 1 := ⟨f - 1, by omega⟩
    have key := ih (c + 1) f (by omega) (by omega)
    rw [fn2_knowersBehind_7, if_neg (nI_nlt (by omega) (by omega)), if_neg (show ¬ (12 : Int32) ≤ nI c from nI_ge (b := 12) (by omega) (by omega)), x_after hA hT hs (by omega) (kn_lt hA hp c)]
    simp only [bs]
    rw [show nI c + 1 = nI (c + 1) from nI_add c 1]
    exact key
theorem x_behind {x : Mem} {A : Abs} (hA : okA A) (hT : TX x 1 A) {sd : Nat → Bool} (hs : sayX x A sd) {p n : Nat} (hp : p < A 0 0) (hn : n < 12) : fn2_knowersBehind (nI p) (nI n) x = some (nI (kn A sd p (n + 1)), x) := by
  have hnp := hA.1
  unfold fn2_knowersBehind
  rw [one_n p (by omega)]
  exact x_behindL hA hT hs hp hn (n + 1) 0 1000 (by omega) (by omega)
def fstH (f : Nat → Bool) : Nat → Nat → Int32
  | 0, _ => -4
  | d + 1, h => if f h = true then nI h else fstH f d (h + 1)
def lrn (A : Abs) (sd : Nat → Bool) (p q : Nat) : Int32 := if p = q then 0 else fstH (fun h => (kn A sd p (h + 1)).testBit q) 12 0
theorem x_comesL {x : Mem} {A : Abs} (hA : okA A) (hT : TX x 1 A) {sd : Nat → Bool} (hs : sayX x A sd) {p q : Nat} (hp : p < A 0 0) (hq : q < A 0 0) : ∀ d c f, c + d = 12 → d < f → fn2_hourItComes_14 (nI q) (fun _ _ w => some ((-4), w)) f (nI (kn A sd p c)) (nI c) x = some (fstH (fun h => (kn A sd p (h + 1)).testBit q) d c, x) := by
  have hnp := hA.1
  intro d
  induction d with
  | zero =>
    intro c f hc hf
    obtain ⟨f, rfl⟩ : ∃ g, f = g + 1 := ⟨f - 1, by omega⟩
    have e : c = 12 := by omega
    rw [fn2_hourItComes_14, e, if_pos (by decide), fstH]
  | succ d ih =>
    intro c f hc hf
    obtain ⟨f, rfl⟩ : ∃ g, f = g + 1 := ⟨f - 1, by omega⟩
    have key := ih (c + 1) f (by omega) (by omega)
    have hl := kn_lt (sd := sd) hA hp (c + 1)
    rw [fn2_hourItComes_14, if_neg (show ¬ (12 : Int32) ≤ nI c from nI_ge (b := 12) (by omega) (by omega)), x_after hA hT hs (by omega) (kn_lt hA hp c)]
    simp only [bs]
    rw [show kho A sd c (kn A sd p c) (A 0 2) = kn A sd p (c + 1) from rfl, x_hasBit (by omega) (by omega)]
    simp only [bs]
    rw [show nI c + 1 = nI (c + 1) from nI_add c 1, fstH]
    cases e : (kn A sd p (c + 1)).testBit q
    · rw [if_pos bI_f]
      simp only [Bool.false_eq_true, if_false]
      exact key
    · rw [if_neg (by rw [bI_t]; exact n10)]
      simp
theorem x_comes {x : Mem} {A : Abs} (hA : okA A) (hT : TX x 1 A) {sd : Nat → Bool} (hs : sayX x A sd) {p q : Nat} (hp : p < A 0 0) (hq : q < A 0 0) : fn2_hourItComes (nI p) (nI q) x = some (lrn A sd p q, x) := by
  have hnp := hA.1
  unfold fn2_hourItComes lrn
  by_cases e : p = q
  · rw [if_neg (show ¬ ¬ nI p = nI q by rw [e]; exact fun z => z rfl), if_pos e]
  · rw [if_pos (show ¬ nI p = nI q by rw [eq_n (by omega) (by omega)]; exact e), if_neg e, one_n p (by omega)]
    exact x_comesL hA hT hs hp hq 12 0 1000 (by omega) (by omega)
