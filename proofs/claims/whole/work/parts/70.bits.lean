/-! bits -/
def bI (b : Bool) : Int32 := if b = true then 1 else 0
theorem bI_t : bI true = 1 := rfl
theorem bI_f : bI false = 0 := rfl
theorem bI_nI (b : Bool) : bI b = nI (if b = true then 1 else 0) := by cases b <;> rfl
theorem lt31 {a : Nat} (h : a < 1048576) : a < 2 ^ 31 := Nat.lt_trans h (by decide)
theorem lt32 {a : Nat} (h : a < 1048576) : a < 2 ^ 32 := Nat.lt_trans h (by decide)
theorem or_lt {a b : Nat} (ha : a < 1048576) (hb : b < 1048576) : a ||| b < 1048576 := Nat.or_lt_two_pow (n := 20) ha hb
theorem and_lt {a b : Nat} (ha : a < 1048576) : a &&& b < 1048576 := Nat.lt_of_le_of_lt Nat.and_le_left ha
theorem or_n {a b : Nat} (ha : a < 1048576) (hb : b < 1048576) : nI a ||| nI b = nI (a ||| b) := by
  apply Int32.toBitVec_inj.mp
  apply BitVec.eq_of_toNat_eq
  rw [Int32.toBitVec_or, BitVec.toNat_or, pk_tn (lt32 ha), pk_tn (lt32 hb), pk_tn (lt32 (or_lt ha hb))]
theorem and_n {a b : Nat} (ha : a < 1048576) (hb : b < 1048576) : nI a &&& nI b = nI (a &&& b) := by
  apply Int32.toBitVec_inj.mp
  apply BitVec.eq_of_toNat_eq
  rw [Int32.toBitVec_and, BitVec.toNat_and, pk_tn (lt32 ha), pk_tn (lt32 hb), pk_tn (lt32 (and_lt ha))]
theorem sm_n : ∀ p, p < 31 → ((nI p &&& 31).toBitVec.smod 32).toNat = p := by decide
theorem tb_n (a p : Nat) : a / 2 ^ p % 2 = if a.testBit p = true then 1 else 0 := by
  rw [Nat.testBit_eq_decide_div_mod_eq]
  have : a / 2 ^ p % 2 = 0 ∨ a / 2 ^ p % 2 = 1 := by omega
  rcases this with e | e <;> simp [e]
theorem bit_n {a p : Nat} (ha : a < 1048576) (hp : p < 31) : (nI a >>> (nI p &&& 31)) &&& 1 = bI (a.testBit p) := by
  rw [pk_shrN (lt31 ha) _ p (sm_n p hp), pk_andN (m := 1) (Nat.lt_of_le_of_lt (Nat.div_le_self _ _) (lt32 ha)) 1 (by decide), bI_nI, ← tb_n]
theorem one_n : ∀ p, p < 20 → (1 : Int32) <<< (nI p &&& 31) = nI (2 ^ p) := by decide
theorem run_n : ∀ l, l < 6 → ∀ s, s < 12 → (((1 : Int32) <<< (nI l &&& 31)) - 1) <<< (nI s &&& 31) = nI ((2 ^ l - 1) <<< s) := by decide
theorem run_lt : ∀ l, l < 6 → ∀ s, s < 12 → (2 ^ l - 1) <<< s < 1048576 := by decide
theorem run_bit (l s h : Nat) : ((2 ^ l - 1) <<< s).testBit h = decide (s ≤ h ∧ h < s + l) := by
  rw [Nat.testBit_shiftLeft, Nat.testBit_two_pow_sub_one]
  by_cases e : s ≤ h
  · by_cases e2 : h < s + l
    · simp [e, e2]; omega
    · simp [e, e2]; omega
  · simp [e]
theorem x_hasBit {a p : Nat} {w : Mem} (ha : a < 1048576) (hp : p < 31) : fn7_hasBit (nI a) (nI p) w = some (bI (a.testBit p), w) := by
  unfold fn7_hasBit
  rw [bit_n ha hp]
  cases a.testBit p <;> rfl
def anyB (f : Nat → Bool) : Nat → Bool
  | 0 => false
  | n + 1 => anyB f n || f n
/-- by coin c, p is silent in hour h -/
def silC (A : Abs) (h p c : Nat) : Bool := decide (A 7 c ≠ 0 ∧ A 5 c = p ∧ A 7 c - 1 ≤ h ∧ h < A 7 c - 1 + lenA A c p)
def sil (A : Abs) (h p : Nat) : Bool := anyB (silC A h p) (A 0 1)
theorem lenA_le {A : Abs} (hA : okA A) {c p : Nat} (hc : c < A 0 1) : 1 ≤ lenA A c p ∧ lenA A c p ≤ 4 := by
  obtain ⟨w1, w2, -, w4, -⟩ := hA.2.2.2.2.2.2.1 c hc
  unfold lenA
  split <;> split <;> (try split) <;> omega
theorem x_silencedBy {x : Mem} {A : Abs} (hA : okA A) {b c s h : Nat} (hT : TX x b A) (hc : c < A 0 1) (hs : s < 100) (hh : h < 100) : fn6_silencedBy b (nI c) (nI s) (nI h) x = some (nI (if s ≤ h ∧ h < s + lenA A c (A 5 c) then 2 ^ A 5 c else 0), x) := by
  have hnc := hA.2.1
  have hnp := hA.1
  have ho := (hA.2.2.2.2.2.2.1 c hc).2.2.1
  have hl := lenA_le (p := A 5 c) hA hc
  unfold fn6_silencedBy
  rw [if_pos (ib_y (by omega) (by omega)), cl_n (by omega), (hT.2.2.2.2.2.2.1 c hc).2.1]
  by_cases e : h < s
  · rw [if_pos (nI_lt e (by omega)), if_neg (by omega)]
    rfl
  · rw [if_neg (nI_nlt (by omega) (by omega)), x_lengthBy hA hT hc ho]
    simp only [bs]
    rw [nI_add]
    by_cases e2 : h < s + lenA A c (A 5 c)
    · rw [if_neg (nI_ge e2 (by omega)), if_pos ⟨by omega, e2⟩, one_n _ (by omega)]
    · rw [if_pos (nI_le (by omega) (by omega)), if_neg (by omega)]
      rfl
theorem pow5 {p : Nat} (h : p < 6) : 2 ^ p < 64 := by
  rcases (show p = 0 ∨ p = 1 ∨ p = 2 ∨ p = 3 ∨ p = 4 ∨ p = 5 by omega) with e | e | e | e | e | e <;> subst e <;> decide
theorem silC_bit {A : Abs} {h p c M : Nat} : (M ||| (if A 7 c - 1 ≤ h ∧ h < A 7 c - 1 + lenA A c (A 5 c) then 2 ^ A 5 c else 0)).testBit p = (M.testBit p || (decide (A 5 c = p ∧ A 7 c - 1 ≤ h ∧ h < A 7 c - 1 + lenA A c p))) := by
  rw [Nat.testBit_or]
  congr 1
  by_cases e : A 5 c = p
  · subst e
    by_cases e2 : A 7 c - 1 ≤ h ∧ h < A 7 c - 1 + lenA A c (A 5 c)
    · rw [if_pos e2, Nat.testBit_two_pow]
      simp [e2]
    · rw [if_neg e2, Nat.zero_testBit]
      simp only [true_and]
      rw [decide_eq_false e2]
  · split
    · rw [Nat.testBit_two_pow]
      simp [e]
    · rw [Nat.zero_testBit]
      simp [e]
theorem x_silL {x : Mem} {A : Abs} (hA : okA A) {b h : Nat} (hT : TX x b A) (hh : h < 100) {k : Int32 → Int32 → Mem → Option (Int32 × Mem)} : ∀ d c f M, c + d = A 0 1 → d < f → M < 64 → (∀ p, M.testBit p = anyB (silC A h p) c) → ∃ M', M' < 64 ∧ (∀ p, M'.testBit p = sil A h p) ∧ fn6_silentOnes_4 b (nI h) k f (nI M) (nI c) x = k (nI M') (nI (A 0 1)) x := by
  have hnc := hA.2.1
  have hnp := hA.1
  intro d
  induction d with
  | zero =>
    intro c f M hc hf hM hb
    obtain ⟨f, rfl⟩ : ∃ g, f = g + 1 := ⟨f - 1, by omega⟩
    have e : c = A 0 1 := by omega
    subst e
    exact ⟨M, hM, hb, by rw [fn6_silentOnes_4, hT.2.1, if_pos (nI_le (by omega) (by omega))]⟩
  | succ d ih =>
    intro c f M hc hf hM hb
    obtain ⟨f, rfl⟩ : ∃ g, f = g + 1 := ⟨f - 1, by omega⟩
    have hcc : c < A 0 1 := by omega
    obtain ⟨-, -, ho, -, h12⟩ := hA.2.2.2.2.2.2.1 c hcc
    have hp5 := pow5 (p := A 5 c) (by omega)
    rw [fn6_silentOnes_4, hT.2.1, if_neg (nI_ge (by omega) (by omega)), x_isSpent hA hT hcc]
    simp only [bs]
    rw [show nI c + 1 = nI (c + 1) from nI_add c 1]
    by_cases e : A 7 c = 0
    · rw [if_pos e, if_pos rfl]
      refine ih (c + 1) f M (by omega) (by omega) hM (fun p => ?_)
      rw [hb p, anyB, silC]
      simp [e]
    · have q4 := (hT.2.2.2.2.2.2.1 c hcc).2.2.2
      rw [if_neg e, if_neg n10, if_pos (ib_y (by omega) (by omega)), cl_n (by omega), q4, spc, if_neg e, x_silencedBy hA hT hcc (by omega) hh]
      simp only [bs]
      have hlt : (if A 7 c - 1 ≤ h ∧ h < A 7 c - 1 + lenA A c (A 5 c) then 2 ^ A 5 c else 0) < 64 := by
        split <;> omega
      rw [or_n (by omega) (by omega)]
      refine ih (c + 1) f _ (by omega) (by omega) (Nat.or_lt_two_pow (n := 6) hM hlt) (fun p => ?_)
      rw [silC_bit, hb p, anyB, silC]
      simp [e]
theorem x_silentOnes {x : Mem} {A : Abs} (hA : okA A) {b h : Nat} (hT : TX x b A) (hh : h < 100) : ∃ M, M < 64 ∧ (∀ p, M.testBit p = sil A h p) ∧ fn6_silentOnes b (nI h) x = some (nI M, x) := by
  have hnc := hA.2.1
  exact x_silL hA hT hh (A 0 1) 0 1000 0 (by omega) (by omega) (by omega) (fun p => by simp [anyB])
theorem m_quietL {m : Mem} {A : Abs} (hA : okA A) (hP : PM m A) (hG : GM m 0 A) {p : Nat} (hp : p < A 0 0) {k : Int32 → Int32 → Mem → Option (Int32 × Mem)} : ∀ d c f M, c + d = A 0 1 → d < f → M < 1048576 → (∀ h, M.testBit h = anyB (silC A h p) c) → ∃ M', M' < 1048576 ∧ (∀ h, M'.testBit h = sil A h p) ∧ fn8_quietOf_4 (nI p) k f (nI M) (nI c) m = k (nI M') (nI (A 0 1)) m := by
  have hnc := hA.2.1
  have hnp := hA.1
  intro d
  induction d with
  | zero =>
    intro c f M hc hf hM hb
    obtain ⟨f, rfl⟩ : ∃ g, f = g + 1 := ⟨f - 1, by omega⟩
    have e : c = A 0 1 := by omega
    subst e
    exact ⟨M, hM, hb, by rw [fn8_quietOf_4, hP.2.1, if_pos (nI_le (by omega) (by omega))]⟩
  | succ d ih =>
    intro c f M hc hf hM hb
    obtain ⟨f, rfl⟩ : ∃ g, f = g + 1 := ⟨f - 1, by omega⟩
    have hcc : c < A 0 1 := by omega
    obtain ⟨-, -, ho, -, h12⟩ := hA.2.2.2.2.2.2.1 c hcc
    rw [fn8_quietOf_4, hP.2.1, if_neg (nI_ge (by omega) (by omega)), m_isSpent hA hG hcc]
    simp only [bs]
    rw [show nI c + 1 = nI (c + 1) from nI_add c 1]
    by_cases e : A 7 c = 0
    · rw [if_pos e, if_pos rfl]
      refine ih (c + 1) f M (by omega) (by omega) hM (fun h => ?_)
      rw [hb h, anyB, silC]
      simp [e]
    · rw [if_neg e, if_neg n10, m_ownerOf hA hG hcc]
      simp only [bs]
      by_cases e2 : A 5 c = p
      · have hl := lenA_le (p := p) hA hcc
        have q4 := (hG.2.2.2.1 c hcc).2.2.2
        rw [Nat.zero_add] at q4
        rw [e2, if_neg (fun z => z rfl), m_lengthBy hA hP hG hcc hp]
        simp only [bs]
        rw [e43, if_pos (ib_y (by omega) (by omega)), cl_n (by omega), q4, show nI (A 7 c) - 1 = nI (A 7 c - 1) from sub_n (b := 1) (by omega), run_n _ (by omega) _ (by omega)]
        have hlt := run_lt (lenA A c p) (by omega) (A 7 c - 1) (by omega)
        rw [or_n (by omega) (by omega)]
        refine ih (c + 1) f _ (by omega) (by omega) (or_lt hM hlt) (fun h => ?_)
        rw [Nat.testBit_or, run_bit, hb h, anyB, silC]
        simp [e, e2]
      · rw [if_pos (show ¬ nI (A 5 c) = nI p by rw [eq_n (by omega) (by omega)]; exact e2)]
        refine ih (c + 1) f M (by omega) (by omega) hM (fun h => ?_)
        rw [hb h, anyB, silC]
        simp [e2]
theorem m_quietOf {m : Mem} {A : Abs} (hA : okA A) (hP : PM m A) (hG : GM m 0 A) {p : Nat} (hp : p < A 0 0) : ∃ M, M < 4096 ∧ (∀ h, M.testBit h = (decide (h < 12) && sil A h p)) ∧ fn8_quietOf (nI p) m = some (nI M, m) := by
  have hnc := hA.2.1
  obtain ⟨M, h1, h2, h3⟩ := m_quietL hA hP hG hp (k := fun x2_4 x3_4 w_4 => some ((x2_4 &&& 4095), w_4)) (A 0 1) 0 1000 0 (by omega) (by omega) (by omega) (fun p => by simp [anyB])
  refine ⟨M &&& 4095, Nat.lt_of_le_of_lt Nat.and_le_right (by omega), fun h => ?_, ?_⟩
  · rw [Nat.testBit_and, h2 h, show 4095 = 2 ^ 12 - 1 from rfl, Nat.testBit_two_pow_sub_one, Bool.and_comm]
  · refine h3.trans ?_
    show some (nI M &&& nI 4095, m) = _
    rw [and_n h1 (by omega)]
theorem m_isSilent {m : Mem} {A : Abs} (hA : okA A) (hP : PM m A) (hG : GM m 0 A) {p h : Nat} (hp : p < A 0 0) (hh : h < 12) : fn8_isSilent (nI p) (nI h) m = some (bI (sil A h p), m) := by
  obtain ⟨M, h1, h2, h3⟩ := m_quietOf hA hP hG hp
  unfold fn8_isSilent
  rw [h3]
  simp only [bs]
  rw [bit_n (by omega) (by omega), h2 h, decide_eq_true hh, Bool.true_and]
  cases sil A h p <;> rfl
def saidF (A : Abs) (p : Nat) (sp sq : Bool) : Bool := if A 1 p = 4 then true else if A 0 3 = 0 then !sq else if A 0 3 = 1 then (!sq || sp) else (!sq && !sp)
def saidB (A : Abs) (h p q : Nat) : Bool := saidF A p (sil A h p) (sil A h q)
theorem x_isSaid {x : Mem} {A : Abs} (hA : okA A) {b p q M : Nat} (hT : TX x b A) (hM : M < 1048576) (hp : p < A 0 0) (hq : q < A 0 0) : fn6_isSaid b (nI M) (nI p) (nI q) x = some (bI (saidF A p (M.testBit p) (M.testBit q)), x) := by
  have hnp := hA.1
  have hk := (hA.2.2.2.2.2.1 p hp).1
  have hl := hA.2.2.2.1
  unfold fn6_isSaid fn6_isSaid_77
  rw [if_pos (ib_y (by omega) (by omega)), cl_n (by omega), (hT.2.2.2.2.2.1 p hp).1, show (4 : Int32) = nI 4 from rfl]
  unfold saidF
  by_cases e : A 1 p = 4
  · rw [if_neg (by rw [e]; exact fun z => z rfl), if_pos e]
    rfl
  · rw [if_pos (by rw [eq_n (by omega) (by omega)]; exact e), if_neg e, x_hasBit hM (by omega)]
    simp only [bs]
    rw [x_hasBit hM (by omega)]
    simp only [bs]
    rw [hT.2.2.2.1]
    rcases (show A 0 3 = 0 ∨ A 0 3 = 1 ∨ A 0 3 = 2 by omega) with e3 | e3 | e3 <;> rw [e3] <;> cases M.testBit p <;> cases M.testBit q <;> rfl
theorem m_isSaid {m : Mem} {A : Abs} (hA : okA A) (hP : PM m A) (hG : GM m 0 A) {p q h : Nat} (hp : p < A 0 0) (hq : q < A 0 0) (hh : h < 12) : fn8_isSaid (nI h) (nI p) (nI q) m = some (bI (saidB A h p q), m) := by
  have hnp := hA.1
  have hk := (hA.2.2.2.2.2.1 p hp).1
  have hl := hA.2.2.2.1
  have g2 := hG.2.1
  rw [Nat.zero_add] at g2
  unfold fn8_isSaid fn8_isSaid_71 saidB saidF
  rw [m_kindOf hA hP hp]
  simp only [bs]
  rw [show (4 : Int32) = nI 4 from rfl]
  by_cases e : A 1 p = 4
  · rw [if_neg (by rw [e]; exact fun z => z rfl), if_pos e]
    rfl
  · rw [if_pos (by rw [eq_n (by omega) (by omega)]; exact e), if_neg e, m_isSilent hA hP hG hp hh]
    simp only [bs]
    rw [m_isSilent hA hP hG hq hh]
    simp only [bs, if_pos ib_55, c55]
    rw [g2]
    rcases (show A 0 3 = 0 ∨ A 0 3 = 1 ∨ A 0 3 = 2 by omega) with e3 | e3 | e3 <;> rw [e3] <;> cases sil A h p <;> cases sil A h q <;> rfl
def tsaid (A : Abs) (k : Nat) : Bool := saidB A (A 8 k) (A 9 k) (A 10 k)
theorem isb_b (b : Bool) : isb (bI b) = true := by cases b <;> rfl
theorem x_isTalkSaid {x : Mem} {A : Abs} (hA : okA A) {b k : Nat} (hT : TX x b A) (hk : k < A 0 2) : fn6_isTalkSaid b (nI k) x = some (bI (tsaid A k), x) := by
  have hnt := hA.2.2.1
  obtain ⟨k1, k2, k3, -⟩ := hA.2.2.2.2.2.2.2 k hk
  obtain ⟨t1, t2, t3⟩ := hT.2.2.2.2.2.2.2 k hk
  have hib : ib (nI k) 10 = true := ib_y (by omega) (by omega)
  unfold fn6_isTalkSaid
  simp only [if_pos hib]
  rw [cl_n (by omega), t1]
  obtain ⟨M, h1, h2, h3⟩ := x_silentOnes (h := A 8 k) hA hT (by omega)
  rw [h3]
  simp only [bs]
  rw [t2, t3, x_isSaid hA hT (by omega) k2 k3]
  simp only [bs]
  rw [if_pos (isb_b _), h2, h2]
  rfl
theorem m_isTalkSaid {m : Mem} {A : Abs} (hA : okA A) (hP : PM m A) (hG : GM m 0 A) {k : Nat} (hk : k < A 0 2) : fn8_isTalkSaid (nI k) m = some (bI (tsaid A k), m) := by
  have hnt := hA.2.2.1
  obtain ⟨k1, k2, k3, -⟩ := hA.2.2.2.2.2.2.2 k hk
  obtain ⟨t1, t2, t3⟩ := hG.2.2.2.2 k hk
  rw [Nat.zero_add] at t1 t2 t3
  unfold fn8_isTalkSaid
  rw [e24, show nI (24 + 3 * k) + 1 = nI (24 + 3 * k + 1) from nI_add _ 1, show nI (24 + 3 * k) + 2 = nI (24 + 3 * k + 2) from nI_add _ 2, if_pos (ib_y (by omega) (by omega)), if_pos (ib_y (by omega) (by omega)), if_pos (ib_y (by omega) (by omega)), cl_n (by omega), cl_n (by omega), cl_n (by omega), t1, t2, t3, m_isSaid hA hP hG k2 k3 k1]
  simp only [bs]
  rw [if_pos (isb_b _)]
  rfl
