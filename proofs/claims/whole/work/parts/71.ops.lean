def msk (f : Nat → Bool) : Nat → Nat
  | 0 => 0
  | n + 1 => msk f n ||| (if f n = true then 2 ^ n else 0)
theorem msk_bit (f : Nat → Bool) (i : Nat) : ∀ n, (msk f n).testBit i = (decide (i < n) && f i) := by
  intro n
  induction n with
  | zero => simp [msk]
  | succ n ih =>
    rw [msk, Nat.testBit_or, ih]
    by_cases e : i = n
    · subst e
      cases hf : f i <;> simp
    · have e1 : (if f n = true then 2 ^ n else 0).testBit i = false := by
        split
        · rw [Nat.testBit_two_pow]
          exact decide_eq_false (by omega)
        · exact Nat.zero_testBit i
      rw [e1, Bool.or_false]
      have e2 : decide (i < n) = decide (i < n + 1) := by
        apply decide_eq_decide.mpr
        omega
      rw [e2]
theorem msk_lt (f : Nat → Bool) : ∀ n, msk f n < 2 ^ n := by
  intro n
  induction n with
  | zero => simp [msk]
  | succ n ih =>
    rw [msk]
    refine Nat.or_lt_two_pow (Nat.lt_trans ih (by rw [Nat.pow_succ]; have := Nat.two_pow_pos n; omega)) ?_
    split
    · rw [Nat.pow_succ]; have := Nat.two_pow_pos n; omega
    · exact Nat.two_pow_pos _
theorem msk_lt20 (f : Nat → Bool) {n : Nat} (h : n ≤ 20) : msk f n < 1048576 := Nat.lt_of_lt_of_le (msk_lt f n) (Nat.pow_le_pow_right (n := 2) (by omega) h)
theorem msk_y {f : Nat → Bool} {c : Nat} (hc : c < 16) (hf : f c = true) : nI (msk f c) ||| ((1 : Int32) <<< (nI c &&& 31)) = nI (msk f (c + 1)) := by
  rw [one_n c (by omega), or_n (msk_lt20 f (by omega)) (Nat.lt_of_lt_of_le (Nat.pow_lt_pow_right (a := 2) (by omega) hc) (by decide)), msk, if_pos hf]
theorem msk_n {f : Nat → Bool} {c : Nat} (hf : f c = false) : msk f (c + 1) = msk f c := by
  rw [msk, hf]
  simp
theorem or_z (a : Int32) : a ||| 0 = a := by simp
theorem sil_np {A : Abs} (hA : okA A) {h p : Nat} (hp : A 0 0 ≤ p) : sil A h p = false := by
  have : ∀ n, n ≤ A 0 1 → anyB (silC A h p) n = false := by
    intro n
    induction n with
    | zero => intro _; rfl
    | succ n ih =>
      intro hn
      have := (hA.2.2.2.2.2.2.1 n (by omega)).2.2.1
      rw [anyB, ih (by omega), silC, decide_eq_false (by omega)]
      rfl
  exact this _ (Nat.le_refl _)
theorem x_silentM {x : Mem} {A : Abs} (hA : okA A) {b h : Nat} (hT : TX x b A) (hh : h < 100) : fn6_silentOnes b (nI h) x = some (nI (msk (sil A h) (A 0 0)), x) := by
  obtain ⟨M, h1, h2, h3⟩ := x_silentOnes hA hT hh
  rw [h3]
  have : M = msk (sil A h) (A 0 0) := by
    apply Nat.eq_of_testBit_eq
    intro i
    rw [h2, msk_bit]
    by_cases e : i < A 0 0
    · simp [e]
    · rw [sil_np hA (by omega)]
      simp
  rw [this]
theorem m_silentL {m : Mem} {A : Abs} (hA : okA A) (hP : PM m A) (hG : GM m 0 A) {h : Nat} (hh : h < 12) {k : Int32 → Int32 → Mem → Option (Int32 × Mem)} : ∀ d c f, c + d = A 0 0 → d < f → fn8_silent_13 (nI h) k f (nI (msk (sil A h) c)) (nI c) m = k (nI (msk (sil A h) (A 0 0))) (nI (A 0 0)) m := by
  have hnp := hA.1
  intro d
  induction d with
  | zero =>
    intro c f hc hf
    obtain ⟨f, rfl⟩ : ∃ g, f = g + 1 := ⟨f - 1, by omega⟩
    have e : c = A 0 0 := by omega
    rw [fn8_silent_13, hP.1, e, if_pos (nI_le (by omega) (by omega))]
  | succ d ih =>
    intro c f hc hf
    obtain ⟨f, rfl⟩ : ∃ g, f = g + 1 := ⟨f - 1, by omega⟩
    have key := ih (c + 1) f (by omega) (by omega)
    rw [fn8_silent_13, hP.1, if_neg (nI_ge (by omega) (by omega)), m_isSilent hA hP hG (by omega) hh]
    simp only [bs]
    rw [show nI c + 1 = nI (c + 1) from nI_add c 1, or_z]
    cases e : sil A h c
    · rw [if_pos bI_f]
      rw [msk_n e] at key
      exact key
    · rw [if_neg (by rw [bI_t]; exact n10), msk_y (by omega) e]
      exact key
theorem sim_silent : S_silent RR := fun x m h a => by
  obtain ⟨A, hA, hT, hP, hG, hO⟩ := (RR_iff x m).mp h
  have hnp := hA.1
  unfold fn7_silent fn8_silent
  rcases in_or a 12 (by omega) with ho | ⟨p, hp, rfl⟩
  · rw [x_noHour ho, m_noHour ho]
    exact ⟨-1, x, m, rfl, rfl, h⟩
  · rw [x_hour hp, m_hour hp]
    simp only [bs, if_pos n10, if_neg n10]
    rw [x_silentM hA hT (by omega)]
    exact ⟨_, x, m, rfl, m_silentL hA hP hG hp (A 0 0) 0 1000 (by omega) (by omega), h⟩
theorem x_quietL {x : Mem} {A : Abs} (hA : okA A) (hT : TX x 1 A) {p : Nat} (hp : p < A 0 0) {k : Int32 → Int32 → Mem → Option (Int32 × Mem)} : ∀ d c f, c + d = 12 → d < f → fn7_quiet_17 (nI p) k f (nI (msk (fun h => sil A h p) c)) (nI c) x = k (nI (msk (fun h => sil A h p) 12)) (nI 12) x := by
  have hnp := hA.1
  intro d
  induction d with
  | zero =>
    intro c f hc hf
    obtain ⟨f, rfl⟩ : ∃ g, f = g + 1 := ⟨f - 1, by omega⟩
    have e : c = 12 := by omega
    rw [fn7_quiet_17, e, if_pos (by decide)]
  | succ d ih =>
    intro c f hc hf
    obtain ⟨f, rfl⟩ : ∃ g, f = g + 1 := ⟨f - 1, by omega⟩
    have key := ih (c + 1) f (by omega) (by omega)
    rw [fn7_quiet_17, if_neg (show ¬ (12 : Int32) ≤ nI c from nI_ge (b := 12) (by omega) (by omega)), x_silentM hA hT (by omega)]
    simp only [bs]
    rw [x_hasBit (msk_lt20 _ (by omega)) (by omega), msk_bit, decide_eq_true hp, Bool.true_and, show nI c + 1 = nI (c + 1) from nI_add c 1]
    simp only [bs]
    cases e : sil A c p
    · rw [if_pos bI_f]
      rw [msk_n (f := fun h => sil A h p) e] at key
      exact key
    · rw [if_neg (by rw [bI_t]; exact n10), msk_y (f := fun h => sil A h p) (by omega) e]
      exact key
theorem sim_quiet : S_quiet RR := fun x m h a => by
  obtain ⟨A, hA, hT, hP, hG, hO⟩ := (RR_iff x m).mp h
  have hnp := hA.1
  unfold fn7_quiet fn8_quiet
  rcases in_or a (A 0 0) (by omega) with ho | ⟨p, hp, rfl⟩
  · rw [x_noOne hT.1 ho, m_noOne hP.1 ho hnp]
    exact ⟨-1, x, m, rfl, rfl, h⟩
  · rw [x_hasOne hT.1 hp hnp, m_one hP.1 hp hnp]
    simp only [bs, if_pos n10, if_neg n10]
    obtain ⟨M, h1, h2, h3⟩ := m_quietOf hA hP hG hp
    have e : M = msk (fun h => sil A h p) 12 := by
      apply Nat.eq_of_testBit_eq
      intro i
      rw [h2, msk_bit]
    rw [h3, e]
    exact ⟨_, x, m, x_quietL hA hT hp 12 0 1000 (by omega) (by omega), rfl, h⟩
theorem oneIf_b (b : Bool) (w : Mem) : fn7_oneIf (bI b) w = some (bI b, w) := by cases b <;> rfl
theorem x_maySaid {x : Mem} {A : Abs} (hA : okA A) {b h p q : Nat} (hT : TX x b A) (hp : p < A 0 0) (hq : q < A 0 0) : fn6_isSaid b (nI (msk (sil A h) (A 0 0))) (nI p) (nI q) x = some (bI (saidB A h p q), x) := by
  have hnp := hA.1
  rw [x_isSaid hA hT (msk_lt20 _ (by omega)) hp hq, msk_bit, msk_bit, decide_eq_true hp, decide_eq_true hq, Bool.true_and, Bool.true_and]
  rfl
theorem sim_may : S_may RR := fun x m h a b c => by
  obtain ⟨A, hA, hT, hP, hG, hO⟩ := (RR_iff x m).mp h
  have hnp := hA.1
  unfold fn7_may fn8_may
  rcases can_cases hA hT hP a b c with ⟨e1, e2⟩ | ⟨i, p, q, hi, hp, hq, hpq, rfl, rfl, rfl⟩
  · rw [e1]
    simp only [bs, if_neg (fun z => z rfl : ¬ ¬ (0 : Int32) = 0)]
    rcases e2 with e2 | ⟨e2, e3⟩
    · rw [e2]
      exact ⟨-1, x, m, rfl, rfl, h⟩
    · rw [e2]
      simp only [bs, if_neg n10]
      rw [e3]
      exact ⟨-1, x, m, rfl, rfl, h⟩
  · rw [x_canTalk hA hT hi hp hq hpq, m_hour hi]
    simp only [bs, if_pos n10, if_neg n10]
    rw [m_areTwo hA hP hp hq hpq, x_silentM hA hT (by omega)]
    simp only [bs, if_neg n10]
    rw [x_maySaid hA hT hp hq, m_isSaid hA hP hG hp hq hi]
    simp only [bs]
    rw [oneIf_b]
    refine ⟨bI (saidB A i p q), x, m, rfl, ?_, h⟩
    cases saidB A i p q <;> rfl
theorem x_saidL {x : Mem} {A : Abs} (hA : okA A) (hT : TX x 1 A) {k : Int32 → Int32 → Mem → Option (Int32 × Mem)} : ∀ d c f, c + d = A 0 2 → d < f → fn7_said_4 k f (nI (msk (tsaid A) c)) (nI c) x = k (nI (msk (tsaid A) (A 0 2))) (nI (A 0 2)) x := by
  have hnp := hA.2.2.1
  intro d
  induction d with
  | zero =>
    intro c f hc hf
    obtain ⟨f, rfl⟩ : ∃ g, f = g + 1 := ⟨f - 1, by omega⟩
    have e : c = A 0 2 := by omega
    rw [fn7_said_4, hT.2.2.1, e, if_pos (nI_le (by omega) (by omega))]
  | succ d ih =>
    intro c f hc hf
    obtain ⟨f, rfl⟩ : ∃ g, f = g + 1 := ⟨f - 1, by omega⟩
    have key := ih (c + 1) f (by omega) (by omega)
    rw [fn7_said_4, hT.2.2.1, if_neg (nI_ge (by omega) (by omega)), x_isTalkSaid hA hT (by omega)]
    simp only [bs]
    rw [show nI c + 1 = nI (c + 1) from nI_add c 1]
    cases e : tsaid A c
    · rw [if_pos bI_f]
      rw [msk_n e] at key
      exact key
    · rw [if_neg (by rw [bI_t]; exact n10), msk_y (by omega) e]
      exact key
theorem m_saidL {m : Mem} {A : Abs} (hA : okA A) (hP : PM m A) (hG : GM m 0 A) {k : Int32 → Int32 → Mem → Option (Int32 × Mem)} : ∀ d c f, c + d = A 0 2 → d < f → fn8_said_4 k f (nI (msk (tsaid A) c)) (nI c) m = k (nI (msk (tsaid A) (A 0 2))) (nI (A 0 2)) m := by
  have hnp := hA.2.2.1
  have g1 := hG.1
  rw [Nat.zero_add] at g1
  intro d
  induction d with
  | zero =>
    intro c f hc hf
    obtain ⟨f, rfl⟩ : ∃ g, f = g + 1 := ⟨f - 1, by omega⟩
    have e : c = A 0 2 := by omega
    rw [fn8_said_4, if_pos ib_54, c54, g1, e, if_pos (nI_le (by omega) (by omega))]
  | succ d ih =>
    intro c f hc hf
    obtain ⟨f, rfl⟩ : ∃ g, f = g + 1 := ⟨f - 1, by omega⟩
    have key := ih (c + 1) f (by omega) (by omega)
    rw [fn8_said_4, if_pos ib_54, c54, g1, if_neg (nI_ge (by omega) (by omega)), m_isTalkSaid hA hP hG (by omega)]
    simp only [bs]
    rw [show nI c + 1 = nI (c + 1) from nI_add c 1, or_z]
    cases e : tsaid A c
    · rw [if_pos bI_f]
      rw [msk_n e] at key
      exact key
    · rw [if_neg (by rw [bI_t]; exact n10), msk_y (by omega) e]
      exact key
theorem sim_said : S_said RR := fun x m h => by
  obtain ⟨A, hA, hT, hP, hG, hO⟩ := (RR_iff x m).mp h
  have hnt := hA.2.2.1
  exact ⟨_, x, m, x_saidL hA hT (A 0 2) 0 1000 (by omega) (by omega), m_saidL hA hP hG (A 0 2) 0 1000 (by omega) (by omega), h⟩
theorem sim_talk : S_talk RR := fun x m h a b => by
  obtain ⟨A, hA, hT, hP, hG, hO⟩ := (RR_iff x m).mp h
  have hnt := hA.2.2.1
  have g1 := hG.1
  rw [Nat.zero_add] at g1
  unfold fn7_talk fn8_talk
  rw [if_pos ib_54, c54, g1, hT.2.2.1]
  rcases in_or a (A 0 2) (by omega) with ho | ⟨k, hk, rfl⟩
  · rw [in_no ho (by omega)]
    refine ⟨-1, x, m, ?_, rfl, h⟩
    rcases out_lt ho with g | ⟨g1, g2⟩
    · rw [if_pos g]
    · rw [if_neg g1, if_neg]
      rw [Int32.lt_iff_toInt_lt]
      have := Int32.le_iff_toInt_le.mp g2
      omega
  · rw [in_yes hk (by omega), if_neg (nI_pos (by omega)), if_pos (nI_lt hk (by omega))]
    simp only [bs, if_neg n10]
    have hib : ib (nI k) 10 = true := ib_y (by omega) (by omega)
    simp only [if_pos hib]
    rw [cl_n (by omega)]
    obtain ⟨k1, k2, k3⟩ : x 9 k = nI (A 8 k) ∧ x 10 k = nI (A 9 k) ∧ x 11 k = nI (A 10 k) := hT.2.2.2.2.2.2.2 k hk
    obtain ⟨t1, t2, t3⟩ := hG.2.2.2.2 k hk
    rw [Nat.zero_add] at t1 t2 t3
    rw [k1, k2, k3, show (3 : Int64) = (nI 4 - 1).toInt64 by decide, x_isTalkSaid hA hT hk]
    rcases in_or b 4 (by omega) with ho | ⟨j, hj, rfl⟩
    · rw [in_no ho (by omega)]
      have ne := ne_out ho (by omega)
      rw [if_neg (show ¬ b = 0 from ne 0 (by omega)), if_neg (show ¬ b = 1 from ne 1 (by omega)), if_neg (show ¬ b = 2 from ne 2 (by omega)), if_neg (show ¬ b = 3 from ne 3 (by omega))]
      exact ⟨-1, x, m, rfl, rfl, h⟩
    · rw [in_yes hj (by omega)]
      simp only [bs, if_pos n10]
      rw [m_isTalkSaid hA hP hG hk, oneIf_b, e24, nI_add]
      have hib2 : ib (nI (24 + 3 * k + j)) 228 = true := ib_y (by omega) (by omega)
      rw [if_pos hib2, cl_n (by omega)]
      rcases (show j = 0 ∨ j = 1 ∨ j = 2 ∨ j = 3 by omega) with e | e | e | e <;> subst e
      · rw [if_pos (by decide), if_pos (by decide), Nat.add_zero, t1]
        exact ⟨_, x, m, rfl, rfl, h⟩
      · rw [if_neg (by decide), if_pos (by decide), if_pos (by decide), t2]
        exact ⟨_, x, m, rfl, rfl, h⟩
      · rw [if_neg (by decide), if_neg (by decide), if_pos (by decide), if_pos (by decide), t3]
        exact ⟨_, x, m, rfl, rfl, h⟩
      · rw [if_neg (by decide), if_neg (by decide), if_neg (by decide), if_pos (by decide), if_neg (by decide)]
        refine ⟨bI (tsaid A k), x, m, rfl, ?_, h⟩
        simp only [bs]
        cases tsaid A k <;> rfl
