/-! the first word; hush -/
def allB (f : Nat → Bool) : Nat → Nat → Bool
  | 0, _ => true
  | d + 1, i => f i && allB f d (i + 1)
theorem x_beginL {x : Mem} {n M : Nat} {f g : Nat → Nat} (hn : n ≤ 6) (hM : M < 64) (h0 : x 56 0 = nI n) (hk : ∀ i, i < n → f i < 31 ∧ g i ≤ 1 ∧ x 57 i = nI (f i) ∧ x 58 i = nI (g i)) : ∀ d c fu, c + d = n → d < fu → fn2_canBeginWith_10 (nI M) (fun _ w => some (1, w)) fu (nI c) x = some (bI (allB (fun i => decide ((if M.testBit (f i) = true then 1 else 0) = g i)) d c), x) := by
  intro d
  induction d with
  | zero =>
    intro c fu hc hf
    obtain ⟨fu, rfl⟩ : ∃ q, fu = q + 1 := ⟨fu - 1, by omega⟩
    have e : c = n := by omega
    rw [fn2_canBeginWith_10, h0, e, if_pos (nI_le (by omega) (by omega))]
    rfl
  | succ d ih =>
    intro c fu hc hf
    obtain ⟨fu, rfl⟩ : ∃ q, fu = q + 1 := ⟨fu - 1, by omega⟩
    have key := ih (c + 1) fu (by omega) (by omega)
    obtain ⟨k1, k2, k3, k4⟩ := hk c (by omega)
    have hib : ib (nI c) 6 = true := ib_y (by omega) (by omega)
    rw [fn2_canBeginWith_10, h0, if_neg (nI_ge (by omega) (by omega)), if_pos hib, cl_n (by omega), k3, x_hasBit (by omega) k1]
    simp only [bp, if_pos hib]
    rw [k4, bI_nI, allB]
    by_cases e : (if M.testBit (f c) = true then 1 else 0) = g c
    · rw [if_pos (by rw [e]), show nI c + 1 = nI (c + 1) from nI_add c 1, decide_eq_true e, Bool.true_and]
      exact key
    · rw [if_neg, decide_eq_false e, Bool.false_and]
      · rfl
      · rw [eq_n (by split <;> omega) (by omega)]
        exact e
theorem m_firstL {m : Mem} {n M : Nat} {f g : Nat → Nat} {u v : Int32} {k : Int32 → Int32 → Mem → Option (Int32 × Mem)} (hn : n ≤ 6) (hM : M < 64) (h9 : m 9 11 = nI M) (h0 : m 0 26 = nI n) (hk : ∀ i, i < n → f i < 31 ∧ g i ≤ 1 ∧ m 10 (2 * i) = nI (f i) ∧ m 10 (2 * i + 1) = nI (g i)) : ∀ d c fu b, c + d = n → d < fu → fn8_first_22 u v k fu (bI b) (nI c) m = k (bI (b && allB (fun i => decide ((if M.testBit (f i) = true then 1 else 0) = g i)) d c)) (nI n) m := by
  intro d
  induction d with
  | zero =>
    intro c fu b hc hf
    obtain ⟨fu, rfl⟩ : ∃ q, fu = q + 1 := ⟨fu - 1, by omega⟩
    have e : c = n := by omega
    rw [fn8_first_22, h0, e, if_pos (nI_le (by omega) (by omega)), allB, Bool.and_true]
  | succ d ih =>
    intro c fu b hc hf
    obtain ⟨fu, rfl⟩ : ∃ q, fu = q + 1 := ⟨fu - 1, by omega⟩
    obtain ⟨k1, k2, k3, k4⟩ := hk c (by omega)
    have c11 : (11 : Int32).toNatClampNeg = 11 := by decide
    rw [fn8_first_22, h0, if_neg (nI_ge (by omega) (by omega)), show nI c + 1 = nI (c + 1) from nI_add c 1]
    cases b
    · rw [if_pos bI_f]
      have key := ih (c + 1) fu false (by omega) (by omega)
      rw [Bool.false_and] at key ⊢
      exact key
    · rw [if_neg (by rw [bI_t]; exact n10), if_pos (show ib 11 12 = true by decide), c11, h9, e20, show nI (2 * c) + 1 = nI (2 * c + 1) from nI_add _ 1, if_pos (ib_y (by omega) (by omega)), if_pos (ib_y (by omega) (by omega)), cl_n (by omega), cl_n (by omega), k3, k4, bit_n (by omega) k1, bI_nI, Bool.true_and, allB]
      by_cases e : (if M.testBit (f c) = true then 1 else 0) = g c
      · have key := ih (c + 1) fu true (by omega) (by omega)
        rw [if_neg (show ¬ ¬ _ from fun z => z (by rw [e])), decide_eq_true e]
        exact key
      · have key := ih (c + 1) fu false (by omega) (by omega)
        rw [if_pos, decide_eq_false e]
        · exact key
        · rw [eq_n (by split <;> omega) (by omega)]
          exact e
def begB (A : Abs) (n : Nat) (f g : Nat → Nat) (p : Nat) : Bool := allB (fun i => decide ((if (kn A (tsaid A) p 12).testBit (f i) = true then 1 else 0) = g i)) n 0
theorem x_firstL {x : Mem} {A : Abs} (hA : okA A) (hT : TX x 1 A) (hs : sayX x A (tsaid A)) {n : Nat} {f g : Nat → Nat} (hn : n ≤ 6) (h0 : x 56 0 = nI n) (hk : ∀ i, i < n → f i < 31 ∧ g i ≤ 1 ∧ x 57 i = nI (f i) ∧ x 58 i = nI (g i)) {k : Int32 → Int32 → Mem → Option (Int32 × Mem)} : ∀ d c fu, c + d = A 0 0 → d < fu → fn7_first_11 k fu (nI (msk (begB A n f g) c)) (nI c) x = k (nI (msk (begB A n f g) (A 0 0))) (nI (A 0 0)) x := by
  have hnp := hA.1
  intro d
  induction d with
  | zero =>
    intro c fu hc hf
    obtain ⟨fu, rfl⟩ : ∃ q, fu = q + 1 := ⟨fu - 1, by omega⟩
    have e : c = A 0 0 := by omega
    rw [fn7_first_11, hT.1, e, if_pos (nI_le (by omega) (by omega))]
  | succ d ih =>
    intro c fu hc hf
    obtain ⟨fu, rfl⟩ : ∃ q, fu = q + 1 := ⟨fu - 1, by omega⟩
    have key := ih (c + 1) fu (by omega) (by omega)
    have hb : fn2_canBeginWith (nI c) x = some (bI (begB A n f g c), x) := by
      unfold fn2_canBeginWith
      refine bind_eq (x_behind (n := 11) hA hT hs (p := c) (by omega) (by omega)) ?_
      exact x_beginL hn (kn_lt hA (by omega) 12) h0 hk n 0 1000 (by omega) (by omega)
    rw [fn7_first_11, hT.1, if_neg (nI_ge (by omega) (by omega)), hb]
    simp only [bp]
    rw [show nI c + 1 = nI (c + 1) from nI_add c 1]
    cases e : begB A n f g c
    · rw [if_pos bI_f]
      rw [msk_n e] at key
      exact key
    · rw [if_neg (by rw [bI_t]; exact n10), msk_y (by omega) e]
      exact key
theorem m_firstP {m : Mem} {A : Abs} (hA : okA A) (hP : PM m A) (hG : GM m 0 A) {n : Nat} {f g : Nat → Nat} (hn : n ≤ 6) (h0 : m 0 26 = nI n) (hk : ∀ i, i < n → f i < 31 ∧ g i ≤ 1 ∧ m 10 (2 * i) = nI (f i) ∧ m 10 (2 * i + 1) = nI (g i)) {k : Int32 → Int32 → Mem → Option (Int32 × Mem)} : ∀ d c fu w, c + d = A 0 0 → d < fu → (∀ j, j ≠ 9 → w j = m j) → ∃ w', (∀ j, j ≠ 9 → w' j = m j) ∧ fn8_first_4 k fu (nI (msk (begB A n f g) c)) (nI c) w = k (nI (msk (begB A n f g) (A 0 0))) (nI (A 0 0)) w' := by
  have hnp := hA.1
  intro d
  induction d with
  | zero =>
    intro c fu w hc hf hw
    obtain ⟨fu, rfl⟩ : ∃ q, fu = q + 1 := ⟨fu - 1, by omega⟩
    have e : c = A 0 0 := by omega
    exact ⟨w, hw, by rw [fn8_first_4, hw 0 (by omega), hP.1, e, if_pos (nI_le (by omega) (by omega))]⟩
  | succ d ih =>
    intro c fu w hc hf hw
    obtain ⟨fu, rfl⟩ : ∃ q, fu = q + 1 := ⟨fu - 1, by omega⟩
    have hP' : PM w A := PM_congr hP (by rw [hw _ (by omega)]) (by rw [hw _ (by omega)]) (hw _ (by omega))
    have hG' : GM w 0 A := GM_keep hA hG (fun j _ _ => by rw [hw _ (by omega)])
    obtain ⟨w1, r1, r2, r3⟩ := m_lay hA hP' hG' (p := c) (by omega)
    have r1' : ∀ j, j ≠ 9 → w1 j = m j := fun j hj => by rw [r1 j hj, hw j hj]
    obtain ⟨w', s1, s2⟩ := ih (c + 1) fu w1 (by omega) (by omega) r1'
    refine ⟨w', s1, ?_⟩
    rw [fn8_first_4, hP'.1, if_neg (nI_ge (by omega) (by omega))]
    refine bind_eq r3 ?_
    have key := m_firstL (u := nI (msk (begB A n f g) c)) (v := nI c) (k := fun x3_22 x4_22 w_22 => (if x3_22 = 0 then fn8_first_4 k fu (nI (msk (begB A n f g) c) ||| 0) (nI c + 1) w_22 else fn8_first_4 k fu (nI (msk (begB A n f g) c) ||| ((1 : Int32) <<< (nI c &&& 31))) (nI c + 1) w_22)) hn (kn_lt (sd := tsaid A) (p := c) hA (by omega) 12) (r2 11 (by omega)) (by rw [r1' 0 (by omega)]; exact h0) (fun i hi => by rw [r1' 10 (by omega)]; exact hk i hi) n 0 1000 true (by omega) (by omega)
    refine key.trans ?_
    rw [Bool.true_and]
    rw [show nI c + 1 = nI (c + 1) from nI_add c 1, or_z]
    cases e : begB A n f g c
    · rw [if_pos (show bI (allB _ n 0) = 0 by rw [show allB _ n 0 = false from e]; rfl)]
      rw [msk_n e] at s2
      exact s2
    · rw [if_neg (show ¬ bI (allB _ n 0) = 0 by rw [show allB _ n 0 = true from e]; exact n10), msk_y (by omega) e]
      exact s2
theorem sim_first : S_first RR := fun x m h => by
  obtain ⟨A, hA, hT, hP, hG, hI, hTp, hF, ⟨n, f, g, hn, k1, k2, k3⟩, hR⟩ := (RR_iff x m).mp h
  have hnp := hA.1
  obtain ⟨x', a1, a2, a3⟩ := x_take hA hT
  have hT' : TX x' 1 A := TX_keep hT (fun i hi => a1 _ (by omega))
  obtain ⟨m', b1, b2⟩ := m_firstP hA hP hG hn k2 (fun i hi => ⟨by have := (k3 i hi).1; omega, (k3 i hi).2.1, (k3 i hi).2.2.2.1, (k3 i hi).2.2.2.2.2⟩) (k := fun x1_4 x2_4 w_4 => some (x1_4, w_4)) (A 0 0) 0 1000 m (by omega) (by omega) (fun _ _ => rfl)
  refine ⟨nI (msk (begB A n f g) (A 0 0)), x', m', ?_, b2, RR_xm h a1 b1⟩
  unfold fn7_first
  refine bind_eq a3 ?_
  exact x_firstL hA hT' (say_plain hA a2) hn (by rw [a1 _ (by omega)]; exact k1) (fun i hi => by rw [a1 57 (by omega), a1 58 (by omega)]; exact ⟨by have := (k3 i hi).1; omega, (k3 i hi).2.1, (k3 i hi).2.2.1, (k3 i hi).2.2.2.2.1⟩) (A 0 0) 0 1000 (by omega) (by omega)
