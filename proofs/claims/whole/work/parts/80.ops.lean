def lstS (fit : Nat → Bool) : Nat → Int32
  | 0 => -4
  | s + 1 => if fit s = true ∧ cntS fit s = 0 then nI s else lstS fit s
def anS (st : Int32 → Int32 → Int32) (b0 : Int32) (fit : Nat → Bool) (c : Nat) : Int32 := foldS st b0 fit c
theorem n0_n {a : Nat} (h : a < 1048576) : (nI a = 0) = (a = 0) := eq_n (b := 0) h (by omega)
theorem m_fakesL {m : Mem} {nc n k : Nat} {f g : Nat → Nat} (h3 : m 0 3 = nI nc) (hnc : nc ≤ 6) (hk : k < 100) (hm : hasTM m n f g) {b0 u : Int32} {kk : Int32 → Int32 → Int32 → Int32 → Int32 → Mem → Option (Int32 × Mem)} : ∀ d c fu, c + d = 2 ^ nc → d < fu → fn8_fakes_48 (nI k) u kk fu (nI (cntS (fitS nc n f g k) c)) (lstS (fitS nc n f g k) c) (foldS (fun a s => a &&& s) b0 (fitS nc n f g k) c) (foldS (fun a s => a ||| s) 0 (fitS nc n f g k) c) (nI c) m = kk (nI (cntS (fitS nc n f g k) (2 ^ nc))) (lstS (fitS nc n f g k) (2 ^ nc)) (foldS (fun a s => a &&& s) b0 (fitS nc n f g k) (2 ^ nc)) (foldS (fun a s => a ||| s) 0 (fitS nc n f g k) (2 ^ nc)) (nI (2 ^ nc)) m := by
  have hpw := pow_le6 hnc
  intro d
  induction d with
  | zero =>
    intro c fu hc hf
    obtain ⟨fu, rfl⟩ : ∃ q, fu = q + 1 := ⟨fu - 1, by omega⟩
    have e : c = 2 ^ nc := by omega
    rw [fn8_fakes_48, h3, one_n nc (by omega), e, if_pos (nI_le (by omega) (by omega))]
  | succ d ih =>
    intro c fu hc hf
    obtain ⟨fu, rfl⟩ : ∃ q, fu = q + 1 := ⟨fu - 1, by omega⟩
    have hcl := cntS_le' (fitS nc n f g k) c
    have key := ih (c + 1) fu (by omega) (by omega)
    rw [cntS, lstS, foldS, foldS] at key
    rw [fn8_fakes_48, h3, one_n nc (by omega), if_neg (nI_ge (by omega) (by omega)), m_canBe h3 hnc (by omega) hk hm]
    simp only [bp, fn8_fakes_80]
    rw [show nI c + 1 = nI (c + 1) from nI_add c 1, show nI (cntS (fitS nc n f g k) c) + 1 = nI (cntS (fitS nc n f g k) c + 1) from nI_add _ 1]
    cases e : fitS nc n f g k c
    · rw [if_pos bI_f]
      simp only [e, Bool.false_eq_true, if_false, false_and, Nat.add_zero] at key
      exact key
    · rw [if_neg (by rw [bI_t]; exact n10)]
      simp only [e, if_true, true_and] at key
      by_cases e0 : cntS (fitS nc n f g k) c = 0
      · rw [if_neg (show ¬ ¬ nI (cntS (fitS nc n f g k) c) = 0 by rw [e0]; exact fun z => z rfl)]
        rw [if_pos e0] at key
        exact key
      · rw [if_pos (show ¬ nI (cntS (fitS nc n f g k) c) = 0 by rw [n0_n (by omega)]; exact e0)]
        rw [if_neg e0] at key
        exact key
def ansF (nc : Nat) (fit : Nat → Bool) (u : Int32) : Int32 := if ¬ u = 0 then (if ¬ nI (cntS fit (2 ^ nc)) = 0 then (if ¬ u = 1 then (if ¬ u = 2 then nI (2 ^ nc - 1) &&& (foldS (fun a s => a ||| s) 0 fit (2 ^ nc) ^^^ (-1)) else foldS (fun a s => a &&& s) (nI (2 ^ nc - 1)) fit (2 ^ nc)) else lstS fit (2 ^ nc)) else -4) else nI (cntS fit (2 ^ nc))
theorem m_fakes {m : Mem} {nc n k : Nat} {f g : Nat → Nat} (h3 : m 0 3 = nI nc) (hnc : nc ≤ 6) (hk : k < 4) (hm : hasTM m n f g) {j : Nat} (hj : j < 4) : fn8_fakes (nI k) (nI j) m = some (ansF nc (fitS nc n f g k) (nI j), m) := by
  have hpw := pow_le6 hnc
  have key := m_fakesL (k := k) h3 hnc (by omega) hm (b0 := nI (2 ^ nc - 1)) (u := nI j) (kk := fun x3_48 x4_48 x5_48 x6_48 x7_48 w_48 => (if ¬ nI j = 0 then (if ¬ x3_48 = 0 then (if ¬ nI j = 1 then (if ¬ nI j = 2 then some (((((1 : Int32) <<< ((w_48 0 3) &&& 31)) - 1) &&& (x6_48 ^^^ (-1))), w_48) else some (x5_48, w_48)) else some (x4_48, w_48)) else some ((-4), w_48)) else some (x3_48, w_48))) (2 ^ nc) 0 1000 (by omega) (by omega)
  unfold fn8_fakes
  rw [show (3 : Int64) = (nI 4 - 1).toInt64 by decide, in_yes hk (by omega)]
  simp only [bp, if_neg n10]
  rw [in_yes hj (by omega)]
  simp only [bp, if_pos n10]
  rw [h3, all_n nc (by omega)]
  refine key.trans ?_
  rw [h3, all_n nc (by omega)]
  unfold ansF
  by_cases e0 : nI j = 0
  · rw [if_neg (fun z => z e0), if_neg (fun z => z e0)]
  · rw [if_pos e0, if_pos e0]
    by_cases e1 : nI (cntS (fitS nc n f g k) (2 ^ nc)) = 0
    · rw [if_neg (fun z => z e1), if_neg (fun z => z e1)]
    · rw [if_pos e1, if_pos e1]
      by_cases e2 : nI j = 1
      · rw [if_neg (fun z => z e2), if_neg (fun z => z e2)]
      · rw [if_pos e2, if_pos e2]
        by_cases e3 : nI j = 2
        · rw [if_neg (fun z => z e3), if_neg (fun z => z e3)]
        · rw [if_pos e3, if_pos e3]
theorem lst_e {fit : Nat → Bool} {T : Nat} {e : Nat → Int32} (he : ∀ s, s < T → fit s = true → e (cntS fit s) = nI s) : ∀ c, c ≤ T → 0 < cntS fit c → lstS fit c = e 0 := by
  intro c
  induction c with
  | zero => intro _ h; simp [cntS] at h
  | succ c ih =>
    intro hc hp
    rw [lstS]
    by_cases e0 : cntS fit c = 0
    · cases ef : fit c
      · rw [cntS, ef, e0] at hp
        simp at hp
      · rw [if_pos ⟨rfl, e0⟩, ← he c (by omega) ef, e0]
    · rw [if_neg (fun z => e0 z.2)]
      exact ih (by omega) (by omega)
theorem m1_and : ∀ c, c < 64 → (-1 : Int32) &&& nI c = nI c := by decide
theorem all_and : ∀ n, n < 7 → ∀ c, c < 64 → c < 2 ^ n → nI (2 ^ n - 1) &&& nI c = nI c := by decide
theorem and_e {nc : Nat} {fit : Nat → Bool} (hnc : nc ≤ 6) : ∀ c, c ≤ 2 ^ nc → (cntS fit c = 0 ∧ foldS (fun a s => a &&& s) (-1) fit c = -1 ∧ foldS (fun a s => a &&& s) (nI (2 ^ nc - 1)) fit c = nI (2 ^ nc - 1)) ∨ (0 < cntS fit c ∧ foldS (fun a s => a &&& s) (-1) fit c = foldS (fun a s => a &&& s) (nI (2 ^ nc - 1)) fit c) := by
  have hpw := pow_le6 hnc
  intro c
  induction c with
  | zero => intro _; exact Or.inl ⟨rfl, rfl, rfl⟩
  | succ c ih =>
    intro hc
    rw [cntS, foldS, foldS]
    cases ef : fit c
    · simp only [Bool.false_eq_true, if_false, Nat.add_zero]
      exact ih (by omega)
    · simp only [if_true]
      rcases ih (by omega) with ⟨-, h2, h3⟩ | ⟨-, h2⟩
      · rw [h2, h3, m1_and c (by omega), all_and nc (by omega) c (by omega) (by omega)]
        exact Or.inr ⟨by omega, rfl⟩
      · rw [h2]
        exact Or.inr ⟨by omega, rfl⟩
theorem x_inAllL {x : Mem} {N : Nat} (hN : N ≤ 64) (h1 : x 64 1 = nI N) {k : Int32 → Int32 → Mem → Option (Int32 × Mem)} : ∀ d c fu, c + d = N → d < fu → fn1_inAll_4 k fu (foldI (fun a s => a &&& s) (-1) (x 65) c) (nI c) x = k (foldI (fun a s => a &&& s) (-1) (x 65) N) (nI N) x := by
  intro d
  induction d with
  | zero =>
    intro c fu hc hf
    obtain ⟨fu, rfl⟩ : ∃ q, fu = q + 1 := ⟨fu - 1, by omega⟩
    have e : c = N := by omega
    rw [fn1_inAll_4, h1, e, if_pos (nI_le (by omega) (by omega))]
  | succ d ih =>
    intro c fu hc hf
    obtain ⟨fu, rfl⟩ : ∃ q, fu = q + 1 := ⟨fu - 1, by omega⟩
    have key := ih (c + 1) fu (by omega) (by omega)
    rw [fn1_inAll_4, h1, if_neg (nI_ge (by omega) (by omega)), if_pos (ib_y (by omega) (by omega)), cl_n (by omega), show nI c + 1 = nI (c + 1) from nI_add c 1]
    exact key
theorem x_inAnyL {x : Mem} {N : Nat} (hN : N ≤ 64) (h1 : x 64 1 = nI N) {k : Int32 → Int32 → Mem → Option (Int32 × Mem)} : ∀ d c fu, c + d = N → d < fu → fn1_inAny_4 k fu (foldI (fun a s => a ||| s) 0 (x 65) c) (nI c) x = k (foldI (fun a s => a ||| s) 0 (x 65) N) (nI N) x := by
  intro d
  induction d with
  | zero =>
    intro c fu hc hf
    obtain ⟨fu, rfl⟩ : ∃ q, fu = q + 1 := ⟨fu - 1, by omega⟩
    have e : c = N := by omega
    rw [fn1_inAny_4, h1, e, if_pos (nI_le (by omega) (by omega))]
  | succ d ih =>
    intro c fu hc hf
    obtain ⟨fu, rfl⟩ : ∃ q, fu = q + 1 := ⟨fu - 1, by omega⟩
    have key := ih (c + 1) fu (by omega) (by omega)
    rw [fn1_inAny_4, h1, if_neg (nI_ge (by omega) (by omega)), if_pos (ib_y (by omega) (by omega)), cl_n (by omega), show nI c + 1 = nI (c + 1) from nI_add c 1]
    exact key
theorem RR_f {x x' m : Mem} (h : RR x m) (hx : ∀ k, k ≠ 64 → k ≠ 65 → x' k = x k) (h0 : x' 64 0 = x 64 0) : RR x' m := by
  refine same_RR h ?_ (fun k _ _ => hx k (by omega) (by omega)) (keepM_rf m) (fun _ _ => rfl) ⟨rfl, rfl, rfl⟩
  exact ⟨fun k _ _ => hx k (by omega) (by omega), by rw [hx _ (by omega) (by omega)], hx _ (by omega) (by omega), hx _ (by omega) (by omega), hx _ (by omega) (by omega), h0, hx _ (by omega) (by omega), hx _ (by omega) (by omega), hx _ (by omega) (by omega), by rw [hx _ (by omega) (by omega)]⟩
theorem RH_x {x m : Mem} (h : RH x m) : ∃ n f g, hasT x n f g ∧ hasTM m n f g := by
  obtain ⟨n, f, g, hn, k1, k2, k3⟩ := h
  exact ⟨n, f, g, ⟨hn, k1, fun i hi => ⟨(k3 i hi).2.1, (k3 i hi).2.2.1, (k3 i hi).2.2.2.2.1⟩⟩, ⟨hn, k2, fun i hi => ⟨(k3 i hi).2.1, (k3 i hi).2.2.2.1, (k3 i hi).2.2.2.2.2⟩⟩⟩
theorem sim_fakes : S_fakes RR := fun x m h a b => by
  obtain ⟨A, hA, hT, hP, hG, hI, hTp, hF, hK, hH, hS, hR⟩ := (RR_iff x m).mp h
  obtain ⟨n, f, g, hx, hm⟩ := RH_x hH
  have hnc := hA.2.1
  have hpw := pow_le6 hnc
  rcases in_or a 4 (by omega) with ho | ⟨k, hk, rfl⟩
  · unfold fn7_fakes fn8_fakes
    rw [show (3 : Int64) = (nI 4 - 1).toInt64 by decide, in_no ho (by omega)]
    simp only [bp, if_true]
    rcases out_lt ho with g | ⟨g1, g2⟩
    · rw [if_pos g]
      exact ⟨-1, x, m, rfl, rfl, h⟩
    · rw [if_neg g1, if_pos]
      · exact ⟨-1, x, m, rfl, rfl, h⟩
      · have := ge_ti (by omega) g2
        rw [Int32.lt_iff_toInt_lt]
        have g3 : (3 : Int32).toInt = 3 := by decide
        omega
  · rcases in_or b 4 (by omega) with ho | ⟨j, hj, rfl⟩
    · unfold fn7_fakes fn8_fakes
      rw [show (3 : Int64) = (nI 4 - 1).toInt64 by decide, in_yes hk (by omega), if_neg (nI_pos (by omega)), if_neg (show ¬ (3 : Int32) < nI k from nI_nlt (a := 3) (by omega) (by omega))]
      simp only [bp, if_neg n10]
      rw [in_no ho (by omega)]
      simp only [bp, not_true_eq_false, if_false]
      rcases out_lt ho with g | ⟨g1, g2⟩
      · rw [if_pos g]
        exact ⟨-1, x, m, rfl, rfl, h⟩
      · rw [if_neg g1, if_neg (show ¬ b ≤ 3 from le_lit (n := 3) g1 g2 (by omega))]
        exact ⟨-1, x, m, rfl, rfl, h⟩
    · rw [m_fakes hP.2.1 hnc hk hm hj]
      obtain ⟨x', r1, r2, r3, r4, r5⟩ := x_find (k := k) hnc (by omega) hx
      have hNl := cntS_le' (fitS (A 0 1) n f g k) (2 ^ A 0 1)
      refine ⟨_, x', m, ?_, rfl, RR_f h r1 r2⟩
      unfold fn7_fakes ansF
      rw [if_neg (nI_pos (by omega)), if_neg (show ¬ (3 : Int32) < nI k from nI_nlt (a := 3) (by omega) (by omega)), if_neg (nI_pos (by omega)), if_pos (show nI j ≤ (3 : Int32) from nI_le (b := 3) (by omega) (by omega)), hT.2.1, r5]
      simp only [bp]
      rw [r3, r1 1 (by omega) (by omega), hT.2.1]
      by_cases e0 : nI j = 0
      · rw [if_neg (fun z => z e0), if_neg (fun z => z e0)]
      · rw [if_pos e0, if_pos e0]
        by_cases e1 : nI (cntS (fitS (A 0 1) n f g k) (2 ^ A 0 1)) = 0
        · rw [if_neg (fun z => z e1), if_neg (fun z => z e1)]
        · have hpos : 0 < cntS (fitS (A 0 1) n f g k) (2 ^ A 0 1) := by
            rw [n0_n (by omega)] at e1
            omega
          rw [if_pos e1, if_pos e1]
          by_cases e2 : nI j = 1
          · rw [if_pos e2, if_neg (show ¬ ¬ nI j = 1 from fun z => z e2), if_pos (show ib 0 64 = true by decide), lst_e r4 _ (Nat.le_refl _) hpos]
            rfl
          · rw [if_neg e2, if_pos e2]
            by_cases e3 : nI j = 2
            · rw [if_pos e3, if_neg (fun z => z e3)]
              have q : fn1_inAll x' = some (foldI (fun a s => a &&& s) (-1) (x' 65) (cntS (fitS (A 0 1) n f g k) (2 ^ A 0 1)), x') := x_inAllL (by omega) r3 (cntS (fitS (A 0 1) n f g k) (2 ^ A 0 1)) 0 1000 (by omega) (by omega)
              rw [q, fold_eq r4 _ (Nat.le_refl _)]
              simp only [bp]
              rcases and_e (fit := fitS (A 0 1) n f g k) hnc (2 ^ A 0 1) (Nat.le_refl _) with ⟨z, -⟩ | ⟨-, z⟩
              · omega
              · rw [z]
            · rw [if_neg e3, if_pos e3]
              unfold fn7_allOf
              simp only [bp]
              have q : fn1_inAny x' = some (foldI (fun a s => a ||| s) 0 (x' 65) (cntS (fitS (A 0 1) n f g k) (2 ^ A 0 1)), x') := x_inAnyL (by omega) r3 (cntS (fitS (A 0 1) n f g k) (2 ^ A 0 1)) 0 1000 (by omega) (by omega)
              rw [q, fold_eq r4 _ (Nat.le_refl _), all_n _ (by omega)]
              simp only [bp]
/-! the next test -/
def stH (v : Int32) (b : Nat) (s : Int32) : Nat := if s &&& v = 0 then b else b + 1
theorem foldI_le {v : Int32} {e : Nat → Int32} : ∀ c, foldI (stH v) 0 e c ≤ c := by
  intro c
  induction c with
  | zero => exact Nat.le_refl _
  | succ c ih =>
    rw [foldI, stH]
    split <;> omega
theorem x_worstL {x : Mem} {N : Nat} {v : Int32} (hN : N ≤ 64) (h1 : x 64 1 = nI N) {k : Int32 → Int32 → Mem → Option (Int32 × Mem)} : ∀ d c fu, c + d = N → d < fu → fn1_leftAtWorst_4 v k fu (nI (foldI (stH v) 0 (x 65) c)) (nI c) x = k (nI (foldI (stH v) 0 (x 65) N)) (nI N) x := by
  intro d
  induction d with
  | zero =>
    intro c fu hc hf
    obtain ⟨fu, rfl⟩ : ∃ q, fu = q + 1 := ⟨fu - 1, by omega⟩
    have e : c = N := by omega
    rw [fn1_leftAtWorst_4, h1, e, if_pos (nI_le (by omega) (by omega))]
  | succ d ih =>
    intro c fu hc hf
    obtain ⟨fu, rfl⟩ : ∃ q, fu = q + 1 := ⟨fu - 1, by omega⟩
    have key := ih (c + 1) fu (by omega) (by omega)
    rw [foldI, stH] at key
    rw [fn1_leftAtWorst_4, h1, if_neg (nI_ge (by omega) (by omega)), if_pos (ib_y (by omega) (by omega)), cl_n (by omega)]
    simp only [fn1_leftAtWorst_29, fn7_oneIf]
    by_cases e : x 65 c &&& v = 0
    · rw [if_pos e, if_pos trivial]
      simp only [bp]
      rw [show nI c + 1 = nI (c + 1) from nI_add c 1, show nI (foldI (stH v) 0 (x 65) c) + 0 = nI (foldI (stH v) 0 (x 65) c) by simp]
      rw [if_pos e] at key
      exact key
    · rw [if_neg e, if_neg n10]
      simp only [bp]
      rw [show nI c + 1 = nI (c + 1) from nI_add c 1, show nI (foldI (stH v) 0 (x 65) c) + 1 = nI (foldI (stH v) 0 (x 65) c + 1) from nI_add _ 1]
      rw [if_neg e] at key
      exact key
def wst (N hs : Nat) : Nat := if hs < N - hs then N - hs else hs
theorem x_worst {x : Mem} {N : Nat} {v : Int32} (hN : N ≤ 64) (h1 : x 64 1 = nI N) : fn1_leftAtWorst v x = some (nI (wst N (foldI (stH v) 0 (x 65) N)), x) := by
  have hl := foldI_le (v := v) (e := x 65) N
  unfold fn1_leftAtWorst
  refine (x_worstL hN h1 N 0 1000 (by omega) (by omega)).trans ?_
  rw [h1, sub_n hl]
  unfold wst
  by_cases e : foldI (stH v) 0 (x 65) N < N - foldI (stH v) 0 (x 65) N
  · rw [if_pos (nI_lt e (by omega)), if_pos e]
  · rw [if_neg (nI_nlt (by omega) (by omega)), if_neg e]
theorem m_hissL {m : Mem} {nc n k : Nat} {f g : Nat → Nat} (h3 : m 0 3 = nI nc) (hnc : nc ≤ 6) (hk : k < 100) (hm : hasTM m n f g) {x2 x3 x4 x5 v : Int32} {kk : Int32 → Int32 → Mem → Option (Int32 × Mem)} : ∀ d c fu, c + d = 2 ^ nc → d < fu → fn8_next_58 (nI k) x2 x3 x4 x5 v kk fu (nI (foldS (stH v) 0 (fitS nc n f g k) c)) (nI c) m = kk (nI (foldS (stH v) 0 (fitS nc n f g k) (2 ^ nc))) (nI (2 ^ nc)) m := by
  have hpw := pow_le6 hnc
  intro d
  induction d with
  | zero =>
    intro c fu hc hf
    obtain ⟨fu, rfl⟩ : ∃ q, fu = q + 1 := ⟨fu - 1, by omega⟩
    have e : c = 2 ^ nc := by omega
    rw [fn8_next_58, h3, one_n nc (by omega), e, if_pos (nI_le (by omega) (by omega))]
  | succ d ih =>
    intro c fu hc hf
    obtain ⟨fu, rfl⟩ : ∃ q, fu = q + 1 := ⟨fu - 1, by omega⟩
    have key := ih (c + 1) fu (by omega) (by omega)
    rw [foldS, stH] at key
    rw [fn8_next_58, h3, one_n nc (by omega), if_neg (nI_ge (by omega) (by omega)), m_canBe h3 hnc (by omega) hk hm]
    simp only [bp, fn8_next_93]
    rw [show nI c + 1 = nI (c + 1) from nI_add c 1, show nI (foldS (stH v) 0 (fitS nc n f g k) c) + 1 = nI (foldS (stH v) 0 (fitS nc n f g k) c + 1) from nI_add _ 1, show nI (foldS (stH v) 0 (fitS nc n f g k) c) + 0 = nI (foldS (stH v) 0 (fitS nc n f g k) c) by simp]
    by_cases e : nI c &&& v = 0
    · rw [if_pos e]
      rw [if_pos e] at key
      cases ef : fitS nc n f g k c
      · rw [ef] at key
        exact key
      · rw [ef] at key
        exact key
    · rw [if_neg e]
      rw [if_neg e] at key
      cases ef : fitS nc n f g k c
      · rw [if_pos bI_f]
        rw [ef] at key
        exact key
      · rw [if_neg (by rw [bI_t]; exact n10)]
        rw [ef] at key
        exact key
theorem nextL {x m : Mem} {nc n k N : Nat} {f g : Nat → Nat} (h3 : m 0 3 = nI nc) (h4 : x 1 4 = nI nc) (hnc : nc ≤ 6) (hk : k < 100) (hm : hasTM m n f g) (hN : N = cntS (fitS nc n f g k) (2 ^ nc)) (h1 : x 64 1 = nI N) (he : ∀ s, s < 2 ^ nc → fitS nc n f g k s = true → x 65 (cntS (fitS nc n f g k) s) = nI s) {u1 u2 : Int32} {kX kM : Int32 → Int32 → Int32 → Mem → Option (Int32 × Mem)} : ∀ d c fx fm a b, c + d = 2 ^ nc → d < fx → d < fm → ∃ a' b', fn7_next_50 u1 kX fx a b (nI c) x = kX a' b' (nI (2 ^ nc)) x ∧ fn8_next_41 (nI k) u2 (nI N) kM fm a b (nI c) m = kM a' b' (nI (2 ^ nc)) m := by
  have hpw := pow_le6 hnc
  have hNl := cntS_le' (fitS nc n f g k) (2 ^ nc)
  intro d
  induction d with
  | zero =>
    intro c fx fm a b hc hf hg
    obtain ⟨fx, rfl⟩ : ∃ q, fx = q + 1 := ⟨fx - 1, by omega⟩
    obtain ⟨fm, rfl⟩ : ∃ q, fm = q + 1 := ⟨fm - 1, by omega⟩
    have e : c = 2 ^ nc := by omega
    subst e
    refine ⟨a, b, ?_, ?_⟩
    · rw [fn7_next_50]
      unfold fn7_allOf
      simp only [bp]
      rw [h4, all_n nc (by omega), if_pos (nI_lt (by omega) (by omega))]
    · rw [fn8_next_41, h3, one_n nc (by omega), if_pos (nI_le (by omega) (by omega))]
  | succ d ih =>
    intro c fx fm a b hc hf hg
    obtain ⟨fx, rfl⟩ : ∃ q, fx = q + 1 := ⟨fx - 1, by omega⟩
    obtain ⟨fm, rfl⟩ : ∃ q, fm = q + 1 := ⟨fm - 1, by omega⟩
    have hl := foldI_le (v := nI c) (e := x 65) N
    have hfe : foldI (stH (nI c)) 0 (x 65) N = foldS (stH (nI c)) 0 (fitS nc n f g k) (2 ^ nc) := by
      rw [hN]
      exact fold_eq he _ (Nat.le_refl _)
    rw [hfe] at hl
    obtain ⟨W, hW⟩ : ∃ W, W = wst N (foldS (stH (nI c)) 0 (fitS nc n f g k) (2 ^ nc)) := ⟨_, rfl⟩
    have eX : fn7_next_50 u1 kX (fx + 1) a b (nI c) x = if a ≤ nI W then fn7_next_50 u1 kX fx a b (nI (c + 1)) x else fn7_next_50 u1 kX fx (nI W) (nI c) (nI (c + 1)) x := by
      rw [fn7_next_50]
      unfold fn7_allOf
      simp only [bp]
      rw [h4, all_n nc (by omega), if_neg (nI_nlt (by omega) (by omega)), x_worst (by omega) h1, hfe, ← hW, show nI c + 1 = nI (c + 1) from nI_add c 1]
      simp only [bp]
    have eM : fn8_next_41 (nI k) u2 (nI N) kM (fm + 1) a b (nI c) m = if a ≤ nI W then fn8_next_41 (nI k) u2 (nI N) kM fm a b (nI (c + 1)) m else fn8_next_41 (nI k) u2 (nI N) kM fm (nI W) (nI c) (nI (c + 1)) m := by
      rw [fn8_next_41, h3, one_n nc (by omega), if_neg (nI_ge (by omega) (by omega))]
      refine (m_hissL h3 hnc hk hm (2 ^ nc) 0 1000 (by omega) (by omega)).trans ?_
      unfold fn8_next_121 fn8_next_137
      rw [sub_n hl, show nI c + 1 = nI (c + 1) from nI_add c 1]
      unfold wst at hW
      by_cases e : foldS (stH (nI c)) 0 (fitS nc n f g k) (2 ^ nc) ≤ N - foldS (stH (nI c)) 0 (fitS nc n f g k) (2 ^ nc)
      · have hW2 : W = N - foldS (stH (nI c)) 0 (fitS nc n f g k) (2 ^ nc) := by
          rw [hW]
          split <;> omega
        rw [if_pos (nI_le e (by omega)), ← hW2]
        by_cases ea : a ≤ nI W
        · rw [if_pos ea, if_pos ea, if_pos ea]
        · rw [if_neg ea, if_neg ea, if_neg ea]
      · have hW2 : W = foldS (stH (nI c)) 0 (fitS nc n f g k) (2 ^ nc) := by
          rw [hW]
          split <;> omega
        rw [if_neg (nI_ge (by omega) (by omega)), ← hW2]
        by_cases ea : a ≤ nI W
        · rw [if_pos ea, if_pos ea, if_pos ea]
        · rw [if_neg ea, if_neg ea, if_neg ea]
    rw [eX, eM]
    by_cases ea : a ≤ nI W
    · rw [if_pos ea, if_pos ea]
      exact ih (c + 1) fx fm a b (by omega) (by omega) (by omega)
    · rw [if_neg ea, if_neg ea]
      exact ih (c + 1) fx fm _ _ (by omega) (by omega) (by omega)
theorem sim_next : S_next RR := fun x m h a b => by
  obtain ⟨A, hA, hT, hP, hG, hI, hTp, hF, hK, hH, hS, hR⟩ := (RR_iff x m).mp h
  obtain ⟨n, f, g, hx, hm⟩ := RH_x hH
  have hnc := hA.2.1
  have hpw := pow_le6 hnc
  unfold fn7_next fn8_next
  rw [show (3 : Int64) = (nI 4 - 1).toInt64 by decide]
  rcases in_or a 4 (by omega) with ho | ⟨k, hk, rfl⟩
  · rw [in_no ho (by omega)]
    simp only [bp, if_true]
    rcases out_lt ho with g | ⟨g1, g2⟩
    · rw [if_pos g]
      exact ⟨-1, x, m, rfl, rfl, h⟩
    · rw [if_neg g1, if_pos]
      · exact ⟨-1, x, m, rfl, rfl, h⟩
      · have := ge_ti (by omega) g2
        rw [Int32.lt_iff_toInt_lt]
        have g3 : (3 : Int32).toInt = 3 := by decide
        omega
  · rw [in_yes hk (by omega), if_neg (nI_pos (by omega)), if_neg (show ¬ (3 : Int32) < nI k from nI_nlt (a := 3) (by omega) (by omega)), show (1 : Int64) = (nI 2 - 1).toInt64 by decide]
    simp only [bp, if_neg n10]
    rcases in_or b 2 (by omega) with ho | ⟨j, hj, rfl⟩
    · rw [in_no ho (by omega)]
      simp only [bp, not_true_eq_false, if_false]
      rcases out_lt ho with g | ⟨g1, g2⟩
      · rw [if_pos g]
        exact ⟨-1, x, m, rfl, rfl, h⟩
      · rw [if_neg g1, if_neg (show ¬ b ≤ 1 from le_lit (n := 1) g1 g2 (by omega))]
        exact ⟨-1, x, m, rfl, rfl, h⟩
    · rw [in_yes hj (by omega)]
      simp only [bp, if_pos n10]
      rw [if_neg (nI_pos (by omega)), if_pos (show nI j ≤ (1 : Int32) from nI_le (b := 1) (by omega) (by omega)), show (0 : Int32) = nI 0 from rfl, m_fakes hP.2.1 hnc hk hm (j := 0) (by omega)]
      obtain ⟨x', r1, r2, r3, r4, r5⟩ := x_find (k := k) hnc (by omega) hx
      have hNl := cntS_le' (fitS (A 0 1) n f g k) (2 ^ A 0 1)
      rw [hT.2.1, r5]
      simp only [bp]
      rw [r3, show ansF (A 0 1) (fitS (A 0 1) n f g k) (nI 0) = nI (cntS (fitS (A 0 1) n f g k) (2 ^ A 0 1)) from rfl]
      obtain ⟨a', b', s1, s2⟩ := nextL (u1 := nI j) (u2 := nI j) (N := cntS (fitS (A 0 1) n f g k) (2 ^ A 0 1)) hP.2.1 (by rw [r1 1 (by omega) (by omega)]; exact hT.2.1) hnc (by omega) hm rfl r3 r4 (kX := fun x3_50 x4_50 x5_50 w_50 => (if nI j = nI 0 then fn7_next_106 x4_50 w_50 else (if ¬ x4_50 = (-4) then some (x3_50, w_50) else fn7_next_106 x4_50 w_50))) (kM := fun x4_41 x5_41 x6_41 w_41 => (if x5_41 = (-4) then fn8_next_172 x5_41 w_41 else (if ¬ nI j = nI 0 then some (x4_41, w_41) else fn8_next_172 x5_41 w_41))) (2 ^ A 0 1 - 1) 1 1000 1000 (nI (cntS (fitS (A 0 1) n f g k) (2 ^ A 0 1))) (-4) (by omega) (by omega) (by omega)
      refine ⟨if nI j = nI 0 then b' else if ¬ b' = -4 then a' else b', x', m, s1.trans ?_, s2.trans ?_, RR_f h r1 r2⟩
      · unfold fn7_next_106
        split
        · rfl
        · split <;> rfl
      · unfold fn8_next_172
        by_cases e : b' = -4
        · rw [if_pos e, if_neg (show ¬ ¬ b' = -4 from fun z => z e)]
          split <;> rfl
        · rw [if_neg e, if_pos e]
          by_cases ej : nI j = nI 0
          · rw [if_neg (fun z => z ej), if_pos ej]
          · rw [if_pos ej, if_neg ej]
