/-! chatter -/
def stS (s : Int32) : Int32 := s * 1103515245 + 12345
def drN (s : Int32) : Nat := (s >>> ((16 : Int32) &&& 31)).toBitVec.toNat % 2 ^ 15
theorem drN_lt (s : Int32) : drN s < 32768 := Nat.mod_lt _ (by decide)
theorem dr_n (s : Int32) : (s >>> ((16 : Int32) &&& 31)) &&& 32767 = nI (drN s) := pk_and _ 15 (by decide)
theorem up2_up2 {w : Mem} {k j : Nat} {u v : Int32} : up2 (up2 w k j u) k j v = up2 w k j v := by
  funext k' j'
  rw [up2_at, up2_at, up2_at]
  by_cases e : k' = k ∧ j' = j
  · rw [if_pos e, if_pos e]
  · rw [if_neg e, if_neg e, if_neg e]
theorem m_draws {w : Mem} {n : Nat} (h0 : 0 < n) (hn : n < 1000) {s : Int32} : fn8_draws (nI n) (up2 w 0 32 s) = some (nI (drN (stS s) % n), up2 w 0 32 (stS s)) := by
  unfold fn8_draws
  rw [if_neg (show ¬ nI n = 0 by rw [show (0 : Int32) = nI 0 from rfl, eq_n (by omega) (by omega)]; omega), up2_same, up2_same, up2_up2]
  have := drN_lt (stS s)
  rw [show s * 1103515245 + 12345 = stS s from rfl, dr_n, pk_rem (by omega) h0 (by omega)]
theorem x_step (s : Int32) (w : Mem) : fn7_stepSeed s w = some (stS s, w) := rfl
theorem x_drawn (s : Int32) (w : Mem) : fn7_drawn s w = some (nI (drN s), w) := by
  unfold fn7_drawn
  rw [dr_n]
theorem PM_32 {m : Mem} {A : Abs} (h : PM m A) (s : Int32) : PM (up2 m 0 32 s) A := PM_congr h (by rw [up2_place (by omega)]) (by rw [up2_place (by omega)]) (by rw [up2_cell (by omega)])
theorem GM_32 {m : Mem} {A : Abs} (hA : okA A) (h : GM m 0 A) (s : Int32) : GM (up2 m 0 32 s) 0 A := GM_keep hA h (fun j _ _ => by rw [up2_cell (by omega)])
theorem bp {α β : Type} (a : α) (f : α → Option β) : (some a).bind f = f a := by
  have h : ∀ o : Option α, o = some a → o.bind f = f a := fun o ho => by
    rw [ho]
    rfl
  exact h _ rfl
theorem chatL {x m : Mem} {A : Abs} (hA : okA A) (hT : TX x 1 A) (hP : PM m A) (hG : GM m 0 A) (h0 : 0 < A 0 0) {n : Nat} (hn : n ≤ 60) {kX : Int32 → Int32 → Int32 → Mem → Option (Int32 × Mem)} {kM : Int32 → Int32 → Mem → Option (Int32 × Mem)} : ∀ d i f g c s, i + d = n → d < f → d < g → ∃ c' s', fn7_chatter_34 (nI n) kX f s (nI c) (nI i) x = kX s' (nI c') (nI n) x ∧ fn8_chatter_34 (nI n) kM g (nI c) (nI i) (up2 m 0 32 s) = kM (nI c') (nI n) (up2 m 0 32 s') := by
  have hnp := hA.1
  intro d
  induction d with
  | zero =>
    intro i f g c s hi hf hg
    obtain ⟨f, rfl⟩ : ∃ q, f = q + 1 := ⟨f - 1, by omega⟩
    obtain ⟨g, rfl⟩ : ∃ q, g = q + 1 := ⟨g - 1, by omega⟩
    have e : i = n := by omega
    subst e
    exact ⟨c, s, by rw [fn7_chatter_34, if_pos (nI_le (by omega) (by omega))], by rw [fn8_chatter_34, if_pos (nI_le (by omega) (by omega))]⟩
  | succ d ih =>
    intro i f g c s hi hf hg
    obtain ⟨f, rfl⟩ : ∃ q, f = q + 1 := ⟨f - 1, by omega⟩
    obtain ⟨g, rfl⟩ : ∃ q, g = q + 1 := ⟨g - 1, by omega⟩
    have l1 := drN_lt (stS s)
    have l2 := drN_lt (stS (stS s))
    have l3 := drN_lt (stS (stS (stS s)))
    have a1 := Nat.mod_lt (drN (stS s)) (show 12 > 0 by omega)
    have a2 := Nat.mod_lt (drN (stS (stS s))) h0
    have a3 := Nat.mod_lt (drN (stS (stS (stS s)))) h0
    rw [fn7_chatter_34, fn8_chatter_34, if_neg (nI_ge (by omega) (by omega)), if_neg (nI_ge (by omega) (by omega)), x_step, show (12 : Int32) = nI 12 from rfl, m_draws (by omega) (by omega)]
    simp only [bp]
    rw [x_drawn, up2_place (by omega), hP.1, m_draws h0 (by omega)]
    simp only [bp]
    rw [if_neg (show ¬ (12 : Nat) = 0 by decide), x_step, up2_place (by omega), hP.1, m_draws h0 (by omega)]
    simp only [bp]
    rw [x_drawn]
    simp only [bp]
    have nz : ¬ nI (A 0 0) = 0 := by rw [show (0 : Int32) = nI 0 from rfl, eq_n (by omega) (by omega)]; omega
    rw [hT.1, if_neg nz, x_step]
    simp only [bp]
    rw [x_drawn]
    simp only [bp]
    rw [hT.1, if_neg nz, pk_rem (by omega) h0 (by omega), pk_rem (by omega) h0 (by omega), pk_rem (a := drN (stS s)) (by omega) (show 0 < 12 by omega) (by omega)]
    simp only [fn8_chatter_93]
    rw [show nI i + 1 = nI (i + 1) from nI_add i 1, show nI c + 1 = nI (c + 1) from nI_add c 1, show nI c + 0 = nI c by simp]
    by_cases e : drN (stS (stS s)) % A 0 0 = drN (stS (stS (stS s))) % A 0 0
    · rw [e, if_pos rfl, if_pos rfl]
      exact ih (i + 1) f g c _ (by omega) (by omega) (by omega)
    · have ne : ¬ nI (drN (stS (stS s)) % A 0 0) = nI (drN (stS (stS (stS s))) % A 0 0) := by
        rw [eq_n (by omega) (by omega)]
        exact e
      rw [if_neg ne, if_neg ne, x_silentM hA hT (by omega), m_isSaid hA (PM_32 hP _) (GM_32 hA hG _) a2 a3 a1]
      simp only [bp]
      rw [x_maySaid hA hT a2 a3]
      simp only [bp]
      cases saidB A (drN (stS s) % 12) (drN (stS (stS s)) % A 0 0) (drN (stS (stS (stS s))) % A 0 0)
      · rw [if_pos bI_f, if_pos bI_f]
        exact ih (i + 1) f g c _ (by omega) (by omega) (by omega)
      · rw [if_neg (by rw [bI_t]; exact n10), if_neg (by rw [bI_t]; exact n10)]
        exact ih (i + 1) f g (c + 1) _ (by omega) (by omega) (by omega)
theorem RR_32 {x m : Mem} (h : RR x m) (s : Int32) : RR x (up2 m 0 32 s) := by
  refine same_RR h (keepX_rf x) (fun _ _ _ => rfl) ?_ (fun j _ => by rw [up2_cell (by omega)]) ⟨by rw [up2_cell (by omega)], by rw [up2_place (by omega)], by rw [up2_place (by omega)]⟩
  refine ⟨by rw [up2_place (by omega)], by rw [up2_place (by omega)], by rw [up2_place (by omega)], by rw [up2_place (by omega)], by rw [up2_place (by omega)], fun i h1 h2 => ?_, ?_, ?_, ?_, ?_, ?_, ?_, ?_, ?_, ?_⟩ <;> rw [up2_cell (by omega)]
theorem sim_chatter : S_chatter RR := fun x m h a b => by
  obtain ⟨A, hA, hT, hP, hG, hO⟩ := (RR_iff x m).mp h
  have hnp := hA.1
  unfold fn7_chatter fn8_chatter
  rw [show (60 : Int64) = (nI 60).toInt64 by decide, in1_val (by omega)]
  simp only [bs]
  have nn0 : ¬ ¬ (0 : Int32) = 0 := fun z => z rfl
  have g1 : (1 : Int32).toInt = 1 := by decide
  have g60 : (60 : Int32).toInt = 60 := by decide
  rcases in_or b 61 (by omega) with ho | ⟨n, hn, rfl⟩
  · have hno : ¬ (1 ≤ b.toInt ∧ b.toInt ≤ ((60 : Nat) : Int)) := by
      rcases ho with ho | ho
      · have := neg_ti ho
        omega
      · have := ge_ti (by omega) ho
        omega
    rw [if_neg hno, if_neg nn0]
    by_cases e : b < 1
    · rw [if_pos e]
      exact ⟨-1, x, m, rfl, rfl, h⟩
    · rw [if_neg e, if_neg]
      · exact ⟨-1, x, m, rfl, rfl, h⟩
      · rw [Int32.lt_iff_toInt_lt] at e
        rw [Int32.le_iff_toInt_le]
        omega
  · rw [ti_n (by omega)]
    by_cases e0 : n = 0
    · subst e0
      have hno : ¬ (1 ≤ ((0 : Nat) : Int) ∧ ((0 : Nat) : Int) ≤ ((60 : Nat) : Int)) := by omega
      rw [if_pos (show nI 0 < 1 by decide), if_neg hno, if_neg nn0]
      exact ⟨-1, x, m, rfl, rfl, h⟩
    · have hyes : (1 ≤ (n : Int) ∧ (n : Int) ≤ ((60 : Nat) : Int)) := by omega
      rw [if_neg (show ¬ nI n < 1 from nI_nlt (b := 1) (by omega) (by omega)), if_pos (show nI n ≤ 60 from nI_le (b := 60) (by omega) (by omega)), if_pos hyes, if_pos n10, hT.1, hP.1]
      by_cases ep : A 0 0 = 0
      · rw [ep, if_neg (show ¬ ¬ nI 0 = 0 from fun z => z rfl), if_neg (show ¬ ¬ nI 0 = 0 from fun z => z rfl)]
        exact ⟨-2, x, m, rfl, rfl, h⟩
      · have nz : ¬ nI (A 0 0) = 0 := by rw [show (0 : Int32) = nI 0 from rfl, eq_n (by omega) (by omega)]; omega
        rw [if_pos nz, if_pos nz]
        obtain ⟨c', s', r1, r2⟩ := chatL hA hT hP hG (by omega) (n := n) (by omega) (kX := fun x3_34 x4_34 x5_34 w_34 => some (x4_34, w_34)) (kM := fun x3_34 x4_34 w_34 => some (x3_34, w_34)) n 0 1000 1000 0 a (by omega) (by omega) (by omega)
        exact ⟨nI c', x, up2 m 0 32 s', r1, r2, RR_32 h s'⟩
