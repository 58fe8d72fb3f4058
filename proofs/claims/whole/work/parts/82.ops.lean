/-! read -/
theorem RR_torn {x m : Mem} (h : RR x m) (v : Int32) : RR (up2 x 0 9 v) (up2 m 0 37 v) := by
  obtain ⟨A, h1, h2, h3, h4, h5, h6, h7, h8, h9, h10, h11, h12⟩ := h
  have xk : ∀ k, k ≠ 0 → up2 x 0 9 v k = x k := fun k hk => up2_cell hk
  have mk : ∀ k, k ≠ 0 → up2 m 0 37 v k = m k := fun k hk => up2_cell hk
  have m0 : ∀ j, j ≠ 37 → up2 m 0 37 v 0 j = m 0 j := fun j hj => up2_place hj
  exact ⟨A, h1, TX_keep h2 (fun i hi => xk _ (by omega)), PM_congr h3 (m0 _ (by omega)) (m0 _ (by omega)) (mk _ (by omega)), GM_keep h1 h4 (fun j _ _ => by rw [mk 1 (by omega)]), RI_congr h5 (fun k g1 g2 => xk k (by omega)) (xk _ (by omega)) (mk _ (by omega)) (fun j _ _ => by rw [mk 1 (by omega)]), RT_congr h6 (xk _ (by omega)) (xk _ (by omega)) (m0 _ (by omega)) (mk _ (by omega)), by rw [xk 55 (by omega), m0 15 (by omega)]; exact h7, RK_congr h8 (xk _ (by omega)) (xk _ (by omega)) (xk _ (by omega)) (m0 _ (by omega)) (mk _ (by omega)), RH_congr h9 (by rw [xk 64 (by omega)]) (xk _ (by omega)) (xk _ (by omega)) (m0 _ (by omega)) (mk _ (by omega)), RS_congr h10 (fun k g1 g2 => xk k (by omega)) (mk _ (by omega)) (mk _ (by omega)) (mk _ (by omega)), by rw [up2_same, up2_same], RC_congr h12 (mk _ (by omega)) (mk _ (by omega))⟩
/-- t talks have been read -/
def rdI (x m : Mem) (A0 A : Abs) (t : Nat) : Prop := okA A ∧ TX x 1 A ∧ PM m A ∧ GM m 0 A ∧ RO x m A ∧ A 0 2 = A0 0 2 + t ∧ (∀ i j, ¬ (i = 0 ∧ j = 2) → (i < 8 ∨ j < A0 0 2) → A i j = A0 i j) ∧ GM m 171 A0
theorem rdI_step {x m : Mem} {A0 A : Abs} {t : Nat} (h0 : okA A0) (h : rdI x m A0 A t) {i p q : Nat} (hn : A 0 2 < 10) (h1 : i < 12) (h2 : p < A 0 0) (h3 : q < A 0 0) (h4 : p ≠ q) : rdI (xT x (A 0 2) i p q) (mT m (A 0 2) i p q) A0 (addT A i p q) (t + 1) := by
  obtain ⟨a1, a2, a3, a4, a5, a6, a7, a8⟩ := h
  refine ⟨okA_add a1 hn h1 h2 h3 h4, TX_add a2, PM_add a3, GM_add a1 a4 hn, RO_keep a5 keepX_T (keepM_T hn) likeA_T, by rw [addT_nt, a6]; omega, fun i' j' hij hlt => ?_, GM_keep h0 a8 (fun j g1 g2 => mT_far (by omega) (by omega))⟩
  rcases hlt with g | g
  · rw [addT_lo g hij]
    exact a7 i' j' hij (Or.inl g)
  · by_cases g8 : i' < 8
    · rw [addT_lo g8 hij]
      exact a7 i' j' hij (Or.inl g8)
    · rw [addT_old (by omega) (by omega)]
      exact a7 i' j' hij (Or.inr g)
theorem rdI_RR {x m : Mem} {A0 A : Abs} {t : Nat} (h : rdI x m A0 A t) : RR x m := (RR_iff x m).mpr ⟨A, h.1, h.2.1, h.2.2.1, h.2.2.2.1, h.2.2.2.2.1⟩
theorem rdI_back {x m : Mem} {A0 A : Abs} {t : Nat} (h0 : okA A0) (h : rdI x m A0 A t) : RR (up2 x 1 9 (nI (A0 0 2))) (pg m 171 0 0) := by
  obtain ⟨a1, a2, a3, a4, a5, a6, a7, a8⟩ := h
  have e00 : A 0 0 = A0 0 0 := a7 0 0 (by omega) (by omega)
  have e01 : A 0 1 = A0 0 1 := a7 0 1 (by omega) (by omega)
  have e03 : A 0 3 = A0 0 3 := a7 0 3 (by omega) (by omega)
  have e04 : A 0 4 = A0 0 4 := a7 0 4 (by omega) (by omega)
  have lo : ∀ i j, 1 ≤ i → i < 8 → A i j = A0 i j := fun i j h1 h2 => a7 i j (by omega) (Or.inl h2)
  refine (RR_iff _ _).mpr ⟨A0, h0, ?_, ?_, GM_pg h0 a8, RO_keep a5 (keepX_up (by omega)) ?_ ⟨e00, e01, fun p _ => ⟨lo _ _ (by omega) (by omega), lo _ _ (by omega) (by omega), lo _ _ (by omega) (by omega)⟩⟩⟩
  · obtain ⟨b1, b2, b3, b4, b5, b6, b7, b8⟩ := a2
    have xc : ∀ k, k ≠ 1 → up2 x 1 9 (nI (A0 0 2)) k = x k := fun k hk => up2_cell hk
    unfold TX
    rw [up2_place (j' := 0) (by omega), up2_place (j' := 4) (by omega), up2_same, up2_place (j' := 13) (by omega), up2_place (j' := 14) (by omega), xc (1 + 1) (by omega), xc (1 + 2) (by omega), xc (1 + 3) (by omega), xc (1 + 4) (by omega), xc (1 + 5) (by omega), xc (1 + 6) (by omega), xc (1 + 7) (by omega), xc (1 + 8) (by omega), xc (1 + 9) (by omega), xc (1 + 10) (by omega), ← e00, ← e01, ← e03, ← e04]
    refine ⟨b1, b2, rfl, b4, b5, fun p hp => ?_, fun c hc => ?_, fun k hk => ?_⟩
    · rw [← lo 1 p (by omega) (by omega), ← lo 2 p (by omega) (by omega), ← lo 3 p (by omega) (by omega)]
      exact b6 p hp
    · rw [← lo 4 c (by omega) (by omega), ← lo 5 c (by omega) (by omega), ← lo 6 c (by omega) (by omega), ← lo 7 c (by omega) (by omega)]
      exact b7 c hc
    · rw [← a7 8 k (by omega) (Or.inr hk), ← a7 9 k (by omega) (Or.inr hk), ← a7 10 k (by omega) (Or.inr hk)]
      exact b8 k (by omega)
  · obtain ⟨p1, p2, p3⟩ := a3
    unfold PM
    rw [pg_cell (by omega), pg_cell (by omega), ← e00, ← e01]
    refine ⟨p1, p2, fun p hp => ?_⟩
    rw [← lo 1 p (by omega) (by omega), ← lo 2 p (by omega) (by omega), ← lo 3 p (by omega) (by omega)]
    exact p3 p hp
  · refine ⟨?_, ?_, ?_, ?_, ?_, fun i h1 h2 => by rw [pg_at, if_neg (by omega)], ?_, ?_, ?_, ?_, ?_, ?_, ?_, ?_, ?_⟩ <;> rw [pg_cell (by omega)]
theorem l_add {f : Int32} {j : Nat} (hj : j < 1000) : (f.toInt64 + (nI j).toInt64).toInt = f.toInt + (j : Int) := by
  have h1 := Int32.le_toInt f
  have h2 := Int32.toInt_lt f
  rw [Int64.toInt_add, ti_l, ti_l, ti_n (by omega)]
  apply Int.bmod_eq_of_le_mul_two <;> omega
theorem m_in {f : Int32} {j sz : Nat} (hj : j < 1000) (hs : sz ≤ 40) {w : Mem} : fn8_in (f.toInt64 + (nI j).toInt64) 0 ((nI sz - 1).toInt64) w = some (if 0 ≤ f.toInt + (j : Int) ∧ f.toInt + (j : Int) < (sz : Int) then 1 else 0, w) := by
  rw [in_val, l_add hj, ti_l, ti_p (by omega)]
  have c0 : (0 : Int64).toInt = 0 := by decide
  rw [c0]
  by_cases e : 0 ≤ f.toInt + (j : Int) ∧ f.toInt + (j : Int) < (sz : Int)
  · rw [if_pos e, if_pos (by omega)]
  · rw [if_neg e, if_neg (by omega)]
abbrev kR : Int32 → Int32 → Int32 → Mem → Option (Int32 × Mem) := fun x5_56 x6_56 x7_56 w_56 => fn8_read_207 x5_56 x6_56 w_56
/-- one cell, in a sheet of the lane -/
theorem m_cell {w : Mem} {k n j sz t : Nat} {l f : Int32} (hk : k < 4) (hn : n ≤ 13) (hj : j < 3 * n) (hl : ¬ w 16 k = -4) (hl2 : w 16 k = l) (hsz : sz ≤ 40) (h17 : w 17 k = nI sz) {fu : Nat} : fn8_read_56 (nI k) l f (nI n) kR (fu + 1) 0 (nI t) (nI j) w = if 0 ≤ f.toInt + (j : Int) ∧ f.toInt + (j : Int) < (sz : Int) then fn8_read_126 (nI k) l f (nI n) (nI t) (nI j) 0 (fn8_read_56 (nI k) l f (nI n) kR fu) w else fn8_read_126 (nI k) l f (nI n) (nI t) (nI j) 2 (fn8_read_56 (nI k) l f (nI n) kR fu) w := by
  have hib : ib (nI k) 4 = true := ib_y hk (by omega)
  rw [fn8_read_56, show (3 : Int32) * nI n = nI (3 * n) from pk_mul 3 n, if_neg (nI_ge (by omega) (by omega)), if_neg (show ¬ ¬ (0 : Int32) = 0 from fun z => z rfl), if_pos hib, if_pos hib, if_pos hib, cl_n (by omega), if_pos hl, if_pos hl2, h17, m_in (by omega) hsz]
  simp only [bp]
  by_cases e : 0 ≤ f.toInt + (j : Int) ∧ f.toInt + (j : Int) < (sz : Int)
  · rw [if_pos e, if_pos e, if_pos n10]
  · rw [if_neg e, if_neg e, if_neg (show ¬ ¬ (0 : Int32) = 0 from fun z => z rfl)]
theorem m_stop {k n t : Nat} {l f v j : Int32} {w : Mem} (hv : ¬ v = 0) {fu : Nat} : fn8_read_56 (nI k) l f (nI n) kR (fu + 1) v (nI t) j w = fn8_read_207 v (nI t) w := by
  rw [fn8_read_56]
  by_cases e : (3 : Int32) * nI n ≤ j
  · rw [if_pos e]
  · rw [if_neg e, if_pos hv]
theorem m_fault {k n t j : Nat} {l f v : Int32} {w : Mem} (hv : ¬ v = 0) {fu : Nat} : fn8_read_126 (nI k) l f (nI n) (nI t) (nI j) v (fn8_read_56 (nI k) l f (nI n) kR (fu + 1)) w = fn8_read_207 v (nI t) w := by
  unfold fn8_read_126
  rw [if_pos hv, m_stop hv]
theorem m_pass {k n t j : Nat} {l f : Int32} {w : Mem} (hj : j < 1000) (h3 : j % 3 ≠ 2) {fu : Nat} : fn8_read_126 (nI k) l f (nI n) (nI t) (nI j) 0 (fn8_read_56 (nI k) l f (nI n) kR fu) w = fn8_read_56 (nI k) l f (nI n) kR fu 0 (nI t) (nI (j + 1)) w := by
  have r3 : nI j - nI j / 3 * 3 = nI (j % 3) := pk_rem (a := j) (d := 3) (by omega) (by omega) (by omega)
  unfold fn8_read_126
  rw [if_neg (show ¬ ¬ (0 : Int32) = 0 from fun z => z rfl), if_neg (show ¬ (3 : Nat) = 0 by decide), r3, if_pos (show ¬ nI (j % 3) = 2 by rw [show (2 : Int32) = nI 2 from rfl, eq_n (by omega) (by omega)]; exact h3), show nI j + 1 = nI (j + 1) from nI_add j 1]
/-- three cells: a fault -/
theorem m_tripBad {w : Mem} {k n sz t : Nat} {l f : Int32} (hk : k < 4) (hn : n ≤ 13) (ht : t < n) (hl : ¬ w 16 k = -4) (hl2 : w 16 k = l) (hsz : sz ≤ 40) (h17 : w 17 k = nI sz) (hbad : ¬ (0 ≤ f.toInt + (3 * t : Int) ∧ f.toInt + (3 * t : Int) + 3 ≤ (sz : Int))) {fu : Nat} : fn8_read_56 (nI k) l f (nI n) kR (fu + 4) 0 (nI t) (nI (3 * t)) w = fn8_read_207 2 (nI t) w := by
  have n2 : ¬ (2 : Int32) = 0 := by decide
  rw [m_cell hk hn (by omega) hl hl2 hsz h17]
  by_cases e0 : 0 ≤ f.toInt + ((3 * t : Nat) : Int) ∧ f.toInt + ((3 * t : Nat) : Int) < (sz : Int)
  · rw [if_pos e0, m_pass (by omega) (by omega), m_cell hk hn (by omega) hl hl2 hsz h17]
    by_cases e1 : 0 ≤ f.toInt + ((3 * t + 1 : Nat) : Int) ∧ f.toInt + ((3 * t + 1 : Nat) : Int) < (sz : Int)
    · rw [if_pos e1, m_pass (by omega) (by omega), m_cell hk hn (by omega) hl hl2 hsz h17]
      have e2 : ¬ (0 ≤ f.toInt + ((3 * t + 1 + 1 : Nat) : Int) ∧ f.toInt + ((3 * t + 1 + 1 : Nat) : Int) < (sz : Int)) := by omega
      rw [if_neg e2, m_fault n2]
    · rw [if_neg e1, m_fault n2]
  · rw [if_neg e0, m_fault n2]
/-- three cells: a talk -/
theorem m_tripGood {w : Mem} {k n sz t G : Nat} {l f : Int32} (hk : k < 4) (hn : n ≤ 13) (ht : t < n) (hl : ¬ w 16 k = -4) (hl2 : w 16 k = l) (hsz : sz ≤ 40) (h17 : w 17 k = nI sz) (hG : f + nI (3 * t) = nI G) (hGf : f.toInt + (3 * t : Int) = (G : Int)) (hG3 : G + 3 ≤ sz) {fu : Nat} : fn8_read_56 (nI k) l f (nI n) kR (fu + 3) 0 (nI t) (nI (3 * t)) w = (fn8_speaks (w 18 (40 * k + G)) (w 18 (40 * k + G + 1)) (w 18 (40 * k + G + 2)) w).bind (fun q178 => (if 0 ≤ q178.1 then fn8_read_56 (nI k) l f (nI n) kR fu 0 (nI (t + 1)) (nI (3 * (t + 1))) q178.2 else (fn8_copies 171 0 q178.2).bind (fun q189 => some (((-20) - nI t), q189.2)))) := by
  have e0 : 0 ≤ f.toInt + ((3 * t : Nat) : Int) ∧ f.toInt + ((3 * t : Nat) : Int) < (sz : Int) := by omega
  have e1 : 0 ≤ f.toInt + ((3 * t + 1 : Nat) : Int) ∧ f.toInt + ((3 * t + 1 : Nat) : Int) < (sz : Int) := by omega
  have e2 : 0 ≤ f.toInt + ((3 * t + 1 + 1 : Nat) : Int) ∧ f.toInt + ((3 * t + 1 + 1 : Nat) : Int) < (sz : Int) := by omega
  rw [m_cell hk hn (by omega) hl hl2 hsz h17, if_pos e0, m_pass (by omega) (by omega), m_cell hk hn (by omega) hl hl2 hsz h17, if_pos e1, m_pass (by omega) (by omega), m_cell hk hn (by omega) hl hl2 hsz h17, if_pos e2]
  have r3 : nI (3 * t + 1 + 1) - nI (3 * t + 1 + 1) / 3 * 3 = 2 := by
    have := pk_rem (a := 3 * t + 1 + 1) (d := 3) (by omega) (by omega) (by omega)
    rw [show (3 * t + 1 + 1) % 3 = 2 by omega] at this
    exact this
  have ix : (40 : Int32) * nI k + f + nI (3 * t + 1 + 1) = nI (40 * k + G + 2) := by
    rw [show (40 : Int32) * nI k = nI (40 * k) from pk_mul 40 k, ← nI_add (3 * t + 1) 1, ← nI_add (3 * t) 1, Int32.add_assoc, ← Int32.add_assoc f, ← Int32.add_assoc f, hG, nI_add, nI_add, nI_add, Nat.add_assoc G, ← Nat.add_assoc]
  have i1 : nI (40 * k + G + 2) - 1 = nI (40 * k + G + 1) := sub_n (a := 40 * k + G + 2) (b := 1) (by omega)
  have i2 : nI (40 * k + G + 2) - 2 = nI (40 * k + G) := sub_n (a := 40 * k + G + 2) (b := 2) (by omega)
  unfold fn8_read_126
  rw [if_neg (show ¬ ¬ (0 : Int32) = 0 from fun z => z rfl), if_neg (show ¬ (3 : Nat) = 0 by decide), r3, if_neg (show ¬ ¬ (2 : Int32) = 2 from fun z => z rfl), ix, i1, i2, if_pos (ib_y (by omega) (by omega)), if_pos (ib_y (by omega) (by omega)), if_pos (ib_y (by omega) (by omega)), cl_n (by omega), cl_n (by omega), cl_n (by omega), show nI t + 1 = nI (t + 1) from nI_add t 1, show nI (3 * t + 1 + 1) + 1 = nI (3 * (t + 1)) from nI_add _ 1]
