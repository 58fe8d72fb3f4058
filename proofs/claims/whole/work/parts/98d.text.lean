/-! text: the beginning and the end -/
theorem x_clearL {k : Int32 → Mem → Option (Int32 × Mem)} : ∀ d c f w, c + d = 6 → d < f → ∃ w', (∀ i, i ≠ 18 → i ≠ 19 → w' i = w i) ∧ (∀ j, j < c → w' 18 j = w 18 j ∧ w' 19 j = w 19 j) ∧ (∀ j, c ≤ j → j < 6 → w' 18 j = 0 ∧ w' 19 j = -4) ∧ fn6_clear_27 12 k f (nI c) w = k (nI 6) w' := by
  intro d
  induction d with
  | zero =>
    intro c f w hc hf
    obtain ⟨f, rfl⟩ : ∃ g, f = g + 1 := ⟨f - 1, by omega⟩
    have e : c = 6 := by omega
    subst e
    refine ⟨w, fun _ _ _ => rfl, fun _ _ => ⟨rfl, rfl⟩, fun j h1 h2 => by omega, ?_⟩
    rw [fn6_clear_27, if_pos (show (6 : Int32) ≤ nI 6 by decide)]
  | succ d ih =>
    intro c f w hc hf
    obtain ⟨f, rfl⟩ : ∃ g, f = g + 1 := ⟨f - 1, by omega⟩
    have hib : ib (nI c) 6 = true := ib_y (by omega) (by omega)
    obtain ⟨w', a1, a2, a3, a4⟩ := ih (c + 1) f (up2 (up2 w 18 c 0) 19 c (-4)) (by omega) (by omega)
    refine ⟨w', fun i h1 h2 => ?_, fun j hj => ?_, fun j h1 h2 => ?_, ?_⟩
    · rw [a1 i h1 h2, up2_cell h2, up2_cell h1]
    · obtain ⟨b1, b2⟩ := a2 j (by omega)
      rw [b1, b2, up2_cell (by omega), up2_place (by omega), up2_place (by omega), up2_cell (by omega)]
      exact ⟨rfl, rfl⟩
    · by_cases e : j = c
      · subst e
        obtain ⟨b1, b2⟩ := a2 j (by omega)
        rw [b1, b2, up2_cell (by omega), up2_same, up2_same]
        exact ⟨rfl, rfl⟩
      · exact a3 j (by omega) h2
    · rw [fn6_clear_27, if_neg (show ¬ (6 : Int32) ≤ nI c from nI_ge (b := 6) (by omega) (by omega)), if_pos hib, if_pos hib, cl_n (by omega), nar0, n1]
      exact a4
theorem m_beginL {k : Int32 → Mem → Option (Int32 × Mem)} : ∀ d c f w, c + d = 57 → d < f → ∃ w', (∀ i, i ≠ 3 → i ≠ 5 → w' i = w i) ∧ (∀ j, j < c → w' 3 j = w 3 j) ∧ (∀ j, c ≤ j → j < 57 → w' 3 j = 0) ∧ (∀ i, i < 6 → (w 5 i = 0 ∨ ∃ j, c ≤ j ∧ j < 57 ∧ j % 6 = i) → w' 5 i = 0) ∧ fn8_beginsText_42 k f (nI c) w = k (nI 57) w' := by
  intro d
  induction d with
  | zero =>
    intro c f w hc hf
    obtain ⟨f, rfl⟩ : ∃ g, f = g + 1 := ⟨f - 1, by omega⟩
    have e : c = 57 := by omega
    subst e
    refine ⟨w, fun _ _ _ => rfl, fun _ _ => rfl, fun j h1 h2 => by omega, fun i hi h => ?_, ?_⟩
    · rcases h with h | ⟨j, h1, h2, h3⟩
      · exact h
      · omega
    · rw [fn8_beginsText_42, if_pos (show (57 : Int32) ≤ nI 57 by decide)]
  | succ d ih =>
    intro c f w hc hf
    obtain ⟨f, rfl⟩ : ∃ g, f = g + 1 := ⟨f - 1, by omega⟩
    have hib : ib (nI c) 57 = true := ib57 (by omega)
    have hmod : c % 6 < 6 := Nat.mod_lt _ (by omega)
    have hib2 : ib (nI (c % 6)) 6 = true := ib_y hmod (by omega)
    have hrem : nI c - nI c / 6 * 6 = nI (c % 6) := pk_rem (a := c) (d := 6) (by omega) (by omega) (by omega)
    obtain ⟨w', a1, a2, a3, a4, a5⟩ := ih (c + 1) f (up2 (up2 w 3 c 0) 5 (c % 6) 0) (by omega) (by omega)
    refine ⟨w', fun i h1 h2 => ?_, fun j hj => ?_, fun j h1 h2 => ?_, fun i hi h => ?_, ?_⟩
    · rw [a1 i h1 h2, up2_cell h2, up2_cell h1]
    · rw [a2 j (by omega), up2_cell (by omega), up2_place (by omega)]
    · by_cases e : j = c
      · subst e
        rw [a2 j (by omega), up2_cell (by omega), up2_same]
      · exact a3 j (by omega) h2
    · refine a4 i hi ?_
      by_cases e : i = c % 6
      · subst e
        exact Or.inl up2_same
      · rcases h with h | ⟨j, h1, h2, h3⟩
        · left
          rw [up2_place e, up2_cell (by omega)]
          exact h
        · right
          refine ⟨j, ?_, h2, h3⟩
          rcases Nat.lt_or_ge c j with z | z
          · omega
          · have : j = c := by omega
            rw [this] at h3
            exact absurd h3.symm e
    · rw [fn8_beginsText_42, if_neg (show ¬ (57 : Int32) ≤ nI c from nI_ge (b := 57) (by omega) (by omega)), if_pos hib, if_neg (by decide), hrem, if_pos hib2, cl_n (by omega), cl_n (by omega), n1]
      exact a5
theorem m_99L {u : Int32} {k : Int32 → Mem → Option (Int32 × Mem)} : ∀ d c f w, c + d = 57 → d < f → ∃ w', (∀ i, i ≠ 1 → i ≠ 2 → w' i = w i) ∧ (∀ j, j < c ∨ 57 ≤ j → w' 1 j = w 1 j) ∧ (∀ j, c ≤ j → j < 57 → w' 1 j = w 3 j) ∧ (∀ i, i < 18 → (w 2 i = w 4 i ∨ ∃ j, c ≤ j ∧ j < 57 ∧ j % 18 = i) → w' 2 i = w 4 i) ∧ fn8_text_99 u k f (nI c) w = k (nI 57) w' := by
  intro d
  induction d with
  | zero =>
    intro c f w hc hf
    obtain ⟨f, rfl⟩ : ∃ g, f = g + 1 := ⟨f - 1, by omega⟩
    have e : c = 57 := by omega
    subst e
    refine ⟨w, fun _ _ _ => rfl, fun _ _ => rfl, fun j h1 h2 => by omega, fun i hi h => ?_, ?_⟩
    · rcases h with h | ⟨j, h1, h2, h3⟩
      · exact h
      · omega
    · rw [fn8_text_99, if_pos (show (57 : Int32) ≤ nI 57 by decide)]
  | succ d ih =>
    intro c f w hc hf
    obtain ⟨f, rfl⟩ : ∃ g, f = g + 1 := ⟨f - 1, by omega⟩
    have hib : ib (nI c) 57 = true := ib57 (by omega)
    have hib1 : ib (nI c) 228 = true := ib_y (by omega) (by omega)
    have hmod : c % 18 < 18 := Nat.mod_lt _ (by omega)
    have hib2 : ib (nI (c % 18)) 18 = true := ib_y hmod (by omega)
    have hrem : nI c - nI c / 18 * 18 = nI (c % 18) := pk_rem (a := c) (d := 18) (by omega) (by omega) (by omega)
    obtain ⟨w', a1, a2, a3, a4, a5⟩ := ih (c + 1) f (up2 (up2 w 1 c (w 3 c)) 2 (c % 18) (w 4 (c % 18))) (by omega) (by omega)
    have W : ∀ i, i ≠ 1 → i ≠ 2 → up2 (up2 w 1 c (w 3 c)) 2 (c % 18) (w 4 (c % 18)) i = w i := fun i h1 h2 => by rw [up2_cell h2, up2_cell h1]
    refine ⟨w', fun i h1 h2 => ?_, fun j hj => ?_, fun j h1 h2 => ?_, fun i hi h => ?_, ?_⟩
    · rw [a1 i h1 h2, W i h1 h2]
    · rw [a2 j (by omega), up2_cell (by omega), up2_place (by omega)]
    · by_cases e : j = c
      · subst e
        rw [a2 j (by omega), up2_cell (by omega), up2_same]
      · rw [a3 j (by omega) h2, W 3 (by omega) (by omega)]
    · rw [a4 i hi ?_, W 4 (by omega) (by omega)]
      rw [W 4 (by omega) (by omega)]
      by_cases e : i = c % 18
      · subst e
        exact Or.inl up2_same
      · rcases h with h | ⟨j, h1, h2, h3⟩
        · left
          rw [up2_place e, up2_cell (by omega)]
          exact h
        · right
          refine ⟨j, ?_, h2, h3⟩
          rcases Nat.lt_or_ge c j with z | z
          · omega
          · have : j = c := by omega
            rw [this] at h3
            exact absurd h3.symm e
    · rw [fn8_text_99, if_neg (show ¬ (57 : Int32) ≤ nI c from nI_ge (b := 57) (by omega) (by omega)), if_pos hib, if_pos hib1, if_neg (by decide), if_neg (by decide), hrem, if_pos hib2, if_pos hib2, cl_n (by omega), cl_n (by omega), up2_cell (k' := 4) (by omega)]
      unfold fn8_text_135
      rw [n1]
      exact a5
theorem m_143L {u : Int32} {k : Int32 → Mem → Option (Int32 × Mem)} : ∀ d c f w, c + d = 6 → d < f → ∃ w', (∀ i, i ≠ 1 → w' i = w i) ∧ (∀ j, (∀ i, c ≤ i → i < 6 → j ≠ 4 * i + 3) → w' 1 j = w 1 j) ∧ (∀ i, c ≤ i → i < 6 → w' 1 (4 * i + 3) = w 5 i) ∧ fn8_text_143 u k f (nI c) w = k (nI 6) w' := by
  intro d
  induction d with
  | zero =>
    intro c f w hc hf
    obtain ⟨f, rfl⟩ : ∃ g, f = g + 1 := ⟨f - 1, by omega⟩
    have e : c = 6 := by omega
    subst e
    refine ⟨w, fun _ _ => rfl, fun _ _ => rfl, fun j h1 h2 => by omega, ?_⟩
    rw [fn8_text_143, if_pos (show (6 : Int32) ≤ nI 6 by decide)]
  | succ d ih =>
    intro c f w hc hf
    obtain ⟨f, rfl⟩ : ∃ g, f = g + 1 := ⟨f - 1, by omega⟩
    have hib : ib (nI c) 6 = true := ib_y (by omega) (by omega)
    have hib1 : ib (nI (4 * c + 3)) 228 = true := ib_y (by omega) (by omega)
    obtain ⟨w', a1, a2, a3, a4⟩ := ih (c + 1) f (up2 w 1 (4 * c + 3) (w 5 c)) (by omega) (by omega)
    refine ⟨w', fun i h1 => ?_, fun j hj => ?_, fun i h1 h2 => ?_, ?_⟩
    · rw [a1 i h1, up2_cell h1]
    · rw [a2 j (fun i h1 h2 => hj i (by omega) h2), up2_place (hj c (by omega) (by omega))]
    · by_cases e : i = c
      · subst e
        rw [a2 _ (fun j h1 h2 => by omega), up2_same]
      · rw [a3 i (by omega) h2, up2_cell (by omega)]
    · rw [fn8_text_143, if_neg (show ¬ (6 : Int32) ≤ nI c from nI_ge (b := 6) (by omega) (by omega)), if_pos hib, e43, if_pos hib1, cl_n (by omega), cl_n (by omega), n1]
      exact a4
theorem x_63 {w : Mem} : fn7_text_63 (fun x2_63 w_63 => some ((w_63 55 1), w_63)) 1000 0 w = some (w 55 1, up2 (up2 w 69 0 0) 69 1 0) := by
  rw [show (1000 : Nat) = 997 + 1 + 1 + 1 from rfl, fn7_text_63, if_neg (by decide), if_pos (show ib 0 2 = true by decide), fn7_text_63, if_neg (by decide), if_pos (show ib (0 + 1) 2 = true by decide), fn7_text_63, if_pos (by decide), nar0]
  show some (up2 (up2 w 69 0 0) 69 1 0 55 1, up2 (up2 w 69 0 0) 69 1 0) = _
  rw [up2_cell (by omega), up2_cell (by omega)]
theorem RR_fail {x m x' m' : Mem} {e p : Nat} (h : RR x m) (hx : ZX x x') (hm : ZM m m') (hF : FA x' e p) : RR (up2 x' 53 1 0) (up2 (up2 m' 0 14 0) 0 15 (nI e)) := by
  obtain ⟨A, hA, hT, hP, hG, hI, hRT, hf, hK, hH, hS, h09, hC⟩ := (RR_iff x m).mp h
  have X : ∀ k, k < 12 ∨ (22 < k ∧ k ≠ 55 ∧ k ≠ 53) → up2 x' 53 1 0 k = x k := fun k hk => by rw [up2_cell (by omega), hx k (by omega)]
  have M : ∀ k, k ≠ 0 → k ≠ 3 → k ≠ 4 → k ≠ 5 → up2 (up2 m' 0 14 0) 0 15 (nI e) k = m k := fun k k1 k2 k3 k4 => by rw [up2_cell k1, up2_cell k1, hm.1 k k1 k2 k3 k4]
  have M0 : ∀ j, (j < 6 ∨ 11 < j) → (j < 14 ∨ 21 < j) → up2 (up2 m' 0 14 0) 0 15 (nI e) 0 j = m 0 j := fun j j1 j2 => by rw [up2_place (by omega), up2_place (by omega), hm.2 j j1 (by omega)]
  refine (RR_iff _ _).mpr ⟨A, hA, TX_keep hT (fun i hi => X _ (by omega)), PM_congr hP (M0 _ (by omega) (by omega)) (M0 _ (by omega) (by omega)) (M _ (by omega) (by omega) (by omega) (by omega)), GM_keep hA hG (fun j _ _ => by rw [M 1 (by omega) (by omega) (by omega) (by omega)]), RI_congr hI (fun k k1 k2 => X _ (by omega)) (X _ (by omega)) (M _ (by omega) (by omega) (by omega) (by omega)) (fun j _ _ => by rw [M 1 (by omega) (by omega) (by omega) (by omega)]), ⟨0, fun _ => 0, by omega, up2_same, ?_, fun i hi => by omega⟩, ?_, RK_congr hK (X _ (by omega)) (X _ (by omega)) (X _ (by omega)) (M0 _ (by omega) (by omega)) (M _ (by omega) (by omega) (by omega) (by omega)), RH_congr hH (by rw [X 64 (by omega)]) (X _ (by omega)) (X _ (by omega)) (M0 _ (by omega) (by omega)) (M _ (by omega) (by omega) (by omega) (by omega)), RS_congr hS (fun k k1 k2 => X _ (by omega)) (M _ (by omega) (by omega) (by omega) (by omega)) (M _ (by omega) (by omega) (by omega) (by omega)) (M _ (by omega) (by omega) (by omega) (by omega)), ?_, RC_congr hC (M _ (by omega) (by omega) (by omega) (by omega)) (M _ (by omega) (by omega) (by omega) (by omega))⟩
  · rw [up2_place (by omega), up2_same]
    rfl
  · rw [up2_cell (by omega), hF.1, up2_same]
  · rw [X 0 (by omega), M0 37 (by omega) (by omega)]
    exact h09
theorem m_69B {m : Mem} {e p : Nat} {u : Int32} (h : BR m e p) (he : 1 ≤ e ∧ e ≤ 9) : fn8_text_69 u m = some (-10 - nI p, up2 (up2 m 0 14 0) 0 15 (nI e)) := by
  unfold fn8_text_69
  have h14 : up2 m 0 14 0 0 16 = nI e := by
    rw [up2_place (by omega)]
    exact h.1
  rw [h14, up2_place (show 16 ≠ 15 by omega), h14, if_neg (nI_nle (by omega) (by omega)), up2_place (show 17 ≠ 15 by omega), up2_place (show 17 ≠ 14 by omega), h.2]
/-- a text that told a town -/
theorem text_ok {x m x' m' : Mem} {A : Abs} {L : Nat} (h : RR x m) (hx : ZX x x') (hm : ZM m m') (h1 : x' 55 1 = nI L) (h2 : x' 55 2 = 0) (h16 : m' 0 16 = 0) (hT : TX x' 12 A) (hA : okA A) (hQ : QM m' A) : ∃ (x2 m2 : Mem), (fn6_copyFrom 1 12 (up2 x' 53 1 0)).bind (fun q42 => fn7_text_63 (fun x2_63 w_63 => some ((w_63 55 1), w_63)) 1000 0 (up2 (up2 q42.2 56 0 0) 64 0 0)) = some (nI L, x2) ∧ fn8_text_69 (nI L) m' = some (nI L, m2) ∧ RR x2 m2 := by
  obtain ⟨A0, hA0, -, -, -, -, hRT, hf, hK, hH, hS, h09, hC⟩ := (RR_iff x m).mp h
  have ib02 : ib 0 2 = true := by decide
  have ib12 : ib 1 2 = true := by decide
  obtain ⟨w, c1, c2, c3⟩ := x_copyFrom (w := up2 x' 53 1 0) (b := 1) (f := 12) (by omega)
  have hTw := c3 A hA (TX_keep hT (fun i hi => up2_cell (by omega)))
  obtain ⟨n1', b1, b2, b3, b4, b5⟩ := m_99L (u := nI L) (k := fun x2_99 w_99 => fn8_text_143 (nI L) (fun x2_143 w_143 => (if ib 0 2 = true then fn8_text_204 (nI L) (up2 (up2 (up2 (up2 (up2 w_143 0 2 (w_143 0 6)) 0 3 ((up2 w_143 0 2 (w_143 0 6)) 0 7)) 0 26 0) 0 31 0) 15 (0 : Int32).toNatClampNeg (vp_nar .boolean 0)) else none)) 1000 0 w_99) 57 0 1000 (up2 (up2 m' 0 14 0) 0 15 0) (by omega) (by omega)
  obtain ⟨n2', g1, g2, g3, g4⟩ := m_143L (u := nI L) (k := fun x2_143 w_143 => (if ib 0 2 = true then fn8_text_204 (nI L) (up2 (up2 (up2 (up2 (up2 w_143 0 2 (w_143 0 6)) 0 3 ((up2 w_143 0 2 (w_143 0 6)) 0 7)) 0 26 0) 0 31 0) 15 (0 : Int32).toNatClampNeg (vp_nar .boolean 0)) else none)) 6 0 1000 n1' (by omega) (by omega)
  have N : ∀ k, k ≠ 0 → k ≠ 1 → k ≠ 2 → n2' k = m' k := fun k k0 k1 k2 => by rw [g1 k k1, b1 k k1 k2, up2_cell k0, up2_cell k0]
  have N0 : ∀ j, j ≠ 14 → j ≠ 15 → n2' 0 j = m' 0 j := fun j j1 j2 => by rw [g1 0 (by omega), b1 0 (by omega) (by omega), up2_place j2, up2_place j1]
  have N14 : n2' 0 14 = 0 ∧ n2' 0 15 = 0 := by
    rw [g1 0 (by omega), b1 0 (by omega) (by omega), up2_place (by omega), up2_same, up2_same]
    exact ⟨rfl, rfl⟩
  have N1 : ∀ j, j < 57 → (∀ i, i < 6 → j ≠ 4 * i + 3) → n2' 1 j = m' 3 j := fun j hj hi => by
    rw [g2 j (fun i _ h6 => hi i h6), b3 j (by omega) hj, up2_cell (by omega), up2_cell (by omega)]
  have N1s : ∀ i, i < 6 → n2' 1 (4 * i + 3) = m' 5 i := fun i hi => by
    rw [g3 i (by omega) hi, b1 5 (by omega) (by omega), up2_cell (by omega), up2_cell (by omega)]
  have N2 : ∀ i, i < 18 → n2' 2 i = m' 4 i := fun i hi => by
    rw [g1 2 (by omega), b4 i hi (Or.inr ⟨i, by omega, by omega, Nat.mod_eq_of_lt hi⟩), up2_cell (by omega), up2_cell (by omega)]
  have e69 : fn8_text_69 (nI L) m' = some (nI L, up2 (up2 (up2 (up2 (up2 (up2 n2' 0 2 (n2' 0 6)) 0 3 (n2' 0 7)) 0 26 0) 0 31 0) 15 0 0) 15 1 0) := by
    have h14 : up2 m' 0 14 0 0 16 = 0 := by
      rw [up2_place (by omega)]
      exact h16
    have b5' : fn8_text_99 (nI L) _ 1000 0 (up2 (up2 m' 0 14 0) 0 15 0) = _ := b5
    have g4' : fn8_text_143 (nI L) _ 1000 0 n1' = _ := g4
    unfold fn8_text_69
    rw [h14, up2_place (show 16 ≠ 15 by omega), h14, if_pos (show (0 : Int32) ≤ 0 by decide), b5', g4', if_pos ib02]
    unfold fn8_text_204
    rw [if_pos ib12, nar0, up2_place (show 7 ≠ 2 by omega)]
    rfl
  rw [c1, e69]
  simp only [bp]
  rw [x_63]
  have hw55 : up2 (up2 w 56 0 0) 64 0 0 55 1 = nI L := by
    rw [up2_cell (by omega), up2_cell (by omega), c2 55 (by omega), up2_cell (by omega)]
    exact h1
  rw [hw55]
  refine ⟨_, _, rfl, rfl, ?_⟩
  generalize hX : up2 (up2 (up2 (up2 w 56 0 0) 64 0 0) 69 0 0) 69 1 0 = X
  generalize hM : up2 (up2 (up2 (up2 (up2 (up2 n2' 0 2 (n2' 0 6)) 0 3 (n2' 0 7)) 0 26 0) 0 31 0) 15 0 0) 15 1 0 = M
  have X1 : ∀ k, k ≠ 56 → k ≠ 64 → k ≠ 69 → X k = w k := fun k k1 k2 k3 => by rw [← hX, up2_cell k3, up2_cell k3, up2_cell k2, up2_cell k1]
  have X2 : ∀ k, 22 < k → k ≠ 53 → k ≠ 55 → k ≠ 56 → k ≠ 64 → k ≠ 69 → X k = x k := fun k k0 k1 k2 k3 k4 k5 => by rw [X1 k k3 k4 k5, c2 k (by omega), up2_cell k1, hx k (by omega)]
  have M1 : ∀ k, k ≠ 0 → k ≠ 15 → M k = n2' k := fun k k1 k2 => by rw [← hM, up2_cell k2, up2_cell k2, up2_cell k1, up2_cell k1, up2_cell k1, up2_cell k1]
  have M2 : ∀ k, 5 < k → k ≠ 15 → M k = m k := fun k k1 k2 => by rw [M1 k (by omega) k2, N k (by omega) (by omega) (by omega), hm.1 k (by omega) (by omega) (by omega) (by omega)]
  have M0 : ∀ j, j ≠ 2 → j ≠ 3 → j ≠ 26 → j ≠ 31 → M 0 j = n2' 0 j := fun j j1 j2 j3 j4 => by rw [← hM, up2_cell (by omega), up2_cell (by omega), up2_place j4, up2_place j3, up2_place j2, up2_place j1]
  have X69 : ∀ j, j < 2 → X 69 j = 0 ∧ M 15 j = 0 := fun j hj => by
    rcases (show j = 0 ∨ j = 1 by omega) with e | e
    · subst e
      rw [← hX, ← hM, up2_place (by omega), up2_same, up2_place (by omega), up2_same]
      exact ⟨rfl, rfl⟩
    · subst e
      rw [← hX, ← hM, up2_same, up2_same]
      exact ⟨rfl, rfl⟩
  obtain ⟨q1, q2, q3, q4, q5, q6, q7, q8, q9⟩ := hQ
  have hnp := hA.1
  have hnc := hA.2.1
  have hnk := hA.2.2.1
  refine (RR_iff _ _).mpr ⟨A, hA, TX_keep hTw (fun i hi => X1 _ (by omega) (by omega) (by omega)), ⟨?_, ?_, fun p hp => ?_⟩, ⟨?_, ?_, ?_, fun c hc => ?_, fun k hk => ?_⟩, fun j hj => ?_, ⟨0, fun _ => 0, by omega, ?_, ?_, fun i hi => by omega⟩, ?_, ⟨0, fun _ => 0, fun _ => 0, by omega, ?_, ?_, fun i hi => by omega⟩, ⟨0, fun _ => 0, fun _ => 0, by omega, ?_, ?_, fun i hi => by omega⟩, RS_congr hS (fun k k1 k2 => X2 _ (by omega) (by omega) (by omega) (by omega) (by omega) (by omega)) (M2 _ (by omega) (by omega)) (M2 _ (by omega) (by omega)) (M2 _ (by omega) (by omega)), ?_, RC_congr hC (M2 _ (by omega) (by omega)) (M2 _ (by omega) (by omega))⟩
  · rw [← hM, up2_cell (by omega), up2_cell (by omega), up2_place (by omega), up2_place (by omega), up2_place (by omega), up2_same, N0 6 (by omega) (by omega)]
    exact q1
  · rw [← hM, up2_cell (by omega), up2_cell (by omega), up2_place (by omega), up2_place (by omega), up2_same, N0 7 (by omega) (by omega)]
    exact q2
  · rw [M1 2 (by omega) (by omega), N2 _ (by omega), N2 _ (by omega), N2 _ (by omega)]
    exact q3 p hp
  · rw [M1 1 (by omega) (by omega), N1 _ (by omega) (fun i hi => by omega)]
    exact q4
  · rw [M1 1 (by omega) (by omega), N1 _ (by omega) (fun i hi => by omega)]
    exact q5
  · rw [M1 1 (by omega) (by omega), N1 _ (by omega) (fun i hi => by omega)]
    exact q6
  · have r := q7 c hc
    simp only [Nat.zero_add]
    rw [M1 1 (by omega) (by omega), N1s c (by omega), N1 (4 * c) (by omega) (fun i hi => by omega), N1 (4 * c + 1) (by omega) (fun i hi => by omega), N1 (4 * c + 2) (by omega) (fun i hi => by omega)]
    exact ⟨r.1, r.2.1, r.2.2, q8 c (by omega)⟩
  · simp only [Nat.zero_add]
    rw [M1 1 (by omega) (by omega), N1 (24 + 3 * k) (by omega) (fun i hi => by omega), N1 (24 + 3 * k + 1) (by omega) (fun i hi => by omega), N1 (24 + 3 * k + 2) (by omega) (fun i hi => by omega)]
    exact q9 k hk
  · rw [(X69 j hj).1, (X69 j hj).2]
    exact ⟨rfl, Or.inl rfl⟩
  · rw [X1 53 (by omega) (by omega) (by omega), c2 53 (by omega), up2_same]
    rfl
  · rw [M0 14 (by omega) (by omega) (by omega) (by omega), N14.1]
    rfl
  · rw [X1 55 (by omega) (by omega) (by omega), c2 55 (by omega), up2_cell (by omega), h2, M0 15 (by omega) (by omega) (by omega) (by omega), N14.2]
  · rw [← hX, up2_cell (by omega), up2_cell (by omega), up2_cell (by omega), up2_same]
    rfl
  · rw [← hM, up2_cell (by omega), up2_cell (by omega), up2_place (by omega), up2_same]
    rfl
  · rw [← hX, up2_cell (by omega), up2_cell (by omega), up2_same]
    rfl
  · rw [← hM, up2_cell (by omega), up2_cell (by omega), up2_same]
    rfl
  · rw [X1 0 (by omega) (by omega) (by omega), c2 0 (by omega), up2_cell (by omega), hx 0 (by omega), M0 37 (by omega) (by omega) (by omega) (by omega), N0 37 (by omega) (by omega), hm.2 37 (by omega) (by omega)]
    exact h09
theorem sim_text : S_text RR := fun x m h => by
  obtain ⟨A, hA, hT, hP, hG, hI, hRT, hf, hK, hH, hS, h09, hC⟩ := (RR_iff x m).mp h
  obtain ⟨n, t, hn, n1', n2', n3'⟩ := hRT
  have tX : TpX x n t := ⟨hn, n1', fun i hi => ⟨(n3' i hi).1, (n3' i hi).2.1⟩⟩
  have tM : TpM m n t := ⟨hn, n2', fun i hi => ⟨(n3' i hi).1, (n3' i hi).2.2⟩, hC⟩
  -- the class begins
  obtain ⟨w, a1, a2, a3, a4⟩ := x_clearL (k := fun x1_27 w_27 => some (0, w_27)) 6 0 1000 (up2 (up2 (up2 (up2 (up2 x 12 0 0) 12 4 0) 12 9 0) 12 13 0) 12 14 1) (by omega) (by omega)
  have eclr : fn6_clear 12 x = some (0, w) := a4
  generalize hX : up2 (up2 (up2 (up2 (up2 (up2 w 55 1 0) 55 2 0) 55 3 0) 55 5 0) 55 6 0) 55 9 0 = X
  have etape : fn5_readTape x = fn5_readTape_39 (fun x1_39 w_39 => some (0, w_39)) 1000 (nI 0) X := by
    unfold fn5_readTape
    rw [eclr]
    simp only [bp]
    rw [hX]
    rfl
  have X1 : ∀ k, k ≠ 12 → k ≠ 18 → k ≠ 19 → k ≠ 55 → X k = x k := fun k k1 k2 k3 k4 => by
    rw [← hX, up2_cell k4, up2_cell k4, up2_cell k4, up2_cell k4, up2_cell k4, up2_cell k4, a1 k k2 k3, up2_cell k1, up2_cell k1, up2_cell k1, up2_cell k1, up2_cell k1]
  have X12 : X 12 0 = 0 ∧ X 12 4 = 0 ∧ X 12 9 = 0 ∧ X 12 13 = 0 ∧ X 12 14 = 1 := by
    rw [← hX, up2_cell (by omega), up2_cell (by omega), up2_cell (by omega), up2_cell (by omega), up2_cell (by omega), up2_cell (by omega), a1 12 (by omega) (by omega)]
    refine ⟨?_, ?_, ?_, ?_, up2_same⟩
    · rw [up2_place (by omega), up2_place (by omega), up2_place (by omega), up2_place (by omega), up2_same]
    · rw [up2_place (by omega), up2_place (by omega), up2_place (by omega), up2_same]
    · rw [up2_place (by omega), up2_place (by omega), up2_same]
    · rw [up2_place (by omega), up2_same]
  have X18 : ∀ j, j < 6 → X 18 j = 0 ∧ X 19 j = -4 := fun j hj => by
    rw [← hX, up2_cell (by omega), up2_cell (by omega), up2_cell (by omega), up2_cell (by omega), up2_cell (by omega), up2_cell (by omega), up2_cell (by omega), up2_cell (by omega), up2_cell (by omega), up2_cell (by omega), up2_cell (by omega), up2_cell (by omega)]
    exact a3 j (by omega) hj
  have X55 : X 55 1 = 0 ∧ X 55 2 = 0 ∧ X 55 5 = 0 ∧ X 55 6 = 0 ∧ X 55 9 = 0 := by
    rw [← hX]
    refine ⟨?_, ?_, ?_, ?_, up2_same⟩
    · rw [up2_place (by omega), up2_place (by omega), up2_place (by omega), up2_place (by omega), up2_place (by omega), up2_same]
    · rw [up2_place (by omega), up2_place (by omega), up2_place (by omega), up2_place (by omega), up2_same]
    · rw [up2_place (by omega), up2_place (by omega), up2_same]
    · rw [up2_place (by omega), up2_same]
  have zX : ZX x X := fun k hk => X1 k (by omega) (by omega) (by omega) (by omega)
  -- the reference begins
  obtain ⟨v, b1, b2, b3, b4, b5⟩ := m_beginL (k := fun x1_42 w_42 => some (0, w_42)) 57 0 1000 (up2 (up2 (up2 (up2 (up2 (up2 (up2 (up2 m 0 16 0) 0 18 0) 0 6 0) 0 7 0) 0 8 0) 0 9 0) 0 10 (-1)) 0 11 (-1)) (by omega) (by omega)
  have ebeg : fn8_beginsText m = some (0, v) := b5
  have V1 : ∀ k, k ≠ 0 → k ≠ 3 → k ≠ 5 → v k = m k := fun k k0 k1 k2 => by rw [b1 k k1 k2, up2_cell k0, up2_cell k0, up2_cell k0, up2_cell k0, up2_cell k0, up2_cell k0, up2_cell k0, up2_cell k0]
  have V0 : ∀ j, v 0 j = if j = 11 then -1 else if j = 10 then -1 else if j = 9 then 0 else if j = 8 then 0 else if j = 7 then 0 else if j = 6 then 0 else if j = 18 then 0 else if j = 16 then 0 else m 0 j := fun j => by
    rw [b1 0 (by omega) (by omega)]
    simp [up2_at]
  have V5 : ∀ i, i < 6 → v 5 i = 0 := fun i hi => b4 i hi (Or.inr ⟨i, by omega, by omega, Nat.mod_eq_of_lt hi⟩)
  have tV : TpM v n t := TpM_k tM (by rw [V0]; rfl) (V1 _ (by omega) (by omega) (by omega)) (V1 _ (by omega) (by omega) (by omega)) (V1 _ (by omega) (by omega) (by omega))
  obtain ⟨m3, c1, c2, c3⟩ := m_step tV (Nat.zero_le n) (by rw [V0]; rfl) (by rw [V0]; rfl)
  have etext : fn8_text m = fn8_text_10 (fun x1_10 w_10 => fn8_text_34 x1_10 w_10) 1000 (nI 0) m3 := by
    unfold fn8_text
    rw [ebeg]
    simp only [bp]
    rw [c1]
    rfl
  have zM : ZM m m3 := ZM_tr ⟨fun k k0 k1 k2 k3 => V1 k k0 k1 k3, fun j j1 j2 => by rw [V0, if_neg (by omega), if_neg (by omega), if_neg (by omega), if_neg (by omega), if_neg (by omega), if_neg (by omega), if_neg (by omega), if_neg (by omega)]⟩ (ZM_F c2)
  have J : JT X m3 t n 0 := ⟨TpX_k tX (X1 _ (by omega) (by omega) (by omega) (by omega)) (X1 _ (by omega) (by omega) (by omega) (by omega)), TpM_F tV c2, Nat.zero_le n, X55.2.2.2.2, X55.2.1, c3⟩
  have D : DD X m3 := by
    refine DD_F ?_ (FX_rf X) c2
    refine ⟨0, 1, 0, 0, 0, 0, 0, 0, 0, ⟨X12.2.2.2.1, b3 _ (by omega) (by omega), by omega, X12.2.2.2.2, ?_, by omega, by omega, by rw [V0]; rfl, X55.2.2.1, X55.2.2.2.1⟩, ⟨by omega, X12.1, by rw [V0]; rfl, fun p hp => by omega⟩, ⟨by omega, X12.2.1, by rw [V0]; rfl, fun c hc => by omega, fun c _ hc => ⟨(X18 c hc).1, b3 _ (by omega) (by omega)⟩⟩, ⟨by omega, X12.2.2.1, b3 _ (by omega) (by omega), fun k hk => by omega⟩, ⟨by omega, by rw [V0]; rfl, by omega, by rw [V0]; rfl, fun c hc => ⟨0, by omega, (X18 c hc).2, V5 c hc, by simp, fun z => absurd rfl z⟩, Or.inl rfl⟩, by omega, by rw [V0]; rfl, Or.inl rfl⟩
    rw [b3 _ (by omega) (by omega)]
    rfl
  obtain ⟨x', m', L, q1, q2, q3, q4⟩ := TO_z (loop_j n 0 0 1000 1000 X m3 (by omega) (by omega) (by omega) (by omega) J D X55.1) zX zM
  unfold fn7_text
  rw [etape, etext, q3]
  rcases q4 with ⟨e, p, he, hp, r1, r2, r3⟩ | ⟨r1, r2, r3, r4, B, r5, r6, r7⟩
  · rw [r1, m_69B r3 he]
    simp only [bp]
    rw [if_neg (show ¬ ¬ True from fun z => z trivial), up2_cell (show 55 ≠ 53 by omega), r2.2]
    exact ⟨_, _, _, rfl, rfl, RR_fail h q1 q2 r2⟩
  · rw [r1]
    simp only [bp]
    rw [if_pos n10]
    obtain ⟨x2, m2, s1, s2, s3⟩ := text_ok h q1 q2 r2 r3 r4 r5 r6 r7
    exact ⟨_, _, _, s1, s2, s3⟩
