/-! text: coins -/
theorem oneOf_v {m m' : Mem} {v ho : Nat} {c : Int32} (h : fn8_other 0 5 c m = some (nI v, m')) (h10 : m' 0 10 = nI ho - 1) (hv : v ≤ 5) (hh : ho ≤ 6) : fn8_oneOf c m = some (nI v, up2 m' 0 10 (nI (max ho (v + 1)) - 1)) := by
  unfold fn8_oneOf
  rw [h]
  simp only [bp]
  rw [h10]
  by_cases e : v + 1 ≤ ho
  · rw [if_pos, Nat.max_eq_left e]
    rw [Int32.le_iff_toInt_le, ti_n (by omega), ti_p (by omega)]
    omega
  · rw [if_neg, Nat.max_eq_right (by omega), nI_pred]
    rw [Int32.le_iff_toInt_le, ti_n (by omega), ti_p (by omega)]
    omega
theorem oneOf_B {m : Mem} {e p : Nat} {c : Int32} (h : BR m e p) (he : 1 ≤ e ∧ e ≤ 9) : ∃ z, fn8_oneOf c m = some (0, up2 m 0 10 z) := by
  unfold fn8_oneOf
  rw [m_otherB h he]
  simp only [bp]
  by_cases e : (0 : Int32) ≤ m 0 10
  · rw [if_pos e]; exact ⟨_, rfl⟩
  · rw [if_neg e]; exact ⟨_, rfl⟩
theorem JS_m {x m : Mem} {t : Nat → Nat} {n s : Nat} (J : JS x m t n s) {k j : Nat} {v : Int32} (hk : (3 ≤ k ∧ k ≤ 5) ∨ (k = 0 ∧ 6 ≤ j ∧ j ≤ 11)) : JS x (up2 m k j v) t n s := by
  obtain ⟨a1, a2, a3, a4, a5, a6, a7, a8, a9⟩ := J
  refine ⟨a1, TpM_k a2 ?_ (up2_cell (by omega)) (up2_cell (by omega)) (up2_cell (by omega)), a3, a4, a5, a6, a7, TK_u a8 (by omega), a9⟩
  rw [up2_at, if_neg (by omega)]
theorem DD_coin {x m x' m' : Mem} {lw fe to np nc nk ho sp hc a b d : Nat} (d1 : dS x m lw fe to) (d2 : dP x m np) (d3 : dC x m nc ho) (d4 : dT x m nk ho) (d5 : dU x m sp hc) (d6 : dH x m nc nk ho) (hn : nc < 6) (ha : 1 ≤ a ∧ a ≤ 3) (hb : b < 6) (hd : d ≤ 1) (X : ∀ k, k ≠ 12 → k ≠ 16 → k ≠ 17 → k ≠ 18 → x' k = x k) (X12 : ∀ j, j ≠ 4 → x' 12 j = x 12 j) (X4 : x' 12 4 = nI (nc + 1)) (X16 : ∀ j, x' 16 j = if j = nc then nI a else x 16 j) (X17 : ∀ j, x' 17 j = if j = nc then nI b else x 17 j) (X18 : ∀ j, x' 18 j = if j = nc then nI d else x 18 j) (M : ∀ k, k ≠ 0 → k ≠ 3 → m' k = m k) (M0 : ∀ j, j ≠ 7 → j ≠ 10 → m' 0 j = m 0 j) (M7 : m' 0 7 = nI (nc + 1)) (M10 : m' 0 10 = nI (max ho (b + 1)) - 1) (M3 : ∀ j, m' 3 j = if j = 4 * nc then nI a else if j = 4 * nc + 1 then nI b else if j = 4 * nc + 2 then nI d else m 3 j) : DD x' m' := by
  have far : ∀ j, 24 ≤ j → m' 3 j = m 3 j := fun j hj => by rw [M3, if_neg (by omega), if_neg (by omega), if_neg (by omega)]
  have hmx : ho ≤ max ho (b + 1) ∧ b < max ho (b + 1) := by omega
  obtain ⟨c1, c2, c3, c4, c5⟩ := d3
  obtain ⟨h1, h2, h3⟩ := d6
  refine ⟨lw, fe, to, np, nc + 1, nk, max ho (b + 1), sp, hc, dS_k d1 (X12 _ (by omega)) (X12 _ (by omega)) (by rw [X 55 (by omega) (by omega) (by omega) (by omega)]) (by rw [X 55 (by omega) (by omega) (by omega) (by omega)]) (far _ (by omega)) (far _ (by omega)) (M0 _ (by omega) (by omega)), dP_k d2 (X12 _ (by omega)) (X _ (by omega) (by omega) (by omega) (by omega)) (X _ (by omega) (by omega) (by omega) (by omega)) (X _ (by omega) (by omega) (by omega) (by omega)) (M0 _ (by omega) (by omega)) (M _ (by omega) (by omega)), ⟨by omega, X4, M7, fun q hq => ?_, fun q q1 q2 => ?_⟩, dT_h (dT_k d4 (X12 _ (by omega)) (X _ (by omega) (by omega) (by omega) (by omega)) (X _ (by omega) (by omega) (by omega) (by omega)) (X _ (by omega) (by omega) (by omega) (by omega)) (far _ (by omega)) (fun j hj _ => far _ hj)) hmx.1, dU_k d5 (X _ (by omega) (by omega) (by omega) (by omega)) (M _ (by omega) (by omega)) (M0 _ (by omega) (by omega)) (M0 _ (by omega) (by omega)), by omega, M10, ?_⟩
  · rw [X16, X17, X18, M3, M3, M3]
    by_cases e : q = nc
    · subst e
      refine ⟨a, b, d, ha.1, ha.2, hb, hmx.2, hd, if_pos rfl, if_pos rfl, if_pos rfl, ?_, if_pos rfl, ?_⟩
      · rw [if_neg (by omega), if_pos rfl]
      · rw [if_neg (by omega), if_neg (by omega), if_pos rfl]
    · rw [if_neg e, if_neg e, if_neg e, if_neg (by omega), if_neg (by omega), if_neg (by omega), if_neg (by omega), if_neg (by omega), if_neg (by omega), if_neg (by omega), if_neg (by omega), if_neg (by omega)]
      obtain ⟨a', b', d', r1, r2, r3, r4, r5⟩ := c4 q (by omega)
      exact ⟨a', b', d', r1, r2, r3, by omega, r5⟩
  · rw [X18, M3, if_neg (by omega), if_neg (by omega), if_neg (by omega), if_neg (by omega)]
    exact c5 q (by omega) q2
  · by_cases e : b + 1 ≥ ho
    · rw [Nat.max_eq_right e]
      exact Or.inr (Or.inl ⟨nc, by omega, by rw [X17, if_pos rfl]; rfl⟩)
    · rw [Nat.max_eq_left (by omega)]
      rcases h3 with h3 | ⟨c, g1, g2⟩ | ⟨k, g1, g2⟩
      · omega
      · exact Or.inr (Or.inl ⟨c, by omega, by rw [X17, if_neg (by omega)]; exact g2⟩)
      · refine Or.inr (Or.inr ⟨k, g1, ?_⟩)
        rw [X 21 (by omega) (by omega) (by omega) (by omega), X 22 (by omega) (by omega) (by omega) (by omega)]
        exact g2
def cX (x : Mem) (nc a b : Nat) : Mem := up2 (up2 (up2 x 16 nc (nI a)) 17 nc (nI b)) 12 4 (nI (nc + 1))
def cM (m : Mem) (nc a b h : Nat) : Mem := up2 (up2 (up2 m 3 (4 * nc) (nI a)) 0 10 (nI h - 1)) 3 (4 * nc + 1) (nI b)
theorem DD_coin0 {x m : Mem} {lw fe to np nc nk ho sp hc a b : Nat} (d1 : dS x m lw fe to) (d2 : dP x m np) (d3 : dC x m nc ho) (d4 : dT x m nk ho) (d5 : dU x m sp hc) (d6 : dH x m nc nk ho) (hn : nc < 6) (ha : 1 ≤ a ∧ a ≤ 3) (hb : b < 6) : DD (cX x nc a b) (up2 (cM m nc a b (max ho (b + 1))) 0 7 (nI (nc + 1))) := by
  obtain ⟨z1, z2⟩ := d3.2.2.2.2 nc (Nat.le_refl _) hn
  refine DD_coin (d := 0) d1 d2 d3 d4 d5 d6 hn ha hb (by omega) (fun k k1 k2 k3 k4 => ?_) (fun j hj => ?_) ?_ (fun j => ?_) (fun j => ?_) (fun j => ?_) (fun k k1 k2 => ?_) (fun j j1 j2 => ?_) ?_ ?_ (fun j => ?_) <;> first | unfold cX | unfold cM
  · rw [up2_cell k1, up2_cell k3, up2_cell k2]
  · rw [up2_place hj, up2_cell (by omega), up2_cell (by omega)]
  · rw [up2_same]
  · simp [up2_at]
  · simp [up2_at]
  · rw [up2_cell (by omega), up2_cell (by omega), up2_cell (by omega)]
    split
    · rename_i e; rw [e]; exact z1
    · rfl
  · rw [up2_cell k1, up2_cell k2, up2_cell k1, up2_cell k2]
  · rw [up2_place j1, up2_cell (by omega), up2_place j2, up2_cell (by omega)]
  · rw [up2_same]
  · rw [up2_place (by omega), up2_cell (by omega), up2_same]
  · rw [up2_cell (by omega), up2_at, up2_cell (by omega), up2_at]
    by_cases e1 : j = 4 * nc + 1
    · subst e1
      rw [if_pos ⟨rfl, rfl⟩, if_neg (by omega), if_pos rfl]
    · rw [if_neg (by omega)]
      by_cases e2 : j = 4 * nc
      · subst e2
        rw [if_pos ⟨rfl, rfl⟩, if_pos rfl]
      · rw [if_neg (by omega), if_neg e2, if_neg e1]
        split
        · rename_i e; rw [e]; exact z2
        · rfl
theorem DD_coin1 {x m : Mem} {lw fe to np nc nk ho sp hc a b : Nat} (d1 : dS x m lw fe to) (d2 : dP x m np) (d3 : dC x m nc ho) (d4 : dT x m nk ho) (d5 : dU x m sp hc) (d6 : dH x m nc nk ho) (hn : nc < 6) (ha : 1 ≤ a ∧ a ≤ 3) (hb : b < 6) : DD (up2 (cX x nc a b) 18 nc 1) (up2 (up2 (cM m nc a b (max ho (b + 1))) 3 (4 * nc + 2) 1) 0 7 (nI (nc + 1))) := by
  refine DD_coin (d := 1) d1 d2 d3 d4 d5 d6 hn ha hb (by omega) (fun k k1 k2 k3 k4 => ?_) (fun j hj => ?_) ?_ (fun j => ?_) (fun j => ?_) (fun j => ?_) (fun k k1 k2 => ?_) (fun j j1 j2 => ?_) ?_ ?_ (fun j => ?_) <;> first | unfold cX | unfold cM
  · rw [up2_cell k4, up2_cell k1, up2_cell k3, up2_cell k2]
  · rw [up2_cell (by omega), up2_place hj, up2_cell (by omega), up2_cell (by omega)]
  · rw [up2_cell (by omega), up2_same]
  · simp [up2_at]
  · simp [up2_at]
  · simp [up2_at]
    rfl
  · rw [up2_cell k1, up2_cell k2, up2_cell k2, up2_cell k1, up2_cell k2]
  · rw [up2_place j1, up2_cell (by omega), up2_cell (by omega), up2_place j2, up2_cell (by omega)]
  · rw [up2_same]
  · rw [up2_place (by omega), up2_cell (by omega), up2_cell (by omega), up2_same]
  · rw [up2_cell (by omega), up2_at, up2_at, up2_cell (by omega), up2_at]
    by_cases e0 : j = 4 * nc + 2
    · subst e0
      rw [if_pos ⟨rfl, rfl⟩, if_neg (by omega), if_neg (by omega), if_pos rfl]
      rfl
    · rw [if_neg (by omega)]
      by_cases e1 : j = 4 * nc + 1
      · subst e1
        rw [if_pos ⟨rfl, rfl⟩, if_neg (by omega), if_pos rfl]
      · rw [if_neg (by omega)]
        by_cases e2 : j = 4 * nc
        · subst e2
          rw [if_pos ⟨rfl, rfl⟩, if_pos rfl]
        · rw [if_neg (by omega), if_neg e2, if_neg e1, if_neg e0]
