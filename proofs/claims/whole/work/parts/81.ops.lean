/-! feed -/
def zb (v : Int64) (i : Nat) : Int32 := ((v >>> ((nI (56 - 8 * i)).toInt64 &&& 63)) : Int64).toInt32
def tbN (v : Int64) (i : Nat) : Nat := (zb v i).toBitVec.toNat % 2 ^ 8
theorem tb_lt (v : Int64) (i : Nat) : tbN v i < 256 := Nat.mod_lt _ (by decide)
theorem z_and (v : Int64) (i : Nat) : zb v i &&& 255 = nI (tbN v i) := pk_and _ 8 (by decide)
theorem z_byte (z : Int32) : (nI (z.toBitVec.toNat % 2 ^ 8)).toInt8 = z.toInt8 := by
  apply Int8.toBitVec_inj.mp
  rw [Int32.toBitVec_toInt8, Int32.toBitVec_toInt8]
  apply BitVec.eq_of_toNat_eq
  have h : z.toBitVec.toNat % 2 ^ 8 < 256 := Nat.mod_lt _ (by decide)
  rw [BitVec.signExtend_eq_setWidth_of_le _ (by decide), BitVec.signExtend_eq_setWidth_of_le _ (by decide), BitVec.toNat_setWidth, BitVec.toNat_setWidth, pk_tn (Nat.lt_trans h (by decide)), Nat.mod_mod]
theorem RR_t {x x' m m' : Mem} (h : RR x m) (hx : ∀ k, k ≠ 53 → k ≠ 54 → x' k = x k) (hm : ∀ k, k ≠ 0 → k ≠ 6 → m' k = m k) (hm0 : ∀ j, j ≠ 14 → m' 0 j = m 0 j) (hT : RT x' m') : RR x' m' := by
  obtain ⟨A, h1, h2, h3, h4, h5, h6, h7, h8, h9, h10, h11, h12⟩ := h
  exact ⟨A, h1, TX_keep h2 (fun i hi => hx _ (by omega) (by omega)), PM_congr h3 (hm0 _ (by omega)) (hm0 _ (by omega)) (hm _ (by omega) (by omega)), GM_keep h1 h4 (fun j _ _ => by rw [hm 1 (by omega) (by omega)]), RI_congr h5 (fun k g1 g2 => hx k (by omega) (by omega)) (hx _ (by omega) (by omega)) (hm _ (by omega) (by omega)) (fun j _ _ => by rw [hm 1 (by omega) (by omega)]), hT, by rw [hx 55 (by omega) (by omega), hm0 15 (by omega)]; exact h7, RK_congr h8 (hx _ (by omega) (by omega)) (hx _ (by omega) (by omega)) (hx _ (by omega) (by omega)) (hm0 _ (by omega)) (hm _ (by omega) (by omega)), RH_congr h9 (by rw [hx 64 (by omega) (by omega)]) (hx _ (by omega) (by omega)) (hx _ (by omega) (by omega)) (hm0 _ (by omega)) (hm _ (by omega) (by omega)), RS_congr h10 (fun k g1 g2 => hx k (by omega) (by omega)) (hm _ (by omega) (by omega)) (hm _ (by omega) (by omega)) (hm _ (by omega) (by omega)), by rw [hx 0 (by omega) (by omega), hm0 37 (by omega)]; exact h11, RC_congr h12 (hm _ (by omega) (by omega)) (hm _ (by omega) (by omega))⟩
theorem e56 : ∀ i, i < 8 → (56 : Int32) - 8 * nI i = nI (56 - 8 * i) := by decide
theorem e56' : ∀ i, i < 8 → nI (56 - 8 * i) + (-8) = if i = 7 then -8 else nI (56 - 8 * (i + 1)) := by decide
theorem x_feedL {x : Mem} {n : Nat} {v : Int64} (hn : n + 8 ≤ 320) (h1 : x 53 1 = nI n) {k : Int32 → Mem → Option (Int32 × Mem)} : ∀ d i f w, i + d = 8 → d < f → (∀ j, j ≠ 54 → w j = x j) → (∀ j, j < n → w 54 j = x 54 j) → (∀ j, j < i → w 54 (n + j) = (zb v j).toInt8.toInt32) → ∃ w', (∀ j, j ≠ 54 → w' j = x j) ∧ (∀ j, j < n → w' 54 j = x 54 j) ∧ (∀ j, j < 8 → w' 54 (n + j) = (zb v j).toInt8.toInt32) ∧ fn4_append_18 v k f (nI i) w = k (nI 8) w' := by
  intro d
  induction d with
  | zero =>
    intro i f w hi hf hw hw1 hw2
    obtain ⟨f, rfl⟩ : ∃ g, f = g + 1 := ⟨f - 1, by omega⟩
    have e : i = 8 := by omega
    subst e
    exact ⟨w, hw, hw1, hw2, by rw [fn4_append_18, if_pos (by decide)]⟩
  | succ d ih =>
    intro i f w hi hf hw hw1 hw2
    obtain ⟨f, rfl⟩ : ∃ g, f = g + 1 := ⟨f - 1, by omega⟩
    obtain ⟨w', r1, r2, r3, r4⟩ := ih (i + 1) f (up2 w 54 (n + i) ((zb v i).toInt8.toInt32)) (by omega) (by omega) (fun j hj => by rw [up2_cell hj, hw j hj]) (fun j hj => by rw [up2_place (by omega)]; exact hw1 j hj) (fun j hj => by
      by_cases e : j = i
      · subst e
        exact up2_same
      · rw [up2_place (by omega)]
        exact hw2 j (by omega))
    refine ⟨w', r1, r2, r3, ?_⟩
    rw [fn4_append_18, if_neg (show ¬ (8 : Int32) ≤ nI i from nI_ge (b := 8) (by omega) (by omega)), hw 53 (by omega), h1, nI_add, if_pos (ib_y (by omega) (by omega)), cl_n (by omega), e56 i (by omega), pk_vb]
    unfold fn4_append_46
    rw [show nI i + 1 = nI (i + 1) from nI_add i 1]
    exact r4
theorem m_feedL {m : Mem} {n : Nat} {v : Int64} (hn : n + 8 ≤ 320) {k : Int32 → Mem → Option (Int32 × Mem)} : ∀ d i f w, i + d + 1 = 8 → d + 1 < f → (∀ j, j ≠ 0 → j ≠ 6 → w j = m j) → (∀ j, j ≠ 14 → w 0 j = m 0 j) → w 0 14 = nI (n + i) → (∀ j, j < n → w 6 j = m 6 j) → (∀ j, j < i → w 6 (n + j) = nI (tbN v j)) → ∃ w', (∀ j, j ≠ 0 → j ≠ 6 → w' j = m j) ∧ (∀ j, j ≠ 14 → w' 0 j = m 0 j) ∧ w' 0 14 = nI (n + 8) ∧ (∀ j, j < n → w' 6 j = m 6 j) ∧ (∀ j, j < 8 → w' 6 (n + j) = nI (tbN v j)) ∧ fn8_feed_19 v k f (nI (56 - 8 * i)) w = k (-8) w' := by
  intro d
  induction d with
  | zero =>
    intro i f w hi hf hw hw0 hw14 hw1 hw2
    obtain ⟨f, rfl⟩ : ∃ g, f = g + 2 := ⟨f - 2, by omega⟩
    have e : i = 7 := by omega
    subst e
    refine ⟨up2 (up2 w 6 (n + 7) (nI (tbN v 7))) 0 14 (nI (n + 8)), ?_, ?_, up2_same, ?_, ?_, ?_⟩
    · intro j h1 h2
      rw [up2_cell h1, up2_cell h2, hw j h1 h2]
    · intro j h1
      rw [up2_place h1, up2_cell (by omega), hw0 j h1]
    · intro j h1
      rw [up2_cell (by omega), up2_place (by omega), hw1 j h1]
    · intro j h1
      rw [up2_cell (by omega)]
      by_cases e : j = 7
      · subst e
        exact up2_same
      · rw [up2_place (by omega)]
        exact hw2 j (by omega)
    · rw [fn8_feed_19, if_neg (nI_pos (by omega)), hw14, if_pos (ib_y (by omega) (by omega)), cl_n (by omega)]
      unfold fn8_feed_50
      rw [show ((v >>> ((nI (56 - 8 * 7)).toInt64 &&& 63)) : Int64).toInt32 = zb v 7 from rfl, z_and, up2_cell (k' := 0) (by omega), hw14, show nI (n + 7) + 1 = nI (n + 8) from nI_add _ 1, e56' 7 (by omega), if_pos rfl, fn8_feed_19, if_pos (by decide)]
  | succ d ih =>
    intro i f w hi hf hw hw0 hw14 hw1 hw2
    obtain ⟨f, rfl⟩ : ∃ g, f = g + 1 := ⟨f - 1, by omega⟩
    obtain ⟨w', r1, r2, r3, r4, r5, r6⟩ := ih (i + 1) f (up2 (up2 w 6 (n + i) (nI (tbN v i))) 0 14 (nI (n + i + 1))) (by omega) (by omega) (fun j h1 h2 => by rw [up2_cell h1, up2_cell h2, hw j h1 h2]) (fun j h1 => by rw [up2_place h1, up2_cell (by omega), hw0 j h1]) up2_same (fun j h1 => by rw [up2_cell (by omega), up2_place (by omega), hw1 j h1]) (fun j h1 => by
      rw [up2_cell (by omega)]
      by_cases e : j = i
      · subst e
        exact up2_same
      · rw [up2_place (by omega)]
        exact hw2 j (by omega))
    refine ⟨w', r1, r2, r3, r4, r5, ?_⟩
    rw [fn8_feed_19, if_neg (nI_pos (by omega)), hw14, if_pos (ib_y (by omega) (by omega)), cl_n (by omega)]
    unfold fn8_feed_50
    rw [show ((v >>> ((nI (56 - 8 * i)).toInt64 &&& 63)) : Int64).toInt32 = zb v i from rfl, z_and, up2_cell (k' := 0) (by omega), hw14, show nI (n + i) + 1 = nI (n + i + 1) from nI_add _ 1, e56' i (by omega), if_neg (by omega)]
    exact r6
theorem sim_feed : S_feed RR := fun x m h a => by
  obtain ⟨A, hA, hT, hP, hG, hI, ⟨n, t, hn, t1, t2, t3⟩, hO⟩ := (RR_iff x m).mp h
  unfold fn7_feed fn4_append fn8_feed
  rw [t1, t2, show nI n + 8 = nI (n + 8) from nI_add n 8]
  by_cases e : n + 8 ≤ 320
  · have hle : nI (n + 8) ≤ (320 : Int32) := nI_le (b := 320) e (by omega)
    rw [if_pos hle, if_pos hle]
    obtain ⟨x', a1, a2, a3, a4⟩ := x_feedL (v := a) e t1 (k := fun x3_18 w_18 => some (((up2 w_18 53 1 ((w_18 53 1) + 8)) 53 1), (up2 w_18 53 1 ((w_18 53 1) + 8)))) 8 0 1000 x (by omega) (by omega) (fun _ _ => rfl) (fun _ _ => rfl) (fun j hj => by omega)
    obtain ⟨m', b1, b2, b3, b4, b5, b6⟩ := m_feedL (m := m) (v := a) e (k := fun x3_19 w_19 => some ((w_19 0 14), w_19)) 7 0 1000 m (by omega) (by omega) (fun _ _ _ => rfl) (fun _ _ => rfl) t2 (fun _ _ => rfl) (fun j hj => by omega)
    have a4' : fn4_append_18 a _ 1000 0 x = _ := a4
    have b6' : fn8_feed_19 a _ 1000 56 m = _ := b6
    rw [a4', b6']
    simp only [bp]
    rw [up2_same, a1 53 (by omega), t1, show nI n + 8 = nI (n + 8) from nI_add n 8, b3]
    refine ⟨_, _, _, rfl, rfl, RR_t h (fun k h1 h2 => by rw [up2_cell h1, a1 k h2]) b1 b2 ⟨n + 8, fun i => if i < n then t i else tbN a (i - n), e, up2_same, b3, fun i hi => ?_⟩⟩
    rw [up2_cell (by omega)]
    by_cases ei : i < n
    · simp only [if_pos ei]
      rw [a2 i ei, b4 i ei]
      exact t3 i ei
    · obtain ⟨j, rfl⟩ : ∃ j, i = n + j := ⟨i - n, by omega⟩
      simp only [if_neg ei]
      rw [show n + j - n = j by omega, a3 j (by omega), b5 j (by omega)]
      refine ⟨tb_lt a j, ?_, rfl⟩
      unfold tbN
      rw [z_byte]
  · have hle : ¬ nI (n + 8) ≤ (320 : Int32) := nI_ge (a := 320) (by omega) (by omega)
    rw [if_neg hle, if_neg hle]
    exact ⟨-3, x, m, rfl, rfl, h⟩
