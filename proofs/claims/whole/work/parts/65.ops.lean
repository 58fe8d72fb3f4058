theorem PM_congr {m m' : Mem} {A : Abs} (h : PM m A) (h1 : m' 0 2 = m 0 2) (h2 : m' 0 3 = m 0 3) (h3 : m' 2 = m 2) : PM m' A := by
  unfold PM at h ⊢
  rw [h1, h2, h3]
  exact h
theorem RI_congr {x x' m m' : Mem} {A : Abs} (h : RI x m A) (h1 : ∀ k, 23 ≤ k → k < 45 → x' k = x k) (h2 : x' 69 = x 69) (h3 : m' 15 = m 15) (h4 : ∀ j, 57 ≤ j → j < 171 → m' 1 j = m 1 j) : RI x' m' A := fun j hj => by
  obtain ⟨a1, a2⟩ := h j hj
  rw [h2, h3]
  refine ⟨a1, a2.elim Or.inl (fun g => Or.inr ⟨g.1, ?_⟩)⟩
  obtain ⟨I, b1, b2, b3, b4⟩ := g.2
  exact ⟨I, b1, b2, TX_keep b3 (fun i hi => h1 _ (by omega) (by omega)), GM_keep b1 b4 (fun i g1 g2 => h4 i (by omega) (by omega))⟩
theorem RT_congr {x x' m m' : Mem} (h : RT x m) (h1 : x' 53 = x 53) (h2 : x' 54 = x 54) (h3 : m' 0 14 = m 0 14) (h4 : m' 6 = m 6) : RT x' m' := by
  unfold RT at h ⊢
  rw [h1, h2, h3, h4]
  exact h
theorem RK_congr {x x' m m' : Mem} {n : Nat} (h : RK x m n) (h1 : x' 56 = x 56) (h2 : x' 57 = x 57) (h3 : x' 58 = x 58) (h4 : m' 0 26 = m 0 26) (h5 : m' 10 = m 10) : RK x' m' n := by
  unfold RK at h ⊢
  rw [h1, h2, h3, h4, h5]
  exact h
theorem RH_congr {x x' m m' : Mem} (h : RH x m) (h1 : x' 64 0 = x 64 0) (h2 : x' 66 = x 66) (h3 : x' 67 = x 67) (h4 : m' 0 31 = m 0 31) (h5 : m' 14 = m 14) : RH x' m' := by
  unfold RH at h ⊢
  rw [h1, h2, h3, h4, h5]
  exact h
theorem RS_congr {x x' m m' : Mem} (h : RS x m) (h1 : ∀ k, 45 ≤ k → k < 53 → x' k = x k) (h2 : m' 16 = m 16) (h3 : m' 17 = m 17) (h4 : m' 18 = m 18) : RS x' m' := fun k hk => by
  have := h k hk
  rw [h1 _ (by omega) (by omega), h1 _ (by omega) (by omega), h2, h3, h4]
  exact this
theorem RC_congr {m m' : Mem} (h : RC m) (h1 : m' 7 = m 7) (h2 : m' 8 = m 8) : RC m' := by
  unfold RC at h ⊢
  rw [h1, h2]
  exact h
/-- the coupling where only what is known has changed -/
theorem RR_k {x x' m m' : Mem} (h : RR x m) (hx : ∀ k, k ≠ 56 → k ≠ 57 → k ≠ 58 → x' k = x k) (hm : ∀ k, k ≠ 0 → k ≠ 10 → m' k = m k) (hm0 : ∀ j, j ≠ 26 → m' 0 j = m 0 j) (hK : ∀ A : Abs, okA A → TX x 1 A → RK x m (A 0 0) → RK x' m' (A 0 0)) : RR x' m' := by
  obtain ⟨A, h1, h2, h3, h4, h5, h6, h7, h8, h9, h10, h11, h12⟩ := h
  exact ⟨A, h1, TX_keep h2 (fun i hi => hx _ (by omega) (by omega) (by omega)), PM_congr h3 (hm0 _ (by omega)) (hm0 _ (by omega)) (hm _ (by omega) (by omega)), GM_keep h1 h4 (fun j _ _ => by rw [hm 1 (by omega) (by omega)]), RI_congr h5 (fun k g1 g2 => hx k (by omega) (by omega) (by omega)) (hx _ (by omega) (by omega) (by omega)) (hm _ (by omega) (by omega)) (fun j _ _ => by rw [hm 1 (by omega) (by omega)]), RT_congr h6 (hx _ (by omega) (by omega) (by omega)) (hx _ (by omega) (by omega) (by omega)) (hm0 _ (by omega)) (hm _ (by omega) (by omega)), by rw [hx 55 (by omega) (by omega) (by omega), hm0 15 (by omega)]; exact h7, hK A h1 h2 h8, RH_congr h9 (by rw [hx 64 (by omega) (by omega) (by omega)]) (hx _ (by omega) (by omega) (by omega)) (hx _ (by omega) (by omega) (by omega)) (hm0 _ (by omega)) (hm _ (by omega) (by omega)), RS_congr h10 (fun k g1 g2 => hx k (by omega) (by omega) (by omega)) (hm _ (by omega) (by omega)) (hm _ (by omega) (by omega)) (hm _ (by omega) (by omega)), by rw [hx 0 (by omega) (by omega) (by omega), hm0 37 (by omega)]; exact h11, RC_congr h12 (hm _ (by omega) (by omega)) (hm _ (by omega) (by omega))⟩
/-- the coupling where only what was tested has changed -/
theorem RR_h {x x' m m' : Mem} (h : RR x m) (hx : ∀ k, k ≠ 64 → k ≠ 66 → k ≠ 67 → x' k = x k) (hm : ∀ k, k ≠ 0 → k ≠ 14 → m' k = m k) (hm0 : ∀ j, j ≠ 31 → m' 0 j = m 0 j) (hH : RH x m → RH x' m') : RR x' m' := by
  obtain ⟨A, h1, h2, h3, h4, h5, h6, h7, h8, h9, h10, h11, h12⟩ := h
  exact ⟨A, h1, TX_keep h2 (fun i hi => hx _ (by omega) (by omega) (by omega)), PM_congr h3 (hm0 _ (by omega)) (hm0 _ (by omega)) (hm _ (by omega) (by omega)), GM_keep h1 h4 (fun j _ _ => by rw [hm 1 (by omega) (by omega)]), RI_congr h5 (fun k g1 g2 => hx k (by omega) (by omega) (by omega)) (hx _ (by omega) (by omega) (by omega)) (hm _ (by omega) (by omega)) (fun j _ _ => by rw [hm 1 (by omega) (by omega)]), RT_congr h6 (hx _ (by omega) (by omega) (by omega)) (hx _ (by omega) (by omega) (by omega)) (hm0 _ (by omega)) (hm _ (by omega) (by omega)), by rw [hx 55 (by omega) (by omega) (by omega), hm0 15 (by omega)]; exact h7, RK_congr h8 (hx _ (by omega) (by omega) (by omega)) (hx _ (by omega) (by omega) (by omega)) (hx _ (by omega) (by omega) (by omega)) (hm0 _ (by omega)) (hm _ (by omega) (by omega)), hH h9, RS_congr h10 (fun k g1 g2 => hx k (by omega) (by omega) (by omega)) (hm _ (by omega) (by omega)) (hm _ (by omega) (by omega)) (hm _ (by omega) (by omega)), by rw [hx 0 (by omega) (by omega) (by omega), hm0 37 (by omega)]; exact h11, RC_congr h12 (hm _ (by omega) (by omega)) (hm _ (by omega) (by omega))⟩
/-- the coupling where only sheets have changed -/
theorem RR_s {x x' m m' : Mem} (h : RR x m) (hx : ∀ k, (k < 45 ∨ 53 ≤ k) → x' k = x k) (hm : ∀ k, k ≠ 16 → k ≠ 17 → k ≠ 18 → m' k = m k) (hS : RS x' m') : RR x' m' := by
  obtain ⟨A, h1, h2, h3, h4, h5, h6, h7, h8, h9, h10, h11, h12⟩ := h
  exact ⟨A, h1, TX_keep h2 (fun i hi => hx _ (by omega)), PM_congr h3 (by rw [hm 0 (by omega) (by omega) (by omega)]) (by rw [hm 0 (by omega) (by omega) (by omega)]) (hm _ (by omega) (by omega) (by omega)), GM_keep h1 h4 (fun j _ _ => by rw [hm 1 (by omega) (by omega) (by omega)]), RI_congr h5 (fun k g1 g2 => hx k (by omega)) (hx _ (by omega)) (hm _ (by omega) (by omega) (by omega)) (fun j _ _ => by rw [hm 1 (by omega) (by omega) (by omega)]), RT_congr h6 (hx _ (by omega)) (hx _ (by omega)) (by rw [hm 0 (by omega) (by omega) (by omega)]) (hm _ (by omega) (by omega) (by omega)), by rw [hx 55 (by omega), hm 0 (by omega) (by omega) (by omega)]; exact h7, RK_congr h8 (hx _ (by omega)) (hx _ (by omega)) (hx _ (by omega)) (by rw [hm 0 (by omega) (by omega) (by omega)]) (hm _ (by omega) (by omega) (by omega)), RH_congr h9 (by rw [hx 64 (by omega)]) (hx _ (by omega)) (hx _ (by omega)) (by rw [hm 0 (by omega) (by omega) (by omega)]) (hm _ (by omega) (by omega) (by omega)), hS, by rw [hx 0 (by omega), hm 0 (by omega) (by omega) (by omega)]; exact h11, RC_congr h12 (hm _ (by omega) (by omega) (by omega)) (hm _ (by omega) (by omega) (by omega))⟩
theorem sim_forget : S_forget RR := fun x m h a => by
  obtain ⟨A, h1, h2, h3, h4, h5, h6, h7, ⟨n, f, g, hn, k1, k2, k3⟩, h9⟩ := id h
  unfold fn7_forget fn8_forget
  rw [k1, k2]
  rcases in_or a (n + 1) (by omega) with ho | ⟨k, hk, rfl⟩
  · rw [show (nI n).toInt64 = (nI (n + 1) - 1).toInt64 by rw [nI_pred], in_no ho (by omega)]
    refine ⟨-1, x, m, ?_, rfl, h⟩
    rcases out_lt ho with g | ⟨g1, g2⟩
    · rw [if_pos g]
    · rw [if_neg g1, if_neg (le_lit g1 g2 (by omega))]
  · rw [show (nI n).toInt64 = (nI (n + 1) - 1).toInt64 by rw [nI_pred], in_yes hk (by omega), if_neg (nI_pos (by omega)), if_pos (nI_le (by omega) (by omega))]
    simp only [bs, if_pos n10]
    rw [k2]
    refine ⟨nI n, up2 x 56 0 (nI k), up2 m 0 26 (nI k), rfl, rfl, RR_k h (fun i g1 g2 g3 => up2_cell g1) (fun i g1 g2 => up2_cell g1) (fun j g => up2_place g) (fun _ _ _ hq => ?_)⟩
    obtain ⟨n', f', g', b1, b2, b3, b4⟩ := hq
    have e : n' = n := by
      have := b2.symm.trans k1
      rwa [eq_n (by omega) (by omega)] at this
    subst e
    refine ⟨k, f', g', by omega, up2_same, up2_same, fun i hi => ?_⟩
    rw [up2_cell (k' := 57) (by omega), up2_cell (k' := 58) (by omega), up2_cell (k' := 10) (by omega)]
    exact b4 i (by omega)
theorem sim_untest : S_untest RR := fun x m h a => by
  obtain ⟨A, h1, h2, h3, h4, h5, h6, h7, h8, ⟨n, f, g, hn, k1, k2, k3⟩, h9⟩ := id h
  unfold fn7_untest fn8_untest
  rw [k1, k2]
  rcases in_or a (n + 1) (by omega) with ho | ⟨k, hk, rfl⟩
  · rw [show (nI n).toInt64 = (nI (n + 1) - 1).toInt64 by rw [nI_pred], in_no ho (by omega)]
    refine ⟨-1, x, m, ?_, rfl, h⟩
    rcases out_lt ho with g | ⟨g1, g2⟩
    · rw [if_pos g]
    · rw [if_neg g1, if_neg (le_lit g1 g2 (by omega))]
  · rw [show (nI n).toInt64 = (nI (n + 1) - 1).toInt64 by rw [nI_pred], in_yes hk (by omega), if_neg (nI_pos (by omega)), if_pos (nI_le (by omega) (by omega))]
    simp only [bs, if_pos n10]
    rw [k2]
    refine ⟨nI n, up2 x 64 0 (nI k), up2 m 0 31 (nI k), rfl, rfl, RR_h h (fun i g1 g2 g3 => up2_cell g1) (fun i g1 g2 => up2_cell g1) (fun j g => up2_place g) (fun hq => ?_)⟩
    refine ⟨k, f, g, by omega, up2_same, up2_same, fun i hi => ?_⟩
    rw [up2_cell (k' := 66) (by omega), up2_cell (k' := 67) (by omega), up2_cell (k' := 14) (by omega)]
    exact k3 i (by omega)
theorem e20 (c : Nat) : (2 : Int32) * nI c = nI (2 * c) := pk_mul 2 c
theorem e21 (c : Nat) : (2 : Int32) * nI c + 1 = nI (2 * c + 1) := by rw [e20]; exact nI_add (2 * c) 1
theorem sim_hear : S_hear RR := fun x m h a b hb => by
  obtain ⟨A, hA, hT, hP, h4, h5, h6, h7, ⟨n, f, g, hn, k1, k2, k3⟩, h9⟩ := id h
  have hnp := hA.1
  unfold fn7_hear fn8_hear
  rcases in_or a (A 0 0) (by omega) with ho | ⟨p, hp, rfl⟩
  · rw [x_noOne hT.1 ho, m_noOne hP.1 ho hnp]
    exact ⟨-1, x, m, rfl, rfl, h⟩
  · rw [x_hasOne hT.1 hp hnp, m_one hP.1 hp hnp]
    simp only [bs, if_pos n10, if_neg n10]
    unfold fn2_note
    by_cases e : n = 6
    · rw [k1, k2, e, if_neg (show ¬ nI 6 < 6 by decide), if_neg (show ¬ ¬ nI 6 = 6 from fun z => z rfl)]
      exact ⟨-3, x, m, rfl, rfl, h⟩
    · rw [k1, k2, if_pos (show nI n < 6 from nI_lt (b := 6) (by omega) (by omega)), if_pos (show ¬ nI n = 6 by rw [show (6 : Int32) = nI 6 from rfl, eq_n (by omega) (by omega)]; exact e), up2_cell (k' := 56) (by omega), k1, if_pos (ib_y (n := 6) (a := n) (by omega) (by omega)), if_pos (ib_y (n := 6) (a := n) (by omega) (by omega)), e20, if_pos (ib_y (n := 12) (a := 2 * n) (by omega) (by omega)), cl_n (by omega), cl_n (by omega), up2_cell (k' := 0) (by omega), k2, e21]
      obtain ⟨v, hv, hv2⟩ : ∃ v : Nat, b = nI v ∧ v ≤ 1 := by
        rcases hb with hb | hb
        · exact ⟨0, hb, by omega⟩
        · exact ⟨1, hb, by omega⟩
      have hnar : vp_nar .boolean b = nI v := by
        rcases hb with hb | hb
        · subst hb
          rw [nar0]; exact hv
        · subst hb
          rw [nar1]; exact hv
      unfold fn2_note_32 fn8_hear_55
      rw [hnar]
      have e2 : (if b = 0 then (if ib (nI (2 * n + 1)) 12 = true then some (((up2 (up2 (up2 m 10 (2 * n) (nI p)) 10 (nI (2 * n + 1)).toNatClampNeg 0) 0 26 (((up2 (up2 m 10 (2 * n) (nI p)) 10 (nI (2 * n + 1)).toNatClampNeg 0) 0 26) + 1)) 0 26), (up2 (up2 (up2 m 10 (2 * n) (nI p)) 10 (nI (2 * n + 1)).toNatClampNeg 0) 0 26 (((up2 (up2 m 10 (2 * n) (nI p)) 10 (nI (2 * n + 1)).toNatClampNeg 0) 0 26) + 1))) else none) else (if ib (nI (2 * n + 1)) 12 = true then some (((up2 (up2 (up2 m 10 (2 * n) (nI p)) 10 (nI (2 * n + 1)).toNatClampNeg 1) 0 26 (((up2 (up2 m 10 (2 * n) (nI p)) 10 (nI (2 * n + 1)).toNatClampNeg 1) 0 26) + 1)) 0 26), (up2 (up2 (up2 m 10 (2 * n) (nI p)) 10 (nI (2 * n + 1)).toNatClampNeg 1) 0 26 (((up2 (up2 m 10 (2 * n) (nI p)) 10 (nI (2 * n + 1)).toNatClampNeg 1) 0 26) + 1))) else none)) = some (nI (n + 1), up2 (up2 (up2 m 10 (2 * n) (nI p)) 10 (2 * n + 1) (nI v)) 0 26 (nI (n + 1))) := by
        rw [if_pos (ib_y (n := 12) (a := 2 * n + 1) (by omega) (by omega)), if_pos (ib_y (n := 12) (a := 2 * n + 1) (by omega) (by omega)), cl_n (by omega)]
        have r : ∀ u : Int32, (up2 (up2 m 10 (2 * n) (nI p)) 10 (2 * n + 1) u) 0 26 = nI n := fun u => by rw [up2_cell (by omega), up2_cell (by omega)]; exact k2
        simp only [r, up2_same]
        have s : nI n + 1 = nI (n + 1) := nI_add n 1
        rw [s]
        by_cases e0 : b = 0
        · have : v = 0 := by
            have := hv.symm.trans e0
            rwa [show (0 : Int32) = nI 0 from rfl, eq_n (by omega) (by omega)] at this
          rw [if_pos e0, this]; rfl
        · have : v = 1 := by
            rcases (show v = 0 ∨ v = 1 by omega) with q | q
            · exact absurd (by rw [hv, q]; rfl) e0
            · exact q
          rw [if_neg e0, this]; rfl
      rw [e2]
      have r1 : (up2 (up2 x 57 n (nI p)) 58 n (nI v)) 56 0 = nI n := by rw [up2_cell (by omega), up2_cell (by omega)]; exact k1
      simp only [bs, r1, up2_same]
      have s : nI n + 1 = nI (n + 1) := nI_add n 1
      rw [s]
      refine ⟨_, _, _, rfl, rfl, ?_⟩
      refine RR_k h (fun i g1 g2 g3 => by rw [up2_cell g1, up2_cell g3, up2_cell g2]) (fun i g1 g2 => by rw [up2_cell g1, up2_cell g2, up2_cell g2]) (fun j g => by rw [up2_place g, up2_cell (by omega), up2_cell (by omega)]) (fun A' hA' hT' hq => ?_)
      obtain ⟨n', f', g', b1, b2, b3, b4⟩ := hq
      have en : n' = n := by
        have := b2.symm.trans k1
        rwa [eq_n (by omega) (by omega)] at this
      subst en
      have ep : A' 0 0 = A 0 0 := by
        have := hT'.1.symm.trans hT.1
        rwa [eq_n (by have := hA'.1; omega) (by omega)] at this
      refine ⟨n' + 1, fun i => if i = n' then p else f' i, fun i => if i = n' then v else g' i, by omega, up2_same, up2_same, fun i hi => ?_⟩
      rw [up2_cell (k' := 57) (by omega), up2_cell (k' := 57) (by omega), up2_cell (k' := 58) (by omega), up2_cell (k' := 10) (by omega)]
      by_cases ei : i = n'
      · subst ei
        simp only [if_true]
        rw [up2_same, up2_same, up2_place (j' := 2 * i) (by omega), up2_same, up2_same]
        exact ⟨by omega, hv2, rfl, rfl, rfl, rfl⟩
      · simp only [if_neg ei]
        rw [up2_place ei, up2_place ei, up2_cell (k' := 58) (by omega), up2_place (j' := 2 * i) (by omega), up2_place (j' := 2 * i) (by omega), up2_place (j' := 2 * i + 1) (by omega), up2_place (j' := 2 * i + 1) (by omega)]
        exact b4 i (by omega)
