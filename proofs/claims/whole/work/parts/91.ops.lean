/-! text: numbers, stops -/
theorem bh_dig {t : Nat → Nat} {n s : Nat} (h : kdT t n s = 2) : ∀ i, hdT t n s ≤ i → i < bhT t n s → ck (t i) = 2 := by
  have e : ¬ hdT t n s = n := by
    intro z
    unfold kdT at h
    rw [if_pos z] at h
    omega
  have hk : ck (t (hdT t n s)) = 2 := by
    unfold kdT at h
    rw [if_neg e] at h
    exact h
  intro i h1 h2
  by_cases ei : i = hdT t n s
  · rw [ei]
    exact hk
  · have h3 := (ext_in (t := t) (k := 2) (n - (hdT t n s + 1)) (hdT t n s + 1)).2.2
    unfold bhT at h2
    rw [if_neg e, if_pos (Or.inr h), h] at h2
    exact h3 i (by omega) h2
theorem nv_le {t : Nat → Nat} {n s : Nat} (h : kdT t n s = 2) (hb : hdT t n s < bhT t n s) (h2 : bhT t n s - hdT t n s ≤ 2) : nvT t n s ≤ 99 := by
  have d1 := ck_dig (bh_dig h (hdT t n s) (Nat.le_refl _) hb)
  unfold nvT pvl
  rw [if_neg (by omega)]
  split
  · omega
  · have d2 := ck_dig (bh_dig h (hdT t n s + 1) (by omega) (by omega))
    omega
def rnT (t : Nat → Nat) (n s lo hi : Nat) : Nat := if okT t n s = false then 1 else if kdT t n s ≠ 2 then 2 else if nvT t n s < lo ∨ hi < nvT t n s then 3 else 0
theorem ok_2 {t : Nat → Nat} {n s : Nat} (h : okT t n s = true) (hk : kdT t n s = 2) : bhT t n s - hdT t n s ≤ 2 := by
  unfold okT at h
  rw [hk] at h
  simp at h
  omega
theorem kd_lt {t : Nat → Nat} {n s : Nat} (hs : s ≤ n) (hk : kdT t n s ≠ 0) : hdT t n s < n := by
  have := hd_in (t := t) hs
  by_cases e : hdT t n s = n
  · exact absurd (by unfold kdT; rw [if_pos e]) hk
  · omega
theorem x_numL {x : Mem} {n h b : Nat} {t : Nat → Nat} {u v : Int32} (hT : TpX x n t) (h9 : x 55 9 = nI b) (hb : b ≤ n) (h2 : b - h ≤ 2) (hd : ∀ i, h ≤ i → i < b → ck (t i) = 2) {k : Int32 → Mem → Option (Int32 × Mem)} : ∀ d i f, i + d = b → d < f → h ≤ i → fn5_readNumber_37 u v k f (nI i) (up2 x 55 10 (nI (pvl t h i))) = k (nI b) (up2 x 55 10 (nI (pvl t h b))) := by
  have hn := hT.1
  intro d
  induction d with
  | zero =>
    intro i f hi hf hh
    obtain ⟨f, rfl⟩ : ∃ g, f = g + 1 := ⟨f - 1, by omega⟩
    have e : i = b := by omega
    subst e
    rw [fn5_readNumber_37, up2_place (show 9 ≠ 10 by omega), h9, if_pos (nI_le (by omega) (by omega))]
  | succ d ih =>
    intro i f hi hf hh
    obtain ⟨f, rfl⟩ : ∃ g, f = g + 1 := ⟨f - 1, by omega⟩
    obtain ⟨b1, b2⟩ := hT.2.2 i (by omega)
    have ed := hd i hh (by omega)
    have hdg := ck_dig ed
    have hv : nI (pvl t h i) * 10 + nI (t i) - 48 = nI (pvl t h (i + 1)) := by
      rw [show nI (pvl t h i) * 10 = nI (pvl t h i * 10) from pk_mul _ 10, nI_add, show (48 : Int32) = nI 48 from rfl, sub_n (by omega)]
      congr 1
      unfold pvl
      by_cases e3 : i = h
      · subst e3
        rw [if_pos rfl, if_neg (by omega), if_pos rfl]
        omega
      · have e4 : i = h + 1 := by omega
        subst e4
        rw [if_neg (by omega), if_pos rfl, if_neg (by omega), if_neg (by omega)]
        omega
    rw [fn5_readNumber_37, up2_place (show 9 ≠ 10 by omega), h9, if_neg (nI_ge (by omega) (by omega)), if_pos (ib_y (by omega) (by omega)), cl_n (by omega), up2_same, up2_cell (k' := 54) (by omega), b2, by_dig _ b1 ed, hv, up2_up2, show nI i + 1 = nI (i + 1) from nI_add i 1]
    exact ih (i + 1) f (by omega) (by omega) (by omega)
/-- a fault stands -/
def FA (x : Mem) (e p : Nat) : Prop := x 55 2 = nI e ∧ x 55 3 = nI p
def BR (m : Mem) (e p : Nat) : Prop := m 0 16 = nI e ∧ m 0 17 = nI p
theorem x_readNumber {x : Mem} {n s lo hi : Nat} {t : Nat → Nat} (hT : TpX x n t) (hs : s ≤ n) (h9 : x 55 9 = nI s) (hl : lo ≤ 1) (hh : hi ≤ 99) : ∃ x', FX x x' ∧ ((rnT t n s lo hi ≠ 0 ∧ fn5_readNumber (nI lo) (nI hi) x = some (0, x') ∧ FA x' (rnT t n s lo hi) (hdT t n s)) ∨ (rnT t n s lo hi = 0 ∧ fn5_readNumber (nI lo) (nI hi) x = some (1, x') ∧ x' 55 2 = x 55 2 ∧ x' 55 8 = nI (hdT t n s) ∧ x' 55 9 = nI (bhT t n s) ∧ x' 55 10 = nI (nvT t n s))) := by
  obtain ⟨y, a1, aF, a7, a8, a9, a2, a3⟩ := x_readToken hT hs h9
  have hn := hT.1
  have hd := hd_in (t := t) hs
  have hb := bh_in (t := t) hs
  have hk := kd_le (t := t) (n := n) (s := s)
  unfold fn5_readNumber
  rw [a1]
  simp only [bp]
  cases eo : okT t n s
  · rw [bI_f, if_neg (show ¬ ¬ (0 : Int32) = 0 from fun z => z rfl)]
    have er : rnT t n s lo hi = 1 := by
      unfold rnT
      rw [if_pos eo]
    obtain ⟨b1, b2⟩ := a3 eo
    rw [er]
    exact ⟨y, aF, Or.inl ⟨by omega, rfl, b1, b2⟩⟩
  · rw [bI_t, if_pos n10, a7, a8]
    have y2 := a2 eo
    by_cases ek : kdT t n s = 2
    · have hlt := kd_lt hs (show kdT t n s ≠ 0 by omega)
      have h2 := ok_2 eo ek
      have hv := nv_le ek (by omega) h2
      rw [if_pos (by rw [ek]; rfl), up2_place (show 8 ≠ 10 by omega), a8]
      have hl2 := x_numL (u := nI lo) (v := nI hi) (TpX_F hT aF) a9 hb.2.1 h2 (bh_dig ek) (k := fun x3_37 w_37 => (if (w_37 55 10) < nI lo then fn5_readNumber_91 w_37 else (if (w_37 55 10) ≤ nI hi then fn5_readNumber_103 w_37 else fn5_readNumber_91 w_37))) (bhT t n s - hdT t n s) (hdT t n s) 1000 (by omega) (by omega) (Nat.le_refl _)
      rw [show pvl t (hdT t n s) (hdT t n s) = 0 by unfold pvl; rw [if_pos rfl]] at hl2
      have hl3 : fn5_readNumber_37 (nI lo) (nI hi) _ 1000 (nI (hdT t n s)) (up2 y 55 10 0) = _ := hl2
      rw [hl3, up2_same, show pvl t (hdT t n s) (bhT t n s) = nvT t n s from rfl]
      generalize hz : up2 y 55 10 (nI (nvT t n s)) = z
      have zF : FX x z := by rw [← hz]; exact FX_up aF (by omega)
      have z8 : z 55 8 = nI (hdT t n s) := by rw [← hz, up2_place (by omega)]; exact a8
      have z9 : z 55 9 = nI (bhT t n s) := by rw [← hz, up2_place (by omega)]; exact a9
      have z10 : z 55 10 = nI (nvT t n s) := by rw [← hz, up2_same]
      have z2 : z 55 2 = x 55 2 := by rw [← hz, up2_place (by omega)]; exact y2
      unfold fn5_readNumber_91 fn5_readNumber_103 fn5_fail
      simp only [bp]
      have bad : (nvT t n s < lo ∨ hi < nvT t n s) → rnT t n s lo hi = 3 := by
        intro h
        unfold rnT
        rw [if_neg (by rw [eo]; simp), if_neg (by omega), if_pos h]
      have fin : (nvT t n s < lo ∨ hi < nvT t n s) → ∃ x', FX x x' ∧ ((rnT t n s lo hi ≠ 0 ∧ (some (0, up2 (up2 z 55 2 3) 55 3 (z 55 8)) : Option (Int32 × Mem)) = some (0, x') ∧ FA x' (rnT t n s lo hi) (hdT t n s)) ∨ (rnT t n s lo hi = 0 ∧ (some (0, up2 (up2 z 55 2 3) 55 3 (z 55 8)) : Option (Int32 × Mem)) = some (1, x') ∧ x' 55 2 = x 55 2 ∧ x' 55 8 = nI (hdT t n s) ∧ x' 55 9 = nI (bhT t n s) ∧ x' 55 10 = nI (nvT t n s))) := by
        intro h
        rw [bad h]
        refine ⟨_, FX_up (FX_up zF (by omega)) (by omega), Or.inl ⟨by omega, rfl, ?_, ?_⟩⟩
        · rw [up2_place (by omega), up2_same]; rfl
        · rw [up2_same]; exact z8
      by_cases e1 : nvT t n s < lo
      · rw [if_pos (nI_lt e1 (by omega)), if_pos trivial]
        exact fin (Or.inl e1)
      · rw [if_neg (nI_nlt (by omega) (by omega))]
        by_cases e2 : nvT t n s ≤ hi
        · rw [if_pos (nI_le e2 (by omega))]
          have er : rnT t n s lo hi = 0 := by
            unfold rnT
            rw [if_neg (by rw [eo]; simp), if_neg (by omega), if_neg (by omega)]
          rw [er]
          exact ⟨z, zF, Or.inr ⟨rfl, rfl, z2, z8, z9, z10⟩⟩
        · rw [if_neg (nI_ge (by omega) (by omega)), if_pos trivial]
          exact fin (Or.inr (by omega))
    · have er : rnT t n s lo hi = 2 := by
        unfold rnT
        rw [if_neg (by rw [eo]; simp), if_pos ek]
      rw [if_neg (show ¬ nI (kdT t n s) = 2 by rw [show (2 : Int32) = nI 2 from rfl, eq_n (by omega) (by omega)]; exact ek), er]
      unfold fn5_fail
      simp only [bp]
      rw [if_pos (by decide)]
      refine ⟨_, FX_up (FX_up aF (by omega)) (by omega), Or.inl ⟨by omega, rfl, ?_, ?_⟩⟩
      · rw [up2_place (by omega), up2_same]; rfl
      · rw [up2_same]
theorem m_stepB {m : Mem} {e p : Nat} (h : BR m e p) (he : 1 ≤ e ∧ e ≤ 9) : fn8_step m = some (0, m) := by
  unfold fn8_step
  rw [h.1, if_neg (nI_nle (by omega) (by omega))]
theorem br_0 {m : Mem} {e p : Nat} (h : BR m e p) (he : 1 ≤ e ∧ e ≤ 9) : ¬ m 0 16 = 0 := by
  rw [h.1]
  exact nI_ne0 (by omega) (by omega)
theorem m_otherB {m : Mem} {e p : Nat} {a b c : Int32} (h : BR m e p) (he : 1 ≤ e ∧ e ≤ 9) : fn8_other a b c m = some (a, m) := by
  have h0 := br_0 h he
  unfold fn8_other fn8_other_20 fn8_other_47 fn8_other_80 fn8_other_95
  rw [if_pos h0, if_pos h0, if_pos h0, if_pos h0, m_stepB h he]
  rfl
theorem m_other80B {m : Mem} {e p : Nat} {a : Int32} (h : BR m e p) (he : 1 ≤ e ∧ e ≤ 9) : fn8_other_80 a m = some (a, m) := by
  have h0 := br_0 h he
  unfold fn8_other_80 fn8_other_95
  rw [if_pos h0, m_stepB h he]
  rfl
theorem m_other47B {m : Mem} {e p : Nat} {a c : Int32} (h : BR m e p) (he : 1 ≤ e ∧ e ≤ 9) : fn8_other_47 a c m = some (a, m) := by
  have h0 := br_0 h he
  unfold fn8_other_47
  rw [if_pos h0]
  exact m_other80B h he
theorem m_other20B {m : Mem} {e p : Nat} {a b c : Int32} (h : BR m e p) (he : 1 ≤ e ∧ e ≤ 9) : fn8_other_20 a b c m = some (a, m) := by
  have h0 := br_0 h he
  unfold fn8_other_20
  rw [if_pos h0]
  exact m_other47B h he
theorem br_up {m : Mem} {e p : Nat} (h19 : m 0 19 = nI p) : BR (up2 (up2 m 0 16 (nI e)) 0 17 (m 0 19)) e p := by
  refine ⟨by rw [up2_place (by omega), up2_same], ?_⟩
  rw [up2_same, h19]
theorem m_other {m : Mem} {n s lo hi sm : Nat} {t : Nat → Nat} (hT : TpM m n t) (hs : s ≤ n) (hK : TK m t n s) (hl : lo ≤ 1) (hh : hi ≤ 99) (hsm : sm < 64) : ∃ m', FM m m' ∧ ((rnT t n s lo hi ≠ 0 ∧ fn8_other (nI lo) (nI hi) (nI sm) m = some (nI lo, m') ∧ BR m' (rnT t n s lo hi) (hdT t n s)) ∨ (rnT t n s lo hi = 0 ∧ sm.testBit (nvT t n s) = true ∧ fn8_other (nI lo) (nI hi) (nI sm) m = some (nI lo, m') ∧ BR m' 4 (hdT t n s)) ∨ (rnT t n s lo hi = 0 ∧ sm.testBit (nvT t n s) = false ∧ fn8_other (nI lo) (nI hi) (nI sm) m = some (nI (nvT t n s), m') ∧ TK m' t n (bhT t n s))) := by
  obtain ⟨k1, k2, k3, k4, k5⟩ := hK
  have hn := hT.1
  have hd := hd_in (t := t) hs
  have hb := bh_in (t := t) hs
  have hk := kd_le (t := t) (n := n) (s := s)
  cases eo : okT t n s
  · have er : rnT t n s lo hi = 1 := by
      unfold rnT
      rw [if_pos eo]
    have hB : BR m 1 (hdT t n s) := k5 eo
    rw [er]
    exact ⟨m, FM_rf m, Or.inl ⟨by omega, m_otherB hB (by omega), hB⟩⟩
  · obtain ⟨h16, h21⟩ := k4 eo
    have n16 : ¬ ¬ m 0 16 = 0 := fun z => z h16
    unfold fn8_other
    rw [if_neg n16]
    by_cases ek : kdT t n s = 2
    · have hlt := kd_lt hs (show kdT t n s ≠ 0 by omega)
      have h2 := ok_2 eo ek
      have hv := nv_le ek (by omega) h2
      have h20 : m 0 20 = 2 := by
        rw [k3, ek]
        rfl
      rw [if_pos h20]
      unfold fn8_other_20
      rw [if_neg n16, h21 ek, in_val, ti_l, ti_l, ti_l, ti_n (by omega), ti_n (by omega), ti_n (by omega)]
      simp only [bp]
      by_cases e3 : nvT t n s < lo ∨ hi < nvT t n s
      · have er : rnT t n s lo hi = 3 := by
          unfold rnT
          rw [if_neg (by rw [eo]; simp), if_neg (by omega), if_pos e3]
        rw [if_neg (show ¬ ((lo : Int) ≤ (nvT t n s : Int) ∧ (nvT t n s : Int) ≤ (hi : Int)) by omega), if_neg (show ¬ ¬ (0 : Int32) = 0 from fun z => z rfl), m_fails h16, er]
        simp only [bp]
        have hB : BR (up2 (up2 m 0 16 3) 0 17 (m 0 19)) 3 (hdT t n s) := br_up k2
        exact ⟨_, FM_up (FM_up (FM_rf m) (by omega)) (by omega), Or.inl ⟨by omega, m_other47B hB (by omega), hB⟩⟩
      · have er : rnT t n s lo hi = 0 := by
          unfold rnT
          rw [if_neg (by rw [eo]; simp), if_neg (by omega), if_neg e3]
        rw [if_pos (show ((lo : Int) ≤ (nvT t n s : Int) ∧ (nvT t n s : Int) ≤ (hi : Int)) by omega), if_pos n10, er]
        unfold fn8_other_47
        rw [if_neg n16, h21 ek, show (31 : Int32) = nI 31 from rfl]
        have good : sm.testBit (nvT t n s) = false → ∃ m', FM m m' ∧ ((0 ≠ 0 ∧ fn8_other_80 (nI lo) m = some (nI lo, m') ∧ BR m' 0 (hdT t n s)) ∨ (0 = 0 ∧ sm.testBit (nvT t n s) = true ∧ fn8_other_80 (nI lo) m = some (nI lo, m') ∧ BR m' 4 (hdT t n s)) ∨ (0 = 0 ∧ sm.testBit (nvT t n s) = false ∧ fn8_other_80 (nI lo) m = some (nI (nvT t n s), m') ∧ TK m' t n (bhT t n s))) := by
          intro hbit
          unfold fn8_other_80 fn8_other_95
          rw [if_neg n16, h21 ek]
          obtain ⟨m', c1, c2, c3⟩ := m_step hT hb.2.1 h16 k1
          rw [c1]
          exact ⟨m', c2, Or.inr (Or.inr ⟨rfl, hbit, rfl, c3⟩)⟩
        by_cases e31 : 31 ≤ nvT t n s
        · rw [if_pos (nI_le e31 (by omega))]
          exact good (Nat.testBit_lt_two_pow (Nat.lt_of_lt_of_le hsm (Nat.le_trans (by decide : 64 ≤ 2 ^ 31) (Nat.pow_le_pow_right (by omega) e31))))
        · rw [if_neg (nI_ge (by omega) (by omega))]
          have hbt : (nI sm >>> (nI (nvT t n s) &&& nI 31)) &&& 1 = bI (sm.testBit (nvT t n s)) := bit_n (by omega) (by omega)
          rw [hbt]
          cases eb : sm.testBit (nvT t n s)
          · rw [bI_f, if_pos (by decide)]
            rw [eb] at good
            exact good rfl
          · rw [bI_t, if_neg (show ¬ ¬ (1 : Int32) = 1 from fun z => z rfl), m_fails h16]
            simp only [bp]
            have hB : BR (up2 (up2 m 0 16 4) 0 17 (m 0 19)) 4 (hdT t n s) := br_up k2
            exact ⟨_, FM_up (FM_up (FM_rf m) (by omega)) (by omega), Or.inr (Or.inl ⟨trivial, trivial, m_other80B hB (by omega), hB⟩)⟩
    · have er : rnT t n s lo hi = 2 := by
        unfold rnT
        rw [if_neg (by rw [eo]; simp), if_pos ek]
      have h20 : ¬ m 0 20 = 2 := by
        rw [k3, show (2 : Int32) = nI 2 from rfl, eq_n (by split <;> omega) (by omega)]
        split <;> omega
      rw [if_neg h20, m_fails h16, er]
      simp only [bp]
      have hB : BR (up2 (up2 m 0 16 2) 0 17 (m 0 19)) 2 (hdT t n s) := br_up k2
      exact ⟨_, FM_up (FM_up (FM_rf m) (by omega)) (by omega), Or.inl ⟨by omega, m_other20B hB (by omega), hB⟩⟩
