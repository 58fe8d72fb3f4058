/-! text: names -/
def cutN : List Nat := [0, 3, 6, 9, 13, 18, 22, 29, 34, 40, 44, 50, 56]
def letN : List Nat := [108, 97, 119, 102, 101, 101, 111, 110, 101, 99, 111, 105, 110, 115, 112, 101, 110, 100, 116, 97, 108, 107, 99, 108, 105, 112, 112, 101, 100, 112, 108, 97, 105, 110, 103, 111, 115, 115, 105, 112, 100, 101, 97, 102, 98, 101, 103, 103, 97, 114, 116, 97, 120, 109, 97, 110]
def wdn (i : Nat) : Nat := cutN.getD (i + 1) 0 - cutN.getD i 0
def wdc (i k : Nat) : Nat := letN.getD (cutN.getD i 0 + k) 0
def ixs (c : Nat) : Nat := [0, 1, 2, 7, 8, 9, 10, 11, 3, 6, 4, 5].getD c 0
theorem cut_n : ∀ i, i < 13 → cutsL.getD i 0 = nI (cutN.getD i 0) ∧ cutN.getD i 0 ≤ 56 := by decide
theorem let_n : ∀ i, i < 56 → letL.getD i 0 = nI (letN.getD i 0) ∧ letN.getD i 0 < 128 := by decide
theorem cut_in : ∀ i, i < 12 → cutN.getD i 0 + wdn i ≤ 56 ∧ cutN.getD (i + 1) 0 = cutN.getD i 0 + wdn i ∧ 1 ≤ wdn i ∧ wdn i ≤ 7 := by decide
theorem ixs_len : ∀ c, c < 12 → slen c = nI (wdn (ixs c)) ∧ lenJS.getD c 0 = wdn (ixs c) ∧ ixs c < 12 := by decide
theorem ixs_chr : ∀ c, c < 12 → ∀ k, k < wdn (ixs c) → schr c (nI k) = nI (wdc (ixs c) k) := by decide +kernel
theorem wd_ne : ∀ i, i < 12 → ∀ j, j < 12 → i ≠ j → wdn i = wdn j → ∃ k, k < wdn i ∧ wdc i k ≠ wdc j k := by decide +kernel
theorem wdc_lt {i k : Nat} (hi : i < 12) (hk : k < wdn i) : wdc i k < 128 := by
  have := cut_in i hi
  exact (let_n _ (by omega)).2
theorem allB_iff {f : Nat → Bool} : ∀ d c, allB f d c = true ↔ ∀ i, c ≤ i → i < c + d → f i = true := by
  intro d
  induction d with
  | zero =>
    intro c
    exact ⟨fun _ i h1 h2 => by omega, fun _ => rfl⟩
  | succ d ih =>
    intro c
    rw [allB, Bool.and_eq_true, ih]
    constructor
    · intro ⟨h1, h2⟩ i g1 g2
      by_cases e : i = c
      · subst e
        exact h1
      · exact h2 i (by omega) (by omega)
    · intro h
      exact ⟨h c (by omega) (by omega), fun i g1 g2 => h i (by omega) (by omega)⟩
def mch (t : Nat → Nat) (h i k : Nat) : Bool := decide (t (h + k) = wdc i k)
def mat (t : Nat → Nat) (h b i : Nat) : Bool := decide (b - h = wdn i) && allB (mch t h i) (wdn i) 0
theorem mat_one {t : Nat → Nat} {h b i j : Nat} (hi : i < 12) (hj : j < 12) (h1 : mat t h b i = true) (h2 : mat t h b j = true) : i = j := by
  rw [mat, Bool.and_eq_true, decide_eq_true_eq, allB_iff] at h1 h2
  refine Classical.byContradiction (fun hne => ?_)
  obtain ⟨k, k1, k2⟩ := wd_ne i hi j hj hne (by omega)
  have e1 := h1.2 k (by omega) (by omega)
  have e2 := h2.2 k (by omega) (by omega)
  rw [mch, decide_eq_true_eq] at e1 e2
  omega
def nmF (t : Nat → Nat) (h b : Nat) : Nat → Nat → Nat
  | 0, i => i
  | d + 1, i => if mat t h b i = true then i else nmF t h b d (i + 1)
theorem nmF_in {t : Nat → Nat} {h b : Nat} : ∀ d i, i ≤ nmF t h b d i ∧ nmF t h b d i ≤ i + d ∧ (nmF t h b d i < i + d → mat t h b (nmF t h b d i) = true) ∧ ∀ j, i ≤ j → j < nmF t h b d i → mat t h b j = false := by
  intro d
  induction d with
  | zero =>
    intro i
    exact ⟨Nat.le_refl _, Nat.le_refl _, fun q => by rw [nmF] at q; omega, fun j h1 h2 => by rw [nmF] at h2; omega⟩
  | succ d ih =>
    intro i
    obtain ⟨h1, h2, h3, h4⟩ := ih (i + 1)
    rw [nmF]
    by_cases e : mat t h b i = true
    · rw [if_pos e]
      exact ⟨Nat.le_refl _, by omega, fun _ => e, fun j g1 g2 => by omega⟩
    · rw [if_neg e]
      refine ⟨by omega, by omega, fun g => h3 (by omega), fun j g1 g2 => ?_⟩
      by_cases ej : j = i
      · subst ej
        simpa using e
      · exact h4 j (by omega) g2
def nmk (t : Nat → Nat) (n s : Nat) : Nat := if kdT t n s = 1 then nmF t (hdT t n s) (bhT t n s) 12 0 else 12
theorem nmk_le {t : Nat → Nat} {n s : Nat} : nmk t n s ≤ 12 := by
  unfold nmk
  have := (nmF_in (t := t) (h := hdT t n s) (b := bhT t n s) 12 0).2.1
  split <;> omega
theorem nmk_iff {t : Nat → Nat} {n s i : Nat} (hi : i < 12) : (decide (kdT t n s = 1) && mat t (hdT t n s) (bhT t n s) i) = decide (nmk t n s = i) := by
  obtain ⟨-, h2, h3, h4⟩ := nmF_in (t := t) (h := hdT t n s) (b := bhT t n s) 12 0
  unfold nmk
  by_cases e : kdT t n s = 1
  · rw [decide_eq_true e, Bool.true_and, if_pos e]
    by_cases em : mat t (hdT t n s) (bhT t n s) i = true
    · rw [em]
      symm
      rw [decide_eq_true_eq]
      by_cases el : nmF t (hdT t n s) (bhT t n s) 12 0 < 12
      · exact mat_one el hi (h3 (by omega)) em
      · have := h4 i (by omega) (by omega)
        rw [em] at this
        simp at this
    · have em' : mat t (hdT t n s) (bhT t n s) i = false := by simpa using em
      rw [em']
      symm
      rw [decide_eq_false_iff_not]
      intro z
      rw [z] at h3
      rw [h3 (by omega)] at em'
      simp at em'
  · rw [decide_eq_false e, Bool.false_and, if_neg e]
    symm
    rw [decide_eq_false_iff_not]
    omega
theorem x_nameL {x : Mem} {n h b c : Nat} {t : Nat → Nat} (hT : TpX x n t) (h8 : x 55 8 = nI h) (hc : c < 12) (hb : h + wdn (ixs c) ≤ n) : ∀ d i f, i + d = wdn (ixs c) → d < f → fn5_isName_28 c (fun x2_28 w_28 => some (1, w_28)) f (nI i) x = some (bI (allB (mch t h (ixs c)) d i), x) := by
  obtain ⟨s1, s2, s3⟩ := ixs_len c hc
  have hn := hT.1
  intro d
  induction d with
  | zero =>
    intro i f hi hf
    obtain ⟨f, rfl⟩ : ∃ g, f = g + 1 := ⟨f - 1, by omega⟩
    rw [fn5_isName_28]
    unfold fnS_length
    simp only [bp]
    rw [s1, if_pos (nI_le (by omega) (by omega))]
    rfl
  | succ d ih =>
    intro i f hi hf
    obtain ⟨f, rfl⟩ : ∃ g, f = g + 1 := ⟨f - 1, by omega⟩
    obtain ⟨b1, b2⟩ := hT.2.2 (h + i) (by omega)
    have hw := wdc_lt (i := ixs c) (k := i) s3 (by omega)
    rw [fn5_isName_28]
    unfold fnS_length fnS_charAt
    simp only [bp, s1, s2, hT.2.1, h8, nI_add]
    rw [if_neg (nI_ge (by omega) (by omega)), if_neg (nI_ge (by omega) (by omega)), if_pos (ib_y (by omega) (by omega)), if_pos (ib_y (by omega) (by omega)), cl_n (by omega), b2]
    simp only [bp]
    rw [ixs_chr c hc i (by omega), show nI i + 1 = nI (i + 1) from nI_add i 1, allB, mch]
    have e := by_eq (t (h + i)) b1 (wdc (ixs c) i) hw
    by_cases ee : t (h + i) = wdc (ixs c) i
    · rw [if_pos (e.mpr ee), decide_eq_true ee, Bool.true_and]
      exact ih (i + 1) f (by omega) (by omega)
    · rw [if_neg (fun z => ee (e.mp z)), decide_eq_false ee, Bool.false_and]
      rfl
theorem x_isName {x : Mem} {n s c : Nat} {t : Nat → Nat} (hT : TpX x n t) (hs : s ≤ n) (h7 : x 55 7 = nI (kdT t n s)) (h8 : x 55 8 = nI (hdT t n s)) (h9 : x 55 9 = nI (bhT t n s)) (hc : c < 12) : fn5_isName c x = some (bI (decide (nmk t n s = ixs c)), x) := by
  obtain ⟨s1, s2, s3⟩ := ixs_len c hc
  obtain ⟨bh1, bh2, bh3⟩ := bh_in (t := t) hs
  have hn := hT.1
  have hk := kd_le (t := t) (n := n) (s := s)
  have hw := cut_in _ s3
  rw [← nmk_iff s3]
  unfold fn5_isName fnS_length
  rw [h7, h8, h9, sub_n bh1, s1, show (1 : Int32) = nI 1 from rfl]
  by_cases e : kdT t n s = 1
  · rw [if_neg (show ¬ ¬ nI (kdT t n s) = nI 1 by rw [e]; exact fun z => z rfl), decide_eq_true e, Bool.true_and, mat]
    simp only [bp]
    by_cases el : bhT t n s - hdT t n s = wdn (ixs c)
    · rw [if_pos (by rw [el]), decide_eq_true el, Bool.true_and]
      exact x_nameL hT h8 hc (b := 0) (by omega) (wdn (ixs c)) 0 1000 (by omega) (by omega)
    · rw [if_neg (by rw [eq_n (by omega) (by omega)]; exact el), decide_eq_false el, Bool.false_and]
      rfl
  · rw [if_pos (show ¬ nI (kdT t n s) = nI 1 by rw [eq_n (by omega) (by omega)]; exact e), decide_eq_false e, Bool.false_and]
    rfl
theorem m_nameC {m : Mem} {n h b i : Nat} {t : Nat → Nat} (hT : TpM m n t) (h18 : m 0 18 = nI b) (h19 : m 0 19 = nI h) (hi : i < 12) (hl : b - h = wdn i) (hb : b ≤ n) (hh : h ≤ b) {k : Int32 → Int32 → Mem → Option (Int32 × Mem)} : ∀ d c f, c + d = wdn i → d + 1 < f → ∃ u, fn8_nameHere_51 (nI i) k f 1 (nI c) m = k (bI (allB (mch t h i) d c)) u m := by
  have hn := hT.1
  obtain ⟨hc1, hc2, hc3, hc4⟩ := cut_in i hi
  have hcut : m 7 i = nI (cutN.getD i 0) := by rw [hT.2.2.2.1 i (by omega)]; exact (cut_n i (by omega)).1
  intro d
  induction d with
  | zero =>
    intro c f hc hf
    obtain ⟨f, rfl⟩ : ∃ g, f = g + 1 := ⟨f - 1, by omega⟩
    rw [fn8_nameHere_51, if_neg n10, h18, h19, sub_n hh, hl, if_pos (nI_le (by omega) (by omega))]
    exact ⟨_, rfl⟩
  | succ d ih =>
    intro c f hc hf
    obtain ⟨f, rfl⟩ : ∃ g, f = g + 2 := ⟨f - 2, by omega⟩
    have b1 := (hT.2.2.1 (h + c) (by omega)).1
    have hlet : m 8 (cutN.getD i 0 + c) = nI (wdc i c) := by rw [hT.2.2.2.2 _ (by omega)]; exact (let_n _ (by omega)).1
    have hw := wdc_lt (i := i) (k := c) hi (by omega)
    rw [fn8_nameHere_51, if_neg n10, h18, h19, sub_n hh, hl, if_neg (nI_ge (by omega) (by omega)), nI_add, m_byteAt hT (by omega)]
    simp only [bp]
    rw [if_pos (ib_y (by omega) (by omega)), cl_n (by omega), hcut, nI_add, if_pos (ib_y (by omega) (by omega)), cl_n (by omega), hlet, bA_in (by omega), show nI c + 1 = nI (c + 1) from nI_add c 1, allB, mch]
    by_cases ee : t (h + c) = wdc i c
    · rw [if_neg (show ¬ ¬ nI (t (h + c)) = nI (wdc i c) by rw [ee]; exact fun z => z rfl), decide_eq_true ee, Bool.true_and]
      exact ih (c + 1) (f + 1) (by omega) (by omega)
    · rw [if_pos (show ¬ nI (t (h + c)) = nI (wdc i c) by rw [eq_n (by omega) (by omega)]; exact ee), decide_eq_false ee, Bool.false_and, fn8_nameHere_51, if_pos rfl]
      exact ⟨_, rfl⟩
theorem m_namesL {m : Mem} {n h b : Nat} {t : Nat → Nat} (hT : TpM m n t) (h18 : m 0 18 = nI b) (h19 : m 0 19 = nI h) (h20 : m 0 20 = 1) (hb : b ≤ n) (hh : h ≤ b) : ∀ d i f, i + d = 12 → d < f → fn8_nameHere_2 (fun x1_2 w_2 => some ((-4), w_2)) f (nI i) m = some (if nmF t h b d i < 12 then nI (nmF t h b d i) else -4, m) := by
  have hn := hT.1
  intro d
  induction d with
  | zero =>
    intro i f hi hf
    obtain ⟨f, rfl⟩ : ∃ g, f = g + 1 := ⟨f - 1, by omega⟩
    have e : i = 12 := by omega
    subst e
    rw [fn8_nameHere_2, if_pos (by decide), nmF, if_neg (by omega)]
  | succ d ih =>
    intro i f hi hf
    obtain ⟨f, rfl⟩ : ∃ g, f = g + 1 := ⟨f - 1, by omega⟩
    obtain ⟨hc1, hc2, hc3, hc4⟩ := cut_in i (by omega)
    have hcut : m 7 i = nI (cutN.getD i 0) := by rw [hT.2.2.2.1 i (by omega)]; exact (cut_n i (by omega)).1
    have hcut2 : m 7 (i + 1) = nI (cutN.getD (i + 1) 0) := by rw [hT.2.2.2.1 (i + 1) (by omega)]; exact (cut_n (i + 1) (by omega)).1
    rw [fn8_nameHere_2, if_neg (show ¬ (12 : Int32) ≤ nI i from nI_ge (b := 12) (by omega) (by omega)), if_neg (show ¬ ¬ m 0 20 = 1 from fun z => z h20), show nI i + 1 = nI (i + 1) from nI_add i 1, if_pos (ib_y (by omega) (by omega)), if_pos (ib_y (by omega) (by omega)), cl_n (by omega), cl_n (by omega), hcut, hcut2, h18, h19, sub_n hh, sub_n (by omega), show cutN.getD (i + 1) 0 - cutN.getD i 0 = wdn i from rfl]
    unfold fn8_nameHere_48
    have hstep : fn8_nameHere_106 (nI i) 0 (fn8_nameHere_2 (fun x1_2 w_2 => some ((-4), w_2)) f) m = some (if nmF t h b d (i + 1) < 12 then nI (nmF t h b d (i + 1)) else -4, m) := by
      unfold fn8_nameHere_106
      rw [if_pos rfl, show nI i + 1 = nI (i + 1) from nI_add i 1]
      exact ih (i + 1) f (by omega) (by omega)
    rw [nmF]
    by_cases el : b - h = wdn i
    · rw [if_neg (show ¬ ¬ nI (b - h) = nI (wdn i) by rw [el]; exact fun z => z rfl)]
      obtain ⟨u, hu⟩ := m_nameC hT h18 h19 (show i < 12 by omega) el hb hh (k := fun x2_51 x3_51 w_51 => fn8_nameHere_106 (nI i) x2_51 (fn8_nameHere_2 (fun x1_2 w_2 => some ((-4), w_2)) f) w_51) (wdn i) 0 1000 (by omega) (by omega)
      have hu' : fn8_nameHere_51 (nI i) _ 1000 1 0 m = _ := hu
      rw [hu', mat, decide_eq_true el, Bool.true_and]
      cases ea : allB (mch t h i) (wdn i) 0
      · rw [if_neg (show ¬ (false = true) by simp)]
        exact hstep
      · rw [if_pos rfl, if_pos (by omega)]
        unfold fn8_nameHere_106
        rw [if_neg (by decide)]
    · rw [if_pos (show ¬ nI (b - h) = nI (wdn i) by rw [eq_n (by omega) (by omega)]; exact el), mat, decide_eq_false el, Bool.false_and, if_neg (show ¬ (false = true) by simp), show (1000 : Nat) = 999 + 1 from rfl, fn8_nameHere_51, if_pos rfl]
      exact hstep
theorem m_nameHere {m : Mem} {n s : Nat} {t : Nat → Nat} (hT : TpM m n t) (hs : s ≤ n) (hK : TK m t n s) : fn8_nameHere m = some (if nmk t n s < 12 then nI (nmk t n s) else -4, m) := by
  obtain ⟨bh1, bh2, bh3⟩ := bh_in (t := t) hs
  obtain ⟨k1, k2, k3, -⟩ := hK
  have hk := kd_le (t := t) (n := n) (s := s)
  unfold nmk fn8_nameHere
  by_cases e : kdT t n s = 1
  · rw [e] at k3
    simp only [if_pos e]
    exact m_namesL hT k1 k2 k3 bh2 bh1 12 0 1000 (by omega) (by omega)
  · simp only [if_neg e]
    rw [show (1000 : Nat) = 999 + 1 from rfl, fn8_nameHere_2, if_neg (by decide), if_pos, if_neg (by omega)]
    rw [k3, show (1 : Int32) = nI 1 from rfl, eq_n (by split <;> omega) (by omega)]
    split <;> omega
