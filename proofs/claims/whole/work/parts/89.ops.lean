/-! text: the reference's tokens -/
def bA (t : Nat → Nat) (n i : Nat) : Int32 := if n ≤ i then -4 else nI (t i)
theorem bA_end {t : Nat → Nat} {n i : Nat} (h : n ≤ i) : bA t n i = -4 := by
  unfold bA
  rw [if_pos h]
theorem bA_in {t : Nat → Nat} {n i : Nat} (h : i < n) : bA t n i = nI (t i) := by
  unfold bA
  rw [if_neg (by omega)]
theorem m_byteAt {m : Mem} {n i : Nat} {t : Nat → Nat} (hT : TpM m n t) (hi : i ≤ n) : fn8_byteAt (nI i) m = some (bA t n i, m) := by
  obtain ⟨hn, h1, h2, -⟩ := hT
  unfold fn8_byteAt bA
  rw [h1]
  by_cases e : n ≤ i
  · rw [if_pos (nI_le e (by omega)), if_pos e]
  · rw [if_neg (nI_ge (by omega) (by omega)), if_pos (ib_y (by omega) (by omega)), cl_n (by omega), (h2 i (by omega)).2, if_neg e]
theorem in_name {m w : Mem} {n i : Nat} {t : Nat → Nat} (hT : TpM m n t) : fn8_in (bA t n i).toInt64 97 122 w = some (bI (decide (i < n) && decide (ck (t i) = 1)), w) := by
  unfold bA
  rw [in_val, ti_l, show (97 : Int64).toInt = 97 by decide, show (122 : Int64).toInt = 122 by decide]
  by_cases e : n ≤ i
  · rw [if_pos e, if_neg (by decide), decide_eq_false (show ¬ i < n by omega)]
    rfl
  · have := (hT.2.2.1 i (by omega)).1
    rw [if_neg e, ti_n (by omega), decide_eq_true (show i < n by omega)]
    by_cases e2 : ck (t i) = 1
    · have := ck_name.mp e2
      rw [if_pos (by omega), decide_eq_true e2]
      rfl
    · have h3 : ¬ (97 ≤ t i ∧ t i ≤ 122) := fun z => e2 (ck_name.mpr z)
      rw [if_neg (by omega), decide_eq_false e2]
      rfl
theorem in_num {m w : Mem} {n i : Nat} {t : Nat → Nat} (hT : TpM m n t) : fn8_in (bA t n i).toInt64 48 57 w = some (bI (decide (i < n) && decide (ck (t i) = 2)), w) := by
  unfold bA
  rw [in_val, ti_l, show (48 : Int64).toInt = 48 by decide, show (57 : Int64).toInt = 57 by decide]
  by_cases e : n ≤ i
  · rw [if_pos e, if_neg (by decide), decide_eq_false (show ¬ i < n by omega)]
    rfl
  · have := (hT.2.2.1 i (by omega)).1
    rw [if_neg e, ti_n (by omega), decide_eq_true (show i < n by omega)]
    by_cases e2 : ck (t i) = 2
    · have := ck_num.mp e2
      rw [if_pos (by omega), decide_eq_true e2]
      rfl
    · have h3 : ¬ (48 ≤ t i ∧ t i ≤ 57) := fun z => e2 (ck_num.mpr z)
      rw [if_neg (by omega), decide_eq_false e2]
      rfl
theorem TpM_u {m : Mem} {n : Nat} {t : Nat → Nat} (hT : TpM m n t) {j : Nat} {v : Int32} (hj : j ≠ 14) : TpM (up2 m 0 j v) n t := TpM_k hT (up2_place (by omega)) (up2_cell (by omega)) (up2_cell (by omega)) (up2_cell (by omega))
theorem m_skipL {m : Mem} {n : Nat} {t : Nat → Nat} (hT : TpM m n t) {k : Mem → Option (Int32 × Mem)} : ∀ d s f, s + d = n → d < f → fn8_step_8 k f (up2 m 0 18 (nI s)) = k (up2 m 0 18 (nI (skp t d s))) := by
  have hn := hT.1
  intro d
  induction d with
  | zero =>
    intro s f hs hf
    obtain ⟨f, rfl⟩ : ∃ g, f = g + 1 := ⟨f - 1, by omega⟩
    rw [fn8_step_8, up2_same, m_byteAt (TpM_u hT (by omega)) (by omega)]
    simp only [bp]
    rw [bA_end (by omega), if_pos (by decide)]
    rfl
  | succ d ih =>
    intro s f hs hf
    obtain ⟨f, rfl⟩ : ∃ g, f = g + 1 := ⟨f - 1, by omega⟩
    have b1 := (hT.2.2.1 s (by omega)).1
    rw [fn8_step_8, up2_same, m_byteAt (TpM_u hT (by omega)) (by omega)]
    simp only [bp]
    rw [bA_in (by omega), up2_same, up2_up2, show nI s + 1 = nI (s + 1) from nI_add s 1, show (32 : Int32) = nI 32 from rfl, skp]
    by_cases es : t s = 32
    · rw [if_neg (show ¬ ¬ nI (t s) = nI 32 by rw [es]; exact fun z => z rfl), if_pos es]
      exact ih (s + 1) f (by omega) (by omega)
    · rw [if_pos (show ¬ nI (t s) = nI 32 by rw [eq_n (by omega) (by omega)]; exact es), if_neg es]
theorem m_nameL {m : Mem} {n : Nat} {t : Nat → Nat} (hT : TpM m n t) {k : Mem → Option (Int32 × Mem)} : ∀ d s f, s + d = n → d < f → fn8_step_84 k f (up2 m 0 18 (nI s)) = k (up2 m 0 18 (nI (ext t 1 d s))) := by
  have hn := hT.1
  intro d
  induction d with
  | zero =>
    intro s f hs hf
    obtain ⟨f, rfl⟩ : ∃ g, f = g + 1 := ⟨f - 1, by omega⟩
    rw [fn8_step_84, up2_same, m_byteAt (TpM_u hT (by omega)) (by omega)]
    simp only [bp]
    rw [in_name hT]
    simp only [bp]
    rw [decide_eq_false (show ¬ s < n by omega), Bool.false_and, if_pos bI_f]
    rfl
  | succ d ih =>
    intro s f hs hf
    obtain ⟨f, rfl⟩ : ∃ g, f = g + 1 := ⟨f - 1, by omega⟩
    rw [fn8_step_84, up2_same, m_byteAt (TpM_u hT (by omega)) (by omega)]
    simp only [bp]
    rw [in_name hT]
    simp only [bp]
    rw [decide_eq_true (show s < n by omega), Bool.true_and, up2_same, up2_up2, show nI s + 1 = nI (s + 1) from nI_add s 1, ext]
    by_cases es : ck (t s) = 1
    · rw [decide_eq_true es, bI_t, if_neg n10, if_pos es]
      exact ih (s + 1) f (by omega) (by omega)
    · rw [decide_eq_false es, bI_f, if_pos rfl, if_neg es]
theorem m_numL {m : Mem} {n h : Nat} {t : Nat → Nat} (hT : TpM m n t) (h19 : m 0 19 = nI h) {k : Mem → Option (Int32 × Mem)} : ∀ d s f, s + d = n → d < f → h ≤ s → fn8_step_140 k f (up2 (up2 m 0 21 (nI (pvl t h s))) 0 18 (nI s)) = k (up2 (up2 m 0 21 (nI (pvl t h (ext t 2 d s)))) 0 18 (nI (ext t 2 d s))) := by
  have hn := hT.1
  intro d
  induction d with
  | zero =>
    intro s f hs hf hh
    obtain ⟨f, rfl⟩ : ∃ g, f = g + 1 := ⟨f - 1, by omega⟩
    rw [fn8_step_140, up2_same, m_byteAt (TpM_u (TpM_u hT (by omega)) (by omega)) (by omega)]
    simp only [bp]
    rw [in_num hT]
    simp only [bp]
    rw [decide_eq_false (show ¬ s < n by omega), Bool.false_and, if_pos bI_f]
    rfl
  | succ d ih =>
    intro s f hs hf hh
    obtain ⟨f, rfl⟩ : ∃ g, f = g + 1 := ⟨f - 1, by omega⟩
    have hT2 : TpM (up2 (up2 m 0 21 (nI (pvl t h s))) 0 18 (nI s)) n t := TpM_u (TpM_u hT (by omega)) (by omega)
    rw [fn8_step_140, up2_same, m_byteAt hT2 (by omega)]
    simp only [bp]
    rw [in_num hT]
    simp only [bp]
    rw [decide_eq_true (show s < n by omega), Bool.true_and, up2_same, up2_place (show 19 ≠ 18 by omega), up2_place (show 19 ≠ 21 by omega), up2_place (show 21 ≠ 18 by omega), up2_same, h19, sub_n hh, m_byteAt hT2 (by omega)]
    simp only [bp]
    unfold fn8_step_201
    rw [ext]
    have hset : ∀ v : Int32, up2 (up2 (up2 (up2 m 0 21 (nI (pvl t h s))) 0 18 (nI s)) 0 21 v) 0 18 ((up2 (up2 (up2 m 0 21 (nI (pvl t h s))) 0 18 (nI s)) 0 21 v) 0 18 + 1) = up2 (up2 m 0 21 v) 0 18 (nI (s + 1)) := by
      intro v
      rw [up2_place (show 18 ≠ 21 by omega), up2_same, show nI s + 1 = nI (s + 1) from nI_add s 1]
      funext a b
      rw [up2_at, up2_at, up2_at, up2_at, up2_at, up2_at]
      by_cases e1 : a = 0 ∧ b = 18
      · rw [if_pos e1, if_pos e1]
      · rw [if_neg e1, if_neg e1]
        by_cases e2 : a = 0 ∧ b = 21
        · rw [if_pos e2, if_neg e1, if_pos e2]
        · rw [if_neg e2, if_neg e1, if_neg e2, if_neg e2]
    by_cases es : ck (t s) = 2
    · have hd := ck_dig es
      rw [decide_eq_true es, bI_t, if_neg n10, if_pos es, show (2 : Int32) = nI 2 from rfl]
      by_cases e2 : 2 ≤ s - h
      · rw [if_pos (nI_le e2 (by omega)), hset, show pvl t h s = pvl t h (s + 1) by
          unfold pvl
          rw [if_neg (by omega), if_neg (by omega), if_neg (by omega), if_neg (by omega)]]
        exact ih (s + 1) f (by omega) (by omega) (by omega)
      · have hv : 10 * nI (pvl t h s) + bA t n s - 48 = nI (pvl t h (s + 1)) := by
          rw [bA_in (by omega), show (10 : Int32) * nI (pvl t h s) = nI (10 * pvl t h s) from pk_mul 10 _, nI_add, show (48 : Int32) = nI 48 from rfl, sub_n (by omega)]
          congr 1
          unfold pvl
          by_cases e3 : s = h
          · subst e3
            rw [if_pos rfl, if_neg (by omega), if_pos rfl]
            omega
          · have e4 : s = h + 1 := by omega
            subst e4
            rw [if_neg (by omega), if_pos rfl, if_neg (by omega), if_neg (by omega)]
            omega
        rw [if_neg (nI_ge (by omega) (by omega)), hset, hv]
        exact ih (s + 1) f (by omega) (by omega) (by omega)
    · rw [decide_eq_false es, bI_f, if_pos rfl, if_neg es]
theorem m_fails {m : Mem} {e : Int32} (h : m 0 16 = 0) : fn8_fails e m = some (0, up2 (up2 m 0 16 e) 0 17 (m 0 19)) := by
  unfold fn8_fails
  rw [if_neg (show ¬ ¬ m 0 16 = 0 from fun z => z h), up2_place (by omega)]
theorem m_nofail {m : Mem} {e : Int32} (h : ¬ m 0 16 = 0) : fn8_fails e m = some (0, m) := by
  unfold fn8_fails
  rw [if_pos h]
/-- the token at s is read -/
def TK (m : Mem) (t : Nat → Nat) (n s : Nat) : Prop := m 0 18 = nI (bhT t n s) ∧ m 0 19 = nI (hdT t n s) ∧ m 0 20 = nI (if kdT t n s = 4 then 3 else kdT t n s) ∧ (okT t n s = true → m 0 16 = 0 ∧ (kdT t n s = 2 → m 0 21 = nI (nvT t n s))) ∧ (okT t n s = false → m 0 16 = 1 ∧ m 0 17 = nI (hdT t n s))
theorem m_step {m : Mem} {n s : Nat} {t : Nat → Nat} (hT : TpM m n t) (hs : s ≤ n) (h16 : m 0 16 = 0) (h18 : m 0 18 = nI s) : ∃ m', fn8_step m = some (0, m') ∧ FM m m' ∧ TK m' t n s := by
  obtain ⟨hd1, hd2⟩ := hd_in (t := t) hs
  obtain ⟨bh1, bh2, bh3⟩ := bh_in (t := t) hs
  have hn := hT.1
  have hself : up2 m 0 18 (nI s) = m := by
    funext a b
    rw [up2_at]
    split
    · rename_i h
      rw [h.1, h.2, h18]
    · rfl
  unfold fn8_step
  rw [h16, if_pos (by decide)]
  have hk := m_skipL hT (k := fun w_8 => (fn8_byteAt ((up2 w_8 0 19 (w_8 0 18)) 0 18) (up2 w_8 0 19 (w_8 0 18))).bind (fun q47 => (if ¬ q47.1 = (-4) then (fn8_in ((q47.1 : Int32).toInt64) 97 122 (up2 q47.2 0 21 0)).bind (fun q78 => (if q78.1 = 0 then (fn8_in ((q47.1 : Int32).toInt64) 48 57 q78.2).bind (fun q134 => (if q134.1 = 0 then (if q47.1 = 59 then some (0, (up2 (up2 q134.2 0 20 3) 0 18 (((up2 q134.2 0 20 3) 0 18) + 1))) else (fn8_fails 1 (up2 (up2 q134.2 0 20 3) 0 18 (((up2 q134.2 0 20 3) 0 18) + 1))).bind (fun q266 => some (0, q266.2))) else fn8_step_140 (fun w_140 => (if (((up2 w_140 0 20 2) 0 18) - ((up2 w_140 0 20 2) 0 19)) ≤ 2 then some (0, (up2 w_140 0 20 2)) else (fn8_fails 1 (up2 w_140 0 20 2)).bind (fun q237 => some (0, q237.2)))) 1000 q134.2)) else fn8_step_84 (fun w_84 => some (0, (up2 w_84 0 20 1))) 1000 q78.2)) else some (0, (up2 (up2 q47.2 0 21 0) 0 20 0))))) (n - s) s 1000 (by omega) (by omega)
  rw [hself] at hk
  rw [hk, show skp t (n - s) s = hdT t n s from rfl, up2_same, up2_place (show 18 ≠ 19 by omega), up2_same]
  generalize hy : up2 (up2 m 0 18 (nI (hdT t n s))) 0 19 (nI (hdT t n s)) = y
  have y18 : y 0 18 = nI (hdT t n s) := by rw [← hy, up2_place (by omega), up2_same]
  have y19 : y 0 19 = nI (hdT t n s) := by rw [← hy, up2_same]
  have y16 : y 0 16 = 0 := by rw [← hy, up2_place (by omega), up2_place (by omega)]; exact h16
  have yF : FM m y := by
    rw [← hy]
    exact FM_up (FM_up (FM_rf m) (by omega)) (by omega)
  have yT : TpM y n t := TpM_F hT yF
  rw [m_byteAt yT hd2]
  simp only [bp]
  by_cases e : hdT t n s = n
  · have ek : kdT t n s = 0 := by
      unfold kdT
      rw [if_pos e]
    have eb : bhT t n s = hdT t n s := by
      unfold bhT
      rw [if_pos e, e]
    have eo : okT t n s = true := by
      unfold okT
      rw [ek]
      rfl
    rw [bA_end (by omega), if_neg (show ¬ ¬ (-4 : Int32) = -4 from fun z => z rfl)]
    refine ⟨_, rfl, FM_up (FM_up yF (by omega)) (by omega), ?_, ?_, ?_, fun _ => ⟨?_, fun h => by rw [ek] at h; omega⟩, fun h => by rw [eo] at h; simp at h⟩
    · rw [up2_place (by omega), up2_place (by omega), eb]; exact y18
    · rw [up2_place (by omega), up2_place (by omega)]; exact y19
    · rw [up2_same, ek]; rfl
    · rw [up2_place (by omega), up2_place (by omega)]; exact y16
  · have ek : kdT t n s = ck (t (hdT t n s)) := by
      unfold kdT
      rw [if_neg e]
    have b1 := (hT.2.2.1 (hdT t n s) (by omega)).1
    have hA : bA t n (hdT t n s) = nI (t (hdT t n s)) := by
      exact bA_in (by omega)
    rw [if_pos (show ¬ bA t n (hdT t n s) = -4 by rw [hA]; exact n_neg4 (by omega)), in_name hT, decide_eq_true (show hdT t n s < n by omega), Bool.true_and]
    simp only [bp]
    have hself2 : ∀ z : Mem, z 0 18 = nI (hdT t n s) → up2 z 0 18 (nI (hdT t n s)) = z := by
      intro z hz
      funext a b
      rw [up2_at]
      split
      · rename_i h
        rw [h.1, h.2, hz]
      · rfl
    by_cases e1 : ck (t (hdT t n s)) = 1
    · rw [decide_eq_true e1, bI_t, if_neg n10]
      have hl := m_nameL (m := up2 y 0 21 0) (TpM_u yT (by omega)) (k := fun w_84 => some (0, (up2 w_84 0 20 1))) (n - hdT t n s) (hdT t n s) 1000 (by omega) (by omega)
      rw [hself2 _ (by rw [up2_place (by omega)]; exact y18)] at hl
      have eb : bhT t n s = ext t 1 (n - hdT t n s) (hdT t n s) := by
        unfold bhT
        rw [if_neg e, if_pos (Or.inl (ek.trans e1)), ek, e1, show n - hdT t n s = (n - (hdT t n s + 1)) + 1 by omega, ext, if_pos e1]
      have eo : okT t n s = true := by
        unfold okT
        rw [ek, e1]
        rfl
      rw [hl, ← eb]
      refine ⟨_, rfl, FM_up (FM_up (FM_up yF (by omega)) (by omega)) (by omega), ?_, ?_, ?_, fun _ => ⟨?_, fun h => by omega⟩, fun h => by rw [eo] at h; simp at h⟩
      · rw [up2_place (by omega), up2_same]
      · rw [up2_place (by omega), up2_place (by omega), up2_place (by omega)]; exact y19
      · rw [up2_same, ek, e1]; rfl
      · rw [up2_place (by omega), up2_place (by omega), up2_place (by omega)]; exact y16
    · rw [decide_eq_false e1, bI_f, if_pos rfl, in_num hT, decide_eq_true (show hdT t n s < n by omega), Bool.true_and]
      simp only [bp]
      by_cases e2 : ck (t (hdT t n s)) = 2
      · rw [decide_eq_true e2, bI_t, if_neg n10]
        have hl := m_numL (m := y) yT y19 (k := fun w_140 => (if (((up2 w_140 0 20 2) 0 18) - ((up2 w_140 0 20 2) 0 19)) ≤ 2 then some (0, (up2 w_140 0 20 2)) else (fn8_fails 1 (up2 w_140 0 20 2)).bind (fun q237 => some (0, q237.2)))) (n - hdT t n s) (hdT t n s) 1000 (by omega) (by omega) (Nat.le_refl _)
        rw [show pvl t (hdT t n s) (hdT t n s) = 0 by unfold pvl; rw [if_pos rfl], hself2 _ (by rw [up2_place (by omega)]; exact y18)] at hl
        have eb : bhT t n s = ext t 2 (n - hdT t n s) (hdT t n s) := by
          unfold bhT
          rw [if_neg e, if_pos (Or.inr (ek.trans e2)), ek, e2, show n - hdT t n s = (n - (hdT t n s + 1)) + 1 by omega, ext, if_pos e2]
        have hl' : fn8_step_140 _ 1000 (up2 y 0 21 0) = _ := hl
        rw [hl', ← eb, up2_place (show 18 ≠ 20 by omega), up2_same, up2_place (show 19 ≠ 20 by omega), up2_place (show 19 ≠ 18 by omega), up2_place (show 19 ≠ 21 by omega), y19, sub_n bh1, show (2 : Int32) = nI 2 from rfl]
        generalize hz : up2 (up2 (up2 y 0 21 (nI (pvl t (hdT t n s) (bhT t n s)))) 0 18 (nI (bhT t n s))) 0 20 (nI 2) = z
        have z16 : z 0 16 = 0 := by rw [← hz, up2_place (by omega), up2_place (by omega), up2_place (by omega)]; exact y16
        have z18 : z 0 18 = nI (bhT t n s) := by rw [← hz, up2_place (by omega), up2_same]
        have z19 : z 0 19 = nI (hdT t n s) := by rw [← hz, up2_place (by omega), up2_place (by omega), up2_place (by omega)]; exact y19
        have z20 : z 0 20 = nI 2 := by rw [← hz, up2_same]
        have z21 : z 0 21 = nI (nvT t n s) := by rw [← hz, up2_place (by omega), up2_place (by omega), up2_same]; rfl
        have zF : FM m z := by
          rw [← hz]
          exact FM_up (FM_up (FM_up yF (by omega)) (by omega)) (by omega)
        have k20 : nI 2 = nI (if kdT t n s = 4 then 3 else kdT t n s) := by rw [ek, e2]; rfl
        by_cases eb2 : bhT t n s - hdT t n s ≤ 2
        · have eo : okT t n s = true := by
            unfold okT
            rw [ek, e2, decide_eq_false (show ¬ 2 < bhT t n s - hdT t n s by omega)]
            rfl
          rw [if_pos (nI_le eb2 (by omega))]
          exact ⟨_, rfl, zF, z18, z19, z20.trans k20, fun _ => ⟨z16, fun _ => z21⟩, fun h => by rw [eo] at h; simp at h⟩
        · have eo : okT t n s = false := by
            unfold okT
            rw [ek, e2, decide_eq_true (show 2 < bhT t n s - hdT t n s by omega)]
            rfl
          rw [if_neg (nI_ge (by omega) (by omega)), m_fails z16]
          simp only [bp]
          refine ⟨_, rfl, FM_up (FM_up zF (by omega)) (by omega), ?_, ?_, ?_, fun h => by rw [eo] at h; simp at h, fun _ => ⟨?_, ?_⟩⟩
          · rw [up2_place (by omega), up2_place (by omega)]; exact z18
          · rw [up2_place (by omega), up2_place (by omega)]; exact z19
          · rw [up2_place (by omega), up2_place (by omega)]; exact z20.trans k20
          · rw [up2_place (by omega), up2_same]
          · rw [up2_same]; exact z19
      · rw [decide_eq_false e2, bI_f, if_pos rfl]
        have eb : bhT t n s = hdT t n s + 1 := by
          unfold bhT
          rw [if_neg e, if_neg (by omega)]
        rw [up2_place (show 18 ≠ 20 by omega), up2_place (show 18 ≠ 21 by omega), y18, show nI (hdT t n s) + 1 = nI (hdT t n s + 1) from nI_add _ 1, hA, show (59 : Int32) = nI 59 from rfl, show (3 : Int32) = nI 3 from rfl, ← eb]
        generalize hz : up2 (up2 (up2 y 0 21 0) 0 20 (nI 3)) 0 18 (nI (bhT t n s)) = z
        have z16 : z 0 16 = 0 := by rw [← hz, up2_place (by omega), up2_place (by omega), up2_place (by omega)]; exact y16
        have z18 : z 0 18 = nI (bhT t n s) := by rw [← hz, up2_same]
        have z19 : z 0 19 = nI (hdT t n s) := by rw [← hz, up2_place (by omega), up2_place (by omega), up2_place (by omega)]; exact y19
        have z20 : z 0 20 = nI 3 := by rw [← hz, up2_place (by omega), up2_same]
        have zF : FM m z := by
          rw [← hz]
          exact FM_up (FM_up (FM_up yF (by omega)) (by omega)) (by omega)
        by_cases e3 : t (hdT t n s) = 59
        · have ek3 : kdT t n s = 3 := by rw [ek, e3]; rfl
          have eo : okT t n s = true := by
            unfold okT
            rw [ek3]
            rfl
          rw [if_pos (by rw [e3])]
          exact ⟨_, rfl, zF, z18, z19, by rw [z20, ek3]; rfl, fun _ => ⟨z16, fun h => by omega⟩, fun h => by rw [eo] at h; simp at h⟩
        · have ek4 : kdT t n s = 4 := by
            have h1 := mt ck_name.mpr e1
            have h2 := mt ck_num.mpr e2
            rw [ek]
            unfold ck
            rw [if_neg (fun z => e1 (ck_name.mpr z)), if_neg (fun z => e2 (ck_num.mpr z)), if_neg e3]
          have eo : okT t n s = false := by
            unfold okT
            rw [ek4]
            rfl
          rw [if_neg (by rw [eq_n (by omega) (by omega)]; exact e3), m_fails z16]
          simp only [bp]
          refine ⟨_, rfl, FM_up (FM_up zF (by omega)) (by omega), ?_, ?_, ?_, fun h => by rw [eo] at h; simp at h, fun _ => ⟨?_, ?_⟩⟩
          · rw [up2_place (by omega), up2_place (by omega)]; exact z18
          · rw [up2_place (by omega), up2_place (by omega)]; exact z19
          · rw [up2_place (by omega), up2_place (by omega), ek4]; exact z20
          · rw [up2_place (by omega), up2_same]
          · rw [up2_same]; exact z19
