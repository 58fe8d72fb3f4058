/-! rumours: the reference's laying, the class's silence -/
theorem m_lay144 {m : Mem} {A : Abs} (hA : okA A) (hP : PM m A) {u : Int32} {M T k a b : Nat} {t : Bool} (hM : M < 64) (hTT : T < 64) (ha : a < A 0 0) (hb : b < A 0 0) (ht : t = decide (A 1 a = 1 ∨ A 1 b = 1)) {kb : Int32 → Int32 → Mem → Option (Int32 × Mem)} : fn8_layRumour_144 u (nI k) (nI a) (nI b) (bI t) (nI M) (nI T) (nI M) kb m = kb (nI ((M ||| T) ||| (if (A 1 a = 1 ∨ A 1 b = 1) ∧ M.testBit b = true ∧ A 1 a ≠ 2 then 2 ^ a else 0))) (nI (k + 1)) m := by
  have hnp := hA.1
  have hka := (hA.2.2.2.2.2.1 a ha).1
  have hp5 := pow5 (p := a) (by omega)
  have hMT := or64 hM hTT
  unfold fn8_layRumour_144 fn8_layRumour_180
  rw [or_n (by omega) (by omega), or_z, show nI k + 1 = nI (k + 1) from nI_add k 1, bit_n (by omega) (by omega), one_n a (by omega), m_kindOf hA hP ha]
  simp only [bp]
  rw [or_n (by omega) (by omega)]
  cases t
  · have : ¬ (A 1 a = 1 ∨ A 1 b = 1) := of_decide_eq_false ht.symm
    rw [if_pos bI_f, if_neg (fun z => this z.1), Nat.or_zero]
  · have : (A 1 a = 1 ∨ A 1 b = 1) := of_decide_eq_true ht.symm
    rw [if_neg (by rw [bI_t]; exact n10)]
    cases e : M.testBit b
    · rw [if_pos (show ¬ bI false = 1 by decide), if_neg (fun z => by have := z.2.1; simp at this), Nat.or_zero]
    · rw [if_neg (show ¬ ¬ bI true = 1 from fun z => z rfl)]
      by_cases e2 : A 1 a = 2
      · rw [if_pos (show nI (A 1 a) = 2 by rw [e2]; rfl), if_neg (fun z => z.2.2 e2), Nat.or_zero]
      · rw [if_neg (show ¬ nI (A 1 a) = 2 by rw [show (2 : Int32) = nI 2 from rfl, eq_n (by omega) (by omega)]; exact e2), if_pos ⟨this, rfl, e2⟩]
theorem m_lay109 {m : Mem} {A : Abs} (hA : okA A) (hP : PM m A) {u : Int32} {M k a b : Nat} {t : Bool} (hM : M < 64) (ha : a < A 0 0) (hb : b < A 0 0) (ht : t = decide (A 1 a = 1 ∨ A 1 b = 1)) {kb : Int32 → Int32 → Mem → Option (Int32 × Mem)} : fn8_layRumour_109 (nI M) u (nI k) (nI a) (nI b) (bI t) kb m = kb (nI (ktalk A M a b)) (nI (k + 1)) m := by
  have hnp := hA.1
  have hkb := (hA.2.2.2.2.2.1 b hb).1
  have hp5 := pow5 (p := b) (by omega)
  rw [← ktm_eq, ktm]
  unfold fn8_layRumour_109 fn8_layRumour_143
  rw [bit_n (by omega) (by omega), one_n b (by omega), m_kindOf hA hP hb]
  simp only [bp]
  have z0 : fn8_layRumour_144 u (nI k) (nI a) (nI b) (bI t) (nI M) 0 (nI M) kb m = _ := m_lay144 hA hP (T := 0) hM (by omega) ha hb ht
  rw [z0, m_lay144 hA hP hM hp5 ha hb ht]
  cases e : M.testBit a
  · rw [if_pos (show ¬ bI false = 1 by decide), if_neg (show ¬ (false = true ∧ A 1 b ≠ 2) from fun z => by have := z.1; simp at this)]
  · rw [if_neg (show ¬ ¬ bI true = 1 from fun z => z rfl)]
    by_cases e2 : A 1 b = 2
    · rw [if_pos (show nI (A 1 b) = 2 by rw [e2]; rfl), if_neg (show ¬ (true = true ∧ A 1 b ≠ 2) from fun z => z.2 e2)]
    · rw [if_neg (show ¬ nI (A 1 b) = 2 by rw [show (2 : Int32) = nI 2 from rfl, eq_n (by omega) (by omega)]; exact e2), if_pos (show (true = true ∧ A 1 b ≠ 2) from ⟨rfl, e2⟩)]
theorem m_layL {m : Mem} {A : Abs} (hA : okA A) (hP : PM m A) (hG : GM m 0 A) {h M : Nat} (hh : h < 12) (hM : M < 64) {k : Int32 → Int32 → Mem → Option (Int32 × Mem)} : ∀ d c f, c + d = A 0 2 → d < f → fn8_layRumour_15 (nI h) k f (nI (kho A (tsaid A) h M c)) (nI c) m = k (nI (kho A (tsaid A) h M (A 0 2))) (nI (A 0 2)) m := by
  have hnp := hA.1
  have hnt := hA.2.2.1
  have g1 := hG.1
  rw [Nat.zero_add] at g1
  intro d
  induction d with
  | zero =>
    intro c f hc hf
    obtain ⟨f, rfl⟩ : ∃ g, f = g + 1 := ⟨f - 1, by omega⟩
    have e : c = A 0 2 := by omega
    rw [fn8_layRumour_15, if_pos ib_54, c54, g1, e, if_pos (nI_le (by omega) (by omega))]
  | succ d ih =>
    intro c f hc hf
    obtain ⟨f, rfl⟩ : ∃ g, f = g + 1 := ⟨f - 1, by omega⟩
    have hcc : c < A 0 2 := by omega
    have key := ih (c + 1) f (by omega) (by omega)
    obtain ⟨k1, k2, k3, -⟩ := hA.2.2.2.2.2.2.2 c hcc
    obtain ⟨t1, t2, t3⟩ := hG.2.2.2.2 c hcc
    rw [Nat.zero_add] at t1 t2 t3
    have hka := (hA.2.2.2.2.2.1 _ k2).1
    have hkb := (hA.2.2.2.2.2.1 _ k3).1
    have hkl := kho_lt (sd := tsaid A) (h := h) hA hM c (by omega)
    rw [kho] at key
    rw [fn8_layRumour_15, if_pos ib_54, c54, g1, if_neg (nI_ge (by omega) (by omega)), e24, show nI (24 + 3 * c) + 1 = nI (24 + 3 * c + 1) from nI_add _ 1, show nI (24 + 3 * c) + 2 = nI (24 + 3 * c + 2) from nI_add _ 2, if_pos (ib_y (by omega) (by omega)), if_pos (ib_y (by omega) (by omega)), if_pos (ib_y (by omega) (by omega)), cl_n (by omega), cl_n (by omega), cl_n (by omega), t1, t2, t3, m_isTalkSaid hA hP hG hcc]
    simp only [bp, fn8_layRumour_104]
    rw [m_kindOf hA hP k2]
    simp only [bp]
    rw [m_kindOf hA hP k3]
    simp only [bp]
    by_cases e : A 8 c = h
    · rw [if_neg (show ¬ ¬ nI (A 8 c) = nI h by rw [e]; exact fun z => z rfl)]
      cases es : tsaid A c
      · rw [if_pos bI_f, show nI c + 1 = nI (c + 1) from nI_add c 1]
        rw [es, if_neg (by simp)] at key
        exact key
      · rw [if_neg (by rw [bI_t]; exact n10)]
        rw [es, if_pos ⟨e, rfl⟩] at key
        by_cases e1 : A 1 (A 9 c) = 1
        · rw [if_pos (show nI (A 1 (A 9 c)) = 1 by rw [e1]; rfl)]
          exact (m_lay109 hA hP (t := true) hkl k2 k3 (by simp [e1])).trans key
        · rw [if_neg (show ¬ nI (A 1 (A 9 c)) = 1 by rw [show (1 : Int32) = nI 1 from rfl, eq_n (by omega) (by omega)]; exact e1)]
          by_cases e2 : A 1 (A 10 c) = 1
          · rw [if_neg (show ¬ ¬ nI (A 1 (A 10 c)) = 1 by rw [e2]; exact fun z => z rfl)]
            exact (m_lay109 hA hP (t := true) hkl k2 k3 (by simp [e2])).trans key
          · rw [if_pos (show ¬ nI (A 1 (A 10 c)) = 1 by rw [show (1 : Int32) = nI 1 from rfl, eq_n (by omega) (by omega)]; exact e2)]
            exact (m_lay109 hA hP (t := false) hkl k2 k3 (by simp [e1, e2])).trans key
    · rw [if_pos (show ¬ nI (A 8 c) = nI h by rw [eq_n (by omega) (by omega)]; exact e), show nI c + 1 = nI (c + 1) from nI_add c 1]
      rw [if_neg (fun z => e z.1)] at key
      exact key
theorem m_layH {m : Mem} {A : Abs} (hA : okA A) (hP : PM m A) (hG : GM m 0 A) {p : Nat} (hp : p < A 0 0) {k : Int32 → Int32 → Mem → Option (Int32 × Mem)} : ∀ d c f w, c + d = 12 → d < f → (∀ j, j ≠ 9 → w j = m j) → (∀ h, h < c → w 9 h = nI (kn A (tsaid A) p (h + 1))) → ∃ w', (∀ j, j ≠ 9 → w' j = m j) ∧ (∀ h, h < 12 → w' 9 h = nI (kn A (tsaid A) p (h + 1))) ∧ fn8_layRumour_6 k f (nI (kn A (tsaid A) p c)) (nI c) w = k (nI (kn A (tsaid A) p 12)) (nI 12) w' := by
  have hnt := hA.2.2.1
  intro d
  induction d with
  | zero =>
    intro c f w hc hf hw hk
    obtain ⟨f, rfl⟩ : ∃ g, f = g + 1 := ⟨f - 1, by omega⟩
    have e : c = 12 := by omega
    subst e
    exact ⟨w, hw, hk, by rw [fn8_layRumour_6, if_pos (by decide)]⟩
  | succ d ih =>
    intro c f w hc hf hw hk
    obtain ⟨f, rfl⟩ : ∃ g, f = g + 1 := ⟨f - 1, by omega⟩
    have hP' : PM w A := PM_congr hP (by rw [hw _ (by omega)]) (by rw [hw _ (by omega)]) (hw _ (by omega))
    have hG' : GM w 0 A := GM_keep hA hG (fun j _ _ => by rw [hw _ (by omega)])
    obtain ⟨w', r1, r2, r3⟩ := ih (c + 1) f (up2 w 9 c (nI (kn A (tsaid A) p (c + 1)))) (by omega) (by omega) (fun j hj => by rw [up2_cell hj, hw j hj]) (fun h hh => by
      by_cases e : h = c
      · subst e
        exact up2_same
      · rw [up2_place e]
        exact hk h (by omega))
    refine ⟨w', r1, r2, ?_⟩
    rw [fn8_layRumour_6, if_neg (show ¬ (12 : Int32) ≤ nI c from nI_ge (b := 12) (by omega) (by omega))]
    refine (m_layL hA hP' hG' (by omega) (kn_lt hA hp c) (A 0 2) 0 1000 (by omega) (by omega)).trans ?_
    rw [if_pos (ib_y (by omega) (by omega)), cl_n (by omega), show nI c + 1 = nI (c + 1) from nI_add c 1]
    exact r3
theorem m_lay {m : Mem} {A : Abs} (hA : okA A) (hP : PM m A) (hG : GM m 0 A) {p : Nat} (hp : p < A 0 0) : ∃ w', (∀ j, j ≠ 9 → w' j = m j) ∧ (∀ h, h < 12 → w' 9 h = nI (kn A (tsaid A) p (h + 1))) ∧ fn8_layRumour (nI p) m = some (0, w') := by
  have hnp := hA.1
  unfold fn8_layRumour
  rw [one_n p (by omega)]
  exact m_layH hA hP hG hp 12 0 1000 m (by omega) (by omega) (fun _ _ => rfl) (fun h hh => by omega)
theorem x_takeL {x : Mem} {A : Abs} (hA : okA A) (hT : TX x 1 A) {k : Int32 → Mem → Option (Int32 × Mem)} : ∀ d c f w, c + d = 12 → d < f → (∀ j, j ≠ 59 → w j = x j) → (∀ h, h < c → w 59 h = nI (msk (sil A h) (A 0 0))) → ∃ w', (∀ j, j ≠ 59 → w' j = x j) ∧ (∀ h, h < 12 → w' 59 h = nI (msk (sil A h) (A 0 0))) ∧ fn2_takeSilence_2 k f (nI c) w = k (nI 12) w' := by
  intro d
  induction d with
  | zero =>
    intro c f w hc hf hw hk
    obtain ⟨f, rfl⟩ : ∃ g, f = g + 1 := ⟨f - 1, by omega⟩
    have e : c = 12 := by omega
    subst e
    exact ⟨w, hw, hk, by rw [fn2_takeSilence_2, if_pos (by decide)]⟩
  | succ d ih =>
    intro c f w hc hf hw hk
    obtain ⟨f, rfl⟩ : ∃ g, f = g + 1 := ⟨f - 1, by omega⟩
    have hT' : TX w 1 A := TX_keep hT (fun i hi => hw _ (by omega))
    obtain ⟨w', r1, r2, r3⟩ := ih (c + 1) f (up2 w 59 c (nI (msk (sil A c) (A 0 0)))) (by omega) (by omega) (fun j hj => by rw [up2_cell hj, hw j hj]) (fun h hh => by
      by_cases e : h = c
      · subst e
        exact up2_same
      · rw [up2_place e]
        exact hk h (by omega))
    refine ⟨w', r1, r2, ?_⟩
    rw [fn2_takeSilence_2, if_neg (show ¬ (12 : Int32) ≤ nI c from nI_ge (b := 12) (by omega) (by omega)), x_silentM hA hT' (by omega)]
    simp only [bp]
    rw [if_pos (ib_y (by omega) (by omega)), cl_n (by omega), show nI c + 1 = nI (c + 1) from nI_add c 1]
    exact r3
theorem x_take {x : Mem} {A : Abs} (hA : okA A) (hT : TX x 1 A) : ∃ w', (∀ j, j ≠ 59 → w' j = x j) ∧ (∀ h, h < 12 → w' 59 h = nI (msk (sil A h) (A 0 0))) ∧ fn2_takeSilence x = some (0, w') := x_takeL hA hT 12 0 1000 x (by omega) (by omega) (fun _ _ => rfl) (fun h hh => by omega)
theorem msk_lt6 {f : Nat → Bool} {n : Nat} (h : n ≤ 6) : msk f n < 64 := Nat.lt_of_lt_of_le (msk_lt f n) (pow_le6 h).2
theorem say_plain {x : Mem} {A : Abs} (hA : okA A) (h : ∀ h, h < 12 → x 59 h = nI (msk (sil A h) (A 0 0))) : sayX x A (tsaid A) := by
  have hnp := hA.1
  refine ⟨fun h => msk (sil A h) (A 0 0), fun i hi => ⟨msk_lt6 hnp, h i hi⟩, fun k hk => ?_⟩
  obtain ⟨k1, k2, k3, -⟩ := hA.2.2.2.2.2.2.2 k hk
  rw [msk_bit, msk_bit, decide_eq_true k2, decide_eq_true k3, Bool.true_and, Bool.true_and]
  rfl
theorem RR_x {x x' m : Mem} (h : RR x m) (hx : ∀ k, k ≠ 59 → x' k = x k) : RR x' m := by
  refine same_RR h ?_ (fun k _ _ => hx k (by omega)) (keepM_rf m) (fun _ _ => rfl) ⟨rfl, rfl, rfl⟩
  refine ⟨fun k _ _ => hx k (by omega), ?_, ?_, ?_, ?_, ?_, ?_, ?_, ?_, ?_⟩ <;> rw [hx _ (by omega)]
theorem RR_xm {x x' m m' : Mem} (h : RR x m) (hx : ∀ k, k ≠ 59 → x' k = x k) (hm : ∀ k, k ≠ 9 → m' k = m k) : RR x' m' := RR_m (RR_x h hx) (fun k _ _ _ h9 _ _ _ => hm k h9)
theorem sim_knows : S_knows RR := fun x m h a b => by
  obtain ⟨A, hA, hT, hP, hG, hO⟩ := (RR_iff x m).mp h
  have hnp := hA.1
  unfold fn7_knows fn8_knows
  rcases in_or a (A 0 0) (by omega) with ho | ⟨p, hp, rfl⟩
  · rw [x_noOne hT.1 ho, m_noOne hP.1 ho hnp]
    exact ⟨-1, x, m, rfl, rfl, h⟩
  · rw [x_hasOne hT.1 hp hnp, m_one hP.1 hp hnp]
    simp only [bp, if_neg n10]
    rcases in_or b 12 (by omega) with ho | ⟨i, hi, rfl⟩
    · rw [x_noHour ho, m_noHour ho]
      exact ⟨-1, x, m, rfl, rfl, h⟩
    · rw [x_hour hi, m_hour hi]
      simp only [bp, if_pos n10]
      obtain ⟨x', a1, a2, a3⟩ := x_take hA hT
      obtain ⟨m', b1, b2, b3⟩ := m_lay hA hP hG hp
      rw [a3, b3]
      simp only [bp]
      rw [x_behind hA (TX_keep hT (fun i hi => a1 _ (by omega))) (say_plain hA a2) hp hi, if_pos (ib_y (by omega) (by omega)), cl_n (by omega), b2 i hi]
      exact ⟨_, x', m', rfl, rfl, RR_xm h a1 b1⟩
theorem m_learnsL {m : Mem} {A : Abs} (hA : okA A) {sd : Nat → Bool} {p q : Nat} (hp : p < A 0 0) (hq : q < A 0 0) (hpq : p ≠ q) (hk : ∀ h, h < 12 → m 9 h = nI (kn A sd p (h + 1))) : ∀ d c f, c + d = 12 → d < f → fn8_learnsIn_7 (nI p) (nI q) (fun _ w => some ((-4), w)) f (nI c) m = some (fstH (fun h => (kn A sd p (h + 1)).testBit q) d c, m) := by
  have hnp := hA.1
  intro d
  induction d with
  | zero =>
    intro c f hc hf
    obtain ⟨f, rfl⟩ : ∃ g, f = g + 1 := ⟨f - 1, by omega⟩
    have e : c = 12 := by omega
    rw [fn8_learnsIn_7, e, if_pos (by decide), fstH]
  | succ d ih =>
    intro c f hc hf
    obtain ⟨f, rfl⟩ : ∃ g, f = g + 1 := ⟨f - 1, by omega⟩
    have key := ih (c + 1) f (by omega) (by omega)
    have hl := kn_lt (sd := sd) hA hp (c + 1)
    rw [fn8_learnsIn_7, if_neg (show ¬ (12 : Int32) ≤ nI c from nI_ge (b := 12) (by omega) (by omega)), if_pos (ib_y (by omega) (by omega)), cl_n (by omega), hk c (by omega), bit_n (by omega) (by omega), show nI c + 1 = nI (c + 1) from nI_add c 1, fstH]
    cases e : (kn A sd p (c + 1)).testBit q
    · rw [if_pos (show ¬ bI false = 1 by decide)]
      simp only [Bool.false_eq_true, if_false]
      exact key
    · rw [if_neg (show ¬ ¬ bI true = 1 from fun z => z rfl), if_pos (show ¬ nI p = nI q by rw [eq_n (by omega) (by omega)]; exact hpq)]
      simp
theorem m_learnsIn {m : Mem} {A : Abs} (hA : okA A) (hP : PM m A) (hG : GM m 0 A) {p q : Nat} (hp : p < A 0 0) (hq : q < A 0 0) : ∃ w', (∀ j, j ≠ 9 → w' j = m j) ∧ fn8_learnsIn (nI p) (nI q) m = some (lrn A (tsaid A) p q, w') := by
  have hnp := hA.1
  obtain ⟨w', r1, r2, r3⟩ := m_lay hA hP hG hp
  refine ⟨w', r1, ?_⟩
  unfold fn8_learnsIn
  refine bind_eq r3 ?_
  dsimp only
  unfold lrn
  by_cases e : p = q
  · subst e
    have hl := kn_lt (sd := tsaid A) hA hp (0 + 1)
    rw [if_pos rfl, show (0 : Int32) = nI 0 from rfl, fn8_learnsIn_7, if_neg (show ¬ (12 : Int32) ≤ nI 0 by decide), if_pos (ib_y (by omega) (by omega)), cl_n (by omega), r2 0 (by omega), bit_n (by omega) (by omega), kn_self, if_neg (show ¬ ¬ bI true = 1 from fun z => z rfl), if_neg (fun z => z rfl)]
    rfl
  · rw [if_neg e]
    exact m_learnsL hA hp hq e r2 12 0 1000 (by omega) (by omega)
theorem sim_learns : S_learns RR := fun x m h a b => by
  obtain ⟨A, hA, hT, hP, hG, hO⟩ := (RR_iff x m).mp h
  have hnp := hA.1
  unfold fn7_learns fn8_learns
  rcases in_or a (A 0 0) (by omega) with ho | ⟨p, hp, rfl⟩
  · rw [x_noOne hT.1 ho, m_noOne hP.1 ho hnp]
    exact ⟨-1, x, m, rfl, rfl, h⟩
  · rw [x_hasOne hT.1 hp hnp, m_one hP.1 hp hnp]
    simp only [bp, if_neg n10]
    rcases in_or b (A 0 0) (by omega) with ho | ⟨q, hq, rfl⟩
    · rw [x_noOne hT.1 ho, m_noOne hP.1 ho hnp]
      exact ⟨-1, x, m, rfl, rfl, h⟩
    · rw [x_hasOne hT.1 hq hnp, m_one hP.1 hq hnp]
      simp only [bp, if_pos n10, if_neg n10]
      obtain ⟨x', a1, a2, a3⟩ := x_take hA hT
      obtain ⟨m', b1, b2⟩ := m_learnsIn hA hP hG hp hq
      rw [a3, b2]
      simp only [bp]
      rw [x_comes hA (TX_keep hT (fun i hi => a1 _ (by omega))) (say_plain hA a2) hp hq]
      exact ⟨_, x', m', rfl, rfl, RR_xm h a1 b1⟩
