/-! hush -/
theorem lenA_up {A : Abs} {c v c' p : Nat} : lenA (upA A 7 c v) c' p = lenA A c' p := by
  unfold lenA
  simp only [upA_row (A := A) (i := 7) (j := c) (v := v) (i' := 1) (by omega), upA_row (A := A) (i := 7) (j := c) (v := v) (i' := 4) (by omega), upA_row (A := A) (i := 7) (j := c) (v := v) (i' := 6) (by omega)]
theorem anyB_up {A : Abs} {c s h p : Nat} (h0 : A 7 c = 0) : ∀ n, anyB (silC (upA A 7 c (s + 1)) h p) n = (anyB (silC A h p) n || (decide (c < n) && decide (A 5 c = p ∧ s ≤ h ∧ h < s + lenA A c p))) := by
  intro n
  induction n with
  | zero => simp [anyB]
  | succ n ih =>
    rw [anyB, anyB, ih]
    by_cases e : n = c
    · subst e
      have e1 : silC (upA A 7 n (s + 1)) h p n = decide (A 5 n = p ∧ s ≤ h ∧ h < s + lenA A n p) := by
        unfold silC
        rw [upA_same, upA_row (by omega), lenA_up]
        simp
      have e2 : silC A h p n = false := by
        unfold silC
        simp [h0]
      rw [e1, e2]
      simp
    · have e1 : silC (upA A 7 c (s + 1)) h p n = silC A h p n := by
        unfold silC
        rw [upA_col _ e, upA_row (by omega), lenA_up]
      have e2 : decide (c < n + 1) = decide (c < n) := by
        apply decide_eq_decide.mpr
        omega
      rw [e1, e2]
      cases anyB (silC A h p) n <;> cases silC A h p n <;> simp
theorem sil_up {A : Abs} {c s h p : Nat} (h0 : A 7 c = 0) (hc : c < A 0 1) : sil (upA A 7 c (s + 1)) h p = (sil A h p || decide (A 5 c = p ∧ s ≤ h ∧ h < s + lenA A c p)) := by
  unfold sil
  rw [upA_row (by omega), anyB_up h0, decide_eq_true hc, Bool.true_and]
theorem saidF_up {A : Abs} {c v p : Nat} {a b : Bool} : saidF (upA A 7 c v) p a b = saidF A p a b := by
  unfold saidF
  simp only [upA_row (A := A) (i := 7) (j := c) (v := v) (i' := 1) (by omega), upA_row (A := A) (i := 7) (j := c) (v := v) (i' := 0) (by omega)]
theorem addbit {A : Abs} {M h p c s : Nat} : (M ||| (if s ≤ h ∧ h < s + lenA A c (A 5 c) then 2 ^ A 5 c else 0)).testBit p = (M.testBit p || (decide (A 5 c = p ∧ s ≤ h ∧ h < s + lenA A c p))) := by
  rw [Nat.testBit_or]
  congr 1
  by_cases e : A 5 c = p
  · subst e
    by_cases e2 : s ≤ h ∧ h < s + lenA A c (A 5 c)
    · rw [if_pos e2, Nat.testBit_two_pow]
      simp [e2]
    · rw [if_neg e2, Nat.zero_testBit]
      simp only [true_and]
      rw [decide_eq_false e2]
  · split
    · rw [Nat.testBit_two_pow]
      simp [e]
    · rw [Nat.zero_testBit]
      simp [e]
def addS (A : Abs) (c s h : Nat) : Nat := msk (sil A h) (A 0 0) ||| (if s ≤ h ∧ h < s + lenA A c (A 5 c) then 2 ^ A 5 c else 0)
theorem x_addL {x : Mem} {A : Abs} (hA : okA A) (hT : TX x 1 A) {c s : Nat} (hc : c < A 0 1) (hs : s < 12) {k : Int32 → Mem → Option (Int32 × Mem)} : ∀ d i f w, i + d = 12 → d < f → (∀ j, j ≠ 59 → w j = x j) → (∀ h, h < i → w 59 h = nI (addS A c s h)) → (∀ h, i ≤ h → h < 12 → w 59 h = nI (msk (sil A h) (A 0 0))) → ∃ w', (∀ j, j ≠ 59 → w' j = x j) ∧ (∀ h, h < 12 → w' 59 h = nI (addS A c s h)) ∧ fn2_addSilence_2 (nI c) (nI s) k f (nI i) w = k (nI 12) w' := by
  have hnp := hA.1
  have hnc := hA.2.1
  have ho := (hA.2.2.2.2.2.2.1 c hc).2.2.1
  have hp5 := pow5 (p := A 5 c) (by omega)
  intro d
  induction d with
  | zero =>
    intro i f w hi hf hw hk hk2
    obtain ⟨f, rfl⟩ : ∃ g, f = g + 1 := ⟨f - 1, by omega⟩
    have e : i = 12 := by omega
    subst e
    exact ⟨w, hw, hk, by rw [fn2_addSilence_2, if_pos (by decide)]⟩
  | succ d ih =>
    intro i f w hi hf hw hk hk2
    obtain ⟨f, rfl⟩ : ∃ g, f = g + 1 := ⟨f - 1, by omega⟩
    have hT' : TX w 1 A := TX_keep hT (fun i hi => hw _ (by omega))
    obtain ⟨w', r1, r2, r3⟩ := ih (i + 1) f (up2 w 59 i (nI (addS A c s i))) (by omega) (by omega) (fun j hj => by rw [up2_cell hj, hw j hj]) (fun h hh => by
      by_cases e : h = i
      · subst e
        exact up2_same
      · rw [up2_place e]
        exact hk h (by omega)) (fun h h1 h2 => by
      rw [up2_place (by omega)]
      exact hk2 h (by omega) h2)
    refine ⟨w', r1, r2, ?_⟩
    have hib : ib (nI i) 12 = true := ib_y (by omega) (by omega)
    have hm := msk_lt6 (f := sil A i) hnp
    rw [fn2_addSilence_2, if_neg (show ¬ (12 : Int32) ≤ nI i from nI_ge (b := 12) (by omega) (by omega)), if_pos hib, x_silencedBy hA hT' hc (by omega) (by omega)]
    simp only [bp, if_pos hib]
    rw [cl_n (by omega), hk2 i (by omega) (by omega), or_n (by omega) (by split <;> omega), show nI i + 1 = nI (i + 1) from nI_add i 1]
    exact r3
theorem x_add {x : Mem} {A : Abs} (hA : okA A) (hT : TX x 1 A) {c s : Nat} (hc : c < A 0 1) (hs : s < 12) (hk : ∀ h, h < 12 → x 59 h = nI (msk (sil A h) (A 0 0))) : ∃ w', (∀ j, j ≠ 59 → w' j = x j) ∧ (∀ h, h < 12 → w' 59 h = nI (addS A c s h)) ∧ fn2_addSilence (nI c) (nI s) x = some (0, w') := x_addL hA hT hc hs 12 0 1000 x (by omega) (by omega) (fun _ _ => rfl) (fun h hh => by omega) (fun h _ hh => hk h hh)
theorem tsaid_up {A : Abs} {c v k : Nat} : tsaid (upA A 7 c v) k = saidF A (A 9 k) (sil (upA A 7 c v) (A 8 k) (A 9 k)) (sil (upA A 7 c v) (A 8 k) (A 10 k)) := by
  unfold tsaid saidB
  rw [upA_row (by omega), upA_row (by omega), upA_row (by omega), saidF_up]
theorem say_add {x : Mem} {A : Abs} (hA : okA A) {c s : Nat} (h0 : A 7 c = 0) (hc : c < A 0 1) (h : ∀ h, h < 12 → x 59 h = nI (addS A c s h)) : sayX x A (tsaid (upA A 7 c (s + 1))) := by
  have hnp := hA.1
  have ho := (hA.2.2.2.2.2.2.1 c hc).2.2.1
  have hp5 := pow5 (p := A 5 c) (by omega)
  refine ⟨fun h => addS A c s h, fun i hi => ⟨or64 (msk_lt6 hnp) (by split <;> omega), h i hi⟩, fun k hk => ?_⟩
  obtain ⟨k1, k2, k3, -⟩ := hA.2.2.2.2.2.2.2 k hk
  rw [tsaid_up, sil_up h0 hc, sil_up h0 hc]
  unfold addS
  rw [addbit, addbit, msk_bit, msk_bit, decide_eq_true k2, decide_eq_true k3, Bool.true_and, Bool.true_and]
def nev (A : Abs) (p q c h : Nat) : Bool := decide (lrn A (tsaid (upA A 7 c (h + 1))) p q = -4)
theorem n4_n {a : Nat} (h : a < 1048576) : ¬ nI a = -4 := by
  intro e
  have := congrArg Int32.toInt e
  rw [ti_n h] at this
  have g : ((-4 : Int32)).toInt = -4 := by decide
  omega
theorem x_hushL {x : Mem} {A : Abs} (hA : okA A) (hT : TX x 1 A) {c p q : Nat} (h0 : A 7 c = 0) (hc : c < A 0 1) (hp : p < A 0 0) (hq : q < A 0 0) : ∀ d i f w, i + d = 12 → d < f → (∀ j, j ≠ 59 → w j = x j) → ∃ w', (∀ j, j ≠ 59 → w' j = x j) ∧ fn2_hushingHour_3 (nI c) (nI p) (nI q) (fun _ w => some ((-4), w)) f (nI i) w = some (fstH (nev A p q c) d i, w') := by
  intro d
  induction d with
  | zero =>
    intro i f w hi hf hw
    obtain ⟨f, rfl⟩ : ∃ g, f = g + 1 := ⟨f - 1, by omega⟩
    have e : i = 12 := by omega
    subst e
    exact ⟨w, hw, by rw [fn2_hushingHour_3, if_pos (by decide), fstH]⟩
  | succ d ih =>
    intro i f w hi hf hw
    obtain ⟨f, rfl⟩ : ∃ g, f = g + 1 := ⟨f - 1, by omega⟩
    have hT' : TX w 1 A := TX_keep hT (fun i hi => hw _ (by omega))
    obtain ⟨w1, a1, a2, a3⟩ := x_take hA hT'
    have hT1 : TX w1 1 A := TX_keep hT' (fun i hi => a1 _ (by omega))
    obtain ⟨w2, b1, b2, b3⟩ := x_add (s := i) hA hT1 hc (by omega) a2
    have hT2 : TX w2 1 A := TX_keep hT1 (fun i hi => b1 _ (by omega))
    have w2k : ∀ j, j ≠ 59 → w2 j = x j := fun j hj => by rw [b1 j hj, a1 j hj, hw j hj]
    have e := x_comes hA hT2 (say_add hA h0 hc b2) hp hq
    obtain ⟨w', r1, r2⟩ := ih (i + 1) f w2 (by omega) (by omega) w2k
    rw [fn2_hushingHour_3, if_neg (show ¬ (12 : Int32) ≤ nI i from nI_ge (b := 12) (by omega) (by omega)), a3, fstH]
    simp only [bp]
    rw [b3]
    simp only [bp]
    rw [e]
    simp only [bp]
    rw [show nI i + 1 = nI (i + 1) from nI_add i 1]
    by_cases en : lrn A (tsaid (upA A 7 c (i + 1))) p q = -4
    · rw [if_neg (fun z => z en), if_pos (show nev A p q c i = true from decide_eq_true en)]
      exact ⟨w2, w2k, rfl⟩
    · rw [if_pos en, if_neg (show ¬ nev A p q c i = true by unfold nev; simp [en])]
      exact ⟨w', r1, r2⟩
def hco (A : Abs) (p q : Nat) (c : Nat) : Int32 := if A 7 c = 0 then fstH (nev A p q c) 12 0 else -4
def hou (A : Abs) (p q : Nat) (u : Int32) : Nat → Nat → Int32
  | 0, _ => -4
  | d + 1, c => if hco A p q c = -4 then hou A p q u d (c + 1) else if ¬ u = 0 then hco A p q c else nI c
theorem x_hushO {x : Mem} {A : Abs} (hA : okA A) (hT : TX x 1 A) {p q : Nat} {u : Int32} (hp : p < A 0 0) (hq : q < A 0 0) : ∀ d c f w, c + d = A 0 1 → d < f → (∀ j, j ≠ 59 → w j = x j) → ∃ w', (∀ j, j ≠ 59 → w' j = x j) ∧ fn7_hush_65 (nI p) (nI q) u (fun _ w => some ((-4), w)) f (nI c) w = some (hou A p q u d c, w') := by
  have hnc := hA.2.1
  intro d
  induction d with
  | zero =>
    intro c f w hc hf hw
    obtain ⟨f, rfl⟩ : ∃ g, f = g + 1 := ⟨f - 1, by omega⟩
    have e : c = A 0 1 := by omega
    exact ⟨w, hw, by rw [fn7_hush_65, hw _ (by omega), hT.2.1, e, if_pos (nI_le (by omega) (by omega)), hou]⟩
  | succ d ih =>
    intro c f w hc hf hw
    obtain ⟨f, rfl⟩ : ∃ g, f = g + 1 := ⟨f - 1, by omega⟩
    have hcc : c < A 0 1 := by omega
    have hT' : TX w 1 A := TX_keep hT (fun i hi => hw _ (by omega))
    rw [fn7_hush_65, hT'.2.1, if_neg (nI_ge (by omega) (by omega)), x_isSpent hA hT' hcc, hou]
    simp only [bp, fn7_hush_105]
    rw [show nI c + 1 = nI (c + 1) from nI_add c 1]
    by_cases e : A 7 c = 0
    · obtain ⟨w1, a1, a2⟩ := x_hushL hA hT' e hcc hp hq 12 0 1000 w (by omega) (by omega) (fun _ _ => rfl)
      have a2' : fn2_hushingHour (nI c) (nI p) (nI q) w = some (fstH (nev A p q c) 12 0, w1) := a2
      have a1' : ∀ j, j ≠ 59 → w1 j = x j := fun j hj => by rw [a1 j hj, hw j hj]
      obtain ⟨w', r1, r2⟩ := ih (c + 1) f w1 (by omega) (by omega) a1'
      have ec : hco A p q c = fstH (nev A p q c) 12 0 := by rw [hco, if_pos e]
      rw [if_pos e, if_pos rfl, a2', ec]
      simp only [bp]
      by_cases en : fstH (nev A p q c) 12 0 = -4
      · rw [if_pos en, if_pos en]
        exact ⟨w', r1, r2⟩
      · rw [if_neg en, if_neg en]
        by_cases eu : u = 0
        · rw [if_neg (fun z => z eu), if_neg (fun z => z eu)]
          exact ⟨w1, a1', rfl⟩
        · rw [if_pos eu, if_pos eu]
          exact ⟨w1, a1', rfl⟩
    · have ec : hco A p q c = -4 := by rw [hco, if_neg e]
      rw [if_neg e, if_neg n10, if_pos trivial, if_pos ec]
      exact ih (c + 1) f w (by omega) (by omega) hw
theorem fstH_hit {f : Nat → Bool} {d h : Nat} (e : f h = true) : fstH f (d + 1) h = nI h := by rw [fstH, if_pos e]
theorem fstH_miss {f : Nat → Bool} {d h : Nat} (e : ¬ f h = true) : fstH f (d + 1) h = fstH f d (h + 1) := by rw [fstH, if_neg e]
/-- what is left of coin c from hour h on, and of the coins behind -/
def hpa (A : Abs) (p q : Nat) (u : Int32) (d c e h : Nat) : Int32 := if (if A 7 c = 0 then fstH (nev A p q c) e h else -4) = -4 then hou A p q u d (c + 1) else if ¬ u = 0 then (if A 7 c = 0 then fstH (nev A p q c) e h else -4) else nI c
theorem m_hushO {m : Mem} {A : Abs} (hA : okA A) (hP : PM m A) (hG : GM m 0 A) {p q : Nat} {u : Int32} (hp : p < A 0 0) (hq : q < A 0 0) : ∀ t d c e h f w, t = 12 * d + e → c + d + 1 = A 0 1 → h + e = 12 → 1 ≤ e → t < f → (∀ j, j ≠ 9 → w j = m j) → ∃ w', (∀ j, j ≠ 9 → w' j = m j) ∧ fn8_hush_38 (nI p) (nI q) u (fun _ w => some ((-4), w)) f (nI (12 * c + h)) w = some (hpa A p q u d c e h, w') := by
  have hnc := hA.2.1
  intro t
  induction t with
  | zero => intro d c e h f w h1 h2 h3 h4; omega
  | succ t ih =>
    intro d c e h f w h1 h2 h3 h4 hf hw
    obtain ⟨f, rfl⟩ : ∃ g, f = g + 1 := ⟨f - 1, by omega⟩
    have hcc : c < A 0 1 := by omega
    have hP' : PM w A := PM_congr hP (by rw [hw _ (by omega)]) (by rw [hw _ (by omega)]) (hw _ (by omega))
    have hG' : GM w 0 A := GM_keep hA hG (fun j _ _ => by rw [hw _ (by omega)])
    -- the rest of the loop, from a memory that is like m
    have rest : ∀ w1 : Mem, (∀ j, j ≠ 9 → w1 j = m j) → (¬ nev A p q c h = true ∨ ¬ A 7 c = 0) → ∃ w', (∀ j, j ≠ 9 → w' j = m j) ∧ fn8_hush_38 (nI p) (nI q) u (fun _ w => some ((-4), w)) f (nI (12 * c + h + 1)) w1 = some (hpa A p q u d c e h, w') := by
      intro w1 hw1 hn
      by_cases he : 2 ≤ e
      · obtain ⟨w', r1, r2⟩ := ih d c (e - 1) (h + 1) f w1 (by omega) h2 (by omega) (by omega) (by omega) hw1
        refine ⟨w', r1, ?_⟩
        rw [show 12 * c + h + 1 = 12 * c + (h + 1) by omega, r2]
        have : hpa A p q u d c (e - 1) (h + 1) = hpa A p q u d c e h := by
          unfold hpa
          by_cases e7 : A 7 c = 0
          · have hn' : ¬ nev A p q c h = true := hn.elim id (fun z => absurd e7 z)
            obtain ⟨e', rfl⟩ : ∃ e', e = e' + 1 := ⟨e - 1, by omega⟩
            rw [fstH_miss hn', Nat.add_sub_cancel]
          · simp only [if_neg e7]
        rw [this]
      · have e1 : e = 1 := by omega
        subst e1
        have h11 : h = 11 := by omega
        subst h11
        have hp1 : hpa A p q u d c 1 11 = hou A p q u d (c + 1) := by
          unfold hpa
          by_cases e7 : A 7 c = 0
          · have hn' : ¬ nev A p q c 11 = true := hn.elim id (fun z => absurd e7 z)
            rw [fstH_miss hn', fstH]
            simp
          · simp [e7]
        rw [hp1, show 12 * c + 11 + 1 = 12 * (c + 1) + 0 by omega]
        cases d with
        | zero =>
          refine ⟨w1, hw1, ?_⟩
          obtain ⟨f, rfl⟩ : ∃ g, f = g + 1 := ⟨f - 1, by omega⟩
          rw [fn8_hush_38, show w1 0 3 = nI (A 0 1) by rw [hw1 _ (by omega)]; exact hP.2.1, show (12 : Int32) * nI (A 0 1) = nI (12 * A 0 1) from pk_mul 12 _, if_pos (nI_le (by omega) (by omega)), hou]
        | succ d =>
          obtain ⟨w', r1, r2⟩ := ih d (c + 1) 12 0 f w1 (by omega) (by omega) (by omega) (by omega) (by omega) hw1
          exact ⟨w', r1, r2⟩
    have k12 : (12 * c + h) / 12 = c := by omega
    have m12 : (12 * c + h) % 12 = h := by omega
    have d12 : nI (12 * c + h) / 12 = nI c := by
      have := pk_div (a := 12 * c + h) (d := 12) (by omega) (by omega) (by omega)
      rw [k12] at this
      exact this
    have r12 : nI (12 * c + h) - nI c * 12 = nI h := by
      have := pk_rem (a := 12 * c + h) (d := 12) (by omega) (by omega) (by omega)
      rw [m12] at this
      rw [← d12]
      exact this
    rw [fn8_hush_38, hP'.2.1, show (12 : Int32) * nI (A 0 1) = nI (12 * A 0 1) from pk_mul 12 _, if_neg (nI_ge (by omega) (by omega)), if_neg (show ¬ (12 : Nat) = 0 by decide), d12, m_isSpent hA hG' hcc]
    simp only [bp]
    rw [show nI (12 * c + h) + 1 = nI (12 * c + h + 1) from nI_add _ 1]
    by_cases e7 : A 7 c = 0
    · have hA' : okA (upA A 7 c (h + 1)) := okA_attr hA (Or.inr (Or.inr ⟨rfl, by omega⟩))
      have hPu : PM (up2 w 1 (4 * c + 3) (nI (h + 1))) (upA A 7 c (h + 1)) := PM_attr hP' (by omega)
      have hGu : GM (up2 w 1 (4 * c + 3) (nI (h + 1))) 0 (upA A 7 c (h + 1)) := GM_attr (a := 7) hA hG' hcc (by omega)
      obtain ⟨w1, a1, a2⟩ := m_learnsIn hA' hPu hGu (p := p) (q := q) (by rw [upA_row (by omega)]; exact hp) (by rw [upA_row (by omega)]; exact hq)
      have elr : lrn (upA A 7 c (h + 1)) (tsaid (upA A 7 c (h + 1))) p q = lrn A (tsaid (upA A 7 c (h + 1))) p q := by
        unfold lrn
        simp only [kn_up]
      rw [elr] at a2
      have back : ∀ j, j ≠ 9 → up2 w1 1 (4 * c + 3) 0 j = m j := by
        intro j hj
        by_cases ej : j = 1
        · subst ej
          funext i
          by_cases ei : i = 4 * c + 3
          · subst ei
            rw [up2_same, (GM_get hG hcc).2.2.2, e7]
            rfl
          · rw [up2_place ei, a1 1 (by omega), up2_place ei, hw 1 (by omega)]
        · rw [up2_cell ej, a1 j hj, up2_cell ej, hw j hj]
      rw [if_pos e7, if_neg (show ¬ ¬ (0 : Int32) = 0 from fun z => z rfl), if_neg (show ¬ (12 : Nat) = 0 by decide), r12, show (1 : Int32) + nI h = nI (h + 1) by rw [show (1 : Int32) = nI 1 from rfl, nI_add, Nat.add_comm], e43, if_pos (ib_y (by omega) (by omega)), cl_n (by omega), a2]
      simp only [bp, fn8_hush_100]
      rw [e43, if_pos (ib_y (by omega) (by omega)), if_pos (ib_y (by omega) (by omega)), cl_n (by omega), show nI (12 * c + h) + 1 = nI (12 * c + h + 1) from nI_add _ 1, if_pos trivial, if_neg n10, if_neg (show ¬ (12 : Nat) = 0 by decide), d12, r12]
      by_cases en : lrn A (tsaid (upA A 7 c (h + 1))) p q = -4
      · have hn : nev A p q c h = true := decide_eq_true en
        obtain ⟨e', rfl⟩ : ∃ e', e = e' + 1 := ⟨e - 1, by omega⟩
        rw [if_neg (fun z => z en)]
        refine ⟨up2 w1 1 (4 * c + 3) 0, back, ?_⟩
        unfold hpa
        rw [if_pos e7, fstH_hit hn, if_neg (n4_n (by omega))]
        by_cases eu : u = 0
        · rw [if_neg (fun z => z eu), if_neg (fun z => z eu)]
        · rw [if_pos eu, if_pos eu]
      · have hn : ¬ nev A p q c h = true := by unfold nev; simp [en]
        rw [if_pos en]
        exact rest _ back (Or.inl hn)
    · rw [if_neg e7, if_pos n10]
      exact rest w hw (Or.inr e7)
theorem hou_hpa {A : Abs} {p q : Nat} {u : Int32} {d c : Nat} : hou A p q u (d + 1) c = hpa A p q u d c 12 0 := by
  rw [hou]
  rfl
theorem m_hushA {m : Mem} {A : Abs} (hA : okA A) (hP : PM m A) (hG : GM m 0 A) {p q : Nat} {u : Int32} (hp : p < A 0 0) (hq : q < A 0 0) {w : Mem} (hw : ∀ j, j ≠ 9 → w j = m j) : ∃ w', (∀ j, j ≠ 9 → w' j = m j) ∧ fn8_hush_38 (nI p) (nI q) u (fun _ w => some ((-4), w)) 1000 0 w = some (hou A p q u (A 0 1) 0, w') := by
  have hnc := hA.2.1
  by_cases e : A 0 1 = 0
  · refine ⟨w, hw, ?_⟩
    rw [show (1000 : Nat) = 999 + 1 from rfl, fn8_hush_38, show w 0 3 = nI (A 0 1) by rw [hw _ (by omega)]; exact hP.2.1, show (12 : Int32) * nI (A 0 1) = nI (12 * A 0 1) from pk_mul 12 _, e, if_pos (show nI (12 * 0) ≤ 0 by decide), hou]
  · obtain ⟨d, hd⟩ : ∃ d, A 0 1 = d + 1 := ⟨A 0 1 - 1, by omega⟩
    rw [hd, hou_hpa]
    exact m_hushO hA hP hG hp hq (12 * d + 12) d 0 12 0 1000 w rfl (by omega) (by omega) (by omega) (by omega) hw
theorem sim_hush : S_hush RR := fun x m h a b c => by
  obtain ⟨A, hA, hT, hP, hG, hO⟩ := (RR_iff x m).mp h
  have hnp := hA.1
  have hnc := hA.2.1
  unfold fn7_hush fn8_hush
  rcases in_or a (A 0 0) (by omega) with ho | ⟨p, hp, rfl⟩
  · unfold fn8_areTwo
    rw [x_noOne hT.1 ho, m_noOne hP.1 ho hnp]
    exact ⟨-1, x, m, rfl, rfl, h⟩
  · rcases in_or b (A 0 0) (by omega) with ho | ⟨q, hq, rfl⟩
    · unfold fn8_areTwo
      rw [x_hasOne hT.1 hp hnp, m_one hP.1 hp hnp]
      simp only [bp, if_neg n10]
      rw [x_noOne hT.1 ho, m_noOne hP.1 ho hnp]
      exact ⟨-1, x, m, rfl, rfl, h⟩
    · by_cases e : p = q
      · subst e
        unfold fn8_areTwo
        rw [x_hasOne hT.1 hp hnp, m_one hP.1 hp hnp]
        simp only [bp, if_neg n10]
        rw [x_hasOne hT.1 hp hnp, m_one hP.1 hp hnp]
        simp only [bp, if_neg n10, if_true]
        exact ⟨-1, x, m, rfl, rfl, h⟩
      · rw [x_hasOne hT.1 hp hnp, m_areTwo hA hP hp hq e]
        simp only [bp, if_neg n10]
        rw [x_hasOne hT.1 hq hnp]
        simp only [bp, if_neg n10]
        rw [if_neg (show ¬ nI p = nI q by rw [eq_n (by omega) (by omega)]; exact e), show (1 : Int64) = (nI 2 - 1).toInt64 by decide]
        rcases in_or c 2 (by omega) with ho | ⟨j, hj, rfl⟩
        · rw [in_no ho (by omega)]
          simp only [bp, not_true_eq_false, if_false]
          rcases out_lt ho with g | ⟨g1, g2⟩
          · rw [if_pos g]
            exact ⟨-1, x, m, rfl, rfl, h⟩
          · rw [if_neg g1, if_neg (show ¬ c ≤ 1 from le_lit (n := 1) g1 g2 (by omega))]
            exact ⟨-1, x, m, rfl, rfl, h⟩
        · rw [in_yes hj (by omega)]
          simp only [bp, if_pos n10]
          rw [if_neg (nI_pos (by omega)), if_pos (show nI j ≤ 1 from nI_le (b := 1) (by omega) (by omega))]
          obtain ⟨x', a1, a2, a3⟩ := x_take hA hT
          obtain ⟨m', b1, b2⟩ := m_learnsIn hA hP hG hp hq
          rw [a3, b2]
          simp only [bp]
          rw [x_comes hA (TX_keep hT (fun i hi => a1 _ (by omega))) (say_plain hA a2) hp hq]
          simp only [bp]
          by_cases en : lrn A (tsaid A) p q = -4
          · rw [if_neg (fun z => z en), if_neg (fun z => z en)]
            exact ⟨-2, x', m', rfl, rfl, RR_xm h a1 b1⟩
          · rw [if_pos en, if_pos en]
            obtain ⟨x2, c1, c2⟩ := x_hushO hA hT (u := nI j) hp hq (A 0 1) 0 1000 x' (by omega) (by omega) a1
            obtain ⟨m2, d1, d2⟩ := m_hushA hA hP hG (u := nI j) hp hq b1
            exact ⟨_, x2, m2, c2, d2, RR_xm h c1 d1⟩
