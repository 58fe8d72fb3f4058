/-! funeral: the reference's way -/
theorem p7 {c : Nat} (h : c ≤ 6) : 7 ^ c ≤ 117649 := by
  rcases (show c = 0 ∨ c = 1 ∨ c = 2 ∨ c = 3 ∨ c = 4 ∨ c = 5 ∨ c = 6 by omega) with e | e | e | e | e | e | e <;> subst e <;> decide
theorem dv_7 {P : Nat} (h : P < 1048576) : nI P / 7 = nI (P / 7) := pk_div (a := P) (d := 7) (by omega) (by omega) (by omega)
theorem md_7 {P : Nat} (h : P < 1048576) : nI P - nI P / 7 * 7 = nI (P % 7) := by
  rw [dv_7 h, show nI (P / 7) * 7 = nI (P / 7 * 7) from pk_mul (P / 7) 7, sub_n (by omega)]
  congr 1
  omega
theorem n_m1 (c : Nat) : nI c + (-1) = nI c - 1 := (Int32.sub_eq_add_neg (nI c) 1).symm
theorem n70 : ¬ (7 : Nat) = 0 := by decide
theorem digP_at : ∀ e c W, digP (c + 1 + e) W c = W / 7 ^ e % 7 := by
  intro e
  induction e with
  | zero => intro c W; simp [digP]
  | succ e ih =>
    intro c W
    rw [← Nat.add_assoc, digP, if_neg (by omega), ih, dv7]
theorem m_costL {m : Mem} {A : Abs} (hA : okA A) (hP : PM m A) (hG : GM m 0 A) {S : Nat} (hS : S < 64) {u : Int32} {k : Int32 → Int32 → Int32 → Mem → Option (Int32 × Mem)} : ∀ c P K f w, c ≤ A 0 1 → P < 7 ^ c → c < f → (∀ j, j ≠ 11 → w j = m j) → ∃ w', (∀ j, j ≠ 11 → w' j = m j) ∧ (alwP A S c P = true → (∀ i, c ≤ i → w' 11 i = w 11 i) ∧ (∀ i, i < c → w' 11 i = nI (digP c P i)) ∧ fn8_funeralCost_14 (nI S) u k f (nI P) (nI K) (nI c - 1) w = k (nI 0) (nI (K + cstP A c P)) (-1) w') ∧ (alwP A S c P = false → fn8_funeralCost_14 (nI S) u k f (nI P) (nI K) (nI c - 1) w = some (-4, w')) := by
  have hnc := hA.2.1
  have hnp := hA.1
  have hfee := hA.2.2.2.2.1
  intro c
  induction c with
  | zero =>
    intro P K f w hc hPl hf hw
    obtain ⟨f, rfl⟩ : ∃ g, f = g + 1 := ⟨f - 1, by omega⟩
    have e : P = 0 := by omega
    subst e
    refine ⟨w, hw, fun _ => ⟨fun _ _ => rfl, fun i hi => by omega, ?_⟩, fun h => by simp [alwP] at h⟩
    rw [fn8_funeralCost_14, show nI 0 - 1 = (-1 : Int32) by decide, if_pos (by decide)]
    rfl
  | succ c ih =>
    intro P K f w hc hPl hf hw
    obtain ⟨f, rfl⟩ : ∃ g, f = g + 1 := ⟨f - 1, by omega⟩
    have hcc : c < A 0 1 := by omega
    have h7 := p7 (c := c + 1) (by omega)
    obtain ⟨w1, w2, ho, -, h12⟩ := hA.2.2.2.2.2.2.1 c hcc
    have hib : ib (nI c) 6 = true := ib_y (by omega) (by omega)
    have hP7 : P / 7 < 7 ^ c := by
      rw [Nat.pow_succ] at hPl
      omega
    have hw1 : ∀ j, j ≠ 11 → up2 w 11 c (nI (P % 7)) j = m j := fun j hj => by rw [up2_cell hj, hw j hj]
    have hG1 : GM (up2 w 11 c (nI (P % 7))) 0 A := GM_keep hA hG (fun j _ _ => by rw [hw1 1 (by omega)])
    have hP1 : PM (up2 w 11 c (nI (P % 7))) A := PM_congr hP (by rw [hw1 0 (by omega)]) (by rw [hw1 0 (by omega)]) (hw1 2 (by omega))
    rw [fn8_funeralCost_14, nI_pred, if_neg (nI_pos (by omega)), if_neg n70, if_pos hib, if_neg n70, if_pos hib, cl_n (by omega), md_7 (by omega), dv_7 (by omega), up2_same, n_m1]
    have hdig : ∀ w' : Mem, w' 11 c = nI (P % 7) → (∀ i, i < c → w' 11 i = nI (digP c (P / 7) i)) → ∀ i, i < c + 1 → w' 11 i = nI (digP (c + 1) P i) := by
      intro w' g1 g2 i hi
      rw [digP]
      by_cases e : i = c
      · subst e
        rw [if_pos rfl]
        exact g1
      · rw [if_neg e]
        exact g2 i (by omega)
    by_cases e0 : P % 7 = 0
    · rw [e0, if_pos (by decide)]
      rw [e0] at hw1
      obtain ⟨w', r1, r2, r3⟩ := ih (P / 7) K f (up2 w 11 c (nI 0)) (by omega) hP7 (by omega) hw1
      refine ⟨w', r1, fun ha => ?_, fun ha => ?_⟩
      · rw [alwP, Bool.and_eq_true] at ha
        obtain ⟨s1, s2, s3⟩ := r2 ha.1
        refine ⟨fun i hi => ?_, hdig w' ?_ s2, ?_⟩
        · rw [s1 i (by omega), up2_place (by omega)]
        · rw [s1 c (by omega), up2_same, e0]
        · rw [s3, cstP, e0, cst, if_pos rfl, Nat.add_zero]
      · rw [alwP, e0] at ha
        refine r3 ?_
        simpa [alw1] using ha
    · rw [if_neg (nI_nle (by omega) (by omega)), m_isSpent hA hG1 hcc]
      simp only [bp]
      by_cases e1 : A 7 c = 0
      · have hb : (nI S >>> (nI (P % 7 - 1) &&& 31)) &&& 1 = bI (S.testBit (P % 7 - 1)) := bit_n (by omega) (by omega)
        rw [if_pos e1, if_neg (show ¬ ¬ (0 : Int32) = 0 from fun z => z rfl), if_pos hib, up2_same, show nI (P % 7) - 1 = nI (P % 7 - 1) from sub_n (b := 1) (by omega), hb]
        by_cases e2 : S.testBit (P % 7 - 1) = true
        · have ha1 : alw1 A S c (P % 7) = true := by
            simp [alw1, e0, e1, e2]
          rw [e2, bI_t, if_pos n10, e40, if_pos (ib_y (by omega) (by omega)), m_ownerOf hA hG1 hcc]
          simp only [bp]
          rw [if_pos hib, cl_n (by omega), (GM_get hG1 hcc).1, up2_same, show nI (P % 7) - 1 = nI (P % 7 - 1) from sub_n (b := 1) (by omega), m_feeNow hG1]
          simp only [bp]
          unfold fn8_funeralCost_113
          have fin : ∀ K', K' = K + cst A c (P % 7) → ∃ w', (∀ j, j ≠ 11 → w' j = m j) ∧ (alwP A S (c + 1) P = true → (∀ i, c + 1 ≤ i → w' 11 i = w 11 i) ∧ (∀ i, i < c + 1 → w' 11 i = nI (digP (c + 1) P i)) ∧ fn8_funeralCost_14 (nI S) u k f (nI (P / 7)) (nI K') (nI c - 1) (up2 w 11 c (nI (P % 7))) = k (nI 0) (nI (K + cstP A (c + 1) P)) (-1) w') ∧ (alwP A S (c + 1) P = false → fn8_funeralCost_14 (nI S) u k f (nI (P / 7)) (nI K') (nI c - 1) (up2 w 11 c (nI (P % 7))) = some (-4, w')) := by
            intro K' hK'
            obtain ⟨w', r1, r2, r3⟩ := ih (P / 7) K' f (up2 w 11 c (nI (P % 7))) (by omega) hP7 (by omega) hw1
            refine ⟨w', r1, fun ha => ?_, fun ha => ?_⟩
            · rw [alwP, Bool.and_eq_true] at ha
              obtain ⟨s1, s2, s3⟩ := r2 ha.1
              refine ⟨fun i hi => by rw [s1 i (by omega), up2_place (by omega)], hdig w' (by rw [s1 c (by omega), up2_same]) s2, ?_⟩
              rw [s3, cstP, show K' + cstP A c (P / 7) = K + (cstP A c (P / 7) + cst A c (P % 7)) by omega]
            · rw [alwP, ha1, Bool.and_true] at ha
              exact r3 ha
          by_cases e3 : A 5 c = P % 7 - 1
          · rw [if_neg (show ¬ ¬ nI (A 5 c) = nI (P % 7 - 1) by rw [e3]; exact fun z => z rfl), n_m1, show nI (A 4 c) + 0 = nI (A 4 c + 0) from nI_add _ 0, nI_add]
            refine fin _ ?_
            rw [cst, if_neg e0, if_pos e3]
          · rw [if_pos (show ¬ nI (A 5 c) = nI (P % 7 - 1) by rw [eq_n (by omega) (by omega)]; exact e3), n_m1, nI_add, nI_add]
            refine fin _ ?_
            rw [cst, if_neg e0, if_neg e3]
        · have e2' : S.testBit (P % 7 - 1) = false := by simpa using e2
          have ha1 : alw1 A S c (P % 7) = false := by
            simp [alw1, e0, e1, e2']
          rw [e2', bI_f, if_neg (show ¬ ¬ (0 : Int32) = 0 from fun z => z rfl)]
          refine ⟨_, hw1, fun ha => ?_, fun _ => rfl⟩
          rw [alwP, ha1, Bool.and_false] at ha
          simp at ha
      · have ha1 : alw1 A S c (P % 7) = false := by
          simp [alw1, e0, e1]
        rw [if_neg e1, if_pos n10]
        refine ⟨_, hw1, fun ha => ?_, fun _ => rfl⟩
        rw [alwP, ha1, Bool.and_false] at ha
        simp at ha
theorem m_gotL {m : Mem} {A : Abs} (hA : okA A) (hP : PM m A) (hG : GM m 0 A) {W p : Nat} (hp : p < A 0 0) (hd : ∀ i, i < A 0 1 → m 11 i = nI (digP (A 0 1) W i)) {u v z : Int32} {k : Int32 → Int32 → Mem → Option (Int32 × Mem)} : ∀ d c f, c + d = A 0 1 → d < f → fn8_funeralCost_141 u v z (nI p) k f (nI (gotP A p c (W / 7 ^ d))) (nI c) m = k (nI (gotP A p (A 0 1) W)) (nI (A 0 1)) m := by
  have hnc := hA.2.1
  have hnp := hA.1
  intro d
  induction d with
  | zero =>
    intro c f hc hf
    obtain ⟨f, rfl⟩ : ∃ g, f = g + 1 := ⟨f - 1, by omega⟩
    have e : c = A 0 1 := by omega
    rw [fn8_funeralCost_141, hP.2.1, e, if_pos (nI_le (by omega) (by omega)), Nat.pow_zero, Nat.div_one]
  | succ d ih =>
    intro c f hc hf
    obtain ⟨f, rfl⟩ : ∃ g, f = g + 1 := ⟨f - 1, by omega⟩
    have hcc : c < A 0 1 := by omega
    have key := ih (c + 1) f (by omega) (by omega)
    have hdc := hd c hcc
    rw [show A 0 1 = c + 1 + d by omega, digP_at] at hdc
    have hm7 : W / 7 ^ d % 7 < 7 := Nat.mod_lt _ (by omega)
    rw [gotP, show W / 7 ^ d / 7 = W / 7 ^ (d + 1) by rw [Nat.pow_succ, Nat.div_div_eq_div_mul]] at key
    rw [fn8_funeralCost_141, hP.2.1, if_neg (nI_ge (by omega) (by omega)), if_pos (ib_y (by omega) (by omega)), cl_n (by omega), hdc, show nI p + 1 = nI (p + 1) from nI_add p 1, show nI c + 1 = nI (c + 1) from nI_add c 1]
    by_cases e : W / 7 ^ d % 7 = p + 1
    · rw [if_neg (show ¬ ¬ nI (W / 7 ^ d % 7) = nI (p + 1) by rw [e]; exact fun z => z rfl), m_lengthBy hA hP hG hcc hp]
      simp only [bp]
      rw [nI_add]
      rw [if_pos e] at key
      exact key
    · rw [if_pos (show ¬ nI (W / 7 ^ d % 7) = nI (p + 1) by rw [eq_n (by omega) (by omega)]; exact e), show ∀ a : Nat, nI a + 0 = nI a from fun a => nI_add a 0]
      rw [if_neg e, Nat.add_zero] at key
      exact key
theorem m_needL {m : Mem} {A : Abs} (hA : okA A) (hP : PM m A) (hG : GM m 0 A) {S n W : Nat} (hS : S < 64) (hn : n ≤ 12) (hd : ∀ i, i < A 0 1 → m 11 i = nI (digP (A 0 1) W i)) {z : Int32} {k : Int32 → Mem → Option (Int32 × Mem)} : ∀ d p f, p + d = A 0 0 → d < f → ((∀ q, p ≤ q → q < A 0 0 → ndy A S n (A 0 1) W q = false) → fn8_funeralCost_126 (nI S) (nI n) z k f (nI p) m = k (nI (A 0 0)) m) ∧ ((∃ q, p ≤ q ∧ q < A 0 0 ∧ ndy A S n (A 0 1) W q = true) → fn8_funeralCost_126 (nI S) (nI n) z k f (nI p) m = some (-4, m)) := by
  have hnc := hA.2.1
  have hnp := hA.1
  intro d
  induction d with
  | zero =>
    intro p f hp hf
    obtain ⟨f, rfl⟩ : ∃ g, f = g + 1 := ⟨f - 1, by omega⟩
    have e : p = A 0 0 := by omega
    refine ⟨fun _ => ?_, fun ⟨q, h1, h2, _⟩ => by omega⟩
    rw [fn8_funeralCost_126, hP.1, e, if_pos (nI_le (by omega) (by omega))]
  | succ d ih =>
    intro p f hp hf
    obtain ⟨f, rfl⟩ : ∃ g, f = g + 1 := ⟨f - 1, by omega⟩
    have hpp : p < A 0 0 := by omega
    obtain ⟨i1, i2⟩ := ih (p + 1) f (by omega) (by omega)
    have hgl := gotP_le (p := p) hA (A 0 1) W (Nat.le_refl _)
    have h0 := m_gotL hA hP hG (u := nI S) (v := nI n) (z := z) hpp hd (k := fun x7_141 x8_141 w_141 => (if ¬ ((nI S >>> (nI p &&& 31)) &&& 1) = 1 then fn8_funeralCost_126 (nI S) (nI n) z k f (nI p + 1) w_141 else (if nI n ≤ x7_141 then fn8_funeralCost_126 (nI S) (nI n) z k f (nI p + 1) w_141 else some ((-4), w_141)))) (A 0 1) 0 1000 (by omega) (by omega)
    rw [gotP] at h0
    have h0' : fn8_funeralCost_126 (nI S) (nI n) z k (f + 1) (nI p) m = fn8_funeralCost_141 (nI S) (nI n) z (nI p) (fun x7_141 x8_141 w_141 => (if ¬ ((nI S >>> (nI p &&& 31)) &&& 1) = 1 then fn8_funeralCost_126 (nI S) (nI n) z k f (nI p + 1) w_141 else (if nI n ≤ x7_141 then fn8_funeralCost_126 (nI S) (nI n) z k f (nI p + 1) w_141 else some ((-4), w_141)))) 1000 (nI 0) (nI 0) m := by
      rw [fn8_funeralCost_126, hP.1, if_neg (nI_ge (by omega) (by omega))]
      rfl
    rw [h0', h0, bit_n (by omega) (by omega), show nI p + 1 = nI (p + 1) from nI_add p 1]
    cases eb : S.testBit p
    · rw [bI_f, if_pos (by decide)]
      refine ⟨fun h => i1 (fun q h1 h2 => h q (by omega) h2), fun ⟨q, h1, h2, h3⟩ => i2 ⟨q, ?_, h2, h3⟩⟩
      rcases (show q = p ∨ p + 1 ≤ q by omega) with e | e
      · subst e
        rw [ndy, eb] at h3
        simp at h3
      · exact e
    · rw [bI_t, if_neg (show ¬ ¬ (1 : Int32) = 1 from fun z => z rfl)]
      by_cases e : n ≤ gotP A p (A 0 1) W
      · rw [if_pos (nI_le e (by omega))]
        refine ⟨fun h => i1 (fun q h1 h2 => h q (by omega) h2), fun ⟨q, h1, h2, h3⟩ => i2 ⟨q, ?_, h2, h3⟩⟩
        rcases (show q = p ∨ p + 1 ≤ q by omega) with e' | e'
        · subst e'
          rw [ndy, decide_eq_false (by omega), Bool.and_false] at h3
          simp at h3
        · exact e'
      · rw [if_neg (nI_ge (by omega) (by omega))]
        refine ⟨fun h => ?_, fun _ => rfl⟩
        have := h p (by omega) hpp
        rw [ndy, eb, decide_eq_true (by omega)] at this
        simp at this
theorem m_funeralCost {m : Mem} {A : Abs} (hA : okA A) (hP : PM m A) (hG : GM m 0 A) {S n W : Nat} (hS : S < 64) (hn : n ≤ 12) (hW : W < 7 ^ A 0 1) : ∃ w', (∀ j, j ≠ 11 → w' j = m j) ∧ ((Lw A S n W = BIG ∧ fn8_funeralCost (nI W) (nI S) (nI n) m = some (-4, w')) ∨ (Lw A S n W ≤ 72 ∧ (∀ i, i < A 0 1 → w' 11 i = nI (digP (A 0 1) W i)) ∧ fn8_funeralCost (nI W) (nI S) (nI n) m = some (nI (Lw A S n W), w'))) := by
  have hnc := hA.2.1
  have hnp := hA.1
  obtain ⟨w', r1, r2, r3⟩ := m_costL hA hP hG (S := S) hS (u := nI n) (k := fun x4_14 x5_14 x6_14 w_14 => fn8_funeralCost_126 (nI S) (nI n) x5_14 (fun x6_126 w_126 => some (x5_14, w_126)) 1000 0 w_14) (A 0 1) W 0 1000 m (Nat.le_refl _) hW (by omega) (fun _ _ => rfl)
  refine ⟨w', r1, ?_⟩
  unfold fn8_funeralCost
  rw [hP.2.1]
  cases ea : alwP A S (A 0 1) W
  · left
    refine ⟨?_, r3 ea⟩
    unfold Lw
    rw [if_neg (by rw [ea]; simp)]
  · obtain ⟨s1, s2, s3⟩ := r2 ea
    have s3' : fn8_funeralCost_14 (nI S) (nI n) _ 1000 (nI W) 0 (nI (A 0 1) - 1) m = _ := s3
    rw [s3', Nat.zero_add]
    have hG1 : GM w' 0 A := GM_keep hA hG (fun j _ _ => by rw [r1 1 (by omega)])
    have hP1 : PM w' A := PM_congr hP (by rw [r1 0 (by omega)]) (by rw [r1 0 (by omega)]) (r1 2 (by omega))
    obtain ⟨i1, i2⟩ := m_needL hA hP1 hG1 hS hn s2 (z := nI (cstP A (A 0 1) W)) (k := fun x6_126 w_126 => some (nI (cstP A (A 0 1) W), w_126)) (A 0 0) 0 1000 (by omega) (by omega)
    by_cases e : ndN A S n (A 0 1) W = 0
    · right
      have hL : Lw A S n W = cstP A (A 0 1) W := by
        unfold Lw
        rw [if_pos ⟨ea, e⟩]
      rw [hL]
      refine ⟨?_, s2, i1 (fun q _ hq => cnt0 _ e q hq)⟩
      have := cstP_le hA (A 0 1) W (Nat.le_refl _)
      omega
    · left
      refine ⟨by unfold Lw; rw [if_neg (fun z => e z.2)], i2 ?_⟩
      refine Classical.byContradiction (fun hno => e (cnt0' _ (fun q hq => ?_)))
      cases en : ndy A S n (A 0 1) W q
      · rfl
      · exact absurd ⟨q, by omega, hq, en⟩ hno
theorem m_waysL {m : Mem} {A : Abs} (hA : okA A) (hP : PM m A) {a b c0 z : Int32} {k : Int32 → Int32 → Mem → Option (Int32 × Mem)} : ∀ d c f, c + d = A 0 1 → d < f → fn8_funeral_65 a b c0 z k f (nI (7 ^ c)) (nI c) m = k (nI (7 ^ A 0 1)) (nI (A 0 1)) m := by
  have hnc := hA.2.1
  intro d
  induction d with
  | zero =>
    intro c f hc hf
    obtain ⟨f, rfl⟩ : ∃ g, f = g + 1 := ⟨f - 1, by omega⟩
    have e : c = A 0 1 := by omega
    rw [fn8_funeral_65, hP.2.1, e, if_pos (nI_le (by omega) (by omega))]
  | succ d ih =>
    intro c f hc hf
    obtain ⟨f, rfl⟩ : ∃ g, f = g + 1 := ⟨f - 1, by omega⟩
    rw [fn8_funeral_65, hP.2.1, if_neg (nI_ge (by omega) (by omega)), show nI (7 ^ c) * 7 = nI (7 ^ (c + 1)) by rw [Nat.pow_succ]; exact pk_mul (7 ^ c) 7, show nI c + 1 = nI (c + 1) from nI_add c 1]
    exact ih (c + 1) f (by omega) (by omega)
theorem m_takeL {a b c0 z y t : Int32} {k : Int32 → Mem → Option (Int32 × Mem)} : ∀ d c f w, c + d = 6 → d < f → ∃ w', (∀ j, j ≠ 12 → w' j = w j) ∧ (∀ i, i < c → w' 12 i = w 12 i) ∧ (∀ i, c ≤ i → i < 6 → w' 12 i = w 11 i) ∧ fn8_funeral_135 a b c0 z y t k f (nI c) w = k (nI 6) w' := by
  intro d
  induction d with
  | zero =>
    intro c f w hc hf
    obtain ⟨f, rfl⟩ : ∃ g, f = g + 1 := ⟨f - 1, by omega⟩
    have e : c = 6 := by omega
    subst e
    exact ⟨w, fun _ _ => rfl, fun _ _ => rfl, fun i h1 h2 => by omega, by rw [fn8_funeral_135, if_pos (by decide)]⟩
  | succ d ih =>
    intro c f w hc hf
    obtain ⟨f, rfl⟩ : ∃ g, f = g + 1 := ⟨f - 1, by omega⟩
    obtain ⟨w', r1, r2, r3, r4⟩ := ih (c + 1) f (up2 w 12 c (w 11 c)) (by omega) (by omega)
    have hib : ib (nI c) 6 = true := ib_y (by omega) (by omega)
    refine ⟨w', fun j hj => by rw [r1 j hj, up2_cell hj], fun i hi => by rw [r2 i (by omega), up2_place (by omega)], fun i h1 h2 => ?_, ?_⟩
    · by_cases e : i = c
      · subst e
        rw [r2 i (by omega), up2_same]
      · rw [r3 i (by omega) h2, up2_cell (by omega)]
    · rw [fn8_funeral_135, if_neg (show ¬ (6 : Int32) ≤ nI c from nI_ge (b := 6) (by omega) (by omega)), if_pos hib, if_pos hib, cl_n (by omega), show nI c + 1 = nI (c + 1) from nI_add c 1]
      exact r4
/-- the reference's best so far -/
def mI (m w : Mem) (A : Abs) (st : Nat × Nat) (v : Int32) : Prop := (∀ j, j ≠ 11 → j ≠ 12 → w j = m j) ∧ ((st.1 = BIG ∧ v = -4) ∨ (st.1 ≤ 72 ∧ v = nI st.1 ∧ ∀ i, i < A 0 1 → w 12 i = nI (digP (A 0 1) st.2 i)))
theorem m_allL {m : Mem} {A : Abs} (hA : okA A) (hP : PM m A) (hG : GM m 0 A) {S n : Nat} (hS : S < 64) (hn : n ≤ 12) {c0 : Int32} {k : Int32 → Int32 → Mem → Option (Int32 × Mem)} : ∀ d V f w v, V + d = 7 ^ A 0 1 → d < f → mI m w A (FL (Lw A S n) 0 V (BIG, 0)) v → ∃ w' v', mI m w' A (FL (Lw A S n) 0 (7 ^ A 0 1) (BIG, 0)) v' ∧ fn8_funeral_90 (nI S) (nI n) c0 (nI (7 ^ A 0 1)) k f v (nI V) w = k v' (nI (7 ^ A 0 1)) w' := by
  have hnc := hA.2.1
  have h7 := p7 (c := A 0 1) hnc
  have hB := BIG_gt
  intro d
  induction d with
  | zero =>
    intro V f w v hV hf hI
    obtain ⟨f, rfl⟩ : ∃ g, f = g + 1 := ⟨f - 1, by omega⟩
    have e : V = 7 ^ A 0 1 := by omega
    rw [e] at hI
    refine ⟨w, v, hI, ?_⟩
    rw [fn8_funeral_90, e, if_pos (nI_le (by omega) (by omega))]
  | succ d ih =>
    intro V f w v hV hf hI
    obtain ⟨f, rfl⟩ : ∃ g, f = g + 1 := ⟨f - 1, by omega⟩
    obtain ⟨hw, hv⟩ := hI
    have hGw : GM w 0 A := GM_keep hA hG (fun j _ _ => by rw [hw 1 (by omega) (by omega)])
    have hPw : PM w A := PM_congr hP (by rw [hw 0 (by omega) (by omega)]) (by rw [hw 0 (by omega) (by omega)]) (hw 2 (by omega) (by omega))
    obtain ⟨w1, a1, a2⟩ := m_funeralCost hA hPw hGw (W := V) hS hn (by omega)
    have hw1 : ∀ j, j ≠ 11 → j ≠ 12 → w1 j = m j := fun j h1 h2 => by rw [a1 j h1, hw j h1 h2]
    have hst : FL (Lw A S n) 0 (V + 1) (BIG, 0) = updL (Lw A S n) (FL (Lw A S n) 0 V (BIG, 0)) V := by
      rw [FL, Nat.zero_add]
    have stay : ∀ v, ¬ Lw A S n V < (FL (Lw A S n) 0 V (BIG, 0)).1 → mI m w A (FL (Lw A S n) 0 V (BIG, 0)) v → mI m w1 A (FL (Lw A S n) 0 (V + 1) (BIG, 0)) v := by
      intro v h1 h2
      rw [hst, updL, if_neg h1]
      refine ⟨hw1, h2.2.elim Or.inl (fun g => Or.inr ⟨g.1, g.2.1, fun i hi => ?_⟩)⟩
      rw [a1 12 (by omega)]
      exact g.2.2 i hi
    have take : Lw A S n V < (FL (Lw A S n) 0 V (BIG, 0)).1 → Lw A S n V ≤ 72 → (∀ i, i < A 0 1 → w1 11 i = nI (digP (A 0 1) V i)) → ∃ w' v', mI m w' A (FL (Lw A S n) 0 (7 ^ A 0 1) (BIG, 0)) v' ∧ fn8_funeral_128 (nI S) (nI n) c0 (nI (7 ^ A 0 1)) (nI V) (nI (Lw A S n V)) (fn8_funeral_90 (nI S) (nI n) c0 (nI (7 ^ A 0 1)) k f) w1 = k v' (nI (7 ^ A 0 1)) w' := by
      intro h1 h2 h3
      unfold fn8_funeral_128
      obtain ⟨w2, b1, b2, b3, b4⟩ := m_takeL (a := nI S) (b := nI n) (c0 := c0) (z := nI (7 ^ A 0 1)) (y := nI (Lw A S n V)) (t := nI V) (k := fun x8_135 w_135 => fn8_funeral_90 (nI S) (nI n) c0 (nI (7 ^ A 0 1)) k f (nI (Lw A S n V)) (nI V + 1) w_135) 6 0 1000 w1 (by omega) (by omega)
      have b4' : fn8_funeral_135 _ _ _ _ _ _ _ 1000 0 w1 = _ := b4
      rw [b4', show nI V + 1 = nI (V + 1) from nI_add V 1]
      refine ih (V + 1) f w2 _ (by omega) (by omega) ?_
      rw [hst, updL, if_pos h1]
      refine ⟨fun j g1 g2 => by rw [b1 j g2, hw1 j g1 g2], Or.inr ⟨h2, rfl, fun i hi => ?_⟩⟩
      rw [b3 i (by omega) (by omega)]
      exact h3 i hi
    rw [fn8_funeral_90, if_neg (nI_ge (by omega) (by omega))]
    rcases a2 with ⟨g1, g2⟩ | ⟨g1, g2, g3⟩
    · rw [g2]
      simp only [bp]
      rw [if_pos trivial, show nI V + 1 = nI (V + 1) from nI_add V 1]
      refine ih (V + 1) f w1 v (by omega) (by omega) (stay v ?_ ⟨hw, hv⟩)
      rw [g1]
      have := (FL_le (L := Lw A S n) (lo := 0) (st := (BIG, 0)) V).1
      dsimp only at this
      omega
    · rw [g3]
      simp only [bp]
      rw [if_neg (n_neg4 (by omega))]
      rcases hv with ⟨q1, q2⟩ | ⟨q1, q2, q3⟩
      · rw [q2, if_pos rfl]
        exact take (by omega) g1 g2
      · rw [q2, if_neg (n_neg4 (by omega))]
        by_cases e : Lw A S n V < (FL (Lw A S n) 0 V (BIG, 0)).1
        · rw [if_neg (nI_ge e (by omega))]
          exact take e g1 g2
        · rw [if_pos (nI_le (by omega) (by omega)), show nI V + 1 = nI (V + 1) from nI_add V 1]
          exact ih (V + 1) f w1 _ (by omega) (by omega) (stay _ e ⟨hw, Or.inr ⟨q1, rfl, q3⟩⟩)
