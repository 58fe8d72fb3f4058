theorem all_n : ∀ n, n < 7 → ((1 : Int32) <<< (nI n &&& 31)) - 1 = nI (2 ^ n - 1) := by decide
theorem pow_le6 {n : Nat} (h : n ≤ 6) : 1 ≤ 2 ^ n ∧ 2 ^ n ≤ 64 := by
  rcases (show n = 0 ∨ n = 1 ∨ n = 2 ∨ n = 3 ∨ n = 4 ∨ n = 5 ∨ n = 6 by omega) with e | e | e | e | e | e | e <;> subst e <;> decide
theorem in1_val {a : Int32} {n : Nat} {w : Mem} (hn : n < 1048576) : fn8_in a.toInt64 1 (nI n).toInt64 w = some (if 1 ≤ a.toInt ∧ a.toInt ≤ (n : Int) then 1 else 0, w) := by
  rw [in_val, ti_l, ti_l, ti_n hn]
  rfl
theorem x_subset {n j : Nat} {w : Mem} (hn : n ≤ 6) (hj : j < 2 ^ n) : fn7_isSubset (nI j) (nI n) w = some (1, w) := by
  have := pow_le6 hn
  unfold fn7_isSubset fn7_allOf
  rw [all_n n (by omega), if_neg (nI_pos (by omega))]
  simp only [bs]
  rw [if_neg (nI_nlt (by omega) (by omega))]
theorem x_noSubset {n : Nat} {a : Int32} {w : Mem} (hn : n ≤ 6) (ho : out a (2 ^ n)) : fn7_isSubset a (nI n) w = some (0, w) := by
  have := pow_le6 hn
  unfold fn7_isSubset fn7_allOf
  rw [all_n n (by omega)]
  rcases out_lt ho with g | ⟨g1, g2⟩
  · rw [if_pos g]
  · rw [if_neg g1]
    simp only [bs]
    rw [if_pos]
    have := ge_ti (by omega) g2
    rw [Int32.lt_iff_toInt_lt, ti_n (by omega)]
    omega
theorem sim_test : S_test RR := fun x m h a b hb => by
  obtain ⟨A, hA, hT, hP, h4, h5, h6, h7, h8, ⟨n, f, g, hn, k1, k2, k3⟩, h10⟩ := id h
  have hnc := hA.2.1
  have hpw := pow_le6 hnc
  unfold fn7_test fn8_test
  rw [hT.2.1, hP.2.1, all_n _ (by omega), in1_val (by omega)]
  simp only [bs]
  rcases in_or a (2 ^ A 0 1) (by omega) with ho | ⟨j, hj, rfl⟩
  · have ne : ¬ a = 0 := ne_out ho (by omega) 0 (by omega)
    rw [if_neg ne, x_noSubset hnc ho]
    simp only [bs]
    rw [if_neg (show ¬ (1 ≤ a.toInt ∧ a.toInt ≤ ((2 ^ A 0 1 - 1 : Nat) : Int)) by
      rintro ⟨q1, q2⟩
      rcases ho with ho | ho
      · have := neg_ti ho
        omega
      · have := ge_ti (by omega) ho
        omega)]
    exact ⟨-1, x, m, rfl, rfl, h⟩
  · rw [ti_n (by omega)]
    by_cases e0 : j = 0
    · subst e0
      rw [if_pos (show nI 0 = 0 from rfl), if_neg (show ¬ ((1 : Int) ≤ ((0 : Nat) : Int) ∧ ((0 : Nat) : Int) ≤ ((2 ^ A 0 1 - 1 : Nat) : Int)) by omega)]
      exact ⟨-1, x, m, rfl, rfl, h⟩
    · rw [if_neg (show ¬ nI j = 0 by rw [show (0 : Int32) = nI 0 from rfl, eq_n (by omega) (by omega)]; exact e0), x_subset hnc hj, if_pos (show ((1 : Int) ≤ (j : Int) ∧ (j : Int) ≤ ((2 ^ A 0 1 - 1 : Nat) : Int)) by omega)]
      simp only [bs, if_pos n10]
      unfold fn1_note
      by_cases e : n = 8
      · rw [k1, k2, e, if_neg (show ¬ nI 8 < 8 by decide), if_neg (show ¬ ¬ nI 8 = 8 from fun z => z rfl)]
        exact ⟨-3, x, m, rfl, rfl, h⟩
      · rw [k1, k2, if_pos (show nI n < 8 from nI_lt (b := 8) (by omega) (by omega)), if_pos (show ¬ nI n = 8 by rw [show (8 : Int32) = nI 8 from rfl, eq_n (by omega) (by omega)]; exact e), up2_cell (k' := 64) (by omega), k1, if_pos (ib_y (n := 8) (a := n) (by omega) (by omega)), if_pos (ib_y (n := 8) (a := n) (by omega) (by omega)), e20, if_pos (ib_y (n := 16) (a := 2 * n) (by omega) (by omega)), cl_n (by omega), cl_n (by omega), up2_cell (k' := 0) (by omega), k2, e21]
        obtain ⟨v, hv, hv2⟩ : ∃ v : Nat, b = nI v ∧ v ≤ 1 := by
          rcases hb with hb | hb
          · exact ⟨0, hb, by omega⟩
          · exact ⟨1, hb, by omega⟩
        have hnar : vp_nar .boolean b = nI v := by
          rcases hb with hb | hb
          · subst hb
            rw [nar0]; exact hv
          · subst hb
            rw [nar1]; exact hv
        unfold fn1_note_32 fn8_test_65
        rw [hnar]
        have hib : ib (nI (2 * n + 1)) 16 = true := ib_y (by omega) (by omega)
        have r : ∀ u : Int32, (up2 (up2 m 14 (2 * n) (nI j)) 14 (2 * n + 1) u) 0 31 = nI n := fun u => by rw [up2_cell (by omega), up2_cell (by omega)]; exact k2
        have r1 : (up2 (up2 x 66 n (nI j)) 67 n (nI v)) 64 0 = nI n := by rw [up2_cell (by omega), up2_cell (by omega)]; exact k1
        have s : nI n + 1 = nI (n + 1) := nI_add n 1
        simp only [if_pos hib, cl_n (show 2 * n + 1 < 1048576 by omega), r, r1, up2_same, s, bs]
        have e2 : (if b = 0 then some (nI (n + 1), up2 (up2 (up2 m 14 (2 * n) (nI j)) 14 (2 * n + 1) 0) 0 31 (nI (n + 1))) else some (nI (n + 1), up2 (up2 (up2 m 14 (2 * n) (nI j)) 14 (2 * n + 1) 1) 0 31 (nI (n + 1)))) = some (nI (n + 1), up2 (up2 (up2 m 14 (2 * n) (nI j)) 14 (2 * n + 1) (nI v)) 0 31 (nI (n + 1))) := by
          by_cases eb : b = 0
          · have : v = 0 := by
              have := hv.symm.trans eb
              rwa [show (0 : Int32) = nI 0 from rfl, eq_n (by omega) (by omega)] at this
            rw [if_pos eb, this]; rfl
          · have : v = 1 := by
              rcases (show v = 0 ∨ v = 1 by omega) with q | q
              · exact absurd (by rw [hv, q]; rfl) eb
              · exact q
            rw [if_neg eb, this]; rfl
        rw [e2]
        refine ⟨_, _, _, rfl, rfl, ?_⟩
        refine RR_h h (fun i g1 g2 g3 => by rw [up2_cell g1, up2_cell g3, up2_cell g2]) (fun i g1 g2 => by rw [up2_cell g1, up2_cell g2, up2_cell g2]) (fun j g => by rw [up2_place g, up2_cell (by omega), up2_cell (by omega)]) (fun _ => ?_)
        refine ⟨n + 1, fun i => if i = n then j else f i, fun i => if i = n then v else g i, by omega, up2_same, up2_same, fun i hi => ?_⟩
        rw [up2_cell (k' := 66) (by omega), up2_cell (k' := 66) (by omega), up2_cell (k' := 67) (by omega), up2_cell (k' := 14) (by omega)]
        by_cases ei : i = n
        · subst ei
          simp only [if_true]
          rw [up2_same, up2_same, up2_place (j' := 2 * i) (by omega), up2_same, up2_same]
          exact ⟨by omega, hv2, rfl, rfl, rfl, rfl⟩
        · simp only [if_neg ei]
          rw [up2_place ei, up2_place ei, up2_cell (k' := 67) (by omega), up2_place (j' := 2 * i) (by omega), up2_place (j' := 2 * i) (by omega), up2_place (j' := 2 * i + 1) (by omega), up2_place (j' := 2 * i + 1) (by omega)]
          exact k3 i (by omega)
/-! sums over coins, people -/
def sumF (g : Nat → Nat) : Nat → Nat
  | 0 => 0
  | n + 1 => sumF g n + g n
theorem sumF_le {g : Nat → Nat} {b : Nat} : ∀ n, (∀ i, i < n → g i ≤ b) → sumF g n ≤ n * b := by
  intro n
  induction n with
  | zero => intro _; simp [sumF]
  | succ n ih =>
    intro h
    have h1 := ih (fun i hi => h i (by omega))
    have h2 := h n (by omega)
    rw [sumF, Nat.add_mul]
    omega
def gSp (A : Abs) (c : Nat) : Nat := if A 7 c = 0 then 0 else 1
def gUn (A : Abs) (c : Nat) : Nat := if A 7 c = 0 then A 4 c else 0
theorem x_spentL {x : Mem} {A : Abs} (hA : okA A) {b : Nat} (hT : TX x b A) {k : Int32 → Int32 → Mem → Option (Int32 × Mem)} : ∀ d c f, c + d = A 0 1 → d < f → fn6_spentCoins_4 b k f (nI (sumF (gSp A) c)) (nI c) x = k (nI (sumF (gSp A) (A 0 1))) (nI (A 0 1)) x := by
  have hnc := hA.2.1
  intro d
  induction d with
  | zero =>
    intro c f hc hf
    obtain ⟨f, rfl⟩ : ∃ g, f = g + 1 := ⟨f - 1, by omega⟩
    have e : c = A 0 1 := by omega
    rw [fn6_spentCoins_4, hT.2.1, e, if_pos (nI_le (by omega) (by omega))]
  | succ d ih =>
    intro c f hc hf
    obtain ⟨f, rfl⟩ : ∃ g, f = g + 1 := ⟨f - 1, by omega⟩
    rw [fn6_spentCoins_4, hT.2.1, if_neg (nI_ge (by omega) (by omega)), x_isSpent hA hT (by omega)]
    simp only [bs]
    have e1 : fn7_oneIf (if A 7 c = 0 then 0 else 1) x = some (nI (gSp A c), x) := by
      unfold fn7_oneIf gSp
      by_cases e : A 7 c = 0
      · simp only [if_pos e]; rfl
      · simp only [if_neg e]; rfl
    rw [e1]
    simp only [bs]
    rw [nI_add, show nI c + 1 = nI (c + 1) from nI_add c 1]
    exact ih (c + 1) f (by omega) (by omega)
theorem x_spentCoins {x : Mem} {A : Abs} (hA : okA A) {b : Nat} (hT : TX x b A) : fn6_spentCoins b x = some (nI (sumF (gSp A) (A 0 1)), x) := by
  have hnc := hA.2.1
  exact x_spentL hA hT (A 0 1) 0 1000 (by omega) (by omega)
theorem m_countL {m : Mem} {A : Abs} (hA : okA A) (hP : PM m A) (hG : GM m 0 A) {a : Int32} {k : Int32 → Int32 → Mem → Option (Int32 × Mem)} : ∀ d c f, c + d = A 0 1 → d < f → fn8_count_4 a k f (nI (sumF (gSp A) c)) (nI c) m = k (nI (sumF (gSp A) (A 0 1))) (nI (A 0 1)) m := by
  have hnc := hA.2.1
  intro d
  induction d with
  | zero =>
    intro c f hc hf
    obtain ⟨f, rfl⟩ : ∃ g, f = g + 1 := ⟨f - 1, by omega⟩
    have e : c = A 0 1 := by omega
    rw [fn8_count_4, hP.2.1, e, if_pos (nI_le (by omega) (by omega))]
  | succ d ih =>
    intro c f hc hf
    obtain ⟨f, rfl⟩ : ∃ g, f = g + 1 := ⟨f - 1, by omega⟩
    rw [fn8_count_4, hP.2.1, if_neg (nI_ge (by omega) (by omega)), m_isSpent hA hG (by omega)]
    simp only [bs]
    have key := ih (c + 1) f (by omega) (by omega)
    rw [sumF] at key
    by_cases e : A 7 c = 0
    · rw [if_pos e, if_pos rfl, show nI c + 1 = nI (c + 1) from nI_add c 1, show nI (sumF (gSp A) c) + 0 = nI (sumF (gSp A) c + gSp A c) by rw [gSp, if_pos e]; exact nI_add _ 0]
      exact key
    · rw [if_neg e, if_neg n10, show nI c + 1 = nI (c + 1) from nI_add c 1, show nI (sumF (gSp A) c) + 1 = nI (sumF (gSp A) c + gSp A c) by rw [gSp, if_neg e]; exact nI_add _ 1]
      exact key
theorem x_unspL {x : Mem} {A : Abs} (hA : okA A) {b : Nat} (hT : TX x b A) {k : Int32 → Int32 → Mem → Option (Int32 × Mem)} : ∀ d c f, c + d = A 0 1 → d < f → fn6_unspentWorths_4 b k f (nI (sumF (gUn A) c)) (nI c) x = k (nI (sumF (gUn A) (A 0 1))) (nI (A 0 1)) x := by
  have hnc := hA.2.1
  intro d
  induction d with
  | zero =>
    intro c f hc hf
    obtain ⟨f, rfl⟩ : ∃ g, f = g + 1 := ⟨f - 1, by omega⟩
    have e : c = A 0 1 := by omega
    rw [fn6_unspentWorths_4, hT.2.1, e, if_pos (nI_le (by omega) (by omega))]
  | succ d ih =>
    intro c f hc hf
    obtain ⟨f, rfl⟩ : ∃ g, f = g + 1 := ⟨f - 1, by omega⟩
    rw [fn6_unspentWorths_4, hT.2.1, if_neg (nI_ge (by omega) (by omega)), x_isSpent hA hT (by omega)]
    simp only [bs]
    have key := ih (c + 1) f (by omega) (by omega)
    rw [sumF] at key
    by_cases e : A 7 c = 0
    · rw [if_pos e, if_pos rfl, if_pos (ib_y (by omega) (by omega)), cl_n (by omega), (hT.2.2.2.2.2.2.1 c (by omega)).1, show nI c + 1 = nI (c + 1) from nI_add c 1, nI_add, show sumF (gUn A) c + A 4 c = sumF (gUn A) c + gUn A c by rw [gUn, if_pos e]]
      exact key
    · rw [if_neg e, if_neg n10, show nI c + 1 = nI (c + 1) from nI_add c 1, show nI (sumF (gUn A) c) + 0 = nI (sumF (gUn A) c + gUn A c) by rw [gUn, if_neg e]; exact nI_add _ 0]
      exact key
theorem x_unspent {x : Mem} {A : Abs} (hA : okA A) {b : Nat} (hT : TX x b A) : fn6_unspentWorths b x = some (nI (sumF (gUn A) (A 0 1)), x) := by
  have hnc := hA.2.1
  exact x_unspL hA hT (A 0 1) 0 1000 (by omega) (by omega)
theorem m_unspL {m : Mem} {A : Abs} (hA : okA A) (hP : PM m A) (hG : GM m 0 A) {k : Int32 → Int32 → Mem → Option (Int32 × Mem)} : ∀ d c f, c + d = A 0 1 → d < f → fn8_unspent_4 k f (nI (sumF (gUn A) c)) (nI c) m = k (nI (sumF (gUn A) (A 0 1))) (nI (A 0 1)) m := by
  have hnc := hA.2.1
  intro d
  induction d with
  | zero =>
    intro c f hc hf
    obtain ⟨f, rfl⟩ : ∃ g, f = g + 1 := ⟨f - 1, by omega⟩
    have e : c = A 0 1 := by omega
    rw [fn8_unspent_4, hP.2.1, e, if_pos (nI_le (by omega) (by omega))]
  | succ d ih =>
    intro c f hc hf
    obtain ⟨f, rfl⟩ : ∃ g, f = g + 1 := ⟨f - 1, by omega⟩
    rw [fn8_unspent_4, hP.2.1, if_neg (nI_ge (by omega) (by omega)), m_isSpent hA hG (by omega)]
    simp only [bs]
    have key := ih (c + 1) f (by omega) (by omega)
    rw [sumF] at key
    by_cases e : A 7 c = 0
    · rw [if_pos e, if_pos rfl, e40, if_pos (ib_y (by omega) (by omega)), cl_n (by omega), (GM_get hG (by omega)).1, show nI c + 1 = nI (c + 1) from nI_add c 1, nI_add, show sumF (gUn A) c + A 4 c = sumF (gUn A) c + gUn A c by rw [gUn, if_pos e]]
      exact key
    · rw [if_neg e, if_neg n10, show nI c + 1 = nI (c + 1) from nI_add c 1, show nI (sumF (gUn A) c) + 0 = nI (sumF (gUn A) c + gUn A c) by rw [gUn, if_neg e]; exact nI_add _ 0]
      exact key
theorem m_unspent {m : Mem} {A : Abs} (hA : okA A) (hP : PM m A) (hG : GM m 0 A) : fn8_unspent m = some (nI (sumF (gUn A) (A 0 1)), m) := by
  have hnc := hA.2.1
  exact m_unspL hA hP hG (A 0 1) 0 1000 (by omega) (by omega)
theorem sim_count : S_count RR := fun x m h a => by
  obtain ⟨A, hA, hT, hP, hG, hI, ⟨tn, tt, ht0, ht1, ht2, ht3⟩, h7, ⟨kn, kf, kg, hk0, hk1, hk2, hk3⟩, ⟨hn, hf, hg, hh0, hh1, hh2, hh3⟩, hS, h11, h12⟩ := id h
  have hnc := hA.2.1
  have em : fn8_count a m = _ := m_countL (a := a) hA hP hG (A 0 1) 0 1000 (by omega) (by omega)
  rw [em]
  unfold fn7_count
  rw [x_spentCoins hA hT, x_unspent hA hT, hk1, hh1, ht1]
  simp only [m_unspent hA hP hG, hk2, hh2, ht2, bs]
  obtain ⟨i0, i0'⟩ := hI 0 (by omega)
  obtain ⟨i1, i1'⟩ := hI 1 (by omega)
  have s0 := hS 0 (by omega)
  by_cases e0 : a = 0
  · simp only [if_pos e0]; exact ⟨_, x, m, rfl, rfl, h⟩
  · simp only [if_neg e0]
    by_cases e1 : a = 1
    · simp only [if_pos e1]; exact ⟨_, x, m, rfl, rfl, h⟩
    · simp only [if_neg e1]
      by_cases e2 : a = 2
      · simp only [if_pos e2]; exact ⟨_, x, m, rfl, rfl, h⟩
      · simp only [if_neg e2]
        by_cases e3 : a = 3
        · simp only [if_pos e3]
          unfold fn8_count_102 fn7_oneIf
          have b0 : ib 0 2 = true := by decide
          have b1 : ib 1 2 = true := by decide
          have z0 : (0 : Int32).toNatClampNeg = 0 := by decide
          have z1 : (1 : Int32).toNatClampNeg = 1 := by decide
          simp only [if_pos b0, if_pos b1, z0, z1, ← i0, ← i1]
          by_cases c0 : x 69 0 = 0
          · by_cases c1 : x 69 1 = 0
            · refine ⟨0, x, m, ?_, ?_, h⟩
              · rw [if_pos c0]; simp only [bs]; rw [if_pos c1]; rfl
              · rw [if_pos c0, if_pos c1]; rfl
            · refine ⟨1, x, m, ?_, ?_, h⟩
              · rw [if_pos c0]; simp only [bs]; rw [if_neg c1]; rfl
              · rw [if_pos c0, if_neg c1]; rfl
          · by_cases c1 : x 69 1 = 0
            · refine ⟨1, x, m, ?_, ?_, h⟩
              · rw [if_neg c0]; simp only [bs]; rw [if_pos c1]; rfl
              · rw [if_neg c0, if_pos c1]; rfl
            · refine ⟨2, x, m, ?_, ?_, h⟩
              · rw [if_neg c0]; simp only [bs]; rw [if_neg c1]; rfl
              · rw [if_neg c0, if_neg c1]; rfl
        · simp only [if_neg e3]
          by_cases e4 : a = 4
          · simp only [if_pos e4]; exact ⟨_, x, m, rfl, rfl, h⟩
          · simp only [if_neg e4]
            by_cases e5 : a = 5
            · simp only [if_pos e5]
              have b0 : ib 0 4 = true := by decide
              have b1 : ib 0 ([45, 47, 49, 51] : List Nat).length = true := by decide
              have z0 : (0 : Int32).toNatClampNeg = 0 := by decide
              simp only [if_pos b0, if_pos b1, z0]
              have q1 : x 45 2 = m 16 0 := s0.1
              have q2 : x 45 1 = m 17 0 := s0.2.1
              unfold fn3_isNothing
              show ∃ (r : Int32) (x' m' : Mem), ((if ¬ x 45 2 = -4 then some ((0 : Int32), x) else some (1, x)).bind (fun q102 => if q102.1 = 0 then some (q102.2 45 1, q102.2) else some (-4, q102.2))) = some (r, x') ∧ _ ∧ _
              rw [q1]
              by_cases c : m 16 0 = -4
              · rw [if_neg (fun z => z c), if_neg (fun z => z c)]
                exact ⟨-4, x, m, rfl, rfl, h⟩
              · rw [if_pos c, if_pos c]
                simp only [bs, if_true, q2]
                exact ⟨_, x, m, rfl, rfl, h⟩
            · simp only [if_neg e5]
              by_cases e6 : a = 6
              · simp only [if_pos e6]; exact ⟨_, x, m, rfl, rfl, h⟩
              · simp only [if_neg e6]; exact ⟨_, x, m, rfl, rfl, h⟩
