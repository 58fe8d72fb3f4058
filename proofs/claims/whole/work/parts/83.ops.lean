theorem rd_fin {x m : Mem} {A0 A : Abs} {t : Nat} (h : rdI x m A0 A t) (v : Int32) : fn7_read_145 v (nI (A0 0 2)) x = some (nI t, up2 x 0 9 v) ∧ fn8_read_207 v (nI t) m = some (nI t, up2 m 0 37 v) ∧ RR (up2 x 0 9 v) (up2 m 0 37 v) := by
  refine ⟨?_, rfl, RR_torn (rdI_RR h) v⟩
  unfold fn7_read_145
  rw [up2_cell (k' := 1) (by omega), h.2.1.2.2.1, h.2.2.2.2.2.1, sub_n (by omega), Nat.add_sub_cancel_left]
theorem x_three {x : Mem} {b sz : Nat} {l a : Int32} (h1 : ¬ x b 2 = -4) (h2 : x b 2 = l) (h3 : x b 1 = nI sz) (hsz : sz ≤ 40) : fn3_faultInThree b l a x = some (if 0 ≤ a.toInt ∧ a.toInt + 3 ≤ (sz : Int) then 0 else 2, x) := by
  unfold fn3_faultInThree fn3_isNothing
  rw [if_pos h1]
  simp only [bp, if_true]
  rw [if_pos h2, h3]
  have g0 : (0 : Int32).toInt = 0 := by decide
  have e3 : (nI sz - 3).toInt = (sz : Int) - 3 := pk_sub_toInt (a := sz) (b := 3) (by omega) (by omega)
  by_cases e : a < 0
  · rw [if_pos e, if_neg]
    have := neg_ti e
    omega
  · rw [if_neg e]
    have e' : 0 ≤ a.toInt := by
      rw [Int32.lt_iff_toInt_lt, g0] at e
      omega
    by_cases e2 : nI sz - 3 < a
    · rw [if_pos e2, if_neg]
      rw [Int32.lt_iff_toInt_lt, e3] at e2
      omega
    · rw [if_neg e2, if_pos]
      rw [Int32.lt_iff_toInt_lt, e3] at e2
      omega
theorem x_stop {x : Mem} {b : Nat} {l f n q v i : Int32} (hv : ¬ v = 0) {fu : Nat} : fn7_read_51 l f n q b (fun x6_51 x8_51 w_51 => fn7_read_145 x6_51 q w_51) (fu + 1) v i x = fn7_read_145 v q x := by
  rw [fn7_read_51]
  by_cases e : n ≤ i
  · rw [if_pos e]
  · rw [if_neg e, if_pos hv]
theorem readL {k n sz : Nat} {l f : Int32} {A0 : Abs} (h0 : okA A0) (hk : k < 4) (hn : n ≤ 13) (hl : ¬ l = -4) (hsz : sz ≤ 40) : ∀ d t fx fm x m A, t + d = n → d + 1 < fx → 3 * d + 4 < fm → rdI x m A0 A t → m 16 k = l → m 17 k = nI sz → (t = 0 ∨ ∃ F, f = nI F ∧ F + 3 * t ≤ sz) → ∃ r x' m', fn7_read_51 l f (nI n) (nI (A0 0 2)) (45 + 2 * k) (fun x6_51 x8_51 w_51 => fn7_read_145 x6_51 (nI (A0 0 2)) w_51) fx 0 (nI t) x = some (r, x') ∧ fn8_read_56 (nI k) l f (nI n) kR fm 0 (nI t) (nI (3 * t)) m = some (r, m') ∧ RR x' m' := by
  intro d
  induction d with
  | zero =>
    intro t fx fm x m A ht hfx hfm hI h16 h17 hF
    obtain ⟨fx, rfl⟩ : ∃ g, fx = g + 1 := ⟨fx - 1, by omega⟩
    obtain ⟨fm, rfl⟩ : ∃ g, fm = g + 1 := ⟨fm - 1, by omega⟩
    have e : t = n := by omega
    subst e
    obtain ⟨r1, r2, r3⟩ := rd_fin hI 0
    refine ⟨nI t, _, _, ?_, ?_, r3⟩
    · rw [fn7_read_51, if_pos (nI_le (by omega) (by omega))]
      exact r1
    · rw [fn8_read_56, show (3 : Int32) * nI t = nI (3 * t) from pk_mul 3 t, if_pos (nI_le (by omega) (by omega))]
      exact r2
  | succ d ih =>
    intro t fx fm x m A ht hfx hfm hI h16 h17 hF
    obtain ⟨fx, rfl⟩ : ∃ g, fx = g + 2 := ⟨fx - 2, by omega⟩
    obtain ⟨fm, rfl⟩ : ∃ g, fm = g + 4 := ⟨fm - 4, by omega⟩
    obtain ⟨a1, a2, a3, a4, a5, a6, a7, a8⟩ := id hI
    obtain ⟨s1, s2, -, -, s5⟩ := a5.2.2.2.2.2.1 k hk
    have hl' : ¬ m 16 k = -4 := by rw [h16]; exact hl
    have hxl : x (45 + 2 * k) 2 = l := s1.trans h16
    have hxl' : ¬ x (45 + 2 * k) 2 = -4 := by rw [hxl]; exact hl
    have hxs : x (45 + 2 * k) 1 = nI sz := s2.trans h17
    have hcell : ∀ i, i < 40 → x (45 + 2 * k + 1) i = m 18 (40 * k + i) := s5.elim (fun z => absurd z hl') id
    have hat : (f + nI (3 * t)).toInt = f.toInt + (3 * t : Int) := by
      rcases hF with e | ⟨F, e, hF⟩
      · subst e
        rw [show f + nI (3 * 0) = f by rw [show nI (3 * 0) = (0 : Int32) from rfl]; simp]
        omega
      · subst e
        rw [nI_add, ti_n (by omega), ti_n (by omega)]
        omega
    have eX : fn7_read_51 l f (nI n) (nI (A0 0 2)) (45 + 2 * k) (fun x6_51 x8_51 w_51 => fn7_read_145 x6_51 (nI (A0 0 2)) w_51) (fx + 2) 0 (nI t) x = (fn3_faultInThree (45 + 2 * k) l (f + nI (3 * t)) x).bind (fun q76 => (if ¬ q76.1 = 0 then fn7_read_51 l f (nI n) (nI (A0 0 2)) (45 + 2 * k) (fun x6_51 x8_51 w_51 => fn7_read_145 x6_51 (nI (A0 0 2)) w_51) (fx + 1) q76.1 (nI t + 1) q76.2 else (if ib (f + nI (3 * t)) 40 = true then (if ib ((f + nI (3 * t)) + 1) 40 = true then (if ib ((f + nI (3 * t)) + 2) 40 = true then (fn6_addTalk 1 (q76.2 (45 + 2 * k + 1) (f + nI (3 * t)).toNatClampNeg) (q76.2 (45 + 2 * k + 1) ((f + nI (3 * t)) + 1).toNatClampNeg) (q76.2 (45 + 2 * k + 1) ((f + nI (3 * t)) + 2).toNatClampNeg) q76.2).bind (fun q118 => (if 0 ≤ q118.1 then fn7_read_51 l f (nI n) (nI (A0 0 2)) (45 + 2 * k) (fun x6_51 x8_51 w_51 => fn7_read_145 x6_51 (nI (A0 0 2)) w_51) (fx + 1) q76.1 (nI t + 1) q118.2 else some (((-20) - nI t), (up2 q118.2 1 9 (nI (A0 0 2)))))) else none) else none) else none))) := by
      rw [fn7_read_51, if_neg (nI_ge (by omega) (by omega)), if_neg (show ¬ ¬ (0 : Int32) = 0 from fun z => z rfl), e30]
    rw [eX, x_three hxl' hxl hxs hsz, hat]
    simp only [bp]
    by_cases ok : 0 ≤ f.toInt + (3 * t : Int) ∧ f.toInt + (3 * t : Int) + 3 ≤ (sz : Int)
    · obtain ⟨G, hG⟩ : ∃ G : Nat, f.toInt + (3 * t : Int) = (G : Int) := ⟨(f.toInt + (3 * t : Int)).toNat, by omega⟩
      have hG3 : G + 3 ≤ sz := by omega
      have hfG : f + nI (3 * t) = nI G := by
        apply Int32.toInt_inj.mp
        rw [hat, hG, ti_n (by omega)]
      rw [if_pos ok, if_neg (show ¬ ¬ (0 : Int32) = 0 from fun z => z rfl), hfG, show nI G + 1 = nI (G + 1) from nI_add G 1, show nI G + 2 = nI (G + 2) from nI_add G 2, if_pos (ib_y (by omega) (by omega)), if_pos (ib_y (by omega) (by omega)), if_pos (ib_y (by omega) (by omega)), cl_n (by omega), cl_n (by omega), cl_n (by omega), hcell G (by omega), hcell (G + 1) (by omega), hcell (G + 2) (by omega), ← Nat.add_assoc, ← Nat.add_assoc, m_tripGood (fu := fm + 1) hk hn (by omega) hl' h16 hsz h17 hfG hG hG3, show nI t + 1 = nI (t + 1) from nI_add t 1]
      rcases talk_step a1 a2 a3 a4 (m 18 (40 * k + G)) (m 18 (40 * k + G + 1)) (m 18 (40 * k + G + 2)) with ⟨r, hr, e1, e2⟩ | ⟨i, p, q, h1, h2, h3, h4, hn10, e1, e2⟩
      · rw [e1, e2]
        simp only [bp]
        have hr0 : ¬ 0 ≤ r := not_le_of_lt32 hr
        rw [if_neg hr0, if_neg hr0, show fn8_copies 171 0 m = some (0, pg m 171 0 0) from m_copies (a := 171) (b := 0) (by omega) (by omega) (by omega)]
        simp only [bp]
        exact ⟨_, _, _, rfl, rfl, rdI_back h0 hI⟩
      · rw [e1, e2]
        simp only [bp]
        have hr0 : 0 ≤ nI (A 0 2 + 1) := nI_le (a := 0) (by omega) (by omega)
        rw [if_pos hr0, if_pos hr0]
        refine ih (t + 1) (fx + 1) (fm + 1) _ _ _ (by omega) (by omega) (by omega) (rdI_step h0 hI hn10 h1 h2 h3 h4) (by rw [mT_cell (by omega)]; exact h16) (by rw [mT_cell (by omega)]; exact h17) (Or.inr ?_)
        obtain ⟨F, hFf⟩ : ∃ F : Nat, f.toInt = (F : Int) := by
          rcases hF with e | ⟨F, e, hFb⟩
          · exact ⟨f.toInt.toNat, by omega⟩
          · exact ⟨f.toInt.toNat, by rw [e, ti_n (by omega)]; omega⟩
        refine ⟨F, ?_, by omega⟩
        apply Int32.toInt_inj.mp
        rw [hFf, ti_n (by omega)]
    · have n2 : ¬ (2 : Int32) = 0 := by decide
      obtain ⟨r1, r2, r3⟩ := rd_fin hI 2
      rw [if_neg ok, if_pos n2, x_stop n2, m_tripBad hk hn (by omega) hl' h16 hsz h17 ok]
      exact ⟨_, _, _, r1, r2, r3⟩
theorem sim_read : S_read RR := fun x m h a l f b => by
  obtain ⟨A, hA, hT, hP, hG, hO⟩ := (RR_iff x m).mp h
  unfold fn7_read fn8_read
  rw [show (3 : Int64) = (nI 4 - 1).toInt64 by decide, show (2 : Int64) = (nI 3 - 1).toInt64 by decide, show (13 : Int64) = (nI 14 - 1).toInt64 by decide]
  rcases in_or a 4 (by omega) with ho | ⟨k, hk, rfl⟩
  · rw [in_no ho (by omega), x_noSheet ho]
    exact ⟨-1, x, m, rfl, rfl, h⟩
  · rw [in_yes hk (by omega), x_isSheet hk]
    simp only [bp, if_neg n10]
    rcases in_or l 3 (by omega) with ho | ⟨l, hl, rfl⟩
    · rw [in_no ho (by omega), x_noLane ho]
      exact ⟨-1, x, m, rfl, rfl, h⟩
    · rw [in_yes hl (by omega), x_isLane hl]
      simp only [bp, if_neg n10]
      rcases in_or b 14 (by omega) with ho | ⟨n, hn, rfl⟩
      · rw [in_no ho (by omega)]
        simp only [bp, not_true_eq_false, if_false]
        rcases out_lt ho with g | ⟨g1, g2⟩
        · rw [if_pos g]
          exact ⟨-1, x, m, rfl, rfl, h⟩
        · rw [if_neg g1, if_neg (show ¬ b ≤ 13 from le_lit (n := 13) g1 g2 (by omega))]
          exact ⟨-1, x, m, rfl, rfl, h⟩
      · rw [in_yes hn (by omega)]
        simp only [bp, if_pos n10]
        have hib2 : ib (nI k) ([45, 47, 49, 51] : List Nat).length = true := ib_y (n := 4) hk (by omega)
        rw [if_neg (nI_pos (by omega)), if_pos (show nI n ≤ 13 from nI_le (b := 13) (by omega) (by omega)), if_pos hib2, cl_n (by omega), shb k hk, show fn8_copies 0 171 m = some (0, pg m 0 171 0) from m_copies (a := 0) (b := 171) (by omega) (by omega) (by omega)]
        simp only [bp]
        rw [hT.2.2.1]
        have hI : rdI x (pg m 0 171 0) A A 0 := by
          refine ⟨hA, hT, PM_congr hP (by rw [pg_cell (by omega)]) (by rw [pg_cell (by omega)]) (by rw [pg_cell (by omega)]), GM_keep hA hG (fun j _ hj => by rw [pg_at, if_neg (by omega)]), RO_keep hO (keepX_rf x) ?_ (likeA_rf A), by omega, fun _ _ _ _ => rfl, GM_pg hA hG⟩
          refine ⟨?_, ?_, ?_, ?_, ?_, fun i h1 h2 => by rw [pg_at, if_neg (by omega)], ?_, ?_, ?_, ?_, ?_, ?_, ?_, ?_, ?_⟩ <;> rw [pg_cell (by omega)]
        obtain ⟨s1, s2, ⟨sz, hsz, s3⟩, s4, s5⟩ := hO.2.2.2.2.2.1 k hk
        by_cases en : n = 0
        · subst en
          obtain ⟨r1, r2, r3⟩ := rd_fin hI 0
          refine ⟨nI 0, _, _, ?_, ?_, r3⟩
          · rw [show (1000 : Nat) = 999 + 1 from rfl, fn7_read_51, if_pos (by decide)]
            exact r1
          · rw [show (1000 : Nat) = 999 + 1 from rfl, fn8_read_56, if_pos (by decide)]
            exact r2
        · have hib : ib (nI k) 4 = true := ib_y hk (by omega)
          have c16 : (pg m 0 171 0) 16 k = m 16 k := by rw [pg_cell (by omega)]
          have nz : ¬ nI n ≤ 0 := nI_nle (by omega) (by omega)
          have nz3 : ¬ 3 * nI n ≤ 0 := by
            rw [e30]
            exact nI_nle (by omega) (by omega)
          -- a fault that stops at once
          have stop : ∀ v : Int32, ¬ v = 0 → fn3_faultInThree (45 + 2 * k) (nI l) (f + 3 * 0) x = some (v, x) → fn8_read_56 (nI k) (nI l) f (nI n) kR 1000 0 0 0 (pg m 0 171 0) = fn8_read_126 (nI k) (nI l) f (nI n) (nI 0) (nI 0) v (fn8_read_56 (nI k) (nI l) f (nI n) kR (998 + 1)) (pg m 0 171 0) → ∃ r x' m', fn7_read_51 (nI l) f (nI n) (nI (A 0 2)) (45 + 2 * k) (fun x6_51 x8_51 w_51 => fn7_read_145 x6_51 (nI (A 0 2)) w_51) 1000 0 0 x = some (r, x') ∧ fn8_read_56 (nI k) (nI l) f (nI n) kR 1000 0 0 0 (pg m 0 171 0) = some (r, m') ∧ RR x' m' := by
            intro v hv e1 e2
            obtain ⟨r1, r2, r3⟩ := rd_fin hI v
            refine ⟨nI 0, _, _, ?_, ?_, r3⟩
            · rw [show (1000 : Nat) = 998 + 1 + 1 from rfl, fn7_read_51, if_neg nz, if_neg (show ¬ ¬ (0 : Int32) = 0 from fun z => z rfl), e1]
              simp only [bp]
              rw [if_pos hv, x_stop hv]
              exact r1
            · rw [e2, m_fault hv]
              exact r2
          by_cases e4 : m 16 k = -4
          · refine stop 1 n10 ?_ ?_
            · unfold fn3_faultInThree fn3_isNothing
              rw [if_neg (show ¬ ¬ x (45 + 2 * k) 2 = -4 from fun z => z (s1.trans e4))]
              simp only [bp, if_neg n10]
            · rw [show (1000 : Nat) = 999 + 1 from rfl, fn8_read_56, if_neg nz3, if_neg (show ¬ ¬ (0 : Int32) = 0 from fun z => z rfl), if_pos hib, cl_n (by omega), c16, if_neg (show ¬ ¬ m 16 k = -4 from fun z => z e4)]
              rfl
          · by_cases e5 : m 16 k = nI l
            · exact readL hA hk (by omega) (n_neg4 (by omega)) hsz n 0 1000 1000 x (pg m 0 171 0) A (by omega) (by omega) (by omega) hI (by rw [pg_cell (by omega)]; exact e5) (by rw [pg_cell (by omega)]; exact s3) (Or.inl rfl)
            · have n3 : ¬ (3 : Int32) = 0 := by decide
              refine stop 3 n3 ?_ ?_
              · unfold fn3_faultInThree fn3_isNothing
                rw [if_pos (show ¬ x (45 + 2 * k) 2 = -4 by rw [s1]; exact e4)]
                simp only [bp, if_true]
                rw [if_neg (show ¬ x (45 + 2 * k) 2 = nI l by rw [s1]; exact e5)]
              · rw [show (1000 : Nat) = 999 + 1 from rfl, fn8_read_56, if_neg nz3, if_neg (show ¬ ¬ (0 : Int32) = 0 from fun z => z rfl), if_pos hib, if_pos hib, cl_n (by omega), c16, if_pos e4, if_neg e5]
                rfl
