/-! settle -/
def ask (A : Abs) (v p : Nat) : Nat := if A 3 p / v < A 2 p then A 3 p / v else A 2 p
theorem ask_le {A : Abs} (hA : okA A) (v : Nat) {p : Nat} (hp : p < A 0 0) : ask A v p ≤ 9 := by
  have := (hA.2.2.2.2.2.1 p hp).2.1
  unfold ask
  split <;> omega
def nxp (A : Abs) (v : Nat) : Nat := if sumF (ask A v) (A 0 0) ≤ sumF (gUn A) (A 0 1) then (if sumF (gUn A) (A 0 1) ≤ sumF (ask A v) (A 0 0) then v else if v ≤ 1 then 1 else v - 1) else (if 99 ≤ v then 99 else v + 1)
theorem nxp_in (A : Abs) {v : Nat} (h : 1 ≤ v ∧ v ≤ 99) : 1 ≤ nxp A v ∧ nxp A v ≤ 99 := by
  unfold nxp
  split <;> split <;> (try split) <;> omega
theorem div50 {a v : Nat} (h : a ≤ 50) : a / v ≤ 50 := Nat.le_trans (Nat.div_le_self _ _) h
theorem x_askL {x : Mem} {A : Abs} (hA : okA A) (hT : TX x 1 A) {v : Nat} (hv : 1 ≤ v ∧ v ≤ 99) {u : Int32} {k : Int32 → Int32 → Mem → Option (Int32 × Mem)} : ∀ d c f, c + d = A 0 0 → d < f → fn6_priceAfter_11 1 u (nI v) k f (nI (sumF (ask A v) c)) (nI c) x = k (nI (sumF (ask A v) (A 0 0))) (nI (A 0 0)) x := by
  have hnp := hA.1
  intro d
  induction d with
  | zero =>
    intro c f hc hf
    obtain ⟨f, rfl⟩ : ∃ g, f = g + 1 := ⟨f - 1, by omega⟩
    have e : c = A 0 0 := by omega
    rw [fn6_priceAfter_11, hT.1, e, if_pos (nI_le (by omega) (by omega))]
  | succ d ih =>
    intro c f hc hf
    obtain ⟨f, rfl⟩ : ∃ g, f = g + 1 := ⟨f - 1, by omega⟩
    have hcc : c < A 0 0 := by omega
    have key := ih (c + 1) f (by omega) (by omega)
    obtain ⟨k1, k2, k3⟩ := hA.2.2.2.2.2.1 c hcc
    obtain ⟨t1, t2, t3⟩ := hT.2.2.2.2.2.1 c hcc
    have hib : ib (nI c) 6 = true := ib_y (by omega) (by omega)
    have hd := div50 (v := v) k3
    rw [fn6_priceAfter_11, hT.1, if_neg (nI_ge (by omega) (by omega)), if_pos hib, if_pos hib, cl_n (by omega), t2, t3, if_neg (show ¬ nI v = 0 by rw [show (0 : Int32) = nI 0 from rfl, eq_n (by omega) (by omega)]; omega), pk_div (by omega) (by omega) (by omega), show nI c + 1 = nI (c + 1) from nI_add c 1]
    rw [sumF, ask] at key
    by_cases e : A 3 c / v < A 2 c
    · rw [if_pos (nI_lt e (by omega)), nI_add]
      rw [if_pos e] at key
      exact key
    · rw [if_neg (nI_nlt (by omega) (by omega)), nI_add]
      rw [if_neg e] at key
      exact key
theorem m_askL {m : Mem} {A : Abs} (hA : okA A) (hP : PM m A) {v : Nat} (hv : 1 ≤ v ∧ v ≤ 99) {k : Int32 → Int32 → Mem → Option (Int32 × Mem)} : ∀ d c f, c + d = A 0 0 → d < f → fn8_pricedThen_4 (nI v) k f (nI (sumF (ask A v) c)) (nI c) m = k (nI (sumF (ask A v) (A 0 0))) (nI (A 0 0)) m := by
  have hnp := hA.1
  intro d
  induction d with
  | zero =>
    intro c f hc hf
    obtain ⟨f, rfl⟩ : ∃ g, f = g + 1 := ⟨f - 1, by omega⟩
    have e : c = A 0 0 := by omega
    rw [fn8_pricedThen_4, hP.1, e, if_pos (nI_le (by omega) (by omega))]
  | succ d ih =>
    intro c f hc hf
    obtain ⟨f, rfl⟩ : ∃ g, f = g + 1 := ⟨f - 1, by omega⟩
    have hcc : c < A 0 0 := by omega
    have key := ih (c + 1) f (by omega) (by omega)
    obtain ⟨k1, k2, k3⟩ := hA.2.2.2.2.2.1 c hcc
    obtain ⟨t1, t2, t3⟩ := hP.2.2 c hcc
    have hib1 : ib (nI (3 * c + 1)) 18 = true := ib_y (by omega) (by omega)
    have hib2 : ib (nI (3 * c + 2)) 18 = true := ib_y (by omega) (by omega)
    have hd := div50 (v := v) k3
    rw [fn8_pricedThen_4, hP.1, if_neg (nI_ge (by omega) (by omega)), e30, show nI (3 * c) + 1 = nI (3 * c + 1) from nI_add _ 1, show nI (3 * c) + 2 = nI (3 * c + 2) from nI_add _ 2, if_pos hib2, if_pos hib1, if_pos hib1, cl_n (by omega), cl_n (by omega), t2, t3, if_neg (show ¬ nI v = 0 by rw [show (0 : Int32) = nI 0 from rfl, eq_n (by omega) (by omega)]; omega), pk_div (by omega) (by omega) (by omega), show nI c + 1 = nI (c + 1) from nI_add c 1, nI_add, nI_add]
    rw [sumF, ask] at key
    by_cases e : A 3 c / v < A 2 c
    · rw [if_neg (nI_ge e (by omega))]
      rw [if_pos e] at key
      exact key
    · rw [if_pos (nI_le (by omega) (by omega))]
      rw [if_neg e] at key
      exact key
theorem ask_sum {A : Abs} (hA : okA A) (v : Nat) : sumF (ask A v) (A 0 0) ≤ 54 := by
  have := sumF_le (g := ask A v) (b := 9) (A 0 0) (fun i hi => ask_le hA v hi)
  have := hA.1
  omega
theorem gUn_sum {A : Abs} (hA : okA A) : sumF (gUn A) (A 0 1) ≤ 18 := by
  have := sumF_le (g := gUn A) (b := 3) (A 0 1) (fun i hi => by
    have := (hA.2.2.2.2.2.2.1 i hi).2.1
    unfold gUn
    split <;> omega)
  have := hA.2.1
  omega
theorem x_priceAfter {x : Mem} {A : Abs} (hA : okA A) (hT : TX x 1 A) {v : Nat} (hv : 1 ≤ v ∧ v ≤ 99) : fn6_priceAfter 1 (nI v) x = some (nI (nxp A v), x) := by
  have hnp := hA.1
  have h1 := ask_sum hA v
  have h2 := gUn_sum hA
  have e0 : (if (1 : Int32) < nI v then nI v else 1) = nI v := by
    by_cases e : v = 1
    · subst e
      rfl
    · rw [if_pos (show (1 : Int32) < nI v from nI_lt (a := 1) (by omega) (by omega))]
  unfold fn6_priceAfter
  rw [e0]
  refine (x_askL hA hT hv (A 0 0) 0 1000 (by omega) (by omega)).trans ?_
  refine bind_eq (x_unspent hA hT) ?_
  unfold nxp
  dsimp only
  by_cases e1 : sumF (ask A v) (A 0 0) ≤ sumF (gUn A) (A 0 1)
  · rw [if_pos (nI_le e1 (by omega)), if_pos e1]
    by_cases e2 : sumF (gUn A) (A 0 1) ≤ sumF (ask A v) (A 0 0)
    · rw [if_pos (nI_le e2 (by omega)), if_pos e2]
    · rw [if_neg (nI_ge (by omega) (by omega)), if_neg e2, show nI v - 1 = nI (v - 1) from sub_n (b := 1) hv.1]
      by_cases e3 : v ≤ 2
      · rw [if_neg (show ¬ (1 : Int32) < nI (v - 1) from nI_nlt (a := 1) (by omega) (by omega))]
        split
        · rfl
        · rw [show v - 1 = 1 by omega]
          rfl
      · rw [if_pos (show (1 : Int32) < nI (v - 1) from nI_lt (a := 1) (by omega) (by omega)), if_neg (by omega)]
  · rw [if_neg (nI_ge (by omega) (by omega)), if_neg e1, show nI v + 1 = nI (v + 1) from nI_add v 1]
    by_cases e3 : 98 ≤ v
    · rw [if_neg (show ¬ nI (v + 1) < (99 : Int32) from nI_nlt (b := 99) (by omega) (by omega))]
      split
      · rfl
      · rw [show v + 1 = 99 by omega]
        rfl
    · rw [if_pos (show nI (v + 1) < (99 : Int32) from nI_lt (b := 99) (by omega) (by omega)), if_neg (by omega)]
theorem m_pricedThen {m : Mem} {A : Abs} (hA : okA A) (hP : PM m A) (hG : GM m 0 A) {v : Nat} (hv : 1 ≤ v ∧ v ≤ 99) : fn8_pricedThen (nI v) m = some (nI (nxp A v), m) := by
  have hnp := hA.1
  have h1 := ask_sum hA v
  have h2 := gUn_sum hA
  unfold fn8_pricedThen
  refine (m_askL hA hP hv (A 0 0) 0 1000 (by omega) (by omega)).trans ?_
  refine bind_eq (m_unspent hA hP hG) ?_
  unfold nxp
  dsimp only
  by_cases e1 : sumF (ask A v) (A 0 0) ≤ sumF (gUn A) (A 0 1)
  · rw [if_pos (nI_le e1 (by omega)), if_pos e1]
    by_cases e2 : sumF (gUn A) (A 0 1) ≤ sumF (ask A v) (A 0 0)
    · rw [if_pos (nI_le e2 (by omega)), if_pos e2]
    · rw [if_neg (nI_ge (by omega) (by omega)), if_neg e2, show nI v - 1 = nI (v - 1) from sub_n (b := 1) hv.1]
      by_cases e3 : v ≤ 1
      · rw [if_pos (show nI v ≤ (1 : Int32) from nI_le (b := 1) (by omega) (by omega)), if_pos e3]
        rfl
      · rw [if_neg (show ¬ nI v ≤ (1 : Int32) from nI_ge (a := 1) (by omega) (by omega)), if_neg e3]
  · rw [if_neg (nI_ge (by omega) (by omega)), if_neg e1, show nI v + 1 = nI (v + 1) from nI_add v 1]
    by_cases e3 : 99 ≤ v
    · rw [if_pos (show (99 : Int32) ≤ nI v from nI_le (a := 99) (by omega) (by omega)), if_pos e3]
      rfl
    · rw [if_neg (show ¬ (99 : Int32) ≤ nI v from nI_ge (b := 99) (by omega) (by omega)), if_neg e3]
/-- which prices have been -/
def cntS (s : Nat → Bool) : Nat → Nat
  | 0 => 0
  | n + 1 => cntS s n + (if s n = true then 1 else 0)
theorem cntS_le (s : Nat → Bool) (h0 : s 0 = false) : ∀ n, cntS s (n + 1) ≤ n := by
  intro n
  induction n with
  | zero => simp [cntS, h0]
  | succ n ih =>
    rw [cntS]
    split <;> omega
theorem cntS_up (s : Nat → Bool) {v : Nat} (hv : s v = false) : ∀ n, cntS (fun i => s i || decide (i = v)) n = cntS s n + (if v < n then 1 else 0) := by
  intro n
  induction n with
  | zero => simp [cntS]
  | succ n ih =>
    rw [cntS, cntS, ih]
    by_cases e : n = v
    · subst e
      simp [hv]
    · have : decide (n = v) = false := decide_eq_false e
      rw [this, Bool.or_false]
      have e3 : (if v < n then 1 else 0 : Nat) = if v < n + 1 then 1 else 0 := by
        by_cases e2 : v < n
        · rw [if_pos e2, if_pos (show v < n + 1 by omega)]
        · rw [if_neg e2, if_neg (show ¬ v < n + 1 by omega)]
      rw [e3]
      omega
theorem x_goesRound {x : Mem} {A : Abs} (hA : okA A) (hT : TX x 1 A) {u : Int32} (s : Nat → Bool) (hs : ∀ q, s q = true → 1 ≤ q ∧ q ≤ 99 ∧ nxp A q ≠ q ∧ s (nxp A q) = true) : ∀ d r f v, r + d = 100 → d < f → s v = true → fn7_settle_27 u (fun _ _ w => some ((-4), w)) f (nI v) (nI r) x = some ((-4), x) := by
  intro d
  induction d with
  | zero =>
    intro r f v hr hf hv
    obtain ⟨f, rfl⟩ : ∃ g, f = g + 1 := ⟨f - 1, by omega⟩
    have e : r = 100 := by omega
    subst e
    rw [fn7_settle_27, if_pos (by decide)]
  | succ d ih =>
    intro r f v hr hf hv
    obtain ⟨f, rfl⟩ : ∃ g, f = g + 1 := ⟨f - 1, by omega⟩
    obtain ⟨q1, q2, q3, q4⟩ := hs v hv
    obtain ⟨-, p2, -⟩ := hs _ q4
    rw [fn7_settle_27, if_neg (show ¬ (99 : Int32) < nI r from nI_nlt (a := 99) (by omega) (by omega))]
    refine bind_eq (x_priceAfter hA hT ⟨q1, q2⟩) ?_
    dsimp only
    rw [if_pos (show ¬ nI (nxp A v) = nI v by rw [eq_n (by omega) (by omega)]; exact q3), show nI r + 1 = nI (r + 1) from nI_add r 1]
    exact ih (r + 1) f _ (by omega) (by omega) q4
theorem settle_run {x : Mem} {A : Abs} (hA : okA A) (hT : TX x 1 A) {u : Int32} : ∀ d r f fm v s m, r + d = 99 → 1 ≤ r → 101 ≤ f + r → d < fm → PM m A → GM m 0 A → (∀ i, i < 100 → m 13 i = bI (s i)) → s v = true → s 0 = false → cntS s 100 = r → (∀ q, s q = true → 1 ≤ q ∧ q ≤ 99) → (∀ q, s q = true → q ≠ v → nxp A q ≠ q ∧ s (nxp A q) = true) → ∃ a m', fn7_settle_27 u (fun _ _ w => some ((-4), w)) f (nI v) (nI r) x = some (a, x) ∧ fn8_settle_57 u (fun x3_57 x4_57 w_57 => (if ¬ u = 0 then some (x4_57, w_57) else some (x3_57, w_57))) fm (nI v) (nI r) m = some (a, m') ∧ ∀ k, k ≠ 13 → m' k = m k := by
  intro d
  induction d with
  | zero =>
    intro r f fm v s m hr hr1 hf hfm hP hG hs hv h0 hcnt hin hcl
    have e : r = 99 := by omega
    subst e
    obtain ⟨f, rfl⟩ : ∃ g, f = g + 1 := ⟨f - 1, by omega⟩
    obtain ⟨fm, rfl⟩ : ∃ g, fm = g + 1 := ⟨fm - 1, by omega⟩
    have v1 := hin v hv
    have v2 := nxp_in A v1
    by_cases e : nxp A v = v
    · rw [fn7_settle_27, fn8_settle_57, if_neg (show ¬ (99 : Int32) < nI 99 by decide), x_priceAfter hA hT v1, m_pricedThen hA hP hG v1]
      simp only [bs]
      rw [e, if_neg (fun z => z rfl), if_pos rfl]
      by_cases eu : u = 0
      · rw [if_neg (fun z => z eu), if_neg (fun z => z eu)]
        exact ⟨_, m, rfl, rfl, fun _ _ => rfl⟩
      · rw [if_pos eu, if_pos eu]
        exact ⟨_, m, rfl, rfl, fun _ _ => rfl⟩
    · cases es : s (nxp A v)
      · have c1 := cntS_up s es 100
        rw [if_pos (by omega), hcnt] at c1
        have c2 : cntS (fun i => s i || decide (i = nxp A v)) 100 ≤ 99 := cntS_le (fun i => s i || decide (i = nxp A v)) (by simp [h0]; omega) 99
        omega
      · have hs' : ∀ q, s q = true → 1 ≤ q ∧ q ≤ 99 ∧ nxp A q ≠ q ∧ s (nxp A q) = true := by
          intro q hq
          have := hin q hq
          by_cases eq : q = v
          · subst eq
            exact ⟨this.1, this.2, e, es⟩
          · exact ⟨this.1, this.2, hcl q hq eq⟩
        refine ⟨-4, m, x_goesRound hA hT s hs' 1 99 (f + 1) v (by omega) (by omega) hv, ?_, fun _ _ => rfl⟩
        have hib : ib (nI (nxp A v)) 100 = true := ib_y (by omega) (by omega)
        rw [fn8_settle_57]
        refine bind_eq (m_pricedThen hA hP hG v1) ?_
        dsimp only
        rw [if_neg (show ¬ nI (nxp A v) = nI v by rw [eq_n (by omega) (by omega)]; exact e)]
        refine bind_eq (m_pricedThen hA hP hG v1) ?_
        dsimp only
        have hm1 : m 13 (nxp A v) = 1 := by
          rw [hs _ (by omega), es]
          rfl
        rw [if_pos hib, cl_n (by omega), if_neg (fun z => z hm1)]
  | succ d ih =>
    intro r f fm v s m hr hr1 hf hfm hP hG hs hv h0 hcnt hin hcl
    obtain ⟨f, rfl⟩ : ∃ g, f = g + 1 := ⟨f - 1, by omega⟩
    obtain ⟨fm, rfl⟩ : ∃ g, fm = g + 1 := ⟨fm - 1, by omega⟩
    have v1 := hin v hv
    have v2 := nxp_in A v1
    by_cases e : nxp A v = v
    · rw [fn7_settle_27, fn8_settle_57, if_neg (show ¬ (99 : Int32) < nI r from nI_nlt (a := 99) (by omega) (by omega)), x_priceAfter hA hT v1, m_pricedThen hA hP hG v1]
      simp only [bs]
      rw [e, if_neg (fun z => z rfl), if_pos rfl]
      by_cases eu : u = 0
      · rw [if_neg (fun z => z eu), if_neg (fun z => z eu)]
        exact ⟨_, m, rfl, rfl, fun _ _ => rfl⟩
      · rw [if_pos eu, if_pos eu]
        exact ⟨_, m, rfl, rfl, fun _ _ => rfl⟩
    · have hib : ib (nI (nxp A v)) 100 = true := ib_y (by omega) (by omega)
      cases es : s (nxp A v)
      · have c1 := cntS_up s es 100
        rw [if_pos (by omega), hcnt] at c1
        obtain ⟨a, m', r1, r2, r3⟩ := ih (r + 1) f fm (nxp A v) (fun i => s i || decide (i = nxp A v)) (up2 m 13 (nxp A v) 1) (by omega) (by omega) (by omega) (by omega) (PM_congr hP (by rw [up2_cell (by omega)]) (by rw [up2_cell (by omega)]) (by rw [up2_cell (by omega)])) (GM_keep hA hG (fun j _ _ => by rw [up2_cell (by omega)])) (fun i hi => by
            by_cases ei : i = nxp A v
            · subst ei
              rw [up2_same]
              simp [bI]
            · rw [up2_place ei, hs i hi]
              simp [ei]) (by simp) (by simp [h0]; omega) c1 (fun q hq => by
            by_cases eq : q = nxp A v
            · subst eq
              exact v2
            · simp [eq] at hq
              exact hin q hq) (fun q hq hne => by
            simp [hne] at hq
            by_cases eq : q = v
            · subst eq
              exact ⟨e, by simp⟩
            · have := hcl q hq eq
              exact ⟨this.1, by simp [this.2]⟩)
        refine ⟨a, m', ?_, ?_, fun k hk => by rw [r3 k hk, up2_cell hk]⟩
        · rw [fn7_settle_27, if_neg (show ¬ (99 : Int32) < nI r from nI_nlt (a := 99) (by omega) (by omega))]
          refine bind_eq (x_priceAfter hA hT v1) ?_
          dsimp only
          rw [if_pos (show ¬ nI (nxp A v) = nI v by rw [eq_n (by omega) (by omega)]; exact e), show nI r + 1 = nI (r + 1) from nI_add r 1]
          exact r1
        · rw [fn8_settle_57]
          refine bind_eq (m_pricedThen hA hP hG v1) ?_
          dsimp only
          rw [if_neg (show ¬ nI (nxp A v) = nI v by rw [eq_n (by omega) (by omega)]; exact e)]
          refine bind_eq (m_pricedThen hA hP hG v1) ?_
          dsimp only
          have hm0 : ¬ m 13 (nxp A v) = 1 := by
            rw [hs _ (by omega), es]
            decide
          rw [if_pos hib, if_pos hib, cl_n (by omega), if_pos hm0, show nI r + 1 = nI (r + 1) from nI_add r 1]
          exact r2
      · have hs' : ∀ q, s q = true → 1 ≤ q ∧ q ≤ 99 ∧ nxp A q ≠ q ∧ s (nxp A q) = true := by
          intro q hq
          have := hin q hq
          by_cases eq : q = v
          · subst eq
            exact ⟨this.1, this.2, e, es⟩
          · exact ⟨this.1, this.2, hcl q hq eq⟩
        refine ⟨-4, m, x_goesRound hA hT s hs' (d + 2) r (f + 1) v (by omega) (by omega) hv, ?_, fun _ _ => rfl⟩
        rw [fn8_settle_57]
        refine bind_eq (m_pricedThen hA hP hG v1) ?_
        dsimp only
        rw [if_neg (show ¬ nI (nxp A v) = nI v by rw [eq_n (by omega) (by omega)]; exact e)]
        refine bind_eq (m_pricedThen hA hP hG v1) ?_
        dsimp only
        have hm1 : m 13 (nxp A v) = 1 := by
          rw [hs _ (by omega), es]
          rfl
        rw [if_pos hib, cl_n (by omega), if_neg (fun z => z hm1)]
theorem m_zeroL {a b : Int32} {k : Int32 → Mem → Option (Int32 × Mem)} : ∀ d c f m, c + d = 100 → d < f → (∀ i, i < c → m 13 i = 0) → ∃ m', (∀ i, i < 100 → m' 13 i = 0) ∧ (∀ j, j ≠ 13 → m' j = m j) ∧ fn8_settle_26 a b k f (nI c) m = k (nI 100) m' := by
  intro d
  induction d with
  | zero =>
    intro c f m hc hf hz
    obtain ⟨f, rfl⟩ : ∃ g, f = g + 1 := ⟨f - 1, by omega⟩
    have e : c = 100 := by omega
    subst e
    exact ⟨m, hz, fun _ _ => rfl, by rw [fn8_settle_26, if_pos (by decide)]⟩
  | succ d ih =>
    intro c f m hc hf hz
    obtain ⟨f, rfl⟩ : ∃ g, f = g + 1 := ⟨f - 1, by omega⟩
    obtain ⟨m', r1, r2, r3⟩ := ih (c + 1) f (up2 m 13 c 0) (by omega) (by omega) (fun i hi => by
      by_cases e : i = c
      · subst e
        exact up2_same
      · rw [up2_place e]
        exact hz i (by omega))
    refine ⟨m', r1, fun j hj => by rw [r2 j hj, up2_cell hj], ?_⟩
    rw [fn8_settle_26, if_neg (show ¬ (100 : Int32) ≤ nI c from nI_ge (b := 100) (by omega) (by omega)), if_pos (ib_y (by omega) (by omega)), cl_n (by omega), show nI c + 1 = nI (c + 1) from nI_add c 1]
    exact r3
theorem cntS_one (v : Nat) : ∀ n, cntS (fun i => decide (i = v)) n = if v < n then 1 else 0 := by
  intro n
  induction n with
  | zero => simp [cntS]
  | succ n ih =>
    rw [cntS, ih]
    by_cases e : n = v
    · subst e
      simp
    · rw [decide_eq_false e]
      by_cases e2 : v < n
      · rw [if_pos e2, if_pos (show v < n + 1 by omega)]; rfl
      · rw [if_neg e2, if_neg (show ¬ v < n + 1 by omega)]; rfl
theorem keepM_but {m m' : Mem} (h : ∀ k, k ≠ 3 → k ≠ 4 → k ≠ 5 → k ≠ 9 → k ≠ 11 → k ≠ 12 → k ≠ 13 → m' k = m k) : keepM m m' := by
  refine ⟨?_, ?_, ?_, ?_, ?_, fun i h1 h2 => ?_, ?_, ?_, ?_, ?_, ?_, ?_, ?_, ?_, ?_⟩ <;> rw [h _ (by omega) (by omega) (by omega) (by omega) (by omega) (by omega) (by omega)]
theorem RR_m {x m m' : Mem} (h : RR x m) (hm : ∀ k, k ≠ 3 → k ≠ 4 → k ≠ 5 → k ≠ 9 → k ≠ 11 → k ≠ 12 → k ≠ 13 → m' k = m k) : RR x m' := by
  refine same_RR h (keepX_rf x) (fun _ _ _ => rfl) (keepM_but hm) (fun j _ => ?_) ⟨?_, ?_, ?_⟩ <;> rw [hm _ (by omega) (by omega) (by omega) (by omega) (by omega) (by omega) (by omega)]
theorem sim_settle : S_settle RR := fun x m h a b => by
  obtain ⟨A, hA, hT, hP, hG, hO⟩ := (RR_iff x m).mp h
  unfold fn7_settle fn8_settle
  rw [show (1 : Int64) = (nI 2 - 1).toInt64 by decide, show (99 : Int64) = (nI 99).toInt64 by decide, show (nI 2 - 1).toInt64 = (1 : Int64) by decide, in1_val (by omega)]
  simp only [bs]
  rcases in_or a 100 (by omega) with ho | ⟨v, hv, rfl⟩
  · have hno : ¬ (1 ≤ a.toInt ∧ a.toInt ≤ ((99 : Nat) : Int)) := by
      rcases ho with ho | ho
      · have := neg_ti ho
        omega
      · have := ge_ti (by omega) ho
        omega
    rw [if_neg hno, if_pos rfl]
    have g1 : (1 : Int32).toInt = 1 := by decide
    have g99 : (99 : Int32).toInt = 99 := by decide
    by_cases e : a < 1
    · rw [if_pos e]
      exact ⟨-1, x, m, rfl, rfl, h⟩
    · rw [if_neg e, if_pos]
      · exact ⟨-1, x, m, rfl, rfl, h⟩
      · rw [Int32.lt_iff_toInt_lt] at e ⊢
        omega
  · rw [ti_n (by omega)]
    by_cases e0 : v = 0
    · subst e0
      have hno : ¬ (1 ≤ ((0 : Nat) : Int) ∧ ((0 : Nat) : Int) ≤ ((99 : Nat) : Int)) := by omega
      rw [if_pos (show nI 0 < 1 by decide), if_neg hno, if_pos rfl]
      exact ⟨-1, x, m, rfl, rfl, h⟩
    · have hyes : (1 ≤ (v : Int) ∧ (v : Int) ≤ ((99 : Nat) : Int)) := by omega
      rw [if_neg (show ¬ nI v < 1 from nI_nlt (b := 1) (by omega) (by omega)), if_neg (show ¬ (99 : Int32) < nI v from nI_nlt (a := 99) (by omega) (by omega)), if_pos hyes, if_neg n10, show (1 : Int64) = (nI 2 - 1).toInt64 by decide]
      rcases in_or b 2 (by omega) with ho | ⟨j, hj, rfl⟩
      · rw [in_no ho (by omega)]
        simp only [bs, not_true_eq_false, if_false]
        rcases out_lt ho with g | ⟨g1, g2⟩
        · rw [if_pos g]
          exact ⟨-1, x, m, rfl, rfl, h⟩
        · rw [if_neg g1, if_neg (show ¬ b ≤ 1 from le_lit (n := 1) g1 g2 (by omega))]
          exact ⟨-1, x, m, rfl, rfl, h⟩
      · rw [in_yes hj (by omega)]
        simp only [bs, if_pos n10]
        rw [if_neg (nI_pos (by omega)), if_pos (show nI j ≤ 1 from nI_le (b := 1) (by omega) (by omega))]
        obtain ⟨m1, z1, z2, z3⟩ := m_zeroL (a := nI v) (b := nI j) (k := fun x3_26 w_26 => (if ib (nI v) 100 = true then fn8_settle_57 (nI j) (fun x3_57 x4_57 w_57 => (if ¬ nI j = 0 then some (x4_57, w_57) else some (x3_57, w_57))) 1000 (nI v) 1 (up2 w_26 13 (nI v).toNatClampNeg 1) else none)) 100 0 1000 m (by omega) (by omega) (fun i hi => by omega)
        have z3' : fn8_settle_26 (nI v) (nI j) _ 1000 0 m = _ := z3
        rw [z3', if_pos (ib_y (by omega) (by omega)), cl_n (by omega)]
        obtain ⟨r, m', r1, r2, r3⟩ := settle_run hA hT (u := nI j) 98 1 1000 1000 v (fun i => decide (i = v)) (up2 m1 13 v 1) (by omega) (by omega) (by omega) (by omega) (PM_congr hP (by rw [up2_cell (by omega), z2 _ (by omega)]) (by rw [up2_cell (by omega), z2 _ (by omega)]) (by rw [up2_cell (by omega), z2 _ (by omega)])) (GM_keep hA hG (fun j _ _ => by rw [up2_cell (by omega), z2 _ (by omega)])) (fun i hi => by
          by_cases e : i = v
          · subst e
            rw [up2_same]
            simp [bI]
          · rw [up2_place e, z1 i hi]
            simp [bI, e]) (by simp) (by simp; omega) (by rw [cntS_one, if_pos (by omega)]) (fun q hq => by
          have : q = v := by simpa using hq
          omega) (fun q hq hne => absurd (by simpa using hq) hne)
        refine ⟨r, x, m', r1, r2, RR_m h (fun k _ _ _ _ _ _ h13 => by rw [r3 k h13, up2_cell h13, z2 k h13])⟩
