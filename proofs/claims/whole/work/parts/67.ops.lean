/-- zeros from lo on, below hi -/
def zr (w : Mem) (k lo hi : Nat) : Mem := upm w k (fun j => if lo ≤ j ∧ j < hi then 0 else w k j)
theorem zr_cell {w : Mem} {k k' lo hi : Nat} (h : k' ≠ k) : zr w k lo hi k' = w k' := by simp [zr, upm, h]
theorem zr_at {w : Mem} {k lo hi j : Nat} : zr w k lo hi k j = if lo ≤ j ∧ j < hi then 0 else w k j := by simp [zr, upm]
theorem zr_nil {w : Mem} {k lo : Nat} : zr w k lo lo = w := by
  funext i j
  by_cases h : i = k
  · subst h
    rw [zr_at, if_neg (by omega)]
  · rw [zr_cell h]
theorem zr_step {w : Mem} {k lo hi : Nat} (h : lo < hi) : zr (up2 w k lo 0) k (lo + 1) hi = zr w k lo hi := by
  funext i j
  by_cases hi2 : i = k
  · subst hi2
    rw [zr_at, zr_at, up2_at]
    by_cases e : j = lo
    · subst e
      simp only [true_and, if_true]
      rw [if_neg (by omega), if_pos (by omega)]
    · by_cases e2 : lo ≤ j ∧ j < hi
      · rw [if_pos (by omega), if_pos e2]
      · rw [if_neg (by omega), if_neg e2, if_neg (by simp [e])]
  · rw [zr_cell hi2, zr_cell hi2, up2_cell hi2]
theorem x_renewL {b : Nat} {k : Int32 → Mem → Option (Int32 × Mem)} : ∀ d c f w, c + d = 40 → d < f → fn3_renew_12 b k f (nI c) w = k (nI 40) (zr w (b + 1) c 40) := by
  intro d
  induction d with
  | zero =>
    intro c f w hc hf
    obtain ⟨f, rfl⟩ : ∃ g, f = g + 1 := ⟨f - 1, by omega⟩
    have e : c = 40 := by omega
    subst e
    rw [fn3_renew_12, if_pos (show (40 : Int32) ≤ nI 40 by decide), zr_nil]
  | succ d ih =>
    intro c f w hc hf
    obtain ⟨f, rfl⟩ : ∃ g, f = g + 1 := ⟨f - 1, by omega⟩
    rw [fn3_renew_12, if_neg (show ¬ (40 : Int32) ≤ nI c from nI_ge (b := 40) (by omega) (by omega)), if_pos (ib_y (by omega) (by omega)), cl_n (by omega), show nI c + 1 = nI (c + 1) from nI_add c 1, ih (c + 1) f _ (by omega) (by omega), zr_step (by omega)]
theorem x_renew {b : Nat} {l n : Int32} {w : Mem} : fn3_renew b l n w = some (0, zr (up2 (up2 w b 2 l) b 1 n) (b + 1) 0 40) := x_renewL 40 0 1000 _ (by omega) (by omega)
theorem e400 (c i : Nat) : (40 : Int32) * nI c + nI i = nI (40 * c + i) := by rw [show (40 : Int32) * nI c = nI (40 * c) from pk_mul 40 c, nI_add]
theorem m_sheetL {s : Nat} (hs : s < 4) {k : Int32 → Mem → Option (Int32 × Mem)} : ∀ d c f w, c + d = 40 → d < f → fn8_sheet_56 (nI s) k f (nI c) w = k (nI 40) (zr w 18 (40 * s + c) (40 * s + 40)) := by
  intro d
  induction d with
  | zero =>
    intro c f w hc hf
    obtain ⟨f, rfl⟩ : ∃ g, f = g + 1 := ⟨f - 1, by omega⟩
    have e : c = 40 := by omega
    subst e
    rw [fn8_sheet_56, if_pos (show (40 : Int32) ≤ nI 40 by decide), zr_nil]
  | succ d ih =>
    intro c f w hc hf
    obtain ⟨f, rfl⟩ : ∃ g, f = g + 1 := ⟨f - 1, by omega⟩
    rw [fn8_sheet_56, if_neg (show ¬ (40 : Int32) ≤ nI c from nI_ge (b := 40) (by omega) (by omega)), e400, if_pos (ib_y (by omega) (by omega)), cl_n (by omega), show nI c + 1 = nI (c + 1) from nI_add c 1, ih (c + 1) f _ (by omega) (by omega), ← zr_step (lo := 40 * s + c) (by omega)]
    rfl
theorem shb : ∀ s, s < 4 → [45, 47, 49, 51].getD s 0 = 45 + 2 * s := by decide
theorem x_isSheet {s : Nat} {w : Mem} (h : s < 4) : fn7_isSheet (nI s) w = some (1, w) := by
  unfold fn7_isSheet
  rw [if_neg (nI_pos (by omega)), if_neg (show ¬ (4 : Int32) ≤ nI s from nI_ge (b := 4) h (by omega))]
theorem x_noSheet {a : Int32} {w : Mem} (ho : out a 4) : fn7_isSheet a w = some (0, w) := by
  unfold fn7_isSheet
  rcases out_lt ho with g | ⟨g1, g2⟩
  · rw [if_pos g]
  · rw [if_neg g1, if_pos (show (4 : Int32) ≤ a from g2)]
theorem x_isLane {s : Nat} {w : Mem} (h : s < 3) : fn7_isLane (nI s) w = some (1, w) := by
  unfold fn7_isLane
  rw [if_neg (nI_pos (by omega)), if_neg (show ¬ (3 : Int32) ≤ nI s from nI_ge (b := 3) h (by omega))]
theorem x_noLane {a : Int32} {w : Mem} (ho : out a 3) : fn7_isLane a w = some (0, w) := by
  unfold fn7_isLane
  rcases out_lt ho with g | ⟨g1, g2⟩
  · rw [if_pos g]
  · rw [if_neg g1, if_pos (show (3 : Int32) ≤ a from g2)]
theorem n_neg4 {n : Nat} (h : n < 1048576) : ¬ nI n = -4 := by
  intro e
  have := congrArg Int32.toInt e
  rw [ti_n h] at this
  have g : ((-4 : Int32)).toInt = -4 := by decide
  omega
theorem sim_sheet : S_sheet RR := fun x m h a b n => by
  have hS : RS x m := by
    obtain ⟨A, h1, h2, h3, h4, h5, h6, h7, h8, h9, h10, -⟩ := h
    exact h10
  unfold fn7_sheet fn8_sheet
  rw [show (3 : Int64) = (nI 4 - 1).toInt64 by decide, show (2 : Int64) = (nI 3 - 1).toInt64 by decide]
  rcases in_or a 4 (by omega) with ho | ⟨s, hs, rfl⟩
  · rw [x_noSheet ho, in_no ho (by omega)]
    exact ⟨-1, x, m, rfl, rfl, h⟩
  · rw [x_isSheet hs, in_yes hs (by omega)]
    simp only [bs, if_neg n10]
    rcases in_or b 3 (by omega) with ho | ⟨l, hl, rfl⟩
    · rw [x_noLane ho, in_no ho (by omega)]
      exact ⟨-1, x, m, rfl, rfl, h⟩
    · rw [x_isLane hl, in_yes hl (by omega)]
      simp only [bs, if_neg n10]
      by_cases h40 : n ≤ 40
      · simp only [if_pos h40]
        by_cases h0 : 0 ≤ n
        · simp only [if_pos h0]
          obtain ⟨q, hq, rfl⟩ : ∃ q : Nat, q ≤ 40 ∧ n = nI q := by
            rcases in_or n 41 (by omega) with ho | ⟨q, hq, rfl⟩
            · rcases ho with g | g
              · exact absurd h0 (not_le_of_lt32 g)
              · have := ge_ti (n := 41) (by omega) g
                have g2 := Int32.le_iff_toInt_le.mp h40
                have g3 : (40 : Int32).toInt = 40 := by decide
                omega
            · exact ⟨q, by omega, rfl⟩
          have hib : ib (nI s) ([45, 47, 49, 51] : List Nat).length = true := ib_y (n := 4) hs (by omega)
          have hib4 : ib (nI s) 4 = true := ib_y hs (by omega)
          simp only [if_pos hib, if_pos hib4]
          rw [x_renew, cl_n (by omega), shb s hs, show (0 : Int32) = nI 0 from rfl, m_sheetL hs 40 0 1000 _ (by omega) (by omega), Nat.add_zero]
          simp only [bs]
          refine ⟨1, _, _, rfl, rfl, RR_s h (fun k hk => ?_) (fun k g1 g2 g3 => ?_) (fun k hk => ?_)⟩
          · rw [zr_cell (by omega), up2_cell (by omega), up2_cell (by omega)]
          · rw [zr_cell (by omega), up2_cell (by omega), up2_cell (by omega)]
          · rw [zr_cell (k' := 45 + 2 * k) (by omega), zr_cell (k' := 16) (by omega), zr_cell (k' := 17) (by omega)]
            by_cases e : k = s
            · subst e
              rw [up2_place (k := 45 + 2 * k) (j' := 2) (by omega), up2_same, up2_same, up2_cell (k' := 16) (by omega), up2_same, up2_same]
              refine ⟨rfl, rfl, ⟨q, hq, rfl⟩, Or.inr ⟨l, by omega, rfl⟩, Or.inr (fun i hi => ?_)⟩
              rw [zr_at, zr_at, if_pos (by omega), if_pos (by omega)]
            · have o := hS k hk
              rw [up2_cell (k' := 45 + 2 * k) (by omega), up2_cell (k' := 45 + 2 * k) (by omega), up2_cell (k' := 16) (by omega), up2_place (k := 16) e, up2_place (k := 17) e, up2_cell (k' := 17) (by omega)]
              refine ⟨o.1, o.2.1, o.2.2.1, o.2.2.2.1, o.2.2.2.2.elim Or.inl (fun g => Or.inr (fun i hi => ?_))⟩
              rw [zr_cell (k' := 45 + 2 * k + 1) (by omega), up2_cell (by omega), up2_cell (by omega), zr_at, if_neg (by omega), up2_cell (by omega), up2_cell (by omega)]
              exact g i hi
        · simp only [if_neg h0]
          exact ⟨-14, x, m, rfl, rfl, h⟩
      · simp only [if_neg h40]
        exact ⟨-1, x, m, rfl, rfl, h⟩
theorem bmod_sh (r h c : Nat) (hc : 0 < c) (hr : r < 2 * h) : Int.bmod ((r * c : Nat) : Int) (2 * h * c) / (c : Int) = Int.bmod (r : Int) (2 * h) := by
  have hlt : r * c < 2 * h * c := (Nat.mul_lt_mul_right hc).mpr hr
  have e1 : ((r * c : Nat) : Int) % ((2 * h * c : Nat) : Int) = ((r * c : Nat) : Int) := Int.emod_eq_of_lt (by omega) (by exact_mod_cast hlt)
  have e2 : (r : Int) % ((2 * h : Nat) : Int) = (r : Int) := Int.emod_eq_of_lt (by omega) (by exact_mod_cast hr)
  have e3 : (((2 * h * c : Nat) : Int) + 1) / 2 = ((h * c : Nat) : Int) := by
    have : 2 * h * c = 2 * (h * c) := by rw [Nat.mul_assoc]
    rw [this]
    generalize h * c = u
    omega
  have e4 : (((2 * h : Nat) : Int) + 1) / 2 = (h : Int) := by omega
  have hc' : (c : Int) ≠ 0 := by omega
  rw [Int.bmod_def, Int.bmod_def, e1, e2, e3, e4]
  by_cases q : r < h
  · have q1 : r * c < h * c := (Nat.mul_lt_mul_right hc).mpr q
    rw [if_pos (by exact_mod_cast q1), if_pos (by exact_mod_cast q)]
    rw [Int.natCast_mul]
    exact Int.mul_ediv_cancel _ hc'
  · have q1 : ¬ r * c < h * c := fun z => q ((Nat.mul_lt_mul_right hc).mp z)
    rw [if_neg (by intro z; exact q1 (by exact_mod_cast z)), if_neg (by intro z; exact q (by exact_mod_cast z))]
    have : ((r * c : Nat) : Int) - ((2 * h * c : Nat) : Int) = ((r : Int) - ((2 * h : Nat) : Int)) * (c : Int) := by
      rw [Int.natCast_mul, Int.natCast_mul, Int.sub_mul]
    rw [this]
    exact Int.mul_ediv_cancel _ hc'
theorem nar_sh (v : Int32) (k : Nat) (s : Int32) (hk : k = 8 ∨ k = 16) (hs : (s.toBitVec.smod 32).toNat = 32 - k) : ((v <<< s) >>> s).toInt = Int.bmod (v.toBitVec.toNat : Int) (2 ^ k) := by
  have e1 := pk_shl v s (32 - k) hs
  have e2 := pk_shr (v <<< s) s (32 - k) hs
  have e3 : (v <<< s).toInt = (v <<< s).toBitVec.toInt := rfl
  rw [e2, e3, BitVec.toInt_eq_toNat_bmod, e1]
  generalize v.toBitVec.toNat = n
  rw [Int.shiftRight_eq_div_pow]
  have hsplit : (2 : Nat) ^ 32 = 2 ^ k * 2 ^ (32 - k) := by rcases hk with rfl | rfl <;> rfl
  have hk2 : (2 : Nat) ^ k = 2 * 2 ^ (k - 1) := by rcases hk with rfl | rfl <;> rfl
  rw [hsplit, Nat.mul_mod_mul_right, hk2]
  have hpos : 0 < 2 ^ (32 - k) := Nat.pow_pos (by omega)
  have hr : n % (2 * 2 ^ (k - 1)) < 2 * 2 ^ (k - 1) := Nat.mod_lt _ (by have : 0 < 2 ^ (k - 1) := Nat.pow_pos (by omega); omega)
  rw [bmod_sh _ _ _ hpos hr]
  have : ((n % (2 * 2 ^ (k - 1)) : Nat) : Int) = (n : Int) % ((2 * 2 ^ (k - 1) : Nat) : Int) := by rw [Int.natCast_emod]
  rw [this]
  exact Int.emod_bmod _ _
theorem nar8 (v : Int32) : (v <<< ((24 : Int32) &&& 31)) >>> ((24 : Int32) &&& 31) = v.toInt8.toInt32 := by
  apply Int32.toInt_inj.mp
  rw [nar_sh v 8 _ (Or.inl rfl) (by decide), Int8.toInt_toInt32, Int32.toInt_toInt8, show v.toInt = v.toBitVec.toInt from rfl, BitVec.toInt_eq_toNat_bmod, Int.bmod_bmod_of_dvd (by decide)]
theorem nar16 (v : Int32) : (v <<< ((16 : Int32) &&& 31)) >>> ((16 : Int32) &&& 31) = v.toInt16.toInt32 := by
  apply Int32.toInt_inj.mp
  rw [nar_sh v 16 _ (Or.inr rfl) (by decide), Int16.toInt_toInt32, Int32.toInt_toInt16, show v.toInt = v.toBitVec.toInt from rfl, BitVec.toInt_eq_toNat_bmod, Int.bmod_bmod_of_dvd (by decide)]
theorem sim_lay : S_lay RR := fun x m h a i v => by
  have hS : RS x m := by
    obtain ⟨A, h1, h2, h3, h4, h5, h6, h7, h8, h9, h10, -⟩ := h
    exact h10
  unfold fn7_lay fn8_lay
  rw [show (3 : Int64) = (nI 4 - 1).toInt64 by decide]
  rcases in_or a 4 (by omega) with ho | ⟨s, hs, rfl⟩
  · rw [x_noSheet ho, in_no ho (by omega)]
    exact ⟨-1, x, m, rfl, rfl, h⟩
  · rw [x_isSheet hs, in_yes hs (by omega)]
    have hib : ib (nI s) ([45, 47, 49, 51] : List Nat).length = true := ib_y (n := 4) hs (by omega)
    have hib4 : ib (nI s) 4 = true := ib_y hs (by omega)
    simp only [bs, if_pos n10, if_pos hib, if_pos hib4]
    rw [cl_n (by omega), shb s hs]
    obtain ⟨o1, o2, ⟨n, hn, o3⟩, o4, o5⟩ := hS s hs
    unfold fn3_isNothing
    rw [o1, o3]
    by_cases e : m 16 s = -4
    · rw [if_neg (fun z => z e), if_neg (fun z => z e)]
      exact ⟨-11, x, m, rfl, rfl, h⟩
    · rw [if_pos e, if_pos e]
      simp only [bs, if_true]
      rw [o2, o3]
      have o5' := o5.resolve_left e
      obtain ⟨l, hl, o4'⟩ := o4.resolve_left e
      rcases in_or i n (by omega) with ho | ⟨j, hj, rfl⟩
      · rw [in_no ho (by omega)]
        refine ⟨-12, x, m, ?_, rfl, h⟩
        rcases out_lt ho with g | ⟨g1, g2⟩
        · rw [if_pos g]
        · rw [if_neg g1, if_neg]
          rw [Int32.lt_iff_toInt_lt]
          have := Int32.le_iff_toInt_le.mp g2
          omega
      · rw [in_yes hj (by omega), if_neg (nI_pos (by omega)), if_pos (nI_lt hj (by omega))]
        simp only [bs, if_pos n10]
        unfold fn3_put fn8_lay_99
        have hib40 : ib (nI j) 40 = true := ib_y (by omega) (by omega)
        have hib160 : ib ((40 : Int32) * nI s + nI j) 160 = true := by rw [e400]; exact ib_y (by omega) (by omega)
        simp only [if_pos hib40, if_pos hib160]
        rw [o1, o4', e400, cl_n (by omega), cl_n (by omega), nar8, nar16]
        have fin : ∀ u : Int32, RR (up2 x (45 + 2 * s + 1) j u) (up2 m 18 (40 * s + j) u) := by
          intro u
          refine RR_s h (fun k hk => up2_cell (by omega)) (fun k g1 g2 g3 => up2_cell (by omega)) (fun k hk => ?_)
          have o := hS k hk
          rw [up2_cell (k' := 45 + 2 * k) (by omega), up2_cell (k' := 16) (by omega), up2_cell (k' := 17) (by omega)]
          refine ⟨o.1, o.2.1, o.2.2.1, o.2.2.2.1, o.2.2.2.2.elim Or.inl (fun g => Or.inr (fun i hi => ?_))⟩
          by_cases ek : k = s
          · subst ek
            by_cases ei : i = j
            · subst ei
              rw [up2_same, up2_same]
            · rw [up2_place ei, up2_place (by omega)]
              exact g i hi
          · rw [up2_cell (by omega), up2_place (by omega)]
            exact g i hi
        by_cases e0 : nI l = 0
        · rw [if_pos e0, if_neg (fun z => z e0)]
          exact ⟨1, _, _, rfl, rfl, fin _⟩
        · rw [if_neg e0, if_pos e0]
          by_cases e1 : nI l = 1
          · rw [if_pos e1, if_neg (fun z => z e1)]
            exact ⟨1, _, _, rfl, rfl, fin _⟩
          · rw [if_neg e1, if_pos e1]
            exact ⟨1, _, _, rfl, rfl, fin _⟩
