/-! raid -/
def gr (A : Abs) (p : Nat) : Nat → Nat
  | 0 => 0
  | c + 1 => if A 5 c = p ∧ A 7 c = 0 ∧ gr A p c < A 4 c then A 4 c else gr A p c
theorem gr_le {A : Abs} (hA : okA A) (p : Nat) : ∀ n, n ≤ A 0 1 → gr A p n ≤ 3 := by
  intro n
  induction n with
  | zero => intro _; simp [gr]
  | succ n ih =>
    intro hn
    have := ih (by omega)
    have := (hA.2.2.2.2.2.2.1 n (by omega)).2.1
    rw [gr]
    split <;> omega
def rd (A : Abs) (h p : Nat) : Nat := if A 1 p = 4 then 0 else if sil A h p = true then 0 else gr A p (A 0 1)
theorem rd_le {A : Abs} (hA : okA A) (h p : Nat) : rd A h p ≤ 3 := by
  have := gr_le hA p (A 0 1) (Nat.le_refl _)
  unfold rd
  split
  · omega
  · split <;> omega
theorem x_grL {x : Mem} {A : Abs} (hA : okA A) (hT : TX x 1 A) {p : Nat} (hp : p < A 0 0) {k : Int32 → Int32 → Mem → Option (Int32 × Mem)} : ∀ d c f, c + d = A 0 1 → d < f → fn6_greatestUnspent_4 1 (nI p) k f (nI (gr A p c)) (nI c) x = k (nI (gr A p (A 0 1))) (nI (A 0 1)) x := by
  have hnc := hA.2.1
  have hnp := hA.1
  intro d
  induction d with
  | zero =>
    intro c f hc hf
    obtain ⟨f, rfl⟩ : ∃ g, f = g + 1 := ⟨f - 1, by omega⟩
    have e : c = A 0 1 := by omega
    rw [fn6_greatestUnspent_4, hT.2.1, e, if_pos (nI_le (by omega) (by omega))]
  | succ d ih =>
    intro c f hc hf
    obtain ⟨f, rfl⟩ : ∃ g, f = g + 1 := ⟨f - 1, by omega⟩
    have hcc : c < A 0 1 := by omega
    have key := ih (c + 1) f (by omega) (by omega)
    obtain ⟨w1, w2, ho, -, h12⟩ := hA.2.2.2.2.2.2.1 c hcc
    have hg := gr_le hA p c (by omega)
    have hib : ib (nI c) 6 = true := ib_y (by omega) (by omega)
    rw [fn6_greatestUnspent_4, hT.2.1, if_neg (nI_ge (by omega) (by omega)), if_pos hib, cl_n (by omega), (hT.2.2.2.2.2.2.1 c hcc).2.1, show nI c + 1 = nI (c + 1) from nI_add c 1, x_isSpent hA hT hcc]
    simp only [bs, if_pos hib]
    rw [(hT.2.2.2.2.2.2.1 c hcc).1]
    rw [gr] at key
    by_cases e : A 5 c = p
    · rw [if_neg (show ¬ ¬ nI (A 5 c) = nI p by rw [e]; exact fun z => z rfl)]
      by_cases e2 : A 7 c = 0
      · rw [if_pos e2, if_neg (fun z => z rfl)]
        by_cases e3 : gr A p c < A 4 c
        · rw [if_pos (nI_lt e3 (by omega))]
          rw [if_pos ⟨e, e2, e3⟩] at key
          exact key
        · rw [if_neg (nI_nlt (by omega) (by omega))]
          rw [if_neg (by omega)] at key
          exact key
      · rw [if_neg e2, if_pos n10]
        rw [if_neg (by omega)] at key
        exact key
    · rw [if_pos (show ¬ nI (A 5 c) = nI p by rw [eq_n (by omega) (by omega)]; exact e)]
      rw [if_neg (by omega)] at key
      exact key
theorem x_gr {x : Mem} {A : Abs} (hA : okA A) (hT : TX x 1 A) {p : Nat} (hp : p < A 0 0) : fn6_greatestUnspent 1 (nI p) x = some (nI (gr A p (A 0 1)), x) := by
  have hnc := hA.2.1
  exact x_grL hA hT hp (A 0 1) 0 1000 (by omega) (by omega)
theorem x_rdL {x : Mem} {A : Abs} (hA : okA A) (hT : TX x 1 A) {h : Nat} {k : Int32 → Int32 → Mem → Option (Int32 × Mem)} : ∀ d c f, c + d = A 0 0 → d < f → fn6_raidedIn_11 1 (nI (msk (sil A h) (A 0 0))) k f (nI (sumF (rd A h) c)) (nI c) x = k (nI (sumF (rd A h) (A 0 0))) (nI (A 0 0)) x := by
  have hnp := hA.1
  intro d
  induction d with
  | zero =>
    intro c f hc hf
    obtain ⟨f, rfl⟩ : ∃ g, f = g + 1 := ⟨f - 1, by omega⟩
    have e : c = A 0 0 := by omega
    rw [fn6_raidedIn_11, hT.1, e, if_pos (nI_le (by omega) (by omega))]
  | succ d ih =>
    intro c f hc hf
    obtain ⟨f, rfl⟩ : ∃ g, f = g + 1 := ⟨f - 1, by omega⟩
    have hcc : c < A 0 0 := by omega
    have key := ih (c + 1) f (by omega) (by omega)
    have hk := (hA.2.2.2.2.2.1 c hcc).1
    rw [fn6_raidedIn_11, hT.1, if_neg (nI_ge (by omega) (by omega)), if_pos (ib_y (by omega) (by omega)), cl_n (by omega), (hT.2.2.2.2.2.1 c hcc).1, show nI c + 1 = nI (c + 1) from nI_add c 1, x_hasBit (msk_lt20 _ (by omega)) (by omega), msk_bit, decide_eq_true hcc, Bool.true_and]
    simp only [bs]
    rw [x_gr hA hT hcc]
    simp only [bs]
    rw [nI_add]
    rw [sumF] at key
    by_cases e : A 1 c = 4
    · rw [if_pos (show nI (A 1 c) = 4 by rw [e]; rfl)]
      rw [show rd A h c = 0 by rw [rd, if_pos e]] at key
      exact key
    · rw [if_neg (show ¬ nI (A 1 c) = 4 by rw [show (4 : Int32) = nI 4 from rfl, eq_n (by omega) (by omega)]; exact e)]
      cases e2 : sil A h c
      · rw [bI_f, if_neg (fun z => z rfl)]
        rw [show rd A h c = gr A c (A 0 1) by rw [rd, if_neg e, e2]; rfl] at key
        exact key
      · rw [bI_t, if_pos n10]
        rw [show rd A h c = 0 by rw [rd, if_neg e, if_pos e2]] at key
        exact key
theorem bind_eq {α β : Type} {o : Option α} {a : α} {f : α → Option β} {r : Option β} (h : o = some a) (h2 : f a = r) : o.bind f = r := by
  rw [h]
  exact h2
theorem x_raidedIn {x : Mem} {A : Abs} (hA : okA A) (hT : TX x 1 A) {h : Nat} (hh : h < 12) : fn6_raidedIn 1 (nI h) x = some (nI (sumF (rd A h) (A 0 0)), x) := by
  have hnp := hA.1
  exact bind_eq (x_silentM hA hT (by omega)) (x_rdL hA hT (A 0 0) 0 1000 (by omega) (by omega))
theorem m_grL {m : Mem} {A : Abs} (hA : okA A) (hP : PM m A) (hG : GM m 0 A) {p : Nat} {u v : Int32} (hp : p < A 0 0) {k : Int32 → Int32 → Mem → Option (Int32 × Mem)} : ∀ d c f, c + d = A 0 1 → d < f → fn8_raided_18 u v (nI p) k f (nI (gr A p c)) (nI c) m = k (nI (gr A p (A 0 1))) (nI (A 0 1)) m := by
  have hnc := hA.2.1
  have hnp := hA.1
  intro d
  induction d with
  | zero =>
    intro c f hc hf
    obtain ⟨f, rfl⟩ : ∃ g, f = g + 1 := ⟨f - 1, by omega⟩
    have e : c = A 0 1 := by omega
    rw [fn8_raided_18, hP.2.1, e, if_pos (nI_le (by omega) (by omega))]
  | succ d ih =>
    intro c f hc hf
    obtain ⟨f, rfl⟩ : ∃ g, f = g + 1 := ⟨f - 1, by omega⟩
    have hcc : c < A 0 1 := by omega
    have key := ih (c + 1) f (by omega) (by omega)
    obtain ⟨w1, w2, ho, -, h12⟩ := hA.2.2.2.2.2.2.1 c hcc
    have hg := gr_le hA p c (by omega)
    have hib : ib (nI (4 * c)) 228 = true := ib_y (by omega) (by omega)
    rw [fn8_raided_18, hP.2.1, if_neg (nI_ge (by omega) (by omega)), m_ownerOf hA hG hcc]
    simp only [bs]
    rw [show nI c + 1 = nI (c + 1) from nI_add c 1, m_isSpent hA hG hcc]
    simp only [bs]
    rw [e40, cl_n (by omega), (GM_get hG hcc).1]
    simp only [if_pos hib]
    rw [gr] at key
    by_cases e : A 5 c = p
    · rw [if_neg (show ¬ ¬ nI (A 5 c) = nI p by rw [e]; exact fun z => z rfl)]
      by_cases e2 : A 7 c = 0
      · rw [if_pos e2, if_neg (fun z => z rfl)]
        by_cases e3 : gr A p c < A 4 c
        · rw [if_neg (nI_ge e3 (by omega))]
          rw [if_pos ⟨e, e2, e3⟩] at key
          exact key
        · rw [if_pos (nI_le (by omega) (by omega))]
          rw [if_neg (by omega)] at key
          exact key
      · rw [if_neg e2, if_pos n10]
        rw [if_neg (by omega)] at key
        exact key
    · rw [if_pos (show ¬ nI (A 5 c) = nI p by rw [eq_n (by omega) (by omega)]; exact e)]
      rw [if_neg (by omega)] at key
      exact key
theorem m_rdL {m : Mem} {A : Abs} (hA : okA A) (hP : PM m A) (hG : GM m 0 A) {h : Nat} (hh : h < 12) {k : Int32 → Int32 → Mem → Option (Int32 × Mem)} : ∀ d c f, c + d = A 0 0 → d < f → fn8_raided_4 (nI h) k f (nI (sumF (rd A h) c)) (nI c) m = k (nI (sumF (rd A h) (A 0 0))) (nI (A 0 0)) m := by
  have hnp := hA.1
  have hnc := hA.2.1
  intro d
  induction d with
  | zero =>
    intro c f hc hf
    obtain ⟨f, rfl⟩ : ∃ g, f = g + 1 := ⟨f - 1, by omega⟩
    have e : c = A 0 0 := by omega
    rw [fn8_raided_4, hP.1, e, if_pos (nI_le (by omega) (by omega))]
  | succ d ih =>
    intro c f hc hf
    obtain ⟨f, rfl⟩ : ∃ g, f = g + 1 := ⟨f - 1, by omega⟩
    have hcc : c < A 0 0 := by omega
    have key := ih (c + 1) f (by omega) (by omega)
    have hk := (hA.2.2.2.2.2.1 c hcc).1
    rw [fn8_raided_4, hP.1, if_neg (nI_ge (by omega) (by omega))]
    refine (m_grL hA hP hG hcc (A 0 1) 0 1000 (by omega) (by omega)).trans ?_
    simp only [fn8_raided_101]
    rw [m_kindOf hA hP hcc]
    simp only [bs]
    rw [m_isSilent hA hP hG hcc hh]
    simp only [bs]
    rw [show nI c + 1 = nI (c + 1) from nI_add c 1, nI_add, show nI (sumF (rd A h) c) + 0 = nI (sumF (rd A h) c) by simp]
    rw [sumF] at key
    by_cases e : A 1 c = 4
    · rw [if_pos (show nI (A 1 c) = 4 by rw [e]; rfl)]
      rw [show rd A h c = 0 by rw [rd, if_pos e]] at key
      exact key
    · rw [if_neg (show ¬ nI (A 1 c) = 4 by rw [show (4 : Int32) = nI 4 from rfl, eq_n (by omega) (by omega)]; exact e)]
      cases e2 : sil A h c
      · rw [bI_f, if_pos rfl]
        rw [show rd A h c = gr A c (A 0 1) by rw [rd, if_neg e, e2]; rfl] at key
        exact key
      · rw [bI_t, if_neg n10]
        rw [show rd A h c = 0 by rw [rd, if_neg e, if_pos e2]] at key
        exact key
theorem m_raided {m : Mem} {A : Abs} (hA : okA A) (hP : PM m A) (hG : GM m 0 A) {h : Nat} (hh : h < 12) : fn8_raided (nI h) m = some (nI (sumF (rd A h) (A 0 0)), m) := by
  have hnp := hA.1
  exact m_rdL hA hP hG hh (A 0 0) 0 1000 (by omega) (by omega)
def bst (v : Nat → Nat) : Nat → Int32 × Int32
  | 0 => (-4, 0)
  | h + 1 => if nI (v h) ≤ (bst v h).1 then bst v h else (nI (v h), nI h)
theorem x_raidL {x : Mem} {A : Abs} (hA : okA A) (hT : TX x 1 A) {a : Int32} {k : Int32 → Int32 → Int32 → Mem → Option (Int32 × Mem)} : ∀ d c f, c + d = 12 → d < f → fn7_raid_47 a k f (bst (fun h => sumF (rd A h) (A 0 0)) c).1 (bst (fun h => sumF (rd A h) (A 0 0)) c).2 (nI c) x = k (bst (fun h => sumF (rd A h) (A 0 0)) 12).1 (bst (fun h => sumF (rd A h) (A 0 0)) 12).2 (nI 12) x := by
  intro d
  induction d with
  | zero =>
    intro c f hc hf
    obtain ⟨f, rfl⟩ : ∃ g, f = g + 1 := ⟨f - 1, by omega⟩
    have e : c = 12 := by omega
    rw [fn7_raid_47, e, if_pos (by decide)]
  | succ d ih =>
    intro c f hc hf
    obtain ⟨f, rfl⟩ : ∃ g, f = g + 1 := ⟨f - 1, by omega⟩
    have key := ih (c + 1) f (by omega) (by omega)
    rw [fn7_raid_47, if_neg (show ¬ (12 : Int32) ≤ nI c from nI_ge (b := 12) (by omega) (by omega)), x_raidedIn hA hT (by omega)]
    simp only [bs]
    rw [show nI c + 1 = nI (c + 1) from nI_add c 1]
    rw [bst] at key
    by_cases e : nI (sumF (rd A c) (A 0 0)) ≤ (bst (fun h => sumF (rd A h) (A 0 0)) c).1
    · rw [if_pos e]
      rw [if_pos e] at key
      exact key
    · rw [if_neg e]
      rw [if_neg e] at key
      exact key
theorem m_raidL {m : Mem} {A : Abs} (hA : okA A) (hP : PM m A) (hG : GM m 0 A) {a : Int32} {k : Int32 → Int32 → Int32 → Mem → Option (Int32 × Mem)} : ∀ d c f, c + d = 12 → d < f → fn8_raid_48 a k f (bst (fun h => sumF (rd A h) (A 0 0)) c).1 (bst (fun h => sumF (rd A h) (A 0 0)) c).2 (nI c) m = k (bst (fun h => sumF (rd A h) (A 0 0)) 12).1 (bst (fun h => sumF (rd A h) (A 0 0)) 12).2 (nI 12) m := by
  intro d
  induction d with
  | zero =>
    intro c f hc hf
    obtain ⟨f, rfl⟩ : ∃ g, f = g + 1 := ⟨f - 1, by omega⟩
    have e : c = 12 := by omega
    rw [fn8_raid_48, e, if_pos (by decide)]
  | succ d ih =>
    intro c f hc hf
    obtain ⟨f, rfl⟩ : ∃ g, f = g + 1 := ⟨f - 1, by omega⟩
    have key := ih (c + 1) f (by omega) (by omega)
    rw [fn8_raid_48, if_neg (show ¬ (12 : Int32) ≤ nI c from nI_ge (b := 12) (by omega) (by omega)), m_raided hA hP hG (by omega)]
    simp only [bs, fn8_raid_75]
    rw [show nI c + 1 = nI (c + 1) from nI_add c 1]
    rw [bst] at key
    by_cases e : nI (sumF (rd A c) (A 0 0)) ≤ (bst (fun h => sumF (rd A h) (A 0 0)) c).1
    · rw [if_pos e, if_pos e]
      rw [if_pos e] at key
      exact key
    · rw [if_neg e, if_neg e]
      rw [if_neg e] at key
      exact key
theorem n10s (j : Nat) : nI (j + 10) - 10 = nI j := by
  have := sub_n (a := j + 10) (b := 10) (by omega)
  rw [Nat.add_sub_cancel] at this
  exact this
theorem sim_raid : S_raid RR := fun x m h a => by
  obtain ⟨A, hA, hT, hP, hG, hO⟩ := (RR_iff x m).mp h
  unfold fn7_raid fn8_raid fn7_raid_28 fn7_raid_39 fn8_raid_26
  have ex := x_raidL hA hT (a := a) (k := fun x2_47 x3_47 x4_47 w_47 => (if ¬ a = 0 then some (x3_47, w_47) else some (x2_47, w_47))) 12 0 1000 (by omega) (by omega)
  have em := m_raidL hA hP hG (a := a) (k := fun x2_48 x3_48 x4_48 w_48 => (if ¬ a = 0 then some (x3_48, w_48) else some (x2_48, w_48))) 12 0 1000 (by omega) (by omega)
  change fn7_raid_47 _ _ _ (-4) 0 0 _ = _ at ex
  change fn8_raid_48 _ _ _ (-4) 0 0 _ = _ at em
  rw [in_val]
  simp only [bs]
  rw [in_val]
  simp only [bs]
  rw [ex, em, ti_l]
  have c0 : (0 : Int64).toInt = 0 := by decide
  have c1 : (1 : Int64).toInt = 1 := by decide
  have c10 : (10 : Int64).toInt = 10 := by decide
  have c21 : (21 : Int64).toInt = 21 := by decide
  rw [c0, c1, c10, c21]
  have big : out a 22 → ∃ r x' m', (if a < 10 then if a = 0 then if ¬a = 0 then some ((bst (fun h => sumF (rd A h) (A 0 0)) 12).2, x) else some ((bst (fun h => sumF (rd A h) (A 0 0)) 12).1, x) else if a = 1 then if ¬a = 0 then some ((bst (fun h => sumF (rd A h) (A 0 0)) 12).2, x) else some ((bst (fun h => sumF (rd A h) (A 0 0)) 12).1, x) else some (-1, x) else (fn7_isHour (a - 10) x).bind (fun q10 => if q10.1 = 0 then if a = 0 then fn7_raid_47 a (fun x2_47 x3_47 x4_47 w_47 => (if ¬ a = 0 then some (x3_47, w_47) else some (x2_47, w_47))) 1000 (-4) 0 0 q10.2 else if a = 1 then fn7_raid_47 a (fun x2_47 x3_47 x4_47 w_47 => (if ¬ a = 0 then some (x3_47, w_47) else some (x2_47, w_47))) 1000 (-4) 0 0 q10.2 else some (-1, q10.2) else (fn6_raidedIn 1 (a - 10) q10.2).bind fun q24 => some (q24.1, q24.2))) = some (r, x') ∧ some ((-1 : Int32), m) = some (r, m') ∧ RR x' m' := by
    intro ho
    have ne := ne_out ho (by omega)
    rw [if_neg (show ¬ a = 0 from ne 0 (by omega)), if_neg (show ¬ a = 1 from ne 1 (by omega))]
    rcases ho with ho | ho
    · rw [if_pos]
      · exact ⟨-1, x, m, rfl, rfl, h⟩
      · rw [Int32.lt_iff_toInt_lt] at ho ⊢
        have g0 : (0 : Int32).toInt = 0 := by decide
        have g10 : (10 : Int32).toInt = 10 := by decide
        omega
    · have h10 : ¬ a < 10 := by
        rw [Int32.le_iff_toInt_le, ti_n (by omega)] at ho
        rw [Int32.lt_iff_toInt_lt]
        have g10 : (10 : Int32).toInt = 10 := by decide
        omega
      rw [if_neg h10, x_noHour]
      · simp only [bs, if_true, if_neg (show ¬ a = 0 from ne 0 (by omega)), if_neg (show ¬ a = 1 from ne 1 (by omega))]
        exact ⟨-1, x, m, rfl, rfl, h⟩
      · obtain ⟨j, hj, rfl⟩ : ∃ j : Nat, j < 2 ^ 31 ∧ a = nI j := by
          refine nI_of (fun q => h10 ?_)
          rw [Int32.lt_iff_toInt_lt] at q ⊢
          have g0 : (0 : Int32).toInt = 0 := by decide
          have g10 : (10 : Int32).toInt = 10 := by decide
          omega
        have hj22 : 22 ≤ j := by
          rw [Int32.le_iff_toInt_le, ti_n (by omega), nI_toInt hj] at ho
          omega
        obtain ⟨i, rfl⟩ : ∃ i, j = i + 10 := ⟨j - 10, by omega⟩
        rw [n10s]
        right
        rw [Int32.le_iff_toInt_le, ti_n (by omega), nI_toInt (by omega)]
        omega
  have nn0 : ¬ ¬ (0 : Int32) = 0 := fun z => z rfl
  rcases in_or a 22 (by omega) with ho | ⟨j, hj, rfl⟩
  · have hno : ¬ (0 ≤ a.toInt ∧ a.toInt ≤ 21) := by
      rcases ho with ho | ho
      · have := neg_ti ho
        omega
      · have := ge_ti (by omega) ho
        omega
    have h1 : ¬ (0 ≤ a.toInt ∧ a.toInt ≤ 1) := by omega
    have h2 : ¬ (10 ≤ a.toInt ∧ a.toInt ≤ 21) := by omega
    simp only [if_neg h1, if_neg h2, if_neg nn0]
    exact big ho
  · rw [ti_n (by omega)]
    by_cases e : j < 10
    · have h2 : ¬ (10 ≤ (j : Int) ∧ (j : Int) ≤ 21) := by omega
      have l10 : nI j < 10 := nI_lt (b := 10) e (by omega)
      by_cases e1 : j ≤ 1
      · have h1 : (0 ≤ (j : Int) ∧ (j : Int) ≤ 1) := by omega
        have l1 : nI j ≤ 1 := nI_le (b := 1) e1 (by omega)
        simp only [if_pos h1, if_neg h2, if_pos n10, if_pos l1, if_pos l10]
        rcases (show j = 0 ∨ j = 1 by omega) with q | q <;> subst q
        · exact ⟨_, x, m, rfl, rfl, h⟩
        · exact ⟨_, x, m, rfl, rfl, h⟩
      · have h1 : ¬ (0 ≤ (j : Int) ∧ (j : Int) ≤ 1) := by omega
        have e0 : ¬ nI j = 0 := by rw [show (0 : Int32) = nI 0 from rfl, eq_n (by omega) (by omega)]; omega
        have e1' : ¬ nI j = 1 := by rw [show (1 : Int32) = nI 1 from rfl, eq_n (by omega) (by omega)]; omega
        simp only [if_neg h1, if_neg h2, if_neg nn0, if_neg e0, if_neg e1', if_pos l10]
        exact ⟨-1, x, m, rfl, rfl, h⟩
    · obtain ⟨i, rfl⟩ : ∃ i, j = i + 10 := ⟨j - 10, by omega⟩
      have h1 : ¬ (0 ≤ ((i + 10 : Nat) : Int) ∧ ((i + 10 : Nat) : Int) ≤ 1) := by omega
      have h2 : (10 ≤ ((i + 10 : Nat) : Int) ∧ ((i + 10 : Nat) : Int) ≤ 21) := by omega
      have l10 : ¬ nI (i + 10) < 10 := nI_nlt (a := i + 10) (b := 10) (by omega) (by omega)
      have l1 : ¬ nI (i + 10) ≤ 1 := nI_ge (a := 1) (b := i + 10) (by omega) (by omega)
      simp only [if_neg h1, if_pos h2, if_neg nn0, if_pos n10, if_neg l10, if_neg l1]
      rw [n10s, x_hour (by omega), m_raided hA hP hG (by omega)]
      simp only [bs, if_neg n10]
      rw [x_raidedIn hA hT (by omega)]
      exact ⟨_, x, m, rfl, rfl, h⟩
