/-! text: what is named is there -/
theorem x_55 {x : Mem} : fn5_checkNamed_55 x = some (0, up2 (up2 x 55 2 6) 55 3 (x 53 1)) := fail_x
theorem x_126 {x : Mem} : fn5_checkNamed_126 x = some (0, up2 (up2 x 55 2 6) 55 3 (x 53 1)) := fail_x
def gd1 (A : Abs) (c : Nat) : Prop := (c < A 0 1 → A 5 c < A 0 0) ∧ (A 0 1 ≤ c → A 7 c = 0)
theorem x_check2 {x : Mem} {A : Abs} (hA : okD A) (hT : TX x 12 A) (h19 : ∀ c, c < 6 → x 19 c = spc (A 7 c)) {k : Int32 → Mem → Option (Int32 × Mem)} : ∀ d c f, c + d = 6 → d < f → ((∀ i, c ≤ i → i < 6 → gd1 A i) → fn5_checkNamed_2 k f (nI c) x = k (nI 6) x) ∧ ((¬ ∀ i, c ≤ i → i < 6 → gd1 A i) → fn5_checkNamed_2 k f (nI c) x = some (0, up2 (up2 x 55 2 6) 55 3 (x 53 1))) := by
  obtain ⟨a1, a2, a3, a4, a5, a6, a7, a8, a9⟩ := hA
  obtain ⟨t1, t2, t3, t4, t5, t6, t7, t8⟩ := hT
  intro d
  induction d with
  | zero =>
    intro c f hc hf
    obtain ⟨f, rfl⟩ : ∃ g, f = g + 1 := ⟨f - 1, by omega⟩
    have e : c = 6 := by omega
    subst e
    refine ⟨fun _ => ?_, fun h => absurd (fun i h1 h2 => by omega) h⟩
    rw [fn5_checkNamed_2, if_pos (show (6 : Int32) ≤ nI 6 by decide)]
  | succ d ih =>
    intro c f hc hf
    obtain ⟨f, rfl⟩ : ∃ g, f = g + 1 := ⟨f - 1, by omega⟩
    obtain ⟨i1, i2⟩ := ih (c + 1) f (by omega) (by omega)
    rw [fn5_checkNamed_2, if_neg (show ¬ (6 : Int32) ≤ nI c from nI_ge (b := 6) (by omega) (by omega))]
    unfold fn5_checkNamed_40
    have all : gd1 A c → ((∀ i, c ≤ i → i < 6 → gd1 A i) ↔ ∀ i, c + 1 ≤ i → i < 6 → gd1 A i) := fun g => by
      constructor
      · intro h i h1 h2
        exact h i (by omega) h2
      · intro h i h1 h2
        by_cases e : i = c
        · rw [e]; exact g
        · exact h i (by omega) h2
    have next : gd1 A c → ((∀ i, c ≤ i → i < 6 → gd1 A i) → fn5_checkNamed_2 k f (nI (c + 1)) x = k (nI 6) x) ∧ ((¬ ∀ i, c ≤ i → i < 6 → gd1 A i) → fn5_checkNamed_2 k f (nI (c + 1)) x = some (0, up2 (up2 x 55 2 6) 55 3 (x 53 1))) := fun g => by
      rw [all g]
      exact ⟨i1, i2⟩
    by_cases e : c < A 0 1
    · have hib : ib (nI c) 6 = true := ib_y (by omega) (by omega)
      rw [x_hasCoin t2 e a2]
      simp only [bp]
      rw [if_neg n10, if_pos hib, cl_n (by omega), show x 17 c = nI (A 5 c) from (t7 c e).2.1]
      by_cases g : A 5 c < A 0 0
      · rw [x_hasOne t1 g a1]
        simp only [bp]
        rw [if_neg n10, if_pos n10, n1]
        exact next ⟨fun _ => g, fun z => by omega⟩
      · rw [x_noOne t1 (Or.inr (nI_le (by omega) (by have := (a7 c e).2.2.1; omega)))]
        simp only [bp]
        rw [if_pos trivial, x_55]
        exact ⟨fun h => absurd ((h c (by omega) (by omega)).1 e) g, fun _ => rfl⟩
    · rw [x_noCoin t2 (Or.inr (nI_le (by omega) (by omega)))]
      simp only [bp]
      rw [if_pos trivial, if_neg (show ¬ ¬ True from fun z => z trivial), x_spentD (by omega) (a8 c (by omega)) (h19 c (by omega))]
      simp only [bp]
      by_cases g : A 7 c = 0
      · rw [decide_eq_false (fun z => z g), bI_f, if_pos rfl, n1]
        exact next ⟨fun z => absurd z e, fun _ => g⟩
      · rw [decide_eq_true g, bI_t, if_neg n10, x_55]
        exact ⟨fun h => absurd ((h c (by omega) (by omega)).2 (by omega)) g, fun _ => rfl⟩
def gd2 (A : Abs) (k : Nat) : Prop := A 9 k < A 0 0 ∧ A 10 k < A 0 0
theorem x_check77 {x : Mem} {A : Abs} (hA : okD A) (hT : TX x 12 A) {k : Int32 → Mem → Option (Int32 × Mem)} : ∀ d c f, c + d = A 0 2 → d < f → ((∀ i, c ≤ i → i < A 0 2 → gd2 A i) → fn5_checkNamed_77 k f (nI c) x = k (nI (A 0 2)) x) ∧ ((¬ ∀ i, c ≤ i → i < A 0 2 → gd2 A i) → fn5_checkNamed_77 k f (nI c) x = some (0, up2 (up2 x 55 2 6) 55 3 (x 53 1))) := by
  obtain ⟨a1, a2, a3, a4, a5, a6, a7, a8, a9⟩ := hA
  obtain ⟨t1, t2, t3, t4, t5, t6, t7, t8⟩ := hT
  intro d
  induction d with
  | zero =>
    intro c f hc hf
    obtain ⟨f, rfl⟩ : ∃ g, f = g + 1 := ⟨f - 1, by omega⟩
    have e : c = A 0 2 := by omega
    refine ⟨fun _ => ?_, fun h => absurd (fun i h1 h2 => by omega) h⟩
    rw [fn5_checkNamed_77, t3, if_pos (nI_le (by omega) (by omega)), e]
  | succ d ih =>
    intro c f hc hf
    obtain ⟨f, rfl⟩ : ∃ g, f = g + 1 := ⟨f - 1, by omega⟩
    obtain ⟨i1, i2⟩ := ih (c + 1) f (by omega) (by omega)
    have hib : ib (nI c) 10 = true := ib_y (by omega) (by omega)
    obtain ⟨b1, b2, b3, b4⟩ := a9 c (by omega)
    rw [fn5_checkNamed_77, t3, if_neg (nI_ge (by omega) (by omega)), if_pos hib, cl_n (by omega), show x 21 c = nI (A 9 c) from (t8 c (by omega)).2.1]
    have all : gd2 A c → ((∀ i, c ≤ i → i < A 0 2 → gd2 A i) ↔ ∀ i, c + 1 ≤ i → i < A 0 2 → gd2 A i) := fun g => by
      constructor
      · intro h i h1 h2
        exact h i (by omega) h2
      · intro h i h1 h2
        by_cases e : i = c
        · rw [e]; exact g
        · exact h i (by omega) h2
    by_cases g : A 9 c < A 0 0
    · rw [x_hasOne t1 g a1]
      simp only [bp]
      rw [if_neg n10, if_pos hib, show x 22 c = nI (A 10 c) from (t8 c (by omega)).2.2]
      by_cases g2 : A 10 c < A 0 0
      · rw [x_hasOne t1 g2 a1]
        simp only [bp]
        rw [if_pos n10, n1, all ⟨g, g2⟩]
        exact ⟨i1, i2⟩
      · rw [x_noOne t1 (Or.inr (nI_le (by omega) (by omega)))]
        simp only [bp]
        rw [if_neg (show ¬ ¬ True from fun z => z trivial), x_126]
        exact ⟨fun h => absurd (h c (by omega) (by omega)).2 g2, fun _ => rfl⟩
    · rw [x_noOne t1 (Or.inr (nI_le (by omega) (by omega)))]
      simp only [bp]
      rw [if_pos trivial, x_126]
      exact ⟨fun h => absurd (h c (by omega) (by omega)).1 g, fun _ => rfl⟩
theorem x_check {x : Mem} {A : Abs} (hA : okD A) (hT : TX x 12 A) (h19 : ∀ c, c < 6 → x 19 c = spc (A 7 c)) : ((gdO A ∧ gdC A) → fn5_checkNamed x = some (1, x)) ∧ (¬ (gdO A ∧ gdC A) → fn5_checkNamed x = some (0, up2 (up2 x 55 2 6) 55 3 (x 53 1))) := by
  have h2 := x_check2 hA hT h19 (k := fun x1_2 w_2 => fn5_checkNamed_77 (fun x1_77 w_77 => some (1, w_77)) 1000 0 w_2) 6 0 1000 (by omega) (by omega)
  have hk := hA.2.2.1
  have h7 := x_check77 hA hT (k := fun x1_77 w_77 => some (1, w_77)) (A 0 2) 0 1000 (by omega) (by omega)
  have h2a : _ ∧ _ := h2
  have e : fn5_checkNamed x = fn5_checkNamed_2 (fun x1_2 w_2 => fn5_checkNamed_77 (fun x1_77 w_77 => some (1, w_77)) 1000 0 w_2) 1000 (nI 0) x := rfl
  rw [e]
  have iff : (gdO A ∧ gdC A) ↔ ((∀ i, 0 ≤ i → i < 6 → gd1 A i) ∧ ∀ i, 0 ≤ i → i < A 0 2 → gd2 A i) := by
    have hc := hA.2.1
    constructor
    · rintro ⟨⟨g1, g2⟩, g3⟩
      exact ⟨fun i _ h6 => ⟨fun z => g1 i z, fun z => g3 i z h6⟩, fun i _ h6 => g2 i h6⟩
    · rintro ⟨g1, g2⟩
      exact ⟨⟨fun c hcc => (g1 c (by omega) (by omega)).1 hcc, fun k hkk => g2 k (by omega) hkk⟩, fun c z1 z2 => (g1 c (by omega) z2).2 z1⟩
  by_cases p1 : ∀ i, 0 ≤ i → i < 6 → gd1 A i
  · rw [h2.1 p1]
    by_cases p2 : ∀ i, 0 ≤ i → i < A 0 2 → gd2 A i
    · refine ⟨fun _ => h7.1 p2, fun z => absurd (iff.mpr ⟨p1, p2⟩) z⟩
    · exact ⟨fun z => absurd (iff.mp z).2 p2, fun _ => h7.2 p2⟩
  · rw [h2.2 p1]
    exact ⟨fun z => absurd (iff.mp z).1 p1, fun _ => rfl⟩
/-! text: all lines -/
theorem FX_T {x y : Mem} {A : Abs} (h : TX x 12 A) (f : FX x y) : TX y 12 A := TX_keep h (fun i hi => f.1 _ (by omega))
/-- a text is read: a fault, or a town -/
def TO (r q : Option (Int32 × Mem)) (x m : Mem) : Prop := ∃ (x' m' : Mem) (L : Nat), ZX x x' ∧ ZM m m' ∧ q = fn8_text_69 (nI L) m' ∧ ((∃ e p, (1 ≤ e ∧ e ≤ 9) ∧ p ≤ 320 ∧ r = some (0, x') ∧ FA x' e p ∧ BR m' e p) ∨ (r = some (1, x') ∧ x' 55 1 = nI L ∧ x' 55 2 = 0 ∧ m' 0 16 = 0 ∧ ∃ A : Abs, TX x' 12 A ∧ okA A ∧ QM m' A))
theorem TO_z {r q : Option (Int32 × Mem)} {x m y z : Mem} (h : TO r q y z) (hx : ZX x y) (hm : ZM m z) : TO r q x m := by
  obtain ⟨x', m', L, a1, a2, a3⟩ := h
  exact ⟨x', m', L, ZX_tr hx a1, ZM_tr hm a2, a3⟩
theorem m_34B {m : Mem} {e p : Nat} {u : Int32} (h : BR m e p) (he : 1 ≤ e ∧ e ≤ 9) : fn8_text_34 u m = fn8_text_69 u m := by
  unfold fn8_text_34
  rw [if_pos (br_0 h he)]
theorem loop_j {t : Nat → Nat} {n : Nat} : ∀ d s L f g x m, s + d = n → d < f → d < g → L ≤ s → JT x m t n s → DD x m → x 55 1 = nI L → TO (fn5_readTape_39 (fun x1_39 w_39 => some (0, w_39)) f (nI L) x) (fn8_text_10 (fun x1_10 w_10 => fn8_text_34 x1_10 w_10) g (nI L) m) x m := by
  intro d
  induction d using Nat.strongRecOn with
  | ind d ih =>
  intro s L f g x m hs hf hg hL J D h1
  obtain ⟨f, rfl⟩ : ∃ z, f = z + 1 := ⟨f - 1, by omega⟩
  obtain ⟨g, rfl⟩ : ∃ z, g = z + 1 := ⟨g - 1, by omega⟩
  have hn := J.1.1
  obtain ⟨x1, a1, a2⟩ := tok_j J
  rw [fn5_readTape_39, J.1.2.1, if_neg (nI_nlt (by omega) (by omega)), fn8_text_10]
  rcases a2 with ⟨b1, b2, b3, b4, b5⟩ | ⟨b1, b2, S⟩
  · rw [b2, if_pos (br_0 b5 (by omega)), m_34B b5 (by omega)]
    exact ⟨x1, m, L, ZX_F a1, ZM_rf m, rfl, Or.inl ⟨1, _, by omega, b3, rfl, b4, b5⟩⟩
  · obtain ⟨sT, sM, ss, s7, s8, s9, s2, sK, so⟩ := id S
    have s16 : m 0 16 = 0 := (sK.2.2.2.1 so).1
    have e4 := kd_4 so
    have hkd := kd_le (t := t) (n := n) (s := s)
    have s20 : m 0 20 = nI (kdT t n s) := by rw [sK.2.2.1, if_neg e4]
    have D1 : DD x1 m := DD_F D a1 (FM_rf m)
    have h11 : x1 55 1 = nI L := by
      rw [a1.2 1 (by omega) (by omega) (by omega) (by omega) (by omega) (by omega)]
      exact h1
    rw [b2, if_neg (show ¬ ¬ m 0 16 = 0 from fun z => z s16), s20]
    simp only [bp]
    rw [if_pos n10, s7]
    by_cases ek : kdT t n s = 0
    · have ehd : hdT t n s = n := by
        by_cases z : hdT t n s = n
        · exact z
        · unfold kdT at ek
          rw [if_neg z] at ek
          have := ck_le (t (hdT t n s))
          omega
      rw [ek, if_neg (show ¬ ¬ nI 0 = 0 from fun z => z rfl), if_pos (show nI 0 = 0 from rfl)]
      obtain ⟨A, ho, hc, q1, q2, q3, q4, q5, q6, q7, q8, q9, q10⟩ := DD_A D1
      obtain ⟨c1, c2⟩ := x_check q2 q1 q10
      have hA0 := q2.1
      have hA1 := q2.2.1
      have l1 : (m 0 6 ≤ m 0 10) = (A 0 0 < ho) := by
        rw [q3.1, q6]
        apply propext
        rw [Int32.le_iff_toInt_le, ti_n (by omega), ti_p (by omega)]
        omega
      have l2 : (m 0 11 < m 0 7) = (hc ≤ A 0 1) := by
        rw [q3.2.1, q8]
        apply propext
        rw [Int32.lt_iff_toInt_lt, ti_n (by omega), ti_p (by omega)]
        omega
      by_cases good : gdO A ∧ gdC A
      · rw [c1 good, isb_1]
        unfold fn8_text_34
        rw [if_neg (show ¬ ¬ m 0 16 = 0 from fun z => z s16), if_neg (by rw [l1]; have := q4.mpr good.1; omega), if_pos (by rw [l2]; exact q5.mpr good.2)]
        exact ⟨x1, m, L, ZX_F a1, ZM_rf m, rfl, Or.inr ⟨rfl, h11, s2, s16, A, q1, okA_of q2 good.1, q3⟩⟩
      · rw [c2 good, isb_0]
        have hB : BR (up2 (up2 m 0 16 6) 0 17 (m 0 19)) 6 n := by
          have := br_up (e := 6) sK.2.1
          rw [ehd] at this
          exact this
        have h34 : fn8_text_34 (nI L) m = fn8_text_69 (nI L) (up2 (up2 m 0 16 6) 0 17 (m 0 19)) := by
          unfold fn8_text_34 fn8_text_63
          rw [if_neg (show ¬ ¬ m 0 16 = 0 from fun z => z s16), m_fails s16]
          simp only [bp]
          by_cases z1 : A 0 0 < ho
          · rw [if_pos (by rw [l1]; exact z1)]
          · rw [if_neg (by rw [l1]; exact z1), if_neg]
            rw [l2]
            intro z2
            exact good ⟨q4.mp (by omega), q5.mp z2⟩
        rw [h34]
        exact ⟨_, _, L, ZX_u (ZX_u (ZX_F a1) (by omega)) (by omega), ZM_u (ZM_u (ZM_rf m) (by omega)) (by omega), rfl, Or.inl ⟨6, n, by omega, by omega, rfl, FA_up rfl sT.2.1, hB⟩⟩
    · have ne : ¬ nI (kdT t n s) = 0 := nI_ne0 (by omega) (by omega)
      rw [if_pos ne, if_neg ne]
      obtain ⟨x2, m2, c1, c2, c3, c4⟩ := line_j S ek D1
      rw [c3]
      simp only [bp]
      rcases c4 with ⟨e, p, he, hp, w1, w2, w3⟩ | ⟨s', w0, w1, w2, w3, w4⟩
      · rw [w1, n1]
        obtain ⟨g, rfl⟩ : ∃ z, g = z + 1 := ⟨g - 1, by
          have := bh_lt ss ek
          omega⟩
        rw [fn8_text_10, if_pos (br_0 w3 he), m_34B w3 he]
        exact ⟨x2, m2, L + 1, ZX_tr (ZX_F a1) c1, c2, rfl, Or.inl ⟨e, p, he, hp, rfl, w2, w3⟩⟩
      · rw [w1, n1]
        simp only [bp]
        rw [if_pos n10, w4, h11, n1]
        have hle := w2.2.2.1
        refine TO_z (ih (n - s') (by omega) s' (L + 1) f g (up2 x2 55 1 (nI (L + 1))) m2 (by omega) (by omega) (by omega) (by omega) (JT_x w2 (by omega)) ?_ up2_same) (ZX_u (ZX_tr (ZX_F a1) c1) (by omega)) c2
        obtain ⟨lw, fe, to, np, nc, nk, ho, sp, hc, d1, d2, d3, d4, d5, d6⟩ := w3
        have X : ∀ k, k ≠ 55 → up2 x2 55 1 (nI (L + 1)) k = x2 k := fun k hk => up2_cell hk
        exact ⟨lw, fe, to, np, nc, nk, ho, sp, hc, dS_k d1 (by rw [X 12 (by omega)]) (by rw [X 12 (by omega)]) (up2_place (by omega)) (up2_place (by omega)) rfl rfl rfl, dP_k d2 (by rw [X 12 (by omega)]) (X _ (by omega)) (X _ (by omega)) (X _ (by omega)) rfl rfl, dC_k d3 (by rw [X 12 (by omega)]) (X _ (by omega)) (X _ (by omega)) (X _ (by omega)) rfl (fun _ _ => rfl), dT_k d4 (by rw [X 12 (by omega)]) (X _ (by omega)) (X _ (by omega)) (X _ (by omega)) rfl (fun _ _ _ => rfl), dU_k d5 (X _ (by omega)) rfl rfl rfl, dH_k d6 (X _ (by omega)) (X _ (by omega)) (X _ (by omega)) rfl⟩
