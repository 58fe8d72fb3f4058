/-! text: a line -/
def fnM (k : Nat) : Mem → Option (Int32 × Mem) := if k = 2 then fn8_readOne else if k = 3 then fn8_readCoin else if k = 5 then fn8_readTalk else fn8_readMore (nI k)
theorem m_line {m : Mem} {k : Nat} (hk : k < 6) (h : fn8_nameHere m = some (nI k, m)) : fn8_readLine m = lineM k (fnM k) m := by
  have c2 : (nI k = 2) = (k = 2) := by rw [show (2 : Int32) = nI 2 from rfl, eq_n (by omega) (by omega)]
  have c3 : (nI k = 3) = (k = 3) := by rw [show (3 : Int32) = nI 3 from rfl, eq_n (by omega) (by omega)]
  have c5 : (nI k = 5) = (k = 5) := by rw [show (5 : Int32) = nI 5 from rfl, eq_n (by omega) (by omega)]
  unfold fn8_readLine lineM
  rw [h]
  simp only [bp]
  rw [show (5 : Int64) = (nI 6 - 1).toInt64 by decide, in_yes hk (by omega)]
  simp only [bp]
  rw [if_pos n10]
  simp only [c2, c3, c5]
  unfold fnM
  by_cases e2 : k = 2
  · simp [e2]
  · by_cases e3 : k = 3
    · simp [e3]
    · by_cases e5 : k = 5
      · simp [e5]
      · simp [e2, e3, e5]
theorem isb_r {r : Option (Int32 × Mem)} {x' : Mem} (h : r = some (0, x') ∨ r = some (1, x')) : r.bind (fun q => (if isb q.1 = true then some (q.1, q.2) else none)) = r := by
  rcases h with h | h
  · rw [h, isb_0]
  · rw [h, isb_1]
theorem LR_b {r q : Option (Int32 × Mem)} {x m : Mem} {t : Nat → Nat} {n s : Nat} (h : LR r q x m t n s) : LR (r.bind (fun q => (if isb q.1 = true then some (q.1, q.2) else none))) q x m t n s := by
  have h0 := h
  obtain ⟨x', m', a1, a2, a3, a4⟩ := h0
  have e : r = some (0, x') ∨ r = some (1, x') := by
    rcases a4 with ⟨e, p, -, -, b, -⟩ | ⟨s', -, b, -⟩
    · exact Or.inl b
    · exact Or.inr b
  rw [isb_r e]
  exact h
theorem line_j {x m : Mem} {t : Nat → Nat} {n s : Nat} (S : JS x m t n s) (hk : kdT t n s ≠ 0) (D : DD x m) : LR (fn5_readLine x) (fn8_readLine m) x m t n s := by
  obtain ⟨hT, hM, hs, h7, h8, h9, h2, hK, eo⟩ := id S
  have hnm := nmk_le (t := t) (n := n) (s := s)
  have hd := hd_in (t := t) hs
  have hn := hT.1
  have hname := m_nameHere hM hs hK
  have h16 : m 0 16 = 0 := (hK.2.2.2.1 eo).1
  unfold fn5_readLine
  rw [x_isName (c := 0) hT hs h7 h8 h9 (by omega), show ixs 0 = 0 from rfl]
  simp only [bp]
  rw [x_isName (c := 1) hT hs h7 h8 h9 (by omega), show ixs 1 = 1 from rfl]
  simp only [bp]
  rw [x_isName (c := 2) hT hs h7 h8 h9 (by omega), show ixs 2 = 2 from rfl]
  simp only [bp]
  rw [x_isName (c := 8) hT hs h7 h8 h9 (by omega), show ixs 8 = 3 from rfl]
  simp only [bp]
  rw [x_isName (c := 10) hT hs h7 h8 h9 (by omega), show ixs 10 = 4 from rfl]
  simp only [bp]
  rw [x_isName (c := 11) hT hs h7 h8 h9 (by omega), show ixs 11 = 5 from rfl]
  simp only [bp]
  generalize nmk t n s = k at *
  by_cases k6 : k < 6
  · rw [if_pos (by omega)] at hname
    rw [m_line k6 hname]
    unfold fnM
    by_cases k0 : k = 0
    · subst k0
      rw [decide_eq_true rfl, bI_t, if_neg n10, if_neg (by omega), if_neg (by omega), if_neg (by omega)]
      exact LR_b (line_law S hk D)
    · rw [decide_eq_false k0, bI_f, if_pos rfl]
      by_cases k1 : k = 1
      · subst k1
        rw [decide_eq_true rfl, bI_t, if_neg n10, if_neg (by omega), if_neg (by omega), if_neg (by omega)]
        exact LR_b (line_fee S hk D)
      · rw [decide_eq_false k1, bI_f, if_pos rfl]
        by_cases k2 : k = 2
        · subst k2
          rw [decide_eq_true rfl, bI_t, if_neg n10, if_pos rfl]
          exact LR_b (line_one S hk D)
        · rw [decide_eq_false k2, bI_f, if_pos rfl, if_neg k2]
          by_cases k3 : k = 3
          · subst k3
            rw [decide_eq_true rfl, bI_t, if_neg n10, if_pos rfl]
            exact LR_b (line_coin S hk D)
          · rw [decide_eq_false k3, bI_f, if_pos rfl, if_neg k3]
            by_cases k4 : k = 4
            · subst k4
              rw [decide_eq_true rfl, bI_t, if_neg n10, if_neg (by omega)]
              exact LR_b (line_spend S hk D)
            · have k5 : k = 5 := by omega
              subst k5
              rw [decide_eq_false k4, bI_f, if_pos rfl, decide_eq_true rfl, bI_t, if_neg n10, if_pos rfl]
              exact LR_b (line_talk S hk D)
  · rw [decide_eq_false (show ¬ k = 0 by omega), decide_eq_false (show ¬ k = 1 by omega), decide_eq_false (show ¬ k = 2 by omega), decide_eq_false (show ¬ k = 3 by omega), decide_eq_false (show ¬ k = 4 by omega), decide_eq_false (show ¬ k = 5 by omega), bI_f, if_pos rfl, if_pos rfl, if_pos rfl, if_pos rfl, if_pos rfl, if_pos rfl, fail_x]
    have hin : fn8_in ((if k < 12 then nI k else -4 : Int32).toInt64) 0 5 m = some (0, m) := by
      rw [in_val, if_neg]
      rw [ti_l]
      by_cases k12 : k < 12
      · rw [if_pos k12, ti_n (by omega)]
        intro z
        have : (5 : Int64).toInt = 5 := by decide
        omega
      · rw [if_neg k12]
        decide
    unfold fn8_readLine
    rw [hname]
    simp only [bp]
    rw [hin]
    simp only [bp]
    rw [if_neg (show ¬ ¬ True from fun z => z trivial), m_fails h16]
    have hB : BR (up2 (up2 m 0 16 2) 0 17 (m 0 19)) 2 (hdT t n s) := br_up hK.2.1
    exact ⟨_, _, ZX_u (ZX_u (ZX_rf x) (by omega)) (by omega), ZM_u (ZM_u (ZM_rf m) (by omega)) (by omega), rfl, Or.inl ⟨2, hdT t n s, by omega, by omega, rfl, FA_up rfl h8, hB⟩⟩
/-! text: the draft as a town -/
def DA (x : Mem) : Abs := fun i j => if i = 0 then (if j = 0 then (x 12 0).toNatClampNeg else if j = 1 then (x 12 4).toNatClampNeg else if j = 2 then (x 12 9).toNatClampNeg else if j = 3 then (x 12 13).toNatClampNeg else (x 12 14).toNatClampNeg) else if i = 7 then (if x 19 j = -4 then 0 else (x 19 j).toNatClampNeg + 1) else (x (12 + i) j).toNatClampNeg
theorem DA_r {x : Mem} {i j v : Nat} (h0 : i ≠ 0) (h7 : i ≠ 7) (h : x (12 + i) j = nI v) (hv : v < 1048576) : DA x i j = v := by
  unfold DA
  rw [if_neg h0, if_neg h7, h, cl_n hv]
theorem DA_7 {x : Mem} {j v : Nat} (h : x 19 j = spc v) (hv : v ≤ 12) : DA x 7 j = v := by
  unfold DA
  rw [if_neg (by omega), if_pos rfl, h]
  unfold spc
  by_cases e : v = 0
  · rw [if_pos e, if_pos rfl, e]
  · rw [if_neg e, if_neg (n_neg4 (by omega)), cl_n (by omega)]
    omega
def okD (A : Abs) : Prop := A 0 0 ≤ 6 ∧ A 0 1 ≤ 6 ∧ A 0 2 ≤ 10 ∧ A 0 3 ≤ 2 ∧ A 0 4 ≤ 9 ∧ (∀ p, p < A 0 0 → A 1 p ≤ 4 ∧ A 2 p ≤ 9 ∧ A 3 p ≤ 50) ∧ (∀ c, c < A 0 1 → 1 ≤ A 4 c ∧ A 4 c ≤ 3 ∧ A 5 c < 6 ∧ A 6 c ≤ 1) ∧ (∀ c, c < 6 → A 7 c ≤ 12) ∧ ∀ k, k < A 0 2 → A 8 k < 12 ∧ A 9 k < 6 ∧ A 10 k < 6 ∧ A 9 k ≠ A 10 k
def QM (m : Mem) (A : Abs) : Prop := m 0 6 = nI (A 0 0) ∧ m 0 7 = nI (A 0 1) ∧ (∀ p, p < A 0 0 → m 4 (3 * p) = nI (A 1 p) ∧ m 4 (3 * p + 1) = nI (A 2 p) ∧ m 4 (3 * p + 2) = nI (A 3 p)) ∧ m 3 54 = nI (A 0 2) ∧ m 3 55 = nI (A 0 3) ∧ m 3 56 = nI (A 0 4) - 1 ∧ (∀ c, c < A 0 1 → m 3 (4 * c) = nI (A 4 c) ∧ m 3 (4 * c + 1) = nI (A 5 c) ∧ m 3 (4 * c + 2) = nI (A 6 c)) ∧ (∀ c, c < 6 → m 5 c = nI (A 7 c)) ∧ ∀ k, k < A 0 2 → m 3 (24 + 3 * k) = nI (A 8 k) ∧ m 3 (24 + 3 * k + 1) = nI (A 9 k) ∧ m 3 (24 + 3 * k + 2) = nI (A 10 k)
def gdO (A : Abs) : Prop := (∀ c, c < A 0 1 → A 5 c < A 0 0) ∧ ∀ k, k < A 0 2 → A 9 k < A 0 0 ∧ A 10 k < A 0 0
def gdC (A : Abs) : Prop := ∀ c, A 0 1 ≤ c → c < 6 → A 7 c = 0
theorem DD_A {x m : Mem} (D : DD x m) : ∃ (A : Abs) (ho hc : Nat), TX x 12 A ∧ okD A ∧ QM m A ∧ (ho ≤ A 0 0 ↔ gdO A) ∧ (hc ≤ A 0 1 ↔ gdC A) ∧ m 0 10 = nI ho - 1 ∧ ho ≤ 6 ∧ m 0 11 = nI hc - 1 ∧ hc ≤ 6 ∧ ∀ c, c < 6 → x 19 c = spc (A 7 c) := by
  obtain ⟨lw, fe, to, np, nc, nk, ho, sp, hc, d1, d2, d3, d4, d5, d6⟩ := D
  obtain ⟨e1, e2, e3, e4, e5, e6, e7, e8, e9, e10⟩ := d1
  obtain ⟨p1, p2, p3, p4⟩ := d2
  obtain ⟨c1, c2, c3, c4, c5⟩ := d3
  obtain ⟨k1, k2, k3, k4⟩ := d4
  obtain ⟨u1, u2, u3, u4, u5, u6⟩ := d5
  obtain ⟨h1, h2, h3⟩ := d6
  have A0 : DA x 0 0 = np := by show (x 12 0).toNatClampNeg = np; rw [p2, cl_n (by omega)]
  have A1 : DA x 0 1 = nc := by show (x 12 4).toNatClampNeg = nc; rw [c2, cl_n (by omega)]
  have A2 : DA x 0 2 = nk := by show (x 12 9).toNatClampNeg = nk; rw [k2, cl_n (by omega)]
  have A3 : DA x 0 3 = lw := by show (x 12 13).toNatClampNeg = lw; rw [e1, cl_n (by omega)]
  have A4 : DA x 0 4 = fe := by show (x 12 14).toNatClampNeg = fe; rw [e4, cl_n (by omega)]
  have P : ∀ p, p < np → ∃ a b c : Nat, a ≤ 4 ∧ b ≤ 9 ∧ c ≤ 50 ∧ DA x 1 p = a ∧ DA x 2 p = b ∧ DA x 3 p = c ∧ x 13 p = nI a ∧ m 4 (3 * p) = nI a ∧ x 14 p = nI b ∧ m 4 (3 * p + 1) = nI b ∧ x 15 p = nI c ∧ m 4 (3 * p + 2) = nI c := fun p hp => by
    obtain ⟨a, b, c, q1, q2, q3, q4, q5, q6, q7, q8, q9⟩ := p4 p hp
    exact ⟨a, b, c, q1, q2, q3, DA_r (i := 1) (by omega) (by omega) q4 (by omega), DA_r (i := 2) (by omega) (by omega) q6 (by omega), DA_r (i := 3) (by omega) (by omega) q8 (by omega), q4, q5, q6, q7, q8, q9⟩
  have C : ∀ c, c < nc → ∃ a b d : Nat, 1 ≤ a ∧ a ≤ 3 ∧ b < 6 ∧ b < ho ∧ d ≤ 1 ∧ DA x 4 c = a ∧ DA x 5 c = b ∧ DA x 6 c = d ∧ x 16 c = nI a ∧ m 3 (4 * c) = nI a ∧ x 17 c = nI b ∧ m 3 (4 * c + 1) = nI b ∧ x 18 c = nI d ∧ m 3 (4 * c + 2) = nI d := fun c hcc => by
    obtain ⟨a, b, d, q1, q2, q3, q4, q5, q6, q7, q8, q9, q10, q11⟩ := c4 c hcc
    exact ⟨a, b, d, q1, q2, q3, q4, q5, DA_r (i := 4) (by omega) (by omega) q6 (by omega), DA_r (i := 5) (by omega) (by omega) q8 (by omega), DA_r (i := 6) (by omega) (by omega) q10 (by omega), q6, q7, q8, q9, q10, q11⟩
  have K : ∀ k, k < nk → ∃ a b c : Nat, a < 12 ∧ b < 6 ∧ c < 6 ∧ b ≠ c ∧ b < ho ∧ c < ho ∧ DA x 8 k = a ∧ DA x 9 k = b ∧ DA x 10 k = c ∧ x 20 k = nI a ∧ m 3 (24 + 3 * k) = nI a ∧ x 21 k = nI b ∧ m 3 (24 + 3 * k + 1) = nI b ∧ x 22 k = nI c ∧ m 3 (24 + 3 * k + 2) = nI c := fun k hkk => by
    obtain ⟨a, b, c, q1, q2, q3, q4, q5, q6, q7, q8, q9, q10, q11, q12⟩ := k4 k hkk
    exact ⟨a, b, c, q1, q2, q3, q4, q5, q6, DA_r (i := 8) (by omega) (by omega) q7 (by omega), DA_r (i := 9) (by omega) (by omega) q9 (by omega), DA_r (i := 10) (by omega) (by omega) q11 (by omega), q7, q8, q9, q10, q11, q12⟩
  have U : ∀ c, c < 6 → ∃ v : Nat, v ≤ 12 ∧ DA x 7 c = v ∧ x 19 c = spc v ∧ m 5 c = nI v ∧ sp.testBit c = decide (v ≠ 0) ∧ (v ≠ 0 → c < hc) := fun c hcc => by
    obtain ⟨v, q1, q2, q3, q4, q5⟩ := u5 c hcc
    exact ⟨v, q1, DA_7 q2 q1, q2, q3, q4, q5⟩
  refine ⟨DA x, ho, hc, ?_, ?_, ?_, ?_, ?_, h2, h1, u4, u3, ?_⟩
  · unfold TX
    rw [A0, A1, A2, A3, A4]
    refine ⟨p2, c2, k2, e1, e4, fun p hp => ?_, fun c hcc => ?_, fun k hkk => ?_⟩
    · obtain ⟨a, b, c, q1, q2, q3, r1, r2, r3, q4, q5, q6, q7, q8, q9⟩ := P p hp
      rw [r1, r2, r3]
      exact ⟨q4, q6, q8⟩
    · obtain ⟨a, b, d, q1, q2, q3, q4, q5, r1, r2, r3, q6, q7, q8, q9, q10, q11⟩ := C c hcc
      obtain ⟨v, w1, w2, w3, w4, w5⟩ := U c (by omega)
      rw [r1, r2, r3, w2]
      exact ⟨q6, q8, q10, w3⟩
    · obtain ⟨a, b, c, q1, q2, q3, q4, q5, q6, r1, r2, r3, q7, q8, q9, q10, q11, q12⟩ := K k hkk
      rw [r1, r2, r3]
      exact ⟨q7, q9, q11⟩
  · unfold okD
    rw [A0, A1, A2, A3, A4]
    refine ⟨p1, c1, k1, e3, e6, fun p hp => ?_, fun c hcc => ?_, fun c hcc => ?_, fun k hkk => ?_⟩
    · obtain ⟨a, b, c, q1, q2, q3, r1, r2, r3, q4, q5, q6, q7, q8, q9⟩ := P p hp
      rw [r1, r2, r3]
      exact ⟨q1, q2, q3⟩
    · obtain ⟨a, b, d, q1, q2, q3, q4, q5, r1, r2, r3, q6, q7, q8, q9, q10, q11⟩ := C c hcc
      rw [r1, r2, r3]
      exact ⟨q1, q2, q3, q5⟩
    · obtain ⟨v, w1, w2, w3, w4, w5⟩ := U c (by omega)
      rw [w2]
      exact w1
    · obtain ⟨a, b, c, q1, q2, q3, q4, q5, q6, r1, r2, r3, q7, q8, q9, q10, q11, q12⟩ := K k hkk
      rw [r1, r2, r3]
      exact ⟨q1, q2, q3, q4⟩
  · unfold QM
    rw [A0, A1, A2, A3, A4]
    refine ⟨p3, c3, fun p hp => ?_, k3, e2, e5, fun c hcc => ?_, fun c hcc => ?_, fun k hkk => ?_⟩
    · obtain ⟨a, b, c, q1, q2, q3, r1, r2, r3, q4, q5, q6, q7, q8, q9⟩ := P p hp
      rw [r1, r2, r3]
      exact ⟨q5, q7, q9⟩
    · obtain ⟨a, b, d, q1, q2, q3, q4, q5, r1, r2, r3, q6, q7, q8, q9, q10, q11⟩ := C c hcc
      rw [r1, r2, r3]
      exact ⟨q7, q9, q11⟩
    · obtain ⟨v, w1, w2, w3, w4, w5⟩ := U c (by omega)
      rw [w2]
      exact w4
    · obtain ⟨a, b, c, q1, q2, q3, q4, q5, q6, r1, r2, r3, q7, q8, q9, q10, q11, q12⟩ := K k hkk
      rw [r1, r2, r3]
      exact ⟨q8, q10, q12⟩
  · unfold gdO
    rw [A0, A1, A2]
    constructor
    · intro hle
      refine ⟨fun c hcc => ?_, fun k hkk => ?_⟩
      · obtain ⟨a, b, d, q1, q2, q3, q4, q5, r1, r2, r3, -⟩ := C c hcc
        omega
      · obtain ⟨a, b, c, q1, q2, q3, q4, q5, q6, r1, r2, r3, -⟩ := K k hkk
        omega
    · rintro ⟨g1, g2⟩
      rcases h3 with h3 | ⟨c, z1, z2⟩ | ⟨k, z1, z2⟩
      · omega
      · have := g1 c z1
        rw [DA_r (i := 5) (by omega) (by omega) z2 (by omega)] at this
        omega
      · have := g2 k z1
        rcases z2 with z2 | z2
        · rw [DA_r (i := 9) (by omega) (by omega) z2 (by omega)] at this
          omega
        · rw [DA_r (i := 10) (by omega) (by omega) z2 (by omega)] at this
          omega
  · unfold gdC
    rw [A1]
    constructor
    · intro hle c z1 z2
      obtain ⟨v, w1, w2, w3, w4, w5, w6⟩ := U c z2
      rw [w2]
      by_cases e : v = 0
      · exact e
      · have := w6 e
        omega
    · intro g
      rcases u6 with u6 | u6
      · omega
      · by_cases e : hc ≤ nc
        · exact e
        · obtain ⟨v, w1, w2, w3, w4, w5, w6⟩ := U (hc - 1) (by omega)
          have := g (hc - 1) (by omega) (by omega)
          rw [w2] at this
          rw [u6, this] at w5
          simp at w5
  · intro c hcc
    obtain ⟨v, w1, w2, w3, w4, w5⟩ := U c hcc
    rw [w2]
    exact w3
theorem okA_of {A : Abs} (h : okD A) (g : gdO A) : okA A := by
  obtain ⟨a1, a2, a3, a4, a5, a6, a7, a8, a9⟩ := h
  refine ⟨a1, a2, a3, a4, a5, a6, fun c hc => ?_, fun k hk => ?_⟩
  · obtain ⟨b1, b2, b3, b4⟩ := a7 c hc
    exact ⟨b1, b2, g.1 c hc, b4, a8 c (by omega)⟩
  · obtain ⟨b1, b2, b3, b4⟩ := a9 k hk
    exact ⟨b1, (g.2 k hk).1, (g.2 k hk).2, b4⟩
