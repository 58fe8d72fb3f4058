/-! text: the draft on both sides -/
def dS (x m : Mem) (lw fe to : Nat) : Prop := x 12 13 = nI lw ∧ m 3 55 = nI lw ∧ lw ≤ 2 ∧ x 12 14 = nI fe ∧ m 3 56 = nI fe - 1 ∧ fe ≤ 9 ∧ to < 64 ∧ m 0 8 = nI to ∧ x 55 5 = bI (to.testBit 0) ∧ x 55 6 = bI (to.testBit 1)
def dP (x m : Mem) (np : Nat) : Prop := np ≤ 6 ∧ x 12 0 = nI np ∧ m 0 6 = nI np ∧ ∀ p, p < np → ∃ a b c : Nat, a ≤ 4 ∧ b ≤ 9 ∧ c ≤ 50 ∧ x 13 p = nI a ∧ m 4 (3 * p) = nI a ∧ x 14 p = nI b ∧ m 4 (3 * p + 1) = nI b ∧ x 15 p = nI c ∧ m 4 (3 * p + 2) = nI c
def dC (x m : Mem) (nc ho : Nat) : Prop := nc ≤ 6 ∧ x 12 4 = nI nc ∧ m 0 7 = nI nc ∧ (∀ c, c < nc → ∃ a b d : Nat, 1 ≤ a ∧ a ≤ 3 ∧ b < 6 ∧ b < ho ∧ d ≤ 1 ∧ x 16 c = nI a ∧ m 3 (4 * c) = nI a ∧ x 17 c = nI b ∧ m 3 (4 * c + 1) = nI b ∧ x 18 c = nI d ∧ m 3 (4 * c + 2) = nI d) ∧ ∀ c, nc ≤ c → c < 6 → x 18 c = 0 ∧ m 3 (4 * c + 2) = 0
def dT (x m : Mem) (nk ho : Nat) : Prop := nk ≤ 10 ∧ x 12 9 = nI nk ∧ m 3 54 = nI nk ∧ ∀ k, k < nk → ∃ a b c : Nat, a < 12 ∧ b < 6 ∧ c < 6 ∧ b ≠ c ∧ b < ho ∧ c < ho ∧ x 20 k = nI a ∧ m 3 (24 + 3 * k) = nI a ∧ x 21 k = nI b ∧ m 3 (24 + 3 * k + 1) = nI b ∧ x 22 k = nI c ∧ m 3 (24 + 3 * k + 2) = nI c
def dU (x m : Mem) (sp hc : Nat) : Prop := sp < 64 ∧ m 0 9 = nI sp ∧ hc ≤ 6 ∧ m 0 11 = nI hc - 1 ∧ (∀ c, c < 6 → ∃ v : Nat, v ≤ 12 ∧ x 19 c = spc v ∧ m 5 c = nI v ∧ sp.testBit c = decide (v ≠ 0) ∧ (v ≠ 0 → c < hc)) ∧ (hc = 0 ∨ sp.testBit (hc - 1) = true)
def dH (x m : Mem) (nc nk ho : Nat) : Prop := ho ≤ 6 ∧ m 0 10 = nI ho - 1 ∧ (ho = 0 ∨ (∃ c, c < nc ∧ x 17 c = nI (ho - 1)) ∨ ∃ k, k < nk ∧ (x 21 k = nI (ho - 1) ∨ x 22 k = nI (ho - 1)))
def DD (x m : Mem) : Prop := ∃ lw fe to np nc nk ho sp hc : Nat, dS x m lw fe to ∧ dP x m np ∧ dC x m nc ho ∧ dT x m nk ho ∧ dU x m sp hc ∧ dH x m nc nk ho
theorem dS_k {x m x' m' : Mem} {lw fe to : Nat} (h : dS x m lw fe to) (h1 : x' 12 13 = x 12 13) (h2 : x' 12 14 = x 12 14) (h3 : x' 55 5 = x 55 5) (h4 : x' 55 6 = x 55 6) (h5 : m' 3 55 = m 3 55) (h6 : m' 3 56 = m 3 56) (h7 : m' 0 8 = m 0 8) : dS x' m' lw fe to := by
  unfold dS at h ⊢
  rw [h1, h2, h3, h4, h5, h6, h7]
  exact h
theorem dP_k {x m x' m' : Mem} {np : Nat} (h : dP x m np) (h1 : x' 12 0 = x 12 0) (h2 : x' 13 = x 13) (h3 : x' 14 = x 14) (h4 : x' 15 = x 15) (h5 : m' 0 6 = m 0 6) (h6 : m' 4 = m 4) : dP x' m' np := by
  unfold dP at h ⊢
  rw [h1, h2, h3, h4, h5, h6]
  exact h
theorem dC_k {x m x' m' : Mem} {nc ho : Nat} (h : dC x m nc ho) (h1 : x' 12 4 = x 12 4) (h2 : x' 16 = x 16) (h3 : x' 17 = x 17) (h4 : x' 18 = x 18) (h5 : m' 0 7 = m 0 7) (h6 : ∀ j, j < 24 → m' 3 j = m 3 j) : dC x' m' nc ho := by
  obtain ⟨a1, a2, a3, a4, a5⟩ := h
  refine ⟨a1, h1.trans a2, h5.trans a3, fun c hc => ?_, fun c c1 c2 => ?_⟩
  · rw [h2, h3, h4, h6 (4 * c) (by omega), h6 (4 * c + 1) (by omega), h6 (4 * c + 2) (by omega)]
    exact a4 c hc
  · rw [h4, h6 (4 * c + 2) (by omega)]
    exact a5 c c1 c2
theorem dT_k {x m x' m' : Mem} {nk ho : Nat} (h : dT x m nk ho) (h1 : x' 12 9 = x 12 9) (h2 : x' 20 = x 20) (h3 : x' 21 = x 21) (h4 : x' 22 = x 22) (h5 : m' 3 54 = m 3 54) (h6 : ∀ j, 24 ≤ j → j < 54 → m' 3 j = m 3 j) : dT x' m' nk ho := by
  obtain ⟨a1, a2, a3, a4⟩ := h
  refine ⟨a1, h1.trans a2, h5.trans a3, fun k hk => ?_⟩
  rw [h2, h3, h4, h6 (24 + 3 * k) (by omega) (by omega), h6 (24 + 3 * k + 1) (by omega) (by omega), h6 (24 + 3 * k + 2) (by omega) (by omega)]
  exact a4 k hk
theorem dU_k {x m x' m' : Mem} {sp hc : Nat} (h : dU x m sp hc) (h1 : x' 19 = x 19) (h2 : m' 5 = m 5) (h3 : m' 0 9 = m 0 9) (h4 : m' 0 11 = m 0 11) : dU x' m' sp hc := by
  unfold dU at h ⊢
  rw [h1, h2, h3, h4]
  exact h
theorem dH_k {x m x' m' : Mem} {nc nk ho : Nat} (h : dH x m nc nk ho) (h1 : x' 17 = x 17) (h2 : x' 21 = x 21) (h3 : x' 22 = x 22) (h4 : m' 0 10 = m 0 10) : dH x' m' nc nk ho := by
  unfold dH at h ⊢
  rw [h1, h2, h3, h4]
  exact h
theorem dC_h {x m : Mem} {nc ho ho' : Nat} (h : dC x m nc ho) (hh : ho ≤ ho') : dC x m nc ho' := by
  obtain ⟨a1, a2, a3, a4, a5⟩ := h
  refine ⟨a1, a2, a3, fun c hc => ?_, a5⟩
  obtain ⟨a, b, d, b1, b2, b3, b4, b5⟩ := a4 c hc
  exact ⟨a, b, d, b1, b2, b3, by omega, b5⟩
theorem dT_h {x m : Mem} {nk ho ho' : Nat} (h : dT x m nk ho) (hh : ho ≤ ho') : dT x m nk ho' := by
  obtain ⟨a1, a2, a3, a4⟩ := h
  refine ⟨a1, a2, a3, fun k hk => ?_⟩
  obtain ⟨a, b, c, b1, b2, b3, b4, b5, b6, b7⟩ := a4 k hk
  exact ⟨a, b, c, b1, b2, b3, b4, by omega, by omega, b7⟩
theorem DD_F {x m x' m' : Mem} (h : DD x m) (f : FX x x') (g : FM m m') : DD x' m' := by
  obtain ⟨lw, fe, to, np, nc, nk, ho, sp, hc, d1, d2, d3, d4, d5, d6⟩ := h
  have X : ∀ k, k ≠ 55 → x' k = x k := f.1
  have M : ∀ k, k ≠ 0 → m' k = m k := g.1
  have M0 : ∀ j, j < 16 → m' 0 j = m 0 j := fun j hj => g.2 j (by omega)
  refine ⟨lw, fe, to, np, nc, nk, ho, sp, hc, dS_k d1 ?_ ?_ ?_ ?_ ?_ ?_ (M0 _ (by omega)), dP_k d2 ?_ (X _ (by omega)) (X _ (by omega)) (X _ (by omega)) (M0 _ (by omega)) (M _ (by omega)), dC_k d3 ?_ (X _ (by omega)) (X _ (by omega)) (X _ (by omega)) (M0 _ (by omega)) (fun j _ => ?_), dT_k d4 ?_ (X _ (by omega)) (X _ (by omega)) (X _ (by omega)) ?_ (fun j _ _ => ?_), dU_k d5 (X _ (by omega)) (M _ (by omega)) (M0 _ (by omega)) (M0 _ (by omega)), dH_k d6 (X _ (by omega)) (X _ (by omega)) (X _ (by omega)) (M0 _ (by omega))⟩
  · rw [X 12 (by omega)]
  · rw [X 12 (by omega)]
  · exact f.2 5 (by omega) (by omega) (by omega) (by omega) (by omega) (by omega)
  · exact f.2 6 (by omega) (by omega) (by omega) (by omega) (by omega) (by omega)
  · rw [M 3 (by omega)]
  · rw [M 3 (by omega)]
  · rw [X 12 (by omega)]
  · rw [X 12 (by omega)]
  · rw [M 3 (by omega)]
  · rw [X 12 (by omega)]
  · rw [M 3 (by omega)]
  · rw [M 3 (by omega)]
/-- what a reading leaves as it was -/
def ZX (x x' : Mem) : Prop := ∀ k, k < 12 ∨ (22 < k ∧ k ≠ 55) → x' k = x k
def ZM (m m' : Mem) : Prop := (∀ k, k ≠ 0 → k ≠ 3 → k ≠ 4 → k ≠ 5 → m' k = m k) ∧ ∀ j, (j < 6 ∨ 11 < j) → (j < 16 ∨ 21 < j) → m' 0 j = m 0 j
theorem ZX_rf (x : Mem) : ZX x x := fun _ _ => rfl
theorem ZM_rf (m : Mem) : ZM m m := ⟨fun _ _ _ _ _ => rfl, fun _ _ _ => rfl⟩
theorem ZX_tr {x y z : Mem} (h : ZX x y) (g : ZX y z) : ZX x z := fun k hk => (g k hk).trans (h k hk)
theorem ZM_tr {x y z : Mem} (h : ZM x y) (g : ZM y z) : ZM x z := ⟨fun k a b c d => (g.1 k a b c d).trans (h.1 k a b c d), fun j a b => (g.2 j a b).trans (h.2 j a b)⟩
theorem ZX_F {x y : Mem} (f : FX x y) : ZX x y := fun k hk => f.1 k (by omega)
theorem ZM_F {x y : Mem} (f : FM x y) : ZM x y := ⟨fun k a _ _ _ => f.1 k a, fun j _ b => f.2 j b⟩
theorem ZX_u {x y : Mem} (h : ZX x y) {k j : Nat} {v : Int32} (hk : (12 ≤ k ∧ k ≤ 22) ∨ k = 55) : ZX x (up2 y k j v) := fun k' hk' => by rw [up2_cell (by omega), h k' hk']
theorem ZM_u {x y : Mem} (h : ZM x y) {k j : Nat} {v : Int32} (hk : (3 ≤ k ∧ k ≤ 5) ∨ (k = 0 ∧ ((6 ≤ j ∧ j ≤ 11) ∨ (16 ≤ j ∧ j ≤ 21)))) : ZM x (up2 y k j v) := ⟨fun k' a b c d => by rw [up2_cell (by omega), h.1 k' a b c d], fun j' a b => by rw [up2_at, if_neg (by omega), h.2 j' a b]⟩
/-- a line, read on both sides -/
def LR (r q : Option (Int32 × Mem)) (x m : Mem) (t : Nat → Nat) (n s : Nat) : Prop := ∃ x' m', ZX x x' ∧ ZM m m' ∧ q = some (0, m') ∧ ((∃ e p, (1 ≤ e ∧ e ≤ 9) ∧ p ≤ 320 ∧ r = some (0, x') ∧ FA x' e p ∧ BR m' e p) ∨ (∃ s', s < s' ∧ r = some (1, x') ∧ JT x' m' t n s' ∧ DD x' m' ∧ x' 55 1 = x 55 1))
def lineM (nm : Nat) (f : Mem → Option (Int32 × Mem)) (m : Mem) : Option (Int32 × Mem) := (fn8_hasRoom (nI nm) m).bind (fun q => (if q.1 = 0 then fn8_readLine_72 q.2 else (f q.2).bind (fun q => fn8_readLine_72 q.2)))
theorem line_open {x m : Mem} {t : Nat → Nat} {n s to nm : Nat} {f : Mem → Option (Int32 × Mem)} (S : JS x m t n s) (h8 : m 0 8 = nI to) (hto : to < 64) (hnm : nm < 6) (hr : fn8_hasRoom (nI nm) m = fn8_hasRoom_86 (nI nm) m) (hk : kdT t n s ≠ 0) : ∃ m1, FM (up2 m 0 8 (nI (to ||| 2 ^ nm))) m1 ∧ JT x m1 t n (bhT t n s) ∧ s < bhT t n s ∧ lineM nm f m = (if okT t n (bhT t n s) = true then (f m1).bind (fun q => fn8_readLine_72 q.2) else some (0, m1)) := by
  obtain ⟨hT, hM, hs, h7, h8x, h9, h2, hK, eo⟩ := S
  obtain ⟨m1, a1, a2, a3, a4⟩ := room_86 hM hs hK eo h8 hto hnm
  have hb := bh_lt hs hk
  refine ⟨m1, a1, ⟨hT, a2, hb.2, h9, h2, a3⟩, hb.1, ?_⟩
  unfold lineM
  rw [hr, a4]
  simp only [bp]
  cases e2 : okT t n (bhT t n s)
  · have hB : BR m1 1 (hdT t n (bhT t n s)) := a3.2.2.2.2 e2
    rw [bI_f, if_pos rfl, if_neg (by simp), m_72B hB (by omega)]
  · rw [bI_t, if_neg n10, if_pos rfl]
theorem line_shut {x m : Mem} {t : Nat → Nat} {n s to nm e : Nat} {f : Mem → Option (Int32 × Mem)} (S : JS x m t n s) (h8 : m 0 8 = nI to) (hto : to < 64) (hnm : nm < 6) (he : 1 ≤ e ∧ e ≤ 9) (hr : fn8_hasRoom (nI nm) m = (fn8_fails (nI e) m).bind (fun q => fn8_hasRoom_86 (nI nm) q.2)) : ∃ m1, FM (up2 m 0 8 (nI (to ||| 2 ^ nm))) m1 ∧ BR m1 e (hdT t n s) ∧ lineM nm f m = some (0, m1) := by
  obtain ⟨hT, hM, hs, h7, h8x, h9, h2, hK, eo⟩ := S
  obtain ⟨m1, a1, a2, a3⟩ := room_fail hK eo h8 hto hnm he
  refine ⟨m1, a1, a2, ?_⟩
  unfold lineM
  rw [hr, a3]
  simp only [bp]
  rw [if_pos trivial, m_72B a2 he]
theorem fail_x {x : Mem} {e v : Int32} : (fn5_fail e v x).bind (fun q => (if isb q.1 = true then some (q.1, q.2) else none)) = some (0, up2 (up2 x 55 2 e) 55 3 v) := by
  unfold fn5_fail
  simp only [bp]
  rw [if_pos (by decide)]
theorem FA_up {x : Mem} {e p : Nat} {u v : Int32} (hu : u = nI e) (hv : v = nI p) : FA (up2 (up2 x 55 2 u) 55 3 v) e p := ⟨by rw [up2_place (by omega), up2_same, hu], by rw [up2_same, hv]⟩
theorem isb_0 {y : Mem} : (some ((0 : Int32), y)).bind (fun q => (if isb q.1 = true then some (q.1, q.2) else none)) = some (0, y) := by
  simp only [bp]
  rw [if_pos (by decide)]
theorem isb_1 {y : Mem} : (some ((1 : Int32), y)).bind (fun q => (if isb q.1 = true then some (q.1, q.2) else none)) = some (1, y) := by
  simp only [bp]
  rw [if_pos (by decide)]
theorem to_bit {to nm i : Nat} : (to ||| 2 ^ nm).testBit i = (to.testBit i || decide (nm = i)) := by
  rw [Nat.testBit_or, Nat.testBit_two_pow]
theorem to_lt {to nm : Nat} (h : to < 64) (h2 : nm < 6) : to ||| 2 ^ nm < 64 := Nat.or_lt_two_pow (n := 6) h (pow5 h2)
theorem ib57 {a : Nat} (h : a < 57) : ib (nI a) 57 = true := ib_y h (by omega)
theorem dS_to {x m : Mem} {lw fe to nm : Nat} (h : dS x m lw fe to) (h2 : 2 ≤ nm) (h6 : nm < 6) : dS x (up2 m 0 8 (nI (to ||| 2 ^ nm))) lw fe (to ||| 2 ^ nm) := by
  obtain ⟨e1, e2, e3, e4, e5, e6, e7, e8, e9, e10⟩ := h
  refine ⟨e1, ?_, e3, e4, ?_, e6, to_lt e7 h6, up2_same, ?_, ?_⟩
  · rw [up2_cell (by omega)]; exact e2
  · rw [up2_cell (by omega)]; exact e5
  · rw [e9, to_bit, decide_eq_false (by omega), Bool.or_false]
  · rw [e10, to_bit, decide_eq_false (by omega), Bool.or_false]
theorem DD_law {x m : Mem} {lw fe to np nc nk ho sp hc v : Nat} (d1 : dS x m lw fe to) (d2 : dP x m np) (d3 : dC x m nc ho) (d4 : dT x m nk ho) (d5 : dU x m sp hc) (d6 : dH x m nc nk ho) (hv : v ≤ 2) : DD (up2 (up2 x 55 5 1) 12 13 (nI v)) (up2 (up2 m 0 8 (nI (to ||| 2 ^ 0))) 3 55 (nI v)) := by
  have X : ∀ k, k ≠ 55 → k ≠ 12 → up2 (up2 x 55 5 1) 12 13 (nI v) k = x k := fun k h1 h2 => by rw [up2_cell h2, up2_cell h1]
  have X12 : ∀ j, j ≠ 13 → up2 (up2 x 55 5 1) 12 13 (nI v) 12 j = x 12 j := fun j h1 => by rw [up2_place h1, up2_cell (by omega)]
  have M : ∀ k, k ≠ 0 → k ≠ 3 → up2 (up2 m 0 8 (nI (to ||| 2 ^ 0))) 3 55 (nI v) k = m k := fun k h1 h2 => by rw [up2_cell h2, up2_cell h1]
  have M0 : ∀ j, j ≠ 8 → up2 (up2 m 0 8 (nI (to ||| 2 ^ 0))) 3 55 (nI v) 0 j = m 0 j := fun j h1 => by rw [up2_cell (by omega), up2_place h1]
  have M3 : ∀ j, j ≠ 55 → up2 (up2 m 0 8 (nI (to ||| 2 ^ 0))) 3 55 (nI v) 3 j = m 3 j := fun j h1 => by rw [up2_place h1, up2_cell (by omega)]
  refine ⟨v, fe, to ||| 2 ^ 0, np, nc, nk, ho, sp, hc, ?_, dP_k d2 (X12 _ (by omega)) (X _ (by omega) (by omega)) (X _ (by omega) (by omega)) (X _ (by omega) (by omega)) (M0 _ (by omega)) (M _ (by omega) (by omega)), dC_k d3 (X12 _ (by omega)) (X _ (by omega) (by omega)) (X _ (by omega) (by omega)) (X _ (by omega) (by omega)) (M0 _ (by omega)) (fun j hj => M3 _ (by omega)), dT_k d4 (X12 _ (by omega)) (X _ (by omega) (by omega)) (X _ (by omega) (by omega)) (X _ (by omega) (by omega)) (M3 _ (by omega)) (fun j _ hj => M3 _ (by omega)), dU_k d5 (X _ (by omega) (by omega)) (M _ (by omega) (by omega)) (M0 _ (by omega)) (M0 _ (by omega)), dH_k d6 (X _ (by omega) (by omega)) (X _ (by omega) (by omega)) (X _ (by omega) (by omega)) (M0 _ (by omega))⟩
  obtain ⟨e1, e2, e3, e4, e5, e6, e7, e8, e9, e10⟩ := d1
  refine ⟨up2_same, up2_same, hv, (X12 _ (by omega)).trans e4, (M3 _ (by omega)).trans e5, e6, to_lt e7 (by omega), ?_, ?_, ?_⟩
  · rw [up2_cell (by omega), up2_same]
  · rw [up2_cell (by omega), up2_same, to_bit, decide_eq_true rfl, Bool.or_true]
    rfl
  · rw [up2_cell (by omega), up2_place (by omega), to_bit, decide_eq_false (by omega), Bool.or_false]
    exact e10
theorem DD_fee {x m : Mem} {lw fe to np nc nk ho sp hc v : Nat} (d1 : dS x m lw fe to) (d2 : dP x m np) (d3 : dC x m nc ho) (d4 : dT x m nk ho) (d5 : dU x m sp hc) (d6 : dH x m nc nk ho) (hv : v ≤ 9) : DD (up2 (up2 x 55 6 1) 12 14 (nI v)) (up2 (up2 m 0 8 (nI (to ||| 2 ^ 1))) 3 56 (nI v - 1)) := by
  have X : ∀ k, k ≠ 55 → k ≠ 12 → up2 (up2 x 55 6 1) 12 14 (nI v) k = x k := fun k h1 h2 => by rw [up2_cell h2, up2_cell h1]
  have X12 : ∀ j, j ≠ 14 → up2 (up2 x 55 6 1) 12 14 (nI v) 12 j = x 12 j := fun j h1 => by rw [up2_place h1, up2_cell (by omega)]
  have M : ∀ k, k ≠ 0 → k ≠ 3 → up2 (up2 m 0 8 (nI (to ||| 2 ^ 1))) 3 56 (nI v - 1) k = m k := fun k h1 h2 => by rw [up2_cell h2, up2_cell h1]
  have M0 : ∀ j, j ≠ 8 → up2 (up2 m 0 8 (nI (to ||| 2 ^ 1))) 3 56 (nI v - 1) 0 j = m 0 j := fun j h1 => by rw [up2_cell (by omega), up2_place h1]
  have M3 : ∀ j, j ≠ 56 → up2 (up2 m 0 8 (nI (to ||| 2 ^ 1))) 3 56 (nI v - 1) 3 j = m 3 j := fun j h1 => by rw [up2_place h1, up2_cell (by omega)]
  refine ⟨lw, v, to ||| 2 ^ 1, np, nc, nk, ho, sp, hc, ?_, dP_k d2 (X12 _ (by omega)) (X _ (by omega) (by omega)) (X _ (by omega) (by omega)) (X _ (by omega) (by omega)) (M0 _ (by omega)) (M _ (by omega) (by omega)), dC_k d3 (X12 _ (by omega)) (X _ (by omega) (by omega)) (X _ (by omega) (by omega)) (X _ (by omega) (by omega)) (M0 _ (by omega)) (fun j hj => M3 _ (by omega)), dT_k d4 (X12 _ (by omega)) (X _ (by omega) (by omega)) (X _ (by omega) (by omega)) (X _ (by omega) (by omega)) (M3 _ (by omega)) (fun j _ hj => M3 _ (by omega)), dU_k d5 (X _ (by omega) (by omega)) (M _ (by omega) (by omega)) (M0 _ (by omega)) (M0 _ (by omega)), dH_k d6 (X _ (by omega) (by omega)) (X _ (by omega) (by omega)) (X _ (by omega) (by omega)) (M0 _ (by omega))⟩
  obtain ⟨e1, e2, e3, e4, e5, e6, e7, e8, e9, e10⟩ := d1
  refine ⟨(X12 _ (by omega)).trans e1, (M3 _ (by omega)).trans e2, e3, up2_same, up2_same, hv, to_lt e7 (by omega), ?_, ?_, ?_⟩
  · rw [up2_cell (by omega), up2_same]
  · rw [up2_cell (by omega), up2_place (by omega), to_bit, decide_eq_false (by omega), Bool.or_false]
    exact e9
  · rw [up2_cell (by omega), up2_same, to_bit, decide_eq_true rfl, Bool.or_true]
    rfl
theorem line_law {x m : Mem} {t : Nat → Nat} {n s : Nat} (S : JS x m t n s) (hk : kdT t n s ≠ 0) (D : DD x m) : LR (fn5_readLaw x) (lineM 0 (fn8_readMore 0) m) x m t n s := by
  obtain ⟨lw, fe, to, np, nc, nk, ho, sp, hc, d1, d2, d3, d4, d5, d6⟩ := D
  obtain ⟨e1, e2, e3, e4, e5, e6, e7, e8, e9, e10⟩ := id d1
  have hn := S.1.1
  have hd := hd_in (t := t) S.2.2.1
  have hr := room_told (m := m) (nm := 0) (by omega) e8 e7
  unfold fn5_readLaw
  rw [e9]
  cases eb : to.testBit 0
  · rw [eb, if_neg (by simp)] at hr
    obtain ⟨m1, g1, g2, g0, g3⟩ := line_open (f := fn8_readMore 0) S e8 e7 (by omega) hr hk
    rw [g3, bI_f, if_pos rfl]
    have J1 := JT_x g2 (k := 55) (j := 5) (v := 1) (by omega)
    have z1 : ZX x (up2 x 55 5 1) := ZX_u (ZX_rf x) (by omega)
    have y1 : ZM m m1 := ZM_tr (ZM_u (ZM_rf m) (by omega)) (ZM_F g1)
    cases eo : okT t n (bhT t n s)
    · obtain ⟨x1, p, f1, f2, f3, f4, f5⟩ := num_f (lo := 0) (hi := 2) J1 (by omega) (by omega) eo
      have f3' : fn5_readNumber 0 2 (up2 x 55 5 1) = some (0, x1) := f3
      rw [f3', if_neg (by simp)]
      exact ⟨x1, m1, ZX_tr z1 (ZX_F f1), y1, rfl, Or.inl ⟨1, p, by omega, f2, rfl, f4, f5⟩⟩
    · obtain ⟨x1, m2, f1, f2, f3⟩ := num_j (lo := 0) (hi := 2) (sm := 0) J1 (by omega) (by omega) (by omega)
      rw [if_pos rfl]
      unfold fn8_readMore
      rw [if_neg (show ¬ ¬ (0 : Int32) = 0 from fun z => z rfl)]
      rcases f3 with ⟨e, p, he, hp, c1, c2, c3, c4⟩ | ⟨v, v1, v2, c1, c2, ⟨c3, -⟩ | ⟨c3, c4, s', c5, c6⟩⟩
      · have c1' : fn5_readNumber 0 2 (up2 x 55 5 1) = some (0, x1) := c1
        have c2' : fn8_other 0 2 0 m1 = some (nI 0, m2) := c2
        have hB : BR (up2 m2 3 55 (nI 0)) e p := BR_u c4 (by omega)
        rw [c1', c2']
        simp only [bp]
        rw [if_pos (show ib 55 57 = true by decide), c55]
        simp only [bp]
        rw [m_72B hB he]
        exact ⟨x1, _, ZX_tr z1 (ZX_F f1), ZM_u (ZM_tr y1 (ZM_F f2)) (by omega), rfl, Or.inl ⟨e, p, he, hp, rfl, c3, hB⟩⟩
      · rw [Nat.zero_testBit] at c3
        simp at c3
      · have c1' : fn5_readNumber 0 2 (up2 x 55 5 1) = some (1, x1) := c1
        have c4' : fn8_other 0 2 0 m1 = some (nI v, m2) := c4
        rw [c1', c4']
        simp only [bp]
        rw [if_pos n10, c2, if_pos (show ib 55 57 = true by decide), c55]
        simp only [bp]
        have J2 := JT_m (JT_x c6 (k := 12) (j := 13) (v := nI v) (by omega)) (k := 3) (j := 55) (v := nI v) (by omega)
        obtain ⟨x3, m3, h1, h2, h3, h4⟩ := stop_j J2
        have Fa : FX (up2 (up2 x 55 5 1) 12 13 (nI v)) x3 := FX_tr (FX_c f1) h1
        have Fb : FM (up2 (up2 m 0 8 (nI (to ||| 2 ^ 0))) 3 55 (nI v)) m3 := FM_tr (FM_c (FM_tr g1 f2)) h2
        have z3 : ZX x x3 := ZX_tr (ZX_u z1 (by omega)) (ZX_F Fa)
        have y3 : ZM m m3 := ZM_tr (ZM_u (ZM_u (ZM_rf m) (by omega)) (by omega)) (ZM_F Fb)
        rw [h3]
        rcases h4 with ⟨e, p, he, hp, k1, k2, k3⟩ | ⟨s2, k0, k1, k2⟩
        · rw [k1, isb_0]
          exact ⟨x3, m3, z3, y3, rfl, Or.inl ⟨e, p, he, hp, rfl, k2, k3⟩⟩
        · rw [k1, isb_1]
          refine ⟨x3, m3, z3, y3, rfl, Or.inr ⟨s2, by omega, rfl, k2, DD_F (DD_law d1 d2 d3 d4 d5 d6 v2) Fa Fb, ?_⟩⟩
          rw [Fa.2 1 (by omega) (by omega) (by omega) (by omega) (by omega) (by omega), up2_cell (by omega), up2_place (by omega)]
  · rw [eb, if_pos rfl] at hr
    obtain ⟨m1, g1, g2, g3⟩ := line_shut (f := fn8_readMore 0) S e8 e7 (by omega) (by omega) hr
    rw [g3, bI_t, if_neg n10, fail_x]
    exact ⟨_, m1, ZX_u (ZX_u (ZX_rf x) (by omega)) (by omega), ZM_tr (ZM_u (ZM_rf m) (by omega)) (ZM_F g1), rfl, Or.inl ⟨4, hdT t n s, by omega, by omega, rfl, FA_up rfl S.2.2.2.2.1, g2⟩⟩
theorem line_fee {x m : Mem} {t : Nat → Nat} {n s : Nat} (S : JS x m t n s) (hk : kdT t n s ≠ 0) (D : DD x m) : LR (fn5_readFee x) (lineM 1 (fn8_readMore 1) m) x m t n s := by
  obtain ⟨lw, fe, to, np, nc, nk, ho, sp, hc, d1, d2, d3, d4, d5, d6⟩ := D
  obtain ⟨e1, e2, e3, e4, e5, e6, e7, e8, e9, e10⟩ := id d1
  have hn := S.1.1
  have hd := hd_in (t := t) S.2.2.1
  have hr := room_told (m := m) (nm := 1) (by omega) e8 e7
  unfold fn5_readFee
  rw [e10]
  cases eb : to.testBit 1
  · rw [eb, if_neg (by simp)] at hr
    obtain ⟨m1, g1, g2, g0, g3⟩ := line_open (f := fn8_readMore 1) S e8 e7 (by omega) hr hk
    rw [g3, bI_f, if_pos rfl]
    have J1 := JT_x g2 (k := 55) (j := 6) (v := 1) (by omega)
    have z1 : ZX x (up2 x 55 6 1) := ZX_u (ZX_rf x) (by omega)
    have y1 : ZM m m1 := ZM_tr (ZM_u (ZM_rf m) (by omega)) (ZM_F g1)
    cases eo : okT t n (bhT t n s)
    · obtain ⟨x1, p, f1, f2, f3, f4, f5⟩ := num_f (lo := 0) (hi := 9) J1 (by omega) (by omega) eo
      have f3' : fn5_readNumber 0 9 (up2 x 55 6 1) = some (0, x1) := f3
      rw [f3', if_neg (by simp)]
      exact ⟨x1, m1, ZX_tr z1 (ZX_F f1), y1, rfl, Or.inl ⟨1, p, by omega, f2, rfl, f4, f5⟩⟩
    · obtain ⟨x1, m2, f1, f2, f3⟩ := num_j (lo := 0) (hi := 9) (sm := 0) J1 (by omega) (by omega) (by omega)
      rw [if_pos rfl]
      unfold fn8_readMore
      rw [if_pos n10, if_neg (show ¬ ¬ (1 : Int32) = 1 from fun z => z rfl)]
      rcases f3 with ⟨e, p, he, hp, c1, c2, c3, c4⟩ | ⟨v, v1, v2, c1, c2, ⟨c3, -⟩ | ⟨c3, c4, s', c5, c6⟩⟩
      · have c1' : fn5_readNumber 0 9 (up2 x 55 6 1) = some (0, x1) := c1
        have c2' : fn8_other 0 9 0 m1 = some (nI 0, m2) := c2
        have hB : BR (up2 m2 3 56 (nI 0 - 1)) e p := BR_u c4 (by omega)
        rw [c1', c2']
        simp only [bp]
        rw [if_pos (show ib 56 57 = true by decide), c56]
        simp only [bp]
        rw [m_72B hB he]
        exact ⟨x1, _, ZX_tr z1 (ZX_F f1), ZM_u (ZM_tr y1 (ZM_F f2)) (by omega), rfl, Or.inl ⟨e, p, he, hp, rfl, c3, hB⟩⟩
      · rw [Nat.zero_testBit] at c3
        simp at c3
      · have c1' : fn5_readNumber 0 9 (up2 x 55 6 1) = some (1, x1) := c1
        have c4' : fn8_other 0 9 0 m1 = some (nI v, m2) := c4
        rw [c1', c4']
        simp only [bp]
        rw [if_pos n10, c2, if_pos (show ib 56 57 = true by decide), c56]
        simp only [bp]
        have J2 := JT_m (JT_x c6 (k := 12) (j := 14) (v := nI v) (by omega)) (k := 3) (j := 56) (v := nI v - 1) (by omega)
        obtain ⟨x3, m3, h1, h2, h3, h4⟩ := stop_j J2
        have Fa : FX (up2 (up2 x 55 6 1) 12 14 (nI v)) x3 := FX_tr (FX_c f1) h1
        have Fb : FM (up2 (up2 m 0 8 (nI (to ||| 2 ^ 1))) 3 56 (nI v - 1)) m3 := FM_tr (FM_c (FM_tr g1 f2)) h2
        have z3 : ZX x x3 := ZX_tr (ZX_u z1 (by omega)) (ZX_F Fa)
        have y3 : ZM m m3 := ZM_tr (ZM_u (ZM_u (ZM_rf m) (by omega)) (by omega)) (ZM_F Fb)
        rw [h3]
        rcases h4 with ⟨e, p, he, hp, k1, k2, k3⟩ | ⟨s2, k0, k1, k2⟩
        · rw [k1, isb_0]
          exact ⟨x3, m3, z3, y3, rfl, Or.inl ⟨e, p, he, hp, rfl, k2, k3⟩⟩
        · rw [k1, isb_1]
          refine ⟨x3, m3, z3, y3, rfl, Or.inr ⟨s2, by omega, rfl, k2, DD_F (DD_fee d1 d2 d3 d4 d5 d6 v2) Fa Fb, ?_⟩⟩
          rw [Fa.2 1 (by omega) (by omega) (by omega) (by omega) (by omega) (by omega), up2_cell (by omega), up2_place (by omega)]
  · rw [eb, if_pos rfl] at hr
    obtain ⟨m1, g1, g2, g3⟩ := line_shut (f := fn8_readMore 1) S e8 e7 (by omega) (by omega) hr
    rw [g3, bI_t, if_neg n10, fail_x]
    exact ⟨_, m1, ZX_u (ZX_u (ZX_rf x) (by omega)) (by omega), ZM_tr (ZM_u (ZM_rf m) (by omega)) (ZM_F g1), rfl, Or.inl ⟨4, hdT t n s, by omega, by omega, rfl, FA_up rfl S.2.2.2.2.1, g2⟩⟩
