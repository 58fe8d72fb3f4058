/-! text: bytes and tokens -/
def ck (t : Nat) : Nat := if 97 ≤ t ∧ t ≤ 122 then 1 else if 48 ≤ t ∧ t ≤ 57 then 2 else if t = 59 then 3 else 4
def by8 (t : Nat) : Int32 := (nI t).toInt8.toInt32
def v28 (b : Int32) : Int32 := if ¬ b = 59 then 4 else 3
def v14 (b : Int32) : Int32 := if b < 48 then v28 b else if 57 < b then v28 b else 2
def vt (b : Int32) : Int32 := if b < 97 then v14 b else if 122 < b then v14 b else 1
theorem vt_ck : ∀ t, t < 256 → vt (by8 t) = nI (ck t) := by decide +kernel
theorem by_val : ∀ t, t < 256 → (t < 128 ∧ by8 t = nI t) ∨ (128 ≤ t ∧ by8 t < 0) := by decide +kernel
theorem by_eq (t : Nat) (ht : t < 256) (l : Nat) (hl : l < 128) : by8 t = nI l ↔ t = l := by
  rcases by_val t ht with ⟨h1, h2⟩ | ⟨h1, h2⟩
  · rw [h2, eq_n (by omega) (by omega)]
  · constructor
    · intro h
      rw [h] at h2
      exact absurd h2 (nI_pos (by omega))
    · intro h
      omega
theorem ck_dig {t : Nat} (h : ck t = 2) : 48 ≤ t ∧ t ≤ 57 := by
  unfold ck at h
  split at h
  · omega
  · split at h
    · assumption
    · split at h <;> omega
theorem by_dig (t : Nat) (ht : t < 256) (h : ck t = 2) : by8 t = nI t := by
  have := ck_dig h
  rcases by_val t ht with ⟨h1, h2⟩ | ⟨h1, h2⟩
  · exact h2
  · omega
theorem ck_name {t : Nat} : ck t = 1 ↔ 97 ≤ t ∧ t ≤ 122 := by
  unfold ck
  split
  · simp [*]
  · split
    · simp [*]
    · split <;> simp [*]
theorem ck_num {t : Nat} : ck t = 2 ↔ 48 ≤ t ∧ t ≤ 57 := by
  unfold ck
  split
  · constructor
    · intro h; omega
    · intro h; omega
  · split
    · simp [*]
    · split <;> simp [*]
theorem ck_le (t : Nat) : 1 ≤ ck t ∧ ck t ≤ 4 := by
  unfold ck
  split
  · omega
  · split
    · omega
    · split <;> omega
theorem x_begun {b : Int32} {w : Mem} : fn5_tokenBegunBy b w = some (vt b, w) := by
  unfold fn5_tokenBegunBy fn5_tokenBegunBy_14 fn5_tokenBegunBy_28 vt v14 v28
  by_cases h1 : b < 97 <;> by_cases h2 : 122 < b <;> by_cases h3 : b < 48 <;> by_cases h4 : 57 < b <;> by_cases h5 : b = 59 <;> simp [h1, h2, h3, h4, h5]
def skp (t : Nat → Nat) : Nat → Nat → Nat
  | 0, s => s
  | d + 1, s => if t s = 32 then skp t d (s + 1) else s
def ext (t : Nat → Nat) (k : Nat) : Nat → Nat → Nat
  | 0, s => s
  | d + 1, s => if ck (t s) = k then ext t k d (s + 1) else s
theorem skp_in {t : Nat → Nat} : ∀ d s, s ≤ skp t d s ∧ skp t d s ≤ s + d := by
  intro d
  induction d with
  | zero => intro s; exact ⟨Nat.le_refl _, Nat.le_refl _⟩
  | succ d ih =>
    intro s
    have := ih (s + 1)
    rw [skp]
    split <;> omega
theorem ext_in {t : Nat → Nat} {k : Nat} : ∀ d s, s ≤ ext t k d s ∧ ext t k d s ≤ s + d ∧ ∀ i, s ≤ i → i < ext t k d s → ck (t i) = k := by
  intro d
  induction d with
  | zero => intro s; exact ⟨Nat.le_refl _, Nat.le_refl _, fun i h1 h2 => by rw [ext] at h2; omega⟩
  | succ d ih =>
    intro s
    obtain ⟨h1, h2, h3⟩ := ih (s + 1)
    rw [ext]
    split
    · refine ⟨by omega, by omega, fun i g1 g2 => ?_⟩
      by_cases e : i = s
      · subst e
        assumption
      · exact h3 i (by omega) g2
    · exact ⟨by omega, by omega, fun i g1 g2 => by omega⟩
def hdT (t : Nat → Nat) (n s : Nat) : Nat := skp t (n - s) s
def kdT (t : Nat → Nat) (n s : Nat) : Nat := if hdT t n s = n then 0 else ck (t (hdT t n s))
def bhT (t : Nat → Nat) (n s : Nat) : Nat := if hdT t n s = n then n else if kdT t n s = 1 ∨ kdT t n s = 2 then ext t (kdT t n s) (n - (hdT t n s + 1)) (hdT t n s + 1) else hdT t n s + 1
def okT (t : Nat → Nat) (n s : Nat) : Bool := !(decide (kdT t n s = 4)) && !(decide (kdT t n s = 2) && decide (2 < bhT t n s - hdT t n s))
def pvl (t : Nat → Nat) (h s : Nat) : Nat := if s = h then 0 else if s = h + 1 then t h - 48 else 10 * (t h - 48) + (t (h + 1) - 48)
def nvT (t : Nat → Nat) (n s : Nat) : Nat := pvl t (hdT t n s) (bhT t n s)
theorem hd_in {t : Nat → Nat} {n s : Nat} (h : s ≤ n) : s ≤ hdT t n s ∧ hdT t n s ≤ n := by
  have := skp_in (t := t) (n - s) s
  unfold hdT
  omega
theorem bh_in {t : Nat → Nat} {n s : Nat} (h : s ≤ n) : hdT t n s ≤ bhT t n s ∧ bhT t n s ≤ n ∧ (hdT t n s < n → hdT t n s < bhT t n s) := by
  have h1 := hd_in (t := t) h
  unfold bhT
  split
  · omega
  · split
    · have := ext_in (t := t) (k := kdT t n s) (n - (hdT t n s + 1)) (hdT t n s + 1)
      omega
    · omega
theorem kd_le {t : Nat → Nat} {n s : Nat} : kdT t n s ≤ 4 := by
  unfold kdT
  split
  · omega
  · have := ck_le (t (hdT t n s))
    omega
def FX (x x' : Mem) : Prop := (∀ k, k ≠ 55 → x' k = x k) ∧ ∀ j, j ≠ 2 → j ≠ 3 → j ≠ 7 → j ≠ 8 → j ≠ 9 → j ≠ 10 → x' 55 j = x 55 j
def FM (m m' : Mem) : Prop := (∀ k, k ≠ 0 → m' k = m k) ∧ ∀ j, j < 16 ∨ 21 < j → m' 0 j = m 0 j
theorem FX_rf (x : Mem) : FX x x := ⟨fun _ _ => rfl, fun _ _ _ _ _ _ _ => rfl⟩
theorem FM_rf (m : Mem) : FM m m := ⟨fun _ _ => rfl, fun _ _ => rfl⟩
theorem FX_tr {x y z : Mem} (h : FX x y) (g : FX y z) : FX x z := ⟨fun k hk => by rw [g.1 k hk, h.1 k hk], fun j a b c d e f => by rw [g.2 j a b c d e f, h.2 j a b c d e f]⟩
theorem FM_tr {x y z : Mem} (h : FM x y) (g : FM y z) : FM x z := ⟨fun k hk => by rw [g.1 k hk, h.1 k hk], fun j a => by rw [g.2 j a, h.2 j a]⟩
theorem FX_up {x y : Mem} (h : FX x y) {j : Nat} {v : Int32} (hj : j = 2 ∨ j = 3 ∨ j = 7 ∨ j = 8 ∨ j = 9 ∨ j = 10) : FX x (up2 y 55 j v) := ⟨fun k hk => by rw [up2_cell hk, h.1 k hk], fun i a b c d e f => by rw [up2_place (by omega), h.2 i a b c d e f]⟩
theorem FM_up {x y : Mem} (h : FM x y) {j : Nat} {v : Int32} (hj : 16 ≤ j ∧ j ≤ 21) : FM x (up2 y 0 j v) := ⟨fun k hk => by rw [up2_cell hk, h.1 k hk], fun i a => by rw [up2_place (by omega), h.2 i a]⟩
def TpX (x : Mem) (n : Nat) (t : Nat → Nat) : Prop := n ≤ 320 ∧ x 53 1 = nI n ∧ ∀ i, i < n → t i < 256 ∧ x 54 i = by8 (t i)
def TpM (m : Mem) (n : Nat) (t : Nat → Nat) : Prop := n ≤ 320 ∧ m 0 14 = nI n ∧ (∀ i, i < n → t i < 256 ∧ m 6 i = nI (t i)) ∧ RC m
theorem TpX_k {x x' : Mem} {n : Nat} {t : Nat → Nat} (h : TpX x n t) (h1 : x' 53 = x 53) (h2 : x' 54 = x 54) : TpX x' n t := by
  unfold TpX
  rw [h1, h2]
  exact h
theorem TpM_k {m m' : Mem} {n : Nat} {t : Nat → Nat} (h : TpM m n t) (h1 : m' 0 14 = m 0 14) (h2 : m' 6 = m 6) (h3 : m' 7 = m 7) (h4 : m' 8 = m 8) : TpM m' n t := by
  unfold TpM RC
  rw [h1, h2, h3, h4]
  exact h
theorem TpX_F {x x' : Mem} {n : Nat} {t : Nat → Nat} (h : TpX x n t) (f : FX x x') : TpX x' n t := TpX_k h (f.1 _ (by omega)) (f.1 _ (by omega))
theorem TpM_F {m m' : Mem} {n : Nat} {t : Nat → Nat} (h : TpM m n t) (f : FM m m') : TpM m' n t := TpM_k h (f.2 _ (by omega)) (f.1 _ (by omega)) (f.1 _ (by omega)) (f.1 _ (by omega))
theorem x_skipL {x : Mem} {n : Nat} {t : Nat → Nat} (hT : TpX x n t) {k : Mem → Option (Int32 × Mem)} : ∀ d s f, s + d = n → d < f → fn5_readToken_8 k f (up2 x 55 8 (nI s)) = k (up2 x 55 8 (nI (skp t d s))) := by
  obtain ⟨hn, h1, h2⟩ := hT
  intro d
  induction d with
  | zero =>
    intro s f hs hf
    obtain ⟨f, rfl⟩ : ∃ g, f = g + 1 := ⟨f - 1, by omega⟩
    rw [fn5_readToken_8, up2_cell (k' := 53) (by omega), up2_same, h1, if_pos (nI_le (by omega) (by omega))]
    rfl
  | succ d ih =>
    intro s f hs hf
    obtain ⟨f, rfl⟩ : ∃ g, f = g + 1 := ⟨f - 1, by omega⟩
    obtain ⟨b1, b2⟩ := h2 s (by omega)
    rw [fn5_readToken_8, up2_cell (k' := 53) (by omega), up2_cell (k' := 54) (by omega), up2_same, h1, if_neg (nI_ge (by omega) (by omega)), if_pos (ib_y (by omega) (by omega)), cl_n (by omega), b2, up2_up2, show nI s + 1 = nI (s + 1) from nI_add s 1, skp]
    have e := by_eq (t s) b1 32 (by omega)
    by_cases es : t s = 32
    · rw [if_neg (show ¬ ¬ by8 (t s) = 32 from fun z => z (e.mpr es)), if_pos es]
      exact ih (s + 1) f (by omega) (by omega)
    · rw [if_pos (show ¬ by8 (t s) = 32 from fun z => es (e.mp z)), if_neg es]
theorem x_extL {x : Mem} {n kk : Nat} {t : Nat → Nat} (hT : TpX x n t) (h7 : x 55 7 = nI kk) (hk : kk ≤ 4) {k : Mem → Option (Int32 × Mem)} : ∀ d s f, s + d = n → d < f → fn5_readToken_132 1 k f (up2 x 55 9 (nI s)) = k (up2 x 55 9 (nI (ext t kk d s))) := by
  obtain ⟨hn, h1, h2⟩ := hT
  intro d
  induction d with
  | zero =>
    intro s f hs hf
    obtain ⟨f, rfl⟩ : ∃ g, f = g + 1 := ⟨f - 1, by omega⟩
    rw [fn5_readToken_132, if_neg n10, up2_cell (k' := 53) (by omega), up2_same, h1, if_pos (nI_le (by omega) (by omega))]
    rfl
  | succ d ih =>
    intro s f hs hf
    obtain ⟨f, rfl⟩ : ∃ g, f = g + 1 := ⟨f - 1, by omega⟩
    obtain ⟨b1, b2⟩ := h2 s (by omega)
    have hc := ck_le (t s)
    rw [fn5_readToken_132, if_neg n10, up2_cell (k' := 53) (by omega), up2_cell (k' := 54) (by omega), up2_same, h1, if_neg (nI_ge (by omega) (by omega)), if_pos (ib_y (by omega) (by omega)), cl_n (by omega), b2, x_begun, vt_ck _ b1]
    simp only [bp]
    rw [up2_same, up2_place (show 7 ≠ 9 by omega), h7, up2_up2, show nI s + 1 = nI (s + 1) from nI_add s 1, ext]
    by_cases es : ck (t s) = kk
    · rw [if_neg (show ¬ ¬ nI (ck (t s)) = nI kk by rw [es]; exact fun z => z rfl), if_pos es]
      exact ih (s + 1) f (by omega) (by omega)
    · rw [if_pos (show ¬ nI (ck (t s)) = nI kk by rw [eq_n (by omega) (by omega)]; exact es), if_neg es]
theorem x_185 {x : Mem} {k h b : Nat} (h7 : x 55 7 = nI k) (h8 : x 55 8 = nI h) (h9 : x 55 9 = nI b) (hk : k ≤ 4) (hh : h ≤ b) (hb : b ≤ 320) : fn5_readToken_185 x = some (bI (!(decide (k = 4)) && !(decide (k = 2) && decide (2 < b - h))), if k = 4 ∨ (k = 2 ∧ 2 < b - h) then up2 (up2 x 55 2 1) 55 3 (nI h) else x) := by
  unfold fn5_readToken_185 fn5_readToken_210 fn5_readToken_211 fn5_readToken_224 fn5_readToken_236 fn5_fail
  rw [h7, h8, h9, sub_n hh, show (2 : Int32) = nI 2 from rfl, show (4 : Int32) = nI 4 from rfl]
  by_cases e4 : k = 4
  · subst e4
    rw [if_pos (by decide)]
    rfl
  · by_cases e2 : k = 2
    · subst e2
      rw [if_neg (show ¬ ¬ nI 2 = nI 2 from fun z => z rfl), if_neg (show ¬ nI 2 = nI 4 by decide)]
      by_cases eb : 2 < b - h
      · rw [if_neg (nI_ge eb (by omega)), if_neg n10, if_pos (Or.inr ⟨rfl, eb⟩), decide_eq_true eb]
        rfl
      · rw [if_pos (nI_le (by omega) (by omega)), if_pos rfl, if_neg (by omega), decide_eq_false eb]
        rfl
    · rw [if_pos (by rw [eq_n (by omega) (by omega)]; exact e2), if_neg (by rw [eq_n (by omega) (by omega)]; exact e4), if_pos rfl, if_neg (by omega), decide_eq_false e4, decide_eq_false e2]
      rfl
theorem x_readToken {x : Mem} {n s : Nat} {t : Nat → Nat} (hT : TpX x n t) (hs : s ≤ n) (h9 : x 55 9 = nI s) : ∃ x', fn5_readToken x = some (bI (okT t n s), x') ∧ FX x x' ∧ x' 55 7 = nI (kdT t n s) ∧ x' 55 8 = nI (hdT t n s) ∧ x' 55 9 = nI (bhT t n s) ∧ (okT t n s = true → x' 55 2 = x 55 2) ∧ (okT t n s = false → x' 55 2 = 1 ∧ x' 55 3 = nI (hdT t n s)) := by
  obtain ⟨hd1, hd2⟩ := hd_in (t := t) hs
  obtain ⟨bh1, bh2, bh3⟩ := bh_in (t := t) hs
  have hn := hT.1
  unfold fn5_readToken
  rw [h9, x_skipL hT (n - s) s 1000 (by omega) (by omega), show skp t (n - s) s = hdT t n s from rfl]
  unfold fn5_readToken_52 fn5_readToken_126 fn5_readToken_131
  have hx1 : ∀ (y : Mem) (h : Int32), (up2 y 55 9 h) 53 = y 53 := fun y h => up2_cell (by omega)
  rw [up2_same, up2_place (show 8 ≠ 9 by omega), up2_same, up2_cell (k' := 53) (by omega), up2_cell (k' := 53) (by omega), up2_cell (k' := 54) (by omega), up2_cell (k' := 54) (by omega), hT.2.1]
  by_cases e : hdT t n s = n
  · have ek : kdT t n s = 0 := by
      unfold kdT
      rw [if_pos e]
    have eb : bhT t n s = hdT t n s := by
      unfold bhT
      rw [if_pos e, e]
    have eo : okT t n s = true := by
      unfold okT
      rw [ek]
      rfl
    rw [if_neg (nI_nlt (by omega) (by omega)), eo, ek, eb]
    refine ⟨_, rfl, FX_up (FX_up (FX_up (FX_rf x) (by omega)) (by omega)) (by omega), up2_same, ?_, ?_, fun _ => ?_, fun h => by simp at h⟩
    · rw [up2_place (by omega), up2_place (by omega), up2_same]
    · rw [up2_place (by omega), up2_same]
    · rw [up2_place (by omega), up2_place (by omega), up2_place (by omega)]
  · have ek : kdT t n s = ck (t (hdT t n s)) := by
      unfold kdT
      rw [if_neg e]
    have hc := ck_le (t (hdT t n s))
    obtain ⟨b1, b2⟩ := hT.2.2 (hdT t n s) (by omega)
    rw [if_pos (nI_lt (by omega) (by omega)), if_pos (ib_y (by omega) (by omega)), cl_n (by omega), b2, x_begun, vt_ck _ b1, ← ek]
    simp only [bp]
    generalize hy : up2 (up2 (up2 x 55 8 (nI (hdT t n s))) 55 9 (nI (hdT t n s))) 55 7 (nI (kdT t n s)) = y
    have y7 : y 55 7 = nI (kdT t n s) := by rw [← hy, up2_same]
    have y8 : y 55 8 = nI (hdT t n s) := by rw [← hy, up2_place (by omega), up2_place (by omega), up2_same]
    have y9 : y 55 9 = nI (hdT t n s) := by rw [← hy, up2_place (by omega), up2_same]
    have y2 : y 55 2 = x 55 2 := by rw [← hy, up2_place (by omega), up2_place (by omega), up2_place (by omega)]
    have yF : FX x y := by
      rw [← hy]
      exact FX_up (FX_up (FX_up (FX_rf x) (by omega)) (by omega)) (by omega)
    have yT : TpX y n t := TpX_F hT yF
    rw [y9, show nI (hdT t n s) + 1 = nI (hdT t n s + 1) from nI_add _ 1, up2_place (show 7 ≠ 9 by omega), y7, show (2 : Int32) = nI 2 from rfl, show (1 : Int32) = nI 1 from rfl]
    have fin : fn5_readToken_185 (up2 y 55 9 (nI (bhT t n s))) = some (bI (okT t n s), if kdT t n s = 4 ∨ (kdT t n s = 2 ∧ 2 < bhT t n s - hdT t n s) then up2 (up2 (up2 y 55 9 (nI (bhT t n s))) 55 2 1) 55 3 (nI (hdT t n s)) else (up2 y 55 9 (nI (bhT t n s)))) := x_185 (by rw [up2_place (by omega)]; exact y7) (by rw [up2_place (by omega)]; exact y8) up2_same kd_le bh1 (by omega)
    have fin2 : ∃ x', fn5_readToken_185 (up2 y 55 9 (nI (bhT t n s))) = some (bI (okT t n s), x') ∧ FX x x' ∧ x' 55 7 = nI (kdT t n s) ∧ x' 55 8 = nI (hdT t n s) ∧ x' 55 9 = nI (bhT t n s) ∧ (okT t n s = true → x' 55 2 = x 55 2) ∧ (okT t n s = false → x' 55 2 = 1 ∧ x' 55 3 = nI (hdT t n s)) := by
      refine ⟨_, fin, ?_⟩
      by_cases eb : kdT t n s = 4 ∨ (kdT t n s = 2 ∧ 2 < bhT t n s - hdT t n s)
      · have eo : okT t n s = false := by
          unfold okT
          rcases eb with e | ⟨e1, e2⟩
          · rw [e]
            rfl
          · rw [e1, decide_eq_true e2]
            rfl
        rw [if_pos eb, eo]
        refine ⟨FX_up (FX_up (FX_up yF (by omega)) (by omega)) (by omega), ?_, ?_, ?_, fun h => by simp at h, fun _ => ⟨?_, up2_same⟩⟩
        · rw [up2_place (by omega), up2_place (by omega), up2_place (by omega)]; exact y7
        · rw [up2_place (by omega), up2_place (by omega), up2_place (by omega)]; exact y8
        · rw [up2_place (by omega), up2_place (by omega), up2_same]
        · rw [up2_place (by omega), up2_same]
      · have eo : okT t n s = true := by
          unfold okT
          rw [decide_eq_false (show ¬ kdT t n s = 4 by omega)]
          by_cases e2 : kdT t n s = 2
          · rw [decide_eq_false (show ¬ 2 < bhT t n s - hdT t n s by omega), Bool.and_false]
            rfl
          · rw [decide_eq_false e2]
            rfl
        rw [if_neg eb, eo]
        refine ⟨FX_up yF (by omega), ?_, ?_, up2_same, fun _ => ?_, fun h => by simp at h⟩
        · rw [up2_place (by omega)]; exact y7
        · rw [up2_place (by omega)]; exact y8
        · rw [up2_place (by omega)]; exact y2
    have long : (kdT t n s = 1 ∨ kdT t n s = 2) → fn5_readToken_132 1 (fun w_132 => fn5_readToken_185 w_132) 1000 (up2 y 55 9 (nI (hdT t n s + 1))) = fn5_readToken_185 (up2 y 55 9 (nI (bhT t n s))) := by
      intro h
      rw [x_extL yT y7 kd_le (n - (hdT t n s + 1)) (hdT t n s + 1) 1000 (by omega) (by omega)]
      unfold bhT
      rw [if_neg e, if_pos h]
    by_cases e1 : kdT t n s = 1
    · rw [if_pos (by rw [e1])]
      have := long (Or.inl e1)
      rw [show nI 1 = (1 : Int32) from rfl, this]
      exact fin2
    · rw [if_neg (by rw [eq_n (by omega) (by omega)]; exact e1)]
      by_cases e2 : kdT t n s = 2
      · rw [if_neg (show ¬ ¬ nI (kdT t n s) = nI 2 by rw [e2]; exact fun z => z rfl)]
        have := long (Or.inr e2)
        rw [show nI 1 = (1 : Int32) from rfl, this]
        exact fin2
      · rw [if_pos (by rw [eq_n (by omega) (by omega)]; exact e2), show (1000 : Nat) = 999 + 1 from rfl, fn5_readToken_132, if_pos rfl]
        have : hdT t n s + 1 = bhT t n s := by
          unfold bhT
          rw [if_neg e, if_neg (by omega)]
        rw [this]
        exact fin2
