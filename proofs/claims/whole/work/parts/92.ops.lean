/-! text: both sides, token by token -/
theorem FX_c {x y : Mem} (h : FX x y) {k j : Nat} {v : Int32} : FX (up2 x k j v) (up2 y k j v) := by
  refine ⟨fun k' hk => ?_, fun j' a b c d e f => ?_⟩
  · funext i
    rw [up2_at, up2_at, h.1 k' hk]
  · rw [up2_at, up2_at, h.2 j' a b c d e f]
theorem FM_c {x y : Mem} (h : FM x y) {k j : Nat} {v : Int32} : FM (up2 x k j v) (up2 y k j v) := by
  refine ⟨fun k' hk => ?_, fun j' a => ?_⟩
  · funext i
    rw [up2_at, up2_at, h.1 k' hk]
  · rw [up2_at, up2_at, h.2 j' a]
theorem TK_u {m : Mem} {t : Nat → Nat} {n s : Nat} (h : TK m t n s) {k j : Nat} {v : Int32} (hk : k ≠ 0 ∨ j < 16 ∨ 21 < j) : TK (up2 m k j v) t n s := by
  have r : ∀ i, 16 ≤ i → i ≤ 21 → up2 m k j v 0 i = m 0 i := fun i h1 h2 => by rw [up2_at, if_neg (by omega)]
  unfold TK at h ⊢
  rw [r 18 (by omega) (by omega), r 19 (by omega) (by omega), r 20 (by omega) (by omega), r 16 (by omega) (by omega), r 21 (by omega) (by omega), r 17 (by omega) (by omega)]
  exact h
theorem BR_u {m : Mem} {e p : Nat} (h : BR m e p) {k j : Nat} {v : Int32} (hk : k ≠ 0 ∨ j < 16 ∨ 21 < j) : BR (up2 m k j v) e p := by
  have r : ∀ i, 16 ≤ i → i ≤ 21 → up2 m k j v 0 i = m 0 i := fun i h1 h2 => by rw [up2_at, if_neg (by omega)]
  unfold BR at h ⊢
  rw [r 16 (by omega) (by omega), r 17 (by omega) (by omega)]
  exact h
/-- both stand ahead of the token at s; the reference has read it -/
def JT (x m : Mem) (t : Nat → Nat) (n s : Nat) : Prop := TpX x n t ∧ TpM m n t ∧ s ≤ n ∧ x 55 9 = nI s ∧ x 55 2 = 0 ∧ TK m t n s
/-- both have read the token at s, and it is one -/
def JS (x m : Mem) (t : Nat → Nat) (n s : Nat) : Prop := TpX x n t ∧ TpM m n t ∧ s ≤ n ∧ x 55 7 = nI (kdT t n s) ∧ x 55 8 = nI (hdT t n s) ∧ x 55 9 = nI (bhT t n s) ∧ x 55 2 = 0 ∧ TK m t n s ∧ okT t n s = true
theorem JT_x {x m : Mem} {t : Nat → Nat} {n s : Nat} (J : JT x m t n s) {k j : Nat} {v : Int32} (hk : k < 53 ∨ (k = 55 ∧ (j = 1 ∨ j = 5 ∨ j = 6))) : JT (up2 x k j v) m t n s := by
  obtain ⟨a1, a2, a3, a4, a5, a6⟩ := J
  refine ⟨TpX_k a1 (up2_cell (by omega)) (up2_cell (by omega)), a2, a3, ?_, ?_, a6⟩
  · rw [up2_at, if_neg (by omega)]; exact a4
  · rw [up2_at, if_neg (by omega)]; exact a5
theorem JT_m {x m : Mem} {t : Nat → Nat} {n s : Nat} (J : JT x m t n s) {k j : Nat} {v : Int32} (hk : (3 ≤ k ∧ k ≤ 5) ∨ (k = 0 ∧ 6 ≤ j ∧ j ≤ 11)) : JT x (up2 m k j v) t n s := by
  obtain ⟨a1, a2, a3, a4, a5, a6⟩ := J
  refine ⟨a1, TpM_k a2 ?_ (up2_cell (by omega)) (up2_cell (by omega)) (up2_cell (by omega)), a3, a4, a5, TK_u a6 (by omega)⟩
  rw [up2_at, if_neg (by omega)]
theorem JS_x {x m : Mem} {t : Nat → Nat} {n s : Nat} (J : JS x m t n s) {k j : Nat} {v : Int32} (hk : k < 53 ∨ (k = 55 ∧ (j = 1 ∨ j = 5 ∨ j = 6))) : JS (up2 x k j v) m t n s := by
  obtain ⟨a1, a2, a3, a4, a5, a6, a7, a8⟩ := J
  refine ⟨TpX_k a1 (up2_cell (by omega)) (up2_cell (by omega)), a2, a3, ?_, ?_, ?_, ?_, a8⟩
  · rw [up2_at, if_neg (by omega)]; exact a4
  · rw [up2_at, if_neg (by omega)]; exact a5
  · rw [up2_at, if_neg (by omega)]; exact a6
  · rw [up2_at, if_neg (by omega)]; exact a7
theorem rn_0 {t : Nat → Nat} {n s lo hi : Nat} (h : rnT t n s lo hi = 0) : okT t n s = true ∧ kdT t n s = 2 ∧ lo ≤ nvT t n s ∧ nvT t n s ≤ hi := by
  unfold rnT at h
  cases eo : okT t n s
  · rw [if_pos eo] at h; omega
  · rw [if_neg (by rw [eo]; simp)] at h
    by_cases e2 : kdT t n s = 2
    · rw [if_neg (fun z => z e2)] at h
      by_cases e3 : nvT t n s < lo ∨ hi < nvT t n s
      · rw [if_pos e3] at h; omega
      · exact ⟨rfl, e2, by omega, by omega⟩
    · rw [if_pos e2] at h; omega
theorem rn_le {t : Nat → Nat} {n s lo hi : Nat} (h : rnT t n s lo hi ≠ 0) : 1 ≤ rnT t n s lo hi ∧ rnT t n s lo hi ≤ 9 := by
  refine ⟨by omega, ?_⟩
  unfold rnT
  split
  · omega
  · split
    · omega
    · split <;> omega
theorem bh_lt {t : Nat → Nat} {n s : Nat} (hs : s ≤ n) (hk : kdT t n s ≠ 0) : s < bhT t n s ∧ bhT t n s ≤ n := by
  have h1 := hd_in (t := t) hs
  have h2 := bh_in (t := t) hs
  have h3 := kd_lt hs hk
  omega
/-- a number, on both sides -/
theorem num_j {x m : Mem} {t : Nat → Nat} {n s lo hi sm : Nat} (J : JT x m t n s) (hl : lo ≤ 1) (hh : hi ≤ 99) (hsm : sm < 64) : ∃ x' m', FX x x' ∧ FM m m' ∧ ((∃ e p, (1 ≤ e ∧ e ≤ 9) ∧ p ≤ 320 ∧ fn5_readNumber (nI lo) (nI hi) x = some (0, x') ∧ fn8_other (nI lo) (nI hi) (nI sm) m = some (nI lo, m') ∧ FA x' e p ∧ BR m' e p) ∨ (∃ v, lo ≤ v ∧ v ≤ hi ∧ fn5_readNumber (nI lo) (nI hi) x = some (1, x') ∧ x' 55 10 = nI v ∧ ((sm.testBit v = true ∧ fn8_other (nI lo) (nI hi) (nI sm) m = some (nI lo, m') ∧ ∃ p, p ≤ 320 ∧ x' 55 8 = nI p ∧ BR m' 4 p) ∨ (sm.testBit v = false ∧ fn8_other (nI lo) (nI hi) (nI sm) m = some (nI v, m') ∧ ∃ s', s < s' ∧ JT x' m' t n s')))) := by
  obtain ⟨hT, hM, hs, h9, h2, hK⟩ := J
  obtain ⟨x', a1, a2⟩ := x_readNumber hT hs h9 hl hh
  obtain ⟨m', b1, b2⟩ := m_other hM hs hK hl hh hsm
  have hd := hd_in (t := t) hs
  have hn := hT.1
  refine ⟨x', m', a1, b1, ?_⟩
  rcases a2 with ⟨c0, c1, c2⟩ | ⟨c0, c1, c2, c3, c4, c5⟩
  · rcases b2 with ⟨d0, d1, d2⟩ | ⟨d0, -⟩ | ⟨d0, -⟩
    · exact Or.inl ⟨_, _, rn_le c0, by omega, c1, d1, c2, d2⟩
    · exact absurd d0 c0
    · exact absurd d0 c0
  · obtain ⟨r1, r2, r3, r4⟩ := rn_0 c0
    rcases b2 with ⟨d0, -⟩ | ⟨d0, d1, d2, d3⟩ | ⟨d0, d1, d2, d3⟩
    · exact absurd c0 d0
    · exact Or.inr ⟨nvT t n s, r3, r4, c1, c5, Or.inl ⟨d1, d2, hdT t n s, by omega, c3, d3⟩⟩
    · have hb := bh_lt hs (show kdT t n s ≠ 0 by omega)
      exact Or.inr ⟨nvT t n s, r3, r4, c1, c5, Or.inr ⟨d1, d2, bhT t n s, hb.1, TpX_F hT a1, TpM_F hM b1, hb.2, c4, c2.trans h2, d3⟩⟩
/-- no token where a number is looked for -/
theorem num_f {x m : Mem} {t : Nat → Nat} {n s lo hi : Nat} (J : JT x m t n s) (hl : lo ≤ 1) (hh : hi ≤ 99) (eo : okT t n s = false) : ∃ x' p, FX x x' ∧ p ≤ 320 ∧ fn5_readNumber (nI lo) (nI hi) x = some (0, x') ∧ FA x' 1 p ∧ BR m 1 p := by
  obtain ⟨hT, hM, hs, h9, h2, hK⟩ := J
  obtain ⟨x', a1, a2⟩ := x_readNumber hT hs h9 hl hh
  have hd := hd_in (t := t) hs
  have hn := hT.1
  rcases a2 with ⟨c0, c1, c2⟩ | ⟨c0, -⟩
  · have er : rnT t n s lo hi = 1 := by
      unfold rnT
      rw [if_pos eo]
    rw [er] at c2
    exact ⟨x', _, a1, by omega, c1, c2, hK.2.2.2.2 eo⟩
  · have := (rn_0 c0).1
    rw [eo] at this
    simp at this
theorem tok_j {x m : Mem} {t : Nat → Nat} {n s : Nat} (J : JT x m t n s) : ∃ x', FX x x' ∧ ((okT t n s = false ∧ fn5_readToken x = some (0, x') ∧ hdT t n s ≤ 320 ∧ FA x' 1 (hdT t n s) ∧ BR m 1 (hdT t n s)) ∨ (okT t n s = true ∧ fn5_readToken x = some (1, x') ∧ JS x' m t n s)) := by
  obtain ⟨hT, hM, hs, h9, h2, hK⟩ := J
  obtain ⟨x', a1, aF, a7, a8, a9, a2, a3⟩ := x_readToken hT hs h9
  have hd := hd_in (t := t) hs
  have hn := hT.1
  refine ⟨x', aF, ?_⟩
  cases eo : okT t n s
  · rw [eo] at a1
    exact Or.inl ⟨rfl, a1, by omega, a3 eo, hK.2.2.2.2 eo⟩
  · rw [eo] at a1
    exact Or.inr ⟨rfl, a1, TpX_F hT aF, hM, hs, a7, a8, a9, (a2 eo).trans h2, hK, eo⟩
theorem m_72B {m : Mem} {e p : Nat} (h : BR m e p) (he : 1 ≤ e ∧ e ≤ 9) : fn8_readLine_72 m = some (0, m) := by
  unfold fn8_readLine_72 fn8_readLine_92
  rw [if_pos (br_0 h he), m_stepB h he]
  rfl
theorem check_j {x m : Mem} {t : Nat → Nat} {n s : Nat} (J : JS x m t n s) : ∃ x' m', FX x x' ∧ FM m m' ∧ fn8_readLine_72 m = some (0, m') ∧ ((hdT t n s ≤ 320 ∧ kdT t n s ≠ 3 ∧ fn5_checkStop x = some (0, x') ∧ FA x' 2 (hdT t n s) ∧ BR m' 2 (hdT t n s)) ∨ (kdT t n s = 3 ∧ fn5_checkStop x = some (1, x') ∧ s < bhT t n s ∧ JT x' m' t n (bhT t n s))) := by
  obtain ⟨hT, hM, hs, h7, h8, h9, h2, hK, eo⟩ := J
  have hd := hd_in (t := t) hs
  have hn := hT.1
  have hk := kd_le (t := t) (n := n) (s := s)
  have e4 : kdT t n s ≠ 4 := by
    intro z
    unfold okT at eo
    rw [z] at eo
    simp at eo
  obtain ⟨k1, k2, k3, k4, k5⟩ := hK
  obtain ⟨h16, -⟩ := k4 eo
  rw [if_neg e4] at k3
  unfold fn5_checkStop fn5_checkStop_20 fn8_readLine_72 fn5_fail
  rw [h7, h8, k3, if_neg (show ¬ ¬ m 0 16 = 0 from fun z => z h16)]
  by_cases e3 : kdT t n s = 3
  · have hb := bh_lt hs (show kdT t n s ≠ 0 by omega)
    obtain ⟨m', b1, b2, b3⟩ := m_step hM hb.2 h16 k1
    unfold fn8_readLine_92
    rw [b1, if_pos (by rw [e3]; rfl), if_pos (by rw [e3]; rfl)]
    exact ⟨x, m', FX_rf x, b2, rfl, Or.inr ⟨e3, rfl, hb.1, hT, TpM_F hM b2, hb.2, h9, h2, b3⟩⟩
  · have ne : ¬ nI (kdT t n s) = 3 := by
      rw [show (3 : Int32) = nI 3 from rfl, eq_n (by omega) (by omega)]
      exact e3
    rw [if_neg ne, if_neg ne, m_fails h16]
    simp only [bp]
    have hB : BR (up2 (up2 m 0 16 2) 0 17 (m 0 19)) 2 (hdT t n s) := br_up k2
    unfold fn8_readLine_92
    rw [m_stepB hB (by omega), if_pos trivial]
    refine ⟨_, _, FX_up (FX_up (FX_rf x) (by omega)) (by omega), FM_up (FM_up (FM_rf m) (by omega)) (by omega), rfl, Or.inl ⟨by omega, e3, rfl, ⟨?_, ?_⟩, hB⟩⟩
    · rw [up2_place (by omega), up2_same]; rfl
    · rw [up2_same]
theorem stop_j {x m : Mem} {t : Nat → Nat} {n s : Nat} (J : JT x m t n s) : ∃ x' m', FX x x' ∧ FM m m' ∧ fn8_readLine_72 m = some (0, m') ∧ ((∃ e p, (1 ≤ e ∧ e ≤ 9) ∧ p ≤ 320 ∧ fn5_readStop x = some (0, x') ∧ FA x' e p ∧ BR m' e p) ∨ (∃ s', s < s' ∧ fn5_readStop x = some (1, x') ∧ JT x' m' t n s')) := by
  obtain ⟨x1, a1, a2⟩ := tok_j J
  unfold fn5_readStop
  rcases a2 with ⟨b1, b2, b3, b4, b5⟩ | ⟨b1, b2, b3⟩
  · rw [b2]
    exact ⟨x1, m, a1, FM_rf m, m_72B b5 (by omega), Or.inl ⟨1, _, by omega, b3, rfl, b4, b5⟩⟩
  · rw [b2]
    simp only [bp]
    rw [if_neg n10]
    obtain ⟨x2, m2, c1, c2, c3, c4⟩ := check_j b3
    rcases c4 with ⟨d0, d1, d2, d3, d4⟩ | ⟨d1, d2, d3, d4⟩
    · rw [d2]
      exact ⟨x2, m2, FX_tr a1 c1, c2, c3, Or.inl ⟨2, _, by omega, d0, rfl, d3, d4⟩⟩
    · rw [d2]
      exact ⟨x2, m2, FX_tr a1 c1, c2, c3, Or.inr ⟨_, d3, rfl, d4⟩⟩
/-! the reference's room for a line -/
theorem room_86 {m : Mem} {t : Nat → Nat} {n s to nm : Nat} (hM : TpM m n t) (hs : s ≤ n) (hK : TK m t n s) (eo : okT t n s = true) (h8 : m 0 8 = nI to) (hto : to < 64) (hnm : nm < 6) : ∃ m', FM (up2 m 0 8 (nI (to ||| 2 ^ nm))) m' ∧ TpM m' n t ∧ TK m' t n (bhT t n s) ∧ fn8_hasRoom_86 (nI nm) m = some (bI (okT t n (bhT t n s)), m') := by
  have hb := bh_in (t := t) hs
  have hp := pow5 hnm
  have h16 := (hK.2.2.2.1 eo).1
  have hM2 : TpM (up2 m 0 8 (nI (to ||| 2 ^ nm))) n t := TpM_u hM (by omega)
  obtain ⟨m', b1, b2, b3⟩ := m_step hM2 hb.2.1 (by rw [up2_place (by omega)]; exact h16) (by rw [up2_place (by omega)]; exact hK.1)
  refine ⟨m', b2, TpM_F hM2 b2, b3, ?_⟩
  unfold fn8_hasRoom_86
  rw [h8, one_n nm (by omega), or_n (by omega) (by omega), b1]
  simp only [bp]
  cases e2 : okT t n (bhT t n s)
  · rw [(b3.2.2.2.2 e2).1, if_pos n10]
    rfl
  · rw [(b3.2.2.2.1 e2).1, if_neg (show ¬ ¬ (0 : Int32) = 0 from fun z => z rfl)]
    rfl
theorem room_86B {m : Mem} {to nm e p : Nat} (hB : BR m e p) (he : 1 ≤ e ∧ e ≤ 9) (h8 : m 0 8 = nI to) (hto : to < 64) (hnm : nm < 6) : fn8_hasRoom_86 (nI nm) m = some (0, up2 m 0 8 (nI (to ||| 2 ^ nm))) := by
  have hp := pow5 hnm
  have hB2 : BR (up2 m 0 8 (nI (to ||| 2 ^ nm))) e p := BR_u hB (by omega)
  unfold fn8_hasRoom_86
  rw [h8, one_n nm (by omega), or_n (by omega) (by omega), m_stepB hB2 he]
  simp only [bp]
  rw [if_pos (br_0 hB2 he)]
theorem room_fail {m : Mem} {t : Nat → Nat} {n s to nm e : Nat} (hK : TK m t n s) (eo : okT t n s = true) (h8 : m 0 8 = nI to) (hto : to < 64) (hnm : nm < 6) (he : 1 ≤ e ∧ e ≤ 9) : ∃ m', FM (up2 m 0 8 (nI (to ||| 2 ^ nm))) m' ∧ BR m' e (hdT t n s) ∧ (fn8_fails (nI e) m).bind (fun q => fn8_hasRoom_86 (nI nm) q.2) = some (0, m') := by
  have h16 := (hK.2.2.2.1 eo).1
  rw [m_fails h16]
  simp only [bp]
  have hB : BR (up2 (up2 m 0 16 (nI e)) 0 17 (m 0 19)) e (hdT t n s) := br_up hK.2.1
  have h8' : up2 (up2 m 0 16 (nI e)) 0 17 (m 0 19) 0 8 = nI to := by
    rw [up2_place (by omega), up2_place (by omega)]
    exact h8
  exact ⟨_, FM_c (FM_up (FM_up (FM_rf m) (by omega)) (by omega)), BR_u hB (by omega), room_86B hB he h8' hto hnm⟩
theorem room_told {m : Mem} {nm to : Nat} (hnm : nm ≤ 1) (h8 : m 0 8 = nI to) (hto : to < 64) : fn8_hasRoom (nI nm) m = if to.testBit nm = true then (fn8_fails (nI 4) m).bind (fun q => fn8_hasRoom_86 (nI nm) q.2) else fn8_hasRoom_86 (nI nm) m := by
  have hb : (nI to >>> (nI nm &&& 31)) &&& 1 = bI (to.testBit nm) := bit_n (by omega) (by omega)
  have h69 : fn8_hasRoom (nI nm) m = fn8_hasRoom_69 (nI nm) m := by
    rcases (show nm = 0 ∨ nm = 1 by omega) with rfl | rfl
    · unfold fn8_hasRoom fn8_hasRoom_14 fn8_hasRoom_28 fn8_hasRoom_49 fn8_hasRoom_50 fn8_hasRoom_60
      rw [if_pos (by decide), if_pos (by decide), if_pos (by decide), if_pos rfl, if_pos (by decide)]
    · unfold fn8_hasRoom fn8_hasRoom_14 fn8_hasRoom_28 fn8_hasRoom_49 fn8_hasRoom_50 fn8_hasRoom_60
      rw [if_pos (by decide), if_pos (by decide), if_pos (by decide), if_pos rfl, if_neg (by decide), if_neg (by decide)]
  rw [h69]
  unfold fn8_hasRoom_69
  rw [h8, hb]
  cases to.testBit nm
  · rw [bI_f, if_pos (by decide), if_neg (by simp)]
  · rw [bI_t, if_neg (fun z => z rfl), if_pos rfl]
    rfl
theorem room_full {m : Mem} {nm a : Nat} (hnm : (nm = 2 ∧ a ≤ 6 ∧ m 0 6 = nI a) ∨ (nm = 3 ∧ a ≤ 6 ∧ m 0 7 = nI a) ∨ (nm = 5 ∧ a ≤ 10 ∧ m 3 54 = nI a)) : fn8_hasRoom (nI nm) m = if a = (if nm = 5 then 10 else 6) then (fn8_fails (nI 5) m).bind (fun q => fn8_hasRoom_86 (nI nm) q.2) else fn8_hasRoom_86 (nI nm) m := by
  rcases hnm with ⟨rfl, ha, hm⟩ | ⟨rfl, ha, hm⟩ | ⟨rfl, ha, hm⟩
  · have e1 : (nI a = 6) = (a = 6) := by rw [show (6 : Int32) = nI 6 from rfl, eq_n (by omega) (by omega)]
    unfold fn8_hasRoom fn8_hasRoom_14 fn8_hasRoom_28 fn8_hasRoom_49 fn8_hasRoom_45 fn8_hasRoom_50 fn8_hasRoom_60
    rw [if_neg (by decide), if_pos (show ¬ nI 2 = 3 by decide), if_pos (show ¬ nI 2 = 5 by decide), if_pos rfl, if_neg (show ¬ nI 2 = 0 by decide), if_pos (show ¬ nI 2 = 1 by decide), if_neg (show ¬ (1 : Int32) = 0 by decide), if_neg (show ¬ 2 = 5 by decide), hm]
    by_cases e : a = 6
    · rw [if_pos (e1.mpr e), if_pos e]
      rfl
    · rw [if_neg (fun z => e (e1.mp z)), if_neg e]
  · have e1 : (nI a = 6) = (a = 6) := by rw [show (6 : Int32) = nI 6 from rfl, eq_n (by omega) (by omega)]
    unfold fn8_hasRoom fn8_hasRoom_14 fn8_hasRoom_28 fn8_hasRoom_49 fn8_hasRoom_45 fn8_hasRoom_50 fn8_hasRoom_60
    rw [if_pos (by decide), if_neg (show ¬ ¬ nI 3 = 3 by decide), if_pos (show ¬ nI 3 = 5 by decide), if_pos rfl, if_neg (show ¬ nI 3 = 0 by decide), if_pos (show ¬ nI 3 = 1 by decide), if_neg (show ¬ (1 : Int32) = 0 by decide), if_neg (show ¬ 3 = 5 by decide), hm]
    by_cases e : a = 6
    · rw [if_pos (e1.mpr e), if_pos e]
      rfl
    · rw [if_neg (fun z => e (e1.mp z)), if_neg e]
  · have e1 : (nI a = 10) = (a = 10) := by rw [show (10 : Int32) = nI 10 from rfl, eq_n (by omega) (by omega)]
    unfold fn8_hasRoom fn8_hasRoom_14 fn8_hasRoom_28 fn8_hasRoom_49 fn8_hasRoom_45 fn8_hasRoom_50 fn8_hasRoom_60
    rw [if_pos (by decide), if_pos (show ¬ nI 5 = 3 by decide), if_neg (show ¬ ¬ nI 5 = 5 by decide), if_pos (show ib 54 57 = true by decide), if_pos rfl, if_neg (show ¬ nI 5 = 0 by decide), if_pos (show ¬ nI 5 = 1 by decide), if_neg (show ¬ (1 : Int32) = 0 by decide), if_pos (show 5 = 5 by rfl), c54, hm]
    by_cases e : a = 10
    · rw [if_neg (fun z => z (e1.mpr e)), if_pos e]
      rfl
    · rw [if_pos (fun z => e (e1.mp z)), if_neg e]
theorem room_4 {m : Mem} : fn8_hasRoom (nI 4) m = fn8_hasRoom_86 (nI 4) m := by
  unfold fn8_hasRoom fn8_hasRoom_14 fn8_hasRoom_28 fn8_hasRoom_49 fn8_hasRoom_50 fn8_hasRoom_60
  rw [if_pos (by decide), if_pos (by decide), if_pos (by decide), if_pos rfl, if_neg (by decide), if_pos (by decide)]
