/-! all calls; the start -/
theorem sim_all : SIM RR := ⟨sim_feed, sim_end, sim_text, sim_fault, sim_rule, sim_one, sim_coin, sim_talk, sim_law, sim_fee, sim_give, sim_clip, sim_spend, sim_undo, sim_speak, sim_silent, sim_quiet, sim_may, sim_said, sim_knows, sim_learns, sim_hush, sim_hear, sim_forget, sim_first, sim_funeral, sim_raid, sim_settle, sim_test, sim_untest, sim_fakes, sim_next, sim_chatter, sim_keep, sim_back, sim_sheet, sim_lay, sim_read, sim_torn, sim_count⟩
theorem start_RR (x m : Mem) (hx : x0ok x) (hm : m0ok m) : RR x m := by
  obtain ⟨x1, x2, x3, x4, x5, x6, x7, x8, x9, x10, x11, x12, ⟨s1, s2⟩, ⟨s3, s4⟩, ⟨s5, s6⟩, ⟨s7, s8⟩⟩ := hx
  obtain ⟨m1, m2, m3, m4, m5⟩ := hm
  have z : ∀ k, k ∈ [1, 2, 3, 4, 5, 6, 9, 10, 11, 12, 13, 14, 15, 17, 18] → ∀ j, m k j = 0 := m2
  have z1 : ∀ j, m 1 j = 0 := z 1 (by decide)
  have z15 : ∀ j, m 15 j = 0 := z 15 (by decide)
  have z17 : ∀ j, m 17 j = 0 := z 17 (by decide)
  refine (RR_iff x m).mpr ⟨fun i j => if i = 0 ∧ j = 4 then 1 else 0, ?_, ?_, ?_, ?_, fun j hj => ?_, ⟨0, fun _ => 0, by omega, x6, m1 14, fun i hi => by omega⟩, by rw [x7, m1], ⟨0, fun _ => 0, fun _ => 0, by omega, x8, m1 26, fun i hi => by omega⟩, ⟨0, fun _ => 0, fun _ => 0, by omega, x9, m1 31, fun i hi => by omega⟩, fun k hk => ?_, by rw [x12, m1], m3, m4⟩
  · unfold okA
    simp
  · unfold TX
    simp only [x1, x2, x3, x4, x5]
    simp
    exact ⟨rfl, rfl⟩
  · unfold PM
    simp only [m1]
    simp
    rfl
  · unfold GM
    simp only [z1]
    simp
    exact ⟨rfl, rfl⟩
  · rw [z15]
    rcases (show j = 0 ∨ j = 1 by omega) with e | e
    · subst e
      exact ⟨x10, Or.inl x10⟩
    · subst e
      exact ⟨x11, Or.inl x11⟩
  · rw [m5 k hk, z17]
    refine ⟨?_, ?_, ⟨0, by omega, rfl⟩, Or.inl rfl, Or.inl rfl⟩
    · rcases (show k = 0 ∨ k = 1 ∨ k = 2 ∨ k = 3 by omega) with e | e | e | e <;> subst e <;> assumption
    · rcases (show k = 0 ∨ k = 1 ∨ k = 2 ∨ k = 3 by omega) with e | e | e | e <;> subst e <;> assumption
theorem whole_start {p : Program} {e : Env} {s : State} {m : MethodId} {below : List Frame} {meth : Method} {c : Code} (l : Launch) {b L : Nat} {xs : Nat → Int32} (hL : L ≤ 2560) (C0 : lw_At p s m meth c b L xs) : W p l e room_1 s m #[Value.ref b] below meth c s.heap [] 0 0 (lw_Z below #[Value.ref b] s) (entryFrame m ([Value.ref b] : List Value).toArray 4) := whole_open sim_all start_RR l hL C0
