theorem nI_lt5 {i Ln : Nat} (hL : Ln ≤ 2560) (hi : i ≤ Ln) (h : ¬ (Int32.ofNat Ln - 5 : Int32) < nI i) : i + 5 ≤ Ln := by
  rcases Nat.lt_or_ge Ln 5 with q | q
  · exact absurd (by
      have e : Int32.ofNat Ln - 5 < 0 := pk_sneg (a := Ln) (b := 5) (by omega) q
      have e2 : (0 : Int32) ≤ nI i := nI_pos' (by omega)
      exact Int32.lt_of_lt_of_le e e2) h
  · have e : (Int32.ofNat Ln - 5 : Int32) = nI (Ln - 5) := pk_sub (a := Ln) (b := 5) q
    rw [e] at h
    rcases Nat.lt_or_ge (Ln - 5) i with w | w
    · exact absurd (nI_lt w (by omega)) h
    · omega
theorem vp5 {i j Ln : Nat} (hL : Ln ≤ 2560) (h : i + 5 ≤ Ln) (hj : j < 5) : vp_in (nI i + nI j) Ln := by
  rw [nI_add]
  exact vp_in_nI (by omega) (by omega)
set_option maxRecDepth 100000 in
set_option maxHeartbeats 4000000 in
theorem law_loop {M : MX} {G : GX} {adx adm : Nat → Nat} {b Ln : Nat} {xs : Nat → Int32} {Z : State → Prop} {RR : Mem → Mem → Prop} (hL : Ln ≤ 2560) (C : LC M G adx adm b Ln xs) (hs : SIM RR) (hend : ∀ x m : Mem, ∀ {L : List (Nat × Value)}, LW M G adx adm Z 1426 L [] x m) :
    ∀ (n i : Nat) (x m : Mem), i ≤ Ln → Ln + 1 ≤ i + n → RR x m → LW M G adx adm Z 18 [(0, .ref b), (1, .ref (adx 0)), (2, .ref (adm 0)), (3, .int (nI i))] [] x m := by
  intro n
  induction n with
  | zero =>
    intro i x m h1 h2
    exact absurd h2 (by omega)
  | succ n ih =>
    intro i x m hi hin hR
    refine lw_iload_n C 3 dL_law_18 rfl rfl ?_
    refine lw_aload_n C 0 dL_law_19 rfl rfl ?_
    refine lw_slen C dL_law_20 ?_
    refine lw_iconst C (v := 5) dL_law_21 (by decide) ?_
    refine lw_isub C dL_law_22 ?_
    refine lw_gt C (tgt := 1426) dL_law_23 (by decide) (fun _ => hend x m) (fun hc => ?_)
    have h5 := nI_lt5 hL hi hc
    have h1 : vp_in (nI i + 1) Ln := vp5 (j := 1) hL h5 (by decide)
    have h2 : vp_in (nI i + 2) Ln := vp5 (j := 2) hL h5 (by decide)
    have h3 : vp_in (nI i + 3) Ln := vp5 (j := 3) hL h5 (by decide)
    have h4 : vp_in (nI i + 4) Ln := vp5 (j := 4) hL h5 (by decide)
    have h0 : vp_in (nI i) Ln := vp_in_nI (by omega) (by omega)
    have kk : ∀ x' m' : Mem, RR x' m' → LW M G adx adm Z 1420 [(0, .ref b), (1, .ref (adx 0)), (2, .ref (adm 0)), (3, .int (nI i))] [] x' m' := fun x' m' hR' => by
      refine lw_iinc C (v := nI (i + 5)) [(3, .int (nI (i + 5))), (0, .ref b), (1, .ref (adx 0)), (2, .ref (adm 0))] 3 dL_law_1420 rfl (nI_add i 5) (by decide) rfl ?_
      refine lw_goto C 18 dL_law_1423 (by decide) ?_
      exact lw_sub [1, 2, 3, 0] rfl (ih (i + 5) x' m' (by omega) (by omega) hR')
    refine lw_aload_n C 0 dL_law_26 rfl rfl ?_
    refine lw_iload_n C 3 dL_law_27 rfl rfl ?_
    refine lw_sld C h0 dL_law_28 ?_
    refine lw_bipush C (v := 63) dL_law_29 (by decide) ?_
    refine lw_iand C dL_law_31 ?_
    generalize xs (nI i).toNatClampNeg &&& 63 = op
    by_cases c0 : op = 0
    · exact lw_tsIn C (tgt := 208) (v := 0) dL_law_32 c0 (by decide) (by decide) rfl (by decide) (law_feed C h1 h2 h3 h4 (hs.1) hR kk)
    by_cases c1 : op = 1
    · exact lw_tsIn C (tgt := 261) (v := 1) dL_law_32 c1 (by decide) (by decide) rfl (by decide) (law_end C h1 h2 h3 h4 (hs.2.1) hR kk)
    by_cases c2 : op = 2
    · exact lw_tsIn C (tgt := 284) (v := 2) dL_law_32 c2 (by decide) (by decide) rfl (by decide) (law_text C h1 h2 h3 h4 (hs.2.2.1) hR kk)
    by_cases c3 : op = 3
    · exact lw_tsIn C (tgt := 297) (v := 3) dL_law_32 c3 (by decide) (by decide) rfl (by decide) (law_fault C h1 h2 h3 h4 (hs.2.2.2.1) hR kk)
    by_cases c4 : op = 4
    · exact lw_tsIn C (tgt := 310) (v := 4) dL_law_32 c4 (by decide) (by decide) rfl (by decide) (law_rule C h1 h2 h3 h4 (hs.2.2.2.2.1) hR kk)
    by_cases c5 : op = 5
    · exact lw_tsIn C (tgt := 333) (v := 5) dL_law_32 c5 (by decide) (by decide) rfl (by decide) (law_one C h1 h2 h3 h4 (hs.2.2.2.2.2.1) hR kk)
    by_cases c6 : op = 6
    · exact lw_tsIn C (tgt := 366) (v := 6) dL_law_32 c6 (by decide) (by decide) rfl (by decide) (law_coin C h1 h2 h3 h4 (hs.2.2.2.2.2.2.1) hR kk)
    by_cases c7 : op = 7
    · exact lw_tsIn C (tgt := 399) (v := 7) dL_law_32 c7 (by decide) (by decide) rfl (by decide) (law_talk C h1 h2 h3 h4 (hs.2.2.2.2.2.2.2.1) hR kk)
    by_cases c8 : op = 8
    · exact lw_tsIn C (tgt := 432) (v := 8) dL_law_32 c8 (by decide) (by decide) rfl (by decide) (law_law C h1 h2 h3 h4 (hs.2.2.2.2.2.2.2.2.1) hR kk)
    by_cases c9 : op = 9
    · exact lw_tsIn C (tgt := 455) (v := 9) dL_law_32 c9 (by decide) (by decide) rfl (by decide) (law_fee C h1 h2 h3 h4 (hs.2.2.2.2.2.2.2.2.2.1) hR kk)
    by_cases c10 : op = 10
    · exact lw_tsIn C (tgt := 478) (v := 10) dL_law_32 c10 (by decide) (by decide) rfl (by decide) (law_give C h1 h2 h3 h4 (hs.2.2.2.2.2.2.2.2.2.2.1) hR kk)
    by_cases c11 : op = 11
    · exact lw_tsIn C (tgt := 511) (v := 11) dL_law_32 c11 (by decide) (by decide) rfl (by decide) (law_clip C h1 h2 h3 h4 (hs.2.2.2.2.2.2.2.2.2.2.2.1) hR kk)
    by_cases c12 : op = 12
    · exact lw_tsIn C (tgt := 534) (v := 12) dL_law_32 c12 (by decide) (by decide) rfl (by decide) (law_spend C h1 h2 h3 h4 (hs.2.2.2.2.2.2.2.2.2.2.2.2.1) hR kk)
    by_cases c13 : op = 13
    · exact lw_tsIn C (tgt := 567) (v := 13) dL_law_32 c13 (by decide) (by decide) rfl (by decide) (law_undo C h1 h2 h3 h4 (hs.2.2.2.2.2.2.2.2.2.2.2.2.2.1) hR kk)
    by_cases c14 : op = 14
    · exact lw_tsIn C (tgt := 590) (v := 14) dL_law_32 c14 (by decide) (by decide) rfl (by decide) (law_speak C h1 h2 h3 h4 (hs.2.2.2.2.2.2.2.2.2.2.2.2.2.2.1) hR kk)
    by_cases c15 : op = 15
    · exact lw_tsIn C (tgt := 633) (v := 15) dL_law_32 c15 (by decide) (by decide) rfl (by decide) (law_silent C h1 h2 h3 h4 (hs.2.2.2.2.2.2.2.2.2.2.2.2.2.2.2.1) hR kk)
    by_cases c16 : op = 16
    · exact lw_tsIn C (tgt := 656) (v := 16) dL_law_32 c16 (by decide) (by decide) rfl (by decide) (law_quiet C h1 h2 h3 h4 (hs.2.2.2.2.2.2.2.2.2.2.2.2.2.2.2.2.1) hR kk)
    by_cases c17 : op = 17
    · exact lw_tsIn C (tgt := 679) (v := 17) dL_law_32 c17 (by decide) (by decide) rfl (by decide) (law_may C h1 h2 h3 h4 (hs.2.2.2.2.2.2.2.2.2.2.2.2.2.2.2.2.2.1) hR kk)
    by_cases c18 : op = 18
    · exact lw_tsIn C (tgt := 722) (v := 18) dL_law_32 c18 (by decide) (by decide) rfl (by decide) (law_said C h1 h2 h3 h4 (hs.2.2.2.2.2.2.2.2.2.2.2.2.2.2.2.2.2.2.1) hR kk)
    by_cases c19 : op = 19
    · exact lw_tsIn C (tgt := 735) (v := 19) dL_law_32 c19 (by decide) (by decide) rfl (by decide) (law_knows C h1 h2 h3 h4 (hs.2.2.2.2.2.2.2.2.2.2.2.2.2.2.2.2.2.2.2.1) hR kk)
    by_cases c20 : op = 20
    · exact lw_tsIn C (tgt := 768) (v := 20) dL_law_32 c20 (by decide) (by decide) rfl (by decide) (law_learns C h1 h2 h3 h4 (hs.2.2.2.2.2.2.2.2.2.2.2.2.2.2.2.2.2.2.2.2.1) hR kk)
    by_cases c21 : op = 21
    · exact lw_tsIn C (tgt := 801) (v := 21) dL_law_32 c21 (by decide) (by decide) rfl (by decide) (law_hush C h1 h2 h3 h4 (hs.2.2.2.2.2.2.2.2.2.2.2.2.2.2.2.2.2.2.2.2.2.1) hR kk)
    by_cases c22 : op = 22
    · exact lw_tsIn C (tgt := 844) (v := 22) dL_law_32 c22 (by decide) (by decide) rfl (by decide) (law_hear C h1 h2 h3 h4 (hs.2.2.2.2.2.2.2.2.2.2.2.2.2.2.2.2.2.2.2.2.2.2.1) hR kk)
    by_cases c23 : op = 23
    · exact lw_tsIn C (tgt := 893) (v := 23) dL_law_32 c23 (by decide) (by decide) rfl (by decide) (law_forget C h1 h2 h3 h4 (hs.2.2.2.2.2.2.2.2.2.2.2.2.2.2.2.2.2.2.2.2.2.2.2.1) hR kk)
    by_cases c24 : op = 24
    · exact lw_tsIn C (tgt := 916) (v := 24) dL_law_32 c24 (by decide) (by decide) rfl (by decide) (law_first C h1 h2 h3 h4 (hs.2.2.2.2.2.2.2.2.2.2.2.2.2.2.2.2.2.2.2.2.2.2.2.2.1) hR kk)
    by_cases c25 : op = 25
    · exact lw_tsIn C (tgt := 929) (v := 25) dL_law_32 c25 (by decide) (by decide) rfl (by decide) (law_funeral C h1 h2 h3 h4 (hs.2.2.2.2.2.2.2.2.2.2.2.2.2.2.2.2.2.2.2.2.2.2.2.2.2.1) hR kk)
    by_cases c26 : op = 26
    · exact lw_tsIn C (tgt := 972) (v := 26) dL_law_32 c26 (by decide) (by decide) rfl (by decide) (law_raid C h1 h2 h3 h4 (hs.2.2.2.2.2.2.2.2.2.2.2.2.2.2.2.2.2.2.2.2.2.2.2.2.2.2.1) hR kk)
    by_cases c27 : op = 27
    · exact lw_tsIn C (tgt := 995) (v := 27) dL_law_32 c27 (by decide) (by decide) rfl (by decide) (law_settle C h1 h2 h3 h4 (hs.2.2.2.2.2.2.2.2.2.2.2.2.2.2.2.2.2.2.2.2.2.2.2.2.2.2.2.1) hR kk)
    by_cases c28 : op = 28
    · exact lw_tsIn C (tgt := 1028) (v := 28) dL_law_32 c28 (by decide) (by decide) rfl (by decide) (law_test C h1 h2 h3 h4 (hs.2.2.2.2.2.2.2.2.2.2.2.2.2.2.2.2.2.2.2.2.2.2.2.2.2.2.2.2.1) hR kk)
    by_cases c29 : op = 29
    · exact lw_tsIn C (tgt := 1077) (v := 29) dL_law_32 c29 (by decide) (by decide) rfl (by decide) (law_untest C h1 h2 h3 h4 (hs.2.2.2.2.2.2.2.2.2.2.2.2.2.2.2.2.2.2.2.2.2.2.2.2.2.2.2.2.2.1) hR kk)
    by_cases c30 : op = 30
    · exact lw_tsIn C (tgt := 1100) (v := 30) dL_law_32 c30 (by decide) (by decide) rfl (by decide) (law_fakes C h1 h2 h3 h4 (hs.2.2.2.2.2.2.2.2.2.2.2.2.2.2.2.2.2.2.2.2.2.2.2.2.2.2.2.2.2.2.1) hR kk)
    by_cases c31 : op = 31
    · exact lw_tsIn C (tgt := 1133) (v := 31) dL_law_32 c31 (by decide) (by decide) rfl (by decide) (law_next C h1 h2 h3 h4 (hs.2.2.2.2.2.2.2.2.2.2.2.2.2.2.2.2.2.2.2.2.2.2.2.2.2.2.2.2.2.2.2.1) hR kk)
    by_cases c32 : op = 32
    · exact lw_tsIn C (tgt := 1166) (v := 32) dL_law_32 c32 (by decide) (by decide) rfl (by decide) (law_chatter C h1 h2 h3 h4 (hs.2.2.2.2.2.2.2.2.2.2.2.2.2.2.2.2.2.2.2.2.2.2.2.2.2.2.2.2.2.2.2.2.1) hR kk)
    by_cases c33 : op = 33
    · exact lw_tsIn C (tgt := 1199) (v := 33) dL_law_32 c33 (by decide) (by decide) rfl (by decide) (law_keep C h1 h2 h3 h4 (hs.2.2.2.2.2.2.2.2.2.2.2.2.2.2.2.2.2.2.2.2.2.2.2.2.2.2.2.2.2.2.2.2.2.1) hR kk)
    by_cases c34 : op = 34
    · exact lw_tsIn C (tgt := 1222) (v := 34) dL_law_32 c34 (by decide) (by decide) rfl (by decide) (law_back C h1 h2 h3 h4 (hs.2.2.2.2.2.2.2.2.2.2.2.2.2.2.2.2.2.2.2.2.2.2.2.2.2.2.2.2.2.2.2.2.2.2.1) hR kk)
    by_cases c35 : op = 35
    · exact lw_tsIn C (tgt := 1245) (v := 35) dL_law_32 c35 (by decide) (by decide) rfl (by decide) (law_sheet C h1 h2 h3 h4 (hs.2.2.2.2.2.2.2.2.2.2.2.2.2.2.2.2.2.2.2.2.2.2.2.2.2.2.2.2.2.2.2.2.2.2.2.1) hR kk)
    by_cases c36 : op = 36
    · exact lw_tsIn C (tgt := 1288) (v := 36) dL_law_32 c36 (by decide) (by decide) rfl (by decide) (law_lay C h1 h2 h3 h4 (hs.2.2.2.2.2.2.2.2.2.2.2.2.2.2.2.2.2.2.2.2.2.2.2.2.2.2.2.2.2.2.2.2.2.2.2.2.1) hR kk)
    by_cases c37 : op = 37
    · exact lw_tsIn C (tgt := 1331) (v := 37) dL_law_32 c37 (by decide) (by decide) rfl (by decide) (law_read C h1 h2 h3 h4 (hs.2.2.2.2.2.2.2.2.2.2.2.2.2.2.2.2.2.2.2.2.2.2.2.2.2.2.2.2.2.2.2.2.2.2.2.2.2.1) hR kk)
    by_cases c38 : op = 38
    · exact lw_tsIn C (tgt := 1384) (v := 38) dL_law_32 c38 (by decide) (by decide) rfl (by decide) (law_torn C h1 h2 h3 h4 (hs.2.2.2.2.2.2.2.2.2.2.2.2.2.2.2.2.2.2.2.2.2.2.2.2.2.2.2.2.2.2.2.2.2.2.2.2.2.2.1) hR kk)
    by_cases c39 : op = 39
    · exact lw_tsIn C (tgt := 1397) (v := 39) dL_law_32 c39 (by decide) (by decide) rfl (by decide) (law_count C h1 h2 h3 h4 (hs.2.2.2.2.2.2.2.2.2.2.2.2.2.2.2.2.2.2.2.2.2.2.2.2.2.2.2.2.2.2.2.2.2.2.2.2.2.2.2) hR kk)
    refine lw_tsOut C (tgt := 1420) dL_law_32 (sw_out (lo := 0) (hi := 39) (fun q g1 g2 => ?_)) (by decide) (kk x m hR)
    rcases (show q = 0 ∨ q = 1 ∨ q = 2 ∨ q = 3 ∨ q = 4 ∨ q = 5 ∨ q = 6 ∨ q = 7 ∨ q = 8 ∨ q = 9 ∨ q = 10 ∨ q = 11 ∨ q = 12 ∨ q = 13 ∨ q = 14 ∨ q = 15 ∨ q = 16 ∨ q = 17 ∨ q = 18 ∨ q = 19 ∨ q = 20 ∨ q = 21 ∨ q = 22 ∨ q = 23 ∨ q = 24 ∨ q = 25 ∨ q = 26 ∨ q = 27 ∨ q = 28 ∨ q = 29 ∨ q = 30 ∨ q = 31 ∨ q = 32 ∨ q = 33 ∨ q = 34 ∨ q = 35 ∨ q = 36 ∨ q = 37 ∨ q = 38 ∨ q = 39 by omega) with e | e | e | e | e | e | e | e | e | e | e | e | e | e | e | e | e | e | e | e | e | e | e | e | e | e | e | e | e | e | e | e | e | e | e | e | e | e | e | e
    · exact fun g => c0 (sw_eq g (by rw [e]; decide))
    · exact fun g => c1 (sw_eq g (by rw [e]; decide))
    · exact fun g => c2 (sw_eq g (by rw [e]; decide))
    · exact fun g => c3 (sw_eq g (by rw [e]; decide))
    · exact fun g => c4 (sw_eq g (by rw [e]; decide))
    · exact fun g => c5 (sw_eq g (by rw [e]; decide))
    · exact fun g => c6 (sw_eq g (by rw [e]; decide))
    · exact fun g => c7 (sw_eq g (by rw [e]; decide))
    · exact fun g => c8 (sw_eq g (by rw [e]; decide))
    · exact fun g => c9 (sw_eq g (by rw [e]; decide))
    · exact fun g => c10 (sw_eq g (by rw [e]; decide))
    · exact fun g => c11 (sw_eq g (by rw [e]; decide))
    · exact fun g => c12 (sw_eq g (by rw [e]; decide))
    · exact fun g => c13 (sw_eq g (by rw [e]; decide))
    · exact fun g => c14 (sw_eq g (by rw [e]; decide))
    · exact fun g => c15 (sw_eq g (by rw [e]; decide))
    · exact fun g => c16 (sw_eq g (by rw [e]; decide))
    · exact fun g => c17 (sw_eq g (by rw [e]; decide))
    · exact fun g => c18 (sw_eq g (by rw [e]; decide))
    · exact fun g => c19 (sw_eq g (by rw [e]; decide))
    · exact fun g => c20 (sw_eq g (by rw [e]; decide))
    · exact fun g => c21 (sw_eq g (by rw [e]; decide))
    · exact fun g => c22 (sw_eq g (by rw [e]; decide))
    · exact fun g => c23 (sw_eq g (by rw [e]; decide))
    · exact fun g => c24 (sw_eq g (by rw [e]; decide))
    · exact fun g => c25 (sw_eq g (by rw [e]; decide))
    · exact fun g => c26 (sw_eq g (by rw [e]; decide))
    · exact fun g => c27 (sw_eq g (by rw [e]; decide))
    · exact fun g => c28 (sw_eq g (by rw [e]; decide))
    · exact fun g => c29 (sw_eq g (by rw [e]; decide))
    · exact fun g => c30 (sw_eq g (by rw [e]; decide))
    · exact fun g => c31 (sw_eq g (by rw [e]; decide))
    · exact fun g => c32 (sw_eq g (by rw [e]; decide))
    · exact fun g => c33 (sw_eq g (by rw [e]; decide))
    · exact fun g => c34 (sw_eq g (by rw [e]; decide))
    · exact fun g => c35 (sw_eq g (by rw [e]; decide))
    · exact fun g => c36 (sw_eq g (by rw [e]; decide))
    · exact fun g => c37 (sw_eq g (by rw [e]; decide))
    · exact fun g => c38 (sw_eq g (by rw [e]; decide))
    · exact fun g => c39 (sw_eq g (by rw [e]; decide))
