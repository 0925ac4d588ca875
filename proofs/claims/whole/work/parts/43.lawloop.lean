theorem tw_1584 : Cond.methodLink R_law 45 yX12_thrown ∈ pw_tb := pw_w 1583 _ (by decide +kernel) (by decide +kernel)
theorem tw_1585 : Cond.instanceMethod yX12_thrown ∈ pw_tb := pw_w 1584 _ (by decide +kernel) (by decide +kernel)
theorem tw_1586 : Cond.selects yX12_thrown.cls yX12_thrown yX12_thrown ∈ pw_tb := pw_w 1585 _ (by decide +kernel) (by decide +kernel)
theorem tw_1736 : Cond.methodLink R_law 44 yX12_look ∈ pw_tb := pw_w 1735 _ (by decide +kernel) (by decide +kernel)
theorem tw_1737 : Cond.instanceMethod yX12_look ∈ pw_tb := pw_w 1736 _ (by decide +kernel) (by decide +kernel)
theorem tw_1738 : Cond.selects yX12_look.cls yX12_look yX12_look ∈ pw_tb := pw_w 1737 _ (by decide +kernel) (by decide +kernel)
/-! THE LAW'S LOOP. look is taken as a step of its own (HLook), closed elsewhere -/
/-- HalfCitizen.look: 0 and the answer; 1: no such man; 2: no such what -/
def f_look (x1 x2 : Int32) (σ : zS) : Option (Int32 × Int32) :=
  if f_X11_isMan x1 σ = 0 then some (1, 0) else
  (rdI σ 703 5 x1).bind fun v =>
  if x2 = 0 then some (0, f_X5_cellOf v σ) else if x2 = 1 then some (0, f_X5_faceOf v σ) else if x2 = 2 then some (0, f_X5_handsOf v σ) else if x2 = 3 then some (0, f_X5_feetOf v σ)
  else if x2 = 4 then (rdI σ 704 5 x1).bind fun c => some (0, c)
  else if x2 = 5 then (rdI σ (tv (σ.2.2 0) + 10) 5 x1).bind fun c => some (0, c)
  else if x2 = 6 then (rdI σ 705 5 x1).bind fun c => some (0, c)
  else some (2, 0)
def op_look (V : zS → zS → Prop) : Prop := ∀ (a1 a2 : Int32) (σc σm : zS), V σc σm → ∃ (kd v r : Int32) (σm1 : zS), f_look a1 a2 σc = some (kd, v) ∧ f_X12_look a1 a2 σm = some (r, σm1) ∧ f_X12_thrown σm1 = kd ∧ (kd = 0 → v = r) ∧ V σc σm1
def HLook : Prop := ∀ (L : Nat) (xs : Nat → Int32) (j k n : Nat) (σc σm : zS) (w : Int64) (kd v a1 a2 : Int32), k + 1 ≤ 601024 → n + 6 ≤ 7293034 → f_look a1 a2 σc = some (kd, v) →
  PL L xs 373 [(0, .ref 9500), (1, .ref 100), (2, .ref 5000), (3, .ref 8000), (4, .int (nI (6 * j)))] [.int kd] alL (k + 1) (n + 6) (lw_st σc σm (if kd = 0 then v.toInt64 else w)) → PL L xs 370 [(0, .ref 9500), (1, .ref 100), (2, .ref 5000), (3, .ref 8000), (4, .int (nI (6 * j)))] [.ref 8000, .int a2, .int a1, .ref 100] alL k n (lw_st σc σm w)
theorem cs_look (hlk : HLook) {V : zS → zS → Prop} (hop : op_look V) {L : Nat} {xs : Nat → Int32} {j k n : Nat} {w : Int64} {σc σm : zS} (hj : 6 * j + 6 ≤ L) (hL : L ≤ 3072) (hk : k + 1 ≤ 601024) (hn : n + 6 ≤ 7293034) (hI : V σc σm) (cont : ∀ σm1 w1, V σc σm1 → PL L xs 1487 [(0, .ref 9500), (1, .ref 100), (2, .ref 5000), (3, .ref 8000), (4, .int (nI (6 * j)))] [] alL (k + 1) (n + 6) (lw_st σc σm1 w1)) : PL L xs 356 [(0, .ref 9500), (1, .ref 100), (2, .ref 5000), (3, .ref 8000), (4, .int (nI (6 * j)))] [] alL k n (lw_st σc σm w) := by
  obtain ⟨kd, v, r, σm1, h1, h2, h3, h4, hI1⟩ := hop (xs (nI (6 * j) + 1).toNatClampNeg) (xs (nI (6 * j) + 2).toNatClampNeg) σc σm hI
  refine PL_aload_n (pc' := 357) (q := 1) (pw_dk dc_L1 23 rfl) rfl rfl rfl ?_
  refine PL_aload_n (pc' := 358) (q := 0) (pw_dk dc_L1 24 rfl) rfl rfl rfl ?_
  refine PL_iload (pc' := 360) (q := 4) (pw_dk dc_L1 25 rfl) rfl rfl ?_
  refine PL_iconst (pc' := 361) (v := 1) (pw_dk dc_L1 26 rfl) rfl (by decide) ?_
  refine PL_iadd (pc' := 362) (pw_dk dc_L1 27 rfl) rfl ?_
  refine PL_sld (pc' := 363) (pw_dk dc_L1 28 rfl) rfl (lw_in hj hL (by decide)) ?_
  refine PL_aload_n (pc' := 364) (q := 0) (pw_dk dc_L1 29 rfl) rfl rfl rfl ?_
  refine PL_iload (pc' := 366) (q := 4) (pw_dk dc_L1 30 rfl) rfl rfl ?_
  refine PL_iconst (pc' := 367) (v := 2) (pw_dk dc_L1 31 rfl) rfl (by decide) ?_
  refine PL_iadd (pc' := 368) (pw_dk dc_L1 32 rfl) rfl ?_
  refine PL_sld (pc' := 369) (pw_dk dc_L1 33 rfl) rfl (lw_in hj hL (by decide)) ?_
  refine PL_aload_n (pc' := 370) (q := 3) (pw_dk dc_L1 34 rfl) rfl rfl rfl ?_
  refine hlk L xs j k n σc σm w kd v _ _ (by omega) (by omega) h1 ?_
  refine PL_istore (pc' := 375) (lv' := [(5, .int kd), (0, .ref 9500), (1, .ref 100), (2, .ref 5000), (3, .ref 8000), (4, .int (nI (6 * j)))]) (pw_dk dc_L1 36 rfl) rfl (by decide) rfl ?_
  refine PL_aload_n (pc' := 376) (q := 3) (pw_dk dc_L1 37 rfl) rfl rfl rfl ?_
  refine PL_aload_n (pc' := 377) (q := 1) (pw_dk dc_L1 38 rfl) rfl rfl rfl ?_
  refine PL_iload (pc' := 379) (q := 5) (pw_dk dc_L1 39 rfl) rfl rfl ?_
  refine PL_iconst (pc' := 380) (v := 1) (pw_dk dc_L1 40 rfl) rfl (by decide) ?_
  refine PL_iadd (pc' := 381) (pw_dk dc_L1 41 rfl) rfl ?_
  refine PL_sld (pc' := 382) (pw_dk dc_L1 42 rfl) rfl (lw_in hj hL (by decide)) ?_
  refine PL_aload_n (pc' := 383) (q := 1) (pw_dk dc_L1 43 rfl) rfl rfl rfl ?_
  refine PL_iload (pc' := 385) (q := 5) (pw_dk dc_L1 44 rfl) rfl rfl ?_
  refine PL_iconst (pc' := 386) (v := 2) (pw_dk dc_L1 45 rfl) rfl (by decide) ?_
  refine PL_iadd (pc' := 387) (pw_dk dc_L1 46 rfl) rfl ?_
  refine PL_sld (pc' := 388) (pw_dk dc_L1 47 rfl) rfl (lw_in hj hL (by decide)) ?_
  refine PL_cMi (pc' := 391) (y := yX12_look) (M' := mX12_look) (d' := 1) (As := [.int (xs (nI (6 * j) + 1).toNatClampNeg), .int (xs (nI (6 * j) + 2).toNatClampNeg)]) (st := []) rfl tw_1737 tw_1738 (pw_dk dc_L1 48 rfl) rfl Y_X12_look tw_1736 rfl (by decide) (by decide) ⟨by omega, by omega⟩ (t_X12_look (xs (nI (6 * j) + 1).toNatClampNeg) (xs (nI (6 * j) + 2).toNatClampNeg) σm _ ⟨(r, σm1), h2, _, rfl, ?_⟩)
  refine PL_istore (pc' := 393) (lv' := [(6, .int r), (5, .int kd), (0, .ref 9500), (1, .ref 100), (2, .ref 5000), (3, .ref 8000), (4, .int (nI (6 * j)))]) (pw_dk dc_L1 49 rfl) rfl (by decide) rfl ?_
  refine PL_aload_n (pc' := 394) (q := 4) (pw_dk dc_L1 50 rfl) rfl rfl rfl ?_
  refine PL_cMi (pc' := 397) (y := yX12_thrown) (M' := mX12_thrown) (d' := 0) (As := []) (st := []) rfl tw_1585 tw_1586 (pw_dk dc_L1 51 rfl) rfl Y_X12_thrown tw_1584 rfl (by decide) (by decide) ⟨by omega, by omega⟩ (t_X12_thrown σm1 _ ⟨kd, by rw [h3], ?_⟩)
  refine PL_iload (pc' := 399) (q := 1) (pw_dk dc_L1 52 rfl) rfl rfl ?_
  refine PL_icmp_eq (pc' := 402) (tgt := 404) (pw_dk dc_L1 53 rfl) rfl (by decide) (fun c1 => ?_) (fun c1 => absurd rfl c1)
  refine PL_iload (pc' := 406) (q := 1) (pw_dk dc_L1 56 rfl) rfl rfl ?_
  refine PL_if_ne (pc' := 409) (tgt := 421) (pw_dk dc_L1 57 rfl) rfl (by decide) (fun c1 => ?_) (fun c1 => ?_)
  · refine PL_goto (tgt := 1487) (pw_dk dc_L1 67 rfl) (by decide) ?_
    refine PL_sub (lv' := [(0, .ref 9500), (1, .ref 100), (2, .ref 5000), (3, .ref 8000), (4, .int (nI (6 * j)))]) [2, 3, 4, 5, 6] rfl ?_
    exact cont σm1 _ hI1
  · refine PL_aload_n (pc' := 410) (q := 5) (pw_dk dc_L1 58 rfl) rfl rfl rfl ?_
    refine PL_iconst (pc' := 411) (v := 0) (pw_dk dc_L1 59 rfl) rfl (by decide) ?_
    refine PL_lald (pc' := 412) (id := 8000) (nn := 1) (pw_dk dc_L1 60 rfl) rfl (List.mem_append_right _ (List.mem_singleton.mpr rfl)) (okI_in (by decide)) ?_
    refine PL_iload (pc' := 414) (q := 0) (pw_dk dc_L1 61 rfl) rfl rfl ?_
    refine PL_i2l (pc' := 415) (pw_dk dc_L1 62 rfl) rfl ?_
    refine PL_lcmp (pc' := 416) (pw_dk dc_L1 63 rfl) rfl ?_
    refine PL_if_eq (pc' := 419) (tgt := 421) (pw_dk dc_L1 64 rfl) rfl (by decide) (fun c2 => ?_) (fun c2 => absurd ?_ c2)
    · refine PL_goto (tgt := 1487) (pw_dk dc_L1 67 rfl) (by decide) ?_
      refine PL_sub (lv' := [(0, .ref 9500), (1, .ref 100), (2, .ref 5000), (3, .ref 8000), (4, .int (nI (6 * j)))]) [2, 3, 4, 5, 6] rfl ?_
      exact cont σm1 _ hI1
    · rw [h4 c1, if_pos c1]; exact lg_cmp_self _
def OPS (V : zS → zS → Prop) : Prop := op_feed V ∧ op_text V ∧ op_fault V ∧ op_named V ∧ op_look V ∧ op_land V ∧ op_part V ∧ op_lawful V ∧ op_law V ∧ op_deed V ∧ op_clash V ∧ op_move V ∧ op_free V ∧ op_go V ∧ op_fewest V ∧ op_way V ∧ op_joint V ∧ op_stands V ∧ op_match V ∧ op_loopholes V ∧ op_loophole V ∧ op_shut V ∧ op_rests V ∧ op_rest V ∧ op_freed V ∧ op_print V ∧ op_strike V ∧ op_known V ∧ op_whose V ∧ op_chance V ∧ op_tried V ∧ op_undo V ∧ op_keep V ∧ op_back V ∧ op_count V
theorem lw_go {j L : Nat} (hL : L ≤ 3072) (hj : j ≤ 600) (h : ¬ (nI L - 6) < nI (6 * j)) : 6 * j + 6 ≤ L := by
  have h1 := nI_toInt (n := 6 * j) (by omega)
  have h2 := nI_toInt (n := L) (by omega)
  have h3 : (nI L - 6).toInt = (L : Int) - 6 := by
    rw [Int32.toInt_sub, h2]
    have : ((6 : Int32).toInt) = 6 := by decide
    rw [this, Int.bmod_eq_of_le] <;> omega
  rw [Int32.lt_iff_toInt_lt, h3, h1] at h
  omega
theorem law_loop (hlk : HLook) {V : zS → zS → Prop} (ops : OPS V) {L : Nat} {xs : Nat → Int32} (hL : L ≤ 3072) : ∀ (m j : Nat) (σc σm : zS) (w : Int64), V σc σm → j ≤ 513 → 514 ≤ j + m → PL L xs 23 [(0, .ref 9500), (1, .ref 100), (2, .ref 5000), (3, .ref 8000), (4, .int (nI (6 * j)))] [] alL (200 + j) (6000 + 6 * j) (lw_st σc σm w) := by
  intro m
  induction m with
  | zero => intro j σc σm w hI h1 h2; omega
  | succ m ih =>
    intro j σc σm w hI hj1 hm
    refine PL_iload (pc' := 25) (q := 4) (pw_dk dc_L0 13 rfl) rfl rfl ?_
    refine PL_aload_n (pc' := 26) (q := 0) (pw_dk dc_L0 14 rfl) rfl rfl rfl ?_
    refine PL_slen (pc' := 27) (pw_dk dc_L0 15 rfl) rfl ?_
    refine PL_bipush (pc' := 29) (v := 6) (pw_dk dc_L0 16 rfl) rfl (by decide) ?_
    refine PL_isub (pc' := 30) (pw_dk dc_L0 17 rfl) rfl ?_
    refine PL_icmp_gt (pc' := 33) (tgt := 1493) (pw_dk dc_L0 18 rfl) rfl (by decide) (fun c1 => ?_) (fun c1 => ?_)
    · refine PL_iconst (pc' := 1494) (v := 1) (pw_dk dc_L8 1 rfl) rfl (by decide) ?_
      exact PL_ret1 (pw_dk dc_L8 2 rfl) (by omega) (by omega)
    · have hj : 6 * j + 6 ≤ L := lw_go hL (by omega) c1
      refine PL_aload_n (pc' := 34) (q := 0) (pw_dk dc_L0 19 rfl) rfl rfl rfl ?_
      refine PL_iload (pc' := 36) (q := 4) (pw_dk dc_L0 20 rfl) rfl rfl ?_
      refine PL_sld (pc' := 37) (pw_dk dc_L0 21 rfl) rfl (vp_in_nI (by omega) (by omega)) ?_
      refine PL_bipush (pc' := 39) (v := 63) (pw_dk dc_L0 22 rfl) rfl (by decide) ?_
      refine PL_iand (pc' := 40) (pw_dk dc_L0 23 rfl) rfl ?_
      generalize xs (nI (6 * j)).toNatClampNeg &&& 63 = x
      have latch : ∀ (σc1 σm1 : zS) (w1 : Int64), V σc1 σm1 → PL L xs 1487 [(0, .ref 9500), (1, .ref 100), (2, .ref 5000), (3, .ref 8000), (4, .int (nI (6 * j)))] [] alL (200 + j + 1) (6000 + 6 * j + 6) (lw_st σc1 σm1 w1) := by
        intro σc1 σm1 w1 hI1
        refine PL_iinc (pc' := 1490) (q := 4) (v := nI (6 * (j + 1))) (lv' := [(4, .int (nI (6 * (j + 1)))), (0, .ref 9500), (1, .ref 100), (2, .ref 5000), (3, .ref 8000)]) (pw_dk dc_L7 119 rfl) rfl rfl (nI_add (6 * j) 6) (by decide) rfl ?_
        refine PL_goto (tgt := 23) (pw_dk dc_L8 0 rfl) (by decide) ?_
        refine PL_sub (lv' := [(0, .ref 9500), (1, .ref 100), (2, .ref 5000), (3, .ref 8000), (4, .int (nI (6 * (j + 1))))]) [1, 2, 3, 4, 0] rfl ?_
        exact ih (j + 1) σc1 σm1 w1 hI1 (by omega) (by omega)
      have cont : ∀ σc1 σm1 : zS, V σc1 σm1 → PL L xs 1487 [(0, .ref 9500), (1, .ref 100), (2, .ref 5000), (3, .ref 8000), (4, .int (nI (6 * j)))] [] alL (200 + j) (6000 + 6 * j) (lw_st σc1 σm1 w) := fun σc1 σm1 h9 => PL_wide (by omega) (by omega) (latch σc1 σm1 w h9)
      by_cases c_0 : x = 0
      · refine PL_tin (tgt := 196) (pw_dk dc_L0 24 rfl) (by rw [c_0]; decide) (by rw [c_0]; decide) (by rw [c_0] <;> rfl) (by decide) ?_
        exact cs_feed (ops.1) hj hL (by omega) (by omega) hI cont
      by_cases c_1 : x = 1
      · refine PL_tin (tgt := 269) (pw_dk dc_L0 24 rfl) (by rw [c_1]; decide) (by rw [c_1]; decide) (by rw [c_1] <;> rfl) (by decide) ?_
        exact cs_text (ops.2.1) hj hL (by omega) (by omega) hI cont
      by_cases c_2 : x = 2
      · refine PL_tin (tgt := 294) (pw_dk dc_L0 24 rfl) (by rw [c_2]; decide) (by rw [c_2]; decide) (by rw [c_2] <;> rfl) (by decide) ?_
        exact cs_fault (ops.2.2.1) hj hL (by omega) (by omega) hI cont
      by_cases c_3 : x = 3
      · refine PL_tin (tgt := 319) (pw_dk dc_L0 24 rfl) (by rw [c_3]; decide) (by rw [c_3]; decide) (by rw [c_3] <;> rfl) (by decide) ?_
        exact cs_named (ops.2.2.2.1) hj hL (by omega) (by omega) hI cont
      by_cases c_4 : x = 4
      · refine PL_tin (tgt := 356) (pw_dk dc_L0 24 rfl) (by rw [c_4]; decide) (by rw [c_4]; decide) (by rw [c_4] <;> rfl) (by decide) ?_
        exact cs_look hlk (ops.2.2.2.2.1) hj hL (by omega) (by omega) hI (fun σm1 w1 h9 => latch σc σm1 w1 h9)
      by_cases c_5 : x = 5
      · refine PL_tin (tgt := 424) (pw_dk dc_L0 24 rfl) (by rw [c_5]; decide) (by rw [c_5]; decide) (by rw [c_5] <;> rfl) (by decide) ?_
        exact cs_land (ops.2.2.2.2.2.1) hj hL (by omega) (by omega) hI cont
      by_cases c_6 : x = 6
      · refine PL_tin (tgt := 449) (pw_dk dc_L0 24 rfl) (by rw [c_6]; decide) (by rw [c_6]; decide) (by rw [c_6] <;> rfl) (by decide) ?_
        exact cs_part (ops.2.2.2.2.2.2.1) hj hL (by omega) (by omega) hI cont
      by_cases c_7 : x = 7
      · refine PL_tin (tgt := 498) (pw_dk dc_L0 24 rfl) (by rw [c_7]; decide) (by rw [c_7]; decide) (by rw [c_7] <;> rfl) (by decide) ?_
        exact cs_lawful (ops.2.2.2.2.2.2.2.1) hj hL (by omega) (by omega) hI cont
      by_cases c_8 : x = 8
      · refine PL_tin (tgt := 547) (pw_dk dc_L0 24 rfl) (by rw [c_8]; decide) (by rw [c_8]; decide) (by rw [c_8] <;> rfl) (by decide) ?_
        exact cs_law (ops.2.2.2.2.2.2.2.2.1) hj hL (by omega) (by omega) hI cont
      by_cases c_9 : x = 9
      · refine PL_tin (tgt := 609) (pw_dk dc_L0 24 rfl) (by rw [c_9]; decide) (by rw [c_9]; decide) (by rw [c_9] <;> rfl) (by decide) ?_
        exact cs_deed (ops.2.2.2.2.2.2.2.2.2.1) hj hL (by omega) (by omega) hI cont
      by_cases c_10 : x = 10
      · refine PL_tin (tgt := 646) (pw_dk dc_L0 24 rfl) (by rw [c_10]; decide) (by rw [c_10]; decide) (by rw [c_10] <;> rfl) (by decide) ?_
        exact cs_clash (ops.2.2.2.2.2.2.2.2.2.2.1) hj hL (by omega) (by omega) hI cont
      by_cases c_11 : x = 11
      · refine PL_tin (tgt := 659) (pw_dk dc_L0 24 rfl) (by rw [c_11]; decide) (by rw [c_11]; decide) (by rw [c_11] <;> rfl) (by decide) ?_
        exact cs_move (ops.2.2.2.2.2.2.2.2.2.2.2.1) hj hL (by omega) (by omega) hI cont
      by_cases c_12 : x = 12
      · refine PL_tin (tgt := 696) (pw_dk dc_L0 24 rfl) (by rw [c_12]; decide) (by rw [c_12]; decide) (by rw [c_12] <;> rfl) (by decide) ?_
        exact cs_free (ops.2.2.2.2.2.2.2.2.2.2.2.2.1) hj hL (by omega) (by omega) hI cont
      by_cases c_13 : x = 13
      · refine PL_tin (tgt := 733) (pw_dk dc_L0 24 rfl) (by rw [c_13]; decide) (by rw [c_13]; decide) (by rw [c_13] <;> rfl) (by decide) ?_
        exact cs_go (ops.2.2.2.2.2.2.2.2.2.2.2.2.2.1) hj hL (by omega) (by omega) hI cont
      by_cases c_14 : x = 14
      · refine PL_tin (tgt := 758) (pw_dk dc_L0 24 rfl) (by rw [c_14]; decide) (by rw [c_14]; decide) (by rw [c_14] <;> rfl) (by decide) ?_
        exact cs_fewest (ops.2.2.2.2.2.2.2.2.2.2.2.2.2.2.1) hj hL (by omega) (by omega) hI cont
      by_cases c_15 : x = 15
      · refine PL_tin (tgt := 807) (pw_dk dc_L0 24 rfl) (by rw [c_15]; decide) (by rw [c_15]; decide) (by rw [c_15] <;> rfl) (by decide) ?_
        exact cs_way (ops.2.2.2.2.2.2.2.2.2.2.2.2.2.2.2.1) hj hL (by omega) (by omega) hI cont
      by_cases c_16 : x = 16
      · refine PL_tin (tgt := 868) (pw_dk dc_L0 24 rfl) (by rw [c_16]; decide) (by rw [c_16]; decide) (by rw [c_16] <;> rfl) (by decide) ?_
        exact cs_joint (ops.2.2.2.2.2.2.2.2.2.2.2.2.2.2.2.2.1) hj hL (by omega) (by omega) hI cont
      by_cases c_17 : x = 17
      · refine PL_tin (tgt := 941) (pw_dk dc_L0 24 rfl) (by rw [c_17]; decide) (by rw [c_17]; decide) (by rw [c_17] <;> rfl) (by decide) ?_
        exact cs_stands (ops.2.2.2.2.2.2.2.2.2.2.2.2.2.2.2.2.2.1) hj hL (by omega) (by omega) hI cont
      by_cases c_18 : x = 18
      · refine PL_tin (tgt := 966) (pw_dk dc_L0 24 rfl) (by rw [c_18]; decide) (by rw [c_18]; decide) (by rw [c_18] <;> rfl) (by decide) ?_
        exact cs_match (ops.2.2.2.2.2.2.2.2.2.2.2.2.2.2.2.2.2.2.1) hj hL (by omega) (by omega) hI cont
      by_cases c_19 : x = 19
      · refine PL_tin (tgt := 991) (pw_dk dc_L0 24 rfl) (by rw [c_19]; decide) (by rw [c_19]; decide) (by rw [c_19] <;> rfl) (by decide) ?_
        exact cs_loopholes (ops.2.2.2.2.2.2.2.2.2.2.2.2.2.2.2.2.2.2.2.1) hj hL (by omega) (by omega) hI cont
      by_cases c_20 : x = 20
      · refine PL_tin (tgt := 1028) (pw_dk dc_L0 24 rfl) (by rw [c_20]; decide) (by rw [c_20]; decide) (by rw [c_20] <;> rfl) (by decide) ?_
        exact cs_loophole (ops.2.2.2.2.2.2.2.2.2.2.2.2.2.2.2.2.2.2.2.2.1) hj hL (by omega) (by omega) hI cont
      by_cases c_21 : x = 21
      · refine PL_tin (tgt := 1077) (pw_dk dc_L0 24 rfl) (by rw [c_21]; decide) (by rw [c_21]; decide) (by rw [c_21] <;> rfl) (by decide) ?_
        exact cs_shut (ops.2.2.2.2.2.2.2.2.2.2.2.2.2.2.2.2.2.2.2.2.2.1) hj hL (by omega) (by omega) hI cont
      by_cases c_22 : x = 22
      · refine PL_tin (tgt := 1114) (pw_dk dc_L0 24 rfl) (by rw [c_22]; decide) (by rw [c_22]; decide) (by rw [c_22] <;> rfl) (by decide) ?_
        exact cs_rests (ops.2.2.2.2.2.2.2.2.2.2.2.2.2.2.2.2.2.2.2.2.2.2.1) hj hL (by omega) (by omega) hI cont
      by_cases c_23 : x = 23
      · refine PL_tin (tgt := 1151) (pw_dk dc_L0 24 rfl) (by rw [c_23]; decide) (by rw [c_23]; decide) (by rw [c_23] <;> rfl) (by decide) ?_
        exact cs_rest (ops.2.2.2.2.2.2.2.2.2.2.2.2.2.2.2.2.2.2.2.2.2.2.2.1) hj hL (by omega) (by omega) hI cont
      by_cases c_24 : x = 24
      · refine PL_tin (tgt := 1200) (pw_dk dc_L0 24 rfl) (by rw [c_24]; decide) (by rw [c_24]; decide) (by rw [c_24] <;> rfl) (by decide) ?_
        exact cs_freed (ops.2.2.2.2.2.2.2.2.2.2.2.2.2.2.2.2.2.2.2.2.2.2.2.2.1) hj hL (by omega) (by omega) hI cont
      by_cases c_25 : x = 25
      · refine PL_tin (tgt := 1225) (pw_dk dc_L0 24 rfl) (by rw [c_25]; decide) (by rw [c_25]; decide) (by rw [c_25] <;> rfl) (by decide) ?_
        exact cs_print (ops.2.2.2.2.2.2.2.2.2.2.2.2.2.2.2.2.2.2.2.2.2.2.2.2.2.1) hj hL (by omega) (by omega) hI cont
      by_cases c_26 : x = 26
      · refine PL_tin (tgt := 1274) (pw_dk dc_L0 24 rfl) (by rw [c_26]; decide) (by rw [c_26]; decide) (by rw [c_26] <;> rfl) (by decide) ?_
        exact cs_strike (ops.2.2.2.2.2.2.2.2.2.2.2.2.2.2.2.2.2.2.2.2.2.2.2.2.2.2.1) hj hL (by omega) (by omega) hI cont
      by_cases c_27 : x = 27
      · refine PL_tin (tgt := 1299) (pw_dk dc_L0 24 rfl) (by rw [c_27]; decide) (by rw [c_27]; decide) (by rw [c_27] <;> rfl) (by decide) ?_
        exact cs_known (ops.2.2.2.2.2.2.2.2.2.2.2.2.2.2.2.2.2.2.2.2.2.2.2.2.2.2.2.1) hj hL (by omega) (by omega) hI cont
      by_cases c_28 : x = 28
      · refine PL_tin (tgt := 1324) (pw_dk dc_L0 24 rfl) (by rw [c_28]; decide) (by rw [c_28]; decide) (by rw [c_28] <;> rfl) (by decide) ?_
        exact cs_whose (ops.2.2.2.2.2.2.2.2.2.2.2.2.2.2.2.2.2.2.2.2.2.2.2.2.2.2.2.2.1) hj hL (by omega) (by omega) hI cont
      by_cases c_29 : x = 29
      · refine PL_tin (tgt := 1337) (pw_dk dc_L0 24 rfl) (by rw [c_29]; decide) (by rw [c_29]; decide) (by rw [c_29] <;> rfl) (by decide) ?_
        exact cs_chance (ops.2.2.2.2.2.2.2.2.2.2.2.2.2.2.2.2.2.2.2.2.2.2.2.2.2.2.2.2.2.1) hj hL (by omega) (by omega) hI cont
      by_cases c_30 : x = 30
      · refine PL_tin (tgt := 1386) (pw_dk dc_L0 24 rfl) (by rw [c_30]; decide) (by rw [c_30]; decide) (by rw [c_30] <;> rfl) (by decide) ?_
        exact cs_tried (ops.2.2.2.2.2.2.2.2.2.2.2.2.2.2.2.2.2.2.2.2.2.2.2.2.2.2.2.2.2.2.1) hj hL (by omega) (by omega) hI cont
      by_cases c_31 : x = 31
      · refine PL_tin (tgt := 1423) (pw_dk dc_L0 24 rfl) (by rw [c_31]; decide) (by rw [c_31]; decide) (by rw [c_31] <;> rfl) (by decide) ?_
        exact cs_undo (ops.2.2.2.2.2.2.2.2.2.2.2.2.2.2.2.2.2.2.2.2.2.2.2.2.2.2.2.2.2.2.2.1) hj hL (by omega) (by omega) hI cont
      by_cases c_32 : x = 32
      · refine PL_tin (tgt := 1436) (pw_dk dc_L0 24 rfl) (by rw [c_32]; decide) (by rw [c_32]; decide) (by rw [c_32] <;> rfl) (by decide) ?_
        exact cs_keep (ops.2.2.2.2.2.2.2.2.2.2.2.2.2.2.2.2.2.2.2.2.2.2.2.2.2.2.2.2.2.2.2.2.1) hj hL (by omega) (by omega) hI cont
      by_cases c_33 : x = 33
      · refine PL_tin (tgt := 1449) (pw_dk dc_L0 24 rfl) (by rw [c_33]; decide) (by rw [c_33]; decide) (by rw [c_33] <;> rfl) (by decide) ?_
        exact cs_back (ops.2.2.2.2.2.2.2.2.2.2.2.2.2.2.2.2.2.2.2.2.2.2.2.2.2.2.2.2.2.2.2.2.2.1) hj hL (by omega) (by omega) hI cont
      by_cases c_34 : x = 34
      · refine PL_tin (tgt := 1462) (pw_dk dc_L0 24 rfl) (by rw [c_34]; decide) (by rw [c_34]; decide) (by rw [c_34] <;> rfl) (by decide) ?_
        exact cs_count (ops.2.2.2.2.2.2.2.2.2.2.2.2.2.2.2.2.2.2.2.2.2.2.2.2.2.2.2.2.2.2.2.2.2.2) hj hL (by omega) (by omega) hI cont
      have k_0 := pw_ne c_0 (show (0 : Int32).toInt = 0 by decide)
      have k_1 := pw_ne c_1 (show (1 : Int32).toInt = 1 by decide)
      have k_2 := pw_ne c_2 (show (2 : Int32).toInt = 2 by decide)
      have k_3 := pw_ne c_3 (show (3 : Int32).toInt = 3 by decide)
      have k_4 := pw_ne c_4 (show (4 : Int32).toInt = 4 by decide)
      have k_5 := pw_ne c_5 (show (5 : Int32).toInt = 5 by decide)
      have k_6 := pw_ne c_6 (show (6 : Int32).toInt = 6 by decide)
      have k_7 := pw_ne c_7 (show (7 : Int32).toInt = 7 by decide)
      have k_8 := pw_ne c_8 (show (8 : Int32).toInt = 8 by decide)
      have k_9 := pw_ne c_9 (show (9 : Int32).toInt = 9 by decide)
      have k_10 := pw_ne c_10 (show (10 : Int32).toInt = 10 by decide)
      have k_11 := pw_ne c_11 (show (11 : Int32).toInt = 11 by decide)
      have k_12 := pw_ne c_12 (show (12 : Int32).toInt = 12 by decide)
      have k_13 := pw_ne c_13 (show (13 : Int32).toInt = 13 by decide)
      have k_14 := pw_ne c_14 (show (14 : Int32).toInt = 14 by decide)
      have k_15 := pw_ne c_15 (show (15 : Int32).toInt = 15 by decide)
      have k_16 := pw_ne c_16 (show (16 : Int32).toInt = 16 by decide)
      have k_17 := pw_ne c_17 (show (17 : Int32).toInt = 17 by decide)
      have k_18 := pw_ne c_18 (show (18 : Int32).toInt = 18 by decide)
      have k_19 := pw_ne c_19 (show (19 : Int32).toInt = 19 by decide)
      have k_20 := pw_ne c_20 (show (20 : Int32).toInt = 20 by decide)
      have k_21 := pw_ne c_21 (show (21 : Int32).toInt = 21 by decide)
      have k_22 := pw_ne c_22 (show (22 : Int32).toInt = 22 by decide)
      have k_23 := pw_ne c_23 (show (23 : Int32).toInt = 23 by decide)
      have k_24 := pw_ne c_24 (show (24 : Int32).toInt = 24 by decide)
      have k_25 := pw_ne c_25 (show (25 : Int32).toInt = 25 by decide)
      have k_26 := pw_ne c_26 (show (26 : Int32).toInt = 26 by decide)
      have k_27 := pw_ne c_27 (show (27 : Int32).toInt = 27 by decide)
      have k_28 := pw_ne c_28 (show (28 : Int32).toInt = 28 by decide)
      have k_29 := pw_ne c_29 (show (29 : Int32).toInt = 29 by decide)
      have k_30 := pw_ne c_30 (show (30 : Int32).toInt = 30 by decide)
      have k_31 := pw_ne c_31 (show (31 : Int32).toInt = 31 by decide)
      have k_32 := pw_ne c_32 (show (32 : Int32).toInt = 32 by decide)
      have k_33 := pw_ne c_33 (show (33 : Int32).toInt = 33 by decide)
      have k_34 := pw_ne c_34 (show (34 : Int32).toInt = 34 by decide)
      refine PL_tout (tgt := 1487) (pw_dk dc_L0 24 rfl) (by omega) (by decide) ?_
      exact cont σc σm hI
