/-! look: its words, its answers -/
abbrev mX11_look : pM := (RX11, cX11_look, 4, (some .int), "look")
theorem tw_224 : Cond.fieldLink RX11 147 "HalfCitizen$Told" "heart" "[I" ∈ pw_tb := pw_w 225 _ (by decide +kernel) (by decide +kernel)
theorem tw_1293 : Cond.methodLink RL 7 yX11_look ∈ pw_tb := pw_w 1288 _ (by decide +kernel) (by decide +kernel)
theorem tw_1294 : Cond.instanceMethod yX11_look ∈ pw_tb := pw_w 1289 _ (by decide +kernel) (by decide +kernel)
theorem tw_1295 : Cond.selects yX11_look.cls yX11_look yX11_look ∈ pw_tb := pw_w 1290 _ (by decide +kernel) (by decide +kernel)
theorem tw_1296 : Cond.code yX11_look mX11_look.2.1 mX11_look.2.2.1 mX11_look.2.2.2.1 ∈ pw_tb := pw_w 1291 _ (by decide +kernel) (by decide +kernel)
theorem tw_1363 : Cond.methodLink RX11 132 yX5_cellOf ∈ pw_tb := pw_w 1358 _ (by decide +kernel) (by decide +kernel)
theorem tw_1364 : Cond.methodLink RX11 135 yX5_faceOf ∈ pw_tb := pw_w 1359 _ (by decide +kernel) (by decide +kernel)
theorem tw_1365 : Cond.methodLink RX11 138 yX5_handsOf ∈ pw_tb := pw_w 1360 _ (by decide +kernel) (by decide +kernel)
theorem tw_1366 : Cond.methodLink RX11 141 yX5_feetOf ∈ pw_tb := pw_w 1363 _ (by decide +kernel) (by decide +kernel)
theorem tw_1297 : Cond.classLink RX11 122 "java/lang/IndexOutOfBoundsException" ∈ pw_tb := pw_w 1292 _ (by decide +kernel) (by decide +kernel)
theorem tw_1367 : Cond.classLink RX11 153 "java/util/NoSuchElementException" ∈ pw_tb := pw_w 1366 _ (by decide +kernel) (by decide +kernel)
theorem tw_143 : Cond.initialized "java/lang/IndexOutOfBoundsException" ∈ pw_tb := pw_w 144 _ (by decide +kernel) (by decide +kernel)
theorem tw_144 : Cond.initialized "java/util/NoSuchElementException" ∈ pw_tb := pw_w 145 _ (by decide +kernel) (by decide +kernel)
theorem Y_X11_look : pw_Y yX11_look mX11_look 2 := ⟨⟨by decide, by decide⟩, by decide +kernel, tw_120, tw_1296, by decide⟩
def dl_X11_look : List (Nat × Instr × Nat) := [(0, .aload_n 0, 1), (1, .iload_n 1, 1), (2, .invokevirtual 118, 3), (5, .ifCond .ne 13, 3), (8, .new 122, 3), (11, .dup, 1), (12, .ldc 124, 2), (14, .invokespecial 126, 3), (17, .athrow, 1), (18, .aload_n 0, 1), (19, .getfield 51, 3), (22, .getfield 129, 3), (25, .iload_n 1, 1), (26, .iaload, 1), (27, .istore_n 3, 1), (28, .iload_n 2, 1), (29, .tableswitch 93 0 6 #[43, 48, 53, 58, 63, 73, 83], 43), (72, .iload_n 3, 1), (73, .invokestatic 132, 3), (76, .ireturn, 1), (77, .iload_n 3, 1), (78, .invokestatic 135, 3), (81, .ireturn, 1), (82, .iload_n 3, 1), (83, .invokestatic 138, 3), (86, .ireturn, 1), (87, .iload_n 3, 1), (88, .invokestatic 141, 3), (91, .ireturn, 1), (92, .aload_n 0, 1), (93, .getfield 51, 3), (96, .getfield 144, 3), (99, .iload_n 1, 1), (100, .iaload, 1), (101, .ireturn, 1), (102, .aload_n 0, 1), (103, .getfield 26, 3), (106, .getfield 147, 3), (109, .iload_n 1, 1), (110, .iaload, 1), (111, .ireturn, 1), (112, .aload_n 0, 1), (113, .getfield 51, 3), (116, .getfield 150, 3), (119, .iload_n 1, 1), (120, .iaload, 1), (121, .ireturn, 1), (122, .new 153, 3), (125, .dup, 1), (126, .ldc 155, 2), (128, .invokespecial 157, 3), (131, .athrow, 1)]
theorem dc_X11_look : pw_dec cX11_look dl_X11_look = true := by decide +kernel
theorem lk_s {k w k1 v : Int32} (h : wpO (some (k, w)) (fun a => a = (k1, v))) : k = k1 ∧ w = v := by
  obtain ⟨b, e, q⟩ := h
  cases e
  exact Prod.mk.inj q
theorem t_X11_look0 (x1 x2 v : Int32) (σ : zS) (Q : Option Value → zS → Prop) (h0 : f_look x1 x2 σ = some (0, v)) (hq : Q (some (.int v)) σ) : PK alC yX11_look mX11_look (1) [.ref 100, .int x1, .int x2] σ Q := by
  refine PC_ofF (by decide +kernel) rfl rfl (Nat.le_of_ble_eq_true rfl) ?_
  show PZ alC mX11_look (1) Q 0 [(0, .ref 100), (1, .int x1), (2, .int x2)] [] σ
  have h : wpO (f_look x1 x2 σ) (fun a => a = (0, v)) := ⟨_, h0, rfl⟩
  unfold f_look at h
  refine PW_aload_n (pc' := 1) (q := 0) (pw_dk dc_X11_look 0 rfl) rfl rfl rfl ?_
  refine PW_iload_n (pc' := 2) (q := 1) (pw_dk dc_X11_look 1 rfl) rfl rfl rfl ?_
  refine PZ_callVi (pc' := 5) (y := yX11_isMan) (M' := mX11_isMan) (d' := 0) (As := [.int x1]) (st := []) (b := 100) (ci := 11) (nn := 0) me_100 rfl tw_903 tw_29 (pw_dk dc_X11_look 2 rfl) rfl Y_X11_isMan tw_901 rfl (by decide) (Nat.le_of_ble_eq_true rfl) (t_X11_isMan x1 σ _ ?_)
  refine ⟨_, rfl, fun hn_1 => ?_⟩
  show PZ alC mX11_look (1) Q 5 [(0, .ref 100), (1, .int x1), (2, .int x2)] [.int (f_X11_isMan x1 σ)] σ
  refine PW_if_ne (pc' := 8) (tgt := 18) (pw_dk dc_X11_look 3 rfl) rfl (by decide) (fun c_2 => ?_) (fun c_2 => ?_)
  · rw [if_neg c_2] at h
    refine PW_aload_n (pc' := 19) (q := 0) (pw_dk dc_X11_look 9 rfl) rfl rfl rfl ?_
    refine PW_getR (pc' := 22) (id := 100) (ci := 11) (nn := 0) (C0 := RX11) (T := TX11) (N := 15) (j := 7) (r := 700) (pw_dk dc_X11_look 10 rfl) rfl me_100 rfl pi_11 (by decide) fk_11_7 tw_602 (rfl) (by decide) ?_
    refine PW_getR (pc' := 25) (id := 700) (ci := 0) (nn := 0) (C0 := RX0) (T := TX0) (N := 6) (j := 2) (r := 703) (pw_dk dc_X11_look 11 rfl) rfl me_700 rfl pi_0 (by decide) fk_0_2 tw_464 (rfl) (by decide) ?_
    refine PW_iload_n (pc' := 26) (q := 1) (pw_dk dc_X11_look 12 rfl) rfl rfl rfl ?_
    obtain ⟨v_5, hi_6, e_7, h⟩ := wp_rdIx h
    refine PZ_ialdx (pc' := 27) (v := v_5) (id := 703) (nn := 5) (pw_dk dc_X11_look 13 rfl) rfl me_703 hi_6 e_7 ?_
    refine PW_istore_n (pc' := 28) (lv' := [(3, .int v_5), (0, .ref 100), (1, .int x1), (2, .int x2)]) (pw_dk dc_X11_look 14 rfl) rfl rfl (by decide) rfl ?_
    refine PW_iload_n (pc' := 29) (q := 3) (pw_dk dc_X11_look 15 rfl) rfl rfl rfl ?_
    by_cases c_0 : x2 = 0
    · rw [if_pos c_0] at h
      have z : f_X5_cellOf v_5 σ = v := (lk_s h).2
      refine PW_tin (tgt := 72) (pw_dk dc_X11_look 16 rfl) (by rw [c_0]; decide) (by rw [c_0]; decide) (by rw [c_0] <;> rfl) (by decide) ?_
      refine PW_iload_n (pc' := 73) (q := 0) (pw_dk dc_X11_look 17 rfl) rfl rfl rfl ?_
      refine PZ_callSi (pc' := 76) (y := yX5_cellOf) (M' := mX5_cellOf) (d' := 0) (As := [.int v_5]) (st := []) tw_915 (pw_dk dc_X11_look 18 rfl) rfl Y_X5_cellOf tw_1363 rfl (by decide) (Nat.le_of_ble_eq_true rfl) (t_X5_cellOf v_5 σ _ ?_)
      refine ⟨_, rfl, fun hn => ?_⟩
      exact PZ_iret (ty := .int) (pw_dk dc_X11_look 19 rfl) rfl rfl (by rw [z]; exact hq)
    rw [if_neg c_0] at h
    by_cases c_1 : x2 = 1
    · rw [if_pos c_1] at h
      have z : f_X5_faceOf v_5 σ = v := (lk_s h).2
      refine PW_tin (tgt := 77) (pw_dk dc_X11_look 16 rfl) (by rw [c_1]; decide) (by rw [c_1]; decide) (by rw [c_1] <;> rfl) (by decide) ?_
      refine PW_iload_n (pc' := 78) (q := 0) (pw_dk dc_X11_look 20 rfl) rfl rfl rfl ?_
      refine PZ_callSi (pc' := 81) (y := yX5_faceOf) (M' := mX5_faceOf) (d' := 0) (As := [.int v_5]) (st := []) tw_912 (pw_dk dc_X11_look 21 rfl) rfl Y_X5_faceOf tw_1364 rfl (by decide) (Nat.le_of_ble_eq_true rfl) (t_X5_faceOf v_5 σ _ ?_)
      refine ⟨_, rfl, fun hn => ?_⟩
      exact PZ_iret (ty := .int) (pw_dk dc_X11_look 22 rfl) rfl rfl (by rw [z]; exact hq)
    rw [if_neg c_1] at h
    by_cases c_3 : x2 = 2
    · rw [if_pos c_3] at h
      have z : f_X5_handsOf v_5 σ = v := (lk_s h).2
      refine PW_tin (tgt := 82) (pw_dk dc_X11_look 16 rfl) (by rw [c_3]; decide) (by rw [c_3]; decide) (by rw [c_3] <;> rfl) (by decide) ?_
      refine PW_iload_n (pc' := 83) (q := 0) (pw_dk dc_X11_look 23 rfl) rfl rfl rfl ?_
      refine PZ_callSi (pc' := 86) (y := yX5_handsOf) (M' := mX5_handsOf) (d' := 0) (As := [.int v_5]) (st := []) tw_921 (pw_dk dc_X11_look 24 rfl) rfl Y_X5_handsOf tw_1365 rfl (by decide) (Nat.le_of_ble_eq_true rfl) (t_X5_handsOf v_5 σ _ ?_)
      refine ⟨_, rfl, fun hn => ?_⟩
      exact PZ_iret (ty := .int) (pw_dk dc_X11_look 25 rfl) rfl rfl (by rw [z]; exact hq)
    rw [if_neg c_3] at h
    by_cases c_4 : x2 = 3
    · rw [if_pos c_4] at h
      have z : f_X5_feetOf v_5 σ = v := (lk_s h).2
      refine PW_tin (tgt := 87) (pw_dk dc_X11_look 16 rfl) (by rw [c_4]; decide) (by rw [c_4]; decide) (by rw [c_4] <;> rfl) (by decide) ?_
      refine PW_iload_n (pc' := 88) (q := 0) (pw_dk dc_X11_look 26 rfl) rfl rfl rfl ?_
      refine PZ_callSi (pc' := 91) (y := yX5_feetOf) (M' := mX5_feetOf) (d' := 0) (As := [.int v_5]) (st := []) tw_924 (pw_dk dc_X11_look 27 rfl) rfl Y_X5_feetOf tw_1366 rfl (by decide) (Nat.le_of_ble_eq_true rfl) (t_X5_feetOf v_5 σ _ ?_)
      refine ⟨_, rfl, fun hn => ?_⟩
      exact PZ_iret (ty := .int) (pw_dk dc_X11_look 28 rfl) rfl rfl (by rw [z]; exact hq)
    rw [if_neg c_4] at h
    by_cases c_5 : x2 = 4
    · rw [if_pos c_5] at h
      obtain ⟨w_5, hj_6, f_7, h⟩ := wp_rdIx h
      have z : w_5 = v := (lk_s h).2
      refine PW_tin (tgt := 92) (pw_dk dc_X11_look 16 rfl) (by rw [c_5]; decide) (by rw [c_5]; decide) (by rw [c_5] <;> rfl) (by decide) ?_
      refine PW_aload_n (pc' := 93) (q := 1) (pw_dk dc_X11_look 29 rfl) rfl rfl rfl ?_
      refine PW_getR (pc' := 96) (id := 100) (ci := 11) (nn := 0) (C0 := RX11) (T := TX11) (N := 15) (j := 7) (r := 700) (pw_dk dc_X11_look 30 rfl) rfl me_100 rfl pi_11 (by decide) fk_11_7 tw_602 (rfl) (by decide) ?_
      refine PW_getR (pc' := 99) (id := 700) (ci := 0) (nn := 0) (C0 := RX0) (T := TX0) (N := 6) (j := 3) (r := 704) (pw_dk dc_X11_look 31 rfl) rfl me_700 rfl pi_0 (by decide) fk_0_3 tw_468 (rfl) (by decide) ?_
      refine PW_iload_n (pc' := 100) (q := 2) (pw_dk dc_X11_look 32 rfl) rfl rfl rfl ?_
      refine PZ_ialdx (pc' := 101) (v := w_5) (id := 704) (nn := 5) (pw_dk dc_X11_look 33 rfl) rfl me_704 hj_6 f_7 ?_
      exact PZ_iret (ty := .int) (pw_dk dc_X11_look 34 rfl) rfl rfl (by rw [z]; exact hq)
    rw [if_neg c_5] at h
    by_cases c_6 : x2 = 5
    · rw [if_pos c_6] at h
      obtain ⟨w_5, hj_6, f_7, h⟩ := wp_rdIx h
      have z : w_5 = v := (lk_s h).2
      refine PW_tin (tgt := 102) (pw_dk dc_X11_look 16 rfl) (by rw [c_6]; decide) (by rw [c_6]; decide) (by rw [c_6] <;> rfl) (by decide) ?_
      refine PW_aload_n (pc' := 103) (q := 1) (pw_dk dc_X11_look 35 rfl) rfl rfl rfl ?_
      refine PW_getR (pc' := 106) (id := 100) (ci := 11) (nn := 0) (C0 := RX11) (T := TX11) (N := 15) (j := 4) (r := tv (σ.2.2 0)) (pw_dk dc_X11_look 36 rfl) rfl me_100 rfl pi_11 (by decide) fk_11_4 tw_599 (rf_M0 _) (tv0 _) ?_
      refine PW_getR (pc' := 109) (id := (tv (σ.2.2 0))) (ci := 8) (nn := 0) (C0 := RX8) (T := TX8) (N := 18) (j := 9) (r := tv (σ.2.2 0) + 10) (pw_dk dc_X11_look 37 rfl) rfl (me_T _) rfl pi_8 (by decide) fk_8_9 tw_224 (rf_T9 _ _) (su0 _ _) ?_
      refine PW_iload_n (pc' := 110) (q := 2) (pw_dk dc_X11_look 38 rfl) rfl rfl rfl ?_
      refine PZ_ialdx (pc' := 111) (v := w_5) (id := (tv (σ.2.2 0) + 10)) (nn := 5) (pw_dk dc_X11_look 39 rfl) rfl (me_T9 _) hj_6 f_7 ?_
      exact PZ_iret (ty := .int) (pw_dk dc_X11_look 40 rfl) rfl rfl (by rw [z]; exact hq)
    rw [if_neg c_6] at h
    by_cases c_7 : x2 = 6
    · rw [if_pos c_7] at h
      obtain ⟨w_5, hj_6, f_7, h⟩ := wp_rdIx h
      have z : w_5 = v := (lk_s h).2
      refine PW_tin (tgt := 112) (pw_dk dc_X11_look 16 rfl) (by rw [c_7]; decide) (by rw [c_7]; decide) (by rw [c_7] <;> rfl) (by decide) ?_
      refine PW_aload_n (pc' := 113) (q := 1) (pw_dk dc_X11_look 41 rfl) rfl rfl rfl ?_
      refine PW_getR (pc' := 116) (id := 100) (ci := 11) (nn := 0) (C0 := RX11) (T := TX11) (N := 15) (j := 7) (r := 700) (pw_dk dc_X11_look 42 rfl) rfl me_100 rfl pi_11 (by decide) fk_11_7 tw_602 (rfl) (by decide) ?_
      refine PW_getR (pc' := 119) (id := 700) (ci := 0) (nn := 0) (C0 := RX0) (T := TX0) (N := 6) (j := 4) (r := 705) (pw_dk dc_X11_look 43 rfl) rfl me_700 rfl pi_0 (by decide) fk_0_4 tw_471 (rfl) (by decide) ?_
      refine PW_iload_n (pc' := 120) (q := 2) (pw_dk dc_X11_look 44 rfl) rfl rfl rfl ?_
      refine PZ_ialdx (pc' := 121) (v := w_5) (id := 705) (nn := 5) (pw_dk dc_X11_look 45 rfl) rfl me_705 hj_6 f_7 ?_
      exact PZ_iret (ty := .int) (pw_dk dc_X11_look 46 rfl) rfl rfl (by rw [z]; exact hq)
    rw [if_neg c_7] at h
    exact absurd (lk_s h).1 (by decide)
  · rw [if_pos c_2] at h
    exact absurd (lk_s h).1 (by decide)
