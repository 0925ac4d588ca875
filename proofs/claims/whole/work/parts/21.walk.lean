/-! walks (printed by wip/gen) -/
def f_X12_oneOf_32   (σ : zS) : Option (Int32 × zS) := 
  (f_X12_wrong 1 σ).bind fun σ_2 =>
  some (0, σ_2)
theorem b_X12_oneOf_32 {Q : Option Value → zS → Prop}  (σ : zS) (h : wpO (f_X12_oneOf_32 σ) (fun a => Q (some (.int a.1)) a.2)) : PZ alM mX12_oneOf (6) Q 32 [(0, .ref 5000)] [] σ := by
  unfold f_X12_oneOf_32 at h
  refine PW_aload_n (pc' := 33) (q := 0) (pw_dk dc_X12_oneOf 16 rfl) rfl rfl rfl ?_
  refine PW_iconst (pc' := 34) (v := 1) (pw_dk dc_X12_oneOf 17 rfl) rfl (by decide) ?_
  refine PZ_callVv (pc' := 37) (y := yX12_wrong) (M' := mX12_wrong) (d' := 0) (As := [.int 1]) (st := []) (b := 5000) (ci := 12) (nn := 0) me_5000 rfl tw_1636 tw_55 (pw_dk dc_X12_oneOf 18 rfl) rfl Y_X12_wrong tw_1634 rfl (by decide) (Nat.le_of_ble_eq_true rfl) (t_X12_wrong 1 σ _ ?_)
  obtain ⟨σ_2, e_3, h⟩ := wp_bind h
  refine ⟨σ_2, e_3, rfl, fun hn_1 => ?_⟩
  show PZ alM mX12_oneOf (6) Q 37 [(0, .ref 5000)] [] σ_2
  refine PW_iconst (pc' := 38) (v := 0) (pw_dk dc_X12_oneOf 19 rfl) rfl (by decide) ?_
  have z := wp_some h
  exact PZ_iret (ty := .int) (pw_dk dc_X12_oneOf 20 rfl) rfl rfl z
def f_X12_oneOf (x1 : Int32) (x2 : Int32) (σ : zS) : Option (Int32 × zS) := 
  if (σ.1 5000 28) = 0 then
    if (σ.1 5000 26) = 0 then
      if (σ.1 5000 27) < x1 then
        f_X12_oneOf_32 σ
      else
        if (σ.1 5000 27) ≤ x2 then
          lt (α := Int32) ((σ.1 5000 27) - x1) fun x3_5 =>
          (f_X12_token σ).bind fun σ_7 =>
          some (x3_5, σ_7)
        else
          f_X12_oneOf_32 σ
    else
      f_X12_oneOf_32 σ
  else
    some (0, σ)
theorem t_X12_oneOf (x1 : Int32) (x2 : Int32) (σ : zS) (Q : Option Value → zS → Prop) (h : wpO (f_X12_oneOf x1 x2 σ) (fun a => Q (some (.int a.1)) a.2)) : PK alM yX12_oneOf mX12_oneOf (6) [.ref 5000, .int x1, .int x2] σ Q := by
  refine PC_ofF (by decide +kernel) rfl rfl (Nat.le_of_ble_eq_true rfl) ?_
  show PZ alM mX12_oneOf (6) Q 0 [(0, .ref 5000), (1, .int x1), (2, .int x2)] [] σ
  unfold f_X12_oneOf at h
  refine PW_aload_n (pc' := 1) (q := 0) (pw_dk dc_X12_oneOf 0 rfl) rfl rfl rfl ?_
  refine PZ_getI (pc' := 4) (id := 5000) (ci := 12) (nn := 0) (C0 := RX12) (T := TX12) (N := 62) (j := 28) (pw_dk dc_X12_oneOf 1 rfl) rfl me_5000 rfl pi_12 (by decide) fk_12_28 tw_1425 ?_
  refine PW_if_eq (pc' := 7) (tgt := 9) (pw_dk dc_X12_oneOf 2 rfl) rfl (by decide) (fun c_1 => ?_) (fun c_1 => ?_)
  · rw [if_pos c_1] at h
    refine PW_aload_n (pc' := 10) (q := 0) (pw_dk dc_X12_oneOf 5 rfl) rfl rfl rfl ?_
    refine PZ_getI (pc' := 13) (id := 5000) (ci := 12) (nn := 0) (C0 := RX12) (T := TX12) (N := 62) (j := 26) (pw_dk dc_X12_oneOf 6 rfl) rfl me_5000 rfl pi_12 (by decide) fk_12_26 tw_1423 ?_
    refine PW_if_ne (pc' := 16) (tgt := 32) (pw_dk dc_X12_oneOf 7 rfl) rfl (by decide) (fun c_2 => ?_) (fun c_2 => ?_)
    · rw [if_neg c_2] at h
      refine PW_sub (lv' := [(0, .ref 5000)]) [0] rfl ?_
      exact b_X12_oneOf_32 σ h
    · rw [if_pos c_2] at h
      refine PW_aload_n (pc' := 17) (q := 0) (pw_dk dc_X12_oneOf 8 rfl) rfl rfl rfl ?_
      refine PZ_getI (pc' := 20) (id := 5000) (ci := 12) (nn := 0) (C0 := RX12) (T := TX12) (N := 62) (j := 27) (pw_dk dc_X12_oneOf 9 rfl) rfl me_5000 rfl pi_12 (by decide) fk_12_27 tw_1424 ?_
      refine PW_iload_n (pc' := 21) (q := 1) (pw_dk dc_X12_oneOf 10 rfl) rfl rfl rfl ?_
      refine PW_icmp_lt (pc' := 24) (tgt := 32) (pw_dk dc_X12_oneOf 11 rfl) rfl (by decide) (fun c_3 => ?_) (fun c_3 => ?_)
      · rw [if_pos c_3] at h
        refine PW_sub (lv' := [(0, .ref 5000)]) [0] rfl ?_
        exact b_X12_oneOf_32 σ h
      · rw [if_neg c_3] at h
        refine PW_aload_n (pc' := 25) (q := 0) (pw_dk dc_X12_oneOf 12 rfl) rfl rfl rfl ?_
        refine PZ_getI (pc' := 28) (id := 5000) (ci := 12) (nn := 0) (C0 := RX12) (T := TX12) (N := 62) (j := 27) (pw_dk dc_X12_oneOf 13 rfl) rfl me_5000 rfl pi_12 (by decide) fk_12_27 tw_1424 ?_
        refine PW_iload_n (pc' := 29) (q := 2) (pw_dk dc_X12_oneOf 14 rfl) rfl rfl rfl ?_
        refine PW_icmp_le (pc' := 32) (tgt := 39) (pw_dk dc_X12_oneOf 15 rfl) rfl (by decide) (fun c_4 => ?_) (fun c_4 => ?_)
        · rw [if_pos c_4] at h
          refine PW_aload_n (pc' := 40) (q := 0) (pw_dk dc_X12_oneOf 21 rfl) rfl rfl rfl ?_
          refine PZ_getI (pc' := 43) (id := 5000) (ci := 12) (nn := 0) (C0 := RX12) (T := TX12) (N := 62) (j := 27) (pw_dk dc_X12_oneOf 22 rfl) rfl me_5000 rfl pi_12 (by decide) fk_12_27 tw_1424 ?_
          refine PW_iload_n (pc' := 44) (q := 1) (pw_dk dc_X12_oneOf 23 rfl) rfl rfl rfl ?_
          refine PW_isub (pc' := 45) (pw_dk dc_X12_oneOf 24 rfl) rfl ?_
          refine PW_topi (fun x3_5 ex3_5 => ?_)
          replace h := lt_w h ex3_5
          refine PW_istore_n (pc' := 46) (lv' := [(3, .int x3_5), (0, .ref 5000), (1, .int x1), (2, .int x2)]) (pw_dk dc_X12_oneOf 25 rfl) rfl rfl (by decide) rfl ?_
          refine PW_aload_n (pc' := 47) (q := 1) (pw_dk dc_X12_oneOf 26 rfl) rfl rfl rfl ?_
          refine PZ_callVv (pc' := 50) (y := yX12_token) (M' := mX12_token) (d' := 5) (As := []) (st := []) (b := 5000) (ci := 12) (nn := 0) me_5000 rfl tw_1602 tw_49 (pw_dk dc_X12_oneOf 27 rfl) rfl Y_X12_token tw_1600 rfl (by decide) (Nat.le_of_ble_eq_true rfl) (t_X12_token σ _ ?_)
          obtain ⟨σ_7, e_8, h⟩ := wp_bind h
          refine ⟨σ_7, e_8, rfl, fun hn_6 => ?_⟩
          show PZ alM mX12_oneOf (6) Q 50 [(3, .int x3_5), (0, .ref 5000), (1, .int x1), (2, .int x2)] [] σ_7
          refine PW_iload_n (pc' := 51) (q := 0) (pw_dk dc_X12_oneOf 28 rfl) rfl rfl rfl ?_
          have z := wp_some h
          exact PZ_iret (ty := .int) (pw_dk dc_X12_oneOf 29 rfl) rfl rfl z
        · rw [if_neg c_4] at h
          refine PW_sub (lv' := [(0, .ref 5000)]) [0] rfl ?_
          exact b_X12_oneOf_32 σ h
  · rw [if_neg c_1] at h
    refine PW_iconst (pc' := 8) (v := 0) (pw_dk dc_X12_oneOf 3 rfl) rfl (by decide) ?_
    have z := wp_some h
    exact PZ_iret (ty := .int) (pw_dk dc_X12_oneOf 4 rfl) rfl rfl z
def f_X12_deedLine (x1 : Int32) (σ : zS) : Option zS := 
  (f_X12_fresher 2 σ).bind fun v_2 =>
  b2 (f_X12_toldAhead 5009 10 5 v_2 σ) fun v_6 σ_5 =>
  (wrI σ_5 5014 24 x1 v_6).bind fun σ_8 =>
  b2 (f_X12_oneOf 14 17 σ_8) fun v_13 σ_12 =>
  (wrI σ_12 5015 24 x1 v_13).bind fun σ_15 =>
  b2 (f_X12_oneOf 18 21 σ_15) fun v_20 σ_19 =>
  (wrI σ_19 5016 24 x1 v_20).bind fun σ_22 =>
  b2 (f_X12_numeral 0 23 σ_22) fun v_27 σ_26 =>
  (wrI σ_26 5017 24 x1 v_27).bind fun σ_29 =>
  (f_X12_fresher 3 σ_29).bind fun v_33 =>
  (f_X12_reads 3 (v_33 + (1 : Int32)) σ_29).bind fun σ_36 =>
  some σ_36
theorem t_X12_deedLine (x1 : Int32) (σ : zS) (Q : Option Value → zS → Prop) (h : wpO (f_X12_deedLine x1 σ) (fun s => Q none s)) : PK alM yX12_deedLine mX12_deedLine (7) [.ref 5000, .int x1] σ Q := by
  refine PC_ofF (by decide +kernel) rfl rfl (Nat.le_of_ble_eq_true rfl) ?_
  show PZ alM mX12_deedLine (7) Q 0 [(0, .ref 5000), (1, .int x1)] [] σ
  unfold f_X12_deedLine at h
  refine PW_aload_n (pc' := 1) (q := 0) (pw_dk dc_X12_deedLine 0 rfl) rfl rfl rfl ?_
  refine PW_getR (pc' := 4) (id := 5000) (ci := 12) (nn := 0) (C0 := RX12) (T := TX12) (N := 62) (j := 13) (r := 5014) (pw_dk dc_X12_deedLine 1 rfl) rfl me_5000 rfl pi_12 (by decide) fk_12_13 tw_1410 (rfl) (by decide) ?_
  refine PW_iload_n (pc' := 5) (q := 1) (pw_dk dc_X12_deedLine 2 rfl) rfl rfl rfl ?_
  refine PW_aload_n (pc' := 6) (q := 0) (pw_dk dc_X12_deedLine 3 rfl) rfl rfl rfl ?_
  refine PW_aload_n (pc' := 7) (q := 0) (pw_dk dc_X12_deedLine 4 rfl) rfl rfl rfl ?_
  refine PW_getR (pc' := 10) (id := 5000) (ci := 12) (nn := 0) (C0 := RX12) (T := TX12) (N := 62) (j := 8) (r := 5009) (pw_dk dc_X12_deedLine 5 rfl) rfl me_5000 rfl pi_12 (by decide) fk_12_8 tw_1405 (rfl) (by decide) ?_
  refine PW_iconst (pc' := 11) (v := 5) (pw_dk dc_X12_deedLine 6 rfl) rfl (by decide) ?_
  refine PW_aload_n (pc' := 12) (q := 0) (pw_dk dc_X12_deedLine 7 rfl) rfl rfl rfl ?_
  refine PW_iconst (pc' := 13) (v := 2) (pw_dk dc_X12_deedLine 8 rfl) rfl (by decide) ?_
  refine PZ_callVi (pc' := 16) (y := yX12_fresher) (M' := mX12_fresher) (d' := 0) (As := [.int 2]) (st := [.int 5, .ref 5009, .ref 5000, .int x1, .ref 5014]) (b := 5000) (ci := 12) (nn := 0) me_5000 rfl tw_1644 tw_57 (pw_dk dc_X12_deedLine 9 rfl) rfl Y_X12_fresher tw_1642 rfl (by decide) (Nat.le_of_ble_eq_true rfl) (t_X12_fresher 2 σ _ ?_)
  obtain ⟨v_2, e_3, h⟩ := wp_bind h
  refine ⟨v_2, e_3, _, rfl, fun hn_1 => ?_⟩
  show PZ alM mX12_deedLine (7) Q 16 [(0, .ref 5000), (1, .int x1)] [.int v_2, .int 5, .ref 5009, .ref 5000, .int x1, .ref 5014] σ
  refine PZ_callVi (pc' := 19) (y := yX12_toldAhead) (M' := mX12_toldAhead) (d' := 6) (As := [.ref 5009, .int 5, .int v_2]) (st := [.int x1, .ref 5014]) (b := 5000) (ci := 12) (nn := 0) me_5000 rfl tw_1671 tw_63 (pw_dk dc_X12_deedLine 10 rfl) rfl Y_X12_toldAhead tw_1669 rfl (by decide) (Nat.le_of_ble_eq_true rfl) (t_X12_toldAhead 5009 10 5 v_2 me_5009 σ _ ?_)
  obtain ⟨⟨v_6, σ_5⟩, e_7, h⟩ := wp_bind2 h
  refine ⟨(v_6, σ_5), e_7, _, rfl, fun hn_4 => ?_⟩
  show PZ alM mX12_deedLine (7) Q 19 [(0, .ref 5000), (1, .int x1)] [.int v_6, .int x1, .ref 5014] σ_5
  obtain ⟨σ_8, hi_9, e_10, h⟩ := wp_wrIx h
  refine PZ_iastx (pc' := 20) (σ' := σ_8) (id := 5014) (nn := 24) (pw_dk dc_X12_deedLine 11 rfl) rfl me_5014 hi_9 e_10 ?_
  refine PW_aload_n (pc' := 21) (q := 0) (pw_dk dc_X12_deedLine 12 rfl) rfl rfl rfl ?_
  refine PW_getR (pc' := 24) (id := 5000) (ci := 12) (nn := 0) (C0 := RX12) (T := TX12) (N := 62) (j := 14) (r := 5015) (pw_dk dc_X12_deedLine 13 rfl) rfl me_5000 rfl pi_12 (by decide) fk_12_14 tw_1411 (rfl) (by decide) ?_
  refine PW_iload_n (pc' := 25) (q := 1) (pw_dk dc_X12_deedLine 14 rfl) rfl rfl rfl ?_
  refine PW_aload_n (pc' := 26) (q := 0) (pw_dk dc_X12_deedLine 15 rfl) rfl rfl rfl ?_
  refine PW_bipush (pc' := 28) (v := 14) (pw_dk dc_X12_deedLine 16 rfl) rfl (by decide) ?_
  refine PW_bipush (pc' := 30) (v := 17) (pw_dk dc_X12_deedLine 17 rfl) rfl (by decide) ?_
  refine PZ_callVi (pc' := 33) (y := yX12_oneOf) (M' := mX12_oneOf) (d' := 6) (As := [.int 14, .int 17]) (st := [.int x1, .ref 5015]) (b := 5000) (ci := 12) (nn := 0) me_5000 rfl tw_1663 tw_61 (pw_dk dc_X12_deedLine 18 rfl) rfl Y_X12_oneOf tw_1661 rfl (by decide) (Nat.le_of_ble_eq_true rfl) (t_X12_oneOf 14 17 σ_8 _ ?_)
  obtain ⟨⟨v_13, σ_12⟩, e_14, h⟩ := wp_bind2 h
  refine ⟨(v_13, σ_12), e_14, _, rfl, fun hn_11 => ?_⟩
  show PZ alM mX12_deedLine (7) Q 33 [(0, .ref 5000), (1, .int x1)] [.int v_13, .int x1, .ref 5015] σ_12
  obtain ⟨σ_15, hi_16, e_17, h⟩ := wp_wrIx h
  refine PZ_iastx (pc' := 34) (σ' := σ_15) (id := 5015) (nn := 24) (pw_dk dc_X12_deedLine 19 rfl) rfl me_5015 hi_16 e_17 ?_
  refine PW_aload_n (pc' := 35) (q := 0) (pw_dk dc_X12_deedLine 20 rfl) rfl rfl rfl ?_
  refine PW_getR (pc' := 38) (id := 5000) (ci := 12) (nn := 0) (C0 := RX12) (T := TX12) (N := 62) (j := 15) (r := 5016) (pw_dk dc_X12_deedLine 21 rfl) rfl me_5000 rfl pi_12 (by decide) fk_12_15 tw_1412 (rfl) (by decide) ?_
  refine PW_iload_n (pc' := 39) (q := 1) (pw_dk dc_X12_deedLine 22 rfl) rfl rfl rfl ?_
  refine PW_aload_n (pc' := 40) (q := 0) (pw_dk dc_X12_deedLine 23 rfl) rfl rfl rfl ?_
  refine PW_bipush (pc' := 42) (v := 18) (pw_dk dc_X12_deedLine 24 rfl) rfl (by decide) ?_
  refine PW_bipush (pc' := 44) (v := 21) (pw_dk dc_X12_deedLine 25 rfl) rfl (by decide) ?_
  refine PZ_callVi (pc' := 47) (y := yX12_oneOf) (M' := mX12_oneOf) (d' := 6) (As := [.int 18, .int 21]) (st := [.int x1, .ref 5016]) (b := 5000) (ci := 12) (nn := 0) me_5000 rfl tw_1663 tw_61 (pw_dk dc_X12_deedLine 26 rfl) rfl Y_X12_oneOf tw_1661 rfl (by decide) (Nat.le_of_ble_eq_true rfl) (t_X12_oneOf 18 21 σ_15 _ ?_)
  obtain ⟨⟨v_20, σ_19⟩, e_21, h⟩ := wp_bind2 h
  refine ⟨(v_20, σ_19), e_21, _, rfl, fun hn_18 => ?_⟩
  show PZ alM mX12_deedLine (7) Q 47 [(0, .ref 5000), (1, .int x1)] [.int v_20, .int x1, .ref 5016] σ_19
  obtain ⟨σ_22, hi_23, e_24, h⟩ := wp_wrIx h
  refine PZ_iastx (pc' := 48) (σ' := σ_22) (id := 5016) (nn := 24) (pw_dk dc_X12_deedLine 27 rfl) rfl me_5016 hi_23 e_24 ?_
  refine PW_aload_n (pc' := 49) (q := 0) (pw_dk dc_X12_deedLine 28 rfl) rfl rfl rfl ?_
  refine PW_getR (pc' := 52) (id := 5000) (ci := 12) (nn := 0) (C0 := RX12) (T := TX12) (N := 62) (j := 16) (r := 5017) (pw_dk dc_X12_deedLine 29 rfl) rfl me_5000 rfl pi_12 (by decide) fk_12_16 tw_1413 (rfl) (by decide) ?_
  refine PW_iload_n (pc' := 53) (q := 1) (pw_dk dc_X12_deedLine 30 rfl) rfl rfl rfl ?_
  refine PW_aload_n (pc' := 54) (q := 0) (pw_dk dc_X12_deedLine 31 rfl) rfl rfl rfl ?_
  refine PW_iconst (pc' := 55) (v := 0) (pw_dk dc_X12_deedLine 32 rfl) rfl (by decide) ?_
  refine PW_bipush (pc' := 57) (v := 23) (pw_dk dc_X12_deedLine 33 rfl) rfl (by decide) ?_
  refine PZ_callVi (pc' := 60) (y := yX12_numeral) (M' := mX12_numeral) (d' := 6) (As := [.int 0, .int 23]) (st := [.int x1, .ref 5017]) (b := 5000) (ci := 12) (nn := 0) me_5000 rfl tw_1648 tw_58 (pw_dk dc_X12_deedLine 34 rfl) rfl Y_X12_numeral tw_1646 rfl (by decide) (Nat.le_of_ble_eq_true rfl) (t_X12_numeral 0 23 σ_22 _ ?_)
  obtain ⟨⟨v_27, σ_26⟩, e_28, h⟩ := wp_bind2 h
  refine ⟨(v_27, σ_26), e_28, _, rfl, fun hn_25 => ?_⟩
  show PZ alM mX12_deedLine (7) Q 60 [(0, .ref 5000), (1, .int x1)] [.int v_27, .int x1, .ref 5017] σ_26
  obtain ⟨σ_29, hi_30, e_31, h⟩ := wp_wrIx h
  refine PZ_iastx (pc' := 61) (σ' := σ_29) (id := 5017) (nn := 24) (pw_dk dc_X12_deedLine 35 rfl) rfl me_5017 hi_30 e_31 ?_
  refine PW_aload_n (pc' := 62) (q := 0) (pw_dk dc_X12_deedLine 36 rfl) rfl rfl rfl ?_
  refine PW_iconst (pc' := 63) (v := 3) (pw_dk dc_X12_deedLine 37 rfl) rfl (by decide) ?_
  refine PW_aload_n (pc' := 64) (q := 0) (pw_dk dc_X12_deedLine 38 rfl) rfl rfl rfl ?_
  refine PW_iconst (pc' := 65) (v := 3) (pw_dk dc_X12_deedLine 39 rfl) rfl (by decide) ?_
  refine PZ_callVi (pc' := 68) (y := yX12_fresher) (M' := mX12_fresher) (d' := 0) (As := [.int 3]) (st := [.int 3, .ref 5000]) (b := 5000) (ci := 12) (nn := 0) me_5000 rfl tw_1644 tw_57 (pw_dk dc_X12_deedLine 40 rfl) rfl Y_X12_fresher tw_1642 rfl (by decide) (Nat.le_of_ble_eq_true rfl) (t_X12_fresher 3 σ_29 _ ?_)
  obtain ⟨v_33, e_34, h⟩ := wp_bind h
  refine ⟨v_33, e_34, _, rfl, fun hn_32 => ?_⟩
  show PZ alM mX12_deedLine (7) Q 68 [(0, .ref 5000), (1, .int x1)] [.int v_33, .int 3, .ref 5000] σ_29
  refine PW_iconst (pc' := 69) (v := 1) (pw_dk dc_X12_deedLine 41 rfl) rfl (by decide) ?_
  refine PW_iadd (pc' := 70) (pw_dk dc_X12_deedLine 42 rfl) rfl ?_
  refine PZ_callVv (pc' := 73) (y := yX12_reads) (M' := mX12_reads) (d' := 0) (As := [.int 3, .int (v_33 + (1 : Int32))]) (st := []) (b := 5000) (ci := 12) (nn := 0) me_5000 rfl tw_1598 tw_48 (pw_dk dc_X12_deedLine 43 rfl) rfl Y_X12_reads tw_1596 rfl (by decide) (Nat.le_of_ble_eq_true rfl) (t_X12_reads 3 (v_33 + (1 : Int32)) σ_29 _ ?_)
  obtain ⟨σ_36, e_37, h⟩ := wp_bind h
  refine ⟨σ_36, e_37, rfl, fun hn_35 => ?_⟩
  show PZ alM mX12_deedLine (7) Q 73 [(0, .ref 5000), (1, .int x1)] [] σ_36
  have z := wp_some h
  exact PZ_vret (pw_dk dc_X12_deedLine 44 rfl) rfl z
def f_X12_knot  (σ : zS) : Option zS := 
  if (σ.1 5000 28) = 0 then
    if (σ.1 5000 33) = 64 then
      (f_X12_wrong 2 σ).bind fun σ_6 =>
      some σ_6
    else
      lt (wI σ 5000 33 ((σ.1 5000 33) + (1 : Int32))) fun σ_3 =>
      some σ_3
  else
    some σ
theorem t_X12_knot (σ : zS) (Q : Option Value → zS → Prop) (h : wpO (f_X12_knot σ) (fun s => Q none s)) : PK alM yX12_knot mX12_knot (1) [.ref 5000] σ Q := by
  refine PC_ofF (by decide +kernel) rfl rfl (Nat.le_of_ble_eq_true rfl) ?_
  show PZ alM mX12_knot (1) Q 0 [(0, .ref 5000)] [] σ
  unfold f_X12_knot at h
  refine PW_aload_n (pc' := 1) (q := 0) (pw_dk dc_X12_knot 0 rfl) rfl rfl rfl ?_
  refine PZ_getI (pc' := 4) (id := 5000) (ci := 12) (nn := 0) (C0 := RX12) (T := TX12) (N := 62) (j := 28) (pw_dk dc_X12_knot 1 rfl) rfl me_5000 rfl pi_12 (by decide) fk_12_28 tw_1425 ?_
  refine PW_if_eq (pc' := 7) (tgt := 8) (pw_dk dc_X12_knot 2 rfl) rfl (by decide) (fun c_1 => ?_) (fun c_1 => ?_)
  · rw [if_pos c_1] at h
    refine PW_aload_n (pc' := 9) (q := 0) (pw_dk dc_X12_knot 4 rfl) rfl rfl rfl ?_
    refine PZ_getI (pc' := 12) (id := 5000) (ci := 12) (nn := 0) (C0 := RX12) (T := TX12) (N := 62) (j := 33) (pw_dk dc_X12_knot 5 rfl) rfl me_5000 rfl pi_12 (by decide) fk_12_33 tw_1430 ?_
    refine PW_bipush (pc' := 14) (v := 64) (pw_dk dc_X12_knot 6 rfl) rfl (by decide) ?_
    refine PW_icmp_ne (pc' := 17) (tgt := 25) (pw_dk dc_X12_knot 7 rfl) rfl (by decide) (fun c_2 => ?_) (fun c_2 => ?_)
    · rw [if_neg c_2] at h
      refine PW_aload_n (pc' := 26) (q := 0) (pw_dk dc_X12_knot 12 rfl) rfl rfl rfl ?_
      refine PW_dup (pc' := 27) (pw_dk dc_X12_knot 13 rfl) rfl rfl ?_
      refine PZ_getI (pc' := 30) (id := 5000) (ci := 12) (nn := 0) (C0 := RX12) (T := TX12) (N := 62) (j := 33) (pw_dk dc_X12_knot 14 rfl) rfl me_5000 rfl pi_12 (by decide) fk_12_33 tw_1430 ?_
      refine PW_iconst (pc' := 31) (v := 1) (pw_dk dc_X12_knot 15 rfl) rfl (by decide) ?_
      refine PW_iadd (pc' := 32) (pw_dk dc_X12_knot 16 rfl) rfl ?_
      obtain ⟨σ_3, e_4, h⟩ := lt_x h
      refine PZ_putX (pc' := 35) (σ' := σ_3) (id := 5000) (ci := 12) (nn := 0) (C0 := RX12) (T := TX12) (N := 62) (j := 33) (ty := tyX12 33) (pw_dk dc_X12_knot 17 rfl) rfl me_5000 rfl pi_12 tyX12_ok nmX12 (by decide) fk_12_33 tw_1430 rfl (tyX12_ok 33 (by decide)) (by first | rfl | decide) (by first | rfl | decide) e_4 ?_
      have z := wp_some h
      exact PZ_vret (pw_dk dc_X12_knot 18 rfl) rfl z
    · rw [if_pos c_2] at h
      refine PW_aload_n (pc' := 18) (q := 0) (pw_dk dc_X12_knot 8 rfl) rfl rfl rfl ?_
      refine PW_iconst (pc' := 19) (v := 2) (pw_dk dc_X12_knot 9 rfl) rfl (by decide) ?_
      refine PZ_callVv (pc' := 22) (y := yX12_wrong) (M' := mX12_wrong) (d' := 0) (As := [.int 2]) (st := []) (b := 5000) (ci := 12) (nn := 0) me_5000 rfl tw_1636 tw_55 (pw_dk dc_X12_knot 10 rfl) rfl Y_X12_wrong tw_1634 rfl (by decide) (Nat.le_of_ble_eq_true rfl) (t_X12_wrong 2 σ _ ?_)
      obtain ⟨σ_6, e_7, h⟩ := wp_bind h
      refine ⟨σ_6, e_7, rfl, fun hn_5 => ?_⟩
      show PZ alM mX12_knot (1) Q 22 [(0, .ref 5000)] [] σ_6
      refine PW_goto (tgt := 35) (pw_dk dc_X12_knot 11 rfl) (by decide) ?_
      have z := wp_some h
      exact PZ_vret (pw_dk dc_X12_knot 18 rfl) rfl z
  · rw [if_neg c_1] at h
    have z := wp_some h
    exact PZ_vret (pw_dk dc_X12_knot 3 rfl) rfl z
def f_X12_puts (x1 : Int32) (x2 : Int32) (σ : zS) : Option zS := 
  if (σ.1 5000 28) = 0 then
    (f_X12_fresher 7 σ).bind fun v_3 =>
    (wrI σ 5020 128 ((64 : Int32) + v_3) x1).bind fun σ_5 =>
    (f_X12_fresher 7 σ_5).bind fun v_9 =>
    (wrI σ_5 5021 128 ((64 : Int32) + v_9) x2).bind fun σ_11 =>
    (f_X12_fresher 7 σ_11).bind fun v_15 =>
    (f_X12_reads 7 (v_15 + (1 : Int32)) σ_11).bind fun σ_18 =>
    some σ_18
  else
    some σ
theorem t_X12_puts (x1 : Int32) (x2 : Int32) (σ : zS) (Q : Option Value → zS → Prop) (h : wpO (f_X12_puts x1 x2 σ) (fun s => Q none s)) : PK alM yX12_puts mX12_puts (1) [.ref 5000, .int x1, .int x2] σ Q := by
  refine PC_ofF (by decide +kernel) rfl rfl (Nat.le_of_ble_eq_true rfl) ?_
  show PZ alM mX12_puts (1) Q 0 [(0, .ref 5000), (1, .int x1), (2, .int x2)] [] σ
  unfold f_X12_puts at h
  refine PW_aload_n (pc' := 1) (q := 0) (pw_dk dc_X12_puts 0 rfl) rfl rfl rfl ?_
  refine PZ_getI (pc' := 4) (id := 5000) (ci := 12) (nn := 0) (C0 := RX12) (T := TX12) (N := 62) (j := 28) (pw_dk dc_X12_puts 1 rfl) rfl me_5000 rfl pi_12 (by decide) fk_12_28 tw_1425 ?_
  refine PW_if_eq (pc' := 7) (tgt := 8) (pw_dk dc_X12_puts 2 rfl) rfl (by decide) (fun c_1 => ?_) (fun c_1 => ?_)
  · rw [if_pos c_1] at h
    refine PW_aload_n (pc' := 9) (q := 0) (pw_dk dc_X12_puts 4 rfl) rfl rfl rfl ?_
    refine PW_getR (pc' := 12) (id := 5000) (ci := 12) (nn := 0) (C0 := RX12) (T := TX12) (N := 62) (j := 19) (r := 5020) (pw_dk dc_X12_puts 5 rfl) rfl me_5000 rfl pi_12 (by decide) fk_12_19 tw_1416 (rfl) (by decide) ?_
    refine PW_bipush (pc' := 14) (v := 64) (pw_dk dc_X12_puts 6 rfl) rfl (by decide) ?_
    refine PW_aload_n (pc' := 15) (q := 0) (pw_dk dc_X12_puts 7 rfl) rfl rfl rfl ?_
    refine PW_bipush (pc' := 17) (v := 7) (pw_dk dc_X12_puts 8 rfl) rfl (by decide) ?_
    refine PZ_callVi (pc' := 20) (y := yX12_fresher) (M' := mX12_fresher) (d' := 0) (As := [.int 7]) (st := [.int 64, .ref 5020]) (b := 5000) (ci := 12) (nn := 0) me_5000 rfl tw_1644 tw_57 (pw_dk dc_X12_puts 9 rfl) rfl Y_X12_fresher tw_1642 rfl (by decide) (Nat.le_of_ble_eq_true rfl) (t_X12_fresher 7 σ _ ?_)
    obtain ⟨v_3, e_4, h⟩ := wp_bind h
    refine ⟨v_3, e_4, _, rfl, fun hn_2 => ?_⟩
    show PZ alM mX12_puts (1) Q 20 [(0, .ref 5000), (1, .int x1), (2, .int x2)] [.int v_3, .int 64, .ref 5020] σ
    refine PW_iadd (pc' := 21) (pw_dk dc_X12_puts 10 rfl) rfl ?_
    refine PW_iload_n (pc' := 22) (q := 1) (pw_dk dc_X12_puts 11 rfl) rfl rfl rfl ?_
    obtain ⟨σ_5, hi_6, e_7, h⟩ := wp_wrIx h
    refine PZ_iastx (pc' := 23) (σ' := σ_5) (id := 5020) (nn := 128) (pw_dk dc_X12_puts 12 rfl) rfl me_5020 hi_6 e_7 ?_
    refine PW_aload_n (pc' := 24) (q := 0) (pw_dk dc_X12_puts 13 rfl) rfl rfl rfl ?_
    refine PW_getR (pc' := 27) (id := 5000) (ci := 12) (nn := 0) (C0 := RX12) (T := TX12) (N := 62) (j := 20) (r := 5021) (pw_dk dc_X12_puts 14 rfl) rfl me_5000 rfl pi_12 (by decide) fk_12_20 tw_1417 (rfl) (by decide) ?_
    refine PW_bipush (pc' := 29) (v := 64) (pw_dk dc_X12_puts 15 rfl) rfl (by decide) ?_
    refine PW_aload_n (pc' := 30) (q := 0) (pw_dk dc_X12_puts 16 rfl) rfl rfl rfl ?_
    refine PW_bipush (pc' := 32) (v := 7) (pw_dk dc_X12_puts 17 rfl) rfl (by decide) ?_
    refine PZ_callVi (pc' := 35) (y := yX12_fresher) (M' := mX12_fresher) (d' := 0) (As := [.int 7]) (st := [.int 64, .ref 5021]) (b := 5000) (ci := 12) (nn := 0) me_5000 rfl tw_1644 tw_57 (pw_dk dc_X12_puts 18 rfl) rfl Y_X12_fresher tw_1642 rfl (by decide) (Nat.le_of_ble_eq_true rfl) (t_X12_fresher 7 σ_5 _ ?_)
    obtain ⟨v_9, e_10, h⟩ := wp_bind h
    refine ⟨v_9, e_10, _, rfl, fun hn_8 => ?_⟩
    show PZ alM mX12_puts (1) Q 35 [(0, .ref 5000), (1, .int x1), (2, .int x2)] [.int v_9, .int 64, .ref 5021] σ_5
    refine PW_iadd (pc' := 36) (pw_dk dc_X12_puts 19 rfl) rfl ?_
    refine PW_iload_n (pc' := 37) (q := 2) (pw_dk dc_X12_puts 20 rfl) rfl rfl rfl ?_
    obtain ⟨σ_11, hi_12, e_13, h⟩ := wp_wrIx h
    refine PZ_iastx (pc' := 38) (σ' := σ_11) (id := 5021) (nn := 128) (pw_dk dc_X12_puts 21 rfl) rfl me_5021 hi_12 e_13 ?_
    refine PW_aload_n (pc' := 39) (q := 0) (pw_dk dc_X12_puts 22 rfl) rfl rfl rfl ?_
    refine PW_bipush (pc' := 41) (v := 7) (pw_dk dc_X12_puts 23 rfl) rfl (by decide) ?_
    refine PW_aload_n (pc' := 42) (q := 0) (pw_dk dc_X12_puts 24 rfl) rfl rfl rfl ?_
    refine PW_bipush (pc' := 44) (v := 7) (pw_dk dc_X12_puts 25 rfl) rfl (by decide) ?_
    refine PZ_callVi (pc' := 47) (y := yX12_fresher) (M' := mX12_fresher) (d' := 0) (As := [.int 7]) (st := [.int 7, .ref 5000]) (b := 5000) (ci := 12) (nn := 0) me_5000 rfl tw_1644 tw_57 (pw_dk dc_X12_puts 26 rfl) rfl Y_X12_fresher tw_1642 rfl (by decide) (Nat.le_of_ble_eq_true rfl) (t_X12_fresher 7 σ_11 _ ?_)
    obtain ⟨v_15, e_16, h⟩ := wp_bind h
    refine ⟨v_15, e_16, _, rfl, fun hn_14 => ?_⟩
    show PZ alM mX12_puts (1) Q 47 [(0, .ref 5000), (1, .int x1), (2, .int x2)] [.int v_15, .int 7, .ref 5000] σ_11
    refine PW_iconst (pc' := 48) (v := 1) (pw_dk dc_X12_puts 27 rfl) rfl (by decide) ?_
    refine PW_iadd (pc' := 49) (pw_dk dc_X12_puts 28 rfl) rfl ?_
    refine PZ_callVv (pc' := 52) (y := yX12_reads) (M' := mX12_reads) (d' := 0) (As := [.int 7, .int (v_15 + (1 : Int32))]) (st := []) (b := 5000) (ci := 12) (nn := 0) me_5000 rfl tw_1598 tw_48 (pw_dk dc_X12_puts 29 rfl) rfl Y_X12_reads tw_1596 rfl (by decide) (Nat.le_of_ble_eq_true rfl) (t_X12_reads 7 (v_15 + (1 : Int32)) σ_11 _ ?_)
    obtain ⟨σ_18, e_19, h⟩ := wp_bind h
    refine ⟨σ_18, e_19, rfl, fun hn_17 => ?_⟩
    show PZ alM mX12_puts (1) Q 52 [(0, .ref 5000), (1, .int x1), (2, .int x2)] [] σ_18
    have z := wp_some h
    exact PZ_vret (pw_dk dc_X12_puts 30 rfl) rfl z
  · rw [if_neg c_1] at h
    have z := wp_some h
    exact PZ_vret (pw_dk dc_X12_puts 3 rfl) rfl z
def f_X12_expression_4 (rc : Nat → zS → Option zS) : Nat → zS → Option zS
  | 0, _ => none
  | n + 1, σ => 
    if (f_X12_isWord 25 σ) = 0 then
      some σ
    else
      (f_X12_knot σ).bind fun σ_4 =>
      (f_X12_goOn σ_4).bind fun σ_7 =>
      (rc 1 σ_7).bind fun σ_10 =>
      (f_X12_puts 2 262 σ_10).bind fun σ_13 =>
      f_X12_expression_4 rc n σ_13
theorem b_X12_expression_4 (rc : Nat → zS → Option zS) (dd : Nat) (hdd : 7 ≤ dd) (hg : gM rc dd) {Q : Option Value → zS → Prop} : ∀ (n : Nat)  (σ : zS) (h : wpO (f_X12_expression_4 rc n σ) (fun s => Q none s)), PZ alM mX12_expression (dd + 1) Q 4 [(0, .ref 5000)] [] σ := by
  intro n
  induction n with
  | zero => intro  σ h; exact wp_none h
  | succ n ih =>
    intro  σ h
    rw [f_X12_expression_4] at h
    refine PW_aload_n (pc' := 5) (q := 0) (pw_dk dc_X12_expression 2 rfl) rfl rfl rfl ?_
    refine PW_bipush (pc' := 7) (v := 25) (pw_dk dc_X12_expression 3 rfl) rfl (by decide) ?_
    refine PZ_callVi (pc' := 10) (y := yX12_isWord) (M' := mX12_isWord) (d' := 0) (As := [.int 25]) (st := []) (b := 5000) (ci := 12) (nn := 0) me_5000 rfl tw_1695 tw_69 (pw_dk dc_X12_expression 4 rfl) rfl Y_X12_isWord tw_1693 rfl (by omega) (Nat.le_of_ble_eq_true rfl) (t_X12_isWord 25 σ _ ?_)
    refine ⟨_, rfl, fun hn_1 => ?_⟩
    show PZ alM mX12_expression (dd + 1) Q 10 [(0, .ref 5000)] [.int (f_X12_isWord 25 σ)] σ
    refine PW_if_eq (pc' := 13) (tgt := 36) (pw_dk dc_X12_expression 5 rfl) rfl (by decide) (fun c_2 => ?_) (fun c_2 => ?_)
    · rw [if_pos c_2] at h
      have z := wp_some h
      exact PZ_vret (pw_dk dc_X12_expression 17 rfl) rfl z
    · rw [if_neg c_2] at h
      refine PW_aload_n (pc' := 14) (q := 0) (pw_dk dc_X12_expression 6 rfl) rfl rfl rfl ?_
      refine PZ_callVv (pc' := 17) (y := yX12_knot) (M' := mX12_knot) (d' := 1) (As := []) (st := []) (b := 5000) (ci := 12) (nn := 0) me_5000 rfl tw_1699 tw_70 (pw_dk dc_X12_expression 7 rfl) rfl Y_X12_knot tw_1697 rfl (by omega) (Nat.le_of_ble_eq_true rfl) (t_X12_knot σ _ ?_)
      obtain ⟨σ_4, e_5, h⟩ := wp_bind h
      refine ⟨σ_4, e_5, rfl, fun hn_3 => ?_⟩
      show PZ alM mX12_expression (dd + 1) Q 17 [(0, .ref 5000)] [] σ_4
      refine PW_aload_n (pc' := 18) (q := 0) (pw_dk dc_X12_expression 8 rfl) rfl rfl rfl ?_
      refine PZ_callVv (pc' := 21) (y := yX12_goOn) (M' := mX12_goOn) (d' := 6) (As := []) (st := []) (b := 5000) (ci := 12) (nn := 0) me_5000 rfl tw_1703 tw_71 (pw_dk dc_X12_expression 9 rfl) rfl Y_X12_goOn tw_1701 rfl (by omega) (Nat.le_of_ble_eq_true rfl) (t_X12_goOn σ_4 _ ?_)
      obtain ⟨σ_7, e_8, h⟩ := wp_bind h
      refine ⟨σ_7, e_8, rfl, fun hn_6 => ?_⟩
      show PZ alM mX12_expression (dd + 1) Q 21 [(0, .ref 5000)] [] σ_7
      refine PW_aload_n (pc' := 22) (q := 0) (pw_dk dc_X12_expression 10 rfl) rfl rfl rfl ?_
      refine PZ_callVv (pc' := 25) (y := yX12_conjunction) (M' := mX12_conjunction) (d' := dd) (As := []) (st := []) (b := 5000) (ci := 12) (nn := 0) me_5000 rfl tw_1687 tw_67 (pw_dk dc_X12_expression 11 rfl) rfl Y_X12_conjunction tw_1685 rfl (Nat.le_refl _) (Nat.le_of_ble_eq_true rfl) (hg.2.1 σ_7 _ ?_)
      obtain ⟨σ_10, e_11, h⟩ := wp_bind h
      refine ⟨σ_10, e_11, rfl, fun hn_9 => ?_⟩
      show PZ alM mX12_expression (dd + 1) Q 25 [(0, .ref 5000)] [] σ_10
      refine PW_aload_n (pc' := 26) (q := 0) (pw_dk dc_X12_expression 12 rfl) rfl rfl rfl ?_
      refine PW_iconst (pc' := 27) (v := 2) (pw_dk dc_X12_expression 13 rfl) rfl (by decide) ?_
      refine PW_sipush (pc' := 30) (v := 262) (pw_dk dc_X12_expression 14 rfl) rfl (by decide) ?_
      refine PZ_callVv (pc' := 33) (y := yX12_puts) (M' := mX12_puts) (d' := 1) (As := [.int 2, .int 262]) (st := []) (b := 5000) (ci := 12) (nn := 0) me_5000 rfl tw_1707 tw_72 (pw_dk dc_X12_expression 15 rfl) rfl Y_X12_puts tw_1705 rfl (by omega) (Nat.le_of_ble_eq_true rfl) (t_X12_puts 2 262 σ_10 _ ?_)
      obtain ⟨σ_13, e_14, h⟩ := wp_bind h
      refine ⟨σ_13, e_14, rfl, fun hn_12 => ?_⟩
      show PZ alM mX12_expression (dd + 1) Q 33 [(0, .ref 5000)] [] σ_13
      refine PW_goto (tgt := 4) (pw_dk dc_X12_expression 16 rfl) (by decide) ?_
      exact ih  σ_13 h
def F_X12_expression (rc : Nat → zS → Option zS) (σ : zS) : Option zS := 
  (rc 1 σ).bind fun σ_2 =>
  f_X12_expression_4 rc FU σ_2
theorem t_X12_expression (rc : Nat → zS → Option zS) (dd : Nat) (hdd : 7 ≤ dd) (hg : gM rc dd) (σ : zS) (Q : Option Value → zS → Prop) (h : wpO (F_X12_expression rc σ) (fun s => Q none s)) : PK alM yX12_expression mX12_expression (dd + 1) [.ref 5000] σ Q := by
  refine PC_ofF (by decide +kernel) rfl rfl (Nat.le_of_ble_eq_true rfl) ?_
  show PZ alM mX12_expression (dd + 1) Q 0 [(0, .ref 5000)] [] σ
  unfold F_X12_expression at h
  refine PW_aload_n (pc' := 1) (q := 0) (pw_dk dc_X12_expression 0 rfl) rfl rfl rfl ?_
  refine PZ_callVv (pc' := 4) (y := yX12_conjunction) (M' := mX12_conjunction) (d' := dd) (As := []) (st := []) (b := 5000) (ci := 12) (nn := 0) me_5000 rfl tw_1687 tw_67 (pw_dk dc_X12_expression 1 rfl) rfl Y_X12_conjunction tw_1685 rfl (Nat.le_refl _) (Nat.le_of_ble_eq_true rfl) (hg.2.1 σ _ ?_)
  obtain ⟨σ_2, e_3, h⟩ := wp_bind h
  refine ⟨σ_2, e_3, rfl, fun hn_1 => ?_⟩
  show PZ alM mX12_expression (dd + 1) Q 4 [(0, .ref 5000)] [] σ_2
  exact b_X12_expression_4 rc dd hdd hg FU σ_2 h
def f_X12_conjunction_4 (rc : Nat → zS → Option zS) : Nat → zS → Option zS
  | 0, _ => none
  | n + 1, σ => 
    if (f_X12_isWord 26 σ) = 0 then
      some σ
    else
      (f_X12_knot σ).bind fun σ_4 =>
      (f_X12_goOn σ_4).bind fun σ_7 =>
      (rc 2 σ_7).bind fun σ_10 =>
      (f_X12_puts 2 261 σ_10).bind fun σ_13 =>
      f_X12_conjunction_4 rc n σ_13
theorem b_X12_conjunction_4 (rc : Nat → zS → Option zS) (dd : Nat) (hdd : 7 ≤ dd) (hg : gM rc dd) {Q : Option Value → zS → Prop} : ∀ (n : Nat)  (σ : zS) (h : wpO (f_X12_conjunction_4 rc n σ) (fun s => Q none s)), PZ alM mX12_conjunction (dd + 1) Q 4 [(0, .ref 5000)] [] σ := by
  intro n
  induction n with
  | zero => intro  σ h; exact wp_none h
  | succ n ih =>
    intro  σ h
    rw [f_X12_conjunction_4] at h
    refine PW_aload_n (pc' := 5) (q := 0) (pw_dk dc_X12_conjunction 2 rfl) rfl rfl rfl ?_
    refine PW_bipush (pc' := 7) (v := 26) (pw_dk dc_X12_conjunction 3 rfl) rfl (by decide) ?_
    refine PZ_callVi (pc' := 10) (y := yX12_isWord) (M' := mX12_isWord) (d' := 0) (As := [.int 26]) (st := []) (b := 5000) (ci := 12) (nn := 0) me_5000 rfl tw_1695 tw_69 (pw_dk dc_X12_conjunction 4 rfl) rfl Y_X12_isWord tw_1693 rfl (by omega) (Nat.le_of_ble_eq_true rfl) (t_X12_isWord 26 σ _ ?_)
    refine ⟨_, rfl, fun hn_1 => ?_⟩
    show PZ alM mX12_conjunction (dd + 1) Q 10 [(0, .ref 5000)] [.int (f_X12_isWord 26 σ)] σ
    refine PW_if_eq (pc' := 13) (tgt := 36) (pw_dk dc_X12_conjunction 5 rfl) rfl (by decide) (fun c_2 => ?_) (fun c_2 => ?_)
    · rw [if_pos c_2] at h
      have z := wp_some h
      exact PZ_vret (pw_dk dc_X12_conjunction 17 rfl) rfl z
    · rw [if_neg c_2] at h
      refine PW_aload_n (pc' := 14) (q := 0) (pw_dk dc_X12_conjunction 6 rfl) rfl rfl rfl ?_
      refine PZ_callVv (pc' := 17) (y := yX12_knot) (M' := mX12_knot) (d' := 1) (As := []) (st := []) (b := 5000) (ci := 12) (nn := 0) me_5000 rfl tw_1699 tw_70 (pw_dk dc_X12_conjunction 7 rfl) rfl Y_X12_knot tw_1697 rfl (by omega) (Nat.le_of_ble_eq_true rfl) (t_X12_knot σ _ ?_)
      obtain ⟨σ_4, e_5, h⟩ := wp_bind h
      refine ⟨σ_4, e_5, rfl, fun hn_3 => ?_⟩
      show PZ alM mX12_conjunction (dd + 1) Q 17 [(0, .ref 5000)] [] σ_4
      refine PW_aload_n (pc' := 18) (q := 0) (pw_dk dc_X12_conjunction 8 rfl) rfl rfl rfl ?_
      refine PZ_callVv (pc' := 21) (y := yX12_goOn) (M' := mX12_goOn) (d' := 6) (As := []) (st := []) (b := 5000) (ci := 12) (nn := 0) me_5000 rfl tw_1703 tw_71 (pw_dk dc_X12_conjunction 9 rfl) rfl Y_X12_goOn tw_1701 rfl (by omega) (Nat.le_of_ble_eq_true rfl) (t_X12_goOn σ_4 _ ?_)
      obtain ⟨σ_7, e_8, h⟩ := wp_bind h
      refine ⟨σ_7, e_8, rfl, fun hn_6 => ?_⟩
      show PZ alM mX12_conjunction (dd + 1) Q 21 [(0, .ref 5000)] [] σ_7
      refine PW_aload_n (pc' := 22) (q := 0) (pw_dk dc_X12_conjunction 10 rfl) rfl rfl rfl ?_
      refine PZ_callVv (pc' := 25) (y := yX12_negation) (M' := mX12_negation) (d' := dd) (As := []) (st := []) (b := 5000) (ci := 12) (nn := 0) me_5000 rfl tw_1691 tw_68 (pw_dk dc_X12_conjunction 11 rfl) rfl Y_X12_negation tw_1689 rfl (Nat.le_refl _) (Nat.le_of_ble_eq_true rfl) (hg.2.2.1 σ_7 _ ?_)
      obtain ⟨σ_10, e_11, h⟩ := wp_bind h
      refine ⟨σ_10, e_11, rfl, fun hn_9 => ?_⟩
      show PZ alM mX12_conjunction (dd + 1) Q 25 [(0, .ref 5000)] [] σ_10
      refine PW_aload_n (pc' := 26) (q := 0) (pw_dk dc_X12_conjunction 12 rfl) rfl rfl rfl ?_
      refine PW_iconst (pc' := 27) (v := 2) (pw_dk dc_X12_conjunction 13 rfl) rfl (by decide) ?_
      refine PW_sipush (pc' := 30) (v := 261) (pw_dk dc_X12_conjunction 14 rfl) rfl (by decide) ?_
      refine PZ_callVv (pc' := 33) (y := yX12_puts) (M' := mX12_puts) (d' := 1) (As := [.int 2, .int 261]) (st := []) (b := 5000) (ci := 12) (nn := 0) me_5000 rfl tw_1707 tw_72 (pw_dk dc_X12_conjunction 15 rfl) rfl Y_X12_puts tw_1705 rfl (by omega) (Nat.le_of_ble_eq_true rfl) (t_X12_puts 2 261 σ_10 _ ?_)
      obtain ⟨σ_13, e_14, h⟩ := wp_bind h
      refine ⟨σ_13, e_14, rfl, fun hn_12 => ?_⟩
      show PZ alM mX12_conjunction (dd + 1) Q 33 [(0, .ref 5000)] [] σ_13
      refine PW_goto (tgt := 4) (pw_dk dc_X12_conjunction 16 rfl) (by decide) ?_
      exact ih  σ_13 h
def F_X12_conjunction (rc : Nat → zS → Option zS) (σ : zS) : Option zS := 
  (rc 2 σ).bind fun σ_2 =>
  f_X12_conjunction_4 rc FU σ_2
theorem t_X12_conjunction (rc : Nat → zS → Option zS) (dd : Nat) (hdd : 7 ≤ dd) (hg : gM rc dd) (σ : zS) (Q : Option Value → zS → Prop) (h : wpO (F_X12_conjunction rc σ) (fun s => Q none s)) : PK alM yX12_conjunction mX12_conjunction (dd + 1) [.ref 5000] σ Q := by
  refine PC_ofF (by decide +kernel) rfl rfl (Nat.le_of_ble_eq_true rfl) ?_
  show PZ alM mX12_conjunction (dd + 1) Q 0 [(0, .ref 5000)] [] σ
  unfold F_X12_conjunction at h
  refine PW_aload_n (pc' := 1) (q := 0) (pw_dk dc_X12_conjunction 0 rfl) rfl rfl rfl ?_
  refine PZ_callVv (pc' := 4) (y := yX12_negation) (M' := mX12_negation) (d' := dd) (As := []) (st := []) (b := 5000) (ci := 12) (nn := 0) me_5000 rfl tw_1691 tw_68 (pw_dk dc_X12_conjunction 1 rfl) rfl Y_X12_negation tw_1689 rfl (Nat.le_refl _) (Nat.le_of_ble_eq_true rfl) (hg.2.2.1 σ _ ?_)
  obtain ⟨σ_2, e_3, h⟩ := wp_bind h
  refine ⟨σ_2, e_3, rfl, fun hn_1 => ?_⟩
  show PZ alM mX12_conjunction (dd + 1) Q 4 [(0, .ref 5000)] [] σ_2
  exact b_X12_conjunction_4 rc dd hdd hg FU σ_2 h
def f_X12_negation_87 (rc : Nat → zS → Option zS)  (σ : zS) : Option zS := 
  lt (α := Int32) (σ.1 5000 27) fun x1_1 =>
  (f_X12_knot σ).bind fun σ_3 =>
  (f_X12_goOn σ_3).bind fun σ_6 =>
  (rc 3 σ_6).bind fun σ_9 =>
  (f_X12_puts 2 x1_1 σ_9).bind fun σ_12 =>
  some σ_12
theorem b_X12_negation_87 (rc : Nat → zS → Option zS) (dd : Nat) (hdd : 7 ≤ dd) (hg : gM rc dd) {Q : Option Value → zS → Prop}  (σ : zS) (h : wpO (f_X12_negation_87 rc σ) (fun s => Q none s)) : PZ alM mX12_negation (dd + 1) Q 87 [(0, .ref 5000)] [] σ := by
  unfold f_X12_negation_87 at h
  refine PW_aload_n (pc' := 88) (q := 0) (pw_dk dc_X12_negation 41 rfl) rfl rfl rfl ?_
  refine PZ_getI (pc' := 91) (id := 5000) (ci := 12) (nn := 0) (C0 := RX12) (T := TX12) (N := 62) (j := 27) (pw_dk dc_X12_negation 42 rfl) rfl me_5000 rfl pi_12 (by decide) fk_12_27 tw_1424 ?_
  refine PW_topi (fun x1_1 ex1_1 => ?_)
  replace h := lt_w h ex1_1
  refine PW_istore_n (pc' := 92) (lv' := [(1, .int x1_1), (0, .ref 5000)]) (pw_dk dc_X12_negation 43 rfl) rfl rfl (by decide) rfl ?_
  refine PW_aload_n (pc' := 93) (q := 1) (pw_dk dc_X12_negation 44 rfl) rfl rfl rfl ?_
  refine PZ_callVv (pc' := 96) (y := yX12_knot) (M' := mX12_knot) (d' := 1) (As := []) (st := []) (b := 5000) (ci := 12) (nn := 0) me_5000 rfl tw_1699 tw_70 (pw_dk dc_X12_negation 45 rfl) rfl Y_X12_knot tw_1697 rfl (by omega) (Nat.le_of_ble_eq_true rfl) (t_X12_knot σ _ ?_)
  obtain ⟨σ_3, e_4, h⟩ := wp_bind h
  refine ⟨σ_3, e_4, rfl, fun hn_2 => ?_⟩
  show PZ alM mX12_negation (dd + 1) Q 96 [(1, .int x1_1), (0, .ref 5000)] [] σ_3
  refine PW_aload_n (pc' := 97) (q := 1) (pw_dk dc_X12_negation 46 rfl) rfl rfl rfl ?_
  refine PZ_callVv (pc' := 100) (y := yX12_goOn) (M' := mX12_goOn) (d' := 6) (As := []) (st := []) (b := 5000) (ci := 12) (nn := 0) me_5000 rfl tw_1703 tw_71 (pw_dk dc_X12_negation 47 rfl) rfl Y_X12_goOn tw_1701 rfl (by omega) (Nat.le_of_ble_eq_true rfl) (t_X12_goOn σ_3 _ ?_)
  obtain ⟨σ_6, e_7, h⟩ := wp_bind h
  refine ⟨σ_6, e_7, rfl, fun hn_5 => ?_⟩
  show PZ alM mX12_negation (dd + 1) Q 100 [(1, .int x1_1), (0, .ref 5000)] [] σ_6
  refine PW_aload_n (pc' := 101) (q := 1) (pw_dk dc_X12_negation 48 rfl) rfl rfl rfl ?_
  refine PZ_callVv (pc' := 104) (y := yX12_sum) (M' := mX12_sum) (d' := dd) (As := []) (st := []) (b := 5000) (ci := 12) (nn := 0) me_5000 rfl tw_1711 tw_73 (pw_dk dc_X12_negation 49 rfl) rfl Y_X12_sum tw_1709 rfl (Nat.le_refl _) (Nat.le_of_ble_eq_true rfl) (hg.2.2.2.1 σ_6 _ ?_)
  obtain ⟨σ_9, e_10, h⟩ := wp_bind h
  refine ⟨σ_9, e_10, rfl, fun hn_8 => ?_⟩
  show PZ alM mX12_negation (dd + 1) Q 104 [(1, .int x1_1), (0, .ref 5000)] [] σ_9
  refine PW_aload_n (pc' := 105) (q := 1) (pw_dk dc_X12_negation 50 rfl) rfl rfl rfl ?_
  refine PW_iconst (pc' := 106) (v := 2) (pw_dk dc_X12_negation 51 rfl) rfl (by decide) ?_
  refine PW_iload_n (pc' := 107) (q := 0) (pw_dk dc_X12_negation 52 rfl) rfl rfl rfl ?_
  refine PZ_callVv (pc' := 110) (y := yX12_puts) (M' := mX12_puts) (d' := 1) (As := [.int 2, .int x1_1]) (st := []) (b := 5000) (ci := 12) (nn := 0) me_5000 rfl tw_1707 tw_72 (pw_dk dc_X12_negation 53 rfl) rfl Y_X12_puts tw_1705 rfl (by omega) (Nat.le_of_ble_eq_true rfl) (t_X12_puts 2 x1_1 σ_9 _ ?_)
  obtain ⟨σ_12, e_13, h⟩ := wp_bind h
  refine ⟨σ_12, e_13, rfl, fun hn_11 => ?_⟩
  show PZ alM mX12_negation (dd + 1) Q 110 [(1, .int x1_1), (0, .ref 5000)] [] σ_12
  have z := wp_some h
  exact PZ_vret (pw_dk dc_X12_negation 54 rfl) rfl z
def F_X12_negation (rc : Nat → zS → Option zS) (σ : zS) : Option zS := 
  if (f_X12_isWord 27 σ) = 0 then
    (rc 3 σ).bind fun σ_4 =>
    if (σ_4.1 5000 28) = 0 then
      if (σ_4.1 5000 26) = 3 then
        if (σ_4.1 5000 27) = 60 then
          f_X12_negation_87 rc σ_4
        else
          if (σ_4.1 5000 27) = 62 then
            f_X12_negation_87 rc σ_4
          else
            if (σ_4.1 5000 27) = 61 then
              f_X12_negation_87 rc σ_4
            else
              if 256 ≤ (σ_4.1 5000 27) then
                f_X12_negation_87 rc σ_4
              else
                some σ_4
      else
        some σ_4
    else
      some σ_4
  else
    (f_X12_knot σ).bind fun σ_13 =>
    (f_X12_goOn σ_13).bind fun σ_16 =>
    (rc 2 σ_16).bind fun σ_19 =>
    (f_X12_puts 2 260 σ_19).bind fun σ_22 =>
    some σ_22
theorem t_X12_negation (rc : Nat → zS → Option zS) (dd : Nat) (hdd : 7 ≤ dd) (hg : gM rc dd) (σ : zS) (Q : Option Value → zS → Prop) (h : wpO (F_X12_negation rc σ) (fun s => Q none s)) : PK alM yX12_negation mX12_negation (dd + 1) [.ref 5000] σ Q := by
  refine PC_ofF (by decide +kernel) rfl rfl (Nat.le_of_ble_eq_true rfl) ?_
  show PZ alM mX12_negation (dd + 1) Q 0 [(0, .ref 5000)] [] σ
  unfold F_X12_negation at h
  refine PW_aload_n (pc' := 1) (q := 0) (pw_dk dc_X12_negation 0 rfl) rfl rfl rfl ?_
  refine PW_bipush (pc' := 3) (v := 27) (pw_dk dc_X12_negation 1 rfl) rfl (by decide) ?_
  refine PZ_callVi (pc' := 6) (y := yX12_isWord) (M' := mX12_isWord) (d' := 0) (As := [.int 27]) (st := []) (b := 5000) (ci := 12) (nn := 0) me_5000 rfl tw_1695 tw_69 (pw_dk dc_X12_negation 2 rfl) rfl Y_X12_isWord tw_1693 rfl (by omega) (Nat.le_of_ble_eq_true rfl) (t_X12_isWord 27 σ _ ?_)
  refine ⟨_, rfl, fun hn_1 => ?_⟩
  show PZ alM mX12_negation (dd + 1) Q 6 [(0, .ref 5000)] [.int (f_X12_isWord 27 σ)] σ
  refine PW_if_eq (pc' := 9) (tgt := 30) (pw_dk dc_X12_negation 3 rfl) rfl (by decide) (fun c_2 => ?_) (fun c_2 => ?_)
  · rw [if_pos c_2] at h
    refine PW_aload_n (pc' := 31) (q := 0) (pw_dk dc_X12_negation 15 rfl) rfl rfl rfl ?_
    refine PZ_callVv (pc' := 34) (y := yX12_sum) (M' := mX12_sum) (d' := dd) (As := []) (st := []) (b := 5000) (ci := 12) (nn := 0) me_5000 rfl tw_1711 tw_73 (pw_dk dc_X12_negation 16 rfl) rfl Y_X12_sum tw_1709 rfl (Nat.le_refl _) (Nat.le_of_ble_eq_true rfl) (hg.2.2.2.1 σ _ ?_)
    obtain ⟨σ_4, e_5, h⟩ := wp_bind h
    refine ⟨σ_4, e_5, rfl, fun hn_3 => ?_⟩
    show PZ alM mX12_negation (dd + 1) Q 34 [(0, .ref 5000)] [] σ_4
    refine PW_aload_n (pc' := 35) (q := 0) (pw_dk dc_X12_negation 17 rfl) rfl rfl rfl ?_
    refine PZ_getI (pc' := 38) (id := 5000) (ci := 12) (nn := 0) (C0 := RX12) (T := TX12) (N := 62) (j := 28) (pw_dk dc_X12_negation 18 rfl) rfl me_5000 rfl pi_12 (by decide) fk_12_28 tw_1425 ?_
    refine PW_if_ne (pc' := 41) (tgt := 86) (pw_dk dc_X12_negation 19 rfl) rfl (by decide) (fun c_6 => ?_) (fun c_6 => ?_)
    · rw [if_neg c_6] at h
      have z := wp_some h
      exact PZ_vret (pw_dk dc_X12_negation 40 rfl) rfl z
    · rw [if_pos c_6] at h
      refine PW_aload_n (pc' := 42) (q := 0) (pw_dk dc_X12_negation 20 rfl) rfl rfl rfl ?_
      refine PZ_getI (pc' := 45) (id := 5000) (ci := 12) (nn := 0) (C0 := RX12) (T := TX12) (N := 62) (j := 26) (pw_dk dc_X12_negation 21 rfl) rfl me_5000 rfl pi_12 (by decide) fk_12_26 tw_1423 ?_
      refine PW_iconst (pc' := 46) (v := 3) (pw_dk dc_X12_negation 22 rfl) rfl (by decide) ?_
      refine PW_icmp_ne (pc' := 49) (tgt := 86) (pw_dk dc_X12_negation 23 rfl) rfl (by decide) (fun c_7 => ?_) (fun c_7 => ?_)
      · rw [if_neg c_7] at h
        have z := wp_some h
        exact PZ_vret (pw_dk dc_X12_negation 40 rfl) rfl z
      · rw [if_pos c_7] at h
        refine PW_aload_n (pc' := 50) (q := 0) (pw_dk dc_X12_negation 24 rfl) rfl rfl rfl ?_
        refine PZ_getI (pc' := 53) (id := 5000) (ci := 12) (nn := 0) (C0 := RX12) (T := TX12) (N := 62) (j := 27) (pw_dk dc_X12_negation 25 rfl) rfl me_5000 rfl pi_12 (by decide) fk_12_27 tw_1424 ?_
        refine PW_bipush (pc' := 55) (v := 60) (pw_dk dc_X12_negation 26 rfl) rfl (by decide) ?_
        refine PW_icmp_eq (pc' := 58) (tgt := 87) (pw_dk dc_X12_negation 27 rfl) rfl (by decide) (fun c_8 => ?_) (fun c_8 => ?_)
        · rw [if_pos c_8] at h
          exact b_X12_negation_87 rc dd hdd hg σ_4 h
        · rw [if_neg c_8] at h
          refine PW_aload_n (pc' := 59) (q := 0) (pw_dk dc_X12_negation 28 rfl) rfl rfl rfl ?_
          refine PZ_getI (pc' := 62) (id := 5000) (ci := 12) (nn := 0) (C0 := RX12) (T := TX12) (N := 62) (j := 27) (pw_dk dc_X12_negation 29 rfl) rfl me_5000 rfl pi_12 (by decide) fk_12_27 tw_1424 ?_
          refine PW_bipush (pc' := 64) (v := 62) (pw_dk dc_X12_negation 30 rfl) rfl (by decide) ?_
          refine PW_icmp_eq (pc' := 67) (tgt := 87) (pw_dk dc_X12_negation 31 rfl) rfl (by decide) (fun c_9 => ?_) (fun c_9 => ?_)
          · rw [if_pos c_9] at h
            exact b_X12_negation_87 rc dd hdd hg σ_4 h
          · rw [if_neg c_9] at h
            refine PW_aload_n (pc' := 68) (q := 0) (pw_dk dc_X12_negation 32 rfl) rfl rfl rfl ?_
            refine PZ_getI (pc' := 71) (id := 5000) (ci := 12) (nn := 0) (C0 := RX12) (T := TX12) (N := 62) (j := 27) (pw_dk dc_X12_negation 33 rfl) rfl me_5000 rfl pi_12 (by decide) fk_12_27 tw_1424 ?_
            refine PW_bipush (pc' := 73) (v := 61) (pw_dk dc_X12_negation 34 rfl) rfl (by decide) ?_
            refine PW_icmp_eq (pc' := 76) (tgt := 87) (pw_dk dc_X12_negation 35 rfl) rfl (by decide) (fun c_10 => ?_) (fun c_10 => ?_)
            · rw [if_pos c_10] at h
              exact b_X12_negation_87 rc dd hdd hg σ_4 h
            · rw [if_neg c_10] at h
              refine PW_aload_n (pc' := 77) (q := 0) (pw_dk dc_X12_negation 36 rfl) rfl rfl rfl ?_
              refine PZ_getI (pc' := 80) (id := 5000) (ci := 12) (nn := 0) (C0 := RX12) (T := TX12) (N := 62) (j := 27) (pw_dk dc_X12_negation 37 rfl) rfl me_5000 rfl pi_12 (by decide) fk_12_27 tw_1424 ?_
              refine PW_sipush (pc' := 83) (v := 256) (pw_dk dc_X12_negation 38 rfl) rfl (by decide) ?_
              refine PW_icmp_ge (pc' := 86) (tgt := 87) (pw_dk dc_X12_negation 39 rfl) rfl (by decide) (fun c_11 => ?_) (fun c_11 => ?_)
              · rw [if_pos c_11] at h
                exact b_X12_negation_87 rc dd hdd hg σ_4 h
              · rw [if_neg c_11] at h
                have z := wp_some h
                exact PZ_vret (pw_dk dc_X12_negation 40 rfl) rfl z
  · rw [if_neg c_2] at h
    refine PW_aload_n (pc' := 10) (q := 0) (pw_dk dc_X12_negation 4 rfl) rfl rfl rfl ?_
    refine PZ_callVv (pc' := 13) (y := yX12_knot) (M' := mX12_knot) (d' := 1) (As := []) (st := []) (b := 5000) (ci := 12) (nn := 0) me_5000 rfl tw_1699 tw_70 (pw_dk dc_X12_negation 5 rfl) rfl Y_X12_knot tw_1697 rfl (by omega) (Nat.le_of_ble_eq_true rfl) (t_X12_knot σ _ ?_)
    obtain ⟨σ_13, e_14, h⟩ := wp_bind h
    refine ⟨σ_13, e_14, rfl, fun hn_12 => ?_⟩
    show PZ alM mX12_negation (dd + 1) Q 13 [(0, .ref 5000)] [] σ_13
    refine PW_aload_n (pc' := 14) (q := 0) (pw_dk dc_X12_negation 6 rfl) rfl rfl rfl ?_
    refine PZ_callVv (pc' := 17) (y := yX12_goOn) (M' := mX12_goOn) (d' := 6) (As := []) (st := []) (b := 5000) (ci := 12) (nn := 0) me_5000 rfl tw_1703 tw_71 (pw_dk dc_X12_negation 7 rfl) rfl Y_X12_goOn tw_1701 rfl (by omega) (Nat.le_of_ble_eq_true rfl) (t_X12_goOn σ_13 _ ?_)
    obtain ⟨σ_16, e_17, h⟩ := wp_bind h
    refine ⟨σ_16, e_17, rfl, fun hn_15 => ?_⟩
    show PZ alM mX12_negation (dd + 1) Q 17 [(0, .ref 5000)] [] σ_16
    refine PW_aload_n (pc' := 18) (q := 0) (pw_dk dc_X12_negation 8 rfl) rfl rfl rfl ?_
    refine PZ_callVv (pc' := 21) (y := yX12_negation) (M' := mX12_negation) (d' := dd) (As := []) (st := []) (b := 5000) (ci := 12) (nn := 0) me_5000 rfl tw_1691 tw_68 (pw_dk dc_X12_negation 9 rfl) rfl Y_X12_negation tw_1689 rfl (Nat.le_refl _) (Nat.le_of_ble_eq_true rfl) (hg.2.2.1 σ_16 _ ?_)
    obtain ⟨σ_19, e_20, h⟩ := wp_bind h
    refine ⟨σ_19, e_20, rfl, fun hn_18 => ?_⟩
    show PZ alM mX12_negation (dd + 1) Q 21 [(0, .ref 5000)] [] σ_19
    refine PW_aload_n (pc' := 22) (q := 0) (pw_dk dc_X12_negation 10 rfl) rfl rfl rfl ?_
    refine PW_iconst (pc' := 23) (v := 2) (pw_dk dc_X12_negation 11 rfl) rfl (by decide) ?_
    refine PW_sipush (pc' := 26) (v := 260) (pw_dk dc_X12_negation 12 rfl) rfl (by decide) ?_
    refine PZ_callVv (pc' := 29) (y := yX12_puts) (M' := mX12_puts) (d' := 1) (As := [.int 2, .int 260]) (st := []) (b := 5000) (ci := 12) (nn := 0) me_5000 rfl tw_1707 tw_72 (pw_dk dc_X12_negation 13 rfl) rfl Y_X12_puts tw_1705 rfl (by omega) (Nat.le_of_ble_eq_true rfl) (t_X12_puts 2 260 σ_19 _ ?_)
    obtain ⟨σ_22, e_23, h⟩ := wp_bind h
    refine ⟨σ_22, e_23, rfl, fun hn_21 => ?_⟩
    show PZ alM mX12_negation (dd + 1) Q 29 [(0, .ref 5000)] [] σ_22
    have z := wp_some h
    exact PZ_vret (pw_dk dc_X12_negation 14 rfl) rfl z
def f_X12_sum_22 (rc : Nat → zS → Option zS) (r4 : zS → Option zS)  (σ : zS) : Option zS := 
  lt (α := Int32) (σ.1 5000 27) fun x1_1 =>
  (f_X12_knot σ).bind fun σ_3 =>
  (f_X12_goOn σ_3).bind fun σ_6 =>
  (rc 4 σ_6).bind fun σ_9 =>
  (f_X12_puts 2 x1_1 σ_9).bind fun σ_12 =>
  r4 σ_12
theorem b_X12_sum_22 (rc : Nat → zS → Option zS) (dd : Nat) (hdd : 7 ≤ dd) (hg : gM rc dd) {Q : Option Value → zS → Prop} (r4 : zS → Option zS) (hr4 : ∀  (σ : zS), wpO (r4 σ) (fun s => Q none s) → PZ alM mX12_sum (dd + 1) Q 4 [(0, .ref 5000)] [] σ)  (σ : zS) (h : wpO (f_X12_sum_22 rc r4 σ) (fun s => Q none s)) : PZ alM mX12_sum (dd + 1) Q 22 [(0, .ref 5000)] [] σ := by
  unfold f_X12_sum_22 at h
  refine PW_aload_n (pc' := 23) (q := 0) (pw_dk dc_X12_sum 10 rfl) rfl rfl rfl ?_
  refine PZ_getI (pc' := 26) (id := 5000) (ci := 12) (nn := 0) (C0 := RX12) (T := TX12) (N := 62) (j := 27) (pw_dk dc_X12_sum 11 rfl) rfl me_5000 rfl pi_12 (by decide) fk_12_27 tw_1424 ?_
  refine PW_topi (fun x1_1 ex1_1 => ?_)
  replace h := lt_w h ex1_1
  refine PW_istore_n (pc' := 27) (lv' := [(1, .int x1_1), (0, .ref 5000)]) (pw_dk dc_X12_sum 12 rfl) rfl rfl (by decide) rfl ?_
  refine PW_aload_n (pc' := 28) (q := 1) (pw_dk dc_X12_sum 13 rfl) rfl rfl rfl ?_
  refine PZ_callVv (pc' := 31) (y := yX12_knot) (M' := mX12_knot) (d' := 1) (As := []) (st := []) (b := 5000) (ci := 12) (nn := 0) me_5000 rfl tw_1699 tw_70 (pw_dk dc_X12_sum 14 rfl) rfl Y_X12_knot tw_1697 rfl (by omega) (Nat.le_of_ble_eq_true rfl) (t_X12_knot σ _ ?_)
  obtain ⟨σ_3, e_4, h⟩ := wp_bind h
  refine ⟨σ_3, e_4, rfl, fun hn_2 => ?_⟩
  show PZ alM mX12_sum (dd + 1) Q 31 [(1, .int x1_1), (0, .ref 5000)] [] σ_3
  refine PW_aload_n (pc' := 32) (q := 1) (pw_dk dc_X12_sum 15 rfl) rfl rfl rfl ?_
  refine PZ_callVv (pc' := 35) (y := yX12_goOn) (M' := mX12_goOn) (d' := 6) (As := []) (st := []) (b := 5000) (ci := 12) (nn := 0) me_5000 rfl tw_1703 tw_71 (pw_dk dc_X12_sum 16 rfl) rfl Y_X12_goOn tw_1701 rfl (by omega) (Nat.le_of_ble_eq_true rfl) (t_X12_goOn σ_3 _ ?_)
  obtain ⟨σ_6, e_7, h⟩ := wp_bind h
  refine ⟨σ_6, e_7, rfl, fun hn_5 => ?_⟩
  show PZ alM mX12_sum (dd + 1) Q 35 [(1, .int x1_1), (0, .ref 5000)] [] σ_6
  refine PW_aload_n (pc' := 36) (q := 1) (pw_dk dc_X12_sum 17 rfl) rfl rfl rfl ?_
  refine PZ_callVv (pc' := 39) (y := yX12_product) (M' := mX12_product) (d' := dd) (As := []) (st := []) (b := 5000) (ci := 12) (nn := 0) me_5000 rfl tw_1715 tw_74 (pw_dk dc_X12_sum 18 rfl) rfl Y_X12_product tw_1713 rfl (Nat.le_refl _) (Nat.le_of_ble_eq_true rfl) (hg.2.2.2.2.1 σ_6 _ ?_)
  obtain ⟨σ_9, e_10, h⟩ := wp_bind h
  refine ⟨σ_9, e_10, rfl, fun hn_8 => ?_⟩
  show PZ alM mX12_sum (dd + 1) Q 39 [(1, .int x1_1), (0, .ref 5000)] [] σ_9
  refine PW_aload_n (pc' := 40) (q := 1) (pw_dk dc_X12_sum 19 rfl) rfl rfl rfl ?_
  refine PW_iconst (pc' := 41) (v := 2) (pw_dk dc_X12_sum 20 rfl) rfl (by decide) ?_
  refine PW_iload_n (pc' := 42) (q := 0) (pw_dk dc_X12_sum 21 rfl) rfl rfl rfl ?_
  refine PZ_callVv (pc' := 45) (y := yX12_puts) (M' := mX12_puts) (d' := 1) (As := [.int 2, .int x1_1]) (st := []) (b := 5000) (ci := 12) (nn := 0) me_5000 rfl tw_1707 tw_72 (pw_dk dc_X12_sum 22 rfl) rfl Y_X12_puts tw_1705 rfl (by omega) (Nat.le_of_ble_eq_true rfl) (t_X12_puts 2 x1_1 σ_9 _ ?_)
  obtain ⟨σ_12, e_13, h⟩ := wp_bind h
  refine ⟨σ_12, e_13, rfl, fun hn_11 => ?_⟩
  show PZ alM mX12_sum (dd + 1) Q 45 [(1, .int x1_1), (0, .ref 5000)] [] σ_12
  refine PW_goto (tgt := 4) (pw_dk dc_X12_sum 23 rfl) (by decide) ?_
  refine PW_sub (lv' := [(0, .ref 5000)]) [1] rfl ?_
  exact hr4  σ_12 h
def f_X12_sum_4 (rc : Nat → zS → Option zS) : Nat → zS → Option zS
  | 0, _ => none
  | n + 1, σ => 
    if (f_X12_isSign 43 σ) = 0 then
      if (f_X12_isSign 45 σ) = 0 then
        some σ
      else
        f_X12_sum_22 rc (f_X12_sum_4 rc n) σ
    else
      f_X12_sum_22 rc (f_X12_sum_4 rc n) σ
theorem b_X12_sum_4 (rc : Nat → zS → Option zS) (dd : Nat) (hdd : 7 ≤ dd) (hg : gM rc dd) {Q : Option Value → zS → Prop} : ∀ (n : Nat)  (σ : zS) (h : wpO (f_X12_sum_4 rc n σ) (fun s => Q none s)), PZ alM mX12_sum (dd + 1) Q 4 [(0, .ref 5000)] [] σ := by
  intro n
  induction n with
  | zero => intro  σ h; exact wp_none h
  | succ n ih =>
    intro  σ h
    rw [f_X12_sum_4] at h
    refine PW_aload_n (pc' := 5) (q := 0) (pw_dk dc_X12_sum 2 rfl) rfl rfl rfl ?_
    refine PW_bipush (pc' := 7) (v := 43) (pw_dk dc_X12_sum 3 rfl) rfl (by decide) ?_
    refine PZ_callVi (pc' := 10) (y := yX12_isSign) (M' := mX12_isSign) (d' := 0) (As := [.int 43]) (st := []) (b := 5000) (ci := 12) (nn := 0) me_5000 rfl tw_1723 tw_76 (pw_dk dc_X12_sum 4 rfl) rfl Y_X12_isSign tw_1721 rfl (by omega) (Nat.le_of_ble_eq_true rfl) (t_X12_isSign 43 σ _ ?_)
    refine ⟨_, rfl, fun hn_1 => ?_⟩
    show PZ alM mX12_sum (dd + 1) Q 10 [(0, .ref 5000)] [.int (f_X12_isSign 43 σ)] σ
    refine PW_if_ne (pc' := 13) (tgt := 22) (pw_dk dc_X12_sum 5 rfl) rfl (by decide) (fun c_2 => ?_) (fun c_2 => ?_)
    · rw [if_neg c_2] at h
      exact b_X12_sum_22 rc dd hdd hg (f_X12_sum_4 rc n) ih σ h
    · rw [if_pos c_2] at h
      refine PW_aload_n (pc' := 14) (q := 0) (pw_dk dc_X12_sum 6 rfl) rfl rfl rfl ?_
      refine PW_bipush (pc' := 16) (v := 45) (pw_dk dc_X12_sum 7 rfl) rfl (by decide) ?_
      refine PZ_callVi (pc' := 19) (y := yX12_isSign) (M' := mX12_isSign) (d' := 0) (As := [.int 45]) (st := []) (b := 5000) (ci := 12) (nn := 0) me_5000 rfl tw_1723 tw_76 (pw_dk dc_X12_sum 8 rfl) rfl Y_X12_isSign tw_1721 rfl (by omega) (Nat.le_of_ble_eq_true rfl) (t_X12_isSign 45 σ _ ?_)
      refine ⟨_, rfl, fun hn_3 => ?_⟩
      show PZ alM mX12_sum (dd + 1) Q 19 [(0, .ref 5000)] [.int (f_X12_isSign 45 σ)] σ
      refine PW_if_eq (pc' := 22) (tgt := 48) (pw_dk dc_X12_sum 9 rfl) rfl (by decide) (fun c_4 => ?_) (fun c_4 => ?_)
      · rw [if_pos c_4] at h
        have z := wp_some h
        exact PZ_vret (pw_dk dc_X12_sum 24 rfl) rfl z
      · rw [if_neg c_4] at h
        exact b_X12_sum_22 rc dd hdd hg (f_X12_sum_4 rc n) ih σ h
def F_X12_sum (rc : Nat → zS → Option zS) (σ : zS) : Option zS := 
  (rc 4 σ).bind fun σ_2 =>
  f_X12_sum_4 rc FU σ_2
theorem t_X12_sum (rc : Nat → zS → Option zS) (dd : Nat) (hdd : 7 ≤ dd) (hg : gM rc dd) (σ : zS) (Q : Option Value → zS → Prop) (h : wpO (F_X12_sum rc σ) (fun s => Q none s)) : PK alM yX12_sum mX12_sum (dd + 1) [.ref 5000] σ Q := by
  refine PC_ofF (by decide +kernel) rfl rfl (Nat.le_of_ble_eq_true rfl) ?_
  show PZ alM mX12_sum (dd + 1) Q 0 [(0, .ref 5000)] [] σ
  unfold F_X12_sum at h
  refine PW_aload_n (pc' := 1) (q := 0) (pw_dk dc_X12_sum 0 rfl) rfl rfl rfl ?_
  refine PZ_callVv (pc' := 4) (y := yX12_product) (M' := mX12_product) (d' := dd) (As := []) (st := []) (b := 5000) (ci := 12) (nn := 0) me_5000 rfl tw_1715 tw_74 (pw_dk dc_X12_sum 1 rfl) rfl Y_X12_product tw_1713 rfl (Nat.le_refl _) (Nat.le_of_ble_eq_true rfl) (hg.2.2.2.2.1 σ _ ?_)
  obtain ⟨σ_2, e_3, h⟩ := wp_bind h
  refine ⟨σ_2, e_3, rfl, fun hn_1 => ?_⟩
  show PZ alM mX12_sum (dd + 1) Q 4 [(0, .ref 5000)] [] σ_2
  exact b_X12_sum_4 rc dd hdd hg FU σ_2 h
def f_X12_product_22 (rc : Nat → zS → Option zS) (r4 : zS → Option zS)  (σ : zS) : Option zS := 
  lt (α := Int32) (σ.1 5000 27) fun x1_1 =>
  (f_X12_knot σ).bind fun σ_3 =>
  (f_X12_goOn σ_3).bind fun σ_6 =>
  (rc 5 σ_6).bind fun σ_9 =>
  (f_X12_puts 2 x1_1 σ_9).bind fun σ_12 =>
  r4 σ_12
theorem b_X12_product_22 (rc : Nat → zS → Option zS) (dd : Nat) (hdd : 7 ≤ dd) (hg : gM rc dd) {Q : Option Value → zS → Prop} (r4 : zS → Option zS) (hr4 : ∀  (σ : zS), wpO (r4 σ) (fun s => Q none s) → PZ alM mX12_product (dd + 1) Q 4 [(0, .ref 5000)] [] σ)  (σ : zS) (h : wpO (f_X12_product_22 rc r4 σ) (fun s => Q none s)) : PZ alM mX12_product (dd + 1) Q 22 [(0, .ref 5000)] [] σ := by
  unfold f_X12_product_22 at h
  refine PW_aload_n (pc' := 23) (q := 0) (pw_dk dc_X12_product 10 rfl) rfl rfl rfl ?_
  refine PZ_getI (pc' := 26) (id := 5000) (ci := 12) (nn := 0) (C0 := RX12) (T := TX12) (N := 62) (j := 27) (pw_dk dc_X12_product 11 rfl) rfl me_5000 rfl pi_12 (by decide) fk_12_27 tw_1424 ?_
  refine PW_topi (fun x1_1 ex1_1 => ?_)
  replace h := lt_w h ex1_1
  refine PW_istore_n (pc' := 27) (lv' := [(1, .int x1_1), (0, .ref 5000)]) (pw_dk dc_X12_product 12 rfl) rfl rfl (by decide) rfl ?_
  refine PW_aload_n (pc' := 28) (q := 1) (pw_dk dc_X12_product 13 rfl) rfl rfl rfl ?_
  refine PZ_callVv (pc' := 31) (y := yX12_knot) (M' := mX12_knot) (d' := 1) (As := []) (st := []) (b := 5000) (ci := 12) (nn := 0) me_5000 rfl tw_1699 tw_70 (pw_dk dc_X12_product 14 rfl) rfl Y_X12_knot tw_1697 rfl (by omega) (Nat.le_of_ble_eq_true rfl) (t_X12_knot σ _ ?_)
  obtain ⟨σ_3, e_4, h⟩ := wp_bind h
  refine ⟨σ_3, e_4, rfl, fun hn_2 => ?_⟩
  show PZ alM mX12_product (dd + 1) Q 31 [(1, .int x1_1), (0, .ref 5000)] [] σ_3
  refine PW_aload_n (pc' := 32) (q := 1) (pw_dk dc_X12_product 15 rfl) rfl rfl rfl ?_
  refine PZ_callVv (pc' := 35) (y := yX12_goOn) (M' := mX12_goOn) (d' := 6) (As := []) (st := []) (b := 5000) (ci := 12) (nn := 0) me_5000 rfl tw_1703 tw_71 (pw_dk dc_X12_product 16 rfl) rfl Y_X12_goOn tw_1701 rfl (by omega) (Nat.le_of_ble_eq_true rfl) (t_X12_goOn σ_3 _ ?_)
  obtain ⟨σ_6, e_7, h⟩ := wp_bind h
  refine ⟨σ_6, e_7, rfl, fun hn_5 => ?_⟩
  show PZ alM mX12_product (dd + 1) Q 35 [(1, .int x1_1), (0, .ref 5000)] [] σ_6
  refine PW_aload_n (pc' := 36) (q := 1) (pw_dk dc_X12_product 17 rfl) rfl rfl rfl ?_
  refine PZ_callVv (pc' := 39) (y := yX12_primary) (M' := mX12_primary) (d' := dd) (As := []) (st := []) (b := 5000) (ci := 12) (nn := 0) me_5000 rfl tw_1719 tw_75 (pw_dk dc_X12_product 18 rfl) rfl Y_X12_primary tw_1717 rfl (Nat.le_refl _) (Nat.le_of_ble_eq_true rfl) (hg.2.2.2.2.2 σ_6 _ ?_)
  obtain ⟨σ_9, e_10, h⟩ := wp_bind h
  refine ⟨σ_9, e_10, rfl, fun hn_8 => ?_⟩
  show PZ alM mX12_product (dd + 1) Q 39 [(1, .int x1_1), (0, .ref 5000)] [] σ_9
  refine PW_aload_n (pc' := 40) (q := 1) (pw_dk dc_X12_product 19 rfl) rfl rfl rfl ?_
  refine PW_iconst (pc' := 41) (v := 2) (pw_dk dc_X12_product 20 rfl) rfl (by decide) ?_
  refine PW_iload_n (pc' := 42) (q := 0) (pw_dk dc_X12_product 21 rfl) rfl rfl rfl ?_
  refine PZ_callVv (pc' := 45) (y := yX12_puts) (M' := mX12_puts) (d' := 1) (As := [.int 2, .int x1_1]) (st := []) (b := 5000) (ci := 12) (nn := 0) me_5000 rfl tw_1707 tw_72 (pw_dk dc_X12_product 22 rfl) rfl Y_X12_puts tw_1705 rfl (by omega) (Nat.le_of_ble_eq_true rfl) (t_X12_puts 2 x1_1 σ_9 _ ?_)
  obtain ⟨σ_12, e_13, h⟩ := wp_bind h
  refine ⟨σ_12, e_13, rfl, fun hn_11 => ?_⟩
  show PZ alM mX12_product (dd + 1) Q 45 [(1, .int x1_1), (0, .ref 5000)] [] σ_12
  refine PW_goto (tgt := 4) (pw_dk dc_X12_product 23 rfl) (by decide) ?_
  refine PW_sub (lv' := [(0, .ref 5000)]) [1] rfl ?_
  exact hr4  σ_12 h
def f_X12_product_4 (rc : Nat → zS → Option zS) : Nat → zS → Option zS
  | 0, _ => none
  | n + 1, σ => 
    if (f_X12_isSign 42 σ) = 0 then
      if (f_X12_isSign 47 σ) = 0 then
        some σ
      else
        f_X12_product_22 rc (f_X12_product_4 rc n) σ
    else
      f_X12_product_22 rc (f_X12_product_4 rc n) σ
theorem b_X12_product_4 (rc : Nat → zS → Option zS) (dd : Nat) (hdd : 7 ≤ dd) (hg : gM rc dd) {Q : Option Value → zS → Prop} : ∀ (n : Nat)  (σ : zS) (h : wpO (f_X12_product_4 rc n σ) (fun s => Q none s)), PZ alM mX12_product (dd + 1) Q 4 [(0, .ref 5000)] [] σ := by
  intro n
  induction n with
  | zero => intro  σ h; exact wp_none h
  | succ n ih =>
    intro  σ h
    rw [f_X12_product_4] at h
    refine PW_aload_n (pc' := 5) (q := 0) (pw_dk dc_X12_product 2 rfl) rfl rfl rfl ?_
    refine PW_bipush (pc' := 7) (v := 42) (pw_dk dc_X12_product 3 rfl) rfl (by decide) ?_
    refine PZ_callVi (pc' := 10) (y := yX12_isSign) (M' := mX12_isSign) (d' := 0) (As := [.int 42]) (st := []) (b := 5000) (ci := 12) (nn := 0) me_5000 rfl tw_1723 tw_76 (pw_dk dc_X12_product 4 rfl) rfl Y_X12_isSign tw_1721 rfl (by omega) (Nat.le_of_ble_eq_true rfl) (t_X12_isSign 42 σ _ ?_)
    refine ⟨_, rfl, fun hn_1 => ?_⟩
    show PZ alM mX12_product (dd + 1) Q 10 [(0, .ref 5000)] [.int (f_X12_isSign 42 σ)] σ
    refine PW_if_ne (pc' := 13) (tgt := 22) (pw_dk dc_X12_product 5 rfl) rfl (by decide) (fun c_2 => ?_) (fun c_2 => ?_)
    · rw [if_neg c_2] at h
      exact b_X12_product_22 rc dd hdd hg (f_X12_product_4 rc n) ih σ h
    · rw [if_pos c_2] at h
      refine PW_aload_n (pc' := 14) (q := 0) (pw_dk dc_X12_product 6 rfl) rfl rfl rfl ?_
      refine PW_bipush (pc' := 16) (v := 47) (pw_dk dc_X12_product 7 rfl) rfl (by decide) ?_
      refine PZ_callVi (pc' := 19) (y := yX12_isSign) (M' := mX12_isSign) (d' := 0) (As := [.int 47]) (st := []) (b := 5000) (ci := 12) (nn := 0) me_5000 rfl tw_1723 tw_76 (pw_dk dc_X12_product 8 rfl) rfl Y_X12_isSign tw_1721 rfl (by omega) (Nat.le_of_ble_eq_true rfl) (t_X12_isSign 47 σ _ ?_)
      refine ⟨_, rfl, fun hn_3 => ?_⟩
      show PZ alM mX12_product (dd + 1) Q 19 [(0, .ref 5000)] [.int (f_X12_isSign 47 σ)] σ
      refine PW_if_eq (pc' := 22) (tgt := 48) (pw_dk dc_X12_product 9 rfl) rfl (by decide) (fun c_4 => ?_) (fun c_4 => ?_)
      · rw [if_pos c_4] at h
        have z := wp_some h
        exact PZ_vret (pw_dk dc_X12_product 24 rfl) rfl z
      · rw [if_neg c_4] at h
        exact b_X12_product_22 rc dd hdd hg (f_X12_product_4 rc n) ih σ h
def F_X12_product (rc : Nat → zS → Option zS) (σ : zS) : Option zS := 
  (rc 5 σ).bind fun σ_2 =>
  f_X12_product_4 rc FU σ_2
theorem t_X12_product (rc : Nat → zS → Option zS) (dd : Nat) (hdd : 7 ≤ dd) (hg : gM rc dd) (σ : zS) (Q : Option Value → zS → Prop) (h : wpO (F_X12_product rc σ) (fun s => Q none s)) : PK alM yX12_product mX12_product (dd + 1) [.ref 5000] σ Q := by
  refine PC_ofF (by decide +kernel) rfl rfl (Nat.le_of_ble_eq_true rfl) ?_
  show PZ alM mX12_product (dd + 1) Q 0 [(0, .ref 5000)] [] σ
  unfold F_X12_product at h
  refine PW_aload_n (pc' := 1) (q := 0) (pw_dk dc_X12_product 0 rfl) rfl rfl rfl ?_
  refine PZ_callVv (pc' := 4) (y := yX12_primary) (M' := mX12_primary) (d' := dd) (As := []) (st := []) (b := 5000) (ci := 12) (nn := 0) me_5000 rfl tw_1719 tw_75 (pw_dk dc_X12_product 1 rfl) rfl Y_X12_primary tw_1717 rfl (Nat.le_refl _) (Nat.le_of_ble_eq_true rfl) (hg.2.2.2.2.2 σ _ ?_)
  obtain ⟨σ_2, e_3, h⟩ := wp_bind h
  refine ⟨σ_2, e_3, rfl, fun hn_1 => ?_⟩
  show PZ alM mX12_product (dd + 1) Q 4 [(0, .ref 5000)] [] σ_2
  exact b_X12_product_4 rc dd hdd hg FU σ_2 h
def f_X12_primary_78 (rc : Nat → zS → Option zS)  (σ : zS) : Option zS := 
  if (σ.1 5000 28) = 0 then
    lt (wI σ 5000 32 ((σ.1 5000 32) - (1 : Int32))) fun σ_2 =>
    (f_X12_token σ_2).bind fun σ_5 =>
    some σ_5
  else
    some σ
theorem b_X12_primary_78 (rc : Nat → zS → Option zS) (dd : Nat) (hdd : 7 ≤ dd) (hg : gM rc dd) {Q : Option Value → zS → Prop}  (σ : zS) (h : wpO (f_X12_primary_78 rc σ) (fun s => Q none s)) : PZ alM mX12_primary (dd + 1) Q 78 [(0, .ref 5000)] [] σ := by
  unfold f_X12_primary_78 at h
  refine PW_aload_n (pc' := 79) (q := 0) (pw_dk dc_X12_primary 39 rfl) rfl rfl rfl ?_
  refine PZ_getI (pc' := 82) (id := 5000) (ci := 12) (nn := 0) (C0 := RX12) (T := TX12) (N := 62) (j := 28) (pw_dk dc_X12_primary 40 rfl) rfl me_5000 rfl pi_12 (by decide) fk_12_28 tw_1425 ?_
  refine PW_if_eq (pc' := 85) (tgt := 86) (pw_dk dc_X12_primary 41 rfl) rfl (by decide) (fun c_1 => ?_) (fun c_1 => ?_)
  · rw [if_pos c_1] at h
    refine PW_aload_n (pc' := 87) (q := 0) (pw_dk dc_X12_primary 43 rfl) rfl rfl rfl ?_
    refine PW_dup (pc' := 88) (pw_dk dc_X12_primary 44 rfl) rfl rfl ?_
    refine PZ_getI (pc' := 91) (id := 5000) (ci := 12) (nn := 0) (C0 := RX12) (T := TX12) (N := 62) (j := 32) (pw_dk dc_X12_primary 45 rfl) rfl me_5000 rfl pi_12 (by decide) fk_12_32 tw_1429 ?_
    refine PW_iconst (pc' := 92) (v := 1) (pw_dk dc_X12_primary 46 rfl) rfl (by decide) ?_
    refine PW_isub (pc' := 93) (pw_dk dc_X12_primary 47 rfl) rfl ?_
    obtain ⟨σ_2, e_3, h⟩ := lt_x h
    refine PZ_putX (pc' := 96) (σ' := σ_2) (id := 5000) (ci := 12) (nn := 0) (C0 := RX12) (T := TX12) (N := 62) (j := 32) (ty := tyX12 32) (pw_dk dc_X12_primary 48 rfl) rfl me_5000 rfl pi_12 tyX12_ok nmX12 (by decide) fk_12_32 tw_1429 rfl (tyX12_ok 32 (by decide)) (by first | rfl | decide) (by first | rfl | decide) e_3 ?_
    refine PW_aload_n (pc' := 97) (q := 0) (pw_dk dc_X12_primary 49 rfl) rfl rfl rfl ?_
    refine PZ_callVv (pc' := 100) (y := yX12_token) (M' := mX12_token) (d' := 5) (As := []) (st := []) (b := 5000) (ci := 12) (nn := 0) me_5000 rfl tw_1602 tw_49 (pw_dk dc_X12_primary 50 rfl) rfl Y_X12_token tw_1600 rfl (by omega) (Nat.le_of_ble_eq_true rfl) (t_X12_token σ_2 _ ?_)
    obtain ⟨σ_5, e_6, h⟩ := wp_bind h
    refine ⟨σ_5, e_6, rfl, fun hn_4 => ?_⟩
    show PZ alM mX12_primary (dd + 1) Q 100 [(0, .ref 5000)] [] σ_5
    have z := wp_some h
    exact PZ_vret (pw_dk dc_X12_primary 51 rfl) rfl z
  · rw [if_neg c_1] at h
    have z := wp_some h
    exact PZ_vret (pw_dk dc_X12_primary 42 rfl) rfl z
def f_X12_primary_31 (rc : Nat → zS → Option zS)  (σ : zS) : Option zS := 
  if (σ.1 5000 28) = 0 then
    lt (wI σ 5000 32 ((σ.1 5000 32) + (1 : Int32))) fun σ_2 =>
    (f_X12_token σ_2).bind fun σ_5 =>
    (rc 0 σ_5).bind fun σ_8 =>
    if (σ_8.1 5000 28) = 0 then
      if (f_X12_isSign 41 σ_8) = 0 then
        (f_X12_wrong 1 σ_8).bind fun σ_14 =>
        f_X12_primary_78 rc σ_14
      else
        f_X12_primary_78 rc σ_8
    else
      f_X12_primary_78 rc σ_8
  else
    some σ
theorem b_X12_primary_31 (rc : Nat → zS → Option zS) (dd : Nat) (hdd : 7 ≤ dd) (hg : gM rc dd) {Q : Option Value → zS → Prop}  (σ : zS) (h : wpO (f_X12_primary_31 rc σ) (fun s => Q none s)) : PZ alM mX12_primary (dd + 1) Q 31 [(0, .ref 5000)] [] σ := by
  unfold f_X12_primary_31 at h
  refine PW_aload_n (pc' := 32) (q := 0) (pw_dk dc_X12_primary 15 rfl) rfl rfl rfl ?_
  refine PZ_getI (pc' := 35) (id := 5000) (ci := 12) (nn := 0) (C0 := RX12) (T := TX12) (N := 62) (j := 28) (pw_dk dc_X12_primary 16 rfl) rfl me_5000 rfl pi_12 (by decide) fk_12_28 tw_1425 ?_
  refine PW_if_eq (pc' := 38) (tgt := 39) (pw_dk dc_X12_primary 17 rfl) rfl (by decide) (fun c_1 => ?_) (fun c_1 => ?_)
  · rw [if_pos c_1] at h
    refine PW_aload_n (pc' := 40) (q := 0) (pw_dk dc_X12_primary 19 rfl) rfl rfl rfl ?_
    refine PW_dup (pc' := 41) (pw_dk dc_X12_primary 20 rfl) rfl rfl ?_
    refine PZ_getI (pc' := 44) (id := 5000) (ci := 12) (nn := 0) (C0 := RX12) (T := TX12) (N := 62) (j := 32) (pw_dk dc_X12_primary 21 rfl) rfl me_5000 rfl pi_12 (by decide) fk_12_32 tw_1429 ?_
    refine PW_iconst (pc' := 45) (v := 1) (pw_dk dc_X12_primary 22 rfl) rfl (by decide) ?_
    refine PW_iadd (pc' := 46) (pw_dk dc_X12_primary 23 rfl) rfl ?_
    obtain ⟨σ_2, e_3, h⟩ := lt_x h
    refine PZ_putX (pc' := 49) (σ' := σ_2) (id := 5000) (ci := 12) (nn := 0) (C0 := RX12) (T := TX12) (N := 62) (j := 32) (ty := tyX12 32) (pw_dk dc_X12_primary 24 rfl) rfl me_5000 rfl pi_12 tyX12_ok nmX12 (by decide) fk_12_32 tw_1429 rfl (tyX12_ok 32 (by decide)) (by first | rfl | decide) (by first | rfl | decide) e_3 ?_
    refine PW_aload_n (pc' := 50) (q := 0) (pw_dk dc_X12_primary 25 rfl) rfl rfl rfl ?_
    refine PZ_callVv (pc' := 53) (y := yX12_token) (M' := mX12_token) (d' := 5) (As := []) (st := []) (b := 5000) (ci := 12) (nn := 0) me_5000 rfl tw_1602 tw_49 (pw_dk dc_X12_primary 26 rfl) rfl Y_X12_token tw_1600 rfl (by omega) (Nat.le_of_ble_eq_true rfl) (t_X12_token σ_2 _ ?_)
    obtain ⟨σ_5, e_6, h⟩ := wp_bind h
    refine ⟨σ_5, e_6, rfl, fun hn_4 => ?_⟩
    show PZ alM mX12_primary (dd + 1) Q 53 [(0, .ref 5000)] [] σ_5
    refine PW_aload_n (pc' := 54) (q := 0) (pw_dk dc_X12_primary 27 rfl) rfl rfl rfl ?_
    refine PZ_callVv (pc' := 57) (y := yX12_expression) (M' := mX12_expression) (d' := dd) (As := []) (st := []) (b := 5000) (ci := 12) (nn := 0) me_5000 rfl tw_1683 tw_66 (pw_dk dc_X12_primary 28 rfl) rfl Y_X12_expression tw_1681 rfl (Nat.le_refl _) (Nat.le_of_ble_eq_true rfl) (hg.1 σ_5 _ ?_)
    obtain ⟨σ_8, e_9, h⟩ := wp_bind h
    refine ⟨σ_8, e_9, rfl, fun hn_7 => ?_⟩
    show PZ alM mX12_primary (dd + 1) Q 57 [(0, .ref 5000)] [] σ_8
    refine PW_aload_n (pc' := 58) (q := 0) (pw_dk dc_X12_primary 29 rfl) rfl rfl rfl ?_
    refine PZ_getI (pc' := 61) (id := 5000) (ci := 12) (nn := 0) (C0 := RX12) (T := TX12) (N := 62) (j := 28) (pw_dk dc_X12_primary 30 rfl) rfl me_5000 rfl pi_12 (by decide) fk_12_28 tw_1425 ?_
    refine PW_if_ne (pc' := 64) (tgt := 78) (pw_dk dc_X12_primary 31 rfl) rfl (by decide) (fun c_10 => ?_) (fun c_10 => ?_)
    · rw [if_neg c_10] at h
      exact b_X12_primary_78 rc dd hdd hg σ_8 h
    · rw [if_pos c_10] at h
      refine PW_aload_n (pc' := 65) (q := 0) (pw_dk dc_X12_primary 32 rfl) rfl rfl rfl ?_
      refine PW_bipush (pc' := 67) (v := 41) (pw_dk dc_X12_primary 33 rfl) rfl (by decide) ?_
      refine PZ_callVi (pc' := 70) (y := yX12_isSign) (M' := mX12_isSign) (d' := 0) (As := [.int 41]) (st := []) (b := 5000) (ci := 12) (nn := 0) me_5000 rfl tw_1723 tw_76 (pw_dk dc_X12_primary 34 rfl) rfl Y_X12_isSign tw_1721 rfl (by omega) (Nat.le_of_ble_eq_true rfl) (t_X12_isSign 41 σ_8 _ ?_)
      refine ⟨_, rfl, fun hn_11 => ?_⟩
      show PZ alM mX12_primary (dd + 1) Q 70 [(0, .ref 5000)] [.int (f_X12_isSign 41 σ_8)] σ_8
      refine PW_if_ne (pc' := 73) (tgt := 78) (pw_dk dc_X12_primary 35 rfl) rfl (by decide) (fun c_12 => ?_) (fun c_12 => ?_)
      · rw [if_neg c_12] at h
        exact b_X12_primary_78 rc dd hdd hg σ_8 h
      · rw [if_pos c_12] at h
        refine PW_aload_n (pc' := 74) (q := 0) (pw_dk dc_X12_primary 36 rfl) rfl rfl rfl ?_
        refine PW_iconst (pc' := 75) (v := 1) (pw_dk dc_X12_primary 37 rfl) rfl (by decide) ?_
        refine PZ_callVv (pc' := 78) (y := yX12_wrong) (M' := mX12_wrong) (d' := 0) (As := [.int 1]) (st := []) (b := 5000) (ci := 12) (nn := 0) me_5000 rfl tw_1636 tw_55 (pw_dk dc_X12_primary 38 rfl) rfl Y_X12_wrong tw_1634 rfl (by omega) (Nat.le_of_ble_eq_true rfl) (t_X12_wrong 1 σ_8 _ ?_)
        obtain ⟨σ_14, e_15, h⟩ := wp_bind h
        refine ⟨σ_14, e_15, rfl, fun hn_13 => ?_⟩
        show PZ alM mX12_primary (dd + 1) Q 78 [(0, .ref 5000)] [] σ_14
        exact b_X12_primary_78 rc dd hdd hg σ_14 h
  · rw [if_neg c_1] at h
    have z := wp_some h
    exact PZ_vret (pw_dk dc_X12_primary 18 rfl) rfl z
def f_X12_primary_228 (rc : Nat → zS → Option zS) (s1 : Int32) (s2 : Int32) (σ : zS) : Option zS := 
  (f_X12_puts s1 s2 σ).bind fun σ_2 =>
  (f_X12_goOn σ_2).bind fun σ_5 =>
  some σ_5
theorem b_X12_primary_228 (rc : Nat → zS → Option zS) (dd : Nat) (hdd : 7 ≤ dd) (hg : gM rc dd) {Q : Option Value → zS → Prop} (s1 : Int32) (s2 : Int32) (σ : zS) (h : wpO (f_X12_primary_228 rc s1 s2 σ) (fun s => Q none s)) : PZ alM mX12_primary (dd + 1) Q 228 [(0, .ref 5000)] [.int s2, .int s1, .ref 5000] σ := by
  unfold f_X12_primary_228 at h
  refine PZ_callVv (pc' := 231) (y := yX12_puts) (M' := mX12_puts) (d' := 1) (As := [.int s1, .int s2]) (st := []) (b := 5000) (ci := 12) (nn := 0) me_5000 rfl tw_1707 tw_72 (pw_dk dc_X12_primary 115 rfl) rfl Y_X12_puts tw_1705 rfl (by omega) (Nat.le_of_ble_eq_true rfl) (t_X12_puts s1 s2 σ _ ?_)
  obtain ⟨σ_2, e_3, h⟩ := wp_bind h
  refine ⟨σ_2, e_3, rfl, fun hn_1 => ?_⟩
  show PZ alM mX12_primary (dd + 1) Q 231 [(0, .ref 5000)] [] σ_2
  refine PW_aload_n (pc' := 232) (q := 0) (pw_dk dc_X12_primary 116 rfl) rfl rfl rfl ?_
  refine PZ_callVv (pc' := 235) (y := yX12_goOn) (M' := mX12_goOn) (d' := 6) (As := []) (st := []) (b := 5000) (ci := 12) (nn := 0) me_5000 rfl tw_1703 tw_71 (pw_dk dc_X12_primary 117 rfl) rfl Y_X12_goOn tw_1701 rfl (by omega) (Nat.le_of_ble_eq_true rfl) (t_X12_goOn σ_2 _ ?_)
  obtain ⟨σ_5, e_6, h⟩ := wp_bind h
  refine ⟨σ_5, e_6, rfl, fun hn_4 => ?_⟩
  show PZ alM mX12_primary (dd + 1) Q 235 [(0, .ref 5000)] [] σ_5
  have z := wp_some h
  exact PZ_vret (pw_dk dc_X12_primary 118 rfl) rfl z
def f_X12_primary_184 (rc : Nat → zS → Option zS) (x1 : Int32) (s1 : Int32) (σ : zS) : Option zS := 
  if x1 = 0 then
    if (σ.1 5000 27) = 3 then
      f_X12_primary_228 rc s1 5 σ
    else
      if (σ.1 5000 27) = 34 then
        f_X12_primary_228 rc s1 6 σ
      else
        f_X12_primary_228 rc s1 ((σ.1 5000 27) - (28 : Int32)) σ
  else
    f_X12_primary_228 rc s1 (σ.1 5000 27) σ
theorem b_X12_primary_184 (rc : Nat → zS → Option zS) (dd : Nat) (hdd : 7 ≤ dd) (hg : gM rc dd) {Q : Option Value → zS → Prop} (x1 : Int32) (s1 : Int32) (σ : zS) (h : wpO (f_X12_primary_184 rc x1 s1 σ) (fun s => Q none s)) : PZ alM mX12_primary (dd + 1) Q 184 [(0, .ref 5000), (1, .int x1)] [.int s1, .ref 5000] σ := by
  unfold f_X12_primary_184 at h
  refine PW_iload_n (pc' := 185) (q := 1) (pw_dk dc_X12_primary 94 rfl) rfl rfl rfl ?_
  refine PW_if_eq (pc' := 188) (tgt := 195) (pw_dk dc_X12_primary 95 rfl) rfl (by decide) (fun c_1 => ?_) (fun c_1 => ?_)
  · rw [if_pos c_1] at h
    refine PW_aload_n (pc' := 196) (q := 0) (pw_dk dc_X12_primary 99 rfl) rfl rfl rfl ?_
    refine PZ_getI (pc' := 199) (id := 5000) (ci := 12) (nn := 0) (C0 := RX12) (T := TX12) (N := 62) (j := 27) (pw_dk dc_X12_primary 100 rfl) rfl me_5000 rfl pi_12 (by decide) fk_12_27 tw_1424 ?_
    refine PW_iconst (pc' := 200) (v := 3) (pw_dk dc_X12_primary 101 rfl) rfl (by decide) ?_
    refine PW_icmp_ne (pc' := 203) (tgt := 207) (pw_dk dc_X12_primary 102 rfl) rfl (by decide) (fun c_2 => ?_) (fun c_2 => ?_)
    · rw [if_neg c_2] at h
      refine PW_aload_n (pc' := 208) (q := 0) (pw_dk dc_X12_primary 105 rfl) rfl rfl rfl ?_
      refine PZ_getI (pc' := 211) (id := 5000) (ci := 12) (nn := 0) (C0 := RX12) (T := TX12) (N := 62) (j := 27) (pw_dk dc_X12_primary 106 rfl) rfl me_5000 rfl pi_12 (by decide) fk_12_27 tw_1424 ?_
      refine PW_bipush (pc' := 213) (v := 34) (pw_dk dc_X12_primary 107 rfl) rfl (by decide) ?_
      refine PW_icmp_ne (pc' := 216) (tgt := 221) (pw_dk dc_X12_primary 108 rfl) rfl (by decide) (fun c_3 => ?_) (fun c_3 => ?_)
      · rw [if_neg c_3] at h
        refine PW_aload_n (pc' := 222) (q := 0) (pw_dk dc_X12_primary 111 rfl) rfl rfl rfl ?_
        refine PZ_getI (pc' := 225) (id := 5000) (ci := 12) (nn := 0) (C0 := RX12) (T := TX12) (N := 62) (j := 27) (pw_dk dc_X12_primary 112 rfl) rfl me_5000 rfl pi_12 (by decide) fk_12_27 tw_1424 ?_
        refine PW_bipush (pc' := 227) (v := 28) (pw_dk dc_X12_primary 113 rfl) rfl (by decide) ?_
        refine PW_isub (pc' := 228) (pw_dk dc_X12_primary 114 rfl) rfl ?_
        refine PW_sub (lv' := [(0, .ref 5000)]) [0] rfl ?_
        exact b_X12_primary_228 rc dd hdd hg s1 ((σ.1 5000 27) - (28 : Int32)) σ h
      · rw [if_pos c_3] at h
        refine PW_bipush (pc' := 218) (v := 6) (pw_dk dc_X12_primary 109 rfl) rfl (by decide) ?_
        refine PW_goto (tgt := 228) (pw_dk dc_X12_primary 110 rfl) (by decide) ?_
        refine PW_sub (lv' := [(0, .ref 5000)]) [0] rfl ?_
        exact b_X12_primary_228 rc dd hdd hg s1 6 σ h
    · rw [if_pos c_2] at h
      refine PW_iconst (pc' := 204) (v := 5) (pw_dk dc_X12_primary 103 rfl) rfl (by decide) ?_
      refine PW_goto (tgt := 228) (pw_dk dc_X12_primary 104 rfl) (by decide) ?_
      refine PW_sub (lv' := [(0, .ref 5000)]) [0] rfl ?_
      exact b_X12_primary_228 rc dd hdd hg s1 5 σ h
  · rw [if_neg c_1] at h
    refine PW_aload_n (pc' := 189) (q := 0) (pw_dk dc_X12_primary 96 rfl) rfl rfl rfl ?_
    refine PZ_getI (pc' := 192) (id := 5000) (ci := 12) (nn := 0) (C0 := RX12) (T := TX12) (N := 62) (j := 27) (pw_dk dc_X12_primary 97 rfl) rfl me_5000 rfl pi_12 (by decide) fk_12_27 tw_1424 ?_
    refine PW_goto (tgt := 228) (pw_dk dc_X12_primary 98 rfl) (by decide) ?_
    refine PW_sub (lv' := [(0, .ref 5000)]) [0] rfl ?_
    exact b_X12_primary_228 rc dd hdd hg s1 (σ.1 5000 27) σ h
def f_X12_primary_170 (rc : Nat → zS → Option zS) (x1 : Int32) (σ : zS) : Option zS := 
  (f_X12_knot σ).bind fun σ_2 =>
  if x1 = 0 then
    f_X12_primary_184 rc x1 1 σ_2
  else
    f_X12_primary_184 rc x1 0 σ_2
theorem b_X12_primary_170 (rc : Nat → zS → Option zS) (dd : Nat) (hdd : 7 ≤ dd) (hg : gM rc dd) {Q : Option Value → zS → Prop} (x1 : Int32) (σ : zS) (h : wpO (f_X12_primary_170 rc x1 σ) (fun s => Q none s)) : PZ alM mX12_primary (dd + 1) Q 170 [(0, .ref 5000), (1, .int x1)] [] σ := by
  unfold f_X12_primary_170 at h
  refine PW_aload_n (pc' := 171) (q := 0) (pw_dk dc_X12_primary 86 rfl) rfl rfl rfl ?_
  refine PZ_callVv (pc' := 174) (y := yX12_knot) (M' := mX12_knot) (d' := 1) (As := []) (st := []) (b := 5000) (ci := 12) (nn := 0) me_5000 rfl tw_1699 tw_70 (pw_dk dc_X12_primary 87 rfl) rfl Y_X12_knot tw_1697 rfl (by omega) (Nat.le_of_ble_eq_true rfl) (t_X12_knot σ _ ?_)
  obtain ⟨σ_2, e_3, h⟩ := wp_bind h
  refine ⟨σ_2, e_3, rfl, fun hn_1 => ?_⟩
  show PZ alM mX12_primary (dd + 1) Q 174 [(0, .ref 5000), (1, .int x1)] [] σ_2
  refine PW_aload_n (pc' := 175) (q := 0) (pw_dk dc_X12_primary 88 rfl) rfl rfl rfl ?_
  refine PW_iload_n (pc' := 176) (q := 1) (pw_dk dc_X12_primary 89 rfl) rfl rfl rfl ?_
  refine PW_if_eq (pc' := 179) (tgt := 183) (pw_dk dc_X12_primary 90 rfl) rfl (by decide) (fun c_4 => ?_) (fun c_4 => ?_)
  · rw [if_pos c_4] at h
    refine PW_iconst (pc' := 184) (v := 1) (pw_dk dc_X12_primary 93 rfl) rfl (by decide) ?_
    exact b_X12_primary_184 rc dd hdd hg x1 1 σ_2 h
  · rw [if_neg c_4] at h
    refine PW_iconst (pc' := 180) (v := 0) (pw_dk dc_X12_primary 91 rfl) rfl (by decide) ?_
    refine PW_goto (tgt := 184) (pw_dk dc_X12_primary 92 rfl) (by decide) ?_
    exact b_X12_primary_184 rc dd hdd hg x1 0 σ_2 h
def f_X12_primary_165 (rc : Nat → zS → Option zS) (x1 : Int32) (σ : zS) : Option zS := 
  (f_X12_wrong 1 σ).bind fun σ_2 =>
  f_X12_primary_170 rc x1 σ_2
theorem b_X12_primary_165 (rc : Nat → zS → Option zS) (dd : Nat) (hdd : 7 ≤ dd) (hg : gM rc dd) {Q : Option Value → zS → Prop} (x1 : Int32) (σ : zS) (h : wpO (f_X12_primary_165 rc x1 σ) (fun s => Q none s)) : PZ alM mX12_primary (dd + 1) Q 165 [(0, .ref 5000), (1, .int x1)] [] σ := by
  unfold f_X12_primary_165 at h
  refine PW_aload_n (pc' := 166) (q := 0) (pw_dk dc_X12_primary 83 rfl) rfl rfl rfl ?_
  refine PW_iconst (pc' := 167) (v := 1) (pw_dk dc_X12_primary 84 rfl) rfl (by decide) ?_
  refine PZ_callVv (pc' := 170) (y := yX12_wrong) (M' := mX12_wrong) (d' := 0) (As := [.int 1]) (st := []) (b := 5000) (ci := 12) (nn := 0) me_5000 rfl tw_1636 tw_55 (pw_dk dc_X12_primary 85 rfl) rfl Y_X12_wrong tw_1634 rfl (by omega) (Nat.le_of_ble_eq_true rfl) (t_X12_wrong 1 σ _ ?_)
  obtain ⟨σ_2, e_3, h⟩ := wp_bind h
  refine ⟨σ_2, e_3, rfl, fun hn_1 => ?_⟩
  show PZ alM mX12_primary (dd + 1) Q 170 [(0, .ref 5000), (1, .int x1)] [] σ_2
  exact b_X12_primary_170 rc dd hdd hg x1 σ_2 h
def f_X12_primary_137 (rc : Nat → zS → Option zS) (x1 : Int32) (σ : zS) : Option zS := 
  if x1 = 0 then
    if (σ.1 5000 26) = 0 then
      if 28 ≤ (σ.1 5000 27) then
        f_X12_primary_170 rc x1 σ
      else
        if (σ.1 5000 27) = 3 then
          f_X12_primary_170 rc x1 σ
        else
          f_X12_primary_165 rc x1 σ
    else
      f_X12_primary_165 rc x1 σ
  else
    f_X12_primary_170 rc x1 σ
theorem b_X12_primary_137 (rc : Nat → zS → Option zS) (dd : Nat) (hdd : 7 ≤ dd) (hg : gM rc dd) {Q : Option Value → zS → Prop} (x1 : Int32) (σ : zS) (h : wpO (f_X12_primary_137 rc x1 σ) (fun s => Q none s)) : PZ alM mX12_primary (dd + 1) Q 137 [(0, .ref 5000), (1, .int x1)] [] σ := by
  unfold f_X12_primary_137 at h
  refine PW_iload_n (pc' := 138) (q := 1) (pw_dk dc_X12_primary 70 rfl) rfl rfl rfl ?_
  refine PW_if_ne (pc' := 141) (tgt := 170) (pw_dk dc_X12_primary 71 rfl) rfl (by decide) (fun c_1 => ?_) (fun c_1 => ?_)
  · rw [if_neg c_1] at h
    exact b_X12_primary_170 rc dd hdd hg x1 σ h
  · rw [if_pos c_1] at h
    refine PW_aload_n (pc' := 142) (q := 0) (pw_dk dc_X12_primary 72 rfl) rfl rfl rfl ?_
    refine PZ_getI (pc' := 145) (id := 5000) (ci := 12) (nn := 0) (C0 := RX12) (T := TX12) (N := 62) (j := 26) (pw_dk dc_X12_primary 73 rfl) rfl me_5000 rfl pi_12 (by decide) fk_12_26 tw_1423 ?_
    refine PW_if_ne (pc' := 148) (tgt := 165) (pw_dk dc_X12_primary 74 rfl) rfl (by decide) (fun c_2 => ?_) (fun c_2 => ?_)
    · rw [if_neg c_2] at h
      exact b_X12_primary_165 rc dd hdd hg x1 σ h
    · rw [if_pos c_2] at h
      refine PW_aload_n (pc' := 149) (q := 0) (pw_dk dc_X12_primary 75 rfl) rfl rfl rfl ?_
      refine PZ_getI (pc' := 152) (id := 5000) (ci := 12) (nn := 0) (C0 := RX12) (T := TX12) (N := 62) (j := 27) (pw_dk dc_X12_primary 76 rfl) rfl me_5000 rfl pi_12 (by decide) fk_12_27 tw_1424 ?_
      refine PW_bipush (pc' := 154) (v := 28) (pw_dk dc_X12_primary 77 rfl) rfl (by decide) ?_
      refine PW_icmp_ge (pc' := 157) (tgt := 170) (pw_dk dc_X12_primary 78 rfl) rfl (by decide) (fun c_3 => ?_) (fun c_3 => ?_)
      · rw [if_pos c_3] at h
        exact b_X12_primary_170 rc dd hdd hg x1 σ h
      · rw [if_neg c_3] at h
        refine PW_aload_n (pc' := 158) (q := 0) (pw_dk dc_X12_primary 79 rfl) rfl rfl rfl ?_
        refine PZ_getI (pc' := 161) (id := 5000) (ci := 12) (nn := 0) (C0 := RX12) (T := TX12) (N := 62) (j := 27) (pw_dk dc_X12_primary 80 rfl) rfl me_5000 rfl pi_12 (by decide) fk_12_27 tw_1424 ?_
        refine PW_iconst (pc' := 162) (v := 3) (pw_dk dc_X12_primary 81 rfl) rfl (by decide) ?_
        refine PW_icmp_eq (pc' := 165) (tgt := 170) (pw_dk dc_X12_primary 82 rfl) rfl (by decide) (fun c_4 => ?_) (fun c_4 => ?_)
        · rw [if_pos c_4] at h
          exact b_X12_primary_170 rc dd hdd hg x1 σ h
        · rw [if_neg c_4] at h
          exact b_X12_primary_165 rc dd hdd hg x1 σ h
def f_X12_primary_114 (rc : Nat → zS → Option zS) (s0 : Int32) (σ : zS) : Option zS := 
  if s0 = 0 then
    f_X12_primary_137 rc s0 σ
  else
    if (σ.1 5000 27) ≤ 9999 then
      f_X12_primary_137 rc s0 σ
    else
      (f_X12_wrong 2 σ).bind fun σ_4 =>
      f_X12_primary_170 rc s0 σ_4
theorem b_X12_primary_114 (rc : Nat → zS → Option zS) (dd : Nat) (hdd : 7 ≤ dd) (hg : gM rc dd) {Q : Option Value → zS → Prop} (s0 : Int32) (σ : zS) (h : wpO (f_X12_primary_114 rc s0 σ) (fun s => Q none s)) : PZ alM mX12_primary (dd + 1) Q 114 [(0, .ref 5000)] [.int s0] σ := by
  unfold f_X12_primary_114 at h
  refine PW_istore_n (pc' := 115) (lv' := [(1, .int s0), (0, .ref 5000)]) (pw_dk dc_X12_primary 59 rfl) rfl rfl (by decide) rfl ?_
  refine PW_iload_n (pc' := 116) (q := 0) (pw_dk dc_X12_primary 60 rfl) rfl rfl rfl ?_
  refine PW_if_eq (pc' := 119) (tgt := 137) (pw_dk dc_X12_primary 61 rfl) rfl (by decide) (fun c_1 => ?_) (fun c_1 => ?_)
  · rw [if_pos c_1] at h
    refine PW_sub (lv' := [(0, .ref 5000), (1, .int s0)]) [1, 0] rfl ?_
    exact b_X12_primary_137 rc dd hdd hg s0 σ h
  · rw [if_neg c_1] at h
    refine PW_aload_n (pc' := 120) (q := 1) (pw_dk dc_X12_primary 62 rfl) rfl rfl rfl ?_
    refine PZ_getI (pc' := 123) (id := 5000) (ci := 12) (nn := 0) (C0 := RX12) (T := TX12) (N := 62) (j := 27) (pw_dk dc_X12_primary 63 rfl) rfl me_5000 rfl pi_12 (by decide) fk_12_27 tw_1424 ?_
    refine PW_sipush (pc' := 126) (v := 9999) (pw_dk dc_X12_primary 64 rfl) rfl (by decide) ?_
    refine PW_icmp_le (pc' := 129) (tgt := 137) (pw_dk dc_X12_primary 65 rfl) rfl (by decide) (fun c_2 => ?_) (fun c_2 => ?_)
    · rw [if_pos c_2] at h
      refine PW_sub (lv' := [(0, .ref 5000), (1, .int s0)]) [1, 0] rfl ?_
      exact b_X12_primary_137 rc dd hdd hg s0 σ h
    · rw [if_neg c_2] at h
      refine PW_aload_n (pc' := 130) (q := 1) (pw_dk dc_X12_primary 66 rfl) rfl rfl rfl ?_
      refine PW_iconst (pc' := 131) (v := 2) (pw_dk dc_X12_primary 67 rfl) rfl (by decide) ?_
      refine PZ_callVv (pc' := 134) (y := yX12_wrong) (M' := mX12_wrong) (d' := 0) (As := [.int 2]) (st := []) (b := 5000) (ci := 12) (nn := 0) me_5000 rfl tw_1636 tw_55 (pw_dk dc_X12_primary 68 rfl) rfl Y_X12_wrong tw_1634 rfl (by omega) (Nat.le_of_ble_eq_true rfl) (t_X12_wrong 2 σ _ ?_)
      obtain ⟨σ_4, e_5, h⟩ := wp_bind h
      refine ⟨σ_4, e_5, rfl, fun hn_3 => ?_⟩
      show PZ alM mX12_primary (dd + 1) Q 134 [(1, .int s0), (0, .ref 5000)] [] σ_4
      refine PW_goto (tgt := 170) (pw_dk dc_X12_primary 69 rfl) (by decide) ?_
      refine PW_sub (lv' := [(0, .ref 5000), (1, .int s0)]) [1, 0] rfl ?_
      exact b_X12_primary_170 rc dd hdd hg s0 σ_4 h
def F_X12_primary (rc : Nat → zS → Option zS) (σ : zS) : Option zS := 
  if (σ.1 5000 28) = 0 then
    if (f_X12_isSign 40 σ) = 0 then
      if (σ.1 5000 26) = 2 then
        f_X12_primary_114 rc 1 σ
      else
        f_X12_primary_114 rc 0 σ
    else
      if (σ.1 5000 32) = 8 then
        (f_X12_wrong 2 σ).bind fun σ_7 =>
        f_X12_primary_31 rc σ_7
      else
        f_X12_primary_31 rc σ
  else
    some σ
theorem t_X12_primary (rc : Nat → zS → Option zS) (dd : Nat) (hdd : 7 ≤ dd) (hg : gM rc dd) (σ : zS) (Q : Option Value → zS → Prop) (h : wpO (F_X12_primary rc σ) (fun s => Q none s)) : PK alM yX12_primary mX12_primary (dd + 1) [.ref 5000] σ Q := by
  refine PC_ofF (by decide +kernel) rfl rfl (Nat.le_of_ble_eq_true rfl) ?_
  show PZ alM mX12_primary (dd + 1) Q 0 [(0, .ref 5000)] [] σ
  unfold F_X12_primary at h
  refine PW_aload_n (pc' := 1) (q := 0) (pw_dk dc_X12_primary 0 rfl) rfl rfl rfl ?_
  refine PZ_getI (pc' := 4) (id := 5000) (ci := 12) (nn := 0) (C0 := RX12) (T := TX12) (N := 62) (j := 28) (pw_dk dc_X12_primary 1 rfl) rfl me_5000 rfl pi_12 (by decide) fk_12_28 tw_1425 ?_
  refine PW_if_eq (pc' := 7) (tgt := 8) (pw_dk dc_X12_primary 2 rfl) rfl (by decide) (fun c_1 => ?_) (fun c_1 => ?_)
  · rw [if_pos c_1] at h
    refine PW_aload_n (pc' := 9) (q := 0) (pw_dk dc_X12_primary 4 rfl) rfl rfl rfl ?_
    refine PW_bipush (pc' := 11) (v := 40) (pw_dk dc_X12_primary 5 rfl) rfl (by decide) ?_
    refine PZ_callVi (pc' := 14) (y := yX12_isSign) (M' := mX12_isSign) (d' := 0) (As := [.int 40]) (st := []) (b := 5000) (ci := 12) (nn := 0) me_5000 rfl tw_1723 tw_76 (pw_dk dc_X12_primary 6 rfl) rfl Y_X12_isSign tw_1721 rfl (by omega) (Nat.le_of_ble_eq_true rfl) (t_X12_isSign 40 σ _ ?_)
    refine ⟨_, rfl, fun hn_2 => ?_⟩
    show PZ alM mX12_primary (dd + 1) Q 14 [(0, .ref 5000)] [.int (f_X12_isSign 40 σ)] σ
    refine PW_if_eq (pc' := 17) (tgt := 101) (pw_dk dc_X12_primary 7 rfl) rfl (by decide) (fun c_3 => ?_) (fun c_3 => ?_)
    · rw [if_pos c_3] at h
      refine PW_aload_n (pc' := 102) (q := 0) (pw_dk dc_X12_primary 52 rfl) rfl rfl rfl ?_
      refine PZ_getI (pc' := 105) (id := 5000) (ci := 12) (nn := 0) (C0 := RX12) (T := TX12) (N := 62) (j := 26) (pw_dk dc_X12_primary 53 rfl) rfl me_5000 rfl pi_12 (by decide) fk_12_26 tw_1423 ?_
      refine PW_iconst (pc' := 106) (v := 2) (pw_dk dc_X12_primary 54 rfl) rfl (by decide) ?_
      refine PW_icmp_ne (pc' := 109) (tgt := 113) (pw_dk dc_X12_primary 55 rfl) rfl (by decide) (fun c_4 => ?_) (fun c_4 => ?_)
      · rw [if_neg c_4] at h
        refine PW_iconst (pc' := 114) (v := 0) (pw_dk dc_X12_primary 58 rfl) rfl (by decide) ?_
        exact b_X12_primary_114 rc dd hdd hg 0 σ h
      · rw [if_pos c_4] at h
        refine PW_iconst (pc' := 110) (v := 1) (pw_dk dc_X12_primary 56 rfl) rfl (by decide) ?_
        refine PW_goto (tgt := 114) (pw_dk dc_X12_primary 57 rfl) (by decide) ?_
        exact b_X12_primary_114 rc dd hdd hg 1 σ h
    · rw [if_neg c_3] at h
      refine PW_aload_n (pc' := 18) (q := 0) (pw_dk dc_X12_primary 8 rfl) rfl rfl rfl ?_
      refine PZ_getI (pc' := 21) (id := 5000) (ci := 12) (nn := 0) (C0 := RX12) (T := TX12) (N := 62) (j := 32) (pw_dk dc_X12_primary 9 rfl) rfl me_5000 rfl pi_12 (by decide) fk_12_32 tw_1429 ?_
      refine PW_bipush (pc' := 23) (v := 8) (pw_dk dc_X12_primary 10 rfl) rfl (by decide) ?_
      refine PW_icmp_ne (pc' := 26) (tgt := 31) (pw_dk dc_X12_primary 11 rfl) rfl (by decide) (fun c_5 => ?_) (fun c_5 => ?_)
      · rw [if_neg c_5] at h
        exact b_X12_primary_31 rc dd hdd hg σ h
      · rw [if_pos c_5] at h
        refine PW_aload_n (pc' := 27) (q := 0) (pw_dk dc_X12_primary 12 rfl) rfl rfl rfl ?_
        refine PW_iconst (pc' := 28) (v := 2) (pw_dk dc_X12_primary 13 rfl) rfl (by decide) ?_
        refine PZ_callVv (pc' := 31) (y := yX12_wrong) (M' := mX12_wrong) (d' := 0) (As := [.int 2]) (st := []) (b := 5000) (ci := 12) (nn := 0) me_5000 rfl tw_1636 tw_55 (pw_dk dc_X12_primary 14 rfl) rfl Y_X12_wrong tw_1634 rfl (by omega) (Nat.le_of_ble_eq_true rfl) (t_X12_wrong 2 σ _ ?_)
        obtain ⟨σ_7, e_8, h⟩ := wp_bind h
        refine ⟨σ_7, e_8, rfl, fun hn_6 => ?_⟩
        show PZ alM mX12_primary (dd + 1) Q 31 [(0, .ref 5000)] [] σ_7
        exact b_X12_primary_31 rc dd hdd hg σ_7 h
  · rw [if_neg c_1] at h
    have z := wp_some h
    exact PZ_vret (pw_dk dc_X12_primary 3 rfl) rfl z
def fgM : Nat → Nat → zS → Option zS
  | 0, _, _ => none
  | n + 1, k, σ => 
    if k = 0 then F_X12_expression (fgM n) σ else
    if k = 1 then F_X12_conjunction (fgM n) σ else
    if k = 2 then F_X12_negation (fgM n) σ else
    if k = 3 then F_X12_sum (fgM n) σ else
    if k = 4 then F_X12_product (fgM n) σ else
    F_X12_primary (fgM n) σ
theorem gM_all : ∀ n : Nat, gM (fgM n) (7 + n) := by
  intro n
  induction n with
  | zero => exact ⟨fun σ Q h => wp_none h, fun σ Q h => wp_none h, fun σ Q h => wp_none h, fun σ Q h => wp_none h, fun σ Q h => wp_none h, fun σ Q h => wp_none h⟩
  | succ n ih => exact ⟨fun σ Q h => t_X12_expression (fgM n) (7 + n) (by omega) ih σ Q (by simpa [fgM] using h), fun σ Q h => t_X12_conjunction (fgM n) (7 + n) (by omega) ih σ Q (by simpa [fgM] using h), fun σ Q h => t_X12_negation (fgM n) (7 + n) (by omega) ih σ Q (by simpa [fgM] using h), fun σ Q h => t_X12_sum (fgM n) (7 + n) (by omega) ih σ Q (by simpa [fgM] using h), fun σ Q h => t_X12_product (fgM n) (7 + n) (by omega) ih σ Q (by simpa [fgM] using h), fun σ Q h => t_X12_primary (fgM n) (7 + n) (by omega) ih σ Q (by simpa [fgM] using h)⟩
def f_X12_lawLine_65  (x1 : Int32) (σ : zS) : Option zS := 
  if (σ.1 5000 28) = 0 then
    lt (wI σ 5000 21 ((σ.1 5000 21) ||| ((1 : Int32) <<< (((16 : Int32) + x1) &&& 31)))) fun σ_2 =>
    (f_X12_token σ_2).bind fun σ_5 =>
    (f_X12_fresher 7 σ_5).bind fun v_8 =>
    (wrI σ_5 5018 6 ((3 : Int32) + x1) v_8).bind fun σ_10 =>
    (fgM 200 0 σ_10).bind fun σ_14 =>
    (f_X12_fresher 7 σ_14).bind fun v_17 =>
    (wrI σ_14 5019 6 ((3 : Int32) + x1) v_17).bind fun σ_19 =>
    some σ_19
  else
    some σ
theorem b_X12_lawLine_65 {Q : Option Value → zS → Prop} (x1 : Int32) (σ : zS) (h : wpO (f_X12_lawLine_65 x1 σ) (fun s => Q none s)) : PZ alM mX12_lawLine (208) Q 65 [(0, .ref 5000), (1, .int x1)] [] σ := by
  unfold f_X12_lawLine_65 at h
  refine PW_aload_n (pc' := 66) (q := 0) (pw_dk dc_X12_lawLine 35 rfl) rfl rfl rfl ?_
  refine PZ_getI (pc' := 69) (id := 5000) (ci := 12) (nn := 0) (C0 := RX12) (T := TX12) (N := 62) (j := 28) (pw_dk dc_X12_lawLine 36 rfl) rfl me_5000 rfl pi_12 (by decide) fk_12_28 tw_1425 ?_
  refine PW_if_eq (pc' := 72) (tgt := 73) (pw_dk dc_X12_lawLine 37 rfl) rfl (by decide) (fun c_1 => ?_) (fun c_1 => ?_)
  · rw [if_pos c_1] at h
    refine PW_aload_n (pc' := 74) (q := 0) (pw_dk dc_X12_lawLine 39 rfl) rfl rfl rfl ?_
    refine PW_dup (pc' := 75) (pw_dk dc_X12_lawLine 40 rfl) rfl rfl ?_
    refine PZ_getI (pc' := 78) (id := 5000) (ci := 12) (nn := 0) (C0 := RX12) (T := TX12) (N := 62) (j := 21) (pw_dk dc_X12_lawLine 41 rfl) rfl me_5000 rfl pi_12 (by decide) fk_12_21 tw_1418 ?_
    refine PW_iconst (pc' := 79) (v := 1) (pw_dk dc_X12_lawLine 42 rfl) rfl (by decide) ?_
    refine PW_bipush (pc' := 81) (v := 16) (pw_dk dc_X12_lawLine 43 rfl) rfl (by decide) ?_
    refine PW_iload_n (pc' := 82) (q := 1) (pw_dk dc_X12_lawLine 44 rfl) rfl rfl rfl ?_
    refine PW_iadd (pc' := 83) (pw_dk dc_X12_lawLine 45 rfl) rfl ?_
    refine PW_ishl (pc' := 84) (pw_dk dc_X12_lawLine 46 rfl) rfl ?_
    refine PW_ior (pc' := 85) (pw_dk dc_X12_lawLine 47 rfl) rfl ?_
    obtain ⟨σ_2, e_3, h⟩ := lt_x h
    refine PZ_putX (pc' := 88) (σ' := σ_2) (id := 5000) (ci := 12) (nn := 0) (C0 := RX12) (T := TX12) (N := 62) (j := 21) (ty := tyX12 21) (pw_dk dc_X12_lawLine 48 rfl) rfl me_5000 rfl pi_12 tyX12_ok nmX12 (by decide) fk_12_21 tw_1418 rfl (tyX12_ok 21 (by decide)) (by first | rfl | decide) (by first | rfl | decide) e_3 ?_
    refine PW_aload_n (pc' := 89) (q := 0) (pw_dk dc_X12_lawLine 49 rfl) rfl rfl rfl ?_
    refine PZ_callVv (pc' := 92) (y := yX12_token) (M' := mX12_token) (d' := 5) (As := []) (st := []) (b := 5000) (ci := 12) (nn := 0) me_5000 rfl tw_1602 tw_49 (pw_dk dc_X12_lawLine 50 rfl) rfl Y_X12_token tw_1600 rfl (by decide) (Nat.le_of_ble_eq_true rfl) (t_X12_token σ_2 _ ?_)
    obtain ⟨σ_5, e_6, h⟩ := wp_bind h
    refine ⟨σ_5, e_6, rfl, fun hn_4 => ?_⟩
    show PZ alM mX12_lawLine (208) Q 92 [(0, .ref 5000), (1, .int x1)] [] σ_5
    refine PW_aload_n (pc' := 93) (q := 0) (pw_dk dc_X12_lawLine 51 rfl) rfl rfl rfl ?_
    refine PW_getR (pc' := 96) (id := 5000) (ci := 12) (nn := 0) (C0 := RX12) (T := TX12) (N := 62) (j := 17) (r := 5018) (pw_dk dc_X12_lawLine 52 rfl) rfl me_5000 rfl pi_12 (by decide) fk_12_17 tw_1414 (rfl) (by decide) ?_
    refine PW_iconst (pc' := 97) (v := 3) (pw_dk dc_X12_lawLine 53 rfl) rfl (by decide) ?_
    refine PW_iload_n (pc' := 98) (q := 1) (pw_dk dc_X12_lawLine 54 rfl) rfl rfl rfl ?_
    refine PW_iadd (pc' := 99) (pw_dk dc_X12_lawLine 55 rfl) rfl ?_
    refine PW_aload_n (pc' := 100) (q := 0) (pw_dk dc_X12_lawLine 56 rfl) rfl rfl rfl ?_
    refine PW_bipush (pc' := 102) (v := 7) (pw_dk dc_X12_lawLine 57 rfl) rfl (by decide) ?_
    refine PZ_callVi (pc' := 105) (y := yX12_fresher) (M' := mX12_fresher) (d' := 0) (As := [.int 7]) (st := [.int ((3 : Int32) + x1), .ref 5018]) (b := 5000) (ci := 12) (nn := 0) me_5000 rfl tw_1644 tw_57 (pw_dk dc_X12_lawLine 58 rfl) rfl Y_X12_fresher tw_1642 rfl (by decide) (Nat.le_of_ble_eq_true rfl) (t_X12_fresher 7 σ_5 _ ?_)
    obtain ⟨v_8, e_9, h⟩ := wp_bind h
    refine ⟨v_8, e_9, _, rfl, fun hn_7 => ?_⟩
    show PZ alM mX12_lawLine (208) Q 105 [(0, .ref 5000), (1, .int x1)] [.int v_8, .int ((3 : Int32) + x1), .ref 5018] σ_5
    obtain ⟨σ_10, hi_11, e_12, h⟩ := wp_wrIx h
    refine PZ_iastx (pc' := 106) (σ' := σ_10) (id := 5018) (nn := 6) (pw_dk dc_X12_lawLine 59 rfl) rfl me_5018 hi_11 e_12 ?_
    refine PW_aload_n (pc' := 107) (q := 0) (pw_dk dc_X12_lawLine 60 rfl) rfl rfl rfl ?_
    refine PZ_callVv (pc' := 110) (y := yX12_expression) (M' := mX12_expression) (d' := 207) (As := []) (st := []) (b := 5000) (ci := 12) (nn := 0) me_5000 rfl tw_1683 tw_66 (pw_dk dc_X12_lawLine 61 rfl) rfl Y_X12_expression tw_1681 rfl (by decide) (Nat.le_of_ble_eq_true rfl) ((gM_all 200).1 σ_10 _ ?_)
    obtain ⟨σ_14, e_15, h⟩ := wp_bind h
    refine ⟨σ_14, e_15, rfl, fun hn_13 => ?_⟩
    show PZ alM mX12_lawLine (208) Q 110 [(0, .ref 5000), (1, .int x1)] [] σ_14
    refine PW_aload_n (pc' := 111) (q := 0) (pw_dk dc_X12_lawLine 62 rfl) rfl rfl rfl ?_
    refine PW_getR (pc' := 114) (id := 5000) (ci := 12) (nn := 0) (C0 := RX12) (T := TX12) (N := 62) (j := 18) (r := 5019) (pw_dk dc_X12_lawLine 63 rfl) rfl me_5000 rfl pi_12 (by decide) fk_12_18 tw_1415 (rfl) (by decide) ?_
    refine PW_iconst (pc' := 115) (v := 3) (pw_dk dc_X12_lawLine 64 rfl) rfl (by decide) ?_
    refine PW_iload_n (pc' := 116) (q := 1) (pw_dk dc_X12_lawLine 65 rfl) rfl rfl rfl ?_
    refine PW_iadd (pc' := 117) (pw_dk dc_X12_lawLine 66 rfl) rfl ?_
    refine PW_aload_n (pc' := 118) (q := 0) (pw_dk dc_X12_lawLine 67 rfl) rfl rfl rfl ?_
    refine PW_bipush (pc' := 120) (v := 7) (pw_dk dc_X12_lawLine 68 rfl) rfl (by decide) ?_
    refine PZ_callVi (pc' := 123) (y := yX12_fresher) (M' := mX12_fresher) (d' := 0) (As := [.int 7]) (st := [.int ((3 : Int32) + x1), .ref 5019]) (b := 5000) (ci := 12) (nn := 0) me_5000 rfl tw_1644 tw_57 (pw_dk dc_X12_lawLine 69 rfl) rfl Y_X12_fresher tw_1642 rfl (by decide) (Nat.le_of_ble_eq_true rfl) (t_X12_fresher 7 σ_14 _ ?_)
    obtain ⟨v_17, e_18, h⟩ := wp_bind h
    refine ⟨v_17, e_18, _, rfl, fun hn_16 => ?_⟩
    show PZ alM mX12_lawLine (208) Q 123 [(0, .ref 5000), (1, .int x1)] [.int v_17, .int ((3 : Int32) + x1), .ref 5019] σ_14
    obtain ⟨σ_19, hi_20, e_21, h⟩ := wp_wrIx h
    refine PZ_iastx (pc' := 124) (σ' := σ_19) (id := 5019) (nn := 6) (pw_dk dc_X12_lawLine 70 rfl) rfl me_5019 hi_20 e_21 ?_
    have z := wp_some h
    exact PZ_vret (pw_dk dc_X12_lawLine 71 rfl) rfl z
  · rw [if_neg c_1] at h
    have z := wp_some h
    exact PZ_vret (pw_dk dc_X12_lawLine 38 rfl) rfl z
def f_X12_lawLine_30   (σ : zS) : Option zS := 
  lt (α := Int32) ((σ.1 5000 27) - (22 : Int32)) fun x1_1 =>
  if (σ.1 5000 28) = 0 then
    if (((σ.1 5000 21) >>> (((16 : Int32) + x1_1) &&& 31)) &&& (1 : Int32)) = 1 then
      (f_X12_wrong 3 σ).bind fun σ_5 =>
      f_X12_lawLine_65 x1_1 σ_5
    else
      f_X12_lawLine_65 x1_1 σ
  else
    f_X12_lawLine_65 x1_1 σ
theorem b_X12_lawLine_30 {Q : Option Value → zS → Prop}  (σ : zS) (h : wpO (f_X12_lawLine_30 σ) (fun s => Q none s)) : PZ alM mX12_lawLine (208) Q 30 [(0, .ref 5000)] [] σ := by
  unfold f_X12_lawLine_30 at h
  refine PW_aload_n (pc' := 31) (q := 0) (pw_dk dc_X12_lawLine 14 rfl) rfl rfl rfl ?_
  refine PZ_getI (pc' := 34) (id := 5000) (ci := 12) (nn := 0) (C0 := RX12) (T := TX12) (N := 62) (j := 27) (pw_dk dc_X12_lawLine 15 rfl) rfl me_5000 rfl pi_12 (by decide) fk_12_27 tw_1424 ?_
  refine PW_bipush (pc' := 36) (v := 22) (pw_dk dc_X12_lawLine 16 rfl) rfl (by decide) ?_
  refine PW_isub (pc' := 37) (pw_dk dc_X12_lawLine 17 rfl) rfl ?_
  refine PW_topi (fun x1_1 ex1_1 => ?_)
  replace h := lt_w h ex1_1
  refine PW_istore_n (pc' := 38) (lv' := [(1, .int x1_1), (0, .ref 5000)]) (pw_dk dc_X12_lawLine 18 rfl) rfl rfl (by decide) rfl ?_
  refine PW_aload_n (pc' := 39) (q := 1) (pw_dk dc_X12_lawLine 19 rfl) rfl rfl rfl ?_
  refine PZ_getI (pc' := 42) (id := 5000) (ci := 12) (nn := 0) (C0 := RX12) (T := TX12) (N := 62) (j := 28) (pw_dk dc_X12_lawLine 20 rfl) rfl me_5000 rfl pi_12 (by decide) fk_12_28 tw_1425 ?_
  refine PW_if_ne (pc' := 45) (tgt := 65) (pw_dk dc_X12_lawLine 21 rfl) rfl (by decide) (fun c_2 => ?_) (fun c_2 => ?_)
  · rw [if_neg c_2] at h
    refine PW_sub (lv' := [(0, .ref 5000), (1, .int x1_1)]) [1, 0] rfl ?_
    exact b_X12_lawLine_65 x1_1 σ h
  · rw [if_pos c_2] at h
    refine PW_aload_n (pc' := 46) (q := 1) (pw_dk dc_X12_lawLine 22 rfl) rfl rfl rfl ?_
    refine PZ_getI (pc' := 49) (id := 5000) (ci := 12) (nn := 0) (C0 := RX12) (T := TX12) (N := 62) (j := 21) (pw_dk dc_X12_lawLine 23 rfl) rfl me_5000 rfl pi_12 (by decide) fk_12_21 tw_1418 ?_
    refine PW_bipush (pc' := 51) (v := 16) (pw_dk dc_X12_lawLine 24 rfl) rfl (by decide) ?_
    refine PW_iload_n (pc' := 52) (q := 0) (pw_dk dc_X12_lawLine 25 rfl) rfl rfl rfl ?_
    refine PW_iadd (pc' := 53) (pw_dk dc_X12_lawLine 26 rfl) rfl ?_
    refine PW_ishr (pc' := 54) (pw_dk dc_X12_lawLine 27 rfl) rfl ?_
    refine PW_iconst (pc' := 55) (v := 1) (pw_dk dc_X12_lawLine 28 rfl) rfl (by decide) ?_
    refine PW_iand (pc' := 56) (pw_dk dc_X12_lawLine 29 rfl) rfl ?_
    refine PW_iconst (pc' := 57) (v := 1) (pw_dk dc_X12_lawLine 30 rfl) rfl (by decide) ?_
    refine PW_icmp_ne (pc' := 60) (tgt := 65) (pw_dk dc_X12_lawLine 31 rfl) rfl (by decide) (fun c_3 => ?_) (fun c_3 => ?_)
    · rw [if_neg c_3] at h
      refine PW_sub (lv' := [(0, .ref 5000), (1, .int x1_1)]) [1, 0] rfl ?_
      exact b_X12_lawLine_65 x1_1 σ h
    · rw [if_pos c_3] at h
      refine PW_aload_n (pc' := 61) (q := 1) (pw_dk dc_X12_lawLine 32 rfl) rfl rfl rfl ?_
      refine PW_iconst (pc' := 62) (v := 3) (pw_dk dc_X12_lawLine 33 rfl) rfl (by decide) ?_
      refine PZ_callVv (pc' := 65) (y := yX12_wrong) (M' := mX12_wrong) (d' := 0) (As := [.int 3]) (st := []) (b := 5000) (ci := 12) (nn := 0) me_5000 rfl tw_1636 tw_55 (pw_dk dc_X12_lawLine 34 rfl) rfl Y_X12_wrong tw_1634 rfl (by decide) (Nat.le_of_ble_eq_true rfl) (t_X12_wrong 3 σ _ ?_)
      obtain ⟨σ_5, e_6, h⟩ := wp_bind h
      refine ⟨σ_5, e_6, rfl, fun hn_4 => ?_⟩
      show PZ alM mX12_lawLine (208) Q 65 [(1, .int x1_1), (0, .ref 5000)] [] σ_5
      refine PW_sub (lv' := [(0, .ref 5000), (1, .int x1_1)]) [1, 0] rfl ?_
      exact b_X12_lawLine_65 x1_1 σ_5 h
def f_X12_lawLine_25   (σ : zS) : Option zS := 
  (f_X12_wrong 1 σ).bind fun σ_2 =>
  f_X12_lawLine_30 σ_2
theorem b_X12_lawLine_25 {Q : Option Value → zS → Prop}  (σ : zS) (h : wpO (f_X12_lawLine_25 σ) (fun s => Q none s)) : PZ alM mX12_lawLine (208) Q 25 [(0, .ref 5000)] [] σ := by
  unfold f_X12_lawLine_25 at h
  refine PW_aload_n (pc' := 26) (q := 0) (pw_dk dc_X12_lawLine 11 rfl) rfl rfl rfl ?_
  refine PW_iconst (pc' := 27) (v := 1) (pw_dk dc_X12_lawLine 12 rfl) rfl (by decide) ?_
  refine PZ_callVv (pc' := 30) (y := yX12_wrong) (M' := mX12_wrong) (d' := 0) (As := [.int 1]) (st := []) (b := 5000) (ci := 12) (nn := 0) me_5000 rfl tw_1636 tw_55 (pw_dk dc_X12_lawLine 13 rfl) rfl Y_X12_wrong tw_1634 rfl (by decide) (Nat.le_of_ble_eq_true rfl) (t_X12_wrong 1 σ _ ?_)
  obtain ⟨σ_2, e_3, h⟩ := wp_bind h
  refine ⟨σ_2, e_3, rfl, fun hn_1 => ?_⟩
  show PZ alM mX12_lawLine (208) Q 30 [(0, .ref 5000)] [] σ_2
  exact b_X12_lawLine_30 σ_2 h
def f_X12_lawLine  (σ : zS) : Option zS := 
  if (σ.1 5000 26) = 0 then
    if (σ.1 5000 27) < 22 then
      f_X12_lawLine_25 σ
    else
      if (σ.1 5000 27) ≤ 24 then
        f_X12_lawLine_30 σ
      else
        f_X12_lawLine_25 σ
  else
    f_X12_lawLine_25 σ
theorem t_X12_lawLine (σ : zS) (Q : Option Value → zS → Prop) (h : wpO (f_X12_lawLine σ) (fun s => Q none s)) : PK alM yX12_lawLine mX12_lawLine (208) [.ref 5000] σ Q := by
  refine PC_ofF (by decide +kernel) rfl rfl (Nat.le_of_ble_eq_true rfl) ?_
  show PZ alM mX12_lawLine (208) Q 0 [(0, .ref 5000)] [] σ
  unfold f_X12_lawLine at h
  refine PW_aload_n (pc' := 1) (q := 0) (pw_dk dc_X12_lawLine 0 rfl) rfl rfl rfl ?_
  refine PZ_getI (pc' := 4) (id := 5000) (ci := 12) (nn := 0) (C0 := RX12) (T := TX12) (N := 62) (j := 26) (pw_dk dc_X12_lawLine 1 rfl) rfl me_5000 rfl pi_12 (by decide) fk_12_26 tw_1423 ?_
  refine PW_if_ne (pc' := 7) (tgt := 25) (pw_dk dc_X12_lawLine 2 rfl) rfl (by decide) (fun c_1 => ?_) (fun c_1 => ?_)
  · rw [if_neg c_1] at h
    exact b_X12_lawLine_25 σ h
  · rw [if_pos c_1] at h
    refine PW_aload_n (pc' := 8) (q := 0) (pw_dk dc_X12_lawLine 3 rfl) rfl rfl rfl ?_
    refine PZ_getI (pc' := 11) (id := 5000) (ci := 12) (nn := 0) (C0 := RX12) (T := TX12) (N := 62) (j := 27) (pw_dk dc_X12_lawLine 4 rfl) rfl me_5000 rfl pi_12 (by decide) fk_12_27 tw_1424 ?_
    refine PW_bipush (pc' := 13) (v := 22) (pw_dk dc_X12_lawLine 5 rfl) rfl (by decide) ?_
    refine PW_icmp_lt (pc' := 16) (tgt := 25) (pw_dk dc_X12_lawLine 6 rfl) rfl (by decide) (fun c_2 => ?_) (fun c_2 => ?_)
    · rw [if_pos c_2] at h
      exact b_X12_lawLine_25 σ h
    · rw [if_neg c_2] at h
      refine PW_aload_n (pc' := 17) (q := 0) (pw_dk dc_X12_lawLine 7 rfl) rfl rfl rfl ?_
      refine PZ_getI (pc' := 20) (id := 5000) (ci := 12) (nn := 0) (C0 := RX12) (T := TX12) (N := 62) (j := 27) (pw_dk dc_X12_lawLine 8 rfl) rfl me_5000 rfl pi_12 (by decide) fk_12_27 tw_1424 ?_
      refine PW_bipush (pc' := 22) (v := 24) (pw_dk dc_X12_lawLine 9 rfl) rfl (by decide) ?_
      refine PW_icmp_le (pc' := 25) (tgt := 30) (pw_dk dc_X12_lawLine 10 rfl) rfl (by decide) (fun c_3 => ?_) (fun c_3 => ?_)
      · rw [if_pos c_3] at h
        exact b_X12_lawLine_30 σ h
      · rw [if_neg c_3] at h
        exact b_X12_lawLine_25 σ h
def f_X12_manLine (x1 : Int32) (σ : zS) : Option zS := 
  (f_X12_fresher 2 σ).bind fun v_2 =>
  b2 (f_X12_fresh 5009 10 5 v_2 σ) fun v_6 σ_5 =>
  (wrI σ_5 5009 10 x1 v_6).bind fun σ_8 =>
  (f_X12_fresher 0 σ_8).bind fun v_12 =>
  b2 (f_X12_numeral 0 (v_12 - (1 : Int32)) σ_8) fun v_16 σ_15 =>
  (wrI σ_15 5010 10 x1 v_16).bind fun σ_18 =>
  b2 (f_X12_oneOf 8 11 σ_18) fun v_23 σ_22 =>
  (wrI σ_22 5011 10 x1 v_23).bind fun σ_25 =>
  b2 (f_X12_oneOf 12 13 σ_25) fun v_30 σ_29 =>
  (wrI σ_29 5012 10 x1 v_30).bind fun σ_32 =>
  b2 (f_X12_numeral 0 99 σ_32) fun v_37 σ_36 =>
  (wrI σ_36 5013 10 x1 v_37).bind fun σ_39 =>
  (f_X12_fresher 2 σ_39).bind fun v_43 =>
  (f_X12_reads 2 (v_43 + (1 : Int32)) σ_39).bind fun σ_46 =>
  some σ_46
theorem t_X12_manLine (x1 : Int32) (σ : zS) (Q : Option Value → zS → Prop) (h : wpO (f_X12_manLine x1 σ) (fun s => Q none s)) : PK alM yX12_manLine mX12_manLine (7) [.ref 5000, .int x1] σ Q := by
  refine PC_ofF (by decide +kernel) rfl rfl (Nat.le_of_ble_eq_true rfl) ?_
  show PZ alM mX12_manLine (7) Q 0 [(0, .ref 5000), (1, .int x1)] [] σ
  unfold f_X12_manLine at h
  refine PW_aload_n (pc' := 1) (q := 0) (pw_dk dc_X12_manLine 0 rfl) rfl rfl rfl ?_
  refine PW_getR (pc' := 4) (id := 5000) (ci := 12) (nn := 0) (C0 := RX12) (T := TX12) (N := 62) (j := 8) (r := 5009) (pw_dk dc_X12_manLine 1 rfl) rfl me_5000 rfl pi_12 (by decide) fk_12_8 tw_1405 (rfl) (by decide) ?_
  refine PW_iload_n (pc' := 5) (q := 1) (pw_dk dc_X12_manLine 2 rfl) rfl rfl rfl ?_
  refine PW_aload_n (pc' := 6) (q := 0) (pw_dk dc_X12_manLine 3 rfl) rfl rfl rfl ?_
  refine PW_aload_n (pc' := 7) (q := 0) (pw_dk dc_X12_manLine 4 rfl) rfl rfl rfl ?_
  refine PW_getR (pc' := 10) (id := 5000) (ci := 12) (nn := 0) (C0 := RX12) (T := TX12) (N := 62) (j := 8) (r := 5009) (pw_dk dc_X12_manLine 5 rfl) rfl me_5000 rfl pi_12 (by decide) fk_12_8 tw_1405 (rfl) (by decide) ?_
  refine PW_iconst (pc' := 11) (v := 5) (pw_dk dc_X12_manLine 6 rfl) rfl (by decide) ?_
  refine PW_aload_n (pc' := 12) (q := 0) (pw_dk dc_X12_manLine 7 rfl) rfl rfl rfl ?_
  refine PW_iconst (pc' := 13) (v := 2) (pw_dk dc_X12_manLine 8 rfl) rfl (by decide) ?_
  refine PZ_callVi (pc' := 16) (y := yX12_fresher) (M' := mX12_fresher) (d' := 0) (As := [.int 2]) (st := [.int 5, .ref 5009, .ref 5000, .int x1, .ref 5009]) (b := 5000) (ci := 12) (nn := 0) me_5000 rfl tw_1644 tw_57 (pw_dk dc_X12_manLine 9 rfl) rfl Y_X12_fresher tw_1642 rfl (by decide) (Nat.le_of_ble_eq_true rfl) (t_X12_fresher 2 σ _ ?_)
  obtain ⟨v_2, e_3, h⟩ := wp_bind h
  refine ⟨v_2, e_3, _, rfl, fun hn_1 => ?_⟩
  show PZ alM mX12_manLine (7) Q 16 [(0, .ref 5000), (1, .int x1)] [.int v_2, .int 5, .ref 5009, .ref 5000, .int x1, .ref 5009] σ
  refine PZ_callVi (pc' := 19) (y := yX12_fresh) (M' := mX12_fresh) (d' := 6) (As := [.ref 5009, .int 5, .int v_2]) (st := [.int x1, .ref 5009]) (b := 5000) (ci := 12) (nn := 0) me_5000 rfl tw_1652 tw_59 (pw_dk dc_X12_manLine 10 rfl) rfl Y_X12_fresh tw_1650 rfl (by decide) (Nat.le_of_ble_eq_true rfl) (t_X12_fresh 5009 10 5 v_2 me_5009 σ _ ?_)
  obtain ⟨⟨v_6, σ_5⟩, e_7, h⟩ := wp_bind2 h
  refine ⟨(v_6, σ_5), e_7, _, rfl, fun hn_4 => ?_⟩
  show PZ alM mX12_manLine (7) Q 19 [(0, .ref 5000), (1, .int x1)] [.int v_6, .int x1, .ref 5009] σ_5
  obtain ⟨σ_8, hi_9, e_10, h⟩ := wp_wrIx h
  refine PZ_iastx (pc' := 20) (σ' := σ_8) (id := 5009) (nn := 10) (pw_dk dc_X12_manLine 11 rfl) rfl me_5009 hi_9 e_10 ?_
  refine PW_aload_n (pc' := 21) (q := 0) (pw_dk dc_X12_manLine 12 rfl) rfl rfl rfl ?_
  refine PW_getR (pc' := 24) (id := 5000) (ci := 12) (nn := 0) (C0 := RX12) (T := TX12) (N := 62) (j := 9) (r := 5010) (pw_dk dc_X12_manLine 13 rfl) rfl me_5000 rfl pi_12 (by decide) fk_12_9 tw_1406 (rfl) (by decide) ?_
  refine PW_iload_n (pc' := 25) (q := 1) (pw_dk dc_X12_manLine 14 rfl) rfl rfl rfl ?_
  refine PW_aload_n (pc' := 26) (q := 0) (pw_dk dc_X12_manLine 15 rfl) rfl rfl rfl ?_
  refine PW_iconst (pc' := 27) (v := 0) (pw_dk dc_X12_manLine 16 rfl) rfl (by decide) ?_
  refine PW_aload_n (pc' := 28) (q := 0) (pw_dk dc_X12_manLine 17 rfl) rfl rfl rfl ?_
  refine PW_iconst (pc' := 29) (v := 0) (pw_dk dc_X12_manLine 18 rfl) rfl (by decide) ?_
  refine PZ_callVi (pc' := 32) (y := yX12_fresher) (M' := mX12_fresher) (d' := 0) (As := [.int 0]) (st := [.int 0, .ref 5000, .int x1, .ref 5010]) (b := 5000) (ci := 12) (nn := 0) me_5000 rfl tw_1644 tw_57 (pw_dk dc_X12_manLine 19 rfl) rfl Y_X12_fresher tw_1642 rfl (by decide) (Nat.le_of_ble_eq_true rfl) (t_X12_fresher 0 σ_8 _ ?_)
  obtain ⟨v_12, e_13, h⟩ := wp_bind h
  refine ⟨v_12, e_13, _, rfl, fun hn_11 => ?_⟩
  show PZ alM mX12_manLine (7) Q 32 [(0, .ref 5000), (1, .int x1)] [.int v_12, .int 0, .ref 5000, .int x1, .ref 5010] σ_8
  refine PW_iconst (pc' := 33) (v := 1) (pw_dk dc_X12_manLine 20 rfl) rfl (by decide) ?_
  refine PW_isub (pc' := 34) (pw_dk dc_X12_manLine 21 rfl) rfl ?_
  refine PZ_callVi (pc' := 37) (y := yX12_numeral) (M' := mX12_numeral) (d' := 6) (As := [.int 0, .int (v_12 - (1 : Int32))]) (st := [.int x1, .ref 5010]) (b := 5000) (ci := 12) (nn := 0) me_5000 rfl tw_1648 tw_58 (pw_dk dc_X12_manLine 22 rfl) rfl Y_X12_numeral tw_1646 rfl (by decide) (Nat.le_of_ble_eq_true rfl) (t_X12_numeral 0 (v_12 - (1 : Int32)) σ_8 _ ?_)
  obtain ⟨⟨v_16, σ_15⟩, e_17, h⟩ := wp_bind2 h
  refine ⟨(v_16, σ_15), e_17, _, rfl, fun hn_14 => ?_⟩
  show PZ alM mX12_manLine (7) Q 37 [(0, .ref 5000), (1, .int x1)] [.int v_16, .int x1, .ref 5010] σ_15
  obtain ⟨σ_18, hi_19, e_20, h⟩ := wp_wrIx h
  refine PZ_iastx (pc' := 38) (σ' := σ_18) (id := 5010) (nn := 10) (pw_dk dc_X12_manLine 23 rfl) rfl me_5010 hi_19 e_20 ?_
  refine PW_aload_n (pc' := 39) (q := 0) (pw_dk dc_X12_manLine 24 rfl) rfl rfl rfl ?_
  refine PW_getR (pc' := 42) (id := 5000) (ci := 12) (nn := 0) (C0 := RX12) (T := TX12) (N := 62) (j := 10) (r := 5011) (pw_dk dc_X12_manLine 25 rfl) rfl me_5000 rfl pi_12 (by decide) fk_12_10 tw_1407 (rfl) (by decide) ?_
  refine PW_iload_n (pc' := 43) (q := 1) (pw_dk dc_X12_manLine 26 rfl) rfl rfl rfl ?_
  refine PW_aload_n (pc' := 44) (q := 0) (pw_dk dc_X12_manLine 27 rfl) rfl rfl rfl ?_
  refine PW_bipush (pc' := 46) (v := 8) (pw_dk dc_X12_manLine 28 rfl) rfl (by decide) ?_
  refine PW_bipush (pc' := 48) (v := 11) (pw_dk dc_X12_manLine 29 rfl) rfl (by decide) ?_
  refine PZ_callVi (pc' := 51) (y := yX12_oneOf) (M' := mX12_oneOf) (d' := 6) (As := [.int 8, .int 11]) (st := [.int x1, .ref 5011]) (b := 5000) (ci := 12) (nn := 0) me_5000 rfl tw_1663 tw_61 (pw_dk dc_X12_manLine 30 rfl) rfl Y_X12_oneOf tw_1661 rfl (by decide) (Nat.le_of_ble_eq_true rfl) (t_X12_oneOf 8 11 σ_18 _ ?_)
  obtain ⟨⟨v_23, σ_22⟩, e_24, h⟩ := wp_bind2 h
  refine ⟨(v_23, σ_22), e_24, _, rfl, fun hn_21 => ?_⟩
  show PZ alM mX12_manLine (7) Q 51 [(0, .ref 5000), (1, .int x1)] [.int v_23, .int x1, .ref 5011] σ_22
  obtain ⟨σ_25, hi_26, e_27, h⟩ := wp_wrIx h
  refine PZ_iastx (pc' := 52) (σ' := σ_25) (id := 5011) (nn := 10) (pw_dk dc_X12_manLine 31 rfl) rfl me_5011 hi_26 e_27 ?_
  refine PW_aload_n (pc' := 53) (q := 0) (pw_dk dc_X12_manLine 32 rfl) rfl rfl rfl ?_
  refine PW_getR (pc' := 56) (id := 5000) (ci := 12) (nn := 0) (C0 := RX12) (T := TX12) (N := 62) (j := 11) (r := 5012) (pw_dk dc_X12_manLine 33 rfl) rfl me_5000 rfl pi_12 (by decide) fk_12_11 tw_1408 (rfl) (by decide) ?_
  refine PW_iload_n (pc' := 57) (q := 1) (pw_dk dc_X12_manLine 34 rfl) rfl rfl rfl ?_
  refine PW_aload_n (pc' := 58) (q := 0) (pw_dk dc_X12_manLine 35 rfl) rfl rfl rfl ?_
  refine PW_bipush (pc' := 60) (v := 12) (pw_dk dc_X12_manLine 36 rfl) rfl (by decide) ?_
  refine PW_bipush (pc' := 62) (v := 13) (pw_dk dc_X12_manLine 37 rfl) rfl (by decide) ?_
  refine PZ_callVi (pc' := 65) (y := yX12_oneOf) (M' := mX12_oneOf) (d' := 6) (As := [.int 12, .int 13]) (st := [.int x1, .ref 5012]) (b := 5000) (ci := 12) (nn := 0) me_5000 rfl tw_1663 tw_61 (pw_dk dc_X12_manLine 38 rfl) rfl Y_X12_oneOf tw_1661 rfl (by decide) (Nat.le_of_ble_eq_true rfl) (t_X12_oneOf 12 13 σ_25 _ ?_)
  obtain ⟨⟨v_30, σ_29⟩, e_31, h⟩ := wp_bind2 h
  refine ⟨(v_30, σ_29), e_31, _, rfl, fun hn_28 => ?_⟩
  show PZ alM mX12_manLine (7) Q 65 [(0, .ref 5000), (1, .int x1)] [.int v_30, .int x1, .ref 5012] σ_29
  obtain ⟨σ_32, hi_33, e_34, h⟩ := wp_wrIx h
  refine PZ_iastx (pc' := 66) (σ' := σ_32) (id := 5012) (nn := 10) (pw_dk dc_X12_manLine 39 rfl) rfl me_5012 hi_33 e_34 ?_
  refine PW_aload_n (pc' := 67) (q := 0) (pw_dk dc_X12_manLine 40 rfl) rfl rfl rfl ?_
  refine PW_getR (pc' := 70) (id := 5000) (ci := 12) (nn := 0) (C0 := RX12) (T := TX12) (N := 62) (j := 12) (r := 5013) (pw_dk dc_X12_manLine 41 rfl) rfl me_5000 rfl pi_12 (by decide) fk_12_12 tw_1409 (rfl) (by decide) ?_
  refine PW_iload_n (pc' := 71) (q := 1) (pw_dk dc_X12_manLine 42 rfl) rfl rfl rfl ?_
  refine PW_aload_n (pc' := 72) (q := 0) (pw_dk dc_X12_manLine 43 rfl) rfl rfl rfl ?_
  refine PW_iconst (pc' := 73) (v := 0) (pw_dk dc_X12_manLine 44 rfl) rfl (by decide) ?_
  refine PW_bipush (pc' := 75) (v := 99) (pw_dk dc_X12_manLine 45 rfl) rfl (by decide) ?_
  refine PZ_callVi (pc' := 78) (y := yX12_numeral) (M' := mX12_numeral) (d' := 6) (As := [.int 0, .int 99]) (st := [.int x1, .ref 5013]) (b := 5000) (ci := 12) (nn := 0) me_5000 rfl tw_1648 tw_58 (pw_dk dc_X12_manLine 46 rfl) rfl Y_X12_numeral tw_1646 rfl (by decide) (Nat.le_of_ble_eq_true rfl) (t_X12_numeral 0 99 σ_32 _ ?_)
  obtain ⟨⟨v_37, σ_36⟩, e_38, h⟩ := wp_bind2 h
  refine ⟨(v_37, σ_36), e_38, _, rfl, fun hn_35 => ?_⟩
  show PZ alM mX12_manLine (7) Q 78 [(0, .ref 5000), (1, .int x1)] [.int v_37, .int x1, .ref 5013] σ_36
  obtain ⟨σ_39, hi_40, e_41, h⟩ := wp_wrIx h
  refine PZ_iastx (pc' := 79) (σ' := σ_39) (id := 5013) (nn := 10) (pw_dk dc_X12_manLine 47 rfl) rfl me_5013 hi_40 e_41 ?_
  refine PW_aload_n (pc' := 80) (q := 0) (pw_dk dc_X12_manLine 48 rfl) rfl rfl rfl ?_
  refine PW_iconst (pc' := 81) (v := 2) (pw_dk dc_X12_manLine 49 rfl) rfl (by decide) ?_
  refine PW_aload_n (pc' := 82) (q := 0) (pw_dk dc_X12_manLine 50 rfl) rfl rfl rfl ?_
  refine PW_iconst (pc' := 83) (v := 2) (pw_dk dc_X12_manLine 51 rfl) rfl (by decide) ?_
  refine PZ_callVi (pc' := 86) (y := yX12_fresher) (M' := mX12_fresher) (d' := 0) (As := [.int 2]) (st := [.int 2, .ref 5000]) (b := 5000) (ci := 12) (nn := 0) me_5000 rfl tw_1644 tw_57 (pw_dk dc_X12_manLine 52 rfl) rfl Y_X12_fresher tw_1642 rfl (by decide) (Nat.le_of_ble_eq_true rfl) (t_X12_fresher 2 σ_39 _ ?_)
  obtain ⟨v_43, e_44, h⟩ := wp_bind h
  refine ⟨v_43, e_44, _, rfl, fun hn_42 => ?_⟩
  show PZ alM mX12_manLine (7) Q 86 [(0, .ref 5000), (1, .int x1)] [.int v_43, .int 2, .ref 5000] σ_39
  refine PW_iconst (pc' := 87) (v := 1) (pw_dk dc_X12_manLine 53 rfl) rfl (by decide) ?_
  refine PW_iadd (pc' := 88) (pw_dk dc_X12_manLine 54 rfl) rfl ?_
  refine PZ_callVv (pc' := 91) (y := yX12_reads) (M' := mX12_reads) (d' := 0) (As := [.int 2, .int (v_43 + (1 : Int32))]) (st := []) (b := 5000) (ci := 12) (nn := 0) me_5000 rfl tw_1598 tw_48 (pw_dk dc_X12_manLine 55 rfl) rfl Y_X12_reads tw_1596 rfl (by decide) (Nat.le_of_ble_eq_true rfl) (t_X12_reads 2 (v_43 + (1 : Int32)) σ_39 _ ?_)
  obtain ⟨σ_46, e_47, h⟩ := wp_bind h
  refine ⟨σ_46, e_47, rfl, fun hn_45 => ?_⟩
  show PZ alM mX12_manLine (7) Q 91 [(0, .ref 5000), (1, .int x1)] [] σ_46
  have z := wp_some h
  exact PZ_vret (pw_dk dc_X12_manLine 56 rfl) rfl z
def f_X12_line_16   (σ : zS) : Option zS := 
  (f_X12_wrong 1 σ).bind fun σ_2 =>
  some σ_2
theorem b_X12_line_16 {Q : Option Value → zS → Prop}  (σ : zS) (h : wpO (f_X12_line_16 σ) (fun s => Q none s)) : PZ alM mX12_line (209) Q 16 [(0, .ref 5000)] [] σ := by
  unfold f_X12_line_16 at h
  refine PW_aload_n (pc' := 17) (q := 0) (pw_dk dc_X12_line 7 rfl) rfl rfl rfl ?_
  refine PW_iconst (pc' := 18) (v := 1) (pw_dk dc_X12_line 8 rfl) rfl (by decide) ?_
  refine PZ_callVv (pc' := 21) (y := yX12_wrong) (M' := mX12_wrong) (d' := 0) (As := [.int 1]) (st := []) (b := 5000) (ci := 12) (nn := 0) me_5000 rfl tw_1636 tw_55 (pw_dk dc_X12_line 9 rfl) rfl Y_X12_wrong tw_1634 rfl (by decide) (Nat.le_of_ble_eq_true rfl) (t_X12_wrong 1 σ _ ?_)
  obtain ⟨σ_2, e_3, h⟩ := wp_bind h
  refine ⟨σ_2, e_3, rfl, fun hn_1 => ?_⟩
  show PZ alM mX12_line (209) Q 21 [(0, .ref 5000)] [] σ_2
  have z := wp_some h
  exact PZ_vret (pw_dk dc_X12_line 10 rfl) rfl z
def f_X12_line_382   (σ : zS) : Option zS := 
  lt (wI σ 5000 22 ((σ.1 5000 22) + (1 : Int32))) fun σ_1 =>
  some σ_1
theorem b_X12_line_382 {Q : Option Value → zS → Prop}  (σ : zS) (h : wpO (f_X12_line_382 σ) (fun s => Q none s)) : PZ alM mX12_line (209) Q 382 [(0, .ref 5000)] [] σ := by
  unfold f_X12_line_382 at h
  refine PW_aload_n (pc' := 383) (q := 0) (pw_dk dc_X12_line 194 rfl) rfl rfl rfl ?_
  refine PW_dup (pc' := 384) (pw_dk dc_X12_line 195 rfl) rfl rfl ?_
  refine PZ_getI (pc' := 387) (id := 5000) (ci := 12) (nn := 0) (C0 := RX12) (T := TX12) (N := 62) (j := 22) (pw_dk dc_X12_line 196 rfl) rfl me_5000 rfl pi_12 (by decide) fk_12_22 tw_1419 ?_
  refine PW_iconst (pc' := 388) (v := 1) (pw_dk dc_X12_line 197 rfl) rfl (by decide) ?_
  refine PW_iadd (pc' := 389) (pw_dk dc_X12_line 198 rfl) rfl ?_
  obtain ⟨σ_1, e_2, h⟩ := lt_x h
  refine PZ_putX (pc' := 392) (σ' := σ_1) (id := 5000) (ci := 12) (nn := 0) (C0 := RX12) (T := TX12) (N := 62) (j := 22) (ty := tyX12 22) (pw_dk dc_X12_line 199 rfl) rfl me_5000 rfl pi_12 tyX12_ok nmX12 (by decide) fk_12_22 tw_1419 rfl (tyX12_ok 22 (by decide)) (by first | rfl | decide) (by first | rfl | decide) e_2 ?_
  have z := wp_some h
  exact PZ_vret (pw_dk dc_X12_line 200 rfl) rfl z
def f_X12_line_353   (σ : zS) : Option zS := 
  if (σ.1 5000 28) = 0 then
    if (f_X12_isSign 59 σ) = 0 then
      (f_X12_wrong 1 σ).bind fun σ_8 =>
      f_X12_line_382 σ_8
    else
      (f_X12_token σ).bind fun σ_5 =>
      f_X12_line_382 σ_5
  else
    some σ
theorem b_X12_line_353 {Q : Option Value → zS → Prop}  (σ : zS) (h : wpO (f_X12_line_353 σ) (fun s => Q none s)) : PZ alM mX12_line (209) Q 353 [(0, .ref 5000)] [] σ := by
  unfold f_X12_line_353 at h
  refine PW_aload_n (pc' := 354) (q := 0) (pw_dk dc_X12_line 180 rfl) rfl rfl rfl ?_
  refine PZ_getI (pc' := 357) (id := 5000) (ci := 12) (nn := 0) (C0 := RX12) (T := TX12) (N := 62) (j := 28) (pw_dk dc_X12_line 181 rfl) rfl me_5000 rfl pi_12 (by decide) fk_12_28 tw_1425 ?_
  refine PW_if_eq (pc' := 360) (tgt := 361) (pw_dk dc_X12_line 182 rfl) rfl (by decide) (fun c_1 => ?_) (fun c_1 => ?_)
  · rw [if_pos c_1] at h
    refine PW_aload_n (pc' := 362) (q := 0) (pw_dk dc_X12_line 184 rfl) rfl rfl rfl ?_
    refine PW_bipush (pc' := 364) (v := 59) (pw_dk dc_X12_line 185 rfl) rfl (by decide) ?_
    refine PZ_callVi (pc' := 367) (y := yX12_isSign) (M' := mX12_isSign) (d' := 0) (As := [.int 59]) (st := []) (b := 5000) (ci := 12) (nn := 0) me_5000 rfl tw_1723 tw_76 (pw_dk dc_X12_line 186 rfl) rfl Y_X12_isSign tw_1721 rfl (by decide) (Nat.le_of_ble_eq_true rfl) (t_X12_isSign 59 σ _ ?_)
    refine ⟨_, rfl, fun hn_2 => ?_⟩
    show PZ alM mX12_line (209) Q 367 [(0, .ref 5000)] [.int (f_X12_isSign 59 σ)] σ
    refine PW_if_ne (pc' := 370) (tgt := 378) (pw_dk dc_X12_line 187 rfl) rfl (by decide) (fun c_3 => ?_) (fun c_3 => ?_)
    · rw [if_neg c_3] at h
      refine PW_aload_n (pc' := 379) (q := 0) (pw_dk dc_X12_line 192 rfl) rfl rfl rfl ?_
      refine PZ_callVv (pc' := 382) (y := yX12_token) (M' := mX12_token) (d' := 5) (As := []) (st := []) (b := 5000) (ci := 12) (nn := 0) me_5000 rfl tw_1602 tw_49 (pw_dk dc_X12_line 193 rfl) rfl Y_X12_token tw_1600 rfl (by decide) (Nat.le_of_ble_eq_true rfl) (t_X12_token σ _ ?_)
      obtain ⟨σ_5, e_6, h⟩ := wp_bind h
      refine ⟨σ_5, e_6, rfl, fun hn_4 => ?_⟩
      show PZ alM mX12_line (209) Q 382 [(0, .ref 5000)] [] σ_5
      exact b_X12_line_382 σ_5 h
    · rw [if_pos c_3] at h
      refine PW_aload_n (pc' := 371) (q := 0) (pw_dk dc_X12_line 188 rfl) rfl rfl rfl ?_
      refine PW_iconst (pc' := 372) (v := 1) (pw_dk dc_X12_line 189 rfl) rfl (by decide) ?_
      refine PZ_callVv (pc' := 375) (y := yX12_wrong) (M' := mX12_wrong) (d' := 0) (As := [.int 1]) (st := []) (b := 5000) (ci := 12) (nn := 0) me_5000 rfl tw_1636 tw_55 (pw_dk dc_X12_line 190 rfl) rfl Y_X12_wrong tw_1634 rfl (by decide) (Nat.le_of_ble_eq_true rfl) (t_X12_wrong 1 σ _ ?_)
      obtain ⟨σ_8, e_9, h⟩ := wp_bind h
      refine ⟨σ_8, e_9, rfl, fun hn_7 => ?_⟩
      show PZ alM mX12_line (209) Q 375 [(0, .ref 5000)] [] σ_8
      refine PW_goto (tgt := 382) (pw_dk dc_X12_line 191 rfl) (by decide) ?_
      exact b_X12_line_382 σ_8 h
  · rw [if_neg c_1] at h
    have z := wp_some h
    exact PZ_vret (pw_dk dc_X12_line 183 rfl) rfl z
def f_X12_line_108  (x1 : Int32) (σ : zS) : Option zS := 
  if (σ.1 5000 28) = 0 then
    lt (wI σ 5000 21 ((σ.1 5000 21) ||| ((1 : Int32) <<< (x1 &&& 31)))) fun σ_2 =>
    (f_X12_token σ_2).bind fun σ_5 =>
    if x1 = 0 then
      b2 (f_X12_numeral 2 12 σ_5) fun v_10 σ_9 =>
      (f_X12_reads 0 v_10 σ_9).bind fun σ_13 =>
      f_X12_line_353 σ_13
    else if x1 = 1 then
      (f_X12_fresher 1 σ_5).bind fun v_17 =>
      lt (α := Int32) ((5 : Int32) + v_17) fun x3_19 =>
      (f_X12_fresher 1 σ_5).bind fun v_21 =>
      b2 (f_X12_fresh 5005 10 5 v_21 σ_5) fun v_25 σ_24 =>
      (wrI σ_24 5005 10 x3_19 v_25).bind fun σ_27 =>
      (f_X12_fresher 0 σ_27).bind fun v_31 =>
      b2 (f_X12_numeral 0 (v_31 - (1 : Int32)) σ_27) fun v_35 σ_34 =>
      (wrI σ_34 5006 10 x3_19 v_35).bind fun σ_37 =>
      (rdI σ_37 5006 10 x3_19).bind fun v_40 =>
      (f_X12_fresher 0 σ_37).bind fun v_44 =>
      b2 (f_X12_numeral v_40 (v_44 - (1 : Int32)) σ_37) fun v_48 σ_47 =>
      (wrI σ_47 5007 10 x3_19 v_48).bind fun σ_50 =>
      (wrI σ_50 5008 10 x3_19 0).bind fun σ_53 =>
      (f_X12_fresher 1 σ_53).bind fun v_57 =>
      (f_X12_reads 1 (v_57 + (1 : Int32)) σ_53).bind fun σ_60 =>
      f_X12_line_353 σ_60
    else if x1 = 2 then
      (f_X12_fresher 2 σ_5).bind fun v_64 =>
      (f_X12_manLine ((5 : Int32) + v_64) σ_5).bind fun σ_67 =>
      f_X12_line_353 σ_67
    else if x1 = 3 then
      (f_X12_fresher 3 σ_5).bind fun v_71 =>
      (f_X12_deedLine ((12 : Int32) + v_71) σ_5).bind fun σ_74 =>
      f_X12_line_353 σ_74
    else if x1 = 4 then
      (f_X12_barLine σ_5).bind fun σ_78 =>
      f_X12_line_353 σ_78
    else if x1 = 5 then
      b2 (f_X12_numeral 0 99 σ_5) fun v_83 σ_82 =>
      (f_X12_reads 5 v_83 σ_82).bind fun σ_86 =>
      f_X12_line_353 σ_86
    else if x1 = 6 then
      b2 (f_X12_numeral 0 99999 σ_5) fun v_91 σ_90 =>
      (f_X12_reads 6 v_91 σ_90).bind fun σ_94 =>
      f_X12_line_353 σ_94
    else
      (f_X12_lawLine σ_5).bind fun σ_97 =>
      f_X12_line_353 σ_97
  else
    some σ
theorem b_X12_line_108 {Q : Option Value → zS → Prop} (x1 : Int32) (σ : zS) (h : wpO (f_X12_line_108 x1 σ) (fun s => Q none s)) : PZ alM mX12_line (209) Q 108 [(0, .ref 5000), (1, .int x1)] [] σ := by
  unfold f_X12_line_108 at h
  refine PW_aload_n (pc' := 109) (q := 0) (pw_dk dc_X12_line 60 rfl) rfl rfl rfl ?_
  refine PZ_getI (pc' := 112) (id := 5000) (ci := 12) (nn := 0) (C0 := RX12) (T := TX12) (N := 62) (j := 28) (pw_dk dc_X12_line 61 rfl) rfl me_5000 rfl pi_12 (by decide) fk_12_28 tw_1425 ?_
  refine PW_if_eq (pc' := 115) (tgt := 116) (pw_dk dc_X12_line 62 rfl) rfl (by decide) (fun c_1 => ?_) (fun c_1 => ?_)
  · rw [if_pos c_1] at h
    refine PW_aload_n (pc' := 117) (q := 0) (pw_dk dc_X12_line 64 rfl) rfl rfl rfl ?_
    refine PW_dup (pc' := 118) (pw_dk dc_X12_line 65 rfl) rfl rfl ?_
    refine PZ_getI (pc' := 121) (id := 5000) (ci := 12) (nn := 0) (C0 := RX12) (T := TX12) (N := 62) (j := 21) (pw_dk dc_X12_line 66 rfl) rfl me_5000 rfl pi_12 (by decide) fk_12_21 tw_1418 ?_
    refine PW_iconst (pc' := 122) (v := 1) (pw_dk dc_X12_line 67 rfl) rfl (by decide) ?_
    refine PW_iload_n (pc' := 123) (q := 1) (pw_dk dc_X12_line 68 rfl) rfl rfl rfl ?_
    refine PW_ishl (pc' := 124) (pw_dk dc_X12_line 69 rfl) rfl ?_
    refine PW_ior (pc' := 125) (pw_dk dc_X12_line 70 rfl) rfl ?_
    obtain ⟨σ_2, e_3, h⟩ := lt_x h
    refine PZ_putX (pc' := 128) (σ' := σ_2) (id := 5000) (ci := 12) (nn := 0) (C0 := RX12) (T := TX12) (N := 62) (j := 21) (ty := tyX12 21) (pw_dk dc_X12_line 71 rfl) rfl me_5000 rfl pi_12 tyX12_ok nmX12 (by decide) fk_12_21 tw_1418 rfl (tyX12_ok 21 (by decide)) (by first | rfl | decide) (by first | rfl | decide) e_3 ?_
    refine PW_aload_n (pc' := 129) (q := 0) (pw_dk dc_X12_line 72 rfl) rfl rfl rfl ?_
    refine PZ_callVv (pc' := 132) (y := yX12_token) (M' := mX12_token) (d' := 5) (As := []) (st := []) (b := 5000) (ci := 12) (nn := 0) me_5000 rfl tw_1602 tw_49 (pw_dk dc_X12_line 73 rfl) rfl Y_X12_token tw_1600 rfl (by decide) (Nat.le_of_ble_eq_true rfl) (t_X12_token σ_2 _ ?_)
    obtain ⟨σ_5, e_6, h⟩ := wp_bind h
    refine ⟨σ_5, e_6, rfl, fun hn_4 => ?_⟩
    show PZ alM mX12_line (209) Q 132 [(0, .ref 5000), (1, .int x1)] [] σ_5
    refine PW_iload_n (pc' := 133) (q := 1) (pw_dk dc_X12_line 74 rfl) rfl rfl rfl ?_
    by_cases c_7 : x1 = 0
    · rw [if_pos c_7] at h
      refine PW_tin (tgt := 176) (pw_dk dc_X12_line 75 rfl) (by rw [c_7]; decide) (by rw [c_7]; decide) (by rw [c_7] <;> rfl) (by decide) ?_
      refine PW_aload_n (pc' := 177) (q := 0) (pw_dk dc_X12_line 76 rfl) rfl rfl rfl ?_
      refine PW_iconst (pc' := 178) (v := 0) (pw_dk dc_X12_line 77 rfl) rfl (by decide) ?_
      refine PW_aload_n (pc' := 179) (q := 0) (pw_dk dc_X12_line 78 rfl) rfl rfl rfl ?_
      refine PW_iconst (pc' := 180) (v := 2) (pw_dk dc_X12_line 79 rfl) rfl (by decide) ?_
      refine PW_bipush (pc' := 182) (v := 12) (pw_dk dc_X12_line 80 rfl) rfl (by decide) ?_
      refine PZ_callVi (pc' := 185) (y := yX12_numeral) (M' := mX12_numeral) (d' := 6) (As := [.int 2, .int 12]) (st := [.int 0, .ref 5000]) (b := 5000) (ci := 12) (nn := 0) me_5000 rfl tw_1648 tw_58 (pw_dk dc_X12_line 81 rfl) rfl Y_X12_numeral tw_1646 rfl (by decide) (Nat.le_of_ble_eq_true rfl) (t_X12_numeral 2 12 σ_5 _ ?_)
      obtain ⟨⟨v_10, σ_9⟩, e_11, h⟩ := wp_bind2 h
      refine ⟨(v_10, σ_9), e_11, _, rfl, fun hn_8 => ?_⟩
      show PZ alM mX12_line (209) Q 185 [(0, .ref 5000), (1, .int x1)] [.int v_10, .int 0, .ref 5000] σ_9
      refine PZ_callVv (pc' := 188) (y := yX12_reads) (M' := mX12_reads) (d' := 0) (As := [.int 0, .int v_10]) (st := []) (b := 5000) (ci := 12) (nn := 0) me_5000 rfl tw_1598 tw_48 (pw_dk dc_X12_line 82 rfl) rfl Y_X12_reads tw_1596 rfl (by decide) (Nat.le_of_ble_eq_true rfl) (t_X12_reads 0 v_10 σ_9 _ ?_)
      obtain ⟨σ_13, e_14, h⟩ := wp_bind h
      refine ⟨σ_13, e_14, rfl, fun hn_12 => ?_⟩
      show PZ alM mX12_line (209) Q 188 [(0, .ref 5000), (1, .int x1)] [] σ_13
      refine PW_goto (tgt := 353) (pw_dk dc_X12_line 83 rfl) (by decide) ?_
      refine PW_sub (lv' := [(0, .ref 5000)]) [0] rfl ?_
      exact b_X12_line_353 σ_13 h
    · rw [if_neg c_7] at h
      by_cases c_15 : x1 = 1
      · rw [if_pos c_15] at h
        refine PW_tin (tgt := 191) (pw_dk dc_X12_line 75 rfl) (by rw [c_15]; decide) (by rw [c_15]; decide) (by rw [c_15] <;> rfl) (by decide) ?_
        refine PW_iconst (pc' := 192) (v := 5) (pw_dk dc_X12_line 84 rfl) rfl (by decide) ?_
        refine PW_aload_n (pc' := 193) (q := 0) (pw_dk dc_X12_line 85 rfl) rfl rfl rfl ?_
        refine PW_iconst (pc' := 194) (v := 1) (pw_dk dc_X12_line 86 rfl) rfl (by decide) ?_
        refine PZ_callVi (pc' := 197) (y := yX12_fresher) (M' := mX12_fresher) (d' := 0) (As := [.int 1]) (st := [.int 5]) (b := 5000) (ci := 12) (nn := 0) me_5000 rfl tw_1644 tw_57 (pw_dk dc_X12_line 87 rfl) rfl Y_X12_fresher tw_1642 rfl (by decide) (Nat.le_of_ble_eq_true rfl) (t_X12_fresher 1 σ_5 _ ?_)
        obtain ⟨v_17, e_18, h⟩ := wp_bind h
        refine ⟨v_17, e_18, _, rfl, fun hn_16 => ?_⟩
        show PZ alM mX12_line (209) Q 197 [(0, .ref 5000), (1, .int x1)] [.int v_17, .int 5] σ_5
        refine PW_iadd (pc' := 198) (pw_dk dc_X12_line 88 rfl) rfl ?_
        refine PW_topi (fun x3_19 ex3_19 => ?_)
        replace h := lt_w h ex3_19
        refine PW_istore_n (pc' := 199) (lv' := [(3, .int x3_19), (0, .ref 5000), (1, .int x1)]) (pw_dk dc_X12_line 89 rfl) rfl rfl (by decide) rfl ?_
        refine PW_aload_n (pc' := 200) (q := 1) (pw_dk dc_X12_line 90 rfl) rfl rfl rfl ?_
        refine PW_getR (pc' := 203) (id := 5000) (ci := 12) (nn := 0) (C0 := RX12) (T := TX12) (N := 62) (j := 4) (r := 5005) (pw_dk dc_X12_line 91 rfl) rfl me_5000 rfl pi_12 (by decide) fk_12_4 tw_1401 (rfl) (by decide) ?_
        refine PW_iload_n (pc' := 204) (q := 0) (pw_dk dc_X12_line 92 rfl) rfl rfl rfl ?_
        refine PW_aload_n (pc' := 205) (q := 1) (pw_dk dc_X12_line 93 rfl) rfl rfl rfl ?_
        refine PW_aload_n (pc' := 206) (q := 1) (pw_dk dc_X12_line 94 rfl) rfl rfl rfl ?_
        refine PW_getR (pc' := 209) (id := 5000) (ci := 12) (nn := 0) (C0 := RX12) (T := TX12) (N := 62) (j := 4) (r := 5005) (pw_dk dc_X12_line 95 rfl) rfl me_5000 rfl pi_12 (by decide) fk_12_4 tw_1401 (rfl) (by decide) ?_
        refine PW_iconst (pc' := 210) (v := 5) (pw_dk dc_X12_line 96 rfl) rfl (by decide) ?_
        refine PW_aload_n (pc' := 211) (q := 1) (pw_dk dc_X12_line 97 rfl) rfl rfl rfl ?_
        refine PW_iconst (pc' := 212) (v := 1) (pw_dk dc_X12_line 98 rfl) rfl (by decide) ?_
        refine PZ_callVi (pc' := 215) (y := yX12_fresher) (M' := mX12_fresher) (d' := 0) (As := [.int 1]) (st := [.int 5, .ref 5005, .ref 5000, .int x3_19, .ref 5005]) (b := 5000) (ci := 12) (nn := 0) me_5000 rfl tw_1644 tw_57 (pw_dk dc_X12_line 99 rfl) rfl Y_X12_fresher tw_1642 rfl (by decide) (Nat.le_of_ble_eq_true rfl) (t_X12_fresher 1 σ_5 _ ?_)
        obtain ⟨v_21, e_22, h⟩ := wp_bind h
        refine ⟨v_21, e_22, _, rfl, fun hn_20 => ?_⟩
        show PZ alM mX12_line (209) Q 215 [(3, .int x3_19), (0, .ref 5000), (1, .int x1)] [.int v_21, .int 5, .ref 5005, .ref 5000, .int x3_19, .ref 5005] σ_5
        refine PZ_callVi (pc' := 218) (y := yX12_fresh) (M' := mX12_fresh) (d' := 6) (As := [.ref 5005, .int 5, .int v_21]) (st := [.int x3_19, .ref 5005]) (b := 5000) (ci := 12) (nn := 0) me_5000 rfl tw_1652 tw_59 (pw_dk dc_X12_line 100 rfl) rfl Y_X12_fresh tw_1650 rfl (by decide) (Nat.le_of_ble_eq_true rfl) (t_X12_fresh 5005 10 5 v_21 me_5005 σ_5 _ ?_)
        obtain ⟨⟨v_25, σ_24⟩, e_26, h⟩ := wp_bind2 h
        refine ⟨(v_25, σ_24), e_26, _, rfl, fun hn_23 => ?_⟩
        show PZ alM mX12_line (209) Q 218 [(3, .int x3_19), (0, .ref 5000), (1, .int x1)] [.int v_25, .int x3_19, .ref 5005] σ_24
        obtain ⟨σ_27, hi_28, e_29, h⟩ := wp_wrIx h
        refine PZ_iastx (pc' := 219) (σ' := σ_27) (id := 5005) (nn := 10) (pw_dk dc_X12_line 101 rfl) rfl me_5005 hi_28 e_29 ?_
        refine PW_aload_n (pc' := 220) (q := 1) (pw_dk dc_X12_line 102 rfl) rfl rfl rfl ?_
        refine PW_getR (pc' := 223) (id := 5000) (ci := 12) (nn := 0) (C0 := RX12) (T := TX12) (N := 62) (j := 5) (r := 5006) (pw_dk dc_X12_line 103 rfl) rfl me_5000 rfl pi_12 (by decide) fk_12_5 tw_1402 (rfl) (by decide) ?_
        refine PW_iload_n (pc' := 224) (q := 0) (pw_dk dc_X12_line 104 rfl) rfl rfl rfl ?_
        refine PW_aload_n (pc' := 225) (q := 1) (pw_dk dc_X12_line 105 rfl) rfl rfl rfl ?_
        refine PW_iconst (pc' := 226) (v := 0) (pw_dk dc_X12_line 106 rfl) rfl (by decide) ?_
        refine PW_aload_n (pc' := 227) (q := 1) (pw_dk dc_X12_line 107 rfl) rfl rfl rfl ?_
        refine PW_iconst (pc' := 228) (v := 0) (pw_dk dc_X12_line 108 rfl) rfl (by decide) ?_
        refine PZ_callVi (pc' := 231) (y := yX12_fresher) (M' := mX12_fresher) (d' := 0) (As := [.int 0]) (st := [.int 0, .ref 5000, .int x3_19, .ref 5006]) (b := 5000) (ci := 12) (nn := 0) me_5000 rfl tw_1644 tw_57 (pw_dk dc_X12_line 109 rfl) rfl Y_X12_fresher tw_1642 rfl (by decide) (Nat.le_of_ble_eq_true rfl) (t_X12_fresher 0 σ_27 _ ?_)
        obtain ⟨v_31, e_32, h⟩ := wp_bind h
        refine ⟨v_31, e_32, _, rfl, fun hn_30 => ?_⟩
        show PZ alM mX12_line (209) Q 231 [(3, .int x3_19), (0, .ref 5000), (1, .int x1)] [.int v_31, .int 0, .ref 5000, .int x3_19, .ref 5006] σ_27
        refine PW_iconst (pc' := 232) (v := 1) (pw_dk dc_X12_line 110 rfl) rfl (by decide) ?_
        refine PW_isub (pc' := 233) (pw_dk dc_X12_line 111 rfl) rfl ?_
        refine PZ_callVi (pc' := 236) (y := yX12_numeral) (M' := mX12_numeral) (d' := 6) (As := [.int 0, .int (v_31 - (1 : Int32))]) (st := [.int x3_19, .ref 5006]) (b := 5000) (ci := 12) (nn := 0) me_5000 rfl tw_1648 tw_58 (pw_dk dc_X12_line 112 rfl) rfl Y_X12_numeral tw_1646 rfl (by decide) (Nat.le_of_ble_eq_true rfl) (t_X12_numeral 0 (v_31 - (1 : Int32)) σ_27 _ ?_)
        obtain ⟨⟨v_35, σ_34⟩, e_36, h⟩ := wp_bind2 h
        refine ⟨(v_35, σ_34), e_36, _, rfl, fun hn_33 => ?_⟩
        show PZ alM mX12_line (209) Q 236 [(3, .int x3_19), (0, .ref 5000), (1, .int x1)] [.int v_35, .int x3_19, .ref 5006] σ_34
        obtain ⟨σ_37, hi_38, e_39, h⟩ := wp_wrIx h
        refine PZ_iastx (pc' := 237) (σ' := σ_37) (id := 5006) (nn := 10) (pw_dk dc_X12_line 113 rfl) rfl me_5006 hi_38 e_39 ?_
        refine PW_aload_n (pc' := 238) (q := 1) (pw_dk dc_X12_line 114 rfl) rfl rfl rfl ?_
        refine PW_getR (pc' := 241) (id := 5000) (ci := 12) (nn := 0) (C0 := RX12) (T := TX12) (N := 62) (j := 6) (r := 5007) (pw_dk dc_X12_line 115 rfl) rfl me_5000 rfl pi_12 (by decide) fk_12_6 tw_1403 (rfl) (by decide) ?_
        refine PW_iload_n (pc' := 242) (q := 0) (pw_dk dc_X12_line 116 rfl) rfl rfl rfl ?_
        refine PW_aload_n (pc' := 243) (q := 1) (pw_dk dc_X12_line 117 rfl) rfl rfl rfl ?_
        refine PW_aload_n (pc' := 244) (q := 1) (pw_dk dc_X12_line 118 rfl) rfl rfl rfl ?_
        refine PW_getR (pc' := 247) (id := 5000) (ci := 12) (nn := 0) (C0 := RX12) (T := TX12) (N := 62) (j := 5) (r := 5006) (pw_dk dc_X12_line 119 rfl) rfl me_5000 rfl pi_12 (by decide) fk_12_5 tw_1402 (rfl) (by decide) ?_
        refine PW_iload_n (pc' := 248) (q := 0) (pw_dk dc_X12_line 120 rfl) rfl rfl rfl ?_
        obtain ⟨v_40, hi_41, e_42, h⟩ := wp_rdIx h
        refine PZ_ialdx (pc' := 249) (v := v_40) (id := 5006) (nn := 10) (pw_dk dc_X12_line 121 rfl) rfl me_5006 hi_41 e_42 ?_
        refine PW_aload_n (pc' := 250) (q := 1) (pw_dk dc_X12_line 122 rfl) rfl rfl rfl ?_
        refine PW_iconst (pc' := 251) (v := 0) (pw_dk dc_X12_line 123 rfl) rfl (by decide) ?_
        refine PZ_callVi (pc' := 254) (y := yX12_fresher) (M' := mX12_fresher) (d' := 0) (As := [.int 0]) (st := [.int v_40, .ref 5000, .int x3_19, .ref 5007]) (b := 5000) (ci := 12) (nn := 0) me_5000 rfl tw_1644 tw_57 (pw_dk dc_X12_line 124 rfl) rfl Y_X12_fresher tw_1642 rfl (by decide) (Nat.le_of_ble_eq_true rfl) (t_X12_fresher 0 σ_37 _ ?_)
        obtain ⟨v_44, e_45, h⟩ := wp_bind h
        refine ⟨v_44, e_45, _, rfl, fun hn_43 => ?_⟩
        show PZ alM mX12_line (209) Q 254 [(3, .int x3_19), (0, .ref 5000), (1, .int x1)] [.int v_44, .int v_40, .ref 5000, .int x3_19, .ref 5007] σ_37
        refine PW_iconst (pc' := 255) (v := 1) (pw_dk dc_X12_line 125 rfl) rfl (by decide) ?_
        refine PW_isub (pc' := 256) (pw_dk dc_X12_line 126 rfl) rfl ?_
        refine PZ_callVi (pc' := 259) (y := yX12_numeral) (M' := mX12_numeral) (d' := 6) (As := [.int v_40, .int (v_44 - (1 : Int32))]) (st := [.int x3_19, .ref 5007]) (b := 5000) (ci := 12) (nn := 0) me_5000 rfl tw_1648 tw_58 (pw_dk dc_X12_line 127 rfl) rfl Y_X12_numeral tw_1646 rfl (by decide) (Nat.le_of_ble_eq_true rfl) (t_X12_numeral v_40 (v_44 - (1 : Int32)) σ_37 _ ?_)
        obtain ⟨⟨v_48, σ_47⟩, e_49, h⟩ := wp_bind2 h
        refine ⟨(v_48, σ_47), e_49, _, rfl, fun hn_46 => ?_⟩
        show PZ alM mX12_line (209) Q 259 [(3, .int x3_19), (0, .ref 5000), (1, .int x1)] [.int v_48, .int x3_19, .ref 5007] σ_47
        obtain ⟨σ_50, hi_51, e_52, h⟩ := wp_wrIx h
        refine PZ_iastx (pc' := 260) (σ' := σ_50) (id := 5007) (nn := 10) (pw_dk dc_X12_line 128 rfl) rfl me_5007 hi_51 e_52 ?_
        refine PW_aload_n (pc' := 261) (q := 1) (pw_dk dc_X12_line 129 rfl) rfl rfl rfl ?_
        refine PW_getR (pc' := 264) (id := 5000) (ci := 12) (nn := 0) (C0 := RX12) (T := TX12) (N := 62) (j := 7) (r := 5008) (pw_dk dc_X12_line 130 rfl) rfl me_5000 rfl pi_12 (by decide) fk_12_7 tw_1404 (rfl) (by decide) ?_
        refine PW_iload_n (pc' := 265) (q := 0) (pw_dk dc_X12_line 131 rfl) rfl rfl rfl ?_
        refine PW_iconst (pc' := 266) (v := 0) (pw_dk dc_X12_line 132 rfl) rfl (by decide) ?_
        obtain ⟨σ_53, hi_54, e_55, h⟩ := wp_wrIx h
        refine PZ_iastx (pc' := 267) (σ' := σ_53) (id := 5008) (nn := 10) (pw_dk dc_X12_line 133 rfl) rfl me_5008 hi_54 e_55 ?_
        refine PW_aload_n (pc' := 268) (q := 1) (pw_dk dc_X12_line 134 rfl) rfl rfl rfl ?_
        refine PW_iconst (pc' := 269) (v := 1) (pw_dk dc_X12_line 135 rfl) rfl (by decide) ?_
        refine PW_aload_n (pc' := 270) (q := 1) (pw_dk dc_X12_line 136 rfl) rfl rfl rfl ?_
        refine PW_iconst (pc' := 271) (v := 1) (pw_dk dc_X12_line 137 rfl) rfl (by decide) ?_
        refine PZ_callVi (pc' := 274) (y := yX12_fresher) (M' := mX12_fresher) (d' := 0) (As := [.int 1]) (st := [.int 1, .ref 5000]) (b := 5000) (ci := 12) (nn := 0) me_5000 rfl tw_1644 tw_57 (pw_dk dc_X12_line 138 rfl) rfl Y_X12_fresher tw_1642 rfl (by decide) (Nat.le_of_ble_eq_true rfl) (t_X12_fresher 1 σ_53 _ ?_)
        obtain ⟨v_57, e_58, h⟩ := wp_bind h
        refine ⟨v_57, e_58, _, rfl, fun hn_56 => ?_⟩
        show PZ alM mX12_line (209) Q 274 [(3, .int x3_19), (0, .ref 5000), (1, .int x1)] [.int v_57, .int 1, .ref 5000] σ_53
        refine PW_iconst (pc' := 275) (v := 1) (pw_dk dc_X12_line 139 rfl) rfl (by decide) ?_
        refine PW_iadd (pc' := 276) (pw_dk dc_X12_line 140 rfl) rfl ?_
        refine PZ_callVv (pc' := 279) (y := yX12_reads) (M' := mX12_reads) (d' := 0) (As := [.int 1, .int (v_57 + (1 : Int32))]) (st := []) (b := 5000) (ci := 12) (nn := 0) me_5000 rfl tw_1598 tw_48 (pw_dk dc_X12_line 141 rfl) rfl Y_X12_reads tw_1596 rfl (by decide) (Nat.le_of_ble_eq_true rfl) (t_X12_reads 1 (v_57 + (1 : Int32)) σ_53 _ ?_)
        obtain ⟨σ_60, e_61, h⟩ := wp_bind h
        refine ⟨σ_60, e_61, rfl, fun hn_59 => ?_⟩
        show PZ alM mX12_line (209) Q 279 [(3, .int x3_19), (0, .ref 5000), (1, .int x1)] [] σ_60
        refine PW_goto (tgt := 353) (pw_dk dc_X12_line 142 rfl) (by decide) ?_
        refine PW_sub (lv' := [(0, .ref 5000)]) [1] rfl ?_
        exact b_X12_line_353 σ_60 h
      · rw [if_neg c_15] at h
        by_cases c_62 : x1 = 2
        · rw [if_pos c_62] at h
          refine PW_tin (tgt := 282) (pw_dk dc_X12_line 75 rfl) (by rw [c_62]; decide) (by rw [c_62]; decide) (by rw [c_62] <;> rfl) (by decide) ?_
          refine PW_aload_n (pc' := 283) (q := 0) (pw_dk dc_X12_line 143 rfl) rfl rfl rfl ?_
          refine PW_iconst (pc' := 284) (v := 5) (pw_dk dc_X12_line 144 rfl) rfl (by decide) ?_
          refine PW_aload_n (pc' := 285) (q := 0) (pw_dk dc_X12_line 145 rfl) rfl rfl rfl ?_
          refine PW_iconst (pc' := 286) (v := 2) (pw_dk dc_X12_line 146 rfl) rfl (by decide) ?_
          refine PZ_callVi (pc' := 289) (y := yX12_fresher) (M' := mX12_fresher) (d' := 0) (As := [.int 2]) (st := [.int 5, .ref 5000]) (b := 5000) (ci := 12) (nn := 0) me_5000 rfl tw_1644 tw_57 (pw_dk dc_X12_line 147 rfl) rfl Y_X12_fresher tw_1642 rfl (by decide) (Nat.le_of_ble_eq_true rfl) (t_X12_fresher 2 σ_5 _ ?_)
          obtain ⟨v_64, e_65, h⟩ := wp_bind h
          refine ⟨v_64, e_65, _, rfl, fun hn_63 => ?_⟩
          show PZ alM mX12_line (209) Q 289 [(0, .ref 5000), (1, .int x1)] [.int v_64, .int 5, .ref 5000] σ_5
          refine PW_iadd (pc' := 290) (pw_dk dc_X12_line 148 rfl) rfl ?_
          refine PZ_callVv (pc' := 293) (y := yX12_manLine) (M' := mX12_manLine) (d' := 7) (As := [.int ((5 : Int32) + v_64)]) (st := []) (b := 5000) (ci := 12) (nn := 0) me_5000 rfl tw_1659 tw_60 (pw_dk dc_X12_line 149 rfl) rfl Y_X12_manLine tw_1657 rfl (by decide) (Nat.le_of_ble_eq_true rfl) (t_X12_manLine ((5 : Int32) + v_64) σ_5 _ ?_)
          obtain ⟨σ_67, e_68, h⟩ := wp_bind h
          refine ⟨σ_67, e_68, rfl, fun hn_66 => ?_⟩
          show PZ alM mX12_line (209) Q 293 [(0, .ref 5000), (1, .int x1)] [] σ_67
          refine PW_goto (tgt := 353) (pw_dk dc_X12_line 150 rfl) (by decide) ?_
          refine PW_sub (lv' := [(0, .ref 5000)]) [0] rfl ?_
          exact b_X12_line_353 σ_67 h
        · rw [if_neg c_62] at h
          by_cases c_69 : x1 = 3
          · rw [if_pos c_69] at h
            refine PW_tin (tgt := 296) (pw_dk dc_X12_line 75 rfl) (by rw [c_69]; decide) (by rw [c_69]; decide) (by rw [c_69] <;> rfl) (by decide) ?_
            refine PW_aload_n (pc' := 297) (q := 0) (pw_dk dc_X12_line 151 rfl) rfl rfl rfl ?_
            refine PW_bipush (pc' := 299) (v := 12) (pw_dk dc_X12_line 152 rfl) rfl (by decide) ?_
            refine PW_aload_n (pc' := 300) (q := 0) (pw_dk dc_X12_line 153 rfl) rfl rfl rfl ?_
            refine PW_iconst (pc' := 301) (v := 3) (pw_dk dc_X12_line 154 rfl) rfl (by decide) ?_
            refine PZ_callVi (pc' := 304) (y := yX12_fresher) (M' := mX12_fresher) (d' := 0) (As := [.int 3]) (st := [.int 12, .ref 5000]) (b := 5000) (ci := 12) (nn := 0) me_5000 rfl tw_1644 tw_57 (pw_dk dc_X12_line 155 rfl) rfl Y_X12_fresher tw_1642 rfl (by decide) (Nat.le_of_ble_eq_true rfl) (t_X12_fresher 3 σ_5 _ ?_)
            obtain ⟨v_71, e_72, h⟩ := wp_bind h
            refine ⟨v_71, e_72, _, rfl, fun hn_70 => ?_⟩
            show PZ alM mX12_line (209) Q 304 [(0, .ref 5000), (1, .int x1)] [.int v_71, .int 12, .ref 5000] σ_5
            refine PW_iadd (pc' := 305) (pw_dk dc_X12_line 156 rfl) rfl ?_
            refine PZ_callVv (pc' := 308) (y := yX12_deedLine) (M' := mX12_deedLine) (d' := 7) (As := [.int ((12 : Int32) + v_71)]) (st := []) (b := 5000) (ci := 12) (nn := 0) me_5000 rfl tw_1667 tw_62 (pw_dk dc_X12_line 157 rfl) rfl Y_X12_deedLine tw_1665 rfl (by decide) (Nat.le_of_ble_eq_true rfl) (t_X12_deedLine ((12 : Int32) + v_71) σ_5 _ ?_)
            obtain ⟨σ_74, e_75, h⟩ := wp_bind h
            refine ⟨σ_74, e_75, rfl, fun hn_73 => ?_⟩
            show PZ alM mX12_line (209) Q 308 [(0, .ref 5000), (1, .int x1)] [] σ_74
            refine PW_goto (tgt := 353) (pw_dk dc_X12_line 158 rfl) (by decide) ?_
            refine PW_sub (lv' := [(0, .ref 5000)]) [0] rfl ?_
            exact b_X12_line_353 σ_74 h
          · rw [if_neg c_69] at h
            by_cases c_76 : x1 = 4
            · rw [if_pos c_76] at h
              refine PW_tin (tgt := 311) (pw_dk dc_X12_line 75 rfl) (by rw [c_76]; decide) (by rw [c_76]; decide) (by rw [c_76] <;> rfl) (by decide) ?_
              refine PW_aload_n (pc' := 312) (q := 0) (pw_dk dc_X12_line 159 rfl) rfl rfl rfl ?_
              refine PZ_callVv (pc' := 315) (y := yX12_barLine) (M' := mX12_barLine) (d' := 7) (As := []) (st := []) (b := 5000) (ci := 12) (nn := 0) me_5000 rfl tw_1675 tw_64 (pw_dk dc_X12_line 160 rfl) rfl Y_X12_barLine tw_1673 rfl (by decide) (Nat.le_of_ble_eq_true rfl) (t_X12_barLine σ_5 _ ?_)
              obtain ⟨σ_78, e_79, h⟩ := wp_bind h
              refine ⟨σ_78, e_79, rfl, fun hn_77 => ?_⟩
              show PZ alM mX12_line (209) Q 315 [(0, .ref 5000), (1, .int x1)] [] σ_78
              refine PW_goto (tgt := 353) (pw_dk dc_X12_line 161 rfl) (by decide) ?_
              refine PW_sub (lv' := [(0, .ref 5000)]) [0] rfl ?_
              exact b_X12_line_353 σ_78 h
            · rw [if_neg c_76] at h
              by_cases c_80 : x1 = 5
              · rw [if_pos c_80] at h
                refine PW_tin (tgt := 318) (pw_dk dc_X12_line 75 rfl) (by rw [c_80]; decide) (by rw [c_80]; decide) (by rw [c_80] <;> rfl) (by decide) ?_
                refine PW_aload_n (pc' := 319) (q := 0) (pw_dk dc_X12_line 162 rfl) rfl rfl rfl ?_
                refine PW_iconst (pc' := 320) (v := 5) (pw_dk dc_X12_line 163 rfl) rfl (by decide) ?_
                refine PW_aload_n (pc' := 321) (q := 0) (pw_dk dc_X12_line 164 rfl) rfl rfl rfl ?_
                refine PW_iconst (pc' := 322) (v := 0) (pw_dk dc_X12_line 165 rfl) rfl (by decide) ?_
                refine PW_bipush (pc' := 324) (v := 99) (pw_dk dc_X12_line 166 rfl) rfl (by decide) ?_
                refine PZ_callVi (pc' := 327) (y := yX12_numeral) (M' := mX12_numeral) (d' := 6) (As := [.int 0, .int 99]) (st := [.int 5, .ref 5000]) (b := 5000) (ci := 12) (nn := 0) me_5000 rfl tw_1648 tw_58 (pw_dk dc_X12_line 167 rfl) rfl Y_X12_numeral tw_1646 rfl (by decide) (Nat.le_of_ble_eq_true rfl) (t_X12_numeral 0 99 σ_5 _ ?_)
                obtain ⟨⟨v_83, σ_82⟩, e_84, h⟩ := wp_bind2 h
                refine ⟨(v_83, σ_82), e_84, _, rfl, fun hn_81 => ?_⟩
                show PZ alM mX12_line (209) Q 327 [(0, .ref 5000), (1, .int x1)] [.int v_83, .int 5, .ref 5000] σ_82
                refine PZ_callVv (pc' := 330) (y := yX12_reads) (M' := mX12_reads) (d' := 0) (As := [.int 5, .int v_83]) (st := []) (b := 5000) (ci := 12) (nn := 0) me_5000 rfl tw_1598 tw_48 (pw_dk dc_X12_line 168 rfl) rfl Y_X12_reads tw_1596 rfl (by decide) (Nat.le_of_ble_eq_true rfl) (t_X12_reads 5 v_83 σ_82 _ ?_)
                obtain ⟨σ_86, e_87, h⟩ := wp_bind h
                refine ⟨σ_86, e_87, rfl, fun hn_85 => ?_⟩
                show PZ alM mX12_line (209) Q 330 [(0, .ref 5000), (1, .int x1)] [] σ_86
                refine PW_goto (tgt := 353) (pw_dk dc_X12_line 169 rfl) (by decide) ?_
                refine PW_sub (lv' := [(0, .ref 5000)]) [0] rfl ?_
                exact b_X12_line_353 σ_86 h
              · rw [if_neg c_80] at h
                by_cases c_88 : x1 = 6
                · rw [if_pos c_88] at h
                  refine PW_tin (tgt := 333) (pw_dk dc_X12_line 75 rfl) (by rw [c_88]; decide) (by rw [c_88]; decide) (by rw [c_88] <;> rfl) (by decide) ?_
                  refine PW_aload_n (pc' := 334) (q := 0) (pw_dk dc_X12_line 170 rfl) rfl rfl rfl ?_
                  refine PW_bipush (pc' := 336) (v := 6) (pw_dk dc_X12_line 171 rfl) rfl (by decide) ?_
                  refine PW_aload_n (pc' := 337) (q := 0) (pw_dk dc_X12_line 172 rfl) rfl rfl rfl ?_
                  refine PW_iconst (pc' := 338) (v := 0) (pw_dk dc_X12_line 173 rfl) rfl (by decide) ?_
                  refine PW_ldc (pc' := 340) (v := 99999) (pw_dk dc_X12_line 174 rfl) rfl tw_1625 ?_
                  refine PZ_callVi (pc' := 343) (y := yX12_numeral) (M' := mX12_numeral) (d' := 6) (As := [.int 0, .int 99999]) (st := [.int 6, .ref 5000]) (b := 5000) (ci := 12) (nn := 0) me_5000 rfl tw_1648 tw_58 (pw_dk dc_X12_line 175 rfl) rfl Y_X12_numeral tw_1646 rfl (by decide) (Nat.le_of_ble_eq_true rfl) (t_X12_numeral 0 99999 σ_5 _ ?_)
                  obtain ⟨⟨v_91, σ_90⟩, e_92, h⟩ := wp_bind2 h
                  refine ⟨(v_91, σ_90), e_92, _, rfl, fun hn_89 => ?_⟩
                  show PZ alM mX12_line (209) Q 343 [(0, .ref 5000), (1, .int x1)] [.int v_91, .int 6, .ref 5000] σ_90
                  refine PZ_callVv (pc' := 346) (y := yX12_reads) (M' := mX12_reads) (d' := 0) (As := [.int 6, .int v_91]) (st := []) (b := 5000) (ci := 12) (nn := 0) me_5000 rfl tw_1598 tw_48 (pw_dk dc_X12_line 176 rfl) rfl Y_X12_reads tw_1596 rfl (by decide) (Nat.le_of_ble_eq_true rfl) (t_X12_reads 6 v_91 σ_90 _ ?_)
                  obtain ⟨σ_94, e_95, h⟩ := wp_bind h
                  refine ⟨σ_94, e_95, rfl, fun hn_93 => ?_⟩
                  show PZ alM mX12_line (209) Q 346 [(0, .ref 5000), (1, .int x1)] [] σ_94
                  refine PW_goto (tgt := 353) (pw_dk dc_X12_line 177 rfl) (by decide) ?_
                  refine PW_sub (lv' := [(0, .ref 5000)]) [0] rfl ?_
                  exact b_X12_line_353 σ_94 h
                · rw [if_neg c_88] at h
                  have kc_7 := pw_ne c_7 (show (0 : Int32).toInt = 0 by decide)
                  have kc_15 := pw_ne c_15 (show (1 : Int32).toInt = 1 by decide)
                  have kc_62 := pw_ne c_62 (show (2 : Int32).toInt = 2 by decide)
                  have kc_69 := pw_ne c_69 (show (3 : Int32).toInt = 3 by decide)
                  have kc_76 := pw_ne c_76 (show (4 : Int32).toInt = 4 by decide)
                  have kc_80 := pw_ne c_80 (show (5 : Int32).toInt = 5 by decide)
                  have kc_88 := pw_ne c_88 (show (6 : Int32).toInt = 6 by decide)
                  refine PW_tout (tgt := 349) (pw_dk dc_X12_line 75 rfl) (by omega) (by decide) ?_
                  refine PW_aload_n (pc' := 350) (q := 0) (pw_dk dc_X12_line 178 rfl) rfl rfl rfl ?_
                  refine PZ_callVv (pc' := 353) (y := yX12_lawLine) (M' := mX12_lawLine) (d' := 208) (As := []) (st := []) (b := 5000) (ci := 12) (nn := 0) me_5000 rfl tw_1679 tw_65 (pw_dk dc_X12_line 179 rfl) rfl Y_X12_lawLine tw_1677 rfl (by decide) (Nat.le_of_ble_eq_true rfl) (t_X12_lawLine σ_5 _ ?_)
                  obtain ⟨σ_97, e_98, h⟩ := wp_bind h
                  refine ⟨σ_97, e_98, rfl, fun hn_96 => ?_⟩
                  show PZ alM mX12_line (209) Q 353 [(0, .ref 5000), (1, .int x1)] [] σ_97
                  refine PW_sub (lv' := [(0, .ref 5000)]) [0] rfl ?_
                  exact b_X12_line_353 σ_97 h
  · rw [if_neg c_1] at h
    have z := wp_some h
    exact PZ_vret (pw_dk dc_X12_line 63 rfl) rfl z
def f_X12_line_88  (x1 : Int32) (σ : zS) : Option zS := 
  if x1 = 0 then
    if (((σ.1 5000 21) >>> ((1 : Int32) &&& 31)) &&& (3 : Int32)) = 0 then
      f_X12_line_108 x1 σ
    else
      (f_X12_wrong 4 σ).bind fun σ_4 =>
      f_X12_line_108 x1 σ_4
  else
    f_X12_line_108 x1 σ
theorem b_X12_line_88 {Q : Option Value → zS → Prop} (x1 : Int32) (σ : zS) (h : wpO (f_X12_line_88 x1 σ) (fun s => Q none s)) : PZ alM mX12_line (209) Q 88 [(0, .ref 5000), (1, .int x1)] [] σ := by
  unfold f_X12_line_88 at h
  refine PW_iload_n (pc' := 89) (q := 1) (pw_dk dc_X12_line 48 rfl) rfl rfl rfl ?_
  refine PW_if_ne (pc' := 92) (tgt := 108) (pw_dk dc_X12_line 49 rfl) rfl (by decide) (fun c_1 => ?_) (fun c_1 => ?_)
  · rw [if_neg c_1] at h
    exact b_X12_line_108 x1 σ h
  · rw [if_pos c_1] at h
    refine PW_aload_n (pc' := 93) (q := 0) (pw_dk dc_X12_line 50 rfl) rfl rfl rfl ?_
    refine PZ_getI (pc' := 96) (id := 5000) (ci := 12) (nn := 0) (C0 := RX12) (T := TX12) (N := 62) (j := 21) (pw_dk dc_X12_line 51 rfl) rfl me_5000 rfl pi_12 (by decide) fk_12_21 tw_1418 ?_
    refine PW_iconst (pc' := 97) (v := 1) (pw_dk dc_X12_line 52 rfl) rfl (by decide) ?_
    refine PW_ishr (pc' := 98) (pw_dk dc_X12_line 53 rfl) rfl ?_
    refine PW_iconst (pc' := 99) (v := 3) (pw_dk dc_X12_line 54 rfl) rfl (by decide) ?_
    refine PW_iand (pc' := 100) (pw_dk dc_X12_line 55 rfl) rfl ?_
    refine PW_if_eq (pc' := 103) (tgt := 108) (pw_dk dc_X12_line 56 rfl) rfl (by decide) (fun c_2 => ?_) (fun c_2 => ?_)
    · rw [if_pos c_2] at h
      exact b_X12_line_108 x1 σ h
    · rw [if_neg c_2] at h
      refine PW_aload_n (pc' := 104) (q := 0) (pw_dk dc_X12_line 57 rfl) rfl rfl rfl ?_
      refine PW_iconst (pc' := 105) (v := 4) (pw_dk dc_X12_line 58 rfl) rfl (by decide) ?_
      refine PZ_callVv (pc' := 108) (y := yX12_wrong) (M' := mX12_wrong) (d' := 0) (As := [.int 4]) (st := []) (b := 5000) (ci := 12) (nn := 0) me_5000 rfl tw_1636 tw_55 (pw_dk dc_X12_line 59 rfl) rfl Y_X12_wrong tw_1634 rfl (by decide) (Nat.le_of_ble_eq_true rfl) (t_X12_wrong 4 σ _ ?_)
      obtain ⟨σ_4, e_5, h⟩ := wp_bind h
      refine ⟨σ_4, e_5, rfl, fun hn_3 => ?_⟩
      show PZ alM mX12_line (209) Q 108 [(0, .ref 5000), (1, .int x1)] [] σ_4
      exact b_X12_line_108 x1 σ_4 h
def f_X12_line_47  (x1 : Int32) (s0 : Int32) (σ : zS) : Option zS := 
  (f_X12_isFull x1 σ).bind fun v_2 =>
  if v_2 = 0 then
    if s0 = 0 then
      f_X12_line_88 x1 σ
    else
      if (((σ.1 5000 21) >>> (x1 &&& 31)) &&& (1 : Int32)) = 1 then
        (f_X12_wrong 3 σ).bind fun σ_8 =>
        f_X12_line_108 x1 σ_8
      else
        f_X12_line_88 x1 σ
  else
    (f_X12_wrong 2 σ).bind fun σ_11 =>
    f_X12_line_108 x1 σ_11
theorem b_X12_line_47 {Q : Option Value → zS → Prop} (x1 : Int32) (s0 : Int32) (σ : zS) (h : wpO (f_X12_line_47 x1 s0 σ) (fun s => Q none s)) : PZ alM mX12_line (209) Q 47 [(0, .ref 5000), (1, .int x1)] [.int s0] σ := by
  unfold f_X12_line_47 at h
  refine PW_istore_n (pc' := 48) (lv' := [(2, .int s0), (0, .ref 5000), (1, .int x1)]) (pw_dk dc_X12_line 25 rfl) rfl rfl (by decide) rfl ?_
  refine PW_aload_n (pc' := 49) (q := 1) (pw_dk dc_X12_line 26 rfl) rfl rfl rfl ?_
  refine PW_iload_n (pc' := 50) (q := 2) (pw_dk dc_X12_line 27 rfl) rfl rfl rfl ?_
  refine PZ_callVi (pc' := 53) (y := yX12_isFull) (M' := mX12_isFull) (d' := 1) (As := [.int x1]) (st := []) (b := 5000) (ci := 12) (nn := 0) me_5000 rfl tw_1640 tw_56 (pw_dk dc_X12_line 28 rfl) rfl Y_X12_isFull tw_1638 rfl (by decide) (Nat.le_of_ble_eq_true rfl) (t_X12_isFull x1 σ _ ?_)
  obtain ⟨v_2, e_3, h⟩ := wp_bind h
  refine ⟨v_2, e_3, _, rfl, fun hn_1 => ?_⟩
  show PZ alM mX12_line (209) Q 53 [(2, .int s0), (0, .ref 5000), (1, .int x1)] [.int v_2] σ
  refine PW_if_eq (pc' := 56) (tgt := 64) (pw_dk dc_X12_line 29 rfl) rfl (by decide) (fun c_4 => ?_) (fun c_4 => ?_)
  · rw [if_pos c_4] at h
    refine PW_iload_n (pc' := 65) (q := 0) (pw_dk dc_X12_line 34 rfl) rfl rfl rfl ?_
    refine PW_if_eq (pc' := 68) (tgt := 88) (pw_dk dc_X12_line 35 rfl) rfl (by decide) (fun c_5 => ?_) (fun c_5 => ?_)
    · rw [if_pos c_5] at h
      refine PW_sub (lv' := [(0, .ref 5000), (1, .int x1)]) [1, 2] rfl ?_
      exact b_X12_line_88 x1 σ h
    · rw [if_neg c_5] at h
      refine PW_aload_n (pc' := 69) (q := 1) (pw_dk dc_X12_line 36 rfl) rfl rfl rfl ?_
      refine PZ_getI (pc' := 72) (id := 5000) (ci := 12) (nn := 0) (C0 := RX12) (T := TX12) (N := 62) (j := 21) (pw_dk dc_X12_line 37 rfl) rfl me_5000 rfl pi_12 (by decide) fk_12_21 tw_1418 ?_
      refine PW_iload_n (pc' := 73) (q := 2) (pw_dk dc_X12_line 38 rfl) rfl rfl rfl ?_
      refine PW_ishr (pc' := 74) (pw_dk dc_X12_line 39 rfl) rfl ?_
      refine PW_iconst (pc' := 75) (v := 1) (pw_dk dc_X12_line 40 rfl) rfl (by decide) ?_
      refine PW_iand (pc' := 76) (pw_dk dc_X12_line 41 rfl) rfl ?_
      refine PW_iconst (pc' := 77) (v := 1) (pw_dk dc_X12_line 42 rfl) rfl (by decide) ?_
      refine PW_icmp_ne (pc' := 80) (tgt := 88) (pw_dk dc_X12_line 43 rfl) rfl (by decide) (fun c_6 => ?_) (fun c_6 => ?_)
      · rw [if_neg c_6] at h
        refine PW_sub (lv' := [(0, .ref 5000), (1, .int x1)]) [1, 2] rfl ?_
        exact b_X12_line_88 x1 σ h
      · rw [if_pos c_6] at h
        refine PW_aload_n (pc' := 81) (q := 1) (pw_dk dc_X12_line 44 rfl) rfl rfl rfl ?_
        refine PW_iconst (pc' := 82) (v := 3) (pw_dk dc_X12_line 45 rfl) rfl (by decide) ?_
        refine PZ_callVv (pc' := 85) (y := yX12_wrong) (M' := mX12_wrong) (d' := 0) (As := [.int 3]) (st := []) (b := 5000) (ci := 12) (nn := 0) me_5000 rfl tw_1636 tw_55 (pw_dk dc_X12_line 46 rfl) rfl Y_X12_wrong tw_1634 rfl (by decide) (Nat.le_of_ble_eq_true rfl) (t_X12_wrong 3 σ _ ?_)
        obtain ⟨σ_8, e_9, h⟩ := wp_bind h
        refine ⟨σ_8, e_9, rfl, fun hn_7 => ?_⟩
        show PZ alM mX12_line (209) Q 85 [(2, .int s0), (0, .ref 5000), (1, .int x1)] [] σ_8
        refine PW_goto (tgt := 108) (pw_dk dc_X12_line 47 rfl) (by decide) ?_
        refine PW_sub (lv' := [(0, .ref 5000), (1, .int x1)]) [1, 2] rfl ?_
        exact b_X12_line_108 x1 σ_8 h
  · rw [if_neg c_4] at h
    refine PW_aload_n (pc' := 57) (q := 1) (pw_dk dc_X12_line 30 rfl) rfl rfl rfl ?_
    refine PW_iconst (pc' := 58) (v := 2) (pw_dk dc_X12_line 31 rfl) rfl (by decide) ?_
    refine PZ_callVv (pc' := 61) (y := yX12_wrong) (M' := mX12_wrong) (d' := 0) (As := [.int 2]) (st := []) (b := 5000) (ci := 12) (nn := 0) me_5000 rfl tw_1636 tw_55 (pw_dk dc_X12_line 32 rfl) rfl Y_X12_wrong tw_1634 rfl (by decide) (Nat.le_of_ble_eq_true rfl) (t_X12_wrong 2 σ _ ?_)
    obtain ⟨σ_11, e_12, h⟩ := wp_bind h
    refine ⟨σ_11, e_12, rfl, fun hn_10 => ?_⟩
    show PZ alM mX12_line (209) Q 61 [(2, .int s0), (0, .ref 5000), (1, .int x1)] [] σ_11
    refine PW_goto (tgt := 108) (pw_dk dc_X12_line 33 rfl) (by decide) ?_
    refine PW_sub (lv' := [(0, .ref 5000), (1, .int x1)]) [1, 2] rfl ?_
    exact b_X12_line_108 x1 σ_11 h
def f_X12_line_42  (x1 : Int32) (σ : zS) : Option zS := 
  f_X12_line_47 x1 1 σ
theorem b_X12_line_42 {Q : Option Value → zS → Prop} (x1 : Int32) (σ : zS) (h : wpO (f_X12_line_42 x1 σ) (fun s => Q none s)) : PZ alM mX12_line (209) Q 42 [(0, .ref 5000), (1, .int x1)] [] σ := by
  unfold f_X12_line_42 at h
  refine PW_iconst (pc' := 43) (v := 1) (pw_dk dc_X12_line 22 rfl) rfl (by decide) ?_
  refine PW_goto (tgt := 47) (pw_dk dc_X12_line 23 rfl) (by decide) ?_
  exact b_X12_line_47 x1 1 σ h
def f_X12_line  (σ : zS) : Option zS := 
  if (σ.1 5000 26) = 0 then
    if (σ.1 5000 27) ≤ 7 then
      lt (α := Int32) (σ.1 5000 27) fun x1_3 =>
      if x1_3 = 0 then
        f_X12_line_42 x1_3 σ
      else
        if x1_3 = 5 then
          f_X12_line_42 x1_3 σ
        else
          if x1_3 = 6 then
            f_X12_line_42 x1_3 σ
          else
            f_X12_line_47 x1_3 0 σ
    else
      f_X12_line_16 σ
  else
    f_X12_line_16 σ
theorem t_X12_line (σ : zS) (Q : Option Value → zS → Prop) (h : wpO (f_X12_line σ) (fun s => Q none s)) : PK alM yX12_line mX12_line (209) [.ref 5000] σ Q := by
  refine PC_ofF (by decide +kernel) rfl rfl (Nat.le_of_ble_eq_true rfl) ?_
  show PZ alM mX12_line (209) Q 0 [(0, .ref 5000)] [] σ
  unfold f_X12_line at h
  refine PW_aload_n (pc' := 1) (q := 0) (pw_dk dc_X12_line 0 rfl) rfl rfl rfl ?_
  refine PZ_getI (pc' := 4) (id := 5000) (ci := 12) (nn := 0) (C0 := RX12) (T := TX12) (N := 62) (j := 26) (pw_dk dc_X12_line 1 rfl) rfl me_5000 rfl pi_12 (by decide) fk_12_26 tw_1423 ?_
  refine PW_if_ne (pc' := 7) (tgt := 16) (pw_dk dc_X12_line 2 rfl) rfl (by decide) (fun c_1 => ?_) (fun c_1 => ?_)
  · rw [if_neg c_1] at h
    exact b_X12_line_16 σ h
  · rw [if_pos c_1] at h
    refine PW_aload_n (pc' := 8) (q := 0) (pw_dk dc_X12_line 3 rfl) rfl rfl rfl ?_
    refine PZ_getI (pc' := 11) (id := 5000) (ci := 12) (nn := 0) (C0 := RX12) (T := TX12) (N := 62) (j := 27) (pw_dk dc_X12_line 4 rfl) rfl me_5000 rfl pi_12 (by decide) fk_12_27 tw_1424 ?_
    refine PW_bipush (pc' := 13) (v := 7) (pw_dk dc_X12_line 5 rfl) rfl (by decide) ?_
    refine PW_icmp_le (pc' := 16) (tgt := 22) (pw_dk dc_X12_line 6 rfl) rfl (by decide) (fun c_2 => ?_) (fun c_2 => ?_)
    · rw [if_pos c_2] at h
      refine PW_aload_n (pc' := 23) (q := 0) (pw_dk dc_X12_line 11 rfl) rfl rfl rfl ?_
      refine PZ_getI (pc' := 26) (id := 5000) (ci := 12) (nn := 0) (C0 := RX12) (T := TX12) (N := 62) (j := 27) (pw_dk dc_X12_line 12 rfl) rfl me_5000 rfl pi_12 (by decide) fk_12_27 tw_1424 ?_
      refine PW_topi (fun x1_3 ex1_3 => ?_)
      replace h := lt_w h ex1_3
      refine PW_istore_n (pc' := 27) (lv' := [(1, .int x1_3), (0, .ref 5000)]) (pw_dk dc_X12_line 13 rfl) rfl rfl (by decide) rfl ?_
      refine PW_iload_n (pc' := 28) (q := 0) (pw_dk dc_X12_line 14 rfl) rfl rfl rfl ?_
      refine PW_if_eq (pc' := 31) (tgt := 42) (pw_dk dc_X12_line 15 rfl) rfl (by decide) (fun c_4 => ?_) (fun c_4 => ?_)
      · rw [if_pos c_4] at h
        refine PW_sub (lv' := [(0, .ref 5000), (1, .int x1_3)]) [1, 0] rfl ?_
        exact b_X12_line_42 x1_3 σ h
      · rw [if_neg c_4] at h
        refine PW_iload_n (pc' := 32) (q := 0) (pw_dk dc_X12_line 16 rfl) rfl rfl rfl ?_
        refine PW_iconst (pc' := 33) (v := 5) (pw_dk dc_X12_line 17 rfl) rfl (by decide) ?_
        refine PW_icmp_eq (pc' := 36) (tgt := 42) (pw_dk dc_X12_line 18 rfl) rfl (by decide) (fun c_5 => ?_) (fun c_5 => ?_)
        · rw [if_pos c_5] at h
          refine PW_sub (lv' := [(0, .ref 5000), (1, .int x1_3)]) [1, 0] rfl ?_
          exact b_X12_line_42 x1_3 σ h
        · rw [if_neg c_5] at h
          refine PW_iload_n (pc' := 37) (q := 0) (pw_dk dc_X12_line 19 rfl) rfl rfl rfl ?_
          refine PW_bipush (pc' := 39) (v := 6) (pw_dk dc_X12_line 20 rfl) rfl (by decide) ?_
          refine PW_icmp_ne (pc' := 42) (tgt := 46) (pw_dk dc_X12_line 21 rfl) rfl (by decide) (fun c_6 => ?_) (fun c_6 => ?_)
          · rw [if_neg c_6] at h
            refine PW_iconst (pc' := 47) (v := 0) (pw_dk dc_X12_line 24 rfl) rfl (by decide) ?_
            refine PW_sub (lv' := [(0, .ref 5000), (1, .int x1_3)]) [1, 0] rfl ?_
            exact b_X12_line_47 x1_3 0 σ h
          · rw [if_pos c_6] at h
            refine PW_sub (lv' := [(0, .ref 5000), (1, .int x1_3)]) [1, 0] rfl ?_
            exact b_X12_line_42 x1_3 σ h
    · rw [if_neg c_2] at h
      exact b_X12_line_16 σ h
