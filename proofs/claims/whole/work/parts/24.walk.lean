/-! walks (printed by wip/gen) -/
def f_X12_lawful (x1 : Int32) (x2 : Int32) (x3 : Int32) (σ : zS) : Option (Int32 × zS) := 
  lt (wI σ 5000 0 0) fun σ_1 =>
  (f_X12_isMan x1 σ_1).bind fun v_4 =>
  if v_4 = 0 then
    some ((-1 : Int32), σ_1)
  else
    if (f_X12_isPart x2 σ_1) = 0 then
      some ((-1 : Int32), σ_1)
    else
      if (f_X12_isKind x3 σ_1) = 0 then
        some ((-1 : Int32), σ_1)
      else
        (rdI σ_1 5042 115 x1).bind fun v_11 =>
        (rdI σ_1 5039 23 0).bind fun v_14 =>
        b2 (f_X12_isLawful x1 v_11 x2 x3 v_14 σ_1) fun v_19 σ_18 =>
        if v_19 = 0 then
          some (0, σ_18)
        else
          some (1, σ_18)
theorem t_X12_lawful (x1 : Int32) (x2 : Int32) (x3 : Int32) (σ : zS) (Q : Option Value → zS → Prop) (h : wpO (f_X12_lawful x1 x2 x3 σ) (fun a => Q (some (.int a.1)) a.2)) : PK alM yX12_lawful mX12_lawful (5) [.ref 5000, .int x1, .int x2, .int x3] σ Q := by
  refine PC_ofF (by decide +kernel) rfl rfl (Nat.le_of_ble_eq_true rfl) ?_
  show PZ alM mX12_lawful (5) Q 0 [(0, .ref 5000), (1, .int x1), (2, .int x2), (3, .int x3)] [] σ
  unfold f_X12_lawful at h
  refine PW_aload_n (pc' := 1) (q := 0) (pw_dk dc_X12_lawful 0 rfl) rfl rfl rfl ?_
  refine PW_iconst (pc' := 2) (v := 0) (pw_dk dc_X12_lawful 1 rfl) rfl (by decide) ?_
  obtain ⟨σ_1, e_2, h⟩ := lt_x h
  refine PZ_putX (pc' := 5) (σ' := σ_1) (id := 5000) (ci := 12) (nn := 0) (C0 := RX12) (T := TX12) (N := 62) (j := 0) (ty := tyX12 0) (pw_dk dc_X12_lawful 2 rfl) rfl me_5000 rfl pi_12 tyX12_ok nmX12 (by decide) fk_12_0 tw_1397 rfl (tyX12_ok 0 (by decide)) (by first | rfl | decide) (by first | rfl | decide) e_2 ?_
  refine PW_aload_n (pc' := 6) (q := 0) (pw_dk dc_X12_lawful 3 rfl) rfl rfl rfl ?_
  refine PW_iload_n (pc' := 7) (q := 1) (pw_dk dc_X12_lawful 4 rfl) rfl rfl rfl ?_
  refine PZ_callVi (pc' := 10) (y := yX12_isMan) (M' := mX12_isMan) (d' := 0) (As := [.int x1]) (st := []) (b := 5000) (ci := 12) (nn := 0) me_5000 rfl tw_1742 tw_77 (pw_dk dc_X12_lawful 5 rfl) rfl Y_X12_isMan tw_1740 rfl (by decide) (Nat.le_of_ble_eq_true rfl) (t_X12_isMan x1 σ_1 _ ?_)
  obtain ⟨v_4, e_5, h⟩ := wp_bind h
  refine ⟨v_4, e_5, _, rfl, fun hn_3 => ?_⟩
  show PZ alM mX12_lawful (5) Q 10 [(0, .ref 5000), (1, .int x1), (2, .int x2), (3, .int x3)] [.int v_4] σ_1
  refine PW_if_eq (pc' := 13) (tgt := 27) (pw_dk dc_X12_lawful 6 rfl) rfl (by decide) (fun c_6 => ?_) (fun c_6 => ?_)
  · rw [if_pos c_6] at h
    refine PW_iconst (pc' := 28) (v := (-1 : Int32)) (pw_dk dc_X12_lawful 13 rfl) rfl (by decide) ?_
    have z := wp_some h
    exact PZ_iret (ty := .int) (pw_dk dc_X12_lawful 14 rfl) rfl rfl z
  · rw [if_neg c_6] at h
    refine PW_iload_n (pc' := 14) (q := 2) (pw_dk dc_X12_lawful 7 rfl) rfl rfl rfl ?_
    refine PZ_callSi (pc' := 17) (y := yX12_isPart) (M' := mX12_isPart) (d' := 0) (As := [.int x2]) (st := []) tw_1763 (pw_dk dc_X12_lawful 8 rfl) rfl Y_X12_isPart tw_1762 rfl (by decide) (Nat.le_of_ble_eq_true rfl) (t_X12_isPart x2 σ_1 _ ?_)
    refine ⟨_, rfl, fun hn_7 => ?_⟩
    show PZ alM mX12_lawful (5) Q 17 [(0, .ref 5000), (1, .int x1), (2, .int x2), (3, .int x3)] [.int (f_X12_isPart x2 σ_1)] σ_1
    refine PW_if_eq (pc' := 20) (tgt := 27) (pw_dk dc_X12_lawful 9 rfl) rfl (by decide) (fun c_8 => ?_) (fun c_8 => ?_)
    · rw [if_pos c_8] at h
      refine PW_iconst (pc' := 28) (v := (-1 : Int32)) (pw_dk dc_X12_lawful 13 rfl) rfl (by decide) ?_
      have z := wp_some h
      exact PZ_iret (ty := .int) (pw_dk dc_X12_lawful 14 rfl) rfl rfl z
    · rw [if_neg c_8] at h
      refine PW_iload_n (pc' := 21) (q := 3) (pw_dk dc_X12_lawful 10 rfl) rfl rfl rfl ?_
      refine PZ_callSi (pc' := 24) (y := yX12_isKind) (M' := mX12_isKind) (d' := 0) (As := [.int x3]) (st := []) tw_1813 (pw_dk dc_X12_lawful 11 rfl) rfl Y_X12_isKind tw_1812 rfl (by decide) (Nat.le_of_ble_eq_true rfl) (t_X12_isKind x3 σ_1 _ ?_)
      refine ⟨_, rfl, fun hn_9 => ?_⟩
      show PZ alM mX12_lawful (5) Q 24 [(0, .ref 5000), (1, .int x1), (2, .int x2), (3, .int x3)] [.int (f_X12_isKind x3 σ_1)] σ_1
      refine PW_if_ne (pc' := 27) (tgt := 29) (pw_dk dc_X12_lawful 12 rfl) rfl (by decide) (fun c_10 => ?_) (fun c_10 => ?_)
      · rw [if_neg c_10] at h
        refine PW_aload_n (pc' := 30) (q := 0) (pw_dk dc_X12_lawful 15 rfl) rfl rfl rfl ?_
        refine PW_iload_n (pc' := 31) (q := 1) (pw_dk dc_X12_lawful 16 rfl) rfl rfl rfl ?_
        refine PW_aload_n (pc' := 32) (q := 0) (pw_dk dc_X12_lawful 17 rfl) rfl rfl rfl ?_
        refine PW_getR (pc' := 35) (id := 5000) (ci := 12) (nn := 0) (C0 := RX12) (T := TX12) (N := 62) (j := 41) (r := 5042) (pw_dk dc_X12_lawful 18 rfl) rfl me_5000 rfl pi_12 (by decide) fk_12_41 tw_1438 (rfl) (by decide) ?_
        refine PW_iload_n (pc' := 36) (q := 1) (pw_dk dc_X12_lawful 19 rfl) rfl rfl rfl ?_
        obtain ⟨v_11, hi_12, e_13, h⟩ := wp_rdIx h
        refine PZ_ialdx (pc' := 37) (v := v_11) (id := 5042) (nn := 115) (pw_dk dc_X12_lawful 20 rfl) rfl me_5042 hi_12 e_13 ?_
        refine PW_iload_n (pc' := 38) (q := 2) (pw_dk dc_X12_lawful 21 rfl) rfl rfl rfl ?_
        refine PW_iload_n (pc' := 39) (q := 3) (pw_dk dc_X12_lawful 22 rfl) rfl rfl rfl ?_
        refine PW_aload_n (pc' := 40) (q := 0) (pw_dk dc_X12_lawful 23 rfl) rfl rfl rfl ?_
        refine PW_getR (pc' := 43) (id := 5000) (ci := 12) (nn := 0) (C0 := RX12) (T := TX12) (N := 62) (j := 38) (r := 5039) (pw_dk dc_X12_lawful 24 rfl) rfl me_5000 rfl pi_12 (by decide) fk_12_38 tw_1435 (rfl) (by decide) ?_
        refine PW_iconst (pc' := 44) (v := 0) (pw_dk dc_X12_lawful 25 rfl) rfl (by decide) ?_
        obtain ⟨v_14, hi_15, e_16, h⟩ := wp_rdIx h
        refine PZ_ialdx (pc' := 45) (v := v_14) (id := 5039) (nn := 23) (pw_dk dc_X12_lawful 26 rfl) rfl me_5039 hi_15 e_16 ?_
        refine PZ_callVi (pc' := 48) (y := yX12_isLawful) (M' := mX12_isLawful) (d' := 4) (As := [.int x1, .int v_11, .int x2, .int x3, .int v_14]) (st := []) (b := 5000) (ci := 12) (nn := 0) me_5000 rfl tw_1817 tw_86 (pw_dk dc_X12_lawful 27 rfl) rfl Y_X12_isLawful tw_1815 rfl (by decide) (Nat.le_of_ble_eq_true rfl) (t_X12_isLawful x1 v_11 x2 x3 v_14 σ_1 _ ?_)
        obtain ⟨⟨v_19, σ_18⟩, e_20, h⟩ := wp_bind2 h
        refine ⟨(v_19, σ_18), e_20, _, rfl, fun hn_17 => ?_⟩
        show PZ alM mX12_lawful (5) Q 48 [(0, .ref 5000), (1, .int x1), (2, .int x2), (3, .int x3)] [.int v_19] σ_18
        refine PW_if_eq (pc' := 51) (tgt := 55) (pw_dk dc_X12_lawful 28 rfl) rfl (by decide) (fun c_21 => ?_) (fun c_21 => ?_)
        · rw [if_pos c_21] at h
          refine PW_iconst (pc' := 56) (v := 0) (pw_dk dc_X12_lawful 31 rfl) rfl (by decide) ?_
          have z := wp_some h
          exact PZ_iret (ty := .int) (pw_dk dc_X12_lawful 32 rfl) rfl rfl z
        · rw [if_neg c_21] at h
          refine PW_iconst (pc' := 52) (v := 1) (pw_dk dc_X12_lawful 29 rfl) rfl (by decide) ?_
          refine PW_goto (tgt := 56) (pw_dk dc_X12_lawful 30 rfl) (by decide) ?_
          have z := wp_some h
          exact PZ_iret (ty := .int) (pw_dk dc_X12_lawful 32 rfl) rfl rfl z
      · rw [if_pos c_10] at h
        refine PW_iconst (pc' := 28) (v := (-1 : Int32)) (pw_dk dc_X12_lawful 13 rfl) rfl (by decide) ?_
        have z := wp_some h
        exact PZ_iret (ty := .int) (pw_dk dc_X12_lawful 14 rfl) rfl rfl z
def f_X12_law_50   (σ : zS) : Option (Int64 × zS) := 
  some ((-9223372036854775808 : Int64), σ)
theorem b_X12_law_50 {Q : Option Value → zS → Prop}  (σ : zS) (h : wpO (f_X12_law_50 σ) (fun a => Q (some (.long a.1)) a.2)) : PZ alM mX12_law (3) Q 50 [] [] σ := by
  unfold f_X12_law_50 at h
  refine PW_ldc2 (pc' := 53) (v := (-9223372036854775808 : Int64)) (pw_dk dc_X12_law 25 rfl) rfl tw_1827 ?_
  have z := wp_some h
  exact PZ_lret (pw_dk dc_X12_law 26 rfl) rfl z
def f_X12_law_74  (x1 : Int32) (s1 : Int32) (s2 : Int32) (s3 : Int32) (s4 : Int32) (σ : zS) : Option (Int64 × zS) := 
  (rdI σ 5039 23 0).bind fun v_1 =>
  (f_X12_calls s1 s2 s3 s4 v_1 σ).bind fun σ_5 =>
  b2 (f_X12_goes x1 σ_5) fun v_9 σ_8 =>
  if v_9 = 0 then
    some ((-9223372036854775808 : Int64), σ_8)
  else
    (rdL σ_8 5036 64 0).bind fun v_12 =>
    some (v_12, σ_8)
theorem b_X12_law_74 {Q : Option Value → zS → Prop} (x1 : Int32) (s1 : Int32) (s2 : Int32) (s3 : Int32) (s4 : Int32) (σ : zS) (h : wpO (f_X12_law_74 x1 s1 s2 s3 s4 σ) (fun a => Q (some (.long a.1)) a.2)) : PZ alM mX12_law (3) Q 74 [(0, .ref 5000), (1, .int x1)] [.int s4, .int s3, .int s2, .int s1, .ref 5000] σ := by
  unfold f_X12_law_74 at h
  refine PW_aload_n (pc' := 75) (q := 0) (pw_dk dc_X12_law 40 rfl) rfl rfl rfl ?_
  refine PW_getR (pc' := 78) (id := 5000) (ci := 12) (nn := 0) (C0 := RX12) (T := TX12) (N := 62) (j := 38) (r := 5039) (pw_dk dc_X12_law 41 rfl) rfl me_5000 rfl pi_12 (by decide) fk_12_38 tw_1435 (rfl) (by decide) ?_
  refine PW_iconst (pc' := 79) (v := 0) (pw_dk dc_X12_law 42 rfl) rfl (by decide) ?_
  obtain ⟨v_1, hi_2, e_3, h⟩ := wp_rdIx h
  refine PZ_ialdx (pc' := 80) (v := v_1) (id := 5039) (nn := 23) (pw_dk dc_X12_law 43 rfl) rfl me_5039 hi_2 e_3 ?_
  refine PZ_callVv (pc' := 83) (y := yX12_calls) (M' := mX12_calls) (d' := 2) (As := [.int s1, .int s2, .int s3, .int s4, .int v_1]) (st := []) (b := 5000) (ci := 12) (nn := 0) me_5000 rfl tw_1781 tw_81 (pw_dk dc_X12_law 44 rfl) rfl Y_X12_calls tw_1779 rfl (by decide) (Nat.le_of_ble_eq_true rfl) (t_X12_calls s1 s2 s3 s4 v_1 σ _ ?_)
  obtain ⟨σ_5, e_6, h⟩ := wp_bind h
  refine ⟨σ_5, e_6, rfl, fun hn_4 => ?_⟩
  show PZ alM mX12_law (3) Q 83 [(0, .ref 5000), (1, .int x1)] [] σ_5
  refine PW_aload_n (pc' := 84) (q := 0) (pw_dk dc_X12_law 45 rfl) rfl rfl rfl ?_
  refine PW_iload_n (pc' := 85) (q := 1) (pw_dk dc_X12_law 46 rfl) rfl rfl rfl ?_
  refine PZ_callVi (pc' := 88) (y := yX12_goes) (M' := mX12_goes) (d' := 2) (As := [.int x1]) (st := []) (b := 5000) (ci := 12) (nn := 0) me_5000 rfl tw_1790 tw_83 (pw_dk dc_X12_law 47 rfl) rfl Y_X12_goes tw_1788 rfl (by decide) (Nat.le_of_ble_eq_true rfl) (t_X12_goes x1 σ_5 _ ?_)
  obtain ⟨⟨v_9, σ_8⟩, e_10, h⟩ := wp_bind2 h
  refine ⟨(v_9, σ_8), e_10, _, rfl, fun hn_7 => ?_⟩
  show PZ alM mX12_law (3) Q 88 [(0, .ref 5000), (1, .int x1)] [.int v_9] σ_8
  refine PW_if_eq (pc' := 91) (tgt := 100) (pw_dk dc_X12_law 48 rfl) rfl (by decide) (fun c_11 => ?_) (fun c_11 => ?_)
  · rw [if_pos c_11] at h
    refine PW_ldc2 (pc' := 103) (v := (-9223372036854775808 : Int64)) (pw_dk dc_X12_law 54 rfl) rfl tw_1827 ?_
    have z := wp_some h
    exact PZ_lret (pw_dk dc_X12_law 55 rfl) rfl z
  · rw [if_neg c_11] at h
    refine PW_aload_n (pc' := 92) (q := 0) (pw_dk dc_X12_law 49 rfl) rfl rfl rfl ?_
    refine PW_getR (pc' := 95) (id := 5000) (ci := 12) (nn := 0) (C0 := RX12) (T := TX12) (N := 62) (j := 35) (r := 5036) (pw_dk dc_X12_law 50 rfl) rfl me_5000 rfl pi_12 (by decide) fk_12_35 tw_1432 (rfl) (by decide) ?_
    refine PW_iconst (pc' := 96) (v := 0) (pw_dk dc_X12_law 51 rfl) rfl (by decide) ?_
    obtain ⟨v_12, hi_13, e_14, h⟩ := wp_rdLx h
    refine PZ_laldx (pc' := 97) (v := v_12) (id := 5036) (nn := 64) (pw_dk dc_X12_law 52 rfl) rfl me_5036 hi_13 e_14 ?_
    refine PW_goto (tgt := 103) (pw_dk dc_X12_law 53 rfl) (by decide) ?_
    have z := wp_some h
    exact PZ_lret (pw_dk dc_X12_law 55 rfl) rfl z
def f_X12_law_54  (x1 : Int32) (x2 : Int32) (x3 : Int32) (x4 : Int32) (σ : zS) : Option (Int64 × zS) := 
  (rdI σ 5042 115 x2).bind fun v_1 =>
  if x1 = 1 then
    f_X12_law_74 x1 x2 v_1 x3 x4 σ
  else
    f_X12_law_74 x1 x2 v_1 x3 0 σ
theorem b_X12_law_54 {Q : Option Value → zS → Prop} (x1 : Int32) (x2 : Int32) (x3 : Int32) (x4 : Int32) (σ : zS) (h : wpO (f_X12_law_54 x1 x2 x3 x4 σ) (fun a => Q (some (.long a.1)) a.2)) : PZ alM mX12_law (3) Q 54 [(0, .ref 5000), (1, .int x1), (2, .int x2), (3, .int x3), (4, .int x4)] [] σ := by
  unfold f_X12_law_54 at h
  refine PW_aload_n (pc' := 55) (q := 0) (pw_dk dc_X12_law 27 rfl) rfl rfl rfl ?_
  refine PW_iload_n (pc' := 56) (q := 2) (pw_dk dc_X12_law 28 rfl) rfl rfl rfl ?_
  refine PW_aload_n (pc' := 57) (q := 0) (pw_dk dc_X12_law 29 rfl) rfl rfl rfl ?_
  refine PW_getR (pc' := 60) (id := 5000) (ci := 12) (nn := 0) (C0 := RX12) (T := TX12) (N := 62) (j := 41) (r := 5042) (pw_dk dc_X12_law 30 rfl) rfl me_5000 rfl pi_12 (by decide) fk_12_41 tw_1438 (rfl) (by decide) ?_
  refine PW_iload_n (pc' := 61) (q := 2) (pw_dk dc_X12_law 31 rfl) rfl rfl rfl ?_
  obtain ⟨v_1, hi_2, e_3, h⟩ := wp_rdIx h
  refine PZ_ialdx (pc' := 62) (v := v_1) (id := 5042) (nn := 115) (pw_dk dc_X12_law 32 rfl) rfl me_5042 hi_2 e_3 ?_
  refine PW_iload_n (pc' := 63) (q := 3) (pw_dk dc_X12_law 33 rfl) rfl rfl rfl ?_
  refine PW_iload_n (pc' := 64) (q := 1) (pw_dk dc_X12_law 34 rfl) rfl rfl rfl ?_
  refine PW_iconst (pc' := 65) (v := 1) (pw_dk dc_X12_law 35 rfl) rfl (by decide) ?_
  refine PW_icmp_ne (pc' := 68) (tgt := 73) (pw_dk dc_X12_law 36 rfl) rfl (by decide) (fun c_4 => ?_) (fun c_4 => ?_)
  · rw [if_neg c_4] at h
    refine PW_iconst (pc' := 74) (v := 0) (pw_dk dc_X12_law 39 rfl) rfl (by decide) ?_
    refine PW_sub (lv' := [(0, .ref 5000), (1, .int x1)]) [0, 1] rfl ?_
    exact b_X12_law_74 x1 x2 v_1 x3 0 σ h
  · rw [if_pos c_4] at h
    refine PW_iload (pc' := 70) (q := 4) (pw_dk dc_X12_law 37 rfl) rfl rfl ?_
    refine PW_goto (tgt := 74) (pw_dk dc_X12_law 38 rfl) (by decide) ?_
    refine PW_sub (lv' := [(0, .ref 5000), (1, .int x1)]) [0, 1] rfl ?_
    exact b_X12_law_74 x1 x2 v_1 x3 x4 σ h
def f_X12_law (x1 : Int32) (x2 : Int32) (x3 : Int32) (x4 : Int32) (σ : zS) : Option (Int64 × zS) := 
  lt (wI σ 5000 0 0) fun σ_1 =>
  if x1 < 0 then
    f_X12_law_50 σ_1
  else
    if 2 < x1 then
      f_X12_law_50 σ_1
    else
      (f_X12_hasLaw x1 σ_1).bind fun v_6 =>
      if v_6 = 0 then
        f_X12_law_50 σ_1
      else
        (f_X12_isMan x2 σ_1).bind fun v_10 =>
        if v_10 = 0 then
          f_X12_law_50 σ_1
        else
          if (f_X12_isPart x3 σ_1) = 0 then
            f_X12_law_50 σ_1
          else
            if x1 = 1 then
              if (f_X12_isKind x4 σ_1) = 0 then
                f_X12_law_50 σ_1
              else
                f_X12_law_54 x1 x2 x3 x4 σ_1
            else
              f_X12_law_54 x1 x2 x3 x4 σ_1
theorem t_X12_law (x1 : Int32) (x2 : Int32) (x3 : Int32) (x4 : Int32) (σ : zS) (Q : Option Value → zS → Prop) (h : wpO (f_X12_law x1 x2 x3 x4 σ) (fun a => Q (some (.long a.1)) a.2)) : PK alM yX12_law mX12_law (3) [.ref 5000, .int x1, .int x2, .int x3, .int x4] σ Q := by
  refine PC_ofF (by decide +kernel) rfl rfl (Nat.le_of_ble_eq_true rfl) ?_
  show PZ alM mX12_law (3) Q 0 [(0, .ref 5000), (1, .int x1), (2, .int x2), (3, .int x3), (4, .int x4)] [] σ
  unfold f_X12_law at h
  refine PW_aload_n (pc' := 1) (q := 0) (pw_dk dc_X12_law 0 rfl) rfl rfl rfl ?_
  refine PW_iconst (pc' := 2) (v := 0) (pw_dk dc_X12_law 1 rfl) rfl (by decide) ?_
  obtain ⟨σ_1, e_2, h⟩ := lt_x h
  refine PZ_putX (pc' := 5) (σ' := σ_1) (id := 5000) (ci := 12) (nn := 0) (C0 := RX12) (T := TX12) (N := 62) (j := 0) (ty := tyX12 0) (pw_dk dc_X12_law 2 rfl) rfl me_5000 rfl pi_12 tyX12_ok nmX12 (by decide) fk_12_0 tw_1397 rfl (tyX12_ok 0 (by decide)) (by first | rfl | decide) (by first | rfl | decide) e_2 ?_
  refine PW_iload_n (pc' := 6) (q := 1) (pw_dk dc_X12_law 3 rfl) rfl rfl rfl ?_
  refine PW_if_lt (pc' := 9) (tgt := 50) (pw_dk dc_X12_law 4 rfl) rfl (by decide) (fun c_3 => ?_) (fun c_3 => ?_)
  · rw [if_pos c_3] at h
    refine PW_sub (lv' := []) [] rfl ?_
    exact b_X12_law_50 σ_1 h
  · rw [if_neg c_3] at h
    refine PW_iload_n (pc' := 10) (q := 1) (pw_dk dc_X12_law 5 rfl) rfl rfl rfl ?_
    refine PW_iconst (pc' := 11) (v := 2) (pw_dk dc_X12_law 6 rfl) rfl (by decide) ?_
    refine PW_icmp_gt (pc' := 14) (tgt := 50) (pw_dk dc_X12_law 7 rfl) rfl (by decide) (fun c_4 => ?_) (fun c_4 => ?_)
    · rw [if_pos c_4] at h
      refine PW_sub (lv' := []) [] rfl ?_
      exact b_X12_law_50 σ_1 h
    · rw [if_neg c_4] at h
      refine PW_aload_n (pc' := 15) (q := 0) (pw_dk dc_X12_law 8 rfl) rfl rfl rfl ?_
      refine PW_iload_n (pc' := 16) (q := 1) (pw_dk dc_X12_law 9 rfl) rfl rfl rfl ?_
      refine PZ_callVi (pc' := 19) (y := yX12_hasLaw) (M' := mX12_hasLaw) (d' := 0) (As := [.int x1]) (st := []) (b := 5000) (ci := 12) (nn := 0) me_5000 rfl tw_1786 tw_82 (pw_dk dc_X12_law 10 rfl) rfl Y_X12_hasLaw tw_1784 rfl (by decide) (Nat.le_of_ble_eq_true rfl) (t_X12_hasLaw x1 σ_1 _ ?_)
      obtain ⟨v_6, e_7, h⟩ := wp_bind h
      refine ⟨v_6, e_7, _, rfl, fun hn_5 => ?_⟩
      show PZ alM mX12_law (3) Q 19 [(0, .ref 5000), (1, .int x1), (2, .int x2), (3, .int x3), (4, .int x4)] [.int v_6] σ_1
      refine PW_if_eq (pc' := 22) (tgt := 50) (pw_dk dc_X12_law 11 rfl) rfl (by decide) (fun c_8 => ?_) (fun c_8 => ?_)
      · rw [if_pos c_8] at h
        refine PW_sub (lv' := []) [] rfl ?_
        exact b_X12_law_50 σ_1 h
      · rw [if_neg c_8] at h
        refine PW_aload_n (pc' := 23) (q := 0) (pw_dk dc_X12_law 12 rfl) rfl rfl rfl ?_
        refine PW_iload_n (pc' := 24) (q := 2) (pw_dk dc_X12_law 13 rfl) rfl rfl rfl ?_
        refine PZ_callVi (pc' := 27) (y := yX12_isMan) (M' := mX12_isMan) (d' := 0) (As := [.int x2]) (st := []) (b := 5000) (ci := 12) (nn := 0) me_5000 rfl tw_1742 tw_77 (pw_dk dc_X12_law 14 rfl) rfl Y_X12_isMan tw_1740 rfl (by decide) (Nat.le_of_ble_eq_true rfl) (t_X12_isMan x2 σ_1 _ ?_)
        obtain ⟨v_10, e_11, h⟩ := wp_bind h
        refine ⟨v_10, e_11, _, rfl, fun hn_9 => ?_⟩
        show PZ alM mX12_law (3) Q 27 [(0, .ref 5000), (1, .int x1), (2, .int x2), (3, .int x3), (4, .int x4)] [.int v_10] σ_1
        refine PW_if_eq (pc' := 30) (tgt := 50) (pw_dk dc_X12_law 15 rfl) rfl (by decide) (fun c_12 => ?_) (fun c_12 => ?_)
        · rw [if_pos c_12] at h
          refine PW_sub (lv' := []) [] rfl ?_
          exact b_X12_law_50 σ_1 h
        · rw [if_neg c_12] at h
          refine PW_iload_n (pc' := 31) (q := 3) (pw_dk dc_X12_law 16 rfl) rfl rfl rfl ?_
          refine PZ_callSi (pc' := 34) (y := yX12_isPart) (M' := mX12_isPart) (d' := 0) (As := [.int x3]) (st := []) tw_1763 (pw_dk dc_X12_law 17 rfl) rfl Y_X12_isPart tw_1762 rfl (by decide) (Nat.le_of_ble_eq_true rfl) (t_X12_isPart x3 σ_1 _ ?_)
          refine ⟨_, rfl, fun hn_13 => ?_⟩
          show PZ alM mX12_law (3) Q 34 [(0, .ref 5000), (1, .int x1), (2, .int x2), (3, .int x3), (4, .int x4)] [.int (f_X12_isPart x3 σ_1)] σ_1
          refine PW_if_eq (pc' := 37) (tgt := 50) (pw_dk dc_X12_law 18 rfl) rfl (by decide) (fun c_14 => ?_) (fun c_14 => ?_)
          · rw [if_pos c_14] at h
            refine PW_sub (lv' := []) [] rfl ?_
            exact b_X12_law_50 σ_1 h
          · rw [if_neg c_14] at h
            refine PW_iload_n (pc' := 38) (q := 1) (pw_dk dc_X12_law 19 rfl) rfl rfl rfl ?_
            refine PW_iconst (pc' := 39) (v := 1) (pw_dk dc_X12_law 20 rfl) rfl (by decide) ?_
            refine PW_icmp_ne (pc' := 42) (tgt := 54) (pw_dk dc_X12_law 21 rfl) rfl (by decide) (fun c_15 => ?_) (fun c_15 => ?_)
            · rw [if_neg c_15] at h
              exact b_X12_law_54 x1 x2 x3 x4 σ_1 h
            · rw [if_pos c_15] at h
              refine PW_iload (pc' := 44) (q := 4) (pw_dk dc_X12_law 22 rfl) rfl rfl ?_
              refine PZ_callSi (pc' := 47) (y := yX12_isKind) (M' := mX12_isKind) (d' := 0) (As := [.int x4]) (st := []) tw_1813 (pw_dk dc_X12_law 23 rfl) rfl Y_X12_isKind tw_1812 rfl (by decide) (Nat.le_of_ble_eq_true rfl) (t_X12_isKind x4 σ_1 _ ?_)
              refine ⟨_, rfl, fun hn_16 => ?_⟩
              show PZ alM mX12_law (3) Q 47 [(0, .ref 5000), (1, .int x1), (2, .int x2), (3, .int x3), (4, .int x4)] [.int (f_X12_isKind x4 σ_1)] σ_1
              refine PW_if_ne (pc' := 50) (tgt := 54) (pw_dk dc_X12_law 24 rfl) rfl (by decide) (fun c_17 => ?_) (fun c_17 => ?_)
              · rw [if_neg c_17] at h
                exact b_X12_law_54 x1 x2 x3 x4 σ_1 h
              · rw [if_pos c_17] at h
                refine PW_sub (lv' := []) [] rfl ?_
                exact b_X12_law_50 σ_1 h
def f_X12_deed (x1 : Int32) (x2 : Int32) (σ : zS) : Option (Int32 × zS) := 
  lt (wI σ 5000 0 0) fun σ_1 =>
  if x1 < 0 then
    some ((-1 : Int32), σ_1)
  else
    (rdI σ_1 5004 16 3).bind fun v_4 =>
    if x1 < v_4 then
      if x2 = 0 then
        (rdI σ_1 5014 24 x1).bind fun v_25 =>
        some (v_25, σ_1)
      else
        if x2 = 1 then
          (rdI σ_1 5015 24 x1).bind fun v_22 =>
          some (v_22, σ_1)
        else
          if x2 = 2 then
            (rdI σ_1 5016 24 x1).bind fun v_19 =>
            some (v_19, σ_1)
          else
            if x2 = 3 then
              (rdI σ_1 5017 24 x1).bind fun v_16 =>
              some (v_16, σ_1)
            else
              if x2 = 4 then
                (rdI σ_1 5045 276 x1).bind fun v_13 =>
                some (v_13, σ_1)
              else
                some ((-1 : Int32), σ_1)
    else
      some ((-1 : Int32), σ_1)
theorem t_X12_deed (x1 : Int32) (x2 : Int32) (σ : zS) (Q : Option Value → zS → Prop) (h : wpO (f_X12_deed x1 x2 σ) (fun a => Q (some (.int a.1)) a.2)) : PK alM yX12_deed mX12_deed (0) [.ref 5000, .int x1, .int x2] σ Q := by
  refine PC_ofF (by decide +kernel) rfl rfl (Nat.le_of_ble_eq_true rfl) ?_
  show PZ alM mX12_deed (0) Q 0 [(0, .ref 5000), (1, .int x1), (2, .int x2)] [] σ
  unfold f_X12_deed at h
  refine PW_aload_n (pc' := 1) (q := 0) (pw_dk dc_X12_deed 0 rfl) rfl rfl rfl ?_
  refine PW_iconst (pc' := 2) (v := 0) (pw_dk dc_X12_deed 1 rfl) rfl (by decide) ?_
  obtain ⟨σ_1, e_2, h⟩ := lt_x h
  refine PZ_putX (pc' := 5) (σ' := σ_1) (id := 5000) (ci := 12) (nn := 0) (C0 := RX12) (T := TX12) (N := 62) (j := 0) (ty := tyX12 0) (pw_dk dc_X12_deed 2 rfl) rfl me_5000 rfl pi_12 tyX12_ok nmX12 (by decide) fk_12_0 tw_1397 rfl (tyX12_ok 0 (by decide)) (by first | rfl | decide) (by first | rfl | decide) e_2 ?_
  refine PW_iload_n (pc' := 6) (q := 1) (pw_dk dc_X12_deed 3 rfl) rfl rfl rfl ?_
  refine PW_if_lt (pc' := 9) (tgt := 19) (pw_dk dc_X12_deed 4 rfl) rfl (by decide) (fun c_3 => ?_) (fun c_3 => ?_)
  · rw [if_pos c_3] at h
    refine PW_iconst (pc' := 20) (v := (-1 : Int32)) (pw_dk dc_X12_deed 11 rfl) rfl (by decide) ?_
    have z := wp_some h
    exact PZ_iret (ty := .int) (pw_dk dc_X12_deed 12 rfl) rfl rfl z
  · rw [if_neg c_3] at h
    refine PW_iload_n (pc' := 10) (q := 1) (pw_dk dc_X12_deed 5 rfl) rfl rfl rfl ?_
    refine PW_aload_n (pc' := 11) (q := 0) (pw_dk dc_X12_deed 6 rfl) rfl rfl rfl ?_
    refine PW_getR (pc' := 14) (id := 5000) (ci := 12) (nn := 0) (C0 := RX12) (T := TX12) (N := 62) (j := 3) (r := 5004) (pw_dk dc_X12_deed 7 rfl) rfl me_5000 rfl pi_12 (by decide) fk_12_3 tw_1400 (rfl) (by decide) ?_
    refine PW_iconst (pc' := 15) (v := 3) (pw_dk dc_X12_deed 8 rfl) rfl (by decide) ?_
    obtain ⟨v_4, hi_5, e_6, h⟩ := wp_rdIx h
    refine PZ_ialdx (pc' := 16) (v := v_4) (id := 5004) (nn := 16) (pw_dk dc_X12_deed 9 rfl) rfl me_5004 hi_5 e_6 ?_
    refine PW_icmp_lt (pc' := 19) (tgt := 21) (pw_dk dc_X12_deed 10 rfl) rfl (by decide) (fun c_7 => ?_) (fun c_7 => ?_)
    · rw [if_pos c_7] at h
      refine PW_iload_n (pc' := 22) (q := 2) (pw_dk dc_X12_deed 13 rfl) rfl rfl rfl ?_
      refine PW_if_ne (pc' := 25) (tgt := 34) (pw_dk dc_X12_deed 14 rfl) rfl (by decide) (fun c_8 => ?_) (fun c_8 => ?_)
      · rw [if_neg c_8] at h
        refine PW_iload_n (pc' := 35) (q := 2) (pw_dk dc_X12_deed 20 rfl) rfl rfl rfl ?_
        refine PW_iconst (pc' := 36) (v := 1) (pw_dk dc_X12_deed 21 rfl) rfl (by decide) ?_
        refine PW_icmp_ne (pc' := 39) (tgt := 48) (pw_dk dc_X12_deed 22 rfl) rfl (by decide) (fun c_9 => ?_) (fun c_9 => ?_)
        · rw [if_neg c_9] at h
          refine PW_iload_n (pc' := 49) (q := 2) (pw_dk dc_X12_deed 28 rfl) rfl rfl rfl ?_
          refine PW_iconst (pc' := 50) (v := 2) (pw_dk dc_X12_deed 29 rfl) rfl (by decide) ?_
          refine PW_icmp_ne (pc' := 53) (tgt := 62) (pw_dk dc_X12_deed 30 rfl) rfl (by decide) (fun c_10 => ?_) (fun c_10 => ?_)
          · rw [if_neg c_10] at h
            refine PW_iload_n (pc' := 63) (q := 2) (pw_dk dc_X12_deed 36 rfl) rfl rfl rfl ?_
            refine PW_iconst (pc' := 64) (v := 3) (pw_dk dc_X12_deed 37 rfl) rfl (by decide) ?_
            refine PW_icmp_ne (pc' := 67) (tgt := 76) (pw_dk dc_X12_deed 38 rfl) rfl (by decide) (fun c_11 => ?_) (fun c_11 => ?_)
            · rw [if_neg c_11] at h
              refine PW_iload_n (pc' := 77) (q := 2) (pw_dk dc_X12_deed 44 rfl) rfl rfl rfl ?_
              refine PW_iconst (pc' := 78) (v := 4) (pw_dk dc_X12_deed 45 rfl) rfl (by decide) ?_
              refine PW_icmp_ne (pc' := 81) (tgt := 90) (pw_dk dc_X12_deed 46 rfl) rfl (by decide) (fun c_12 => ?_) (fun c_12 => ?_)
              · rw [if_neg c_12] at h
                refine PW_iconst (pc' := 91) (v := (-1 : Int32)) (pw_dk dc_X12_deed 52 rfl) rfl (by decide) ?_
                have z := wp_some h
                exact PZ_iret (ty := .int) (pw_dk dc_X12_deed 53 rfl) rfl rfl z
              · rw [if_pos c_12] at h
                refine PW_aload_n (pc' := 82) (q := 0) (pw_dk dc_X12_deed 47 rfl) rfl rfl rfl ?_
                refine PW_getR (pc' := 85) (id := 5000) (ci := 12) (nn := 0) (C0 := RX12) (T := TX12) (N := 62) (j := 44) (r := 5045) (pw_dk dc_X12_deed 48 rfl) rfl me_5000 rfl pi_12 (by decide) fk_12_44 tw_1441 (rfl) (by decide) ?_
                refine PW_iload_n (pc' := 86) (q := 1) (pw_dk dc_X12_deed 49 rfl) rfl rfl rfl ?_
                obtain ⟨v_13, hi_14, e_15, h⟩ := wp_rdIx h
                refine PZ_ialdx (pc' := 87) (v := v_13) (id := 5045) (nn := 276) (pw_dk dc_X12_deed 50 rfl) rfl me_5045 hi_14 e_15 ?_
                refine PW_goto (tgt := 91) (pw_dk dc_X12_deed 51 rfl) (by decide) ?_
                have z := wp_some h
                exact PZ_iret (ty := .int) (pw_dk dc_X12_deed 53 rfl) rfl rfl z
            · rw [if_pos c_11] at h
              refine PW_aload_n (pc' := 68) (q := 0) (pw_dk dc_X12_deed 39 rfl) rfl rfl rfl ?_
              refine PW_getR (pc' := 71) (id := 5000) (ci := 12) (nn := 0) (C0 := RX12) (T := TX12) (N := 62) (j := 16) (r := 5017) (pw_dk dc_X12_deed 40 rfl) rfl me_5000 rfl pi_12 (by decide) fk_12_16 tw_1413 (rfl) (by decide) ?_
              refine PW_iload_n (pc' := 72) (q := 1) (pw_dk dc_X12_deed 41 rfl) rfl rfl rfl ?_
              obtain ⟨v_16, hi_17, e_18, h⟩ := wp_rdIx h
              refine PZ_ialdx (pc' := 73) (v := v_16) (id := 5017) (nn := 24) (pw_dk dc_X12_deed 42 rfl) rfl me_5017 hi_17 e_18 ?_
              refine PW_goto (tgt := 91) (pw_dk dc_X12_deed 43 rfl) (by decide) ?_
              have z := wp_some h
              exact PZ_iret (ty := .int) (pw_dk dc_X12_deed 53 rfl) rfl rfl z
          · rw [if_pos c_10] at h
            refine PW_aload_n (pc' := 54) (q := 0) (pw_dk dc_X12_deed 31 rfl) rfl rfl rfl ?_
            refine PW_getR (pc' := 57) (id := 5000) (ci := 12) (nn := 0) (C0 := RX12) (T := TX12) (N := 62) (j := 15) (r := 5016) (pw_dk dc_X12_deed 32 rfl) rfl me_5000 rfl pi_12 (by decide) fk_12_15 tw_1412 (rfl) (by decide) ?_
            refine PW_iload_n (pc' := 58) (q := 1) (pw_dk dc_X12_deed 33 rfl) rfl rfl rfl ?_
            obtain ⟨v_19, hi_20, e_21, h⟩ := wp_rdIx h
            refine PZ_ialdx (pc' := 59) (v := v_19) (id := 5016) (nn := 24) (pw_dk dc_X12_deed 34 rfl) rfl me_5016 hi_20 e_21 ?_
            refine PW_goto (tgt := 91) (pw_dk dc_X12_deed 35 rfl) (by decide) ?_
            have z := wp_some h
            exact PZ_iret (ty := .int) (pw_dk dc_X12_deed 53 rfl) rfl rfl z
        · rw [if_pos c_9] at h
          refine PW_aload_n (pc' := 40) (q := 0) (pw_dk dc_X12_deed 23 rfl) rfl rfl rfl ?_
          refine PW_getR (pc' := 43) (id := 5000) (ci := 12) (nn := 0) (C0 := RX12) (T := TX12) (N := 62) (j := 14) (r := 5015) (pw_dk dc_X12_deed 24 rfl) rfl me_5000 rfl pi_12 (by decide) fk_12_14 tw_1411 (rfl) (by decide) ?_
          refine PW_iload_n (pc' := 44) (q := 1) (pw_dk dc_X12_deed 25 rfl) rfl rfl rfl ?_
          obtain ⟨v_22, hi_23, e_24, h⟩ := wp_rdIx h
          refine PZ_ialdx (pc' := 45) (v := v_22) (id := 5015) (nn := 24) (pw_dk dc_X12_deed 26 rfl) rfl me_5015 hi_23 e_24 ?_
          refine PW_goto (tgt := 91) (pw_dk dc_X12_deed 27 rfl) (by decide) ?_
          have z := wp_some h
          exact PZ_iret (ty := .int) (pw_dk dc_X12_deed 53 rfl) rfl rfl z
      · rw [if_pos c_8] at h
        refine PW_aload_n (pc' := 26) (q := 0) (pw_dk dc_X12_deed 15 rfl) rfl rfl rfl ?_
        refine PW_getR (pc' := 29) (id := 5000) (ci := 12) (nn := 0) (C0 := RX12) (T := TX12) (N := 62) (j := 13) (r := 5014) (pw_dk dc_X12_deed 16 rfl) rfl me_5000 rfl pi_12 (by decide) fk_12_13 tw_1410 (rfl) (by decide) ?_
        refine PW_iload_n (pc' := 30) (q := 1) (pw_dk dc_X12_deed 17 rfl) rfl rfl rfl ?_
        obtain ⟨v_25, hi_26, e_27, h⟩ := wp_rdIx h
        refine PZ_ialdx (pc' := 31) (v := v_25) (id := 5014) (nn := 24) (pw_dk dc_X12_deed 18 rfl) rfl me_5014 hi_26 e_27 ?_
        refine PW_goto (tgt := 91) (pw_dk dc_X12_deed 19 rfl) (by decide) ?_
        have z := wp_some h
        exact PZ_iret (ty := .int) (pw_dk dc_X12_deed 53 rfl) rfl rfl z
    · rw [if_neg c_7] at h
      refine PW_iconst (pc' := 20) (v := (-1 : Int32)) (pw_dk dc_X12_deed 11 rfl) rfl (by decide) ?_
      have z := wp_some h
      exact PZ_iret (ty := .int) (pw_dk dc_X12_deed 12 rfl) rfl rfl z
def f_X12_clash_51 (r9 : Int32 → Int32 → zS → Option (Int32 × zS)) (x1 : Int32) (x2 : Int32) (σ : zS) : Option (Int32 × zS) := 
  r9 x1 (x2 + 1) σ
theorem b_X12_clash_51 {Q : Option Value → zS → Prop} (r9 : Int32 → Int32 → zS → Option (Int32 × zS)) (hr9 : ∀ (x1 : Int32) (x2 : Int32) (σ : zS), wpO (r9 x1 x2 σ) (fun a => Q (some (.int a.1)) a.2) → PZ alM mX12_clash (0) Q 9 [(0, .ref 5000), (1, .int x1), (2, .int x2)] [] σ) (x1 : Int32) (x2 : Int32) (σ : zS) (h : wpO (f_X12_clash_51 r9 x1 x2 σ) (fun a => Q (some (.int a.1)) a.2)) : PZ alM mX12_clash (0) Q 51 [(0, .ref 5000), (1, .int x1), (2, .int x2)] [] σ := by
  unfold f_X12_clash_51 at h
  refine PW_iinc (pc' := 54) (q := 2) (v := x2 + 1) (lv' := [(2, .int (x2 + 1)), (0, .ref 5000), (1, .int x1)]) (pw_dk dc_X12_clash 33 rfl) rfl rfl rfl (by decide) rfl ?_
  refine PW_goto (tgt := 9) (pw_dk dc_X12_clash 34 rfl) (by decide) ?_
  refine PW_sub (lv' := [(0, .ref 5000), (1, .int x1), (2, .int (x2 + 1))]) [1, 2, 0] rfl ?_
  exact hr9 x1 (x2 + 1) σ h
def f_X12_clash_49 (r9 : Int32 → Int32 → zS → Option (Int32 × zS)) (x2 : Int32) (σ : zS) : Option (Int32 × zS) := 
  f_X12_clash_51 r9 x2 x2 σ
theorem b_X12_clash_49 {Q : Option Value → zS → Prop} (r9 : Int32 → Int32 → zS → Option (Int32 × zS)) (hr9 : ∀ (x1 : Int32) (x2 : Int32) (σ : zS), wpO (r9 x1 x2 σ) (fun a => Q (some (.int a.1)) a.2) → PZ alM mX12_clash (0) Q 9 [(0, .ref 5000), (1, .int x1), (2, .int x2)] [] σ) (x2 : Int32) (σ : zS) (h : wpO (f_X12_clash_49 r9 x2 σ) (fun a => Q (some (.int a.1)) a.2)) : PZ alM mX12_clash (0) Q 49 [(0, .ref 5000), (2, .int x2)] [] σ := by
  unfold f_X12_clash_49 at h
  refine PW_iload_n (pc' := 50) (q := 1) (pw_dk dc_X12_clash 31 rfl) rfl rfl rfl ?_
  refine PW_istore_n (pc' := 51) (lv' := [(1, .int x2), (0, .ref 5000), (2, .int x2)]) (pw_dk dc_X12_clash 32 rfl) rfl rfl (by decide) rfl ?_
  refine PW_sub (lv' := [(0, .ref 5000), (1, .int x2), (2, .int x2)]) [1, 0, 2] rfl ?_
  exact b_X12_clash_51 r9 hr9 x2 x2 σ h
def f_X12_clash_9  : Nat → Int32 → Int32 → zS → Option (Int32 × zS)
  | 0, _, _, _ => none
  | n + 1, x1, x2, σ => 
    (rdI σ 5004 16 3).bind fun v_1 =>
    if v_1 ≤ x2 then
      some (x1, σ)
    else
      (rdI σ 5045 276 x2).bind fun v_5 =>
      if v_5 = 2 then
        if x1 = (-1 : Int32) then
          f_X12_clash_49 (f_X12_clash_9 n) x2 σ
        else
          (rdI σ 5017 24 x2).bind fun v_10 =>
          (rdI σ 5017 24 x1).bind fun v_13 =>
          if v_13 ≤ v_10 then
            f_X12_clash_51 (f_X12_clash_9 n) x1 x2 σ
          else
            f_X12_clash_49 (f_X12_clash_9 n) x2 σ
      else
        f_X12_clash_51 (f_X12_clash_9 n) x1 x2 σ
theorem b_X12_clash_9 {Q : Option Value → zS → Prop} : ∀ (n : Nat) (x1 : Int32) (x2 : Int32) (σ : zS) (h : wpO (f_X12_clash_9 n x1 x2 σ) (fun a => Q (some (.int a.1)) a.2)), PZ alM mX12_clash (0) Q 9 [(0, .ref 5000), (1, .int x1), (2, .int x2)] [] σ := by
  intro n
  induction n with
  | zero => intro x1 x2 σ h; exact wp_none h
  | succ n ih =>
    intro x1 x2 σ h
    rw [f_X12_clash_9] at h
    refine PW_iload_n (pc' := 10) (q := 2) (pw_dk dc_X12_clash 7 rfl) rfl rfl rfl ?_
    refine PW_aload_n (pc' := 11) (q := 0) (pw_dk dc_X12_clash 8 rfl) rfl rfl rfl ?_
    refine PW_getR (pc' := 14) (id := 5000) (ci := 12) (nn := 0) (C0 := RX12) (T := TX12) (N := 62) (j := 3) (r := 5004) (pw_dk dc_X12_clash 9 rfl) rfl me_5000 rfl pi_12 (by decide) fk_12_3 tw_1400 (rfl) (by decide) ?_
    refine PW_iconst (pc' := 15) (v := 3) (pw_dk dc_X12_clash 10 rfl) rfl (by decide) ?_
    obtain ⟨v_1, hi_2, e_3, h⟩ := wp_rdIx h
    refine PZ_ialdx (pc' := 16) (v := v_1) (id := 5004) (nn := 16) (pw_dk dc_X12_clash 11 rfl) rfl me_5004 hi_2 e_3 ?_
    refine PW_icmp_ge (pc' := 19) (tgt := 57) (pw_dk dc_X12_clash 12 rfl) rfl (by decide) (fun c_4 => ?_) (fun c_4 => ?_)
    · rw [if_pos c_4] at h
      refine PW_iload_n (pc' := 58) (q := 1) (pw_dk dc_X12_clash 35 rfl) rfl rfl rfl ?_
      have z := wp_some h
      exact PZ_iret (ty := .int) (pw_dk dc_X12_clash 36 rfl) rfl rfl z
    · rw [if_neg c_4] at h
      refine PW_aload_n (pc' := 20) (q := 0) (pw_dk dc_X12_clash 13 rfl) rfl rfl rfl ?_
      refine PW_getR (pc' := 23) (id := 5000) (ci := 12) (nn := 0) (C0 := RX12) (T := TX12) (N := 62) (j := 44) (r := 5045) (pw_dk dc_X12_clash 14 rfl) rfl me_5000 rfl pi_12 (by decide) fk_12_44 tw_1441 (rfl) (by decide) ?_
      refine PW_iload_n (pc' := 24) (q := 2) (pw_dk dc_X12_clash 15 rfl) rfl rfl rfl ?_
      obtain ⟨v_5, hi_6, e_7, h⟩ := wp_rdIx h
      refine PZ_ialdx (pc' := 25) (v := v_5) (id := 5045) (nn := 276) (pw_dk dc_X12_clash 16 rfl) rfl me_5045 hi_6 e_7 ?_
      refine PW_iconst (pc' := 26) (v := 2) (pw_dk dc_X12_clash 17 rfl) rfl (by decide) ?_
      refine PW_icmp_ne (pc' := 29) (tgt := 51) (pw_dk dc_X12_clash 18 rfl) rfl (by decide) (fun c_8 => ?_) (fun c_8 => ?_)
      · rw [if_neg c_8] at h
        exact b_X12_clash_51 (f_X12_clash_9 n) ih x1 x2 σ h
      · rw [if_pos c_8] at h
        refine PW_iload_n (pc' := 30) (q := 1) (pw_dk dc_X12_clash 19 rfl) rfl rfl rfl ?_
        refine PW_iconst (pc' := 31) (v := (-1 : Int32)) (pw_dk dc_X12_clash 20 rfl) rfl (by decide) ?_
        refine PW_icmp_eq (pc' := 34) (tgt := 49) (pw_dk dc_X12_clash 21 rfl) rfl (by decide) (fun c_9 => ?_) (fun c_9 => ?_)
        · rw [if_pos c_9] at h
          refine PW_sub (lv' := [(0, .ref 5000), (2, .int x2)]) [0, 2] rfl ?_
          exact b_X12_clash_49 (f_X12_clash_9 n) ih x2 σ h
        · rw [if_neg c_9] at h
          refine PW_aload_n (pc' := 35) (q := 0) (pw_dk dc_X12_clash 22 rfl) rfl rfl rfl ?_
          refine PW_getR (pc' := 38) (id := 5000) (ci := 12) (nn := 0) (C0 := RX12) (T := TX12) (N := 62) (j := 16) (r := 5017) (pw_dk dc_X12_clash 23 rfl) rfl me_5000 rfl pi_12 (by decide) fk_12_16 tw_1413 (rfl) (by decide) ?_
          refine PW_iload_n (pc' := 39) (q := 2) (pw_dk dc_X12_clash 24 rfl) rfl rfl rfl ?_
          obtain ⟨v_10, hi_11, e_12, h⟩ := wp_rdIx h
          refine PZ_ialdx (pc' := 40) (v := v_10) (id := 5017) (nn := 24) (pw_dk dc_X12_clash 25 rfl) rfl me_5017 hi_11 e_12 ?_
          refine PW_aload_n (pc' := 41) (q := 0) (pw_dk dc_X12_clash 26 rfl) rfl rfl rfl ?_
          refine PW_getR (pc' := 44) (id := 5000) (ci := 12) (nn := 0) (C0 := RX12) (T := TX12) (N := 62) (j := 16) (r := 5017) (pw_dk dc_X12_clash 27 rfl) rfl me_5000 rfl pi_12 (by decide) fk_12_16 tw_1413 (rfl) (by decide) ?_
          refine PW_iload_n (pc' := 45) (q := 1) (pw_dk dc_X12_clash 28 rfl) rfl rfl rfl ?_
          obtain ⟨v_13, hi_14, e_15, h⟩ := wp_rdIx h
          refine PZ_ialdx (pc' := 46) (v := v_13) (id := 5017) (nn := 24) (pw_dk dc_X12_clash 29 rfl) rfl me_5017 hi_14 e_15 ?_
          refine PW_icmp_ge (pc' := 49) (tgt := 51) (pw_dk dc_X12_clash 30 rfl) rfl (by decide) (fun c_16 => ?_) (fun c_16 => ?_)
          · rw [if_pos c_16] at h
            exact b_X12_clash_51 (f_X12_clash_9 n) ih x1 x2 σ h
          · rw [if_neg c_16] at h
            refine PW_sub (lv' := [(0, .ref 5000), (2, .int x2)]) [0, 2] rfl ?_
            exact b_X12_clash_49 (f_X12_clash_9 n) ih x2 σ h
def f_X12_clash  (σ : zS) : Option (Int32 × zS) := 
  lt (wI σ 5000 0 0) fun σ_1 =>
  f_X12_clash_9 FU (-1 : Int32) 0 σ_1
theorem t_X12_clash (σ : zS) (Q : Option Value → zS → Prop) (h : wpO (f_X12_clash σ) (fun a => Q (some (.int a.1)) a.2)) : PK alM yX12_clash mX12_clash (0) [.ref 5000] σ Q := by
  refine PC_ofF (by decide +kernel) rfl rfl (Nat.le_of_ble_eq_true rfl) ?_
  show PZ alM mX12_clash (0) Q 0 [(0, .ref 5000)] [] σ
  unfold f_X12_clash at h
  refine PW_aload_n (pc' := 1) (q := 0) (pw_dk dc_X12_clash 0 rfl) rfl rfl rfl ?_
  refine PW_iconst (pc' := 2) (v := 0) (pw_dk dc_X12_clash 1 rfl) rfl (by decide) ?_
  obtain ⟨σ_1, e_2, h⟩ := lt_x h
  refine PZ_putX (pc' := 5) (σ' := σ_1) (id := 5000) (ci := 12) (nn := 0) (C0 := RX12) (T := TX12) (N := 62) (j := 0) (ty := tyX12 0) (pw_dk dc_X12_clash 2 rfl) rfl me_5000 rfl pi_12 tyX12_ok nmX12 (by decide) fk_12_0 tw_1397 rfl (tyX12_ok 0 (by decide)) (by first | rfl | decide) (by first | rfl | decide) e_2 ?_
  refine PW_iconst (pc' := 6) (v := (-1 : Int32)) (pw_dk dc_X12_clash 3 rfl) rfl (by decide) ?_
  refine PW_istore_n (pc' := 7) (lv' := [(1, .int (-1 : Int32)), (0, .ref 5000)]) (pw_dk dc_X12_clash 4 rfl) rfl rfl (by decide) rfl ?_
  refine PW_iconst (pc' := 8) (v := 0) (pw_dk dc_X12_clash 5 rfl) rfl (by decide) ?_
  refine PW_istore_n (pc' := 9) (lv' := [(2, .int 0), (1, .int (-1 : Int32)), (0, .ref 5000)]) (pw_dk dc_X12_clash 6 rfl) rfl rfl (by decide) rfl ?_
  refine PW_sub (lv' := [(0, .ref 5000), (1, .int (-1 : Int32)), (2, .int 0)]) [2, 1, 0] rfl ?_
  exact b_X12_clash_9 FU (-1 : Int32) 0 σ_1 h
def f_X12_keepNow_45   (σ : zS) : Option zS := 
  (f_X12_copies ((3 : Int32) + (σ.1 5000 46)) 0 σ).bind fun σ_2 =>
  lt (wI σ_2 5000 46 ((σ_2.1 5000 46) + (1 : Int32))) fun σ_4 =>
  some σ_4
theorem b_X12_keepNow_45 {Q : Option Value → zS → Prop}  (σ : zS) (h : wpO (f_X12_keepNow_45 σ) (fun s => Q none s)) : PZ alM mX12_keepNow (1) Q 45 [(0, .ref 5000)] [] σ := by
  unfold f_X12_keepNow_45 at h
  refine PW_aload_n (pc' := 46) (q := 0) (pw_dk dc_X12_keepNow 27 rfl) rfl rfl rfl ?_
  refine PW_iconst (pc' := 47) (v := 3) (pw_dk dc_X12_keepNow 28 rfl) rfl (by decide) ?_
  refine PW_aload_n (pc' := 48) (q := 0) (pw_dk dc_X12_keepNow 29 rfl) rfl rfl rfl ?_
  refine PZ_getI (pc' := 51) (id := 5000) (ci := 12) (nn := 0) (C0 := RX12) (T := TX12) (N := 62) (j := 46) (pw_dk dc_X12_keepNow 30 rfl) rfl me_5000 rfl pi_12 (by decide) fk_12_46 tw_1443 ?_
  refine PW_iadd (pc' := 52) (pw_dk dc_X12_keepNow 31 rfl) rfl ?_
  refine PW_iconst (pc' := 53) (v := 0) (pw_dk dc_X12_keepNow 32 rfl) rfl (by decide) ?_
  refine PZ_callVv (pc' := 56) (y := yX12_copies) (M' := mX12_copies) (d' := 0) (As := [.int ((3 : Int32) + (σ.1 5000 46)), .int 0]) (st := []) (b := 5000) (ci := 12) (nn := 0) me_5000 rfl tw_1850 tw_90 (pw_dk dc_X12_keepNow 33 rfl) rfl Y_X12_copies tw_1848 rfl (by decide) (Nat.le_of_ble_eq_true rfl) (t_X12_copies ((3 : Int32) + (σ.1 5000 46)) 0 σ _ ?_)
  obtain ⟨σ_2, e_3, h⟩ := wp_bind h
  refine ⟨σ_2, e_3, rfl, fun hn_1 => ?_⟩
  show PZ alM mX12_keepNow (1) Q 56 [(0, .ref 5000)] [] σ_2
  refine PW_aload_n (pc' := 57) (q := 0) (pw_dk dc_X12_keepNow 34 rfl) rfl rfl rfl ?_
  refine PW_dup (pc' := 58) (pw_dk dc_X12_keepNow 35 rfl) rfl rfl ?_
  refine PZ_getI (pc' := 61) (id := 5000) (ci := 12) (nn := 0) (C0 := RX12) (T := TX12) (N := 62) (j := 46) (pw_dk dc_X12_keepNow 36 rfl) rfl me_5000 rfl pi_12 (by decide) fk_12_46 tw_1443 ?_
  refine PW_iconst (pc' := 62) (v := 1) (pw_dk dc_X12_keepNow 37 rfl) rfl (by decide) ?_
  refine PW_iadd (pc' := 63) (pw_dk dc_X12_keepNow 38 rfl) rfl ?_
  obtain ⟨σ_4, e_5, h⟩ := lt_x h
  refine PZ_putX (pc' := 66) (σ' := σ_4) (id := 5000) (ci := 12) (nn := 0) (C0 := RX12) (T := TX12) (N := 62) (j := 46) (ty := tyX12 46) (pw_dk dc_X12_keepNow 39 rfl) rfl me_5000 rfl pi_12 tyX12_ok nmX12 (by decide) fk_12_46 tw_1443 rfl (tyX12_ok 46 (by decide)) (by first | rfl | decide) (by first | rfl | decide) e_5 ?_
  have z := wp_some h
  exact PZ_vret (pw_dk dc_X12_keepNow 40 rfl) rfl z
def f_X12_keepNow_11  : Nat → Int32 → zS → Option zS
  | 0, _, _ => none
  | n + 1, x1, σ => 
    if 20 ≤ x1 then
      lt (wI σ 5000 46 ((σ.1 5000 46) - (1 : Int32))) fun σ_2 =>
      f_X12_keepNow_45 σ_2
    else
      (f_X12_copies (((3 : Int32) + x1) - (1 : Int32)) ((3 : Int32) + x1) σ).bind fun σ_5 =>
      f_X12_keepNow_11 n (x1 + 1) σ_5
theorem b_X12_keepNow_11 {Q : Option Value → zS → Prop} : ∀ (n : Nat) (x1 : Int32) (σ : zS) (h : wpO (f_X12_keepNow_11 n x1 σ) (fun s => Q none s)), PZ alM mX12_keepNow (1) Q 11 [(0, .ref 5000), (1, .int x1)] [] σ := by
  intro n
  induction n with
  | zero => intro x1 σ h; exact wp_none h
  | succ n ih =>
    intro x1 σ h
    rw [f_X12_keepNow_11] at h
    refine PW_iload_n (pc' := 12) (q := 1) (pw_dk dc_X12_keepNow 6 rfl) rfl rfl rfl ?_
    refine PW_bipush (pc' := 14) (v := 20) (pw_dk dc_X12_keepNow 7 rfl) rfl (by decide) ?_
    refine PW_icmp_ge (pc' := 17) (tgt := 35) (pw_dk dc_X12_keepNow 8 rfl) rfl (by decide) (fun c_1 => ?_) (fun c_1 => ?_)
    · rw [if_pos c_1] at h
      refine PW_aload_n (pc' := 36) (q := 0) (pw_dk dc_X12_keepNow 21 rfl) rfl rfl rfl ?_
      refine PW_dup (pc' := 37) (pw_dk dc_X12_keepNow 22 rfl) rfl rfl ?_
      refine PZ_getI (pc' := 40) (id := 5000) (ci := 12) (nn := 0) (C0 := RX12) (T := TX12) (N := 62) (j := 46) (pw_dk dc_X12_keepNow 23 rfl) rfl me_5000 rfl pi_12 (by decide) fk_12_46 tw_1443 ?_
      refine PW_iconst (pc' := 41) (v := 1) (pw_dk dc_X12_keepNow 24 rfl) rfl (by decide) ?_
      refine PW_isub (pc' := 42) (pw_dk dc_X12_keepNow 25 rfl) rfl ?_
      obtain ⟨σ_2, e_3, h⟩ := lt_x h
      refine PZ_putX (pc' := 45) (σ' := σ_2) (id := 5000) (ci := 12) (nn := 0) (C0 := RX12) (T := TX12) (N := 62) (j := 46) (ty := tyX12 46) (pw_dk dc_X12_keepNow 26 rfl) rfl me_5000 rfl pi_12 tyX12_ok nmX12 (by decide) fk_12_46 tw_1443 rfl (tyX12_ok 46 (by decide)) (by first | rfl | decide) (by first | rfl | decide) e_3 ?_
      refine PW_sub (lv' := [(0, .ref 5000)]) [0] rfl ?_
      exact b_X12_keepNow_45 σ_2 h
    · rw [if_neg c_1] at h
      refine PW_aload_n (pc' := 18) (q := 0) (pw_dk dc_X12_keepNow 9 rfl) rfl rfl rfl ?_
      refine PW_iconst (pc' := 19) (v := 3) (pw_dk dc_X12_keepNow 10 rfl) rfl (by decide) ?_
      refine PW_iload_n (pc' := 20) (q := 1) (pw_dk dc_X12_keepNow 11 rfl) rfl rfl rfl ?_
      refine PW_iadd (pc' := 21) (pw_dk dc_X12_keepNow 12 rfl) rfl ?_
      refine PW_iconst (pc' := 22) (v := 1) (pw_dk dc_X12_keepNow 13 rfl) rfl (by decide) ?_
      refine PW_isub (pc' := 23) (pw_dk dc_X12_keepNow 14 rfl) rfl ?_
      refine PW_iconst (pc' := 24) (v := 3) (pw_dk dc_X12_keepNow 15 rfl) rfl (by decide) ?_
      refine PW_iload_n (pc' := 25) (q := 1) (pw_dk dc_X12_keepNow 16 rfl) rfl rfl rfl ?_
      refine PW_iadd (pc' := 26) (pw_dk dc_X12_keepNow 17 rfl) rfl ?_
      refine PZ_callVv (pc' := 29) (y := yX12_copies) (M' := mX12_copies) (d' := 0) (As := [.int (((3 : Int32) + x1) - (1 : Int32)), .int ((3 : Int32) + x1)]) (st := []) (b := 5000) (ci := 12) (nn := 0) me_5000 rfl tw_1850 tw_90 (pw_dk dc_X12_keepNow 18 rfl) rfl Y_X12_copies tw_1848 rfl (by decide) (Nat.le_of_ble_eq_true rfl) (t_X12_copies (((3 : Int32) + x1) - (1 : Int32)) ((3 : Int32) + x1) σ _ ?_)
      obtain ⟨σ_5, e_6, h⟩ := wp_bind h
      refine ⟨σ_5, e_6, rfl, fun hn_4 => ?_⟩
      show PZ alM mX12_keepNow (1) Q 29 [(0, .ref 5000), (1, .int x1)] [] σ_5
      refine PW_iinc (pc' := 32) (q := 1) (v := x1 + 1) (lv' := [(1, .int (x1 + 1)), (0, .ref 5000)]) (pw_dk dc_X12_keepNow 19 rfl) rfl rfl rfl (by decide) rfl ?_
      refine PW_goto (tgt := 11) (pw_dk dc_X12_keepNow 20 rfl) (by decide) ?_
      refine PW_sub (lv' := [(0, .ref 5000), (1, .int (x1 + 1))]) [1, 0] rfl ?_
      exact ih (x1 + 1) σ_5 h
def f_X12_keepNow  (σ : zS) : Option zS := 
  if (σ.1 5000 46) = 20 then
    f_X12_keepNow_11 FU 1 σ
  else
    f_X12_keepNow_45 σ
theorem t_X12_keepNow (σ : zS) (Q : Option Value → zS → Prop) (h : wpO (f_X12_keepNow σ) (fun s => Q none s)) : PK alM yX12_keepNow mX12_keepNow (1) [.ref 5000] σ Q := by
  refine PC_ofF (by decide +kernel) rfl rfl (Nat.le_of_ble_eq_true rfl) ?_
  show PZ alM mX12_keepNow (1) Q 0 [(0, .ref 5000)] [] σ
  unfold f_X12_keepNow at h
  refine PW_aload_n (pc' := 1) (q := 0) (pw_dk dc_X12_keepNow 0 rfl) rfl rfl rfl ?_
  refine PZ_getI (pc' := 4) (id := 5000) (ci := 12) (nn := 0) (C0 := RX12) (T := TX12) (N := 62) (j := 46) (pw_dk dc_X12_keepNow 1 rfl) rfl me_5000 rfl pi_12 (by decide) fk_12_46 tw_1443 ?_
  refine PW_bipush (pc' := 6) (v := 20) (pw_dk dc_X12_keepNow 2 rfl) rfl (by decide) ?_
  refine PW_icmp_ne (pc' := 9) (tgt := 45) (pw_dk dc_X12_keepNow 3 rfl) rfl (by decide) (fun c_1 => ?_) (fun c_1 => ?_)
  · rw [if_neg c_1] at h
    exact b_X12_keepNow_45 σ h
  · rw [if_pos c_1] at h
    refine PW_iconst (pc' := 10) (v := 1) (pw_dk dc_X12_keepNow 4 rfl) rfl (by decide) ?_
    refine PW_istore_n (pc' := 11) (lv' := [(1, .int 1), (0, .ref 5000)]) (pw_dk dc_X12_keepNow 5 rfl) rfl rfl (by decide) rfl ?_
    refine PW_sub (lv' := [(0, .ref 5000), (1, .int 1)]) [1, 0] rfl ?_
    exact b_X12_keepNow_11 FU 1 σ h
def f_X12_move (x1 : Int32) (x2 : Int32) (σ : zS) : Option (Int32 × zS) := 
  lt (wI σ 5000 0 0) fun σ_1 =>
  (f_X12_isMan x1 σ_1).bind fun v_4 =>
  if v_4 = 0 then
    some (0, σ_1)
  else
    if x2 < 0 then
      some (0, σ_1)
    else
      if 5 < x2 then
        some (0, σ_1)
      else
        (rdI σ_1 5042 115 x1).bind fun v_9 =>
        (f_X12_moved v_9 x2 σ_1).bind fun v_13 =>
        if v_13 = (-1 : Int32) then
          some (0, σ_1)
        else
          (f_X12_keepNow σ_1).bind fun σ_17 =>
          (rdI σ_17 5042 115 x1).bind fun v_19 =>
          (f_X12_moved v_19 x2 σ_17).bind fun v_23 =>
          (wrI σ_17 5042 115 x1 v_23).bind fun σ_25 =>
          (rdI σ_25 5041 23 0).bind fun v_28 =>
          (wrI σ_25 5041 23 0 (v_28 + (1 : Int32))).bind fun σ_31 =>
          some (1, σ_31)
theorem t_X12_move (x1 : Int32) (x2 : Int32) (σ : zS) (Q : Option Value → zS → Prop) (h : wpO (f_X12_move x1 x2 σ) (fun a => Q (some (.int a.1)) a.2)) : PK alM yX12_move mX12_move (2) [.ref 5000, .int x1, .int x2] σ Q := by
  refine PC_ofF (by decide +kernel) rfl rfl (Nat.le_of_ble_eq_true rfl) ?_
  show PZ alM mX12_move (2) Q 0 [(0, .ref 5000), (1, .int x1), (2, .int x2)] [] σ
  unfold f_X12_move at h
  refine PW_aload_n (pc' := 1) (q := 0) (pw_dk dc_X12_move 0 rfl) rfl rfl rfl ?_
  refine PW_iconst (pc' := 2) (v := 0) (pw_dk dc_X12_move 1 rfl) rfl (by decide) ?_
  obtain ⟨σ_1, e_2, h⟩ := lt_x h
  refine PZ_putX (pc' := 5) (σ' := σ_1) (id := 5000) (ci := 12) (nn := 0) (C0 := RX12) (T := TX12) (N := 62) (j := 0) (ty := tyX12 0) (pw_dk dc_X12_move 2 rfl) rfl me_5000 rfl pi_12 tyX12_ok nmX12 (by decide) fk_12_0 tw_1397 rfl (tyX12_ok 0 (by decide)) (by first | rfl | decide) (by first | rfl | decide) e_2 ?_
  refine PW_aload_n (pc' := 6) (q := 0) (pw_dk dc_X12_move 3 rfl) rfl rfl rfl ?_
  refine PW_iload_n (pc' := 7) (q := 1) (pw_dk dc_X12_move 4 rfl) rfl rfl rfl ?_
  refine PZ_callVi (pc' := 10) (y := yX12_isMan) (M' := mX12_isMan) (d' := 0) (As := [.int x1]) (st := []) (b := 5000) (ci := 12) (nn := 0) me_5000 rfl tw_1742 tw_77 (pw_dk dc_X12_move 5 rfl) rfl Y_X12_isMan tw_1740 rfl (by decide) (Nat.le_of_ble_eq_true rfl) (t_X12_isMan x1 σ_1 _ ?_)
  obtain ⟨v_4, e_5, h⟩ := wp_bind h
  refine ⟨v_4, e_5, _, rfl, fun hn_3 => ?_⟩
  show PZ alM mX12_move (2) Q 10 [(0, .ref 5000), (1, .int x1), (2, .int x2)] [.int v_4] σ_1
  refine PW_if_eq (pc' := 13) (tgt := 37) (pw_dk dc_X12_move 6 rfl) rfl (by decide) (fun c_6 => ?_) (fun c_6 => ?_)
  · rw [if_pos c_6] at h
    refine PW_iconst (pc' := 38) (v := 0) (pw_dk dc_X12_move 21 rfl) rfl (by decide) ?_
    have z := wp_some h
    exact PZ_iret (ty := .boolean) (pw_dk dc_X12_move 22 rfl) rfl (by decide) z
  · rw [if_neg c_6] at h
    refine PW_iload_n (pc' := 14) (q := 2) (pw_dk dc_X12_move 7 rfl) rfl rfl rfl ?_
    refine PW_if_lt (pc' := 17) (tgt := 37) (pw_dk dc_X12_move 8 rfl) rfl (by decide) (fun c_7 => ?_) (fun c_7 => ?_)
    · rw [if_pos c_7] at h
      refine PW_iconst (pc' := 38) (v := 0) (pw_dk dc_X12_move 21 rfl) rfl (by decide) ?_
      have z := wp_some h
      exact PZ_iret (ty := .boolean) (pw_dk dc_X12_move 22 rfl) rfl (by decide) z
    · rw [if_neg c_7] at h
      refine PW_iload_n (pc' := 18) (q := 2) (pw_dk dc_X12_move 9 rfl) rfl rfl rfl ?_
      refine PW_iconst (pc' := 19) (v := 5) (pw_dk dc_X12_move 10 rfl) rfl (by decide) ?_
      refine PW_icmp_gt (pc' := 22) (tgt := 37) (pw_dk dc_X12_move 11 rfl) rfl (by decide) (fun c_8 => ?_) (fun c_8 => ?_)
      · rw [if_pos c_8] at h
        refine PW_iconst (pc' := 38) (v := 0) (pw_dk dc_X12_move 21 rfl) rfl (by decide) ?_
        have z := wp_some h
        exact PZ_iret (ty := .boolean) (pw_dk dc_X12_move 22 rfl) rfl (by decide) z
      · rw [if_neg c_8] at h
        refine PW_aload_n (pc' := 23) (q := 0) (pw_dk dc_X12_move 12 rfl) rfl rfl rfl ?_
        refine PW_aload_n (pc' := 24) (q := 0) (pw_dk dc_X12_move 13 rfl) rfl rfl rfl ?_
        refine PW_getR (pc' := 27) (id := 5000) (ci := 12) (nn := 0) (C0 := RX12) (T := TX12) (N := 62) (j := 41) (r := 5042) (pw_dk dc_X12_move 14 rfl) rfl me_5000 rfl pi_12 (by decide) fk_12_41 tw_1438 (rfl) (by decide) ?_
        refine PW_iload_n (pc' := 28) (q := 1) (pw_dk dc_X12_move 15 rfl) rfl rfl rfl ?_
        obtain ⟨v_9, hi_10, e_11, h⟩ := wp_rdIx h
        refine PZ_ialdx (pc' := 29) (v := v_9) (id := 5042) (nn := 115) (pw_dk dc_X12_move 16 rfl) rfl me_5042 hi_10 e_11 ?_
        refine PW_iload_n (pc' := 30) (q := 2) (pw_dk dc_X12_move 17 rfl) rfl rfl rfl ?_
        refine PZ_callVi (pc' := 33) (y := yX12_moved) (M' := mX12_moved) (d' := 1) (As := [.int v_9, .int x2]) (st := []) (b := 5000) (ci := 12) (nn := 0) me_5000 rfl tw_1842 tw_88 (pw_dk dc_X12_move 18 rfl) rfl Y_X12_moved tw_1840 rfl (by decide) (Nat.le_of_ble_eq_true rfl) (t_X12_moved v_9 x2 σ_1 _ ?_)
        obtain ⟨v_13, e_14, h⟩ := wp_bind h
        refine ⟨v_13, e_14, _, rfl, fun hn_12 => ?_⟩
        show PZ alM mX12_move (2) Q 33 [(0, .ref 5000), (1, .int x1), (2, .int x2)] [.int v_13] σ_1
        refine PW_iconst (pc' := 34) (v := (-1 : Int32)) (pw_dk dc_X12_move 19 rfl) rfl (by decide) ?_
        refine PW_icmp_ne (pc' := 37) (tgt := 39) (pw_dk dc_X12_move 20 rfl) rfl (by decide) (fun c_15 => ?_) (fun c_15 => ?_)
        · rw [if_neg c_15] at h
          refine PW_aload_n (pc' := 40) (q := 0) (pw_dk dc_X12_move 23 rfl) rfl rfl rfl ?_
          refine PZ_callVv (pc' := 43) (y := yX12_keepNow) (M' := mX12_keepNow) (d' := 1) (As := []) (st := []) (b := 5000) (ci := 12) (nn := 0) me_5000 rfl tw_1846 tw_89 (pw_dk dc_X12_move 24 rfl) rfl Y_X12_keepNow tw_1844 rfl (by decide) (Nat.le_of_ble_eq_true rfl) (t_X12_keepNow σ_1 _ ?_)
          obtain ⟨σ_17, e_18, h⟩ := wp_bind h
          refine ⟨σ_17, e_18, rfl, fun hn_16 => ?_⟩
          show PZ alM mX12_move (2) Q 43 [(0, .ref 5000), (1, .int x1), (2, .int x2)] [] σ_17
          refine PW_aload_n (pc' := 44) (q := 0) (pw_dk dc_X12_move 25 rfl) rfl rfl rfl ?_
          refine PW_getR (pc' := 47) (id := 5000) (ci := 12) (nn := 0) (C0 := RX12) (T := TX12) (N := 62) (j := 41) (r := 5042) (pw_dk dc_X12_move 26 rfl) rfl me_5000 rfl pi_12 (by decide) fk_12_41 tw_1438 (rfl) (by decide) ?_
          refine PW_iload_n (pc' := 48) (q := 1) (pw_dk dc_X12_move 27 rfl) rfl rfl rfl ?_
          refine PW_aload_n (pc' := 49) (q := 0) (pw_dk dc_X12_move 28 rfl) rfl rfl rfl ?_
          refine PW_aload_n (pc' := 50) (q := 0) (pw_dk dc_X12_move 29 rfl) rfl rfl rfl ?_
          refine PW_getR (pc' := 53) (id := 5000) (ci := 12) (nn := 0) (C0 := RX12) (T := TX12) (N := 62) (j := 41) (r := 5042) (pw_dk dc_X12_move 30 rfl) rfl me_5000 rfl pi_12 (by decide) fk_12_41 tw_1438 (rfl) (by decide) ?_
          refine PW_iload_n (pc' := 54) (q := 1) (pw_dk dc_X12_move 31 rfl) rfl rfl rfl ?_
          obtain ⟨v_19, hi_20, e_21, h⟩ := wp_rdIx h
          refine PZ_ialdx (pc' := 55) (v := v_19) (id := 5042) (nn := 115) (pw_dk dc_X12_move 32 rfl) rfl me_5042 hi_20 e_21 ?_
          refine PW_iload_n (pc' := 56) (q := 2) (pw_dk dc_X12_move 33 rfl) rfl rfl rfl ?_
          refine PZ_callVi (pc' := 59) (y := yX12_moved) (M' := mX12_moved) (d' := 1) (As := [.int v_19, .int x2]) (st := [.int x1, .ref 5042]) (b := 5000) (ci := 12) (nn := 0) me_5000 rfl tw_1842 tw_88 (pw_dk dc_X12_move 34 rfl) rfl Y_X12_moved tw_1840 rfl (by decide) (Nat.le_of_ble_eq_true rfl) (t_X12_moved v_19 x2 σ_17 _ ?_)
          obtain ⟨v_23, e_24, h⟩ := wp_bind h
          refine ⟨v_23, e_24, _, rfl, fun hn_22 => ?_⟩
          show PZ alM mX12_move (2) Q 59 [(0, .ref 5000), (1, .int x1), (2, .int x2)] [.int v_23, .int x1, .ref 5042] σ_17
          obtain ⟨σ_25, hi_26, e_27, h⟩ := wp_wrIx h
          refine PZ_iastx (pc' := 60) (σ' := σ_25) (id := 5042) (nn := 115) (pw_dk dc_X12_move 35 rfl) rfl me_5042 hi_26 e_27 ?_
          refine PW_aload_n (pc' := 61) (q := 0) (pw_dk dc_X12_move 36 rfl) rfl rfl rfl ?_
          refine PW_getR (pc' := 64) (id := 5000) (ci := 12) (nn := 0) (C0 := RX12) (T := TX12) (N := 62) (j := 40) (r := 5041) (pw_dk dc_X12_move 37 rfl) rfl me_5000 rfl pi_12 (by decide) fk_12_40 tw_1437 (rfl) (by decide) ?_
          refine PW_iconst (pc' := 65) (v := 0) (pw_dk dc_X12_move 38 rfl) rfl (by decide) ?_
          refine PW_dup2 (pc' := 66) (pw_dk dc_X12_move 39 rfl) rfl rfl rfl ?_
          obtain ⟨v_28, hi_29, e_30, h⟩ := wp_rdIx h
          refine PZ_ialdx (pc' := 67) (v := v_28) (id := 5041) (nn := 23) (pw_dk dc_X12_move 40 rfl) rfl me_5041 hi_29 e_30 ?_
          refine PW_iconst (pc' := 68) (v := 1) (pw_dk dc_X12_move 41 rfl) rfl (by decide) ?_
          refine PW_iadd (pc' := 69) (pw_dk dc_X12_move 42 rfl) rfl ?_
          obtain ⟨σ_31, hi_32, e_33, h⟩ := wp_wrIx h
          refine PZ_iastx (pc' := 70) (σ' := σ_31) (id := 5041) (nn := 23) (pw_dk dc_X12_move 43 rfl) rfl me_5041 hi_32 e_33 ?_
          refine PW_iconst (pc' := 71) (v := 1) (pw_dk dc_X12_move 44 rfl) rfl (by decide) ?_
          have z := wp_some h
          exact PZ_iret (ty := .boolean) (pw_dk dc_X12_move 45 rfl) rfl (by decide) z
        · rw [if_pos c_15] at h
          refine PW_iconst (pc' := 38) (v := 0) (pw_dk dc_X12_move 21 rfl) rfl (by decide) ?_
          have z := wp_some h
          exact PZ_iret (ty := .boolean) (pw_dk dc_X12_move 22 rfl) rfl (by decide) z
def f_X12_free (x1 : Int32) (x2 : Int32) (σ : zS) : Option (Int32 × zS) := 
  lt (wI σ 5000 0 0) fun σ_1 =>
  (f_X12_isMan x1 σ_1).bind fun v_4 =>
  if v_4 = 0 then
    some (0, σ_1)
  else
    if (f_X12_isPart x2 σ_1) = 0 then
      some (0, σ_1)
    else
      (rdI σ_1 5044 115 x1).bind fun v_9 =>
      if ((v_9 >>> (x2 &&& 31)) &&& (1 : Int32)) = 0 then
        some (0, σ_1)
      else
        (rdI σ_1 5043 115 x1).bind fun v_13 =>
        (rdI σ_1 5004 16 5).bind fun v_16 =>
        if v_16 ≤ v_13 then
          (f_X12_keepNow σ_1).bind fun σ_21 =>
          (rdI σ_21 5044 115 x1).bind fun v_23 =>
          (wrI σ_21 5044 115 x1 (v_23 &&& (((1 : Int32) <<< (x2 &&& 31)) ^^^ (-1 : Int32)))).bind fun σ_26 =>
          (rdI σ_26 5043 115 x1).bind fun v_29 =>
          (rdI σ_26 5004 16 5).bind fun v_32 =>
          (wrI σ_26 5043 115 x1 (v_29 - v_32)).bind fun σ_35 =>
          some (1, σ_35)
        else
          some (0, σ_1)
theorem t_X12_free (x1 : Int32) (x2 : Int32) (σ : zS) (Q : Option Value → zS → Prop) (h : wpO (f_X12_free x1 x2 σ) (fun a => Q (some (.int a.1)) a.2)) : PK alM yX12_free mX12_free (2) [.ref 5000, .int x1, .int x2] σ Q := by
  refine PC_ofF (by decide +kernel) rfl rfl (Nat.le_of_ble_eq_true rfl) ?_
  show PZ alM mX12_free (2) Q 0 [(0, .ref 5000), (1, .int x1), (2, .int x2)] [] σ
  unfold f_X12_free at h
  refine PW_aload_n (pc' := 1) (q := 0) (pw_dk dc_X12_free 0 rfl) rfl rfl rfl ?_
  refine PW_iconst (pc' := 2) (v := 0) (pw_dk dc_X12_free 1 rfl) rfl (by decide) ?_
  obtain ⟨σ_1, e_2, h⟩ := lt_x h
  refine PZ_putX (pc' := 5) (σ' := σ_1) (id := 5000) (ci := 12) (nn := 0) (C0 := RX12) (T := TX12) (N := 62) (j := 0) (ty := tyX12 0) (pw_dk dc_X12_free 2 rfl) rfl me_5000 rfl pi_12 tyX12_ok nmX12 (by decide) fk_12_0 tw_1397 rfl (tyX12_ok 0 (by decide)) (by first | rfl | decide) (by first | rfl | decide) e_2 ?_
  refine PW_aload_n (pc' := 6) (q := 0) (pw_dk dc_X12_free 3 rfl) rfl rfl rfl ?_
  refine PW_iload_n (pc' := 7) (q := 1) (pw_dk dc_X12_free 4 rfl) rfl rfl rfl ?_
  refine PZ_callVi (pc' := 10) (y := yX12_isMan) (M' := mX12_isMan) (d' := 0) (As := [.int x1]) (st := []) (b := 5000) (ci := 12) (nn := 0) me_5000 rfl tw_1742 tw_77 (pw_dk dc_X12_free 5 rfl) rfl Y_X12_isMan tw_1740 rfl (by decide) (Nat.le_of_ble_eq_true rfl) (t_X12_isMan x1 σ_1 _ ?_)
  obtain ⟨v_4, e_5, h⟩ := wp_bind h
  refine ⟨v_4, e_5, _, rfl, fun hn_3 => ?_⟩
  show PZ alM mX12_free (2) Q 10 [(0, .ref 5000), (1, .int x1), (2, .int x2)] [.int v_4] σ_1
  refine PW_if_eq (pc' := 13) (tgt := 48) (pw_dk dc_X12_free 6 rfl) rfl (by decide) (fun c_6 => ?_) (fun c_6 => ?_)
  · rw [if_pos c_6] at h
    refine PW_iconst (pc' := 49) (v := 0) (pw_dk dc_X12_free 28 rfl) rfl (by decide) ?_
    have z := wp_some h
    exact PZ_iret (ty := .boolean) (pw_dk dc_X12_free 29 rfl) rfl (by decide) z
  · rw [if_neg c_6] at h
    refine PW_iload_n (pc' := 14) (q := 2) (pw_dk dc_X12_free 7 rfl) rfl rfl rfl ?_
    refine PZ_callSi (pc' := 17) (y := yX12_isPart) (M' := mX12_isPart) (d' := 0) (As := [.int x2]) (st := []) tw_1763 (pw_dk dc_X12_free 8 rfl) rfl Y_X12_isPart tw_1762 rfl (by decide) (Nat.le_of_ble_eq_true rfl) (t_X12_isPart x2 σ_1 _ ?_)
    refine ⟨_, rfl, fun hn_7 => ?_⟩
    show PZ alM mX12_free (2) Q 17 [(0, .ref 5000), (1, .int x1), (2, .int x2)] [.int (f_X12_isPart x2 σ_1)] σ_1
    refine PW_if_eq (pc' := 20) (tgt := 48) (pw_dk dc_X12_free 9 rfl) rfl (by decide) (fun c_8 => ?_) (fun c_8 => ?_)
    · rw [if_pos c_8] at h
      refine PW_iconst (pc' := 49) (v := 0) (pw_dk dc_X12_free 28 rfl) rfl (by decide) ?_
      have z := wp_some h
      exact PZ_iret (ty := .boolean) (pw_dk dc_X12_free 29 rfl) rfl (by decide) z
    · rw [if_neg c_8] at h
      refine PW_aload_n (pc' := 21) (q := 0) (pw_dk dc_X12_free 10 rfl) rfl rfl rfl ?_
      refine PW_getR (pc' := 24) (id := 5000) (ci := 12) (nn := 0) (C0 := RX12) (T := TX12) (N := 62) (j := 43) (r := 5044) (pw_dk dc_X12_free 11 rfl) rfl me_5000 rfl pi_12 (by decide) fk_12_43 tw_1440 (rfl) (by decide) ?_
      refine PW_iload_n (pc' := 25) (q := 1) (pw_dk dc_X12_free 12 rfl) rfl rfl rfl ?_
      obtain ⟨v_9, hi_10, e_11, h⟩ := wp_rdIx h
      refine PZ_ialdx (pc' := 26) (v := v_9) (id := 5044) (nn := 115) (pw_dk dc_X12_free 13 rfl) rfl me_5044 hi_10 e_11 ?_
      refine PW_iload_n (pc' := 27) (q := 2) (pw_dk dc_X12_free 14 rfl) rfl rfl rfl ?_
      refine PW_ishr (pc' := 28) (pw_dk dc_X12_free 15 rfl) rfl ?_
      refine PW_iconst (pc' := 29) (v := 1) (pw_dk dc_X12_free 16 rfl) rfl (by decide) ?_
      refine PW_iand (pc' := 30) (pw_dk dc_X12_free 17 rfl) rfl ?_
      refine PW_if_eq (pc' := 33) (tgt := 48) (pw_dk dc_X12_free 18 rfl) rfl (by decide) (fun c_12 => ?_) (fun c_12 => ?_)
      · rw [if_pos c_12] at h
        refine PW_iconst (pc' := 49) (v := 0) (pw_dk dc_X12_free 28 rfl) rfl (by decide) ?_
        have z := wp_some h
        exact PZ_iret (ty := .boolean) (pw_dk dc_X12_free 29 rfl) rfl (by decide) z
      · rw [if_neg c_12] at h
        refine PW_aload_n (pc' := 34) (q := 0) (pw_dk dc_X12_free 19 rfl) rfl rfl rfl ?_
        refine PW_getR (pc' := 37) (id := 5000) (ci := 12) (nn := 0) (C0 := RX12) (T := TX12) (N := 62) (j := 42) (r := 5043) (pw_dk dc_X12_free 20 rfl) rfl me_5000 rfl pi_12 (by decide) fk_12_42 tw_1439 (rfl) (by decide) ?_
        refine PW_iload_n (pc' := 38) (q := 1) (pw_dk dc_X12_free 21 rfl) rfl rfl rfl ?_
        obtain ⟨v_13, hi_14, e_15, h⟩ := wp_rdIx h
        refine PZ_ialdx (pc' := 39) (v := v_13) (id := 5043) (nn := 115) (pw_dk dc_X12_free 22 rfl) rfl me_5043 hi_14 e_15 ?_
        refine PW_aload_n (pc' := 40) (q := 0) (pw_dk dc_X12_free 23 rfl) rfl rfl rfl ?_
        refine PW_getR (pc' := 43) (id := 5000) (ci := 12) (nn := 0) (C0 := RX12) (T := TX12) (N := 62) (j := 3) (r := 5004) (pw_dk dc_X12_free 24 rfl) rfl me_5000 rfl pi_12 (by decide) fk_12_3 tw_1400 (rfl) (by decide) ?_
        refine PW_iconst (pc' := 44) (v := 5) (pw_dk dc_X12_free 25 rfl) rfl (by decide) ?_
        obtain ⟨v_16, hi_17, e_18, h⟩ := wp_rdIx h
        refine PZ_ialdx (pc' := 45) (v := v_16) (id := 5004) (nn := 16) (pw_dk dc_X12_free 26 rfl) rfl me_5004 hi_17 e_18 ?_
        refine PW_icmp_ge (pc' := 48) (tgt := 50) (pw_dk dc_X12_free 27 rfl) rfl (by decide) (fun c_19 => ?_) (fun c_19 => ?_)
        · rw [if_pos c_19] at h
          refine PW_aload_n (pc' := 51) (q := 0) (pw_dk dc_X12_free 30 rfl) rfl rfl rfl ?_
          refine PZ_callVv (pc' := 54) (y := yX12_keepNow) (M' := mX12_keepNow) (d' := 1) (As := []) (st := []) (b := 5000) (ci := 12) (nn := 0) me_5000 rfl tw_1846 tw_89 (pw_dk dc_X12_free 31 rfl) rfl Y_X12_keepNow tw_1844 rfl (by decide) (Nat.le_of_ble_eq_true rfl) (t_X12_keepNow σ_1 _ ?_)
          obtain ⟨σ_21, e_22, h⟩ := wp_bind h
          refine ⟨σ_21, e_22, rfl, fun hn_20 => ?_⟩
          show PZ alM mX12_free (2) Q 54 [(0, .ref 5000), (1, .int x1), (2, .int x2)] [] σ_21
          refine PW_aload_n (pc' := 55) (q := 0) (pw_dk dc_X12_free 32 rfl) rfl rfl rfl ?_
          refine PW_getR (pc' := 58) (id := 5000) (ci := 12) (nn := 0) (C0 := RX12) (T := TX12) (N := 62) (j := 43) (r := 5044) (pw_dk dc_X12_free 33 rfl) rfl me_5000 rfl pi_12 (by decide) fk_12_43 tw_1440 (rfl) (by decide) ?_
          refine PW_iload_n (pc' := 59) (q := 1) (pw_dk dc_X12_free 34 rfl) rfl rfl rfl ?_
          refine PW_dup2 (pc' := 60) (pw_dk dc_X12_free 35 rfl) rfl rfl rfl ?_
          obtain ⟨v_23, hi_24, e_25, h⟩ := wp_rdIx h
          refine PZ_ialdx (pc' := 61) (v := v_23) (id := 5044) (nn := 115) (pw_dk dc_X12_free 36 rfl) rfl me_5044 hi_24 e_25 ?_
          refine PW_iconst (pc' := 62) (v := 1) (pw_dk dc_X12_free 37 rfl) rfl (by decide) ?_
          refine PW_iload_n (pc' := 63) (q := 2) (pw_dk dc_X12_free 38 rfl) rfl rfl rfl ?_
          refine PW_ishl (pc' := 64) (pw_dk dc_X12_free 39 rfl) rfl ?_
          refine PW_iconst (pc' := 65) (v := (-1 : Int32)) (pw_dk dc_X12_free 40 rfl) rfl (by decide) ?_
          refine PW_ixor (pc' := 66) (pw_dk dc_X12_free 41 rfl) rfl ?_
          refine PW_iand (pc' := 67) (pw_dk dc_X12_free 42 rfl) rfl ?_
          obtain ⟨σ_26, hi_27, e_28, h⟩ := wp_wrIx h
          refine PZ_iastx (pc' := 68) (σ' := σ_26) (id := 5044) (nn := 115) (pw_dk dc_X12_free 43 rfl) rfl me_5044 hi_27 e_28 ?_
          refine PW_aload_n (pc' := 69) (q := 0) (pw_dk dc_X12_free 44 rfl) rfl rfl rfl ?_
          refine PW_getR (pc' := 72) (id := 5000) (ci := 12) (nn := 0) (C0 := RX12) (T := TX12) (N := 62) (j := 42) (r := 5043) (pw_dk dc_X12_free 45 rfl) rfl me_5000 rfl pi_12 (by decide) fk_12_42 tw_1439 (rfl) (by decide) ?_
          refine PW_iload_n (pc' := 73) (q := 1) (pw_dk dc_X12_free 46 rfl) rfl rfl rfl ?_
          refine PW_dup2 (pc' := 74) (pw_dk dc_X12_free 47 rfl) rfl rfl rfl ?_
          obtain ⟨v_29, hi_30, e_31, h⟩ := wp_rdIx h
          refine PZ_ialdx (pc' := 75) (v := v_29) (id := 5043) (nn := 115) (pw_dk dc_X12_free 48 rfl) rfl me_5043 hi_30 e_31 ?_
          refine PW_aload_n (pc' := 76) (q := 0) (pw_dk dc_X12_free 49 rfl) rfl rfl rfl ?_
          refine PW_getR (pc' := 79) (id := 5000) (ci := 12) (nn := 0) (C0 := RX12) (T := TX12) (N := 62) (j := 3) (r := 5004) (pw_dk dc_X12_free 50 rfl) rfl me_5000 rfl pi_12 (by decide) fk_12_3 tw_1400 (rfl) (by decide) ?_
          refine PW_iconst (pc' := 80) (v := 5) (pw_dk dc_X12_free 51 rfl) rfl (by decide) ?_
          obtain ⟨v_32, hi_33, e_34, h⟩ := wp_rdIx h
          refine PZ_ialdx (pc' := 81) (v := v_32) (id := 5004) (nn := 16) (pw_dk dc_X12_free 52 rfl) rfl me_5004 hi_33 e_34 ?_
          refine PW_isub (pc' := 82) (pw_dk dc_X12_free 53 rfl) rfl ?_
          obtain ⟨σ_35, hi_36, e_37, h⟩ := wp_wrIx h
          refine PZ_iastx (pc' := 83) (σ' := σ_35) (id := 5043) (nn := 115) (pw_dk dc_X12_free 54 rfl) rfl me_5043 hi_36 e_37 ?_
          refine PW_iconst (pc' := 84) (v := 1) (pw_dk dc_X12_free 55 rfl) rfl (by decide) ?_
          have z := wp_some h
          exact PZ_iret (ty := .boolean) (pw_dk dc_X12_free 56 rfl) rfl (by decide) z
        · rw [if_neg c_19] at h
          refine PW_iconst (pc' := 49) (v := 0) (pw_dk dc_X12_free 28 rfl) rfl (by decide) ?_
          have z := wp_some h
          exact PZ_iret (ty := .boolean) (pw_dk dc_X12_free 29 rfl) rfl (by decide) z
def f_X12_does_148  (x4 : Int32) (σ : zS) : Option zS := 
  (rdI σ 5043 115 x4).bind fun v_1 =>
  (rdI σ 5043 115 x4).bind fun v_4 =>
  (rdI σ 5004 16 5).bind fun v_7 =>
  (wrI σ 5043 115 x4 (v_1 - (f_J9_min_7cf53 v_4 v_7 σ))).bind fun σ_11 =>
  some σ_11
theorem b_X12_does_148 {Q : Option Value → zS → Prop} (x4 : Int32) (σ : zS) (h : wpO (f_X12_does_148 x4 σ) (fun s => Q none s)) : PZ alM mX12_does (5) Q 148 [(0, .ref 5000), (4, .int x4)] [] σ := by
  unfold f_X12_does_148 at h
  refine PW_aload_n (pc' := 149) (q := 0) (pw_dk dc_X12_does 99 rfl) rfl rfl rfl ?_
  refine PW_getR (pc' := 152) (id := 5000) (ci := 12) (nn := 0) (C0 := RX12) (T := TX12) (N := 62) (j := 42) (r := 5043) (pw_dk dc_X12_does 100 rfl) rfl me_5000 rfl pi_12 (by decide) fk_12_42 tw_1439 (rfl) (by decide) ?_
  refine PW_iload (pc' := 154) (q := 1) (pw_dk dc_X12_does 101 rfl) rfl rfl ?_
  refine PW_dup2 (pc' := 155) (pw_dk dc_X12_does 102 rfl) rfl rfl rfl ?_
  obtain ⟨v_1, hi_2, e_3, h⟩ := wp_rdIx h
  refine PZ_ialdx (pc' := 156) (v := v_1) (id := 5043) (nn := 115) (pw_dk dc_X12_does 103 rfl) rfl me_5043 hi_2 e_3 ?_
  refine PW_aload_n (pc' := 157) (q := 0) (pw_dk dc_X12_does 104 rfl) rfl rfl rfl ?_
  refine PW_getR (pc' := 160) (id := 5000) (ci := 12) (nn := 0) (C0 := RX12) (T := TX12) (N := 62) (j := 42) (r := 5043) (pw_dk dc_X12_does 105 rfl) rfl me_5000 rfl pi_12 (by decide) fk_12_42 tw_1439 (rfl) (by decide) ?_
  refine PW_iload (pc' := 162) (q := 1) (pw_dk dc_X12_does 106 rfl) rfl rfl ?_
  obtain ⟨v_4, hi_5, e_6, h⟩ := wp_rdIx h
  refine PZ_ialdx (pc' := 163) (v := v_4) (id := 5043) (nn := 115) (pw_dk dc_X12_does 107 rfl) rfl me_5043 hi_5 e_6 ?_
  refine PW_aload_n (pc' := 164) (q := 0) (pw_dk dc_X12_does 108 rfl) rfl rfl rfl ?_
  refine PW_getR (pc' := 167) (id := 5000) (ci := 12) (nn := 0) (C0 := RX12) (T := TX12) (N := 62) (j := 3) (r := 5004) (pw_dk dc_X12_does 109 rfl) rfl me_5000 rfl pi_12 (by decide) fk_12_3 tw_1400 (rfl) (by decide) ?_
  refine PW_iconst (pc' := 168) (v := 5) (pw_dk dc_X12_does 110 rfl) rfl (by decide) ?_
  obtain ⟨v_7, hi_8, e_9, h⟩ := wp_rdIx h
  refine PZ_ialdx (pc' := 169) (v := v_7) (id := 5004) (nn := 16) (pw_dk dc_X12_does 111 rfl) rfl me_5004 hi_8 e_9 ?_
  refine PZ_callSi (pc' := 172) (y := yJ9_min_7cf53) (M' := mJ9_min_7cf53) (d' := 0) (As := [.int v_4, .int v_7]) (st := [.int v_1, .int x4, .ref 5043]) tw_671 (pw_dk dc_X12_does 112 rfl) rfl Y_J9_min_7cf53 tw_1868 rfl (by decide) (Nat.le_of_ble_eq_true rfl) (t_J9_min_7cf53 alM v_4 v_7 σ _ ?_)
  refine ⟨_, rfl, fun hn_10 => ?_⟩
  show PZ alM mX12_does (5) Q 172 [(0, .ref 5000), (4, .int x4)] [.int (f_J9_min_7cf53 v_4 v_7 σ), .int v_1, .int x4, .ref 5043] σ
  refine PW_isub (pc' := 173) (pw_dk dc_X12_does 113 rfl) rfl ?_
  obtain ⟨σ_11, hi_12, e_13, h⟩ := wp_wrIx h
  refine PZ_iastx (pc' := 174) (σ' := σ_11) (id := 5043) (nn := 115) (pw_dk dc_X12_does 114 rfl) rfl me_5043 hi_12 e_13 ?_
  have z := wp_some h
  exact PZ_vret (pw_dk dc_X12_does 115 rfl) rfl z
def f_X12_does_31  (x1 : Int32) (x2 : Int32) (x3 : Int32) (x4 : Int32) (σ : zS) : Option zS := 
  (rdI σ 5044 115 x4).bind fun v_1 =>
  (rdI σ 5015 24 x2).bind fun v_4 =>
  if ((v_1 >>> (v_4 &&& 31)) &&& (1 : Int32)) = 1 then
    (wrI σ 5045 276 (((12 : Int32) * x1) + x2) 3).bind fun σ_41 =>
    some σ_41
  else
    (rdI σ 5042 115 x4).bind fun v_8 =>
    (rdI σ 5015 24 x2).bind fun v_11 =>
    (rdI σ 5016 24 x2).bind fun v_14 =>
    (rdI σ 5039 23 x1).bind fun v_17 =>
    b2 (f_X12_isLawful x3 v_8 v_11 v_14 v_17 σ) fun v_22 σ_21 =>
    if v_22 = 0 then
      (wrI σ_21 5045 276 (((12 : Int32) * x1) + x2) 2).bind fun σ_25 =>
      if (σ_25.1 5000 37) = 4 then
        f_X12_does_148 x4 σ_25
      else
        (rdI σ_25 5044 115 x4).bind fun v_29 =>
        (rdI σ_25 5015 24 x2).bind fun v_32 =>
        (wrI σ_25 5044 115 x4 (v_29 ||| ((1 : Int32) <<< (v_32 &&& 31)))).bind fun σ_35 =>
        f_X12_does_148 x4 σ_35
    else
      (wrI σ_21 5045 276 (((12 : Int32) * x1) + x2) 1).bind fun σ_38 =>
      some σ_38
theorem b_X12_does_31 {Q : Option Value → zS → Prop} (x1 : Int32) (x2 : Int32) (x3 : Int32) (x4 : Int32) (σ : zS) (h : wpO (f_X12_does_31 x1 x2 x3 x4 σ) (fun s => Q none s)) : PZ alM mX12_does (5) Q 31 [(0, .ref 5000), (1, .int x1), (2, .int x2), (3, .int x3), (4, .int x4)] [] σ := by
  unfold f_X12_does_31 at h
  refine PW_aload_n (pc' := 32) (q := 0) (pw_dk dc_X12_does 20 rfl) rfl rfl rfl ?_
  refine PW_getR (pc' := 35) (id := 5000) (ci := 12) (nn := 0) (C0 := RX12) (T := TX12) (N := 62) (j := 43) (r := 5044) (pw_dk dc_X12_does 21 rfl) rfl me_5000 rfl pi_12 (by decide) fk_12_43 tw_1440 (rfl) (by decide) ?_
  refine PW_iload (pc' := 37) (q := 4) (pw_dk dc_X12_does 22 rfl) rfl rfl ?_
  obtain ⟨v_1, hi_2, e_3, h⟩ := wp_rdIx h
  refine PZ_ialdx (pc' := 38) (v := v_1) (id := 5044) (nn := 115) (pw_dk dc_X12_does 23 rfl) rfl me_5044 hi_2 e_3 ?_
  refine PW_aload_n (pc' := 39) (q := 0) (pw_dk dc_X12_does 24 rfl) rfl rfl rfl ?_
  refine PW_getR (pc' := 42) (id := 5000) (ci := 12) (nn := 0) (C0 := RX12) (T := TX12) (N := 62) (j := 14) (r := 5015) (pw_dk dc_X12_does 25 rfl) rfl me_5000 rfl pi_12 (by decide) fk_12_14 tw_1411 (rfl) (by decide) ?_
  refine PW_iload_n (pc' := 43) (q := 2) (pw_dk dc_X12_does 26 rfl) rfl rfl rfl ?_
  obtain ⟨v_4, hi_5, e_6, h⟩ := wp_rdIx h
  refine PZ_ialdx (pc' := 44) (v := v_4) (id := 5015) (nn := 24) (pw_dk dc_X12_does 27 rfl) rfl me_5015 hi_5 e_6 ?_
  refine PW_ishr (pc' := 45) (pw_dk dc_X12_does 28 rfl) rfl ?_
  refine PW_iconst (pc' := 46) (v := 1) (pw_dk dc_X12_does 29 rfl) rfl (by decide) ?_
  refine PW_iand (pc' := 47) (pw_dk dc_X12_does 30 rfl) rfl ?_
  refine PW_iconst (pc' := 48) (v := 1) (pw_dk dc_X12_does 31 rfl) rfl (by decide) ?_
  refine PW_icmp_ne (pc' := 51) (tgt := 64) (pw_dk dc_X12_does 32 rfl) rfl (by decide) (fun c_7 => ?_) (fun c_7 => ?_)
  · rw [if_neg c_7] at h
    refine PW_aload_n (pc' := 65) (q := 0) (pw_dk dc_X12_does 43 rfl) rfl rfl rfl ?_
    refine PW_iload_n (pc' := 66) (q := 3) (pw_dk dc_X12_does 44 rfl) rfl rfl rfl ?_
    refine PW_aload_n (pc' := 67) (q := 0) (pw_dk dc_X12_does 45 rfl) rfl rfl rfl ?_
    refine PW_getR (pc' := 70) (id := 5000) (ci := 12) (nn := 0) (C0 := RX12) (T := TX12) (N := 62) (j := 41) (r := 5042) (pw_dk dc_X12_does 46 rfl) rfl me_5000 rfl pi_12 (by decide) fk_12_41 tw_1438 (rfl) (by decide) ?_
    refine PW_iload (pc' := 72) (q := 4) (pw_dk dc_X12_does 47 rfl) rfl rfl ?_
    obtain ⟨v_8, hi_9, e_10, h⟩ := wp_rdIx h
    refine PZ_ialdx (pc' := 73) (v := v_8) (id := 5042) (nn := 115) (pw_dk dc_X12_does 48 rfl) rfl me_5042 hi_9 e_10 ?_
    refine PW_aload_n (pc' := 74) (q := 0) (pw_dk dc_X12_does 49 rfl) rfl rfl rfl ?_
    refine PW_getR (pc' := 77) (id := 5000) (ci := 12) (nn := 0) (C0 := RX12) (T := TX12) (N := 62) (j := 14) (r := 5015) (pw_dk dc_X12_does 50 rfl) rfl me_5000 rfl pi_12 (by decide) fk_12_14 tw_1411 (rfl) (by decide) ?_
    refine PW_iload_n (pc' := 78) (q := 2) (pw_dk dc_X12_does 51 rfl) rfl rfl rfl ?_
    obtain ⟨v_11, hi_12, e_13, h⟩ := wp_rdIx h
    refine PZ_ialdx (pc' := 79) (v := v_11) (id := 5015) (nn := 24) (pw_dk dc_X12_does 52 rfl) rfl me_5015 hi_12 e_13 ?_
    refine PW_aload_n (pc' := 80) (q := 0) (pw_dk dc_X12_does 53 rfl) rfl rfl rfl ?_
    refine PW_getR (pc' := 83) (id := 5000) (ci := 12) (nn := 0) (C0 := RX12) (T := TX12) (N := 62) (j := 15) (r := 5016) (pw_dk dc_X12_does 54 rfl) rfl me_5000 rfl pi_12 (by decide) fk_12_15 tw_1412 (rfl) (by decide) ?_
    refine PW_iload_n (pc' := 84) (q := 2) (pw_dk dc_X12_does 55 rfl) rfl rfl rfl ?_
    obtain ⟨v_14, hi_15, e_16, h⟩ := wp_rdIx h
    refine PZ_ialdx (pc' := 85) (v := v_14) (id := 5016) (nn := 24) (pw_dk dc_X12_does 56 rfl) rfl me_5016 hi_15 e_16 ?_
    refine PW_aload_n (pc' := 86) (q := 0) (pw_dk dc_X12_does 57 rfl) rfl rfl rfl ?_
    refine PW_getR (pc' := 89) (id := 5000) (ci := 12) (nn := 0) (C0 := RX12) (T := TX12) (N := 62) (j := 38) (r := 5039) (pw_dk dc_X12_does 58 rfl) rfl me_5000 rfl pi_12 (by decide) fk_12_38 tw_1435 (rfl) (by decide) ?_
    refine PW_iload_n (pc' := 90) (q := 1) (pw_dk dc_X12_does 59 rfl) rfl rfl rfl ?_
    obtain ⟨v_17, hi_18, e_19, h⟩ := wp_rdIx h
    refine PZ_ialdx (pc' := 91) (v := v_17) (id := 5039) (nn := 23) (pw_dk dc_X12_does 60 rfl) rfl me_5039 hi_18 e_19 ?_
    refine PZ_callVi (pc' := 94) (y := yX12_isLawful) (M' := mX12_isLawful) (d' := 4) (As := [.int x3, .int v_8, .int v_11, .int v_14, .int v_17]) (st := []) (b := 5000) (ci := 12) (nn := 0) me_5000 rfl tw_1817 tw_86 (pw_dk dc_X12_does 61 rfl) rfl Y_X12_isLawful tw_1815 rfl (by decide) (Nat.le_of_ble_eq_true rfl) (t_X12_isLawful x3 v_8 v_11 v_14 v_17 σ _ ?_)
    obtain ⟨⟨v_22, σ_21⟩, e_23, h⟩ := wp_bind2 h
    refine ⟨(v_22, σ_21), e_23, _, rfl, fun hn_20 => ?_⟩
    show PZ alM mX12_does (5) Q 94 [(0, .ref 5000), (1, .int x1), (2, .int x2), (3, .int x3), (4, .int x4)] [.int v_22] σ_21
    refine PW_if_eq (pc' := 97) (tgt := 110) (pw_dk dc_X12_does 62 rfl) rfl (by decide) (fun c_24 => ?_) (fun c_24 => ?_)
    · rw [if_pos c_24] at h
      refine PW_aload_n (pc' := 111) (q := 0) (pw_dk dc_X12_does 73 rfl) rfl rfl rfl ?_
      refine PW_getR (pc' := 114) (id := 5000) (ci := 12) (nn := 0) (C0 := RX12) (T := TX12) (N := 62) (j := 44) (r := 5045) (pw_dk dc_X12_does 74 rfl) rfl me_5000 rfl pi_12 (by decide) fk_12_44 tw_1441 (rfl) (by decide) ?_
      refine PW_bipush (pc' := 116) (v := 12) (pw_dk dc_X12_does 75 rfl) rfl (by decide) ?_
      refine PW_iload_n (pc' := 117) (q := 1) (pw_dk dc_X12_does 76 rfl) rfl rfl rfl ?_
      refine PW_imul (pc' := 118) (pw_dk dc_X12_does 77 rfl) rfl ?_
      refine PW_iload_n (pc' := 119) (q := 2) (pw_dk dc_X12_does 78 rfl) rfl rfl rfl ?_
      refine PW_iadd (pc' := 120) (pw_dk dc_X12_does 79 rfl) rfl ?_
      refine PW_iconst (pc' := 121) (v := 2) (pw_dk dc_X12_does 80 rfl) rfl (by decide) ?_
      obtain ⟨σ_25, hi_26, e_27, h⟩ := wp_wrIx h
      refine PZ_iastx (pc' := 122) (σ' := σ_25) (id := 5045) (nn := 276) (pw_dk dc_X12_does 81 rfl) rfl me_5045 hi_26 e_27 ?_
      refine PW_aload_n (pc' := 123) (q := 0) (pw_dk dc_X12_does 82 rfl) rfl rfl rfl ?_
      refine PZ_getI (pc' := 126) (id := 5000) (ci := 12) (nn := 0) (C0 := RX12) (T := TX12) (N := 62) (j := 37) (pw_dk dc_X12_does 83 rfl) rfl me_5000 rfl pi_12 (by decide) fk_12_37 tw_1434 ?_
      refine PW_iconst (pc' := 127) (v := 4) (pw_dk dc_X12_does 84 rfl) rfl (by decide) ?_
      refine PW_icmp_eq (pc' := 130) (tgt := 148) (pw_dk dc_X12_does 85 rfl) rfl (by decide) (fun c_28 => ?_) (fun c_28 => ?_)
      · rw [if_pos c_28] at h
        refine PW_sub (lv' := [(0, .ref 5000), (4, .int x4)]) [0, 4] rfl ?_
        exact b_X12_does_148 x4 σ_25 h
      · rw [if_neg c_28] at h
        refine PW_aload_n (pc' := 131) (q := 0) (pw_dk dc_X12_does 86 rfl) rfl rfl rfl ?_
        refine PW_getR (pc' := 134) (id := 5000) (ci := 12) (nn := 0) (C0 := RX12) (T := TX12) (N := 62) (j := 43) (r := 5044) (pw_dk dc_X12_does 87 rfl) rfl me_5000 rfl pi_12 (by decide) fk_12_43 tw_1440 (rfl) (by decide) ?_
        refine PW_iload (pc' := 136) (q := 4) (pw_dk dc_X12_does 88 rfl) rfl rfl ?_
        refine PW_dup2 (pc' := 137) (pw_dk dc_X12_does 89 rfl) rfl rfl rfl ?_
        obtain ⟨v_29, hi_30, e_31, h⟩ := wp_rdIx h
        refine PZ_ialdx (pc' := 138) (v := v_29) (id := 5044) (nn := 115) (pw_dk dc_X12_does 90 rfl) rfl me_5044 hi_30 e_31 ?_
        refine PW_iconst (pc' := 139) (v := 1) (pw_dk dc_X12_does 91 rfl) rfl (by decide) ?_
        refine PW_aload_n (pc' := 140) (q := 0) (pw_dk dc_X12_does 92 rfl) rfl rfl rfl ?_
        refine PW_getR (pc' := 143) (id := 5000) (ci := 12) (nn := 0) (C0 := RX12) (T := TX12) (N := 62) (j := 14) (r := 5015) (pw_dk dc_X12_does 93 rfl) rfl me_5000 rfl pi_12 (by decide) fk_12_14 tw_1411 (rfl) (by decide) ?_
        refine PW_iload_n (pc' := 144) (q := 2) (pw_dk dc_X12_does 94 rfl) rfl rfl rfl ?_
        obtain ⟨v_32, hi_33, e_34, h⟩ := wp_rdIx h
        refine PZ_ialdx (pc' := 145) (v := v_32) (id := 5015) (nn := 24) (pw_dk dc_X12_does 95 rfl) rfl me_5015 hi_33 e_34 ?_
        refine PW_ishl (pc' := 146) (pw_dk dc_X12_does 96 rfl) rfl ?_
        refine PW_ior (pc' := 147) (pw_dk dc_X12_does 97 rfl) rfl ?_
        obtain ⟨σ_35, hi_36, e_37, h⟩ := wp_wrIx h
        refine PZ_iastx (pc' := 148) (σ' := σ_35) (id := 5044) (nn := 115) (pw_dk dc_X12_does 98 rfl) rfl me_5044 hi_36 e_37 ?_
        refine PW_sub (lv' := [(0, .ref 5000), (4, .int x4)]) [0, 4] rfl ?_
        exact b_X12_does_148 x4 σ_35 h
    · rw [if_neg c_24] at h
      refine PW_aload_n (pc' := 98) (q := 0) (pw_dk dc_X12_does 63 rfl) rfl rfl rfl ?_
      refine PW_getR (pc' := 101) (id := 5000) (ci := 12) (nn := 0) (C0 := RX12) (T := TX12) (N := 62) (j := 44) (r := 5045) (pw_dk dc_X12_does 64 rfl) rfl me_5000 rfl pi_12 (by decide) fk_12_44 tw_1441 (rfl) (by decide) ?_
      refine PW_bipush (pc' := 103) (v := 12) (pw_dk dc_X12_does 65 rfl) rfl (by decide) ?_
      refine PW_iload_n (pc' := 104) (q := 1) (pw_dk dc_X12_does 66 rfl) rfl rfl rfl ?_
      refine PW_imul (pc' := 105) (pw_dk dc_X12_does 67 rfl) rfl ?_
      refine PW_iload_n (pc' := 106) (q := 2) (pw_dk dc_X12_does 68 rfl) rfl rfl rfl ?_
      refine PW_iadd (pc' := 107) (pw_dk dc_X12_does 69 rfl) rfl ?_
      refine PW_iconst (pc' := 108) (v := 1) (pw_dk dc_X12_does 70 rfl) rfl (by decide) ?_
      obtain ⟨σ_38, hi_39, e_40, h⟩ := wp_wrIx h
      refine PZ_iastx (pc' := 109) (σ' := σ_38) (id := 5045) (nn := 276) (pw_dk dc_X12_does 71 rfl) rfl me_5045 hi_39 e_40 ?_
      have z := wp_some h
      exact PZ_vret (pw_dk dc_X12_does 72 rfl) rfl z
  · rw [if_pos c_7] at h
    refine PW_aload_n (pc' := 52) (q := 0) (pw_dk dc_X12_does 33 rfl) rfl rfl rfl ?_
    refine PW_getR (pc' := 55) (id := 5000) (ci := 12) (nn := 0) (C0 := RX12) (T := TX12) (N := 62) (j := 44) (r := 5045) (pw_dk dc_X12_does 34 rfl) rfl me_5000 rfl pi_12 (by decide) fk_12_44 tw_1441 (rfl) (by decide) ?_
    refine PW_bipush (pc' := 57) (v := 12) (pw_dk dc_X12_does 35 rfl) rfl (by decide) ?_
    refine PW_iload_n (pc' := 58) (q := 1) (pw_dk dc_X12_does 36 rfl) rfl rfl rfl ?_
    refine PW_imul (pc' := 59) (pw_dk dc_X12_does 37 rfl) rfl ?_
    refine PW_iload_n (pc' := 60) (q := 2) (pw_dk dc_X12_does 38 rfl) rfl rfl rfl ?_
    refine PW_iadd (pc' := 61) (pw_dk dc_X12_does 39 rfl) rfl ?_
    refine PW_iconst (pc' := 62) (v := 3) (pw_dk dc_X12_does 40 rfl) rfl (by decide) ?_
    obtain ⟨σ_41, hi_42, e_43, h⟩ := wp_wrIx h
    refine PZ_iastx (pc' := 63) (σ' := σ_41) (id := 5045) (nn := 276) (pw_dk dc_X12_does 41 rfl) rfl me_5045 hi_42 e_43 ?_
    have z := wp_some h
    exact PZ_vret (pw_dk dc_X12_does 42 rfl) rfl z
def f_X12_does (x1 : Int32) (x2 : Int32) (σ : zS) : Option zS := 
  (rdI σ 5014 24 x2).bind fun v_1 =>
  lt (α := Int32) (((5 : Int32) * x1) + v_1) fun x4_4 =>
  if (σ.1 5000 37) = 3 then
    if v_1 = (σ.1 5000 47) then
      some σ
    else
      f_X12_does_31 x1 x2 v_1 x4_4 σ
  else
    f_X12_does_31 x1 x2 v_1 x4_4 σ
theorem t_X12_does (x1 : Int32) (x2 : Int32) (σ : zS) (Q : Option Value → zS → Prop) (h : wpO (f_X12_does x1 x2 σ) (fun s => Q none s)) : PK alM yX12_does mX12_does (5) [.ref 5000, .int x1, .int x2] σ Q := by
  refine PC_ofF (by decide +kernel) rfl rfl (Nat.le_of_ble_eq_true rfl) ?_
  show PZ alM mX12_does (5) Q 0 [(0, .ref 5000), (1, .int x1), (2, .int x2)] [] σ
  unfold f_X12_does at h
  refine PW_aload_n (pc' := 1) (q := 0) (pw_dk dc_X12_does 0 rfl) rfl rfl rfl ?_
  refine PW_getR (pc' := 4) (id := 5000) (ci := 12) (nn := 0) (C0 := RX12) (T := TX12) (N := 62) (j := 13) (r := 5014) (pw_dk dc_X12_does 1 rfl) rfl me_5000 rfl pi_12 (by decide) fk_12_13 tw_1410 (rfl) (by decide) ?_
  refine PW_iload_n (pc' := 5) (q := 2) (pw_dk dc_X12_does 2 rfl) rfl rfl rfl ?_
  obtain ⟨v_1, hi_2, e_3, h⟩ := wp_rdIx h
  refine PZ_ialdx (pc' := 6) (v := v_1) (id := 5014) (nn := 24) (pw_dk dc_X12_does 3 rfl) rfl me_5014 hi_2 e_3 ?_
  refine PW_istore_n (pc' := 7) (lv' := [(3, .int v_1), (0, .ref 5000), (1, .int x1), (2, .int x2)]) (pw_dk dc_X12_does 4 rfl) rfl rfl (by decide) rfl ?_
  refine PW_iconst (pc' := 8) (v := 5) (pw_dk dc_X12_does 5 rfl) rfl (by decide) ?_
  refine PW_iload_n (pc' := 9) (q := 2) (pw_dk dc_X12_does 6 rfl) rfl rfl rfl ?_
  refine PW_imul (pc' := 10) (pw_dk dc_X12_does 7 rfl) rfl ?_
  refine PW_iload_n (pc' := 11) (q := 0) (pw_dk dc_X12_does 8 rfl) rfl rfl rfl ?_
  refine PW_iadd (pc' := 12) (pw_dk dc_X12_does 9 rfl) rfl ?_
  refine PW_topi (fun x4_4 ex4_4 => ?_)
  replace h := lt_w h ex4_4
  refine PW_istore (pc' := 14) (lv' := [(4, .int x4_4), (3, .int v_1), (0, .ref 5000), (1, .int x1), (2, .int x2)]) (pw_dk dc_X12_does 10 rfl) rfl (by decide) rfl ?_
  refine PW_aload_n (pc' := 15) (q := 2) (pw_dk dc_X12_does 11 rfl) rfl rfl rfl ?_
  refine PZ_getI (pc' := 18) (id := 5000) (ci := 12) (nn := 0) (C0 := RX12) (T := TX12) (N := 62) (j := 37) (pw_dk dc_X12_does 12 rfl) rfl me_5000 rfl pi_12 (by decide) fk_12_37 tw_1434 ?_
  refine PW_iconst (pc' := 19) (v := 3) (pw_dk dc_X12_does 13 rfl) rfl (by decide) ?_
  refine PW_icmp_ne (pc' := 22) (tgt := 31) (pw_dk dc_X12_does 14 rfl) rfl (by decide) (fun c_5 => ?_) (fun c_5 => ?_)
  · rw [if_neg c_5] at h
    refine PW_sub (lv' := [(0, .ref 5000), (1, .int x1), (2, .int x2), (3, .int v_1), (4, .int x4_4)]) [2, 3, 4, 1, 0] rfl ?_
    exact b_X12_does_31 x1 x2 v_1 x4_4 σ h
  · rw [if_pos c_5] at h
    refine PW_iload_n (pc' := 23) (q := 1) (pw_dk dc_X12_does 15 rfl) rfl rfl rfl ?_
    refine PW_aload_n (pc' := 24) (q := 2) (pw_dk dc_X12_does 16 rfl) rfl rfl rfl ?_
    refine PZ_getI (pc' := 27) (id := 5000) (ci := 12) (nn := 0) (C0 := RX12) (T := TX12) (N := 62) (j := 47) (pw_dk dc_X12_does 17 rfl) rfl me_5000 rfl pi_12 (by decide) fk_12_47 tw_1444 ?_
    refine PW_icmp_ne (pc' := 30) (tgt := 31) (pw_dk dc_X12_does 18 rfl) rfl (by decide) (fun c_6 => ?_) (fun c_6 => ?_)
    · rw [if_neg c_6] at h
      refine PW_sub (lv' := [(0, .ref 5000), (1, .int x1), (2, .int x2), (3, .int v_1), (4, .int x4_4)]) [2, 3, 4, 1, 0] rfl ?_
      exact b_X12_does_31 x1 x2 v_1 x4_4 σ h
    · rw [if_pos c_6] at h
      have z := wp_some h
      exact PZ_vret (pw_dk dc_X12_does 19 rfl) rfl z
def f_X12_taxes_64  (x4 : Int32) (s0 : Int32) (σ : zS) : Option zS := 
  (rdI σ 5043 115 x4).bind fun v_1 =>
  (rdI σ 5043 115 x4).bind fun v_4 =>
  (wrI σ 5043 115 x4 (v_1 - (f_J9_min_7cf53 v_4 s0 σ))).bind fun σ_8 =>
  some σ_8
theorem b_X12_taxes_64 {Q : Option Value → zS → Prop} (x4 : Int32) (s0 : Int32) (σ : zS) (h : wpO (f_X12_taxes_64 x4 s0 σ) (fun s => Q none s)) : PZ alM mX12_taxes (3) Q 64 [(0, .ref 5000), (4, .int x4)] [.int s0] σ := by
  unfold f_X12_taxes_64 at h
  refine PW_istore (pc' := 66) (lv' := [(5, .int s0), (0, .ref 5000), (4, .int x4)]) (pw_dk dc_X12_taxes 38 rfl) rfl (by decide) rfl ?_
  refine PW_aload_n (pc' := 67) (q := 1) (pw_dk dc_X12_taxes 39 rfl) rfl rfl rfl ?_
  refine PW_getR (pc' := 70) (id := 5000) (ci := 12) (nn := 0) (C0 := RX12) (T := TX12) (N := 62) (j := 42) (r := 5043) (pw_dk dc_X12_taxes 40 rfl) rfl me_5000 rfl pi_12 (by decide) fk_12_42 tw_1439 (rfl) (by decide) ?_
  refine PW_iload (pc' := 72) (q := 2) (pw_dk dc_X12_taxes 41 rfl) rfl rfl ?_
  refine PW_dup2 (pc' := 73) (pw_dk dc_X12_taxes 42 rfl) rfl rfl rfl ?_
  obtain ⟨v_1, hi_2, e_3, h⟩ := wp_rdIx h
  refine PZ_ialdx (pc' := 74) (v := v_1) (id := 5043) (nn := 115) (pw_dk dc_X12_taxes 43 rfl) rfl me_5043 hi_2 e_3 ?_
  refine PW_aload_n (pc' := 75) (q := 1) (pw_dk dc_X12_taxes 44 rfl) rfl rfl rfl ?_
  refine PW_getR (pc' := 78) (id := 5000) (ci := 12) (nn := 0) (C0 := RX12) (T := TX12) (N := 62) (j := 42) (r := 5043) (pw_dk dc_X12_taxes 45 rfl) rfl me_5000 rfl pi_12 (by decide) fk_12_42 tw_1439 (rfl) (by decide) ?_
  refine PW_iload (pc' := 80) (q := 2) (pw_dk dc_X12_taxes 46 rfl) rfl rfl ?_
  obtain ⟨v_4, hi_5, e_6, h⟩ := wp_rdIx h
  refine PZ_ialdx (pc' := 81) (v := v_4) (id := 5043) (nn := 115) (pw_dk dc_X12_taxes 47 rfl) rfl me_5043 hi_5 e_6 ?_
  refine PW_iload (pc' := 83) (q := 0) (pw_dk dc_X12_taxes 48 rfl) rfl rfl ?_
  refine PZ_callSi (pc' := 86) (y := yJ9_min_7cf53) (M' := mJ9_min_7cf53) (d' := 0) (As := [.int v_4, .int s0]) (st := [.int v_1, .int x4, .ref 5043]) tw_671 (pw_dk dc_X12_taxes 49 rfl) rfl Y_J9_min_7cf53 tw_1868 rfl (by decide) (Nat.le_of_ble_eq_true rfl) (t_J9_min_7cf53 alM v_4 s0 σ _ ?_)
  refine ⟨_, rfl, fun hn_7 => ?_⟩
  show PZ alM mX12_taxes (3) Q 86 [(5, .int s0), (0, .ref 5000), (4, .int x4)] [.int (f_J9_min_7cf53 v_4 s0 σ), .int v_1, .int x4, .ref 5043] σ
  refine PW_isub (pc' := 87) (pw_dk dc_X12_taxes 50 rfl) rfl ?_
  obtain ⟨σ_8, hi_9, e_10, h⟩ := wp_wrIx h
  refine PZ_iastx (pc' := 88) (σ' := σ_8) (id := 5043) (nn := 115) (pw_dk dc_X12_taxes 51 rfl) rfl me_5043 hi_9 e_10 ?_
  have z := wp_some h
  exact PZ_vret (pw_dk dc_X12_taxes 52 rfl) rfl z
def f_X12_taxes_63  (x4 : Int32) (σ : zS) : Option zS := 
  f_X12_taxes_64 x4 0 σ
theorem b_X12_taxes_63 {Q : Option Value → zS → Prop} (x4 : Int32) (σ : zS) (h : wpO (f_X12_taxes_63 x4 σ) (fun s => Q none s)) : PZ alM mX12_taxes (3) Q 63 [(0, .ref 5000), (4, .int x4)] [] σ := by
  unfold f_X12_taxes_63 at h
  refine PW_iconst (pc' := 64) (v := 0) (pw_dk dc_X12_taxes 37 rfl) rfl (by decide) ?_
  exact b_X12_taxes_64 x4 0 σ h
def f_X12_taxes (x1 : Int32) (x2 : Int32) (x3 : Int32) (σ : zS) : Option zS := 
  lt (α := Int32) (((5 : Int32) * x1) + x2) fun x4_1 =>
  (rdI σ 5042 115 x4_1).bind fun v_2 =>
  (rdI σ 5039 23 x1).bind fun v_5 =>
  (f_X12_calls x2 v_2 x3 0 v_5 σ).bind fun σ_9 =>
  (f_X12_hasLaw 2 σ_9).bind fun v_12 =>
  if v_12 = 0 then
    f_X12_taxes_63 x4_1 σ_9
  else
    b2 (f_X12_goes 2 σ_9) fun v_17 σ_16 =>
    if v_17 = 0 then
      f_X12_taxes_63 x4_1 σ_16
    else
      (rdL σ_16 5036 64 0).bind fun v_20 =>
      f_X12_taxes_64 x4_1 ((f_J9_max_f86c9 0 (f_J9_min_f86c9 9 v_20 σ_16) σ_16).toInt32) σ_16
theorem t_X12_taxes (x1 : Int32) (x2 : Int32) (x3 : Int32) (σ : zS) (Q : Option Value → zS → Prop) (h : wpO (f_X12_taxes x1 x2 x3 σ) (fun s => Q none s)) : PK alM yX12_taxes mX12_taxes (3) [.ref 5000, .int x1, .int x2, .int x3] σ Q := by
  refine PC_ofF (by decide +kernel) rfl rfl (Nat.le_of_ble_eq_true rfl) ?_
  show PZ alM mX12_taxes (3) Q 0 [(0, .ref 5000), (1, .int x1), (2, .int x2), (3, .int x3)] [] σ
  unfold f_X12_taxes at h
  refine PW_iconst (pc' := 1) (v := 5) (pw_dk dc_X12_taxes 0 rfl) rfl (by decide) ?_
  refine PW_iload_n (pc' := 2) (q := 1) (pw_dk dc_X12_taxes 1 rfl) rfl rfl rfl ?_
  refine PW_imul (pc' := 3) (pw_dk dc_X12_taxes 2 rfl) rfl ?_
  refine PW_iload_n (pc' := 4) (q := 2) (pw_dk dc_X12_taxes 3 rfl) rfl rfl rfl ?_
  refine PW_iadd (pc' := 5) (pw_dk dc_X12_taxes 4 rfl) rfl ?_
  refine PW_topi (fun x4_1 ex4_1 => ?_)
  replace h := lt_w h ex4_1
  refine PW_istore (pc' := 7) (lv' := [(4, .int x4_1), (0, .ref 5000), (1, .int x1), (2, .int x2), (3, .int x3)]) (pw_dk dc_X12_taxes 5 rfl) rfl (by decide) rfl ?_
  refine PW_aload_n (pc' := 8) (q := 1) (pw_dk dc_X12_taxes 6 rfl) rfl rfl rfl ?_
  refine PW_iload_n (pc' := 9) (q := 3) (pw_dk dc_X12_taxes 7 rfl) rfl rfl rfl ?_
  refine PW_aload_n (pc' := 10) (q := 1) (pw_dk dc_X12_taxes 8 rfl) rfl rfl rfl ?_
  refine PW_getR (pc' := 13) (id := 5000) (ci := 12) (nn := 0) (C0 := RX12) (T := TX12) (N := 62) (j := 41) (r := 5042) (pw_dk dc_X12_taxes 9 rfl) rfl me_5000 rfl pi_12 (by decide) fk_12_41 tw_1438 (rfl) (by decide) ?_
  refine PW_iload (pc' := 15) (q := 0) (pw_dk dc_X12_taxes 10 rfl) rfl rfl ?_
  obtain ⟨v_2, hi_3, e_4, h⟩ := wp_rdIx h
  refine PZ_ialdx (pc' := 16) (v := v_2) (id := 5042) (nn := 115) (pw_dk dc_X12_taxes 11 rfl) rfl me_5042 hi_3 e_4 ?_
  refine PW_iload_n (pc' := 17) (q := 4) (pw_dk dc_X12_taxes 12 rfl) rfl rfl rfl ?_
  refine PW_iconst (pc' := 18) (v := 0) (pw_dk dc_X12_taxes 13 rfl) rfl (by decide) ?_
  refine PW_aload_n (pc' := 19) (q := 1) (pw_dk dc_X12_taxes 14 rfl) rfl rfl rfl ?_
  refine PW_getR (pc' := 22) (id := 5000) (ci := 12) (nn := 0) (C0 := RX12) (T := TX12) (N := 62) (j := 38) (r := 5039) (pw_dk dc_X12_taxes 15 rfl) rfl me_5000 rfl pi_12 (by decide) fk_12_38 tw_1435 (rfl) (by decide) ?_
  refine PW_iload_n (pc' := 23) (q := 2) (pw_dk dc_X12_taxes 16 rfl) rfl rfl rfl ?_
  obtain ⟨v_5, hi_6, e_7, h⟩ := wp_rdIx h
  refine PZ_ialdx (pc' := 24) (v := v_5) (id := 5039) (nn := 23) (pw_dk dc_X12_taxes 17 rfl) rfl me_5039 hi_6 e_7 ?_
  refine PZ_callVv (pc' := 27) (y := yX12_calls) (M' := mX12_calls) (d' := 2) (As := [.int x2, .int v_2, .int x3, .int 0, .int v_5]) (st := []) (b := 5000) (ci := 12) (nn := 0) me_5000 rfl tw_1781 tw_81 (pw_dk dc_X12_taxes 18 rfl) rfl Y_X12_calls tw_1779 rfl (by decide) (Nat.le_of_ble_eq_true rfl) (t_X12_calls x2 v_2 x3 0 v_5 σ _ ?_)
  obtain ⟨σ_9, e_10, h⟩ := wp_bind h
  refine ⟨σ_9, e_10, rfl, fun hn_8 => ?_⟩
  show PZ alM mX12_taxes (3) Q 27 [(4, .int x4_1), (0, .ref 5000), (1, .int x1), (2, .int x2), (3, .int x3)] [] σ_9
  refine PW_aload_n (pc' := 28) (q := 1) (pw_dk dc_X12_taxes 19 rfl) rfl rfl rfl ?_
  refine PW_iconst (pc' := 29) (v := 2) (pw_dk dc_X12_taxes 20 rfl) rfl (by decide) ?_
  refine PZ_callVi (pc' := 32) (y := yX12_hasLaw) (M' := mX12_hasLaw) (d' := 0) (As := [.int 2]) (st := []) (b := 5000) (ci := 12) (nn := 0) me_5000 rfl tw_1786 tw_82 (pw_dk dc_X12_taxes 21 rfl) rfl Y_X12_hasLaw tw_1784 rfl (by decide) (Nat.le_of_ble_eq_true rfl) (t_X12_hasLaw 2 σ_9 _ ?_)
  obtain ⟨v_12, e_13, h⟩ := wp_bind h
  refine ⟨v_12, e_13, _, rfl, fun hn_11 => ?_⟩
  show PZ alM mX12_taxes (3) Q 32 [(4, .int x4_1), (0, .ref 5000), (1, .int x1), (2, .int x2), (3, .int x3)] [.int v_12] σ_9
  refine PW_if_eq (pc' := 35) (tgt := 63) (pw_dk dc_X12_taxes 22 rfl) rfl (by decide) (fun c_14 => ?_) (fun c_14 => ?_)
  · rw [if_pos c_14] at h
    refine PW_sub (lv' := [(0, .ref 5000), (4, .int x4_1)]) [1, 0] rfl ?_
    exact b_X12_taxes_63 x4_1 σ_9 h
  · rw [if_neg c_14] at h
    refine PW_aload_n (pc' := 36) (q := 1) (pw_dk dc_X12_taxes 23 rfl) rfl rfl rfl ?_
    refine PW_iconst (pc' := 37) (v := 2) (pw_dk dc_X12_taxes 24 rfl) rfl (by decide) ?_
    refine PZ_callVi (pc' := 40) (y := yX12_goes) (M' := mX12_goes) (d' := 2) (As := [.int 2]) (st := []) (b := 5000) (ci := 12) (nn := 0) me_5000 rfl tw_1790 tw_83 (pw_dk dc_X12_taxes 25 rfl) rfl Y_X12_goes tw_1788 rfl (by decide) (Nat.le_of_ble_eq_true rfl) (t_X12_goes 2 σ_9 _ ?_)
    obtain ⟨⟨v_17, σ_16⟩, e_18, h⟩ := wp_bind2 h
    refine ⟨(v_17, σ_16), e_18, _, rfl, fun hn_15 => ?_⟩
    show PZ alM mX12_taxes (3) Q 40 [(4, .int x4_1), (0, .ref 5000), (1, .int x1), (2, .int x2), (3, .int x3)] [.int v_17] σ_16
    refine PW_if_eq (pc' := 43) (tgt := 63) (pw_dk dc_X12_taxes 26 rfl) rfl (by decide) (fun c_19 => ?_) (fun c_19 => ?_)
    · rw [if_pos c_19] at h
      refine PW_sub (lv' := [(0, .ref 5000), (4, .int x4_1)]) [1, 0] rfl ?_
      exact b_X12_taxes_63 x4_1 σ_16 h
    · rw [if_neg c_19] at h
      refine PW_lconst (pc' := 44) (v := 0) (pw_dk dc_X12_taxes 27 rfl) rfl (by decide) ?_
      refine PW_ldc2 (pc' := 47) (v := 9) (pw_dk dc_X12_taxes 28 rfl) rfl tw_1783 ?_
      refine PW_aload_n (pc' := 48) (q := 1) (pw_dk dc_X12_taxes 29 rfl) rfl rfl rfl ?_
      refine PW_getR (pc' := 51) (id := 5000) (ci := 12) (nn := 0) (C0 := RX12) (T := TX12) (N := 62) (j := 35) (r := 5036) (pw_dk dc_X12_taxes 30 rfl) rfl me_5000 rfl pi_12 (by decide) fk_12_35 tw_1432 (rfl) (by decide) ?_
      refine PW_iconst (pc' := 52) (v := 0) (pw_dk dc_X12_taxes 31 rfl) rfl (by decide) ?_
      obtain ⟨v_20, hi_21, e_22, h⟩ := wp_rdLx h
      refine PZ_laldx (pc' := 53) (v := v_20) (id := 5036) (nn := 64) (pw_dk dc_X12_taxes 32 rfl) rfl me_5036 hi_21 e_22 ?_
      refine PZ_callSl (pc' := 56) (y := yJ9_min_f86c9) (M' := mJ9_min_f86c9) (d' := 0) (As := [.long 9, .long v_20]) (st := [.long 0]) tw_1040 (pw_dk dc_X12_taxes 33 rfl) rfl Y_J9_min_f86c9 tw_1873 rfl (by decide) (Nat.le_of_ble_eq_true rfl) (t_J9_min_f86c9 alM 9 v_20 σ_16 _ ?_)
      refine ⟨_, rfl, fun hn_23 => ?_⟩
      show PZ alM mX12_taxes (3) Q 56 [(4, .int x4_1), (0, .ref 5000), (1, .int x1), (2, .int x2), (3, .int x3)] [.long (f_J9_min_f86c9 9 v_20 σ_16), .long 0] σ_16
      refine PZ_callSl (pc' := 59) (y := yJ9_max_f86c9) (M' := mJ9_max_f86c9) (d' := 0) (As := [.long 0, .long (f_J9_min_f86c9 9 v_20 σ_16)]) (st := []) tw_1043 (pw_dk dc_X12_taxes 34 rfl) rfl Y_J9_max_f86c9 tw_1874 rfl (by decide) (Nat.le_of_ble_eq_true rfl) (t_J9_max_f86c9 alM 0 (f_J9_min_f86c9 9 v_20 σ_16) σ_16 _ ?_)
      refine ⟨_, rfl, fun hn_24 => ?_⟩
      show PZ alM mX12_taxes (3) Q 59 [(4, .int x4_1), (0, .ref 5000), (1, .int x1), (2, .int x2), (3, .int x3)] [.long (f_J9_max_f86c9 0 (f_J9_min_f86c9 9 v_20 σ_16) σ_16)] σ_16
      refine PW_l2i (pc' := 60) (pw_dk dc_X12_taxes 35 rfl) rfl ?_
      refine PW_goto (tgt := 64) (pw_dk dc_X12_taxes 36 rfl) (by decide) ?_
      refine PW_sub (lv' := [(0, .ref 5000), (4, .int x4_1)]) [1, 0] rfl ?_
      exact b_X12_taxes_64 x4_1 ((f_J9_max_f86c9 0 (f_J9_min_f86c9 9 v_20 σ_16) σ_16).toInt32) σ_16 h
def f_X12_passes_33 (r2 : Int32 → Int32 → zS → Option zS) (x1 : Int32) (x2 : Int32) (σ : zS) : Option zS := 
  r2 x1 (x2 + 1) σ
theorem b_X12_passes_33 {Q : Option Value → zS → Prop} (r2 : Int32 → Int32 → zS → Option zS) (hr2 : ∀ (x1 : Int32) (x2 : Int32) (σ : zS), wpO (r2 x1 x2 σ) (fun s => Q none s) → PZ alM mX12_passes (6) Q 2 [(0, .ref 5000), (1, .int x1), (2, .int x2)] [] σ) (x1 : Int32) (x2 : Int32) (σ : zS) (h : wpO (f_X12_passes_33 r2 x1 x2 σ) (fun s => Q none s)) : PZ alM mX12_passes (6) Q 33 [(0, .ref 5000), (1, .int x1), (2, .int x2)] [] σ := by
  unfold f_X12_passes_33 at h
  refine PW_iinc (pc' := 36) (q := 2) (v := x2 + 1) (lv' := [(2, .int (x2 + 1)), (0, .ref 5000), (1, .int x1)]) (pw_dk dc_X12_passes 21 rfl) rfl rfl rfl (by decide) rfl ?_
  refine PW_goto (tgt := 2) (pw_dk dc_X12_passes 22 rfl) (by decide) ?_
  refine PW_sub (lv' := [(0, .ref 5000), (1, .int x1), (2, .int (x2 + 1))]) [1, 2, 0] rfl ?_
  exact hr2 x1 (x2 + 1) σ h
def f_X12_passes_64 (r52 : Int32 → Int32 → zS → Option zS) : Nat → Int32 → Int32 → Int32 → zS → Option zS
  | 0, _, _, _, _ => none
  | n + 1, x1, x2, x3, σ => 
    if 4 ≤ x3 then
      r52 x1 (x2 + 1) σ
    else
      (f_X12_taxes x1 x2 x3 σ).bind fun σ_3 =>
      f_X12_passes_64 r52 n x1 x2 (x3 + 1) σ_3
theorem b_X12_passes_64 {Q : Option Value → zS → Prop} (r52 : Int32 → Int32 → zS → Option zS) (hr52 : ∀ (x1 : Int32) (x2 : Int32) (σ : zS), wpO (r52 x1 x2 σ) (fun s => Q none s) → PZ alM mX12_passes (6) Q 52 [(0, .ref 5000), (1, .int x1), (2, .int x2)] [] σ) : ∀ (n : Nat) (x1 : Int32) (x2 : Int32) (x3 : Int32) (σ : zS) (h : wpO (f_X12_passes_64 r52 n x1 x2 x3 σ) (fun s => Q none s)), PZ alM mX12_passes (6) Q 64 [(0, .ref 5000), (1, .int x1), (2, .int x2), (3, .int x3)] [] σ := by
  intro n
  induction n with
  | zero => intro x1 x2 x3 σ h; exact wp_none h
  | succ n ih =>
    intro x1 x2 x3 σ h
    rw [f_X12_passes_64] at h
    refine PW_iload_n (pc' := 65) (q := 3) (pw_dk dc_X12_passes 39 rfl) rfl rfl rfl ?_
    refine PW_iconst (pc' := 66) (v := 4) (pw_dk dc_X12_passes 40 rfl) rfl (by decide) ?_
    refine PW_icmp_ge (pc' := 69) (tgt := 82) (pw_dk dc_X12_passes 41 rfl) rfl (by decide) (fun c_1 => ?_) (fun c_1 => ?_)
    · rw [if_pos c_1] at h
      refine PW_iinc (pc' := 85) (q := 2) (v := x2 + 1) (lv' := [(2, .int (x2 + 1)), (0, .ref 5000), (1, .int x1), (3, .int x3)]) (pw_dk dc_X12_passes 49 rfl) rfl rfl rfl (by decide) rfl ?_
      refine PW_goto (tgt := 52) (pw_dk dc_X12_passes 50 rfl) (by decide) ?_
      refine PW_sub (lv' := [(0, .ref 5000), (1, .int x1), (2, .int (x2 + 1))]) [1, 2, 0] rfl ?_
      exact hr52 x1 (x2 + 1) σ h
    · rw [if_neg c_1] at h
      refine PW_aload_n (pc' := 70) (q := 0) (pw_dk dc_X12_passes 42 rfl) rfl rfl rfl ?_
      refine PW_iload_n (pc' := 71) (q := 1) (pw_dk dc_X12_passes 43 rfl) rfl rfl rfl ?_
      refine PW_iload_n (pc' := 72) (q := 2) (pw_dk dc_X12_passes 44 rfl) rfl rfl rfl ?_
      refine PW_iload_n (pc' := 73) (q := 3) (pw_dk dc_X12_passes 45 rfl) rfl rfl rfl ?_
      refine PZ_callVv (pc' := 76) (y := yX12_taxes) (M' := mX12_taxes) (d' := 3) (As := [.int x1, .int x2, .int x3]) (st := []) (b := 5000) (ci := 12) (nn := 0) me_5000 rfl tw_1871 tw_93 (pw_dk dc_X12_passes 46 rfl) rfl Y_X12_taxes tw_1869 rfl (by decide) (Nat.le_of_ble_eq_true rfl) (t_X12_taxes x1 x2 x3 σ _ ?_)
      obtain ⟨σ_3, e_4, h⟩ := wp_bind h
      refine ⟨σ_3, e_4, rfl, fun hn_2 => ?_⟩
      show PZ alM mX12_passes (6) Q 76 [(0, .ref 5000), (1, .int x1), (2, .int x2), (3, .int x3)] [] σ_3
      refine PW_iinc (pc' := 79) (q := 3) (v := x3 + 1) (lv' := [(3, .int (x3 + 1)), (0, .ref 5000), (1, .int x1), (2, .int x2)]) (pw_dk dc_X12_passes 47 rfl) rfl rfl rfl (by decide) rfl ?_
      refine PW_goto (tgt := 64) (pw_dk dc_X12_passes 48 rfl) (by decide) ?_
      refine PW_sub (lv' := [(0, .ref 5000), (1, .int x1), (2, .int x2), (3, .int (x3 + 1))]) [1, 2, 3, 0] rfl ?_
      exact ih x1 x2 (x3 + 1) σ_3 h
def f_X12_passes_88  (x1 : Int32) (σ : zS) : Option zS := 
  (rdI σ 5039 23 x1).bind fun v_1 =>
  (wrI σ 5039 23 x1 (v_1 + (1 : Int32))).bind fun σ_4 =>
  some σ_4
theorem b_X12_passes_88 {Q : Option Value → zS → Prop} (x1 : Int32) (σ : zS) (h : wpO (f_X12_passes_88 x1 σ) (fun s => Q none s)) : PZ alM mX12_passes (6) Q 88 [(0, .ref 5000), (1, .int x1)] [] σ := by
  unfold f_X12_passes_88 at h
  refine PW_aload_n (pc' := 89) (q := 0) (pw_dk dc_X12_passes 51 rfl) rfl rfl rfl ?_
  refine PW_getR (pc' := 92) (id := 5000) (ci := 12) (nn := 0) (C0 := RX12) (T := TX12) (N := 62) (j := 38) (r := 5039) (pw_dk dc_X12_passes 52 rfl) rfl me_5000 rfl pi_12 (by decide) fk_12_38 tw_1435 (rfl) (by decide) ?_
  refine PW_iload_n (pc' := 93) (q := 1) (pw_dk dc_X12_passes 53 rfl) rfl rfl rfl ?_
  refine PW_dup2 (pc' := 94) (pw_dk dc_X12_passes 54 rfl) rfl rfl rfl ?_
  obtain ⟨v_1, hi_2, e_3, h⟩ := wp_rdIx h
  refine PZ_ialdx (pc' := 95) (v := v_1) (id := 5039) (nn := 23) (pw_dk dc_X12_passes 55 rfl) rfl me_5039 hi_2 e_3 ?_
  refine PW_iconst (pc' := 96) (v := 1) (pw_dk dc_X12_passes 56 rfl) rfl (by decide) ?_
  refine PW_iadd (pc' := 97) (pw_dk dc_X12_passes 57 rfl) rfl ?_
  obtain ⟨σ_4, hi_5, e_6, h⟩ := wp_wrIx h
  refine PZ_iastx (pc' := 98) (σ' := σ_4) (id := 5039) (nn := 23) (pw_dk dc_X12_passes 58 rfl) rfl me_5039 hi_5 e_6 ?_
  have z := wp_some h
  exact PZ_vret (pw_dk dc_X12_passes 59 rfl) rfl z
def f_X12_passes_52  : Nat → Int32 → Int32 → zS → Option zS
  | 0, _, _, _ => none
  | n + 1, x1, x2, σ => 
    (rdI σ 5004 16 2).bind fun v_1 =>
    if v_1 ≤ x2 then
      f_X12_passes_88 x1 σ
    else
      f_X12_passes_64 (f_X12_passes_52 n) FU x1 x2 0 σ
theorem b_X12_passes_52 {Q : Option Value → zS → Prop} : ∀ (n : Nat) (x1 : Int32) (x2 : Int32) (σ : zS) (h : wpO (f_X12_passes_52 n x1 x2 σ) (fun s => Q none s)), PZ alM mX12_passes (6) Q 52 [(0, .ref 5000), (1, .int x1), (2, .int x2)] [] σ := by
  intro n
  induction n with
  | zero => intro x1 x2 σ h; exact wp_none h
  | succ n ih =>
    intro x1 x2 σ h
    rw [f_X12_passes_52] at h
    refine PW_iload_n (pc' := 53) (q := 2) (pw_dk dc_X12_passes 31 rfl) rfl rfl rfl ?_
    refine PW_aload_n (pc' := 54) (q := 0) (pw_dk dc_X12_passes 32 rfl) rfl rfl rfl ?_
    refine PW_getR (pc' := 57) (id := 5000) (ci := 12) (nn := 0) (C0 := RX12) (T := TX12) (N := 62) (j := 3) (r := 5004) (pw_dk dc_X12_passes 33 rfl) rfl me_5000 rfl pi_12 (by decide) fk_12_3 tw_1400 (rfl) (by decide) ?_
    refine PW_iconst (pc' := 58) (v := 2) (pw_dk dc_X12_passes 34 rfl) rfl (by decide) ?_
    obtain ⟨v_1, hi_2, e_3, h⟩ := wp_rdIx h
    refine PZ_ialdx (pc' := 59) (v := v_1) (id := 5004) (nn := 16) (pw_dk dc_X12_passes 35 rfl) rfl me_5004 hi_2 e_3 ?_
    refine PW_icmp_ge (pc' := 62) (tgt := 88) (pw_dk dc_X12_passes 36 rfl) rfl (by decide) (fun c_4 => ?_) (fun c_4 => ?_)
    · rw [if_pos c_4] at h
      refine PW_sub (lv' := [(0, .ref 5000), (1, .int x1)]) [0, 1] rfl ?_
      exact b_X12_passes_88 x1 σ h
    · rw [if_neg c_4] at h
      refine PW_iconst (pc' := 63) (v := 0) (pw_dk dc_X12_passes 37 rfl) rfl (by decide) ?_
      refine PW_istore_n (pc' := 64) (lv' := [(3, .int 0), (0, .ref 5000), (1, .int x1), (2, .int x2)]) (pw_dk dc_X12_passes 38 rfl) rfl rfl (by decide) rfl ?_
      refine PW_sub (lv' := [(0, .ref 5000), (1, .int x1), (2, .int x2), (3, .int 0)]) [1, 2, 3, 0] rfl ?_
      exact b_X12_passes_64 (f_X12_passes_52 n) ih FU x1 x2 0 σ h
def f_X12_passes_2  : Nat → Int32 → Int32 → zS → Option zS
  | 0, _, _, _ => none
  | n + 1, x1, x2, σ => 
    (rdI σ 5004 16 3).bind fun v_1 =>
    if v_1 ≤ x2 then
      (rdI σ 5039 23 x1).bind fun v_5 =>
      if v_5 = 23 then
        f_X12_passes_52 FU x1 0 σ
      else
        f_X12_passes_88 x1 σ
    else
      (rdI σ 5017 24 x2).bind fun v_9 =>
      (rdI σ 5039 23 x1).bind fun v_12 =>
      if v_9 = v_12 then
        (f_X12_does x1 x2 σ).bind fun σ_17 =>
        f_X12_passes_33 (f_X12_passes_2 n) x1 x2 σ_17
      else
        f_X12_passes_33 (f_X12_passes_2 n) x1 x2 σ
theorem b_X12_passes_2 {Q : Option Value → zS → Prop} : ∀ (n : Nat) (x1 : Int32) (x2 : Int32) (σ : zS) (h : wpO (f_X12_passes_2 n x1 x2 σ) (fun s => Q none s)), PZ alM mX12_passes (6) Q 2 [(0, .ref 5000), (1, .int x1), (2, .int x2)] [] σ := by
  intro n
  induction n with
  | zero => intro x1 x2 σ h; exact wp_none h
  | succ n ih =>
    intro x1 x2 σ h
    rw [f_X12_passes_2] at h
    refine PW_iload_n (pc' := 3) (q := 2) (pw_dk dc_X12_passes 2 rfl) rfl rfl rfl ?_
    refine PW_aload_n (pc' := 4) (q := 0) (pw_dk dc_X12_passes 3 rfl) rfl rfl rfl ?_
    refine PW_getR (pc' := 7) (id := 5000) (ci := 12) (nn := 0) (C0 := RX12) (T := TX12) (N := 62) (j := 3) (r := 5004) (pw_dk dc_X12_passes 4 rfl) rfl me_5000 rfl pi_12 (by decide) fk_12_3 tw_1400 (rfl) (by decide) ?_
    refine PW_iconst (pc' := 8) (v := 3) (pw_dk dc_X12_passes 5 rfl) rfl (by decide) ?_
    obtain ⟨v_1, hi_2, e_3, h⟩ := wp_rdIx h
    refine PZ_ialdx (pc' := 9) (v := v_1) (id := 5004) (nn := 16) (pw_dk dc_X12_passes 6 rfl) rfl me_5004 hi_2 e_3 ?_
    refine PW_icmp_ge (pc' := 12) (tgt := 39) (pw_dk dc_X12_passes 7 rfl) rfl (by decide) (fun c_4 => ?_) (fun c_4 => ?_)
    · rw [if_pos c_4] at h
      refine PW_aload_n (pc' := 40) (q := 0) (pw_dk dc_X12_passes 23 rfl) rfl rfl rfl ?_
      refine PW_getR (pc' := 43) (id := 5000) (ci := 12) (nn := 0) (C0 := RX12) (T := TX12) (N := 62) (j := 38) (r := 5039) (pw_dk dc_X12_passes 24 rfl) rfl me_5000 rfl pi_12 (by decide) fk_12_38 tw_1435 (rfl) (by decide) ?_
      refine PW_iload_n (pc' := 44) (q := 1) (pw_dk dc_X12_passes 25 rfl) rfl rfl rfl ?_
      obtain ⟨v_5, hi_6, e_7, h⟩ := wp_rdIx h
      refine PZ_ialdx (pc' := 45) (v := v_5) (id := 5039) (nn := 23) (pw_dk dc_X12_passes 26 rfl) rfl me_5039 hi_6 e_7 ?_
      refine PW_bipush (pc' := 47) (v := 23) (pw_dk dc_X12_passes 27 rfl) rfl (by decide) ?_
      refine PW_icmp_ne (pc' := 50) (tgt := 88) (pw_dk dc_X12_passes 28 rfl) rfl (by decide) (fun c_8 => ?_) (fun c_8 => ?_)
      · rw [if_neg c_8] at h
        refine PW_sub (lv' := [(0, .ref 5000), (1, .int x1)]) [0, 1] rfl ?_
        exact b_X12_passes_88 x1 σ h
      · rw [if_pos c_8] at h
        refine PW_iconst (pc' := 51) (v := 0) (pw_dk dc_X12_passes 29 rfl) rfl (by decide) ?_
        refine PW_istore_n (pc' := 52) (lv' := [(2, .int 0), (0, .ref 5000), (1, .int x1)]) (pw_dk dc_X12_passes 30 rfl) rfl rfl (by decide) rfl ?_
        refine PW_sub (lv' := [(0, .ref 5000), (1, .int x1), (2, .int 0)]) [1, 2, 0] rfl ?_
        exact b_X12_passes_52 FU x1 0 σ h
    · rw [if_neg c_4] at h
      refine PW_aload_n (pc' := 13) (q := 0) (pw_dk dc_X12_passes 8 rfl) rfl rfl rfl ?_
      refine PW_getR (pc' := 16) (id := 5000) (ci := 12) (nn := 0) (C0 := RX12) (T := TX12) (N := 62) (j := 16) (r := 5017) (pw_dk dc_X12_passes 9 rfl) rfl me_5000 rfl pi_12 (by decide) fk_12_16 tw_1413 (rfl) (by decide) ?_
      refine PW_iload_n (pc' := 17) (q := 2) (pw_dk dc_X12_passes 10 rfl) rfl rfl rfl ?_
      obtain ⟨v_9, hi_10, e_11, h⟩ := wp_rdIx h
      refine PZ_ialdx (pc' := 18) (v := v_9) (id := 5017) (nn := 24) (pw_dk dc_X12_passes 11 rfl) rfl me_5017 hi_10 e_11 ?_
      refine PW_aload_n (pc' := 19) (q := 0) (pw_dk dc_X12_passes 12 rfl) rfl rfl rfl ?_
      refine PW_getR (pc' := 22) (id := 5000) (ci := 12) (nn := 0) (C0 := RX12) (T := TX12) (N := 62) (j := 38) (r := 5039) (pw_dk dc_X12_passes 13 rfl) rfl me_5000 rfl pi_12 (by decide) fk_12_38 tw_1435 (rfl) (by decide) ?_
      refine PW_iload_n (pc' := 23) (q := 1) (pw_dk dc_X12_passes 14 rfl) rfl rfl rfl ?_
      obtain ⟨v_12, hi_13, e_14, h⟩ := wp_rdIx h
      refine PZ_ialdx (pc' := 24) (v := v_12) (id := 5039) (nn := 23) (pw_dk dc_X12_passes 15 rfl) rfl me_5039 hi_13 e_14 ?_
      refine PW_icmp_ne (pc' := 27) (tgt := 33) (pw_dk dc_X12_passes 16 rfl) rfl (by decide) (fun c_15 => ?_) (fun c_15 => ?_)
      · rw [if_neg c_15] at h
        exact b_X12_passes_33 (f_X12_passes_2 n) ih x1 x2 σ h
      · rw [if_pos c_15] at h
        refine PW_aload_n (pc' := 28) (q := 0) (pw_dk dc_X12_passes 17 rfl) rfl rfl rfl ?_
        refine PW_iload_n (pc' := 29) (q := 1) (pw_dk dc_X12_passes 18 rfl) rfl rfl rfl ?_
        refine PW_iload_n (pc' := 30) (q := 2) (pw_dk dc_X12_passes 19 rfl) rfl rfl rfl ?_
        refine PZ_callVv (pc' := 33) (y := yX12_does) (M' := mX12_does) (d' := 5) (As := [.int x1, .int x2]) (st := []) (b := 5000) (ci := 12) (nn := 0) me_5000 rfl tw_1866 tw_92 (pw_dk dc_X12_passes 20 rfl) rfl Y_X12_does tw_1864 rfl (by decide) (Nat.le_of_ble_eq_true rfl) (t_X12_does x1 x2 σ _ ?_)
        obtain ⟨σ_17, e_18, h⟩ := wp_bind h
        refine ⟨σ_17, e_18, rfl, fun hn_16 => ?_⟩
        show PZ alM mX12_passes (6) Q 33 [(0, .ref 5000), (1, .int x1), (2, .int x2)] [] σ_17
        exact b_X12_passes_33 (f_X12_passes_2 n) ih x1 x2 σ_17 h
def f_X12_passes (x1 : Int32) (σ : zS) : Option zS := 
  f_X12_passes_2 FU x1 0 σ
theorem t_X12_passes (x1 : Int32) (σ : zS) (Q : Option Value → zS → Prop) (h : wpO (f_X12_passes x1 σ) (fun s => Q none s)) : PK alM yX12_passes mX12_passes (6) [.ref 5000, .int x1] σ Q := by
  refine PC_ofF (by decide +kernel) rfl rfl (Nat.le_of_ble_eq_true rfl) ?_
  show PZ alM mX12_passes (6) Q 0 [(0, .ref 5000), (1, .int x1)] [] σ
  unfold f_X12_passes at h
  refine PW_iconst (pc' := 1) (v := 0) (pw_dk dc_X12_passes 0 rfl) rfl (by decide) ?_
  refine PW_istore_n (pc' := 2) (lv' := [(2, .int 0), (0, .ref 5000), (1, .int x1)]) (pw_dk dc_X12_passes 1 rfl) rfl rfl (by decide) rfl ?_
  refine PW_sub (lv' := [(0, .ref 5000), (1, .int x1), (2, .int 0)]) [1, 2, 0] rfl ?_
  exact b_X12_passes_2 FU x1 0 σ h
def f_X12_go_41  : Nat → Int32 → Int32 → zS → Option (Int32 × zS)
  | 0, _, _, _ => none
  | n + 1, x1, x2, σ => 
    if x1 ≤ x2 then
      (rdI σ 5039 23 0).bind fun v_2 =>
      some (v_2, σ)
    else
      (f_X12_passes 0 σ).bind fun σ_6 =>
      f_X12_go_41 n x1 (x2 + 1) σ_6
theorem b_X12_go_41 {Q : Option Value → zS → Prop} : ∀ (n : Nat) (x1 : Int32) (x2 : Int32) (σ : zS) (h : wpO (f_X12_go_41 n x1 x2 σ) (fun a => Q (some (.int a.1)) a.2)), PZ alM mX12_go (7) Q 41 [(0, .ref 5000), (1, .int x1), (2, .int x2)] [] σ := by
  intro n
  induction n with
  | zero => intro x1 x2 σ h; exact wp_none h
  | succ n ih =>
    intro x1 x2 σ h
    rw [f_X12_go_41] at h
    refine PW_iload_n (pc' := 42) (q := 2) (pw_dk dc_X12_go 25 rfl) rfl rfl rfl ?_
    refine PW_iload_n (pc' := 43) (q := 1) (pw_dk dc_X12_go 26 rfl) rfl rfl rfl ?_
    refine PW_icmp_ge (pc' := 46) (tgt := 57) (pw_dk dc_X12_go 27 rfl) rfl (by decide) (fun c_1 => ?_) (fun c_1 => ?_)
    · rw [if_pos c_1] at h
      refine PW_aload_n (pc' := 58) (q := 0) (pw_dk dc_X12_go 33 rfl) rfl rfl rfl ?_
      refine PW_getR (pc' := 61) (id := 5000) (ci := 12) (nn := 0) (C0 := RX12) (T := TX12) (N := 62) (j := 38) (r := 5039) (pw_dk dc_X12_go 34 rfl) rfl me_5000 rfl pi_12 (by decide) fk_12_38 tw_1435 (rfl) (by decide) ?_
      refine PW_iconst (pc' := 62) (v := 0) (pw_dk dc_X12_go 35 rfl) rfl (by decide) ?_
      obtain ⟨v_2, hi_3, e_4, h⟩ := wp_rdIx h
      refine PZ_ialdx (pc' := 63) (v := v_2) (id := 5039) (nn := 23) (pw_dk dc_X12_go 36 rfl) rfl me_5039 hi_3 e_4 ?_
      have z := wp_some h
      exact PZ_iret (ty := .int) (pw_dk dc_X12_go 37 rfl) rfl rfl z
    · rw [if_neg c_1] at h
      refine PW_aload_n (pc' := 47) (q := 0) (pw_dk dc_X12_go 28 rfl) rfl rfl rfl ?_
      refine PW_iconst (pc' := 48) (v := 0) (pw_dk dc_X12_go 29 rfl) rfl (by decide) ?_
      refine PZ_callVv (pc' := 51) (y := yX12_passes) (M' := mX12_passes) (d' := 6) (As := [.int 0]) (st := []) (b := 5000) (ci := 12) (nn := 0) me_5000 rfl tw_1862 tw_91 (pw_dk dc_X12_go 30 rfl) rfl Y_X12_passes tw_1860 rfl (by decide) (Nat.le_of_ble_eq_true rfl) (t_X12_passes 0 σ _ ?_)
      obtain ⟨σ_6, e_7, h⟩ := wp_bind h
      refine ⟨σ_6, e_7, rfl, fun hn_5 => ?_⟩
      show PZ alM mX12_go (7) Q 51 [(0, .ref 5000), (1, .int x1), (2, .int x2)] [] σ_6
      refine PW_iinc (pc' := 54) (q := 2) (v := x2 + 1) (lv' := [(2, .int (x2 + 1)), (0, .ref 5000), (1, .int x1)]) (pw_dk dc_X12_go 31 rfl) rfl rfl rfl (by decide) rfl ?_
      refine PW_goto (tgt := 41) (pw_dk dc_X12_go 32 rfl) (by decide) ?_
      refine PW_sub (lv' := [(0, .ref 5000), (1, .int x1), (2, .int (x2 + 1))]) [1, 2, 0] rfl ?_
      exact ih x1 (x2 + 1) σ_6 h
def f_X12_go_39  (x1 : Int32) (σ : zS) : Option (Int32 × zS) := 
  f_X12_go_41 FU x1 0 σ
theorem b_X12_go_39 {Q : Option Value → zS → Prop} (x1 : Int32) (σ : zS) (h : wpO (f_X12_go_39 x1 σ) (fun a => Q (some (.int a.1)) a.2)) : PZ alM mX12_go (7) Q 39 [(0, .ref 5000), (1, .int x1)] [] σ := by
  unfold f_X12_go_39 at h
  refine PW_iconst (pc' := 40) (v := 0) (pw_dk dc_X12_go 23 rfl) rfl (by decide) ?_
  refine PW_istore_n (pc' := 41) (lv' := [(2, .int 0), (0, .ref 5000), (1, .int x1)]) (pw_dk dc_X12_go 24 rfl) rfl rfl (by decide) rfl ?_
  refine PW_sub (lv' := [(0, .ref 5000), (1, .int x1), (2, .int 0)]) [1, 2, 0] rfl ?_
  exact b_X12_go_41 FU x1 0 σ h
def f_X12_go (x1 : Int32) (σ : zS) : Option (Int32 × zS) := 
  lt (wI σ 5000 0 0) fun σ_1 =>
  if x1 < 0 then
    some ((-1 : Int32), σ_1)
  else
    if 24 < x1 then
      some ((-1 : Int32), σ_1)
    else
      (rdI σ_1 5039 23 0).bind fun v_5 =>
      if (v_5 + x1) ≤ 24 then
        if x1 ≤ 0 then
          f_X12_go_39 x1 σ_1
        else
          lt (wI σ_1 5000 46 0) fun σ_10 =>
          f_X12_go_39 x1 σ_10
      else
        some ((-1 : Int32), σ_1)
theorem t_X12_go (x1 : Int32) (σ : zS) (Q : Option Value → zS → Prop) (h : wpO (f_X12_go x1 σ) (fun a => Q (some (.int a.1)) a.2)) : PK alM yX12_go mX12_go (7) [.ref 5000, .int x1] σ Q := by
  refine PC_ofF (by decide +kernel) rfl rfl (Nat.le_of_ble_eq_true rfl) ?_
  show PZ alM mX12_go (7) Q 0 [(0, .ref 5000), (1, .int x1)] [] σ
  unfold f_X12_go at h
  refine PW_aload_n (pc' := 1) (q := 0) (pw_dk dc_X12_go 0 rfl) rfl rfl rfl ?_
  refine PW_iconst (pc' := 2) (v := 0) (pw_dk dc_X12_go 1 rfl) rfl (by decide) ?_
  obtain ⟨σ_1, e_2, h⟩ := lt_x h
  refine PZ_putX (pc' := 5) (σ' := σ_1) (id := 5000) (ci := 12) (nn := 0) (C0 := RX12) (T := TX12) (N := 62) (j := 0) (ty := tyX12 0) (pw_dk dc_X12_go 2 rfl) rfl me_5000 rfl pi_12 tyX12_ok nmX12 (by decide) fk_12_0 tw_1397 rfl (tyX12_ok 0 (by decide)) (by first | rfl | decide) (by first | rfl | decide) e_2 ?_
  refine PW_iload_n (pc' := 6) (q := 1) (pw_dk dc_X12_go 3 rfl) rfl rfl rfl ?_
  refine PW_if_lt (pc' := 9) (tgt := 28) (pw_dk dc_X12_go 4 rfl) rfl (by decide) (fun c_3 => ?_) (fun c_3 => ?_)
  · rw [if_pos c_3] at h
    refine PW_iconst (pc' := 29) (v := (-1 : Int32)) (pw_dk dc_X12_go 16 rfl) rfl (by decide) ?_
    have z := wp_some h
    exact PZ_iret (ty := .int) (pw_dk dc_X12_go 17 rfl) rfl rfl z
  · rw [if_neg c_3] at h
    refine PW_iload_n (pc' := 10) (q := 1) (pw_dk dc_X12_go 5 rfl) rfl rfl rfl ?_
    refine PW_bipush (pc' := 12) (v := 24) (pw_dk dc_X12_go 6 rfl) rfl (by decide) ?_
    refine PW_icmp_gt (pc' := 15) (tgt := 28) (pw_dk dc_X12_go 7 rfl) rfl (by decide) (fun c_4 => ?_) (fun c_4 => ?_)
    · rw [if_pos c_4] at h
      refine PW_iconst (pc' := 29) (v := (-1 : Int32)) (pw_dk dc_X12_go 16 rfl) rfl (by decide) ?_
      have z := wp_some h
      exact PZ_iret (ty := .int) (pw_dk dc_X12_go 17 rfl) rfl rfl z
    · rw [if_neg c_4] at h
      refine PW_aload_n (pc' := 16) (q := 0) (pw_dk dc_X12_go 8 rfl) rfl rfl rfl ?_
      refine PW_getR (pc' := 19) (id := 5000) (ci := 12) (nn := 0) (C0 := RX12) (T := TX12) (N := 62) (j := 38) (r := 5039) (pw_dk dc_X12_go 9 rfl) rfl me_5000 rfl pi_12 (by decide) fk_12_38 tw_1435 (rfl) (by decide) ?_
      refine PW_iconst (pc' := 20) (v := 0) (pw_dk dc_X12_go 10 rfl) rfl (by decide) ?_
      obtain ⟨v_5, hi_6, e_7, h⟩ := wp_rdIx h
      refine PZ_ialdx (pc' := 21) (v := v_5) (id := 5039) (nn := 23) (pw_dk dc_X12_go 11 rfl) rfl me_5039 hi_6 e_7 ?_
      refine PW_iload_n (pc' := 22) (q := 1) (pw_dk dc_X12_go 12 rfl) rfl rfl rfl ?_
      refine PW_iadd (pc' := 23) (pw_dk dc_X12_go 13 rfl) rfl ?_
      refine PW_bipush (pc' := 25) (v := 24) (pw_dk dc_X12_go 14 rfl) rfl (by decide) ?_
      refine PW_icmp_le (pc' := 28) (tgt := 30) (pw_dk dc_X12_go 15 rfl) rfl (by decide) (fun c_8 => ?_) (fun c_8 => ?_)
      · rw [if_pos c_8] at h
        refine PW_iload_n (pc' := 31) (q := 1) (pw_dk dc_X12_go 18 rfl) rfl rfl rfl ?_
        refine PW_if_le (pc' := 34) (tgt := 39) (pw_dk dc_X12_go 19 rfl) rfl (by decide) (fun c_9 => ?_) (fun c_9 => ?_)
        · rw [if_pos c_9] at h
          exact b_X12_go_39 x1 σ_1 h
        · rw [if_neg c_9] at h
          refine PW_aload_n (pc' := 35) (q := 0) (pw_dk dc_X12_go 20 rfl) rfl rfl rfl ?_
          refine PW_iconst (pc' := 36) (v := 0) (pw_dk dc_X12_go 21 rfl) rfl (by decide) ?_
          obtain ⟨σ_10, e_11, h⟩ := lt_x h
          refine PZ_putX (pc' := 39) (σ' := σ_10) (id := 5000) (ci := 12) (nn := 0) (C0 := RX12) (T := TX12) (N := 62) (j := 46) (ty := tyX12 46) (pw_dk dc_X12_go 22 rfl) rfl me_5000 rfl pi_12 tyX12_ok nmX12 (by decide) fk_12_46 tw_1443 rfl (tyX12_ok 46 (by decide)) (by first | rfl | decide) (by first | rfl | decide) e_11 ?_
          exact b_X12_go_39 x1 σ_10 h
      · rw [if_neg c_8] at h
        refine PW_iconst (pc' := 29) (v := (-1 : Int32)) (pw_dk dc_X12_go 16 rfl) rfl (by decide) ?_
        have z := wp_some h
        exact PZ_iret (ty := .int) (pw_dk dc_X12_go 17 rfl) rfl rfl z
def f_X12_statesMany  (σ : zS) : Option Int32 := 
  (rdI σ 5004 16 0).bind fun v_1 =>
  some ((16 : Int32) * v_1)
theorem t_X12_statesMany (σ : zS) (Q : Option Value → zS → Prop) (h : wpO (f_X12_statesMany σ) (fun a => Q (some (.int a)) σ)) : PK alM yX12_statesMany mX12_statesMany (0) [.ref 5000] σ Q := by
  refine PC_ofF (by decide +kernel) rfl rfl (Nat.le_of_ble_eq_true rfl) ?_
  show PZ alM mX12_statesMany (0) Q 0 [(0, .ref 5000)] [] σ
  unfold f_X12_statesMany at h
  refine PW_bipush (pc' := 2) (v := 16) (pw_dk dc_X12_statesMany 0 rfl) rfl (by decide) ?_
  refine PW_aload_n (pc' := 3) (q := 0) (pw_dk dc_X12_statesMany 1 rfl) rfl rfl rfl ?_
  refine PW_getR (pc' := 6) (id := 5000) (ci := 12) (nn := 0) (C0 := RX12) (T := TX12) (N := 62) (j := 3) (r := 5004) (pw_dk dc_X12_statesMany 2 rfl) rfl me_5000 rfl pi_12 (by decide) fk_12_3 tw_1400 (rfl) (by decide) ?_
  refine PW_iconst (pc' := 7) (v := 0) (pw_dk dc_X12_statesMany 3 rfl) rfl (by decide) ?_
  obtain ⟨v_1, hi_2, e_3, h⟩ := wp_rdIx h
  refine PZ_ialdx (pc' := 8) (v := v_1) (id := 5004) (nn := 16) (pw_dk dc_X12_statesMany 4 rfl) rfl me_5004 hi_2 e_3 ?_
  refine PW_imul (pc' := 9) (pw_dk dc_X12_statesMany 5 rfl) rfl ?_
  have z := wp_some h
  exact PZ_iret (ty := .int) (pw_dk dc_X12_statesMany 6 rfl) rfl rfl z
def f_X12_layGoal_3  : Nat → Int32 → Int32 → Int32 → Int32 → zS → Option zS
  | 0, _, _, _, _, _ => none
  | n + 1, x1, x2, x3, x4, σ => 
    (f_X12_statesMany σ).bind fun v_2 =>
    if v_2 ≤ x4 then
      some σ
    else
      (rdI σ 5039 23 0).bind fun v_5 =>
      b2 (f_X12_isLawful x1 x4 x2 x3 v_5 σ) fun v_10 σ_9 =>
      (wrZ σ_9 5051 192 x4 v_10).bind fun σ_12 =>
      f_X12_layGoal_3 n x1 x2 x3 (x4 + 1) σ_12
theorem b_X12_layGoal_3 {Q : Option Value → zS → Prop} : ∀ (n : Nat) (x1 : Int32) (x2 : Int32) (x3 : Int32) (x4 : Int32) (σ : zS) (h : wpO (f_X12_layGoal_3 n x1 x2 x3 x4 σ) (fun s => Q none s)), PZ alM mX12_layGoal (5) Q 3 [(0, .ref 5000), (1, .int x1), (2, .int x2), (3, .int x3), (4, .int x4)] [] σ := by
  intro n
  induction n with
  | zero => intro x1 x2 x3 x4 σ h; exact wp_none h
  | succ n ih =>
    intro x1 x2 x3 x4 σ h
    rw [f_X12_layGoal_3] at h
    refine PW_iload (pc' := 5) (q := 4) (pw_dk dc_X12_layGoal 2 rfl) rfl rfl ?_
    refine PW_aload_n (pc' := 6) (q := 0) (pw_dk dc_X12_layGoal 3 rfl) rfl rfl rfl ?_
    refine PZ_callVi (pc' := 9) (y := yX12_statesMany) (M' := mX12_statesMany) (d' := 0) (As := []) (st := [.int x4]) (b := 5000) (ci := 12) (nn := 0) me_5000 rfl tw_1889 tw_96 (pw_dk dc_X12_layGoal 4 rfl) rfl Y_X12_statesMany tw_1887 rfl (by decide) (Nat.le_of_ble_eq_true rfl) (t_X12_statesMany σ _ ?_)
    obtain ⟨v_2, e_3, h⟩ := wp_bind h
    refine ⟨v_2, e_3, _, rfl, fun hn_1 => ?_⟩
    show PZ alM mX12_layGoal (5) Q 9 [(0, .ref 5000), (1, .int x1), (2, .int x2), (3, .int x3), (4, .int x4)] [.int v_2, .int x4] σ
    refine PW_icmp_ge (pc' := 12) (tgt := 40) (pw_dk dc_X12_layGoal 5 rfl) rfl (by decide) (fun c_4 => ?_) (fun c_4 => ?_)
    · rw [if_pos c_4] at h
      have z := wp_some h
      exact PZ_vret (pw_dk dc_X12_layGoal 22 rfl) rfl z
    · rw [if_neg c_4] at h
      refine PW_aload_n (pc' := 13) (q := 0) (pw_dk dc_X12_layGoal 6 rfl) rfl rfl rfl ?_
      refine PW_getR (pc' := 16) (id := 5000) (ci := 12) (nn := 0) (C0 := RX12) (T := TX12) (N := 62) (j := 50) (r := 5051) (pw_dk dc_X12_layGoal 7 rfl) rfl me_5000 rfl pi_12 (by decide) fk_12_50 tw_1447 (rfl) (by decide) ?_
      refine PW_iload (pc' := 18) (q := 4) (pw_dk dc_X12_layGoal 8 rfl) rfl rfl ?_
      refine PW_aload_n (pc' := 19) (q := 0) (pw_dk dc_X12_layGoal 9 rfl) rfl rfl rfl ?_
      refine PW_iload_n (pc' := 20) (q := 1) (pw_dk dc_X12_layGoal 10 rfl) rfl rfl rfl ?_
      refine PW_iload (pc' := 22) (q := 4) (pw_dk dc_X12_layGoal 11 rfl) rfl rfl ?_
      refine PW_iload_n (pc' := 23) (q := 2) (pw_dk dc_X12_layGoal 12 rfl) rfl rfl rfl ?_
      refine PW_iload_n (pc' := 24) (q := 3) (pw_dk dc_X12_layGoal 13 rfl) rfl rfl rfl ?_
      refine PW_aload_n (pc' := 25) (q := 0) (pw_dk dc_X12_layGoal 14 rfl) rfl rfl rfl ?_
      refine PW_getR (pc' := 28) (id := 5000) (ci := 12) (nn := 0) (C0 := RX12) (T := TX12) (N := 62) (j := 38) (r := 5039) (pw_dk dc_X12_layGoal 15 rfl) rfl me_5000 rfl pi_12 (by decide) fk_12_38 tw_1435 (rfl) (by decide) ?_
      refine PW_iconst (pc' := 29) (v := 0) (pw_dk dc_X12_layGoal 16 rfl) rfl (by decide) ?_
      obtain ⟨v_5, hi_6, e_7, h⟩ := wp_rdIx h
      refine PZ_ialdx (pc' := 30) (v := v_5) (id := 5039) (nn := 23) (pw_dk dc_X12_layGoal 17 rfl) rfl me_5039 hi_6 e_7 ?_
      refine PZ_callVi (pc' := 33) (y := yX12_isLawful) (M' := mX12_isLawful) (d' := 4) (As := [.int x1, .int x4, .int x2, .int x3, .int v_5]) (st := [.int x4, .ref 5051]) (b := 5000) (ci := 12) (nn := 0) me_5000 rfl tw_1817 tw_86 (pw_dk dc_X12_layGoal 18 rfl) rfl Y_X12_isLawful tw_1815 rfl (by decide) (Nat.le_of_ble_eq_true rfl) (t_X12_isLawful x1 x4 x2 x3 v_5 σ _ ?_)
      obtain ⟨⟨v_10, σ_9⟩, e_11, h⟩ := wp_bind2 h
      refine ⟨(v_10, σ_9), e_11, _, rfl, fun hn_8 => ?_⟩
      show PZ alM mX12_layGoal (5) Q 33 [(0, .ref 5000), (1, .int x1), (2, .int x2), (3, .int x3), (4, .int x4)] [.int v_10, .int x4, .ref 5051] σ_9
      obtain ⟨σ_12, hi_13, e_14, h⟩ := wp_wrZx h
      refine PZ_zastx (pc' := 34) (σ' := σ_12) (id := 5051) (nn := 192) (pw_dk dc_X12_layGoal 19 rfl) rfl me_5051 hi_13 e_14 ?_
      refine PW_iinc (pc' := 37) (q := 4) (v := x4 + 1) (lv' := [(4, .int (x4 + 1)), (0, .ref 5000), (1, .int x1), (2, .int x2), (3, .int x3)]) (pw_dk dc_X12_layGoal 20 rfl) rfl rfl rfl (by decide) rfl ?_
      refine PW_goto (tgt := 3) (pw_dk dc_X12_layGoal 21 rfl) (by decide) ?_
      refine PW_sub (lv' := [(0, .ref 5000), (1, .int x1), (2, .int x2), (3, .int x3), (4, .int (x4 + 1))]) [1, 2, 3, 4, 0] rfl ?_
      exact ih x1 x2 x3 (x4 + 1) σ_12 h
def f_X12_layGoal (x1 : Int32) (x2 : Int32) (x3 : Int32) (σ : zS) : Option zS := 
  f_X12_layGoal_3 FU x1 x2 x3 0 σ
theorem t_X12_layGoal (x1 : Int32) (x2 : Int32) (x3 : Int32) (σ : zS) (Q : Option Value → zS → Prop) (h : wpO (f_X12_layGoal x1 x2 x3 σ) (fun s => Q none s)) : PK alM yX12_layGoal mX12_layGoal (5) [.ref 5000, .int x1, .int x2, .int x3] σ Q := by
  refine PC_ofF (by decide +kernel) rfl rfl (Nat.le_of_ble_eq_true rfl) ?_
  show PZ alM mX12_layGoal (5) Q 0 [(0, .ref 5000), (1, .int x1), (2, .int x2), (3, .int x3)] [] σ
  unfold f_X12_layGoal at h
  refine PW_iconst (pc' := 1) (v := 0) (pw_dk dc_X12_layGoal 0 rfl) rfl (by decide) ?_
  refine PW_istore (pc' := 3) (lv' := [(4, .int 0), (0, .ref 5000), (1, .int x1), (2, .int x2), (3, .int x3)]) (pw_dk dc_X12_layGoal 1 rfl) rfl (by decide) rfl ?_
  refine PW_sub (lv' := [(0, .ref 5000), (1, .int x1), (2, .int x2), (3, .int x3), (4, .int 0)]) [1, 2, 3, 4, 0] rfl ?_
  exact b_X12_layGoal_3 FU x1 x2 x3 0 σ h
def f_X12_spreadsSteps_78 (r20 : Int32 → Int32 → Int32 → zS → Option zS) (x1 : Int32) (x2 : Int32) (x3 : Int32) (σ : zS) : Option zS := 
  r20 x1 x2 (x3 + 1) σ
theorem b_X12_spreadsSteps_78 {Q : Option Value → zS → Prop} (r20 : Int32 → Int32 → Int32 → zS → Option zS) (hr20 : ∀ (x1 : Int32) (x2 : Int32) (x3 : Int32) (σ : zS), wpO (r20 x1 x2 x3 σ) (fun s => Q none s) → PZ alM mX12_spreadsSteps (2) Q 20 [(0, .ref 5000), (1, .int x1), (2, .int x2), (3, .int x3)] [] σ) (x1 : Int32) (x2 : Int32) (x3 : Int32) (σ : zS) (h : wpO (f_X12_spreadsSteps_78 r20 x1 x2 x3 σ) (fun s => Q none s)) : PZ alM mX12_spreadsSteps (2) Q 78 [(0, .ref 5000), (1, .int x1), (2, .int x2), (3, .int x3)] [] σ := by
  unfold f_X12_spreadsSteps_78 at h
  refine PW_iinc (pc' := 81) (q := 3) (v := x3 + 1) (lv' := [(3, .int (x3 + 1)), (0, .ref 5000), (1, .int x1), (2, .int x2)]) (pw_dk dc_X12_spreadsSteps 49 rfl) rfl rfl rfl (by decide) rfl ?_
  refine PW_goto (tgt := 20) (pw_dk dc_X12_spreadsSteps 50 rfl) (by decide) ?_
  refine PW_sub (lv' := [(0, .ref 5000), (1, .int x1), (2, .int x2), (3, .int (x3 + 1))]) [1, 2, 3, 0] rfl ?_
  exact hr20 x1 x2 (x3 + 1) σ h
def f_X12_spreadsSteps_20 (r10 : Int32 → Int32 → zS → Option zS) : Nat → Int32 → Int32 → Int32 → zS → Option zS
  | 0, _, _, _, _ => none
  | n + 1, x1, x2, x3, σ => 
    if 6 ≤ x3 then
      r10 x1 (x2 + 1) σ
    else
      (f_X12_moved x2 x3 σ).bind fun v_3 =>
      if v_3 = (-1 : Int32) then
        f_X12_spreadsSteps_78 (f_X12_spreadsSteps_20 r10 n) x1 x2 x3 σ
      else
        (rdI σ 5049 192 v_3).bind fun v_6 =>
        (rdI σ 5049 192 x2).bind fun v_9 =>
        if (v_6 + (1 : Int32)) < v_9 then
          (rdI σ 5049 192 v_3).bind fun v_13 =>
          (wrI σ 5049 192 x2 (v_13 + (1 : Int32))).bind fun σ_16 =>
          f_X12_spreadsSteps_78 (f_X12_spreadsSteps_20 r10 n) 1 x2 x3 σ_16
        else
          f_X12_spreadsSteps_78 (f_X12_spreadsSteps_20 r10 n) x1 x2 x3 σ
theorem b_X12_spreadsSteps_20 {Q : Option Value → zS → Prop} (r10 : Int32 → Int32 → zS → Option zS) (hr10 : ∀ (x1 : Int32) (x2 : Int32) (σ : zS), wpO (r10 x1 x2 σ) (fun s => Q none s) → PZ alM mX12_spreadsSteps (2) Q 10 [(0, .ref 5000), (1, .int x1), (2, .int x2)] [] σ) : ∀ (n : Nat) (x1 : Int32) (x2 : Int32) (x3 : Int32) (σ : zS) (h : wpO (f_X12_spreadsSteps_20 r10 n x1 x2 x3 σ) (fun s => Q none s)), PZ alM mX12_spreadsSteps (2) Q 20 [(0, .ref 5000), (1, .int x1), (2, .int x2), (3, .int x3)] [] σ := by
  intro n
  induction n with
  | zero => intro x1 x2 x3 σ h; exact wp_none h
  | succ n ih =>
    intro x1 x2 x3 σ h
    rw [f_X12_spreadsSteps_20] at h
    refine PW_iload_n (pc' := 21) (q := 3) (pw_dk dc_X12_spreadsSteps 14 rfl) rfl rfl rfl ?_
    refine PW_bipush (pc' := 23) (v := 6) (pw_dk dc_X12_spreadsSteps 15 rfl) rfl (by decide) ?_
    refine PW_icmp_ge (pc' := 26) (tgt := 84) (pw_dk dc_X12_spreadsSteps 16 rfl) rfl (by decide) (fun c_1 => ?_) (fun c_1 => ?_)
    · rw [if_pos c_1] at h
      refine PW_iinc (pc' := 87) (q := 2) (v := x2 + 1) (lv' := [(2, .int (x2 + 1)), (0, .ref 5000), (1, .int x1), (3, .int x3)]) (pw_dk dc_X12_spreadsSteps 51 rfl) rfl rfl rfl (by decide) rfl ?_
      refine PW_goto (tgt := 10) (pw_dk dc_X12_spreadsSteps 52 rfl) (by decide) ?_
      refine PW_sub (lv' := [(0, .ref 5000), (1, .int x1), (2, .int (x2 + 1))]) [1, 2, 0] rfl ?_
      exact hr10 x1 (x2 + 1) σ h
    · rw [if_neg c_1] at h
      refine PW_aload_n (pc' := 27) (q := 0) (pw_dk dc_X12_spreadsSteps 17 rfl) rfl rfl rfl ?_
      refine PW_iload_n (pc' := 28) (q := 2) (pw_dk dc_X12_spreadsSteps 18 rfl) rfl rfl rfl ?_
      refine PW_iload_n (pc' := 29) (q := 3) (pw_dk dc_X12_spreadsSteps 19 rfl) rfl rfl rfl ?_
      refine PZ_callVi (pc' := 32) (y := yX12_moved) (M' := mX12_moved) (d' := 1) (As := [.int x2, .int x3]) (st := []) (b := 5000) (ci := 12) (nn := 0) me_5000 rfl tw_1842 tw_88 (pw_dk dc_X12_spreadsSteps 20 rfl) rfl Y_X12_moved tw_1840 rfl (by decide) (Nat.le_of_ble_eq_true rfl) (t_X12_moved x2 x3 σ _ ?_)
      obtain ⟨v_3, e_4, h⟩ := wp_bind h
      refine ⟨v_3, e_4, _, rfl, fun hn_2 => ?_⟩
      show PZ alM mX12_spreadsSteps (2) Q 32 [(0, .ref 5000), (1, .int x1), (2, .int x2), (3, .int x3)] [.int v_3] σ
      refine PW_istore (pc' := 34) (lv' := [(4, .int v_3), (0, .ref 5000), (1, .int x1), (2, .int x2), (3, .int x3)]) (pw_dk dc_X12_spreadsSteps 21 rfl) rfl (by decide) rfl ?_
      refine PW_iload (pc' := 36) (q := 0) (pw_dk dc_X12_spreadsSteps 22 rfl) rfl rfl ?_
      refine PW_iconst (pc' := 37) (v := (-1 : Int32)) (pw_dk dc_X12_spreadsSteps 23 rfl) rfl (by decide) ?_
      refine PW_icmp_eq (pc' := 40) (tgt := 78) (pw_dk dc_X12_spreadsSteps 24 rfl) rfl (by decide) (fun c_5 => ?_) (fun c_5 => ?_)
      · rw [if_pos c_5] at h
        refine PW_sub (lv' := [(0, .ref 5000), (1, .int x1), (2, .int x2), (3, .int x3)]) [1, 2, 3, 4] rfl ?_
        exact b_X12_spreadsSteps_78 (f_X12_spreadsSteps_20 r10 n) ih x1 x2 x3 σ h
      · rw [if_neg c_5] at h
        refine PW_aload_n (pc' := 41) (q := 1) (pw_dk dc_X12_spreadsSteps 25 rfl) rfl rfl rfl ?_
        refine PW_getR (pc' := 44) (id := 5000) (ci := 12) (nn := 0) (C0 := RX12) (T := TX12) (N := 62) (j := 48) (r := 5049) (pw_dk dc_X12_spreadsSteps 26 rfl) rfl me_5000 rfl pi_12 (by decide) fk_12_48 tw_1445 (rfl) (by decide) ?_
        refine PW_iload (pc' := 46) (q := 0) (pw_dk dc_X12_spreadsSteps 27 rfl) rfl rfl ?_
        obtain ⟨v_6, hi_7, e_8, h⟩ := wp_rdIx h
        refine PZ_ialdx (pc' := 47) (v := v_6) (id := 5049) (nn := 192) (pw_dk dc_X12_spreadsSteps 28 rfl) rfl me_5049 hi_7 e_8 ?_
        refine PW_iconst (pc' := 48) (v := 1) (pw_dk dc_X12_spreadsSteps 29 rfl) rfl (by decide) ?_
        refine PW_iadd (pc' := 49) (pw_dk dc_X12_spreadsSteps 30 rfl) rfl ?_
        refine PW_aload_n (pc' := 50) (q := 1) (pw_dk dc_X12_spreadsSteps 31 rfl) rfl rfl rfl ?_
        refine PW_getR (pc' := 53) (id := 5000) (ci := 12) (nn := 0) (C0 := RX12) (T := TX12) (N := 62) (j := 48) (r := 5049) (pw_dk dc_X12_spreadsSteps 32 rfl) rfl me_5000 rfl pi_12 (by decide) fk_12_48 tw_1445 (rfl) (by decide) ?_
        refine PW_iload_n (pc' := 54) (q := 3) (pw_dk dc_X12_spreadsSteps 33 rfl) rfl rfl rfl ?_
        obtain ⟨v_9, hi_10, e_11, h⟩ := wp_rdIx h
        refine PZ_ialdx (pc' := 55) (v := v_9) (id := 5049) (nn := 192) (pw_dk dc_X12_spreadsSteps 34 rfl) rfl me_5049 hi_10 e_11 ?_
        refine PW_icmp_lt (pc' := 58) (tgt := 61) (pw_dk dc_X12_spreadsSteps 35 rfl) rfl (by decide) (fun c_12 => ?_) (fun c_12 => ?_)
        · rw [if_pos c_12] at h
          refine PW_aload_n (pc' := 62) (q := 1) (pw_dk dc_X12_spreadsSteps 37 rfl) rfl rfl rfl ?_
          refine PW_getR (pc' := 65) (id := 5000) (ci := 12) (nn := 0) (C0 := RX12) (T := TX12) (N := 62) (j := 48) (r := 5049) (pw_dk dc_X12_spreadsSteps 38 rfl) rfl me_5000 rfl pi_12 (by decide) fk_12_48 tw_1445 (rfl) (by decide) ?_
          refine PW_iload_n (pc' := 66) (q := 3) (pw_dk dc_X12_spreadsSteps 39 rfl) rfl rfl rfl ?_
          refine PW_aload_n (pc' := 67) (q := 1) (pw_dk dc_X12_spreadsSteps 40 rfl) rfl rfl rfl ?_
          refine PW_getR (pc' := 70) (id := 5000) (ci := 12) (nn := 0) (C0 := RX12) (T := TX12) (N := 62) (j := 48) (r := 5049) (pw_dk dc_X12_spreadsSteps 41 rfl) rfl me_5000 rfl pi_12 (by decide) fk_12_48 tw_1445 (rfl) (by decide) ?_
          refine PW_iload (pc' := 72) (q := 0) (pw_dk dc_X12_spreadsSteps 42 rfl) rfl rfl ?_
          obtain ⟨v_13, hi_14, e_15, h⟩ := wp_rdIx h
          refine PZ_ialdx (pc' := 73) (v := v_13) (id := 5049) (nn := 192) (pw_dk dc_X12_spreadsSteps 43 rfl) rfl me_5049 hi_14 e_15 ?_
          refine PW_iconst (pc' := 74) (v := 1) (pw_dk dc_X12_spreadsSteps 44 rfl) rfl (by decide) ?_
          refine PW_iadd (pc' := 75) (pw_dk dc_X12_spreadsSteps 45 rfl) rfl ?_
          obtain ⟨σ_16, hi_17, e_18, h⟩ := wp_wrIx h
          refine PZ_iastx (pc' := 76) (σ' := σ_16) (id := 5049) (nn := 192) (pw_dk dc_X12_spreadsSteps 46 rfl) rfl me_5049 hi_17 e_18 ?_
          refine PW_iconst (pc' := 77) (v := 1) (pw_dk dc_X12_spreadsSteps 47 rfl) rfl (by decide) ?_
          refine PW_istore_n (pc' := 78) (lv' := [(1, .int 1), (4, .int v_3), (0, .ref 5000), (2, .int x2), (3, .int x3)]) (pw_dk dc_X12_spreadsSteps 48 rfl) rfl rfl (by decide) rfl ?_
          refine PW_sub (lv' := [(0, .ref 5000), (1, .int 1), (2, .int x2), (3, .int x3)]) [2, 0, 3, 4] rfl ?_
          exact b_X12_spreadsSteps_78 (f_X12_spreadsSteps_20 r10 n) ih 1 x2 x3 σ_16 h
        · rw [if_neg c_12] at h
          refine PW_goto (tgt := 78) (pw_dk dc_X12_spreadsSteps 36 rfl) (by decide) ?_
          refine PW_sub (lv' := [(0, .ref 5000), (1, .int x1), (2, .int x2), (3, .int x3)]) [1, 2, 3, 4] rfl ?_
          exact b_X12_spreadsSteps_78 (f_X12_spreadsSteps_20 r10 n) ih x1 x2 x3 σ h
def f_X12_spreadsSteps_10 (r2 : Int32 → zS → Option zS) : Nat → Int32 → Int32 → zS → Option zS
  | 0, _, _, _ => none
  | n + 1, x1, x2, σ => 
    (f_X12_statesMany σ).bind fun v_2 =>
    if v_2 ≤ x2 then
      r2 x1 σ
    else
      f_X12_spreadsSteps_20 (f_X12_spreadsSteps_10 r2 n) FU x1 x2 0 σ
theorem b_X12_spreadsSteps_10 {Q : Option Value → zS → Prop} (r2 : Int32 → zS → Option zS) (hr2 : ∀ (x1 : Int32) (σ : zS), wpO (r2 x1 σ) (fun s => Q none s) → PZ alM mX12_spreadsSteps (2) Q 2 [(0, .ref 5000), (1, .int x1)] [] σ) : ∀ (n : Nat) (x1 : Int32) (x2 : Int32) (σ : zS) (h : wpO (f_X12_spreadsSteps_10 r2 n x1 x2 σ) (fun s => Q none s)), PZ alM mX12_spreadsSteps (2) Q 10 [(0, .ref 5000), (1, .int x1), (2, .int x2)] [] σ := by
  intro n
  induction n with
  | zero => intro x1 x2 σ h; exact wp_none h
  | succ n ih =>
    intro x1 x2 σ h
    rw [f_X12_spreadsSteps_10] at h
    refine PW_iload_n (pc' := 11) (q := 2) (pw_dk dc_X12_spreadsSteps 8 rfl) rfl rfl rfl ?_
    refine PW_aload_n (pc' := 12) (q := 0) (pw_dk dc_X12_spreadsSteps 9 rfl) rfl rfl rfl ?_
    refine PZ_callVi (pc' := 15) (y := yX12_statesMany) (M' := mX12_statesMany) (d' := 0) (As := []) (st := [.int x2]) (b := 5000) (ci := 12) (nn := 0) me_5000 rfl tw_1889 tw_96 (pw_dk dc_X12_spreadsSteps 10 rfl) rfl Y_X12_statesMany tw_1887 rfl (by decide) (Nat.le_of_ble_eq_true rfl) (t_X12_statesMany σ _ ?_)
    obtain ⟨v_2, e_3, h⟩ := wp_bind h
    refine ⟨v_2, e_3, _, rfl, fun hn_1 => ?_⟩
    show PZ alM mX12_spreadsSteps (2) Q 15 [(0, .ref 5000), (1, .int x1), (2, .int x2)] [.int v_2, .int x2] σ
    refine PW_icmp_ge (pc' := 18) (tgt := 90) (pw_dk dc_X12_spreadsSteps 11 rfl) rfl (by decide) (fun c_4 => ?_) (fun c_4 => ?_)
    · rw [if_pos c_4] at h
      refine PW_goto (tgt := 2) (pw_dk dc_X12_spreadsSteps 53 rfl) (by decide) ?_
      refine PW_sub (lv' := [(0, .ref 5000), (1, .int x1)]) [0, 1] rfl ?_
      exact hr2 x1 σ h
    · rw [if_neg c_4] at h
      refine PW_iconst (pc' := 19) (v := 0) (pw_dk dc_X12_spreadsSteps 12 rfl) rfl (by decide) ?_
      refine PW_istore_n (pc' := 20) (lv' := [(3, .int 0), (0, .ref 5000), (1, .int x1), (2, .int x2)]) (pw_dk dc_X12_spreadsSteps 13 rfl) rfl rfl (by decide) rfl ?_
      refine PW_sub (lv' := [(0, .ref 5000), (1, .int x1), (2, .int x2), (3, .int 0)]) [1, 2, 3, 0] rfl ?_
      exact b_X12_spreadsSteps_20 (f_X12_spreadsSteps_10 r2 n) ih FU x1 x2 0 σ h
def f_X12_spreadsSteps_2  : Nat → Int32 → zS → Option zS
  | 0, _, _ => none
  | n + 1, x1, σ => 
    if x1 = 0 then
      some σ
    else
      f_X12_spreadsSteps_10 (f_X12_spreadsSteps_2 n) FU 0 0 σ
theorem b_X12_spreadsSteps_2 {Q : Option Value → zS → Prop} : ∀ (n : Nat) (x1 : Int32) (σ : zS) (h : wpO (f_X12_spreadsSteps_2 n x1 σ) (fun s => Q none s)), PZ alM mX12_spreadsSteps (2) Q 2 [(0, .ref 5000), (1, .int x1)] [] σ := by
  intro n
  induction n with
  | zero => intro x1 σ h; exact wp_none h
  | succ n ih =>
    intro x1 σ h
    rw [f_X12_spreadsSteps_2] at h
    refine PW_iload_n (pc' := 3) (q := 1) (pw_dk dc_X12_spreadsSteps 2 rfl) rfl rfl rfl ?_
    refine PW_if_eq (pc' := 6) (tgt := 93) (pw_dk dc_X12_spreadsSteps 3 rfl) rfl (by decide) (fun c_1 => ?_) (fun c_1 => ?_)
    · rw [if_pos c_1] at h
      have z := wp_some h
      exact PZ_vret (pw_dk dc_X12_spreadsSteps 54 rfl) rfl z
    · rw [if_neg c_1] at h
      refine PW_iconst (pc' := 7) (v := 0) (pw_dk dc_X12_spreadsSteps 4 rfl) rfl (by decide) ?_
      refine PW_istore_n (pc' := 8) (lv' := [(1, .int 0), (0, .ref 5000)]) (pw_dk dc_X12_spreadsSteps 5 rfl) rfl rfl (by decide) rfl ?_
      refine PW_iconst (pc' := 9) (v := 0) (pw_dk dc_X12_spreadsSteps 6 rfl) rfl (by decide) ?_
      refine PW_istore_n (pc' := 10) (lv' := [(2, .int 0), (1, .int 0), (0, .ref 5000)]) (pw_dk dc_X12_spreadsSteps 7 rfl) rfl rfl (by decide) rfl ?_
      refine PW_sub (lv' := [(0, .ref 5000), (1, .int 0), (2, .int 0)]) [2, 1, 0] rfl ?_
      exact b_X12_spreadsSteps_10 (f_X12_spreadsSteps_2 n) ih FU 0 0 σ h
def f_X12_spreadsSteps  (σ : zS) : Option zS := 
  f_X12_spreadsSteps_2 FU 1 σ
theorem t_X12_spreadsSteps (σ : zS) (Q : Option Value → zS → Prop) (h : wpO (f_X12_spreadsSteps σ) (fun s => Q none s)) : PK alM yX12_spreadsSteps mX12_spreadsSteps (2) [.ref 5000] σ Q := by
  refine PC_ofF (by decide +kernel) rfl rfl (Nat.le_of_ble_eq_true rfl) ?_
  show PZ alM mX12_spreadsSteps (2) Q 0 [(0, .ref 5000)] [] σ
  unfold f_X12_spreadsSteps at h
  refine PW_iconst (pc' := 1) (v := 1) (pw_dk dc_X12_spreadsSteps 0 rfl) rfl (by decide) ?_
  refine PW_istore_n (pc' := 2) (lv' := [(1, .int 1), (0, .ref 5000)]) (pw_dk dc_X12_spreadsSteps 1 rfl) rfl rfl (by decide) rfl ?_
  refine PW_sub (lv' := [(0, .ref 5000), (1, .int 1)]) [1, 0] rfl ?_
  exact b_X12_spreadsSteps_2 FU 1 σ h
