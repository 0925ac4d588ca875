/-! walks (printed by wip/gen) -/
def f_X7_refuse (x1 : Int32) (σ : zS) : Option (Int32 × zS) := 
  lt (wI σ 500 8 x1) fun σ_1 =>
  lt (wI σ_1 500 9 (σ_1.1 500 5)) fun σ_3 =>
  some (0, σ_3)
theorem t_X7_refuse (x1 : Int32) (σ : zS) (Q : Option Value → zS → Prop) (h : wpO (f_X7_refuse x1 σ) (fun a => Q (some (.int a.1)) a.2)) : PK alC yX7_refuse mX7_refuse (0) [.ref 500, .int x1] σ Q := by
  refine PC_ofF (by decide +kernel) rfl rfl (Nat.le_of_ble_eq_true rfl) ?_
  show PZ alC mX7_refuse (0) Q 0 [(0, .ref 500), (1, .int x1)] [] σ
  unfold f_X7_refuse at h
  refine PW_aload_n (pc' := 1) (q := 0) (pw_dk dc_X7_refuse 0 rfl) rfl rfl rfl ?_
  refine PW_iload_n (pc' := 2) (q := 1) (pw_dk dc_X7_refuse 1 rfl) rfl rfl rfl ?_
  obtain ⟨σ_1, e_2, h⟩ := lt_x h
  refine PZ_putX (pc' := 5) (σ' := σ_1) (id := 500) (ci := 7) (nn := 0) (C0 := RX7) (T := TX7) (N := 10) (j := 8) (ty := tyX7 8) (pw_dk dc_X7_refuse 2 rfl) rfl me_500 rfl pi_7 tyX7_ok nmX7 (by decide) fk_7_8 tw_368 rfl (tyX7_ok 8 (by decide)) (by first | rfl | decide) (by first | rfl | decide) e_2 ?_
  refine PW_aload_n (pc' := 6) (q := 0) (pw_dk dc_X7_refuse 3 rfl) rfl rfl rfl ?_
  refine PW_aload_n (pc' := 7) (q := 0) (pw_dk dc_X7_refuse 4 rfl) rfl rfl rfl ?_
  refine PZ_getI (pc' := 10) (id := 500) (ci := 7) (nn := 0) (C0 := RX7) (T := TX7) (N := 10) (j := 5) (pw_dk dc_X7_refuse 5 rfl) rfl me_500 rfl pi_7 (by decide) fk_7_5 tw_362 ?_
  obtain ⟨σ_3, e_4, h⟩ := lt_x h
  refine PZ_putX (pc' := 13) (σ' := σ_3) (id := 500) (ci := 7) (nn := 0) (C0 := RX7) (T := TX7) (N := 10) (j := 9) (ty := tyX7 9) (pw_dk dc_X7_refuse 6 rfl) rfl me_500 rfl pi_7 tyX7_ok nmX7 (by decide) fk_7_9 tw_370 rfl (tyX7_ok 9 (by decide)) (by first | rfl | decide) (by first | rfl | decide) e_4 ?_
  refine PW_iconst (pc' := 14) (v := 0) (pw_dk dc_X7_refuse 7 rfl) rfl (by decide) ?_
  have z := wp_some h
  exact PZ_iret (ty := .boolean) (pw_dk dc_X7_refuse 8 rfl) rfl (by decide) z
def f_X4_choiceAtHand_30   (σ : zS) : Option (Int32 × zS) := 
  b2 (f_X7_refuse 1 σ) fun v_3 σ_2 =>
  some ((-1 : Int32), σ_2)
theorem b_X4_choiceAtHand_30 {Q : Option Value → zS → Prop}  (σ : zS) (h : wpO (f_X4_choiceAtHand_30 σ) (fun a => Q (some (.int a.1)) a.2)) : PZ alC mX4_choiceAtHand (1) Q 30 [(0, .ref 200)] [] σ := by
  unfold f_X4_choiceAtHand_30 at h
  refine PW_aload_n (pc' := 31) (q := 0) (pw_dk dc_X4_choiceAtHand 16 rfl) rfl rfl rfl ?_
  refine PW_getR (pc' := 34) (id := 200) (ci := 4) (nn := 0) (C0 := RX4) (T := TX4) (N := 6) (j := 0) (r := 500) (pw_dk dc_X4_choiceAtHand 17 rfl) rfl me_200 rfl pi_4 (by decide) fk_4_0 tw_408 (rfl) (by decide) ?_
  refine PW_iconst (pc' := 35) (v := 1) (pw_dk dc_X4_choiceAtHand 18 rfl) rfl (by decide) ?_
  refine PZ_callVi (pc' := 38) (y := yX7_refuse) (M' := mX7_refuse) (d' := 0) (As := [.int 1]) (st := []) (b := 500) (ci := 7) (nn := 0) me_500 rfl tw_709 tw_710 (pw_dk dc_X4_choiceAtHand 19 rfl) rfl Y_X7_refuse tw_708 rfl (by decide) (Nat.le_of_ble_eq_true rfl) (t_X7_refuse 1 σ _ ?_)
  obtain ⟨⟨v_3, σ_2⟩, e_4, h⟩ := wp_bind2 h
  refine ⟨(v_3, σ_2), e_4, _, rfl, fun hn_1 => ?_⟩
  show PZ alC mX4_choiceAtHand (1) Q 38 [(0, .ref 200)] [.int v_3] σ_2
  refine PW_pop (pc' := 39) (pw_dk dc_X4_choiceAtHand 20 rfl) rfl rfl ?_
  refine PW_iconst (pc' := 40) (v := (-1 : Int32)) (pw_dk dc_X4_choiceAtHand 21 rfl) rfl (by decide) ?_
  have z := wp_some h
  exact PZ_iret (ty := .int) (pw_dk dc_X4_choiceAtHand 22 rfl) rfl rfl z
def f_X4_choiceAtHand (x1 : Int32) (x2 : Int32) (σ : zS) : Option (Int32 × zS) := 
  lt (α := Int32) ((σ.1 500 6) - x1) fun x3_1 =>
  if (σ.1 500 4) = 1 then
    if x3_1 < 0 then
      f_X4_choiceAtHand_30 σ
    else
      if x3_1 < x2 then
        some (x3_1, σ)
      else
        f_X4_choiceAtHand_30 σ
  else
    f_X4_choiceAtHand_30 σ
theorem t_X4_choiceAtHand (x1 : Int32) (x2 : Int32) (σ : zS) (Q : Option Value → zS → Prop) (h : wpO (f_X4_choiceAtHand x1 x2 σ) (fun a => Q (some (.int a.1)) a.2)) : PK alC yX4_choiceAtHand mX4_choiceAtHand (1) [.ref 200, .int x1, .int x2] σ Q := by
  refine PC_ofF (by decide +kernel) rfl rfl (Nat.le_of_ble_eq_true rfl) ?_
  show PZ alC mX4_choiceAtHand (1) Q 0 [(0, .ref 200), (1, .int x1), (2, .int x2)] [] σ
  unfold f_X4_choiceAtHand at h
  refine PW_aload_n (pc' := 1) (q := 0) (pw_dk dc_X4_choiceAtHand 0 rfl) rfl rfl rfl ?_
  refine PW_getR (pc' := 4) (id := 200) (ci := 4) (nn := 0) (C0 := RX4) (T := TX4) (N := 6) (j := 0) (r := 500) (pw_dk dc_X4_choiceAtHand 1 rfl) rfl me_200 rfl pi_4 (by decide) fk_4_0 tw_408 (rfl) (by decide) ?_
  refine PZ_getI (pc' := 7) (id := 500) (ci := 7) (nn := 0) (C0 := RX7) (T := TX7) (N := 10) (j := 6) (pw_dk dc_X4_choiceAtHand 2 rfl) rfl me_500 rfl pi_7 (by decide) fk_7_6 tw_364 ?_
  refine PW_iload_n (pc' := 8) (q := 1) (pw_dk dc_X4_choiceAtHand 3 rfl) rfl rfl rfl ?_
  refine PW_isub (pc' := 9) (pw_dk dc_X4_choiceAtHand 4 rfl) rfl ?_
  refine PW_topi (fun x3_1 ex3_1 => ?_)
  replace h := lt_w h ex3_1
  refine PW_istore_n (pc' := 10) (lv' := [(3, .int x3_1), (0, .ref 200), (1, .int x1), (2, .int x2)]) (pw_dk dc_X4_choiceAtHand 5 rfl) rfl rfl (by decide) rfl ?_
  refine PW_aload_n (pc' := 11) (q := 1) (pw_dk dc_X4_choiceAtHand 6 rfl) rfl rfl rfl ?_
  refine PW_getR (pc' := 14) (id := 200) (ci := 4) (nn := 0) (C0 := RX4) (T := TX4) (N := 6) (j := 0) (r := 500) (pw_dk dc_X4_choiceAtHand 7 rfl) rfl me_200 rfl pi_4 (by decide) fk_4_0 tw_408 (rfl) (by decide) ?_
  refine PZ_getI (pc' := 17) (id := 500) (ci := 7) (nn := 0) (C0 := RX7) (T := TX7) (N := 10) (j := 4) (pw_dk dc_X4_choiceAtHand 8 rfl) rfl me_500 rfl pi_7 (by decide) fk_7_4 tw_360 ?_
  refine PW_iconst (pc' := 18) (v := 1) (pw_dk dc_X4_choiceAtHand 9 rfl) rfl (by decide) ?_
  refine PW_icmp_ne (pc' := 21) (tgt := 30) (pw_dk dc_X4_choiceAtHand 10 rfl) rfl (by decide) (fun c_2 => ?_) (fun c_2 => ?_)
  · rw [if_neg c_2] at h
    refine PW_sub (lv' := [(0, .ref 200)]) [1] rfl ?_
    exact b_X4_choiceAtHand_30 σ h
  · rw [if_pos c_2] at h
    refine PW_iload_n (pc' := 22) (q := 0) (pw_dk dc_X4_choiceAtHand 11 rfl) rfl rfl rfl ?_
    refine PW_if_lt (pc' := 25) (tgt := 30) (pw_dk dc_X4_choiceAtHand 12 rfl) rfl (by decide) (fun c_3 => ?_) (fun c_3 => ?_)
    · rw [if_pos c_3] at h
      refine PW_sub (lv' := [(0, .ref 200)]) [1] rfl ?_
      exact b_X4_choiceAtHand_30 σ h
    · rw [if_neg c_3] at h
      refine PW_iload_n (pc' := 26) (q := 0) (pw_dk dc_X4_choiceAtHand 13 rfl) rfl rfl rfl ?_
      refine PW_iload_n (pc' := 27) (q := 3) (pw_dk dc_X4_choiceAtHand 14 rfl) rfl rfl rfl ?_
      refine PW_icmp_lt (pc' := 30) (tgt := 41) (pw_dk dc_X4_choiceAtHand 15 rfl) rfl (by decide) (fun c_4 => ?_) (fun c_4 => ?_)
      · rw [if_pos c_4] at h
        refine PW_iload_n (pc' := 42) (q := 0) (pw_dk dc_X4_choiceAtHand 23 rfl) rfl rfl rfl ?_
        have z := wp_some h
        exact PZ_iret (ty := .int) (pw_dk dc_X4_choiceAtHand 24 rfl) rfl rfl z
      · rw [if_neg c_4] at h
        refine PW_sub (lv' := [(0, .ref 200)]) [1] rfl ?_
        exact b_X4_choiceAtHand_30 σ h
def f_X4_takeName_30   (σ : zS) : Option (Int32 × zS) := 
  b2 (f_X7_refuse 1 σ) fun v_3 σ_2 =>
  some ((-1 : Int32), σ_2)
theorem b_X4_takeName_30 {Q : Option Value → zS → Prop}  (σ : zS) (h : wpO (f_X4_takeName_30 σ) (fun a => Q (some (.int a.1)) a.2)) : PZ alC mX4_takeName (1) Q 30 [(0, .ref 200)] [] σ := by
  unfold f_X4_takeName_30 at h
  refine PW_aload_n (pc' := 31) (q := 0) (pw_dk dc_X4_takeName 14 rfl) rfl rfl rfl ?_
  refine PW_getR (pc' := 34) (id := 200) (ci := 4) (nn := 0) (C0 := RX4) (T := TX4) (N := 6) (j := 0) (r := 500) (pw_dk dc_X4_takeName 15 rfl) rfl me_200 rfl pi_4 (by decide) fk_4_0 tw_408 (rfl) (by decide) ?_
  refine PW_iconst (pc' := 35) (v := 1) (pw_dk dc_X4_takeName 16 rfl) rfl (by decide) ?_
  refine PZ_callVi (pc' := 38) (y := yX7_refuse) (M' := mX7_refuse) (d' := 0) (As := [.int 1]) (st := []) (b := 500) (ci := 7) (nn := 0) me_500 rfl tw_709 tw_710 (pw_dk dc_X4_takeName 17 rfl) rfl Y_X7_refuse tw_708 rfl (by decide) (Nat.le_of_ble_eq_true rfl) (t_X7_refuse 1 σ _ ?_)
  obtain ⟨⟨v_3, σ_2⟩, e_4, h⟩ := wp_bind2 h
  refine ⟨(v_3, σ_2), e_4, _, rfl, fun hn_1 => ?_⟩
  show PZ alC mX4_takeName (1) Q 38 [(0, .ref 200)] [.int v_3] σ_2
  refine PW_pop (pc' := 39) (pw_dk dc_X4_takeName 18 rfl) rfl rfl ?_
  refine PW_iconst (pc' := 40) (v := (-1 : Int32)) (pw_dk dc_X4_takeName 19 rfl) rfl (by decide) ?_
  have z := wp_some h
  exact PZ_iret (ty := .int) (pw_dk dc_X4_takeName 20 rfl) rfl rfl z
def f_X4_takeName  (σ : zS) : Option (Int32 × zS) := 
  if (σ.1 500 4) = 1 then
    if (σ.1 500 6) = (-1 : Int32) then
      some (σ.1 500 7, σ)
    else
      f_X4_takeName_30 σ
  else
    f_X4_takeName_30 σ
theorem t_X4_takeName (σ : zS) (Q : Option Value → zS → Prop) (h : wpO (f_X4_takeName σ) (fun a => Q (some (.int a.1)) a.2)) : PK alC yX4_takeName mX4_takeName (1) [.ref 200] σ Q := by
  refine PC_ofF (by decide +kernel) rfl rfl (Nat.le_of_ble_eq_true rfl) ?_
  show PZ alC mX4_takeName (1) Q 0 [(0, .ref 200)] [] σ
  unfold f_X4_takeName at h
  refine PW_aload_n (pc' := 1) (q := 0) (pw_dk dc_X4_takeName 0 rfl) rfl rfl rfl ?_
  refine PW_getR (pc' := 4) (id := 200) (ci := 4) (nn := 0) (C0 := RX4) (T := TX4) (N := 6) (j := 0) (r := 500) (pw_dk dc_X4_takeName 1 rfl) rfl me_200 rfl pi_4 (by decide) fk_4_0 tw_408 (rfl) (by decide) ?_
  refine PZ_getI (pc' := 7) (id := 500) (ci := 7) (nn := 0) (C0 := RX7) (T := TX7) (N := 10) (j := 4) (pw_dk dc_X4_takeName 2 rfl) rfl me_500 rfl pi_7 (by decide) fk_7_4 tw_360 ?_
  refine PW_iconst (pc' := 8) (v := 1) (pw_dk dc_X4_takeName 3 rfl) rfl (by decide) ?_
  refine PW_icmp_ne (pc' := 11) (tgt := 30) (pw_dk dc_X4_takeName 4 rfl) rfl (by decide) (fun c_1 => ?_) (fun c_1 => ?_)
  · rw [if_neg c_1] at h
    exact b_X4_takeName_30 σ h
  · rw [if_pos c_1] at h
    refine PW_aload_n (pc' := 12) (q := 0) (pw_dk dc_X4_takeName 5 rfl) rfl rfl rfl ?_
    refine PW_getR (pc' := 15) (id := 200) (ci := 4) (nn := 0) (C0 := RX4) (T := TX4) (N := 6) (j := 0) (r := 500) (pw_dk dc_X4_takeName 6 rfl) rfl me_200 rfl pi_4 (by decide) fk_4_0 tw_408 (rfl) (by decide) ?_
    refine PZ_getI (pc' := 18) (id := 500) (ci := 7) (nn := 0) (C0 := RX7) (T := TX7) (N := 10) (j := 6) (pw_dk dc_X4_takeName 7 rfl) rfl me_500 rfl pi_7 (by decide) fk_7_6 tw_364 ?_
    refine PW_iconst (pc' := 19) (v := (-1 : Int32)) (pw_dk dc_X4_takeName 8 rfl) rfl (by decide) ?_
    refine PW_icmp_ne (pc' := 22) (tgt := 30) (pw_dk dc_X4_takeName 9 rfl) rfl (by decide) (fun c_2 => ?_) (fun c_2 => ?_)
    · rw [if_neg c_2] at h
      exact b_X4_takeName_30 σ h
    · rw [if_pos c_2] at h
      refine PW_aload_n (pc' := 23) (q := 0) (pw_dk dc_X4_takeName 10 rfl) rfl rfl rfl ?_
      refine PW_getR (pc' := 26) (id := 200) (ci := 4) (nn := 0) (C0 := RX4) (T := TX4) (N := 6) (j := 0) (r := 500) (pw_dk dc_X4_takeName 11 rfl) rfl me_200 rfl pi_4 (by decide) fk_4_0 tw_408 (rfl) (by decide) ?_
      refine PZ_getI (pc' := 29) (id := 500) (ci := 7) (nn := 0) (C0 := RX7) (T := TX7) (N := 10) (j := 7) (pw_dk dc_X4_takeName 12 rfl) rfl me_500 rfl pi_7 (by decide) fk_7_7 tw_367 ?_
      have z := wp_some h
      exact PZ_iret (ty := .int) (pw_dk dc_X4_takeName 13 rfl) rfl rfl z
def f_X7_isDigit (x0 : Int32) (σ : zS) : Int32 := 
  if x0 < 48 then
    0
  else
    if 57 < x0 then
      0
    else
      1
theorem t_X7_isDigit (x0 : Int32) (σ : zS) (Q : Option Value → zS → Prop) (h : Q (some (.int (f_X7_isDigit x0 σ))) σ) : PK alC yX7_isDigit mX7_isDigit (0) [.int x0] σ Q := by
  refine PC_ofF (by decide +kernel) rfl rfl (Nat.le_of_ble_eq_true rfl) ?_
  show PZ alC mX7_isDigit (0) Q 0 [(0, .int x0)] [] σ
  unfold f_X7_isDigit at h
  refine PW_iload_n (pc' := 1) (q := 0) (pw_dk dc_X7_isDigit 0 rfl) rfl rfl rfl ?_
  refine PW_bipush (pc' := 3) (v := 48) (pw_dk dc_X7_isDigit 1 rfl) rfl (by decide) ?_
  refine PW_icmp_lt (pc' := 6) (tgt := 16) (pw_dk dc_X7_isDigit 2 rfl) rfl (by decide) (fun c_1 => ?_) (fun c_1 => ?_)
  · rw [if_pos c_1] at h
    refine PW_iconst (pc' := 17) (v := 0) (pw_dk dc_X7_isDigit 8 rfl) rfl (by decide) ?_
    exact PZ_iret (ty := .boolean) (pw_dk dc_X7_isDigit 9 rfl) rfl (by decide) h
  · rw [if_neg c_1] at h
    refine PW_iload_n (pc' := 7) (q := 0) (pw_dk dc_X7_isDigit 3 rfl) rfl rfl rfl ?_
    refine PW_bipush (pc' := 9) (v := 57) (pw_dk dc_X7_isDigit 4 rfl) rfl (by decide) ?_
    refine PW_icmp_gt (pc' := 12) (tgt := 16) (pw_dk dc_X7_isDigit 5 rfl) rfl (by decide) (fun c_2 => ?_) (fun c_2 => ?_)
    · rw [if_pos c_2] at h
      refine PW_iconst (pc' := 17) (v := 0) (pw_dk dc_X7_isDigit 8 rfl) rfl (by decide) ?_
      exact PZ_iret (ty := .boolean) (pw_dk dc_X7_isDigit 9 rfl) rfl (by decide) h
    · rw [if_neg c_2] at h
      refine PW_iconst (pc' := 13) (v := 1) (pw_dk dc_X7_isDigit 6 rfl) rfl (by decide) ?_
      refine PW_goto (tgt := 17) (pw_dk dc_X7_isDigit 7 rfl) (by decide) ?_
      exact PZ_iret (ty := .boolean) (pw_dk dc_X7_isDigit 9 rfl) rfl (by decide) h
def f_X7_isLetter (x0 : Int32) (σ : zS) : Int32 := 
  if x0 < 97 then
    0
  else
    if 122 < x0 then
      0
    else
      1
theorem t_X7_isLetter (x0 : Int32) (σ : zS) (Q : Option Value → zS → Prop) (h : Q (some (.int (f_X7_isLetter x0 σ))) σ) : PK alC yX7_isLetter mX7_isLetter (0) [.int x0] σ Q := by
  refine PC_ofF (by decide +kernel) rfl rfl (Nat.le_of_ble_eq_true rfl) ?_
  show PZ alC mX7_isLetter (0) Q 0 [(0, .int x0)] [] σ
  unfold f_X7_isLetter at h
  refine PW_iload_n (pc' := 1) (q := 0) (pw_dk dc_X7_isLetter 0 rfl) rfl rfl rfl ?_
  refine PW_bipush (pc' := 3) (v := 97) (pw_dk dc_X7_isLetter 1 rfl) rfl (by decide) ?_
  refine PW_icmp_lt (pc' := 6) (tgt := 16) (pw_dk dc_X7_isLetter 2 rfl) rfl (by decide) (fun c_1 => ?_) (fun c_1 => ?_)
  · rw [if_pos c_1] at h
    refine PW_iconst (pc' := 17) (v := 0) (pw_dk dc_X7_isLetter 8 rfl) rfl (by decide) ?_
    exact PZ_iret (ty := .boolean) (pw_dk dc_X7_isLetter 9 rfl) rfl (by decide) h
  · rw [if_neg c_1] at h
    refine PW_iload_n (pc' := 7) (q := 0) (pw_dk dc_X7_isLetter 3 rfl) rfl rfl rfl ?_
    refine PW_bipush (pc' := 9) (v := 122) (pw_dk dc_X7_isLetter 4 rfl) rfl (by decide) ?_
    refine PW_icmp_gt (pc' := 12) (tgt := 16) (pw_dk dc_X7_isLetter 5 rfl) rfl (by decide) (fun c_2 => ?_) (fun c_2 => ?_)
    · rw [if_pos c_2] at h
      refine PW_iconst (pc' := 17) (v := 0) (pw_dk dc_X7_isLetter 8 rfl) rfl (by decide) ?_
      exact PZ_iret (ty := .boolean) (pw_dk dc_X7_isLetter 9 rfl) rfl (by decide) h
    · rw [if_neg c_2] at h
      refine PW_iconst (pc' := 13) (v := 1) (pw_dk dc_X7_isLetter 6 rfl) rfl (by decide) ?_
      refine PW_goto (tgt := 17) (pw_dk dc_X7_isLetter 7 rfl) (by decide) ?_
      exact PZ_iret (ty := .boolean) (pw_dk dc_X7_isLetter 9 rfl) rfl (by decide) h
def f_X7_takeNumber_5  : Nat → zS → Option zS
  | 0, _ => none
  | n + 1, σ => 
    if (σ.1 500 2) ≤ (σ.1 500 3) then
      some σ
    else
      (rdI σ 101 700 (σ.1 500 3)).bind fun v_2 =>
      if (f_X7_isDigit v_2 σ) = 0 then
        some σ
      else
        (rdI σ 101 700 (σ.1 500 3)).bind fun v_7 =>
        lt (wI σ 500 6 (f_J9_min_7cf53 ((((σ.1 500 6) * (10 : Int32)) + v_7) - (48 : Int32)) 1000000 σ)) fun σ_11 =>
        lt (wI σ_11 500 3 ((σ_11.1 500 3) + (1 : Int32))) fun σ_13 =>
        f_X7_takeNumber_5 n σ_13
theorem b_X7_takeNumber_5 {Q : Option Value → zS → Prop} : ∀ (n : Nat)  (σ : zS) (h : wpO (f_X7_takeNumber_5 n σ) (fun s => Q none s)), PZ alC mX7_takeNumber (1) Q 5 [(0, .ref 500)] [] σ := by
  intro n
  induction n with
  | zero => intro  σ h; exact wp_none h
  | succ n ih =>
    intro  σ h
    rw [f_X7_takeNumber_5] at h
    refine PW_aload_n (pc' := 6) (q := 0) (pw_dk dc_X7_takeNumber 3 rfl) rfl rfl rfl ?_
    refine PZ_getI (pc' := 9) (id := 500) (ci := 7) (nn := 0) (C0 := RX7) (T := TX7) (N := 10) (j := 3) (pw_dk dc_X7_takeNumber 4 rfl) rfl me_500 rfl pi_7 (by decide) fk_7_3 tw_358 ?_
    refine PW_aload_n (pc' := 10) (q := 0) (pw_dk dc_X7_takeNumber 5 rfl) rfl rfl rfl ?_
    refine PZ_getI (pc' := 13) (id := 500) (ci := 7) (nn := 0) (C0 := RX7) (T := TX7) (N := 10) (j := 2) (pw_dk dc_X7_takeNumber 6 rfl) rfl me_500 rfl pi_7 (by decide) fk_7_2 tw_357 ?_
    refine PW_icmp_ge (pc' := 16) (tgt := 73) (pw_dk dc_X7_takeNumber 7 rfl) rfl (by decide) (fun c_1 => ?_) (fun c_1 => ?_)
    · rw [if_pos c_1] at h
      have z := wp_some h
      exact PZ_vret (pw_dk dc_X7_takeNumber 38 rfl) rfl z
    · rw [if_neg c_1] at h
      refine PW_aload_n (pc' := 17) (q := 0) (pw_dk dc_X7_takeNumber 8 rfl) rfl rfl rfl ?_
      refine PW_getR (pc' := 20) (id := 500) (ci := 7) (nn := 0) (C0 := RX7) (T := TX7) (N := 10) (j := 0) (r := 101) (pw_dk dc_X7_takeNumber 9 rfl) rfl me_500 rfl pi_7 (by decide) fk_7_0 tw_355 (rfl) (by decide) ?_
      refine PW_aload_n (pc' := 21) (q := 0) (pw_dk dc_X7_takeNumber 10 rfl) rfl rfl rfl ?_
      refine PZ_getI (pc' := 24) (id := 500) (ci := 7) (nn := 0) (C0 := RX7) (T := TX7) (N := 10) (j := 3) (pw_dk dc_X7_takeNumber 11 rfl) rfl me_500 rfl pi_7 (by decide) fk_7_3 tw_358 ?_
      obtain ⟨v_2, hi_3, e_4, h⟩ := wp_rdIx h
      refine PZ_ialdx (pc' := 25) (v := v_2) (id := 101) (nn := 700) (pw_dk dc_X7_takeNumber 12 rfl) rfl me_101 hi_3 e_4 ?_
      refine PZ_callSi (pc' := 28) (y := yX7_isDigit) (M' := mX7_isDigit) (d' := 0) (As := [.int v_2]) (st := []) tw_685 (pw_dk dc_X7_takeNumber 13 rfl) rfl Y_X7_isDigit tw_684 rfl (by decide) (Nat.le_of_ble_eq_true rfl) (t_X7_isDigit v_2 σ _ ?_)
      refine ⟨_, rfl, fun hn_5 => ?_⟩
      show PZ alC mX7_takeNumber (1) Q 28 [(0, .ref 500)] [.int (f_X7_isDigit v_2 σ)] σ
      refine PW_if_eq (pc' := 31) (tgt := 73) (pw_dk dc_X7_takeNumber 14 rfl) rfl (by decide) (fun c_6 => ?_) (fun c_6 => ?_)
      · rw [if_pos c_6] at h
        have z := wp_some h
        exact PZ_vret (pw_dk dc_X7_takeNumber 38 rfl) rfl z
      · rw [if_neg c_6] at h
        refine PW_aload_n (pc' := 32) (q := 0) (pw_dk dc_X7_takeNumber 15 rfl) rfl rfl rfl ?_
        refine PW_aload_n (pc' := 33) (q := 0) (pw_dk dc_X7_takeNumber 16 rfl) rfl rfl rfl ?_
        refine PZ_getI (pc' := 36) (id := 500) (ci := 7) (nn := 0) (C0 := RX7) (T := TX7) (N := 10) (j := 6) (pw_dk dc_X7_takeNumber 17 rfl) rfl me_500 rfl pi_7 (by decide) fk_7_6 tw_363 ?_
        refine PW_bipush (pc' := 38) (v := 10) (pw_dk dc_X7_takeNumber 18 rfl) rfl (by decide) ?_
        refine PW_imul (pc' := 39) (pw_dk dc_X7_takeNumber 19 rfl) rfl ?_
        refine PW_aload_n (pc' := 40) (q := 0) (pw_dk dc_X7_takeNumber 20 rfl) rfl rfl rfl ?_
        refine PW_getR (pc' := 43) (id := 500) (ci := 7) (nn := 0) (C0 := RX7) (T := TX7) (N := 10) (j := 0) (r := 101) (pw_dk dc_X7_takeNumber 21 rfl) rfl me_500 rfl pi_7 (by decide) fk_7_0 tw_355 (rfl) (by decide) ?_
        refine PW_aload_n (pc' := 44) (q := 0) (pw_dk dc_X7_takeNumber 22 rfl) rfl rfl rfl ?_
        refine PZ_getI (pc' := 47) (id := 500) (ci := 7) (nn := 0) (C0 := RX7) (T := TX7) (N := 10) (j := 3) (pw_dk dc_X7_takeNumber 23 rfl) rfl me_500 rfl pi_7 (by decide) fk_7_3 tw_358 ?_
        obtain ⟨v_7, hi_8, e_9, h⟩ := wp_rdIx h
        refine PZ_ialdx (pc' := 48) (v := v_7) (id := 101) (nn := 700) (pw_dk dc_X7_takeNumber 24 rfl) rfl me_101 hi_8 e_9 ?_
        refine PW_iadd (pc' := 49) (pw_dk dc_X7_takeNumber 25 rfl) rfl ?_
        refine PW_bipush (pc' := 51) (v := 48) (pw_dk dc_X7_takeNumber 26 rfl) rfl (by decide) ?_
        refine PW_isub (pc' := 52) (pw_dk dc_X7_takeNumber 27 rfl) rfl ?_
        refine PW_ldc (pc' := 54) (v := 1000000) (pw_dk dc_X7_takeNumber 28 rfl) rfl tw_691 ?_
        refine PZ_callSi (pc' := 57) (y := yJ9_min_7cf53) (M' := mJ9_min_7cf53) (d' := 0) (As := [.int ((((σ.1 500 6) * (10 : Int32)) + v_7) - (48 : Int32)), .int 1000000]) (st := [.ref 500]) tw_671 (pw_dk dc_X7_takeNumber 29 rfl) rfl Y_J9_min_7cf53 tw_670 rfl (by decide) (Nat.le_of_ble_eq_true rfl) (t_J9_min_7cf53 alC ((((σ.1 500 6) * (10 : Int32)) + v_7) - (48 : Int32)) 1000000 σ _ ?_)
        refine ⟨_, rfl, fun hn_10 => ?_⟩
        show PZ alC mX7_takeNumber (1) Q 57 [(0, .ref 500)] [.int (f_J9_min_7cf53 ((((σ.1 500 6) * (10 : Int32)) + v_7) - (48 : Int32)) 1000000 σ), .ref 500] σ
        obtain ⟨σ_11, e_12, h⟩ := lt_x h
        refine PZ_putX (pc' := 60) (σ' := σ_11) (id := 500) (ci := 7) (nn := 0) (C0 := RX7) (T := TX7) (N := 10) (j := 6) (ty := tyX7 6) (pw_dk dc_X7_takeNumber 30 rfl) rfl me_500 rfl pi_7 tyX7_ok nmX7 (by decide) fk_7_6 tw_363 rfl (tyX7_ok 6 (by decide)) (by first | rfl | decide) (by first | rfl | decide) e_12 ?_
        refine PW_aload_n (pc' := 61) (q := 0) (pw_dk dc_X7_takeNumber 31 rfl) rfl rfl rfl ?_
        refine PW_dup (pc' := 62) (pw_dk dc_X7_takeNumber 32 rfl) rfl rfl ?_
        refine PZ_getI (pc' := 65) (id := 500) (ci := 7) (nn := 0) (C0 := RX7) (T := TX7) (N := 10) (j := 3) (pw_dk dc_X7_takeNumber 33 rfl) rfl me_500 rfl pi_7 (by decide) fk_7_3 tw_358 ?_
        refine PW_iconst (pc' := 66) (v := 1) (pw_dk dc_X7_takeNumber 34 rfl) rfl (by decide) ?_
        refine PW_iadd (pc' := 67) (pw_dk dc_X7_takeNumber 35 rfl) rfl ?_
        obtain ⟨σ_13, e_14, h⟩ := lt_x h
        refine PZ_putX (pc' := 70) (σ' := σ_13) (id := 500) (ci := 7) (nn := 0) (C0 := RX7) (T := TX7) (N := 10) (j := 3) (ty := tyX7 3) (pw_dk dc_X7_takeNumber 36 rfl) rfl me_500 rfl pi_7 tyX7_ok nmX7 (by decide) fk_7_3 tw_358 rfl (tyX7_ok 3 (by decide)) (by first | rfl | decide) (by first | rfl | decide) e_14 ?_
        refine PW_goto (tgt := 5) (pw_dk dc_X7_takeNumber 37 rfl) (by decide) ?_
        exact ih  σ_13 h
def f_X7_takeNumber  (σ : zS) : Option zS := 
  lt (wI σ 500 4 2) fun σ_1 =>
  f_X7_takeNumber_5 FU σ_1
theorem t_X7_takeNumber (σ : zS) (Q : Option Value → zS → Prop) (h : wpO (f_X7_takeNumber σ) (fun s => Q none s)) : PK alC yX7_takeNumber mX7_takeNumber (1) [.ref 500] σ Q := by
  refine PC_ofF (by decide +kernel) rfl rfl (Nat.le_of_ble_eq_true rfl) ?_
  show PZ alC mX7_takeNumber (1) Q 0 [(0, .ref 500)] [] σ
  unfold f_X7_takeNumber at h
  refine PW_aload_n (pc' := 1) (q := 0) (pw_dk dc_X7_takeNumber 0 rfl) rfl rfl rfl ?_
  refine PW_iconst (pc' := 2) (v := 2) (pw_dk dc_X7_takeNumber 1 rfl) rfl (by decide) ?_
  obtain ⟨σ_1, e_2, h⟩ := lt_x h
  refine PZ_putX (pc' := 5) (σ' := σ_1) (id := 500) (ci := 7) (nn := 0) (C0 := RX7) (T := TX7) (N := 10) (j := 4) (ty := tyX7 4) (pw_dk dc_X7_takeNumber 2 rfl) rfl me_500 rfl pi_7 tyX7_ok nmX7 (by decide) fk_7_4 tw_359 rfl (tyX7_ok 4 (by decide)) (by first | rfl | decide) (by first | rfl | decide) e_2 ?_
  exact b_X7_takeNumber_5 FU σ_1 h
def f_X7_takeSecondMark_48   (σ : zS) : Option zS := 
  (rdI σ 101 700 (σ.1 500 3)).bind fun v_1 =>
  lt (wI σ 500 6 (((σ.1 500 6) * (256 : Int32)) + v_1)) fun σ_4 =>
  lt (wI σ_4 500 3 ((σ_4.1 500 3) + (1 : Int32))) fun σ_6 =>
  some σ_6
theorem b_X7_takeSecondMark_48 {Q : Option Value → zS → Prop}  (σ : zS) (h : wpO (f_X7_takeSecondMark_48 σ) (fun s => Q none s)) : PZ alC mX7_takeSecondMark (0) Q 48 [(0, .ref 500)] [] σ := by
  unfold f_X7_takeSecondMark_48 at h
  refine PW_aload_n (pc' := 49) (q := 0) (pw_dk dc_X7_takeSecondMark 23 rfl) rfl rfl rfl ?_
  refine PW_aload_n (pc' := 50) (q := 0) (pw_dk dc_X7_takeSecondMark 24 rfl) rfl rfl rfl ?_
  refine PZ_getI (pc' := 53) (id := 500) (ci := 7) (nn := 0) (C0 := RX7) (T := TX7) (N := 10) (j := 6) (pw_dk dc_X7_takeSecondMark 25 rfl) rfl me_500 rfl pi_7 (by decide) fk_7_6 tw_363 ?_
  refine PW_sipush (pc' := 56) (v := 256) (pw_dk dc_X7_takeSecondMark 26 rfl) rfl (by decide) ?_
  refine PW_imul (pc' := 57) (pw_dk dc_X7_takeSecondMark 27 rfl) rfl ?_
  refine PW_aload_n (pc' := 58) (q := 0) (pw_dk dc_X7_takeSecondMark 28 rfl) rfl rfl rfl ?_
  refine PW_getR (pc' := 61) (id := 500) (ci := 7) (nn := 0) (C0 := RX7) (T := TX7) (N := 10) (j := 0) (r := 101) (pw_dk dc_X7_takeSecondMark 29 rfl) rfl me_500 rfl pi_7 (by decide) fk_7_0 tw_355 (rfl) (by decide) ?_
  refine PW_aload_n (pc' := 62) (q := 0) (pw_dk dc_X7_takeSecondMark 30 rfl) rfl rfl rfl ?_
  refine PZ_getI (pc' := 65) (id := 500) (ci := 7) (nn := 0) (C0 := RX7) (T := TX7) (N := 10) (j := 3) (pw_dk dc_X7_takeSecondMark 31 rfl) rfl me_500 rfl pi_7 (by decide) fk_7_3 tw_358 ?_
  obtain ⟨v_1, hi_2, e_3, h⟩ := wp_rdIx h
  refine PZ_ialdx (pc' := 66) (v := v_1) (id := 101) (nn := 700) (pw_dk dc_X7_takeSecondMark 32 rfl) rfl me_101 hi_2 e_3 ?_
  refine PW_iadd (pc' := 67) (pw_dk dc_X7_takeSecondMark 33 rfl) rfl ?_
  obtain ⟨σ_4, e_5, h⟩ := lt_x h
  refine PZ_putX (pc' := 70) (σ' := σ_4) (id := 500) (ci := 7) (nn := 0) (C0 := RX7) (T := TX7) (N := 10) (j := 6) (ty := tyX7 6) (pw_dk dc_X7_takeSecondMark 34 rfl) rfl me_500 rfl pi_7 tyX7_ok nmX7 (by decide) fk_7_6 tw_363 rfl (tyX7_ok 6 (by decide)) (by first | rfl | decide) (by first | rfl | decide) e_5 ?_
  refine PW_aload_n (pc' := 71) (q := 0) (pw_dk dc_X7_takeSecondMark 35 rfl) rfl rfl rfl ?_
  refine PW_dup (pc' := 72) (pw_dk dc_X7_takeSecondMark 36 rfl) rfl rfl ?_
  refine PZ_getI (pc' := 75) (id := 500) (ci := 7) (nn := 0) (C0 := RX7) (T := TX7) (N := 10) (j := 3) (pw_dk dc_X7_takeSecondMark 37 rfl) rfl me_500 rfl pi_7 (by decide) fk_7_3 tw_358 ?_
  refine PW_iconst (pc' := 76) (v := 1) (pw_dk dc_X7_takeSecondMark 38 rfl) rfl (by decide) ?_
  refine PW_iadd (pc' := 77) (pw_dk dc_X7_takeSecondMark 39 rfl) rfl ?_
  obtain ⟨σ_6, e_7, h⟩ := lt_x h
  refine PZ_putX (pc' := 80) (σ' := σ_6) (id := 500) (ci := 7) (nn := 0) (C0 := RX7) (T := TX7) (N := 10) (j := 3) (ty := tyX7 3) (pw_dk dc_X7_takeSecondMark 40 rfl) rfl me_500 rfl pi_7 tyX7_ok nmX7 (by decide) fk_7_3 tw_358 rfl (tyX7_ok 3 (by decide)) (by first | rfl | decide) (by first | rfl | decide) e_7 ?_
  have z := wp_some h
  exact PZ_vret (pw_dk dc_X7_takeSecondMark 41 rfl) rfl z
def f_X7_takeSecondMark  (σ : zS) : Option zS := 
  if (σ.1 500 2) ≤ (σ.1 500 3) then
    some σ
  else
    (rdI σ 101 700 (σ.1 500 3)).bind fun v_2 =>
    if v_2 = 61 then
      f_X7_takeSecondMark_48 σ
    else
      if (σ.1 500 6) = 60 then
        (rdI σ 101 700 (σ.1 500 3)).bind fun v_7 =>
        if v_7 = 62 then
          f_X7_takeSecondMark_48 σ
        else
          some σ
      else
        some σ
theorem t_X7_takeSecondMark (σ : zS) (Q : Option Value → zS → Prop) (h : wpO (f_X7_takeSecondMark σ) (fun s => Q none s)) : PK alC yX7_takeSecondMark mX7_takeSecondMark (0) [.ref 500] σ Q := by
  refine PC_ofF (by decide +kernel) rfl rfl (Nat.le_of_ble_eq_true rfl) ?_
  show PZ alC mX7_takeSecondMark (0) Q 0 [(0, .ref 500)] [] σ
  unfold f_X7_takeSecondMark at h
  refine PW_aload_n (pc' := 1) (q := 0) (pw_dk dc_X7_takeSecondMark 0 rfl) rfl rfl rfl ?_
  refine PZ_getI (pc' := 4) (id := 500) (ci := 7) (nn := 0) (C0 := RX7) (T := TX7) (N := 10) (j := 3) (pw_dk dc_X7_takeSecondMark 1 rfl) rfl me_500 rfl pi_7 (by decide) fk_7_3 tw_358 ?_
  refine PW_aload_n (pc' := 5) (q := 0) (pw_dk dc_X7_takeSecondMark 2 rfl) rfl rfl rfl ?_
  refine PZ_getI (pc' := 8) (id := 500) (ci := 7) (nn := 0) (C0 := RX7) (T := TX7) (N := 10) (j := 2) (pw_dk dc_X7_takeSecondMark 3 rfl) rfl me_500 rfl pi_7 (by decide) fk_7_2 tw_357 ?_
  refine PW_icmp_ge (pc' := 11) (tgt := 80) (pw_dk dc_X7_takeSecondMark 4 rfl) rfl (by decide) (fun c_1 => ?_) (fun c_1 => ?_)
  · rw [if_pos c_1] at h
    have z := wp_some h
    exact PZ_vret (pw_dk dc_X7_takeSecondMark 41 rfl) rfl z
  · rw [if_neg c_1] at h
    refine PW_aload_n (pc' := 12) (q := 0) (pw_dk dc_X7_takeSecondMark 5 rfl) rfl rfl rfl ?_
    refine PW_getR (pc' := 15) (id := 500) (ci := 7) (nn := 0) (C0 := RX7) (T := TX7) (N := 10) (j := 0) (r := 101) (pw_dk dc_X7_takeSecondMark 6 rfl) rfl me_500 rfl pi_7 (by decide) fk_7_0 tw_355 (rfl) (by decide) ?_
    refine PW_aload_n (pc' := 16) (q := 0) (pw_dk dc_X7_takeSecondMark 7 rfl) rfl rfl rfl ?_
    refine PZ_getI (pc' := 19) (id := 500) (ci := 7) (nn := 0) (C0 := RX7) (T := TX7) (N := 10) (j := 3) (pw_dk dc_X7_takeSecondMark 8 rfl) rfl me_500 rfl pi_7 (by decide) fk_7_3 tw_358 ?_
    obtain ⟨v_2, hi_3, e_4, h⟩ := wp_rdIx h
    refine PZ_ialdx (pc' := 20) (v := v_2) (id := 101) (nn := 700) (pw_dk dc_X7_takeSecondMark 9 rfl) rfl me_101 hi_3 e_4 ?_
    refine PW_bipush (pc' := 22) (v := 61) (pw_dk dc_X7_takeSecondMark 10 rfl) rfl (by decide) ?_
    refine PW_icmp_eq (pc' := 25) (tgt := 48) (pw_dk dc_X7_takeSecondMark 11 rfl) rfl (by decide) (fun c_5 => ?_) (fun c_5 => ?_)
    · rw [if_pos c_5] at h
      exact b_X7_takeSecondMark_48 σ h
    · rw [if_neg c_5] at h
      refine PW_aload_n (pc' := 26) (q := 0) (pw_dk dc_X7_takeSecondMark 12 rfl) rfl rfl rfl ?_
      refine PZ_getI (pc' := 29) (id := 500) (ci := 7) (nn := 0) (C0 := RX7) (T := TX7) (N := 10) (j := 6) (pw_dk dc_X7_takeSecondMark 13 rfl) rfl me_500 rfl pi_7 (by decide) fk_7_6 tw_363 ?_
      refine PW_bipush (pc' := 31) (v := 60) (pw_dk dc_X7_takeSecondMark 14 rfl) rfl (by decide) ?_
      refine PW_icmp_ne (pc' := 34) (tgt := 80) (pw_dk dc_X7_takeSecondMark 15 rfl) rfl (by decide) (fun c_6 => ?_) (fun c_6 => ?_)
      · rw [if_neg c_6] at h
        have z := wp_some h
        exact PZ_vret (pw_dk dc_X7_takeSecondMark 41 rfl) rfl z
      · rw [if_pos c_6] at h
        refine PW_aload_n (pc' := 35) (q := 0) (pw_dk dc_X7_takeSecondMark 16 rfl) rfl rfl rfl ?_
        refine PW_getR (pc' := 38) (id := 500) (ci := 7) (nn := 0) (C0 := RX7) (T := TX7) (N := 10) (j := 0) (r := 101) (pw_dk dc_X7_takeSecondMark 17 rfl) rfl me_500 rfl pi_7 (by decide) fk_7_0 tw_355 (rfl) (by decide) ?_
        refine PW_aload_n (pc' := 39) (q := 0) (pw_dk dc_X7_takeSecondMark 18 rfl) rfl rfl rfl ?_
        refine PZ_getI (pc' := 42) (id := 500) (ci := 7) (nn := 0) (C0 := RX7) (T := TX7) (N := 10) (j := 3) (pw_dk dc_X7_takeSecondMark 19 rfl) rfl me_500 rfl pi_7 (by decide) fk_7_3 tw_358 ?_
        obtain ⟨v_7, hi_8, e_9, h⟩ := wp_rdIx h
        refine PZ_ialdx (pc' := 43) (v := v_7) (id := 101) (nn := 700) (pw_dk dc_X7_takeSecondMark 20 rfl) rfl me_101 hi_8 e_9 ?_
        refine PW_bipush (pc' := 45) (v := 62) (pw_dk dc_X7_takeSecondMark 21 rfl) rfl (by decide) ?_
        refine PW_icmp_ne (pc' := 48) (tgt := 80) (pw_dk dc_X7_takeSecondMark 22 rfl) rfl (by decide) (fun c_10 => ?_) (fun c_10 => ?_)
        · rw [if_neg c_10] at h
          have z := wp_some h
          exact PZ_vret (pw_dk dc_X7_takeSecondMark 41 rfl) rfl z
        · rw [if_pos c_10] at h
          exact b_X7_takeSecondMark_48 σ h
def f_X7_takeSign  (σ : zS) : Option zS := 
  lt (wI σ 500 4 3) fun σ_1 =>
  (rdI σ_1 101 700 (σ_1.1 500 3)).bind fun v_3 =>
  lt (wI σ_1 500 6 v_3) fun σ_6 =>
  lt (wI σ_6 500 3 ((σ_6.1 500 3) + (1 : Int32))) fun σ_8 =>
  lt (α := Int32) (σ_8.1 500 6) fun w_10 =>
  if w_10 = 40 then
    some σ_8
  else if w_10 = 41 then
    some σ_8
  else if w_10 = 42 then
    some σ_8
  else if w_10 = 43 then
    some σ_8
  else if w_10 = 45 then
    some σ_8
  else if w_10 = 47 then
    some σ_8
  else if w_10 = 59 then
    some σ_8
  else if w_10 = 60 then
    (f_X7_takeSecondMark σ_8).bind fun σ_20 =>
    some σ_20
  else if w_10 = 61 then
    some σ_8
  else if w_10 = 62 then
    (f_X7_takeSecondMark σ_8).bind fun σ_25 =>
    some σ_25
  else
    lt (wI σ_8 500 4 4) fun σ_27 =>
    some σ_27
theorem t_X7_takeSign (σ : zS) (Q : Option Value → zS → Prop) (h : wpO (f_X7_takeSign σ) (fun s => Q none s)) : PK alC yX7_takeSign mX7_takeSign (1) [.ref 500] σ Q := by
  refine PC_ofF (by decide +kernel) rfl rfl (Nat.le_of_ble_eq_true rfl) ?_
  show PZ alC mX7_takeSign (1) Q 0 [(0, .ref 500)] [] σ
  unfold f_X7_takeSign at h
  refine PW_aload_n (pc' := 1) (q := 0) (pw_dk dc_X7_takeSign 0 rfl) rfl rfl rfl ?_
  refine PW_iconst (pc' := 2) (v := 3) (pw_dk dc_X7_takeSign 1 rfl) rfl (by decide) ?_
  obtain ⟨σ_1, e_2, h⟩ := lt_x h
  refine PZ_putX (pc' := 5) (σ' := σ_1) (id := 500) (ci := 7) (nn := 0) (C0 := RX7) (T := TX7) (N := 10) (j := 4) (ty := tyX7 4) (pw_dk dc_X7_takeSign 2 rfl) rfl me_500 rfl pi_7 tyX7_ok nmX7 (by decide) fk_7_4 tw_359 rfl (tyX7_ok 4 (by decide)) (by first | rfl | decide) (by first | rfl | decide) e_2 ?_
  refine PW_aload_n (pc' := 6) (q := 0) (pw_dk dc_X7_takeSign 3 rfl) rfl rfl rfl ?_
  refine PW_aload_n (pc' := 7) (q := 0) (pw_dk dc_X7_takeSign 4 rfl) rfl rfl rfl ?_
  refine PW_getR (pc' := 10) (id := 500) (ci := 7) (nn := 0) (C0 := RX7) (T := TX7) (N := 10) (j := 0) (r := 101) (pw_dk dc_X7_takeSign 5 rfl) rfl me_500 rfl pi_7 (by decide) fk_7_0 tw_355 (rfl) (by decide) ?_
  refine PW_aload_n (pc' := 11) (q := 0) (pw_dk dc_X7_takeSign 6 rfl) rfl rfl rfl ?_
  refine PZ_getI (pc' := 14) (id := 500) (ci := 7) (nn := 0) (C0 := RX7) (T := TX7) (N := 10) (j := 3) (pw_dk dc_X7_takeSign 7 rfl) rfl me_500 rfl pi_7 (by decide) fk_7_3 tw_358 ?_
  obtain ⟨v_3, hi_4, e_5, h⟩ := wp_rdIx h
  refine PZ_ialdx (pc' := 15) (v := v_3) (id := 101) (nn := 700) (pw_dk dc_X7_takeSign 8 rfl) rfl me_101 hi_4 e_5 ?_
  obtain ⟨σ_6, e_7, h⟩ := lt_x h
  refine PZ_putX (pc' := 18) (σ' := σ_6) (id := 500) (ci := 7) (nn := 0) (C0 := RX7) (T := TX7) (N := 10) (j := 6) (ty := tyX7 6) (pw_dk dc_X7_takeSign 9 rfl) rfl me_500 rfl pi_7 tyX7_ok nmX7 (by decide) fk_7_6 tw_363 rfl (tyX7_ok 6 (by decide)) (by first | rfl | decide) (by first | rfl | decide) e_7 ?_
  refine PW_aload_n (pc' := 19) (q := 0) (pw_dk dc_X7_takeSign 10 rfl) rfl rfl rfl ?_
  refine PW_dup (pc' := 20) (pw_dk dc_X7_takeSign 11 rfl) rfl rfl ?_
  refine PZ_getI (pc' := 23) (id := 500) (ci := 7) (nn := 0) (C0 := RX7) (T := TX7) (N := 10) (j := 3) (pw_dk dc_X7_takeSign 12 rfl) rfl me_500 rfl pi_7 (by decide) fk_7_3 tw_358 ?_
  refine PW_iconst (pc' := 24) (v := 1) (pw_dk dc_X7_takeSign 13 rfl) rfl (by decide) ?_
  refine PW_iadd (pc' := 25) (pw_dk dc_X7_takeSign 14 rfl) rfl ?_
  obtain ⟨σ_8, e_9, h⟩ := lt_x h
  refine PZ_putX (pc' := 28) (σ' := σ_8) (id := 500) (ci := 7) (nn := 0) (C0 := RX7) (T := TX7) (N := 10) (j := 3) (ty := tyX7 3) (pw_dk dc_X7_takeSign 15 rfl) rfl me_500 rfl pi_7 tyX7_ok nmX7 (by decide) fk_7_3 tw_358 rfl (tyX7_ok 3 (by decide)) (by first | rfl | decide) (by first | rfl | decide) e_9 ?_
  refine PW_aload_n (pc' := 29) (q := 0) (pw_dk dc_X7_takeSign 16 rfl) rfl rfl rfl ?_
  refine PZ_getI (pc' := 32) (id := 500) (ci := 7) (nn := 0) (C0 := RX7) (T := TX7) (N := 10) (j := 6) (pw_dk dc_X7_takeSign 17 rfl) rfl me_500 rfl pi_7 (by decide) fk_7_6 tw_363 ?_
  refine PW_topi (fun w_10 ew_10 => ?_)
  replace h := lt_w h ew_10
  by_cases c_11 : w_10 = 40
  · rw [if_pos c_11] at h
    refine PW_tin (tgt := 140) (pw_dk dc_X7_takeSign 18 rfl) (by rw [c_11]; decide) (by rw [c_11]; decide) (by rw [c_11] <;> rfl) (by decide) ?_
    refine PW_goto (tgt := 155) (pw_dk dc_X7_takeSign 19 rfl) (by decide) ?_
    have z := wp_some h
    exact PZ_vret (pw_dk dc_X7_takeSign 26 rfl) rfl z
  · rw [if_neg c_11] at h
    by_cases c_12 : w_10 = 41
    · rw [if_pos c_12] at h
      refine PW_tin (tgt := 140) (pw_dk dc_X7_takeSign 18 rfl) (by rw [c_12]; decide) (by rw [c_12]; decide) (by rw [c_12] <;> rfl) (by decide) ?_
      refine PW_goto (tgt := 155) (pw_dk dc_X7_takeSign 19 rfl) (by decide) ?_
      have z := wp_some h
      exact PZ_vret (pw_dk dc_X7_takeSign 26 rfl) rfl z
    · rw [if_neg c_12] at h
      by_cases c_13 : w_10 = 42
      · rw [if_pos c_13] at h
        refine PW_tin (tgt := 140) (pw_dk dc_X7_takeSign 18 rfl) (by rw [c_13]; decide) (by rw [c_13]; decide) (by rw [c_13] <;> rfl) (by decide) ?_
        refine PW_goto (tgt := 155) (pw_dk dc_X7_takeSign 19 rfl) (by decide) ?_
        have z := wp_some h
        exact PZ_vret (pw_dk dc_X7_takeSign 26 rfl) rfl z
      · rw [if_neg c_13] at h
        by_cases c_14 : w_10 = 43
        · rw [if_pos c_14] at h
          refine PW_tin (tgt := 140) (pw_dk dc_X7_takeSign 18 rfl) (by rw [c_14]; decide) (by rw [c_14]; decide) (by rw [c_14] <;> rfl) (by decide) ?_
          refine PW_goto (tgt := 155) (pw_dk dc_X7_takeSign 19 rfl) (by decide) ?_
          have z := wp_some h
          exact PZ_vret (pw_dk dc_X7_takeSign 26 rfl) rfl z
        · rw [if_neg c_14] at h
          by_cases c_15 : w_10 = 45
          · rw [if_pos c_15] at h
            refine PW_tin (tgt := 140) (pw_dk dc_X7_takeSign 18 rfl) (by rw [c_15]; decide) (by rw [c_15]; decide) (by rw [c_15] <;> rfl) (by decide) ?_
            refine PW_goto (tgt := 155) (pw_dk dc_X7_takeSign 19 rfl) (by decide) ?_
            have z := wp_some h
            exact PZ_vret (pw_dk dc_X7_takeSign 26 rfl) rfl z
          · rw [if_neg c_15] at h
            by_cases c_16 : w_10 = 47
            · rw [if_pos c_16] at h
              refine PW_tin (tgt := 140) (pw_dk dc_X7_takeSign 18 rfl) (by rw [c_16]; decide) (by rw [c_16]; decide) (by rw [c_16] <;> rfl) (by decide) ?_
              refine PW_goto (tgt := 155) (pw_dk dc_X7_takeSign 19 rfl) (by decide) ?_
              have z := wp_some h
              exact PZ_vret (pw_dk dc_X7_takeSign 26 rfl) rfl z
            · rw [if_neg c_16] at h
              by_cases c_17 : w_10 = 59
              · rw [if_pos c_17] at h
                refine PW_tin (tgt := 140) (pw_dk dc_X7_takeSign 18 rfl) (by rw [c_17]; decide) (by rw [c_17]; decide) (by rw [c_17] <;> rfl) (by decide) ?_
                refine PW_goto (tgt := 155) (pw_dk dc_X7_takeSign 19 rfl) (by decide) ?_
                have z := wp_some h
                exact PZ_vret (pw_dk dc_X7_takeSign 26 rfl) rfl z
              · rw [if_neg c_17] at h
                by_cases c_18 : w_10 = 60
                · rw [if_pos c_18] at h
                  refine PW_tin (tgt := 143) (pw_dk dc_X7_takeSign 18 rfl) (by rw [c_18]; decide) (by rw [c_18]; decide) (by rw [c_18] <;> rfl) (by decide) ?_
                  refine PW_aload_n (pc' := 144) (q := 0) (pw_dk dc_X7_takeSign 20 rfl) rfl rfl rfl ?_
                  refine PZ_callVv (pc' := 147) (y := yX7_takeSecondMark) (M' := mX7_takeSecondMark) (d' := 0) (As := []) (st := []) (b := 500) (ci := 7) (nn := 0) me_500 rfl tw_698 tw_4 (pw_dk dc_X7_takeSign 21 rfl) rfl Y_X7_takeSecondMark tw_696 rfl (by decide) (Nat.le_of_ble_eq_true rfl) (t_X7_takeSecondMark σ_8 _ ?_)
                  obtain ⟨σ_20, e_21, h⟩ := wp_bind h
                  refine ⟨σ_20, e_21, rfl, fun hn_19 => ?_⟩
                  show PZ alC mX7_takeSign (1) Q 147 [(0, .ref 500)] [] σ_20
                  refine PW_goto (tgt := 155) (pw_dk dc_X7_takeSign 22 rfl) (by decide) ?_
                  have z := wp_some h
                  exact PZ_vret (pw_dk dc_X7_takeSign 26 rfl) rfl z
                · rw [if_neg c_18] at h
                  by_cases c_22 : w_10 = 61
                  · rw [if_pos c_22] at h
                    refine PW_tin (tgt := 140) (pw_dk dc_X7_takeSign 18 rfl) (by rw [c_22]; decide) (by rw [c_22]; decide) (by rw [c_22] <;> rfl) (by decide) ?_
                    refine PW_goto (tgt := 155) (pw_dk dc_X7_takeSign 19 rfl) (by decide) ?_
                    have z := wp_some h
                    exact PZ_vret (pw_dk dc_X7_takeSign 26 rfl) rfl z
                  · rw [if_neg c_22] at h
                    by_cases c_23 : w_10 = 62
                    · rw [if_pos c_23] at h
                      refine PW_tin (tgt := 143) (pw_dk dc_X7_takeSign 18 rfl) (by rw [c_23]; decide) (by rw [c_23]; decide) (by rw [c_23] <;> rfl) (by decide) ?_
                      refine PW_aload_n (pc' := 144) (q := 0) (pw_dk dc_X7_takeSign 20 rfl) rfl rfl rfl ?_
                      refine PZ_callVv (pc' := 147) (y := yX7_takeSecondMark) (M' := mX7_takeSecondMark) (d' := 0) (As := []) (st := []) (b := 500) (ci := 7) (nn := 0) me_500 rfl tw_698 tw_4 (pw_dk dc_X7_takeSign 21 rfl) rfl Y_X7_takeSecondMark tw_696 rfl (by decide) (Nat.le_of_ble_eq_true rfl) (t_X7_takeSecondMark σ_8 _ ?_)
                      obtain ⟨σ_25, e_26, h⟩ := wp_bind h
                      refine ⟨σ_25, e_26, rfl, fun hn_24 => ?_⟩
                      show PZ alC mX7_takeSign (1) Q 147 [(0, .ref 500)] [] σ_25
                      refine PW_goto (tgt := 155) (pw_dk dc_X7_takeSign 22 rfl) (by decide) ?_
                      have z := wp_some h
                      exact PZ_vret (pw_dk dc_X7_takeSign 26 rfl) rfl z
                    · rw [if_neg c_23] at h
                      have kc_11 := pw_ne c_11 (show (40 : Int32).toInt = 40 by decide)
                      have kc_12 := pw_ne c_12 (show (41 : Int32).toInt = 41 by decide)
                      have kc_13 := pw_ne c_13 (show (42 : Int32).toInt = 42 by decide)
                      have kc_14 := pw_ne c_14 (show (43 : Int32).toInt = 43 by decide)
                      have kc_15 := pw_ne c_15 (show (45 : Int32).toInt = 45 by decide)
                      have kc_16 := pw_ne c_16 (show (47 : Int32).toInt = 47 by decide)
                      have kc_17 := pw_ne c_17 (show (59 : Int32).toInt = 59 by decide)
                      have kc_18 := pw_ne c_18 (show (60 : Int32).toInt = 60 by decide)
                      have kc_22 := pw_ne c_22 (show (61 : Int32).toInt = 61 by decide)
                      have kc_23 := pw_ne c_23 (show (62 : Int32).toInt = 62 by decide)
                      by_cases c_29 : w_10 = 44
                      · refine PW_tin (tgt := 150) (pw_dk dc_X7_takeSign 18 rfl) (by rw [c_29]; decide) (by rw [c_29]; decide) (by rw [c_29] <;> rfl) (by decide) ?_
                        refine PW_aload_n (pc' := 151) (q := 0) (pw_dk dc_X7_takeSign 23 rfl) rfl rfl rfl ?_
                        refine PW_iconst (pc' := 152) (v := 4) (pw_dk dc_X7_takeSign 24 rfl) rfl (by decide) ?_
                        obtain ⟨σ_27, e_28, h⟩ := lt_x h
                        refine PZ_putX (pc' := 155) (σ' := σ_27) (id := 500) (ci := 7) (nn := 0) (C0 := RX7) (T := TX7) (N := 10) (j := 4) (ty := tyX7 4) (pw_dk dc_X7_takeSign 25 rfl) rfl me_500 rfl pi_7 tyX7_ok nmX7 (by decide) fk_7_4 tw_359 rfl (tyX7_ok 4 (by decide)) (by first | rfl | decide) (by first | rfl | decide) e_28 ?_
                        have z := wp_some h
                        exact PZ_vret (pw_dk dc_X7_takeSign 26 rfl) rfl z
                      have kc_29 := pw_ne c_29 (show (44 : Int32).toInt = 44 by decide)
                      by_cases c_30 : w_10 = 46
                      · refine PW_tin (tgt := 150) (pw_dk dc_X7_takeSign 18 rfl) (by rw [c_30]; decide) (by rw [c_30]; decide) (by rw [c_30] <;> rfl) (by decide) ?_
                        refine PW_aload_n (pc' := 151) (q := 0) (pw_dk dc_X7_takeSign 23 rfl) rfl rfl rfl ?_
                        refine PW_iconst (pc' := 152) (v := 4) (pw_dk dc_X7_takeSign 24 rfl) rfl (by decide) ?_
                        obtain ⟨σ_27, e_28, h⟩ := lt_x h
                        refine PZ_putX (pc' := 155) (σ' := σ_27) (id := 500) (ci := 7) (nn := 0) (C0 := RX7) (T := TX7) (N := 10) (j := 4) (ty := tyX7 4) (pw_dk dc_X7_takeSign 25 rfl) rfl me_500 rfl pi_7 tyX7_ok nmX7 (by decide) fk_7_4 tw_359 rfl (tyX7_ok 4 (by decide)) (by first | rfl | decide) (by first | rfl | decide) e_28 ?_
                        have z := wp_some h
                        exact PZ_vret (pw_dk dc_X7_takeSign 26 rfl) rfl z
                      have kc_30 := pw_ne c_30 (show (46 : Int32).toInt = 46 by decide)
                      by_cases c_31 : w_10 = 48
                      · refine PW_tin (tgt := 150) (pw_dk dc_X7_takeSign 18 rfl) (by rw [c_31]; decide) (by rw [c_31]; decide) (by rw [c_31] <;> rfl) (by decide) ?_
                        refine PW_aload_n (pc' := 151) (q := 0) (pw_dk dc_X7_takeSign 23 rfl) rfl rfl rfl ?_
                        refine PW_iconst (pc' := 152) (v := 4) (pw_dk dc_X7_takeSign 24 rfl) rfl (by decide) ?_
                        obtain ⟨σ_27, e_28, h⟩ := lt_x h
                        refine PZ_putX (pc' := 155) (σ' := σ_27) (id := 500) (ci := 7) (nn := 0) (C0 := RX7) (T := TX7) (N := 10) (j := 4) (ty := tyX7 4) (pw_dk dc_X7_takeSign 25 rfl) rfl me_500 rfl pi_7 tyX7_ok nmX7 (by decide) fk_7_4 tw_359 rfl (tyX7_ok 4 (by decide)) (by first | rfl | decide) (by first | rfl | decide) e_28 ?_
                        have z := wp_some h
                        exact PZ_vret (pw_dk dc_X7_takeSign 26 rfl) rfl z
                      have kc_31 := pw_ne c_31 (show (48 : Int32).toInt = 48 by decide)
                      by_cases c_32 : w_10 = 49
                      · refine PW_tin (tgt := 150) (pw_dk dc_X7_takeSign 18 rfl) (by rw [c_32]; decide) (by rw [c_32]; decide) (by rw [c_32] <;> rfl) (by decide) ?_
                        refine PW_aload_n (pc' := 151) (q := 0) (pw_dk dc_X7_takeSign 23 rfl) rfl rfl rfl ?_
                        refine PW_iconst (pc' := 152) (v := 4) (pw_dk dc_X7_takeSign 24 rfl) rfl (by decide) ?_
                        obtain ⟨σ_27, e_28, h⟩ := lt_x h
                        refine PZ_putX (pc' := 155) (σ' := σ_27) (id := 500) (ci := 7) (nn := 0) (C0 := RX7) (T := TX7) (N := 10) (j := 4) (ty := tyX7 4) (pw_dk dc_X7_takeSign 25 rfl) rfl me_500 rfl pi_7 tyX7_ok nmX7 (by decide) fk_7_4 tw_359 rfl (tyX7_ok 4 (by decide)) (by first | rfl | decide) (by first | rfl | decide) e_28 ?_
                        have z := wp_some h
                        exact PZ_vret (pw_dk dc_X7_takeSign 26 rfl) rfl z
                      have kc_32 := pw_ne c_32 (show (49 : Int32).toInt = 49 by decide)
                      by_cases c_33 : w_10 = 50
                      · refine PW_tin (tgt := 150) (pw_dk dc_X7_takeSign 18 rfl) (by rw [c_33]; decide) (by rw [c_33]; decide) (by rw [c_33] <;> rfl) (by decide) ?_
                        refine PW_aload_n (pc' := 151) (q := 0) (pw_dk dc_X7_takeSign 23 rfl) rfl rfl rfl ?_
                        refine PW_iconst (pc' := 152) (v := 4) (pw_dk dc_X7_takeSign 24 rfl) rfl (by decide) ?_
                        obtain ⟨σ_27, e_28, h⟩ := lt_x h
                        refine PZ_putX (pc' := 155) (σ' := σ_27) (id := 500) (ci := 7) (nn := 0) (C0 := RX7) (T := TX7) (N := 10) (j := 4) (ty := tyX7 4) (pw_dk dc_X7_takeSign 25 rfl) rfl me_500 rfl pi_7 tyX7_ok nmX7 (by decide) fk_7_4 tw_359 rfl (tyX7_ok 4 (by decide)) (by first | rfl | decide) (by first | rfl | decide) e_28 ?_
                        have z := wp_some h
                        exact PZ_vret (pw_dk dc_X7_takeSign 26 rfl) rfl z
                      have kc_33 := pw_ne c_33 (show (50 : Int32).toInt = 50 by decide)
                      by_cases c_34 : w_10 = 51
                      · refine PW_tin (tgt := 150) (pw_dk dc_X7_takeSign 18 rfl) (by rw [c_34]; decide) (by rw [c_34]; decide) (by rw [c_34] <;> rfl) (by decide) ?_
                        refine PW_aload_n (pc' := 151) (q := 0) (pw_dk dc_X7_takeSign 23 rfl) rfl rfl rfl ?_
                        refine PW_iconst (pc' := 152) (v := 4) (pw_dk dc_X7_takeSign 24 rfl) rfl (by decide) ?_
                        obtain ⟨σ_27, e_28, h⟩ := lt_x h
                        refine PZ_putX (pc' := 155) (σ' := σ_27) (id := 500) (ci := 7) (nn := 0) (C0 := RX7) (T := TX7) (N := 10) (j := 4) (ty := tyX7 4) (pw_dk dc_X7_takeSign 25 rfl) rfl me_500 rfl pi_7 tyX7_ok nmX7 (by decide) fk_7_4 tw_359 rfl (tyX7_ok 4 (by decide)) (by first | rfl | decide) (by first | rfl | decide) e_28 ?_
                        have z := wp_some h
                        exact PZ_vret (pw_dk dc_X7_takeSign 26 rfl) rfl z
                      have kc_34 := pw_ne c_34 (show (51 : Int32).toInt = 51 by decide)
                      by_cases c_35 : w_10 = 52
                      · refine PW_tin (tgt := 150) (pw_dk dc_X7_takeSign 18 rfl) (by rw [c_35]; decide) (by rw [c_35]; decide) (by rw [c_35] <;> rfl) (by decide) ?_
                        refine PW_aload_n (pc' := 151) (q := 0) (pw_dk dc_X7_takeSign 23 rfl) rfl rfl rfl ?_
                        refine PW_iconst (pc' := 152) (v := 4) (pw_dk dc_X7_takeSign 24 rfl) rfl (by decide) ?_
                        obtain ⟨σ_27, e_28, h⟩ := lt_x h
                        refine PZ_putX (pc' := 155) (σ' := σ_27) (id := 500) (ci := 7) (nn := 0) (C0 := RX7) (T := TX7) (N := 10) (j := 4) (ty := tyX7 4) (pw_dk dc_X7_takeSign 25 rfl) rfl me_500 rfl pi_7 tyX7_ok nmX7 (by decide) fk_7_4 tw_359 rfl (tyX7_ok 4 (by decide)) (by first | rfl | decide) (by first | rfl | decide) e_28 ?_
                        have z := wp_some h
                        exact PZ_vret (pw_dk dc_X7_takeSign 26 rfl) rfl z
                      have kc_35 := pw_ne c_35 (show (52 : Int32).toInt = 52 by decide)
                      by_cases c_36 : w_10 = 53
                      · refine PW_tin (tgt := 150) (pw_dk dc_X7_takeSign 18 rfl) (by rw [c_36]; decide) (by rw [c_36]; decide) (by rw [c_36] <;> rfl) (by decide) ?_
                        refine PW_aload_n (pc' := 151) (q := 0) (pw_dk dc_X7_takeSign 23 rfl) rfl rfl rfl ?_
                        refine PW_iconst (pc' := 152) (v := 4) (pw_dk dc_X7_takeSign 24 rfl) rfl (by decide) ?_
                        obtain ⟨σ_27, e_28, h⟩ := lt_x h
                        refine PZ_putX (pc' := 155) (σ' := σ_27) (id := 500) (ci := 7) (nn := 0) (C0 := RX7) (T := TX7) (N := 10) (j := 4) (ty := tyX7 4) (pw_dk dc_X7_takeSign 25 rfl) rfl me_500 rfl pi_7 tyX7_ok nmX7 (by decide) fk_7_4 tw_359 rfl (tyX7_ok 4 (by decide)) (by first | rfl | decide) (by first | rfl | decide) e_28 ?_
                        have z := wp_some h
                        exact PZ_vret (pw_dk dc_X7_takeSign 26 rfl) rfl z
                      have kc_36 := pw_ne c_36 (show (53 : Int32).toInt = 53 by decide)
                      by_cases c_37 : w_10 = 54
                      · refine PW_tin (tgt := 150) (pw_dk dc_X7_takeSign 18 rfl) (by rw [c_37]; decide) (by rw [c_37]; decide) (by rw [c_37] <;> rfl) (by decide) ?_
                        refine PW_aload_n (pc' := 151) (q := 0) (pw_dk dc_X7_takeSign 23 rfl) rfl rfl rfl ?_
                        refine PW_iconst (pc' := 152) (v := 4) (pw_dk dc_X7_takeSign 24 rfl) rfl (by decide) ?_
                        obtain ⟨σ_27, e_28, h⟩ := lt_x h
                        refine PZ_putX (pc' := 155) (σ' := σ_27) (id := 500) (ci := 7) (nn := 0) (C0 := RX7) (T := TX7) (N := 10) (j := 4) (ty := tyX7 4) (pw_dk dc_X7_takeSign 25 rfl) rfl me_500 rfl pi_7 tyX7_ok nmX7 (by decide) fk_7_4 tw_359 rfl (tyX7_ok 4 (by decide)) (by first | rfl | decide) (by first | rfl | decide) e_28 ?_
                        have z := wp_some h
                        exact PZ_vret (pw_dk dc_X7_takeSign 26 rfl) rfl z
                      have kc_37 := pw_ne c_37 (show (54 : Int32).toInt = 54 by decide)
                      by_cases c_38 : w_10 = 55
                      · refine PW_tin (tgt := 150) (pw_dk dc_X7_takeSign 18 rfl) (by rw [c_38]; decide) (by rw [c_38]; decide) (by rw [c_38] <;> rfl) (by decide) ?_
                        refine PW_aload_n (pc' := 151) (q := 0) (pw_dk dc_X7_takeSign 23 rfl) rfl rfl rfl ?_
                        refine PW_iconst (pc' := 152) (v := 4) (pw_dk dc_X7_takeSign 24 rfl) rfl (by decide) ?_
                        obtain ⟨σ_27, e_28, h⟩ := lt_x h
                        refine PZ_putX (pc' := 155) (σ' := σ_27) (id := 500) (ci := 7) (nn := 0) (C0 := RX7) (T := TX7) (N := 10) (j := 4) (ty := tyX7 4) (pw_dk dc_X7_takeSign 25 rfl) rfl me_500 rfl pi_7 tyX7_ok nmX7 (by decide) fk_7_4 tw_359 rfl (tyX7_ok 4 (by decide)) (by first | rfl | decide) (by first | rfl | decide) e_28 ?_
                        have z := wp_some h
                        exact PZ_vret (pw_dk dc_X7_takeSign 26 rfl) rfl z
                      have kc_38 := pw_ne c_38 (show (55 : Int32).toInt = 55 by decide)
                      by_cases c_39 : w_10 = 56
                      · refine PW_tin (tgt := 150) (pw_dk dc_X7_takeSign 18 rfl) (by rw [c_39]; decide) (by rw [c_39]; decide) (by rw [c_39] <;> rfl) (by decide) ?_
                        refine PW_aload_n (pc' := 151) (q := 0) (pw_dk dc_X7_takeSign 23 rfl) rfl rfl rfl ?_
                        refine PW_iconst (pc' := 152) (v := 4) (pw_dk dc_X7_takeSign 24 rfl) rfl (by decide) ?_
                        obtain ⟨σ_27, e_28, h⟩ := lt_x h
                        refine PZ_putX (pc' := 155) (σ' := σ_27) (id := 500) (ci := 7) (nn := 0) (C0 := RX7) (T := TX7) (N := 10) (j := 4) (ty := tyX7 4) (pw_dk dc_X7_takeSign 25 rfl) rfl me_500 rfl pi_7 tyX7_ok nmX7 (by decide) fk_7_4 tw_359 rfl (tyX7_ok 4 (by decide)) (by first | rfl | decide) (by first | rfl | decide) e_28 ?_
                        have z := wp_some h
                        exact PZ_vret (pw_dk dc_X7_takeSign 26 rfl) rfl z
                      have kc_39 := pw_ne c_39 (show (56 : Int32).toInt = 56 by decide)
                      by_cases c_40 : w_10 = 57
                      · refine PW_tin (tgt := 150) (pw_dk dc_X7_takeSign 18 rfl) (by rw [c_40]; decide) (by rw [c_40]; decide) (by rw [c_40] <;> rfl) (by decide) ?_
                        refine PW_aload_n (pc' := 151) (q := 0) (pw_dk dc_X7_takeSign 23 rfl) rfl rfl rfl ?_
                        refine PW_iconst (pc' := 152) (v := 4) (pw_dk dc_X7_takeSign 24 rfl) rfl (by decide) ?_
                        obtain ⟨σ_27, e_28, h⟩ := lt_x h
                        refine PZ_putX (pc' := 155) (σ' := σ_27) (id := 500) (ci := 7) (nn := 0) (C0 := RX7) (T := TX7) (N := 10) (j := 4) (ty := tyX7 4) (pw_dk dc_X7_takeSign 25 rfl) rfl me_500 rfl pi_7 tyX7_ok nmX7 (by decide) fk_7_4 tw_359 rfl (tyX7_ok 4 (by decide)) (by first | rfl | decide) (by first | rfl | decide) e_28 ?_
                        have z := wp_some h
                        exact PZ_vret (pw_dk dc_X7_takeSign 26 rfl) rfl z
                      have kc_40 := pw_ne c_40 (show (57 : Int32).toInt = 57 by decide)
                      by_cases c_41 : w_10 = 58
                      · refine PW_tin (tgt := 150) (pw_dk dc_X7_takeSign 18 rfl) (by rw [c_41]; decide) (by rw [c_41]; decide) (by rw [c_41] <;> rfl) (by decide) ?_
                        refine PW_aload_n (pc' := 151) (q := 0) (pw_dk dc_X7_takeSign 23 rfl) rfl rfl rfl ?_
                        refine PW_iconst (pc' := 152) (v := 4) (pw_dk dc_X7_takeSign 24 rfl) rfl (by decide) ?_
                        obtain ⟨σ_27, e_28, h⟩ := lt_x h
                        refine PZ_putX (pc' := 155) (σ' := σ_27) (id := 500) (ci := 7) (nn := 0) (C0 := RX7) (T := TX7) (N := 10) (j := 4) (ty := tyX7 4) (pw_dk dc_X7_takeSign 25 rfl) rfl me_500 rfl pi_7 tyX7_ok nmX7 (by decide) fk_7_4 tw_359 rfl (tyX7_ok 4 (by decide)) (by first | rfl | decide) (by first | rfl | decide) e_28 ?_
                        have z := wp_some h
                        exact PZ_vret (pw_dk dc_X7_takeSign 26 rfl) rfl z
                      have kc_41 := pw_ne c_41 (show (58 : Int32).toInt = 58 by decide)
                      refine PW_tout (tgt := 150) (pw_dk dc_X7_takeSign 18 rfl) (by omega) (by decide) ?_
                      refine PW_aload_n (pc' := 151) (q := 0) (pw_dk dc_X7_takeSign 23 rfl) rfl rfl rfl ?_
                      refine PW_iconst (pc' := 152) (v := 4) (pw_dk dc_X7_takeSign 24 rfl) rfl (by decide) ?_
                      obtain ⟨σ_27, e_28, h⟩ := lt_x h
                      refine PZ_putX (pc' := 155) (σ' := σ_27) (id := 500) (ci := 7) (nn := 0) (C0 := RX7) (T := TX7) (N := 10) (j := 4) (ty := tyX7 4) (pw_dk dc_X7_takeSign 25 rfl) rfl me_500 rfl pi_7 tyX7_ok nmX7 (by decide) fk_7_4 tw_359 rfl (tyX7_ok 4 (by decide)) (by first | rfl | decide) (by first | rfl | decide) e_28 ?_
                      have z := wp_some h
                      exact PZ_vret (pw_dk dc_X7_takeSign 26 rfl) rfl z
def f_X7_letterBits (x0 : Int32) (x1 : Int32) (σ : zS) : Int32 := 
  ((x0 - (97 : Int32)) + (1 : Int32)) <<< (((5 : Int32) * ((5 : Int32) - x1)) &&& 31)
theorem t_X7_letterBits (x0 : Int32) (x1 : Int32) (σ : zS) (Q : Option Value → zS → Prop) (h : Q (some (.int (f_X7_letterBits x0 x1 σ))) σ) : PK alC yX7_letterBits mX7_letterBits (0) [.int x0, .int x1] σ Q := by
  refine PC_ofF (by decide +kernel) rfl rfl (Nat.le_of_ble_eq_true rfl) ?_
  show PZ alC mX7_letterBits (0) Q 0 [(0, .int x0), (1, .int x1)] [] σ
  unfold f_X7_letterBits at h
  refine PW_iload_n (pc' := 1) (q := 0) (pw_dk dc_X7_letterBits 0 rfl) rfl rfl rfl ?_
  refine PW_bipush (pc' := 3) (v := 97) (pw_dk dc_X7_letterBits 1 rfl) rfl (by decide) ?_
  refine PW_isub (pc' := 4) (pw_dk dc_X7_letterBits 2 rfl) rfl ?_
  refine PW_iconst (pc' := 5) (v := 1) (pw_dk dc_X7_letterBits 3 rfl) rfl (by decide) ?_
  refine PW_iadd (pc' := 6) (pw_dk dc_X7_letterBits 4 rfl) rfl ?_
  refine PW_iconst (pc' := 7) (v := 5) (pw_dk dc_X7_letterBits 5 rfl) rfl (by decide) ?_
  refine PW_iconst (pc' := 8) (v := 5) (pw_dk dc_X7_letterBits 6 rfl) rfl (by decide) ?_
  refine PW_iload_n (pc' := 9) (q := 1) (pw_dk dc_X7_letterBits 7 rfl) rfl rfl rfl ?_
  refine PW_isub (pc' := 10) (pw_dk dc_X7_letterBits 8 rfl) rfl ?_
  refine PW_imul (pc' := 11) (pw_dk dc_X7_letterBits 9 rfl) rfl ?_
  refine PW_ishl (pc' := 12) (pw_dk dc_X7_letterBits 10 rfl) rfl ?_
  exact PZ_iret (ty := .int) (pw_dk dc_X7_letterBits 11 rfl) rfl rfl h
def f_X7_takeWord_56 (r2 : Int32 → zS → Option zS) (x1 : Int32) (σ : zS) : Option zS := 
  lt (wI σ 500 3 ((σ.1 500 3) + (1 : Int32))) fun σ_1 =>
  r2 (x1 + 1) σ_1
theorem b_X7_takeWord_56 {Q : Option Value → zS → Prop} (r2 : Int32 → zS → Option zS) (hr2 : ∀ (x1 : Int32) (σ : zS), wpO (r2 x1 σ) (fun s => Q none s) → PZ alC mX7_takeWord (1) Q 2 [(0, .ref 500), (1, .int x1)] [] σ) (x1 : Int32) (σ : zS) (h : wpO (f_X7_takeWord_56 r2 x1 σ) (fun s => Q none s)) : PZ alC mX7_takeWord (1) Q 56 [(0, .ref 500), (1, .int x1)] [] σ := by
  unfold f_X7_takeWord_56 at h
  refine PW_iinc (pc' := 59) (q := 1) (v := x1 + 1) (lv' := [(1, .int (x1 + 1)), (0, .ref 500)]) (pw_dk dc_X7_takeWord 29 rfl) rfl rfl rfl (by decide) rfl ?_
  refine PW_aload_n (pc' := 60) (q := 1) (pw_dk dc_X7_takeWord 30 rfl) rfl rfl rfl ?_
  refine PW_dup (pc' := 61) (pw_dk dc_X7_takeWord 31 rfl) rfl rfl ?_
  refine PZ_getI (pc' := 64) (id := 500) (ci := 7) (nn := 0) (C0 := RX7) (T := TX7) (N := 10) (j := 3) (pw_dk dc_X7_takeWord 32 rfl) rfl me_500 rfl pi_7 (by decide) fk_7_3 tw_358 ?_
  refine PW_iconst (pc' := 65) (v := 1) (pw_dk dc_X7_takeWord 33 rfl) rfl (by decide) ?_
  refine PW_iadd (pc' := 66) (pw_dk dc_X7_takeWord 34 rfl) rfl ?_
  obtain ⟨σ_1, e_2, h⟩ := lt_x h
  refine PZ_putX (pc' := 69) (σ' := σ_1) (id := 500) (ci := 7) (nn := 0) (C0 := RX7) (T := TX7) (N := 10) (j := 3) (ty := tyX7 3) (pw_dk dc_X7_takeWord 35 rfl) rfl me_500 rfl pi_7 tyX7_ok nmX7 (by decide) fk_7_3 tw_358 rfl (tyX7_ok 3 (by decide)) (by first | rfl | decide) (by first | rfl | decide) e_2 ?_
  refine PW_goto (tgt := 2) (pw_dk dc_X7_takeWord 36 rfl) (by decide) ?_
  refine PW_sub (lv' := [(0, .ref 500), (1, .int (x1 + 1))]) [1, 0] rfl ?_
  exact hr2 (x1 + 1) σ_1 h
def f_X7_takeWord_126 (r94 : Int32 → zS → Option zS) (x2 : Int32) (σ : zS) : Option zS := 
  r94 (x2 + 1) σ
theorem b_X7_takeWord_126 {Q : Option Value → zS → Prop} (r94 : Int32 → zS → Option zS) (hr94 : ∀ (x2 : Int32) (σ : zS), wpO (r94 x2 σ) (fun s => Q none s) → PZ alC mX7_takeWord (1) Q 94 [(0, .ref 500), (2, .int x2)] [] σ) (x2 : Int32) (σ : zS) (h : wpO (f_X7_takeWord_126 r94 x2 σ) (fun s => Q none s)) : PZ alC mX7_takeWord (1) Q 126 [(0, .ref 500), (2, .int x2)] [] σ := by
  unfold f_X7_takeWord_126 at h
  refine PW_iinc (pc' := 129) (q := 1) (v := x2 + 1) (lv' := [(2, .int (x2 + 1)), (0, .ref 500)]) (pw_dk dc_X7_takeWord 67 rfl) rfl rfl rfl (by decide) rfl ?_
  refine PW_goto (tgt := 94) (pw_dk dc_X7_takeWord 68 rfl) (by decide) ?_
  refine PW_sub (lv' := [(0, .ref 500), (2, .int (x2 + 1))]) [1, 0] rfl ?_
  exact hr94 (x2 + 1) σ h
def f_X7_takeWord_94  : Nat → Int32 → zS → Option zS
  | 0, _, _ => none
  | n + 1, x2, σ => 
    if 34 ≤ x2 then
      some σ
    else
      if (σ.1 500 4) = 1 then
        (rdI σ 502 34 x2).bind fun v_3 =>
        if v_3 = (σ.1 500 7) then
          lt (wI σ 500 6 x2) fun σ_7 =>
          f_X7_takeWord_126 (f_X7_takeWord_94 n) x2 σ_7
        else
          f_X7_takeWord_126 (f_X7_takeWord_94 n) x2 σ
      else
        some σ
theorem b_X7_takeWord_94 {Q : Option Value → zS → Prop} : ∀ (n : Nat) (x2 : Int32) (σ : zS) (h : wpO (f_X7_takeWord_94 n x2 σ) (fun s => Q none s)), PZ alC mX7_takeWord (1) Q 94 [(0, .ref 500), (2, .int x2)] [] σ := by
  intro n
  induction n with
  | zero => intro x2 σ h; exact wp_none h
  | succ n ih =>
    intro x2 σ h
    rw [f_X7_takeWord_94] at h
    refine PW_iload_n (pc' := 95) (q := 1) (pw_dk dc_X7_takeWord 50 rfl) rfl rfl rfl ?_
    refine PW_bipush (pc' := 97) (v := 34) (pw_dk dc_X7_takeWord 51 rfl) rfl (by decide) ?_
    refine PW_icmp_ge (pc' := 100) (tgt := 132) (pw_dk dc_X7_takeWord 52 rfl) rfl (by decide) (fun c_1 => ?_) (fun c_1 => ?_)
    · rw [if_pos c_1] at h
      have z := wp_some h
      exact PZ_vret (pw_dk dc_X7_takeWord 69 rfl) rfl z
    · rw [if_neg c_1] at h
      refine PW_aload_n (pc' := 101) (q := 0) (pw_dk dc_X7_takeWord 53 rfl) rfl rfl rfl ?_
      refine PZ_getI (pc' := 104) (id := 500) (ci := 7) (nn := 0) (C0 := RX7) (T := TX7) (N := 10) (j := 4) (pw_dk dc_X7_takeWord 54 rfl) rfl me_500 rfl pi_7 (by decide) fk_7_4 tw_359 ?_
      refine PW_iconst (pc' := 105) (v := 1) (pw_dk dc_X7_takeWord 55 rfl) rfl (by decide) ?_
      refine PW_icmp_ne (pc' := 108) (tgt := 132) (pw_dk dc_X7_takeWord 56 rfl) rfl (by decide) (fun c_2 => ?_) (fun c_2 => ?_)
      · rw [if_neg c_2] at h
        have z := wp_some h
        exact PZ_vret (pw_dk dc_X7_takeWord 69 rfl) rfl z
      · rw [if_pos c_2] at h
        refine PW_aload_n (pc' := 109) (q := 0) (pw_dk dc_X7_takeWord 57 rfl) rfl rfl rfl ?_
        refine PW_getR (pc' := 112) (id := 500) (ci := 7) (nn := 0) (C0 := RX7) (T := TX7) (N := 10) (j := 1) (r := 502) (pw_dk dc_X7_takeWord 58 rfl) rfl me_500 rfl pi_7 (by decide) fk_7_1 tw_356 (rfl) (by decide) ?_
        refine PW_iload_n (pc' := 113) (q := 1) (pw_dk dc_X7_takeWord 59 rfl) rfl rfl rfl ?_
        obtain ⟨v_3, hi_4, e_5, h⟩ := wp_rdIx h
        refine PZ_ialdx (pc' := 114) (v := v_3) (id := 502) (nn := 34) (pw_dk dc_X7_takeWord 60 rfl) rfl me_502 hi_4 e_5 ?_
        refine PW_aload_n (pc' := 115) (q := 0) (pw_dk dc_X7_takeWord 61 rfl) rfl rfl rfl ?_
        refine PZ_getI (pc' := 118) (id := 500) (ci := 7) (nn := 0) (C0 := RX7) (T := TX7) (N := 10) (j := 7) (pw_dk dc_X7_takeWord 62 rfl) rfl me_500 rfl pi_7 (by decide) fk_7_7 tw_366 ?_
        refine PW_icmp_ne (pc' := 121) (tgt := 126) (pw_dk dc_X7_takeWord 63 rfl) rfl (by decide) (fun c_6 => ?_) (fun c_6 => ?_)
        · rw [if_neg c_6] at h
          exact b_X7_takeWord_126 (f_X7_takeWord_94 n) ih x2 σ h
        · rw [if_pos c_6] at h
          refine PW_aload_n (pc' := 122) (q := 0) (pw_dk dc_X7_takeWord 64 rfl) rfl rfl rfl ?_
          refine PW_iload_n (pc' := 123) (q := 1) (pw_dk dc_X7_takeWord 65 rfl) rfl rfl rfl ?_
          obtain ⟨σ_7, e_8, h⟩ := lt_x h
          refine PZ_putX (pc' := 126) (σ' := σ_7) (id := 500) (ci := 7) (nn := 0) (C0 := RX7) (T := TX7) (N := 10) (j := 6) (ty := tyX7 6) (pw_dk dc_X7_takeWord 66 rfl) rfl me_500 rfl pi_7 tyX7_ok nmX7 (by decide) fk_7_6 tw_363 rfl (tyX7_ok 6 (by decide)) (by first | rfl | decide) (by first | rfl | decide) e_8 ?_
          exact b_X7_takeWord_126 (f_X7_takeWord_94 n) ih x2 σ_7 h
def f_X7_takeWord_84  (s1 : Int32) (σ : zS) : Option zS := 
  lt (wI σ 500 4 s1) fun σ_1 =>
  lt (wI σ_1 500 6 (-1 : Int32)) fun σ_3 =>
  f_X7_takeWord_94 FU 0 σ_3
theorem b_X7_takeWord_84 {Q : Option Value → zS → Prop} (s1 : Int32) (σ : zS) (h : wpO (f_X7_takeWord_84 s1 σ) (fun s => Q none s)) : PZ alC mX7_takeWord (1) Q 84 [(0, .ref 500)] [.int s1, .ref 500] σ := by
  unfold f_X7_takeWord_84 at h
  obtain ⟨σ_1, e_2, h⟩ := lt_x h
  refine PZ_putX (pc' := 87) (σ' := σ_1) (id := 500) (ci := 7) (nn := 0) (C0 := RX7) (T := TX7) (N := 10) (j := 4) (ty := tyX7 4) (pw_dk dc_X7_takeWord 44 rfl) rfl me_500 rfl pi_7 tyX7_ok nmX7 (by decide) fk_7_4 tw_359 rfl (tyX7_ok 4 (by decide)) (by first | rfl | decide) (by first | rfl | decide) e_2 ?_
  refine PW_aload_n (pc' := 88) (q := 0) (pw_dk dc_X7_takeWord 45 rfl) rfl rfl rfl ?_
  refine PW_iconst (pc' := 89) (v := (-1 : Int32)) (pw_dk dc_X7_takeWord 46 rfl) rfl (by decide) ?_
  obtain ⟨σ_3, e_4, h⟩ := lt_x h
  refine PZ_putX (pc' := 92) (σ' := σ_3) (id := 500) (ci := 7) (nn := 0) (C0 := RX7) (T := TX7) (N := 10) (j := 6) (ty := tyX7 6) (pw_dk dc_X7_takeWord 47 rfl) rfl me_500 rfl pi_7 tyX7_ok nmX7 (by decide) fk_7_6 tw_363 rfl (tyX7_ok 6 (by decide)) (by first | rfl | decide) (by first | rfl | decide) e_4 ?_
  refine PW_iconst (pc' := 93) (v := 0) (pw_dk dc_X7_takeWord 48 rfl) rfl (by decide) ?_
  refine PW_istore_n (pc' := 94) (lv' := [(2, .int 0), (0, .ref 500)]) (pw_dk dc_X7_takeWord 49 rfl) rfl rfl (by decide) rfl ?_
  refine PW_sub (lv' := [(0, .ref 500), (2, .int 0)]) [1, 0] rfl ?_
  exact b_X7_takeWord_94 FU 0 σ_3 h
def f_X7_takeWord_72  (x1 : Int32) (σ : zS) : Option zS := 
  if x1 ≤ 6 then
    f_X7_takeWord_84 1 σ
  else
    f_X7_takeWord_84 4 σ
theorem b_X7_takeWord_72 {Q : Option Value → zS → Prop} (x1 : Int32) (σ : zS) (h : wpO (f_X7_takeWord_72 x1 σ) (fun s => Q none s)) : PZ alC mX7_takeWord (1) Q 72 [(0, .ref 500), (1, .int x1)] [] σ := by
  unfold f_X7_takeWord_72 at h
  refine PW_aload_n (pc' := 73) (q := 0) (pw_dk dc_X7_takeWord 37 rfl) rfl rfl rfl ?_
  refine PW_iload_n (pc' := 74) (q := 1) (pw_dk dc_X7_takeWord 38 rfl) rfl rfl rfl ?_
  refine PW_bipush (pc' := 76) (v := 6) (pw_dk dc_X7_takeWord 39 rfl) rfl (by decide) ?_
  refine PW_icmp_le (pc' := 79) (tgt := 83) (pw_dk dc_X7_takeWord 40 rfl) rfl (by decide) (fun c_1 => ?_) (fun c_1 => ?_)
  · rw [if_pos c_1] at h
    refine PW_iconst (pc' := 84) (v := 1) (pw_dk dc_X7_takeWord 43 rfl) rfl (by decide) ?_
    refine PW_sub (lv' := [(0, .ref 500)]) [0] rfl ?_
    exact b_X7_takeWord_84 1 σ h
  · rw [if_neg c_1] at h
    refine PW_iconst (pc' := 80) (v := 4) (pw_dk dc_X7_takeWord 41 rfl) rfl (by decide) ?_
    refine PW_goto (tgt := 84) (pw_dk dc_X7_takeWord 42 rfl) (by decide) ?_
    refine PW_sub (lv' := [(0, .ref 500)]) [0] rfl ?_
    exact b_X7_takeWord_84 4 σ h
def f_X7_takeWord_2  : Nat → Int32 → zS → Option zS
  | 0, _, _ => none
  | n + 1, x1, σ => 
    if (σ.1 500 2) ≤ (σ.1 500 3) then
      f_X7_takeWord_72 x1 σ
    else
      (rdI σ 101 700 (σ.1 500 3)).bind fun v_2 =>
      if (f_X7_isLetter v_2 σ) = 0 then
        f_X7_takeWord_72 x1 σ
      else
        if 6 ≤ x1 then
          f_X7_takeWord_56 (f_X7_takeWord_2 n) x1 σ
        else
          (rdI σ 101 700 (σ.1 500 3)).bind fun v_8 =>
          lt (wI σ 500 7 ((σ.1 500 7) ||| (f_X7_letterBits v_8 x1 σ))) fun σ_12 =>
          f_X7_takeWord_56 (f_X7_takeWord_2 n) x1 σ_12
theorem b_X7_takeWord_2 {Q : Option Value → zS → Prop} : ∀ (n : Nat) (x1 : Int32) (σ : zS) (h : wpO (f_X7_takeWord_2 n x1 σ) (fun s => Q none s)), PZ alC mX7_takeWord (1) Q 2 [(0, .ref 500), (1, .int x1)] [] σ := by
  intro n
  induction n with
  | zero => intro x1 σ h; exact wp_none h
  | succ n ih =>
    intro x1 σ h
    rw [f_X7_takeWord_2] at h
    refine PW_aload_n (pc' := 3) (q := 0) (pw_dk dc_X7_takeWord 2 rfl) rfl rfl rfl ?_
    refine PZ_getI (pc' := 6) (id := 500) (ci := 7) (nn := 0) (C0 := RX7) (T := TX7) (N := 10) (j := 3) (pw_dk dc_X7_takeWord 3 rfl) rfl me_500 rfl pi_7 (by decide) fk_7_3 tw_358 ?_
    refine PW_aload_n (pc' := 7) (q := 0) (pw_dk dc_X7_takeWord 4 rfl) rfl rfl rfl ?_
    refine PZ_getI (pc' := 10) (id := 500) (ci := 7) (nn := 0) (C0 := RX7) (T := TX7) (N := 10) (j := 2) (pw_dk dc_X7_takeWord 5 rfl) rfl me_500 rfl pi_7 (by decide) fk_7_2 tw_357 ?_
    refine PW_icmp_ge (pc' := 13) (tgt := 72) (pw_dk dc_X7_takeWord 6 rfl) rfl (by decide) (fun c_1 => ?_) (fun c_1 => ?_)
    · rw [if_pos c_1] at h
      exact b_X7_takeWord_72 x1 σ h
    · rw [if_neg c_1] at h
      refine PW_aload_n (pc' := 14) (q := 0) (pw_dk dc_X7_takeWord 7 rfl) rfl rfl rfl ?_
      refine PW_getR (pc' := 17) (id := 500) (ci := 7) (nn := 0) (C0 := RX7) (T := TX7) (N := 10) (j := 0) (r := 101) (pw_dk dc_X7_takeWord 8 rfl) rfl me_500 rfl pi_7 (by decide) fk_7_0 tw_355 (rfl) (by decide) ?_
      refine PW_aload_n (pc' := 18) (q := 0) (pw_dk dc_X7_takeWord 9 rfl) rfl rfl rfl ?_
      refine PZ_getI (pc' := 21) (id := 500) (ci := 7) (nn := 0) (C0 := RX7) (T := TX7) (N := 10) (j := 3) (pw_dk dc_X7_takeWord 10 rfl) rfl me_500 rfl pi_7 (by decide) fk_7_3 tw_358 ?_
      obtain ⟨v_2, hi_3, e_4, h⟩ := wp_rdIx h
      refine PZ_ialdx (pc' := 22) (v := v_2) (id := 101) (nn := 700) (pw_dk dc_X7_takeWord 11 rfl) rfl me_101 hi_3 e_4 ?_
      refine PZ_callSi (pc' := 25) (y := yX7_isLetter) (M' := mX7_isLetter) (d' := 0) (As := [.int v_2]) (st := []) tw_678 (pw_dk dc_X7_takeWord 12 rfl) rfl Y_X7_isLetter tw_677 rfl (by decide) (Nat.le_of_ble_eq_true rfl) (t_X7_isLetter v_2 σ _ ?_)
      refine ⟨_, rfl, fun hn_5 => ?_⟩
      show PZ alC mX7_takeWord (1) Q 25 [(0, .ref 500), (1, .int x1)] [.int (f_X7_isLetter v_2 σ)] σ
      refine PW_if_eq (pc' := 28) (tgt := 72) (pw_dk dc_X7_takeWord 13 rfl) rfl (by decide) (fun c_6 => ?_) (fun c_6 => ?_)
      · rw [if_pos c_6] at h
        exact b_X7_takeWord_72 x1 σ h
      · rw [if_neg c_6] at h
        refine PW_iload_n (pc' := 29) (q := 1) (pw_dk dc_X7_takeWord 14 rfl) rfl rfl rfl ?_
        refine PW_bipush (pc' := 31) (v := 6) (pw_dk dc_X7_takeWord 15 rfl) rfl (by decide) ?_
        refine PW_icmp_ge (pc' := 34) (tgt := 56) (pw_dk dc_X7_takeWord 16 rfl) rfl (by decide) (fun c_7 => ?_) (fun c_7 => ?_)
        · rw [if_pos c_7] at h
          exact b_X7_takeWord_56 (f_X7_takeWord_2 n) ih x1 σ h
        · rw [if_neg c_7] at h
          refine PW_aload_n (pc' := 35) (q := 0) (pw_dk dc_X7_takeWord 17 rfl) rfl rfl rfl ?_
          refine PW_dup (pc' := 36) (pw_dk dc_X7_takeWord 18 rfl) rfl rfl ?_
          refine PZ_getI (pc' := 39) (id := 500) (ci := 7) (nn := 0) (C0 := RX7) (T := TX7) (N := 10) (j := 7) (pw_dk dc_X7_takeWord 19 rfl) rfl me_500 rfl pi_7 (by decide) fk_7_7 tw_366 ?_
          refine PW_aload_n (pc' := 40) (q := 0) (pw_dk dc_X7_takeWord 20 rfl) rfl rfl rfl ?_
          refine PW_getR (pc' := 43) (id := 500) (ci := 7) (nn := 0) (C0 := RX7) (T := TX7) (N := 10) (j := 0) (r := 101) (pw_dk dc_X7_takeWord 21 rfl) rfl me_500 rfl pi_7 (by decide) fk_7_0 tw_355 (rfl) (by decide) ?_
          refine PW_aload_n (pc' := 44) (q := 0) (pw_dk dc_X7_takeWord 22 rfl) rfl rfl rfl ?_
          refine PZ_getI (pc' := 47) (id := 500) (ci := 7) (nn := 0) (C0 := RX7) (T := TX7) (N := 10) (j := 3) (pw_dk dc_X7_takeWord 23 rfl) rfl me_500 rfl pi_7 (by decide) fk_7_3 tw_358 ?_
          obtain ⟨v_8, hi_9, e_10, h⟩ := wp_rdIx h
          refine PZ_ialdx (pc' := 48) (v := v_8) (id := 101) (nn := 700) (pw_dk dc_X7_takeWord 24 rfl) rfl me_101 hi_9 e_10 ?_
          refine PW_iload_n (pc' := 49) (q := 1) (pw_dk dc_X7_takeWord 25 rfl) rfl rfl rfl ?_
          refine PZ_callSi (pc' := 52) (y := yX7_letterBits) (M' := mX7_letterBits) (d' := 0) (As := [.int v_8, .int x1]) (st := [.int (σ.1 500 7), .ref 500]) tw_353 (pw_dk dc_X7_takeWord 26 rfl) rfl Y_X7_letterBits tw_352 rfl (by decide) (Nat.le_of_ble_eq_true rfl) (t_X7_letterBits v_8 x1 σ _ ?_)
          refine ⟨_, rfl, fun hn_11 => ?_⟩
          show PZ alC mX7_takeWord (1) Q 52 [(0, .ref 500), (1, .int x1)] [.int (f_X7_letterBits v_8 x1 σ), .int (σ.1 500 7), .ref 500] σ
          refine PW_ior (pc' := 53) (pw_dk dc_X7_takeWord 27 rfl) rfl ?_
          obtain ⟨σ_12, e_13, h⟩ := lt_x h
          refine PZ_putX (pc' := 56) (σ' := σ_12) (id := 500) (ci := 7) (nn := 0) (C0 := RX7) (T := TX7) (N := 10) (j := 7) (ty := tyX7 7) (pw_dk dc_X7_takeWord 28 rfl) rfl me_500 rfl pi_7 tyX7_ok nmX7 (by decide) fk_7_7 tw_366 rfl (tyX7_ok 7 (by decide)) (by first | rfl | decide) (by first | rfl | decide) e_13 ?_
          exact b_X7_takeWord_56 (f_X7_takeWord_2 n) ih x1 σ_12 h
def f_X7_takeWord  (σ : zS) : Option zS := 
  f_X7_takeWord_2 FU 0 σ
theorem t_X7_takeWord (σ : zS) (Q : Option Value → zS → Prop) (h : wpO (f_X7_takeWord σ) (fun s => Q none s)) : PK alC yX7_takeWord mX7_takeWord (1) [.ref 500] σ Q := by
  refine PC_ofF (by decide +kernel) rfl rfl (Nat.le_of_ble_eq_true rfl) ?_
  show PZ alC mX7_takeWord (1) Q 0 [(0, .ref 500)] [] σ
  unfold f_X7_takeWord at h
  refine PW_iconst (pc' := 1) (v := 0) (pw_dk dc_X7_takeWord 0 rfl) rfl (by decide) ?_
  refine PW_istore_n (pc' := 2) (lv' := [(1, .int 0), (0, .ref 500)]) (pw_dk dc_X7_takeWord 1 rfl) rfl rfl (by decide) rfl ?_
  refine PW_sub (lv' := [(0, .ref 500), (1, .int 0)]) [1, 0] rfl ?_
  exact b_X7_takeWord_2 FU 0 σ h
def f_X7_advance_39 (r0 : zS → Option zS)  (σ : zS) : Option zS := 
  lt (wI σ 500 3 ((σ.1 500 3) + (1 : Int32))) fun σ_1 =>
  r0 σ_1
theorem b_X7_advance_39 {Q : Option Value → zS → Prop} (r0 : zS → Option zS) (hr0 : ∀  (σ : zS), wpO (r0 σ) (fun s => Q none s) → PZ alC mX7_advance (2) Q 0 [(0, .ref 500)] [] σ)  (σ : zS) (h : wpO (f_X7_advance_39 r0 σ) (fun s => Q none s)) : PZ alC mX7_advance (2) Q 39 [(0, .ref 500)] [] σ := by
  unfold f_X7_advance_39 at h
  refine PW_aload_n (pc' := 40) (q := 0) (pw_dk dc_X7_advance 19 rfl) rfl rfl rfl ?_
  refine PW_dup (pc' := 41) (pw_dk dc_X7_advance 20 rfl) rfl rfl ?_
  refine PZ_getI (pc' := 44) (id := 500) (ci := 7) (nn := 0) (C0 := RX7) (T := TX7) (N := 10) (j := 3) (pw_dk dc_X7_advance 21 rfl) rfl me_500 rfl pi_7 (by decide) fk_7_3 tw_358 ?_
  refine PW_iconst (pc' := 45) (v := 1) (pw_dk dc_X7_advance 22 rfl) rfl (by decide) ?_
  refine PW_iadd (pc' := 46) (pw_dk dc_X7_advance 23 rfl) rfl ?_
  obtain ⟨σ_1, e_2, h⟩ := lt_x h
  refine PZ_putX (pc' := 49) (σ' := σ_1) (id := 500) (ci := 7) (nn := 0) (C0 := RX7) (T := TX7) (N := 10) (j := 3) (ty := tyX7 3) (pw_dk dc_X7_advance 24 rfl) rfl me_500 rfl pi_7 tyX7_ok nmX7 (by decide) fk_7_3 tw_358 rfl (tyX7_ok 3 (by decide)) (by first | rfl | decide) (by first | rfl | decide) e_2 ?_
  refine PW_goto (tgt := 0) (pw_dk dc_X7_advance 25 rfl) (by decide) ?_
  exact hr0  σ_1 h
def f_X7_advance_52   (σ : zS) : Option zS := 
  lt (wI σ 500 5 (σ.1 500 3)) fun σ_1 =>
  lt (wI σ_1 500 6 0) fun σ_3 =>
  lt (wI σ_3 500 7 0) fun σ_5 =>
  if (σ_5.1 500 3) < (σ_5.1 500 2) then
    (rdI σ_5 101 700 (σ_5.1 500 3)).bind fun v_8 =>
    if (f_X7_isLetter v_8 σ_5) = 0 then
      (rdI σ_5 101 700 (σ_5.1 500 3)).bind fun v_13 =>
      if (f_X7_isDigit v_13 σ_5) = 0 then
        (f_X7_takeSign σ_5).bind fun σ_19 =>
        some σ_19
      else
        (f_X7_takeNumber σ_5).bind fun σ_22 =>
        some σ_22
    else
      (f_X7_takeWord σ_5).bind fun σ_25 =>
      some σ_25
  else
    lt (wI σ_5 500 4 0) fun σ_27 =>
    some σ_27
theorem b_X7_advance_52 {Q : Option Value → zS → Prop}  (σ : zS) (h : wpO (f_X7_advance_52 σ) (fun s => Q none s)) : PZ alC mX7_advance (2) Q 52 [(0, .ref 500)] [] σ := by
  unfold f_X7_advance_52 at h
  refine PW_aload_n (pc' := 53) (q := 0) (pw_dk dc_X7_advance 26 rfl) rfl rfl rfl ?_
  refine PW_aload_n (pc' := 54) (q := 0) (pw_dk dc_X7_advance 27 rfl) rfl rfl rfl ?_
  refine PZ_getI (pc' := 57) (id := 500) (ci := 7) (nn := 0) (C0 := RX7) (T := TX7) (N := 10) (j := 3) (pw_dk dc_X7_advance 28 rfl) rfl me_500 rfl pi_7 (by decide) fk_7_3 tw_358 ?_
  obtain ⟨σ_1, e_2, h⟩ := lt_x h
  refine PZ_putX (pc' := 60) (σ' := σ_1) (id := 500) (ci := 7) (nn := 0) (C0 := RX7) (T := TX7) (N := 10) (j := 5) (ty := tyX7 5) (pw_dk dc_X7_advance 29 rfl) rfl me_500 rfl pi_7 tyX7_ok nmX7 (by decide) fk_7_5 tw_362 rfl (tyX7_ok 5 (by decide)) (by first | rfl | decide) (by first | rfl | decide) e_2 ?_
  refine PW_aload_n (pc' := 61) (q := 0) (pw_dk dc_X7_advance 30 rfl) rfl rfl rfl ?_
  refine PW_iconst (pc' := 62) (v := 0) (pw_dk dc_X7_advance 31 rfl) rfl (by decide) ?_
  obtain ⟨σ_3, e_4, h⟩ := lt_x h
  refine PZ_putX (pc' := 65) (σ' := σ_3) (id := 500) (ci := 7) (nn := 0) (C0 := RX7) (T := TX7) (N := 10) (j := 6) (ty := tyX7 6) (pw_dk dc_X7_advance 32 rfl) rfl me_500 rfl pi_7 tyX7_ok nmX7 (by decide) fk_7_6 tw_363 rfl (tyX7_ok 6 (by decide)) (by first | rfl | decide) (by first | rfl | decide) e_4 ?_
  refine PW_aload_n (pc' := 66) (q := 0) (pw_dk dc_X7_advance 33 rfl) rfl rfl rfl ?_
  refine PW_iconst (pc' := 67) (v := 0) (pw_dk dc_X7_advance 34 rfl) rfl (by decide) ?_
  obtain ⟨σ_5, e_6, h⟩ := lt_x h
  refine PZ_putX (pc' := 70) (σ' := σ_5) (id := 500) (ci := 7) (nn := 0) (C0 := RX7) (T := TX7) (N := 10) (j := 7) (ty := tyX7 7) (pw_dk dc_X7_advance 35 rfl) rfl me_500 rfl pi_7 tyX7_ok nmX7 (by decide) fk_7_7 tw_366 rfl (tyX7_ok 7 (by decide)) (by first | rfl | decide) (by first | rfl | decide) e_6 ?_
  refine PW_aload_n (pc' := 71) (q := 0) (pw_dk dc_X7_advance 36 rfl) rfl rfl rfl ?_
  refine PZ_getI (pc' := 74) (id := 500) (ci := 7) (nn := 0) (C0 := RX7) (T := TX7) (N := 10) (j := 3) (pw_dk dc_X7_advance 37 rfl) rfl me_500 rfl pi_7 (by decide) fk_7_3 tw_358 ?_
  refine PW_aload_n (pc' := 75) (q := 0) (pw_dk dc_X7_advance 38 rfl) rfl rfl rfl ?_
  refine PZ_getI (pc' := 78) (id := 500) (ci := 7) (nn := 0) (C0 := RX7) (T := TX7) (N := 10) (j := 2) (pw_dk dc_X7_advance 39 rfl) rfl me_500 rfl pi_7 (by decide) fk_7_2 tw_357 ?_
  refine PW_icmp_lt (pc' := 81) (tgt := 89) (pw_dk dc_X7_advance 40 rfl) rfl (by decide) (fun c_7 => ?_) (fun c_7 => ?_)
  · rw [if_pos c_7] at h
    refine PW_aload_n (pc' := 90) (q := 0) (pw_dk dc_X7_advance 45 rfl) rfl rfl rfl ?_
    refine PW_getR (pc' := 93) (id := 500) (ci := 7) (nn := 0) (C0 := RX7) (T := TX7) (N := 10) (j := 0) (r := 101) (pw_dk dc_X7_advance 46 rfl) rfl me_500 rfl pi_7 (by decide) fk_7_0 tw_355 (rfl) (by decide) ?_
    refine PW_aload_n (pc' := 94) (q := 0) (pw_dk dc_X7_advance 47 rfl) rfl rfl rfl ?_
    refine PZ_getI (pc' := 97) (id := 500) (ci := 7) (nn := 0) (C0 := RX7) (T := TX7) (N := 10) (j := 3) (pw_dk dc_X7_advance 48 rfl) rfl me_500 rfl pi_7 (by decide) fk_7_3 tw_358 ?_
    obtain ⟨v_8, hi_9, e_10, h⟩ := wp_rdIx h
    refine PZ_ialdx (pc' := 98) (v := v_8) (id := 101) (nn := 700) (pw_dk dc_X7_advance 49 rfl) rfl me_101 hi_9 e_10 ?_
    refine PZ_callSi (pc' := 101) (y := yX7_isLetter) (M' := mX7_isLetter) (d' := 0) (As := [.int v_8]) (st := []) tw_678 (pw_dk dc_X7_advance 50 rfl) rfl Y_X7_isLetter tw_677 rfl (by decide) (Nat.le_of_ble_eq_true rfl) (t_X7_isLetter v_8 σ_5 _ ?_)
    refine ⟨_, rfl, fun hn_11 => ?_⟩
    show PZ alC mX7_advance (2) Q 101 [(0, .ref 500)] [.int (f_X7_isLetter v_8 σ_5)] σ_5
    refine PW_if_eq (pc' := 104) (tgt := 111) (pw_dk dc_X7_advance 51 rfl) rfl (by decide) (fun c_12 => ?_) (fun c_12 => ?_)
    · rw [if_pos c_12] at h
      refine PW_aload_n (pc' := 112) (q := 0) (pw_dk dc_X7_advance 55 rfl) rfl rfl rfl ?_
      refine PW_getR (pc' := 115) (id := 500) (ci := 7) (nn := 0) (C0 := RX7) (T := TX7) (N := 10) (j := 0) (r := 101) (pw_dk dc_X7_advance 56 rfl) rfl me_500 rfl pi_7 (by decide) fk_7_0 tw_355 (rfl) (by decide) ?_
      refine PW_aload_n (pc' := 116) (q := 0) (pw_dk dc_X7_advance 57 rfl) rfl rfl rfl ?_
      refine PZ_getI (pc' := 119) (id := 500) (ci := 7) (nn := 0) (C0 := RX7) (T := TX7) (N := 10) (j := 3) (pw_dk dc_X7_advance 58 rfl) rfl me_500 rfl pi_7 (by decide) fk_7_3 tw_358 ?_
      obtain ⟨v_13, hi_14, e_15, h⟩ := wp_rdIx h
      refine PZ_ialdx (pc' := 120) (v := v_13) (id := 101) (nn := 700) (pw_dk dc_X7_advance 59 rfl) rfl me_101 hi_14 e_15 ?_
      refine PZ_callSi (pc' := 123) (y := yX7_isDigit) (M' := mX7_isDigit) (d' := 0) (As := [.int v_13]) (st := []) tw_685 (pw_dk dc_X7_advance 60 rfl) rfl Y_X7_isDigit tw_684 rfl (by decide) (Nat.le_of_ble_eq_true rfl) (t_X7_isDigit v_13 σ_5 _ ?_)
      refine ⟨_, rfl, fun hn_16 => ?_⟩
      show PZ alC mX7_advance (2) Q 123 [(0, .ref 500)] [.int (f_X7_isDigit v_13 σ_5)] σ_5
      refine PW_if_eq (pc' := 126) (tgt := 133) (pw_dk dc_X7_advance 61 rfl) rfl (by decide) (fun c_17 => ?_) (fun c_17 => ?_)
      · rw [if_pos c_17] at h
        refine PW_aload_n (pc' := 134) (q := 0) (pw_dk dc_X7_advance 65 rfl) rfl rfl rfl ?_
        refine PZ_callVv (pc' := 137) (y := yX7_takeSign) (M' := mX7_takeSign) (d' := 1) (As := []) (st := []) (b := 500) (ci := 7) (nn := 0) me_500 rfl tw_694 tw_3 (pw_dk dc_X7_advance 66 rfl) rfl Y_X7_takeSign tw_692 rfl (by decide) (Nat.le_of_ble_eq_true rfl) (t_X7_takeSign σ_5 _ ?_)
        obtain ⟨σ_19, e_20, h⟩ := wp_bind h
        refine ⟨σ_19, e_20, rfl, fun hn_18 => ?_⟩
        show PZ alC mX7_advance (2) Q 137 [(0, .ref 500)] [] σ_19
        have z := wp_some h
        exact PZ_vret (pw_dk dc_X7_advance 67 rfl) rfl z
      · rw [if_neg c_17] at h
        refine PW_aload_n (pc' := 127) (q := 0) (pw_dk dc_X7_advance 62 rfl) rfl rfl rfl ?_
        refine PZ_callVv (pc' := 130) (y := yX7_takeNumber) (M' := mX7_takeNumber) (d' := 1) (As := []) (st := []) (b := 500) (ci := 7) (nn := 0) me_500 rfl tw_689 tw_2 (pw_dk dc_X7_advance 63 rfl) rfl Y_X7_takeNumber tw_687 rfl (by decide) (Nat.le_of_ble_eq_true rfl) (t_X7_takeNumber σ_5 _ ?_)
        obtain ⟨σ_22, e_23, h⟩ := wp_bind h
        refine ⟨σ_22, e_23, rfl, fun hn_21 => ?_⟩
        show PZ alC mX7_advance (2) Q 130 [(0, .ref 500)] [] σ_22
        refine PW_goto (tgt := 137) (pw_dk dc_X7_advance 64 rfl) (by decide) ?_
        have z := wp_some h
        exact PZ_vret (pw_dk dc_X7_advance 67 rfl) rfl z
    · rw [if_neg c_12] at h
      refine PW_aload_n (pc' := 105) (q := 0) (pw_dk dc_X7_advance 52 rfl) rfl rfl rfl ?_
      refine PZ_callVv (pc' := 108) (y := yX7_takeWord) (M' := mX7_takeWord) (d' := 1) (As := []) (st := []) (b := 500) (ci := 7) (nn := 0) me_500 rfl tw_682 tw_1 (pw_dk dc_X7_advance 53 rfl) rfl Y_X7_takeWord tw_680 rfl (by decide) (Nat.le_of_ble_eq_true rfl) (t_X7_takeWord σ_5 _ ?_)
      obtain ⟨σ_25, e_26, h⟩ := wp_bind h
      refine ⟨σ_25, e_26, rfl, fun hn_24 => ?_⟩
      show PZ alC mX7_advance (2) Q 108 [(0, .ref 500)] [] σ_25
      refine PW_goto (tgt := 137) (pw_dk dc_X7_advance 54 rfl) (by decide) ?_
      have z := wp_some h
      exact PZ_vret (pw_dk dc_X7_advance 67 rfl) rfl z
  · rw [if_neg c_7] at h
    refine PW_aload_n (pc' := 82) (q := 0) (pw_dk dc_X7_advance 41 rfl) rfl rfl rfl ?_
    refine PW_iconst (pc' := 83) (v := 0) (pw_dk dc_X7_advance 42 rfl) rfl (by decide) ?_
    obtain ⟨σ_27, e_28, h⟩ := lt_x h
    refine PZ_putX (pc' := 86) (σ' := σ_27) (id := 500) (ci := 7) (nn := 0) (C0 := RX7) (T := TX7) (N := 10) (j := 4) (ty := tyX7 4) (pw_dk dc_X7_advance 43 rfl) rfl me_500 rfl pi_7 tyX7_ok nmX7 (by decide) fk_7_4 tw_359 rfl (tyX7_ok 4 (by decide)) (by first | rfl | decide) (by first | rfl | decide) e_28 ?_
    refine PW_goto (tgt := 137) (pw_dk dc_X7_advance 44 rfl) (by decide) ?_
    have z := wp_some h
    exact PZ_vret (pw_dk dc_X7_advance 67 rfl) rfl z
def f_X7_advance_0  : Nat → zS → Option zS
  | 0, _ => none
  | n + 1, σ => 
    if (σ.1 500 2) ≤ (σ.1 500 3) then
      f_X7_advance_52 σ
    else
      (rdI σ 101 700 (σ.1 500 3)).bind fun v_2 =>
      if v_2 = 10 then
        f_X7_advance_39 (f_X7_advance_0 n) σ
      else
        (rdI σ 101 700 (σ.1 500 3)).bind fun v_6 =>
        if v_6 = 32 then
          f_X7_advance_39 (f_X7_advance_0 n) σ
        else
          f_X7_advance_52 σ
theorem b_X7_advance_0 {Q : Option Value → zS → Prop} : ∀ (n : Nat)  (σ : zS) (h : wpO (f_X7_advance_0 n σ) (fun s => Q none s)), PZ alC mX7_advance (2) Q 0 [(0, .ref 500)] [] σ := by
  intro n
  induction n with
  | zero => intro  σ h; exact wp_none h
  | succ n ih =>
    intro  σ h
    rw [f_X7_advance_0] at h
    refine PW_aload_n (pc' := 1) (q := 0) (pw_dk dc_X7_advance 0 rfl) rfl rfl rfl ?_
    refine PZ_getI (pc' := 4) (id := 500) (ci := 7) (nn := 0) (C0 := RX7) (T := TX7) (N := 10) (j := 3) (pw_dk dc_X7_advance 1 rfl) rfl me_500 rfl pi_7 (by decide) fk_7_3 tw_358 ?_
    refine PW_aload_n (pc' := 5) (q := 0) (pw_dk dc_X7_advance 2 rfl) rfl rfl rfl ?_
    refine PZ_getI (pc' := 8) (id := 500) (ci := 7) (nn := 0) (C0 := RX7) (T := TX7) (N := 10) (j := 2) (pw_dk dc_X7_advance 3 rfl) rfl me_500 rfl pi_7 (by decide) fk_7_2 tw_357 ?_
    refine PW_icmp_ge (pc' := 11) (tgt := 52) (pw_dk dc_X7_advance 4 rfl) rfl (by decide) (fun c_1 => ?_) (fun c_1 => ?_)
    · rw [if_pos c_1] at h
      exact b_X7_advance_52 σ h
    · rw [if_neg c_1] at h
      refine PW_aload_n (pc' := 12) (q := 0) (pw_dk dc_X7_advance 5 rfl) rfl rfl rfl ?_
      refine PW_getR (pc' := 15) (id := 500) (ci := 7) (nn := 0) (C0 := RX7) (T := TX7) (N := 10) (j := 0) (r := 101) (pw_dk dc_X7_advance 6 rfl) rfl me_500 rfl pi_7 (by decide) fk_7_0 tw_355 (rfl) (by decide) ?_
      refine PW_aload_n (pc' := 16) (q := 0) (pw_dk dc_X7_advance 7 rfl) rfl rfl rfl ?_
      refine PZ_getI (pc' := 19) (id := 500) (ci := 7) (nn := 0) (C0 := RX7) (T := TX7) (N := 10) (j := 3) (pw_dk dc_X7_advance 8 rfl) rfl me_500 rfl pi_7 (by decide) fk_7_3 tw_358 ?_
      obtain ⟨v_2, hi_3, e_4, h⟩ := wp_rdIx h
      refine PZ_ialdx (pc' := 20) (v := v_2) (id := 101) (nn := 700) (pw_dk dc_X7_advance 9 rfl) rfl me_101 hi_3 e_4 ?_
      refine PW_bipush (pc' := 22) (v := 10) (pw_dk dc_X7_advance 10 rfl) rfl (by decide) ?_
      refine PW_icmp_eq (pc' := 25) (tgt := 39) (pw_dk dc_X7_advance 11 rfl) rfl (by decide) (fun c_5 => ?_) (fun c_5 => ?_)
      · rw [if_pos c_5] at h
        exact b_X7_advance_39 (f_X7_advance_0 n) ih σ h
      · rw [if_neg c_5] at h
        refine PW_aload_n (pc' := 26) (q := 0) (pw_dk dc_X7_advance 12 rfl) rfl rfl rfl ?_
        refine PW_getR (pc' := 29) (id := 500) (ci := 7) (nn := 0) (C0 := RX7) (T := TX7) (N := 10) (j := 0) (r := 101) (pw_dk dc_X7_advance 13 rfl) rfl me_500 rfl pi_7 (by decide) fk_7_0 tw_355 (rfl) (by decide) ?_
        refine PW_aload_n (pc' := 30) (q := 0) (pw_dk dc_X7_advance 14 rfl) rfl rfl rfl ?_
        refine PZ_getI (pc' := 33) (id := 500) (ci := 7) (nn := 0) (C0 := RX7) (T := TX7) (N := 10) (j := 3) (pw_dk dc_X7_advance 15 rfl) rfl me_500 rfl pi_7 (by decide) fk_7_3 tw_358 ?_
        obtain ⟨v_6, hi_7, e_8, h⟩ := wp_rdIx h
        refine PZ_ialdx (pc' := 34) (v := v_6) (id := 101) (nn := 700) (pw_dk dc_X7_advance 16 rfl) rfl me_101 hi_7 e_8 ?_
        refine PW_bipush (pc' := 36) (v := 32) (pw_dk dc_X7_advance 17 rfl) rfl (by decide) ?_
        refine PW_icmp_ne (pc' := 39) (tgt := 52) (pw_dk dc_X7_advance 18 rfl) rfl (by decide) (fun c_9 => ?_) (fun c_9 => ?_)
        · rw [if_neg c_9] at h
          exact b_X7_advance_52 σ h
        · rw [if_pos c_9] at h
          exact b_X7_advance_39 (f_X7_advance_0 n) ih σ h
def f_X7_advance  (σ : zS) : Option zS := 
  f_X7_advance_0 FU σ
theorem t_X7_advance (σ : zS) (Q : Option Value → zS → Prop) (h : wpO (f_X7_advance σ) (fun s => Q none s)) : PK alC yX7_advance mX7_advance (2) [.ref 500] σ Q := by
  refine PC_ofF (by decide +kernel) rfl rfl (Nat.le_of_ble_eq_true rfl) ?_
  show PZ alC mX7_advance (2) Q 0 [(0, .ref 500)] [] σ
  unfold f_X7_advance at h
  exact b_X7_advance_0 FU σ h
def f_X8_indexOf_2 (a0 n0 : Nat) : Nat → Int32 → Int32 → Int32 → zS → Option Int32
  | 0, _, _, _, _ => none
  | n + 1, x1, x2, x3, σ => 
    if x1 ≤ x3 then
      some (-1 : Int32)
    else
      if (nI n0) ≤ x3 then
        some (-1 : Int32)
      else
        (rdI σ a0 n0 x3).bind fun v_3 =>
        if v_3 = x2 then
          some x3
        else
          f_X8_indexOf_2 a0 n0 n x1 x2 (x3 + 1) σ
theorem b_X8_indexOf_2 {Q : Option Value → zS → Prop} (a0 n0 : Nat) (ha0 : (a0, 13, n0) ∈ alC) : ∀ (n : Nat) (x1 : Int32) (x2 : Int32) (x3 : Int32) (σ : zS) (h : wpO (f_X8_indexOf_2 a0 n0 n x1 x2 x3 σ) (fun a => Q (some (.int a)) σ)), PZ alC mX8_indexOf (0) Q 2 [(0, .ref a0), (1, .int x1), (2, .int x2), (3, .int x3)] [] σ := by
  intro n
  induction n with
  | zero => intro x1 x2 x3 σ h; exact wp_none h
  | succ n ih =>
    intro x1 x2 x3 σ h
    rw [f_X8_indexOf_2] at h
    refine PW_iload_n (pc' := 3) (q := 3) (pw_dk dc_X8_indexOf 2 rfl) rfl rfl rfl ?_
    refine PW_iload_n (pc' := 4) (q := 1) (pw_dk dc_X8_indexOf 3 rfl) rfl rfl rfl ?_
    refine PW_icmp_ge (pc' := 7) (tgt := 28) (pw_dk dc_X8_indexOf 4 rfl) rfl (by decide) (fun c_1 => ?_) (fun c_1 => ?_)
    · rw [if_pos c_1] at h
      refine PW_iconst (pc' := 29) (v := (-1 : Int32)) (pw_dk dc_X8_indexOf 18 rfl) rfl (by decide) ?_
      have z := wp_some h
      exact PZ_iret (ty := .int) (pw_dk dc_X8_indexOf 19 rfl) rfl rfl z
    · rw [if_neg c_1] at h
      refine PW_iload_n (pc' := 8) (q := 3) (pw_dk dc_X8_indexOf 5 rfl) rfl rfl rfl ?_
      refine PW_aload_n (pc' := 9) (q := 0) (pw_dk dc_X8_indexOf 6 rfl) rfl rfl rfl ?_
      refine PW_alen13 (pc' := 10) (nn := n0) (pw_dk dc_X8_indexOf 7 rfl) rfl ha0 ?_
      refine PW_icmp_ge (pc' := 13) (tgt := 28) (pw_dk dc_X8_indexOf 8 rfl) rfl (by decide) (fun c_2 => ?_) (fun c_2 => ?_)
      · rw [if_pos c_2] at h
        refine PW_iconst (pc' := 29) (v := (-1 : Int32)) (pw_dk dc_X8_indexOf 18 rfl) rfl (by decide) ?_
        have z := wp_some h
        exact PZ_iret (ty := .int) (pw_dk dc_X8_indexOf 19 rfl) rfl rfl z
      · rw [if_neg c_2] at h
        refine PW_aload_n (pc' := 14) (q := 0) (pw_dk dc_X8_indexOf 9 rfl) rfl rfl rfl ?_
        refine PW_iload_n (pc' := 15) (q := 3) (pw_dk dc_X8_indexOf 10 rfl) rfl rfl rfl ?_
        obtain ⟨v_3, hi_4, e_5, h⟩ := wp_rdIx h
        refine PZ_ialdx (pc' := 16) (v := v_3) (id := a0) (nn := n0) (pw_dk dc_X8_indexOf 11 rfl) rfl ha0 hi_4 e_5 ?_
        refine PW_iload_n (pc' := 17) (q := 2) (pw_dk dc_X8_indexOf 12 rfl) rfl rfl rfl ?_
        refine PW_icmp_ne (pc' := 20) (tgt := 22) (pw_dk dc_X8_indexOf 13 rfl) rfl (by decide) (fun c_6 => ?_) (fun c_6 => ?_)
        · rw [if_neg c_6] at h
          refine PW_iinc (pc' := 25) (q := 3) (v := x3 + 1) (lv' := [(3, .int (x3 + 1)), (0, .ref a0), (1, .int x1), (2, .int x2)]) (pw_dk dc_X8_indexOf 16 rfl) rfl rfl rfl (by decide) rfl ?_
          refine PW_goto (tgt := 2) (pw_dk dc_X8_indexOf 17 rfl) (by decide) ?_
          refine PW_sub (lv' := [(0, .ref a0), (1, .int x1), (2, .int x2), (3, .int (x3 + 1))]) [1, 2, 3, 0] rfl ?_
          exact ih x1 x2 (x3 + 1) σ h
        · rw [if_pos c_6] at h
          refine PW_iload_n (pc' := 21) (q := 3) (pw_dk dc_X8_indexOf 14 rfl) rfl rfl rfl ?_
          have z := wp_some h
          exact PZ_iret (ty := .int) (pw_dk dc_X8_indexOf 15 rfl) rfl rfl z
def f_X8_indexOf (a0 n0 : Nat) (x1 : Int32) (x2 : Int32) (σ : zS) : Option Int32 := 
  f_X8_indexOf_2 a0 n0 FU x1 x2 0 σ
theorem t_X8_indexOf (a0 n0 : Nat) (x1 : Int32) (x2 : Int32) (ha0 : (a0, 13, n0) ∈ alC) (σ : zS) (Q : Option Value → zS → Prop) (h : wpO (f_X8_indexOf a0 n0 x1 x2 σ) (fun a => Q (some (.int a)) σ)) : PK alC yX8_indexOf mX8_indexOf (0) [.ref a0, .int x1, .int x2] σ Q := by
  refine PC_ofF (by decide +kernel) rfl rfl (Nat.le_of_ble_eq_true rfl) ?_
  show PZ alC mX8_indexOf (0) Q 0 [(0, .ref a0), (1, .int x1), (2, .int x2)] [] σ
  unfold f_X8_indexOf at h
  refine PW_iconst (pc' := 1) (v := 0) (pw_dk dc_X8_indexOf 0 rfl) rfl (by decide) ?_
  refine PW_istore_n (pc' := 2) (lv' := [(3, .int 0), (0, .ref a0), (1, .int x1), (2, .int x2)]) (pw_dk dc_X8_indexOf 1 rfl) rfl rfl (by decide) rfl ?_
  refine PW_sub (lv' := [(0, .ref a0), (1, .int x1), (2, .int x2), (3, .int 0)]) [1, 2, 3, 0] rfl ?_
  exact b_X8_indexOf_2 a0 n0 ha0 FU x1 x2 0 σ h
def f_X8_landNamed (b : Bool) (x1 : Int32) (σ : zS) : Option Int32 := 
  (f_X8_indexOf (tv b + 3) 5 (σ.1 (tv b) 1) x1 σ).bind fun v_2 =>
  some v_2
theorem t_X8_landNamed (b : Bool) (x1 : Int32) (σ : zS) (Q : Option Value → zS → Prop) (h : wpO (f_X8_landNamed b x1 σ) (fun a => Q (some (.int a)) σ)) : PK alC yX8_landNamed mX8_landNamed (1) [.ref (tv b), .int x1] σ Q := by
  refine PC_ofF (by decide +kernel) rfl rfl (Nat.le_of_ble_eq_true rfl) ?_
  show PZ alC mX8_landNamed (1) Q 0 [(0, .ref (tv b)), (1, .int x1)] [] σ
  unfold f_X8_landNamed at h
  refine PW_aload_n (pc' := 1) (q := 0) (pw_dk dc_X8_landNamed 0 rfl) rfl rfl rfl ?_
  refine PW_getR (pc' := 4) (id := (tv b)) (ci := 8) (nn := 0) (C0 := RX8) (T := TX8) (N := 18) (j := 2) (r := tv b + 3) (pw_dk dc_X8_landNamed 1 rfl) rfl (me_T b) rfl pi_8 (by decide) fk_8_2 tw_206 (rf_T2 _ _) (su0 _ _) ?_
  refine PW_aload_n (pc' := 5) (q := 0) (pw_dk dc_X8_landNamed 2 rfl) rfl rfl rfl ?_
  refine PZ_getI (pc' := 8) (id := (tv b)) (ci := 8) (nn := 0) (C0 := RX8) (T := TX8) (N := 18) (j := 1) (pw_dk dc_X8_landNamed 3 rfl) rfl (me_T b) rfl pi_8 (by decide) fk_8_1 tw_203 ?_
  refine PW_iload_n (pc' := 9) (q := 1) (pw_dk dc_X8_landNamed 4 rfl) rfl rfl rfl ?_
  refine PZ_callSi (pc' := 12) (y := yX8_indexOf) (M' := mX8_indexOf) (d' := 0) (As := [.ref (tv b + 3), .int (σ.1 (tv b) 1), .int x1]) (st := []) tw_730 (pw_dk dc_X8_landNamed 5 rfl) rfl Y_X8_indexOf tw_729 rfl (by decide) (Nat.le_of_ble_eq_true rfl) (t_X8_indexOf (tv b + 3) 5 (σ.1 (tv b) 1) x1 (me_T2 _) σ _ ?_)
  obtain ⟨v_2, e_3, h⟩ := wp_bind h
  refine ⟨v_2, e_3, _, rfl, fun hn_1 => ?_⟩
  show PZ alC mX8_landNamed (1) Q 12 [(0, .ref (tv b)), (1, .int x1)] [.int v_2] σ
  have z := wp_some h
  exact PZ_iret (ty := .int) (pw_dk dc_X8_landNamed 6 rfl) rfl rfl z
def f_X4_readBar  (σ : zS) : Option (Int32 × zS) := 
  if (σ.1 (tv (σ.2.2 1)) 5) < 8 then
    (f_X7_advance σ).bind fun σ_3 =>
    b2 (f_X4_takeName σ_3) fun v_7 σ_6 =>
    if v_7 = (-1 : Int32) then
      some (0, σ_6)
    else
      (f_X8_landNamed (σ_6.2.2 1) v_7 σ_6).bind fun v_11 =>
      if v_11 = (-1 : Int32) then
        b2 (f_X7_refuse 4 σ_6) fun v_43 σ_42 =>
        some (v_43, σ_42)
      else
        (f_X7_advance σ_6).bind fun σ_15 =>
        b2 (f_X4_choiceAtHand 14 4 σ_15) fun v_19 σ_18 =>
        if v_19 = (-1 : Int32) then
          some (0, σ_18)
        else
          (rdI σ_18 (tv (σ_18.2.2 1) + 5) 5 v_11).bind fun v_22 =>
          if ((v_22 >>> (v_19 &&& 31)) &&& (1 : Int32)) = 0 then
            (f_X7_advance σ_18).bind fun σ_27 =>
            (rdI σ_27 (tv (σ_27.2.2 1) + 5) 5 v_11).bind fun v_29 =>
            (wrI σ_27 (tv (σ_27.2.2 1) + 5) 5 v_11 (v_29 ||| ((1 : Int32) <<< (v_19 &&& 31)))).bind fun σ_32 =>
            lt (wI σ_32 (tv (σ_32.2.2 1)) 5 ((σ_32.1 (tv (σ_32.2.2 1)) 5) + (1 : Int32))) fun σ_35 =>
            some (1, σ_35)
          else
            b2 (f_X7_refuse 3 σ_18) fun v_39 σ_38 =>
            some (v_39, σ_38)
  else
    b2 (f_X7_refuse 2 σ) fun v_47 σ_46 =>
    some (v_47, σ_46)
theorem t_X4_readBar (σ : zS) (Q : Option Value → zS → Prop) (h : wpO (f_X4_readBar σ) (fun a => Q (some (.int a.1)) a.2)) : PK alC yX4_readBar mX4_readBar (3) [.ref 200] σ Q := by
  refine PC_ofF (by decide +kernel) rfl rfl (Nat.le_of_ble_eq_true rfl) ?_
  show PZ alC mX4_readBar (3) Q 0 [(0, .ref 200)] [] σ
  unfold f_X4_readBar at h
  refine PW_aload_n (pc' := 1) (q := 0) (pw_dk dc_X4_readBar 0 rfl) rfl rfl rfl ?_
  refine PW_getR (pc' := 4) (id := 200) (ci := 4) (nn := 0) (C0 := RX4) (T := TX4) (N := 6) (j := 2) (r := tv (σ.2.2 1)) (pw_dk dc_X4_readBar 1 rfl) rfl me_200 rfl pi_4 (by decide) fk_4_2 tw_411 (rf_M1 _) (tv0 _) ?_
  refine PZ_getI (pc' := 7) (id := (tv (σ.2.2 1))) (ci := 8) (nn := 0) (C0 := RX8) (T := TX8) (N := 18) (j := 5) (pw_dk dc_X4_readBar 2 rfl) rfl (me_T _) rfl pi_8 (by decide) fk_8_5 tw_213 ?_
  refine PW_bipush (pc' := 9) (v := 8) (pw_dk dc_X4_readBar 3 rfl) rfl (by decide) ?_
  refine PW_icmp_lt (pc' := 12) (tgt := 21) (pw_dk dc_X4_readBar 4 rfl) rfl (by decide) (fun c_1 => ?_) (fun c_1 => ?_)
  · rw [if_pos c_1] at h
    refine PW_aload_n (pc' := 22) (q := 0) (pw_dk dc_X4_readBar 10 rfl) rfl rfl rfl ?_
    refine PW_getR (pc' := 25) (id := 200) (ci := 4) (nn := 0) (C0 := RX4) (T := TX4) (N := 6) (j := 0) (r := 500) (pw_dk dc_X4_readBar 11 rfl) rfl me_200 rfl pi_4 (by decide) fk_4_0 tw_408 (rfl) (by decide) ?_
    refine PZ_callVv (pc' := 28) (y := yX7_advance) (M' := mX7_advance) (d' := 2) (As := []) (st := []) (b := 500) (ci := 7) (nn := 0) me_500 rfl tw_674 tw_675 (pw_dk dc_X4_readBar 12 rfl) rfl Y_X7_advance tw_712 rfl (by decide) (Nat.le_of_ble_eq_true rfl) (t_X7_advance σ _ ?_)
    obtain ⟨σ_3, e_4, h⟩ := wp_bind h
    refine ⟨σ_3, e_4, rfl, fun hn_2 => ?_⟩
    show PZ alC mX4_readBar (3) Q 28 [(0, .ref 200)] [] σ_3
    refine PW_aload_n (pc' := 29) (q := 0) (pw_dk dc_X4_readBar 13 rfl) rfl rfl rfl ?_
    refine PZ_callVi (pc' := 32) (y := yX4_takeName) (M' := mX4_takeName) (d' := 1) (As := []) (st := []) (b := 200) (ci := 4) (nn := 0) me_200 rfl tw_723 tw_9 (pw_dk dc_X4_readBar 14 rfl) rfl Y_X4_takeName tw_721 rfl (by decide) (Nat.le_of_ble_eq_true rfl) (t_X4_takeName σ_3 _ ?_)
    obtain ⟨⟨v_7, σ_6⟩, e_8, h⟩ := wp_bind2 h
    refine ⟨(v_7, σ_6), e_8, _, rfl, fun hn_5 => ?_⟩
    show PZ alC mX4_readBar (3) Q 32 [(0, .ref 200)] [.int v_7] σ_6
    refine PW_istore_n (pc' := 33) (lv' := [(1, .int v_7), (0, .ref 200)]) (pw_dk dc_X4_readBar 15 rfl) rfl rfl (by decide) rfl ?_
    refine PW_iload_n (pc' := 34) (q := 0) (pw_dk dc_X4_readBar 16 rfl) rfl rfl rfl ?_
    refine PW_iconst (pc' := 35) (v := (-1 : Int32)) (pw_dk dc_X4_readBar 17 rfl) rfl (by decide) ?_
    refine PW_icmp_ne (pc' := 38) (tgt := 40) (pw_dk dc_X4_readBar 18 rfl) rfl (by decide) (fun c_9 => ?_) (fun c_9 => ?_)
    · rw [if_neg c_9] at h
      refine PW_aload_n (pc' := 41) (q := 1) (pw_dk dc_X4_readBar 21 rfl) rfl rfl rfl ?_
      refine PW_getR (pc' := 44) (id := 200) (ci := 4) (nn := 0) (C0 := RX4) (T := TX4) (N := 6) (j := 2) (r := tv (σ_6.2.2 1)) (pw_dk dc_X4_readBar 22 rfl) rfl me_200 rfl pi_4 (by decide) fk_4_2 tw_411 (rf_M1 _) (tv0 _) ?_
      refine PW_iload_n (pc' := 45) (q := 0) (pw_dk dc_X4_readBar 23 rfl) rfl rfl rfl ?_
      refine PZ_callVi (pc' := 48) (y := yX8_landNamed) (M' := mX8_landNamed) (d' := 1) (As := [.int v_7]) (st := []) (b := (tv (σ_6.2.2 1))) (ci := 8) (nn := 0) (me_T _) rfl tw_726 tw_727 (pw_dk dc_X4_readBar 24 rfl) rfl Y_X8_landNamed tw_725 rfl (by decide) (Nat.le_of_ble_eq_true rfl) (t_X8_landNamed (σ_6.2.2 1) v_7 σ_6 _ ?_)
      obtain ⟨v_11, e_12, h⟩ := wp_bind h
      refine ⟨v_11, e_12, _, rfl, fun hn_10 => ?_⟩
      show PZ alC mX4_readBar (3) Q 48 [(1, .int v_7), (0, .ref 200)] [.int v_11] σ_6
      refine PW_istore_n (pc' := 49) (lv' := [(2, .int v_11), (1, .int v_7), (0, .ref 200)]) (pw_dk dc_X4_readBar 25 rfl) rfl rfl (by decide) rfl ?_
      refine PW_iload_n (pc' := 50) (q := 0) (pw_dk dc_X4_readBar 26 rfl) rfl rfl rfl ?_
      refine PW_iconst (pc' := 51) (v := (-1 : Int32)) (pw_dk dc_X4_readBar 27 rfl) rfl (by decide) ?_
      refine PW_icmp_ne (pc' := 54) (tgt := 63) (pw_dk dc_X4_readBar 28 rfl) rfl (by decide) (fun c_13 => ?_) (fun c_13 => ?_)
      · rw [if_neg c_13] at h
        refine PW_aload_n (pc' := 64) (q := 2) (pw_dk dc_X4_readBar 34 rfl) rfl rfl rfl ?_
        refine PW_getR (pc' := 67) (id := 200) (ci := 4) (nn := 0) (C0 := RX4) (T := TX4) (N := 6) (j := 0) (r := 500) (pw_dk dc_X4_readBar 35 rfl) rfl me_200 rfl pi_4 (by decide) fk_4_0 tw_408 (rfl) (by decide) ?_
        refine PZ_callVv (pc' := 70) (y := yX7_advance) (M' := mX7_advance) (d' := 2) (As := []) (st := []) (b := 500) (ci := 7) (nn := 0) me_500 rfl tw_674 tw_675 (pw_dk dc_X4_readBar 36 rfl) rfl Y_X7_advance tw_712 rfl (by decide) (Nat.le_of_ble_eq_true rfl) (t_X7_advance σ_6 _ ?_)
        obtain ⟨σ_15, e_16, h⟩ := wp_bind h
        refine ⟨σ_15, e_16, rfl, fun hn_14 => ?_⟩
        show PZ alC mX4_readBar (3) Q 70 [(2, .int v_11), (1, .int v_7), (0, .ref 200)] [] σ_15
        refine PW_aload_n (pc' := 71) (q := 2) (pw_dk dc_X4_readBar 37 rfl) rfl rfl rfl ?_
        refine PW_bipush (pc' := 73) (v := 14) (pw_dk dc_X4_readBar 38 rfl) rfl (by decide) ?_
        refine PW_iconst (pc' := 74) (v := 4) (pw_dk dc_X4_readBar 39 rfl) rfl (by decide) ?_
        refine PZ_callVi (pc' := 77) (y := yX4_choiceAtHand) (M' := mX4_choiceAtHand) (d' := 1) (As := [.int 14, .int 4]) (st := []) (b := 200) (ci := 4) (nn := 0) me_200 rfl tw_753 tw_12 (pw_dk dc_X4_readBar 40 rfl) rfl Y_X4_choiceAtHand tw_751 rfl (by decide) (Nat.le_of_ble_eq_true rfl) (t_X4_choiceAtHand 14 4 σ_15 _ ?_)
        obtain ⟨⟨v_19, σ_18⟩, e_20, h⟩ := wp_bind2 h
        refine ⟨(v_19, σ_18), e_20, _, rfl, fun hn_17 => ?_⟩
        show PZ alC mX4_readBar (3) Q 77 [(2, .int v_11), (1, .int v_7), (0, .ref 200)] [.int v_19] σ_18
        refine PW_istore_n (pc' := 78) (lv' := [(3, .int v_19), (2, .int v_11), (1, .int v_7), (0, .ref 200)]) (pw_dk dc_X4_readBar 41 rfl) rfl rfl (by decide) rfl ?_
        refine PW_iload_n (pc' := 79) (q := 0) (pw_dk dc_X4_readBar 42 rfl) rfl rfl rfl ?_
        refine PW_iconst (pc' := 80) (v := (-1 : Int32)) (pw_dk dc_X4_readBar 43 rfl) rfl (by decide) ?_
        refine PW_icmp_ne (pc' := 83) (tgt := 85) (pw_dk dc_X4_readBar 44 rfl) rfl (by decide) (fun c_21 => ?_) (fun c_21 => ?_)
        · rw [if_neg c_21] at h
          refine PW_aload_n (pc' := 86) (q := 3) (pw_dk dc_X4_readBar 47 rfl) rfl rfl rfl ?_
          refine PW_getR (pc' := 89) (id := 200) (ci := 4) (nn := 0) (C0 := RX4) (T := TX4) (N := 6) (j := 2) (r := tv (σ_18.2.2 1)) (pw_dk dc_X4_readBar 48 rfl) rfl me_200 rfl pi_4 (by decide) fk_4_2 tw_411 (rf_M1 _) (tv0 _) ?_
          refine PW_getR (pc' := 92) (id := (tv (σ_18.2.2 1))) (ci := 8) (nn := 0) (C0 := RX8) (T := TX8) (N := 18) (j := 4) (r := tv (σ_18.2.2 1) + 5) (pw_dk dc_X4_readBar 49 rfl) rfl (me_T _) rfl pi_8 (by decide) fk_8_4 tw_210 (rf_T4 _ _) (su0 _ _) ?_
          refine PW_iload_n (pc' := 93) (q := 1) (pw_dk dc_X4_readBar 50 rfl) rfl rfl rfl ?_
          obtain ⟨v_22, hi_23, e_24, h⟩ := wp_rdIx h
          refine PZ_ialdx (pc' := 94) (v := v_22) (id := (tv (σ_18.2.2 1) + 5)) (nn := 5) (pw_dk dc_X4_readBar 51 rfl) rfl (me_T4 _) hi_23 e_24 ?_
          refine PW_iload_n (pc' := 95) (q := 0) (pw_dk dc_X4_readBar 52 rfl) rfl rfl rfl ?_
          refine PW_ishr (pc' := 96) (pw_dk dc_X4_readBar 53 rfl) rfl ?_
          refine PW_iconst (pc' := 97) (v := 1) (pw_dk dc_X4_readBar 54 rfl) rfl (by decide) ?_
          refine PW_iand (pc' := 98) (pw_dk dc_X4_readBar 55 rfl) rfl ?_
          refine PW_if_eq (pc' := 101) (tgt := 110) (pw_dk dc_X4_readBar 56 rfl) rfl (by decide) (fun c_25 => ?_) (fun c_25 => ?_)
          · rw [if_pos c_25] at h
            refine PW_aload_n (pc' := 111) (q := 3) (pw_dk dc_X4_readBar 62 rfl) rfl rfl rfl ?_
            refine PW_getR (pc' := 114) (id := 200) (ci := 4) (nn := 0) (C0 := RX4) (T := TX4) (N := 6) (j := 0) (r := 500) (pw_dk dc_X4_readBar 63 rfl) rfl me_200 rfl pi_4 (by decide) fk_4_0 tw_408 (rfl) (by decide) ?_
            refine PZ_callVv (pc' := 117) (y := yX7_advance) (M' := mX7_advance) (d' := 2) (As := []) (st := []) (b := 500) (ci := 7) (nn := 0) me_500 rfl tw_674 tw_675 (pw_dk dc_X4_readBar 64 rfl) rfl Y_X7_advance tw_712 rfl (by decide) (Nat.le_of_ble_eq_true rfl) (t_X7_advance σ_18 _ ?_)
            obtain ⟨σ_27, e_28, h⟩ := wp_bind h
            refine ⟨σ_27, e_28, rfl, fun hn_26 => ?_⟩
            show PZ alC mX4_readBar (3) Q 117 [(3, .int v_19), (2, .int v_11), (1, .int v_7), (0, .ref 200)] [] σ_27
            refine PW_aload_n (pc' := 118) (q := 3) (pw_dk dc_X4_readBar 65 rfl) rfl rfl rfl ?_
            refine PW_getR (pc' := 121) (id := 200) (ci := 4) (nn := 0) (C0 := RX4) (T := TX4) (N := 6) (j := 2) (r := tv (σ_27.2.2 1)) (pw_dk dc_X4_readBar 66 rfl) rfl me_200 rfl pi_4 (by decide) fk_4_2 tw_411 (rf_M1 _) (tv0 _) ?_
            refine PW_getR (pc' := 124) (id := (tv (σ_27.2.2 1))) (ci := 8) (nn := 0) (C0 := RX8) (T := TX8) (N := 18) (j := 4) (r := tv (σ_27.2.2 1) + 5) (pw_dk dc_X4_readBar 67 rfl) rfl (me_T _) rfl pi_8 (by decide) fk_8_4 tw_210 (rf_T4 _ _) (su0 _ _) ?_
            refine PW_iload_n (pc' := 125) (q := 1) (pw_dk dc_X4_readBar 68 rfl) rfl rfl rfl ?_
            refine PW_dup2 (pc' := 126) (pw_dk dc_X4_readBar 69 rfl) rfl rfl rfl ?_
            obtain ⟨v_29, hi_30, e_31, h⟩ := wp_rdIx h
            refine PZ_ialdx (pc' := 127) (v := v_29) (id := (tv (σ_27.2.2 1) + 5)) (nn := 5) (pw_dk dc_X4_readBar 70 rfl) rfl (me_T4 _) hi_30 e_31 ?_
            refine PW_iconst (pc' := 128) (v := 1) (pw_dk dc_X4_readBar 71 rfl) rfl (by decide) ?_
            refine PW_iload_n (pc' := 129) (q := 0) (pw_dk dc_X4_readBar 72 rfl) rfl rfl rfl ?_
            refine PW_ishl (pc' := 130) (pw_dk dc_X4_readBar 73 rfl) rfl ?_
            refine PW_ior (pc' := 131) (pw_dk dc_X4_readBar 74 rfl) rfl ?_
            obtain ⟨σ_32, hi_33, e_34, h⟩ := wp_wrIx h
            refine PZ_iastx (pc' := 132) (σ' := σ_32) (id := (tv (σ_27.2.2 1) + 5)) (nn := 5) (pw_dk dc_X4_readBar 75 rfl) rfl (me_T4 _) hi_33 e_34 ?_
            refine PW_aload_n (pc' := 133) (q := 3) (pw_dk dc_X4_readBar 76 rfl) rfl rfl rfl ?_
            refine PW_getR (pc' := 136) (id := 200) (ci := 4) (nn := 0) (C0 := RX4) (T := TX4) (N := 6) (j := 2) (r := tv (σ_32.2.2 1)) (pw_dk dc_X4_readBar 77 rfl) rfl me_200 rfl pi_4 (by decide) fk_4_2 tw_411 (rf_M1 _) (tv0 _) ?_
            refine PW_dup (pc' := 137) (pw_dk dc_X4_readBar 78 rfl) rfl rfl ?_
            refine PZ_getI (pc' := 140) (id := (tv (σ_32.2.2 1))) (ci := 8) (nn := 0) (C0 := RX8) (T := TX8) (N := 18) (j := 5) (pw_dk dc_X4_readBar 79 rfl) rfl (me_T _) rfl pi_8 (by decide) fk_8_5 tw_213 ?_
            refine PW_iconst (pc' := 141) (v := 1) (pw_dk dc_X4_readBar 80 rfl) rfl (by decide) ?_
            refine PW_iadd (pc' := 142) (pw_dk dc_X4_readBar 81 rfl) rfl ?_
            obtain ⟨σ_35, e_36, h⟩ := lt_x h
            refine PZ_putX (pc' := 145) (σ' := σ_35) (id := (tv (σ_32.2.2 1))) (ci := 8) (nn := 0) (C0 := RX8) (T := TX8) (N := 18) (j := 5) (ty := tyX8 5) (pw_dk dc_X4_readBar 82 rfl) rfl (me_T _) rfl pi_8 tyX8_ok nmX8 (by decide) fk_8_5 tw_213 rfl (tyX8_ok 5 (by decide)) (by first | rfl | decide) (by first | rfl | decide) e_36 ?_
            refine PW_iconst (pc' := 146) (v := 1) (pw_dk dc_X4_readBar 83 rfl) rfl (by decide) ?_
            have z := wp_some h
            exact PZ_iret (ty := .boolean) (pw_dk dc_X4_readBar 84 rfl) rfl (by decide) z
          · rw [if_neg c_25] at h
            refine PW_aload_n (pc' := 102) (q := 3) (pw_dk dc_X4_readBar 57 rfl) rfl rfl rfl ?_
            refine PW_getR (pc' := 105) (id := 200) (ci := 4) (nn := 0) (C0 := RX4) (T := TX4) (N := 6) (j := 0) (r := 500) (pw_dk dc_X4_readBar 58 rfl) rfl me_200 rfl pi_4 (by decide) fk_4_0 tw_408 (rfl) (by decide) ?_
            refine PW_iconst (pc' := 106) (v := 3) (pw_dk dc_X4_readBar 59 rfl) rfl (by decide) ?_
            refine PZ_callVi (pc' := 109) (y := yX7_refuse) (M' := mX7_refuse) (d' := 0) (As := [.int 3]) (st := []) (b := 500) (ci := 7) (nn := 0) me_500 rfl tw_709 tw_710 (pw_dk dc_X4_readBar 60 rfl) rfl Y_X7_refuse tw_708 rfl (by decide) (Nat.le_of_ble_eq_true rfl) (t_X7_refuse 3 σ_18 _ ?_)
            obtain ⟨⟨v_39, σ_38⟩, e_40, h⟩ := wp_bind2 h
            refine ⟨(v_39, σ_38), e_40, _, rfl, fun hn_37 => ?_⟩
            show PZ alC mX4_readBar (3) Q 109 [(3, .int v_19), (2, .int v_11), (1, .int v_7), (0, .ref 200)] [.int v_39] σ_38
            have z := wp_some h
            exact PZ_iret (ty := .boolean) (pw_dk dc_X4_readBar 61 rfl) rfl (hn_37 _ _ rfl rfl) z
        · rw [if_pos c_21] at h
          refine PW_iconst (pc' := 84) (v := 0) (pw_dk dc_X4_readBar 45 rfl) rfl (by decide) ?_
          have z := wp_some h
          exact PZ_iret (ty := .boolean) (pw_dk dc_X4_readBar 46 rfl) rfl (by decide) z
      · rw [if_pos c_13] at h
        refine PW_aload_n (pc' := 55) (q := 2) (pw_dk dc_X4_readBar 29 rfl) rfl rfl rfl ?_
        refine PW_getR (pc' := 58) (id := 200) (ci := 4) (nn := 0) (C0 := RX4) (T := TX4) (N := 6) (j := 0) (r := 500) (pw_dk dc_X4_readBar 30 rfl) rfl me_200 rfl pi_4 (by decide) fk_4_0 tw_408 (rfl) (by decide) ?_
        refine PW_iconst (pc' := 59) (v := 4) (pw_dk dc_X4_readBar 31 rfl) rfl (by decide) ?_
        refine PZ_callVi (pc' := 62) (y := yX7_refuse) (M' := mX7_refuse) (d' := 0) (As := [.int 4]) (st := []) (b := 500) (ci := 7) (nn := 0) me_500 rfl tw_709 tw_710 (pw_dk dc_X4_readBar 32 rfl) rfl Y_X7_refuse tw_708 rfl (by decide) (Nat.le_of_ble_eq_true rfl) (t_X7_refuse 4 σ_6 _ ?_)
        obtain ⟨⟨v_43, σ_42⟩, e_44, h⟩ := wp_bind2 h
        refine ⟨(v_43, σ_42), e_44, _, rfl, fun hn_41 => ?_⟩
        show PZ alC mX4_readBar (3) Q 62 [(2, .int v_11), (1, .int v_7), (0, .ref 200)] [.int v_43] σ_42
        have z := wp_some h
        exact PZ_iret (ty := .boolean) (pw_dk dc_X4_readBar 33 rfl) rfl (hn_41 _ _ rfl rfl) z
    · rw [if_pos c_9] at h
      refine PW_iconst (pc' := 39) (v := 0) (pw_dk dc_X4_readBar 19 rfl) rfl (by decide) ?_
      have z := wp_some h
      exact PZ_iret (ty := .boolean) (pw_dk dc_X4_readBar 20 rfl) rfl (by decide) z
  · rw [if_neg c_1] at h
    refine PW_aload_n (pc' := 13) (q := 0) (pw_dk dc_X4_readBar 5 rfl) rfl rfl rfl ?_
    refine PW_getR (pc' := 16) (id := 200) (ci := 4) (nn := 0) (C0 := RX4) (T := TX4) (N := 6) (j := 0) (r := 500) (pw_dk dc_X4_readBar 6 rfl) rfl me_200 rfl pi_4 (by decide) fk_4_0 tw_408 (rfl) (by decide) ?_
    refine PW_iconst (pc' := 17) (v := 2) (pw_dk dc_X4_readBar 7 rfl) rfl (by decide) ?_
    refine PZ_callVi (pc' := 20) (y := yX7_refuse) (M' := mX7_refuse) (d' := 0) (As := [.int 2]) (st := []) (b := 500) (ci := 7) (nn := 0) me_500 rfl tw_709 tw_710 (pw_dk dc_X4_readBar 8 rfl) rfl Y_X7_refuse tw_708 rfl (by decide) (Nat.le_of_ble_eq_true rfl) (t_X7_refuse 2 σ _ ?_)
    obtain ⟨⟨v_47, σ_46⟩, e_48, h⟩ := wp_bind2 h
    refine ⟨(v_47, σ_46), e_48, _, rfl, fun hn_45 => ?_⟩
    show PZ alC mX4_readBar (3) Q 20 [(0, .ref 200)] [.int v_47] σ_46
    have z := wp_some h
    exact PZ_iret (ty := .boolean) (pw_dk dc_X4_readBar 9 rfl) rfl (hn_45 _ _ rfl rfl) z
def f_X4_takeChoice (x1 : Int32) (x2 : Int32) (σ : zS) : Option (Int32 × zS) := 
  b2 (f_X4_choiceAtHand x1 x2 σ) fun v_3 σ_2 =>
  if v_3 = (-1 : Int32) then
    some (v_3, σ_2)
  else
    (f_X7_advance σ_2).bind fun σ_7 =>
    some (v_3, σ_7)
theorem t_X4_takeChoice (x1 : Int32) (x2 : Int32) (σ : zS) (Q : Option Value → zS → Prop) (h : wpO (f_X4_takeChoice x1 x2 σ) (fun a => Q (some (.int a.1)) a.2)) : PK alC yX4_takeChoice mX4_takeChoice (3) [.ref 200, .int x1, .int x2] σ Q := by
  refine PC_ofF (by decide +kernel) rfl rfl (Nat.le_of_ble_eq_true rfl) ?_
  show PZ alC mX4_takeChoice (3) Q 0 [(0, .ref 200), (1, .int x1), (2, .int x2)] [] σ
  unfold f_X4_takeChoice at h
  refine PW_aload_n (pc' := 1) (q := 0) (pw_dk dc_X4_takeChoice 0 rfl) rfl rfl rfl ?_
  refine PW_iload_n (pc' := 2) (q := 1) (pw_dk dc_X4_takeChoice 1 rfl) rfl rfl rfl ?_
  refine PW_iload_n (pc' := 3) (q := 2) (pw_dk dc_X4_takeChoice 2 rfl) rfl rfl rfl ?_
  refine PZ_callVi (pc' := 6) (y := yX4_choiceAtHand) (M' := mX4_choiceAtHand) (d' := 1) (As := [.int x1, .int x2]) (st := []) (b := 200) (ci := 4) (nn := 0) me_200 rfl tw_753 tw_12 (pw_dk dc_X4_takeChoice 3 rfl) rfl Y_X4_choiceAtHand tw_751 rfl (by decide) (Nat.le_of_ble_eq_true rfl) (t_X4_choiceAtHand x1 x2 σ _ ?_)
  obtain ⟨⟨v_3, σ_2⟩, e_4, h⟩ := wp_bind2 h
  refine ⟨(v_3, σ_2), e_4, _, rfl, fun hn_1 => ?_⟩
  show PZ alC mX4_takeChoice (3) Q 6 [(0, .ref 200), (1, .int x1), (2, .int x2)] [.int v_3] σ_2
  refine PW_istore_n (pc' := 7) (lv' := [(3, .int v_3), (0, .ref 200), (1, .int x1), (2, .int x2)]) (pw_dk dc_X4_takeChoice 4 rfl) rfl rfl (by decide) rfl ?_
  refine PW_iload_n (pc' := 8) (q := 0) (pw_dk dc_X4_takeChoice 5 rfl) rfl rfl rfl ?_
  refine PW_iconst (pc' := 9) (v := (-1 : Int32)) (pw_dk dc_X4_takeChoice 6 rfl) rfl (by decide) ?_
  refine PW_icmp_eq (pc' := 12) (tgt := 19) (pw_dk dc_X4_takeChoice 7 rfl) rfl (by decide) (fun c_5 => ?_) (fun c_5 => ?_)
  · rw [if_pos c_5] at h
    refine PW_iload_n (pc' := 20) (q := 0) (pw_dk dc_X4_takeChoice 11 rfl) rfl rfl rfl ?_
    have z := wp_some h
    exact PZ_iret (ty := .int) (pw_dk dc_X4_takeChoice 12 rfl) rfl rfl z
  · rw [if_neg c_5] at h
    refine PW_aload_n (pc' := 13) (q := 1) (pw_dk dc_X4_takeChoice 8 rfl) rfl rfl rfl ?_
    refine PW_getR (pc' := 16) (id := 200) (ci := 4) (nn := 0) (C0 := RX4) (T := TX4) (N := 6) (j := 0) (r := 500) (pw_dk dc_X4_takeChoice 9 rfl) rfl me_200 rfl pi_4 (by decide) fk_4_0 tw_408 (rfl) (by decide) ?_
    refine PZ_callVv (pc' := 19) (y := yX7_advance) (M' := mX7_advance) (d' := 2) (As := []) (st := []) (b := 500) (ci := 7) (nn := 0) me_500 rfl tw_674 tw_675 (pw_dk dc_X4_takeChoice 10 rfl) rfl Y_X7_advance tw_712 rfl (by decide) (Nat.le_of_ble_eq_true rfl) (t_X7_advance σ_2 _ ?_)
    obtain ⟨σ_7, e_8, h⟩ := wp_bind h
    refine ⟨σ_7, e_8, rfl, fun hn_6 => ?_⟩
    show PZ alC mX4_takeChoice (3) Q 19 [(3, .int v_3), (0, .ref 200), (1, .int x1), (2, .int x2)] [] σ_7
    refine PW_iload_n (pc' := 20) (q := 0) (pw_dk dc_X4_takeChoice 11 rfl) rfl rfl rfl ?_
    have z := wp_some h
    exact PZ_iret (ty := .int) (pw_dk dc_X4_takeChoice 12 rfl) rfl rfl z
def f_X4_takeNumber_40   (σ : zS) : Option (Int32 × zS) := 
  b2 (f_X7_refuse 2 σ) fun v_3 σ_2 =>
  some ((-1 : Int32), σ_2)
theorem b_X4_takeNumber_40 {Q : Option Value → zS → Prop}  (σ : zS) (h : wpO (f_X4_takeNumber_40 σ) (fun a => Q (some (.int a.1)) a.2)) : PZ alC mX4_takeNumber (3) Q 40 [(0, .ref 200)] [] σ := by
  unfold f_X4_takeNumber_40 at h
  refine PW_aload_n (pc' := 41) (q := 0) (pw_dk dc_X4_takeNumber 22 rfl) rfl rfl rfl ?_
  refine PW_getR (pc' := 44) (id := 200) (ci := 4) (nn := 0) (C0 := RX4) (T := TX4) (N := 6) (j := 0) (r := 500) (pw_dk dc_X4_takeNumber 23 rfl) rfl me_200 rfl pi_4 (by decide) fk_4_0 tw_408 (rfl) (by decide) ?_
  refine PW_iconst (pc' := 45) (v := 2) (pw_dk dc_X4_takeNumber 24 rfl) rfl (by decide) ?_
  refine PZ_callVi (pc' := 48) (y := yX7_refuse) (M' := mX7_refuse) (d' := 0) (As := [.int 2]) (st := []) (b := 500) (ci := 7) (nn := 0) me_500 rfl tw_709 tw_710 (pw_dk dc_X4_takeNumber 25 rfl) rfl Y_X7_refuse tw_708 rfl (by decide) (Nat.le_of_ble_eq_true rfl) (t_X7_refuse 2 σ _ ?_)
  obtain ⟨⟨v_3, σ_2⟩, e_4, h⟩ := wp_bind2 h
  refine ⟨(v_3, σ_2), e_4, _, rfl, fun hn_1 => ?_⟩
  show PZ alC mX4_takeNumber (3) Q 48 [(0, .ref 200)] [.int v_3] σ_2
  refine PW_pop (pc' := 49) (pw_dk dc_X4_takeNumber 26 rfl) rfl rfl ?_
  refine PW_iconst (pc' := 50) (v := (-1 : Int32)) (pw_dk dc_X4_takeNumber 27 rfl) rfl (by decide) ?_
  have z := wp_some h
  exact PZ_iret (ty := .int) (pw_dk dc_X4_takeNumber 28 rfl) rfl rfl z
def f_X4_takeNumber (x1 : Int32) (x2 : Int32) (σ : zS) : Option (Int32 × zS) := 
  if (σ.1 500 4) = 2 then
    lt (α := Int32) (σ.1 500 6) fun x3_2 =>
    if x3_2 < x1 then
      f_X4_takeNumber_40 σ
    else
      if x3_2 ≤ x2 then
        (f_X7_advance σ).bind fun σ_6 =>
        some (x3_2, σ_6)
      else
        f_X4_takeNumber_40 σ
  else
    b2 (f_X7_refuse 1 σ) fun v_10 σ_9 =>
    some ((-1 : Int32), σ_9)
theorem t_X4_takeNumber (x1 : Int32) (x2 : Int32) (σ : zS) (Q : Option Value → zS → Prop) (h : wpO (f_X4_takeNumber x1 x2 σ) (fun a => Q (some (.int a.1)) a.2)) : PK alC yX4_takeNumber mX4_takeNumber (3) [.ref 200, .int x1, .int x2] σ Q := by
  refine PC_ofF (by decide +kernel) rfl rfl (Nat.le_of_ble_eq_true rfl) ?_
  show PZ alC mX4_takeNumber (3) Q 0 [(0, .ref 200), (1, .int x1), (2, .int x2)] [] σ
  unfold f_X4_takeNumber at h
  refine PW_aload_n (pc' := 1) (q := 0) (pw_dk dc_X4_takeNumber 0 rfl) rfl rfl rfl ?_
  refine PW_getR (pc' := 4) (id := 200) (ci := 4) (nn := 0) (C0 := RX4) (T := TX4) (N := 6) (j := 0) (r := 500) (pw_dk dc_X4_takeNumber 1 rfl) rfl me_200 rfl pi_4 (by decide) fk_4_0 tw_408 (rfl) (by decide) ?_
  refine PZ_getI (pc' := 7) (id := 500) (ci := 7) (nn := 0) (C0 := RX7) (T := TX7) (N := 10) (j := 4) (pw_dk dc_X4_takeNumber 2 rfl) rfl me_500 rfl pi_7 (by decide) fk_7_4 tw_360 ?_
  refine PW_iconst (pc' := 8) (v := 2) (pw_dk dc_X4_takeNumber 3 rfl) rfl (by decide) ?_
  refine PW_icmp_eq (pc' := 11) (tgt := 22) (pw_dk dc_X4_takeNumber 4 rfl) rfl (by decide) (fun c_1 => ?_) (fun c_1 => ?_)
  · rw [if_pos c_1] at h
    refine PW_aload_n (pc' := 23) (q := 0) (pw_dk dc_X4_takeNumber 12 rfl) rfl rfl rfl ?_
    refine PW_getR (pc' := 26) (id := 200) (ci := 4) (nn := 0) (C0 := RX4) (T := TX4) (N := 6) (j := 0) (r := 500) (pw_dk dc_X4_takeNumber 13 rfl) rfl me_200 rfl pi_4 (by decide) fk_4_0 tw_408 (rfl) (by decide) ?_
    refine PZ_getI (pc' := 29) (id := 500) (ci := 7) (nn := 0) (C0 := RX7) (T := TX7) (N := 10) (j := 6) (pw_dk dc_X4_takeNumber 14 rfl) rfl me_500 rfl pi_7 (by decide) fk_7_6 tw_364 ?_
    refine PW_topi (fun x3_2 ex3_2 => ?_)
    replace h := lt_w h ex3_2
    refine PW_istore_n (pc' := 30) (lv' := [(3, .int x3_2), (0, .ref 200), (1, .int x1), (2, .int x2)]) (pw_dk dc_X4_takeNumber 15 rfl) rfl rfl (by decide) rfl ?_
    refine PW_iload_n (pc' := 31) (q := 0) (pw_dk dc_X4_takeNumber 16 rfl) rfl rfl rfl ?_
    refine PW_iload_n (pc' := 32) (q := 2) (pw_dk dc_X4_takeNumber 17 rfl) rfl rfl rfl ?_
    refine PW_icmp_lt (pc' := 35) (tgt := 40) (pw_dk dc_X4_takeNumber 18 rfl) rfl (by decide) (fun c_3 => ?_) (fun c_3 => ?_)
    · rw [if_pos c_3] at h
      refine PW_sub (lv' := [(0, .ref 200)]) [1] rfl ?_
      exact b_X4_takeNumber_40 σ h
    · rw [if_neg c_3] at h
      refine PW_iload_n (pc' := 36) (q := 0) (pw_dk dc_X4_takeNumber 19 rfl) rfl rfl rfl ?_
      refine PW_iload_n (pc' := 37) (q := 3) (pw_dk dc_X4_takeNumber 20 rfl) rfl rfl rfl ?_
      refine PW_icmp_le (pc' := 40) (tgt := 51) (pw_dk dc_X4_takeNumber 21 rfl) rfl (by decide) (fun c_4 => ?_) (fun c_4 => ?_)
      · rw [if_pos c_4] at h
        refine PW_aload_n (pc' := 52) (q := 1) (pw_dk dc_X4_takeNumber 29 rfl) rfl rfl rfl ?_
        refine PW_getR (pc' := 55) (id := 200) (ci := 4) (nn := 0) (C0 := RX4) (T := TX4) (N := 6) (j := 0) (r := 500) (pw_dk dc_X4_takeNumber 30 rfl) rfl me_200 rfl pi_4 (by decide) fk_4_0 tw_408 (rfl) (by decide) ?_
        refine PZ_callVv (pc' := 58) (y := yX7_advance) (M' := mX7_advance) (d' := 2) (As := []) (st := []) (b := 500) (ci := 7) (nn := 0) me_500 rfl tw_674 tw_675 (pw_dk dc_X4_takeNumber 31 rfl) rfl Y_X7_advance tw_712 rfl (by decide) (Nat.le_of_ble_eq_true rfl) (t_X7_advance σ _ ?_)
        obtain ⟨σ_6, e_7, h⟩ := wp_bind h
        refine ⟨σ_6, e_7, rfl, fun hn_5 => ?_⟩
        show PZ alC mX4_takeNumber (3) Q 58 [(3, .int x3_2), (0, .ref 200), (1, .int x1), (2, .int x2)] [] σ_6
        refine PW_iload_n (pc' := 59) (q := 0) (pw_dk dc_X4_takeNumber 32 rfl) rfl rfl rfl ?_
        have z := wp_some h
        exact PZ_iret (ty := .int) (pw_dk dc_X4_takeNumber 33 rfl) rfl rfl z
      · rw [if_neg c_4] at h
        refine PW_sub (lv' := [(0, .ref 200)]) [1] rfl ?_
        exact b_X4_takeNumber_40 σ h
  · rw [if_neg c_1] at h
    refine PW_aload_n (pc' := 12) (q := 0) (pw_dk dc_X4_takeNumber 5 rfl) rfl rfl rfl ?_
    refine PW_getR (pc' := 15) (id := 200) (ci := 4) (nn := 0) (C0 := RX4) (T := TX4) (N := 6) (j := 0) (r := 500) (pw_dk dc_X4_takeNumber 6 rfl) rfl me_200 rfl pi_4 (by decide) fk_4_0 tw_408 (rfl) (by decide) ?_
    refine PW_iconst (pc' := 16) (v := 1) (pw_dk dc_X4_takeNumber 7 rfl) rfl (by decide) ?_
    refine PZ_callVi (pc' := 19) (y := yX7_refuse) (M' := mX7_refuse) (d' := 0) (As := [.int 1]) (st := []) (b := 500) (ci := 7) (nn := 0) me_500 rfl tw_709 tw_710 (pw_dk dc_X4_takeNumber 8 rfl) rfl Y_X7_refuse tw_708 rfl (by decide) (Nat.le_of_ble_eq_true rfl) (t_X7_refuse 1 σ _ ?_)
    obtain ⟨⟨v_10, σ_9⟩, e_11, h⟩ := wp_bind2 h
    refine ⟨(v_10, σ_9), e_11, _, rfl, fun hn_8 => ?_⟩
    show PZ alC mX4_takeNumber (3) Q 19 [(0, .ref 200), (1, .int x1), (2, .int x2)] [.int v_10] σ_9
    refine PW_pop (pc' := 20) (pw_dk dc_X4_takeNumber 9 rfl) rfl rfl ?_
    refine PW_iconst (pc' := 21) (v := (-1 : Int32)) (pw_dk dc_X4_takeNumber 10 rfl) rfl (by decide) ?_
    have z := wp_some h
    exact PZ_iret (ty := .int) (pw_dk dc_X4_takeNumber 11 rfl) rfl rfl z
def f_X8_addDeed (b : Bool) (x1 : Int32) (x2 : Int32) (x3 : Int32) (x4 : Int32) (σ : zS) : Option zS := 
  if (σ.1 (tv b) 11) < 12 then
    (wrI σ (tv b + 13) 12 (σ.1 (tv b) 11) x1).bind fun σ_2 =>
    (wrI σ_2 (tv b + 14) 12 (σ_2.1 (tv b) 11) x2).bind fun σ_5 =>
    (wrI σ_5 (tv b + 15) 12 (σ_5.1 (tv b) 11) x3).bind fun σ_8 =>
    (wrI σ_8 (tv b + 16) 12 (σ_8.1 (tv b) 11) x4).bind fun σ_11 =>
    lt (wI σ_11 (tv b) 11 ((σ_11.1 (tv b) 11) + (1 : Int32))) fun σ_14 =>
    some σ_14
  else
    some σ
theorem t_X8_addDeed (b : Bool) (x1 : Int32) (x2 : Int32) (x3 : Int32) (x4 : Int32) (σ : zS) (Q : Option Value → zS → Prop) (h : wpO (f_X8_addDeed b x1 x2 x3 x4 σ) (fun s => Q none s)) : PK alC yX8_addDeed mX8_addDeed (0) [.ref (tv b), .int x1, .int x2, .int x3, .int x4] σ Q := by
  refine PC_ofF (by decide +kernel) rfl rfl (Nat.le_of_ble_eq_true rfl) ?_
  show PZ alC mX8_addDeed (0) Q 0 [(0, .ref (tv b)), (1, .int x1), (2, .int x2), (3, .int x3), (4, .int x4)] [] σ
  unfold f_X8_addDeed at h
  refine PW_aload_n (pc' := 1) (q := 0) (pw_dk dc_X8_addDeed 0 rfl) rfl rfl rfl ?_
  refine PZ_getI (pc' := 4) (id := (tv b)) (ci := 8) (nn := 0) (C0 := RX8) (T := TX8) (N := 18) (j := 11) (pw_dk dc_X8_addDeed 1 rfl) rfl (me_T b) rfl pi_8 (by decide) fk_8_11 tw_228 ?_
  refine PW_bipush (pc' := 6) (v := 12) (pw_dk dc_X8_addDeed 2 rfl) rfl (by decide) ?_
  refine PW_icmp_lt (pc' := 9) (tgt := 10) (pw_dk dc_X8_addDeed 3 rfl) rfl (by decide) (fun c_1 => ?_) (fun c_1 => ?_)
  · rw [if_pos c_1] at h
    refine PW_aload_n (pc' := 11) (q := 0) (pw_dk dc_X8_addDeed 5 rfl) rfl rfl rfl ?_
    refine PW_getR (pc' := 14) (id := (tv b)) (ci := 8) (nn := 0) (C0 := RX8) (T := TX8) (N := 18) (j := 12) (r := tv b + 13) (pw_dk dc_X8_addDeed 6 rfl) rfl (me_T b) rfl pi_8 (by decide) fk_8_12 tw_232 (rf_T12 _ _) (su0 _ _) ?_
    refine PW_aload_n (pc' := 15) (q := 0) (pw_dk dc_X8_addDeed 7 rfl) rfl rfl rfl ?_
    refine PZ_getI (pc' := 18) (id := (tv b)) (ci := 8) (nn := 0) (C0 := RX8) (T := TX8) (N := 18) (j := 11) (pw_dk dc_X8_addDeed 8 rfl) rfl (me_T b) rfl pi_8 (by decide) fk_8_11 tw_228 ?_
    refine PW_iload_n (pc' := 19) (q := 1) (pw_dk dc_X8_addDeed 9 rfl) rfl rfl rfl ?_
    obtain ⟨σ_2, hi_3, e_4, h⟩ := wp_wrIx h
    refine PZ_iastx (pc' := 20) (σ' := σ_2) (id := (tv b + 13)) (nn := 12) (pw_dk dc_X8_addDeed 10 rfl) rfl (me_T12 _) hi_3 e_4 ?_
    refine PW_aload_n (pc' := 21) (q := 0) (pw_dk dc_X8_addDeed 11 rfl) rfl rfl rfl ?_
    refine PW_getR (pc' := 24) (id := (tv b)) (ci := 8) (nn := 0) (C0 := RX8) (T := TX8) (N := 18) (j := 13) (r := tv b + 14) (pw_dk dc_X8_addDeed 12 rfl) rfl (me_T b) rfl pi_8 (by decide) fk_8_13 tw_235 (rf_T13 _ _) (su0 _ _) ?_
    refine PW_aload_n (pc' := 25) (q := 0) (pw_dk dc_X8_addDeed 13 rfl) rfl rfl rfl ?_
    refine PZ_getI (pc' := 28) (id := (tv b)) (ci := 8) (nn := 0) (C0 := RX8) (T := TX8) (N := 18) (j := 11) (pw_dk dc_X8_addDeed 14 rfl) rfl (me_T b) rfl pi_8 (by decide) fk_8_11 tw_228 ?_
    refine PW_iload_n (pc' := 29) (q := 2) (pw_dk dc_X8_addDeed 15 rfl) rfl rfl rfl ?_
    obtain ⟨σ_5, hi_6, e_7, h⟩ := wp_wrIx h
    refine PZ_iastx (pc' := 30) (σ' := σ_5) (id := (tv b + 14)) (nn := 12) (pw_dk dc_X8_addDeed 16 rfl) rfl (me_T13 _) hi_6 e_7 ?_
    refine PW_aload_n (pc' := 31) (q := 0) (pw_dk dc_X8_addDeed 17 rfl) rfl rfl rfl ?_
    refine PW_getR (pc' := 34) (id := (tv b)) (ci := 8) (nn := 0) (C0 := RX8) (T := TX8) (N := 18) (j := 14) (r := tv b + 15) (pw_dk dc_X8_addDeed 18 rfl) rfl (me_T b) rfl pi_8 (by decide) fk_8_14 tw_238 (rf_T14 _ _) (su0 _ _) ?_
    refine PW_aload_n (pc' := 35) (q := 0) (pw_dk dc_X8_addDeed 19 rfl) rfl rfl rfl ?_
    refine PZ_getI (pc' := 38) (id := (tv b)) (ci := 8) (nn := 0) (C0 := RX8) (T := TX8) (N := 18) (j := 11) (pw_dk dc_X8_addDeed 20 rfl) rfl (me_T b) rfl pi_8 (by decide) fk_8_11 tw_228 ?_
    refine PW_iload_n (pc' := 39) (q := 3) (pw_dk dc_X8_addDeed 21 rfl) rfl rfl rfl ?_
    obtain ⟨σ_8, hi_9, e_10, h⟩ := wp_wrIx h
    refine PZ_iastx (pc' := 40) (σ' := σ_8) (id := (tv b + 15)) (nn := 12) (pw_dk dc_X8_addDeed 22 rfl) rfl (me_T14 _) hi_9 e_10 ?_
    refine PW_aload_n (pc' := 41) (q := 0) (pw_dk dc_X8_addDeed 23 rfl) rfl rfl rfl ?_
    refine PW_getR (pc' := 44) (id := (tv b)) (ci := 8) (nn := 0) (C0 := RX8) (T := TX8) (N := 18) (j := 15) (r := tv b + 16) (pw_dk dc_X8_addDeed 24 rfl) rfl (me_T b) rfl pi_8 (by decide) fk_8_15 tw_241 (rf_T15 _ _) (su0 _ _) ?_
    refine PW_aload_n (pc' := 45) (q := 0) (pw_dk dc_X8_addDeed 25 rfl) rfl rfl rfl ?_
    refine PZ_getI (pc' := 48) (id := (tv b)) (ci := 8) (nn := 0) (C0 := RX8) (T := TX8) (N := 18) (j := 11) (pw_dk dc_X8_addDeed 26 rfl) rfl (me_T b) rfl pi_8 (by decide) fk_8_11 tw_228 ?_
    refine PW_iload (pc' := 50) (q := 4) (pw_dk dc_X8_addDeed 27 rfl) rfl rfl ?_
    obtain ⟨σ_11, hi_12, e_13, h⟩ := wp_wrIx h
    refine PZ_iastx (pc' := 51) (σ' := σ_11) (id := (tv b + 16)) (nn := 12) (pw_dk dc_X8_addDeed 28 rfl) rfl (me_T15 _) hi_12 e_13 ?_
    refine PW_aload_n (pc' := 52) (q := 0) (pw_dk dc_X8_addDeed 29 rfl) rfl rfl rfl ?_
    refine PW_dup (pc' := 53) (pw_dk dc_X8_addDeed 30 rfl) rfl rfl ?_
    refine PZ_getI (pc' := 56) (id := (tv b)) (ci := 8) (nn := 0) (C0 := RX8) (T := TX8) (N := 18) (j := 11) (pw_dk dc_X8_addDeed 31 rfl) rfl (me_T b) rfl pi_8 (by decide) fk_8_11 tw_228 ?_
    refine PW_iconst (pc' := 57) (v := 1) (pw_dk dc_X8_addDeed 32 rfl) rfl (by decide) ?_
    refine PW_iadd (pc' := 58) (pw_dk dc_X8_addDeed 33 rfl) rfl ?_
    obtain ⟨σ_14, e_15, h⟩ := lt_x h
    refine PZ_putX (pc' := 61) (σ' := σ_14) (id := (tv b)) (ci := 8) (nn := 0) (C0 := RX8) (T := TX8) (N := 18) (j := 11) (ty := tyX8 11) (pw_dk dc_X8_addDeed 34 rfl) rfl (me_T b) rfl pi_8 tyX8_ok nmX8 (by decide) fk_8_11 tw_228 rfl (tyX8_ok 11 (by decide)) (by first | rfl | decide) (by first | rfl | decide) e_15 ?_
    have z := wp_some h
    exact PZ_vret (pw_dk dc_X8_addDeed 35 rfl) rfl z
  · rw [if_neg c_1] at h
    have z := wp_some h
    exact PZ_vret (pw_dk dc_X8_addDeed 4 rfl) rfl z
