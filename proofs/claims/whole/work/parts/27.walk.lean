/-! walks (printed by wip/gen) -/
def f_X12_strike (x1 : Int32) (σ : zS) : Option (Int32 × zS) := 
  lt (wI σ 5000 0 0) fun σ_1 =>
  if x1 < 0 then
    some ((-1 : Int32), σ_1)
  else
    if (σ_1.1 5000 53) ≤ x1 then
      some ((-1 : Int32), σ_1)
    else
      if (σ_1.1 5000 53) = 24 then
        some ((-1 : Int32), σ_1)
      else
        (wrI σ_1 5059 24 (σ_1.1 5000 53) x1).bind fun σ_6 =>
        lt (wI σ_6 5000 53 ((σ_6.1 5000 53) + (1 : Int32))) fun σ_9 =>
        some ((σ_9.1 5000 53) - (1 : Int32), σ_9)
theorem t_X12_strike (x1 : Int32) (σ : zS) (Q : Option Value → zS → Prop) (h : wpO (f_X12_strike x1 σ) (fun a => Q (some (.int a.1)) a.2)) : PK alM yX12_strike mX12_strike (0) [.ref 5000, .int x1] σ Q := by
  refine PC_ofF (by decide +kernel) rfl rfl (Nat.le_of_ble_eq_true rfl) ?_
  show PZ alM mX12_strike (0) Q 0 [(0, .ref 5000), (1, .int x1)] [] σ
  unfold f_X12_strike at h
  refine PW_aload_n (pc' := 1) (q := 0) (pw_dk dc_X12_strike 0 rfl) rfl rfl rfl ?_
  refine PW_iconst (pc' := 2) (v := 0) (pw_dk dc_X12_strike 1 rfl) rfl (by decide) ?_
  obtain ⟨σ_1, e_2, h⟩ := lt_x h
  refine PZ_putX (pc' := 5) (σ' := σ_1) (id := 5000) (ci := 12) (nn := 0) (C0 := RX12) (T := TX12) (N := 62) (j := 0) (ty := tyX12 0) (pw_dk dc_X12_strike 2 rfl) rfl me_5000 rfl pi_12 tyX12_ok nmX12 (by decide) fk_12_0 tw_1397 rfl (tyX12_ok 0 (by decide)) (by first | rfl | decide) (by first | rfl | decide) e_2 ?_
  refine PW_iload_n (pc' := 6) (q := 1) (pw_dk dc_X12_strike 3 rfl) rfl rfl rfl ?_
  refine PW_if_lt (pc' := 9) (tgt := 26) (pw_dk dc_X12_strike 4 rfl) rfl (by decide) (fun c_3 => ?_) (fun c_3 => ?_)
  · rw [if_pos c_3] at h
    refine PW_iconst (pc' := 27) (v := (-1 : Int32)) (pw_dk dc_X12_strike 13 rfl) rfl (by decide) ?_
    have z := wp_some h
    exact PZ_iret (ty := .int) (pw_dk dc_X12_strike 14 rfl) rfl rfl z
  · rw [if_neg c_3] at h
    refine PW_iload_n (pc' := 10) (q := 1) (pw_dk dc_X12_strike 5 rfl) rfl rfl rfl ?_
    refine PW_aload_n (pc' := 11) (q := 0) (pw_dk dc_X12_strike 6 rfl) rfl rfl rfl ?_
    refine PZ_getI (pc' := 14) (id := 5000) (ci := 12) (nn := 0) (C0 := RX12) (T := TX12) (N := 62) (j := 53) (pw_dk dc_X12_strike 7 rfl) rfl me_5000 rfl pi_12 (by decide) fk_12_53 tw_1450 ?_
    refine PW_icmp_ge (pc' := 17) (tgt := 26) (pw_dk dc_X12_strike 8 rfl) rfl (by decide) (fun c_4 => ?_) (fun c_4 => ?_)
    · rw [if_pos c_4] at h
      refine PW_iconst (pc' := 27) (v := (-1 : Int32)) (pw_dk dc_X12_strike 13 rfl) rfl (by decide) ?_
      have z := wp_some h
      exact PZ_iret (ty := .int) (pw_dk dc_X12_strike 14 rfl) rfl rfl z
    · rw [if_neg c_4] at h
      refine PW_aload_n (pc' := 18) (q := 0) (pw_dk dc_X12_strike 9 rfl) rfl rfl rfl ?_
      refine PZ_getI (pc' := 21) (id := 5000) (ci := 12) (nn := 0) (C0 := RX12) (T := TX12) (N := 62) (j := 53) (pw_dk dc_X12_strike 10 rfl) rfl me_5000 rfl pi_12 (by decide) fk_12_53 tw_1450 ?_
      refine PW_bipush (pc' := 23) (v := 24) (pw_dk dc_X12_strike 11 rfl) rfl (by decide) ?_
      refine PW_icmp_ne (pc' := 26) (tgt := 28) (pw_dk dc_X12_strike 12 rfl) rfl (by decide) (fun c_5 => ?_) (fun c_5 => ?_)
      · rw [if_neg c_5] at h
        refine PW_aload_n (pc' := 29) (q := 0) (pw_dk dc_X12_strike 15 rfl) rfl rfl rfl ?_
        refine PW_getR (pc' := 32) (id := 5000) (ci := 12) (nn := 0) (C0 := RX12) (T := TX12) (N := 62) (j := 58) (r := 5059) (pw_dk dc_X12_strike 16 rfl) rfl me_5000 rfl pi_12 (by decide) fk_12_58 tw_1455 (rfl) (by decide) ?_
        refine PW_aload_n (pc' := 33) (q := 0) (pw_dk dc_X12_strike 17 rfl) rfl rfl rfl ?_
        refine PZ_getI (pc' := 36) (id := 5000) (ci := 12) (nn := 0) (C0 := RX12) (T := TX12) (N := 62) (j := 53) (pw_dk dc_X12_strike 18 rfl) rfl me_5000 rfl pi_12 (by decide) fk_12_53 tw_1450 ?_
        refine PW_iload_n (pc' := 37) (q := 1) (pw_dk dc_X12_strike 19 rfl) rfl rfl rfl ?_
        obtain ⟨σ_6, hi_7, e_8, h⟩ := wp_wrIx h
        refine PZ_iastx (pc' := 38) (σ' := σ_6) (id := 5059) (nn := 24) (pw_dk dc_X12_strike 20 rfl) rfl me_5059 hi_7 e_8 ?_
        refine PW_aload_n (pc' := 39) (q := 0) (pw_dk dc_X12_strike 21 rfl) rfl rfl rfl ?_
        refine PW_dup (pc' := 40) (pw_dk dc_X12_strike 22 rfl) rfl rfl ?_
        refine PZ_getI (pc' := 43) (id := 5000) (ci := 12) (nn := 0) (C0 := RX12) (T := TX12) (N := 62) (j := 53) (pw_dk dc_X12_strike 23 rfl) rfl me_5000 rfl pi_12 (by decide) fk_12_53 tw_1450 ?_
        refine PW_iconst (pc' := 44) (v := 1) (pw_dk dc_X12_strike 24 rfl) rfl (by decide) ?_
        refine PW_iadd (pc' := 45) (pw_dk dc_X12_strike 25 rfl) rfl ?_
        obtain ⟨σ_9, e_10, h⟩ := lt_x h
        refine PZ_putX (pc' := 48) (σ' := σ_9) (id := 5000) (ci := 12) (nn := 0) (C0 := RX12) (T := TX12) (N := 62) (j := 53) (ty := tyX12 53) (pw_dk dc_X12_strike 26 rfl) rfl me_5000 rfl pi_12 tyX12_ok nmX12 (by decide) fk_12_53 tw_1450 rfl (tyX12_ok 53 (by decide)) (by first | rfl | decide) (by first | rfl | decide) e_10 ?_
        refine PW_aload_n (pc' := 49) (q := 0) (pw_dk dc_X12_strike 27 rfl) rfl rfl rfl ?_
        refine PZ_getI (pc' := 52) (id := 5000) (ci := 12) (nn := 0) (C0 := RX12) (T := TX12) (N := 62) (j := 53) (pw_dk dc_X12_strike 28 rfl) rfl me_5000 rfl pi_12 (by decide) fk_12_53 tw_1450 ?_
        refine PW_iconst (pc' := 53) (v := 1) (pw_dk dc_X12_strike 29 rfl) rfl (by decide) ?_
        refine PW_isub (pc' := 54) (pw_dk dc_X12_strike 30 rfl) rfl ?_
        have z := wp_some h
        exact PZ_iret (ty := .int) (pw_dk dc_X12_strike 31 rfl) rfl rfl z
      · rw [if_pos c_5] at h
        refine PW_iconst (pc' := 27) (v := (-1 : Int32)) (pw_dk dc_X12_strike 13 rfl) rfl (by decide) ?_
        have z := wp_some h
        exact PZ_iret (ty := .int) (pw_dk dc_X12_strike 14 rfl) rfl rfl z
def f_X12_known (x1 : Int32) (σ : zS) : Option (Int32 × zS) := 
  lt (wI σ 5000 0 0) fun σ_1 =>
  if x1 < (-1 : Int32) then
    some (0, σ_1)
  else
    if x1 ≤ (σ_1.1 5000 53) then
      lt (wI σ_1 5000 54 x1) fun σ_5 =>
      some (1, σ_5)
    else
      some (0, σ_1)
theorem t_X12_known (x1 : Int32) (σ : zS) (Q : Option Value → zS → Prop) (h : wpO (f_X12_known x1 σ) (fun a => Q (some (.int a.1)) a.2)) : PK alM yX12_known mX12_known (0) [.ref 5000, .int x1] σ Q := by
  refine PC_ofF (by decide +kernel) rfl rfl (Nat.le_of_ble_eq_true rfl) ?_
  show PZ alM mX12_known (0) Q 0 [(0, .ref 5000), (1, .int x1)] [] σ
  unfold f_X12_known at h
  refine PW_aload_n (pc' := 1) (q := 0) (pw_dk dc_X12_known 0 rfl) rfl rfl rfl ?_
  refine PW_iconst (pc' := 2) (v := 0) (pw_dk dc_X12_known 1 rfl) rfl (by decide) ?_
  obtain ⟨σ_1, e_2, h⟩ := lt_x h
  refine PZ_putX (pc' := 5) (σ' := σ_1) (id := 5000) (ci := 12) (nn := 0) (C0 := RX12) (T := TX12) (N := 62) (j := 0) (ty := tyX12 0) (pw_dk dc_X12_known 2 rfl) rfl me_5000 rfl pi_12 tyX12_ok nmX12 (by decide) fk_12_0 tw_1397 rfl (tyX12_ok 0 (by decide)) (by first | rfl | decide) (by first | rfl | decide) e_2 ?_
  refine PW_iload_n (pc' := 6) (q := 1) (pw_dk dc_X12_known 3 rfl) rfl rfl rfl ?_
  refine PW_iconst (pc' := 7) (v := (-1 : Int32)) (pw_dk dc_X12_known 4 rfl) rfl (by decide) ?_
  refine PW_icmp_lt (pc' := 10) (tgt := 18) (pw_dk dc_X12_known 5 rfl) rfl (by decide) (fun c_3 => ?_) (fun c_3 => ?_)
  · rw [if_pos c_3] at h
    refine PW_iconst (pc' := 19) (v := 0) (pw_dk dc_X12_known 10 rfl) rfl (by decide) ?_
    have z := wp_some h
    exact PZ_iret (ty := .boolean) (pw_dk dc_X12_known 11 rfl) rfl (by decide) z
  · rw [if_neg c_3] at h
    refine PW_iload_n (pc' := 11) (q := 1) (pw_dk dc_X12_known 6 rfl) rfl rfl rfl ?_
    refine PW_aload_n (pc' := 12) (q := 0) (pw_dk dc_X12_known 7 rfl) rfl rfl rfl ?_
    refine PZ_getI (pc' := 15) (id := 5000) (ci := 12) (nn := 0) (C0 := RX12) (T := TX12) (N := 62) (j := 53) (pw_dk dc_X12_known 8 rfl) rfl me_5000 rfl pi_12 (by decide) fk_12_53 tw_1450 ?_
    refine PW_icmp_le (pc' := 18) (tgt := 20) (pw_dk dc_X12_known 9 rfl) rfl (by decide) (fun c_4 => ?_) (fun c_4 => ?_)
    · rw [if_pos c_4] at h
      refine PW_aload_n (pc' := 21) (q := 0) (pw_dk dc_X12_known 12 rfl) rfl rfl rfl ?_
      refine PW_iload_n (pc' := 22) (q := 1) (pw_dk dc_X12_known 13 rfl) rfl rfl rfl ?_
      obtain ⟨σ_5, e_6, h⟩ := lt_x h
      refine PZ_putX (pc' := 25) (σ' := σ_5) (id := 5000) (ci := 12) (nn := 0) (C0 := RX12) (T := TX12) (N := 62) (j := 54) (ty := tyX12 54) (pw_dk dc_X12_known 14 rfl) rfl me_5000 rfl pi_12 tyX12_ok nmX12 (by decide) fk_12_54 tw_1451 rfl (tyX12_ok 54 (by decide)) (by first | rfl | decide) (by first | rfl | decide) e_6 ?_
      refine PW_iconst (pc' := 26) (v := 1) (pw_dk dc_X12_known 15 rfl) rfl (by decide) ?_
      have z := wp_some h
      exact PZ_iret (ty := .boolean) (pw_dk dc_X12_known 16 rfl) rfl (by decide) z
    · rw [if_neg c_4] at h
      refine PW_iconst (pc' := 19) (v := 0) (pw_dk dc_X12_known 10 rfl) rfl (by decide) ?_
      have z := wp_some h
      exact PZ_iret (ty := .boolean) (pw_dk dc_X12_known 11 rfl) rfl (by decide) z
def f_X12_knownMany  (σ : zS) : Int32 := 
  if (σ.1 5000 54) = (-1 : Int32) then
    σ.1 5000 53
  else
    σ.1 5000 54
theorem t_X12_knownMany (σ : zS) (Q : Option Value → zS → Prop) (h : Q (some (.int (f_X12_knownMany σ))) σ) : PK alM yX12_knownMany mX12_knownMany (0) [.ref 5000] σ Q := by
  refine PC_ofF (by decide +kernel) rfl rfl (Nat.le_of_ble_eq_true rfl) ?_
  show PZ alM mX12_knownMany (0) Q 0 [(0, .ref 5000)] [] σ
  unfold f_X12_knownMany at h
  refine PW_aload_n (pc' := 1) (q := 0) (pw_dk dc_X12_knownMany 0 rfl) rfl rfl rfl ?_
  refine PZ_getI (pc' := 4) (id := 5000) (ci := 12) (nn := 0) (C0 := RX12) (T := TX12) (N := 62) (j := 54) (pw_dk dc_X12_knownMany 1 rfl) rfl me_5000 rfl pi_12 (by decide) fk_12_54 tw_1451 ?_
  refine PW_iconst (pc' := 5) (v := (-1 : Int32)) (pw_dk dc_X12_knownMany 2 rfl) rfl (by decide) ?_
  refine PW_icmp_ne (pc' := 8) (tgt := 15) (pw_dk dc_X12_knownMany 3 rfl) rfl (by decide) (fun c_1 => ?_) (fun c_1 => ?_)
  · rw [if_neg c_1] at h
    refine PW_aload_n (pc' := 16) (q := 0) (pw_dk dc_X12_knownMany 7 rfl) rfl rfl rfl ?_
    refine PZ_getI (pc' := 19) (id := 5000) (ci := 12) (nn := 0) (C0 := RX12) (T := TX12) (N := 62) (j := 54) (pw_dk dc_X12_knownMany 8 rfl) rfl me_5000 rfl pi_12 (by decide) fk_12_54 tw_1451 ?_
    exact PZ_iret (ty := .int) (pw_dk dc_X12_knownMany 9 rfl) rfl rfl h
  · rw [if_pos c_1] at h
    refine PW_aload_n (pc' := 9) (q := 0) (pw_dk dc_X12_knownMany 4 rfl) rfl rfl rfl ?_
    refine PZ_getI (pc' := 12) (id := 5000) (ci := 12) (nn := 0) (C0 := RX12) (T := TX12) (N := 62) (j := 53) (pw_dk dc_X12_knownMany 5 rfl) rfl me_5000 rfl pi_12 (by decide) fk_12_53 tw_1450 ?_
    refine PW_goto (tgt := 19) (pw_dk dc_X12_knownMany 6 rfl) (by decide) ?_
    exact PZ_iret (ty := .int) (pw_dk dc_X12_knownMany 9 rfl) rfl rfl h
def f_X12_isKnown (x1 : Int32) (σ : zS) : Option Int32 := 
  (rdI σ 5060 24 x1).bind fun v_1 =>
  if v_1 = 0 then
    (rdI σ 5059 24 x1).bind fun v_5 =>
    if v_5 = (-1 : Int32) then
      some 1
    else
      some 0
  else
    some 0
theorem t_X12_isKnown (x1 : Int32) (σ : zS) (Q : Option Value → zS → Prop) (h : wpO (f_X12_isKnown x1 σ) (fun a => Q (some (.int a)) σ)) : PK alM yX12_isKnown mX12_isKnown (0) [.ref 5000, .int x1] σ Q := by
  refine PC_ofF (by decide +kernel) rfl rfl (Nat.le_of_ble_eq_true rfl) ?_
  show PZ alM mX12_isKnown (0) Q 0 [(0, .ref 5000), (1, .int x1)] [] σ
  unfold f_X12_isKnown at h
  refine PW_aload_n (pc' := 1) (q := 0) (pw_dk dc_X12_isKnown 0 rfl) rfl rfl rfl ?_
  refine PW_getR (pc' := 4) (id := 5000) (ci := 12) (nn := 0) (C0 := RX12) (T := TX12) (N := 62) (j := 59) (r := 5060) (pw_dk dc_X12_isKnown 1 rfl) rfl me_5000 rfl pi_12 (by decide) fk_12_59 tw_1456 (rfl) (by decide) ?_
  refine PW_iload_n (pc' := 5) (q := 1) (pw_dk dc_X12_isKnown 2 rfl) rfl rfl rfl ?_
  obtain ⟨v_1, hi_2, e_3, h⟩ := wp_rdIx h
  refine PZ_zaldx (pc' := 6) (v := v_1) (id := 5060) (nn := 24) (pw_dk dc_X12_isKnown 3 rfl) rfl me_5060 hi_2 e_3 ?_
  refine PW_if_ne (pc' := 9) (tgt := 23) (pw_dk dc_X12_isKnown 4 rfl) rfl (by decide) (fun c_4 => ?_) (fun c_4 => ?_)
  · rw [if_neg c_4] at h
    refine PW_iconst (pc' := 24) (v := 0) (pw_dk dc_X12_isKnown 13 rfl) rfl (by decide) ?_
    have z := wp_some h
    exact PZ_iret (ty := .boolean) (pw_dk dc_X12_isKnown 14 rfl) rfl (by decide) z
  · rw [if_pos c_4] at h
    refine PW_aload_n (pc' := 10) (q := 0) (pw_dk dc_X12_isKnown 5 rfl) rfl rfl rfl ?_
    refine PW_getR (pc' := 13) (id := 5000) (ci := 12) (nn := 0) (C0 := RX12) (T := TX12) (N := 62) (j := 58) (r := 5059) (pw_dk dc_X12_isKnown 6 rfl) rfl me_5000 rfl pi_12 (by decide) fk_12_58 tw_1455 (rfl) (by decide) ?_
    refine PW_iload_n (pc' := 14) (q := 1) (pw_dk dc_X12_isKnown 7 rfl) rfl rfl rfl ?_
    obtain ⟨v_5, hi_6, e_7, h⟩ := wp_rdIx h
    refine PZ_ialdx (pc' := 15) (v := v_5) (id := 5059) (nn := 24) (pw_dk dc_X12_isKnown 8 rfl) rfl me_5059 hi_6 e_7 ?_
    refine PW_iconst (pc' := 16) (v := (-1 : Int32)) (pw_dk dc_X12_isKnown 9 rfl) rfl (by decide) ?_
    refine PW_icmp_ne (pc' := 19) (tgt := 23) (pw_dk dc_X12_isKnown 10 rfl) rfl (by decide) (fun c_8 => ?_) (fun c_8 => ?_)
    · rw [if_neg c_8] at h
      refine PW_iconst (pc' := 24) (v := 0) (pw_dk dc_X12_isKnown 13 rfl) rfl (by decide) ?_
      have z := wp_some h
      exact PZ_iret (ty := .boolean) (pw_dk dc_X12_isKnown 14 rfl) rfl (by decide) z
    · rw [if_pos c_8] at h
      refine PW_iconst (pc' := 20) (v := 1) (pw_dk dc_X12_isKnown 11 rfl) rfl (by decide) ?_
      refine PW_goto (tgt := 24) (pw_dk dc_X12_isKnown 12 rfl) (by decide) ?_
      have z := wp_some h
      exact PZ_iret (ty := .boolean) (pw_dk dc_X12_isKnown 14 rfl) rfl (by decide) z
def f_X12_goesOn_51 (r19 : Int32 → Int32 → Int32 → zS → Option zS) (x1 : Int32) (x2 : Int32) (x3 : Int32) (σ : zS) : Option zS := 
  r19 x1 x2 (x3 + 1) σ
theorem b_X12_goesOn_51 {Q : Option Value → zS → Prop} (r19 : Int32 → Int32 → Int32 → zS → Option zS) (hr19 : ∀ (x1 : Int32) (x2 : Int32) (x3 : Int32) (σ : zS), wpO (r19 x1 x2 x3 σ) (fun s => Q none s) → PZ alM mX12_goesOn (2) Q 19 [(0, .ref 5000), (1, .int x1), (2, .int x2), (3, .int x3)] [] σ) (x1 : Int32) (x2 : Int32) (x3 : Int32) (σ : zS) (h : wpO (f_X12_goesOn_51 r19 x1 x2 x3 σ) (fun s => Q none s)) : PZ alM mX12_goesOn (2) Q 51 [(0, .ref 5000), (1, .int x1), (2, .int x2), (3, .int x3)] [] σ := by
  unfold f_X12_goesOn_51 at h
  refine PW_iinc (pc' := 54) (q := 3) (v := x3 + 1) (lv' := [(3, .int (x3 + 1)), (0, .ref 5000), (1, .int x1), (2, .int x2)]) (pw_dk dc_X12_goesOn 31 rfl) rfl rfl rfl (by decide) rfl ?_
  refine PW_goto (tgt := 19) (pw_dk dc_X12_goesOn 32 rfl) (by decide) ?_
  refine PW_sub (lv' := [(0, .ref 5000), (1, .int x1), (2, .int x2), (3, .int (x3 + 1))]) [1, 2, 3, 0] rfl ?_
  exact hr19 x1 x2 (x3 + 1) σ h
def f_X12_goesOn_19 (r2 : Int32 → zS → Option zS) : Nat → Int32 → Int32 → Int32 → zS → Option zS
  | 0, _, _, _, _ => none
  | n + 1, x1, x2, x3, σ => 
    if 6 ≤ x3 then
      (wrZ σ 5062 192 x1 x2).bind fun σ_2 =>
      r2 (x1 + 1) σ_2
    else
      (f_X12_moved x1 x3 σ).bind fun v_6 =>
      if v_6 = (-1 : Int32) then
        f_X12_goesOn_51 (f_X12_goesOn_19 r2 n) x1 x2 x3 σ
      else
        (rdI σ 5061 192 v_6).bind fun v_9 =>
        if v_9 = 0 then
          f_X12_goesOn_51 (f_X12_goesOn_19 r2 n) x1 x2 x3 σ
        else
          f_X12_goesOn_51 (f_X12_goesOn_19 r2 n) x1 1 x3 σ
theorem b_X12_goesOn_19 {Q : Option Value → zS → Prop} (r2 : Int32 → zS → Option zS) (hr2 : ∀ (x1 : Int32) (σ : zS), wpO (r2 x1 σ) (fun s => Q none s) → PZ alM mX12_goesOn (2) Q 2 [(0, .ref 5000), (1, .int x1)] [] σ) : ∀ (n : Nat) (x1 : Int32) (x2 : Int32) (x3 : Int32) (σ : zS) (h : wpO (f_X12_goesOn_19 r2 n x1 x2 x3 σ) (fun s => Q none s)), PZ alM mX12_goesOn (2) Q 19 [(0, .ref 5000), (1, .int x1), (2, .int x2), (3, .int x3)] [] σ := by
  intro n
  induction n with
  | zero => intro x1 x2 x3 σ h; exact wp_none h
  | succ n ih =>
    intro x1 x2 x3 σ h
    rw [f_X12_goesOn_19] at h
    refine PW_iload_n (pc' := 20) (q := 3) (pw_dk dc_X12_goesOn 13 rfl) rfl rfl rfl ?_
    refine PW_bipush (pc' := 22) (v := 6) (pw_dk dc_X12_goesOn 14 rfl) rfl (by decide) ?_
    refine PW_icmp_ge (pc' := 25) (tgt := 57) (pw_dk dc_X12_goesOn 15 rfl) rfl (by decide) (fun c_1 => ?_) (fun c_1 => ?_)
    · rw [if_pos c_1] at h
      refine PW_aload_n (pc' := 58) (q := 0) (pw_dk dc_X12_goesOn 33 rfl) rfl rfl rfl ?_
      refine PW_getR (pc' := 61) (id := 5000) (ci := 12) (nn := 0) (C0 := RX12) (T := TX12) (N := 62) (j := 61) (r := 5062) (pw_dk dc_X12_goesOn 34 rfl) rfl me_5000 rfl pi_12 (by decide) fk_12_61 tw_1458 (rfl) (by decide) ?_
      refine PW_iload_n (pc' := 62) (q := 1) (pw_dk dc_X12_goesOn 35 rfl) rfl rfl rfl ?_
      refine PW_iload_n (pc' := 63) (q := 2) (pw_dk dc_X12_goesOn 36 rfl) rfl rfl rfl ?_
      obtain ⟨σ_2, hi_3, e_4, h⟩ := wp_wrZx h
      refine PZ_zastx (pc' := 64) (σ' := σ_2) (id := 5062) (nn := 192) (pw_dk dc_X12_goesOn 37 rfl) rfl me_5062 hi_3 e_4 ?_
      refine PW_iinc (pc' := 67) (q := 1) (v := x1 + 1) (lv' := [(1, .int (x1 + 1)), (0, .ref 5000), (2, .int x2), (3, .int x3)]) (pw_dk dc_X12_goesOn 38 rfl) rfl rfl rfl (by decide) rfl ?_
      refine PW_goto (tgt := 2) (pw_dk dc_X12_goesOn 39 rfl) (by decide) ?_
      refine PW_sub (lv' := [(0, .ref 5000), (1, .int (x1 + 1))]) [1, 0] rfl ?_
      exact hr2 (x1 + 1) σ_2 h
    · rw [if_neg c_1] at h
      refine PW_aload_n (pc' := 26) (q := 0) (pw_dk dc_X12_goesOn 16 rfl) rfl rfl rfl ?_
      refine PW_iload_n (pc' := 27) (q := 1) (pw_dk dc_X12_goesOn 17 rfl) rfl rfl rfl ?_
      refine PW_iload_n (pc' := 28) (q := 3) (pw_dk dc_X12_goesOn 18 rfl) rfl rfl rfl ?_
      refine PZ_callVi (pc' := 31) (y := yX12_moved) (M' := mX12_moved) (d' := 1) (As := [.int x1, .int x3]) (st := []) (b := 5000) (ci := 12) (nn := 0) me_5000 rfl tw_1842 tw_88 (pw_dk dc_X12_goesOn 19 rfl) rfl Y_X12_moved tw_1840 rfl (by decide) (Nat.le_of_ble_eq_true rfl) (t_X12_moved x1 x3 σ _ ?_)
      obtain ⟨v_6, e_7, h⟩ := wp_bind h
      refine ⟨v_6, e_7, _, rfl, fun hn_5 => ?_⟩
      show PZ alM mX12_goesOn (2) Q 31 [(0, .ref 5000), (1, .int x1), (2, .int x2), (3, .int x3)] [.int v_6] σ
      refine PW_istore (pc' := 33) (lv' := [(4, .int v_6), (0, .ref 5000), (1, .int x1), (2, .int x2), (3, .int x3)]) (pw_dk dc_X12_goesOn 20 rfl) rfl (by decide) rfl ?_
      refine PW_iload (pc' := 35) (q := 0) (pw_dk dc_X12_goesOn 21 rfl) rfl rfl ?_
      refine PW_iconst (pc' := 36) (v := (-1 : Int32)) (pw_dk dc_X12_goesOn 22 rfl) rfl (by decide) ?_
      refine PW_icmp_eq (pc' := 39) (tgt := 51) (pw_dk dc_X12_goesOn 23 rfl) rfl (by decide) (fun c_8 => ?_) (fun c_8 => ?_)
      · rw [if_pos c_8] at h
        refine PW_sub (lv' := [(0, .ref 5000), (1, .int x1), (2, .int x2), (3, .int x3)]) [1, 2, 3, 4] rfl ?_
        exact b_X12_goesOn_51 (f_X12_goesOn_19 r2 n) ih x1 x2 x3 σ h
      · rw [if_neg c_8] at h
        refine PW_aload_n (pc' := 40) (q := 1) (pw_dk dc_X12_goesOn 24 rfl) rfl rfl rfl ?_
        refine PW_getR (pc' := 43) (id := 5000) (ci := 12) (nn := 0) (C0 := RX12) (T := TX12) (N := 62) (j := 60) (r := 5061) (pw_dk dc_X12_goesOn 25 rfl) rfl me_5000 rfl pi_12 (by decide) fk_12_60 tw_1457 (rfl) (by decide) ?_
        refine PW_iload (pc' := 45) (q := 0) (pw_dk dc_X12_goesOn 26 rfl) rfl rfl ?_
        obtain ⟨v_9, hi_10, e_11, h⟩ := wp_rdIx h
        refine PZ_zaldx (pc' := 46) (v := v_9) (id := 5061) (nn := 192) (pw_dk dc_X12_goesOn 27 rfl) rfl me_5061 hi_10 e_11 ?_
        refine PW_if_eq (pc' := 49) (tgt := 51) (pw_dk dc_X12_goesOn 28 rfl) rfl (by decide) (fun c_12 => ?_) (fun c_12 => ?_)
        · rw [if_pos c_12] at h
          refine PW_sub (lv' := [(0, .ref 5000), (1, .int x1), (2, .int x2), (3, .int x3)]) [1, 2, 3, 4] rfl ?_
          exact b_X12_goesOn_51 (f_X12_goesOn_19 r2 n) ih x1 x2 x3 σ h
        · rw [if_neg c_12] at h
          refine PW_iconst (pc' := 50) (v := 1) (pw_dk dc_X12_goesOn 29 rfl) rfl (by decide) ?_
          refine PW_istore_n (pc' := 51) (lv' := [(2, .int 1), (4, .int v_6), (0, .ref 5000), (1, .int x1), (3, .int x3)]) (pw_dk dc_X12_goesOn 30 rfl) rfl rfl (by decide) rfl ?_
          refine PW_sub (lv' := [(0, .ref 5000), (1, .int x1), (2, .int 1), (3, .int x3)]) [2, 3, 0, 4] rfl ?_
          exact b_X12_goesOn_51 (f_X12_goesOn_19 r2 n) ih x1 1 x3 σ h
def f_X12_goesOn_72  : Nat → Int32 → zS → Option zS
  | 0, _, _ => none
  | n + 1, x1, σ => 
    (f_X12_statesMany σ).bind fun v_2 =>
    if v_2 ≤ x1 then
      some σ
    else
      (rdI σ 5062 192 x1).bind fun v_5 =>
      (wrZ σ 5061 192 x1 v_5).bind fun σ_8 =>
      f_X12_goesOn_72 n (x1 + 1) σ_8
theorem b_X12_goesOn_72 {Q : Option Value → zS → Prop} : ∀ (n : Nat) (x1 : Int32) (σ : zS) (h : wpO (f_X12_goesOn_72 n x1 σ) (fun s => Q none s)), PZ alM mX12_goesOn (2) Q 72 [(0, .ref 5000), (1, .int x1)] [] σ := by
  intro n
  induction n with
  | zero => intro x1 σ h; exact wp_none h
  | succ n ih =>
    intro x1 σ h
    rw [f_X12_goesOn_72] at h
    refine PW_iload_n (pc' := 73) (q := 1) (pw_dk dc_X12_goesOn 42 rfl) rfl rfl rfl ?_
    refine PW_aload_n (pc' := 74) (q := 0) (pw_dk dc_X12_goesOn 43 rfl) rfl rfl rfl ?_
    refine PZ_callVi (pc' := 77) (y := yX12_statesMany) (M' := mX12_statesMany) (d' := 0) (As := []) (st := [.int x1]) (b := 5000) (ci := 12) (nn := 0) me_5000 rfl tw_1889 tw_96 (pw_dk dc_X12_goesOn 44 rfl) rfl Y_X12_statesMany tw_1887 rfl (by decide) (Nat.le_of_ble_eq_true rfl) (t_X12_statesMany σ _ ?_)
    obtain ⟨v_2, e_3, h⟩ := wp_bind h
    refine ⟨v_2, e_3, _, rfl, fun hn_1 => ?_⟩
    show PZ alM mX12_goesOn (2) Q 77 [(0, .ref 5000), (1, .int x1)] [.int v_2, .int x1] σ
    refine PW_icmp_ge (pc' := 80) (tgt := 98) (pw_dk dc_X12_goesOn 45 rfl) rfl (by decide) (fun c_4 => ?_) (fun c_4 => ?_)
    · rw [if_pos c_4] at h
      have z := wp_some h
      exact PZ_vret (pw_dk dc_X12_goesOn 56 rfl) rfl z
    · rw [if_neg c_4] at h
      refine PW_aload_n (pc' := 81) (q := 0) (pw_dk dc_X12_goesOn 46 rfl) rfl rfl rfl ?_
      refine PW_getR (pc' := 84) (id := 5000) (ci := 12) (nn := 0) (C0 := RX12) (T := TX12) (N := 62) (j := 60) (r := 5061) (pw_dk dc_X12_goesOn 47 rfl) rfl me_5000 rfl pi_12 (by decide) fk_12_60 tw_1457 (rfl) (by decide) ?_
      refine PW_iload_n (pc' := 85) (q := 1) (pw_dk dc_X12_goesOn 48 rfl) rfl rfl rfl ?_
      refine PW_aload_n (pc' := 86) (q := 0) (pw_dk dc_X12_goesOn 49 rfl) rfl rfl rfl ?_
      refine PW_getR (pc' := 89) (id := 5000) (ci := 12) (nn := 0) (C0 := RX12) (T := TX12) (N := 62) (j := 61) (r := 5062) (pw_dk dc_X12_goesOn 50 rfl) rfl me_5000 rfl pi_12 (by decide) fk_12_61 tw_1458 (rfl) (by decide) ?_
      refine PW_iload_n (pc' := 90) (q := 1) (pw_dk dc_X12_goesOn 51 rfl) rfl rfl rfl ?_
      obtain ⟨v_5, hi_6, e_7, h⟩ := wp_rdIx h
      refine PZ_zaldx (pc' := 91) (v := v_5) (id := 5062) (nn := 192) (pw_dk dc_X12_goesOn 52 rfl) rfl me_5062 hi_6 e_7 ?_
      obtain ⟨σ_8, hi_9, e_10, h⟩ := wp_wrZx h
      refine PZ_zastx (pc' := 92) (σ' := σ_8) (id := 5061) (nn := 192) (pw_dk dc_X12_goesOn 53 rfl) rfl me_5061 hi_9 e_10 ?_
      refine PW_iinc (pc' := 95) (q := 1) (v := x1 + 1) (lv' := [(1, .int (x1 + 1)), (0, .ref 5000)]) (pw_dk dc_X12_goesOn 54 rfl) rfl rfl rfl (by decide) rfl ?_
      refine PW_goto (tgt := 72) (pw_dk dc_X12_goesOn 55 rfl) (by decide) ?_
      refine PW_sub (lv' := [(0, .ref 5000), (1, .int (x1 + 1))]) [1, 0] rfl ?_
      exact ih (x1 + 1) σ_8 h
def f_X12_goesOn_2  : Nat → Int32 → zS → Option zS
  | 0, _, _ => none
  | n + 1, x1, σ => 
    (f_X12_statesMany σ).bind fun v_2 =>
    if v_2 ≤ x1 then
      f_X12_goesOn_72 FU 0 σ
    else
      (rdI σ 5061 192 x1).bind fun v_5 =>
      f_X12_goesOn_19 (f_X12_goesOn_2 n) FU x1 v_5 0 σ
theorem b_X12_goesOn_2 {Q : Option Value → zS → Prop} : ∀ (n : Nat) (x1 : Int32) (σ : zS) (h : wpO (f_X12_goesOn_2 n x1 σ) (fun s => Q none s)), PZ alM mX12_goesOn (2) Q 2 [(0, .ref 5000), (1, .int x1)] [] σ := by
  intro n
  induction n with
  | zero => intro x1 σ h; exact wp_none h
  | succ n ih =>
    intro x1 σ h
    rw [f_X12_goesOn_2] at h
    refine PW_iload_n (pc' := 3) (q := 1) (pw_dk dc_X12_goesOn 2 rfl) rfl rfl rfl ?_
    refine PW_aload_n (pc' := 4) (q := 0) (pw_dk dc_X12_goesOn 3 rfl) rfl rfl rfl ?_
    refine PZ_callVi (pc' := 7) (y := yX12_statesMany) (M' := mX12_statesMany) (d' := 0) (As := []) (st := [.int x1]) (b := 5000) (ci := 12) (nn := 0) me_5000 rfl tw_1889 tw_96 (pw_dk dc_X12_goesOn 4 rfl) rfl Y_X12_statesMany tw_1887 rfl (by decide) (Nat.le_of_ble_eq_true rfl) (t_X12_statesMany σ _ ?_)
    obtain ⟨v_2, e_3, h⟩ := wp_bind h
    refine ⟨v_2, e_3, _, rfl, fun hn_1 => ?_⟩
    show PZ alM mX12_goesOn (2) Q 7 [(0, .ref 5000), (1, .int x1)] [.int v_2, .int x1] σ
    refine PW_icmp_ge (pc' := 10) (tgt := 70) (pw_dk dc_X12_goesOn 5 rfl) rfl (by decide) (fun c_4 => ?_) (fun c_4 => ?_)
    · rw [if_pos c_4] at h
      refine PW_iconst (pc' := 71) (v := 0) (pw_dk dc_X12_goesOn 40 rfl) rfl (by decide) ?_
      refine PW_istore_n (pc' := 72) (lv' := [(1, .int 0), (0, .ref 5000)]) (pw_dk dc_X12_goesOn 41 rfl) rfl rfl (by decide) rfl ?_
      refine PW_sub (lv' := [(0, .ref 5000), (1, .int 0)]) [1, 0] rfl ?_
      exact b_X12_goesOn_72 FU 0 σ h
    · rw [if_neg c_4] at h
      refine PW_aload_n (pc' := 11) (q := 0) (pw_dk dc_X12_goesOn 6 rfl) rfl rfl rfl ?_
      refine PW_getR (pc' := 14) (id := 5000) (ci := 12) (nn := 0) (C0 := RX12) (T := TX12) (N := 62) (j := 60) (r := 5061) (pw_dk dc_X12_goesOn 7 rfl) rfl me_5000 rfl pi_12 (by decide) fk_12_60 tw_1457 (rfl) (by decide) ?_
      refine PW_iload_n (pc' := 15) (q := 1) (pw_dk dc_X12_goesOn 8 rfl) rfl rfl rfl ?_
      obtain ⟨v_5, hi_6, e_7, h⟩ := wp_rdIx h
      refine PZ_zaldx (pc' := 16) (v := v_5) (id := 5061) (nn := 192) (pw_dk dc_X12_goesOn 9 rfl) rfl me_5061 hi_6 e_7 ?_
      refine PW_istore_n (pc' := 17) (lv' := [(2, .int v_5), (0, .ref 5000), (1, .int x1)]) (pw_dk dc_X12_goesOn 10 rfl) rfl rfl (by decide) rfl ?_
      refine PW_iconst (pc' := 18) (v := 0) (pw_dk dc_X12_goesOn 11 rfl) rfl (by decide) ?_
      refine PW_istore_n (pc' := 19) (lv' := [(3, .int 0), (2, .int v_5), (0, .ref 5000), (1, .int x1)]) (pw_dk dc_X12_goesOn 12 rfl) rfl rfl (by decide) rfl ?_
      refine PW_sub (lv' := [(0, .ref 5000), (1, .int x1), (2, .int v_5), (3, .int 0)]) [2, 3, 1, 0] rfl ?_
      exact b_X12_goesOn_19 (f_X12_goesOn_2 n) ih FU x1 v_5 0 σ h
def f_X12_goesOn  (σ : zS) : Option zS := 
  f_X12_goesOn_2 FU 0 σ
theorem t_X12_goesOn (σ : zS) (Q : Option Value → zS → Prop) (h : wpO (f_X12_goesOn σ) (fun s => Q none s)) : PK alM yX12_goesOn mX12_goesOn (2) [.ref 5000] σ Q := by
  refine PC_ofF (by decide +kernel) rfl rfl (Nat.le_of_ble_eq_true rfl) ?_
  show PZ alM mX12_goesOn (2) Q 0 [(0, .ref 5000)] [] σ
  unfold f_X12_goesOn at h
  refine PW_iconst (pc' := 1) (v := 0) (pw_dk dc_X12_goesOn 0 rfl) rfl (by decide) ?_
  refine PW_istore_n (pc' := 2) (lv' := [(1, .int 0), (0, .ref 5000)]) (pw_dk dc_X12_goesOn 1 rfl) rfl rfl (by decide) rfl ?_
  refine PW_sub (lv' := [(0, .ref 5000), (1, .int 0)]) [1, 0] rfl ?_
  exact b_X12_goesOn_2 FU 0 σ h
def f_X12_isLeft_72 (r15 : Int32 → Int32 → Int32 → Int32 → zS → Option (Int32 × zS)) (x1 : Int32) (x2 : Int32) (x3 : Int32) (x4 : Int32) (σ : zS) : Option (Int32 × zS) := 
  r15 x1 x2 x3 (x4 + 1) σ
theorem b_X12_isLeft_72 {Q : Option Value → zS → Prop} (r15 : Int32 → Int32 → Int32 → Int32 → zS → Option (Int32 × zS)) (hr15 : ∀ (x1 : Int32) (x2 : Int32) (x3 : Int32) (x4 : Int32) (σ : zS), wpO (r15 x1 x2 x3 x4 σ) (fun a => Q (some (.int a.1)) a.2) → PZ alM mX12_isLeft (2) Q 15 [(0, .ref 5000), (1, .int x1), (2, .int x2), (3, .int x3), (4, .int x4)] [] σ) (x1 : Int32) (x2 : Int32) (x3 : Int32) (x4 : Int32) (σ : zS) (h : wpO (f_X12_isLeft_72 r15 x1 x2 x3 x4 σ) (fun a => Q (some (.int a.1)) a.2)) : PZ alM mX12_isLeft (2) Q 72 [(0, .ref 5000), (1, .int x1), (2, .int x2), (3, .int x3), (4, .int x4)] [] σ := by
  unfold f_X12_isLeft_72 at h
  refine PW_iinc (pc' := 75) (q := 4) (v := x4 + 1) (lv' := [(4, .int (x4 + 1)), (0, .ref 5000), (1, .int x1), (2, .int x2), (3, .int x3)]) (pw_dk dc_X12_isLeft 40 rfl) rfl rfl rfl (by decide) rfl ?_
  refine PW_goto (tgt := 15) (pw_dk dc_X12_isLeft 41 rfl) (by decide) ?_
  refine PW_sub (lv' := [(0, .ref 5000), (1, .int x1), (2, .int x2), (3, .int x3), (4, .int (x4 + 1))]) [1, 2, 3, 4, 0] rfl ?_
  exact hr15 x1 x2 x3 (x4 + 1) σ h
def f_X12_isLeft_89 (r4 : Int32 → Int32 → Int32 → zS → Option (Int32 × zS)) (x1 : Int32) (x2 : Int32) (x3 : Int32) (σ : zS) : Option (Int32 × zS) := 
  r4 x1 x2 (x3 + 1) σ
theorem b_X12_isLeft_89 {Q : Option Value → zS → Prop} (r4 : Int32 → Int32 → Int32 → zS → Option (Int32 × zS)) (hr4 : ∀ (x1 : Int32) (x2 : Int32) (x3 : Int32) (σ : zS), wpO (r4 x1 x2 x3 σ) (fun a => Q (some (.int a.1)) a.2) → PZ alM mX12_isLeft (2) Q 4 [(0, .ref 5000), (1, .int x1), (2, .int x2), (3, .int x3)] [] σ) (x1 : Int32) (x2 : Int32) (x3 : Int32) (σ : zS) (h : wpO (f_X12_isLeft_89 r4 x1 x2 x3 σ) (fun a => Q (some (.int a.1)) a.2)) : PZ alM mX12_isLeft (2) Q 89 [(0, .ref 5000), (1, .int x1), (2, .int x2), (3, .int x3)] [] σ := by
  unfold f_X12_isLeft_89 at h
  refine PW_iinc (pc' := 92) (q := 3) (v := x3 + 1) (lv' := [(3, .int (x3 + 1)), (0, .ref 5000), (1, .int x1), (2, .int x2)]) (pw_dk dc_X12_isLeft 49 rfl) rfl rfl rfl (by decide) rfl ?_
  refine PW_goto (tgt := 4) (pw_dk dc_X12_isLeft 50 rfl) (by decide) ?_
  refine PW_sub (lv' := [(0, .ref 5000), (1, .int x1), (2, .int x2), (3, .int (x3 + 1))]) [1, 2, 3, 0] rfl ?_
  exact hr4 x1 x2 (x3 + 1) σ h
def f_X12_isLeft_15 (r4 : Int32 → Int32 → Int32 → zS → Option (Int32 × zS)) : Nat → Int32 → Int32 → Int32 → Int32 → zS → Option (Int32 × zS)
  | 0, _, _, _, _, _ => none
  | n + 1, x1, x2, x3, x4, σ => 
    if (f_X12_knownMany σ) ≤ x4 then
      (rdI σ 5061 192 x3).bind fun v_3 =>
      if v_3 = 0 then
        f_X12_isLeft_89 r4 x1 x2 x3 σ
      else
        f_X12_isLeft_89 r4 x1 1 x3 σ
    else
      (f_X12_isKnown x4 σ).bind fun v_8 =>
      if v_8 = 0 then
        f_X12_isLeft_72 (f_X12_isLeft_15 r4 n) x1 x2 x3 x4 σ
      else
        (rdI σ 5056 24 x4).bind fun v_11 =>
        if v_11 = x1 then
          (rdI σ 5057 24 x4).bind fun v_15 =>
          (rdI σ 5058 24 x4).bind fun v_19 =>
          if (f_X12_placeOf x3 v_15 σ) = v_19 then
            f_X12_isLeft_72 (f_X12_isLeft_15 r4 n) x1 x2 x3 x4 σ
          else
            (wrZ σ 5061 192 x3 0).bind fun σ_23 =>
            f_X12_isLeft_72 (f_X12_isLeft_15 r4 n) x1 x2 x3 x4 σ_23
        else
          f_X12_isLeft_72 (f_X12_isLeft_15 r4 n) x1 x2 x3 x4 σ
theorem b_X12_isLeft_15 {Q : Option Value → zS → Prop} (r4 : Int32 → Int32 → Int32 → zS → Option (Int32 × zS)) (hr4 : ∀ (x1 : Int32) (x2 : Int32) (x3 : Int32) (σ : zS), wpO (r4 x1 x2 x3 σ) (fun a => Q (some (.int a.1)) a.2) → PZ alM mX12_isLeft (2) Q 4 [(0, .ref 5000), (1, .int x1), (2, .int x2), (3, .int x3)] [] σ) : ∀ (n : Nat) (x1 : Int32) (x2 : Int32) (x3 : Int32) (x4 : Int32) (σ : zS) (h : wpO (f_X12_isLeft_15 r4 n x1 x2 x3 x4 σ) (fun a => Q (some (.int a.1)) a.2)), PZ alM mX12_isLeft (2) Q 15 [(0, .ref 5000), (1, .int x1), (2, .int x2), (3, .int x3), (4, .int x4)] [] σ := by
  intro n
  induction n with
  | zero => intro x1 x2 x3 x4 σ h; exact wp_none h
  | succ n ih =>
    intro x1 x2 x3 x4 σ h
    rw [f_X12_isLeft_15] at h
    refine PW_iload (pc' := 17) (q := 4) (pw_dk dc_X12_isLeft 10 rfl) rfl rfl ?_
    refine PW_aload_n (pc' := 18) (q := 0) (pw_dk dc_X12_isLeft 11 rfl) rfl rfl rfl ?_
    refine PZ_callVi (pc' := 21) (y := yX12_knownMany) (M' := mX12_knownMany) (d' := 0) (As := []) (st := [.int x4]) (b := 5000) (ci := 12) (nn := 0) me_5000 rfl tw_2014 tw_111 (pw_dk dc_X12_isLeft 12 rfl) rfl Y_X12_knownMany tw_2012 rfl (by decide) (Nat.le_of_ble_eq_true rfl) (t_X12_knownMany σ _ ?_)
    refine ⟨_, rfl, fun hn_1 => ?_⟩
    show PZ alM mX12_isLeft (2) Q 21 [(0, .ref 5000), (1, .int x1), (2, .int x2), (3, .int x3), (4, .int x4)] [.int (f_X12_knownMany σ), .int x4] σ
    refine PW_icmp_ge (pc' := 24) (tgt := 78) (pw_dk dc_X12_isLeft 13 rfl) rfl (by decide) (fun c_2 => ?_) (fun c_2 => ?_)
    · rw [if_pos c_2] at h
      refine PW_aload_n (pc' := 79) (q := 0) (pw_dk dc_X12_isLeft 42 rfl) rfl rfl rfl ?_
      refine PW_getR (pc' := 82) (id := 5000) (ci := 12) (nn := 0) (C0 := RX12) (T := TX12) (N := 62) (j := 60) (r := 5061) (pw_dk dc_X12_isLeft 43 rfl) rfl me_5000 rfl pi_12 (by decide) fk_12_60 tw_1457 (rfl) (by decide) ?_
      refine PW_iload_n (pc' := 83) (q := 3) (pw_dk dc_X12_isLeft 44 rfl) rfl rfl rfl ?_
      obtain ⟨v_3, hi_4, e_5, h⟩ := wp_rdIx h
      refine PZ_zaldx (pc' := 84) (v := v_3) (id := 5061) (nn := 192) (pw_dk dc_X12_isLeft 45 rfl) rfl me_5061 hi_4 e_5 ?_
      refine PW_if_eq (pc' := 87) (tgt := 89) (pw_dk dc_X12_isLeft 46 rfl) rfl (by decide) (fun c_6 => ?_) (fun c_6 => ?_)
      · rw [if_pos c_6] at h
        refine PW_sub (lv' := [(0, .ref 5000), (1, .int x1), (2, .int x2), (3, .int x3)]) [0, 1, 2, 3] rfl ?_
        exact b_X12_isLeft_89 r4 hr4 x1 x2 x3 σ h
      · rw [if_neg c_6] at h
        refine PW_iconst (pc' := 88) (v := 1) (pw_dk dc_X12_isLeft 47 rfl) rfl (by decide) ?_
        refine PW_istore_n (pc' := 89) (lv' := [(2, .int 1), (0, .ref 5000), (1, .int x1), (3, .int x3), (4, .int x4)]) (pw_dk dc_X12_isLeft 48 rfl) rfl rfl (by decide) rfl ?_
        refine PW_sub (lv' := [(0, .ref 5000), (1, .int x1), (2, .int 1), (3, .int x3)]) [1, 2, 0, 3] rfl ?_
        exact b_X12_isLeft_89 r4 hr4 x1 1 x3 σ h
    · rw [if_neg c_2] at h
      refine PW_aload_n (pc' := 25) (q := 0) (pw_dk dc_X12_isLeft 14 rfl) rfl rfl rfl ?_
      refine PW_iload (pc' := 27) (q := 4) (pw_dk dc_X12_isLeft 15 rfl) rfl rfl ?_
      refine PZ_callVi (pc' := 30) (y := yX12_isKnown) (M' := mX12_isKnown) (d' := 0) (As := [.int x4]) (st := []) (b := 5000) (ci := 12) (nn := 0) me_5000 rfl tw_2018 tw_112 (pw_dk dc_X12_isLeft 16 rfl) rfl Y_X12_isKnown tw_2016 rfl (by decide) (Nat.le_of_ble_eq_true rfl) (t_X12_isKnown x4 σ _ ?_)
      obtain ⟨v_8, e_9, h⟩ := wp_bind h
      refine ⟨v_8, e_9, _, rfl, fun hn_7 => ?_⟩
      show PZ alM mX12_isLeft (2) Q 30 [(0, .ref 5000), (1, .int x1), (2, .int x2), (3, .int x3), (4, .int x4)] [.int v_8] σ
      refine PW_if_eq (pc' := 33) (tgt := 72) (pw_dk dc_X12_isLeft 17 rfl) rfl (by decide) (fun c_10 => ?_) (fun c_10 => ?_)
      · rw [if_pos c_10] at h
        exact b_X12_isLeft_72 (f_X12_isLeft_15 r4 n) ih x1 x2 x3 x4 σ h
      · rw [if_neg c_10] at h
        refine PW_aload_n (pc' := 34) (q := 0) (pw_dk dc_X12_isLeft 18 rfl) rfl rfl rfl ?_
        refine PW_getR (pc' := 37) (id := 5000) (ci := 12) (nn := 0) (C0 := RX12) (T := TX12) (N := 62) (j := 55) (r := 5056) (pw_dk dc_X12_isLeft 19 rfl) rfl me_5000 rfl pi_12 (by decide) fk_12_55 tw_1452 (rfl) (by decide) ?_
        refine PW_iload (pc' := 39) (q := 4) (pw_dk dc_X12_isLeft 20 rfl) rfl rfl ?_
        obtain ⟨v_11, hi_12, e_13, h⟩ := wp_rdIx h
        refine PZ_ialdx (pc' := 40) (v := v_11) (id := 5056) (nn := 24) (pw_dk dc_X12_isLeft 21 rfl) rfl me_5056 hi_12 e_13 ?_
        refine PW_iload_n (pc' := 41) (q := 1) (pw_dk dc_X12_isLeft 22 rfl) rfl rfl rfl ?_
        refine PW_icmp_ne (pc' := 44) (tgt := 72) (pw_dk dc_X12_isLeft 23 rfl) rfl (by decide) (fun c_14 => ?_) (fun c_14 => ?_)
        · rw [if_neg c_14] at h
          exact b_X12_isLeft_72 (f_X12_isLeft_15 r4 n) ih x1 x2 x3 x4 σ h
        · rw [if_pos c_14] at h
          refine PW_iload_n (pc' := 45) (q := 3) (pw_dk dc_X12_isLeft 24 rfl) rfl rfl rfl ?_
          refine PW_aload_n (pc' := 46) (q := 0) (pw_dk dc_X12_isLeft 25 rfl) rfl rfl rfl ?_
          refine PW_getR (pc' := 49) (id := 5000) (ci := 12) (nn := 0) (C0 := RX12) (T := TX12) (N := 62) (j := 56) (r := 5057) (pw_dk dc_X12_isLeft 26 rfl) rfl me_5000 rfl pi_12 (by decide) fk_12_56 tw_1453 (rfl) (by decide) ?_
          refine PW_iload (pc' := 51) (q := 4) (pw_dk dc_X12_isLeft 27 rfl) rfl rfl ?_
          obtain ⟨v_15, hi_16, e_17, h⟩ := wp_rdIx h
          refine PZ_ialdx (pc' := 52) (v := v_15) (id := 5057) (nn := 24) (pw_dk dc_X12_isLeft 28 rfl) rfl me_5057 hi_16 e_17 ?_
          refine PZ_callSi (pc' := 55) (y := yX12_placeOf) (M' := mX12_placeOf) (d' := 1) (As := [.int x3, .int v_15]) (st := []) tw_1766 (pw_dk dc_X12_isLeft 29 rfl) rfl Y_X12_placeOf tw_1765 rfl (by decide) (Nat.le_of_ble_eq_true rfl) (t_X12_placeOf x3 v_15 σ _ ?_)
          refine ⟨_, rfl, fun hn_18 => ?_⟩
          show PZ alM mX12_isLeft (2) Q 55 [(0, .ref 5000), (1, .int x1), (2, .int x2), (3, .int x3), (4, .int x4)] [.int (f_X12_placeOf x3 v_15 σ)] σ
          refine PW_aload_n (pc' := 56) (q := 0) (pw_dk dc_X12_isLeft 30 rfl) rfl rfl rfl ?_
          refine PW_getR (pc' := 59) (id := 5000) (ci := 12) (nn := 0) (C0 := RX12) (T := TX12) (N := 62) (j := 57) (r := 5058) (pw_dk dc_X12_isLeft 31 rfl) rfl me_5000 rfl pi_12 (by decide) fk_12_57 tw_1454 (rfl) (by decide) ?_
          refine PW_iload (pc' := 61) (q := 4) (pw_dk dc_X12_isLeft 32 rfl) rfl rfl ?_
          obtain ⟨v_19, hi_20, e_21, h⟩ := wp_rdIx h
          refine PZ_ialdx (pc' := 62) (v := v_19) (id := 5058) (nn := 24) (pw_dk dc_X12_isLeft 33 rfl) rfl me_5058 hi_20 e_21 ?_
          refine PW_icmp_eq (pc' := 65) (tgt := 72) (pw_dk dc_X12_isLeft 34 rfl) rfl (by decide) (fun c_22 => ?_) (fun c_22 => ?_)
          · rw [if_pos c_22] at h
            exact b_X12_isLeft_72 (f_X12_isLeft_15 r4 n) ih x1 x2 x3 x4 σ h
          · rw [if_neg c_22] at h
            refine PW_aload_n (pc' := 66) (q := 0) (pw_dk dc_X12_isLeft 35 rfl) rfl rfl rfl ?_
            refine PW_getR (pc' := 69) (id := 5000) (ci := 12) (nn := 0) (C0 := RX12) (T := TX12) (N := 62) (j := 60) (r := 5061) (pw_dk dc_X12_isLeft 36 rfl) rfl me_5000 rfl pi_12 (by decide) fk_12_60 tw_1457 (rfl) (by decide) ?_
            refine PW_iload_n (pc' := 70) (q := 3) (pw_dk dc_X12_isLeft 37 rfl) rfl rfl rfl ?_
            refine PW_iconst (pc' := 71) (v := 0) (pw_dk dc_X12_isLeft 38 rfl) rfl (by decide) ?_
            obtain ⟨σ_23, hi_24, e_25, h⟩ := wp_wrZx h
            refine PZ_zastx (pc' := 72) (σ' := σ_23) (id := 5061) (nn := 192) (pw_dk dc_X12_isLeft 39 rfl) rfl me_5061 hi_24 e_25 ?_
            exact b_X12_isLeft_72 (f_X12_isLeft_15 r4 n) ih x1 x2 x3 x4 σ_23 h
def f_X12_isLeft_4  : Nat → Int32 → Int32 → Int32 → zS → Option (Int32 × zS)
  | 0, _, _, _, _ => none
  | n + 1, x1, x2, x3, σ => 
    (f_X12_statesMany σ).bind fun v_2 =>
    if v_2 ≤ x3 then
      some (x2 &&& 1, σ)
    else
      f_X12_isLeft_15 (f_X12_isLeft_4 n) FU x1 x2 x3 0 σ
theorem b_X12_isLeft_4 {Q : Option Value → zS → Prop} : ∀ (n : Nat) (x1 : Int32) (x2 : Int32) (x3 : Int32) (σ : zS) (h : wpO (f_X12_isLeft_4 n x1 x2 x3 σ) (fun a => Q (some (.int a.1)) a.2)), PZ alM mX12_isLeft (2) Q 4 [(0, .ref 5000), (1, .int x1), (2, .int x2), (3, .int x3)] [] σ := by
  intro n
  induction n with
  | zero => intro x1 x2 x3 σ h; exact wp_none h
  | succ n ih =>
    intro x1 x2 x3 σ h
    rw [f_X12_isLeft_4] at h
    refine PW_iload_n (pc' := 5) (q := 3) (pw_dk dc_X12_isLeft 4 rfl) rfl rfl rfl ?_
    refine PW_aload_n (pc' := 6) (q := 0) (pw_dk dc_X12_isLeft 5 rfl) rfl rfl rfl ?_
    refine PZ_callVi (pc' := 9) (y := yX12_statesMany) (M' := mX12_statesMany) (d' := 0) (As := []) (st := [.int x3]) (b := 5000) (ci := 12) (nn := 0) me_5000 rfl tw_1889 tw_96 (pw_dk dc_X12_isLeft 6 rfl) rfl Y_X12_statesMany tw_1887 rfl (by decide) (Nat.le_of_ble_eq_true rfl) (t_X12_statesMany σ _ ?_)
    obtain ⟨v_2, e_3, h⟩ := wp_bind h
    refine ⟨v_2, e_3, _, rfl, fun hn_1 => ?_⟩
    show PZ alM mX12_isLeft (2) Q 9 [(0, .ref 5000), (1, .int x1), (2, .int x2), (3, .int x3)] [.int v_2, .int x3] σ
    refine PW_icmp_ge (pc' := 12) (tgt := 95) (pw_dk dc_X12_isLeft 7 rfl) rfl (by decide) (fun c_4 => ?_) (fun c_4 => ?_)
    · rw [if_pos c_4] at h
      refine PW_iload_n (pc' := 96) (q := 2) (pw_dk dc_X12_isLeft 51 rfl) rfl rfl rfl ?_
      have z := wp_some h
      exact PZ_iretB (pw_dk dc_X12_isLeft 52 rfl) rfl z
    · rw [if_neg c_4] at h
      refine PW_iconst (pc' := 13) (v := 0) (pw_dk dc_X12_isLeft 8 rfl) rfl (by decide) ?_
      refine PW_istore (pc' := 15) (lv' := [(4, .int 0), (0, .ref 5000), (1, .int x1), (2, .int x2), (3, .int x3)]) (pw_dk dc_X12_isLeft 9 rfl) rfl (by decide) rfl ?_
      refine PW_sub (lv' := [(0, .ref 5000), (1, .int x1), (2, .int x2), (3, .int x3), (4, .int 0)]) [1, 2, 3, 4, 0] rfl ?_
      exact b_X12_isLeft_15 (f_X12_isLeft_4 n) ih FU x1 x2 x3 0 σ h
def f_X12_isLeft (x1 : Int32) (σ : zS) : Option (Int32 × zS) := 
  f_X12_isLeft_4 FU x1 0 0 σ
theorem t_X12_isLeft (x1 : Int32) (σ : zS) (Q : Option Value → zS → Prop) (h : wpO (f_X12_isLeft x1 σ) (fun a => Q (some (.int a.1)) a.2)) : PK alM yX12_isLeft mX12_isLeft (2) [.ref 5000, .int x1] σ Q := by
  refine PC_ofF (by decide +kernel) rfl rfl (Nat.le_of_ble_eq_true rfl) ?_
  show PZ alM mX12_isLeft (2) Q 0 [(0, .ref 5000), (1, .int x1)] [] σ
  unfold f_X12_isLeft at h
  refine PW_iconst (pc' := 1) (v := 0) (pw_dk dc_X12_isLeft 0 rfl) rfl (by decide) ?_
  refine PW_istore_n (pc' := 2) (lv' := [(2, .int 0), (0, .ref 5000), (1, .int x1)]) (pw_dk dc_X12_isLeft 1 rfl) rfl rfl (by decide) rfl ?_
  refine PW_iconst (pc' := 3) (v := 0) (pw_dk dc_X12_isLeft 2 rfl) rfl (by decide) ?_
  refine PW_istore_n (pc' := 4) (lv' := [(3, .int 0), (2, .int 0), (0, .ref 5000), (1, .int x1)]) (pw_dk dc_X12_isLeft 3 rfl) rfl rfl (by decide) rfl ?_
  refine PW_sub (lv' := [(0, .ref 5000), (1, .int x1), (2, .int 0), (3, .int 0)]) [2, 3, 1, 0] rfl ?_
  exact b_X12_isLeft_4 FU x1 0 0 σ h
def f_X12_couldBe_29 (r2 : Int32 → Int32 → Int32 → zS → Option (Int32 × zS)) (x1 : Int32) (x2 : Int32) (x3 : Int32) (s1 : Int32) (s2 : Int32) (σ : zS) : Option (Int32 × zS) := 
  (wrZ σ 5061 192 s1 s2).bind fun σ_1 =>
  r2 x1 x2 (x3 + 1) σ_1
theorem b_X12_couldBe_29 {Q : Option Value → zS → Prop} (r2 : Int32 → Int32 → Int32 → zS → Option (Int32 × zS)) (hr2 : ∀ (x1 : Int32) (x2 : Int32) (x3 : Int32) (σ : zS), wpO (r2 x1 x2 x3 σ) (fun a => Q (some (.int a.1)) a.2) → PZ alM mX12_couldBe (3) Q 2 [(0, .ref 5000), (1, .int x1), (2, .int x2), (3, .int x3)] [] σ) (x1 : Int32) (x2 : Int32) (x3 : Int32) (s1 : Int32) (s2 : Int32) (σ : zS) (h : wpO (f_X12_couldBe_29 r2 x1 x2 x3 s1 s2 σ) (fun a => Q (some (.int a.1)) a.2)) : PZ alM mX12_couldBe (3) Q 29 [(0, .ref 5000), (1, .int x1), (2, .int x2), (3, .int x3)] [.int s2, .int s1, .ref 5061] σ := by
  unfold f_X12_couldBe_29 at h
  obtain ⟨σ_1, hi_2, e_3, h⟩ := wp_wrZx h
  refine PZ_zastx (pc' := 30) (σ' := σ_1) (id := 5061) (nn := 192) (pw_dk dc_X12_couldBe 17 rfl) rfl me_5061 hi_2 e_3 ?_
  refine PW_iinc (pc' := 33) (q := 3) (v := x3 + 1) (lv' := [(3, .int (x3 + 1)), (0, .ref 5000), (1, .int x1), (2, .int x2)]) (pw_dk dc_X12_couldBe 18 rfl) rfl rfl rfl (by decide) rfl ?_
  refine PW_goto (tgt := 2) (pw_dk dc_X12_couldBe 19 rfl) (by decide) ?_
  refine PW_sub (lv' := [(0, .ref 5000), (1, .int x1), (2, .int x2), (3, .int (x3 + 1))]) [1, 2, 3, 0] rfl ?_
  exact hr2 x1 x2 (x3 + 1) σ_1 h
def f_X12_couldBe_51 (r38 : Int32 → Int32 → zS → Option (Int32 × zS)) (x2 : Int32) (x3 : Int32) (σ : zS) : Option (Int32 × zS) := 
  b2 (f_X12_isLeft x3 σ) fun v_3 σ_2 =>
  if v_3 = 0 then
    some (0, σ_2)
  else
    r38 x2 (x3 + 1) σ_2
theorem b_X12_couldBe_51 {Q : Option Value → zS → Prop} (r38 : Int32 → Int32 → zS → Option (Int32 × zS)) (hr38 : ∀ (x2 : Int32) (x3 : Int32) (σ : zS), wpO (r38 x2 x3 σ) (fun a => Q (some (.int a.1)) a.2) → PZ alM mX12_couldBe (3) Q 38 [(0, .ref 5000), (2, .int x2), (3, .int x3)] [] σ) (x2 : Int32) (x3 : Int32) (σ : zS) (h : wpO (f_X12_couldBe_51 r38 x2 x3 σ) (fun a => Q (some (.int a.1)) a.2)) : PZ alM mX12_couldBe (3) Q 51 [(0, .ref 5000), (2, .int x2), (3, .int x3)] [] σ := by
  unfold f_X12_couldBe_51 at h
  refine PW_aload_n (pc' := 52) (q := 0) (pw_dk dc_X12_couldBe 29 rfl) rfl rfl rfl ?_
  refine PW_iload_n (pc' := 53) (q := 2) (pw_dk dc_X12_couldBe 30 rfl) rfl rfl rfl ?_
  refine PZ_callVi (pc' := 56) (y := yX12_isLeft) (M' := mX12_isLeft) (d' := 2) (As := [.int x3]) (st := []) (b := 5000) (ci := 12) (nn := 0) me_5000 rfl tw_2031 tw_115 (pw_dk dc_X12_couldBe 31 rfl) rfl Y_X12_isLeft tw_2029 rfl (by decide) (Nat.le_of_ble_eq_true rfl) (t_X12_isLeft x3 σ _ ?_)
  obtain ⟨⟨v_3, σ_2⟩, e_4, h⟩ := wp_bind2 h
  refine ⟨(v_3, σ_2), e_4, _, rfl, fun hn_1 => ?_⟩
  show PZ alM mX12_couldBe (3) Q 56 [(0, .ref 5000), (2, .int x2), (3, .int x3)] [.int v_3] σ_2
  refine PW_if_ne (pc' := 59) (tgt := 61) (pw_dk dc_X12_couldBe 32 rfl) rfl (by decide) (fun c_5 => ?_) (fun c_5 => ?_)
  · rw [if_neg c_5] at h
    refine PW_iinc (pc' := 64) (q := 2) (v := x3 + 1) (lv' := [(3, .int (x3 + 1)), (0, .ref 5000), (2, .int x2)]) (pw_dk dc_X12_couldBe 35 rfl) rfl rfl rfl (by decide) rfl ?_
    refine PW_goto (tgt := 38) (pw_dk dc_X12_couldBe 36 rfl) (by decide) ?_
    refine PW_sub (lv' := [(0, .ref 5000), (2, .int x2), (3, .int (x3 + 1))]) [1, 2, 0] rfl ?_
    exact hr38 x2 (x3 + 1) σ_2 h
  · rw [if_pos c_5] at h
    refine PW_iconst (pc' := 60) (v := 0) (pw_dk dc_X12_couldBe 33 rfl) rfl (by decide) ?_
    have z := wp_some h
    exact PZ_iret (ty := .boolean) (pw_dk dc_X12_couldBe 34 rfl) rfl (by decide) z
def f_X12_couldBe_38  : Nat → Int32 → Int32 → zS → Option (Int32 × zS)
  | 0, _, _, _ => none
  | n + 1, x2, x3, σ => 
    if x2 < x3 then
      some (1, σ)
    else
      if x3 ≤ 0 then
        f_X12_couldBe_51 (f_X12_couldBe_38 n) x2 x3 σ
      else
        (f_X12_goesOn σ).bind fun σ_4 =>
        f_X12_couldBe_51 (f_X12_couldBe_38 n) x2 x3 σ_4
theorem b_X12_couldBe_38 {Q : Option Value → zS → Prop} : ∀ (n : Nat) (x2 : Int32) (x3 : Int32) (σ : zS) (h : wpO (f_X12_couldBe_38 n x2 x3 σ) (fun a => Q (some (.int a.1)) a.2)), PZ alM mX12_couldBe (3) Q 38 [(0, .ref 5000), (2, .int x2), (3, .int x3)] [] σ := by
  intro n
  induction n with
  | zero => intro x2 x3 σ h; exact wp_none h
  | succ n ih =>
    intro x2 x3 σ h
    rw [f_X12_couldBe_38] at h
    refine PW_iload_n (pc' := 39) (q := 2) (pw_dk dc_X12_couldBe 22 rfl) rfl rfl rfl ?_
    refine PW_iload_n (pc' := 40) (q := 1) (pw_dk dc_X12_couldBe 23 rfl) rfl rfl rfl ?_
    refine PW_icmp_gt (pc' := 43) (tgt := 67) (pw_dk dc_X12_couldBe 24 rfl) rfl (by decide) (fun c_1 => ?_) (fun c_1 => ?_)
    · rw [if_pos c_1] at h
      refine PW_iconst (pc' := 68) (v := 1) (pw_dk dc_X12_couldBe 37 rfl) rfl (by decide) ?_
      have z := wp_some h
      exact PZ_iret (ty := .boolean) (pw_dk dc_X12_couldBe 38 rfl) rfl (by decide) z
    · rw [if_neg c_1] at h
      refine PW_iload_n (pc' := 44) (q := 2) (pw_dk dc_X12_couldBe 25 rfl) rfl rfl rfl ?_
      refine PW_if_le (pc' := 47) (tgt := 51) (pw_dk dc_X12_couldBe 26 rfl) rfl (by decide) (fun c_2 => ?_) (fun c_2 => ?_)
      · rw [if_pos c_2] at h
        exact b_X12_couldBe_51 (f_X12_couldBe_38 n) ih x2 x3 σ h
      · rw [if_neg c_2] at h
        refine PW_aload_n (pc' := 48) (q := 0) (pw_dk dc_X12_couldBe 27 rfl) rfl rfl rfl ?_
        refine PZ_callVv (pc' := 51) (y := yX12_goesOn) (M' := mX12_goesOn) (d' := 2) (As := []) (st := []) (b := 5000) (ci := 12) (nn := 0) me_5000 rfl tw_2027 tw_114 (pw_dk dc_X12_couldBe 28 rfl) rfl Y_X12_goesOn tw_2025 rfl (by decide) (Nat.le_of_ble_eq_true rfl) (t_X12_goesOn σ _ ?_)
        obtain ⟨σ_4, e_5, h⟩ := wp_bind h
        refine ⟨σ_4, e_5, rfl, fun hn_3 => ?_⟩
        show PZ alM mX12_couldBe (3) Q 51 [(0, .ref 5000), (2, .int x2), (3, .int x3)] [] σ_4
        exact b_X12_couldBe_51 (f_X12_couldBe_38 n) ih x2 x3 σ_4 h
def f_X12_couldBe_2  : Nat → Int32 → Int32 → Int32 → zS → Option (Int32 × zS)
  | 0, _, _, _, _ => none
  | n + 1, x1, x2, x3, σ => 
    (f_X12_statesMany σ).bind fun v_2 =>
    if v_2 ≤ x3 then
      f_X12_couldBe_38 FU x2 0 σ
    else
      (f_X12_firstState x1 σ).bind fun v_6 =>
      if x3 = v_6 then
        f_X12_couldBe_29 (f_X12_couldBe_2 n) x1 x2 x3 x3 1 σ
      else
        f_X12_couldBe_29 (f_X12_couldBe_2 n) x1 x2 x3 x3 0 σ
theorem b_X12_couldBe_2 {Q : Option Value → zS → Prop} : ∀ (n : Nat) (x1 : Int32) (x2 : Int32) (x3 : Int32) (σ : zS) (h : wpO (f_X12_couldBe_2 n x1 x2 x3 σ) (fun a => Q (some (.int a.1)) a.2)), PZ alM mX12_couldBe (3) Q 2 [(0, .ref 5000), (1, .int x1), (2, .int x2), (3, .int x3)] [] σ := by
  intro n
  induction n with
  | zero => intro x1 x2 x3 σ h; exact wp_none h
  | succ n ih =>
    intro x1 x2 x3 σ h
    rw [f_X12_couldBe_2] at h
    refine PW_iload_n (pc' := 3) (q := 3) (pw_dk dc_X12_couldBe 2 rfl) rfl rfl rfl ?_
    refine PW_aload_n (pc' := 4) (q := 0) (pw_dk dc_X12_couldBe 3 rfl) rfl rfl rfl ?_
    refine PZ_callVi (pc' := 7) (y := yX12_statesMany) (M' := mX12_statesMany) (d' := 0) (As := []) (st := [.int x3]) (b := 5000) (ci := 12) (nn := 0) me_5000 rfl tw_1889 tw_96 (pw_dk dc_X12_couldBe 4 rfl) rfl Y_X12_statesMany tw_1887 rfl (by decide) (Nat.le_of_ble_eq_true rfl) (t_X12_statesMany σ _ ?_)
    obtain ⟨v_2, e_3, h⟩ := wp_bind h
    refine ⟨v_2, e_3, _, rfl, fun hn_1 => ?_⟩
    show PZ alM mX12_couldBe (3) Q 7 [(0, .ref 5000), (1, .int x1), (2, .int x2), (3, .int x3)] [.int v_2, .int x3] σ
    refine PW_icmp_ge (pc' := 10) (tgt := 36) (pw_dk dc_X12_couldBe 5 rfl) rfl (by decide) (fun c_4 => ?_) (fun c_4 => ?_)
    · rw [if_pos c_4] at h
      refine PW_iconst (pc' := 37) (v := 0) (pw_dk dc_X12_couldBe 20 rfl) rfl (by decide) ?_
      refine PW_istore_n (pc' := 38) (lv' := [(3, .int 0), (0, .ref 5000), (1, .int x1), (2, .int x2)]) (pw_dk dc_X12_couldBe 21 rfl) rfl rfl (by decide) rfl ?_
      refine PW_sub (lv' := [(0, .ref 5000), (2, .int x2), (3, .int 0)]) [1, 3, 0] rfl ?_
      exact b_X12_couldBe_38 FU x2 0 σ h
    · rw [if_neg c_4] at h
      refine PW_aload_n (pc' := 11) (q := 0) (pw_dk dc_X12_couldBe 6 rfl) rfl rfl rfl ?_
      refine PW_getR (pc' := 14) (id := 5000) (ci := 12) (nn := 0) (C0 := RX12) (T := TX12) (N := 62) (j := 60) (r := 5061) (pw_dk dc_X12_couldBe 7 rfl) rfl me_5000 rfl pi_12 (by decide) fk_12_60 tw_1457 (rfl) (by decide) ?_
      refine PW_iload_n (pc' := 15) (q := 3) (pw_dk dc_X12_couldBe 8 rfl) rfl rfl rfl ?_
      refine PW_iload_n (pc' := 16) (q := 3) (pw_dk dc_X12_couldBe 9 rfl) rfl rfl rfl ?_
      refine PW_aload_n (pc' := 17) (q := 0) (pw_dk dc_X12_couldBe 10 rfl) rfl rfl rfl ?_
      refine PW_iload_n (pc' := 18) (q := 1) (pw_dk dc_X12_couldBe 11 rfl) rfl rfl rfl ?_
      refine PZ_callVi (pc' := 21) (y := yX12_firstState) (M' := mX12_firstState) (d' := 0) (As := [.int x1]) (st := [.int x3, .int x3, .ref 5061]) (b := 5000) (ci := 12) (nn := 0) me_5000 rfl tw_1395 tw_47 (pw_dk dc_X12_couldBe 12 rfl) rfl Y_X12_firstState tw_1393 rfl (by decide) (Nat.le_of_ble_eq_true rfl) (t_X12_firstState x1 σ _ ?_)
      obtain ⟨v_6, e_7, h⟩ := wp_bind h
      refine ⟨v_6, e_7, _, rfl, fun hn_5 => ?_⟩
      show PZ alM mX12_couldBe (3) Q 21 [(0, .ref 5000), (1, .int x1), (2, .int x2), (3, .int x3)] [.int v_6, .int x3, .int x3, .ref 5061] σ
      refine PW_icmp_ne (pc' := 24) (tgt := 28) (pw_dk dc_X12_couldBe 13 rfl) rfl (by decide) (fun c_8 => ?_) (fun c_8 => ?_)
      · rw [if_neg c_8] at h
        refine PW_iconst (pc' := 29) (v := 0) (pw_dk dc_X12_couldBe 16 rfl) rfl (by decide) ?_
        exact b_X12_couldBe_29 (f_X12_couldBe_2 n) ih x1 x2 x3 x3 0 σ h
      · rw [if_pos c_8] at h
        refine PW_iconst (pc' := 25) (v := 1) (pw_dk dc_X12_couldBe 14 rfl) rfl (by decide) ?_
        refine PW_goto (tgt := 29) (pw_dk dc_X12_couldBe 15 rfl) (by decide) ?_
        exact b_X12_couldBe_29 (f_X12_couldBe_2 n) ih x1 x2 x3 x3 1 σ h
def f_X12_couldBe (x1 : Int32) (x2 : Int32) (σ : zS) : Option (Int32 × zS) := 
  f_X12_couldBe_2 FU x1 x2 0 σ
theorem t_X12_couldBe (x1 : Int32) (x2 : Int32) (σ : zS) (Q : Option Value → zS → Prop) (h : wpO (f_X12_couldBe x1 x2 σ) (fun a => Q (some (.int a.1)) a.2)) : PK alM yX12_couldBe mX12_couldBe (3) [.ref 5000, .int x1, .int x2] σ Q := by
  refine PC_ofF (by decide +kernel) rfl rfl (Nat.le_of_ble_eq_true rfl) ?_
  show PZ alM mX12_couldBe (3) Q 0 [(0, .ref 5000), (1, .int x1), (2, .int x2)] [] σ
  unfold f_X12_couldBe at h
  refine PW_iconst (pc' := 1) (v := 0) (pw_dk dc_X12_couldBe 0 rfl) rfl (by decide) ?_
  refine PW_istore_n (pc' := 2) (lv' := [(3, .int 0), (0, .ref 5000), (1, .int x1), (2, .int x2)]) (pw_dk dc_X12_couldBe 1 rfl) rfl rfl (by decide) rfl ?_
  refine PW_sub (lv' := [(0, .ref 5000), (1, .int x1), (2, .int x2), (3, .int 0)]) [1, 2, 3, 0] rfl ?_
  exact b_X12_couldBe_2 FU x1 x2 0 σ h
def f_X12_whose_70 (r35 : Int32 → zS → Option (Int32 × zS)) (x1 : Int32) (σ : zS) : Option (Int32 × zS) := 
  r35 (x1 + (-1 : Int32)) σ
theorem b_X12_whose_70 {Q : Option Value → zS → Prop} (r35 : Int32 → zS → Option (Int32 × zS)) (hr35 : ∀ (x1 : Int32) (σ : zS), wpO (r35 x1 σ) (fun a => Q (some (.int a.1)) a.2) → PZ alM mX12_whose (4) Q 35 [(0, .ref 5000), (1, .int x1)] [] σ) (x1 : Int32) (σ : zS) (h : wpO (f_X12_whose_70 r35 x1 σ) (fun a => Q (some (.int a.1)) a.2)) : PZ alM mX12_whose (4) Q 70 [(0, .ref 5000), (1, .int x1)] [] σ := by
  unfold f_X12_whose_70 at h
  refine PW_iinc (pc' := 73) (q := 1) (v := x1 + (-1 : Int32)) (lv' := [(1, .int (x1 + (-1 : Int32))), (0, .ref 5000)]) (pw_dk dc_X12_whose 42 rfl) rfl rfl rfl (by decide) rfl ?_
  refine PW_goto (tgt := 35) (pw_dk dc_X12_whose 43 rfl) (by decide) ?_
  refine PW_sub (lv' := [(0, .ref 5000), (1, .int (x1 + (-1 : Int32)))]) [1, 0] rfl ?_
  exact hr35 (x1 + (-1 : Int32)) σ h
def f_X12_whose_107 (r80 : Int32 → Int32 → zS → Option (Int32 × zS)) (x1 : Int32) (x2 : Int32) (σ : zS) : Option (Int32 × zS) := 
  r80 x1 (x2 + 1) σ
theorem b_X12_whose_107 {Q : Option Value → zS → Prop} (r80 : Int32 → Int32 → zS → Option (Int32 × zS)) (hr80 : ∀ (x1 : Int32) (x2 : Int32) (σ : zS), wpO (r80 x1 x2 σ) (fun a => Q (some (.int a.1)) a.2) → PZ alM mX12_whose (4) Q 80 [(0, .ref 5000), (1, .int x1), (2, .int x2)] [] σ) (x1 : Int32) (x2 : Int32) (σ : zS) (h : wpO (f_X12_whose_107 r80 x1 x2 σ) (fun a => Q (some (.int a.1)) a.2)) : PZ alM mX12_whose (4) Q 107 [(0, .ref 5000), (1, .int x1), (2, .int x2)] [] σ := by
  unfold f_X12_whose_107 at h
  refine PW_iinc (pc' := 110) (q := 2) (v := x2 + 1) (lv' := [(2, .int (x2 + 1)), (0, .ref 5000), (1, .int x1)]) (pw_dk dc_X12_whose 63 rfl) rfl rfl rfl (by decide) rfl ?_
  refine PW_goto (tgt := 80) (pw_dk dc_X12_whose 64 rfl) (by decide) ?_
  refine PW_sub (lv' := [(0, .ref 5000), (1, .int x1), (2, .int (x2 + 1))]) [1, 2, 0] rfl ?_
  exact hr80 x1 (x2 + 1) σ h
def f_X12_whose_144 (r117 : Int32 → Int32 → Int32 → zS → Option (Int32 × zS)) (x1 : Int32) (x3 : Int32) (s0 : Int32) (s1 : Int32) (σ : zS) : Option (Int32 × zS) := 
  lt (α := Int32) (s0 ||| s1) fun x2_1 =>
  r117 x1 x2_1 (x3 + 1) σ
theorem b_X12_whose_144 {Q : Option Value → zS → Prop} (r117 : Int32 → Int32 → Int32 → zS → Option (Int32 × zS)) (hr117 : ∀ (x1 : Int32) (x2 : Int32) (x3 : Int32) (σ : zS), wpO (r117 x1 x2 x3 σ) (fun a => Q (some (.int a.1)) a.2) → PZ alM mX12_whose (4) Q 117 [(0, .ref 5000), (1, .int x1), (2, .int x2), (3, .int x3)] [] σ) (x1 : Int32) (x3 : Int32) (s0 : Int32) (s1 : Int32) (σ : zS) (h : wpO (f_X12_whose_144 r117 x1 x3 s0 s1 σ) (fun a => Q (some (.int a.1)) a.2)) : PZ alM mX12_whose (4) Q 144 [(0, .ref 5000), (1, .int x1), (3, .int x3)] [.int s1, .int s0] σ := by
  unfold f_X12_whose_144 at h
  refine PW_ior (pc' := 145) (pw_dk dc_X12_whose 86 rfl) rfl ?_
  refine PW_topi (fun x2_1 ex2_1 => ?_)
  replace h := lt_w h ex2_1
  refine PW_istore_n (pc' := 146) (lv' := [(2, .int x2_1), (0, .ref 5000), (1, .int x1), (3, .int x3)]) (pw_dk dc_X12_whose 87 rfl) rfl rfl (by decide) rfl ?_
  refine PW_iinc (pc' := 149) (q := 3) (v := x3 + 1) (lv' := [(3, .int (x3 + 1)), (2, .int x2_1), (0, .ref 5000), (1, .int x1)]) (pw_dk dc_X12_whose 88 rfl) rfl rfl rfl (by decide) rfl ?_
  refine PW_goto (tgt := 117) (pw_dk dc_X12_whose 89 rfl) (by decide) ?_
  refine PW_sub (lv' := [(0, .ref 5000), (1, .int x1), (2, .int x2_1), (3, .int (x3 + 1))]) [2, 3, 1, 0] rfl ?_
  exact hr117 x1 x2_1 (x3 + 1) σ h
def f_X12_whose_117  : Nat → Int32 → Int32 → Int32 → zS → Option (Int32 × zS)
  | 0, _, _, _, _ => none
  | n + 1, x1, x2, x3, σ => 
    (rdI σ 5004 16 2).bind fun v_1 =>
    if v_1 ≤ x3 then
      some (x2, σ)
    else
      b2 (f_X12_couldBe x3 x1 σ) fun v_7 σ_6 =>
      if v_7 = 0 then
        f_X12_whose_144 (f_X12_whose_117 n) x1 x3 x2 0 σ_6
      else
        f_X12_whose_144 (f_X12_whose_117 n) x1 x3 x2 ((1 : Int32) <<< (x3 &&& 31)) σ_6
theorem b_X12_whose_117 {Q : Option Value → zS → Prop} : ∀ (n : Nat) (x1 : Int32) (x2 : Int32) (x3 : Int32) (σ : zS) (h : wpO (f_X12_whose_117 n x1 x2 x3 σ) (fun a => Q (some (.int a.1)) a.2)), PZ alM mX12_whose (4) Q 117 [(0, .ref 5000), (1, .int x1), (2, .int x2), (3, .int x3)] [] σ := by
  intro n
  induction n with
  | zero => intro x1 x2 x3 σ h; exact wp_none h
  | succ n ih =>
    intro x1 x2 x3 σ h
    rw [f_X12_whose_117] at h
    refine PW_iload_n (pc' := 118) (q := 3) (pw_dk dc_X12_whose 69 rfl) rfl rfl rfl ?_
    refine PW_aload_n (pc' := 119) (q := 0) (pw_dk dc_X12_whose 70 rfl) rfl rfl rfl ?_
    refine PW_getR (pc' := 122) (id := 5000) (ci := 12) (nn := 0) (C0 := RX12) (T := TX12) (N := 62) (j := 3) (r := 5004) (pw_dk dc_X12_whose 71 rfl) rfl me_5000 rfl pi_12 (by decide) fk_12_3 tw_1400 (rfl) (by decide) ?_
    refine PW_iconst (pc' := 123) (v := 2) (pw_dk dc_X12_whose 72 rfl) rfl (by decide) ?_
    obtain ⟨v_1, hi_2, e_3, h⟩ := wp_rdIx h
    refine PZ_ialdx (pc' := 124) (v := v_1) (id := 5004) (nn := 16) (pw_dk dc_X12_whose 73 rfl) rfl me_5004 hi_2 e_3 ?_
    refine PW_icmp_ge (pc' := 127) (tgt := 152) (pw_dk dc_X12_whose 74 rfl) rfl (by decide) (fun c_4 => ?_) (fun c_4 => ?_)
    · rw [if_pos c_4] at h
      refine PW_iload_n (pc' := 153) (q := 2) (pw_dk dc_X12_whose 90 rfl) rfl rfl rfl ?_
      have z := wp_some h
      exact PZ_iret (ty := .int) (pw_dk dc_X12_whose 91 rfl) rfl rfl z
    · rw [if_neg c_4] at h
      refine PW_iload_n (pc' := 128) (q := 2) (pw_dk dc_X12_whose 75 rfl) rfl rfl rfl ?_
      refine PW_aload_n (pc' := 129) (q := 0) (pw_dk dc_X12_whose 76 rfl) rfl rfl rfl ?_
      refine PW_iload_n (pc' := 130) (q := 3) (pw_dk dc_X12_whose 77 rfl) rfl rfl rfl ?_
      refine PW_iload_n (pc' := 131) (q := 1) (pw_dk dc_X12_whose 78 rfl) rfl rfl rfl ?_
      refine PZ_callVi (pc' := 134) (y := yX12_couldBe) (M' := mX12_couldBe) (d' := 3) (As := [.int x3, .int x1]) (st := [.int x2]) (b := 5000) (ci := 12) (nn := 0) me_5000 rfl tw_2023 tw_113 (pw_dk dc_X12_whose 79 rfl) rfl Y_X12_couldBe tw_2021 rfl (by decide) (Nat.le_of_ble_eq_true rfl) (t_X12_couldBe x3 x1 σ _ ?_)
      obtain ⟨⟨v_7, σ_6⟩, e_8, h⟩ := wp_bind2 h
      refine ⟨(v_7, σ_6), e_8, _, rfl, fun hn_5 => ?_⟩
      show PZ alM mX12_whose (4) Q 134 [(0, .ref 5000), (1, .int x1), (2, .int x2), (3, .int x3)] [.int v_7, .int x2] σ_6
      refine PW_if_eq (pc' := 137) (tgt := 143) (pw_dk dc_X12_whose 80 rfl) rfl (by decide) (fun c_9 => ?_) (fun c_9 => ?_)
      · rw [if_pos c_9] at h
        refine PW_iconst (pc' := 144) (v := 0) (pw_dk dc_X12_whose 85 rfl) rfl (by decide) ?_
        refine PW_sub (lv' := [(0, .ref 5000), (1, .int x1), (3, .int x3)]) [0, 1, 3] rfl ?_
        exact b_X12_whose_144 (f_X12_whose_117 n) ih x1 x3 x2 0 σ_6 h
      · rw [if_neg c_9] at h
        refine PW_iconst (pc' := 138) (v := 1) (pw_dk dc_X12_whose 81 rfl) rfl (by decide) ?_
        refine PW_iload_n (pc' := 139) (q := 3) (pw_dk dc_X12_whose 82 rfl) rfl rfl rfl ?_
        refine PW_ishl (pc' := 140) (pw_dk dc_X12_whose 83 rfl) rfl ?_
        refine PW_goto (tgt := 144) (pw_dk dc_X12_whose 84 rfl) (by decide) ?_
        refine PW_sub (lv' := [(0, .ref 5000), (1, .int x1), (3, .int x3)]) [0, 1, 3] rfl ?_
        exact b_X12_whose_144 (f_X12_whose_117 n) ih x1 x3 x2 ((1 : Int32) <<< (x3 &&& 31)) σ_6 h
def f_X12_whose_80  : Nat → Int32 → Int32 → zS → Option (Int32 × zS)
  | 0, _, _, _ => none
  | n + 1, x1, x2, σ => 
    if (f_X12_knownMany σ) ≤ x2 then
      f_X12_whose_117 FU x1 0 0 σ
    else
      (f_X12_isKnown x2 σ).bind fun v_4 =>
      if v_4 = 0 then
        f_X12_whose_107 (f_X12_whose_80 n) x1 x2 σ
      else
        (rdI σ 5056 24 x2).bind fun v_7 =>
        lt (α := Int32) (f_J9_max_7cf53 x1 v_7 σ) fun x1_11 =>
        f_X12_whose_107 (f_X12_whose_80 n) x1_11 x2 σ
theorem b_X12_whose_80 {Q : Option Value → zS → Prop} : ∀ (n : Nat) (x1 : Int32) (x2 : Int32) (σ : zS) (h : wpO (f_X12_whose_80 n x1 x2 σ) (fun a => Q (some (.int a.1)) a.2)), PZ alM mX12_whose (4) Q 80 [(0, .ref 5000), (1, .int x1), (2, .int x2)] [] σ := by
  intro n
  induction n with
  | zero => intro x1 x2 σ h; exact wp_none h
  | succ n ih =>
    intro x1 x2 σ h
    rw [f_X12_whose_80] at h
    refine PW_iload_n (pc' := 81) (q := 2) (pw_dk dc_X12_whose 48 rfl) rfl rfl rfl ?_
    refine PW_aload_n (pc' := 82) (q := 0) (pw_dk dc_X12_whose 49 rfl) rfl rfl rfl ?_
    refine PZ_callVi (pc' := 85) (y := yX12_knownMany) (M' := mX12_knownMany) (d' := 0) (As := []) (st := [.int x2]) (b := 5000) (ci := 12) (nn := 0) me_5000 rfl tw_2014 tw_111 (pw_dk dc_X12_whose 50 rfl) rfl Y_X12_knownMany tw_2012 rfl (by decide) (Nat.le_of_ble_eq_true rfl) (t_X12_knownMany σ _ ?_)
    refine ⟨_, rfl, fun hn_1 => ?_⟩
    show PZ alM mX12_whose (4) Q 85 [(0, .ref 5000), (1, .int x1), (2, .int x2)] [.int (f_X12_knownMany σ), .int x2] σ
    refine PW_icmp_ge (pc' := 88) (tgt := 113) (pw_dk dc_X12_whose 51 rfl) rfl (by decide) (fun c_2 => ?_) (fun c_2 => ?_)
    · rw [if_pos c_2] at h
      refine PW_iconst (pc' := 114) (v := 0) (pw_dk dc_X12_whose 65 rfl) rfl (by decide) ?_
      refine PW_istore_n (pc' := 115) (lv' := [(2, .int 0), (0, .ref 5000), (1, .int x1)]) (pw_dk dc_X12_whose 66 rfl) rfl rfl (by decide) rfl ?_
      refine PW_iconst (pc' := 116) (v := 0) (pw_dk dc_X12_whose 67 rfl) rfl (by decide) ?_
      refine PW_istore_n (pc' := 117) (lv' := [(3, .int 0), (2, .int 0), (0, .ref 5000), (1, .int x1)]) (pw_dk dc_X12_whose 68 rfl) rfl rfl (by decide) rfl ?_
      refine PW_sub (lv' := [(0, .ref 5000), (1, .int x1), (2, .int 0), (3, .int 0)]) [2, 3, 1, 0] rfl ?_
      exact b_X12_whose_117 FU x1 0 0 σ h
    · rw [if_neg c_2] at h
      refine PW_aload_n (pc' := 89) (q := 0) (pw_dk dc_X12_whose 52 rfl) rfl rfl rfl ?_
      refine PW_iload_n (pc' := 90) (q := 2) (pw_dk dc_X12_whose 53 rfl) rfl rfl rfl ?_
      refine PZ_callVi (pc' := 93) (y := yX12_isKnown) (M' := mX12_isKnown) (d' := 0) (As := [.int x2]) (st := []) (b := 5000) (ci := 12) (nn := 0) me_5000 rfl tw_2018 tw_112 (pw_dk dc_X12_whose 54 rfl) rfl Y_X12_isKnown tw_2016 rfl (by decide) (Nat.le_of_ble_eq_true rfl) (t_X12_isKnown x2 σ _ ?_)
      obtain ⟨v_4, e_5, h⟩ := wp_bind h
      refine ⟨v_4, e_5, _, rfl, fun hn_3 => ?_⟩
      show PZ alM mX12_whose (4) Q 93 [(0, .ref 5000), (1, .int x1), (2, .int x2)] [.int v_4] σ
      refine PW_if_eq (pc' := 96) (tgt := 107) (pw_dk dc_X12_whose 55 rfl) rfl (by decide) (fun c_6 => ?_) (fun c_6 => ?_)
      · rw [if_pos c_6] at h
        exact b_X12_whose_107 (f_X12_whose_80 n) ih x1 x2 σ h
      · rw [if_neg c_6] at h
        refine PW_iload_n (pc' := 97) (q := 1) (pw_dk dc_X12_whose 56 rfl) rfl rfl rfl ?_
        refine PW_aload_n (pc' := 98) (q := 0) (pw_dk dc_X12_whose 57 rfl) rfl rfl rfl ?_
        refine PW_getR (pc' := 101) (id := 5000) (ci := 12) (nn := 0) (C0 := RX12) (T := TX12) (N := 62) (j := 55) (r := 5056) (pw_dk dc_X12_whose 58 rfl) rfl me_5000 rfl pi_12 (by decide) fk_12_55 tw_1452 (rfl) (by decide) ?_
        refine PW_iload_n (pc' := 102) (q := 2) (pw_dk dc_X12_whose 59 rfl) rfl rfl rfl ?_
        obtain ⟨v_7, hi_8, e_9, h⟩ := wp_rdIx h
        refine PZ_ialdx (pc' := 103) (v := v_7) (id := 5056) (nn := 24) (pw_dk dc_X12_whose 60 rfl) rfl me_5056 hi_8 e_9 ?_
        refine PZ_callSi (pc' := 106) (y := yJ9_max_7cf53) (M' := mJ9_max_7cf53) (d' := 0) (As := [.int x1, .int v_7]) (st := []) tw_737 (pw_dk dc_X12_whose 61 rfl) rfl Y_J9_max_7cf53 tw_2020 rfl (by decide) (Nat.le_of_ble_eq_true rfl) (t_J9_max_7cf53 alM x1 v_7 σ _ ?_)
        refine ⟨_, rfl, fun hn_10 => ?_⟩
        show PZ alM mX12_whose (4) Q 106 [(0, .ref 5000), (1, .int x1), (2, .int x2)] [.int (f_J9_max_7cf53 x1 v_7 σ)] σ
        refine PW_topi (fun x1_11 ex1_11 => ?_)
        replace h := lt_w h ex1_11
        refine PW_istore_n (pc' := 107) (lv' := [(1, .int x1_11), (0, .ref 5000), (2, .int x2)]) (pw_dk dc_X12_whose 62 rfl) rfl rfl (by decide) rfl ?_
        refine PW_sub (lv' := [(0, .ref 5000), (1, .int x1_11), (2, .int x2)]) [1, 0, 2] rfl ?_
        exact b_X12_whose_107 (f_X12_whose_80 n) ih x1_11 x2 σ h
def f_X12_whose_35  : Nat → Int32 → zS → Option (Int32 × zS)
  | 0, _, _ => none
  | n + 1, x1, σ => 
    if x1 < 0 then
      f_X12_whose_80 FU (-1 : Int32) 0 σ
    else
      (rdI σ 5060 24 x1).bind fun v_2 =>
      if v_2 = 0 then
        (rdI σ 5059 24 x1).bind fun v_6 =>
        if v_6 = (-1 : Int32) then
          f_X12_whose_70 (f_X12_whose_35 n) x1 σ
        else
          (rdI σ 5059 24 x1).bind fun v_10 =>
          (wrZ σ 5060 24 v_10 1).bind fun σ_13 =>
          f_X12_whose_70 (f_X12_whose_35 n) x1 σ_13
      else
        f_X12_whose_70 (f_X12_whose_35 n) x1 σ
theorem b_X12_whose_35 {Q : Option Value → zS → Prop} : ∀ (n : Nat) (x1 : Int32) (σ : zS) (h : wpO (f_X12_whose_35 n x1 σ) (fun a => Q (some (.int a.1)) a.2)), PZ alM mX12_whose (4) Q 35 [(0, .ref 5000), (1, .int x1)] [] σ := by
  intro n
  induction n with
  | zero => intro x1 σ h; exact wp_none h
  | succ n ih =>
    intro x1 σ h
    rw [f_X12_whose_35] at h
    refine PW_iload_n (pc' := 36) (q := 1) (pw_dk dc_X12_whose 21 rfl) rfl rfl rfl ?_
    refine PW_if_lt (pc' := 39) (tgt := 76) (pw_dk dc_X12_whose 22 rfl) rfl (by decide) (fun c_1 => ?_) (fun c_1 => ?_)
    · rw [if_pos c_1] at h
      refine PW_iconst (pc' := 77) (v := (-1 : Int32)) (pw_dk dc_X12_whose 44 rfl) rfl (by decide) ?_
      refine PW_istore_n (pc' := 78) (lv' := [(1, .int (-1 : Int32)), (0, .ref 5000)]) (pw_dk dc_X12_whose 45 rfl) rfl rfl (by decide) rfl ?_
      refine PW_iconst (pc' := 79) (v := 0) (pw_dk dc_X12_whose 46 rfl) rfl (by decide) ?_
      refine PW_istore_n (pc' := 80) (lv' := [(2, .int 0), (1, .int (-1 : Int32)), (0, .ref 5000)]) (pw_dk dc_X12_whose 47 rfl) rfl rfl (by decide) rfl ?_
      refine PW_sub (lv' := [(0, .ref 5000), (1, .int (-1 : Int32)), (2, .int 0)]) [2, 1, 0] rfl ?_
      exact b_X12_whose_80 FU (-1 : Int32) 0 σ h
    · rw [if_neg c_1] at h
      refine PW_aload_n (pc' := 40) (q := 0) (pw_dk dc_X12_whose 23 rfl) rfl rfl rfl ?_
      refine PW_getR (pc' := 43) (id := 5000) (ci := 12) (nn := 0) (C0 := RX12) (T := TX12) (N := 62) (j := 59) (r := 5060) (pw_dk dc_X12_whose 24 rfl) rfl me_5000 rfl pi_12 (by decide) fk_12_59 tw_1456 (rfl) (by decide) ?_
      refine PW_iload_n (pc' := 44) (q := 1) (pw_dk dc_X12_whose 25 rfl) rfl rfl rfl ?_
      obtain ⟨v_2, hi_3, e_4, h⟩ := wp_rdIx h
      refine PZ_zaldx (pc' := 45) (v := v_2) (id := 5060) (nn := 24) (pw_dk dc_X12_whose 26 rfl) rfl me_5060 hi_3 e_4 ?_
      refine PW_if_ne (pc' := 48) (tgt := 70) (pw_dk dc_X12_whose 27 rfl) rfl (by decide) (fun c_5 => ?_) (fun c_5 => ?_)
      · rw [if_neg c_5] at h
        exact b_X12_whose_70 (f_X12_whose_35 n) ih x1 σ h
      · rw [if_pos c_5] at h
        refine PW_aload_n (pc' := 49) (q := 0) (pw_dk dc_X12_whose 28 rfl) rfl rfl rfl ?_
        refine PW_getR (pc' := 52) (id := 5000) (ci := 12) (nn := 0) (C0 := RX12) (T := TX12) (N := 62) (j := 58) (r := 5059) (pw_dk dc_X12_whose 29 rfl) rfl me_5000 rfl pi_12 (by decide) fk_12_58 tw_1455 (rfl) (by decide) ?_
        refine PW_iload_n (pc' := 53) (q := 1) (pw_dk dc_X12_whose 30 rfl) rfl rfl rfl ?_
        obtain ⟨v_6, hi_7, e_8, h⟩ := wp_rdIx h
        refine PZ_ialdx (pc' := 54) (v := v_6) (id := 5059) (nn := 24) (pw_dk dc_X12_whose 31 rfl) rfl me_5059 hi_7 e_8 ?_
        refine PW_iconst (pc' := 55) (v := (-1 : Int32)) (pw_dk dc_X12_whose 32 rfl) rfl (by decide) ?_
        refine PW_icmp_eq (pc' := 58) (tgt := 70) (pw_dk dc_X12_whose 33 rfl) rfl (by decide) (fun c_9 => ?_) (fun c_9 => ?_)
        · rw [if_pos c_9] at h
          exact b_X12_whose_70 (f_X12_whose_35 n) ih x1 σ h
        · rw [if_neg c_9] at h
          refine PW_aload_n (pc' := 59) (q := 0) (pw_dk dc_X12_whose 34 rfl) rfl rfl rfl ?_
          refine PW_getR (pc' := 62) (id := 5000) (ci := 12) (nn := 0) (C0 := RX12) (T := TX12) (N := 62) (j := 59) (r := 5060) (pw_dk dc_X12_whose 35 rfl) rfl me_5000 rfl pi_12 (by decide) fk_12_59 tw_1456 (rfl) (by decide) ?_
          refine PW_aload_n (pc' := 63) (q := 0) (pw_dk dc_X12_whose 36 rfl) rfl rfl rfl ?_
          refine PW_getR (pc' := 66) (id := 5000) (ci := 12) (nn := 0) (C0 := RX12) (T := TX12) (N := 62) (j := 58) (r := 5059) (pw_dk dc_X12_whose 37 rfl) rfl me_5000 rfl pi_12 (by decide) fk_12_58 tw_1455 (rfl) (by decide) ?_
          refine PW_iload_n (pc' := 67) (q := 1) (pw_dk dc_X12_whose 38 rfl) rfl rfl rfl ?_
          obtain ⟨v_10, hi_11, e_12, h⟩ := wp_rdIx h
          refine PZ_ialdx (pc' := 68) (v := v_10) (id := 5059) (nn := 24) (pw_dk dc_X12_whose 39 rfl) rfl me_5059 hi_11 e_12 ?_
          refine PW_iconst (pc' := 69) (v := 1) (pw_dk dc_X12_whose 40 rfl) rfl (by decide) ?_
          obtain ⟨σ_13, hi_14, e_15, h⟩ := wp_wrZx h
          refine PZ_zastx (pc' := 70) (σ' := σ_13) (id := 5060) (nn := 24) (pw_dk dc_X12_whose 41 rfl) rfl me_5060 hi_14 e_15 ?_
          exact b_X12_whose_70 (f_X12_whose_35 n) ih x1 σ_13 h
def f_X12_whose_7  : Nat → Int32 → zS → Option (Int32 × zS)
  | 0, _, _ => none
  | n + 1, x1, σ => 
    if (f_X12_knownMany σ) ≤ x1 then
      lt (α := Int32) ((f_X12_knownMany σ) - (1 : Int32)) fun x1_4 =>
      f_X12_whose_35 FU x1_4 σ
    else
      (wrZ σ 5060 24 x1 0).bind fun σ_5 =>
      f_X12_whose_7 n (x1 + 1) σ_5
theorem b_X12_whose_7 {Q : Option Value → zS → Prop} : ∀ (n : Nat) (x1 : Int32) (σ : zS) (h : wpO (f_X12_whose_7 n x1 σ) (fun a => Q (some (.int a.1)) a.2)), PZ alM mX12_whose (4) Q 7 [(0, .ref 5000), (1, .int x1)] [] σ := by
  intro n
  induction n with
  | zero => intro x1 σ h; exact wp_none h
  | succ n ih =>
    intro x1 σ h
    rw [f_X12_whose_7] at h
    refine PW_iload_n (pc' := 8) (q := 1) (pw_dk dc_X12_whose 5 rfl) rfl rfl rfl ?_
    refine PW_aload_n (pc' := 9) (q := 0) (pw_dk dc_X12_whose 6 rfl) rfl rfl rfl ?_
    refine PZ_callVi (pc' := 12) (y := yX12_knownMany) (M' := mX12_knownMany) (d' := 0) (As := []) (st := [.int x1]) (b := 5000) (ci := 12) (nn := 0) me_5000 rfl tw_2014 tw_111 (pw_dk dc_X12_whose 7 rfl) rfl Y_X12_knownMany tw_2012 rfl (by decide) (Nat.le_of_ble_eq_true rfl) (t_X12_knownMany σ _ ?_)
    refine ⟨_, rfl, fun hn_1 => ?_⟩
    show PZ alM mX12_whose (4) Q 12 [(0, .ref 5000), (1, .int x1)] [.int (f_X12_knownMany σ), .int x1] σ
    refine PW_icmp_ge (pc' := 15) (tgt := 28) (pw_dk dc_X12_whose 8 rfl) rfl (by decide) (fun c_2 => ?_) (fun c_2 => ?_)
    · rw [if_pos c_2] at h
      refine PW_aload_n (pc' := 29) (q := 0) (pw_dk dc_X12_whose 16 rfl) rfl rfl rfl ?_
      refine PZ_callVi (pc' := 32) (y := yX12_knownMany) (M' := mX12_knownMany) (d' := 0) (As := []) (st := []) (b := 5000) (ci := 12) (nn := 0) me_5000 rfl tw_2014 tw_111 (pw_dk dc_X12_whose 17 rfl) rfl Y_X12_knownMany tw_2012 rfl (by decide) (Nat.le_of_ble_eq_true rfl) (t_X12_knownMany σ _ ?_)
      refine ⟨_, rfl, fun hn_3 => ?_⟩
      show PZ alM mX12_whose (4) Q 32 [(0, .ref 5000), (1, .int x1)] [.int (f_X12_knownMany σ)] σ
      refine PW_iconst (pc' := 33) (v := 1) (pw_dk dc_X12_whose 18 rfl) rfl (by decide) ?_
      refine PW_isub (pc' := 34) (pw_dk dc_X12_whose 19 rfl) rfl ?_
      refine PW_topi (fun x1_4 ex1_4 => ?_)
      replace h := lt_w h ex1_4
      refine PW_istore_n (pc' := 35) (lv' := [(1, .int x1_4), (0, .ref 5000)]) (pw_dk dc_X12_whose 20 rfl) rfl rfl (by decide) rfl ?_
      refine PW_sub (lv' := [(0, .ref 5000), (1, .int x1_4)]) [1, 0] rfl ?_
      exact b_X12_whose_35 FU x1_4 σ h
    · rw [if_neg c_2] at h
      refine PW_aload_n (pc' := 16) (q := 0) (pw_dk dc_X12_whose 9 rfl) rfl rfl rfl ?_
      refine PW_getR (pc' := 19) (id := 5000) (ci := 12) (nn := 0) (C0 := RX12) (T := TX12) (N := 62) (j := 59) (r := 5060) (pw_dk dc_X12_whose 10 rfl) rfl me_5000 rfl pi_12 (by decide) fk_12_59 tw_1456 (rfl) (by decide) ?_
      refine PW_iload_n (pc' := 20) (q := 1) (pw_dk dc_X12_whose 11 rfl) rfl rfl rfl ?_
      refine PW_iconst (pc' := 21) (v := 0) (pw_dk dc_X12_whose 12 rfl) rfl (by decide) ?_
      obtain ⟨σ_5, hi_6, e_7, h⟩ := wp_wrZx h
      refine PZ_zastx (pc' := 22) (σ' := σ_5) (id := 5060) (nn := 24) (pw_dk dc_X12_whose 13 rfl) rfl me_5060 hi_6 e_7 ?_
      refine PW_iinc (pc' := 25) (q := 1) (v := x1 + 1) (lv' := [(1, .int (x1 + 1)), (0, .ref 5000)]) (pw_dk dc_X12_whose 14 rfl) rfl rfl rfl (by decide) rfl ?_
      refine PW_goto (tgt := 7) (pw_dk dc_X12_whose 15 rfl) (by decide) ?_
      refine PW_sub (lv' := [(0, .ref 5000), (1, .int (x1 + 1))]) [1, 0] rfl ?_
      exact ih (x1 + 1) σ_5 h
def f_X12_whose  (σ : zS) : Option (Int32 × zS) := 
  lt (wI σ 5000 0 0) fun σ_1 =>
  f_X12_whose_7 FU 0 σ_1
theorem t_X12_whose (σ : zS) (Q : Option Value → zS → Prop) (h : wpO (f_X12_whose σ) (fun a => Q (some (.int a.1)) a.2)) : PK alM yX12_whose mX12_whose (4) [.ref 5000] σ Q := by
  refine PC_ofF (by decide +kernel) rfl rfl (Nat.le_of_ble_eq_true rfl) ?_
  show PZ alM mX12_whose (4) Q 0 [(0, .ref 5000)] [] σ
  unfold f_X12_whose at h
  refine PW_aload_n (pc' := 1) (q := 0) (pw_dk dc_X12_whose 0 rfl) rfl rfl rfl ?_
  refine PW_iconst (pc' := 2) (v := 0) (pw_dk dc_X12_whose 1 rfl) rfl (by decide) ?_
  obtain ⟨σ_1, e_2, h⟩ := lt_x h
  refine PZ_putX (pc' := 5) (σ' := σ_1) (id := 5000) (ci := 12) (nn := 0) (C0 := RX12) (T := TX12) (N := 62) (j := 0) (ty := tyX12 0) (pw_dk dc_X12_whose 2 rfl) rfl me_5000 rfl pi_12 tyX12_ok nmX12 (by decide) fk_12_0 tw_1397 rfl (tyX12_ok 0 (by decide)) (by first | rfl | decide) (by first | rfl | decide) e_2 ?_
  refine PW_iconst (pc' := 6) (v := 0) (pw_dk dc_X12_whose 3 rfl) rfl (by decide) ?_
  refine PW_istore_n (pc' := 7) (lv' := [(1, .int 0), (0, .ref 5000)]) (pw_dk dc_X12_whose 4 rfl) rfl rfl (by decide) rfl ?_
  refine PW_sub (lv' := [(0, .ref 5000), (1, .int 0)]) [1, 0] rfl ?_
  exact b_X12_whose_7 FU 0 σ_1 h
def f_X12_draw (x1 : Int32) (σ : zS) : Option (Int32 × zS) := 
  (rdI σ 5040 23 1).bind fun v_1 =>
  (wrI σ 5040 23 1 (((v_1 * (1103515245 : Int32)) + (12345 : Int32)) &&& (2147483647 : Int32))).bind fun σ_4 =>
  (rdI σ_4 5040 23 1).bind fun v_7 =>
  if x1 = 0 then none else
  some ((v_7 >>> ((16 : Int32) &&& 31)) - (v_7 >>> ((16 : Int32) &&& 31)) / x1 * x1, σ_4)
theorem t_X12_draw (x1 : Int32) (σ : zS) (Q : Option Value → zS → Prop) (h : wpO (f_X12_draw x1 σ) (fun a => Q (some (.int a.1)) a.2)) : PK alM yX12_draw mX12_draw (0) [.ref 5000, .int x1] σ Q := by
  refine PC_ofF (by decide +kernel) rfl rfl (Nat.le_of_ble_eq_true rfl) ?_
  show PZ alM mX12_draw (0) Q 0 [(0, .ref 5000), (1, .int x1)] [] σ
  unfold f_X12_draw at h
  refine PW_aload_n (pc' := 1) (q := 0) (pw_dk dc_X12_draw 0 rfl) rfl rfl rfl ?_
  refine PW_getR (pc' := 4) (id := 5000) (ci := 12) (nn := 0) (C0 := RX12) (T := TX12) (N := 62) (j := 39) (r := 5040) (pw_dk dc_X12_draw 1 rfl) rfl me_5000 rfl pi_12 (by decide) fk_12_39 tw_1436 (rfl) (by decide) ?_
  refine PW_iconst (pc' := 5) (v := 1) (pw_dk dc_X12_draw 2 rfl) rfl (by decide) ?_
  refine PW_aload_n (pc' := 6) (q := 0) (pw_dk dc_X12_draw 3 rfl) rfl rfl rfl ?_
  refine PW_getR (pc' := 9) (id := 5000) (ci := 12) (nn := 0) (C0 := RX12) (T := TX12) (N := 62) (j := 39) (r := 5040) (pw_dk dc_X12_draw 4 rfl) rfl me_5000 rfl pi_12 (by decide) fk_12_39 tw_1436 (rfl) (by decide) ?_
  refine PW_iconst (pc' := 10) (v := 1) (pw_dk dc_X12_draw 5 rfl) rfl (by decide) ?_
  obtain ⟨v_1, hi_2, e_3, h⟩ := wp_rdIx h
  refine PZ_ialdx (pc' := 11) (v := v_1) (id := 5040) (nn := 23) (pw_dk dc_X12_draw 6 rfl) rfl me_5040 hi_2 e_3 ?_
  refine PW_ldcw (pc' := 14) (v := 1103515245) (pw_dk dc_X12_draw 7 rfl) rfl tw_2041 ?_
  refine PW_imul (pc' := 15) (pw_dk dc_X12_draw 8 rfl) rfl ?_
  refine PW_sipush (pc' := 18) (v := 12345) (pw_dk dc_X12_draw 9 rfl) rfl (by decide) ?_
  refine PW_iadd (pc' := 19) (pw_dk dc_X12_draw 10 rfl) rfl ?_
  refine PW_ldcw (pc' := 22) (v := 2147483647) (pw_dk dc_X12_draw 11 rfl) rfl tw_2042 ?_
  refine PW_iand (pc' := 23) (pw_dk dc_X12_draw 12 rfl) rfl ?_
  obtain ⟨σ_4, hi_5, e_6, h⟩ := wp_wrIx h
  refine PZ_iastx (pc' := 24) (σ' := σ_4) (id := 5040) (nn := 23) (pw_dk dc_X12_draw 13 rfl) rfl me_5040 hi_5 e_6 ?_
  refine PW_aload_n (pc' := 25) (q := 0) (pw_dk dc_X12_draw 14 rfl) rfl rfl rfl ?_
  refine PW_getR (pc' := 28) (id := 5000) (ci := 12) (nn := 0) (C0 := RX12) (T := TX12) (N := 62) (j := 39) (r := 5040) (pw_dk dc_X12_draw 15 rfl) rfl me_5000 rfl pi_12 (by decide) fk_12_39 tw_1436 (rfl) (by decide) ?_
  refine PW_iconst (pc' := 29) (v := 1) (pw_dk dc_X12_draw 16 rfl) rfl (by decide) ?_
  obtain ⟨v_7, hi_8, e_9, h⟩ := wp_rdIx h
  refine PZ_ialdx (pc' := 30) (v := v_7) (id := 5040) (nn := 23) (pw_dk dc_X12_draw 17 rfl) rfl me_5040 hi_8 e_9 ?_
  refine PW_bipush (pc' := 32) (v := 16) (pw_dk dc_X12_draw 18 rfl) rfl (by decide) ?_
  refine PW_ishr (pc' := 33) (pw_dk dc_X12_draw 19 rfl) rfl ?_
  refine PW_iload_n (pc' := 34) (q := 1) (pw_dk dc_X12_draw 20 rfl) rfl rfl rfl ?_
  obtain ⟨hz34, h⟩ := wp_dv h
  refine PW_irem (pc' := 35) (pw_dk dc_X12_draw 21 rfl) rfl hz34 ?_
  have z := wp_some h
  exact PZ_iret (ty := .int) (pw_dk dc_X12_draw 22 rfl) rfl rfl z
def f_X12_doneBy_54 (r5 : Int32 → Int32 → Int32 → Int32 → zS → Option Int32) (x1 : Int32) (x2 : Int32) (x4 : Int32) (s0 : Int32) (s1 : Int32) (σ : zS) : Option Int32 := 
  lt (α := Int32) (s0 + s1) fun x3_1 =>
  r5 x1 x2 x3_1 (x4 + 1) σ
theorem b_X12_doneBy_54 {Q : Option Value → zS → Prop} (r5 : Int32 → Int32 → Int32 → Int32 → zS → Option Int32) (hr5 : ∀ (x1 : Int32) (x2 : Int32) (x3 : Int32) (x4 : Int32) (σ : zS), wpO (r5 x1 x2 x3 x4 σ) (fun a => Q (some (.int a)) σ) → PZ alM mX12_doneBy (0) Q 5 [(0, .ref 5000), (1, .int x1), (2, .int x2), (3, .int x3), (4, .int x4)] [] σ) (x1 : Int32) (x2 : Int32) (x4 : Int32) (s0 : Int32) (s1 : Int32) (σ : zS) (h : wpO (f_X12_doneBy_54 r5 x1 x2 x4 s0 s1 σ) (fun a => Q (some (.int a)) σ)) : PZ alM mX12_doneBy (0) Q 54 [(0, .ref 5000), (1, .int x1), (2, .int x2), (4, .int x4)] [.int s1, .int s0] σ := by
  unfold f_X12_doneBy_54 at h
  refine PW_iadd (pc' := 55) (pw_dk dc_X12_doneBy 33 rfl) rfl ?_
  refine PW_topi (fun x3_1 ex3_1 => ?_)
  replace h := lt_w h ex3_1
  refine PW_istore_n (pc' := 56) (lv' := [(3, .int x3_1), (0, .ref 5000), (1, .int x1), (2, .int x2), (4, .int x4)]) (pw_dk dc_X12_doneBy 34 rfl) rfl rfl (by decide) rfl ?_
  refine PW_iinc (pc' := 59) (q := 4) (v := x4 + 1) (lv' := [(4, .int (x4 + 1)), (3, .int x3_1), (0, .ref 5000), (1, .int x1), (2, .int x2)]) (pw_dk dc_X12_doneBy 35 rfl) rfl rfl rfl (by decide) rfl ?_
  refine PW_goto (tgt := 5) (pw_dk dc_X12_doneBy 36 rfl) (by decide) ?_
  refine PW_sub (lv' := [(0, .ref 5000), (1, .int x1), (2, .int x2), (3, .int x3_1), (4, .int (x4 + 1))]) [2, 3, 4, 1, 0] rfl ?_
  exact hr5 x1 x2 x3_1 (x4 + 1) σ h
def f_X12_doneBy_49 (r5 : Int32 → Int32 → Int32 → Int32 → zS → Option Int32) (x1 : Int32) (x2 : Int32) (x4 : Int32) (s0 : Int32) (σ : zS) : Option Int32 := 
  f_X12_doneBy_54 r5 x1 x2 x4 s0 1 σ
theorem b_X12_doneBy_49 {Q : Option Value → zS → Prop} (r5 : Int32 → Int32 → Int32 → Int32 → zS → Option Int32) (hr5 : ∀ (x1 : Int32) (x2 : Int32) (x3 : Int32) (x4 : Int32) (σ : zS), wpO (r5 x1 x2 x3 x4 σ) (fun a => Q (some (.int a)) σ) → PZ alM mX12_doneBy (0) Q 5 [(0, .ref 5000), (1, .int x1), (2, .int x2), (3, .int x3), (4, .int x4)] [] σ) (x1 : Int32) (x2 : Int32) (x4 : Int32) (s0 : Int32) (σ : zS) (h : wpO (f_X12_doneBy_49 r5 x1 x2 x4 s0 σ) (fun a => Q (some (.int a)) σ)) : PZ alM mX12_doneBy (0) Q 49 [(0, .ref 5000), (1, .int x1), (2, .int x2), (4, .int x4)] [.int s0] σ := by
  unfold f_X12_doneBy_49 at h
  refine PW_iconst (pc' := 50) (v := 1) (pw_dk dc_X12_doneBy 30 rfl) rfl (by decide) ?_
  refine PW_goto (tgt := 54) (pw_dk dc_X12_doneBy 31 rfl) (by decide) ?_
  exact b_X12_doneBy_54 r5 hr5 x1 x2 x4 s0 1 σ h
def f_X12_doneBy_53 (r5 : Int32 → Int32 → Int32 → Int32 → zS → Option Int32) (x1 : Int32) (x2 : Int32) (x4 : Int32) (s0 : Int32) (σ : zS) : Option Int32 := 
  f_X12_doneBy_54 r5 x1 x2 x4 s0 0 σ
theorem b_X12_doneBy_53 {Q : Option Value → zS → Prop} (r5 : Int32 → Int32 → Int32 → Int32 → zS → Option Int32) (hr5 : ∀ (x1 : Int32) (x2 : Int32) (x3 : Int32) (x4 : Int32) (σ : zS), wpO (r5 x1 x2 x3 x4 σ) (fun a => Q (some (.int a)) σ) → PZ alM mX12_doneBy (0) Q 5 [(0, .ref 5000), (1, .int x1), (2, .int x2), (3, .int x3), (4, .int x4)] [] σ) (x1 : Int32) (x2 : Int32) (x4 : Int32) (s0 : Int32) (σ : zS) (h : wpO (f_X12_doneBy_53 r5 x1 x2 x4 s0 σ) (fun a => Q (some (.int a)) σ)) : PZ alM mX12_doneBy (0) Q 53 [(0, .ref 5000), (1, .int x1), (2, .int x2), (4, .int x4)] [.int s0] σ := by
  unfold f_X12_doneBy_53 at h
  refine PW_iconst (pc' := 54) (v := 0) (pw_dk dc_X12_doneBy 32 rfl) rfl (by decide) ?_
  exact b_X12_doneBy_54 r5 hr5 x1 x2 x4 s0 0 σ h
def f_X12_doneBy_5  : Nat → Int32 → Int32 → Int32 → Int32 → zS → Option Int32
  | 0, _, _, _, _, _ => none
  | n + 1, x1, x2, x3, x4, σ => 
    (rdI σ 5004 16 3).bind fun v_1 =>
    if v_1 ≤ x4 then
      some x3
    else
      (rdI σ 5045 276 (((12 : Int32) * x1) + x4)).bind fun v_5 =>
      if v_5 = 1 then
        if x2 = (-1 : Int32) then
          f_X12_doneBy_49 (f_X12_doneBy_5 n) x1 x2 x4 x3 σ
        else
          (rdI σ 5014 24 x4).bind fun v_10 =>
          if v_10 = x2 then
            f_X12_doneBy_49 (f_X12_doneBy_5 n) x1 x2 x4 x3 σ
          else
            f_X12_doneBy_53 (f_X12_doneBy_5 n) x1 x2 x4 x3 σ
      else
        f_X12_doneBy_53 (f_X12_doneBy_5 n) x1 x2 x4 x3 σ
theorem b_X12_doneBy_5 {Q : Option Value → zS → Prop} : ∀ (n : Nat) (x1 : Int32) (x2 : Int32) (x3 : Int32) (x4 : Int32) (σ : zS) (h : wpO (f_X12_doneBy_5 n x1 x2 x3 x4 σ) (fun a => Q (some (.int a)) σ)), PZ alM mX12_doneBy (0) Q 5 [(0, .ref 5000), (1, .int x1), (2, .int x2), (3, .int x3), (4, .int x4)] [] σ := by
  intro n
  induction n with
  | zero => intro x1 x2 x3 x4 σ h; exact wp_none h
  | succ n ih =>
    intro x1 x2 x3 x4 σ h
    rw [f_X12_doneBy_5] at h
    refine PW_iload (pc' := 7) (q := 4) (pw_dk dc_X12_doneBy 4 rfl) rfl rfl ?_
    refine PW_aload_n (pc' := 8) (q := 0) (pw_dk dc_X12_doneBy 5 rfl) rfl rfl rfl ?_
    refine PW_getR (pc' := 11) (id := 5000) (ci := 12) (nn := 0) (C0 := RX12) (T := TX12) (N := 62) (j := 3) (r := 5004) (pw_dk dc_X12_doneBy 6 rfl) rfl me_5000 rfl pi_12 (by decide) fk_12_3 tw_1400 (rfl) (by decide) ?_
    refine PW_iconst (pc' := 12) (v := 3) (pw_dk dc_X12_doneBy 7 rfl) rfl (by decide) ?_
    obtain ⟨v_1, hi_2, e_3, h⟩ := wp_rdIx h
    refine PZ_ialdx (pc' := 13) (v := v_1) (id := 5004) (nn := 16) (pw_dk dc_X12_doneBy 8 rfl) rfl me_5004 hi_2 e_3 ?_
    refine PW_icmp_ge (pc' := 16) (tgt := 62) (pw_dk dc_X12_doneBy 9 rfl) rfl (by decide) (fun c_4 => ?_) (fun c_4 => ?_)
    · rw [if_pos c_4] at h
      refine PW_iload_n (pc' := 63) (q := 3) (pw_dk dc_X12_doneBy 37 rfl) rfl rfl rfl ?_
      have z := wp_some h
      exact PZ_iret (ty := .int) (pw_dk dc_X12_doneBy 38 rfl) rfl rfl z
    · rw [if_neg c_4] at h
      refine PW_iload_n (pc' := 17) (q := 3) (pw_dk dc_X12_doneBy 10 rfl) rfl rfl rfl ?_
      refine PW_aload_n (pc' := 18) (q := 0) (pw_dk dc_X12_doneBy 11 rfl) rfl rfl rfl ?_
      refine PW_getR (pc' := 21) (id := 5000) (ci := 12) (nn := 0) (C0 := RX12) (T := TX12) (N := 62) (j := 44) (r := 5045) (pw_dk dc_X12_doneBy 12 rfl) rfl me_5000 rfl pi_12 (by decide) fk_12_44 tw_1441 (rfl) (by decide) ?_
      refine PW_bipush (pc' := 23) (v := 12) (pw_dk dc_X12_doneBy 13 rfl) rfl (by decide) ?_
      refine PW_iload_n (pc' := 24) (q := 1) (pw_dk dc_X12_doneBy 14 rfl) rfl rfl rfl ?_
      refine PW_imul (pc' := 25) (pw_dk dc_X12_doneBy 15 rfl) rfl ?_
      refine PW_iload (pc' := 27) (q := 4) (pw_dk dc_X12_doneBy 16 rfl) rfl rfl ?_
      refine PW_iadd (pc' := 28) (pw_dk dc_X12_doneBy 17 rfl) rfl ?_
      obtain ⟨v_5, hi_6, e_7, h⟩ := wp_rdIx h
      refine PZ_ialdx (pc' := 29) (v := v_5) (id := 5045) (nn := 276) (pw_dk dc_X12_doneBy 18 rfl) rfl me_5045 hi_6 e_7 ?_
      refine PW_iconst (pc' := 30) (v := 1) (pw_dk dc_X12_doneBy 19 rfl) rfl (by decide) ?_
      refine PW_icmp_ne (pc' := 33) (tgt := 53) (pw_dk dc_X12_doneBy 20 rfl) rfl (by decide) (fun c_8 => ?_) (fun c_8 => ?_)
      · rw [if_neg c_8] at h
        refine PW_sub (lv' := [(0, .ref 5000), (1, .int x1), (2, .int x2), (4, .int x4)]) [0, 1, 2, 4] rfl ?_
        exact b_X12_doneBy_53 (f_X12_doneBy_5 n) ih x1 x2 x4 x3 σ h
      · rw [if_pos c_8] at h
        refine PW_iload_n (pc' := 34) (q := 2) (pw_dk dc_X12_doneBy 21 rfl) rfl rfl rfl ?_
        refine PW_iconst (pc' := 35) (v := (-1 : Int32)) (pw_dk dc_X12_doneBy 22 rfl) rfl (by decide) ?_
        refine PW_icmp_eq (pc' := 38) (tgt := 49) (pw_dk dc_X12_doneBy 23 rfl) rfl (by decide) (fun c_9 => ?_) (fun c_9 => ?_)
        · rw [if_pos c_9] at h
          refine PW_sub (lv' := [(0, .ref 5000), (1, .int x1), (2, .int x2), (4, .int x4)]) [0, 1, 2, 4] rfl ?_
          exact b_X12_doneBy_49 (f_X12_doneBy_5 n) ih x1 x2 x4 x3 σ h
        · rw [if_neg c_9] at h
          refine PW_aload_n (pc' := 39) (q := 0) (pw_dk dc_X12_doneBy 24 rfl) rfl rfl rfl ?_
          refine PW_getR (pc' := 42) (id := 5000) (ci := 12) (nn := 0) (C0 := RX12) (T := TX12) (N := 62) (j := 13) (r := 5014) (pw_dk dc_X12_doneBy 25 rfl) rfl me_5000 rfl pi_12 (by decide) fk_12_13 tw_1410 (rfl) (by decide) ?_
          refine PW_iload (pc' := 44) (q := 4) (pw_dk dc_X12_doneBy 26 rfl) rfl rfl ?_
          obtain ⟨v_10, hi_11, e_12, h⟩ := wp_rdIx h
          refine PZ_ialdx (pc' := 45) (v := v_10) (id := 5014) (nn := 24) (pw_dk dc_X12_doneBy 27 rfl) rfl me_5014 hi_11 e_12 ?_
          refine PW_iload_n (pc' := 46) (q := 2) (pw_dk dc_X12_doneBy 28 rfl) rfl rfl rfl ?_
          refine PW_icmp_ne (pc' := 49) (tgt := 53) (pw_dk dc_X12_doneBy 29 rfl) rfl (by decide) (fun c_13 => ?_) (fun c_13 => ?_)
          · rw [if_neg c_13] at h
            refine PW_sub (lv' := [(0, .ref 5000), (1, .int x1), (2, .int x2), (4, .int x4)]) [0, 1, 2, 4] rfl ?_
            exact b_X12_doneBy_53 (f_X12_doneBy_5 n) ih x1 x2 x4 x3 σ h
          · rw [if_pos c_13] at h
            refine PW_sub (lv' := [(0, .ref 5000), (1, .int x1), (2, .int x2), (4, .int x4)]) [0, 1, 2, 4] rfl ?_
            exact b_X12_doneBy_49 (f_X12_doneBy_5 n) ih x1 x2 x4 x3 σ h
def f_X12_doneBy (x1 : Int32) (x2 : Int32) (σ : zS) : Option Int32 := 
  f_X12_doneBy_5 FU x1 x2 0 0 σ
theorem t_X12_doneBy (x1 : Int32) (x2 : Int32) (σ : zS) (Q : Option Value → zS → Prop) (h : wpO (f_X12_doneBy x1 x2 σ) (fun a => Q (some (.int a)) σ)) : PK alM yX12_doneBy mX12_doneBy (0) [.ref 5000, .int x1, .int x2] σ Q := by
  refine PC_ofF (by decide +kernel) rfl rfl (Nat.le_of_ble_eq_true rfl) ?_
  show PZ alM mX12_doneBy (0) Q 0 [(0, .ref 5000), (1, .int x1), (2, .int x2)] [] σ
  unfold f_X12_doneBy at h
  refine PW_iconst (pc' := 1) (v := 0) (pw_dk dc_X12_doneBy 0 rfl) rfl (by decide) ?_
  refine PW_istore_n (pc' := 2) (lv' := [(3, .int 0), (0, .ref 5000), (1, .int x1), (2, .int x2)]) (pw_dk dc_X12_doneBy 1 rfl) rfl rfl (by decide) rfl ?_
  refine PW_iconst (pc' := 3) (v := 0) (pw_dk dc_X12_doneBy 2 rfl) rfl (by decide) ?_
  refine PW_istore (pc' := 5) (lv' := [(4, .int 0), (3, .int 0), (0, .ref 5000), (1, .int x1), (2, .int x2)]) (pw_dk dc_X12_doneBy 3 rfl) rfl (by decide) rfl ?_
  refine PW_sub (lv' := [(0, .ref 5000), (1, .int x1), (2, .int x2), (3, .int 0), (4, .int 0)]) [2, 3, 4, 1, 0] rfl ?_
  exact b_X12_doneBy_5 FU x1 x2 0 0 σ h
def f_X12_chance_122 (r73 : Int32 → Int32 → Int32 → Int32 → Int32 → zS → Option (Int32 × zS)) (x2 : Int32) (x3 : Int32) (x5 : Int32) (x6 : Int32) (x7 : Int32) (σ : zS) : Option (Int32 × zS) := 
  r73 x2 x3 x5 x6 (x7 + 1) σ
theorem b_X12_chance_122 {Q : Option Value → zS → Prop} (r73 : Int32 → Int32 → Int32 → Int32 → Int32 → zS → Option (Int32 × zS)) (hr73 : ∀ (x2 : Int32) (x3 : Int32) (x5 : Int32) (x6 : Int32) (x7 : Int32) (σ : zS), wpO (r73 x2 x3 x5 x6 x7 σ) (fun a => Q (some (.int a.1)) a.2) → PZ alM mX12_chance (7) Q 73 [(0, .ref 5000), (2, .int x2), (3, .int x3), (5, .int x5), (6, .int x6), (7, .int x7)] [] σ) (x2 : Int32) (x3 : Int32) (x5 : Int32) (x6 : Int32) (x7 : Int32) (σ : zS) (h : wpO (f_X12_chance_122 r73 x2 x3 x5 x6 x7 σ) (fun a => Q (some (.int a.1)) a.2)) : PZ alM mX12_chance (7) Q 122 [(0, .ref 5000), (2, .int x2), (3, .int x3), (5, .int x5), (6, .int x6), (7, .int x7)] [] σ := by
  unfold f_X12_chance_122 at h
  refine PW_iinc (pc' := 125) (q := 5) (v := x7 + 1) (lv' := [(7, .int (x7 + 1)), (0, .ref 5000), (2, .int x2), (3, .int x3), (5, .int x5), (6, .int x6)]) (pw_dk dc_X12_chance 70 rfl) rfl rfl rfl (by decide) rfl ?_
  refine PW_goto (tgt := 73) (pw_dk dc_X12_chance 71 rfl) (by decide) ?_
  refine PW_sub (lv' := [(0, .ref 5000), (2, .int x2), (3, .int x3), (5, .int x5), (6, .int x6), (7, .int (x7 + 1))]) [1, 2, 3, 4, 5, 0] rfl ?_
  exact hr73 x2 x3 x5 x6 (x7 + 1) σ h
def f_X12_chance_73 (r59 : Int32 → Int32 → Int32 → Int32 → zS → Option (Int32 × zS)) : Nat → Int32 → Int32 → Int32 → Int32 → Int32 → zS → Option (Int32 × zS)
  | 0, _, _, _, _, _, _ => none
  | n + 1, x2, x3, x5, x6, x7, σ => 
    (rdI σ 5004 16 2).bind fun v_1 =>
    if v_1 ≤ x7 then
      (f_X12_passes 1 σ).bind fun σ_6 =>
      r59 x2 x3 x5 x6 σ_6
    else
      (rdI σ 5042 115 ((5 : Int32) + x7)).bind fun v_8 =>
      b2 (f_X12_draw 6 σ) fun v_13 σ_12 =>
      (f_X12_moved v_8 v_13 σ_12).bind fun v_16 =>
      if v_16 = (-1 : Int32) then
        f_X12_chance_122 (f_X12_chance_73 r59 n) x2 x3 x5 x6 x7 σ_12
      else
        (wrI σ_12 5042 115 ((5 : Int32) + x7) v_16).bind fun σ_19 =>
        f_X12_chance_122 (f_X12_chance_73 r59 n) x2 x3 x5 x6 x7 σ_19
theorem b_X12_chance_73 {Q : Option Value → zS → Prop} (r59 : Int32 → Int32 → Int32 → Int32 → zS → Option (Int32 × zS)) (hr59 : ∀ (x2 : Int32) (x3 : Int32) (x5 : Int32) (x6 : Int32) (σ : zS), wpO (r59 x2 x3 x5 x6 σ) (fun a => Q (some (.int a.1)) a.2) → PZ alM mX12_chance (7) Q 59 [(0, .ref 5000), (2, .int x2), (3, .int x3), (5, .int x5), (6, .int x6)] [] σ) : ∀ (n : Nat) (x2 : Int32) (x3 : Int32) (x5 : Int32) (x6 : Int32) (x7 : Int32) (σ : zS) (h : wpO (f_X12_chance_73 r59 n x2 x3 x5 x6 x7 σ) (fun a => Q (some (.int a.1)) a.2)), PZ alM mX12_chance (7) Q 73 [(0, .ref 5000), (2, .int x2), (3, .int x3), (5, .int x5), (6, .int x6), (7, .int x7)] [] σ := by
  intro n
  induction n with
  | zero => intro x2 x3 x5 x6 x7 σ h; exact wp_none h
  | succ n ih =>
    intro x2 x3 x5 x6 x7 σ h
    rw [f_X12_chance_73] at h
    refine PW_iload (pc' := 75) (q := 5) (pw_dk dc_X12_chance 42 rfl) rfl rfl ?_
    refine PW_aload_n (pc' := 76) (q := 0) (pw_dk dc_X12_chance 43 rfl) rfl rfl rfl ?_
    refine PW_getR (pc' := 79) (id := 5000) (ci := 12) (nn := 0) (C0 := RX12) (T := TX12) (N := 62) (j := 3) (r := 5004) (pw_dk dc_X12_chance 44 rfl) rfl me_5000 rfl pi_12 (by decide) fk_12_3 tw_1400 (rfl) (by decide) ?_
    refine PW_iconst (pc' := 80) (v := 2) (pw_dk dc_X12_chance 45 rfl) rfl (by decide) ?_
    obtain ⟨v_1, hi_2, e_3, h⟩ := wp_rdIx h
    refine PZ_ialdx (pc' := 81) (v := v_1) (id := 5004) (nn := 16) (pw_dk dc_X12_chance 46 rfl) rfl me_5004 hi_2 e_3 ?_
    refine PW_icmp_ge (pc' := 84) (tgt := 128) (pw_dk dc_X12_chance 47 rfl) rfl (by decide) (fun c_4 => ?_) (fun c_4 => ?_)
    · rw [if_pos c_4] at h
      refine PW_aload_n (pc' := 129) (q := 0) (pw_dk dc_X12_chance 72 rfl) rfl rfl rfl ?_
      refine PW_iconst (pc' := 130) (v := 1) (pw_dk dc_X12_chance 73 rfl) rfl (by decide) ?_
      refine PZ_callVv (pc' := 133) (y := yX12_passes) (M' := mX12_passes) (d' := 6) (As := [.int 1]) (st := []) (b := 5000) (ci := 12) (nn := 0) me_5000 rfl tw_1862 tw_91 (pw_dk dc_X12_chance 74 rfl) rfl Y_X12_passes tw_1860 rfl (by decide) (Nat.le_of_ble_eq_true rfl) (t_X12_passes 1 σ _ ?_)
      obtain ⟨σ_6, e_7, h⟩ := wp_bind h
      refine ⟨σ_6, e_7, rfl, fun hn_5 => ?_⟩
      show PZ alM mX12_chance (7) Q 133 [(0, .ref 5000), (2, .int x2), (3, .int x3), (5, .int x5), (6, .int x6), (7, .int x7)] [] σ_6
      refine PW_goto (tgt := 59) (pw_dk dc_X12_chance 75 rfl) (by decide) ?_
      refine PW_sub (lv' := [(0, .ref 5000), (2, .int x2), (3, .int x3), (5, .int x5), (6, .int x6)]) [0, 1, 2, 3, 4] rfl ?_
      exact hr59 x2 x3 x5 x6 σ_6 h
    · rw [if_neg c_4] at h
      refine PW_aload_n (pc' := 85) (q := 0) (pw_dk dc_X12_chance 48 rfl) rfl rfl rfl ?_
      refine PW_aload_n (pc' := 86) (q := 0) (pw_dk dc_X12_chance 49 rfl) rfl rfl rfl ?_
      refine PW_getR (pc' := 89) (id := 5000) (ci := 12) (nn := 0) (C0 := RX12) (T := TX12) (N := 62) (j := 41) (r := 5042) (pw_dk dc_X12_chance 50 rfl) rfl me_5000 rfl pi_12 (by decide) fk_12_41 tw_1438 (rfl) (by decide) ?_
      refine PW_iconst (pc' := 90) (v := 5) (pw_dk dc_X12_chance 51 rfl) rfl (by decide) ?_
      refine PW_iload (pc' := 92) (q := 5) (pw_dk dc_X12_chance 52 rfl) rfl rfl ?_
      refine PW_iadd (pc' := 93) (pw_dk dc_X12_chance 53 rfl) rfl ?_
      obtain ⟨v_8, hi_9, e_10, h⟩ := wp_rdIx h
      refine PZ_ialdx (pc' := 94) (v := v_8) (id := 5042) (nn := 115) (pw_dk dc_X12_chance 54 rfl) rfl me_5042 hi_9 e_10 ?_
      refine PW_aload_n (pc' := 95) (q := 0) (pw_dk dc_X12_chance 55 rfl) rfl rfl rfl ?_
      refine PW_bipush (pc' := 97) (v := 6) (pw_dk dc_X12_chance 56 rfl) rfl (by decide) ?_
      refine PZ_callVi (pc' := 100) (y := yX12_draw) (M' := mX12_draw) (d' := 0) (As := [.int 6]) (st := [.int v_8, .ref 5000]) (b := 5000) (ci := 12) (nn := 0) me_5000 rfl tw_2039 tw_116 (pw_dk dc_X12_chance 57 rfl) rfl Y_X12_draw tw_2037 rfl (by decide) (Nat.le_of_ble_eq_true rfl) (t_X12_draw 6 σ _ ?_)
      obtain ⟨⟨v_13, σ_12⟩, e_14, h⟩ := wp_bind2 h
      refine ⟨(v_13, σ_12), e_14, _, rfl, fun hn_11 => ?_⟩
      show PZ alM mX12_chance (7) Q 100 [(0, .ref 5000), (2, .int x2), (3, .int x3), (5, .int x5), (6, .int x6), (7, .int x7)] [.int v_13, .int v_8, .ref 5000] σ_12
      refine PZ_callVi (pc' := 103) (y := yX12_moved) (M' := mX12_moved) (d' := 1) (As := [.int v_8, .int v_13]) (st := []) (b := 5000) (ci := 12) (nn := 0) me_5000 rfl tw_1842 tw_88 (pw_dk dc_X12_chance 58 rfl) rfl Y_X12_moved tw_1840 rfl (by decide) (Nat.le_of_ble_eq_true rfl) (t_X12_moved v_8 v_13 σ_12 _ ?_)
      obtain ⟨v_16, e_17, h⟩ := wp_bind h
      refine ⟨v_16, e_17, _, rfl, fun hn_15 => ?_⟩
      show PZ alM mX12_chance (7) Q 103 [(0, .ref 5000), (2, .int x2), (3, .int x3), (5, .int x5), (6, .int x6), (7, .int x7)] [.int v_16] σ_12
      refine PW_istore (pc' := 105) (lv' := [(8, .int v_16), (0, .ref 5000), (2, .int x2), (3, .int x3), (5, .int x5), (6, .int x6), (7, .int x7)]) (pw_dk dc_X12_chance 59 rfl) rfl (by decide) rfl ?_
      refine PW_iload (pc' := 107) (q := 0) (pw_dk dc_X12_chance 60 rfl) rfl rfl ?_
      refine PW_iconst (pc' := 108) (v := (-1 : Int32)) (pw_dk dc_X12_chance 61 rfl) rfl (by decide) ?_
      refine PW_icmp_eq (pc' := 111) (tgt := 122) (pw_dk dc_X12_chance 62 rfl) rfl (by decide) (fun c_18 => ?_) (fun c_18 => ?_)
      · rw [if_pos c_18] at h
        refine PW_sub (lv' := [(0, .ref 5000), (2, .int x2), (3, .int x3), (5, .int x5), (6, .int x6), (7, .int x7)]) [1, 2, 3, 4, 5, 6] rfl ?_
        exact b_X12_chance_122 (f_X12_chance_73 r59 n) ih x2 x3 x5 x6 x7 σ_12 h
      · rw [if_neg c_18] at h
        refine PW_aload_n (pc' := 112) (q := 1) (pw_dk dc_X12_chance 63 rfl) rfl rfl rfl ?_
        refine PW_getR (pc' := 115) (id := 5000) (ci := 12) (nn := 0) (C0 := RX12) (T := TX12) (N := 62) (j := 41) (r := 5042) (pw_dk dc_X12_chance 64 rfl) rfl me_5000 rfl pi_12 (by decide) fk_12_41 tw_1438 (rfl) (by decide) ?_
        refine PW_iconst (pc' := 116) (v := 5) (pw_dk dc_X12_chance 65 rfl) rfl (by decide) ?_
        refine PW_iload (pc' := 118) (q := 6) (pw_dk dc_X12_chance 66 rfl) rfl rfl ?_
        refine PW_iadd (pc' := 119) (pw_dk dc_X12_chance 67 rfl) rfl ?_
        refine PW_iload (pc' := 121) (q := 0) (pw_dk dc_X12_chance 68 rfl) rfl rfl ?_
        obtain ⟨σ_19, hi_20, e_21, h⟩ := wp_wrIx h
        refine PZ_iastx (pc' := 122) (σ' := σ_19) (id := 5042) (nn := 115) (pw_dk dc_X12_chance 69 rfl) rfl me_5042 hi_20 e_21 ?_
        refine PW_sub (lv' := [(0, .ref 5000), (2, .int x2), (3, .int x3), (5, .int x5), (6, .int x6), (7, .int x7)]) [1, 2, 3, 4, 5, 6] rfl ?_
        exact b_X12_chance_122 (f_X12_chance_73 r59 n) ih x2 x3 x5 x6 x7 σ_19 h
def f_X12_chance_161 (r38 : Int32 → Int32 → Int32 → Int32 → Int32 → zS → Option (Int32 × zS)) (x2 : Int32) (x3 : Int32) (x4 : Int32) (x6 : Int32) (s0 : Int32) (s1 : Int32) (σ : zS) : Option (Int32 × zS) := 
  lt (α := Int32) (s0 + s1) fun x5_1 =>
  r38 x2 x3 x4 x5_1 (x6 + 1) σ
theorem b_X12_chance_161 {Q : Option Value → zS → Prop} (r38 : Int32 → Int32 → Int32 → Int32 → Int32 → zS → Option (Int32 × zS)) (hr38 : ∀ (x2 : Int32) (x3 : Int32) (x4 : Int32) (x5 : Int32) (x6 : Int32) (σ : zS), wpO (r38 x2 x3 x4 x5 x6 σ) (fun a => Q (some (.int a.1)) a.2) → PZ alM mX12_chance (7) Q 38 [(0, .ref 5000), (2, .int x2), (3, .int x3), (4, .int x4), (5, .int x5), (6, .int x6)] [] σ) (x2 : Int32) (x3 : Int32) (x4 : Int32) (x6 : Int32) (s0 : Int32) (s1 : Int32) (σ : zS) (h : wpO (f_X12_chance_161 r38 x2 x3 x4 x6 s0 s1 σ) (fun a => Q (some (.int a.1)) a.2)) : PZ alM mX12_chance (7) Q 161 [(0, .ref 5000), (2, .int x2), (3, .int x3), (4, .int x4), (6, .int x6)] [.int s1, .int s0] σ := by
  unfold f_X12_chance_161 at h
  refine PW_iadd (pc' := 162) (pw_dk dc_X12_chance 91 rfl) rfl ?_
  refine PW_topi (fun x5_1 ex5_1 => ?_)
  replace h := lt_w h ex5_1
  refine PW_istore (pc' := 164) (lv' := [(5, .int x5_1), (0, .ref 5000), (2, .int x2), (3, .int x3), (4, .int x4), (6, .int x6)]) (pw_dk dc_X12_chance 92 rfl) rfl (by decide) rfl ?_
  refine PW_iinc (pc' := 167) (q := 5) (v := x6 + 1) (lv' := [(6, .int (x6 + 1)), (5, .int x5_1), (0, .ref 5000), (2, .int x2), (3, .int x3), (4, .int x4)]) (pw_dk dc_X12_chance 93 rfl) rfl rfl rfl (by decide) rfl ?_
  refine PW_goto (tgt := 38) (pw_dk dc_X12_chance 94 rfl) (by decide) ?_
  refine PW_sub (lv' := [(0, .ref 5000), (2, .int x2), (3, .int x3), (4, .int x4), (5, .int x5_1), (6, .int (x6 + 1))]) [2, 3, 4, 5, 1, 0] rfl ?_
  exact hr38 x2 x3 x4 x5_1 (x6 + 1) σ h
def f_X12_chance_59 (r38 : Int32 → Int32 → Int32 → Int32 → Int32 → zS → Option (Int32 × zS)) : Nat → Int32 → Int32 → Int32 → Int32 → zS → Option (Int32 × zS)
  | 0, _, _, _, _, _ => none
  | n + 1, x2, x3, x5, x6, σ => 
    (rdI σ 5039 23 1).bind fun v_1 =>
    if 24 ≤ v_1 then
      (rdI σ 5040 23 1).bind fun v_5 =>
      (f_X12_doneBy 1 x2 σ).bind fun v_9 =>
      if v_9 < x3 then
        f_X12_chance_161 r38 x2 x3 v_5 x6 x5 0 σ
      else
        f_X12_chance_161 r38 x2 x3 v_5 x6 x5 1 σ
    else
      f_X12_chance_73 (f_X12_chance_59 r38 n) FU x2 x3 x5 x6 0 σ
theorem b_X12_chance_59 {Q : Option Value → zS → Prop} (r38 : Int32 → Int32 → Int32 → Int32 → Int32 → zS → Option (Int32 × zS)) (hr38 : ∀ (x2 : Int32) (x3 : Int32) (x4 : Int32) (x5 : Int32) (x6 : Int32) (σ : zS), wpO (r38 x2 x3 x4 x5 x6 σ) (fun a => Q (some (.int a.1)) a.2) → PZ alM mX12_chance (7) Q 38 [(0, .ref 5000), (2, .int x2), (3, .int x3), (4, .int x4), (5, .int x5), (6, .int x6)] [] σ) : ∀ (n : Nat) (x2 : Int32) (x3 : Int32) (x5 : Int32) (x6 : Int32) (σ : zS) (h : wpO (f_X12_chance_59 r38 n x2 x3 x5 x6 σ) (fun a => Q (some (.int a.1)) a.2)), PZ alM mX12_chance (7) Q 59 [(0, .ref 5000), (2, .int x2), (3, .int x3), (5, .int x5), (6, .int x6)] [] σ := by
  intro n
  induction n with
  | zero => intro x2 x3 x5 x6 σ h; exact wp_none h
  | succ n ih =>
    intro x2 x3 x5 x6 σ h
    rw [f_X12_chance_59] at h
    refine PW_aload_n (pc' := 60) (q := 0) (pw_dk dc_X12_chance 34 rfl) rfl rfl rfl ?_
    refine PW_getR (pc' := 63) (id := 5000) (ci := 12) (nn := 0) (C0 := RX12) (T := TX12) (N := 62) (j := 38) (r := 5039) (pw_dk dc_X12_chance 35 rfl) rfl me_5000 rfl pi_12 (by decide) fk_12_38 tw_1435 (rfl) (by decide) ?_
    refine PW_iconst (pc' := 64) (v := 1) (pw_dk dc_X12_chance 36 rfl) rfl (by decide) ?_
    obtain ⟨v_1, hi_2, e_3, h⟩ := wp_rdIx h
    refine PZ_ialdx (pc' := 65) (v := v_1) (id := 5039) (nn := 23) (pw_dk dc_X12_chance 37 rfl) rfl me_5039 hi_2 e_3 ?_
    refine PW_bipush (pc' := 67) (v := 24) (pw_dk dc_X12_chance 38 rfl) rfl (by decide) ?_
    refine PW_icmp_ge (pc' := 70) (tgt := 136) (pw_dk dc_X12_chance 39 rfl) rfl (by decide) (fun c_4 => ?_) (fun c_4 => ?_)
    · rw [if_pos c_4] at h
      refine PW_aload_n (pc' := 137) (q := 0) (pw_dk dc_X12_chance 76 rfl) rfl rfl rfl ?_
      refine PW_getR (pc' := 140) (id := 5000) (ci := 12) (nn := 0) (C0 := RX12) (T := TX12) (N := 62) (j := 39) (r := 5040) (pw_dk dc_X12_chance 77 rfl) rfl me_5000 rfl pi_12 (by decide) fk_12_39 tw_1436 (rfl) (by decide) ?_
      refine PW_iconst (pc' := 141) (v := 1) (pw_dk dc_X12_chance 78 rfl) rfl (by decide) ?_
      obtain ⟨v_5, hi_6, e_7, h⟩ := wp_rdIx h
      refine PZ_ialdx (pc' := 142) (v := v_5) (id := 5040) (nn := 23) (pw_dk dc_X12_chance 79 rfl) rfl me_5040 hi_6 e_7 ?_
      refine PW_istore (pc' := 144) (lv' := [(4, .int v_5), (0, .ref 5000), (2, .int x2), (3, .int x3), (5, .int x5), (6, .int x6)]) (pw_dk dc_X12_chance 80 rfl) rfl (by decide) rfl ?_
      refine PW_iload (pc' := 146) (q := 4) (pw_dk dc_X12_chance 81 rfl) rfl rfl ?_
      refine PW_aload_n (pc' := 147) (q := 1) (pw_dk dc_X12_chance 82 rfl) rfl rfl rfl ?_
      refine PW_iconst (pc' := 148) (v := 1) (pw_dk dc_X12_chance 83 rfl) rfl (by decide) ?_
      refine PW_iload_n (pc' := 149) (q := 2) (pw_dk dc_X12_chance 84 rfl) rfl rfl rfl ?_
      refine PZ_callVi (pc' := 152) (y := yX12_doneBy) (M' := mX12_doneBy) (d' := 0) (As := [.int 1, .int x2]) (st := [.int x5]) (b := 5000) (ci := 12) (nn := 0) me_5000 rfl tw_2045 tw_117 (pw_dk dc_X12_chance 85 rfl) rfl Y_X12_doneBy tw_2043 rfl (by decide) (Nat.le_of_ble_eq_true rfl) (t_X12_doneBy 1 x2 σ _ ?_)
      obtain ⟨v_9, e_10, h⟩ := wp_bind h
      refine ⟨v_9, e_10, _, rfl, fun hn_8 => ?_⟩
      show PZ alM mX12_chance (7) Q 152 [(4, .int v_5), (0, .ref 5000), (2, .int x2), (3, .int x3), (5, .int x5), (6, .int x6)] [.int v_9, .int x5] σ
      refine PW_iload_n (pc' := 153) (q := 3) (pw_dk dc_X12_chance 86 rfl) rfl rfl rfl ?_
      refine PW_icmp_lt (pc' := 156) (tgt := 160) (pw_dk dc_X12_chance 87 rfl) rfl (by decide) (fun c_11 => ?_) (fun c_11 => ?_)
      · rw [if_pos c_11] at h
        refine PW_iconst (pc' := 161) (v := 0) (pw_dk dc_X12_chance 90 rfl) rfl (by decide) ?_
        refine PW_sub (lv' := [(0, .ref 5000), (2, .int x2), (3, .int x3), (4, .int v_5), (6, .int x6)]) [1, 2, 3, 0, 5] rfl ?_
        exact b_X12_chance_161 r38 hr38 x2 x3 v_5 x6 x5 0 σ h
      · rw [if_neg c_11] at h
        refine PW_iconst (pc' := 157) (v := 1) (pw_dk dc_X12_chance 88 rfl) rfl (by decide) ?_
        refine PW_goto (tgt := 161) (pw_dk dc_X12_chance 89 rfl) (by decide) ?_
        refine PW_sub (lv' := [(0, .ref 5000), (2, .int x2), (3, .int x3), (4, .int v_5), (6, .int x6)]) [1, 2, 3, 0, 5] rfl ?_
        exact b_X12_chance_161 r38 hr38 x2 x3 v_5 x6 x5 1 σ h
    · rw [if_neg c_4] at h
      refine PW_iconst (pc' := 71) (v := 0) (pw_dk dc_X12_chance 40 rfl) rfl (by decide) ?_
      refine PW_istore (pc' := 73) (lv' := [(7, .int 0), (0, .ref 5000), (2, .int x2), (3, .int x3), (5, .int x5), (6, .int x6)]) (pw_dk dc_X12_chance 41 rfl) rfl (by decide) rfl ?_
      refine PW_sub (lv' := [(0, .ref 5000), (2, .int x2), (3, .int x3), (5, .int x5), (6, .int x6), (7, .int 0)]) [1, 2, 3, 4, 5, 0] rfl ?_
      exact b_X12_chance_73 (f_X12_chance_59 r38 n) ih FU x2 x3 x5 x6 0 σ h
def f_X12_chance_38  : Nat → Int32 → Int32 → Int32 → Int32 → Int32 → zS → Option (Int32 × zS)
  | 0, _, _, _, _, _, _ => none
  | n + 1, x2, x3, x4, x5, x6, σ => 
    if 10 ≤ x6 then
      some (x5, σ)
    else
      (f_X12_copies 1 0 σ).bind fun σ_3 =>
      (wrI σ_3 5040 23 1 x4).bind fun σ_5 =>
      f_X12_chance_59 (f_X12_chance_38 n) FU x2 x3 x5 x6 σ_5
theorem b_X12_chance_38 {Q : Option Value → zS → Prop} : ∀ (n : Nat) (x2 : Int32) (x3 : Int32) (x4 : Int32) (x5 : Int32) (x6 : Int32) (σ : zS) (h : wpO (f_X12_chance_38 n x2 x3 x4 x5 x6 σ) (fun a => Q (some (.int a.1)) a.2)), PZ alM mX12_chance (7) Q 38 [(0, .ref 5000), (2, .int x2), (3, .int x3), (4, .int x4), (5, .int x5), (6, .int x6)] [] σ := by
  intro n
  induction n with
  | zero => intro x2 x3 x4 x5 x6 σ h; exact wp_none h
  | succ n ih =>
    intro x2 x3 x4 x5 x6 σ h
    rw [f_X12_chance_38] at h
    refine PW_iload (pc' := 40) (q := 5) (pw_dk dc_X12_chance 22 rfl) rfl rfl ?_
    refine PW_bipush (pc' := 42) (v := 10) (pw_dk dc_X12_chance 23 rfl) rfl (by decide) ?_
    refine PW_icmp_ge (pc' := 45) (tgt := 170) (pw_dk dc_X12_chance 24 rfl) rfl (by decide) (fun c_1 => ?_) (fun c_1 => ?_)
    · rw [if_pos c_1] at h
      refine PW_iload (pc' := 172) (q := 4) (pw_dk dc_X12_chance 95 rfl) rfl rfl ?_
      have z := wp_some h
      exact PZ_iret (ty := .int) (pw_dk dc_X12_chance 96 rfl) rfl rfl z
    · rw [if_neg c_1] at h
      refine PW_aload_n (pc' := 46) (q := 0) (pw_dk dc_X12_chance 25 rfl) rfl rfl rfl ?_
      refine PW_iconst (pc' := 47) (v := 1) (pw_dk dc_X12_chance 26 rfl) rfl (by decide) ?_
      refine PW_iconst (pc' := 48) (v := 0) (pw_dk dc_X12_chance 27 rfl) rfl (by decide) ?_
      refine PZ_callVv (pc' := 51) (y := yX12_copies) (M' := mX12_copies) (d' := 0) (As := [.int 1, .int 0]) (st := []) (b := 5000) (ci := 12) (nn := 0) me_5000 rfl tw_1850 tw_90 (pw_dk dc_X12_chance 28 rfl) rfl Y_X12_copies tw_1848 rfl (by decide) (Nat.le_of_ble_eq_true rfl) (t_X12_copies 1 0 σ _ ?_)
      obtain ⟨σ_3, e_4, h⟩ := wp_bind h
      refine ⟨σ_3, e_4, rfl, fun hn_2 => ?_⟩
      show PZ alM mX12_chance (7) Q 51 [(0, .ref 5000), (2, .int x2), (3, .int x3), (4, .int x4), (5, .int x5), (6, .int x6)] [] σ_3
      refine PW_aload_n (pc' := 52) (q := 0) (pw_dk dc_X12_chance 29 rfl) rfl rfl rfl ?_
      refine PW_getR (pc' := 55) (id := 5000) (ci := 12) (nn := 0) (C0 := RX12) (T := TX12) (N := 62) (j := 39) (r := 5040) (pw_dk dc_X12_chance 30 rfl) rfl me_5000 rfl pi_12 (by decide) fk_12_39 tw_1436 (rfl) (by decide) ?_
      refine PW_iconst (pc' := 56) (v := 1) (pw_dk dc_X12_chance 31 rfl) rfl (by decide) ?_
      refine PW_iload (pc' := 58) (q := 3) (pw_dk dc_X12_chance 32 rfl) rfl rfl ?_
      obtain ⟨σ_5, hi_6, e_7, h⟩ := wp_wrIx h
      refine PZ_iastx (pc' := 59) (σ' := σ_5) (id := 5040) (nn := 23) (pw_dk dc_X12_chance 33 rfl) rfl me_5040 hi_6 e_7 ?_
      refine PW_sub (lv' := [(0, .ref 5000), (2, .int x2), (3, .int x3), (5, .int x5), (6, .int x6)]) [0, 1, 2, 4, 5] rfl ?_
      exact b_X12_chance_59 (f_X12_chance_38 n) ih FU x2 x3 x5 x6 σ_5 h
def f_X12_chance (x1 : Int32) (x2 : Int32) (x3 : Int32) (σ : zS) : Option (Int32 × zS) := 
  lt (wI σ 5000 0 0) fun σ_1 =>
  if x1 < 0 then
    some ((-1 : Int32), σ_1)
  else
    (f_X12_isMan x2 σ_1).bind fun v_5 =>
    if v_5 = 0 then
      some ((-1 : Int32), σ_1)
    else
      if x3 < 0 then
        some ((-1 : Int32), σ_1)
      else
        if x3 ≤ 12 then
          f_X12_chance_38 FU x2 x3 x1 0 0 σ_1
        else
          some ((-1 : Int32), σ_1)
theorem t_X12_chance (x1 : Int32) (x2 : Int32) (x3 : Int32) (σ : zS) (Q : Option Value → zS → Prop) (h : wpO (f_X12_chance x1 x2 x3 σ) (fun a => Q (some (.int a.1)) a.2)) : PK alM yX12_chance mX12_chance (7) [.ref 5000, .int x1, .int x2, .int x3] σ Q := by
  refine PC_ofF (by decide +kernel) rfl rfl (Nat.le_of_ble_eq_true rfl) ?_
  show PZ alM mX12_chance (7) Q 0 [(0, .ref 5000), (1, .int x1), (2, .int x2), (3, .int x3)] [] σ
  unfold f_X12_chance at h
  refine PW_aload_n (pc' := 1) (q := 0) (pw_dk dc_X12_chance 0 rfl) rfl rfl rfl ?_
  refine PW_iconst (pc' := 2) (v := 0) (pw_dk dc_X12_chance 1 rfl) rfl (by decide) ?_
  obtain ⟨σ_1, e_2, h⟩ := lt_x h
  refine PZ_putX (pc' := 5) (σ' := σ_1) (id := 5000) (ci := 12) (nn := 0) (C0 := RX12) (T := TX12) (N := 62) (j := 0) (ty := tyX12 0) (pw_dk dc_X12_chance 2 rfl) rfl me_5000 rfl pi_12 tyX12_ok nmX12 (by decide) fk_12_0 tw_1397 rfl (tyX12_ok 0 (by decide)) (by first | rfl | decide) (by first | rfl | decide) e_2 ?_
  refine PW_iload_n (pc' := 6) (q := 1) (pw_dk dc_X12_chance 3 rfl) rfl rfl rfl ?_
  refine PW_if_lt (pc' := 9) (tgt := 27) (pw_dk dc_X12_chance 4 rfl) rfl (by decide) (fun c_3 => ?_) (fun c_3 => ?_)
  · rw [if_pos c_3] at h
    refine PW_iconst (pc' := 28) (v := (-1 : Int32)) (pw_dk dc_X12_chance 14 rfl) rfl (by decide) ?_
    have z := wp_some h
    exact PZ_iret (ty := .int) (pw_dk dc_X12_chance 15 rfl) rfl rfl z
  · rw [if_neg c_3] at h
    refine PW_aload_n (pc' := 10) (q := 0) (pw_dk dc_X12_chance 5 rfl) rfl rfl rfl ?_
    refine PW_iload_n (pc' := 11) (q := 2) (pw_dk dc_X12_chance 6 rfl) rfl rfl rfl ?_
    refine PZ_callVi (pc' := 14) (y := yX12_isMan) (M' := mX12_isMan) (d' := 0) (As := [.int x2]) (st := []) (b := 5000) (ci := 12) (nn := 0) me_5000 rfl tw_1742 tw_77 (pw_dk dc_X12_chance 7 rfl) rfl Y_X12_isMan tw_1740 rfl (by decide) (Nat.le_of_ble_eq_true rfl) (t_X12_isMan x2 σ_1 _ ?_)
    obtain ⟨v_5, e_6, h⟩ := wp_bind h
    refine ⟨v_5, e_6, _, rfl, fun hn_4 => ?_⟩
    show PZ alM mX12_chance (7) Q 14 [(0, .ref 5000), (1, .int x1), (2, .int x2), (3, .int x3)] [.int v_5] σ_1
    refine PW_if_eq (pc' := 17) (tgt := 27) (pw_dk dc_X12_chance 8 rfl) rfl (by decide) (fun c_7 => ?_) (fun c_7 => ?_)
    · rw [if_pos c_7] at h
      refine PW_iconst (pc' := 28) (v := (-1 : Int32)) (pw_dk dc_X12_chance 14 rfl) rfl (by decide) ?_
      have z := wp_some h
      exact PZ_iret (ty := .int) (pw_dk dc_X12_chance 15 rfl) rfl rfl z
    · rw [if_neg c_7] at h
      refine PW_iload_n (pc' := 18) (q := 3) (pw_dk dc_X12_chance 9 rfl) rfl rfl rfl ?_
      refine PW_if_lt (pc' := 21) (tgt := 27) (pw_dk dc_X12_chance 10 rfl) rfl (by decide) (fun c_8 => ?_) (fun c_8 => ?_)
      · rw [if_pos c_8] at h
        refine PW_iconst (pc' := 28) (v := (-1 : Int32)) (pw_dk dc_X12_chance 14 rfl) rfl (by decide) ?_
        have z := wp_some h
        exact PZ_iret (ty := .int) (pw_dk dc_X12_chance 15 rfl) rfl rfl z
      · rw [if_neg c_8] at h
        refine PW_iload_n (pc' := 22) (q := 3) (pw_dk dc_X12_chance 11 rfl) rfl rfl rfl ?_
        refine PW_bipush (pc' := 24) (v := 12) (pw_dk dc_X12_chance 12 rfl) rfl (by decide) ?_
        refine PW_icmp_le (pc' := 27) (tgt := 29) (pw_dk dc_X12_chance 13 rfl) rfl (by decide) (fun c_9 => ?_) (fun c_9 => ?_)
        · rw [if_pos c_9] at h
          refine PW_iload_n (pc' := 30) (q := 1) (pw_dk dc_X12_chance 16 rfl) rfl rfl rfl ?_
          refine PW_istore (pc' := 32) (lv' := [(4, .int x1), (0, .ref 5000), (1, .int x1), (2, .int x2), (3, .int x3)]) (pw_dk dc_X12_chance 17 rfl) rfl (by decide) rfl ?_
          refine PW_iconst (pc' := 33) (v := 0) (pw_dk dc_X12_chance 18 rfl) rfl (by decide) ?_
          refine PW_istore (pc' := 35) (lv' := [(5, .int 0), (4, .int x1), (0, .ref 5000), (1, .int x1), (2, .int x2), (3, .int x3)]) (pw_dk dc_X12_chance 19 rfl) rfl (by decide) rfl ?_
          refine PW_iconst (pc' := 36) (v := 0) (pw_dk dc_X12_chance 20 rfl) rfl (by decide) ?_
          refine PW_istore (pc' := 38) (lv' := [(6, .int 0), (5, .int 0), (4, .int x1), (0, .ref 5000), (1, .int x1), (2, .int x2), (3, .int x3)]) (pw_dk dc_X12_chance 21 rfl) rfl (by decide) rfl ?_
          refine PW_sub (lv' := [(0, .ref 5000), (2, .int x2), (3, .int x3), (4, .int x1), (5, .int 0), (6, .int 0)]) [3, 5, 6, 2, 1, 0] rfl ?_
          exact b_X12_chance_38 FU x2 x3 x1 0 0 σ_1 h
        · rw [if_neg c_9] at h
          refine PW_iconst (pc' := 28) (v := (-1 : Int32)) (pw_dk dc_X12_chance 14 rfl) rfl (by decide) ?_
          have z := wp_some h
          exact PZ_iret (ty := .int) (pw_dk dc_X12_chance 15 rfl) rfl rfl z
def f_X12_tried_105 (r52 : Int32 → Int32 → Int32 → zS → Option (Int32 × zS)) (x1 : Int32) (x2 : Int32) (x4 : Int32) (σ : zS) : Option (Int32 × zS) := 
  r52 x1 x2 (x4 + 1) σ
theorem b_X12_tried_105 {Q : Option Value → zS → Prop} (r52 : Int32 → Int32 → Int32 → zS → Option (Int32 × zS)) (hr52 : ∀ (x1 : Int32) (x2 : Int32) (x4 : Int32) (σ : zS), wpO (r52 x1 x2 x4 σ) (fun a => Q (some (.int a.1)) a.2) → PZ alM mX12_tried (7) Q 52 [(0, .ref 5000), (1, .int x1), (2, .int x2), (4, .int x4)] [] σ) (x1 : Int32) (x2 : Int32) (x4 : Int32) (σ : zS) (h : wpO (f_X12_tried_105 r52 x1 x2 x4 σ) (fun a => Q (some (.int a.1)) a.2)) : PZ alM mX12_tried (7) Q 105 [(0, .ref 5000), (1, .int x1), (2, .int x2), (4, .int x4)] [] σ := by
  unfold f_X12_tried_105 at h
  refine PW_iinc (pc' := 108) (q := 3) (v := x4 + 1) (lv' := [(4, .int (x4 + 1)), (0, .ref 5000), (1, .int x1), (2, .int x2)]) (pw_dk dc_X12_tried 64 rfl) rfl rfl rfl (by decide) rfl ?_
  refine PW_goto (tgt := 52) (pw_dk dc_X12_tried 65 rfl) (by decide) ?_
  refine PW_sub (lv' := [(0, .ref 5000), (1, .int x1), (2, .int x2), (4, .int (x4 + 1))]) [1, 2, 3, 0] rfl ?_
  exact hr52 x1 x2 (x4 + 1) σ h
def f_X12_tried_78 (r52 : Int32 → Int32 → Int32 → zS → Option (Int32 × zS)) (x1 : Int32) (x2 : Int32) (x4 : Int32) (σ : zS) : Option (Int32 × zS) := 
  if x1 = 5 then
    (rdI σ 5042 115 ((5 : Int32) + x4)).bind fun v_2 =>
    (wrI σ 5042 115 ((5 : Int32) + x4) (f_X12_facing v_2 0 σ)).bind fun σ_6 =>
    f_X12_tried_105 r52 x1 x2 x4 σ_6
  else
    f_X12_tried_105 r52 x1 x2 x4 σ
theorem b_X12_tried_78 {Q : Option Value → zS → Prop} (r52 : Int32 → Int32 → Int32 → zS → Option (Int32 × zS)) (hr52 : ∀ (x1 : Int32) (x2 : Int32) (x4 : Int32) (σ : zS), wpO (r52 x1 x2 x4 σ) (fun a => Q (some (.int a.1)) a.2) → PZ alM mX12_tried (7) Q 52 [(0, .ref 5000), (1, .int x1), (2, .int x2), (4, .int x4)] [] σ) (x1 : Int32) (x2 : Int32) (x4 : Int32) (σ : zS) (h : wpO (f_X12_tried_78 r52 x1 x2 x4 σ) (fun a => Q (some (.int a.1)) a.2)) : PZ alM mX12_tried (7) Q 78 [(0, .ref 5000), (1, .int x1), (2, .int x2), (4, .int x4)] [] σ := by
  unfold f_X12_tried_78 at h
  refine PW_iload_n (pc' := 79) (q := 1) (pw_dk dc_X12_tried 47 rfl) rfl rfl rfl ?_
  refine PW_iconst (pc' := 80) (v := 5) (pw_dk dc_X12_tried 48 rfl) rfl (by decide) ?_
  refine PW_icmp_ne (pc' := 83) (tgt := 105) (pw_dk dc_X12_tried 49 rfl) rfl (by decide) (fun c_1 => ?_) (fun c_1 => ?_)
  · rw [if_neg c_1] at h
    exact b_X12_tried_105 r52 hr52 x1 x2 x4 σ h
  · rw [if_pos c_1] at h
    refine PW_aload_n (pc' := 84) (q := 0) (pw_dk dc_X12_tried 50 rfl) rfl rfl rfl ?_
    refine PW_getR (pc' := 87) (id := 5000) (ci := 12) (nn := 0) (C0 := RX12) (T := TX12) (N := 62) (j := 41) (r := 5042) (pw_dk dc_X12_tried 51 rfl) rfl me_5000 rfl pi_12 (by decide) fk_12_41 tw_1438 (rfl) (by decide) ?_
    refine PW_iconst (pc' := 88) (v := 5) (pw_dk dc_X12_tried 52 rfl) rfl (by decide) ?_
    refine PW_iload (pc' := 90) (q := 3) (pw_dk dc_X12_tried 53 rfl) rfl rfl ?_
    refine PW_iadd (pc' := 91) (pw_dk dc_X12_tried 54 rfl) rfl ?_
    refine PW_aload_n (pc' := 92) (q := 0) (pw_dk dc_X12_tried 55 rfl) rfl rfl rfl ?_
    refine PW_getR (pc' := 95) (id := 5000) (ci := 12) (nn := 0) (C0 := RX12) (T := TX12) (N := 62) (j := 41) (r := 5042) (pw_dk dc_X12_tried 56 rfl) rfl me_5000 rfl pi_12 (by decide) fk_12_41 tw_1438 (rfl) (by decide) ?_
    refine PW_iconst (pc' := 96) (v := 5) (pw_dk dc_X12_tried 57 rfl) rfl (by decide) ?_
    refine PW_iload (pc' := 98) (q := 3) (pw_dk dc_X12_tried 58 rfl) rfl rfl ?_
    refine PW_iadd (pc' := 99) (pw_dk dc_X12_tried 59 rfl) rfl ?_
    obtain ⟨v_2, hi_3, e_4, h⟩ := wp_rdIx h
    refine PZ_ialdx (pc' := 100) (v := v_2) (id := 5042) (nn := 115) (pw_dk dc_X12_tried 60 rfl) rfl me_5042 hi_3 e_4 ?_
    refine PW_iconst (pc' := 101) (v := 0) (pw_dk dc_X12_tried 61 rfl) rfl (by decide) ?_
    refine PZ_callSi (pc' := 104) (y := yX12_facing) (M' := mX12_facing) (d' := 0) (As := [.int v_2, .int 0]) (st := [.int ((5 : Int32) + x4), .ref 5042]) tw_1974 (pw_dk dc_X12_tried 62 rfl) rfl Y_X12_facing tw_1973 rfl (by decide) (Nat.le_of_ble_eq_true rfl) (t_X12_facing v_2 0 σ _ ?_)
    refine ⟨_, rfl, fun hn_5 => ?_⟩
    show PZ alM mX12_tried (7) Q 104 [(0, .ref 5000), (1, .int x1), (2, .int x2), (4, .int x4)] [.int (f_X12_facing v_2 0 σ), .int ((5 : Int32) + x4), .ref 5042] σ
    obtain ⟨σ_6, hi_7, e_8, h⟩ := wp_wrIx h
    refine PZ_iastx (pc' := 105) (σ' := σ_6) (id := 5042) (nn := 115) (pw_dk dc_X12_tried 63 rfl) rfl me_5042 hi_7 e_8 ?_
    exact b_X12_tried_105 r52 hr52 x1 x2 x4 σ_6 h
def f_X12_tried_121  : Nat → zS → Option (Int32 × zS)
  | 0, _ => none
  | n + 1, σ => 
    (rdI σ 5039 23 1).bind fun v_1 =>
    if 24 ≤ v_1 then
      lt (wI σ 5000 37 (-1 : Int32)) fun σ_5 =>
      (f_X12_doneBy 1 (-1 : Int32) σ_5).bind fun v_8 =>
      some (v_8, σ_5)
    else
      (f_X12_passes 1 σ).bind fun σ_11 =>
      f_X12_tried_121 n σ_11
theorem b_X12_tried_121 {Q : Option Value → zS → Prop} : ∀ (n : Nat)  (σ : zS) (h : wpO (f_X12_tried_121 n σ) (fun a => Q (some (.int a.1)) a.2)), PZ alM mX12_tried (7) Q 121 [(0, .ref 5000)] [] σ := by
  intro n
  induction n with
  | zero => intro  σ h; exact wp_none h
  | succ n ih =>
    intro  σ h
    rw [f_X12_tried_121] at h
    refine PW_aload_n (pc' := 122) (q := 0) (pw_dk dc_X12_tried 72 rfl) rfl rfl rfl ?_
    refine PW_getR (pc' := 125) (id := 5000) (ci := 12) (nn := 0) (C0 := RX12) (T := TX12) (N := 62) (j := 38) (r := 5039) (pw_dk dc_X12_tried 73 rfl) rfl me_5000 rfl pi_12 (by decide) fk_12_38 tw_1435 (rfl) (by decide) ?_
    refine PW_iconst (pc' := 126) (v := 1) (pw_dk dc_X12_tried 74 rfl) rfl (by decide) ?_
    obtain ⟨v_1, hi_2, e_3, h⟩ := wp_rdIx h
    refine PZ_ialdx (pc' := 127) (v := v_1) (id := 5039) (nn := 23) (pw_dk dc_X12_tried 75 rfl) rfl me_5039 hi_2 e_3 ?_
    refine PW_bipush (pc' := 129) (v := 24) (pw_dk dc_X12_tried 76 rfl) rfl (by decide) ?_
    refine PW_icmp_ge (pc' := 132) (tgt := 140) (pw_dk dc_X12_tried 77 rfl) rfl (by decide) (fun c_4 => ?_) (fun c_4 => ?_)
    · rw [if_pos c_4] at h
      refine PW_aload_n (pc' := 141) (q := 0) (pw_dk dc_X12_tried 82 rfl) rfl rfl rfl ?_
      refine PW_iconst (pc' := 142) (v := (-1 : Int32)) (pw_dk dc_X12_tried 83 rfl) rfl (by decide) ?_
      obtain ⟨σ_5, e_6, h⟩ := lt_x h
      refine PZ_putX (pc' := 145) (σ' := σ_5) (id := 5000) (ci := 12) (nn := 0) (C0 := RX12) (T := TX12) (N := 62) (j := 37) (ty := tyX12 37) (pw_dk dc_X12_tried 84 rfl) rfl me_5000 rfl pi_12 tyX12_ok nmX12 (by decide) fk_12_37 tw_1434 rfl (tyX12_ok 37 (by decide)) (by first | rfl | decide) (by first | rfl | decide) e_6 ?_
      refine PW_aload_n (pc' := 146) (q := 0) (pw_dk dc_X12_tried 85 rfl) rfl rfl rfl ?_
      refine PW_iconst (pc' := 147) (v := 1) (pw_dk dc_X12_tried 86 rfl) rfl (by decide) ?_
      refine PW_iconst (pc' := 148) (v := (-1 : Int32)) (pw_dk dc_X12_tried 87 rfl) rfl (by decide) ?_
      refine PZ_callVi (pc' := 151) (y := yX12_doneBy) (M' := mX12_doneBy) (d' := 0) (As := [.int 1, .int (-1 : Int32)]) (st := []) (b := 5000) (ci := 12) (nn := 0) me_5000 rfl tw_2045 tw_117 (pw_dk dc_X12_tried 88 rfl) rfl Y_X12_doneBy tw_2043 rfl (by decide) (Nat.le_of_ble_eq_true rfl) (t_X12_doneBy 1 (-1 : Int32) σ_5 _ ?_)
      obtain ⟨v_8, e_9, h⟩ := wp_bind h
      refine ⟨v_8, e_9, _, rfl, fun hn_7 => ?_⟩
      show PZ alM mX12_tried (7) Q 151 [(0, .ref 5000)] [.int v_8] σ_5
      have z := wp_some h
      exact PZ_iret (ty := .int) (pw_dk dc_X12_tried 89 rfl) rfl rfl z
    · rw [if_neg c_4] at h
      refine PW_aload_n (pc' := 133) (q := 0) (pw_dk dc_X12_tried 78 rfl) rfl rfl rfl ?_
      refine PW_iconst (pc' := 134) (v := 1) (pw_dk dc_X12_tried 79 rfl) rfl (by decide) ?_
      refine PZ_callVv (pc' := 137) (y := yX12_passes) (M' := mX12_passes) (d' := 6) (As := [.int 1]) (st := []) (b := 5000) (ci := 12) (nn := 0) me_5000 rfl tw_1862 tw_91 (pw_dk dc_X12_tried 80 rfl) rfl Y_X12_passes tw_1860 rfl (by decide) (Nat.le_of_ble_eq_true rfl) (t_X12_passes 1 σ _ ?_)
      obtain ⟨σ_11, e_12, h⟩ := wp_bind h
      refine ⟨σ_11, e_12, rfl, fun hn_10 => ?_⟩
      show PZ alM mX12_tried (7) Q 137 [(0, .ref 5000)] [] σ_11
      refine PW_goto (tgt := 121) (pw_dk dc_X12_tried 81 rfl) (by decide) ?_
      exact ih  σ_11 h
def f_X12_tried_52  : Nat → Int32 → Int32 → Int32 → zS → Option (Int32 × zS)
  | 0, _, _, _, _ => none
  | n + 1, x1, x2, x4, σ => 
    (rdI σ 5004 16 2).bind fun v_1 =>
    if v_1 ≤ x4 then
      lt (wI σ 5000 37 x1) fun σ_5 =>
      lt (wI σ_5 5000 47 x2) fun σ_7 =>
      f_X12_tried_121 FU σ_7
    else
      if x1 = 4 then
        (wrI σ 5044 115 ((5 : Int32) + x4) 0).bind fun σ_10 =>
        f_X12_tried_78 (f_X12_tried_52 n) x1 x2 x4 σ_10
      else
        f_X12_tried_78 (f_X12_tried_52 n) x1 x2 x4 σ
theorem b_X12_tried_52 {Q : Option Value → zS → Prop} : ∀ (n : Nat) (x1 : Int32) (x2 : Int32) (x4 : Int32) (σ : zS) (h : wpO (f_X12_tried_52 n x1 x2 x4 σ) (fun a => Q (some (.int a.1)) a.2)), PZ alM mX12_tried (7) Q 52 [(0, .ref 5000), (1, .int x1), (2, .int x2), (4, .int x4)] [] σ := by
  intro n
  induction n with
  | zero => intro x1 x2 x4 σ h; exact wp_none h
  | succ n ih =>
    intro x1 x2 x4 σ h
    rw [f_X12_tried_52] at h
    refine PW_iload (pc' := 54) (q := 3) (pw_dk dc_X12_tried 31 rfl) rfl rfl ?_
    refine PW_aload_n (pc' := 55) (q := 0) (pw_dk dc_X12_tried 32 rfl) rfl rfl rfl ?_
    refine PW_getR (pc' := 58) (id := 5000) (ci := 12) (nn := 0) (C0 := RX12) (T := TX12) (N := 62) (j := 3) (r := 5004) (pw_dk dc_X12_tried 33 rfl) rfl me_5000 rfl pi_12 (by decide) fk_12_3 tw_1400 (rfl) (by decide) ?_
    refine PW_iconst (pc' := 59) (v := 2) (pw_dk dc_X12_tried 34 rfl) rfl (by decide) ?_
    obtain ⟨v_1, hi_2, e_3, h⟩ := wp_rdIx h
    refine PZ_ialdx (pc' := 60) (v := v_1) (id := 5004) (nn := 16) (pw_dk dc_X12_tried 35 rfl) rfl me_5004 hi_2 e_3 ?_
    refine PW_icmp_ge (pc' := 63) (tgt := 111) (pw_dk dc_X12_tried 36 rfl) rfl (by decide) (fun c_4 => ?_) (fun c_4 => ?_)
    · rw [if_pos c_4] at h
      refine PW_aload_n (pc' := 112) (q := 0) (pw_dk dc_X12_tried 66 rfl) rfl rfl rfl ?_
      refine PW_iload_n (pc' := 113) (q := 1) (pw_dk dc_X12_tried 67 rfl) rfl rfl rfl ?_
      obtain ⟨σ_5, e_6, h⟩ := lt_x h
      refine PZ_putX (pc' := 116) (σ' := σ_5) (id := 5000) (ci := 12) (nn := 0) (C0 := RX12) (T := TX12) (N := 62) (j := 37) (ty := tyX12 37) (pw_dk dc_X12_tried 68 rfl) rfl me_5000 rfl pi_12 tyX12_ok nmX12 (by decide) fk_12_37 tw_1434 rfl (tyX12_ok 37 (by decide)) (by first | rfl | decide) (by first | rfl | decide) e_6 ?_
      refine PW_aload_n (pc' := 117) (q := 0) (pw_dk dc_X12_tried 69 rfl) rfl rfl rfl ?_
      refine PW_iload_n (pc' := 118) (q := 2) (pw_dk dc_X12_tried 70 rfl) rfl rfl rfl ?_
      obtain ⟨σ_7, e_8, h⟩ := lt_x h
      refine PZ_putX (pc' := 121) (σ' := σ_7) (id := 5000) (ci := 12) (nn := 0) (C0 := RX12) (T := TX12) (N := 62) (j := 47) (ty := tyX12 47) (pw_dk dc_X12_tried 71 rfl) rfl me_5000 rfl pi_12 tyX12_ok nmX12 (by decide) fk_12_47 tw_1444 rfl (tyX12_ok 47 (by decide)) (by first | rfl | decide) (by first | rfl | decide) e_8 ?_
      refine PW_sub (lv' := [(0, .ref 5000)]) [0] rfl ?_
      exact b_X12_tried_121 FU σ_7 h
    · rw [if_neg c_4] at h
      refine PW_iload_n (pc' := 64) (q := 1) (pw_dk dc_X12_tried 37 rfl) rfl rfl rfl ?_
      refine PW_iconst (pc' := 65) (v := 4) (pw_dk dc_X12_tried 38 rfl) rfl (by decide) ?_
      refine PW_icmp_ne (pc' := 68) (tgt := 78) (pw_dk dc_X12_tried 39 rfl) rfl (by decide) (fun c_9 => ?_) (fun c_9 => ?_)
      · rw [if_neg c_9] at h
        exact b_X12_tried_78 (f_X12_tried_52 n) ih x1 x2 x4 σ h
      · rw [if_pos c_9] at h
        refine PW_aload_n (pc' := 69) (q := 0) (pw_dk dc_X12_tried 40 rfl) rfl rfl rfl ?_
        refine PW_getR (pc' := 72) (id := 5000) (ci := 12) (nn := 0) (C0 := RX12) (T := TX12) (N := 62) (j := 43) (r := 5044) (pw_dk dc_X12_tried 41 rfl) rfl me_5000 rfl pi_12 (by decide) fk_12_43 tw_1440 (rfl) (by decide) ?_
        refine PW_iconst (pc' := 73) (v := 5) (pw_dk dc_X12_tried 42 rfl) rfl (by decide) ?_
        refine PW_iload (pc' := 75) (q := 3) (pw_dk dc_X12_tried 43 rfl) rfl rfl ?_
        refine PW_iadd (pc' := 76) (pw_dk dc_X12_tried 44 rfl) rfl ?_
        refine PW_iconst (pc' := 77) (v := 0) (pw_dk dc_X12_tried 45 rfl) rfl (by decide) ?_
        obtain ⟨σ_10, hi_11, e_12, h⟩ := wp_wrIx h
        refine PZ_iastx (pc' := 78) (σ' := σ_10) (id := 5044) (nn := 115) (pw_dk dc_X12_tried 46 rfl) rfl me_5044 hi_11 e_12 ?_
        exact b_X12_tried_78 (f_X12_tried_52 n) ih x1 x2 x4 σ_10 h
def f_X12_tried_36  (x1 : Int32) (x2 : Int32) (s0 : Int32) (σ : zS) : Option (Int32 × zS) := 
  if s0 = 0 then
    some ((-1 : Int32), σ)
  else
    (f_X12_copies 1 0 σ).bind fun σ_3 =>
    f_X12_tried_52 FU x1 x2 0 σ_3
theorem b_X12_tried_36 {Q : Option Value → zS → Prop} (x1 : Int32) (x2 : Int32) (s0 : Int32) (σ : zS) (h : wpO (f_X12_tried_36 x1 x2 s0 σ) (fun a => Q (some (.int a.1)) a.2)) : PZ alM mX12_tried (7) Q 36 [(0, .ref 5000), (1, .int x1), (2, .int x2)] [.int s0] σ := by
  unfold f_X12_tried_36 at h
  refine PW_istore_n (pc' := 37) (lv' := [(3, .int s0), (0, .ref 5000), (1, .int x1), (2, .int x2)]) (pw_dk dc_X12_tried 20 rfl) rfl rfl (by decide) rfl ?_
  refine PW_iload_n (pc' := 38) (q := 0) (pw_dk dc_X12_tried 21 rfl) rfl rfl rfl ?_
  refine PW_if_ne (pc' := 41) (tgt := 43) (pw_dk dc_X12_tried 22 rfl) rfl (by decide) (fun c_1 => ?_) (fun c_1 => ?_)
  · rw [if_neg c_1] at h
    refine PW_aload_n (pc' := 44) (q := 1) (pw_dk dc_X12_tried 25 rfl) rfl rfl rfl ?_
    refine PW_iconst (pc' := 45) (v := 1) (pw_dk dc_X12_tried 26 rfl) rfl (by decide) ?_
    refine PW_iconst (pc' := 46) (v := 0) (pw_dk dc_X12_tried 27 rfl) rfl (by decide) ?_
    refine PZ_callVv (pc' := 49) (y := yX12_copies) (M' := mX12_copies) (d' := 0) (As := [.int 1, .int 0]) (st := []) (b := 5000) (ci := 12) (nn := 0) me_5000 rfl tw_1850 tw_90 (pw_dk dc_X12_tried 28 rfl) rfl Y_X12_copies tw_1848 rfl (by decide) (Nat.le_of_ble_eq_true rfl) (t_X12_copies 1 0 σ _ ?_)
    obtain ⟨σ_3, e_4, h⟩ := wp_bind h
    refine ⟨σ_3, e_4, rfl, fun hn_2 => ?_⟩
    show PZ alM mX12_tried (7) Q 49 [(3, .int s0), (0, .ref 5000), (1, .int x1), (2, .int x2)] [] σ_3
    refine PW_iconst (pc' := 50) (v := 0) (pw_dk dc_X12_tried 29 rfl) rfl (by decide) ?_
    refine PW_istore (pc' := 52) (lv' := [(4, .int 0), (3, .int s0), (0, .ref 5000), (1, .int x1), (2, .int x2)]) (pw_dk dc_X12_tried 30 rfl) rfl (by decide) rfl ?_
    refine PW_sub (lv' := [(0, .ref 5000), (1, .int x1), (2, .int x2), (4, .int 0)]) [2, 3, 4, 0] rfl ?_
    exact b_X12_tried_52 FU x1 x2 0 σ_3 h
  · rw [if_pos c_1] at h
    refine PW_iconst (pc' := 42) (v := (-1 : Int32)) (pw_dk dc_X12_tried 23 rfl) rfl (by decide) ?_
    have z := wp_some h
    exact PZ_iret (ty := .int) (pw_dk dc_X12_tried 24 rfl) rfl rfl z
def f_X12_tried_35  (x1 : Int32) (x2 : Int32) (σ : zS) : Option (Int32 × zS) := 
  f_X12_tried_36 x1 x2 0 σ
theorem b_X12_tried_35 {Q : Option Value → zS → Prop} (x1 : Int32) (x2 : Int32) (σ : zS) (h : wpO (f_X12_tried_35 x1 x2 σ) (fun a => Q (some (.int a.1)) a.2)) : PZ alM mX12_tried (7) Q 35 [(0, .ref 5000), (1, .int x1), (2, .int x2)] [] σ := by
  unfold f_X12_tried_35 at h
  refine PW_iconst (pc' := 36) (v := 0) (pw_dk dc_X12_tried 19 rfl) rfl (by decide) ?_
  exact b_X12_tried_36 x1 x2 0 σ h
def f_X12_tried (x1 : Int32) (x2 : Int32) (σ : zS) : Option (Int32 × zS) := 
  lt (wI σ 5000 0 0) fun σ_1 =>
  if x1 = 3 then
    (f_X12_isMan x2 σ_1).bind fun v_8 =>
    f_X12_tried_36 x1 x2 v_8 σ_1
  else
    if x1 < 0 then
      f_X12_tried_35 x1 x2 σ_1
    else
      if 5 < x1 then
        f_X12_tried_35 x1 x2 σ_1
      else
        if x2 = 0 then
          f_X12_tried_36 x1 x2 1 σ_1
        else
          f_X12_tried_35 x1 x2 σ_1
theorem t_X12_tried (x1 : Int32) (x2 : Int32) (σ : zS) (Q : Option Value → zS → Prop) (h : wpO (f_X12_tried x1 x2 σ) (fun a => Q (some (.int a.1)) a.2)) : PK alM yX12_tried mX12_tried (7) [.ref 5000, .int x1, .int x2] σ Q := by
  refine PC_ofF (by decide +kernel) rfl rfl (Nat.le_of_ble_eq_true rfl) ?_
  show PZ alM mX12_tried (7) Q 0 [(0, .ref 5000), (1, .int x1), (2, .int x2)] [] σ
  unfold f_X12_tried at h
  refine PW_aload_n (pc' := 1) (q := 0) (pw_dk dc_X12_tried 0 rfl) rfl rfl rfl ?_
  refine PW_iconst (pc' := 2) (v := 0) (pw_dk dc_X12_tried 1 rfl) rfl (by decide) ?_
  obtain ⟨σ_1, e_2, h⟩ := lt_x h
  refine PZ_putX (pc' := 5) (σ' := σ_1) (id := 5000) (ci := 12) (nn := 0) (C0 := RX12) (T := TX12) (N := 62) (j := 0) (ty := tyX12 0) (pw_dk dc_X12_tried 2 rfl) rfl me_5000 rfl pi_12 tyX12_ok nmX12 (by decide) fk_12_0 tw_1397 rfl (tyX12_ok 0 (by decide)) (by first | rfl | decide) (by first | rfl | decide) e_2 ?_
  refine PW_iload_n (pc' := 6) (q := 1) (pw_dk dc_X12_tried 3 rfl) rfl rfl rfl ?_
  refine PW_iconst (pc' := 7) (v := 3) (pw_dk dc_X12_tried 4 rfl) rfl (by decide) ?_
  refine PW_icmp_ne (pc' := 10) (tgt := 18) (pw_dk dc_X12_tried 5 rfl) rfl (by decide) (fun c_3 => ?_) (fun c_3 => ?_)
  · rw [if_neg c_3] at h
    refine PW_iload_n (pc' := 19) (q := 1) (pw_dk dc_X12_tried 10 rfl) rfl rfl rfl ?_
    refine PW_if_lt (pc' := 22) (tgt := 35) (pw_dk dc_X12_tried 11 rfl) rfl (by decide) (fun c_4 => ?_) (fun c_4 => ?_)
    · rw [if_pos c_4] at h
      exact b_X12_tried_35 x1 x2 σ_1 h
    · rw [if_neg c_4] at h
      refine PW_iload_n (pc' := 23) (q := 1) (pw_dk dc_X12_tried 12 rfl) rfl rfl rfl ?_
      refine PW_iconst (pc' := 24) (v := 5) (pw_dk dc_X12_tried 13 rfl) rfl (by decide) ?_
      refine PW_icmp_gt (pc' := 27) (tgt := 35) (pw_dk dc_X12_tried 14 rfl) rfl (by decide) (fun c_5 => ?_) (fun c_5 => ?_)
      · rw [if_pos c_5] at h
        exact b_X12_tried_35 x1 x2 σ_1 h
      · rw [if_neg c_5] at h
        refine PW_iload_n (pc' := 28) (q := 2) (pw_dk dc_X12_tried 15 rfl) rfl rfl rfl ?_
        refine PW_if_ne (pc' := 31) (tgt := 35) (pw_dk dc_X12_tried 16 rfl) rfl (by decide) (fun c_6 => ?_) (fun c_6 => ?_)
        · rw [if_neg c_6] at h
          exact b_X12_tried_35 x1 x2 σ_1 h
        · rw [if_pos c_6] at h
          refine PW_iconst (pc' := 32) (v := 1) (pw_dk dc_X12_tried 17 rfl) rfl (by decide) ?_
          refine PW_goto (tgt := 36) (pw_dk dc_X12_tried 18 rfl) (by decide) ?_
          exact b_X12_tried_36 x1 x2 1 σ_1 h
  · rw [if_pos c_3] at h
    refine PW_aload_n (pc' := 11) (q := 0) (pw_dk dc_X12_tried 6 rfl) rfl rfl rfl ?_
    refine PW_iload_n (pc' := 12) (q := 2) (pw_dk dc_X12_tried 7 rfl) rfl rfl rfl ?_
    refine PZ_callVi (pc' := 15) (y := yX12_isMan) (M' := mX12_isMan) (d' := 0) (As := [.int x2]) (st := []) (b := 5000) (ci := 12) (nn := 0) me_5000 rfl tw_1742 tw_77 (pw_dk dc_X12_tried 8 rfl) rfl Y_X12_isMan tw_1740 rfl (by decide) (Nat.le_of_ble_eq_true rfl) (t_X12_isMan x2 σ_1 _ ?_)
    obtain ⟨v_8, e_9, h⟩ := wp_bind h
    refine ⟨v_8, e_9, _, rfl, fun hn_7 => ?_⟩
    show PZ alM mX12_tried (7) Q 15 [(0, .ref 5000), (1, .int x1), (2, .int x2)] [.int v_8] σ_1
    refine PW_goto (tgt := 36) (pw_dk dc_X12_tried 9 rfl) (by decide) ?_
    exact b_X12_tried_36 x1 x2 v_8 σ_1 h
