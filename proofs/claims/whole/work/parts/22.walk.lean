/-! walks (printed by wip/gen) -/
def f_X12_half_7 (a0 n0 : Nat) : Nat → Int32 → Int32 → zS → Option zS
  | 0, _, _, _ => none
  | n + 1, x1, x2, σ => 
    if x1 ≤ x2 then
      some σ
    else
      (rdI σ a0 n0 (x1 + x2)).bind fun v_2 =>
      (wrI σ a0 n0 x2 v_2).bind fun σ_5 =>
      f_X12_half_7 a0 n0 n x1 (x2 + 1) σ_5
theorem b_X12_half_7 {Q : Option Value → zS → Prop} (a0 n0 : Nat) (ha0 : (a0, 13, n0) ∈ alM) : ∀ (n : Nat) (x1 : Int32) (x2 : Int32) (σ : zS) (h : wpO (f_X12_half_7 a0 n0 n x1 x2 σ) (fun s => Q none s)), PZ alM mX12_half (0) Q 7 [(0, .ref a0), (1, .int x1), (2, .int x2)] [] σ := by
  intro n
  induction n with
  | zero => intro x1 x2 σ h; exact wp_none h
  | succ n ih =>
    intro x1 x2 σ h
    rw [f_X12_half_7] at h
    refine PW_iload_n (pc' := 8) (q := 2) (pw_dk dc_X12_half 7 rfl) rfl rfl rfl ?_
    refine PW_iload_n (pc' := 9) (q := 1) (pw_dk dc_X12_half 8 rfl) rfl rfl rfl ?_
    refine PW_icmp_ge (pc' := 12) (tgt := 26) (pw_dk dc_X12_half 9 rfl) rfl (by decide) (fun c_1 => ?_) (fun c_1 => ?_)
    · rw [if_pos c_1] at h
      have z := wp_some h
      exact PZ_vret (pw_dk dc_X12_half 20 rfl) rfl z
    · rw [if_neg c_1] at h
      refine PW_aload_n (pc' := 13) (q := 0) (pw_dk dc_X12_half 10 rfl) rfl rfl rfl ?_
      refine PW_iload_n (pc' := 14) (q := 2) (pw_dk dc_X12_half 11 rfl) rfl rfl rfl ?_
      refine PW_aload_n (pc' := 15) (q := 0) (pw_dk dc_X12_half 12 rfl) rfl rfl rfl ?_
      refine PW_iload_n (pc' := 16) (q := 1) (pw_dk dc_X12_half 13 rfl) rfl rfl rfl ?_
      refine PW_iload_n (pc' := 17) (q := 2) (pw_dk dc_X12_half 14 rfl) rfl rfl rfl ?_
      refine PW_iadd (pc' := 18) (pw_dk dc_X12_half 15 rfl) rfl ?_
      obtain ⟨v_2, hi_3, e_4, h⟩ := wp_rdIx h
      refine PZ_ialdx (pc' := 19) (v := v_2) (id := a0) (nn := n0) (pw_dk dc_X12_half 16 rfl) rfl ha0 hi_3 e_4 ?_
      obtain ⟨σ_5, hi_6, e_7, h⟩ := wp_wrIx h
      refine PZ_iastx (pc' := 20) (σ' := σ_5) (id := a0) (nn := n0) (pw_dk dc_X12_half 17 rfl) rfl ha0 hi_6 e_7 ?_
      refine PW_iinc (pc' := 23) (q := 2) (v := x2 + 1) (lv' := [(2, .int (x2 + 1)), (0, .ref a0), (1, .int x1)]) (pw_dk dc_X12_half 18 rfl) rfl rfl rfl (by decide) rfl ?_
      refine PW_goto (tgt := 7) (pw_dk dc_X12_half 19 rfl) (by decide) ?_
      refine PW_sub (lv' := [(0, .ref a0), (1, .int x1), (2, .int (x2 + 1))]) [1, 2, 0] rfl ?_
      exact ih x1 (x2 + 1) σ_5 h
def f_X12_half (a0 n0 : Nat) (σ : zS) : Option zS := 
  lt (α := Int32) ((nI n0) / (2 : Int32)) fun x1_1 =>
  f_X12_half_7 a0 n0 FU x1_1 0 σ
theorem t_X12_half (a0 n0 : Nat) (ha0 : (a0, 13, n0) ∈ alM) (σ : zS) (Q : Option Value → zS → Prop) (h : wpO (f_X12_half a0 n0 σ) (fun s => Q none s)) : PK alM yX12_half mX12_half (0) [.ref a0] σ Q := by
  refine PC_ofF (by decide +kernel) rfl rfl (Nat.le_of_ble_eq_true rfl) ?_
  show PZ alM mX12_half (0) Q 0 [(0, .ref a0)] [] σ
  unfold f_X12_half at h
  refine PW_aload_n (pc' := 1) (q := 0) (pw_dk dc_X12_half 0 rfl) rfl rfl rfl ?_
  refine PW_alen13 (pc' := 2) (nn := n0) (pw_dk dc_X12_half 1 rfl) rfl ha0 ?_
  refine PW_iconst (pc' := 3) (v := 2) (pw_dk dc_X12_half 2 rfl) rfl (by decide) ?_
  refine PW_idiv (pc' := 4) (pw_dk dc_X12_half 3 rfl) rfl (by decide) ?_
  refine PW_topi (fun x1_1 ex1_1 => ?_)
  replace h := lt_w h ex1_1
  refine PW_istore_n (pc' := 5) (lv' := [(1, .int x1_1), (0, .ref a0)]) (pw_dk dc_X12_half 4 rfl) rfl rfl (by decide) rfl ?_
  refine PW_iconst (pc' := 6) (v := 0) (pw_dk dc_X12_half 5 rfl) rfl (by decide) ?_
  refine PW_istore_n (pc' := 7) (lv' := [(2, .int 0), (1, .int x1_1), (0, .ref a0)]) (pw_dk dc_X12_half 6 rfl) rfl rfl (by decide) rfl ?_
  refine PW_sub (lv' := [(0, .ref a0), (1, .int x1_1), (2, .int 0)]) [2, 1, 0] rfl ?_
  exact b_X12_half_7 a0 n0 ha0 FU x1_1 0 σ h
def f_X12_firstState (x1 : Int32) (σ : zS) : Option Int32 := 
  (rdI σ 5010 10 x1).bind fun v_1 =>
  (rdI σ 5011 10 x1).bind fun v_4 =>
  some (((16 : Int32) * v_1) + ((4 : Int32) * v_4))
theorem t_X12_firstState (x1 : Int32) (σ : zS) (Q : Option Value → zS → Prop) (h : wpO (f_X12_firstState x1 σ) (fun a => Q (some (.int a)) σ)) : PK alM yX12_firstState mX12_firstState (0) [.ref 5000, .int x1] σ Q := by
  refine PC_ofF (by decide +kernel) rfl rfl (Nat.le_of_ble_eq_true rfl) ?_
  show PZ alM mX12_firstState (0) Q 0 [(0, .ref 5000), (1, .int x1)] [] σ
  unfold f_X12_firstState at h
  refine PW_bipush (pc' := 2) (v := 16) (pw_dk dc_X12_firstState 0 rfl) rfl (by decide) ?_
  refine PW_aload_n (pc' := 3) (q := 0) (pw_dk dc_X12_firstState 1 rfl) rfl rfl rfl ?_
  refine PW_getR (pc' := 6) (id := 5000) (ci := 12) (nn := 0) (C0 := RX12) (T := TX12) (N := 62) (j := 9) (r := 5010) (pw_dk dc_X12_firstState 2 rfl) rfl me_5000 rfl pi_12 (by decide) fk_12_9 tw_1406 (rfl) (by decide) ?_
  refine PW_iload_n (pc' := 7) (q := 1) (pw_dk dc_X12_firstState 3 rfl) rfl rfl rfl ?_
  obtain ⟨v_1, hi_2, e_3, h⟩ := wp_rdIx h
  refine PZ_ialdx (pc' := 8) (v := v_1) (id := 5010) (nn := 10) (pw_dk dc_X12_firstState 4 rfl) rfl me_5010 hi_2 e_3 ?_
  refine PW_imul (pc' := 9) (pw_dk dc_X12_firstState 5 rfl) rfl ?_
  refine PW_iconst (pc' := 10) (v := 4) (pw_dk dc_X12_firstState 6 rfl) rfl (by decide) ?_
  refine PW_aload_n (pc' := 11) (q := 0) (pw_dk dc_X12_firstState 7 rfl) rfl rfl rfl ?_
  refine PW_getR (pc' := 14) (id := 5000) (ci := 12) (nn := 0) (C0 := RX12) (T := TX12) (N := 62) (j := 10) (r := 5011) (pw_dk dc_X12_firstState 8 rfl) rfl me_5000 rfl pi_12 (by decide) fk_12_10 tw_1407 (rfl) (by decide) ?_
  refine PW_iload_n (pc' := 15) (q := 1) (pw_dk dc_X12_firstState 9 rfl) rfl rfl rfl ?_
  obtain ⟨v_4, hi_5, e_6, h⟩ := wp_rdIx h
  refine PZ_ialdx (pc' := 16) (v := v_4) (id := 5011) (nn := 10) (pw_dk dc_X12_firstState 10 rfl) rfl me_5011 hi_5 e_6 ?_
  refine PW_imul (pc' := 17) (pw_dk dc_X12_firstState 11 rfl) rfl ?_
  refine PW_iadd (pc' := 18) (pw_dk dc_X12_firstState 12 rfl) rfl ?_
  have z := wp_some h
  exact PZ_iret (ty := .int) (pw_dk dc_X12_firstState 13 rfl) rfl rfl z
def f_X12_begins_77  : Nat → Int32 → zS → Option zS
  | 0, _, _ => none
  | n + 1, x1, σ => 
    if 12 ≤ x1 then
      some σ
    else
      (wrI σ 5045 276 x1 0).bind fun σ_2 =>
      f_X12_begins_77 n (x1 + 1) σ_2
theorem b_X12_begins_77 {Q : Option Value → zS → Prop} : ∀ (n : Nat) (x1 : Int32) (σ : zS) (h : wpO (f_X12_begins_77 n x1 σ) (fun s => Q none s)), PZ alM mX12_begins (1) Q 77 [(0, .ref 5000), (1, .int x1)] [] σ := by
  intro n
  induction n with
  | zero => intro x1 σ h; exact wp_none h
  | succ n ih =>
    intro x1 σ h
    rw [f_X12_begins_77] at h
    refine PW_iload_n (pc' := 78) (q := 1) (pw_dk dc_X12_begins 50 rfl) rfl rfl rfl ?_
    refine PW_bipush (pc' := 80) (v := 12) (pw_dk dc_X12_begins 51 rfl) rfl (by decide) ?_
    refine PW_icmp_ge (pc' := 83) (tgt := 96) (pw_dk dc_X12_begins 52 rfl) rfl (by decide) (fun c_1 => ?_) (fun c_1 => ?_)
    · rw [if_pos c_1] at h
      have z := wp_some h
      exact PZ_vret (pw_dk dc_X12_begins 60 rfl) rfl z
    · rw [if_neg c_1] at h
      refine PW_aload_n (pc' := 84) (q := 0) (pw_dk dc_X12_begins 53 rfl) rfl rfl rfl ?_
      refine PW_getR (pc' := 87) (id := 5000) (ci := 12) (nn := 0) (C0 := RX12) (T := TX12) (N := 62) (j := 44) (r := 5045) (pw_dk dc_X12_begins 54 rfl) rfl me_5000 rfl pi_12 (by decide) fk_12_44 tw_1441 (rfl) (by decide) ?_
      refine PW_iload_n (pc' := 88) (q := 1) (pw_dk dc_X12_begins 55 rfl) rfl rfl rfl ?_
      refine PW_iconst (pc' := 89) (v := 0) (pw_dk dc_X12_begins 56 rfl) rfl (by decide) ?_
      obtain ⟨σ_2, hi_3, e_4, h⟩ := wp_wrIx h
      refine PZ_iastx (pc' := 90) (σ' := σ_2) (id := 5045) (nn := 276) (pw_dk dc_X12_begins 57 rfl) rfl me_5045 hi_3 e_4 ?_
      refine PW_iinc (pc' := 93) (q := 1) (v := x1 + 1) (lv' := [(1, .int (x1 + 1)), (0, .ref 5000)]) (pw_dk dc_X12_begins 58 rfl) rfl rfl rfl (by decide) rfl ?_
      refine PW_goto (tgt := 77) (pw_dk dc_X12_begins 59 rfl) (by decide) ?_
      refine PW_sub (lv' := [(0, .ref 5000), (1, .int (x1 + 1))]) [1, 0] rfl ?_
      exact ih (x1 + 1) σ_2 h
def f_X12_begins_29  : Nat → Int32 → zS → Option zS
  | 0, _, _ => none
  | n + 1, x1, σ => 
    (rdI σ 5004 16 2).bind fun v_1 =>
    if v_1 ≤ x1 then
      f_X12_begins_77 FU 0 σ
    else
      (f_X12_firstState x1 σ).bind fun v_6 =>
      (wrI σ 5042 115 x1 v_6).bind fun σ_8 =>
      (rdI σ_8 5013 10 x1).bind fun v_11 =>
      (wrI σ_8 5043 115 x1 v_11).bind fun σ_14 =>
      (wrI σ_14 5044 115 x1 0).bind fun σ_17 =>
      f_X12_begins_29 n (x1 + 1) σ_17
theorem b_X12_begins_29 {Q : Option Value → zS → Prop} : ∀ (n : Nat) (x1 : Int32) (σ : zS) (h : wpO (f_X12_begins_29 n x1 σ) (fun s => Q none s)), PZ alM mX12_begins (1) Q 29 [(0, .ref 5000), (1, .int x1)] [] σ := by
  intro n
  induction n with
  | zero => intro x1 σ h; exact wp_none h
  | succ n ih =>
    intro x1 σ h
    rw [f_X12_begins_29] at h
    refine PW_iload_n (pc' := 30) (q := 1) (pw_dk dc_X12_begins 20 rfl) rfl rfl rfl ?_
    refine PW_aload_n (pc' := 31) (q := 0) (pw_dk dc_X12_begins 21 rfl) rfl rfl rfl ?_
    refine PW_getR (pc' := 34) (id := 5000) (ci := 12) (nn := 0) (C0 := RX12) (T := TX12) (N := 62) (j := 3) (r := 5004) (pw_dk dc_X12_begins 22 rfl) rfl me_5000 rfl pi_12 (by decide) fk_12_3 tw_1400 (rfl) (by decide) ?_
    refine PW_iconst (pc' := 35) (v := 2) (pw_dk dc_X12_begins 23 rfl) rfl (by decide) ?_
    obtain ⟨v_1, hi_2, e_3, h⟩ := wp_rdIx h
    refine PZ_ialdx (pc' := 36) (v := v_1) (id := 5004) (nn := 16) (pw_dk dc_X12_begins 24 rfl) rfl me_5004 hi_2 e_3 ?_
    refine PW_icmp_ge (pc' := 39) (tgt := 75) (pw_dk dc_X12_begins 25 rfl) rfl (by decide) (fun c_4 => ?_) (fun c_4 => ?_)
    · rw [if_pos c_4] at h
      refine PW_iconst (pc' := 76) (v := 0) (pw_dk dc_X12_begins 48 rfl) rfl (by decide) ?_
      refine PW_istore_n (pc' := 77) (lv' := [(1, .int 0), (0, .ref 5000)]) (pw_dk dc_X12_begins 49 rfl) rfl rfl (by decide) rfl ?_
      refine PW_sub (lv' := [(0, .ref 5000), (1, .int 0)]) [1, 0] rfl ?_
      exact b_X12_begins_77 FU 0 σ h
    · rw [if_neg c_4] at h
      refine PW_aload_n (pc' := 40) (q := 0) (pw_dk dc_X12_begins 26 rfl) rfl rfl rfl ?_
      refine PW_getR (pc' := 43) (id := 5000) (ci := 12) (nn := 0) (C0 := RX12) (T := TX12) (N := 62) (j := 41) (r := 5042) (pw_dk dc_X12_begins 27 rfl) rfl me_5000 rfl pi_12 (by decide) fk_12_41 tw_1438 (rfl) (by decide) ?_
      refine PW_iload_n (pc' := 44) (q := 1) (pw_dk dc_X12_begins 28 rfl) rfl rfl rfl ?_
      refine PW_aload_n (pc' := 45) (q := 0) (pw_dk dc_X12_begins 29 rfl) rfl rfl rfl ?_
      refine PW_iload_n (pc' := 46) (q := 1) (pw_dk dc_X12_begins 30 rfl) rfl rfl rfl ?_
      refine PZ_callVi (pc' := 49) (y := yX12_firstState) (M' := mX12_firstState) (d' := 0) (As := [.int x1]) (st := [.int x1, .ref 5042]) (b := 5000) (ci := 12) (nn := 0) me_5000 rfl tw_1395 tw_47 (pw_dk dc_X12_begins 31 rfl) rfl Y_X12_firstState tw_1393 rfl (by decide) (Nat.le_of_ble_eq_true rfl) (t_X12_firstState x1 σ _ ?_)
      obtain ⟨v_6, e_7, h⟩ := wp_bind h
      refine ⟨v_6, e_7, _, rfl, fun hn_5 => ?_⟩
      show PZ alM mX12_begins (1) Q 49 [(0, .ref 5000), (1, .int x1)] [.int v_6, .int x1, .ref 5042] σ
      obtain ⟨σ_8, hi_9, e_10, h⟩ := wp_wrIx h
      refine PZ_iastx (pc' := 50) (σ' := σ_8) (id := 5042) (nn := 115) (pw_dk dc_X12_begins 32 rfl) rfl me_5042 hi_9 e_10 ?_
      refine PW_aload_n (pc' := 51) (q := 0) (pw_dk dc_X12_begins 33 rfl) rfl rfl rfl ?_
      refine PW_getR (pc' := 54) (id := 5000) (ci := 12) (nn := 0) (C0 := RX12) (T := TX12) (N := 62) (j := 42) (r := 5043) (pw_dk dc_X12_begins 34 rfl) rfl me_5000 rfl pi_12 (by decide) fk_12_42 tw_1439 (rfl) (by decide) ?_
      refine PW_iload_n (pc' := 55) (q := 1) (pw_dk dc_X12_begins 35 rfl) rfl rfl rfl ?_
      refine PW_aload_n (pc' := 56) (q := 0) (pw_dk dc_X12_begins 36 rfl) rfl rfl rfl ?_
      refine PW_getR (pc' := 59) (id := 5000) (ci := 12) (nn := 0) (C0 := RX12) (T := TX12) (N := 62) (j := 12) (r := 5013) (pw_dk dc_X12_begins 37 rfl) rfl me_5000 rfl pi_12 (by decide) fk_12_12 tw_1409 (rfl) (by decide) ?_
      refine PW_iload_n (pc' := 60) (q := 1) (pw_dk dc_X12_begins 38 rfl) rfl rfl rfl ?_
      obtain ⟨v_11, hi_12, e_13, h⟩ := wp_rdIx h
      refine PZ_ialdx (pc' := 61) (v := v_11) (id := 5013) (nn := 10) (pw_dk dc_X12_begins 39 rfl) rfl me_5013 hi_12 e_13 ?_
      obtain ⟨σ_14, hi_15, e_16, h⟩ := wp_wrIx h
      refine PZ_iastx (pc' := 62) (σ' := σ_14) (id := 5043) (nn := 115) (pw_dk dc_X12_begins 40 rfl) rfl me_5043 hi_15 e_16 ?_
      refine PW_aload_n (pc' := 63) (q := 0) (pw_dk dc_X12_begins 41 rfl) rfl rfl rfl ?_
      refine PW_getR (pc' := 66) (id := 5000) (ci := 12) (nn := 0) (C0 := RX12) (T := TX12) (N := 62) (j := 43) (r := 5044) (pw_dk dc_X12_begins 42 rfl) rfl me_5000 rfl pi_12 (by decide) fk_12_43 tw_1440 (rfl) (by decide) ?_
      refine PW_iload_n (pc' := 67) (q := 1) (pw_dk dc_X12_begins 43 rfl) rfl rfl rfl ?_
      refine PW_iconst (pc' := 68) (v := 0) (pw_dk dc_X12_begins 44 rfl) rfl (by decide) ?_
      obtain ⟨σ_17, hi_18, e_19, h⟩ := wp_wrIx h
      refine PZ_iastx (pc' := 69) (σ' := σ_17) (id := 5044) (nn := 115) (pw_dk dc_X12_begins 45 rfl) rfl me_5044 hi_18 e_19 ?_
      refine PW_iinc (pc' := 72) (q := 1) (v := x1 + 1) (lv' := [(1, .int (x1 + 1)), (0, .ref 5000)]) (pw_dk dc_X12_begins 46 rfl) rfl rfl rfl (by decide) rfl ?_
      refine PW_goto (tgt := 29) (pw_dk dc_X12_begins 47 rfl) (by decide) ?_
      refine PW_sub (lv' := [(0, .ref 5000), (1, .int (x1 + 1))]) [1, 0] rfl ?_
      exact ih (x1 + 1) σ_17 h
def f_X12_begins  (σ : zS) : Option zS := 
  (wrI σ 5039 23 0 0).bind fun σ_1 =>
  (rdI σ_1 5004 16 6).bind fun v_4 =>
  (wrI σ_1 5040 23 0 v_4).bind fun σ_7 =>
  (wrI σ_7 5041 23 0 0).bind fun σ_10 =>
  f_X12_begins_29 FU 0 σ_10
theorem t_X12_begins (σ : zS) (Q : Option Value → zS → Prop) (h : wpO (f_X12_begins σ) (fun s => Q none s)) : PK alM yX12_begins mX12_begins (1) [.ref 5000] σ Q := by
  refine PC_ofF (by decide +kernel) rfl rfl (Nat.le_of_ble_eq_true rfl) ?_
  show PZ alM mX12_begins (1) Q 0 [(0, .ref 5000)] [] σ
  unfold f_X12_begins at h
  refine PW_aload_n (pc' := 1) (q := 0) (pw_dk dc_X12_begins 0 rfl) rfl rfl rfl ?_
  refine PW_getR (pc' := 4) (id := 5000) (ci := 12) (nn := 0) (C0 := RX12) (T := TX12) (N := 62) (j := 38) (r := 5039) (pw_dk dc_X12_begins 1 rfl) rfl me_5000 rfl pi_12 (by decide) fk_12_38 tw_1435 (rfl) (by decide) ?_
  refine PW_iconst (pc' := 5) (v := 0) (pw_dk dc_X12_begins 2 rfl) rfl (by decide) ?_
  refine PW_iconst (pc' := 6) (v := 0) (pw_dk dc_X12_begins 3 rfl) rfl (by decide) ?_
  obtain ⟨σ_1, hi_2, e_3, h⟩ := wp_wrIx h
  refine PZ_iastx (pc' := 7) (σ' := σ_1) (id := 5039) (nn := 23) (pw_dk dc_X12_begins 4 rfl) rfl me_5039 hi_2 e_3 ?_
  refine PW_aload_n (pc' := 8) (q := 0) (pw_dk dc_X12_begins 5 rfl) rfl rfl rfl ?_
  refine PW_getR (pc' := 11) (id := 5000) (ci := 12) (nn := 0) (C0 := RX12) (T := TX12) (N := 62) (j := 39) (r := 5040) (pw_dk dc_X12_begins 6 rfl) rfl me_5000 rfl pi_12 (by decide) fk_12_39 tw_1436 (rfl) (by decide) ?_
  refine PW_iconst (pc' := 12) (v := 0) (pw_dk dc_X12_begins 7 rfl) rfl (by decide) ?_
  refine PW_aload_n (pc' := 13) (q := 0) (pw_dk dc_X12_begins 8 rfl) rfl rfl rfl ?_
  refine PW_getR (pc' := 16) (id := 5000) (ci := 12) (nn := 0) (C0 := RX12) (T := TX12) (N := 62) (j := 3) (r := 5004) (pw_dk dc_X12_begins 9 rfl) rfl me_5000 rfl pi_12 (by decide) fk_12_3 tw_1400 (rfl) (by decide) ?_
  refine PW_bipush (pc' := 18) (v := 6) (pw_dk dc_X12_begins 10 rfl) rfl (by decide) ?_
  obtain ⟨v_4, hi_5, e_6, h⟩ := wp_rdIx h
  refine PZ_ialdx (pc' := 19) (v := v_4) (id := 5004) (nn := 16) (pw_dk dc_X12_begins 11 rfl) rfl me_5004 hi_5 e_6 ?_
  obtain ⟨σ_7, hi_8, e_9, h⟩ := wp_wrIx h
  refine PZ_iastx (pc' := 20) (σ' := σ_7) (id := 5040) (nn := 23) (pw_dk dc_X12_begins 12 rfl) rfl me_5040 hi_8 e_9 ?_
  refine PW_aload_n (pc' := 21) (q := 0) (pw_dk dc_X12_begins 13 rfl) rfl rfl rfl ?_
  refine PW_getR (pc' := 24) (id := 5000) (ci := 12) (nn := 0) (C0 := RX12) (T := TX12) (N := 62) (j := 40) (r := 5041) (pw_dk dc_X12_begins 14 rfl) rfl me_5000 rfl pi_12 (by decide) fk_12_40 tw_1437 (rfl) (by decide) ?_
  refine PW_iconst (pc' := 25) (v := 0) (pw_dk dc_X12_begins 15 rfl) rfl (by decide) ?_
  refine PW_iconst (pc' := 26) (v := 0) (pw_dk dc_X12_begins 16 rfl) rfl (by decide) ?_
  obtain ⟨σ_10, hi_11, e_12, h⟩ := wp_wrIx h
  refine PZ_iastx (pc' := 27) (σ' := σ_10) (id := 5041) (nn := 23) (pw_dk dc_X12_begins 17 rfl) rfl me_5041 hi_11 e_12 ?_
  refine PW_iconst (pc' := 28) (v := 0) (pw_dk dc_X12_begins 18 rfl) rfl (by decide) ?_
  refine PW_istore_n (pc' := 29) (lv' := [(1, .int 0), (0, .ref 5000)]) (pw_dk dc_X12_begins 19 rfl) rfl rfl (by decide) rfl ?_
  refine PW_sub (lv' := [(0, .ref 5000), (1, .int 0)]) [1, 0] rfl ?_
  exact b_X12_begins_29 FU 0 σ_10 h
def f_X12_text_17   (σ : zS) : Option (Int32 × zS) := 
  some ((-2 : Int32), σ)
theorem b_X12_text_17 {Q : Option Value → zS → Prop}  (σ : zS) (h : wpO (f_X12_text_17 σ) (fun a => Q (some (.int a.1)) a.2)) : PZ alM mX12_text (210) Q 17 [] [] σ := by
  unfold f_X12_text_17 at h
  refine PW_bipush (pc' := 19) (v := (-2 : Int32)) (pw_dk dc_X12_text 9 rfl) rfl (by decide) ?_
  have z := wp_some h
  exact PZ_iret (ty := .int) (pw_dk dc_X12_text 10 rfl) rfl rfl z
def f_X12_text_74 (r47 : Int32 → zS → Option (Int32 × zS)) (x2 : Int32) (s1 : Int32) (s2 : Int32) (σ : zS) : Option (Int32 × zS) := 
  (f_X12_reads s1 s2 σ).bind fun σ_2 =>
  r47 (x2 + 1) σ_2
theorem b_X12_text_74 {Q : Option Value → zS → Prop} (r47 : Int32 → zS → Option (Int32 × zS)) (hr47 : ∀ (x2 : Int32) (σ : zS), wpO (r47 x2 σ) (fun a => Q (some (.int a.1)) a.2) → PZ alM mX12_text (210) Q 47 [(0, .ref 5000), (2, .int x2)] [] σ) (x2 : Int32) (s1 : Int32) (s2 : Int32) (σ : zS) (h : wpO (f_X12_text_74 r47 x2 s1 s2 σ) (fun a => Q (some (.int a.1)) a.2)) : PZ alM mX12_text (210) Q 74 [(0, .ref 5000), (2, .int x2)] [.int s2, .int s1, .ref 5000] σ := by
  unfold f_X12_text_74 at h
  refine PZ_callVv (pc' := 77) (y := yX12_reads) (M' := mX12_reads) (d' := 0) (As := [.int s1, .int s2]) (st := []) (b := 5000) (ci := 12) (nn := 0) me_5000 rfl tw_1598 tw_48 (pw_dk dc_X12_text 43 rfl) rfl Y_X12_reads tw_1596 rfl (by decide) (Nat.le_of_ble_eq_true rfl) (t_X12_reads s1 s2 σ _ ?_)
  obtain ⟨σ_2, e_3, h⟩ := wp_bind h
  refine ⟨σ_2, e_3, rfl, fun hn_1 => ?_⟩
  show PZ alM mX12_text (210) Q 77 [(0, .ref 5000), (2, .int x2)] [] σ_2
  refine PW_iinc (pc' := 80) (q := 1) (v := x2 + 1) (lv' := [(2, .int (x2 + 1)), (0, .ref 5000)]) (pw_dk dc_X12_text 44 rfl) rfl rfl rfl (by decide) rfl ?_
  refine PW_goto (tgt := 47) (pw_dk dc_X12_text 45 rfl) (by decide) ?_
  refine PW_sub (lv' := [(0, .ref 5000), (2, .int (x2 + 1))]) [1, 0] rfl ?_
  exact hr47 (x2 + 1) σ_2 h
def f_X12_text_157   (σ : zS) : Option (Int32 × zS) := 
  lt (wI σ 5000 30 (σ.1 5000 28)) fun σ_1 =>
  lt (wI σ_1 5000 31 (σ_1.1 5000 29)) fun σ_3 =>
  if (σ_3.1 5000 28) = 0 then
    (f_X12_half 5004 16 σ_3).bind fun σ_7 =>
    (f_X12_half 5005 10 σ_7).bind fun σ_10 =>
    (f_X12_half 5006 10 σ_10).bind fun σ_13 =>
    (f_X12_half 5007 10 σ_13).bind fun σ_16 =>
    (f_X12_half 5008 10 σ_16).bind fun σ_19 =>
    (f_X12_half 5009 10 σ_19).bind fun σ_22 =>
    (f_X12_half 5010 10 σ_22).bind fun σ_25 =>
    (f_X12_half 5011 10 σ_25).bind fun σ_28 =>
    (f_X12_half 5012 10 σ_28).bind fun σ_31 =>
    (f_X12_half 5013 10 σ_31).bind fun σ_34 =>
    (f_X12_half 5014 24 σ_34).bind fun σ_37 =>
    (f_X12_half 5015 24 σ_37).bind fun σ_40 =>
    (f_X12_half 5016 24 σ_40).bind fun σ_43 =>
    (f_X12_half 5017 24 σ_43).bind fun σ_46 =>
    (f_X12_half 5018 6 σ_46).bind fun σ_49 =>
    (f_X12_half 5019 6 σ_49).bind fun σ_52 =>
    (f_X12_half 5020 128 σ_52).bind fun σ_55 =>
    (f_X12_half 5021 128 σ_55).bind fun σ_58 =>
    lt (wI σ_58 5000 53 0) fun σ_60 =>
    lt (wI σ_60 5000 54 (-1 : Int32)) fun σ_62 =>
    lt (wI σ_62 5000 45 0) fun σ_64 =>
    lt (wI σ_64 5000 46 0) fun σ_66 =>
    (f_X12_begins σ_66).bind fun σ_69 =>
    some (σ_69.1 5000 22, σ_69)
  else
    some ((-1 : Int32), σ_3)
theorem b_X12_text_157 {Q : Option Value → zS → Prop}  (σ : zS) (h : wpO (f_X12_text_157 σ) (fun a => Q (some (.int a.1)) a.2)) : PZ alM mX12_text (210) Q 157 [(0, .ref 5000)] [] σ := by
  unfold f_X12_text_157 at h
  refine PW_aload_n (pc' := 158) (q := 0) (pw_dk dc_X12_text 87 rfl) rfl rfl rfl ?_
  refine PW_aload_n (pc' := 159) (q := 0) (pw_dk dc_X12_text 88 rfl) rfl rfl rfl ?_
  refine PZ_getI (pc' := 162) (id := 5000) (ci := 12) (nn := 0) (C0 := RX12) (T := TX12) (N := 62) (j := 28) (pw_dk dc_X12_text 89 rfl) rfl me_5000 rfl pi_12 (by decide) fk_12_28 tw_1425 ?_
  obtain ⟨σ_1, e_2, h⟩ := lt_x h
  refine PZ_putX (pc' := 165) (σ' := σ_1) (id := 5000) (ci := 12) (nn := 0) (C0 := RX12) (T := TX12) (N := 62) (j := 30) (ty := tyX12 30) (pw_dk dc_X12_text 90 rfl) rfl me_5000 rfl pi_12 tyX12_ok nmX12 (by decide) fk_12_30 tw_1427 rfl (tyX12_ok 30 (by decide)) (by first | rfl | decide) (by first | rfl | decide) e_2 ?_
  refine PW_aload_n (pc' := 166) (q := 0) (pw_dk dc_X12_text 91 rfl) rfl rfl rfl ?_
  refine PW_aload_n (pc' := 167) (q := 0) (pw_dk dc_X12_text 92 rfl) rfl rfl rfl ?_
  refine PZ_getI (pc' := 170) (id := 5000) (ci := 12) (nn := 0) (C0 := RX12) (T := TX12) (N := 62) (j := 29) (pw_dk dc_X12_text 93 rfl) rfl me_5000 rfl pi_12 (by decide) fk_12_29 tw_1426 ?_
  obtain ⟨σ_3, e_4, h⟩ := lt_x h
  refine PZ_putX (pc' := 173) (σ' := σ_3) (id := 5000) (ci := 12) (nn := 0) (C0 := RX12) (T := TX12) (N := 62) (j := 31) (ty := tyX12 31) (pw_dk dc_X12_text 94 rfl) rfl me_5000 rfl pi_12 tyX12_ok nmX12 (by decide) fk_12_31 tw_1428 rfl (tyX12_ok 31 (by decide)) (by first | rfl | decide) (by first | rfl | decide) e_4 ?_
  refine PW_aload_n (pc' := 174) (q := 0) (pw_dk dc_X12_text 95 rfl) rfl rfl rfl ?_
  refine PZ_getI (pc' := 177) (id := 5000) (ci := 12) (nn := 0) (C0 := RX12) (T := TX12) (N := 62) (j := 28) (pw_dk dc_X12_text 96 rfl) rfl me_5000 rfl pi_12 (by decide) fk_12_28 tw_1425 ?_
  refine PW_if_eq (pc' := 180) (tgt := 182) (pw_dk dc_X12_text 97 rfl) rfl (by decide) (fun c_5 => ?_) (fun c_5 => ?_)
  · rw [if_pos c_5] at h
    refine PW_aload_n (pc' := 183) (q := 0) (pw_dk dc_X12_text 100 rfl) rfl rfl rfl ?_
    refine PW_getR (pc' := 186) (id := 5000) (ci := 12) (nn := 0) (C0 := RX12) (T := TX12) (N := 62) (j := 3) (r := 5004) (pw_dk dc_X12_text 101 rfl) rfl me_5000 rfl pi_12 (by decide) fk_12_3 tw_1400 (rfl) (by decide) ?_
    refine PZ_callSv (pc' := 189) (y := yX12_half) (M' := mX12_half) (d' := 0) (As := [.ref 5004]) (st := []) tw_1726 (pw_dk dc_X12_text 102 rfl) rfl Y_X12_half tw_1725 rfl (by decide) (Nat.le_of_ble_eq_true rfl) (t_X12_half 5004 16 me_5004 σ_3 _ ?_)
    obtain ⟨σ_7, e_8, h⟩ := wp_bind h
    refine ⟨σ_7, e_8, rfl, fun hn_6 => ?_⟩
    show PZ alM mX12_text (210) Q 189 [(0, .ref 5000)] [] σ_7
    refine PW_aload_n (pc' := 190) (q := 0) (pw_dk dc_X12_text 103 rfl) rfl rfl rfl ?_
    refine PW_getR (pc' := 193) (id := 5000) (ci := 12) (nn := 0) (C0 := RX12) (T := TX12) (N := 62) (j := 4) (r := 5005) (pw_dk dc_X12_text 104 rfl) rfl me_5000 rfl pi_12 (by decide) fk_12_4 tw_1401 (rfl) (by decide) ?_
    refine PZ_callSv (pc' := 196) (y := yX12_half) (M' := mX12_half) (d' := 0) (As := [.ref 5005]) (st := []) tw_1726 (pw_dk dc_X12_text 105 rfl) rfl Y_X12_half tw_1725 rfl (by decide) (Nat.le_of_ble_eq_true rfl) (t_X12_half 5005 10 me_5005 σ_7 _ ?_)
    obtain ⟨σ_10, e_11, h⟩ := wp_bind h
    refine ⟨σ_10, e_11, rfl, fun hn_9 => ?_⟩
    show PZ alM mX12_text (210) Q 196 [(0, .ref 5000)] [] σ_10
    refine PW_aload_n (pc' := 197) (q := 0) (pw_dk dc_X12_text 106 rfl) rfl rfl rfl ?_
    refine PW_getR (pc' := 200) (id := 5000) (ci := 12) (nn := 0) (C0 := RX12) (T := TX12) (N := 62) (j := 5) (r := 5006) (pw_dk dc_X12_text 107 rfl) rfl me_5000 rfl pi_12 (by decide) fk_12_5 tw_1402 (rfl) (by decide) ?_
    refine PZ_callSv (pc' := 203) (y := yX12_half) (M' := mX12_half) (d' := 0) (As := [.ref 5006]) (st := []) tw_1726 (pw_dk dc_X12_text 108 rfl) rfl Y_X12_half tw_1725 rfl (by decide) (Nat.le_of_ble_eq_true rfl) (t_X12_half 5006 10 me_5006 σ_10 _ ?_)
    obtain ⟨σ_13, e_14, h⟩ := wp_bind h
    refine ⟨σ_13, e_14, rfl, fun hn_12 => ?_⟩
    show PZ alM mX12_text (210) Q 203 [(0, .ref 5000)] [] σ_13
    refine PW_aload_n (pc' := 204) (q := 0) (pw_dk dc_X12_text 109 rfl) rfl rfl rfl ?_
    refine PW_getR (pc' := 207) (id := 5000) (ci := 12) (nn := 0) (C0 := RX12) (T := TX12) (N := 62) (j := 6) (r := 5007) (pw_dk dc_X12_text 110 rfl) rfl me_5000 rfl pi_12 (by decide) fk_12_6 tw_1403 (rfl) (by decide) ?_
    refine PZ_callSv (pc' := 210) (y := yX12_half) (M' := mX12_half) (d' := 0) (As := [.ref 5007]) (st := []) tw_1726 (pw_dk dc_X12_text 111 rfl) rfl Y_X12_half tw_1725 rfl (by decide) (Nat.le_of_ble_eq_true rfl) (t_X12_half 5007 10 me_5007 σ_13 _ ?_)
    obtain ⟨σ_16, e_17, h⟩ := wp_bind h
    refine ⟨σ_16, e_17, rfl, fun hn_15 => ?_⟩
    show PZ alM mX12_text (210) Q 210 [(0, .ref 5000)] [] σ_16
    refine PW_aload_n (pc' := 211) (q := 0) (pw_dk dc_X12_text 112 rfl) rfl rfl rfl ?_
    refine PW_getR (pc' := 214) (id := 5000) (ci := 12) (nn := 0) (C0 := RX12) (T := TX12) (N := 62) (j := 7) (r := 5008) (pw_dk dc_X12_text 113 rfl) rfl me_5000 rfl pi_12 (by decide) fk_12_7 tw_1404 (rfl) (by decide) ?_
    refine PZ_callSv (pc' := 217) (y := yX12_half) (M' := mX12_half) (d' := 0) (As := [.ref 5008]) (st := []) tw_1726 (pw_dk dc_X12_text 114 rfl) rfl Y_X12_half tw_1725 rfl (by decide) (Nat.le_of_ble_eq_true rfl) (t_X12_half 5008 10 me_5008 σ_16 _ ?_)
    obtain ⟨σ_19, e_20, h⟩ := wp_bind h
    refine ⟨σ_19, e_20, rfl, fun hn_18 => ?_⟩
    show PZ alM mX12_text (210) Q 217 [(0, .ref 5000)] [] σ_19
    refine PW_aload_n (pc' := 218) (q := 0) (pw_dk dc_X12_text 115 rfl) rfl rfl rfl ?_
    refine PW_getR (pc' := 221) (id := 5000) (ci := 12) (nn := 0) (C0 := RX12) (T := TX12) (N := 62) (j := 8) (r := 5009) (pw_dk dc_X12_text 116 rfl) rfl me_5000 rfl pi_12 (by decide) fk_12_8 tw_1405 (rfl) (by decide) ?_
    refine PZ_callSv (pc' := 224) (y := yX12_half) (M' := mX12_half) (d' := 0) (As := [.ref 5009]) (st := []) tw_1726 (pw_dk dc_X12_text 117 rfl) rfl Y_X12_half tw_1725 rfl (by decide) (Nat.le_of_ble_eq_true rfl) (t_X12_half 5009 10 me_5009 σ_19 _ ?_)
    obtain ⟨σ_22, e_23, h⟩ := wp_bind h
    refine ⟨σ_22, e_23, rfl, fun hn_21 => ?_⟩
    show PZ alM mX12_text (210) Q 224 [(0, .ref 5000)] [] σ_22
    refine PW_aload_n (pc' := 225) (q := 0) (pw_dk dc_X12_text 118 rfl) rfl rfl rfl ?_
    refine PW_getR (pc' := 228) (id := 5000) (ci := 12) (nn := 0) (C0 := RX12) (T := TX12) (N := 62) (j := 9) (r := 5010) (pw_dk dc_X12_text 119 rfl) rfl me_5000 rfl pi_12 (by decide) fk_12_9 tw_1406 (rfl) (by decide) ?_
    refine PZ_callSv (pc' := 231) (y := yX12_half) (M' := mX12_half) (d' := 0) (As := [.ref 5010]) (st := []) tw_1726 (pw_dk dc_X12_text 120 rfl) rfl Y_X12_half tw_1725 rfl (by decide) (Nat.le_of_ble_eq_true rfl) (t_X12_half 5010 10 me_5010 σ_22 _ ?_)
    obtain ⟨σ_25, e_26, h⟩ := wp_bind h
    refine ⟨σ_25, e_26, rfl, fun hn_24 => ?_⟩
    show PZ alM mX12_text (210) Q 231 [(0, .ref 5000)] [] σ_25
    refine PW_aload_n (pc' := 232) (q := 0) (pw_dk dc_X12_text 121 rfl) rfl rfl rfl ?_
    refine PW_getR (pc' := 235) (id := 5000) (ci := 12) (nn := 0) (C0 := RX12) (T := TX12) (N := 62) (j := 10) (r := 5011) (pw_dk dc_X12_text 122 rfl) rfl me_5000 rfl pi_12 (by decide) fk_12_10 tw_1407 (rfl) (by decide) ?_
    refine PZ_callSv (pc' := 238) (y := yX12_half) (M' := mX12_half) (d' := 0) (As := [.ref 5011]) (st := []) tw_1726 (pw_dk dc_X12_text 123 rfl) rfl Y_X12_half tw_1725 rfl (by decide) (Nat.le_of_ble_eq_true rfl) (t_X12_half 5011 10 me_5011 σ_25 _ ?_)
    obtain ⟨σ_28, e_29, h⟩ := wp_bind h
    refine ⟨σ_28, e_29, rfl, fun hn_27 => ?_⟩
    show PZ alM mX12_text (210) Q 238 [(0, .ref 5000)] [] σ_28
    refine PW_aload_n (pc' := 239) (q := 0) (pw_dk dc_X12_text 124 rfl) rfl rfl rfl ?_
    refine PW_getR (pc' := 242) (id := 5000) (ci := 12) (nn := 0) (C0 := RX12) (T := TX12) (N := 62) (j := 11) (r := 5012) (pw_dk dc_X12_text 125 rfl) rfl me_5000 rfl pi_12 (by decide) fk_12_11 tw_1408 (rfl) (by decide) ?_
    refine PZ_callSv (pc' := 245) (y := yX12_half) (M' := mX12_half) (d' := 0) (As := [.ref 5012]) (st := []) tw_1726 (pw_dk dc_X12_text 126 rfl) rfl Y_X12_half tw_1725 rfl (by decide) (Nat.le_of_ble_eq_true rfl) (t_X12_half 5012 10 me_5012 σ_28 _ ?_)
    obtain ⟨σ_31, e_32, h⟩ := wp_bind h
    refine ⟨σ_31, e_32, rfl, fun hn_30 => ?_⟩
    show PZ alM mX12_text (210) Q 245 [(0, .ref 5000)] [] σ_31
    refine PW_aload_n (pc' := 246) (q := 0) (pw_dk dc_X12_text 127 rfl) rfl rfl rfl ?_
    refine PW_getR (pc' := 249) (id := 5000) (ci := 12) (nn := 0) (C0 := RX12) (T := TX12) (N := 62) (j := 12) (r := 5013) (pw_dk dc_X12_text 128 rfl) rfl me_5000 rfl pi_12 (by decide) fk_12_12 tw_1409 (rfl) (by decide) ?_
    refine PZ_callSv (pc' := 252) (y := yX12_half) (M' := mX12_half) (d' := 0) (As := [.ref 5013]) (st := []) tw_1726 (pw_dk dc_X12_text 129 rfl) rfl Y_X12_half tw_1725 rfl (by decide) (Nat.le_of_ble_eq_true rfl) (t_X12_half 5013 10 me_5013 σ_31 _ ?_)
    obtain ⟨σ_34, e_35, h⟩ := wp_bind h
    refine ⟨σ_34, e_35, rfl, fun hn_33 => ?_⟩
    show PZ alM mX12_text (210) Q 252 [(0, .ref 5000)] [] σ_34
    refine PW_aload_n (pc' := 253) (q := 0) (pw_dk dc_X12_text 130 rfl) rfl rfl rfl ?_
    refine PW_getR (pc' := 256) (id := 5000) (ci := 12) (nn := 0) (C0 := RX12) (T := TX12) (N := 62) (j := 13) (r := 5014) (pw_dk dc_X12_text 131 rfl) rfl me_5000 rfl pi_12 (by decide) fk_12_13 tw_1410 (rfl) (by decide) ?_
    refine PZ_callSv (pc' := 259) (y := yX12_half) (M' := mX12_half) (d' := 0) (As := [.ref 5014]) (st := []) tw_1726 (pw_dk dc_X12_text 132 rfl) rfl Y_X12_half tw_1725 rfl (by decide) (Nat.le_of_ble_eq_true rfl) (t_X12_half 5014 24 me_5014 σ_34 _ ?_)
    obtain ⟨σ_37, e_38, h⟩ := wp_bind h
    refine ⟨σ_37, e_38, rfl, fun hn_36 => ?_⟩
    show PZ alM mX12_text (210) Q 259 [(0, .ref 5000)] [] σ_37
    refine PW_aload_n (pc' := 260) (q := 0) (pw_dk dc_X12_text 133 rfl) rfl rfl rfl ?_
    refine PW_getR (pc' := 263) (id := 5000) (ci := 12) (nn := 0) (C0 := RX12) (T := TX12) (N := 62) (j := 14) (r := 5015) (pw_dk dc_X12_text 134 rfl) rfl me_5000 rfl pi_12 (by decide) fk_12_14 tw_1411 (rfl) (by decide) ?_
    refine PZ_callSv (pc' := 266) (y := yX12_half) (M' := mX12_half) (d' := 0) (As := [.ref 5015]) (st := []) tw_1726 (pw_dk dc_X12_text 135 rfl) rfl Y_X12_half tw_1725 rfl (by decide) (Nat.le_of_ble_eq_true rfl) (t_X12_half 5015 24 me_5015 σ_37 _ ?_)
    obtain ⟨σ_40, e_41, h⟩ := wp_bind h
    refine ⟨σ_40, e_41, rfl, fun hn_39 => ?_⟩
    show PZ alM mX12_text (210) Q 266 [(0, .ref 5000)] [] σ_40
    refine PW_aload_n (pc' := 267) (q := 0) (pw_dk dc_X12_text 136 rfl) rfl rfl rfl ?_
    refine PW_getR (pc' := 270) (id := 5000) (ci := 12) (nn := 0) (C0 := RX12) (T := TX12) (N := 62) (j := 15) (r := 5016) (pw_dk dc_X12_text 137 rfl) rfl me_5000 rfl pi_12 (by decide) fk_12_15 tw_1412 (rfl) (by decide) ?_
    refine PZ_callSv (pc' := 273) (y := yX12_half) (M' := mX12_half) (d' := 0) (As := [.ref 5016]) (st := []) tw_1726 (pw_dk dc_X12_text 138 rfl) rfl Y_X12_half tw_1725 rfl (by decide) (Nat.le_of_ble_eq_true rfl) (t_X12_half 5016 24 me_5016 σ_40 _ ?_)
    obtain ⟨σ_43, e_44, h⟩ := wp_bind h
    refine ⟨σ_43, e_44, rfl, fun hn_42 => ?_⟩
    show PZ alM mX12_text (210) Q 273 [(0, .ref 5000)] [] σ_43
    refine PW_aload_n (pc' := 274) (q := 0) (pw_dk dc_X12_text 139 rfl) rfl rfl rfl ?_
    refine PW_getR (pc' := 277) (id := 5000) (ci := 12) (nn := 0) (C0 := RX12) (T := TX12) (N := 62) (j := 16) (r := 5017) (pw_dk dc_X12_text 140 rfl) rfl me_5000 rfl pi_12 (by decide) fk_12_16 tw_1413 (rfl) (by decide) ?_
    refine PZ_callSv (pc' := 280) (y := yX12_half) (M' := mX12_half) (d' := 0) (As := [.ref 5017]) (st := []) tw_1726 (pw_dk dc_X12_text 141 rfl) rfl Y_X12_half tw_1725 rfl (by decide) (Nat.le_of_ble_eq_true rfl) (t_X12_half 5017 24 me_5017 σ_43 _ ?_)
    obtain ⟨σ_46, e_47, h⟩ := wp_bind h
    refine ⟨σ_46, e_47, rfl, fun hn_45 => ?_⟩
    show PZ alM mX12_text (210) Q 280 [(0, .ref 5000)] [] σ_46
    refine PW_aload_n (pc' := 281) (q := 0) (pw_dk dc_X12_text 142 rfl) rfl rfl rfl ?_
    refine PW_getR (pc' := 284) (id := 5000) (ci := 12) (nn := 0) (C0 := RX12) (T := TX12) (N := 62) (j := 17) (r := 5018) (pw_dk dc_X12_text 143 rfl) rfl me_5000 rfl pi_12 (by decide) fk_12_17 tw_1414 (rfl) (by decide) ?_
    refine PZ_callSv (pc' := 287) (y := yX12_half) (M' := mX12_half) (d' := 0) (As := [.ref 5018]) (st := []) tw_1726 (pw_dk dc_X12_text 144 rfl) rfl Y_X12_half tw_1725 rfl (by decide) (Nat.le_of_ble_eq_true rfl) (t_X12_half 5018 6 me_5018 σ_46 _ ?_)
    obtain ⟨σ_49, e_50, h⟩ := wp_bind h
    refine ⟨σ_49, e_50, rfl, fun hn_48 => ?_⟩
    show PZ alM mX12_text (210) Q 287 [(0, .ref 5000)] [] σ_49
    refine PW_aload_n (pc' := 288) (q := 0) (pw_dk dc_X12_text 145 rfl) rfl rfl rfl ?_
    refine PW_getR (pc' := 291) (id := 5000) (ci := 12) (nn := 0) (C0 := RX12) (T := TX12) (N := 62) (j := 18) (r := 5019) (pw_dk dc_X12_text 146 rfl) rfl me_5000 rfl pi_12 (by decide) fk_12_18 tw_1415 (rfl) (by decide) ?_
    refine PZ_callSv (pc' := 294) (y := yX12_half) (M' := mX12_half) (d' := 0) (As := [.ref 5019]) (st := []) tw_1726 (pw_dk dc_X12_text 147 rfl) rfl Y_X12_half tw_1725 rfl (by decide) (Nat.le_of_ble_eq_true rfl) (t_X12_half 5019 6 me_5019 σ_49 _ ?_)
    obtain ⟨σ_52, e_53, h⟩ := wp_bind h
    refine ⟨σ_52, e_53, rfl, fun hn_51 => ?_⟩
    show PZ alM mX12_text (210) Q 294 [(0, .ref 5000)] [] σ_52
    refine PW_aload_n (pc' := 295) (q := 0) (pw_dk dc_X12_text 148 rfl) rfl rfl rfl ?_
    refine PW_getR (pc' := 298) (id := 5000) (ci := 12) (nn := 0) (C0 := RX12) (T := TX12) (N := 62) (j := 19) (r := 5020) (pw_dk dc_X12_text 149 rfl) rfl me_5000 rfl pi_12 (by decide) fk_12_19 tw_1416 (rfl) (by decide) ?_
    refine PZ_callSv (pc' := 301) (y := yX12_half) (M' := mX12_half) (d' := 0) (As := [.ref 5020]) (st := []) tw_1726 (pw_dk dc_X12_text 150 rfl) rfl Y_X12_half tw_1725 rfl (by decide) (Nat.le_of_ble_eq_true rfl) (t_X12_half 5020 128 me_5020 σ_52 _ ?_)
    obtain ⟨σ_55, e_56, h⟩ := wp_bind h
    refine ⟨σ_55, e_56, rfl, fun hn_54 => ?_⟩
    show PZ alM mX12_text (210) Q 301 [(0, .ref 5000)] [] σ_55
    refine PW_aload_n (pc' := 302) (q := 0) (pw_dk dc_X12_text 151 rfl) rfl rfl rfl ?_
    refine PW_getR (pc' := 305) (id := 5000) (ci := 12) (nn := 0) (C0 := RX12) (T := TX12) (N := 62) (j := 20) (r := 5021) (pw_dk dc_X12_text 152 rfl) rfl me_5000 rfl pi_12 (by decide) fk_12_20 tw_1417 (rfl) (by decide) ?_
    refine PZ_callSv (pc' := 308) (y := yX12_half) (M' := mX12_half) (d' := 0) (As := [.ref 5021]) (st := []) tw_1726 (pw_dk dc_X12_text 153 rfl) rfl Y_X12_half tw_1725 rfl (by decide) (Nat.le_of_ble_eq_true rfl) (t_X12_half 5021 128 me_5021 σ_55 _ ?_)
    obtain ⟨σ_58, e_59, h⟩ := wp_bind h
    refine ⟨σ_58, e_59, rfl, fun hn_57 => ?_⟩
    show PZ alM mX12_text (210) Q 308 [(0, .ref 5000)] [] σ_58
    refine PW_aload_n (pc' := 309) (q := 0) (pw_dk dc_X12_text 154 rfl) rfl rfl rfl ?_
    refine PW_iconst (pc' := 310) (v := 0) (pw_dk dc_X12_text 155 rfl) rfl (by decide) ?_
    obtain ⟨σ_60, e_61, h⟩ := lt_x h
    refine PZ_putX (pc' := 313) (σ' := σ_60) (id := 5000) (ci := 12) (nn := 0) (C0 := RX12) (T := TX12) (N := 62) (j := 53) (ty := tyX12 53) (pw_dk dc_X12_text 156 rfl) rfl me_5000 rfl pi_12 tyX12_ok nmX12 (by decide) fk_12_53 tw_1450 rfl (tyX12_ok 53 (by decide)) (by first | rfl | decide) (by first | rfl | decide) e_61 ?_
    refine PW_aload_n (pc' := 314) (q := 0) (pw_dk dc_X12_text 157 rfl) rfl rfl rfl ?_
    refine PW_iconst (pc' := 315) (v := (-1 : Int32)) (pw_dk dc_X12_text 158 rfl) rfl (by decide) ?_
    obtain ⟨σ_62, e_63, h⟩ := lt_x h
    refine PZ_putX (pc' := 318) (σ' := σ_62) (id := 5000) (ci := 12) (nn := 0) (C0 := RX12) (T := TX12) (N := 62) (j := 54) (ty := tyX12 54) (pw_dk dc_X12_text 159 rfl) rfl me_5000 rfl pi_12 tyX12_ok nmX12 (by decide) fk_12_54 tw_1451 rfl (tyX12_ok 54 (by decide)) (by first | rfl | decide) (by first | rfl | decide) e_63 ?_
    refine PW_aload_n (pc' := 319) (q := 0) (pw_dk dc_X12_text 160 rfl) rfl rfl rfl ?_
    refine PW_iconst (pc' := 320) (v := 0) (pw_dk dc_X12_text 161 rfl) rfl (by decide) ?_
    obtain ⟨σ_64, e_65, h⟩ := lt_x h
    refine PZ_putX (pc' := 323) (σ' := σ_64) (id := 5000) (ci := 12) (nn := 0) (C0 := RX12) (T := TX12) (N := 62) (j := 45) (ty := tyX12 45) (pw_dk dc_X12_text 162 rfl) rfl me_5000 rfl pi_12 tyX12_ok nmX12 (by decide) fk_12_45 tw_1442 rfl (tyX12_ok 45 (by decide)) (by first | rfl | decide) (by first | rfl | decide) e_65 ?_
    refine PW_aload_n (pc' := 324) (q := 0) (pw_dk dc_X12_text 163 rfl) rfl rfl rfl ?_
    refine PW_iconst (pc' := 325) (v := 0) (pw_dk dc_X12_text 164 rfl) rfl (by decide) ?_
    obtain ⟨σ_66, e_67, h⟩ := lt_x h
    refine PZ_putX (pc' := 328) (σ' := σ_66) (id := 5000) (ci := 12) (nn := 0) (C0 := RX12) (T := TX12) (N := 62) (j := 46) (ty := tyX12 46) (pw_dk dc_X12_text 165 rfl) rfl me_5000 rfl pi_12 tyX12_ok nmX12 (by decide) fk_12_46 tw_1443 rfl (tyX12_ok 46 (by decide)) (by first | rfl | decide) (by first | rfl | decide) e_67 ?_
    refine PW_aload_n (pc' := 329) (q := 0) (pw_dk dc_X12_text 166 rfl) rfl rfl rfl ?_
    refine PZ_callVv (pc' := 332) (y := yX12_begins) (M' := mX12_begins) (d' := 1) (As := []) (st := []) (b := 5000) (ci := 12) (nn := 0) me_5000 rfl tw_1391 tw_46 (pw_dk dc_X12_text 167 rfl) rfl Y_X12_begins tw_1389 rfl (by decide) (Nat.le_of_ble_eq_true rfl) (t_X12_begins σ_66 _ ?_)
    obtain ⟨σ_69, e_70, h⟩ := wp_bind h
    refine ⟨σ_69, e_70, rfl, fun hn_68 => ?_⟩
    show PZ alM mX12_text (210) Q 332 [(0, .ref 5000)] [] σ_69
    refine PW_aload_n (pc' := 333) (q := 0) (pw_dk dc_X12_text 168 rfl) rfl rfl rfl ?_
    refine PZ_getI (pc' := 336) (id := 5000) (ci := 12) (nn := 0) (C0 := RX12) (T := TX12) (N := 62) (j := 22) (pw_dk dc_X12_text 169 rfl) rfl me_5000 rfl pi_12 (by decide) fk_12_22 tw_1419 ?_
    have z := wp_some h
    exact PZ_iret (ty := .int) (pw_dk dc_X12_text 170 rfl) rfl rfl z
  · rw [if_neg c_5] at h
    refine PW_iconst (pc' := 181) (v := (-1 : Int32)) (pw_dk dc_X12_text 98 rfl) rfl (by decide) ?_
    have z := wp_some h
    exact PZ_iret (ty := .int) (pw_dk dc_X12_text 99 rfl) rfl rfl z
def f_X12_text_135  : Nat → zS → Option (Int32 × zS)
  | 0, _ => none
  | n + 1, σ => 
    if (σ.1 5000 28) = 0 then
      if (σ.1 5000 26) = 4 then
        f_X12_text_157 σ
      else
        (f_X12_line σ).bind fun σ_4 =>
        f_X12_text_135 n σ_4
    else
      f_X12_text_157 σ
theorem b_X12_text_135 {Q : Option Value → zS → Prop} : ∀ (n : Nat)  (σ : zS) (h : wpO (f_X12_text_135 n σ) (fun a => Q (some (.int a.1)) a.2)), PZ alM mX12_text (210) Q 135 [(0, .ref 5000)] [] σ := by
  intro n
  induction n with
  | zero => intro  σ h; exact wp_none h
  | succ n ih =>
    intro  σ h
    rw [f_X12_text_135] at h
    refine PW_aload_n (pc' := 136) (q := 0) (pw_dk dc_X12_text 77 rfl) rfl rfl rfl ?_
    refine PZ_getI (pc' := 139) (id := 5000) (ci := 12) (nn := 0) (C0 := RX12) (T := TX12) (N := 62) (j := 28) (pw_dk dc_X12_text 78 rfl) rfl me_5000 rfl pi_12 (by decide) fk_12_28 tw_1425 ?_
    refine PW_if_ne (pc' := 142) (tgt := 157) (pw_dk dc_X12_text 79 rfl) rfl (by decide) (fun c_1 => ?_) (fun c_1 => ?_)
    · rw [if_neg c_1] at h
      exact b_X12_text_157 σ h
    · rw [if_pos c_1] at h
      refine PW_aload_n (pc' := 143) (q := 0) (pw_dk dc_X12_text 80 rfl) rfl rfl rfl ?_
      refine PZ_getI (pc' := 146) (id := 5000) (ci := 12) (nn := 0) (C0 := RX12) (T := TX12) (N := 62) (j := 26) (pw_dk dc_X12_text 81 rfl) rfl me_5000 rfl pi_12 (by decide) fk_12_26 tw_1423 ?_
      refine PW_iconst (pc' := 147) (v := 4) (pw_dk dc_X12_text 82 rfl) rfl (by decide) ?_
      refine PW_icmp_eq (pc' := 150) (tgt := 157) (pw_dk dc_X12_text 83 rfl) rfl (by decide) (fun c_2 => ?_) (fun c_2 => ?_)
      · rw [if_pos c_2] at h
        exact b_X12_text_157 σ h
      · rw [if_neg c_2] at h
        refine PW_aload_n (pc' := 151) (q := 0) (pw_dk dc_X12_text 84 rfl) rfl rfl rfl ?_
        refine PZ_callVv (pc' := 154) (y := yX12_line) (M' := mX12_line) (d' := 209) (As := []) (st := []) (b := 5000) (ci := 12) (nn := 0) me_5000 rfl tw_1632 tw_54 (pw_dk dc_X12_text 85 rfl) rfl Y_X12_line tw_1630 rfl (by decide) (Nat.le_of_ble_eq_true rfl) (t_X12_line σ _ ?_)
        obtain ⟨σ_4, e_5, h⟩ := wp_bind h
        refine ⟨σ_4, e_5, rfl, fun hn_3 => ?_⟩
        show PZ alM mX12_text (210) Q 154 [(0, .ref 5000)] [] σ_4
        refine PW_goto (tgt := 135) (pw_dk dc_X12_text 86 rfl) (by decide) ?_
        exact ih  σ_4 h
def f_X12_text_85  : Nat → Int32 → zS → Option (Int32 × zS)
  | 0, _, _ => none
  | n + 1, x2, σ => 
    if 6 ≤ x2 then
      lt (wI σ 5000 21 0) fun σ_2 =>
      lt (wI σ_2 5000 22 0) fun σ_4 =>
      lt (wI σ_4 5000 32 0) fun σ_6 =>
      lt (wI σ_6 5000 33 0) fun σ_8 =>
      (f_X12_token σ_8).bind fun σ_11 =>
      f_X12_text_135 FU σ_11
    else
      (wrI σ 5018 6 x2 0).bind fun σ_13 =>
      (wrI σ_13 5019 6 x2 0).bind fun σ_16 =>
      f_X12_text_85 n (x2 + 1) σ_16
theorem b_X12_text_85 {Q : Option Value → zS → Prop} : ∀ (n : Nat) (x2 : Int32) (σ : zS) (h : wpO (f_X12_text_85 n x2 σ) (fun a => Q (some (.int a.1)) a.2)), PZ alM mX12_text (210) Q 85 [(0, .ref 5000), (2, .int x2)] [] σ := by
  intro n
  induction n with
  | zero => intro x2 σ h; exact wp_none h
  | succ n ih =>
    intro x2 σ h
    rw [f_X12_text_85] at h
    refine PW_iload_n (pc' := 86) (q := 1) (pw_dk dc_X12_text 48 rfl) rfl rfl rfl ?_
    refine PW_bipush (pc' := 88) (v := 6) (pw_dk dc_X12_text 49 rfl) rfl (by decide) ?_
    refine PW_icmp_ge (pc' := 91) (tgt := 111) (pw_dk dc_X12_text 50 rfl) rfl (by decide) (fun c_1 => ?_) (fun c_1 => ?_)
    · rw [if_pos c_1] at h
      refine PW_aload_n (pc' := 112) (q := 0) (pw_dk dc_X12_text 63 rfl) rfl rfl rfl ?_
      refine PW_iconst (pc' := 113) (v := 0) (pw_dk dc_X12_text 64 rfl) rfl (by decide) ?_
      obtain ⟨σ_2, e_3, h⟩ := lt_x h
      refine PZ_putX (pc' := 116) (σ' := σ_2) (id := 5000) (ci := 12) (nn := 0) (C0 := RX12) (T := TX12) (N := 62) (j := 21) (ty := tyX12 21) (pw_dk dc_X12_text 65 rfl) rfl me_5000 rfl pi_12 tyX12_ok nmX12 (by decide) fk_12_21 tw_1418 rfl (tyX12_ok 21 (by decide)) (by first | rfl | decide) (by first | rfl | decide) e_3 ?_
      refine PW_aload_n (pc' := 117) (q := 0) (pw_dk dc_X12_text 66 rfl) rfl rfl rfl ?_
      refine PW_iconst (pc' := 118) (v := 0) (pw_dk dc_X12_text 67 rfl) rfl (by decide) ?_
      obtain ⟨σ_4, e_5, h⟩ := lt_x h
      refine PZ_putX (pc' := 121) (σ' := σ_4) (id := 5000) (ci := 12) (nn := 0) (C0 := RX12) (T := TX12) (N := 62) (j := 22) (ty := tyX12 22) (pw_dk dc_X12_text 68 rfl) rfl me_5000 rfl pi_12 tyX12_ok nmX12 (by decide) fk_12_22 tw_1419 rfl (tyX12_ok 22 (by decide)) (by first | rfl | decide) (by first | rfl | decide) e_5 ?_
      refine PW_aload_n (pc' := 122) (q := 0) (pw_dk dc_X12_text 69 rfl) rfl rfl rfl ?_
      refine PW_iconst (pc' := 123) (v := 0) (pw_dk dc_X12_text 70 rfl) rfl (by decide) ?_
      obtain ⟨σ_6, e_7, h⟩ := lt_x h
      refine PZ_putX (pc' := 126) (σ' := σ_6) (id := 5000) (ci := 12) (nn := 0) (C0 := RX12) (T := TX12) (N := 62) (j := 32) (ty := tyX12 32) (pw_dk dc_X12_text 71 rfl) rfl me_5000 rfl pi_12 tyX12_ok nmX12 (by decide) fk_12_32 tw_1429 rfl (tyX12_ok 32 (by decide)) (by first | rfl | decide) (by first | rfl | decide) e_7 ?_
      refine PW_aload_n (pc' := 127) (q := 0) (pw_dk dc_X12_text 72 rfl) rfl rfl rfl ?_
      refine PW_iconst (pc' := 128) (v := 0) (pw_dk dc_X12_text 73 rfl) rfl (by decide) ?_
      obtain ⟨σ_8, e_9, h⟩ := lt_x h
      refine PZ_putX (pc' := 131) (σ' := σ_8) (id := 5000) (ci := 12) (nn := 0) (C0 := RX12) (T := TX12) (N := 62) (j := 33) (ty := tyX12 33) (pw_dk dc_X12_text 74 rfl) rfl me_5000 rfl pi_12 tyX12_ok nmX12 (by decide) fk_12_33 tw_1430 rfl (tyX12_ok 33 (by decide)) (by first | rfl | decide) (by first | rfl | decide) e_9 ?_
      refine PW_aload_n (pc' := 132) (q := 0) (pw_dk dc_X12_text 75 rfl) rfl rfl rfl ?_
      refine PZ_callVv (pc' := 135) (y := yX12_token) (M' := mX12_token) (d' := 5) (As := []) (st := []) (b := 5000) (ci := 12) (nn := 0) me_5000 rfl tw_1602 tw_49 (pw_dk dc_X12_text 76 rfl) rfl Y_X12_token tw_1600 rfl (by decide) (Nat.le_of_ble_eq_true rfl) (t_X12_token σ_8 _ ?_)
      obtain ⟨σ_11, e_12, h⟩ := wp_bind h
      refine ⟨σ_11, e_12, rfl, fun hn_10 => ?_⟩
      show PZ alM mX12_text (210) Q 135 [(0, .ref 5000), (2, .int x2)] [] σ_11
      refine PW_sub (lv' := [(0, .ref 5000)]) [0] rfl ?_
      exact b_X12_text_135 FU σ_11 h
    · rw [if_neg c_1] at h
      refine PW_aload_n (pc' := 92) (q := 0) (pw_dk dc_X12_text 51 rfl) rfl rfl rfl ?_
      refine PW_getR (pc' := 95) (id := 5000) (ci := 12) (nn := 0) (C0 := RX12) (T := TX12) (N := 62) (j := 17) (r := 5018) (pw_dk dc_X12_text 52 rfl) rfl me_5000 rfl pi_12 (by decide) fk_12_17 tw_1414 (rfl) (by decide) ?_
      refine PW_iload_n (pc' := 96) (q := 1) (pw_dk dc_X12_text 53 rfl) rfl rfl rfl ?_
      refine PW_iconst (pc' := 97) (v := 0) (pw_dk dc_X12_text 54 rfl) rfl (by decide) ?_
      obtain ⟨σ_13, hi_14, e_15, h⟩ := wp_wrIx h
      refine PZ_iastx (pc' := 98) (σ' := σ_13) (id := 5018) (nn := 6) (pw_dk dc_X12_text 55 rfl) rfl me_5018 hi_14 e_15 ?_
      refine PW_aload_n (pc' := 99) (q := 0) (pw_dk dc_X12_text 56 rfl) rfl rfl rfl ?_
      refine PW_getR (pc' := 102) (id := 5000) (ci := 12) (nn := 0) (C0 := RX12) (T := TX12) (N := 62) (j := 18) (r := 5019) (pw_dk dc_X12_text 57 rfl) rfl me_5000 rfl pi_12 (by decide) fk_12_18 tw_1415 (rfl) (by decide) ?_
      refine PW_iload_n (pc' := 103) (q := 1) (pw_dk dc_X12_text 58 rfl) rfl rfl rfl ?_
      refine PW_iconst (pc' := 104) (v := 0) (pw_dk dc_X12_text 59 rfl) rfl (by decide) ?_
      obtain ⟨σ_16, hi_17, e_18, h⟩ := wp_wrIx h
      refine PZ_iastx (pc' := 105) (σ' := σ_16) (id := 5019) (nn := 6) (pw_dk dc_X12_text 60 rfl) rfl me_5019 hi_17 e_18 ?_
      refine PW_iinc (pc' := 108) (q := 1) (v := x2 + 1) (lv' := [(2, .int (x2 + 1)), (0, .ref 5000)]) (pw_dk dc_X12_text 61 rfl) rfl rfl rfl (by decide) rfl ?_
      refine PW_goto (tgt := 85) (pw_dk dc_X12_text 62 rfl) (by decide) ?_
      refine PW_sub (lv' := [(0, .ref 5000), (2, .int (x2 + 1))]) [1, 0] rfl ?_
      exact ih (x2 + 1) σ_16 h
def f_X12_text_47  : Nat → Int32 → zS → Option (Int32 × zS)
  | 0, _, _ => none
  | n + 1, x2, σ => 
    if 8 ≤ x2 then
      f_X12_text_85 FU 3 σ
    else
      if x2 = 0 then
        f_X12_text_74 (f_X12_text_47 n) x2 x2 8 σ
      else
        if x2 = 5 then
          f_X12_text_74 (f_X12_text_47 n) x2 x2 5 σ
        else
          f_X12_text_74 (f_X12_text_47 n) x2 x2 0 σ
theorem b_X12_text_47 {Q : Option Value → zS → Prop} : ∀ (n : Nat) (x2 : Int32) (σ : zS) (h : wpO (f_X12_text_47 n x2 σ) (fun a => Q (some (.int a.1)) a.2)), PZ alM mX12_text (210) Q 47 [(0, .ref 5000), (2, .int x2)] [] σ := by
  intro n
  induction n with
  | zero => intro x2 σ h; exact wp_none h
  | succ n ih =>
    intro x2 σ h
    rw [f_X12_text_47] at h
    refine PW_iload_n (pc' := 48) (q := 1) (pw_dk dc_X12_text 28 rfl) rfl rfl rfl ?_
    refine PW_bipush (pc' := 50) (v := 8) (pw_dk dc_X12_text 29 rfl) rfl (by decide) ?_
    refine PW_icmp_ge (pc' := 53) (tgt := 83) (pw_dk dc_X12_text 30 rfl) rfl (by decide) (fun c_1 => ?_) (fun c_1 => ?_)
    · rw [if_pos c_1] at h
      refine PW_iconst (pc' := 84) (v := 3) (pw_dk dc_X12_text 46 rfl) rfl (by decide) ?_
      refine PW_istore_n (pc' := 85) (lv' := [(2, .int 3), (0, .ref 5000)]) (pw_dk dc_X12_text 47 rfl) rfl rfl (by decide) rfl ?_
      refine PW_sub (lv' := [(0, .ref 5000), (2, .int 3)]) [1, 0] rfl ?_
      exact b_X12_text_85 FU 3 σ h
    · rw [if_neg c_1] at h
      refine PW_aload_n (pc' := 54) (q := 0) (pw_dk dc_X12_text 31 rfl) rfl rfl rfl ?_
      refine PW_iload_n (pc' := 55) (q := 1) (pw_dk dc_X12_text 32 rfl) rfl rfl rfl ?_
      refine PW_iload_n (pc' := 56) (q := 1) (pw_dk dc_X12_text 33 rfl) rfl rfl rfl ?_
      refine PW_if_ne (pc' := 59) (tgt := 64) (pw_dk dc_X12_text 34 rfl) rfl (by decide) (fun c_2 => ?_) (fun c_2 => ?_)
      · rw [if_neg c_2] at h
        refine PW_iload_n (pc' := 65) (q := 1) (pw_dk dc_X12_text 37 rfl) rfl rfl rfl ?_
        refine PW_iconst (pc' := 66) (v := 5) (pw_dk dc_X12_text 38 rfl) rfl (by decide) ?_
        refine PW_icmp_ne (pc' := 69) (tgt := 73) (pw_dk dc_X12_text 39 rfl) rfl (by decide) (fun c_3 => ?_) (fun c_3 => ?_)
        · rw [if_neg c_3] at h
          refine PW_iconst (pc' := 74) (v := 0) (pw_dk dc_X12_text 42 rfl) rfl (by decide) ?_
          exact b_X12_text_74 (f_X12_text_47 n) ih x2 x2 0 σ h
        · rw [if_pos c_3] at h
          refine PW_iconst (pc' := 70) (v := 5) (pw_dk dc_X12_text 40 rfl) rfl (by decide) ?_
          refine PW_goto (tgt := 74) (pw_dk dc_X12_text 41 rfl) (by decide) ?_
          exact b_X12_text_74 (f_X12_text_47 n) ih x2 x2 5 σ h
      · rw [if_pos c_2] at h
        refine PW_bipush (pc' := 61) (v := 8) (pw_dk dc_X12_text 35 rfl) rfl (by decide) ?_
        refine PW_goto (tgt := 74) (pw_dk dc_X12_text 36 rfl) (by decide) ?_
        exact b_X12_text_74 (f_X12_text_47 n) ih x2 x2 8 σ h
def f_X12_text (x1 : Int32) (σ : zS) : Option (Int32 × zS) := 
  lt (wI σ 5000 0 0) fun σ_1 =>
  if x1 < 0 then
    f_X12_text_17 σ_1
  else
    if x1 ≤ (σ_1.1 5000 2) then
      lt (wI σ_1 5000 23 x1) fun σ_5 =>
      lt (wI σ_5 5000 2 0) fun σ_7 =>
      lt (wI σ_7 5000 24 0) fun σ_9 =>
      lt (wI σ_9 5000 28 0) fun σ_11 =>
      lt (wI σ_11 5000 29 (-1 : Int32)) fun σ_13 =>
      f_X12_text_47 FU 0 σ_13
    else
      f_X12_text_17 σ_1
theorem t_X12_text (x1 : Int32) (σ : zS) (Q : Option Value → zS → Prop) (h : wpO (f_X12_text x1 σ) (fun a => Q (some (.int a.1)) a.2)) : PK alM yX12_text mX12_text (210) [.ref 5000, .int x1] σ Q := by
  refine PC_ofF (by decide +kernel) rfl rfl (Nat.le_of_ble_eq_true rfl) ?_
  show PZ alM mX12_text (210) Q 0 [(0, .ref 5000), (1, .int x1)] [] σ
  unfold f_X12_text at h
  refine PW_aload_n (pc' := 1) (q := 0) (pw_dk dc_X12_text 0 rfl) rfl rfl rfl ?_
  refine PW_iconst (pc' := 2) (v := 0) (pw_dk dc_X12_text 1 rfl) rfl (by decide) ?_
  obtain ⟨σ_1, e_2, h⟩ := lt_x h
  refine PZ_putX (pc' := 5) (σ' := σ_1) (id := 5000) (ci := 12) (nn := 0) (C0 := RX12) (T := TX12) (N := 62) (j := 0) (ty := tyX12 0) (pw_dk dc_X12_text 2 rfl) rfl me_5000 rfl pi_12 tyX12_ok nmX12 (by decide) fk_12_0 tw_1397 rfl (tyX12_ok 0 (by decide)) (by first | rfl | decide) (by first | rfl | decide) e_2 ?_
  refine PW_iload_n (pc' := 6) (q := 1) (pw_dk dc_X12_text 3 rfl) rfl rfl rfl ?_
  refine PW_if_lt (pc' := 9) (tgt := 17) (pw_dk dc_X12_text 4 rfl) rfl (by decide) (fun c_3 => ?_) (fun c_3 => ?_)
  · rw [if_pos c_3] at h
    refine PW_sub (lv' := []) [] rfl ?_
    exact b_X12_text_17 σ_1 h
  · rw [if_neg c_3] at h
    refine PW_iload_n (pc' := 10) (q := 1) (pw_dk dc_X12_text 5 rfl) rfl rfl rfl ?_
    refine PW_aload_n (pc' := 11) (q := 0) (pw_dk dc_X12_text 6 rfl) rfl rfl rfl ?_
    refine PZ_getI (pc' := 14) (id := 5000) (ci := 12) (nn := 0) (C0 := RX12) (T := TX12) (N := 62) (j := 2) (pw_dk dc_X12_text 7 rfl) rfl me_5000 rfl pi_12 (by decide) fk_12_2 tw_1399 ?_
    refine PW_icmp_le (pc' := 17) (tgt := 20) (pw_dk dc_X12_text 8 rfl) rfl (by decide) (fun c_4 => ?_) (fun c_4 => ?_)
    · rw [if_pos c_4] at h
      refine PW_aload_n (pc' := 21) (q := 0) (pw_dk dc_X12_text 11 rfl) rfl rfl rfl ?_
      refine PW_iload_n (pc' := 22) (q := 1) (pw_dk dc_X12_text 12 rfl) rfl rfl rfl ?_
      obtain ⟨σ_5, e_6, h⟩ := lt_x h
      refine PZ_putX (pc' := 25) (σ' := σ_5) (id := 5000) (ci := 12) (nn := 0) (C0 := RX12) (T := TX12) (N := 62) (j := 23) (ty := tyX12 23) (pw_dk dc_X12_text 13 rfl) rfl me_5000 rfl pi_12 tyX12_ok nmX12 (by decide) fk_12_23 tw_1420 rfl (tyX12_ok 23 (by decide)) (by first | rfl | decide) (by first | rfl | decide) e_6 ?_
      refine PW_aload_n (pc' := 26) (q := 0) (pw_dk dc_X12_text 14 rfl) rfl rfl rfl ?_
      refine PW_iconst (pc' := 27) (v := 0) (pw_dk dc_X12_text 15 rfl) rfl (by decide) ?_
      obtain ⟨σ_7, e_8, h⟩ := lt_x h
      refine PZ_putX (pc' := 30) (σ' := σ_7) (id := 5000) (ci := 12) (nn := 0) (C0 := RX12) (T := TX12) (N := 62) (j := 2) (ty := tyX12 2) (pw_dk dc_X12_text 16 rfl) rfl me_5000 rfl pi_12 tyX12_ok nmX12 (by decide) fk_12_2 tw_1399 rfl (tyX12_ok 2 (by decide)) (by first | rfl | decide) (by first | rfl | decide) e_8 ?_
      refine PW_aload_n (pc' := 31) (q := 0) (pw_dk dc_X12_text 17 rfl) rfl rfl rfl ?_
      refine PW_iconst (pc' := 32) (v := 0) (pw_dk dc_X12_text 18 rfl) rfl (by decide) ?_
      obtain ⟨σ_9, e_10, h⟩ := lt_x h
      refine PZ_putX (pc' := 35) (σ' := σ_9) (id := 5000) (ci := 12) (nn := 0) (C0 := RX12) (T := TX12) (N := 62) (j := 24) (ty := tyX12 24) (pw_dk dc_X12_text 19 rfl) rfl me_5000 rfl pi_12 tyX12_ok nmX12 (by decide) fk_12_24 tw_1421 rfl (tyX12_ok 24 (by decide)) (by first | rfl | decide) (by first | rfl | decide) e_10 ?_
      refine PW_aload_n (pc' := 36) (q := 0) (pw_dk dc_X12_text 20 rfl) rfl rfl rfl ?_
      refine PW_iconst (pc' := 37) (v := 0) (pw_dk dc_X12_text 21 rfl) rfl (by decide) ?_
      obtain ⟨σ_11, e_12, h⟩ := lt_x h
      refine PZ_putX (pc' := 40) (σ' := σ_11) (id := 5000) (ci := 12) (nn := 0) (C0 := RX12) (T := TX12) (N := 62) (j := 28) (ty := tyX12 28) (pw_dk dc_X12_text 22 rfl) rfl me_5000 rfl pi_12 tyX12_ok nmX12 (by decide) fk_12_28 tw_1425 rfl (tyX12_ok 28 (by decide)) (by first | rfl | decide) (by first | rfl | decide) e_12 ?_
      refine PW_aload_n (pc' := 41) (q := 0) (pw_dk dc_X12_text 23 rfl) rfl rfl rfl ?_
      refine PW_iconst (pc' := 42) (v := (-1 : Int32)) (pw_dk dc_X12_text 24 rfl) rfl (by decide) ?_
      obtain ⟨σ_13, e_14, h⟩ := lt_x h
      refine PZ_putX (pc' := 45) (σ' := σ_13) (id := 5000) (ci := 12) (nn := 0) (C0 := RX12) (T := TX12) (N := 62) (j := 29) (ty := tyX12 29) (pw_dk dc_X12_text 25 rfl) rfl me_5000 rfl pi_12 tyX12_ok nmX12 (by decide) fk_12_29 tw_1426 rfl (tyX12_ok 29 (by decide)) (by first | rfl | decide) (by first | rfl | decide) e_14 ?_
      refine PW_iconst (pc' := 46) (v := 0) (pw_dk dc_X12_text 26 rfl) rfl (by decide) ?_
      refine PW_istore_n (pc' := 47) (lv' := [(2, .int 0), (0, .ref 5000), (1, .int x1)]) (pw_dk dc_X12_text 27 rfl) rfl rfl (by decide) rfl ?_
      refine PW_sub (lv' := [(0, .ref 5000), (2, .int 0)]) [1, 0] rfl ?_
      exact b_X12_text_47 FU 0 σ_13 h
    · rw [if_neg c_4] at h
      refine PW_sub (lv' := []) [] rfl ?_
      exact b_X12_text_17 σ_1 h
def f_X12_fault (x1 : Int32) (σ : zS) : Option (Int32 × zS) := 
  lt (wI σ 5000 0 0) fun σ_1 =>
  if x1 = 0 then
    some (σ_1.1 5000 30, σ_1)
  else
    if x1 = 1 then
      some (σ_1.1 5000 31, σ_1)
    else
      some ((-1 : Int32), σ_1)
theorem t_X12_fault (x1 : Int32) (σ : zS) (Q : Option Value → zS → Prop) (h : wpO (f_X12_fault x1 σ) (fun a => Q (some (.int a.1)) a.2)) : PK alM yX12_fault mX12_fault (0) [.ref 5000, .int x1] σ Q := by
  refine PC_ofF (by decide +kernel) rfl rfl (Nat.le_of_ble_eq_true rfl) ?_
  show PZ alM mX12_fault (0) Q 0 [(0, .ref 5000), (1, .int x1)] [] σ
  unfold f_X12_fault at h
  refine PW_aload_n (pc' := 1) (q := 0) (pw_dk dc_X12_fault 0 rfl) rfl rfl rfl ?_
  refine PW_iconst (pc' := 2) (v := 0) (pw_dk dc_X12_fault 1 rfl) rfl (by decide) ?_
  obtain ⟨σ_1, e_2, h⟩ := lt_x h
  refine PZ_putX (pc' := 5) (σ' := σ_1) (id := 5000) (ci := 12) (nn := 0) (C0 := RX12) (T := TX12) (N := 62) (j := 0) (ty := tyX12 0) (pw_dk dc_X12_fault 2 rfl) rfl me_5000 rfl pi_12 tyX12_ok nmX12 (by decide) fk_12_0 tw_1397 rfl (tyX12_ok 0 (by decide)) (by first | rfl | decide) (by first | rfl | decide) e_2 ?_
  refine PW_iload_n (pc' := 6) (q := 1) (pw_dk dc_X12_fault 3 rfl) rfl rfl rfl ?_
  refine PW_if_ne (pc' := 9) (tgt := 16) (pw_dk dc_X12_fault 4 rfl) rfl (by decide) (fun c_3 => ?_) (fun c_3 => ?_)
  · rw [if_neg c_3] at h
    refine PW_iload_n (pc' := 17) (q := 1) (pw_dk dc_X12_fault 8 rfl) rfl rfl rfl ?_
    refine PW_iconst (pc' := 18) (v := 1) (pw_dk dc_X12_fault 9 rfl) rfl (by decide) ?_
    refine PW_icmp_ne (pc' := 21) (tgt := 28) (pw_dk dc_X12_fault 10 rfl) rfl (by decide) (fun c_4 => ?_) (fun c_4 => ?_)
    · rw [if_neg c_4] at h
      refine PW_iconst (pc' := 29) (v := (-1 : Int32)) (pw_dk dc_X12_fault 14 rfl) rfl (by decide) ?_
      have z := wp_some h
      exact PZ_iret (ty := .int) (pw_dk dc_X12_fault 15 rfl) rfl rfl z
    · rw [if_pos c_4] at h
      refine PW_aload_n (pc' := 22) (q := 0) (pw_dk dc_X12_fault 11 rfl) rfl rfl rfl ?_
      refine PZ_getI (pc' := 25) (id := 5000) (ci := 12) (nn := 0) (C0 := RX12) (T := TX12) (N := 62) (j := 31) (pw_dk dc_X12_fault 12 rfl) rfl me_5000 rfl pi_12 (by decide) fk_12_31 tw_1428 ?_
      refine PW_goto (tgt := 29) (pw_dk dc_X12_fault 13 rfl) (by decide) ?_
      have z := wp_some h
      exact PZ_iret (ty := .int) (pw_dk dc_X12_fault 15 rfl) rfl rfl z
  · rw [if_pos c_3] at h
    refine PW_aload_n (pc' := 10) (q := 0) (pw_dk dc_X12_fault 5 rfl) rfl rfl rfl ?_
    refine PZ_getI (pc' := 13) (id := 5000) (ci := 12) (nn := 0) (C0 := RX12) (T := TX12) (N := 62) (j := 30) (pw_dk dc_X12_fault 6 rfl) rfl me_5000 rfl pi_12 (by decide) fk_12_30 tw_1427 ?_
    refine PW_goto (tgt := 29) (pw_dk dc_X12_fault 7 rfl) (by decide) ?_
    have z := wp_some h
    exact PZ_iret (ty := .int) (pw_dk dc_X12_fault 15 rfl) rfl rfl z
def f_X12_named (x1 : Int32) (x2 : Int32) (σ : zS) : Option (Int32 × zS) := 
  lt (wI σ 5000 0 0) fun σ_1 =>
  if x1 = 0 then
    (rdI σ_1 5004 16 1).bind fun v_11 =>
    (f_X12_found 5005 10 0 v_11 x2 σ_1).bind fun v_15 =>
    some (v_15, σ_1)
  else
    if x1 = 1 then
      (rdI σ_1 5004 16 2).bind fun v_5 =>
      (f_X12_found 5009 10 0 v_5 x2 σ_1).bind fun v_9 =>
      some (v_9, σ_1)
    else
      some ((-1 : Int32), σ_1)
theorem t_X12_named (x1 : Int32) (x2 : Int32) (σ : zS) (Q : Option Value → zS → Prop) (h : wpO (f_X12_named x1 x2 σ) (fun a => Q (some (.int a.1)) a.2)) : PK alM yX12_named mX12_named (1) [.ref 5000, .int x1, .int x2] σ Q := by
  refine PC_ofF (by decide +kernel) rfl rfl (Nat.le_of_ble_eq_true rfl) ?_
  show PZ alM mX12_named (1) Q 0 [(0, .ref 5000), (1, .int x1), (2, .int x2)] [] σ
  unfold f_X12_named at h
  refine PW_aload_n (pc' := 1) (q := 0) (pw_dk dc_X12_named 0 rfl) rfl rfl rfl ?_
  refine PW_iconst (pc' := 2) (v := 0) (pw_dk dc_X12_named 1 rfl) rfl (by decide) ?_
  obtain ⟨σ_1, e_2, h⟩ := lt_x h
  refine PZ_putX (pc' := 5) (σ' := σ_1) (id := 5000) (ci := 12) (nn := 0) (C0 := RX12) (T := TX12) (N := 62) (j := 0) (ty := tyX12 0) (pw_dk dc_X12_named 2 rfl) rfl me_5000 rfl pi_12 tyX12_ok nmX12 (by decide) fk_12_0 tw_1397 rfl (tyX12_ok 0 (by decide)) (by first | rfl | decide) (by first | rfl | decide) e_2 ?_
  refine PW_iload_n (pc' := 6) (q := 1) (pw_dk dc_X12_named 3 rfl) rfl rfl rfl ?_
  refine PW_if_ne (pc' := 9) (tgt := 27) (pw_dk dc_X12_named 4 rfl) rfl (by decide) (fun c_3 => ?_) (fun c_3 => ?_)
  · rw [if_neg c_3] at h
    refine PW_iload_n (pc' := 28) (q := 1) (pw_dk dc_X12_named 15 rfl) rfl rfl rfl ?_
    refine PW_iconst (pc' := 29) (v := 1) (pw_dk dc_X12_named 16 rfl) rfl (by decide) ?_
    refine PW_icmp_ne (pc' := 32) (tgt := 50) (pw_dk dc_X12_named 17 rfl) rfl (by decide) (fun c_4 => ?_) (fun c_4 => ?_)
    · rw [if_neg c_4] at h
      refine PW_iconst (pc' := 51) (v := (-1 : Int32)) (pw_dk dc_X12_named 28 rfl) rfl (by decide) ?_
      have z := wp_some h
      exact PZ_iret (ty := .int) (pw_dk dc_X12_named 29 rfl) rfl rfl z
    · rw [if_pos c_4] at h
      refine PW_aload_n (pc' := 33) (q := 0) (pw_dk dc_X12_named 18 rfl) rfl rfl rfl ?_
      refine PW_getR (pc' := 36) (id := 5000) (ci := 12) (nn := 0) (C0 := RX12) (T := TX12) (N := 62) (j := 8) (r := 5009) (pw_dk dc_X12_named 19 rfl) rfl me_5000 rfl pi_12 (by decide) fk_12_8 tw_1405 (rfl) (by decide) ?_
      refine PW_iconst (pc' := 37) (v := 0) (pw_dk dc_X12_named 20 rfl) rfl (by decide) ?_
      refine PW_aload_n (pc' := 38) (q := 0) (pw_dk dc_X12_named 21 rfl) rfl rfl rfl ?_
      refine PW_getR (pc' := 41) (id := 5000) (ci := 12) (nn := 0) (C0 := RX12) (T := TX12) (N := 62) (j := 3) (r := 5004) (pw_dk dc_X12_named 22 rfl) rfl me_5000 rfl pi_12 (by decide) fk_12_3 tw_1400 (rfl) (by decide) ?_
      refine PW_iconst (pc' := 42) (v := 2) (pw_dk dc_X12_named 23 rfl) rfl (by decide) ?_
      obtain ⟨v_5, hi_6, e_7, h⟩ := wp_rdIx h
      refine PZ_ialdx (pc' := 43) (v := v_5) (id := 5004) (nn := 16) (pw_dk dc_X12_named 24 rfl) rfl me_5004 hi_6 e_7 ?_
      refine PW_iload_n (pc' := 44) (q := 2) (pw_dk dc_X12_named 25 rfl) rfl rfl rfl ?_
      refine PZ_callSi (pc' := 47) (y := yX12_found) (M' := mX12_found) (d' := 0) (As := [.ref 5009, .int 0, .int v_5, .int x2]) (st := []) tw_1655 (pw_dk dc_X12_named 26 rfl) rfl Y_X12_found tw_1654 rfl (by decide) (Nat.le_of_ble_eq_true rfl) (t_X12_found 5009 10 0 v_5 x2 me_5009 σ_1 _ ?_)
      obtain ⟨v_9, e_10, h⟩ := wp_bind h
      refine ⟨v_9, e_10, _, rfl, fun hn_8 => ?_⟩
      show PZ alM mX12_named (1) Q 47 [(0, .ref 5000), (1, .int x1), (2, .int x2)] [.int v_9] σ_1
      refine PW_goto (tgt := 51) (pw_dk dc_X12_named 27 rfl) (by decide) ?_
      have z := wp_some h
      exact PZ_iret (ty := .int) (pw_dk dc_X12_named 29 rfl) rfl rfl z
  · rw [if_pos c_3] at h
    refine PW_aload_n (pc' := 10) (q := 0) (pw_dk dc_X12_named 5 rfl) rfl rfl rfl ?_
    refine PW_getR (pc' := 13) (id := 5000) (ci := 12) (nn := 0) (C0 := RX12) (T := TX12) (N := 62) (j := 4) (r := 5005) (pw_dk dc_X12_named 6 rfl) rfl me_5000 rfl pi_12 (by decide) fk_12_4 tw_1401 (rfl) (by decide) ?_
    refine PW_iconst (pc' := 14) (v := 0) (pw_dk dc_X12_named 7 rfl) rfl (by decide) ?_
    refine PW_aload_n (pc' := 15) (q := 0) (pw_dk dc_X12_named 8 rfl) rfl rfl rfl ?_
    refine PW_getR (pc' := 18) (id := 5000) (ci := 12) (nn := 0) (C0 := RX12) (T := TX12) (N := 62) (j := 3) (r := 5004) (pw_dk dc_X12_named 9 rfl) rfl me_5000 rfl pi_12 (by decide) fk_12_3 tw_1400 (rfl) (by decide) ?_
    refine PW_iconst (pc' := 19) (v := 1) (pw_dk dc_X12_named 10 rfl) rfl (by decide) ?_
    obtain ⟨v_11, hi_12, e_13, h⟩ := wp_rdIx h
    refine PZ_ialdx (pc' := 20) (v := v_11) (id := 5004) (nn := 16) (pw_dk dc_X12_named 11 rfl) rfl me_5004 hi_12 e_13 ?_
    refine PW_iload_n (pc' := 21) (q := 2) (pw_dk dc_X12_named 12 rfl) rfl rfl rfl ?_
    refine PZ_callSi (pc' := 24) (y := yX12_found) (M' := mX12_found) (d' := 0) (As := [.ref 5005, .int 0, .int v_11, .int x2]) (st := []) tw_1655 (pw_dk dc_X12_named 13 rfl) rfl Y_X12_found tw_1654 rfl (by decide) (Nat.le_of_ble_eq_true rfl) (t_X12_found 5005 10 0 v_11 x2 me_5005 σ_1 _ ?_)
    obtain ⟨v_15, e_16, h⟩ := wp_bind h
    refine ⟨v_15, e_16, _, rfl, fun hn_14 => ?_⟩
    show PZ alM mX12_named (1) Q 24 [(0, .ref 5000), (1, .int x1), (2, .int x2)] [.int v_15] σ_1
    refine PW_goto (tgt := 51) (pw_dk dc_X12_named 14 rfl) (by decide) ?_
    have z := wp_some h
    exact PZ_iret (ty := .int) (pw_dk dc_X12_named 29 rfl) rfl rfl z
def f_X12_is (x0 : Int32) (σ : zS) : Int64 := 
  if x0 = 0 then
    0
  else
    1
theorem t_X12_is (x0 : Int32) (σ : zS) (Q : Option Value → zS → Prop) (h : Q (some (.long (f_X12_is x0 σ))) σ) : PK alM yX12_is mX12_is (0) [.int x0] σ Q := by
  refine PC_ofF (by decide +kernel) rfl rfl (Nat.le_of_ble_eq_true rfl) ?_
  show PZ alM mX12_is (0) Q 0 [(0, .int x0)] [] σ
  unfold f_X12_is at h
  refine PW_iload_n (pc' := 1) (q := 0) (pw_dk dc_X12_is 0 rfl) rfl rfl rfl ?_
  refine PW_if_eq (pc' := 4) (tgt := 8) (pw_dk dc_X12_is 1 rfl) rfl (by decide) (fun c_1 => ?_) (fun c_1 => ?_)
  · rw [if_pos c_1] at h
    refine PW_lconst (pc' := 9) (v := 0) (pw_dk dc_X12_is 4 rfl) rfl (by decide) ?_
    exact PZ_lret (pw_dk dc_X12_is 5 rfl) rfl h
  · rw [if_neg c_1] at h
    refine PW_lconst (pc' := 5) (v := 1) (pw_dk dc_X12_is 2 rfl) rfl (by decide) ?_
    refine PW_goto (tgt := 9) (pw_dk dc_X12_is 3 rfl) (by decide) ?_
    exact PZ_lret (pw_dk dc_X12_is 5 rfl) rfl h
def f_J9_abs_067f4 (x0 : Int64) (σ : zS) : Int64 := 
  if 0 ≤ (lg_cmp x0 0) then
    x0
  else
    -x0
theorem t_J9_abs_067f4 (al : pAL) (x0 : Int64) (σ : zS) (Q : Option Value → zS → Prop) (h : Q (some (.long (f_J9_abs_067f4 x0 σ))) σ) : PK al yJ9_abs_067f4 mJ9_abs_067f4 (0) [.long x0] σ Q := by
  refine PC_ofF (by decide +kernel) rfl rfl (Nat.le_of_ble_eq_true rfl) ?_
  show PZ al mJ9_abs_067f4 (0) Q 0 [(0, .long x0)] [] σ
  unfold f_J9_abs_067f4 at h
  refine PW_lload_n (pc' := 1) (q := 0) (pw_dk dc_J9_abs_067f4 0 rfl) rfl rfl rfl ?_
  refine PW_lconst (pc' := 2) (v := 0) (pw_dk dc_J9_abs_067f4 1 rfl) rfl (by decide) ?_
  refine PW_lcmp (pc' := 3) (pw_dk dc_J9_abs_067f4 2 rfl) rfl ?_
  refine PW_if_ge (pc' := 6) (tgt := 11) (pw_dk dc_J9_abs_067f4 3 rfl) rfl (by decide) (fun c_1 => ?_) (fun c_1 => ?_)
  · rw [if_pos c_1] at h
    refine PW_lload_n (pc' := 12) (q := 0) (pw_dk dc_J9_abs_067f4 7 rfl) rfl rfl rfl ?_
    exact PZ_lret (pw_dk dc_J9_abs_067f4 8 rfl) rfl h
  · rw [if_neg c_1] at h
    refine PW_lload_n (pc' := 7) (q := 0) (pw_dk dc_J9_abs_067f4 4 rfl) rfl rfl rfl ?_
    refine PW_lneg (pc' := 8) (pw_dk dc_J9_abs_067f4 5 rfl) rfl ?_
    refine PW_goto (tgt := 12) (pw_dk dc_J9_abs_067f4 6 rfl) (by decide) ?_
    exact PZ_lret (pw_dk dc_J9_abs_067f4 8 rfl) rfl h
def f_X12_works_40  (s1 : Int32) (s2 : Int32) (σ : zS) : Option (Int32 × zS) := 
  (wrL σ 5036 64 s1 (f_X12_is s2 σ)).bind fun σ_2 =>
  some (1, σ_2)
theorem b_X12_works_40 {Q : Option Value → zS → Prop} (s1 : Int32) (s2 : Int32) (σ : zS) (h : wpO (f_X12_works_40 s1 s2 σ) (fun a => Q (some (.int a.1)) a.2)) : PZ alM mX12_works (1) Q 40 [] [.int s2, .int s1, .ref 5036] σ := by
  unfold f_X12_works_40 at h
  refine PZ_callSl (pc' := 43) (y := yX12_is) (M' := mX12_is) (d' := 0) (As := [.int s2]) (st := [.int s1, .ref 5036]) tw_1797 (pw_dk dc_X12_works 24 rfl) rfl Y_X12_is tw_1796 rfl (by decide) (Nat.le_of_ble_eq_true rfl) (t_X12_is s2 σ _ ?_)
  refine ⟨_, rfl, fun hn_1 => ?_⟩
  show PZ alM mX12_works (1) Q 43 [] [.long (f_X12_is s2 σ), .int s1, .ref 5036] σ
  obtain ⟨σ_2, hi_3, e_4, h⟩ := wp_wrLx h
  refine PZ_lastx (pc' := 44) (σ' := σ_2) (id := 5036) (nn := 64) (pw_dk dc_X12_works 25 rfl) rfl me_5036 hi_3 e_4 ?_
  refine PW_iconst (pc' := 45) (v := 1) (pw_dk dc_X12_works 26 rfl) rfl (by decide) ?_
  have z := wp_some h
  exact PZ_iret (ty := .boolean) (pw_dk dc_X12_works 27 rfl) rfl (by decide) z
def f_X12_works_407  (x6 : Int64) (σ : zS) : Option (Int32 × zS) := 
  (wrL σ 5036 64 ((σ.1 5000 36) - (1 : Int32)) x6).bind fun σ_1 =>
  if 0 < (lg_cmp x6 1000000000000) then
    some (0, σ_1)
  else
    if (lg_cmp x6 (-1000000000000 : Int64)) < 0 then
      some (0, σ_1)
    else
      some (1, σ_1)
theorem b_X12_works_407 {Q : Option Value → zS → Prop} (x6 : Int64) (σ : zS) (h : wpO (f_X12_works_407 x6 σ) (fun a => Q (some (.int a.1)) a.2)) : PZ alM mX12_works (1) Q 407 [(0, .ref 5000), (6, .long x6)] [] σ := by
  unfold f_X12_works_407 at h
  refine PW_aload_n (pc' := 408) (q := 0) (pw_dk dc_X12_works 171 rfl) rfl rfl rfl ?_
  refine PW_getR (pc' := 411) (id := 5000) (ci := 12) (nn := 0) (C0 := RX12) (T := TX12) (N := 62) (j := 35) (r := 5036) (pw_dk dc_X12_works 172 rfl) rfl me_5000 rfl pi_12 (by decide) fk_12_35 tw_1432 (rfl) (by decide) ?_
  refine PW_aload_n (pc' := 412) (q := 0) (pw_dk dc_X12_works 173 rfl) rfl rfl rfl ?_
  refine PZ_getI (pc' := 415) (id := 5000) (ci := 12) (nn := 0) (C0 := RX12) (T := TX12) (N := 62) (j := 36) (pw_dk dc_X12_works 174 rfl) rfl me_5000 rfl pi_12 (by decide) fk_12_36 tw_1433 ?_
  refine PW_iconst (pc' := 416) (v := 1) (pw_dk dc_X12_works 175 rfl) rfl (by decide) ?_
  refine PW_isub (pc' := 417) (pw_dk dc_X12_works 176 rfl) rfl ?_
  refine PW_lload (pc' := 419) (q := 1) (pw_dk dc_X12_works 177 rfl) rfl rfl ?_
  obtain ⟨σ_1, hi_2, e_3, h⟩ := wp_wrLx h
  refine PZ_lastx (pc' := 420) (σ' := σ_1) (id := 5036) (nn := 64) (pw_dk dc_X12_works 178 rfl) rfl me_5036 hi_2 e_3 ?_
  refine PW_lload (pc' := 422) (q := 1) (pw_dk dc_X12_works 179 rfl) rfl rfl ?_
  refine PW_ldc2 (pc' := 425) (v := 1000000000000) (pw_dk dc_X12_works 180 rfl) rfl tw_1802 ?_
  refine PW_lcmp (pc' := 426) (pw_dk dc_X12_works 181 rfl) rfl ?_
  refine PW_if_gt (pc' := 429) (tgt := 442) (pw_dk dc_X12_works 182 rfl) rfl (by decide) (fun c_4 => ?_) (fun c_4 => ?_)
  · rw [if_pos c_4] at h
    refine PW_iconst (pc' := 443) (v := 0) (pw_dk dc_X12_works 189 rfl) rfl (by decide) ?_
    have z := wp_some h
    exact PZ_iret (ty := .boolean) (pw_dk dc_X12_works 190 rfl) rfl (by decide) z
  · rw [if_neg c_4] at h
    refine PW_lload (pc' := 431) (q := 1) (pw_dk dc_X12_works 183 rfl) rfl rfl ?_
    refine PW_ldc2 (pc' := 434) (v := (-1000000000000 : Int64)) (pw_dk dc_X12_works 184 rfl) rfl tw_1803 ?_
    refine PW_lcmp (pc' := 435) (pw_dk dc_X12_works 185 rfl) rfl ?_
    refine PW_if_lt (pc' := 438) (tgt := 442) (pw_dk dc_X12_works 186 rfl) rfl (by decide) (fun c_5 => ?_) (fun c_5 => ?_)
    · rw [if_pos c_5] at h
      refine PW_iconst (pc' := 443) (v := 0) (pw_dk dc_X12_works 189 rfl) rfl (by decide) ?_
      have z := wp_some h
      exact PZ_iret (ty := .boolean) (pw_dk dc_X12_works 190 rfl) rfl (by decide) z
    · rw [if_neg c_5] at h
      refine PW_iconst (pc' := 439) (v := 1) (pw_dk dc_X12_works 187 rfl) rfl (by decide) ?_
      refine PW_goto (tgt := 443) (pw_dk dc_X12_works 188 rfl) (by decide) ?_
      have z := wp_some h
      exact PZ_iret (ty := .boolean) (pw_dk dc_X12_works 190 rfl) rfl (by decide) z
def f_X12_works_212  (x2 : Int64) (x4 : Int64) (σ : zS) : Option (Int32 × zS) := 
  lt (α := Int64) (x4 * x2) fun x6_1 =>
  f_X12_works_407 x6_1 σ
theorem b_X12_works_212 {Q : Option Value → zS → Prop} (x2 : Int64) (x4 : Int64) (σ : zS) (h : wpO (f_X12_works_212 x2 x4 σ) (fun a => Q (some (.int a.1)) a.2)) : PZ alM mX12_works (1) Q 212 [(0, .ref 5000), (2, .long x2), (4, .long x4)] [] σ := by
  unfold f_X12_works_212 at h
  refine PW_lload (pc' := 214) (q := 2) (pw_dk dc_X12_works 68 rfl) rfl rfl ?_
  refine PW_lload_n (pc' := 215) (q := 1) (pw_dk dc_X12_works 69 rfl) rfl rfl rfl ?_
  refine PW_lmul (pc' := 216) (pw_dk dc_X12_works 70 rfl) rfl ?_
  refine PW_topl (fun x6_1 ex6_1 => ?_)
  replace h := lt_w h ex6_1
  refine PW_lstore (pc' := 218) (lv' := [(6, .long x6_1), (0, .ref 5000), (2, .long x2), (4, .long x4)]) (pw_dk dc_X12_works 71 rfl) rfl (by decide) rfl ?_
  refine PW_goto (tgt := 407) (pw_dk dc_X12_works 72 rfl) (by decide) ?_
  refine PW_sub (lv' := [(0, .ref 5000), (6, .long x6_1)]) [1, 0] rfl ?_
  exact b_X12_works_407 x6_1 σ h
def f_X12_works_250  (s0 : Int32) (σ : zS) : Option (Int32 × zS) := 
  lt (α := Int64) (f_X12_is s0 σ) fun x6_2 =>
  f_X12_works_407 x6_2 σ
theorem b_X12_works_250 {Q : Option Value → zS → Prop} (s0 : Int32) (σ : zS) (h : wpO (f_X12_works_250 s0 σ) (fun a => Q (some (.int a.1)) a.2)) : PZ alM mX12_works (1) Q 250 [(0, .ref 5000)] [.int s0] σ := by
  unfold f_X12_works_250 at h
  refine PZ_callSl (pc' := 253) (y := yX12_is) (M' := mX12_is) (d' := 0) (As := [.int s0]) (st := []) tw_1797 (pw_dk dc_X12_works 91 rfl) rfl Y_X12_is tw_1796 rfl (by decide) (Nat.le_of_ble_eq_true rfl) (t_X12_is s0 σ _ ?_)
  refine ⟨_, rfl, fun hn_1 => ?_⟩
  show PZ alM mX12_works (1) Q 253 [(0, .ref 5000)] [.long (f_X12_is s0 σ)] σ
  refine PW_topl (fun x6_2 ex6_2 => ?_)
  replace h := lt_w h ex6_2
  refine PW_lstore (pc' := 255) (lv' := [(6, .long x6_2), (0, .ref 5000)]) (pw_dk dc_X12_works 92 rfl) rfl (by decide) rfl ?_
  refine PW_goto (tgt := 407) (pw_dk dc_X12_works 93 rfl) (by decide) ?_
  refine PW_sub (lv' := [(0, .ref 5000), (6, .long x6_2)]) [1, 0] rfl ?_
  exact b_X12_works_407 x6_2 σ h
def f_X12_works_270  (s0 : Int32) (σ : zS) : Option (Int32 × zS) := 
  lt (α := Int64) (f_X12_is s0 σ) fun x6_2 =>
  f_X12_works_407 x6_2 σ
theorem b_X12_works_270 {Q : Option Value → zS → Prop} (s0 : Int32) (σ : zS) (h : wpO (f_X12_works_270 s0 σ) (fun a => Q (some (.int a.1)) a.2)) : PZ alM mX12_works (1) Q 270 [(0, .ref 5000)] [.int s0] σ := by
  unfold f_X12_works_270 at h
  refine PZ_callSl (pc' := 273) (y := yX12_is) (M' := mX12_is) (d' := 0) (As := [.int s0]) (st := []) tw_1797 (pw_dk dc_X12_works 101 rfl) rfl Y_X12_is tw_1796 rfl (by decide) (Nat.le_of_ble_eq_true rfl) (t_X12_is s0 σ _ ?_)
  refine ⟨_, rfl, fun hn_1 => ?_⟩
  show PZ alM mX12_works (1) Q 273 [(0, .ref 5000)] [.long (f_X12_is s0 σ)] σ
  refine PW_topl (fun x6_2 ex6_2 => ?_)
  replace h := lt_w h ex6_2
  refine PW_lstore (pc' := 275) (lv' := [(6, .long x6_2), (0, .ref 5000)]) (pw_dk dc_X12_works 102 rfl) rfl (by decide) rfl ?_
  refine PW_goto (tgt := 407) (pw_dk dc_X12_works 103 rfl) (by decide) ?_
  refine PW_sub (lv' := [(0, .ref 5000), (6, .long x6_2)]) [1, 0] rfl ?_
  exact b_X12_works_407 x6_2 σ h
def f_X12_works_290  (s0 : Int32) (σ : zS) : Option (Int32 × zS) := 
  lt (α := Int64) (f_X12_is s0 σ) fun x6_2 =>
  f_X12_works_407 x6_2 σ
theorem b_X12_works_290 {Q : Option Value → zS → Prop} (s0 : Int32) (σ : zS) (h : wpO (f_X12_works_290 s0 σ) (fun a => Q (some (.int a.1)) a.2)) : PZ alM mX12_works (1) Q 290 [(0, .ref 5000)] [.int s0] σ := by
  unfold f_X12_works_290 at h
  refine PZ_callSl (pc' := 293) (y := yX12_is) (M' := mX12_is) (d' := 0) (As := [.int s0]) (st := []) tw_1797 (pw_dk dc_X12_works 111 rfl) rfl Y_X12_is tw_1796 rfl (by decide) (Nat.le_of_ble_eq_true rfl) (t_X12_is s0 σ _ ?_)
  refine ⟨_, rfl, fun hn_1 => ?_⟩
  show PZ alM mX12_works (1) Q 293 [(0, .ref 5000)] [.long (f_X12_is s0 σ)] σ
  refine PW_topl (fun x6_2 ex6_2 => ?_)
  replace h := lt_w h ex6_2
  refine PW_lstore (pc' := 295) (lv' := [(6, .long x6_2), (0, .ref 5000)]) (pw_dk dc_X12_works 112 rfl) rfl (by decide) rfl ?_
  refine PW_goto (tgt := 407) (pw_dk dc_X12_works 113 rfl) (by decide) ?_
  refine PW_sub (lv' := [(0, .ref 5000), (6, .long x6_2)]) [1, 0] rfl ?_
  exact b_X12_works_407 x6_2 σ h
def f_X12_works_310  (s0 : Int32) (σ : zS) : Option (Int32 × zS) := 
  lt (α := Int64) (f_X12_is s0 σ) fun x6_2 =>
  f_X12_works_407 x6_2 σ
theorem b_X12_works_310 {Q : Option Value → zS → Prop} (s0 : Int32) (σ : zS) (h : wpO (f_X12_works_310 s0 σ) (fun a => Q (some (.int a.1)) a.2)) : PZ alM mX12_works (1) Q 310 [(0, .ref 5000)] [.int s0] σ := by
  unfold f_X12_works_310 at h
  refine PZ_callSl (pc' := 313) (y := yX12_is) (M' := mX12_is) (d' := 0) (As := [.int s0]) (st := []) tw_1797 (pw_dk dc_X12_works 121 rfl) rfl Y_X12_is tw_1796 rfl (by decide) (Nat.le_of_ble_eq_true rfl) (t_X12_is s0 σ _ ?_)
  refine ⟨_, rfl, fun hn_1 => ?_⟩
  show PZ alM mX12_works (1) Q 313 [(0, .ref 5000)] [.long (f_X12_is s0 σ)] σ
  refine PW_topl (fun x6_2 ex6_2 => ?_)
  replace h := lt_w h ex6_2
  refine PW_lstore (pc' := 315) (lv' := [(6, .long x6_2), (0, .ref 5000)]) (pw_dk dc_X12_works 122 rfl) rfl (by decide) rfl ?_
  refine PW_goto (tgt := 407) (pw_dk dc_X12_works 123 rfl) (by decide) ?_
  refine PW_sub (lv' := [(0, .ref 5000), (6, .long x6_2)]) [1, 0] rfl ?_
  exact b_X12_works_407 x6_2 σ h
def f_X12_works_330  (s0 : Int32) (σ : zS) : Option (Int32 × zS) := 
  lt (α := Int64) (f_X12_is s0 σ) fun x6_2 =>
  f_X12_works_407 x6_2 σ
theorem b_X12_works_330 {Q : Option Value → zS → Prop} (s0 : Int32) (σ : zS) (h : wpO (f_X12_works_330 s0 σ) (fun a => Q (some (.int a.1)) a.2)) : PZ alM mX12_works (1) Q 330 [(0, .ref 5000)] [.int s0] σ := by
  unfold f_X12_works_330 at h
  refine PZ_callSl (pc' := 333) (y := yX12_is) (M' := mX12_is) (d' := 0) (As := [.int s0]) (st := []) tw_1797 (pw_dk dc_X12_works 131 rfl) rfl Y_X12_is tw_1796 rfl (by decide) (Nat.le_of_ble_eq_true rfl) (t_X12_is s0 σ _ ?_)
  refine ⟨_, rfl, fun hn_1 => ?_⟩
  show PZ alM mX12_works (1) Q 333 [(0, .ref 5000)] [.long (f_X12_is s0 σ)] σ
  refine PW_topl (fun x6_2 ex6_2 => ?_)
  replace h := lt_w h ex6_2
  refine PW_lstore (pc' := 335) (lv' := [(6, .long x6_2), (0, .ref 5000)]) (pw_dk dc_X12_works 132 rfl) rfl (by decide) rfl ?_
  refine PW_goto (tgt := 407) (pw_dk dc_X12_works 133 rfl) (by decide) ?_
  refine PW_sub (lv' := [(0, .ref 5000), (6, .long x6_2)]) [1, 0] rfl ?_
  exact b_X12_works_407 x6_2 σ h
def f_X12_works_350  (s0 : Int32) (σ : zS) : Option (Int32 × zS) := 
  lt (α := Int64) (f_X12_is s0 σ) fun x6_2 =>
  f_X12_works_407 x6_2 σ
theorem b_X12_works_350 {Q : Option Value → zS → Prop} (s0 : Int32) (σ : zS) (h : wpO (f_X12_works_350 s0 σ) (fun a => Q (some (.int a.1)) a.2)) : PZ alM mX12_works (1) Q 350 [(0, .ref 5000)] [.int s0] σ := by
  unfold f_X12_works_350 at h
  refine PZ_callSl (pc' := 353) (y := yX12_is) (M' := mX12_is) (d' := 0) (As := [.int s0]) (st := []) tw_1797 (pw_dk dc_X12_works 141 rfl) rfl Y_X12_is tw_1796 rfl (by decide) (Nat.le_of_ble_eq_true rfl) (t_X12_is s0 σ _ ?_)
  refine ⟨_, rfl, fun hn_1 => ?_⟩
  show PZ alM mX12_works (1) Q 353 [(0, .ref 5000)] [.long (f_X12_is s0 σ)] σ
  refine PW_topl (fun x6_2 ex6_2 => ?_)
  replace h := lt_w h ex6_2
  refine PW_lstore (pc' := 355) (lv' := [(6, .long x6_2), (0, .ref 5000)]) (pw_dk dc_X12_works 142 rfl) rfl (by decide) rfl ?_
  refine PW_goto (tgt := 407) (pw_dk dc_X12_works 143 rfl) (by decide) ?_
  refine PW_sub (lv' := [(0, .ref 5000), (6, .long x6_2)]) [1, 0] rfl ?_
  exact b_X12_works_407 x6_2 σ h
def f_X12_works_376  (s0 : Int32) (σ : zS) : Option (Int32 × zS) := 
  lt (α := Int64) (f_X12_is s0 σ) fun x6_2 =>
  f_X12_works_407 x6_2 σ
theorem b_X12_works_376 {Q : Option Value → zS → Prop} (s0 : Int32) (σ : zS) (h : wpO (f_X12_works_376 s0 σ) (fun a => Q (some (.int a.1)) a.2)) : PZ alM mX12_works (1) Q 376 [(0, .ref 5000)] [.int s0] σ := by
  unfold f_X12_works_376 at h
  refine PZ_callSl (pc' := 379) (y := yX12_is) (M' := mX12_is) (d' := 0) (As := [.int s0]) (st := []) tw_1797 (pw_dk dc_X12_works 155 rfl) rfl Y_X12_is tw_1796 rfl (by decide) (Nat.le_of_ble_eq_true rfl) (t_X12_is s0 σ _ ?_)
  refine ⟨_, rfl, fun hn_1 => ?_⟩
  show PZ alM mX12_works (1) Q 379 [(0, .ref 5000)] [.long (f_X12_is s0 σ)] σ
  refine PW_topl (fun x6_2 ex6_2 => ?_)
  replace h := lt_w h ex6_2
  refine PW_lstore (pc' := 381) (lv' := [(6, .long x6_2), (0, .ref 5000)]) (pw_dk dc_X12_works 156 rfl) rfl (by decide) rfl ?_
  refine PW_goto (tgt := 407) (pw_dk dc_X12_works 157 rfl) (by decide) ?_
  refine PW_sub (lv' := [(0, .ref 5000), (6, .long x6_2)]) [1, 0] rfl ?_
  exact b_X12_works_407 x6_2 σ h
def f_X12_works_375   (σ : zS) : Option (Int32 × zS) := 
  f_X12_works_376 0 σ
theorem b_X12_works_375 {Q : Option Value → zS → Prop}  (σ : zS) (h : wpO (f_X12_works_375 σ) (fun a => Q (some (.int a.1)) a.2)) : PZ alM mX12_works (1) Q 375 [(0, .ref 5000)] [] σ := by
  unfold f_X12_works_375 at h
  refine PW_iconst (pc' := 376) (v := 0) (pw_dk dc_X12_works 154 rfl) rfl (by decide) ?_
  exact b_X12_works_376 0 σ h
def f_X12_works_402  (s0 : Int32) (σ : zS) : Option (Int32 × zS) := 
  lt (α := Int64) (f_X12_is s0 σ) fun x6_2 =>
  f_X12_works_407 x6_2 σ
theorem b_X12_works_402 {Q : Option Value → zS → Prop} (s0 : Int32) (σ : zS) (h : wpO (f_X12_works_402 s0 σ) (fun a => Q (some (.int a.1)) a.2)) : PZ alM mX12_works (1) Q 402 [(0, .ref 5000)] [.int s0] σ := by
  unfold f_X12_works_402 at h
  refine PZ_callSl (pc' := 405) (y := yX12_is) (M' := mX12_is) (d' := 0) (As := [.int s0]) (st := []) tw_1797 (pw_dk dc_X12_works 169 rfl) rfl Y_X12_is tw_1796 rfl (by decide) (Nat.le_of_ble_eq_true rfl) (t_X12_is s0 σ _ ?_)
  refine ⟨_, rfl, fun hn_1 => ?_⟩
  show PZ alM mX12_works (1) Q 405 [(0, .ref 5000)] [.long (f_X12_is s0 σ)] σ
  refine PW_topl (fun x6_2 ex6_2 => ?_)
  replace h := lt_w h ex6_2
  refine PW_lstore (pc' := 407) (lv' := [(6, .long x6_2), (0, .ref 5000)]) (pw_dk dc_X12_works 170 rfl) rfl (by decide) rfl ?_
  refine PW_sub (lv' := [(0, .ref 5000), (6, .long x6_2)]) [1, 0] rfl ?_
  exact b_X12_works_407 x6_2 σ h
def f_X12_works_397   (σ : zS) : Option (Int32 × zS) := 
  f_X12_works_402 1 σ
theorem b_X12_works_397 {Q : Option Value → zS → Prop}  (σ : zS) (h : wpO (f_X12_works_397 σ) (fun a => Q (some (.int a.1)) a.2)) : PZ alM mX12_works (1) Q 397 [(0, .ref 5000)] [] σ := by
  unfold f_X12_works_397 at h
  refine PW_iconst (pc' := 398) (v := 1) (pw_dk dc_X12_works 166 rfl) rfl (by decide) ?_
  refine PW_goto (tgt := 402) (pw_dk dc_X12_works 167 rfl) (by decide) ?_
  exact b_X12_works_402 1 σ h
def f_X12_works (x1 : Int32) (σ : zS) : Option (Int32 × zS) := 
  (rdL σ 5036 64 ((σ.1 5000 36) - (1 : Int32))).bind fun v_1 =>
  if x1 = 260 then
    if (lg_cmp v_1 0) = 0 then
      f_X12_works_40 ((σ.1 5000 36) - (1 : Int32)) 1 σ
    else
      f_X12_works_40 ((σ.1 5000 36) - (1 : Int32)) 0 σ
  else
    (rdL σ 5036 64 ((σ.1 5000 36) - (2 : Int32))).bind fun v_5 =>
    lt (wI σ 5000 36 ((σ.1 5000 36) - (1 : Int32))) fun σ_8 =>
    if x1 = 42 then
      if (lg_cmp v_5 0) = 0 then
        f_X12_works_212 v_1 v_5 σ_8
      else
        if f_J9_abs_067f4 v_5 σ_8 = 0 then none else
        if (lg_cmp (f_J9_abs_067f4 v_1 σ_8) ((1000000000000 : Int64) / (f_J9_abs_067f4 v_5 σ_8))) ≤ 0 then
          f_X12_works_212 v_1 v_5 σ_8
        else
          some (0, σ_8)
    else if x1 = 43 then
      lt (α := Int64) (v_5 + v_1) fun x6_16 =>
      f_X12_works_407 x6_16 σ_8
    else if x1 = 45 then
      lt (α := Int64) (v_5 - v_1) fun x6_18 =>
      f_X12_works_407 x6_18 σ_8
    else if x1 = 47 then
      if (lg_cmp v_1 0) = 0 then
        some (0, σ_8)
      else
        if v_1 = 0 then none else
        lt (α := Int64) (v_5 / v_1) fun x6_21 =>
        f_X12_works_407 x6_21 σ_8
    else if x1 = 60 then
      if 0 ≤ (lg_cmp v_5 v_1) then
        f_X12_works_250 0 σ_8
      else
        f_X12_works_250 1 σ_8
    else if x1 = 61 then
      if (lg_cmp v_5 v_1) = 0 then
        f_X12_works_290 1 σ_8
      else
        f_X12_works_290 0 σ_8
    else if x1 = 62 then
      if (lg_cmp v_5 v_1) ≤ 0 then
        f_X12_works_270 0 σ_8
      else
        f_X12_works_270 1 σ_8
    else if x1 = 256 then
      if 0 < (lg_cmp v_5 v_1) then
        f_X12_works_310 0 σ_8
      else
        f_X12_works_310 1 σ_8
    else if x1 = 257 then
      if (lg_cmp v_5 v_1) = 0 then
        f_X12_works_350 0 σ_8
      else
        f_X12_works_350 1 σ_8
    else if x1 = 258 then
      if (lg_cmp v_5 v_1) < 0 then
        f_X12_works_330 0 σ_8
      else
        f_X12_works_330 1 σ_8
    else if x1 = 261 then
      if (lg_cmp v_5 0) = 0 then
        f_X12_works_375 σ_8
      else
        if (lg_cmp v_1 0) = 0 then
          f_X12_works_375 σ_8
        else
          f_X12_works_376 1 σ_8
    else
      if (lg_cmp v_5 0) = 0 then
        if (lg_cmp v_1 0) = 0 then
          f_X12_works_402 0 σ_8
        else
          f_X12_works_397 σ_8
      else
        f_X12_works_397 σ_8
theorem t_X12_works (x1 : Int32) (σ : zS) (Q : Option Value → zS → Prop) (h : wpO (f_X12_works x1 σ) (fun a => Q (some (.int a.1)) a.2)) : PK alM yX12_works mX12_works (1) [.ref 5000, .int x1] σ Q := by
  refine PC_ofF (by decide +kernel) rfl rfl (Nat.le_of_ble_eq_true rfl) ?_
  show PZ alM mX12_works (1) Q 0 [(0, .ref 5000), (1, .int x1)] [] σ
  unfold f_X12_works at h
  refine PW_aload_n (pc' := 1) (q := 0) (pw_dk dc_X12_works 0 rfl) rfl rfl rfl ?_
  refine PW_getR (pc' := 4) (id := 5000) (ci := 12) (nn := 0) (C0 := RX12) (T := TX12) (N := 62) (j := 35) (r := 5036) (pw_dk dc_X12_works 1 rfl) rfl me_5000 rfl pi_12 (by decide) fk_12_35 tw_1432 (rfl) (by decide) ?_
  refine PW_aload_n (pc' := 5) (q := 0) (pw_dk dc_X12_works 2 rfl) rfl rfl rfl ?_
  refine PZ_getI (pc' := 8) (id := 5000) (ci := 12) (nn := 0) (C0 := RX12) (T := TX12) (N := 62) (j := 36) (pw_dk dc_X12_works 3 rfl) rfl me_5000 rfl pi_12 (by decide) fk_12_36 tw_1433 ?_
  refine PW_iconst (pc' := 9) (v := 1) (pw_dk dc_X12_works 4 rfl) rfl (by decide) ?_
  refine PW_isub (pc' := 10) (pw_dk dc_X12_works 5 rfl) rfl ?_
  obtain ⟨v_1, hi_2, e_3, h⟩ := wp_rdLx h
  refine PZ_laldx (pc' := 11) (v := v_1) (id := 5036) (nn := 64) (pw_dk dc_X12_works 6 rfl) rfl me_5036 hi_2 e_3 ?_
  refine PW_lstore_n (pc' := 12) (lv' := [(2, .long v_1), (0, .ref 5000), (1, .int x1)]) (pw_dk dc_X12_works 7 rfl) rfl rfl (by decide) rfl ?_
  refine PW_iload_n (pc' := 13) (q := 2) (pw_dk dc_X12_works 8 rfl) rfl rfl rfl ?_
  refine PW_sipush (pc' := 16) (v := 260) (pw_dk dc_X12_works 9 rfl) rfl (by decide) ?_
  refine PW_icmp_ne (pc' := 19) (tgt := 46) (pw_dk dc_X12_works 10 rfl) rfl (by decide) (fun c_4 => ?_) (fun c_4 => ?_)
  · rw [if_neg c_4] at h
    refine PW_aload_n (pc' := 47) (q := 1) (pw_dk dc_X12_works 28 rfl) rfl rfl rfl ?_
    refine PW_getR (pc' := 50) (id := 5000) (ci := 12) (nn := 0) (C0 := RX12) (T := TX12) (N := 62) (j := 35) (r := 5036) (pw_dk dc_X12_works 29 rfl) rfl me_5000 rfl pi_12 (by decide) fk_12_35 tw_1432 (rfl) (by decide) ?_
    refine PW_aload_n (pc' := 51) (q := 1) (pw_dk dc_X12_works 30 rfl) rfl rfl rfl ?_
    refine PZ_getI (pc' := 54) (id := 5000) (ci := 12) (nn := 0) (C0 := RX12) (T := TX12) (N := 62) (j := 36) (pw_dk dc_X12_works 31 rfl) rfl me_5000 rfl pi_12 (by decide) fk_12_36 tw_1433 ?_
    refine PW_iconst (pc' := 55) (v := 2) (pw_dk dc_X12_works 32 rfl) rfl (by decide) ?_
    refine PW_isub (pc' := 56) (pw_dk dc_X12_works 33 rfl) rfl ?_
    obtain ⟨v_5, hi_6, e_7, h⟩ := wp_rdLx h
    refine PZ_laldx (pc' := 57) (v := v_5) (id := 5036) (nn := 64) (pw_dk dc_X12_works 34 rfl) rfl me_5036 hi_6 e_7 ?_
    refine PW_lstore (pc' := 59) (lv' := [(4, .long v_5), (2, .long v_1), (0, .ref 5000), (1, .int x1)]) (pw_dk dc_X12_works 35 rfl) rfl (by decide) rfl ?_
    refine PW_aload_n (pc' := 60) (q := 2) (pw_dk dc_X12_works 36 rfl) rfl rfl rfl ?_
    refine PW_dup (pc' := 61) (pw_dk dc_X12_works 37 rfl) rfl rfl ?_
    refine PZ_getI (pc' := 64) (id := 5000) (ci := 12) (nn := 0) (C0 := RX12) (T := TX12) (N := 62) (j := 36) (pw_dk dc_X12_works 38 rfl) rfl me_5000 rfl pi_12 (by decide) fk_12_36 tw_1433 ?_
    refine PW_iconst (pc' := 65) (v := 1) (pw_dk dc_X12_works 39 rfl) rfl (by decide) ?_
    refine PW_isub (pc' := 66) (pw_dk dc_X12_works 40 rfl) rfl ?_
    obtain ⟨σ_8, e_9, h⟩ := lt_x h
    refine PZ_putX (pc' := 69) (σ' := σ_8) (id := 5000) (ci := 12) (nn := 0) (C0 := RX12) (T := TX12) (N := 62) (j := 36) (ty := tyX12 36) (pw_dk dc_X12_works 41 rfl) rfl me_5000 rfl pi_12 tyX12_ok nmX12 (by decide) fk_12_36 tw_1433 rfl (tyX12_ok 36 (by decide)) (by first | rfl | decide) (by first | rfl | decide) e_9 ?_
    refine PW_iload_n (pc' := 70) (q := 3) (pw_dk dc_X12_works 42 rfl) rfl rfl rfl ?_
    by_cases c_10 : x1 = 42
    · rw [if_pos c_10] at h
      refine PW_look (tgt := 186) (off := 116) (pw_dk dc_X12_works 43 rfl) (by decide) (by rw [c_10] <;> rfl) (by decide) ?_
      refine PW_lload (pc' := 188) (q := 0) (pw_dk dc_X12_works 54 rfl) rfl rfl ?_
      refine PW_lconst (pc' := 189) (v := 0) (pw_dk dc_X12_works 55 rfl) rfl (by decide) ?_
      refine PW_lcmp (pc' := 190) (pw_dk dc_X12_works 56 rfl) rfl ?_
      refine PW_if_eq (pc' := 193) (tgt := 212) (pw_dk dc_X12_works 57 rfl) rfl (by decide) (fun c_11 => ?_) (fun c_11 => ?_)
      · rw [if_pos c_11] at h
        refine PW_sub (lv' := [(0, .ref 5000), (2, .long v_1), (4, .long v_5)]) [2, 1, 0] rfl ?_
        exact b_X12_works_212 v_1 v_5 σ_8 h
      · rw [if_neg c_11] at h
        refine PW_lload_n (pc' := 194) (q := 1) (pw_dk dc_X12_works 58 rfl) rfl rfl rfl ?_
        refine PZ_callSl (pc' := 197) (y := yJ9_abs_067f4) (M' := mJ9_abs_067f4) (d' := 0) (As := [.long v_1]) (st := []) tw_1800 (pw_dk dc_X12_works 59 rfl) rfl Y_J9_abs_067f4 tw_1799 rfl (by decide) (Nat.le_of_ble_eq_true rfl) (t_J9_abs_067f4 alM v_1 σ_8 _ ?_)
        refine ⟨_, rfl, fun hn_12 => ?_⟩
        show PZ alM mX12_works (1) Q 197 [(4, .long v_5), (2, .long v_1), (0, .ref 5000), (1, .int x1)] [.long (f_J9_abs_067f4 v_1 σ_8)] σ_8
        refine PW_ldc2 (pc' := 200) (v := 1000000000000) (pw_dk dc_X12_works 60 rfl) rfl tw_1802 ?_
        refine PW_lload (pc' := 202) (q := 0) (pw_dk dc_X12_works 61 rfl) rfl rfl ?_
        refine PZ_callSl (pc' := 205) (y := yJ9_abs_067f4) (M' := mJ9_abs_067f4) (d' := 0) (As := [.long v_5]) (st := [.long 1000000000000, .long (f_J9_abs_067f4 v_1 σ_8)]) tw_1800 (pw_dk dc_X12_works 62 rfl) rfl Y_J9_abs_067f4 tw_1799 rfl (by decide) (Nat.le_of_ble_eq_true rfl) (t_J9_abs_067f4 alM v_5 σ_8 _ ?_)
        refine ⟨_, rfl, fun hn_13 => ?_⟩
        show PZ alM mX12_works (1) Q 205 [(4, .long v_5), (2, .long v_1), (0, .ref 5000), (1, .int x1)] [.long (f_J9_abs_067f4 v_5 σ_8), .long 1000000000000, .long (f_J9_abs_067f4 v_1 σ_8)] σ_8
        obtain ⟨hz205, h⟩ := wp_dv h
        refine PW_ldiv (pc' := 206) (pw_dk dc_X12_works 63 rfl) rfl hz205 ?_
        refine PW_lcmp (pc' := 207) (pw_dk dc_X12_works 64 rfl) rfl ?_
        refine PW_if_le (pc' := 210) (tgt := 212) (pw_dk dc_X12_works 65 rfl) rfl (by decide) (fun c_14 => ?_) (fun c_14 => ?_)
        · rw [if_pos c_14] at h
          refine PW_sub (lv' := [(0, .ref 5000), (2, .long v_1), (4, .long v_5)]) [2, 1, 0] rfl ?_
          exact b_X12_works_212 v_1 v_5 σ_8 h
        · rw [if_neg c_14] at h
          refine PW_iconst (pc' := 211) (v := 0) (pw_dk dc_X12_works 66 rfl) rfl (by decide) ?_
          have z := wp_some h
          exact PZ_iret (ty := .boolean) (pw_dk dc_X12_works 67 rfl) rfl (by decide) z
    · rw [if_neg c_10] at h
      by_cases c_15 : x1 = 43
      · rw [if_pos c_15] at h
        refine PW_look (tgt := 168) (off := 98) (pw_dk dc_X12_works 43 rfl) (by decide) (by rw [c_15] <;> rfl) (by decide) ?_
        refine PW_lload (pc' := 170) (q := 0) (pw_dk dc_X12_works 44 rfl) rfl rfl ?_
        refine PW_lload_n (pc' := 171) (q := 1) (pw_dk dc_X12_works 45 rfl) rfl rfl rfl ?_
        refine PW_ladd (pc' := 172) (pw_dk dc_X12_works 46 rfl) rfl ?_
        refine PW_topl (fun x6_16 ex6_16 => ?_)
        replace h := lt_w h ex6_16
        refine PW_lstore (pc' := 174) (lv' := [(6, .long x6_16), (4, .long v_5), (2, .long v_1), (0, .ref 5000), (1, .int x1)]) (pw_dk dc_X12_works 47 rfl) rfl (by decide) rfl ?_
        refine PW_goto (tgt := 407) (pw_dk dc_X12_works 48 rfl) (by decide) ?_
        refine PW_sub (lv' := [(0, .ref 5000), (6, .long x6_16)]) [3, 0] rfl ?_
        exact b_X12_works_407 x6_16 σ_8 h
      · rw [if_neg c_15] at h
        by_cases c_17 : x1 = 45
        · rw [if_pos c_17] at h
          refine PW_look (tgt := 177) (off := 107) (pw_dk dc_X12_works 43 rfl) (by decide) (by rw [c_17] <;> rfl) (by decide) ?_
          refine PW_lload (pc' := 179) (q := 0) (pw_dk dc_X12_works 49 rfl) rfl rfl ?_
          refine PW_lload_n (pc' := 180) (q := 1) (pw_dk dc_X12_works 50 rfl) rfl rfl rfl ?_
          refine PW_lsub (pc' := 181) (pw_dk dc_X12_works 51 rfl) rfl ?_
          refine PW_topl (fun x6_18 ex6_18 => ?_)
          replace h := lt_w h ex6_18
          refine PW_lstore (pc' := 183) (lv' := [(6, .long x6_18), (4, .long v_5), (2, .long v_1), (0, .ref 5000), (1, .int x1)]) (pw_dk dc_X12_works 52 rfl) rfl (by decide) rfl ?_
          refine PW_goto (tgt := 407) (pw_dk dc_X12_works 53 rfl) (by decide) ?_
          refine PW_sub (lv' := [(0, .ref 5000), (6, .long x6_18)]) [3, 0] rfl ?_
          exact b_X12_works_407 x6_18 σ_8 h
        · rw [if_neg c_17] at h
          by_cases c_19 : x1 = 47
          · rw [if_pos c_19] at h
            refine PW_look (tgt := 221) (off := 151) (pw_dk dc_X12_works 43 rfl) (by decide) (by rw [c_19] <;> rfl) (by decide) ?_
            refine PW_lload_n (pc' := 222) (q := 1) (pw_dk dc_X12_works 73 rfl) rfl rfl rfl ?_
            refine PW_lconst (pc' := 223) (v := 0) (pw_dk dc_X12_works 74 rfl) rfl (by decide) ?_
            refine PW_lcmp (pc' := 224) (pw_dk dc_X12_works 75 rfl) rfl ?_
            refine PW_if_ne (pc' := 227) (tgt := 229) (pw_dk dc_X12_works 76 rfl) rfl (by decide) (fun c_20 => ?_) (fun c_20 => ?_)
            · rw [if_neg c_20] at h
              refine PW_lload (pc' := 231) (q := 0) (pw_dk dc_X12_works 79 rfl) rfl rfl ?_
              refine PW_lload_n (pc' := 232) (q := 1) (pw_dk dc_X12_works 80 rfl) rfl rfl rfl ?_
              obtain ⟨hz232, h⟩ := wp_dv h
              refine PW_ldiv (pc' := 233) (pw_dk dc_X12_works 81 rfl) rfl hz232 ?_
              refine PW_topl (fun x6_21 ex6_21 => ?_)
              replace h := lt_w h ex6_21
              refine PW_lstore (pc' := 235) (lv' := [(6, .long x6_21), (4, .long v_5), (2, .long v_1), (0, .ref 5000), (1, .int x1)]) (pw_dk dc_X12_works 82 rfl) rfl (by decide) rfl ?_
              refine PW_goto (tgt := 407) (pw_dk dc_X12_works 83 rfl) (by decide) ?_
              refine PW_sub (lv' := [(0, .ref 5000), (6, .long x6_21)]) [3, 0] rfl ?_
              exact b_X12_works_407 x6_21 σ_8 h
            · rw [if_pos c_20] at h
              refine PW_iconst (pc' := 228) (v := 0) (pw_dk dc_X12_works 77 rfl) rfl (by decide) ?_
              have z := wp_some h
              exact PZ_iret (ty := .boolean) (pw_dk dc_X12_works 78 rfl) rfl (by decide) z
          · rw [if_neg c_19] at h
            by_cases c_22 : x1 = 60
            · rw [if_pos c_22] at h
              refine PW_look (tgt := 238) (off := 168) (pw_dk dc_X12_works 43 rfl) (by decide) (by rw [c_22] <;> rfl) (by decide) ?_
              refine PW_lload (pc' := 240) (q := 0) (pw_dk dc_X12_works 84 rfl) rfl rfl ?_
              refine PW_lload_n (pc' := 241) (q := 1) (pw_dk dc_X12_works 85 rfl) rfl rfl rfl ?_
              refine PW_lcmp (pc' := 242) (pw_dk dc_X12_works 86 rfl) rfl ?_
              refine PW_if_ge (pc' := 245) (tgt := 249) (pw_dk dc_X12_works 87 rfl) rfl (by decide) (fun c_23 => ?_) (fun c_23 => ?_)
              · rw [if_pos c_23] at h
                refine PW_iconst (pc' := 250) (v := 0) (pw_dk dc_X12_works 90 rfl) rfl (by decide) ?_
                refine PW_sub (lv' := [(0, .ref 5000)]) [2] rfl ?_
                exact b_X12_works_250 0 σ_8 h
              · rw [if_neg c_23] at h
                refine PW_iconst (pc' := 246) (v := 1) (pw_dk dc_X12_works 88 rfl) rfl (by decide) ?_
                refine PW_goto (tgt := 250) (pw_dk dc_X12_works 89 rfl) (by decide) ?_
                refine PW_sub (lv' := [(0, .ref 5000)]) [2] rfl ?_
                exact b_X12_works_250 1 σ_8 h
            · rw [if_neg c_22] at h
              by_cases c_24 : x1 = 61
              · rw [if_pos c_24] at h
                refine PW_look (tgt := 278) (off := 208) (pw_dk dc_X12_works 43 rfl) (by decide) (by rw [c_24] <;> rfl) (by decide) ?_
                refine PW_lload (pc' := 280) (q := 0) (pw_dk dc_X12_works 104 rfl) rfl rfl ?_
                refine PW_lload_n (pc' := 281) (q := 1) (pw_dk dc_X12_works 105 rfl) rfl rfl rfl ?_
                refine PW_lcmp (pc' := 282) (pw_dk dc_X12_works 106 rfl) rfl ?_
                refine PW_if_ne (pc' := 285) (tgt := 289) (pw_dk dc_X12_works 107 rfl) rfl (by decide) (fun c_25 => ?_) (fun c_25 => ?_)
                · rw [if_neg c_25] at h
                  refine PW_iconst (pc' := 290) (v := 0) (pw_dk dc_X12_works 110 rfl) rfl (by decide) ?_
                  refine PW_sub (lv' := [(0, .ref 5000)]) [2] rfl ?_
                  exact b_X12_works_290 0 σ_8 h
                · rw [if_pos c_25] at h
                  refine PW_iconst (pc' := 286) (v := 1) (pw_dk dc_X12_works 108 rfl) rfl (by decide) ?_
                  refine PW_goto (tgt := 290) (pw_dk dc_X12_works 109 rfl) (by decide) ?_
                  refine PW_sub (lv' := [(0, .ref 5000)]) [2] rfl ?_
                  exact b_X12_works_290 1 σ_8 h
              · rw [if_neg c_24] at h
                by_cases c_26 : x1 = 62
                · rw [if_pos c_26] at h
                  refine PW_look (tgt := 258) (off := 188) (pw_dk dc_X12_works 43 rfl) (by decide) (by rw [c_26] <;> rfl) (by decide) ?_
                  refine PW_lload (pc' := 260) (q := 0) (pw_dk dc_X12_works 94 rfl) rfl rfl ?_
                  refine PW_lload_n (pc' := 261) (q := 1) (pw_dk dc_X12_works 95 rfl) rfl rfl rfl ?_
                  refine PW_lcmp (pc' := 262) (pw_dk dc_X12_works 96 rfl) rfl ?_
                  refine PW_if_le (pc' := 265) (tgt := 269) (pw_dk dc_X12_works 97 rfl) rfl (by decide) (fun c_27 => ?_) (fun c_27 => ?_)
                  · rw [if_pos c_27] at h
                    refine PW_iconst (pc' := 270) (v := 0) (pw_dk dc_X12_works 100 rfl) rfl (by decide) ?_
                    refine PW_sub (lv' := [(0, .ref 5000)]) [2] rfl ?_
                    exact b_X12_works_270 0 σ_8 h
                  · rw [if_neg c_27] at h
                    refine PW_iconst (pc' := 266) (v := 1) (pw_dk dc_X12_works 98 rfl) rfl (by decide) ?_
                    refine PW_goto (tgt := 270) (pw_dk dc_X12_works 99 rfl) (by decide) ?_
                    refine PW_sub (lv' := [(0, .ref 5000)]) [2] rfl ?_
                    exact b_X12_works_270 1 σ_8 h
                · rw [if_neg c_26] at h
                  by_cases c_28 : x1 = 256
                  · rw [if_pos c_28] at h
                    refine PW_look (tgt := 298) (off := 228) (pw_dk dc_X12_works 43 rfl) (by decide) (by rw [c_28] <;> rfl) (by decide) ?_
                    refine PW_lload (pc' := 300) (q := 0) (pw_dk dc_X12_works 114 rfl) rfl rfl ?_
                    refine PW_lload_n (pc' := 301) (q := 1) (pw_dk dc_X12_works 115 rfl) rfl rfl rfl ?_
                    refine PW_lcmp (pc' := 302) (pw_dk dc_X12_works 116 rfl) rfl ?_
                    refine PW_if_gt (pc' := 305) (tgt := 309) (pw_dk dc_X12_works 117 rfl) rfl (by decide) (fun c_29 => ?_) (fun c_29 => ?_)
                    · rw [if_pos c_29] at h
                      refine PW_iconst (pc' := 310) (v := 0) (pw_dk dc_X12_works 120 rfl) rfl (by decide) ?_
                      refine PW_sub (lv' := [(0, .ref 5000)]) [2] rfl ?_
                      exact b_X12_works_310 0 σ_8 h
                    · rw [if_neg c_29] at h
                      refine PW_iconst (pc' := 306) (v := 1) (pw_dk dc_X12_works 118 rfl) rfl (by decide) ?_
                      refine PW_goto (tgt := 310) (pw_dk dc_X12_works 119 rfl) (by decide) ?_
                      refine PW_sub (lv' := [(0, .ref 5000)]) [2] rfl ?_
                      exact b_X12_works_310 1 σ_8 h
                  · rw [if_neg c_28] at h
                    by_cases c_30 : x1 = 257
                    · rw [if_pos c_30] at h
                      refine PW_look (tgt := 338) (off := 268) (pw_dk dc_X12_works 43 rfl) (by decide) (by rw [c_30] <;> rfl) (by decide) ?_
                      refine PW_lload (pc' := 340) (q := 0) (pw_dk dc_X12_works 134 rfl) rfl rfl ?_
                      refine PW_lload_n (pc' := 341) (q := 1) (pw_dk dc_X12_works 135 rfl) rfl rfl rfl ?_
                      refine PW_lcmp (pc' := 342) (pw_dk dc_X12_works 136 rfl) rfl ?_
                      refine PW_if_eq (pc' := 345) (tgt := 349) (pw_dk dc_X12_works 137 rfl) rfl (by decide) (fun c_31 => ?_) (fun c_31 => ?_)
                      · rw [if_pos c_31] at h
                        refine PW_iconst (pc' := 350) (v := 0) (pw_dk dc_X12_works 140 rfl) rfl (by decide) ?_
                        refine PW_sub (lv' := [(0, .ref 5000)]) [2] rfl ?_
                        exact b_X12_works_350 0 σ_8 h
                      · rw [if_neg c_31] at h
                        refine PW_iconst (pc' := 346) (v := 1) (pw_dk dc_X12_works 138 rfl) rfl (by decide) ?_
                        refine PW_goto (tgt := 350) (pw_dk dc_X12_works 139 rfl) (by decide) ?_
                        refine PW_sub (lv' := [(0, .ref 5000)]) [2] rfl ?_
                        exact b_X12_works_350 1 σ_8 h
                    · rw [if_neg c_30] at h
                      by_cases c_32 : x1 = 258
                      · rw [if_pos c_32] at h
                        refine PW_look (tgt := 318) (off := 248) (pw_dk dc_X12_works 43 rfl) (by decide) (by rw [c_32] <;> rfl) (by decide) ?_
                        refine PW_lload (pc' := 320) (q := 0) (pw_dk dc_X12_works 124 rfl) rfl rfl ?_
                        refine PW_lload_n (pc' := 321) (q := 1) (pw_dk dc_X12_works 125 rfl) rfl rfl rfl ?_
                        refine PW_lcmp (pc' := 322) (pw_dk dc_X12_works 126 rfl) rfl ?_
                        refine PW_if_lt (pc' := 325) (tgt := 329) (pw_dk dc_X12_works 127 rfl) rfl (by decide) (fun c_33 => ?_) (fun c_33 => ?_)
                        · rw [if_pos c_33] at h
                          refine PW_iconst (pc' := 330) (v := 0) (pw_dk dc_X12_works 130 rfl) rfl (by decide) ?_
                          refine PW_sub (lv' := [(0, .ref 5000)]) [2] rfl ?_
                          exact b_X12_works_330 0 σ_8 h
                        · rw [if_neg c_33] at h
                          refine PW_iconst (pc' := 326) (v := 1) (pw_dk dc_X12_works 128 rfl) rfl (by decide) ?_
                          refine PW_goto (tgt := 330) (pw_dk dc_X12_works 129 rfl) (by decide) ?_
                          refine PW_sub (lv' := [(0, .ref 5000)]) [2] rfl ?_
                          exact b_X12_works_330 1 σ_8 h
                      · rw [if_neg c_32] at h
                        by_cases c_34 : x1 = 261
                        · rw [if_pos c_34] at h
                          refine PW_look (tgt := 358) (off := 288) (pw_dk dc_X12_works 43 rfl) (by decide) (by rw [c_34] <;> rfl) (by decide) ?_
                          refine PW_lload (pc' := 360) (q := 0) (pw_dk dc_X12_works 144 rfl) rfl rfl ?_
                          refine PW_lconst (pc' := 361) (v := 0) (pw_dk dc_X12_works 145 rfl) rfl (by decide) ?_
                          refine PW_lcmp (pc' := 362) (pw_dk dc_X12_works 146 rfl) rfl ?_
                          refine PW_if_eq (pc' := 365) (tgt := 375) (pw_dk dc_X12_works 147 rfl) rfl (by decide) (fun c_35 => ?_) (fun c_35 => ?_)
                          · rw [if_pos c_35] at h
                            refine PW_sub (lv' := [(0, .ref 5000)]) [2] rfl ?_
                            exact b_X12_works_375 σ_8 h
                          · rw [if_neg c_35] at h
                            refine PW_lload_n (pc' := 366) (q := 1) (pw_dk dc_X12_works 148 rfl) rfl rfl rfl ?_
                            refine PW_lconst (pc' := 367) (v := 0) (pw_dk dc_X12_works 149 rfl) rfl (by decide) ?_
                            refine PW_lcmp (pc' := 368) (pw_dk dc_X12_works 150 rfl) rfl ?_
                            refine PW_if_eq (pc' := 371) (tgt := 375) (pw_dk dc_X12_works 151 rfl) rfl (by decide) (fun c_36 => ?_) (fun c_36 => ?_)
                            · rw [if_pos c_36] at h
                              refine PW_sub (lv' := [(0, .ref 5000)]) [2] rfl ?_
                              exact b_X12_works_375 σ_8 h
                            · rw [if_neg c_36] at h
                              refine PW_iconst (pc' := 372) (v := 1) (pw_dk dc_X12_works 152 rfl) rfl (by decide) ?_
                              refine PW_goto (tgt := 376) (pw_dk dc_X12_works 153 rfl) (by decide) ?_
                              refine PW_sub (lv' := [(0, .ref 5000)]) [2] rfl ?_
                              exact b_X12_works_376 1 σ_8 h
                        · rw [if_neg c_34] at h
                          have kc_10 := pw_ne c_10 (show (42 : Int32).toInt = 42 by decide)
                          have kc_15 := pw_ne c_15 (show (43 : Int32).toInt = 43 by decide)
                          have kc_17 := pw_ne c_17 (show (45 : Int32).toInt = 45 by decide)
                          have kc_19 := pw_ne c_19 (show (47 : Int32).toInt = 47 by decide)
                          have kc_22 := pw_ne c_22 (show (60 : Int32).toInt = 60 by decide)
                          have kc_24 := pw_ne c_24 (show (61 : Int32).toInt = 61 by decide)
                          have kc_26 := pw_ne c_26 (show (62 : Int32).toInt = 62 by decide)
                          have kc_28 := pw_ne c_28 (show (256 : Int32).toInt = 256 by decide)
                          have kc_30 := pw_ne c_30 (show (257 : Int32).toInt = 257 by decide)
                          have kc_32 := pw_ne c_32 (show (258 : Int32).toInt = 258 by decide)
                          have kc_34 := pw_ne c_34 (show (261 : Int32).toInt = 261 by decide)
                          refine PW_look (tgt := 384) (off := 314) (pw_dk dc_X12_works 43 rfl) (by decide) (by simp [Op.lookupswitch.offset, kc_10, kc_15, kc_17, kc_19, kc_22, kc_24, kc_26, kc_28, kc_30, kc_32, kc_34, Ne.symm kc_10, Ne.symm kc_15, Ne.symm kc_17, Ne.symm kc_19, Ne.symm kc_22, Ne.symm kc_24, Ne.symm kc_26, Ne.symm kc_28, Ne.symm kc_30, Ne.symm kc_32, Ne.symm kc_34]) (by decide) ?_
                          refine PW_lload (pc' := 386) (q := 0) (pw_dk dc_X12_works 158 rfl) rfl rfl ?_
                          refine PW_lconst (pc' := 387) (v := 0) (pw_dk dc_X12_works 159 rfl) rfl (by decide) ?_
                          refine PW_lcmp (pc' := 388) (pw_dk dc_X12_works 160 rfl) rfl ?_
                          refine PW_if_ne (pc' := 391) (tgt := 397) (pw_dk dc_X12_works 161 rfl) rfl (by decide) (fun c_37 => ?_) (fun c_37 => ?_)
                          · rw [if_neg c_37] at h
                            refine PW_sub (lv' := [(0, .ref 5000)]) [2] rfl ?_
                            exact b_X12_works_397 σ_8 h
                          · rw [if_pos c_37] at h
                            refine PW_lload_n (pc' := 392) (q := 1) (pw_dk dc_X12_works 162 rfl) rfl rfl rfl ?_
                            refine PW_lconst (pc' := 393) (v := 0) (pw_dk dc_X12_works 163 rfl) rfl (by decide) ?_
                            refine PW_lcmp (pc' := 394) (pw_dk dc_X12_works 164 rfl) rfl ?_
                            refine PW_if_eq (pc' := 397) (tgt := 401) (pw_dk dc_X12_works 165 rfl) rfl (by decide) (fun c_38 => ?_) (fun c_38 => ?_)
                            · rw [if_pos c_38] at h
                              refine PW_iconst (pc' := 402) (v := 0) (pw_dk dc_X12_works 168 rfl) rfl (by decide) ?_
                              refine PW_sub (lv' := [(0, .ref 5000)]) [2] rfl ?_
                              exact b_X12_works_402 0 σ_8 h
                            · rw [if_neg c_38] at h
                              refine PW_sub (lv' := [(0, .ref 5000)]) [2] rfl ?_
                              exact b_X12_works_397 σ_8 h
  · rw [if_pos c_4] at h
    refine PW_aload_n (pc' := 20) (q := 1) (pw_dk dc_X12_works 11 rfl) rfl rfl rfl ?_
    refine PW_getR (pc' := 23) (id := 5000) (ci := 12) (nn := 0) (C0 := RX12) (T := TX12) (N := 62) (j := 35) (r := 5036) (pw_dk dc_X12_works 12 rfl) rfl me_5000 rfl pi_12 (by decide) fk_12_35 tw_1432 (rfl) (by decide) ?_
    refine PW_aload_n (pc' := 24) (q := 1) (pw_dk dc_X12_works 13 rfl) rfl rfl rfl ?_
    refine PZ_getI (pc' := 27) (id := 5000) (ci := 12) (nn := 0) (C0 := RX12) (T := TX12) (N := 62) (j := 36) (pw_dk dc_X12_works 14 rfl) rfl me_5000 rfl pi_12 (by decide) fk_12_36 tw_1433 ?_
    refine PW_iconst (pc' := 28) (v := 1) (pw_dk dc_X12_works 15 rfl) rfl (by decide) ?_
    refine PW_isub (pc' := 29) (pw_dk dc_X12_works 16 rfl) rfl ?_
    refine PW_lload_n (pc' := 30) (q := 0) (pw_dk dc_X12_works 17 rfl) rfl rfl rfl ?_
    refine PW_lconst (pc' := 31) (v := 0) (pw_dk dc_X12_works 18 rfl) rfl (by decide) ?_
    refine PW_lcmp (pc' := 32) (pw_dk dc_X12_works 19 rfl) rfl ?_
    refine PW_if_ne (pc' := 35) (tgt := 39) (pw_dk dc_X12_works 20 rfl) rfl (by decide) (fun c_39 => ?_) (fun c_39 => ?_)
    · rw [if_neg c_39] at h
      refine PW_iconst (pc' := 40) (v := 0) (pw_dk dc_X12_works 23 rfl) rfl (by decide) ?_
      refine PW_sub (lv' := []) [] rfl ?_
      exact b_X12_works_40 ((σ.1 5000 36) - (1 : Int32)) 0 σ h
    · rw [if_pos c_39] at h
      refine PW_iconst (pc' := 36) (v := 1) (pw_dk dc_X12_works 21 rfl) rfl (by decide) ?_
      refine PW_goto (tgt := 40) (pw_dk dc_X12_works 22 rfl) (by decide) ?_
      refine PW_sub (lv' := []) [] rfl ?_
      exact b_X12_works_40 ((σ.1 5000 36) - (1 : Int32)) 1 σ h
def f_X12_goes_96 (r12 : Int32 → Int32 → zS → Option (Int32 × zS)) (x1 : Int32) (x2 : Int32) (σ : zS) : Option (Int32 × zS) := 
  r12 x1 (x2 + 1) σ
theorem b_X12_goes_96 {Q : Option Value → zS → Prop} (r12 : Int32 → Int32 → zS → Option (Int32 × zS)) (hr12 : ∀ (x1 : Int32) (x2 : Int32) (σ : zS), wpO (r12 x1 x2 σ) (fun a => Q (some (.int a.1)) a.2) → PZ alM mX12_goes (2) Q 12 [(0, .ref 5000), (1, .int x1), (2, .int x2)] [] σ) (x1 : Int32) (x2 : Int32) (σ : zS) (h : wpO (f_X12_goes_96 r12 x1 x2 σ) (fun a => Q (some (.int a.1)) a.2)) : PZ alM mX12_goes (2) Q 96 [(0, .ref 5000), (1, .int x1), (2, .int x2)] [] σ := by
  unfold f_X12_goes_96 at h
  refine PW_iinc (pc' := 99) (q := 2) (v := x2 + 1) (lv' := [(2, .int (x2 + 1)), (0, .ref 5000), (1, .int x1)]) (pw_dk dc_X12_goes 58 rfl) rfl rfl rfl (by decide) rfl ?_
  refine PW_goto (tgt := 12) (pw_dk dc_X12_goes 59 rfl) (by decide) ?_
  refine PW_sub (lv' := [(0, .ref 5000), (1, .int x1), (2, .int (x2 + 1))]) [1, 2, 0] rfl ?_
  exact hr12 x1 (x2 + 1) σ h
def f_X12_goes_85 (r12 : Int32 → Int32 → zS → Option (Int32 × zS)) (x1 : Int32) (x2 : Int32) (s1 : Int32) (s2 : Int64) (σ : zS) : Option (Int32 × zS) := 
  (wrL σ 5036 64 s1 s2).bind fun σ_1 =>
  lt (wI σ_1 5000 36 ((σ_1.1 5000 36) + (1 : Int32))) fun σ_4 =>
  f_X12_goes_96 r12 x1 x2 σ_4
theorem b_X12_goes_85 {Q : Option Value → zS → Prop} (r12 : Int32 → Int32 → zS → Option (Int32 × zS)) (hr12 : ∀ (x1 : Int32) (x2 : Int32) (σ : zS), wpO (r12 x1 x2 σ) (fun a => Q (some (.int a.1)) a.2) → PZ alM mX12_goes (2) Q 12 [(0, .ref 5000), (1, .int x1), (2, .int x2)] [] σ) (x1 : Int32) (x2 : Int32) (s1 : Int32) (s2 : Int64) (σ : zS) (h : wpO (f_X12_goes_85 r12 x1 x2 s1 s2 σ) (fun a => Q (some (.int a.1)) a.2)) : PZ alM mX12_goes (2) Q 85 [(0, .ref 5000), (1, .int x1), (2, .int x2)] [.long s2, .int s1, .ref 5036] σ := by
  unfold f_X12_goes_85 at h
  obtain ⟨σ_1, hi_2, e_3, h⟩ := wp_wrLx h
  refine PZ_lastx (pc' := 86) (σ' := σ_1) (id := 5036) (nn := 64) (pw_dk dc_X12_goes 51 rfl) rfl me_5036 hi_2 e_3 ?_
  refine PW_aload_n (pc' := 87) (q := 0) (pw_dk dc_X12_goes 52 rfl) rfl rfl rfl ?_
  refine PW_dup (pc' := 88) (pw_dk dc_X12_goes 53 rfl) rfl rfl ?_
  refine PZ_getI (pc' := 91) (id := 5000) (ci := 12) (nn := 0) (C0 := RX12) (T := TX12) (N := 62) (j := 36) (pw_dk dc_X12_goes 54 rfl) rfl me_5000 rfl pi_12 (by decide) fk_12_36 tw_1433 ?_
  refine PW_iconst (pc' := 92) (v := 1) (pw_dk dc_X12_goes 55 rfl) rfl (by decide) ?_
  refine PW_iadd (pc' := 93) (pw_dk dc_X12_goes 56 rfl) rfl ?_
  obtain ⟨σ_4, e_5, h⟩ := lt_x h
  refine PZ_putX (pc' := 96) (σ' := σ_4) (id := 5000) (ci := 12) (nn := 0) (C0 := RX12) (T := TX12) (N := 62) (j := 36) (ty := tyX12 36) (pw_dk dc_X12_goes 57 rfl) rfl me_5000 rfl pi_12 tyX12_ok nmX12 (by decide) fk_12_36 tw_1433 rfl (tyX12_ok 36 (by decide)) (by first | rfl | decide) (by first | rfl | decide) e_5 ?_
  exact b_X12_goes_96 r12 hr12 x1 x2 σ_4 h
def f_X12_goes_12  : Nat → Int32 → Int32 → zS → Option (Int32 × zS)
  | 0, _, _, _ => none
  | n + 1, x1, x2, σ => 
    (rdI σ 5019 6 x1).bind fun v_1 =>
    if v_1 ≤ x2 then
      some (1, σ)
    else
      (rdI σ 5020 128 x2).bind fun v_5 =>
      if v_5 = 2 then
        (rdI σ 5021 128 x2).bind fun v_22 =>
        b2 (f_X12_works v_22 σ) fun v_27 σ_26 =>
        if v_27 = 0 then
          some (0, σ_26)
        else
          f_X12_goes_96 (f_X12_goes_12 n) x1 x2 σ_26
      else
        (rdI σ 5020 128 x2).bind fun v_9 =>
        if v_9 = 0 then
          (rdI σ 5021 128 x2).bind fun v_19 =>
          f_X12_goes_85 (f_X12_goes_12 n) x1 x2 (σ.1 5000 36) v_19.toInt64 σ
        else
          (rdI σ 5021 128 x2).bind fun v_13 =>
          (rdL σ 5035 7 v_13).bind fun v_16 =>
          f_X12_goes_85 (f_X12_goes_12 n) x1 x2 (σ.1 5000 36) v_16 σ
theorem b_X12_goes_12 {Q : Option Value → zS → Prop} : ∀ (n : Nat) (x1 : Int32) (x2 : Int32) (σ : zS) (h : wpO (f_X12_goes_12 n x1 x2 σ) (fun a => Q (some (.int a.1)) a.2)), PZ alM mX12_goes (2) Q 12 [(0, .ref 5000), (1, .int x1), (2, .int x2)] [] σ := by
  intro n
  induction n with
  | zero => intro x1 x2 σ h; exact wp_none h
  | succ n ih =>
    intro x1 x2 σ h
    rw [f_X12_goes_12] at h
    refine PW_iload_n (pc' := 13) (q := 2) (pw_dk dc_X12_goes 8 rfl) rfl rfl rfl ?_
    refine PW_aload_n (pc' := 14) (q := 0) (pw_dk dc_X12_goes 9 rfl) rfl rfl rfl ?_
    refine PW_getR (pc' := 17) (id := 5000) (ci := 12) (nn := 0) (C0 := RX12) (T := TX12) (N := 62) (j := 18) (r := 5019) (pw_dk dc_X12_goes 10 rfl) rfl me_5000 rfl pi_12 (by decide) fk_12_18 tw_1415 (rfl) (by decide) ?_
    refine PW_iload_n (pc' := 18) (q := 1) (pw_dk dc_X12_goes 11 rfl) rfl rfl rfl ?_
    obtain ⟨v_1, hi_2, e_3, h⟩ := wp_rdIx h
    refine PZ_ialdx (pc' := 19) (v := v_1) (id := 5019) (nn := 6) (pw_dk dc_X12_goes 12 rfl) rfl me_5019 hi_2 e_3 ?_
    refine PW_icmp_ge (pc' := 22) (tgt := 102) (pw_dk dc_X12_goes 13 rfl) rfl (by decide) (fun c_4 => ?_) (fun c_4 => ?_)
    · rw [if_pos c_4] at h
      refine PW_iconst (pc' := 103) (v := 1) (pw_dk dc_X12_goes 60 rfl) rfl (by decide) ?_
      have z := wp_some h
      exact PZ_iret (ty := .boolean) (pw_dk dc_X12_goes 61 rfl) rfl (by decide) z
    · rw [if_neg c_4] at h
      refine PW_aload_n (pc' := 23) (q := 0) (pw_dk dc_X12_goes 14 rfl) rfl rfl rfl ?_
      refine PW_getR (pc' := 26) (id := 5000) (ci := 12) (nn := 0) (C0 := RX12) (T := TX12) (N := 62) (j := 19) (r := 5020) (pw_dk dc_X12_goes 15 rfl) rfl me_5000 rfl pi_12 (by decide) fk_12_19 tw_1416 (rfl) (by decide) ?_
      refine PW_iload_n (pc' := 27) (q := 2) (pw_dk dc_X12_goes 16 rfl) rfl rfl rfl ?_
      obtain ⟨v_5, hi_6, e_7, h⟩ := wp_rdIx h
      refine PZ_ialdx (pc' := 28) (v := v_5) (id := 5020) (nn := 128) (pw_dk dc_X12_goes 17 rfl) rfl me_5020 hi_6 e_7 ?_
      refine PW_iconst (pc' := 29) (v := 2) (pw_dk dc_X12_goes 18 rfl) rfl (by decide) ?_
      refine PW_icmp_ne (pc' := 32) (tgt := 47) (pw_dk dc_X12_goes 19 rfl) rfl (by decide) (fun c_8 => ?_) (fun c_8 => ?_)
      · rw [if_neg c_8] at h
        refine PW_aload_n (pc' := 48) (q := 0) (pw_dk dc_X12_goes 29 rfl) rfl rfl rfl ?_
        refine PW_getR (pc' := 51) (id := 5000) (ci := 12) (nn := 0) (C0 := RX12) (T := TX12) (N := 62) (j := 35) (r := 5036) (pw_dk dc_X12_goes 30 rfl) rfl me_5000 rfl pi_12 (by decide) fk_12_35 tw_1432 (rfl) (by decide) ?_
        refine PW_aload_n (pc' := 52) (q := 0) (pw_dk dc_X12_goes 31 rfl) rfl rfl rfl ?_
        refine PZ_getI (pc' := 55) (id := 5000) (ci := 12) (nn := 0) (C0 := RX12) (T := TX12) (N := 62) (j := 36) (pw_dk dc_X12_goes 32 rfl) rfl me_5000 rfl pi_12 (by decide) fk_12_36 tw_1433 ?_
        refine PW_aload_n (pc' := 56) (q := 0) (pw_dk dc_X12_goes 33 rfl) rfl rfl rfl ?_
        refine PW_getR (pc' := 59) (id := 5000) (ci := 12) (nn := 0) (C0 := RX12) (T := TX12) (N := 62) (j := 19) (r := 5020) (pw_dk dc_X12_goes 34 rfl) rfl me_5000 rfl pi_12 (by decide) fk_12_19 tw_1416 (rfl) (by decide) ?_
        refine PW_iload_n (pc' := 60) (q := 2) (pw_dk dc_X12_goes 35 rfl) rfl rfl rfl ?_
        obtain ⟨v_9, hi_10, e_11, h⟩ := wp_rdIx h
        refine PZ_ialdx (pc' := 61) (v := v_9) (id := 5020) (nn := 128) (pw_dk dc_X12_goes 36 rfl) rfl me_5020 hi_10 e_11 ?_
        refine PW_if_ne (pc' := 64) (tgt := 74) (pw_dk dc_X12_goes 37 rfl) rfl (by decide) (fun c_12 => ?_) (fun c_12 => ?_)
        · rw [if_neg c_12] at h
          refine PW_aload_n (pc' := 75) (q := 0) (pw_dk dc_X12_goes 44 rfl) rfl rfl rfl ?_
          refine PW_getR (pc' := 78) (id := 5000) (ci := 12) (nn := 0) (C0 := RX12) (T := TX12) (N := 62) (j := 34) (r := 5035) (pw_dk dc_X12_goes 45 rfl) rfl me_5000 rfl pi_12 (by decide) fk_12_34 tw_1431 (rfl) (by decide) ?_
          refine PW_aload_n (pc' := 79) (q := 0) (pw_dk dc_X12_goes 46 rfl) rfl rfl rfl ?_
          refine PW_getR (pc' := 82) (id := 5000) (ci := 12) (nn := 0) (C0 := RX12) (T := TX12) (N := 62) (j := 20) (r := 5021) (pw_dk dc_X12_goes 47 rfl) rfl me_5000 rfl pi_12 (by decide) fk_12_20 tw_1417 (rfl) (by decide) ?_
          refine PW_iload_n (pc' := 83) (q := 2) (pw_dk dc_X12_goes 48 rfl) rfl rfl rfl ?_
          obtain ⟨v_13, hi_14, e_15, h⟩ := wp_rdIx h
          refine PZ_ialdx (pc' := 84) (v := v_13) (id := 5021) (nn := 128) (pw_dk dc_X12_goes 49 rfl) rfl me_5021 hi_14 e_15 ?_
          obtain ⟨v_16, hi_17, e_18, h⟩ := wp_rdLx h
          refine PZ_laldx (pc' := 85) (v := v_16) (id := 5035) (nn := 7) (pw_dk dc_X12_goes 50 rfl) rfl me_5035 hi_17 e_18 ?_
          exact b_X12_goes_85 (f_X12_goes_12 n) ih x1 x2 (σ.1 5000 36) v_16 σ h
        · rw [if_pos c_12] at h
          refine PW_aload_n (pc' := 65) (q := 0) (pw_dk dc_X12_goes 38 rfl) rfl rfl rfl ?_
          refine PW_getR (pc' := 68) (id := 5000) (ci := 12) (nn := 0) (C0 := RX12) (T := TX12) (N := 62) (j := 20) (r := 5021) (pw_dk dc_X12_goes 39 rfl) rfl me_5000 rfl pi_12 (by decide) fk_12_20 tw_1417 (rfl) (by decide) ?_
          refine PW_iload_n (pc' := 69) (q := 2) (pw_dk dc_X12_goes 40 rfl) rfl rfl rfl ?_
          obtain ⟨v_19, hi_20, e_21, h⟩ := wp_rdIx h
          refine PZ_ialdx (pc' := 70) (v := v_19) (id := 5021) (nn := 128) (pw_dk dc_X12_goes 41 rfl) rfl me_5021 hi_20 e_21 ?_
          refine PW_i2l (pc' := 71) (pw_dk dc_X12_goes 42 rfl) rfl ?_
          refine PW_goto (tgt := 85) (pw_dk dc_X12_goes 43 rfl) (by decide) ?_
          exact b_X12_goes_85 (f_X12_goes_12 n) ih x1 x2 (σ.1 5000 36) v_19.toInt64 σ h
      · rw [if_pos c_8] at h
        refine PW_aload_n (pc' := 33) (q := 0) (pw_dk dc_X12_goes 20 rfl) rfl rfl rfl ?_
        refine PW_aload_n (pc' := 34) (q := 0) (pw_dk dc_X12_goes 21 rfl) rfl rfl rfl ?_
        refine PW_getR (pc' := 37) (id := 5000) (ci := 12) (nn := 0) (C0 := RX12) (T := TX12) (N := 62) (j := 20) (r := 5021) (pw_dk dc_X12_goes 22 rfl) rfl me_5000 rfl pi_12 (by decide) fk_12_20 tw_1417 (rfl) (by decide) ?_
        refine PW_iload_n (pc' := 38) (q := 2) (pw_dk dc_X12_goes 23 rfl) rfl rfl rfl ?_
        obtain ⟨v_22, hi_23, e_24, h⟩ := wp_rdIx h
        refine PZ_ialdx (pc' := 39) (v := v_22) (id := 5021) (nn := 128) (pw_dk dc_X12_goes 24 rfl) rfl me_5021 hi_23 e_24 ?_
        refine PZ_callVi (pc' := 42) (y := yX12_works) (M' := mX12_works) (d' := 1) (As := [.int v_22]) (st := []) (b := 5000) (ci := 12) (nn := 0) me_5000 rfl tw_1794 tw_84 (pw_dk dc_X12_goes 25 rfl) rfl Y_X12_works tw_1792 rfl (by decide) (Nat.le_of_ble_eq_true rfl) (t_X12_works v_22 σ _ ?_)
        obtain ⟨⟨v_27, σ_26⟩, e_28, h⟩ := wp_bind2 h
        refine ⟨(v_27, σ_26), e_28, _, rfl, fun hn_25 => ?_⟩
        show PZ alM mX12_goes (2) Q 42 [(0, .ref 5000), (1, .int x1), (2, .int x2)] [.int v_27] σ_26
        refine PW_if_ne (pc' := 45) (tgt := 96) (pw_dk dc_X12_goes 26 rfl) rfl (by decide) (fun c_29 => ?_) (fun c_29 => ?_)
        · rw [if_neg c_29] at h
          exact b_X12_goes_96 (f_X12_goes_12 n) ih x1 x2 σ_26 h
        · rw [if_pos c_29] at h
          refine PW_iconst (pc' := 46) (v := 0) (pw_dk dc_X12_goes 27 rfl) rfl (by decide) ?_
          have z := wp_some h
          exact PZ_iret (ty := .boolean) (pw_dk dc_X12_goes 28 rfl) rfl (by decide) z
def f_X12_goes (x1 : Int32) (σ : zS) : Option (Int32 × zS) := 
  lt (wI σ 5000 36 0) fun σ_1 =>
  (rdI σ_1 5018 6 x1).bind fun v_3 =>
  f_X12_goes_12 FU x1 v_3 σ_1
theorem t_X12_goes (x1 : Int32) (σ : zS) (Q : Option Value → zS → Prop) (h : wpO (f_X12_goes x1 σ) (fun a => Q (some (.int a.1)) a.2)) : PK alM yX12_goes mX12_goes (2) [.ref 5000, .int x1] σ Q := by
  refine PC_ofF (by decide +kernel) rfl rfl (Nat.le_of_ble_eq_true rfl) ?_
  show PZ alM mX12_goes (2) Q 0 [(0, .ref 5000), (1, .int x1)] [] σ
  unfold f_X12_goes at h
  refine PW_aload_n (pc' := 1) (q := 0) (pw_dk dc_X12_goes 0 rfl) rfl rfl rfl ?_
  refine PW_iconst (pc' := 2) (v := 0) (pw_dk dc_X12_goes 1 rfl) rfl (by decide) ?_
  obtain ⟨σ_1, e_2, h⟩ := lt_x h
  refine PZ_putX (pc' := 5) (σ' := σ_1) (id := 5000) (ci := 12) (nn := 0) (C0 := RX12) (T := TX12) (N := 62) (j := 36) (ty := tyX12 36) (pw_dk dc_X12_goes 2 rfl) rfl me_5000 rfl pi_12 tyX12_ok nmX12 (by decide) fk_12_36 tw_1433 rfl (tyX12_ok 36 (by decide)) (by first | rfl | decide) (by first | rfl | decide) e_2 ?_
  refine PW_aload_n (pc' := 6) (q := 0) (pw_dk dc_X12_goes 3 rfl) rfl rfl rfl ?_
  refine PW_getR (pc' := 9) (id := 5000) (ci := 12) (nn := 0) (C0 := RX12) (T := TX12) (N := 62) (j := 17) (r := 5018) (pw_dk dc_X12_goes 4 rfl) rfl me_5000 rfl pi_12 (by decide) fk_12_17 tw_1414 (rfl) (by decide) ?_
  refine PW_iload_n (pc' := 10) (q := 1) (pw_dk dc_X12_goes 5 rfl) rfl rfl rfl ?_
  obtain ⟨v_3, hi_4, e_5, h⟩ := wp_rdIx h
  refine PZ_ialdx (pc' := 11) (v := v_3) (id := 5018) (nn := 6) (pw_dk dc_X12_goes 6 rfl) rfl me_5018 hi_4 e_5 ?_
  refine PW_istore_n (pc' := 12) (lv' := [(2, .int v_3), (0, .ref 5000), (1, .int x1)]) (pw_dk dc_X12_goes 7 rfl) rfl rfl (by decide) rfl ?_
  refine PW_sub (lv' := [(0, .ref 5000), (1, .int x1), (2, .int v_3)]) [1, 2, 0] rfl ?_
  exact b_X12_goes_12 FU x1 v_3 σ_1 h
def f_X12_hasLaw (x1 : Int32) (σ : zS) : Option Int32 := 
  (rdI σ 5019 6 x1).bind fun v_1 =>
  (rdI σ 5018 6 x1).bind fun v_4 =>
  if v_1 ≤ v_4 then
    some 0
  else
    some 1
theorem t_X12_hasLaw (x1 : Int32) (σ : zS) (Q : Option Value → zS → Prop) (h : wpO (f_X12_hasLaw x1 σ) (fun a => Q (some (.int a)) σ)) : PK alM yX12_hasLaw mX12_hasLaw (0) [.ref 5000, .int x1] σ Q := by
  refine PC_ofF (by decide +kernel) rfl rfl (Nat.le_of_ble_eq_true rfl) ?_
  show PZ alM mX12_hasLaw (0) Q 0 [(0, .ref 5000), (1, .int x1)] [] σ
  unfold f_X12_hasLaw at h
  refine PW_aload_n (pc' := 1) (q := 0) (pw_dk dc_X12_hasLaw 0 rfl) rfl rfl rfl ?_
  refine PW_getR (pc' := 4) (id := 5000) (ci := 12) (nn := 0) (C0 := RX12) (T := TX12) (N := 62) (j := 18) (r := 5019) (pw_dk dc_X12_hasLaw 1 rfl) rfl me_5000 rfl pi_12 (by decide) fk_12_18 tw_1415 (rfl) (by decide) ?_
  refine PW_iload_n (pc' := 5) (q := 1) (pw_dk dc_X12_hasLaw 2 rfl) rfl rfl rfl ?_
  obtain ⟨v_1, hi_2, e_3, h⟩ := wp_rdIx h
  refine PZ_ialdx (pc' := 6) (v := v_1) (id := 5019) (nn := 6) (pw_dk dc_X12_hasLaw 3 rfl) rfl me_5019 hi_2 e_3 ?_
  refine PW_aload_n (pc' := 7) (q := 0) (pw_dk dc_X12_hasLaw 4 rfl) rfl rfl rfl ?_
  refine PW_getR (pc' := 10) (id := 5000) (ci := 12) (nn := 0) (C0 := RX12) (T := TX12) (N := 62) (j := 17) (r := 5018) (pw_dk dc_X12_hasLaw 5 rfl) rfl me_5000 rfl pi_12 (by decide) fk_12_17 tw_1414 (rfl) (by decide) ?_
  refine PW_iload_n (pc' := 11) (q := 1) (pw_dk dc_X12_hasLaw 6 rfl) rfl rfl rfl ?_
  obtain ⟨v_4, hi_5, e_6, h⟩ := wp_rdIx h
  refine PZ_ialdx (pc' := 12) (v := v_4) (id := 5018) (nn := 6) (pw_dk dc_X12_hasLaw 7 rfl) rfl me_5018 hi_5 e_6 ?_
  refine PW_icmp_le (pc' := 15) (tgt := 19) (pw_dk dc_X12_hasLaw 8 rfl) rfl (by decide) (fun c_7 => ?_) (fun c_7 => ?_)
  · rw [if_pos c_7] at h
    refine PW_iconst (pc' := 20) (v := 0) (pw_dk dc_X12_hasLaw 11 rfl) rfl (by decide) ?_
    have z := wp_some h
    exact PZ_iret (ty := .boolean) (pw_dk dc_X12_hasLaw 12 rfl) rfl (by decide) z
  · rw [if_neg c_7] at h
    refine PW_iconst (pc' := 16) (v := 1) (pw_dk dc_X12_hasLaw 9 rfl) rfl (by decide) ?_
    refine PW_goto (tgt := 20) (pw_dk dc_X12_hasLaw 10 rfl) (by decide) ?_
    have z := wp_some h
    exact PZ_iret (ty := .boolean) (pw_dk dc_X12_hasLaw 12 rfl) rfl (by decide) z
def f_X12_cellOf (x0 : Int32) (σ : zS) : Int32 := 
  x0 / (16 : Int32)
theorem t_X12_cellOf (x0 : Int32) (σ : zS) (Q : Option Value → zS → Prop) (h : Q (some (.int (f_X12_cellOf x0 σ))) σ) : PK alM yX12_cellOf mX12_cellOf (0) [.int x0] σ Q := by
  refine PC_ofF (by decide +kernel) rfl rfl (Nat.le_of_ble_eq_true rfl) ?_
  show PZ alM mX12_cellOf (0) Q 0 [(0, .int x0)] [] σ
  unfold f_X12_cellOf at h
  refine PW_iload_n (pc' := 1) (q := 0) (pw_dk dc_X12_cellOf 0 rfl) rfl rfl rfl ?_
  refine PW_bipush (pc' := 3) (v := 16) (pw_dk dc_X12_cellOf 1 rfl) rfl (by decide) ?_
  refine PW_idiv (pc' := 4) (pw_dk dc_X12_cellOf 2 rfl) rfl (by decide) ?_
  exact PZ_iret (ty := .int) (pw_dk dc_X12_cellOf 3 rfl) rfl rfl h
