/-! walks (printed by wip/gen) -/
def f_X12_undo  (σ : zS) : Option (Int32 × zS) := 
  lt (wI σ 5000 0 0) fun σ_1 =>
  if (σ_1.1 5000 46) = 0 then
    some ((-1 : Int32), σ_1)
  else
    lt (wI σ_1 5000 46 ((σ_1.1 5000 46) - (1 : Int32))) fun σ_4 =>
    (f_X12_copies 0 ((3 : Int32) + (σ_4.1 5000 46)) σ_4).bind fun σ_7 =>
    some (σ_7.1 5000 46, σ_7)
theorem t_X12_undo (σ : zS) (Q : Option Value → zS → Prop) (h : wpO (f_X12_undo σ) (fun a => Q (some (.int a.1)) a.2)) : PK alM yX12_undo mX12_undo (1) [.ref 5000] σ Q := by
  refine PC_ofF (by decide +kernel) rfl rfl (Nat.le_of_ble_eq_true rfl) ?_
  show PZ alM mX12_undo (1) Q 0 [(0, .ref 5000)] [] σ
  unfold f_X12_undo at h
  refine PW_aload_n (pc' := 1) (q := 0) (pw_dk dc_X12_undo 0 rfl) rfl rfl rfl ?_
  refine PW_iconst (pc' := 2) (v := 0) (pw_dk dc_X12_undo 1 rfl) rfl (by decide) ?_
  obtain ⟨σ_1, e_2, h⟩ := lt_x h
  refine PZ_putX (pc' := 5) (σ' := σ_1) (id := 5000) (ci := 12) (nn := 0) (C0 := RX12) (T := TX12) (N := 62) (j := 0) (ty := tyX12 0) (pw_dk dc_X12_undo 2 rfl) rfl me_5000 rfl pi_12 tyX12_ok nmX12 (by decide) fk_12_0 tw_1397 rfl (tyX12_ok 0 (by decide)) (by first | rfl | decide) (by first | rfl | decide) e_2 ?_
  refine PW_aload_n (pc' := 6) (q := 0) (pw_dk dc_X12_undo 3 rfl) rfl rfl rfl ?_
  refine PZ_getI (pc' := 9) (id := 5000) (ci := 12) (nn := 0) (C0 := RX12) (T := TX12) (N := 62) (j := 46) (pw_dk dc_X12_undo 4 rfl) rfl me_5000 rfl pi_12 (by decide) fk_12_46 tw_1443 ?_
  refine PW_if_ne (pc' := 12) (tgt := 14) (pw_dk dc_X12_undo 5 rfl) rfl (by decide) (fun c_3 => ?_) (fun c_3 => ?_)
  · rw [if_neg c_3] at h
    refine PW_aload_n (pc' := 15) (q := 0) (pw_dk dc_X12_undo 8 rfl) rfl rfl rfl ?_
    refine PW_dup (pc' := 16) (pw_dk dc_X12_undo 9 rfl) rfl rfl ?_
    refine PZ_getI (pc' := 19) (id := 5000) (ci := 12) (nn := 0) (C0 := RX12) (T := TX12) (N := 62) (j := 46) (pw_dk dc_X12_undo 10 rfl) rfl me_5000 rfl pi_12 (by decide) fk_12_46 tw_1443 ?_
    refine PW_iconst (pc' := 20) (v := 1) (pw_dk dc_X12_undo 11 rfl) rfl (by decide) ?_
    refine PW_isub (pc' := 21) (pw_dk dc_X12_undo 12 rfl) rfl ?_
    obtain ⟨σ_4, e_5, h⟩ := lt_x h
    refine PZ_putX (pc' := 24) (σ' := σ_4) (id := 5000) (ci := 12) (nn := 0) (C0 := RX12) (T := TX12) (N := 62) (j := 46) (ty := tyX12 46) (pw_dk dc_X12_undo 13 rfl) rfl me_5000 rfl pi_12 tyX12_ok nmX12 (by decide) fk_12_46 tw_1443 rfl (tyX12_ok 46 (by decide)) (by first | rfl | decide) (by first | rfl | decide) e_5 ?_
    refine PW_aload_n (pc' := 25) (q := 0) (pw_dk dc_X12_undo 14 rfl) rfl rfl rfl ?_
    refine PW_iconst (pc' := 26) (v := 0) (pw_dk dc_X12_undo 15 rfl) rfl (by decide) ?_
    refine PW_iconst (pc' := 27) (v := 3) (pw_dk dc_X12_undo 16 rfl) rfl (by decide) ?_
    refine PW_aload_n (pc' := 28) (q := 0) (pw_dk dc_X12_undo 17 rfl) rfl rfl rfl ?_
    refine PZ_getI (pc' := 31) (id := 5000) (ci := 12) (nn := 0) (C0 := RX12) (T := TX12) (N := 62) (j := 46) (pw_dk dc_X12_undo 18 rfl) rfl me_5000 rfl pi_12 (by decide) fk_12_46 tw_1443 ?_
    refine PW_iadd (pc' := 32) (pw_dk dc_X12_undo 19 rfl) rfl ?_
    refine PZ_callVv (pc' := 35) (y := yX12_copies) (M' := mX12_copies) (d' := 0) (As := [.int 0, .int ((3 : Int32) + (σ_4.1 5000 46))]) (st := []) (b := 5000) (ci := 12) (nn := 0) me_5000 rfl tw_1850 tw_90 (pw_dk dc_X12_undo 20 rfl) rfl Y_X12_copies tw_1848 rfl (by decide) (Nat.le_of_ble_eq_true rfl) (t_X12_copies 0 ((3 : Int32) + (σ_4.1 5000 46)) σ_4 _ ?_)
    obtain ⟨σ_7, e_8, h⟩ := wp_bind h
    refine ⟨σ_7, e_8, rfl, fun hn_6 => ?_⟩
    show PZ alM mX12_undo (1) Q 35 [(0, .ref 5000)] [] σ_7
    refine PW_aload_n (pc' := 36) (q := 0) (pw_dk dc_X12_undo 21 rfl) rfl rfl rfl ?_
    refine PZ_getI (pc' := 39) (id := 5000) (ci := 12) (nn := 0) (C0 := RX12) (T := TX12) (N := 62) (j := 46) (pw_dk dc_X12_undo 22 rfl) rfl me_5000 rfl pi_12 (by decide) fk_12_46 tw_1443 ?_
    have z := wp_some h
    exact PZ_iret (ty := .int) (pw_dk dc_X12_undo 23 rfl) rfl rfl z
  · rw [if_pos c_3] at h
    refine PW_iconst (pc' := 13) (v := (-1 : Int32)) (pw_dk dc_X12_undo 6 rfl) rfl (by decide) ?_
    have z := wp_some h
    exact PZ_iret (ty := .int) (pw_dk dc_X12_undo 7 rfl) rfl rfl z
def f_X12_keep  (σ : zS) : Option (Int32 × zS) := 
  lt (wI σ 5000 0 0) fun σ_1 =>
  (f_X12_copies 2 0 σ_1).bind fun σ_4 =>
  lt (wI σ_4 5000 45 1) fun σ_6 =>
  (rdI σ_6 5039 23 0).bind fun v_8 =>
  some (v_8, σ_6)
theorem t_X12_keep (σ : zS) (Q : Option Value → zS → Prop) (h : wpO (f_X12_keep σ) (fun a => Q (some (.int a.1)) a.2)) : PK alM yX12_keep mX12_keep (1) [.ref 5000] σ Q := by
  refine PC_ofF (by decide +kernel) rfl rfl (Nat.le_of_ble_eq_true rfl) ?_
  show PZ alM mX12_keep (1) Q 0 [(0, .ref 5000)] [] σ
  unfold f_X12_keep at h
  refine PW_aload_n (pc' := 1) (q := 0) (pw_dk dc_X12_keep 0 rfl) rfl rfl rfl ?_
  refine PW_iconst (pc' := 2) (v := 0) (pw_dk dc_X12_keep 1 rfl) rfl (by decide) ?_
  obtain ⟨σ_1, e_2, h⟩ := lt_x h
  refine PZ_putX (pc' := 5) (σ' := σ_1) (id := 5000) (ci := 12) (nn := 0) (C0 := RX12) (T := TX12) (N := 62) (j := 0) (ty := tyX12 0) (pw_dk dc_X12_keep 2 rfl) rfl me_5000 rfl pi_12 tyX12_ok nmX12 (by decide) fk_12_0 tw_1397 rfl (tyX12_ok 0 (by decide)) (by first | rfl | decide) (by first | rfl | decide) e_2 ?_
  refine PW_aload_n (pc' := 6) (q := 0) (pw_dk dc_X12_keep 3 rfl) rfl rfl rfl ?_
  refine PW_iconst (pc' := 7) (v := 2) (pw_dk dc_X12_keep 4 rfl) rfl (by decide) ?_
  refine PW_iconst (pc' := 8) (v := 0) (pw_dk dc_X12_keep 5 rfl) rfl (by decide) ?_
  refine PZ_callVv (pc' := 11) (y := yX12_copies) (M' := mX12_copies) (d' := 0) (As := [.int 2, .int 0]) (st := []) (b := 5000) (ci := 12) (nn := 0) me_5000 rfl tw_1850 tw_90 (pw_dk dc_X12_keep 6 rfl) rfl Y_X12_copies tw_1848 rfl (by decide) (Nat.le_of_ble_eq_true rfl) (t_X12_copies 2 0 σ_1 _ ?_)
  obtain ⟨σ_4, e_5, h⟩ := wp_bind h
  refine ⟨σ_4, e_5, rfl, fun hn_3 => ?_⟩
  show PZ alM mX12_keep (1) Q 11 [(0, .ref 5000)] [] σ_4
  refine PW_aload_n (pc' := 12) (q := 0) (pw_dk dc_X12_keep 7 rfl) rfl rfl rfl ?_
  refine PW_iconst (pc' := 13) (v := 1) (pw_dk dc_X12_keep 8 rfl) rfl (by decide) ?_
  obtain ⟨σ_6, e_7, h⟩ := lt_x h
  refine PZ_putX (pc' := 16) (σ' := σ_6) (id := 5000) (ci := 12) (nn := 0) (C0 := RX12) (T := TX12) (N := 62) (j := 45) (ty := tyX12 45) (pw_dk dc_X12_keep 9 rfl) rfl me_5000 rfl pi_12 tyX12_ok nmX12 (by decide) fk_12_45 tw_1442 rfl (tyX12_ok 45 (by decide)) (by first | rfl | decide) (by first | rfl | decide) e_7 ?_
  refine PW_aload_n (pc' := 17) (q := 0) (pw_dk dc_X12_keep 10 rfl) rfl rfl rfl ?_
  refine PW_getR (pc' := 20) (id := 5000) (ci := 12) (nn := 0) (C0 := RX12) (T := TX12) (N := 62) (j := 38) (r := 5039) (pw_dk dc_X12_keep 11 rfl) rfl me_5000 rfl pi_12 (by decide) fk_12_38 tw_1435 (rfl) (by decide) ?_
  refine PW_iconst (pc' := 21) (v := 0) (pw_dk dc_X12_keep 12 rfl) rfl (by decide) ?_
  obtain ⟨v_8, hi_9, e_10, h⟩ := wp_rdIx h
  refine PZ_ialdx (pc' := 22) (v := v_8) (id := 5039) (nn := 23) (pw_dk dc_X12_keep 13 rfl) rfl me_5039 hi_9 e_10 ?_
  have z := wp_some h
  exact PZ_iret (ty := .int) (pw_dk dc_X12_keep 14 rfl) rfl rfl z
def f_X12_back  (σ : zS) : Option (Int32 × zS) := 
  lt (wI σ 5000 0 0) fun σ_1 =>
  if (σ_1.1 5000 45) = 0 then
    some ((-1 : Int32), σ_1)
  else
    (f_X12_copies 0 2 σ_1).bind fun σ_5 =>
    lt (wI σ_5 5000 46 0) fun σ_7 =>
    (rdI σ_7 5039 23 0).bind fun v_9 =>
    some (v_9, σ_7)
theorem t_X12_back (σ : zS) (Q : Option Value → zS → Prop) (h : wpO (f_X12_back σ) (fun a => Q (some (.int a.1)) a.2)) : PK alM yX12_back mX12_back (1) [.ref 5000] σ Q := by
  refine PC_ofF (by decide +kernel) rfl rfl (Nat.le_of_ble_eq_true rfl) ?_
  show PZ alM mX12_back (1) Q 0 [(0, .ref 5000)] [] σ
  unfold f_X12_back at h
  refine PW_aload_n (pc' := 1) (q := 0) (pw_dk dc_X12_back 0 rfl) rfl rfl rfl ?_
  refine PW_iconst (pc' := 2) (v := 0) (pw_dk dc_X12_back 1 rfl) rfl (by decide) ?_
  obtain ⟨σ_1, e_2, h⟩ := lt_x h
  refine PZ_putX (pc' := 5) (σ' := σ_1) (id := 5000) (ci := 12) (nn := 0) (C0 := RX12) (T := TX12) (N := 62) (j := 0) (ty := tyX12 0) (pw_dk dc_X12_back 2 rfl) rfl me_5000 rfl pi_12 tyX12_ok nmX12 (by decide) fk_12_0 tw_1397 rfl (tyX12_ok 0 (by decide)) (by first | rfl | decide) (by first | rfl | decide) e_2 ?_
  refine PW_aload_n (pc' := 6) (q := 0) (pw_dk dc_X12_back 3 rfl) rfl rfl rfl ?_
  refine PZ_getI (pc' := 9) (id := 5000) (ci := 12) (nn := 0) (C0 := RX12) (T := TX12) (N := 62) (j := 45) (pw_dk dc_X12_back 4 rfl) rfl me_5000 rfl pi_12 (by decide) fk_12_45 tw_1442 ?_
  refine PW_if_ne (pc' := 12) (tgt := 14) (pw_dk dc_X12_back 5 rfl) rfl (by decide) (fun c_3 => ?_) (fun c_3 => ?_)
  · rw [if_neg c_3] at h
    refine PW_aload_n (pc' := 15) (q := 0) (pw_dk dc_X12_back 8 rfl) rfl rfl rfl ?_
    refine PW_iconst (pc' := 16) (v := 0) (pw_dk dc_X12_back 9 rfl) rfl (by decide) ?_
    refine PW_iconst (pc' := 17) (v := 2) (pw_dk dc_X12_back 10 rfl) rfl (by decide) ?_
    refine PZ_callVv (pc' := 20) (y := yX12_copies) (M' := mX12_copies) (d' := 0) (As := [.int 0, .int 2]) (st := []) (b := 5000) (ci := 12) (nn := 0) me_5000 rfl tw_1850 tw_90 (pw_dk dc_X12_back 11 rfl) rfl Y_X12_copies tw_1848 rfl (by decide) (Nat.le_of_ble_eq_true rfl) (t_X12_copies 0 2 σ_1 _ ?_)
    obtain ⟨σ_5, e_6, h⟩ := wp_bind h
    refine ⟨σ_5, e_6, rfl, fun hn_4 => ?_⟩
    show PZ alM mX12_back (1) Q 20 [(0, .ref 5000)] [] σ_5
    refine PW_aload_n (pc' := 21) (q := 0) (pw_dk dc_X12_back 12 rfl) rfl rfl rfl ?_
    refine PW_iconst (pc' := 22) (v := 0) (pw_dk dc_X12_back 13 rfl) rfl (by decide) ?_
    obtain ⟨σ_7, e_8, h⟩ := lt_x h
    refine PZ_putX (pc' := 25) (σ' := σ_7) (id := 5000) (ci := 12) (nn := 0) (C0 := RX12) (T := TX12) (N := 62) (j := 46) (ty := tyX12 46) (pw_dk dc_X12_back 14 rfl) rfl me_5000 rfl pi_12 tyX12_ok nmX12 (by decide) fk_12_46 tw_1443 rfl (tyX12_ok 46 (by decide)) (by first | rfl | decide) (by first | rfl | decide) e_8 ?_
    refine PW_aload_n (pc' := 26) (q := 0) (pw_dk dc_X12_back 15 rfl) rfl rfl rfl ?_
    refine PW_getR (pc' := 29) (id := 5000) (ci := 12) (nn := 0) (C0 := RX12) (T := TX12) (N := 62) (j := 38) (r := 5039) (pw_dk dc_X12_back 16 rfl) rfl me_5000 rfl pi_12 (by decide) fk_12_38 tw_1435 (rfl) (by decide) ?_
    refine PW_iconst (pc' := 30) (v := 0) (pw_dk dc_X12_back 17 rfl) rfl (by decide) ?_
    obtain ⟨v_9, hi_10, e_11, h⟩ := wp_rdIx h
    refine PZ_ialdx (pc' := 31) (v := v_9) (id := 5039) (nn := 23) (pw_dk dc_X12_back 18 rfl) rfl me_5039 hi_10 e_11 ?_
    have z := wp_some h
    exact PZ_iret (ty := .int) (pw_dk dc_X12_back 19 rfl) rfl rfl z
  · rw [if_pos c_3] at h
    refine PW_iconst (pc' := 13) (v := (-1 : Int32)) (pw_dk dc_X12_back 6 rfl) rfl (by decide) ?_
    have z := wp_some h
    exact PZ_iret (ty := .int) (pw_dk dc_X12_back 7 rfl) rfl rfl z
def f_X12_howMany_30 (r4 : Int32 → Int32 → Int32 → zS → Option Int32) (x1 : Int32) (x3 : Int32) (s0 : Int32) (s1 : Int32) (σ : zS) : Option Int32 := 
  lt (α := Int32) (s0 + s1) fun x2_1 =>
  r4 x1 x2_1 (x3 + 1) σ
theorem b_X12_howMany_30 {Q : Option Value → zS → Prop} (r4 : Int32 → Int32 → Int32 → zS → Option Int32) (hr4 : ∀ (x1 : Int32) (x2 : Int32) (x3 : Int32) (σ : zS), wpO (r4 x1 x2 x3 σ) (fun a => Q (some (.int a)) σ) → PZ alM mX12_howMany (0) Q 4 [(0, .ref 5000), (1, .int x1), (2, .int x2), (3, .int x3)] [] σ) (x1 : Int32) (x3 : Int32) (s0 : Int32) (s1 : Int32) (σ : zS) (h : wpO (f_X12_howMany_30 r4 x1 x3 s0 s1 σ) (fun a => Q (some (.int a)) σ)) : PZ alM mX12_howMany (0) Q 30 [(0, .ref 5000), (1, .int x1), (3, .int x3)] [.int s1, .int s0] σ := by
  unfold f_X12_howMany_30 at h
  refine PW_iadd (pc' := 31) (pw_dk dc_X12_howMany 20 rfl) rfl ?_
  refine PW_topi (fun x2_1 ex2_1 => ?_)
  replace h := lt_w h ex2_1
  refine PW_istore_n (pc' := 32) (lv' := [(2, .int x2_1), (0, .ref 5000), (1, .int x1), (3, .int x3)]) (pw_dk dc_X12_howMany 21 rfl) rfl rfl (by decide) rfl ?_
  refine PW_iinc (pc' := 35) (q := 3) (v := x3 + 1) (lv' := [(3, .int (x3 + 1)), (2, .int x2_1), (0, .ref 5000), (1, .int x1)]) (pw_dk dc_X12_howMany 22 rfl) rfl rfl rfl (by decide) rfl ?_
  refine PW_goto (tgt := 4) (pw_dk dc_X12_howMany 23 rfl) (by decide) ?_
  refine PW_sub (lv' := [(0, .ref 5000), (1, .int x1), (2, .int x2_1), (3, .int (x3 + 1))]) [2, 3, 1, 0] rfl ?_
  exact hr4 x1 x2_1 (x3 + 1) σ h
def f_X12_howMany_4  : Nat → Int32 → Int32 → Int32 → zS → Option Int32
  | 0, _, _, _, _ => none
  | n + 1, x1, x2, x3, σ => 
    (rdI σ 5004 16 3).bind fun v_1 =>
    if v_1 ≤ x3 then
      some x2
    else
      (rdI σ 5045 276 x3).bind fun v_5 =>
      if v_5 = x1 then
        f_X12_howMany_30 (f_X12_howMany_4 n) x1 x3 x2 1 σ
      else
        f_X12_howMany_30 (f_X12_howMany_4 n) x1 x3 x2 0 σ
theorem b_X12_howMany_4 {Q : Option Value → zS → Prop} : ∀ (n : Nat) (x1 : Int32) (x2 : Int32) (x3 : Int32) (σ : zS) (h : wpO (f_X12_howMany_4 n x1 x2 x3 σ) (fun a => Q (some (.int a)) σ)), PZ alM mX12_howMany (0) Q 4 [(0, .ref 5000), (1, .int x1), (2, .int x2), (3, .int x3)] [] σ := by
  intro n
  induction n with
  | zero => intro x1 x2 x3 σ h; exact wp_none h
  | succ n ih =>
    intro x1 x2 x3 σ h
    rw [f_X12_howMany_4] at h
    refine PW_iload_n (pc' := 5) (q := 3) (pw_dk dc_X12_howMany 4 rfl) rfl rfl rfl ?_
    refine PW_aload_n (pc' := 6) (q := 0) (pw_dk dc_X12_howMany 5 rfl) rfl rfl rfl ?_
    refine PW_getR (pc' := 9) (id := 5000) (ci := 12) (nn := 0) (C0 := RX12) (T := TX12) (N := 62) (j := 3) (r := 5004) (pw_dk dc_X12_howMany 6 rfl) rfl me_5000 rfl pi_12 (by decide) fk_12_3 tw_1400 (rfl) (by decide) ?_
    refine PW_iconst (pc' := 10) (v := 3) (pw_dk dc_X12_howMany 7 rfl) rfl (by decide) ?_
    obtain ⟨v_1, hi_2, e_3, h⟩ := wp_rdIx h
    refine PZ_ialdx (pc' := 11) (v := v_1) (id := 5004) (nn := 16) (pw_dk dc_X12_howMany 8 rfl) rfl me_5004 hi_2 e_3 ?_
    refine PW_icmp_ge (pc' := 14) (tgt := 38) (pw_dk dc_X12_howMany 9 rfl) rfl (by decide) (fun c_4 => ?_) (fun c_4 => ?_)
    · rw [if_pos c_4] at h
      refine PW_iload_n (pc' := 39) (q := 2) (pw_dk dc_X12_howMany 24 rfl) rfl rfl rfl ?_
      have z := wp_some h
      exact PZ_iret (ty := .int) (pw_dk dc_X12_howMany 25 rfl) rfl rfl z
    · rw [if_neg c_4] at h
      refine PW_iload_n (pc' := 15) (q := 2) (pw_dk dc_X12_howMany 10 rfl) rfl rfl rfl ?_
      refine PW_aload_n (pc' := 16) (q := 0) (pw_dk dc_X12_howMany 11 rfl) rfl rfl rfl ?_
      refine PW_getR (pc' := 19) (id := 5000) (ci := 12) (nn := 0) (C0 := RX12) (T := TX12) (N := 62) (j := 44) (r := 5045) (pw_dk dc_X12_howMany 12 rfl) rfl me_5000 rfl pi_12 (by decide) fk_12_44 tw_1441 (rfl) (by decide) ?_
      refine PW_iload_n (pc' := 20) (q := 3) (pw_dk dc_X12_howMany 13 rfl) rfl rfl rfl ?_
      obtain ⟨v_5, hi_6, e_7, h⟩ := wp_rdIx h
      refine PZ_ialdx (pc' := 21) (v := v_5) (id := 5045) (nn := 276) (pw_dk dc_X12_howMany 14 rfl) rfl me_5045 hi_6 e_7 ?_
      refine PW_iload_n (pc' := 22) (q := 1) (pw_dk dc_X12_howMany 15 rfl) rfl rfl rfl ?_
      refine PW_icmp_ne (pc' := 25) (tgt := 29) (pw_dk dc_X12_howMany 16 rfl) rfl (by decide) (fun c_8 => ?_) (fun c_8 => ?_)
      · rw [if_neg c_8] at h
        refine PW_iconst (pc' := 30) (v := 0) (pw_dk dc_X12_howMany 19 rfl) rfl (by decide) ?_
        refine PW_sub (lv' := [(0, .ref 5000), (1, .int x1), (3, .int x3)]) [0, 1, 3] rfl ?_
        exact b_X12_howMany_30 (f_X12_howMany_4 n) ih x1 x3 x2 0 σ h
      · rw [if_pos c_8] at h
        refine PW_iconst (pc' := 26) (v := 1) (pw_dk dc_X12_howMany 17 rfl) rfl (by decide) ?_
        refine PW_goto (tgt := 30) (pw_dk dc_X12_howMany 18 rfl) (by decide) ?_
        refine PW_sub (lv' := [(0, .ref 5000), (1, .int x1), (3, .int x3)]) [0, 1, 3] rfl ?_
        exact b_X12_howMany_30 (f_X12_howMany_4 n) ih x1 x3 x2 1 σ h
def f_X12_howMany (x1 : Int32) (σ : zS) : Option Int32 := 
  f_X12_howMany_4 FU x1 0 0 σ
theorem t_X12_howMany (x1 : Int32) (σ : zS) (Q : Option Value → zS → Prop) (h : wpO (f_X12_howMany x1 σ) (fun a => Q (some (.int a)) σ)) : PK alM yX12_howMany mX12_howMany (0) [.ref 5000, .int x1] σ Q := by
  refine PC_ofF (by decide +kernel) rfl rfl (Nat.le_of_ble_eq_true rfl) ?_
  show PZ alM mX12_howMany (0) Q 0 [(0, .ref 5000), (1, .int x1)] [] σ
  unfold f_X12_howMany at h
  refine PW_iconst (pc' := 1) (v := 0) (pw_dk dc_X12_howMany 0 rfl) rfl (by decide) ?_
  refine PW_istore_n (pc' := 2) (lv' := [(2, .int 0), (0, .ref 5000), (1, .int x1)]) (pw_dk dc_X12_howMany 1 rfl) rfl rfl (by decide) rfl ?_
  refine PW_iconst (pc' := 3) (v := 0) (pw_dk dc_X12_howMany 2 rfl) rfl (by decide) ?_
  refine PW_istore_n (pc' := 4) (lv' := [(3, .int 0), (2, .int 0), (0, .ref 5000), (1, .int x1)]) (pw_dk dc_X12_howMany 3 rfl) rfl rfl (by decide) rfl ?_
  refine PW_sub (lv' := [(0, .ref 5000), (1, .int x1), (2, .int 0), (3, .int 0)]) [2, 3, 1, 0] rfl ?_
  exact b_X12_howMany_4 FU x1 0 0 σ h
def f_X12_count_154  : Nat → Int32 → Int32 → zS → Option (Int32 × zS)
  | 0, _, _, _ => none
  | n + 1, x2, x3, σ => 
    (rdI σ 5004 16 2).bind fun v_1 =>
    if v_1 ≤ x3 then
      some (x2, σ)
    else
      (rdI σ 5043 115 x3).bind fun v_5 =>
      lt (α := Int32) (x2 + v_5) fun x2_8 =>
      f_X12_count_154 n x2_8 (x3 + 1) σ
theorem b_X12_count_154 {Q : Option Value → zS → Prop} : ∀ (n : Nat) (x2 : Int32) (x3 : Int32) (σ : zS) (h : wpO (f_X12_count_154 n x2 x3 σ) (fun a => Q (some (.int a.1)) a.2)), PZ alM mX12_count (1) Q 154 [(0, .ref 5000), (2, .int x2), (3, .int x3)] [] σ := by
  intro n
  induction n with
  | zero => intro x2 x3 σ h; exact wp_none h
  | succ n ih =>
    intro x2 x3 σ h
    rw [f_X12_count_154] at h
    refine PW_iload_n (pc' := 155) (q := 2) (pw_dk dc_X12_count 56 rfl) rfl rfl rfl ?_
    refine PW_aload_n (pc' := 156) (q := 0) (pw_dk dc_X12_count 57 rfl) rfl rfl rfl ?_
    refine PW_getR (pc' := 159) (id := 5000) (ci := 12) (nn := 0) (C0 := RX12) (T := TX12) (N := 62) (j := 3) (r := 5004) (pw_dk dc_X12_count 58 rfl) rfl me_5000 rfl pi_12 (by decide) fk_12_3 tw_1400 (rfl) (by decide) ?_
    refine PW_iconst (pc' := 160) (v := 2) (pw_dk dc_X12_count 59 rfl) rfl (by decide) ?_
    obtain ⟨v_1, hi_2, e_3, h⟩ := wp_rdIx h
    refine PZ_ialdx (pc' := 161) (v := v_1) (id := 5004) (nn := 16) (pw_dk dc_X12_count 60 rfl) rfl me_5004 hi_2 e_3 ?_
    refine PW_icmp_ge (pc' := 164) (tgt := 179) (pw_dk dc_X12_count 61 rfl) rfl (by decide) (fun c_4 => ?_) (fun c_4 => ?_)
    · rw [if_pos c_4] at h
      refine PW_iload_n (pc' := 180) (q := 1) (pw_dk dc_X12_count 71 rfl) rfl rfl rfl ?_
      have z := wp_some h
      exact PZ_iret (ty := .int) (pw_dk dc_X12_count 72 rfl) rfl rfl z
    · rw [if_neg c_4] at h
      refine PW_iload_n (pc' := 165) (q := 1) (pw_dk dc_X12_count 62 rfl) rfl rfl rfl ?_
      refine PW_aload_n (pc' := 166) (q := 0) (pw_dk dc_X12_count 63 rfl) rfl rfl rfl ?_
      refine PW_getR (pc' := 169) (id := 5000) (ci := 12) (nn := 0) (C0 := RX12) (T := TX12) (N := 62) (j := 42) (r := 5043) (pw_dk dc_X12_count 64 rfl) rfl me_5000 rfl pi_12 (by decide) fk_12_42 tw_1439 (rfl) (by decide) ?_
      refine PW_iload_n (pc' := 170) (q := 2) (pw_dk dc_X12_count 65 rfl) rfl rfl rfl ?_
      obtain ⟨v_5, hi_6, e_7, h⟩ := wp_rdIx h
      refine PZ_ialdx (pc' := 171) (v := v_5) (id := 5043) (nn := 115) (pw_dk dc_X12_count 66 rfl) rfl me_5043 hi_6 e_7 ?_
      refine PW_iadd (pc' := 172) (pw_dk dc_X12_count 67 rfl) rfl ?_
      refine PW_topi (fun x2_8 ex2_8 => ?_)
      replace h := lt_w h ex2_8
      refine PW_istore_n (pc' := 173) (lv' := [(2, .int x2_8), (0, .ref 5000), (3, .int x3)]) (pw_dk dc_X12_count 68 rfl) rfl rfl (by decide) rfl ?_
      refine PW_iinc (pc' := 176) (q := 2) (v := x3 + 1) (lv' := [(3, .int (x3 + 1)), (2, .int x2_8), (0, .ref 5000)]) (pw_dk dc_X12_count 69 rfl) rfl rfl rfl (by decide) rfl ?_
      refine PW_goto (tgt := 154) (pw_dk dc_X12_count 70 rfl) (by decide) ?_
      refine PW_sub (lv' := [(0, .ref 5000), (2, .int x2_8), (3, .int (x3 + 1))]) [2, 1, 0] rfl ?_
      exact ih x2_8 (x3 + 1) σ h
def f_X12_count (x1 : Int32) (σ : zS) : Option (Int32 × zS) := 
  lt (wI σ 5000 0 0) fun σ_1 =>
  if x1 = 0 then
    (rdI σ_1 5004 16 0).bind fun v_4 =>
    some (v_4, σ_1)
  else if x1 = 1 then
    (rdI σ_1 5004 16 1).bind fun v_8 =>
    some (v_8, σ_1)
  else if x1 = 2 then
    (rdI σ_1 5004 16 2).bind fun v_12 =>
    some (v_12, σ_1)
  else if x1 = 3 then
    (rdI σ_1 5004 16 3).bind fun v_16 =>
    some (v_16, σ_1)
  else if x1 = 4 then
    (rdI σ_1 5004 16 4).bind fun v_20 =>
    some (v_20, σ_1)
  else if x1 = 5 then
    (rdI σ_1 5004 16 7).bind fun v_24 =>
    some (v_24, σ_1)
  else if x1 = 6 then
    (rdI σ_1 5039 23 0).bind fun v_28 =>
    some (v_28, σ_1)
  else if x1 = 7 then
    (f_X12_howMany 1 σ_1).bind fun v_33 =>
    some (v_33, σ_1)
  else if x1 = 8 then
    (f_X12_howMany 2 σ_1).bind fun v_37 =>
    some (v_37, σ_1)
  else if x1 = 9 then
    (f_X12_howMany 3 σ_1).bind fun v_41 =>
    some (v_41, σ_1)
  else if x1 = 10 then
    f_X12_count_154 FU 0 0 σ_1
  else if x1 = 11 then
    some (σ_1.1 5000 53, σ_1)
  else if x1 = 12 then
    some (f_X12_knownMany σ_1, σ_1)
  else if x1 = 13 then
    some (σ_1.1 5000 46, σ_1)
  else if x1 = 14 then
    (rdI σ_1 5041 23 0).bind fun v_49 =>
    some (v_49, σ_1)
  else
    some ((-1 : Int32), σ_1)
theorem t_X12_count (x1 : Int32) (σ : zS) (Q : Option Value → zS → Prop) (h : wpO (f_X12_count x1 σ) (fun a => Q (some (.int a.1)) a.2)) : PK alM yX12_count mX12_count (1) [.ref 5000, .int x1] σ Q := by
  refine PC_ofF (by decide +kernel) rfl rfl (Nat.le_of_ble_eq_true rfl) ?_
  show PZ alM mX12_count (1) Q 0 [(0, .ref 5000), (1, .int x1)] [] σ
  unfold f_X12_count at h
  refine PW_aload_n (pc' := 1) (q := 0) (pw_dk dc_X12_count 0 rfl) rfl rfl rfl ?_
  refine PW_iconst (pc' := 2) (v := 0) (pw_dk dc_X12_count 1 rfl) rfl (by decide) ?_
  obtain ⟨σ_1, e_2, h⟩ := lt_x h
  refine PZ_putX (pc' := 5) (σ' := σ_1) (id := 5000) (ci := 12) (nn := 0) (C0 := RX12) (T := TX12) (N := 62) (j := 0) (ty := tyX12 0) (pw_dk dc_X12_count 2 rfl) rfl me_5000 rfl pi_12 tyX12_ok nmX12 (by decide) fk_12_0 tw_1397 rfl (tyX12_ok 0 (by decide)) (by first | rfl | decide) (by first | rfl | decide) e_2 ?_
  refine PW_iconst (pc' := 6) (v := 0) (pw_dk dc_X12_count 3 rfl) rfl (by decide) ?_
  refine PW_istore_n (pc' := 7) (lv' := [(2, .int 0), (0, .ref 5000), (1, .int x1)]) (pw_dk dc_X12_count 4 rfl) rfl rfl (by decide) rfl ?_
  refine PW_iload_n (pc' := 8) (q := 2) (pw_dk dc_X12_count 5 rfl) rfl rfl rfl ?_
  by_cases c_3 : x1 = 0
  · rw [if_pos c_3] at h
    refine PW_tin (tgt := 84) (pw_dk dc_X12_count 6 rfl) (by rw [c_3]; decide) (by rw [c_3]; decide) (by rw [c_3] <;> rfl) (by decide) ?_
    refine PW_aload_n (pc' := 85) (q := 1) (pw_dk dc_X12_count 7 rfl) rfl rfl rfl ?_
    refine PW_getR (pc' := 88) (id := 5000) (ci := 12) (nn := 0) (C0 := RX12) (T := TX12) (N := 62) (j := 3) (r := 5004) (pw_dk dc_X12_count 8 rfl) rfl me_5000 rfl pi_12 (by decide) fk_12_3 tw_1400 (rfl) (by decide) ?_
    refine PW_iconst (pc' := 89) (v := 0) (pw_dk dc_X12_count 9 rfl) rfl (by decide) ?_
    obtain ⟨v_4, hi_5, e_6, h⟩ := wp_rdIx h
    refine PZ_ialdx (pc' := 90) (v := v_4) (id := 5004) (nn := 16) (pw_dk dc_X12_count 10 rfl) rfl me_5004 hi_5 e_6 ?_
    have z := wp_some h
    exact PZ_iret (ty := .int) (pw_dk dc_X12_count 11 rfl) rfl rfl z
  · rw [if_neg c_3] at h
    by_cases c_7 : x1 = 1
    · rw [if_pos c_7] at h
      refine PW_tin (tgt := 91) (pw_dk dc_X12_count 6 rfl) (by rw [c_7]; decide) (by rw [c_7]; decide) (by rw [c_7] <;> rfl) (by decide) ?_
      refine PW_aload_n (pc' := 92) (q := 1) (pw_dk dc_X12_count 12 rfl) rfl rfl rfl ?_
      refine PW_getR (pc' := 95) (id := 5000) (ci := 12) (nn := 0) (C0 := RX12) (T := TX12) (N := 62) (j := 3) (r := 5004) (pw_dk dc_X12_count 13 rfl) rfl me_5000 rfl pi_12 (by decide) fk_12_3 tw_1400 (rfl) (by decide) ?_
      refine PW_iconst (pc' := 96) (v := 1) (pw_dk dc_X12_count 14 rfl) rfl (by decide) ?_
      obtain ⟨v_8, hi_9, e_10, h⟩ := wp_rdIx h
      refine PZ_ialdx (pc' := 97) (v := v_8) (id := 5004) (nn := 16) (pw_dk dc_X12_count 15 rfl) rfl me_5004 hi_9 e_10 ?_
      have z := wp_some h
      exact PZ_iret (ty := .int) (pw_dk dc_X12_count 16 rfl) rfl rfl z
    · rw [if_neg c_7] at h
      by_cases c_11 : x1 = 2
      · rw [if_pos c_11] at h
        refine PW_tin (tgt := 98) (pw_dk dc_X12_count 6 rfl) (by rw [c_11]; decide) (by rw [c_11]; decide) (by rw [c_11] <;> rfl) (by decide) ?_
        refine PW_aload_n (pc' := 99) (q := 1) (pw_dk dc_X12_count 17 rfl) rfl rfl rfl ?_
        refine PW_getR (pc' := 102) (id := 5000) (ci := 12) (nn := 0) (C0 := RX12) (T := TX12) (N := 62) (j := 3) (r := 5004) (pw_dk dc_X12_count 18 rfl) rfl me_5000 rfl pi_12 (by decide) fk_12_3 tw_1400 (rfl) (by decide) ?_
        refine PW_iconst (pc' := 103) (v := 2) (pw_dk dc_X12_count 19 rfl) rfl (by decide) ?_
        obtain ⟨v_12, hi_13, e_14, h⟩ := wp_rdIx h
        refine PZ_ialdx (pc' := 104) (v := v_12) (id := 5004) (nn := 16) (pw_dk dc_X12_count 20 rfl) rfl me_5004 hi_13 e_14 ?_
        have z := wp_some h
        exact PZ_iret (ty := .int) (pw_dk dc_X12_count 21 rfl) rfl rfl z
      · rw [if_neg c_11] at h
        by_cases c_15 : x1 = 3
        · rw [if_pos c_15] at h
          refine PW_tin (tgt := 105) (pw_dk dc_X12_count 6 rfl) (by rw [c_15]; decide) (by rw [c_15]; decide) (by rw [c_15] <;> rfl) (by decide) ?_
          refine PW_aload_n (pc' := 106) (q := 1) (pw_dk dc_X12_count 22 rfl) rfl rfl rfl ?_
          refine PW_getR (pc' := 109) (id := 5000) (ci := 12) (nn := 0) (C0 := RX12) (T := TX12) (N := 62) (j := 3) (r := 5004) (pw_dk dc_X12_count 23 rfl) rfl me_5000 rfl pi_12 (by decide) fk_12_3 tw_1400 (rfl) (by decide) ?_
          refine PW_iconst (pc' := 110) (v := 3) (pw_dk dc_X12_count 24 rfl) rfl (by decide) ?_
          obtain ⟨v_16, hi_17, e_18, h⟩ := wp_rdIx h
          refine PZ_ialdx (pc' := 111) (v := v_16) (id := 5004) (nn := 16) (pw_dk dc_X12_count 25 rfl) rfl me_5004 hi_17 e_18 ?_
          have z := wp_some h
          exact PZ_iret (ty := .int) (pw_dk dc_X12_count 26 rfl) rfl rfl z
        · rw [if_neg c_15] at h
          by_cases c_19 : x1 = 4
          · rw [if_pos c_19] at h
            refine PW_tin (tgt := 112) (pw_dk dc_X12_count 6 rfl) (by rw [c_19]; decide) (by rw [c_19]; decide) (by rw [c_19] <;> rfl) (by decide) ?_
            refine PW_aload_n (pc' := 113) (q := 1) (pw_dk dc_X12_count 27 rfl) rfl rfl rfl ?_
            refine PW_getR (pc' := 116) (id := 5000) (ci := 12) (nn := 0) (C0 := RX12) (T := TX12) (N := 62) (j := 3) (r := 5004) (pw_dk dc_X12_count 28 rfl) rfl me_5000 rfl pi_12 (by decide) fk_12_3 tw_1400 (rfl) (by decide) ?_
            refine PW_iconst (pc' := 117) (v := 4) (pw_dk dc_X12_count 29 rfl) rfl (by decide) ?_
            obtain ⟨v_20, hi_21, e_22, h⟩ := wp_rdIx h
            refine PZ_ialdx (pc' := 118) (v := v_20) (id := 5004) (nn := 16) (pw_dk dc_X12_count 30 rfl) rfl me_5004 hi_21 e_22 ?_
            have z := wp_some h
            exact PZ_iret (ty := .int) (pw_dk dc_X12_count 31 rfl) rfl rfl z
          · rw [if_neg c_19] at h
            by_cases c_23 : x1 = 5
            · rw [if_pos c_23] at h
              refine PW_tin (tgt := 119) (pw_dk dc_X12_count 6 rfl) (by rw [c_23]; decide) (by rw [c_23]; decide) (by rw [c_23] <;> rfl) (by decide) ?_
              refine PW_aload_n (pc' := 120) (q := 1) (pw_dk dc_X12_count 32 rfl) rfl rfl rfl ?_
              refine PW_getR (pc' := 123) (id := 5000) (ci := 12) (nn := 0) (C0 := RX12) (T := TX12) (N := 62) (j := 3) (r := 5004) (pw_dk dc_X12_count 33 rfl) rfl me_5000 rfl pi_12 (by decide) fk_12_3 tw_1400 (rfl) (by decide) ?_
              refine PW_bipush (pc' := 125) (v := 7) (pw_dk dc_X12_count 34 rfl) rfl (by decide) ?_
              obtain ⟨v_24, hi_25, e_26, h⟩ := wp_rdIx h
              refine PZ_ialdx (pc' := 126) (v := v_24) (id := 5004) (nn := 16) (pw_dk dc_X12_count 35 rfl) rfl me_5004 hi_25 e_26 ?_
              have z := wp_some h
              exact PZ_iret (ty := .int) (pw_dk dc_X12_count 36 rfl) rfl rfl z
            · rw [if_neg c_23] at h
              by_cases c_27 : x1 = 6
              · rw [if_pos c_27] at h
                refine PW_tin (tgt := 127) (pw_dk dc_X12_count 6 rfl) (by rw [c_27]; decide) (by rw [c_27]; decide) (by rw [c_27] <;> rfl) (by decide) ?_
                refine PW_aload_n (pc' := 128) (q := 1) (pw_dk dc_X12_count 37 rfl) rfl rfl rfl ?_
                refine PW_getR (pc' := 131) (id := 5000) (ci := 12) (nn := 0) (C0 := RX12) (T := TX12) (N := 62) (j := 38) (r := 5039) (pw_dk dc_X12_count 38 rfl) rfl me_5000 rfl pi_12 (by decide) fk_12_38 tw_1435 (rfl) (by decide) ?_
                refine PW_iconst (pc' := 132) (v := 0) (pw_dk dc_X12_count 39 rfl) rfl (by decide) ?_
                obtain ⟨v_28, hi_29, e_30, h⟩ := wp_rdIx h
                refine PZ_ialdx (pc' := 133) (v := v_28) (id := 5039) (nn := 23) (pw_dk dc_X12_count 40 rfl) rfl me_5039 hi_29 e_30 ?_
                have z := wp_some h
                exact PZ_iret (ty := .int) (pw_dk dc_X12_count 41 rfl) rfl rfl z
              · rw [if_neg c_27] at h
                by_cases c_31 : x1 = 7
                · rw [if_pos c_31] at h
                  refine PW_tin (tgt := 134) (pw_dk dc_X12_count 6 rfl) (by rw [c_31]; decide) (by rw [c_31]; decide) (by rw [c_31] <;> rfl) (by decide) ?_
                  refine PW_aload_n (pc' := 135) (q := 1) (pw_dk dc_X12_count 42 rfl) rfl rfl rfl ?_
                  refine PW_iconst (pc' := 136) (v := 1) (pw_dk dc_X12_count 43 rfl) rfl (by decide) ?_
                  refine PZ_callVi (pc' := 139) (y := yX12_howMany) (M' := mX12_howMany) (d' := 0) (As := [.int 1]) (st := []) (b := 5000) (ci := 12) (nn := 0) me_5000 rfl tw_2069 tw_118 (pw_dk dc_X12_count 44 rfl) rfl Y_X12_howMany tw_2067 rfl (by decide) (Nat.le_of_ble_eq_true rfl) (t_X12_howMany 1 σ_1 _ ?_)
                  obtain ⟨v_33, e_34, h⟩ := wp_bind h
                  refine ⟨v_33, e_34, _, rfl, fun hn_32 => ?_⟩
                  show PZ alM mX12_count (1) Q 139 [(2, .int 0), (0, .ref 5000), (1, .int x1)] [.int v_33] σ_1
                  have z := wp_some h
                  exact PZ_iret (ty := .int) (pw_dk dc_X12_count 45 rfl) rfl rfl z
                · rw [if_neg c_31] at h
                  by_cases c_35 : x1 = 8
                  · rw [if_pos c_35] at h
                    refine PW_tin (tgt := 140) (pw_dk dc_X12_count 6 rfl) (by rw [c_35]; decide) (by rw [c_35]; decide) (by rw [c_35] <;> rfl) (by decide) ?_
                    refine PW_aload_n (pc' := 141) (q := 1) (pw_dk dc_X12_count 46 rfl) rfl rfl rfl ?_
                    refine PW_iconst (pc' := 142) (v := 2) (pw_dk dc_X12_count 47 rfl) rfl (by decide) ?_
                    refine PZ_callVi (pc' := 145) (y := yX12_howMany) (M' := mX12_howMany) (d' := 0) (As := [.int 2]) (st := []) (b := 5000) (ci := 12) (nn := 0) me_5000 rfl tw_2069 tw_118 (pw_dk dc_X12_count 48 rfl) rfl Y_X12_howMany tw_2067 rfl (by decide) (Nat.le_of_ble_eq_true rfl) (t_X12_howMany 2 σ_1 _ ?_)
                    obtain ⟨v_37, e_38, h⟩ := wp_bind h
                    refine ⟨v_37, e_38, _, rfl, fun hn_36 => ?_⟩
                    show PZ alM mX12_count (1) Q 145 [(2, .int 0), (0, .ref 5000), (1, .int x1)] [.int v_37] σ_1
                    have z := wp_some h
                    exact PZ_iret (ty := .int) (pw_dk dc_X12_count 49 rfl) rfl rfl z
                  · rw [if_neg c_35] at h
                    by_cases c_39 : x1 = 9
                    · rw [if_pos c_39] at h
                      refine PW_tin (tgt := 146) (pw_dk dc_X12_count 6 rfl) (by rw [c_39]; decide) (by rw [c_39]; decide) (by rw [c_39] <;> rfl) (by decide) ?_
                      refine PW_aload_n (pc' := 147) (q := 1) (pw_dk dc_X12_count 50 rfl) rfl rfl rfl ?_
                      refine PW_iconst (pc' := 148) (v := 3) (pw_dk dc_X12_count 51 rfl) rfl (by decide) ?_
                      refine PZ_callVi (pc' := 151) (y := yX12_howMany) (M' := mX12_howMany) (d' := 0) (As := [.int 3]) (st := []) (b := 5000) (ci := 12) (nn := 0) me_5000 rfl tw_2069 tw_118 (pw_dk dc_X12_count 52 rfl) rfl Y_X12_howMany tw_2067 rfl (by decide) (Nat.le_of_ble_eq_true rfl) (t_X12_howMany 3 σ_1 _ ?_)
                      obtain ⟨v_41, e_42, h⟩ := wp_bind h
                      refine ⟨v_41, e_42, _, rfl, fun hn_40 => ?_⟩
                      show PZ alM mX12_count (1) Q 151 [(2, .int 0), (0, .ref 5000), (1, .int x1)] [.int v_41] σ_1
                      have z := wp_some h
                      exact PZ_iret (ty := .int) (pw_dk dc_X12_count 53 rfl) rfl rfl z
                    · rw [if_neg c_39] at h
                      by_cases c_43 : x1 = 10
                      · rw [if_pos c_43] at h
                        refine PW_tin (tgt := 152) (pw_dk dc_X12_count 6 rfl) (by rw [c_43]; decide) (by rw [c_43]; decide) (by rw [c_43] <;> rfl) (by decide) ?_
                        refine PW_iconst (pc' := 153) (v := 0) (pw_dk dc_X12_count 54 rfl) rfl (by decide) ?_
                        refine PW_istore_n (pc' := 154) (lv' := [(3, .int 0), (2, .int 0), (0, .ref 5000), (1, .int x1)]) (pw_dk dc_X12_count 55 rfl) rfl rfl (by decide) rfl ?_
                        refine PW_sub (lv' := [(0, .ref 5000), (2, .int 0), (3, .int 0)]) [2, 1, 0] rfl ?_
                        exact b_X12_count_154 FU 0 0 σ_1 h
                      · rw [if_neg c_43] at h
                        by_cases c_44 : x1 = 11
                        · rw [if_pos c_44] at h
                          refine PW_tin (tgt := 181) (pw_dk dc_X12_count 6 rfl) (by rw [c_44]; decide) (by rw [c_44]; decide) (by rw [c_44] <;> rfl) (by decide) ?_
                          refine PW_aload_n (pc' := 182) (q := 1) (pw_dk dc_X12_count 73 rfl) rfl rfl rfl ?_
                          refine PZ_getI (pc' := 185) (id := 5000) (ci := 12) (nn := 0) (C0 := RX12) (T := TX12) (N := 62) (j := 53) (pw_dk dc_X12_count 74 rfl) rfl me_5000 rfl pi_12 (by decide) fk_12_53 tw_1450 ?_
                          have z := wp_some h
                          exact PZ_iret (ty := .int) (pw_dk dc_X12_count 75 rfl) rfl rfl z
                        · rw [if_neg c_44] at h
                          by_cases c_45 : x1 = 12
                          · rw [if_pos c_45] at h
                            refine PW_tin (tgt := 186) (pw_dk dc_X12_count 6 rfl) (by rw [c_45]; decide) (by rw [c_45]; decide) (by rw [c_45] <;> rfl) (by decide) ?_
                            refine PW_aload_n (pc' := 187) (q := 1) (pw_dk dc_X12_count 76 rfl) rfl rfl rfl ?_
                            refine PZ_callVi (pc' := 190) (y := yX12_knownMany) (M' := mX12_knownMany) (d' := 0) (As := []) (st := []) (b := 5000) (ci := 12) (nn := 0) me_5000 rfl tw_2014 tw_111 (pw_dk dc_X12_count 77 rfl) rfl Y_X12_knownMany tw_2012 rfl (by decide) (Nat.le_of_ble_eq_true rfl) (t_X12_knownMany σ_1 _ ?_)
                            refine ⟨_, rfl, fun hn_46 => ?_⟩
                            show PZ alM mX12_count (1) Q 190 [(2, .int 0), (0, .ref 5000), (1, .int x1)] [.int (f_X12_knownMany σ_1)] σ_1
                            have z := wp_some h
                            exact PZ_iret (ty := .int) (pw_dk dc_X12_count 78 rfl) rfl rfl z
                          · rw [if_neg c_45] at h
                            by_cases c_47 : x1 = 13
                            · rw [if_pos c_47] at h
                              refine PW_tin (tgt := 191) (pw_dk dc_X12_count 6 rfl) (by rw [c_47]; decide) (by rw [c_47]; decide) (by rw [c_47] <;> rfl) (by decide) ?_
                              refine PW_aload_n (pc' := 192) (q := 1) (pw_dk dc_X12_count 79 rfl) rfl rfl rfl ?_
                              refine PZ_getI (pc' := 195) (id := 5000) (ci := 12) (nn := 0) (C0 := RX12) (T := TX12) (N := 62) (j := 46) (pw_dk dc_X12_count 80 rfl) rfl me_5000 rfl pi_12 (by decide) fk_12_46 tw_1443 ?_
                              have z := wp_some h
                              exact PZ_iret (ty := .int) (pw_dk dc_X12_count 81 rfl) rfl rfl z
                            · rw [if_neg c_47] at h
                              by_cases c_48 : x1 = 14
                              · rw [if_pos c_48] at h
                                refine PW_tin (tgt := 196) (pw_dk dc_X12_count 6 rfl) (by rw [c_48]; decide) (by rw [c_48]; decide) (by rw [c_48] <;> rfl) (by decide) ?_
                                refine PW_aload_n (pc' := 197) (q := 1) (pw_dk dc_X12_count 82 rfl) rfl rfl rfl ?_
                                refine PW_getR (pc' := 200) (id := 5000) (ci := 12) (nn := 0) (C0 := RX12) (T := TX12) (N := 62) (j := 40) (r := 5041) (pw_dk dc_X12_count 83 rfl) rfl me_5000 rfl pi_12 (by decide) fk_12_40 tw_1437 (rfl) (by decide) ?_
                                refine PW_iconst (pc' := 201) (v := 0) (pw_dk dc_X12_count 84 rfl) rfl (by decide) ?_
                                obtain ⟨v_49, hi_50, e_51, h⟩ := wp_rdIx h
                                refine PZ_ialdx (pc' := 202) (v := v_49) (id := 5041) (nn := 23) (pw_dk dc_X12_count 85 rfl) rfl me_5041 hi_50 e_51 ?_
                                have z := wp_some h
                                exact PZ_iret (ty := .int) (pw_dk dc_X12_count 86 rfl) rfl rfl z
                              · rw [if_neg c_48] at h
                                have kc_3 := pw_ne c_3 (show (0 : Int32).toInt = 0 by decide)
                                have kc_7 := pw_ne c_7 (show (1 : Int32).toInt = 1 by decide)
                                have kc_11 := pw_ne c_11 (show (2 : Int32).toInt = 2 by decide)
                                have kc_15 := pw_ne c_15 (show (3 : Int32).toInt = 3 by decide)
                                have kc_19 := pw_ne c_19 (show (4 : Int32).toInt = 4 by decide)
                                have kc_23 := pw_ne c_23 (show (5 : Int32).toInt = 5 by decide)
                                have kc_27 := pw_ne c_27 (show (6 : Int32).toInt = 6 by decide)
                                have kc_31 := pw_ne c_31 (show (7 : Int32).toInt = 7 by decide)
                                have kc_35 := pw_ne c_35 (show (8 : Int32).toInt = 8 by decide)
                                have kc_39 := pw_ne c_39 (show (9 : Int32).toInt = 9 by decide)
                                have kc_43 := pw_ne c_43 (show (10 : Int32).toInt = 10 by decide)
                                have kc_44 := pw_ne c_44 (show (11 : Int32).toInt = 11 by decide)
                                have kc_45 := pw_ne c_45 (show (12 : Int32).toInt = 12 by decide)
                                have kc_47 := pw_ne c_47 (show (13 : Int32).toInt = 13 by decide)
                                have kc_48 := pw_ne c_48 (show (14 : Int32).toInt = 14 by decide)
                                refine PW_tout (tgt := 203) (pw_dk dc_X12_count 6 rfl) (by omega) (by decide) ?_
                                refine PW_iconst (pc' := 204) (v := (-1 : Int32)) (pw_dk dc_X12_count 87 rfl) rfl (by decide) ?_
                                have z := wp_some h
                                exact PZ_iret (ty := .int) (pw_dk dc_X12_count 88 rfl) rfl rfl z
