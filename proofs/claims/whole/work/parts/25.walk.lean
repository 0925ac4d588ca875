/-! walks (printed by wip/gen) -/
def f_X12_layToGoal_38 (r2 : Int32 → zS → Option zS) (x1 : Int32) (s1 : Int32) (s2 : Int32) (σ : zS) : Option zS := 
  (wrI σ 5049 192 s1 s2).bind fun σ_1 =>
  r2 (x1 + 1) σ_1
theorem b_X12_layToGoal_38 {Q : Option Value → zS → Prop} (r2 : Int32 → zS → Option zS) (hr2 : ∀ (x1 : Int32) (σ : zS), wpO (r2 x1 σ) (fun s => Q none s) → PZ alM mX12_layToGoal (3) Q 2 [(0, .ref 5000), (1, .int x1)] [] σ) (x1 : Int32) (s1 : Int32) (s2 : Int32) (σ : zS) (h : wpO (f_X12_layToGoal_38 r2 x1 s1 s2 σ) (fun s => Q none s)) : PZ alM mX12_layToGoal (3) Q 38 [(0, .ref 5000), (1, .int x1)] [.int s2, .int s1, .ref 5049] σ := by
  unfold f_X12_layToGoal_38 at h
  obtain ⟨σ_1, hi_2, e_3, h⟩ := wp_wrIx h
  refine PZ_iastx (pc' := 39) (σ' := σ_1) (id := 5049) (nn := 192) (pw_dk dc_X12_layToGoal 20 rfl) rfl me_5049 hi_2 e_3 ?_
  refine PW_iinc (pc' := 42) (q := 1) (v := x1 + 1) (lv' := [(1, .int (x1 + 1)), (0, .ref 5000)]) (pw_dk dc_X12_layToGoal 21 rfl) rfl rfl rfl (by decide) rfl ?_
  refine PW_goto (tgt := 2) (pw_dk dc_X12_layToGoal 22 rfl) (by decide) ?_
  refine PW_sub (lv' := [(0, .ref 5000), (1, .int (x1 + 1))]) [1, 0] rfl ?_
  exact hr2 (x1 + 1) σ_1 h
def f_X12_layToGoal_35 (r2 : Int32 → zS → Option zS) (x1 : Int32) (s1 : Int32) (σ : zS) : Option zS := 
  f_X12_layToGoal_38 r2 x1 s1 1000 σ
theorem b_X12_layToGoal_35 {Q : Option Value → zS → Prop} (r2 : Int32 → zS → Option zS) (hr2 : ∀ (x1 : Int32) (σ : zS), wpO (r2 x1 σ) (fun s => Q none s) → PZ alM mX12_layToGoal (3) Q 2 [(0, .ref 5000), (1, .int x1)] [] σ) (x1 : Int32) (s1 : Int32) (σ : zS) (h : wpO (f_X12_layToGoal_35 r2 x1 s1 σ) (fun s => Q none s)) : PZ alM mX12_layToGoal (3) Q 35 [(0, .ref 5000), (1, .int x1)] [.int s1, .ref 5049] σ := by
  unfold f_X12_layToGoal_35 at h
  refine PW_sipush (pc' := 38) (v := 1000) (pw_dk dc_X12_layToGoal 19 rfl) rfl (by decide) ?_
  exact b_X12_layToGoal_38 r2 hr2 x1 s1 1000 σ h
def f_X12_layToGoal_2  : Nat → Int32 → zS → Option zS
  | 0, _, _ => none
  | n + 1, x1, σ => 
    if 192 ≤ x1 then
      (f_X12_spreadsSteps σ).bind fun σ_3 =>
      some σ_3
    else
      (f_X12_statesMany σ).bind fun v_6 =>
      if v_6 ≤ x1 then
        f_X12_layToGoal_35 (f_X12_layToGoal_2 n) x1 x1 σ
      else
        (rdI σ 5051 192 x1).bind fun v_9 =>
        if v_9 = 0 then
          f_X12_layToGoal_35 (f_X12_layToGoal_2 n) x1 x1 σ
        else
          f_X12_layToGoal_38 (f_X12_layToGoal_2 n) x1 x1 0 σ
theorem b_X12_layToGoal_2 {Q : Option Value → zS → Prop} : ∀ (n : Nat) (x1 : Int32) (σ : zS) (h : wpO (f_X12_layToGoal_2 n x1 σ) (fun s => Q none s)), PZ alM mX12_layToGoal (3) Q 2 [(0, .ref 5000), (1, .int x1)] [] σ := by
  intro n
  induction n with
  | zero => intro x1 σ h; exact wp_none h
  | succ n ih =>
    intro x1 σ h
    rw [f_X12_layToGoal_2] at h
    refine PW_iload_n (pc' := 3) (q := 1) (pw_dk dc_X12_layToGoal 2 rfl) rfl rfl rfl ?_
    refine PW_sipush (pc' := 6) (v := 192) (pw_dk dc_X12_layToGoal 3 rfl) rfl (by decide) ?_
    refine PW_icmp_ge (pc' := 9) (tgt := 45) (pw_dk dc_X12_layToGoal 4 rfl) rfl (by decide) (fun c_1 => ?_) (fun c_1 => ?_)
    · rw [if_pos c_1] at h
      refine PW_aload_n (pc' := 46) (q := 0) (pw_dk dc_X12_layToGoal 23 rfl) rfl rfl rfl ?_
      refine PZ_callVv (pc' := 49) (y := yX12_spreadsSteps) (M' := mX12_spreadsSteps) (d' := 2) (As := []) (st := []) (b := 5000) (ci := 12) (nn := 0) me_5000 rfl tw_1897 tw_98 (pw_dk dc_X12_layToGoal 24 rfl) rfl Y_X12_spreadsSteps tw_1895 rfl (by decide) (Nat.le_of_ble_eq_true rfl) (t_X12_spreadsSteps σ _ ?_)
      obtain ⟨σ_3, e_4, h⟩ := wp_bind h
      refine ⟨σ_3, e_4, rfl, fun hn_2 => ?_⟩
      show PZ alM mX12_layToGoal (3) Q 49 [(0, .ref 5000), (1, .int x1)] [] σ_3
      have z := wp_some h
      exact PZ_vret (pw_dk dc_X12_layToGoal 25 rfl) rfl z
    · rw [if_neg c_1] at h
      refine PW_aload_n (pc' := 10) (q := 0) (pw_dk dc_X12_layToGoal 5 rfl) rfl rfl rfl ?_
      refine PW_getR (pc' := 13) (id := 5000) (ci := 12) (nn := 0) (C0 := RX12) (T := TX12) (N := 62) (j := 48) (r := 5049) (pw_dk dc_X12_layToGoal 6 rfl) rfl me_5000 rfl pi_12 (by decide) fk_12_48 tw_1445 (rfl) (by decide) ?_
      refine PW_iload_n (pc' := 14) (q := 1) (pw_dk dc_X12_layToGoal 7 rfl) rfl rfl rfl ?_
      refine PW_iload_n (pc' := 15) (q := 1) (pw_dk dc_X12_layToGoal 8 rfl) rfl rfl rfl ?_
      refine PW_aload_n (pc' := 16) (q := 0) (pw_dk dc_X12_layToGoal 9 rfl) rfl rfl rfl ?_
      refine PZ_callVi (pc' := 19) (y := yX12_statesMany) (M' := mX12_statesMany) (d' := 0) (As := []) (st := [.int x1, .int x1, .ref 5049]) (b := 5000) (ci := 12) (nn := 0) me_5000 rfl tw_1889 tw_96 (pw_dk dc_X12_layToGoal 10 rfl) rfl Y_X12_statesMany tw_1887 rfl (by decide) (Nat.le_of_ble_eq_true rfl) (t_X12_statesMany σ _ ?_)
      obtain ⟨v_6, e_7, h⟩ := wp_bind h
      refine ⟨v_6, e_7, _, rfl, fun hn_5 => ?_⟩
      show PZ alM mX12_layToGoal (3) Q 19 [(0, .ref 5000), (1, .int x1)] [.int v_6, .int x1, .int x1, .ref 5049] σ
      refine PW_icmp_ge (pc' := 22) (tgt := 35) (pw_dk dc_X12_layToGoal 11 rfl) rfl (by decide) (fun c_8 => ?_) (fun c_8 => ?_)
      · rw [if_pos c_8] at h
        exact b_X12_layToGoal_35 (f_X12_layToGoal_2 n) ih x1 x1 σ h
      · rw [if_neg c_8] at h
        refine PW_aload_n (pc' := 23) (q := 0) (pw_dk dc_X12_layToGoal 12 rfl) rfl rfl rfl ?_
        refine PW_getR (pc' := 26) (id := 5000) (ci := 12) (nn := 0) (C0 := RX12) (T := TX12) (N := 62) (j := 50) (r := 5051) (pw_dk dc_X12_layToGoal 13 rfl) rfl me_5000 rfl pi_12 (by decide) fk_12_50 tw_1447 (rfl) (by decide) ?_
        refine PW_iload_n (pc' := 27) (q := 1) (pw_dk dc_X12_layToGoal 14 rfl) rfl rfl rfl ?_
        obtain ⟨v_9, hi_10, e_11, h⟩ := wp_rdIx h
        refine PZ_zaldx (pc' := 28) (v := v_9) (id := 5051) (nn := 192) (pw_dk dc_X12_layToGoal 15 rfl) rfl me_5051 hi_10 e_11 ?_
        refine PW_if_eq (pc' := 31) (tgt := 35) (pw_dk dc_X12_layToGoal 16 rfl) rfl (by decide) (fun c_12 => ?_) (fun c_12 => ?_)
        · rw [if_pos c_12] at h
          exact b_X12_layToGoal_35 (f_X12_layToGoal_2 n) ih x1 x1 σ h
        · rw [if_neg c_12] at h
          refine PW_iconst (pc' := 32) (v := 0) (pw_dk dc_X12_layToGoal 17 rfl) rfl (by decide) ?_
          refine PW_goto (tgt := 38) (pw_dk dc_X12_layToGoal 18 rfl) (by decide) ?_
          exact b_X12_layToGoal_38 (f_X12_layToGoal_2 n) ih x1 x1 0 σ h
def f_X12_layToGoal  (σ : zS) : Option zS := 
  f_X12_layToGoal_2 FU 0 σ
theorem t_X12_layToGoal (σ : zS) (Q : Option Value → zS → Prop) (h : wpO (f_X12_layToGoal σ) (fun s => Q none s)) : PK alM yX12_layToGoal mX12_layToGoal (3) [.ref 5000] σ Q := by
  refine PC_ofF (by decide +kernel) rfl rfl (Nat.le_of_ble_eq_true rfl) ?_
  show PZ alM mX12_layToGoal (3) Q 0 [(0, .ref 5000)] [] σ
  unfold f_X12_layToGoal at h
  refine PW_iconst (pc' := 1) (v := 0) (pw_dk dc_X12_layToGoal 0 rfl) rfl (by decide) ?_
  refine PW_istore_n (pc' := 2) (lv' := [(1, .int 0), (0, .ref 5000)]) (pw_dk dc_X12_layToGoal 1 rfl) rfl rfl (by decide) rfl ?_
  refine PW_sub (lv' := [(0, .ref 5000), (1, .int 0)]) [1, 0] rfl ?_
  exact b_X12_layToGoal_2 FU 0 σ h
def f_X12_isAsked (x1 : Int32) (x2 : Int32) (x3 : Int32) (σ : zS) : Option Int32 := 
  (f_X12_isMan x1 σ).bind fun v_2 =>
  if v_2 = 0 then
    some 0
  else
    if (f_X12_isPart x2 σ) = 0 then
      some 0
    else
      if (f_X12_isKind x3 σ) = 0 then
        some 0
      else
        some 1
theorem t_X12_isAsked (x1 : Int32) (x2 : Int32) (x3 : Int32) (σ : zS) (Q : Option Value → zS → Prop) (h : wpO (f_X12_isAsked x1 x2 x3 σ) (fun a => Q (some (.int a)) σ)) : PK alM yX12_isAsked mX12_isAsked (1) [.ref 5000, .int x1, .int x2, .int x3] σ Q := by
  refine PC_ofF (by decide +kernel) rfl rfl (Nat.le_of_ble_eq_true rfl) ?_
  show PZ alM mX12_isAsked (1) Q 0 [(0, .ref 5000), (1, .int x1), (2, .int x2), (3, .int x3)] [] σ
  unfold f_X12_isAsked at h
  refine PW_aload_n (pc' := 1) (q := 0) (pw_dk dc_X12_isAsked 0 rfl) rfl rfl rfl ?_
  refine PW_iload_n (pc' := 2) (q := 1) (pw_dk dc_X12_isAsked 1 rfl) rfl rfl rfl ?_
  refine PZ_callVi (pc' := 5) (y := yX12_isMan) (M' := mX12_isMan) (d' := 0) (As := [.int x1]) (st := []) (b := 5000) (ci := 12) (nn := 0) me_5000 rfl tw_1742 tw_77 (pw_dk dc_X12_isAsked 2 rfl) rfl Y_X12_isMan tw_1740 rfl (by decide) (Nat.le_of_ble_eq_true rfl) (t_X12_isMan x1 σ _ ?_)
  obtain ⟨v_2, e_3, h⟩ := wp_bind h
  refine ⟨v_2, e_3, _, rfl, fun hn_1 => ?_⟩
  show PZ alM mX12_isAsked (1) Q 5 [(0, .ref 5000), (1, .int x1), (2, .int x2), (3, .int x3)] [.int v_2] σ
  refine PW_if_eq (pc' := 8) (tgt := 26) (pw_dk dc_X12_isAsked 3 rfl) rfl (by decide) (fun c_4 => ?_) (fun c_4 => ?_)
  · rw [if_pos c_4] at h
    refine PW_iconst (pc' := 27) (v := 0) (pw_dk dc_X12_isAsked 12 rfl) rfl (by decide) ?_
    have z := wp_some h
    exact PZ_iret (ty := .boolean) (pw_dk dc_X12_isAsked 13 rfl) rfl (by decide) z
  · rw [if_neg c_4] at h
    refine PW_iload_n (pc' := 9) (q := 2) (pw_dk dc_X12_isAsked 4 rfl) rfl rfl rfl ?_
    refine PZ_callSi (pc' := 12) (y := yX12_isPart) (M' := mX12_isPart) (d' := 0) (As := [.int x2]) (st := []) tw_1763 (pw_dk dc_X12_isAsked 5 rfl) rfl Y_X12_isPart tw_1762 rfl (by decide) (Nat.le_of_ble_eq_true rfl) (t_X12_isPart x2 σ _ ?_)
    refine ⟨_, rfl, fun hn_5 => ?_⟩
    show PZ alM mX12_isAsked (1) Q 12 [(0, .ref 5000), (1, .int x1), (2, .int x2), (3, .int x3)] [.int (f_X12_isPart x2 σ)] σ
    refine PW_if_eq (pc' := 15) (tgt := 26) (pw_dk dc_X12_isAsked 6 rfl) rfl (by decide) (fun c_6 => ?_) (fun c_6 => ?_)
    · rw [if_pos c_6] at h
      refine PW_iconst (pc' := 27) (v := 0) (pw_dk dc_X12_isAsked 12 rfl) rfl (by decide) ?_
      have z := wp_some h
      exact PZ_iret (ty := .boolean) (pw_dk dc_X12_isAsked 13 rfl) rfl (by decide) z
    · rw [if_neg c_6] at h
      refine PW_iload_n (pc' := 16) (q := 3) (pw_dk dc_X12_isAsked 7 rfl) rfl rfl rfl ?_
      refine PZ_callSi (pc' := 19) (y := yX12_isKind) (M' := mX12_isKind) (d' := 0) (As := [.int x3]) (st := []) tw_1813 (pw_dk dc_X12_isAsked 8 rfl) rfl Y_X12_isKind tw_1812 rfl (by decide) (Nat.le_of_ble_eq_true rfl) (t_X12_isKind x3 σ _ ?_)
      refine ⟨_, rfl, fun hn_7 => ?_⟩
      show PZ alM mX12_isAsked (1) Q 19 [(0, .ref 5000), (1, .int x1), (2, .int x2), (3, .int x3)] [.int (f_X12_isKind x3 σ)] σ
      refine PW_if_eq (pc' := 22) (tgt := 26) (pw_dk dc_X12_isAsked 9 rfl) rfl (by decide) (fun c_8 => ?_) (fun c_8 => ?_)
      · rw [if_pos c_8] at h
        refine PW_iconst (pc' := 27) (v := 0) (pw_dk dc_X12_isAsked 12 rfl) rfl (by decide) ?_
        have z := wp_some h
        exact PZ_iret (ty := .boolean) (pw_dk dc_X12_isAsked 13 rfl) rfl (by decide) z
      · rw [if_neg c_8] at h
        refine PW_iconst (pc' := 23) (v := 1) (pw_dk dc_X12_isAsked 10 rfl) rfl (by decide) ?_
        refine PW_goto (tgt := 27) (pw_dk dc_X12_isAsked 11 rfl) (by decide) ?_
        have z := wp_some h
        exact PZ_iret (ty := .boolean) (pw_dk dc_X12_isAsked 13 rfl) rfl (by decide) z
def f_X12_fewest (x1 : Int32) (x2 : Int32) (x3 : Int32) (σ : zS) : Option (Int32 × zS) := 
  lt (wI σ 5000 0 0) fun σ_1 =>
  (f_X12_isAsked x1 x2 x3 σ_1).bind fun v_4 =>
  if v_4 = 0 then
    some ((-1 : Int32), σ_1)
  else
    (f_X12_layGoal x1 x2 x3 σ_1).bind fun σ_8 =>
    (f_X12_layToGoal σ_8).bind fun σ_11 =>
    (rdI σ_11 5042 115 x1).bind fun v_13 =>
    (rdI σ_11 5049 192 v_13).bind fun v_16 =>
    if v_16 < 1000 then
      (rdI σ_11 5042 115 x1).bind fun v_20 =>
      (rdI σ_11 5049 192 v_20).bind fun v_23 =>
      some (v_23, σ_11)
    else
      some ((-2 : Int32), σ_11)
theorem t_X12_fewest (x1 : Int32) (x2 : Int32) (x3 : Int32) (σ : zS) (Q : Option Value → zS → Prop) (h : wpO (f_X12_fewest x1 x2 x3 σ) (fun a => Q (some (.int a.1)) a.2)) : PK alM yX12_fewest mX12_fewest (6) [.ref 5000, .int x1, .int x2, .int x3] σ Q := by
  refine PC_ofF (by decide +kernel) rfl rfl (Nat.le_of_ble_eq_true rfl) ?_
  show PZ alM mX12_fewest (6) Q 0 [(0, .ref 5000), (1, .int x1), (2, .int x2), (3, .int x3)] [] σ
  unfold f_X12_fewest at h
  refine PW_aload_n (pc' := 1) (q := 0) (pw_dk dc_X12_fewest 0 rfl) rfl rfl rfl ?_
  refine PW_iconst (pc' := 2) (v := 0) (pw_dk dc_X12_fewest 1 rfl) rfl (by decide) ?_
  obtain ⟨σ_1, e_2, h⟩ := lt_x h
  refine PZ_putX (pc' := 5) (σ' := σ_1) (id := 5000) (ci := 12) (nn := 0) (C0 := RX12) (T := TX12) (N := 62) (j := 0) (ty := tyX12 0) (pw_dk dc_X12_fewest 2 rfl) rfl me_5000 rfl pi_12 tyX12_ok nmX12 (by decide) fk_12_0 tw_1397 rfl (tyX12_ok 0 (by decide)) (by first | rfl | decide) (by first | rfl | decide) e_2 ?_
  refine PW_aload_n (pc' := 6) (q := 0) (pw_dk dc_X12_fewest 3 rfl) rfl rfl rfl ?_
  refine PW_iload_n (pc' := 7) (q := 1) (pw_dk dc_X12_fewest 4 rfl) rfl rfl rfl ?_
  refine PW_iload_n (pc' := 8) (q := 2) (pw_dk dc_X12_fewest 5 rfl) rfl rfl rfl ?_
  refine PW_iload_n (pc' := 9) (q := 3) (pw_dk dc_X12_fewest 6 rfl) rfl rfl rfl ?_
  refine PZ_callVi (pc' := 12) (y := yX12_isAsked) (M' := mX12_isAsked) (d' := 1) (As := [.int x1, .int x2, .int x3]) (st := []) (b := 5000) (ci := 12) (nn := 0) me_5000 rfl tw_1881 tw_94 (pw_dk dc_X12_fewest 7 rfl) rfl Y_X12_isAsked tw_1879 rfl (by decide) (Nat.le_of_ble_eq_true rfl) (t_X12_isAsked x1 x2 x3 σ_1 _ ?_)
  obtain ⟨v_4, e_5, h⟩ := wp_bind h
  refine ⟨v_4, e_5, _, rfl, fun hn_3 => ?_⟩
  show PZ alM mX12_fewest (6) Q 12 [(0, .ref 5000), (1, .int x1), (2, .int x2), (3, .int x3)] [.int v_4] σ_1
  refine PW_if_ne (pc' := 15) (tgt := 17) (pw_dk dc_X12_fewest 8 rfl) rfl (by decide) (fun c_6 => ?_) (fun c_6 => ?_)
  · rw [if_neg c_6] at h
    refine PW_aload_n (pc' := 18) (q := 0) (pw_dk dc_X12_fewest 11 rfl) rfl rfl rfl ?_
    refine PW_iload_n (pc' := 19) (q := 1) (pw_dk dc_X12_fewest 12 rfl) rfl rfl rfl ?_
    refine PW_iload_n (pc' := 20) (q := 2) (pw_dk dc_X12_fewest 13 rfl) rfl rfl rfl ?_
    refine PW_iload_n (pc' := 21) (q := 3) (pw_dk dc_X12_fewest 14 rfl) rfl rfl rfl ?_
    refine PZ_callVv (pc' := 24) (y := yX12_layGoal) (M' := mX12_layGoal) (d' := 5) (As := [.int x1, .int x2, .int x3]) (st := []) (b := 5000) (ci := 12) (nn := 0) me_5000 rfl tw_1885 tw_95 (pw_dk dc_X12_fewest 15 rfl) rfl Y_X12_layGoal tw_1883 rfl (by decide) (Nat.le_of_ble_eq_true rfl) (t_X12_layGoal x1 x2 x3 σ_1 _ ?_)
    obtain ⟨σ_8, e_9, h⟩ := wp_bind h
    refine ⟨σ_8, e_9, rfl, fun hn_7 => ?_⟩
    show PZ alM mX12_fewest (6) Q 24 [(0, .ref 5000), (1, .int x1), (2, .int x2), (3, .int x3)] [] σ_8
    refine PW_aload_n (pc' := 25) (q := 0) (pw_dk dc_X12_fewest 16 rfl) rfl rfl rfl ?_
    refine PZ_callVv (pc' := 28) (y := yX12_layToGoal) (M' := mX12_layToGoal) (d' := 3) (As := []) (st := []) (b := 5000) (ci := 12) (nn := 0) me_5000 rfl tw_1893 tw_97 (pw_dk dc_X12_fewest 17 rfl) rfl Y_X12_layToGoal tw_1891 rfl (by decide) (Nat.le_of_ble_eq_true rfl) (t_X12_layToGoal σ_8 _ ?_)
    obtain ⟨σ_11, e_12, h⟩ := wp_bind h
    refine ⟨σ_11, e_12, rfl, fun hn_10 => ?_⟩
    show PZ alM mX12_fewest (6) Q 28 [(0, .ref 5000), (1, .int x1), (2, .int x2), (3, .int x3)] [] σ_11
    refine PW_aload_n (pc' := 29) (q := 0) (pw_dk dc_X12_fewest 18 rfl) rfl rfl rfl ?_
    refine PW_getR (pc' := 32) (id := 5000) (ci := 12) (nn := 0) (C0 := RX12) (T := TX12) (N := 62) (j := 48) (r := 5049) (pw_dk dc_X12_fewest 19 rfl) rfl me_5000 rfl pi_12 (by decide) fk_12_48 tw_1445 (rfl) (by decide) ?_
    refine PW_aload_n (pc' := 33) (q := 0) (pw_dk dc_X12_fewest 20 rfl) rfl rfl rfl ?_
    refine PW_getR (pc' := 36) (id := 5000) (ci := 12) (nn := 0) (C0 := RX12) (T := TX12) (N := 62) (j := 41) (r := 5042) (pw_dk dc_X12_fewest 21 rfl) rfl me_5000 rfl pi_12 (by decide) fk_12_41 tw_1438 (rfl) (by decide) ?_
    refine PW_iload_n (pc' := 37) (q := 1) (pw_dk dc_X12_fewest 22 rfl) rfl rfl rfl ?_
    obtain ⟨v_13, hi_14, e_15, h⟩ := wp_rdIx h
    refine PZ_ialdx (pc' := 38) (v := v_13) (id := 5042) (nn := 115) (pw_dk dc_X12_fewest 23 rfl) rfl me_5042 hi_14 e_15 ?_
    obtain ⟨v_16, hi_17, e_18, h⟩ := wp_rdIx h
    refine PZ_ialdx (pc' := 39) (v := v_16) (id := 5049) (nn := 192) (pw_dk dc_X12_fewest 24 rfl) rfl me_5049 hi_17 e_18 ?_
    refine PW_sipush (pc' := 42) (v := 1000) (pw_dk dc_X12_fewest 25 rfl) rfl (by decide) ?_
    refine PW_icmp_lt (pc' := 45) (tgt := 50) (pw_dk dc_X12_fewest 26 rfl) rfl (by decide) (fun c_19 => ?_) (fun c_19 => ?_)
    · rw [if_pos c_19] at h
      refine PW_aload_n (pc' := 51) (q := 0) (pw_dk dc_X12_fewest 29 rfl) rfl rfl rfl ?_
      refine PW_getR (pc' := 54) (id := 5000) (ci := 12) (nn := 0) (C0 := RX12) (T := TX12) (N := 62) (j := 48) (r := 5049) (pw_dk dc_X12_fewest 30 rfl) rfl me_5000 rfl pi_12 (by decide) fk_12_48 tw_1445 (rfl) (by decide) ?_
      refine PW_aload_n (pc' := 55) (q := 0) (pw_dk dc_X12_fewest 31 rfl) rfl rfl rfl ?_
      refine PW_getR (pc' := 58) (id := 5000) (ci := 12) (nn := 0) (C0 := RX12) (T := TX12) (N := 62) (j := 41) (r := 5042) (pw_dk dc_X12_fewest 32 rfl) rfl me_5000 rfl pi_12 (by decide) fk_12_41 tw_1438 (rfl) (by decide) ?_
      refine PW_iload_n (pc' := 59) (q := 1) (pw_dk dc_X12_fewest 33 rfl) rfl rfl rfl ?_
      obtain ⟨v_20, hi_21, e_22, h⟩ := wp_rdIx h
      refine PZ_ialdx (pc' := 60) (v := v_20) (id := 5042) (nn := 115) (pw_dk dc_X12_fewest 34 rfl) rfl me_5042 hi_21 e_22 ?_
      obtain ⟨v_23, hi_24, e_25, h⟩ := wp_rdIx h
      refine PZ_ialdx (pc' := 61) (v := v_23) (id := 5049) (nn := 192) (pw_dk dc_X12_fewest 35 rfl) rfl me_5049 hi_24 e_25 ?_
      have z := wp_some h
      exact PZ_iret (ty := .int) (pw_dk dc_X12_fewest 36 rfl) rfl rfl z
    · rw [if_neg c_19] at h
      refine PW_bipush (pc' := 47) (v := (-2 : Int32)) (pw_dk dc_X12_fewest 27 rfl) rfl (by decide) ?_
      refine PW_goto (tgt := 61) (pw_dk dc_X12_fewest 28 rfl) (by decide) ?_
      have z := wp_some h
      exact PZ_iret (ty := .int) (pw_dk dc_X12_fewest 36 rfl) rfl rfl z
  · rw [if_pos c_6] at h
    refine PW_iconst (pc' := 16) (v := (-1 : Int32)) (pw_dk dc_X12_fewest 9 rfl) rfl (by decide) ?_
    have z := wp_some h
    exact PZ_iret (ty := .int) (pw_dk dc_X12_fewest 10 rfl) rfl rfl z
def f_X12_way_66   (σ : zS) : Option (Int32 × zS) := 
  some ((-2 : Int32), σ)
theorem b_X12_way_66 {Q : Option Value → zS → Prop}  (σ : zS) (h : wpO (f_X12_way_66 σ) (fun a => Q (some (.int a.1)) a.2)) : PZ alM mX12_way (6) Q 66 [] [] σ := by
  unfold f_X12_way_66 at h
  refine PW_bipush (pc' := 68) (v := (-2 : Int32)) (pw_dk dc_X12_way 37 rfl) rfl (by decide) ?_
  have z := wp_some h
  exact PZ_iret (ty := .int) (pw_dk dc_X12_way 38 rfl) rfl rfl z
def f_X12_way_122 (r85 : Int32 → Int32 → Int32 → Int32 → zS → Option (Int32 × zS)) (x4 : Int32) (x5 : Int32) (x6 : Int32) (x7 : Int32) (σ : zS) : Option (Int32 × zS) := 
  r85 x4 x5 (x6 + 1) x7 σ
theorem b_X12_way_122 {Q : Option Value → zS → Prop} (r85 : Int32 → Int32 → Int32 → Int32 → zS → Option (Int32 × zS)) (hr85 : ∀ (x4 : Int32) (x5 : Int32) (x6 : Int32) (x7 : Int32) (σ : zS), wpO (r85 x4 x5 x6 x7 σ) (fun a => Q (some (.int a.1)) a.2) → PZ alM mX12_way (6) Q 85 [(0, .ref 5000), (4, .int x4), (5, .int x5), (6, .int x6), (7, .int x7)] [] σ) (x4 : Int32) (x5 : Int32) (x6 : Int32) (x7 : Int32) (σ : zS) (h : wpO (f_X12_way_122 r85 x4 x5 x6 x7 σ) (fun a => Q (some (.int a.1)) a.2)) : PZ alM mX12_way (6) Q 122 [(0, .ref 5000), (4, .int x4), (5, .int x5), (6, .int x6), (7, .int x7)] [] σ := by
  unfold f_X12_way_122 at h
  refine PW_iinc (pc' := 125) (q := 3) (v := x6 + 1) (lv' := [(6, .int (x6 + 1)), (0, .ref 5000), (4, .int x4), (5, .int x5), (7, .int x7)]) (pw_dk dc_X12_way 68 rfl) rfl rfl rfl (by decide) rfl ?_
  refine PW_goto (tgt := 85) (pw_dk dc_X12_way 69 rfl) (by decide) ?_
  refine PW_sub (lv' := [(0, .ref 5000), (4, .int x4), (5, .int x5), (6, .int (x6 + 1)), (7, .int x7)]) [1, 2, 3, 0, 4] rfl ?_
  exact hr85 x4 x5 (x6 + 1) x7 σ h
def f_X12_way_85 (r75 : Int32 → Int32 → Int32 → Int32 → zS → Option (Int32 × zS)) : Nat → Int32 → Int32 → Int32 → Int32 → zS → Option (Int32 × zS)
  | 0, _, _, _, _, _ => none
  | n + 1, x4, x5, x6, x7, σ => 
    (f_X12_moved x5 x6 σ).bind fun v_2 =>
    if v_2 = (-1 : Int32) then
      f_X12_way_122 (f_X12_way_85 r75 n) x4 x5 x6 x7 σ
    else
      (f_X12_moved x5 x6 σ).bind fun v_6 =>
      (rdI σ 5049 192 v_6).bind fun v_8 =>
      (rdI σ 5049 192 x5).bind fun v_11 =>
      if v_8 = (v_11 - (1 : Int32)) then
        (f_X12_moved x5 x6 σ).bind fun v_16 =>
        r75 x4 v_16 x6 (x7 + 1) σ
      else
        f_X12_way_122 (f_X12_way_85 r75 n) x4 x5 x6 x7 σ
theorem b_X12_way_85 {Q : Option Value → zS → Prop} (r75 : Int32 → Int32 → Int32 → Int32 → zS → Option (Int32 × zS)) (hr75 : ∀ (x4 : Int32) (x5 : Int32) (x6 : Int32) (x7 : Int32) (σ : zS), wpO (r75 x4 x5 x6 x7 σ) (fun a => Q (some (.int a.1)) a.2) → PZ alM mX12_way (6) Q 75 [(0, .ref 5000), (4, .int x4), (5, .int x5), (6, .int x6), (7, .int x7)] [] σ) : ∀ (n : Nat) (x4 : Int32) (x5 : Int32) (x6 : Int32) (x7 : Int32) (σ : zS) (h : wpO (f_X12_way_85 r75 n x4 x5 x6 x7 σ) (fun a => Q (some (.int a.1)) a.2)), PZ alM mX12_way (6) Q 85 [(0, .ref 5000), (4, .int x4), (5, .int x5), (6, .int x6), (7, .int x7)] [] σ := by
  intro n
  induction n with
  | zero => intro x4 x5 x6 x7 σ h; exact wp_none h
  | succ n ih =>
    intro x4 x5 x6 x7 σ h
    rw [f_X12_way_85] at h
    refine PW_aload_n (pc' := 86) (q := 0) (pw_dk dc_X12_way 48 rfl) rfl rfl rfl ?_
    refine PW_iload (pc' := 88) (q := 2) (pw_dk dc_X12_way 49 rfl) rfl rfl ?_
    refine PW_iload (pc' := 90) (q := 3) (pw_dk dc_X12_way 50 rfl) rfl rfl ?_
    refine PZ_callVi (pc' := 93) (y := yX12_moved) (M' := mX12_moved) (d' := 1) (As := [.int x5, .int x6]) (st := []) (b := 5000) (ci := 12) (nn := 0) me_5000 rfl tw_1842 tw_88 (pw_dk dc_X12_way 51 rfl) rfl Y_X12_moved tw_1840 rfl (by decide) (Nat.le_of_ble_eq_true rfl) (t_X12_moved x5 x6 σ _ ?_)
    obtain ⟨v_2, e_3, h⟩ := wp_bind h
    refine ⟨v_2, e_3, _, rfl, fun hn_1 => ?_⟩
    show PZ alM mX12_way (6) Q 93 [(0, .ref 5000), (4, .int x4), (5, .int x5), (6, .int x6), (7, .int x7)] [.int v_2] σ
    refine PW_iconst (pc' := 94) (v := (-1 : Int32)) (pw_dk dc_X12_way 52 rfl) rfl (by decide) ?_
    refine PW_icmp_eq (pc' := 97) (tgt := 122) (pw_dk dc_X12_way 53 rfl) rfl (by decide) (fun c_4 => ?_) (fun c_4 => ?_)
    · rw [if_pos c_4] at h
      exact b_X12_way_122 (f_X12_way_85 r75 n) ih x4 x5 x6 x7 σ h
    · rw [if_neg c_4] at h
      refine PW_aload_n (pc' := 98) (q := 0) (pw_dk dc_X12_way 54 rfl) rfl rfl rfl ?_
      refine PW_getR (pc' := 101) (id := 5000) (ci := 12) (nn := 0) (C0 := RX12) (T := TX12) (N := 62) (j := 48) (r := 5049) (pw_dk dc_X12_way 55 rfl) rfl me_5000 rfl pi_12 (by decide) fk_12_48 tw_1445 (rfl) (by decide) ?_
      refine PW_aload_n (pc' := 102) (q := 0) (pw_dk dc_X12_way 56 rfl) rfl rfl rfl ?_
      refine PW_iload (pc' := 104) (q := 2) (pw_dk dc_X12_way 57 rfl) rfl rfl ?_
      refine PW_iload (pc' := 106) (q := 3) (pw_dk dc_X12_way 58 rfl) rfl rfl ?_
      refine PZ_callVi (pc' := 109) (y := yX12_moved) (M' := mX12_moved) (d' := 1) (As := [.int x5, .int x6]) (st := [.ref 5049]) (b := 5000) (ci := 12) (nn := 0) me_5000 rfl tw_1842 tw_88 (pw_dk dc_X12_way 59 rfl) rfl Y_X12_moved tw_1840 rfl (by decide) (Nat.le_of_ble_eq_true rfl) (t_X12_moved x5 x6 σ _ ?_)
      obtain ⟨v_6, e_7, h⟩ := wp_bind h
      refine ⟨v_6, e_7, _, rfl, fun hn_5 => ?_⟩
      show PZ alM mX12_way (6) Q 109 [(0, .ref 5000), (4, .int x4), (5, .int x5), (6, .int x6), (7, .int x7)] [.int v_6, .ref 5049] σ
      obtain ⟨v_8, hi_9, e_10, h⟩ := wp_rdIx h
      refine PZ_ialdx (pc' := 110) (v := v_8) (id := 5049) (nn := 192) (pw_dk dc_X12_way 60 rfl) rfl me_5049 hi_9 e_10 ?_
      refine PW_aload_n (pc' := 111) (q := 0) (pw_dk dc_X12_way 61 rfl) rfl rfl rfl ?_
      refine PW_getR (pc' := 114) (id := 5000) (ci := 12) (nn := 0) (C0 := RX12) (T := TX12) (N := 62) (j := 48) (r := 5049) (pw_dk dc_X12_way 62 rfl) rfl me_5000 rfl pi_12 (by decide) fk_12_48 tw_1445 (rfl) (by decide) ?_
      refine PW_iload (pc' := 116) (q := 2) (pw_dk dc_X12_way 63 rfl) rfl rfl ?_
      obtain ⟨v_11, hi_12, e_13, h⟩ := wp_rdIx h
      refine PZ_ialdx (pc' := 117) (v := v_11) (id := 5049) (nn := 192) (pw_dk dc_X12_way 64 rfl) rfl me_5049 hi_12 e_13 ?_
      refine PW_iconst (pc' := 118) (v := 1) (pw_dk dc_X12_way 65 rfl) rfl (by decide) ?_
      refine PW_isub (pc' := 119) (pw_dk dc_X12_way 66 rfl) rfl ?_
      refine PW_icmp_eq (pc' := 122) (tgt := 128) (pw_dk dc_X12_way 67 rfl) rfl (by decide) (fun c_14 => ?_) (fun c_14 => ?_)
      · rw [if_pos c_14] at h
        refine PW_aload_n (pc' := 129) (q := 0) (pw_dk dc_X12_way 70 rfl) rfl rfl rfl ?_
        refine PW_iload (pc' := 131) (q := 2) (pw_dk dc_X12_way 71 rfl) rfl rfl ?_
        refine PW_iload (pc' := 133) (q := 3) (pw_dk dc_X12_way 72 rfl) rfl rfl ?_
        refine PZ_callVi (pc' := 136) (y := yX12_moved) (M' := mX12_moved) (d' := 1) (As := [.int x5, .int x6]) (st := []) (b := 5000) (ci := 12) (nn := 0) me_5000 rfl tw_1842 tw_88 (pw_dk dc_X12_way 73 rfl) rfl Y_X12_moved tw_1840 rfl (by decide) (Nat.le_of_ble_eq_true rfl) (t_X12_moved x5 x6 σ _ ?_)
        obtain ⟨v_16, e_17, h⟩ := wp_bind h
        refine ⟨v_16, e_17, _, rfl, fun hn_15 => ?_⟩
        show PZ alM mX12_way (6) Q 136 [(0, .ref 5000), (4, .int x4), (5, .int x5), (6, .int x6), (7, .int x7)] [.int v_16] σ
        refine PW_istore (pc' := 138) (lv' := [(5, .int v_16), (0, .ref 5000), (4, .int x4), (6, .int x6), (7, .int x7)]) (pw_dk dc_X12_way 74 rfl) rfl (by decide) rfl ?_
        refine PW_iinc (pc' := 141) (q := 4) (v := x7 + 1) (lv' := [(7, .int (x7 + 1)), (5, .int v_16), (0, .ref 5000), (4, .int x4), (6, .int x6)]) (pw_dk dc_X12_way 75 rfl) rfl rfl rfl (by decide) rfl ?_
        refine PW_goto (tgt := 75) (pw_dk dc_X12_way 76 rfl) (by decide) ?_
        refine PW_sub (lv' := [(0, .ref 5000), (4, .int x4), (5, .int v_16), (6, .int x6), (7, .int (x7 + 1))]) [2, 3, 1, 4, 0] rfl ?_
        exact hr75 x4 v_16 x6 (x7 + 1) σ h
      · rw [if_neg c_14] at h
        exact b_X12_way_122 (f_X12_way_85 r75 n) ih x4 x5 x6 x7 σ h
def f_X12_way_75  : Nat → Int32 → Int32 → Int32 → Int32 → zS → Option (Int32 × zS)
  | 0, _, _, _, _, _ => none
  | n + 1, x4, x5, x6, x7, σ => 
    if x4 < x7 then
      some (x6, σ)
    else
      f_X12_way_85 (f_X12_way_75 n) FU x4 x5 0 x7 σ
theorem b_X12_way_75 {Q : Option Value → zS → Prop} : ∀ (n : Nat) (x4 : Int32) (x5 : Int32) (x6 : Int32) (x7 : Int32) (σ : zS) (h : wpO (f_X12_way_75 n x4 x5 x6 x7 σ) (fun a => Q (some (.int a.1)) a.2)), PZ alM mX12_way (6) Q 75 [(0, .ref 5000), (4, .int x4), (5, .int x5), (6, .int x6), (7, .int x7)] [] σ := by
  intro n
  induction n with
  | zero => intro x4 x5 x6 x7 σ h; exact wp_none h
  | succ n ih =>
    intro x4 x5 x6 x7 σ h
    rw [f_X12_way_75] at h
    refine PW_iload (pc' := 77) (q := 4) (pw_dk dc_X12_way 43 rfl) rfl rfl ?_
    refine PW_iload (pc' := 79) (q := 1) (pw_dk dc_X12_way 44 rfl) rfl rfl ?_
    refine PW_icmp_gt (pc' := 82) (tgt := 144) (pw_dk dc_X12_way 45 rfl) rfl (by decide) (fun c_1 => ?_) (fun c_1 => ?_)
    · rw [if_pos c_1] at h
      refine PW_iload (pc' := 146) (q := 3) (pw_dk dc_X12_way 77 rfl) rfl rfl ?_
      have z := wp_some h
      exact PZ_iret (ty := .int) (pw_dk dc_X12_way 78 rfl) rfl rfl z
    · rw [if_neg c_1] at h
      refine PW_iconst (pc' := 83) (v := 0) (pw_dk dc_X12_way 46 rfl) rfl (by decide) ?_
      refine PW_istore (pc' := 85) (lv' := [(6, .int 0), (0, .ref 5000), (4, .int x4), (5, .int x5), (7, .int x7)]) (pw_dk dc_X12_way 47 rfl) rfl (by decide) rfl ?_
      refine PW_sub (lv' := [(0, .ref 5000), (4, .int x4), (5, .int x5), (6, .int 0), (7, .int x7)]) [1, 2, 3, 0, 4] rfl ?_
      exact b_X12_way_85 (f_X12_way_75 n) ih FU x4 x5 0 x7 σ h
def f_X12_way (x1 : Int32) (x2 : Int32) (x3 : Int32) (x4 : Int32) (σ : zS) : Option (Int32 × zS) := 
  lt (wI σ 5000 0 0) fun σ_1 =>
  (f_X12_isAsked x1 x2 x3 σ_1).bind fun v_4 =>
  if v_4 = 0 then
    some ((-1 : Int32), σ_1)
  else
    if 0 ≤ x4 then
      (f_X12_layGoal x1 x2 x3 σ_1).bind fun σ_9 =>
      (f_X12_layToGoal σ_9).bind fun σ_12 =>
      (rdI σ_12 5042 115 x1).bind fun v_14 =>
      (rdI σ_12 5049 192 v_14).bind fun v_17 =>
      if 1000 ≤ v_17 then
        f_X12_way_66 σ_12
      else
        (rdI σ_12 5049 192 v_14).bind fun v_21 =>
        if x4 < v_21 then
          f_X12_way_75 FU x4 v_14 0 0 σ_12
        else
          f_X12_way_66 σ_12
    else
      some ((-1 : Int32), σ_1)
theorem t_X12_way (x1 : Int32) (x2 : Int32) (x3 : Int32) (x4 : Int32) (σ : zS) (Q : Option Value → zS → Prop) (h : wpO (f_X12_way x1 x2 x3 x4 σ) (fun a => Q (some (.int a.1)) a.2)) : PK alM yX12_way mX12_way (6) [.ref 5000, .int x1, .int x2, .int x3, .int x4] σ Q := by
  refine PC_ofF (by decide +kernel) rfl rfl (Nat.le_of_ble_eq_true rfl) ?_
  show PZ alM mX12_way (6) Q 0 [(0, .ref 5000), (1, .int x1), (2, .int x2), (3, .int x3), (4, .int x4)] [] σ
  unfold f_X12_way at h
  refine PW_aload_n (pc' := 1) (q := 0) (pw_dk dc_X12_way 0 rfl) rfl rfl rfl ?_
  refine PW_iconst (pc' := 2) (v := 0) (pw_dk dc_X12_way 1 rfl) rfl (by decide) ?_
  obtain ⟨σ_1, e_2, h⟩ := lt_x h
  refine PZ_putX (pc' := 5) (σ' := σ_1) (id := 5000) (ci := 12) (nn := 0) (C0 := RX12) (T := TX12) (N := 62) (j := 0) (ty := tyX12 0) (pw_dk dc_X12_way 2 rfl) rfl me_5000 rfl pi_12 tyX12_ok nmX12 (by decide) fk_12_0 tw_1397 rfl (tyX12_ok 0 (by decide)) (by first | rfl | decide) (by first | rfl | decide) e_2 ?_
  refine PW_aload_n (pc' := 6) (q := 0) (pw_dk dc_X12_way 3 rfl) rfl rfl rfl ?_
  refine PW_iload_n (pc' := 7) (q := 1) (pw_dk dc_X12_way 4 rfl) rfl rfl rfl ?_
  refine PW_iload_n (pc' := 8) (q := 2) (pw_dk dc_X12_way 5 rfl) rfl rfl rfl ?_
  refine PW_iload_n (pc' := 9) (q := 3) (pw_dk dc_X12_way 6 rfl) rfl rfl rfl ?_
  refine PZ_callVi (pc' := 12) (y := yX12_isAsked) (M' := mX12_isAsked) (d' := 1) (As := [.int x1, .int x2, .int x3]) (st := []) (b := 5000) (ci := 12) (nn := 0) me_5000 rfl tw_1881 tw_94 (pw_dk dc_X12_way 7 rfl) rfl Y_X12_isAsked tw_1879 rfl (by decide) (Nat.le_of_ble_eq_true rfl) (t_X12_isAsked x1 x2 x3 σ_1 _ ?_)
  obtain ⟨v_4, e_5, h⟩ := wp_bind h
  refine ⟨v_4, e_5, _, rfl, fun hn_3 => ?_⟩
  show PZ alM mX12_way (6) Q 12 [(0, .ref 5000), (1, .int x1), (2, .int x2), (3, .int x3), (4, .int x4)] [.int v_4] σ_1
  refine PW_if_eq (pc' := 15) (tgt := 20) (pw_dk dc_X12_way 8 rfl) rfl (by decide) (fun c_6 => ?_) (fun c_6 => ?_)
  · rw [if_pos c_6] at h
    refine PW_iconst (pc' := 21) (v := (-1 : Int32)) (pw_dk dc_X12_way 11 rfl) rfl (by decide) ?_
    have z := wp_some h
    exact PZ_iret (ty := .int) (pw_dk dc_X12_way 12 rfl) rfl rfl z
  · rw [if_neg c_6] at h
    refine PW_iload (pc' := 17) (q := 4) (pw_dk dc_X12_way 9 rfl) rfl rfl ?_
    refine PW_if_ge (pc' := 20) (tgt := 22) (pw_dk dc_X12_way 10 rfl) rfl (by decide) (fun c_7 => ?_) (fun c_7 => ?_)
    · rw [if_pos c_7] at h
      refine PW_aload_n (pc' := 23) (q := 0) (pw_dk dc_X12_way 13 rfl) rfl rfl rfl ?_
      refine PW_iload_n (pc' := 24) (q := 1) (pw_dk dc_X12_way 14 rfl) rfl rfl rfl ?_
      refine PW_iload_n (pc' := 25) (q := 2) (pw_dk dc_X12_way 15 rfl) rfl rfl rfl ?_
      refine PW_iload_n (pc' := 26) (q := 3) (pw_dk dc_X12_way 16 rfl) rfl rfl rfl ?_
      refine PZ_callVv (pc' := 29) (y := yX12_layGoal) (M' := mX12_layGoal) (d' := 5) (As := [.int x1, .int x2, .int x3]) (st := []) (b := 5000) (ci := 12) (nn := 0) me_5000 rfl tw_1885 tw_95 (pw_dk dc_X12_way 17 rfl) rfl Y_X12_layGoal tw_1883 rfl (by decide) (Nat.le_of_ble_eq_true rfl) (t_X12_layGoal x1 x2 x3 σ_1 _ ?_)
      obtain ⟨σ_9, e_10, h⟩ := wp_bind h
      refine ⟨σ_9, e_10, rfl, fun hn_8 => ?_⟩
      show PZ alM mX12_way (6) Q 29 [(0, .ref 5000), (1, .int x1), (2, .int x2), (3, .int x3), (4, .int x4)] [] σ_9
      refine PW_aload_n (pc' := 30) (q := 0) (pw_dk dc_X12_way 18 rfl) rfl rfl rfl ?_
      refine PZ_callVv (pc' := 33) (y := yX12_layToGoal) (M' := mX12_layToGoal) (d' := 3) (As := []) (st := []) (b := 5000) (ci := 12) (nn := 0) me_5000 rfl tw_1893 tw_97 (pw_dk dc_X12_way 19 rfl) rfl Y_X12_layToGoal tw_1891 rfl (by decide) (Nat.le_of_ble_eq_true rfl) (t_X12_layToGoal σ_9 _ ?_)
      obtain ⟨σ_12, e_13, h⟩ := wp_bind h
      refine ⟨σ_12, e_13, rfl, fun hn_11 => ?_⟩
      show PZ alM mX12_way (6) Q 33 [(0, .ref 5000), (1, .int x1), (2, .int x2), (3, .int x3), (4, .int x4)] [] σ_12
      refine PW_aload_n (pc' := 34) (q := 0) (pw_dk dc_X12_way 20 rfl) rfl rfl rfl ?_
      refine PW_getR (pc' := 37) (id := 5000) (ci := 12) (nn := 0) (C0 := RX12) (T := TX12) (N := 62) (j := 41) (r := 5042) (pw_dk dc_X12_way 21 rfl) rfl me_5000 rfl pi_12 (by decide) fk_12_41 tw_1438 (rfl) (by decide) ?_
      refine PW_iload_n (pc' := 38) (q := 1) (pw_dk dc_X12_way 22 rfl) rfl rfl rfl ?_
      obtain ⟨v_14, hi_15, e_16, h⟩ := wp_rdIx h
      refine PZ_ialdx (pc' := 39) (v := v_14) (id := 5042) (nn := 115) (pw_dk dc_X12_way 23 rfl) rfl me_5042 hi_15 e_16 ?_
      refine PW_istore (pc' := 41) (lv' := [(5, .int v_14), (0, .ref 5000), (1, .int x1), (2, .int x2), (3, .int x3), (4, .int x4)]) (pw_dk dc_X12_way 24 rfl) rfl (by decide) rfl ?_
      refine PW_aload_n (pc' := 42) (q := 1) (pw_dk dc_X12_way 25 rfl) rfl rfl rfl ?_
      refine PW_getR (pc' := 45) (id := 5000) (ci := 12) (nn := 0) (C0 := RX12) (T := TX12) (N := 62) (j := 48) (r := 5049) (pw_dk dc_X12_way 26 rfl) rfl me_5000 rfl pi_12 (by decide) fk_12_48 tw_1445 (rfl) (by decide) ?_
      refine PW_iload (pc' := 47) (q := 0) (pw_dk dc_X12_way 27 rfl) rfl rfl ?_
      obtain ⟨v_17, hi_18, e_19, h⟩ := wp_rdIx h
      refine PZ_ialdx (pc' := 48) (v := v_17) (id := 5049) (nn := 192) (pw_dk dc_X12_way 28 rfl) rfl me_5049 hi_18 e_19 ?_
      refine PW_sipush (pc' := 51) (v := 1000) (pw_dk dc_X12_way 29 rfl) rfl (by decide) ?_
      refine PW_icmp_ge (pc' := 54) (tgt := 66) (pw_dk dc_X12_way 30 rfl) rfl (by decide) (fun c_20 => ?_) (fun c_20 => ?_)
      · rw [if_pos c_20] at h
        refine PW_sub (lv' := []) [] rfl ?_
        exact b_X12_way_66 σ_12 h
      · rw [if_neg c_20] at h
        refine PW_iload (pc' := 56) (q := 5) (pw_dk dc_X12_way 31 rfl) rfl rfl ?_
        refine PW_aload_n (pc' := 57) (q := 1) (pw_dk dc_X12_way 32 rfl) rfl rfl rfl ?_
        refine PW_getR (pc' := 60) (id := 5000) (ci := 12) (nn := 0) (C0 := RX12) (T := TX12) (N := 62) (j := 48) (r := 5049) (pw_dk dc_X12_way 33 rfl) rfl me_5000 rfl pi_12 (by decide) fk_12_48 tw_1445 (rfl) (by decide) ?_
        refine PW_iload (pc' := 62) (q := 0) (pw_dk dc_X12_way 34 rfl) rfl rfl ?_
        obtain ⟨v_21, hi_22, e_23, h⟩ := wp_rdIx h
        refine PZ_ialdx (pc' := 63) (v := v_21) (id := 5049) (nn := 192) (pw_dk dc_X12_way 35 rfl) rfl me_5049 hi_22 e_23 ?_
        refine PW_icmp_lt (pc' := 66) (tgt := 69) (pw_dk dc_X12_way 36 rfl) rfl (by decide) (fun c_24 => ?_) (fun c_24 => ?_)
        · rw [if_pos c_24] at h
          refine PW_iconst (pc' := 70) (v := 0) (pw_dk dc_X12_way 39 rfl) rfl (by decide) ?_
          refine PW_istore (pc' := 72) (lv' := [(6, .int 0), (5, .int v_14), (0, .ref 5000), (1, .int x1), (2, .int x2), (3, .int x3), (4, .int x4)]) (pw_dk dc_X12_way 40 rfl) rfl (by decide) rfl ?_
          refine PW_iconst (pc' := 73) (v := 0) (pw_dk dc_X12_way 41 rfl) rfl (by decide) ?_
          refine PW_istore (pc' := 75) (lv' := [(7, .int 0), (6, .int 0), (5, .int v_14), (0, .ref 5000), (1, .int x1), (2, .int x2), (3, .int x3), (4, .int x4)]) (pw_dk dc_X12_way 42 rfl) rfl (by decide) rfl ?_
          refine PW_sub (lv' := [(0, .ref 5000), (4, .int x4), (5, .int v_14), (6, .int 0), (7, .int 0)]) [3, 7, 2, 1, 0] rfl ?_
          exact b_X12_way_75 FU x4 v_14 0 0 σ_12 h
        · rw [if_neg c_24] at h
          refine PW_sub (lv' := []) [] rfl ?_
          exact b_X12_way_66 σ_12 h
    · rw [if_neg c_7] at h
      refine PW_iconst (pc' := 21) (v := (-1 : Int32)) (pw_dk dc_X12_way 11 rfl) rfl (by decide) ?_
      have z := wp_some h
      exact PZ_iret (ty := .int) (pw_dk dc_X12_way 12 rfl) rfl rfl z
def f_X12_layFrom_26 (r2 : Int32 → Int32 → zS → Option zS) (x1 : Int32) (x2 : Int32) (s1 : Int32) (s2 : Int32) (σ : zS) : Option zS := 
  (wrI σ 5049 192 s1 s2).bind fun σ_1 =>
  r2 x1 (x2 + 1) σ_1
theorem b_X12_layFrom_26 {Q : Option Value → zS → Prop} (r2 : Int32 → Int32 → zS → Option zS) (hr2 : ∀ (x1 : Int32) (x2 : Int32) (σ : zS), wpO (r2 x1 x2 σ) (fun s => Q none s) → PZ alM mX12_layFrom (3) Q 2 [(0, .ref 5000), (1, .int x1), (2, .int x2)] [] σ) (x1 : Int32) (x2 : Int32) (s1 : Int32) (s2 : Int32) (σ : zS) (h : wpO (f_X12_layFrom_26 r2 x1 x2 s1 s2 σ) (fun s => Q none s)) : PZ alM mX12_layFrom (3) Q 26 [(0, .ref 5000), (1, .int x1), (2, .int x2)] [.int s2, .int s1, .ref 5049] σ := by
  unfold f_X12_layFrom_26 at h
  obtain ⟨σ_1, hi_2, e_3, h⟩ := wp_wrIx h
  refine PZ_iastx (pc' := 27) (σ' := σ_1) (id := 5049) (nn := 192) (pw_dk dc_X12_layFrom 14 rfl) rfl me_5049 hi_2 e_3 ?_
  refine PW_iinc (pc' := 30) (q := 2) (v := x2 + 1) (lv' := [(2, .int (x2 + 1)), (0, .ref 5000), (1, .int x1)]) (pw_dk dc_X12_layFrom 15 rfl) rfl rfl rfl (by decide) rfl ?_
  refine PW_goto (tgt := 2) (pw_dk dc_X12_layFrom 16 rfl) (by decide) ?_
  refine PW_sub (lv' := [(0, .ref 5000), (1, .int x1), (2, .int (x2 + 1))]) [1, 2, 0] rfl ?_
  exact hr2 x1 (x2 + 1) σ_1 h
def f_X12_layFrom_2  : Nat → Int32 → Int32 → zS → Option zS
  | 0, _, _, _ => none
  | n + 1, x1, x2, σ => 
    if 192 ≤ x2 then
      (f_X12_spreadsSteps σ).bind fun σ_3 =>
      some σ_3
    else
      if x2 = x1 then
        f_X12_layFrom_26 (f_X12_layFrom_2 n) x1 x2 x2 0 σ
      else
        f_X12_layFrom_26 (f_X12_layFrom_2 n) x1 x2 x2 1000 σ
theorem b_X12_layFrom_2 {Q : Option Value → zS → Prop} : ∀ (n : Nat) (x1 : Int32) (x2 : Int32) (σ : zS) (h : wpO (f_X12_layFrom_2 n x1 x2 σ) (fun s => Q none s)), PZ alM mX12_layFrom (3) Q 2 [(0, .ref 5000), (1, .int x1), (2, .int x2)] [] σ := by
  intro n
  induction n with
  | zero => intro x1 x2 σ h; exact wp_none h
  | succ n ih =>
    intro x1 x2 σ h
    rw [f_X12_layFrom_2] at h
    refine PW_iload_n (pc' := 3) (q := 2) (pw_dk dc_X12_layFrom 2 rfl) rfl rfl rfl ?_
    refine PW_sipush (pc' := 6) (v := 192) (pw_dk dc_X12_layFrom 3 rfl) rfl (by decide) ?_
    refine PW_icmp_ge (pc' := 9) (tgt := 33) (pw_dk dc_X12_layFrom 4 rfl) rfl (by decide) (fun c_1 => ?_) (fun c_1 => ?_)
    · rw [if_pos c_1] at h
      refine PW_aload_n (pc' := 34) (q := 0) (pw_dk dc_X12_layFrom 17 rfl) rfl rfl rfl ?_
      refine PZ_callVv (pc' := 37) (y := yX12_spreadsSteps) (M' := mX12_spreadsSteps) (d' := 2) (As := []) (st := []) (b := 5000) (ci := 12) (nn := 0) me_5000 rfl tw_1897 tw_98 (pw_dk dc_X12_layFrom 18 rfl) rfl Y_X12_spreadsSteps tw_1895 rfl (by decide) (Nat.le_of_ble_eq_true rfl) (t_X12_spreadsSteps σ _ ?_)
      obtain ⟨σ_3, e_4, h⟩ := wp_bind h
      refine ⟨σ_3, e_4, rfl, fun hn_2 => ?_⟩
      show PZ alM mX12_layFrom (3) Q 37 [(0, .ref 5000), (1, .int x1), (2, .int x2)] [] σ_3
      have z := wp_some h
      exact PZ_vret (pw_dk dc_X12_layFrom 19 rfl) rfl z
    · rw [if_neg c_1] at h
      refine PW_aload_n (pc' := 10) (q := 0) (pw_dk dc_X12_layFrom 5 rfl) rfl rfl rfl ?_
      refine PW_getR (pc' := 13) (id := 5000) (ci := 12) (nn := 0) (C0 := RX12) (T := TX12) (N := 62) (j := 48) (r := 5049) (pw_dk dc_X12_layFrom 6 rfl) rfl me_5000 rfl pi_12 (by decide) fk_12_48 tw_1445 (rfl) (by decide) ?_
      refine PW_iload_n (pc' := 14) (q := 2) (pw_dk dc_X12_layFrom 7 rfl) rfl rfl rfl ?_
      refine PW_iload_n (pc' := 15) (q := 2) (pw_dk dc_X12_layFrom 8 rfl) rfl rfl rfl ?_
      refine PW_iload_n (pc' := 16) (q := 1) (pw_dk dc_X12_layFrom 9 rfl) rfl rfl rfl ?_
      refine PW_icmp_ne (pc' := 19) (tgt := 23) (pw_dk dc_X12_layFrom 10 rfl) rfl (by decide) (fun c_5 => ?_) (fun c_5 => ?_)
      · rw [if_neg c_5] at h
        refine PW_sipush (pc' := 26) (v := 1000) (pw_dk dc_X12_layFrom 13 rfl) rfl (by decide) ?_
        exact b_X12_layFrom_26 (f_X12_layFrom_2 n) ih x1 x2 x2 1000 σ h
      · rw [if_pos c_5] at h
        refine PW_iconst (pc' := 20) (v := 0) (pw_dk dc_X12_layFrom 11 rfl) rfl (by decide) ?_
        refine PW_goto (tgt := 26) (pw_dk dc_X12_layFrom 12 rfl) (by decide) ?_
        exact b_X12_layFrom_26 (f_X12_layFrom_2 n) ih x1 x2 x2 0 σ h
def f_X12_layFrom (x1 : Int32) (σ : zS) : Option zS := 
  f_X12_layFrom_2 FU x1 0 σ
theorem t_X12_layFrom (x1 : Int32) (σ : zS) (Q : Option Value → zS → Prop) (h : wpO (f_X12_layFrom x1 σ) (fun s => Q none s)) : PK alM yX12_layFrom mX12_layFrom (3) [.ref 5000, .int x1] σ Q := by
  refine PC_ofF (by decide +kernel) rfl rfl (Nat.le_of_ble_eq_true rfl) ?_
  show PZ alM mX12_layFrom (3) Q 0 [(0, .ref 5000), (1, .int x1)] [] σ
  unfold f_X12_layFrom at h
  refine PW_iconst (pc' := 1) (v := 0) (pw_dk dc_X12_layFrom 0 rfl) rfl (by decide) ?_
  refine PW_istore_n (pc' := 2) (lv' := [(2, .int 0), (0, .ref 5000), (1, .int x1)]) (pw_dk dc_X12_layFrom 1 rfl) rfl rfl (by decide) rfl ?_
  refine PW_sub (lv' := [(0, .ref 5000), (1, .int x1), (2, .int 0)]) [1, 2, 0] rfl ?_
  exact b_X12_layFrom_2 FU x1 0 σ h
def f_J9_abs_0f7a4 (x0 : Int32) (σ : zS) : Int32 := 
  if 0 ≤ x0 then
    x0
  else
    -x0
theorem t_J9_abs_0f7a4 (al : pAL) (x0 : Int32) (σ : zS) (Q : Option Value → zS → Prop) (h : Q (some (.int (f_J9_abs_0f7a4 x0 σ))) σ) : PK al yJ9_abs_0f7a4 mJ9_abs_0f7a4 (0) [.int x0] σ Q := by
  refine PC_ofF (by decide +kernel) rfl rfl (Nat.le_of_ble_eq_true rfl) ?_
  show PZ al mJ9_abs_0f7a4 (0) Q 0 [(0, .int x0)] [] σ
  unfold f_J9_abs_0f7a4 at h
  refine PW_iload_n (pc' := 1) (q := 0) (pw_dk dc_J9_abs_0f7a4 0 rfl) rfl rfl rfl ?_
  refine PW_if_ge (pc' := 4) (tgt := 9) (pw_dk dc_J9_abs_0f7a4 1 rfl) rfl (by decide) (fun c_1 => ?_) (fun c_1 => ?_)
  · rw [if_pos c_1] at h
    refine PW_iload_n (pc' := 10) (q := 0) (pw_dk dc_J9_abs_0f7a4 5 rfl) rfl rfl rfl ?_
    exact PZ_iret (ty := .int) (pw_dk dc_J9_abs_0f7a4 6 rfl) rfl rfl h
  · rw [if_neg c_1] at h
    refine PW_iload_n (pc' := 5) (q := 0) (pw_dk dc_J9_abs_0f7a4 2 rfl) rfl rfl rfl ?_
    refine PW_ineg (pc' := 6) (pw_dk dc_J9_abs_0f7a4 3 rfl) rfl ?_
    refine PW_goto (tgt := 10) (pw_dk dc_J9_abs_0f7a4 4 rfl) (by decide) ?_
    exact PZ_iret (ty := .int) (pw_dk dc_J9_abs_0f7a4 6 rfl) rfl rfl h
def f_X12_joint_96 (r48 : Int32 → Int32 → Int32 → Int32 → Int32 → Int32 → zS → Option (Int32 × zS)) (x1 : Int32) (x2 : Int32) (x3 : Int32) (x4 : Int32) (x5 : Int32) (x6 : Int32) (s1 : Int32) (s2 : Int32) (σ : zS) : Option (Int32 × zS) := 
  (wrI σ 5050 192 s1 s2).bind fun σ_1 =>
  r48 x1 x2 x3 x4 x5 (x6 + 1) σ_1
theorem b_X12_joint_96 {Q : Option Value → zS → Prop} (r48 : Int32 → Int32 → Int32 → Int32 → Int32 → Int32 → zS → Option (Int32 × zS)) (hr48 : ∀ (x1 : Int32) (x2 : Int32) (x3 : Int32) (x4 : Int32) (x5 : Int32) (x6 : Int32) (σ : zS), wpO (r48 x1 x2 x3 x4 x5 x6 σ) (fun a => Q (some (.int a.1)) a.2) → PZ alM mX12_joint (6) Q 48 [(0, .ref 5000), (1, .int x1), (2, .int x2), (3, .int x3), (4, .int x4), (5, .int x5), (6, .int x6)] [] σ) (x1 : Int32) (x2 : Int32) (x3 : Int32) (x4 : Int32) (x5 : Int32) (x6 : Int32) (s1 : Int32) (s2 : Int32) (σ : zS) (h : wpO (f_X12_joint_96 r48 x1 x2 x3 x4 x5 x6 s1 s2 σ) (fun a => Q (some (.int a.1)) a.2)) : PZ alM mX12_joint (6) Q 96 [(0, .ref 5000), (1, .int x1), (2, .int x2), (3, .int x3), (4, .int x4), (5, .int x5), (6, .int x6)] [.int s2, .int s1, .ref 5050] σ := by
  unfold f_X12_joint_96 at h
  obtain ⟨σ_1, hi_2, e_3, h⟩ := wp_wrIx h
  refine PZ_iastx (pc' := 97) (σ' := σ_1) (id := 5050) (nn := 192) (pw_dk dc_X12_joint 52 rfl) rfl me_5050 hi_2 e_3 ?_
  refine PW_iinc (pc' := 100) (q := 6) (v := x6 + 1) (lv' := [(6, .int (x6 + 1)), (0, .ref 5000), (1, .int x1), (2, .int x2), (3, .int x3), (4, .int x4), (5, .int x5)]) (pw_dk dc_X12_joint 53 rfl) rfl rfl rfl (by decide) rfl ?_
  refine PW_goto (tgt := 48) (pw_dk dc_X12_joint 54 rfl) (by decide) ?_
  refine PW_sub (lv' := [(0, .ref 5000), (1, .int x1), (2, .int x2), (3, .int x3), (4, .int x4), (5, .int x5), (6, .int (x6 + 1))]) [1, 2, 3, 4, 5, 6, 0] rfl ?_
  exact hr48 x1 x2 x3 x4 x5 (x6 + 1) σ_1 h
def f_X12_joint_203 (r141 : Int32 → Int32 → Int32 → Int32 → Int32 → zS → Option (Int32 × zS)) (x2 : Int32) (x4 : Int32) (x6 : Int32) (x7 : Int32) (x8 : Int32) (σ : zS) : Option (Int32 × zS) := 
  r141 x2 x4 x6 x7 (x8 + 1) σ
theorem b_X12_joint_203 {Q : Option Value → zS → Prop} (r141 : Int32 → Int32 → Int32 → Int32 → Int32 → zS → Option (Int32 × zS)) (hr141 : ∀ (x2 : Int32) (x4 : Int32) (x6 : Int32) (x7 : Int32) (x8 : Int32) (σ : zS), wpO (r141 x2 x4 x6 x7 x8 σ) (fun a => Q (some (.int a.1)) a.2) → PZ alM mX12_joint (6) Q 141 [(0, .ref 5000), (2, .int x2), (4, .int x4), (6, .int x6), (7, .int x7), (8, .int x8)] [] σ) (x2 : Int32) (x4 : Int32) (x6 : Int32) (x7 : Int32) (x8 : Int32) (σ : zS) (h : wpO (f_X12_joint_203 r141 x2 x4 x6 x7 x8 σ) (fun a => Q (some (.int a.1)) a.2)) : PZ alM mX12_joint (6) Q 203 [(0, .ref 5000), (2, .int x2), (4, .int x4), (6, .int x6), (7, .int x7), (8, .int x8)] [] σ := by
  unfold f_X12_joint_203 at h
  refine PW_iinc (pc' := 206) (q := 5) (v := x8 + 1) (lv' := [(8, .int (x8 + 1)), (0, .ref 5000), (2, .int x2), (4, .int x4), (6, .int x6), (7, .int x7)]) (pw_dk dc_X12_joint 107 rfl) rfl rfl rfl (by decide) rfl ?_
  refine PW_goto (tgt := 141) (pw_dk dc_X12_joint 108 rfl) (by decide) ?_
  refine PW_sub (lv' := [(0, .ref 5000), (2, .int x2), (4, .int x4), (6, .int x6), (7, .int x7), (8, .int (x8 + 1))]) [1, 2, 3, 4, 5, 0] rfl ?_
  exact hr141 x2 x4 x6 x7 (x8 + 1) σ h
def f_X12_joint_209 (r129 : Int32 → Int32 → Int32 → Int32 → zS → Option (Int32 × zS)) (x2 : Int32) (x4 : Int32) (x6 : Int32) (x7 : Int32) (σ : zS) : Option (Int32 × zS) := 
  r129 x2 x4 x6 (x7 + 1) σ
theorem b_X12_joint_209 {Q : Option Value → zS → Prop} (r129 : Int32 → Int32 → Int32 → Int32 → zS → Option (Int32 × zS)) (hr129 : ∀ (x2 : Int32) (x4 : Int32) (x6 : Int32) (x7 : Int32) (σ : zS), wpO (r129 x2 x4 x6 x7 σ) (fun a => Q (some (.int a.1)) a.2) → PZ alM mX12_joint (6) Q 129 [(0, .ref 5000), (2, .int x2), (4, .int x4), (6, .int x6), (7, .int x7)] [] σ) (x2 : Int32) (x4 : Int32) (x6 : Int32) (x7 : Int32) (σ : zS) (h : wpO (f_X12_joint_209 r129 x2 x4 x6 x7 σ) (fun a => Q (some (.int a.1)) a.2)) : PZ alM mX12_joint (6) Q 209 [(0, .ref 5000), (2, .int x2), (4, .int x4), (6, .int x6), (7, .int x7)] [] σ := by
  unfold f_X12_joint_209 at h
  refine PW_iinc (pc' := 212) (q := 4) (v := x7 + 1) (lv' := [(7, .int (x7 + 1)), (0, .ref 5000), (2, .int x2), (4, .int x4), (6, .int x6)]) (pw_dk dc_X12_joint 109 rfl) rfl rfl rfl (by decide) rfl ?_
  refine PW_goto (tgt := 129) (pw_dk dc_X12_joint 110 rfl) (by decide) ?_
  refine PW_sub (lv' := [(0, .ref 5000), (2, .int x2), (4, .int x4), (6, .int x6), (7, .int (x7 + 1))]) [1, 2, 3, 4, 0] rfl ?_
  exact hr129 x2 x4 x6 (x7 + 1) σ h
def f_X12_joint_141 (r129 : Int32 → Int32 → Int32 → Int32 → zS → Option (Int32 × zS)) : Nat → Int32 → Int32 → Int32 → Int32 → Int32 → zS → Option (Int32 × zS)
  | 0, _, _, _, _, _, _ => none
  | n + 1, x2, x4, x6, x7, x8, σ => 
    (f_X12_statesMany σ).bind fun v_2 =>
    if v_2 ≤ x8 then
      f_X12_joint_209 r129 x2 x4 x6 x7 σ
    else
      (rdI σ 5051 192 x7).bind fun v_5 =>
      if v_5 = 0 then
        f_X12_joint_209 r129 x2 x4 x6 x7 σ
      else
        if 1 < (f_J9_abs_0f7a4 ((f_X12_placeOf x7 x2 σ) - (f_X12_placeOf x8 x4 σ)) σ) then
          f_X12_joint_203 (f_X12_joint_141 r129 n) x2 x4 x6 x7 x8 σ
        else
          (rdI σ 5049 192 x7).bind fun v_13 =>
          (rdI σ 5050 192 x8).bind fun v_16 =>
          lt (α := Int32) (f_J9_min_7cf53 x6 (v_13 + v_16) σ) fun x6_20 =>
          f_X12_joint_203 (f_X12_joint_141 r129 n) x2 x4 x6_20 x7 x8 σ
theorem b_X12_joint_141 {Q : Option Value → zS → Prop} (r129 : Int32 → Int32 → Int32 → Int32 → zS → Option (Int32 × zS)) (hr129 : ∀ (x2 : Int32) (x4 : Int32) (x6 : Int32) (x7 : Int32) (σ : zS), wpO (r129 x2 x4 x6 x7 σ) (fun a => Q (some (.int a.1)) a.2) → PZ alM mX12_joint (6) Q 129 [(0, .ref 5000), (2, .int x2), (4, .int x4), (6, .int x6), (7, .int x7)] [] σ) : ∀ (n : Nat) (x2 : Int32) (x4 : Int32) (x6 : Int32) (x7 : Int32) (x8 : Int32) (σ : zS) (h : wpO (f_X12_joint_141 r129 n x2 x4 x6 x7 x8 σ) (fun a => Q (some (.int a.1)) a.2)), PZ alM mX12_joint (6) Q 141 [(0, .ref 5000), (2, .int x2), (4, .int x4), (6, .int x6), (7, .int x7), (8, .int x8)] [] σ := by
  intro n
  induction n with
  | zero => intro x2 x4 x6 x7 x8 σ h; exact wp_none h
  | succ n ih =>
    intro x2 x4 x6 x7 x8 σ h
    rw [f_X12_joint_141] at h
    refine PW_iload (pc' := 143) (q := 5) (pw_dk dc_X12_joint 76 rfl) rfl rfl ?_
    refine PW_aload_n (pc' := 144) (q := 0) (pw_dk dc_X12_joint 77 rfl) rfl rfl rfl ?_
    refine PZ_callVi (pc' := 147) (y := yX12_statesMany) (M' := mX12_statesMany) (d' := 0) (As := []) (st := [.int x8]) (b := 5000) (ci := 12) (nn := 0) me_5000 rfl tw_1889 tw_96 (pw_dk dc_X12_joint 78 rfl) rfl Y_X12_statesMany tw_1887 rfl (by decide) (Nat.le_of_ble_eq_true rfl) (t_X12_statesMany σ _ ?_)
    obtain ⟨v_2, e_3, h⟩ := wp_bind h
    refine ⟨v_2, e_3, _, rfl, fun hn_1 => ?_⟩
    show PZ alM mX12_joint (6) Q 147 [(0, .ref 5000), (2, .int x2), (4, .int x4), (6, .int x6), (7, .int x7), (8, .int x8)] [.int v_2, .int x8] σ
    refine PW_icmp_ge (pc' := 150) (tgt := 209) (pw_dk dc_X12_joint 79 rfl) rfl (by decide) (fun c_4 => ?_) (fun c_4 => ?_)
    · rw [if_pos c_4] at h
      refine PW_sub (lv' := [(0, .ref 5000), (2, .int x2), (4, .int x4), (6, .int x6), (7, .int x7)]) [0, 1, 2, 3, 4] rfl ?_
      exact b_X12_joint_209 r129 hr129 x2 x4 x6 x7 σ h
    · rw [if_neg c_4] at h
      refine PW_aload_n (pc' := 151) (q := 0) (pw_dk dc_X12_joint 80 rfl) rfl rfl rfl ?_
      refine PW_getR (pc' := 154) (id := 5000) (ci := 12) (nn := 0) (C0 := RX12) (T := TX12) (N := 62) (j := 50) (r := 5051) (pw_dk dc_X12_joint 81 rfl) rfl me_5000 rfl pi_12 (by decide) fk_12_50 tw_1447 (rfl) (by decide) ?_
      refine PW_iload (pc' := 156) (q := 4) (pw_dk dc_X12_joint 82 rfl) rfl rfl ?_
      obtain ⟨v_5, hi_6, e_7, h⟩ := wp_rdIx h
      refine PZ_zaldx (pc' := 157) (v := v_5) (id := 5051) (nn := 192) (pw_dk dc_X12_joint 83 rfl) rfl me_5051 hi_6 e_7 ?_
      refine PW_if_eq (pc' := 160) (tgt := 209) (pw_dk dc_X12_joint 84 rfl) rfl (by decide) (fun c_8 => ?_) (fun c_8 => ?_)
      · rw [if_pos c_8] at h
        refine PW_sub (lv' := [(0, .ref 5000), (2, .int x2), (4, .int x4), (6, .int x6), (7, .int x7)]) [0, 1, 2, 3, 4] rfl ?_
        exact b_X12_joint_209 r129 hr129 x2 x4 x6 x7 σ h
      · rw [if_neg c_8] at h
        refine PW_iload (pc' := 162) (q := 4) (pw_dk dc_X12_joint 85 rfl) rfl rfl ?_
        refine PW_iload_n (pc' := 163) (q := 1) (pw_dk dc_X12_joint 86 rfl) rfl rfl rfl ?_
        refine PZ_callSi (pc' := 166) (y := yX12_placeOf) (M' := mX12_placeOf) (d' := 1) (As := [.int x7, .int x2]) (st := []) tw_1766 (pw_dk dc_X12_joint 87 rfl) rfl Y_X12_placeOf tw_1765 rfl (by decide) (Nat.le_of_ble_eq_true rfl) (t_X12_placeOf x7 x2 σ _ ?_)
        refine ⟨_, rfl, fun hn_9 => ?_⟩
        show PZ alM mX12_joint (6) Q 166 [(0, .ref 5000), (2, .int x2), (4, .int x4), (6, .int x6), (7, .int x7), (8, .int x8)] [.int (f_X12_placeOf x7 x2 σ)] σ
        refine PW_iload (pc' := 168) (q := 5) (pw_dk dc_X12_joint 88 rfl) rfl rfl ?_
        refine PW_iload (pc' := 170) (q := 2) (pw_dk dc_X12_joint 89 rfl) rfl rfl ?_
        refine PZ_callSi (pc' := 173) (y := yX12_placeOf) (M' := mX12_placeOf) (d' := 1) (As := [.int x8, .int x4]) (st := [.int (f_X12_placeOf x7 x2 σ)]) tw_1766 (pw_dk dc_X12_joint 90 rfl) rfl Y_X12_placeOf tw_1765 rfl (by decide) (Nat.le_of_ble_eq_true rfl) (t_X12_placeOf x8 x4 σ _ ?_)
        refine ⟨_, rfl, fun hn_10 => ?_⟩
        show PZ alM mX12_joint (6) Q 173 [(0, .ref 5000), (2, .int x2), (4, .int x4), (6, .int x6), (7, .int x7), (8, .int x8)] [.int (f_X12_placeOf x8 x4 σ), .int (f_X12_placeOf x7 x2 σ)] σ
        refine PW_isub (pc' := 174) (pw_dk dc_X12_joint 91 rfl) rfl ?_
        refine PZ_callSi (pc' := 177) (y := yJ9_abs_0f7a4) (M' := mJ9_abs_0f7a4) (d' := 0) (As := [.int ((f_X12_placeOf x7 x2 σ) - (f_X12_placeOf x8 x4 σ))]) (st := []) tw_1912 (pw_dk dc_X12_joint 92 rfl) rfl Y_J9_abs_0f7a4 tw_1911 rfl (by decide) (Nat.le_of_ble_eq_true rfl) (t_J9_abs_0f7a4 alM ((f_X12_placeOf x7 x2 σ) - (f_X12_placeOf x8 x4 σ)) σ _ ?_)
        refine ⟨_, rfl, fun hn_11 => ?_⟩
        show PZ alM mX12_joint (6) Q 177 [(0, .ref 5000), (2, .int x2), (4, .int x4), (6, .int x6), (7, .int x7), (8, .int x8)] [.int (f_J9_abs_0f7a4 ((f_X12_placeOf x7 x2 σ) - (f_X12_placeOf x8 x4 σ)) σ)] σ
        refine PW_iconst (pc' := 178) (v := 1) (pw_dk dc_X12_joint 93 rfl) rfl (by decide) ?_
        refine PW_icmp_gt (pc' := 181) (tgt := 203) (pw_dk dc_X12_joint 94 rfl) rfl (by decide) (fun c_12 => ?_) (fun c_12 => ?_)
        · rw [if_pos c_12] at h
          exact b_X12_joint_203 (f_X12_joint_141 r129 n) ih x2 x4 x6 x7 x8 σ h
        · rw [if_neg c_12] at h
          refine PW_iload (pc' := 183) (q := 3) (pw_dk dc_X12_joint 95 rfl) rfl rfl ?_
          refine PW_aload_n (pc' := 184) (q := 0) (pw_dk dc_X12_joint 96 rfl) rfl rfl rfl ?_
          refine PW_getR (pc' := 187) (id := 5000) (ci := 12) (nn := 0) (C0 := RX12) (T := TX12) (N := 62) (j := 48) (r := 5049) (pw_dk dc_X12_joint 97 rfl) rfl me_5000 rfl pi_12 (by decide) fk_12_48 tw_1445 (rfl) (by decide) ?_
          refine PW_iload (pc' := 189) (q := 4) (pw_dk dc_X12_joint 98 rfl) rfl rfl ?_
          obtain ⟨v_13, hi_14, e_15, h⟩ := wp_rdIx h
          refine PZ_ialdx (pc' := 190) (v := v_13) (id := 5049) (nn := 192) (pw_dk dc_X12_joint 99 rfl) rfl me_5049 hi_14 e_15 ?_
          refine PW_aload_n (pc' := 191) (q := 0) (pw_dk dc_X12_joint 100 rfl) rfl rfl rfl ?_
          refine PW_getR (pc' := 194) (id := 5000) (ci := 12) (nn := 0) (C0 := RX12) (T := TX12) (N := 62) (j := 49) (r := 5050) (pw_dk dc_X12_joint 101 rfl) rfl me_5000 rfl pi_12 (by decide) fk_12_49 tw_1446 (rfl) (by decide) ?_
          refine PW_iload (pc' := 196) (q := 5) (pw_dk dc_X12_joint 102 rfl) rfl rfl ?_
          obtain ⟨v_16, hi_17, e_18, h⟩ := wp_rdIx h
          refine PZ_ialdx (pc' := 197) (v := v_16) (id := 5050) (nn := 192) (pw_dk dc_X12_joint 103 rfl) rfl me_5050 hi_17 e_18 ?_
          refine PW_iadd (pc' := 198) (pw_dk dc_X12_joint 104 rfl) rfl ?_
          refine PZ_callSi (pc' := 201) (y := yJ9_min_7cf53) (M' := mJ9_min_7cf53) (d' := 0) (As := [.int x6, .int (v_13 + v_16)]) (st := []) tw_671 (pw_dk dc_X12_joint 105 rfl) rfl Y_J9_min_7cf53 tw_1868 rfl (by decide) (Nat.le_of_ble_eq_true rfl) (t_J9_min_7cf53 alM x6 (v_13 + v_16) σ _ ?_)
          refine ⟨_, rfl, fun hn_19 => ?_⟩
          show PZ alM mX12_joint (6) Q 201 [(0, .ref 5000), (2, .int x2), (4, .int x4), (6, .int x6), (7, .int x7), (8, .int x8)] [.int (f_J9_min_7cf53 x6 (v_13 + v_16) σ)] σ
          refine PW_topi (fun x6_20 ex6_20 => ?_)
          replace h := lt_w h ex6_20
          refine PW_istore (pc' := 203) (lv' := [(6, .int x6_20), (0, .ref 5000), (2, .int x2), (4, .int x4), (7, .int x7), (8, .int x8)]) (pw_dk dc_X12_joint 106 rfl) rfl (by decide) rfl ?_
          refine PW_sub (lv' := [(0, .ref 5000), (2, .int x2), (4, .int x4), (6, .int x6_20), (7, .int x7), (8, .int x8)]) [1, 2, 3, 0, 4, 5] rfl ?_
          exact b_X12_joint_203 (f_X12_joint_141 r129 n) ih x2 x4 x6_20 x7 x8 σ h
def f_X12_joint_129  : Nat → Int32 → Int32 → Int32 → Int32 → zS → Option (Int32 × zS)
  | 0, _, _, _, _, _ => none
  | n + 1, x2, x4, x6, x7, σ => 
    (f_X12_statesMany σ).bind fun v_2 =>
    if v_2 ≤ x7 then
      if x6 < 1000 then
        some (x6, σ)
      else
        some ((-2 : Int32), σ)
    else
      f_X12_joint_141 (f_X12_joint_129 n) FU x2 x4 x6 x7 0 σ
theorem b_X12_joint_129 {Q : Option Value → zS → Prop} : ∀ (n : Nat) (x2 : Int32) (x4 : Int32) (x6 : Int32) (x7 : Int32) (σ : zS) (h : wpO (f_X12_joint_129 n x2 x4 x6 x7 σ) (fun a => Q (some (.int a.1)) a.2)), PZ alM mX12_joint (6) Q 129 [(0, .ref 5000), (2, .int x2), (4, .int x4), (6, .int x6), (7, .int x7)] [] σ := by
  intro n
  induction n with
  | zero => intro x2 x4 x6 x7 σ h; exact wp_none h
  | succ n ih =>
    intro x2 x4 x6 x7 σ h
    rw [f_X12_joint_129] at h
    refine PW_iload (pc' := 131) (q := 4) (pw_dk dc_X12_joint 70 rfl) rfl rfl ?_
    refine PW_aload_n (pc' := 132) (q := 0) (pw_dk dc_X12_joint 71 rfl) rfl rfl rfl ?_
    refine PZ_callVi (pc' := 135) (y := yX12_statesMany) (M' := mX12_statesMany) (d' := 0) (As := []) (st := [.int x7]) (b := 5000) (ci := 12) (nn := 0) me_5000 rfl tw_1889 tw_96 (pw_dk dc_X12_joint 72 rfl) rfl Y_X12_statesMany tw_1887 rfl (by decide) (Nat.le_of_ble_eq_true rfl) (t_X12_statesMany σ _ ?_)
    obtain ⟨v_2, e_3, h⟩ := wp_bind h
    refine ⟨v_2, e_3, _, rfl, fun hn_1 => ?_⟩
    show PZ alM mX12_joint (6) Q 135 [(0, .ref 5000), (2, .int x2), (4, .int x4), (6, .int x6), (7, .int x7)] [.int v_2, .int x7] σ
    refine PW_icmp_ge (pc' := 138) (tgt := 215) (pw_dk dc_X12_joint 73 rfl) rfl (by decide) (fun c_4 => ?_) (fun c_4 => ?_)
    · rw [if_pos c_4] at h
      refine PW_iload (pc' := 217) (q := 3) (pw_dk dc_X12_joint 111 rfl) rfl rfl ?_
      refine PW_sipush (pc' := 220) (v := 1000) (pw_dk dc_X12_joint 112 rfl) rfl (by decide) ?_
      refine PW_icmp_lt (pc' := 223) (tgt := 228) (pw_dk dc_X12_joint 113 rfl) rfl (by decide) (fun c_5 => ?_) (fun c_5 => ?_)
      · rw [if_pos c_5] at h
        refine PW_iload (pc' := 230) (q := 3) (pw_dk dc_X12_joint 116 rfl) rfl rfl ?_
        have z := wp_some h
        exact PZ_iret (ty := .int) (pw_dk dc_X12_joint 117 rfl) rfl rfl z
      · rw [if_neg c_5] at h
        refine PW_bipush (pc' := 225) (v := (-2 : Int32)) (pw_dk dc_X12_joint 114 rfl) rfl (by decide) ?_
        refine PW_goto (tgt := 230) (pw_dk dc_X12_joint 115 rfl) (by decide) ?_
        have z := wp_some h
        exact PZ_iret (ty := .int) (pw_dk dc_X12_joint 117 rfl) rfl rfl z
    · rw [if_neg c_4] at h
      refine PW_iconst (pc' := 139) (v := 0) (pw_dk dc_X12_joint 74 rfl) rfl (by decide) ?_
      refine PW_istore (pc' := 141) (lv' := [(8, .int 0), (0, .ref 5000), (2, .int x2), (4, .int x4), (6, .int x6), (7, .int x7)]) (pw_dk dc_X12_joint 75 rfl) rfl (by decide) rfl ?_
      refine PW_sub (lv' := [(0, .ref 5000), (2, .int x2), (4, .int x4), (6, .int x6), (7, .int x7), (8, .int 0)]) [1, 2, 3, 4, 5, 0] rfl ?_
      exact b_X12_joint_141 (f_X12_joint_129 n) ih FU x2 x4 x6 x7 0 σ h
def f_X12_joint_48  : Nat → Int32 → Int32 → Int32 → Int32 → Int32 → Int32 → zS → Option (Int32 × zS)
  | 0, _, _, _, _, _, _, _ => none
  | n + 1, x1, x2, x3, x4, x5, x6, σ => 
    (f_X12_statesMany σ).bind fun v_2 =>
    if v_2 ≤ x6 then
      (rdI σ 5042 115 x1).bind fun v_5 =>
      (f_X12_layFrom v_5 σ).bind fun σ_9 =>
      (f_X12_layGoal x1 x2 x5 σ_9).bind fun σ_12 =>
      f_X12_joint_129 FU x2 x4 1000 0 σ_12
    else
      (rdI σ 5039 23 0).bind fun v_14 =>
      b2 (f_X12_isLawful x3 x6 x4 x5 v_14 σ) fun v_19 σ_18 =>
      if v_19 = 0 then
        f_X12_joint_96 (f_X12_joint_48 n) x1 x2 x3 x4 x5 x6 x6 1000 σ_18
      else
        (rdI σ_18 5049 192 x6).bind fun v_22 =>
        f_X12_joint_96 (f_X12_joint_48 n) x1 x2 x3 x4 x5 x6 x6 v_22 σ_18
theorem b_X12_joint_48 {Q : Option Value → zS → Prop} : ∀ (n : Nat) (x1 : Int32) (x2 : Int32) (x3 : Int32) (x4 : Int32) (x5 : Int32) (x6 : Int32) (σ : zS) (h : wpO (f_X12_joint_48 n x1 x2 x3 x4 x5 x6 σ) (fun a => Q (some (.int a.1)) a.2)), PZ alM mX12_joint (6) Q 48 [(0, .ref 5000), (1, .int x1), (2, .int x2), (3, .int x3), (4, .int x4), (5, .int x5), (6, .int x6)] [] σ := by
  intro n
  induction n with
  | zero => intro x1 x2 x3 x4 x5 x6 σ h; exact wp_none h
  | succ n ih =>
    intro x1 x2 x3 x4 x5 x6 σ h
    rw [f_X12_joint_48] at h
    refine PW_iload (pc' := 50) (q := 6) (pw_dk dc_X12_joint 28 rfl) rfl rfl ?_
    refine PW_aload_n (pc' := 51) (q := 0) (pw_dk dc_X12_joint 29 rfl) rfl rfl rfl ?_
    refine PZ_callVi (pc' := 54) (y := yX12_statesMany) (M' := mX12_statesMany) (d' := 0) (As := []) (st := [.int x6]) (b := 5000) (ci := 12) (nn := 0) me_5000 rfl tw_1889 tw_96 (pw_dk dc_X12_joint 30 rfl) rfl Y_X12_statesMany tw_1887 rfl (by decide) (Nat.le_of_ble_eq_true rfl) (t_X12_statesMany σ _ ?_)
    obtain ⟨v_2, e_3, h⟩ := wp_bind h
    refine ⟨v_2, e_3, _, rfl, fun hn_1 => ?_⟩
    show PZ alM mX12_joint (6) Q 54 [(0, .ref 5000), (1, .int x1), (2, .int x2), (3, .int x3), (4, .int x4), (5, .int x5), (6, .int x6)] [.int v_2, .int x6] σ
    refine PW_icmp_ge (pc' := 57) (tgt := 103) (pw_dk dc_X12_joint 31 rfl) rfl (by decide) (fun c_4 => ?_) (fun c_4 => ?_)
    · rw [if_pos c_4] at h
      refine PW_aload_n (pc' := 104) (q := 0) (pw_dk dc_X12_joint 55 rfl) rfl rfl rfl ?_
      refine PW_aload_n (pc' := 105) (q := 0) (pw_dk dc_X12_joint 56 rfl) rfl rfl rfl ?_
      refine PW_getR (pc' := 108) (id := 5000) (ci := 12) (nn := 0) (C0 := RX12) (T := TX12) (N := 62) (j := 41) (r := 5042) (pw_dk dc_X12_joint 57 rfl) rfl me_5000 rfl pi_12 (by decide) fk_12_41 tw_1438 (rfl) (by decide) ?_
      refine PW_iload_n (pc' := 109) (q := 1) (pw_dk dc_X12_joint 58 rfl) rfl rfl rfl ?_
      obtain ⟨v_5, hi_6, e_7, h⟩ := wp_rdIx h
      refine PZ_ialdx (pc' := 110) (v := v_5) (id := 5042) (nn := 115) (pw_dk dc_X12_joint 59 rfl) rfl me_5042 hi_6 e_7 ?_
      refine PZ_callVv (pc' := 113) (y := yX12_layFrom) (M' := mX12_layFrom) (d' := 3) (As := [.int v_5]) (st := []) (b := 5000) (ci := 12) (nn := 0) me_5000 rfl tw_1909 tw_99 (pw_dk dc_X12_joint 60 rfl) rfl Y_X12_layFrom tw_1907 rfl (by decide) (Nat.le_of_ble_eq_true rfl) (t_X12_layFrom v_5 σ _ ?_)
      obtain ⟨σ_9, e_10, h⟩ := wp_bind h
      refine ⟨σ_9, e_10, rfl, fun hn_8 => ?_⟩
      show PZ alM mX12_joint (6) Q 113 [(0, .ref 5000), (1, .int x1), (2, .int x2), (3, .int x3), (4, .int x4), (5, .int x5), (6, .int x6)] [] σ_9
      refine PW_aload_n (pc' := 114) (q := 0) (pw_dk dc_X12_joint 61 rfl) rfl rfl rfl ?_
      refine PW_iload_n (pc' := 115) (q := 1) (pw_dk dc_X12_joint 62 rfl) rfl rfl rfl ?_
      refine PW_iload_n (pc' := 116) (q := 2) (pw_dk dc_X12_joint 63 rfl) rfl rfl rfl ?_
      refine PW_iload (pc' := 118) (q := 5) (pw_dk dc_X12_joint 64 rfl) rfl rfl ?_
      refine PZ_callVv (pc' := 121) (y := yX12_layGoal) (M' := mX12_layGoal) (d' := 5) (As := [.int x1, .int x2, .int x5]) (st := []) (b := 5000) (ci := 12) (nn := 0) me_5000 rfl tw_1885 tw_95 (pw_dk dc_X12_joint 65 rfl) rfl Y_X12_layGoal tw_1883 rfl (by decide) (Nat.le_of_ble_eq_true rfl) (t_X12_layGoal x1 x2 x5 σ_9 _ ?_)
      obtain ⟨σ_12, e_13, h⟩ := wp_bind h
      refine ⟨σ_12, e_13, rfl, fun hn_11 => ?_⟩
      show PZ alM mX12_joint (6) Q 121 [(0, .ref 5000), (1, .int x1), (2, .int x2), (3, .int x3), (4, .int x4), (5, .int x5), (6, .int x6)] [] σ_12
      refine PW_sipush (pc' := 124) (v := 1000) (pw_dk dc_X12_joint 66 rfl) rfl (by decide) ?_
      refine PW_istore (pc' := 126) (lv' := [(6, .int 1000), (0, .ref 5000), (1, .int x1), (2, .int x2), (3, .int x3), (4, .int x4), (5, .int x5)]) (pw_dk dc_X12_joint 67 rfl) rfl (by decide) rfl ?_
      refine PW_iconst (pc' := 127) (v := 0) (pw_dk dc_X12_joint 68 rfl) rfl (by decide) ?_
      refine PW_istore (pc' := 129) (lv' := [(7, .int 0), (6, .int 1000), (0, .ref 5000), (1, .int x1), (2, .int x2), (3, .int x3), (4, .int x4), (5, .int x5)]) (pw_dk dc_X12_joint 69 rfl) rfl (by decide) rfl ?_
      refine PW_sub (lv' := [(0, .ref 5000), (2, .int x2), (4, .int x4), (6, .int 1000), (7, .int 0)]) [2, 4, 6, 1, 0] rfl ?_
      exact b_X12_joint_129 FU x2 x4 1000 0 σ_12 h
    · rw [if_neg c_4] at h
      refine PW_aload_n (pc' := 58) (q := 0) (pw_dk dc_X12_joint 32 rfl) rfl rfl rfl ?_
      refine PW_getR (pc' := 61) (id := 5000) (ci := 12) (nn := 0) (C0 := RX12) (T := TX12) (N := 62) (j := 49) (r := 5050) (pw_dk dc_X12_joint 33 rfl) rfl me_5000 rfl pi_12 (by decide) fk_12_49 tw_1446 (rfl) (by decide) ?_
      refine PW_iload (pc' := 63) (q := 6) (pw_dk dc_X12_joint 34 rfl) rfl rfl ?_
      refine PW_aload_n (pc' := 64) (q := 0) (pw_dk dc_X12_joint 35 rfl) rfl rfl rfl ?_
      refine PW_iload_n (pc' := 65) (q := 3) (pw_dk dc_X12_joint 36 rfl) rfl rfl rfl ?_
      refine PW_iload (pc' := 67) (q := 6) (pw_dk dc_X12_joint 37 rfl) rfl rfl ?_
      refine PW_iload (pc' := 69) (q := 4) (pw_dk dc_X12_joint 38 rfl) rfl rfl ?_
      refine PW_iload (pc' := 71) (q := 5) (pw_dk dc_X12_joint 39 rfl) rfl rfl ?_
      refine PW_aload_n (pc' := 72) (q := 0) (pw_dk dc_X12_joint 40 rfl) rfl rfl rfl ?_
      refine PW_getR (pc' := 75) (id := 5000) (ci := 12) (nn := 0) (C0 := RX12) (T := TX12) (N := 62) (j := 38) (r := 5039) (pw_dk dc_X12_joint 41 rfl) rfl me_5000 rfl pi_12 (by decide) fk_12_38 tw_1435 (rfl) (by decide) ?_
      refine PW_iconst (pc' := 76) (v := 0) (pw_dk dc_X12_joint 42 rfl) rfl (by decide) ?_
      obtain ⟨v_14, hi_15, e_16, h⟩ := wp_rdIx h
      refine PZ_ialdx (pc' := 77) (v := v_14) (id := 5039) (nn := 23) (pw_dk dc_X12_joint 43 rfl) rfl me_5039 hi_15 e_16 ?_
      refine PZ_callVi (pc' := 80) (y := yX12_isLawful) (M' := mX12_isLawful) (d' := 4) (As := [.int x3, .int x6, .int x4, .int x5, .int v_14]) (st := [.int x6, .ref 5050]) (b := 5000) (ci := 12) (nn := 0) me_5000 rfl tw_1817 tw_86 (pw_dk dc_X12_joint 44 rfl) rfl Y_X12_isLawful tw_1815 rfl (by decide) (Nat.le_of_ble_eq_true rfl) (t_X12_isLawful x3 x6 x4 x5 v_14 σ _ ?_)
      obtain ⟨⟨v_19, σ_18⟩, e_20, h⟩ := wp_bind2 h
      refine ⟨(v_19, σ_18), e_20, _, rfl, fun hn_17 => ?_⟩
      show PZ alM mX12_joint (6) Q 80 [(0, .ref 5000), (1, .int x1), (2, .int x2), (3, .int x3), (4, .int x4), (5, .int x5), (6, .int x6)] [.int v_19, .int x6, .ref 5050] σ_18
      refine PW_if_eq (pc' := 83) (tgt := 93) (pw_dk dc_X12_joint 45 rfl) rfl (by decide) (fun c_21 => ?_) (fun c_21 => ?_)
      · rw [if_pos c_21] at h
        refine PW_sipush (pc' := 96) (v := 1000) (pw_dk dc_X12_joint 51 rfl) rfl (by decide) ?_
        exact b_X12_joint_96 (f_X12_joint_48 n) ih x1 x2 x3 x4 x5 x6 x6 1000 σ_18 h
      · rw [if_neg c_21] at h
        refine PW_aload_n (pc' := 84) (q := 0) (pw_dk dc_X12_joint 46 rfl) rfl rfl rfl ?_
        refine PW_getR (pc' := 87) (id := 5000) (ci := 12) (nn := 0) (C0 := RX12) (T := TX12) (N := 62) (j := 48) (r := 5049) (pw_dk dc_X12_joint 47 rfl) rfl me_5000 rfl pi_12 (by decide) fk_12_48 tw_1445 (rfl) (by decide) ?_
        refine PW_iload (pc' := 89) (q := 6) (pw_dk dc_X12_joint 48 rfl) rfl rfl ?_
        obtain ⟨v_22, hi_23, e_24, h⟩ := wp_rdIx h
        refine PZ_ialdx (pc' := 90) (v := v_22) (id := 5049) (nn := 192) (pw_dk dc_X12_joint 49 rfl) rfl me_5049 hi_23 e_24 ?_
        refine PW_goto (tgt := 96) (pw_dk dc_X12_joint 50 rfl) (by decide) ?_
        exact b_X12_joint_96 (f_X12_joint_48 n) ih x1 x2 x3 x4 x5 x6 x6 v_22 σ_18 h
def f_X12_joint (x1 : Int32) (x2 : Int32) (x3 : Int32) (x4 : Int32) (x5 : Int32) (σ : zS) : Option (Int32 × zS) := 
  lt (wI σ 5000 0 0) fun σ_1 =>
  (f_X12_isAsked x1 x2 x5 σ_1).bind fun v_4 =>
  if v_4 = 0 then
    some ((-1 : Int32), σ_1)
  else
    (f_X12_isAsked x3 x4 x5 σ_1).bind fun v_8 =>
    if v_8 = 0 then
      some ((-1 : Int32), σ_1)
    else
      if x1 = x3 then
        some ((-1 : Int32), σ_1)
      else
        (rdI σ_1 5042 115 x3).bind fun v_12 =>
        (f_X12_layFrom v_12 σ_1).bind fun σ_16 =>
        f_X12_joint_48 FU x1 x2 x3 x4 x5 0 σ_16
theorem t_X12_joint (x1 : Int32) (x2 : Int32) (x3 : Int32) (x4 : Int32) (x5 : Int32) (σ : zS) (Q : Option Value → zS → Prop) (h : wpO (f_X12_joint x1 x2 x3 x4 x5 σ) (fun a => Q (some (.int a.1)) a.2)) : PK alM yX12_joint mX12_joint (6) [.ref 5000, .int x1, .int x2, .int x3, .int x4, .int x5] σ Q := by
  refine PC_ofF (by decide +kernel) rfl rfl (Nat.le_of_ble_eq_true rfl) ?_
  show PZ alM mX12_joint (6) Q 0 [(0, .ref 5000), (1, .int x1), (2, .int x2), (3, .int x3), (4, .int x4), (5, .int x5)] [] σ
  unfold f_X12_joint at h
  refine PW_aload_n (pc' := 1) (q := 0) (pw_dk dc_X12_joint 0 rfl) rfl rfl rfl ?_
  refine PW_iconst (pc' := 2) (v := 0) (pw_dk dc_X12_joint 1 rfl) rfl (by decide) ?_
  obtain ⟨σ_1, e_2, h⟩ := lt_x h
  refine PZ_putX (pc' := 5) (σ' := σ_1) (id := 5000) (ci := 12) (nn := 0) (C0 := RX12) (T := TX12) (N := 62) (j := 0) (ty := tyX12 0) (pw_dk dc_X12_joint 2 rfl) rfl me_5000 rfl pi_12 tyX12_ok nmX12 (by decide) fk_12_0 tw_1397 rfl (tyX12_ok 0 (by decide)) (by first | rfl | decide) (by first | rfl | decide) e_2 ?_
  refine PW_aload_n (pc' := 6) (q := 0) (pw_dk dc_X12_joint 3 rfl) rfl rfl rfl ?_
  refine PW_iload_n (pc' := 7) (q := 1) (pw_dk dc_X12_joint 4 rfl) rfl rfl rfl ?_
  refine PW_iload_n (pc' := 8) (q := 2) (pw_dk dc_X12_joint 5 rfl) rfl rfl rfl ?_
  refine PW_iload (pc' := 10) (q := 5) (pw_dk dc_X12_joint 6 rfl) rfl rfl ?_
  refine PZ_callVi (pc' := 13) (y := yX12_isAsked) (M' := mX12_isAsked) (d' := 1) (As := [.int x1, .int x2, .int x5]) (st := []) (b := 5000) (ci := 12) (nn := 0) me_5000 rfl tw_1881 tw_94 (pw_dk dc_X12_joint 7 rfl) rfl Y_X12_isAsked tw_1879 rfl (by decide) (Nat.le_of_ble_eq_true rfl) (t_X12_isAsked x1 x2 x5 σ_1 _ ?_)
  obtain ⟨v_4, e_5, h⟩ := wp_bind h
  refine ⟨v_4, e_5, _, rfl, fun hn_3 => ?_⟩
  show PZ alM mX12_joint (6) Q 13 [(0, .ref 5000), (1, .int x1), (2, .int x2), (3, .int x3), (4, .int x4), (5, .int x5)] [.int v_4] σ_1
  refine PW_if_eq (pc' := 16) (tgt := 33) (pw_dk dc_X12_joint 8 rfl) rfl (by decide) (fun c_6 => ?_) (fun c_6 => ?_)
  · rw [if_pos c_6] at h
    refine PW_iconst (pc' := 34) (v := (-1 : Int32)) (pw_dk dc_X12_joint 18 rfl) rfl (by decide) ?_
    have z := wp_some h
    exact PZ_iret (ty := .int) (pw_dk dc_X12_joint 19 rfl) rfl rfl z
  · rw [if_neg c_6] at h
    refine PW_aload_n (pc' := 17) (q := 0) (pw_dk dc_X12_joint 9 rfl) rfl rfl rfl ?_
    refine PW_iload_n (pc' := 18) (q := 3) (pw_dk dc_X12_joint 10 rfl) rfl rfl rfl ?_
    refine PW_iload (pc' := 20) (q := 4) (pw_dk dc_X12_joint 11 rfl) rfl rfl ?_
    refine PW_iload (pc' := 22) (q := 5) (pw_dk dc_X12_joint 12 rfl) rfl rfl ?_
    refine PZ_callVi (pc' := 25) (y := yX12_isAsked) (M' := mX12_isAsked) (d' := 1) (As := [.int x3, .int x4, .int x5]) (st := []) (b := 5000) (ci := 12) (nn := 0) me_5000 rfl tw_1881 tw_94 (pw_dk dc_X12_joint 13 rfl) rfl Y_X12_isAsked tw_1879 rfl (by decide) (Nat.le_of_ble_eq_true rfl) (t_X12_isAsked x3 x4 x5 σ_1 _ ?_)
    obtain ⟨v_8, e_9, h⟩ := wp_bind h
    refine ⟨v_8, e_9, _, rfl, fun hn_7 => ?_⟩
    show PZ alM mX12_joint (6) Q 25 [(0, .ref 5000), (1, .int x1), (2, .int x2), (3, .int x3), (4, .int x4), (5, .int x5)] [.int v_8] σ_1
    refine PW_if_eq (pc' := 28) (tgt := 33) (pw_dk dc_X12_joint 14 rfl) rfl (by decide) (fun c_10 => ?_) (fun c_10 => ?_)
    · rw [if_pos c_10] at h
      refine PW_iconst (pc' := 34) (v := (-1 : Int32)) (pw_dk dc_X12_joint 18 rfl) rfl (by decide) ?_
      have z := wp_some h
      exact PZ_iret (ty := .int) (pw_dk dc_X12_joint 19 rfl) rfl rfl z
    · rw [if_neg c_10] at h
      refine PW_iload_n (pc' := 29) (q := 1) (pw_dk dc_X12_joint 15 rfl) rfl rfl rfl ?_
      refine PW_iload_n (pc' := 30) (q := 3) (pw_dk dc_X12_joint 16 rfl) rfl rfl rfl ?_
      refine PW_icmp_ne (pc' := 33) (tgt := 35) (pw_dk dc_X12_joint 17 rfl) rfl (by decide) (fun c_11 => ?_) (fun c_11 => ?_)
      · rw [if_neg c_11] at h
        refine PW_aload_n (pc' := 36) (q := 0) (pw_dk dc_X12_joint 20 rfl) rfl rfl rfl ?_
        refine PW_aload_n (pc' := 37) (q := 0) (pw_dk dc_X12_joint 21 rfl) rfl rfl rfl ?_
        refine PW_getR (pc' := 40) (id := 5000) (ci := 12) (nn := 0) (C0 := RX12) (T := TX12) (N := 62) (j := 41) (r := 5042) (pw_dk dc_X12_joint 22 rfl) rfl me_5000 rfl pi_12 (by decide) fk_12_41 tw_1438 (rfl) (by decide) ?_
        refine PW_iload_n (pc' := 41) (q := 3) (pw_dk dc_X12_joint 23 rfl) rfl rfl rfl ?_
        obtain ⟨v_12, hi_13, e_14, h⟩ := wp_rdIx h
        refine PZ_ialdx (pc' := 42) (v := v_12) (id := 5042) (nn := 115) (pw_dk dc_X12_joint 24 rfl) rfl me_5042 hi_13 e_14 ?_
        refine PZ_callVv (pc' := 45) (y := yX12_layFrom) (M' := mX12_layFrom) (d' := 3) (As := [.int v_12]) (st := []) (b := 5000) (ci := 12) (nn := 0) me_5000 rfl tw_1909 tw_99 (pw_dk dc_X12_joint 25 rfl) rfl Y_X12_layFrom tw_1907 rfl (by decide) (Nat.le_of_ble_eq_true rfl) (t_X12_layFrom v_12 σ_1 _ ?_)
        obtain ⟨σ_16, e_17, h⟩ := wp_bind h
        refine ⟨σ_16, e_17, rfl, fun hn_15 => ?_⟩
        show PZ alM mX12_joint (6) Q 45 [(0, .ref 5000), (1, .int x1), (2, .int x2), (3, .int x3), (4, .int x4), (5, .int x5)] [] σ_16
        refine PW_iconst (pc' := 46) (v := 0) (pw_dk dc_X12_joint 26 rfl) rfl (by decide) ?_
        refine PW_istore (pc' := 48) (lv' := [(6, .int 0), (0, .ref 5000), (1, .int x1), (2, .int x2), (3, .int x3), (4, .int x4), (5, .int x5)]) (pw_dk dc_X12_joint 27 rfl) rfl (by decide) rfl ?_
        refine PW_sub (lv' := [(0, .ref 5000), (1, .int x1), (2, .int x2), (3, .int x3), (4, .int x4), (5, .int x5), (6, .int 0)]) [1, 2, 3, 4, 5, 6, 0] rfl ?_
        exact b_X12_joint_48 FU x1 x2 x3 x4 x5 0 σ_16 h
      · rw [if_pos c_11] at h
        refine PW_iconst (pc' := 34) (v := (-1 : Int32)) (pw_dk dc_X12_joint 18 rfl) rfl (by decide) ?_
        have z := wp_some h
        exact PZ_iret (ty := .int) (pw_dk dc_X12_joint 19 rfl) rfl rfl z
def f_X12_standsAt_36 (r13 : Int32 → Int32 → Int32 → Int32 → zS → Option Int32) (x1 : Int32) (x2 : Int32) (x3 : Int32) (x4 : Int32) (σ : zS) : Option Int32 := 
  r13 x1 x2 x3 (x4 + 1) σ
theorem b_X12_standsAt_36 {Q : Option Value → zS → Prop} (r13 : Int32 → Int32 → Int32 → Int32 → zS → Option Int32) (hr13 : ∀ (x1 : Int32) (x2 : Int32) (x3 : Int32) (x4 : Int32) (σ : zS), wpO (r13 x1 x2 x3 x4 σ) (fun a => Q (some (.int a)) σ) → PZ alM mX12_standsAt (3) Q 13 [(0, .ref 5000), (1, .int x1), (2, .int x2), (3, .int x3), (4, .int x4)] [] σ) (x1 : Int32) (x2 : Int32) (x3 : Int32) (x4 : Int32) (σ : zS) (h : wpO (f_X12_standsAt_36 r13 x1 x2 x3 x4 σ) (fun a => Q (some (.int a)) σ)) : PZ alM mX12_standsAt (3) Q 36 [(0, .ref 5000), (1, .int x1), (2, .int x2), (3, .int x3), (4, .int x4)] [] σ := by
  unfold f_X12_standsAt_36 at h
  refine PW_iinc (pc' := 39) (q := 4) (v := x4 + 1) (lv' := [(4, .int (x4 + 1)), (0, .ref 5000), (1, .int x1), (2, .int x2), (3, .int x3)]) (pw_dk dc_X12_standsAt 23 rfl) rfl rfl rfl (by decide) rfl ?_
  refine PW_goto (tgt := 13) (pw_dk dc_X12_standsAt 24 rfl) (by decide) ?_
  refine PW_sub (lv' := [(0, .ref 5000), (1, .int x1), (2, .int x2), (3, .int x3), (4, .int (x4 + 1))]) [1, 2, 3, 4, 0] rfl ?_
  exact hr13 x1 x2 x3 (x4 + 1) σ h
def f_X12_standsAt_13 (r2 : Int32 → Int32 → zS → Option Int32) : Nat → Int32 → Int32 → Int32 → Int32 → zS → Option Int32
  | 0, _, _, _, _, _ => none
  | n + 1, x1, x2, x3, x4, σ => 
    if 4 ≤ x4 then
      if x3 = 0 then
        r2 x1 (x2 + 1) σ
      else
        some 1
    else
      (f_X12_isBarred (((16 : Int32) * x1) + x2) x4 σ).bind fun v_4 =>
      if v_4 = 0 then
        f_X12_standsAt_36 (f_X12_standsAt_13 r2 n) x1 x2 x3 x4 σ
      else
        f_X12_standsAt_36 (f_X12_standsAt_13 r2 n) x1 x2 0 x4 σ
theorem b_X12_standsAt_13 {Q : Option Value → zS → Prop} (r2 : Int32 → Int32 → zS → Option Int32) (hr2 : ∀ (x1 : Int32) (x2 : Int32) (σ : zS), wpO (r2 x1 x2 σ) (fun a => Q (some (.int a)) σ) → PZ alM mX12_standsAt (3) Q 2 [(0, .ref 5000), (1, .int x1), (2, .int x2)] [] σ) : ∀ (n : Nat) (x1 : Int32) (x2 : Int32) (x3 : Int32) (x4 : Int32) (σ : zS) (h : wpO (f_X12_standsAt_13 r2 n x1 x2 x3 x4 σ) (fun a => Q (some (.int a)) σ)), PZ alM mX12_standsAt (3) Q 13 [(0, .ref 5000), (1, .int x1), (2, .int x2), (3, .int x3), (4, .int x4)] [] σ := by
  intro n
  induction n with
  | zero => intro x1 x2 x3 x4 σ h; exact wp_none h
  | succ n ih =>
    intro x1 x2 x3 x4 σ h
    rw [f_X12_standsAt_13] at h
    refine PW_iload (pc' := 15) (q := 4) (pw_dk dc_X12_standsAt 9 rfl) rfl rfl ?_
    refine PW_iconst (pc' := 16) (v := 4) (pw_dk dc_X12_standsAt 10 rfl) rfl (by decide) ?_
    refine PW_icmp_ge (pc' := 19) (tgt := 42) (pw_dk dc_X12_standsAt 11 rfl) rfl (by decide) (fun c_1 => ?_) (fun c_1 => ?_)
    · rw [if_pos c_1] at h
      refine PW_iload_n (pc' := 43) (q := 3) (pw_dk dc_X12_standsAt 25 rfl) rfl rfl rfl ?_
      refine PW_if_eq (pc' := 46) (tgt := 48) (pw_dk dc_X12_standsAt 26 rfl) rfl (by decide) (fun c_2 => ?_) (fun c_2 => ?_)
      · rw [if_pos c_2] at h
        refine PW_iinc (pc' := 51) (q := 2) (v := x2 + 1) (lv' := [(2, .int (x2 + 1)), (0, .ref 5000), (1, .int x1), (3, .int x3), (4, .int x4)]) (pw_dk dc_X12_standsAt 29 rfl) rfl rfl rfl (by decide) rfl ?_
        refine PW_goto (tgt := 2) (pw_dk dc_X12_standsAt 30 rfl) (by decide) ?_
        refine PW_sub (lv' := [(0, .ref 5000), (1, .int x1), (2, .int (x2 + 1))]) [1, 2, 0] rfl ?_
        exact hr2 x1 (x2 + 1) σ h
      · rw [if_neg c_2] at h
        refine PW_iconst (pc' := 47) (v := 1) (pw_dk dc_X12_standsAt 27 rfl) rfl (by decide) ?_
        have z := wp_some h
        exact PZ_iret (ty := .boolean) (pw_dk dc_X12_standsAt 28 rfl) rfl (by decide) z
    · rw [if_neg c_1] at h
      refine PW_aload_n (pc' := 20) (q := 0) (pw_dk dc_X12_standsAt 12 rfl) rfl rfl rfl ?_
      refine PW_bipush (pc' := 22) (v := 16) (pw_dk dc_X12_standsAt 13 rfl) rfl (by decide) ?_
      refine PW_iload_n (pc' := 23) (q := 1) (pw_dk dc_X12_standsAt 14 rfl) rfl rfl rfl ?_
      refine PW_imul (pc' := 24) (pw_dk dc_X12_standsAt 15 rfl) rfl ?_
      refine PW_iload_n (pc' := 25) (q := 2) (pw_dk dc_X12_standsAt 16 rfl) rfl rfl rfl ?_
      refine PW_iadd (pc' := 26) (pw_dk dc_X12_standsAt 17 rfl) rfl ?_
      refine PW_iload (pc' := 28) (q := 4) (pw_dk dc_X12_standsAt 18 rfl) rfl rfl ?_
      refine PZ_callVi (pc' := 31) (y := yX12_isBarred) (M' := mX12_isBarred) (d' := 2) (As := [.int (((16 : Int32) * x1) + x2), .int x4]) (st := []) (b := 5000) (ci := 12) (nn := 0) me_5000 rfl tw_1806 tw_85 (pw_dk dc_X12_standsAt 19 rfl) rfl Y_X12_isBarred tw_1804 rfl (by decide) (Nat.le_of_ble_eq_true rfl) (t_X12_isBarred (((16 : Int32) * x1) + x2) x4 σ _ ?_)
      obtain ⟨v_4, e_5, h⟩ := wp_bind h
      refine ⟨v_4, e_5, _, rfl, fun hn_3 => ?_⟩
      show PZ alM mX12_standsAt (3) Q 31 [(0, .ref 5000), (1, .int x1), (2, .int x2), (3, .int x3), (4, .int x4)] [.int v_4] σ
      refine PW_if_eq (pc' := 34) (tgt := 36) (pw_dk dc_X12_standsAt 20 rfl) rfl (by decide) (fun c_6 => ?_) (fun c_6 => ?_)
      · rw [if_pos c_6] at h
        exact b_X12_standsAt_36 (f_X12_standsAt_13 r2 n) ih x1 x2 x3 x4 σ h
      · rw [if_neg c_6] at h
        refine PW_iconst (pc' := 35) (v := 0) (pw_dk dc_X12_standsAt 21 rfl) rfl (by decide) ?_
        refine PW_istore_n (pc' := 36) (lv' := [(3, .int 0), (0, .ref 5000), (1, .int x1), (2, .int x2), (4, .int x4)]) (pw_dk dc_X12_standsAt 22 rfl) rfl rfl (by decide) rfl ?_
        refine PW_sub (lv' := [(0, .ref 5000), (1, .int x1), (2, .int x2), (3, .int 0), (4, .int x4)]) [1, 2, 3, 0, 4] rfl ?_
        exact b_X12_standsAt_36 (f_X12_standsAt_13 r2 n) ih x1 x2 0 x4 σ h
def f_X12_standsAt_2  : Nat → Int32 → Int32 → zS → Option Int32
  | 0, _, _, _ => none
  | n + 1, x1, x2, σ => 
    if 16 ≤ x2 then
      some 0
    else
      f_X12_standsAt_13 (f_X12_standsAt_2 n) FU x1 x2 1 0 σ
theorem b_X12_standsAt_2 {Q : Option Value → zS → Prop} : ∀ (n : Nat) (x1 : Int32) (x2 : Int32) (σ : zS) (h : wpO (f_X12_standsAt_2 n x1 x2 σ) (fun a => Q (some (.int a)) σ)), PZ alM mX12_standsAt (3) Q 2 [(0, .ref 5000), (1, .int x1), (2, .int x2)] [] σ := by
  intro n
  induction n with
  | zero => intro x1 x2 σ h; exact wp_none h
  | succ n ih =>
    intro x1 x2 σ h
    rw [f_X12_standsAt_2] at h
    refine PW_iload_n (pc' := 3) (q := 2) (pw_dk dc_X12_standsAt 2 rfl) rfl rfl rfl ?_
    refine PW_bipush (pc' := 5) (v := 16) (pw_dk dc_X12_standsAt 3 rfl) rfl (by decide) ?_
    refine PW_icmp_ge (pc' := 8) (tgt := 54) (pw_dk dc_X12_standsAt 4 rfl) rfl (by decide) (fun c_1 => ?_) (fun c_1 => ?_)
    · rw [if_pos c_1] at h
      refine PW_iconst (pc' := 55) (v := 0) (pw_dk dc_X12_standsAt 31 rfl) rfl (by decide) ?_
      have z := wp_some h
      exact PZ_iret (ty := .boolean) (pw_dk dc_X12_standsAt 32 rfl) rfl (by decide) z
    · rw [if_neg c_1] at h
      refine PW_iconst (pc' := 9) (v := 1) (pw_dk dc_X12_standsAt 5 rfl) rfl (by decide) ?_
      refine PW_istore_n (pc' := 10) (lv' := [(3, .int 1), (0, .ref 5000), (1, .int x1), (2, .int x2)]) (pw_dk dc_X12_standsAt 6 rfl) rfl rfl (by decide) rfl ?_
      refine PW_iconst (pc' := 11) (v := 0) (pw_dk dc_X12_standsAt 7 rfl) rfl (by decide) ?_
      refine PW_istore (pc' := 13) (lv' := [(4, .int 0), (3, .int 1), (0, .ref 5000), (1, .int x1), (2, .int x2)]) (pw_dk dc_X12_standsAt 8 rfl) rfl (by decide) rfl ?_
      refine PW_sub (lv' := [(0, .ref 5000), (1, .int x1), (2, .int x2), (3, .int 1), (4, .int 0)]) [2, 3, 4, 1, 0] rfl ?_
      exact b_X12_standsAt_13 (f_X12_standsAt_2 n) ih FU x1 x2 1 0 σ h
def f_X12_standsAt (x1 : Int32) (σ : zS) : Option Int32 := 
  f_X12_standsAt_2 FU x1 0 σ
theorem t_X12_standsAt (x1 : Int32) (σ : zS) (Q : Option Value → zS → Prop) (h : wpO (f_X12_standsAt x1 σ) (fun a => Q (some (.int a)) σ)) : PK alM yX12_standsAt mX12_standsAt (3) [.ref 5000, .int x1] σ Q := by
  refine PC_ofF (by decide +kernel) rfl rfl (Nat.le_of_ble_eq_true rfl) ?_
  show PZ alM mX12_standsAt (3) Q 0 [(0, .ref 5000), (1, .int x1)] [] σ
  unfold f_X12_standsAt at h
  refine PW_iconst (pc' := 1) (v := 0) (pw_dk dc_X12_standsAt 0 rfl) rfl (by decide) ?_
  refine PW_istore_n (pc' := 2) (lv' := [(2, .int 0), (0, .ref 5000), (1, .int x1)]) (pw_dk dc_X12_standsAt 1 rfl) rfl rfl (by decide) rfl ?_
  refine PW_sub (lv' := [(0, .ref 5000), (1, .int x1), (2, .int 0)]) [1, 2, 0] rfl ?_
  exact b_X12_standsAt_2 FU x1 0 σ h
def f_X12_standsOf_30 (r4 : Int32 → Int32 → zS → Option Int32) (x2 : Int32) (s0 : Int32) (s1 : Int32) (σ : zS) : Option Int32 := 
  lt (α := Int32) (s0 ||| s1) fun x1_1 =>
  r4 x1_1 (x2 + 1) σ
theorem b_X12_standsOf_30 {Q : Option Value → zS → Prop} (r4 : Int32 → Int32 → zS → Option Int32) (hr4 : ∀ (x1 : Int32) (x2 : Int32) (σ : zS), wpO (r4 x1 x2 σ) (fun a => Q (some (.int a)) σ) → PZ alM mX12_standsOf (4) Q 4 [(0, .ref 5000), (1, .int x1), (2, .int x2)] [] σ) (x2 : Int32) (s0 : Int32) (s1 : Int32) (σ : zS) (h : wpO (f_X12_standsOf_30 r4 x2 s0 s1 σ) (fun a => Q (some (.int a)) σ)) : PZ alM mX12_standsOf (4) Q 30 [(0, .ref 5000), (2, .int x2)] [.int s1, .int s0] σ := by
  unfold f_X12_standsOf_30 at h
  refine PW_ior (pc' := 31) (pw_dk dc_X12_standsOf 20 rfl) rfl ?_
  refine PW_topi (fun x1_1 ex1_1 => ?_)
  replace h := lt_w h ex1_1
  refine PW_istore_n (pc' := 32) (lv' := [(1, .int x1_1), (0, .ref 5000), (2, .int x2)]) (pw_dk dc_X12_standsOf 21 rfl) rfl rfl (by decide) rfl ?_
  refine PW_iinc (pc' := 35) (q := 2) (v := x2 + 1) (lv' := [(2, .int (x2 + 1)), (1, .int x1_1), (0, .ref 5000)]) (pw_dk dc_X12_standsOf 22 rfl) rfl rfl rfl (by decide) rfl ?_
  refine PW_goto (tgt := 4) (pw_dk dc_X12_standsOf 23 rfl) (by decide) ?_
  refine PW_sub (lv' := [(0, .ref 5000), (1, .int x1_1), (2, .int (x2 + 1))]) [2, 1, 0] rfl ?_
  exact hr4 x1_1 (x2 + 1) σ h
def f_X12_standsOf_4  : Nat → Int32 → Int32 → zS → Option Int32
  | 0, _, _, _ => none
  | n + 1, x1, x2, σ => 
    (rdI σ 5004 16 0).bind fun v_1 =>
    if v_1 ≤ x2 then
      some x1
    else
      (f_X12_standsAt x2 σ).bind fun v_6 =>
      if v_6 = 0 then
        f_X12_standsOf_30 (f_X12_standsOf_4 n) x2 x1 0 σ
      else
        f_X12_standsOf_30 (f_X12_standsOf_4 n) x2 x1 ((1 : Int32) <<< (x2 &&& 31)) σ
theorem b_X12_standsOf_4 {Q : Option Value → zS → Prop} : ∀ (n : Nat) (x1 : Int32) (x2 : Int32) (σ : zS) (h : wpO (f_X12_standsOf_4 n x1 x2 σ) (fun a => Q (some (.int a)) σ)), PZ alM mX12_standsOf (4) Q 4 [(0, .ref 5000), (1, .int x1), (2, .int x2)] [] σ := by
  intro n
  induction n with
  | zero => intro x1 x2 σ h; exact wp_none h
  | succ n ih =>
    intro x1 x2 σ h
    rw [f_X12_standsOf_4] at h
    refine PW_iload_n (pc' := 5) (q := 2) (pw_dk dc_X12_standsOf 4 rfl) rfl rfl rfl ?_
    refine PW_aload_n (pc' := 6) (q := 0) (pw_dk dc_X12_standsOf 5 rfl) rfl rfl rfl ?_
    refine PW_getR (pc' := 9) (id := 5000) (ci := 12) (nn := 0) (C0 := RX12) (T := TX12) (N := 62) (j := 3) (r := 5004) (pw_dk dc_X12_standsOf 6 rfl) rfl me_5000 rfl pi_12 (by decide) fk_12_3 tw_1400 (rfl) (by decide) ?_
    refine PW_iconst (pc' := 10) (v := 0) (pw_dk dc_X12_standsOf 7 rfl) rfl (by decide) ?_
    obtain ⟨v_1, hi_2, e_3, h⟩ := wp_rdIx h
    refine PZ_ialdx (pc' := 11) (v := v_1) (id := 5004) (nn := 16) (pw_dk dc_X12_standsOf 8 rfl) rfl me_5004 hi_2 e_3 ?_
    refine PW_icmp_ge (pc' := 14) (tgt := 38) (pw_dk dc_X12_standsOf 9 rfl) rfl (by decide) (fun c_4 => ?_) (fun c_4 => ?_)
    · rw [if_pos c_4] at h
      refine PW_iload_n (pc' := 39) (q := 1) (pw_dk dc_X12_standsOf 24 rfl) rfl rfl rfl ?_
      have z := wp_some h
      exact PZ_iret (ty := .int) (pw_dk dc_X12_standsOf 25 rfl) rfl rfl z
    · rw [if_neg c_4] at h
      refine PW_iload_n (pc' := 15) (q := 1) (pw_dk dc_X12_standsOf 10 rfl) rfl rfl rfl ?_
      refine PW_aload_n (pc' := 16) (q := 0) (pw_dk dc_X12_standsOf 11 rfl) rfl rfl rfl ?_
      refine PW_iload_n (pc' := 17) (q := 2) (pw_dk dc_X12_standsOf 12 rfl) rfl rfl rfl ?_
      refine PZ_callVi (pc' := 20) (y := yX12_standsAt) (M' := mX12_standsAt) (d' := 3) (As := [.int x2]) (st := [.int x1]) (b := 5000) (ci := 12) (nn := 0) me_5000 rfl tw_1924 tw_101 (pw_dk dc_X12_standsOf 13 rfl) rfl Y_X12_standsAt tw_1922 rfl (by decide) (Nat.le_of_ble_eq_true rfl) (t_X12_standsAt x2 σ _ ?_)
      obtain ⟨v_6, e_7, h⟩ := wp_bind h
      refine ⟨v_6, e_7, _, rfl, fun hn_5 => ?_⟩
      show PZ alM mX12_standsOf (4) Q 20 [(0, .ref 5000), (1, .int x1), (2, .int x2)] [.int v_6, .int x1] σ
      refine PW_if_eq (pc' := 23) (tgt := 29) (pw_dk dc_X12_standsOf 14 rfl) rfl (by decide) (fun c_8 => ?_) (fun c_8 => ?_)
      · rw [if_pos c_8] at h
        refine PW_iconst (pc' := 30) (v := 0) (pw_dk dc_X12_standsOf 19 rfl) rfl (by decide) ?_
        refine PW_sub (lv' := [(0, .ref 5000), (2, .int x2)]) [0, 2] rfl ?_
        exact b_X12_standsOf_30 (f_X12_standsOf_4 n) ih x2 x1 0 σ h
      · rw [if_neg c_8] at h
        refine PW_iconst (pc' := 24) (v := 1) (pw_dk dc_X12_standsOf 15 rfl) rfl (by decide) ?_
        refine PW_iload_n (pc' := 25) (q := 2) (pw_dk dc_X12_standsOf 16 rfl) rfl rfl rfl ?_
        refine PW_ishl (pc' := 26) (pw_dk dc_X12_standsOf 17 rfl) rfl ?_
        refine PW_goto (tgt := 30) (pw_dk dc_X12_standsOf 18 rfl) (by decide) ?_
        refine PW_sub (lv' := [(0, .ref 5000), (2, .int x2)]) [0, 2] rfl ?_
        exact b_X12_standsOf_30 (f_X12_standsOf_4 n) ih x2 x1 ((1 : Int32) <<< (x2 &&& 31)) σ h
def f_X12_standsOf  (σ : zS) : Option Int32 := 
  f_X12_standsOf_4 FU 0 0 σ
theorem t_X12_standsOf (σ : zS) (Q : Option Value → zS → Prop) (h : wpO (f_X12_standsOf σ) (fun a => Q (some (.int a)) σ)) : PK alM yX12_standsOf mX12_standsOf (4) [.ref 5000] σ Q := by
  refine PC_ofF (by decide +kernel) rfl rfl (Nat.le_of_ble_eq_true rfl) ?_
  show PZ alM mX12_standsOf (4) Q 0 [(0, .ref 5000)] [] σ
  unfold f_X12_standsOf at h
  refine PW_iconst (pc' := 1) (v := 0) (pw_dk dc_X12_standsOf 0 rfl) rfl (by decide) ?_
  refine PW_istore_n (pc' := 2) (lv' := [(1, .int 0), (0, .ref 5000)]) (pw_dk dc_X12_standsOf 1 rfl) rfl rfl (by decide) rfl ?_
  refine PW_iconst (pc' := 3) (v := 0) (pw_dk dc_X12_standsOf 2 rfl) rfl (by decide) ?_
  refine PW_istore_n (pc' := 4) (lv' := [(2, .int 0), (1, .int 0), (0, .ref 5000)]) (pw_dk dc_X12_standsOf 3 rfl) rfl rfl (by decide) rfl ?_
  refine PW_sub (lv' := [(0, .ref 5000), (1, .int 0), (2, .int 0)]) [2, 1, 0] rfl ?_
  exact b_X12_standsOf_4 FU 0 0 σ h
def f_X12_stands (x1 : Int32) (σ : zS) : Option (Int32 × zS) := 
  lt (wI σ 5000 0 0) fun σ_1 =>
  (f_X12_isMan x1 σ_1).bind fun v_4 =>
  if v_4 = 0 then
    some ((-1 : Int32), σ_1)
  else
    (f_X12_standsOf σ_1).bind fun v_8 =>
    some (v_8, σ_1)
theorem t_X12_stands (x1 : Int32) (σ : zS) (Q : Option Value → zS → Prop) (h : wpO (f_X12_stands x1 σ) (fun a => Q (some (.int a.1)) a.2)) : PK alM yX12_stands mX12_stands (5) [.ref 5000, .int x1] σ Q := by
  refine PC_ofF (by decide +kernel) rfl rfl (Nat.le_of_ble_eq_true rfl) ?_
  show PZ alM mX12_stands (5) Q 0 [(0, .ref 5000), (1, .int x1)] [] σ
  unfold f_X12_stands at h
  refine PW_aload_n (pc' := 1) (q := 0) (pw_dk dc_X12_stands 0 rfl) rfl rfl rfl ?_
  refine PW_iconst (pc' := 2) (v := 0) (pw_dk dc_X12_stands 1 rfl) rfl (by decide) ?_
  obtain ⟨σ_1, e_2, h⟩ := lt_x h
  refine PZ_putX (pc' := 5) (σ' := σ_1) (id := 5000) (ci := 12) (nn := 0) (C0 := RX12) (T := TX12) (N := 62) (j := 0) (ty := tyX12 0) (pw_dk dc_X12_stands 2 rfl) rfl me_5000 rfl pi_12 tyX12_ok nmX12 (by decide) fk_12_0 tw_1397 rfl (tyX12_ok 0 (by decide)) (by first | rfl | decide) (by first | rfl | decide) e_2 ?_
  refine PW_aload_n (pc' := 6) (q := 0) (pw_dk dc_X12_stands 3 rfl) rfl rfl rfl ?_
  refine PW_iload_n (pc' := 7) (q := 1) (pw_dk dc_X12_stands 4 rfl) rfl rfl rfl ?_
  refine PZ_callVi (pc' := 10) (y := yX12_isMan) (M' := mX12_isMan) (d' := 0) (As := [.int x1]) (st := []) (b := 5000) (ci := 12) (nn := 0) me_5000 rfl tw_1742 tw_77 (pw_dk dc_X12_stands 5 rfl) rfl Y_X12_isMan tw_1740 rfl (by decide) (Nat.le_of_ble_eq_true rfl) (t_X12_isMan x1 σ_1 _ ?_)
  obtain ⟨v_4, e_5, h⟩ := wp_bind h
  refine ⟨v_4, e_5, _, rfl, fun hn_3 => ?_⟩
  show PZ alM mX12_stands (5) Q 10 [(0, .ref 5000), (1, .int x1)] [.int v_4] σ_1
  refine PW_if_eq (pc' := 13) (tgt := 20) (pw_dk dc_X12_stands 6 rfl) rfl (by decide) (fun c_6 => ?_) (fun c_6 => ?_)
  · rw [if_pos c_6] at h
    refine PW_iconst (pc' := 21) (v := (-1 : Int32)) (pw_dk dc_X12_stands 10 rfl) rfl (by decide) ?_
    have z := wp_some h
    exact PZ_iret (ty := .int) (pw_dk dc_X12_stands 11 rfl) rfl rfl z
  · rw [if_neg c_6] at h
    refine PW_aload_n (pc' := 14) (q := 0) (pw_dk dc_X12_stands 7 rfl) rfl rfl rfl ?_
    refine PZ_callVi (pc' := 17) (y := yX12_standsOf) (M' := mX12_standsOf) (d' := 4) (As := []) (st := []) (b := 5000) (ci := 12) (nn := 0) me_5000 rfl tw_1920 tw_100 (pw_dk dc_X12_stands 8 rfl) rfl Y_X12_standsOf tw_1918 rfl (by decide) (Nat.le_of_ble_eq_true rfl) (t_X12_standsOf σ_1 _ ?_)
    obtain ⟨v_8, e_9, h⟩ := wp_bind h
    refine ⟨v_8, e_9, _, rfl, fun hn_7 => ?_⟩
    show PZ alM mX12_stands (5) Q 17 [(0, .ref 5000), (1, .int x1)] [.int v_8] σ_1
    refine PW_goto (tgt := 21) (pw_dk dc_X12_stands 9 rfl) (by decide) ?_
    have z := wp_some h
    exact PZ_iret (ty := .int) (pw_dk dc_X12_stands 11 rfl) rfl rfl z
def f_X12_leftBehind_7  : Nat → Int32 → Int32 → Int32 → zS → Option Int32
  | 0, _, _, _, _ => none
  | n + 1, x1, x3, x4, σ => 
    (rdI σ 5004 16 0).bind fun v_1 =>
    if v_1 ≤ x4 then
      some x3
    else
      lt (α := Int32) (x3 + ((x1 >>> (x4 &&& 31)) &&& (1 : Int32))) fun x3_5 =>
      f_X12_leftBehind_7 n x1 x3_5 (x4 + 1) σ
theorem b_X12_leftBehind_7 {Q : Option Value → zS → Prop} : ∀ (n : Nat) (x1 : Int32) (x3 : Int32) (x4 : Int32) (σ : zS) (h : wpO (f_X12_leftBehind_7 n x1 x3 x4 σ) (fun a => Q (some (.int a)) σ)), PZ alM mX12_leftBehind (0) Q 7 [(0, .ref 5000), (1, .int x1), (3, .int x3), (4, .int x4)] [] σ := by
  intro n
  induction n with
  | zero => intro x1 x3 x4 σ h; exact wp_none h
  | succ n ih =>
    intro x1 x3 x4 σ h
    rw [f_X12_leftBehind_7] at h
    refine PW_iload (pc' := 9) (q := 3) (pw_dk dc_X12_leftBehind 6 rfl) rfl rfl ?_
    refine PW_aload_n (pc' := 10) (q := 0) (pw_dk dc_X12_leftBehind 7 rfl) rfl rfl rfl ?_
    refine PW_getR (pc' := 13) (id := 5000) (ci := 12) (nn := 0) (C0 := RX12) (T := TX12) (N := 62) (j := 3) (r := 5004) (pw_dk dc_X12_leftBehind 8 rfl) rfl me_5000 rfl pi_12 (by decide) fk_12_3 tw_1400 (rfl) (by decide) ?_
    refine PW_iconst (pc' := 14) (v := 0) (pw_dk dc_X12_leftBehind 9 rfl) rfl (by decide) ?_
    obtain ⟨v_1, hi_2, e_3, h⟩ := wp_rdIx h
    refine PZ_ialdx (pc' := 15) (v := v_1) (id := 5004) (nn := 16) (pw_dk dc_X12_leftBehind 10 rfl) rfl me_5004 hi_2 e_3 ?_
    refine PW_icmp_ge (pc' := 18) (tgt := 33) (pw_dk dc_X12_leftBehind 11 rfl) rfl (by decide) (fun c_4 => ?_) (fun c_4 => ?_)
    · rw [if_pos c_4] at h
      refine PW_iload_n (pc' := 34) (q := 2) (pw_dk dc_X12_leftBehind 22 rfl) rfl rfl rfl ?_
      have z := wp_some h
      exact PZ_iret (ty := .int) (pw_dk dc_X12_leftBehind 23 rfl) rfl rfl z
    · rw [if_neg c_4] at h
      refine PW_iload_n (pc' := 19) (q := 2) (pw_dk dc_X12_leftBehind 12 rfl) rfl rfl rfl ?_
      refine PW_iload_n (pc' := 20) (q := 1) (pw_dk dc_X12_leftBehind 13 rfl) rfl rfl rfl ?_
      refine PW_iload (pc' := 22) (q := 3) (pw_dk dc_X12_leftBehind 14 rfl) rfl rfl ?_
      refine PW_ishr (pc' := 23) (pw_dk dc_X12_leftBehind 15 rfl) rfl ?_
      refine PW_iconst (pc' := 24) (v := 1) (pw_dk dc_X12_leftBehind 16 rfl) rfl (by decide) ?_
      refine PW_iand (pc' := 25) (pw_dk dc_X12_leftBehind 17 rfl) rfl ?_
      refine PW_iadd (pc' := 26) (pw_dk dc_X12_leftBehind 18 rfl) rfl ?_
      refine PW_topi (fun x3_5 ex3_5 => ?_)
      replace h := lt_w h ex3_5
      refine PW_istore_n (pc' := 27) (lv' := [(3, .int x3_5), (0, .ref 5000), (1, .int x1), (4, .int x4)]) (pw_dk dc_X12_leftBehind 19 rfl) rfl rfl (by decide) rfl ?_
      refine PW_iinc (pc' := 30) (q := 3) (v := x4 + 1) (lv' := [(4, .int (x4 + 1)), (3, .int x3_5), (0, .ref 5000), (1, .int x1)]) (pw_dk dc_X12_leftBehind 20 rfl) rfl rfl rfl (by decide) rfl ?_
      refine PW_goto (tgt := 7) (pw_dk dc_X12_leftBehind 21 rfl) (by decide) ?_
      refine PW_sub (lv' := [(0, .ref 5000), (1, .int x1), (3, .int x3_5), (4, .int (x4 + 1))]) [2, 3, 1, 0] rfl ?_
      exact ih x1 x3_5 (x4 + 1) σ h
def f_X12_leftBehind (x1 : Int32) (x2 : Int32) (σ : zS) : Option Int32 := 
  lt (α := Int32) (x2 + (1 : Int32)) fun x4_1 =>
  f_X12_leftBehind_7 FU x1 0 x4_1 σ
theorem t_X12_leftBehind (x1 : Int32) (x2 : Int32) (σ : zS) (Q : Option Value → zS → Prop) (h : wpO (f_X12_leftBehind x1 x2 σ) (fun a => Q (some (.int a)) σ)) : PK alM yX12_leftBehind mX12_leftBehind (0) [.ref 5000, .int x1, .int x2] σ Q := by
  refine PC_ofF (by decide +kernel) rfl rfl (Nat.le_of_ble_eq_true rfl) ?_
  show PZ alM mX12_leftBehind (0) Q 0 [(0, .ref 5000), (1, .int x1), (2, .int x2)] [] σ
  unfold f_X12_leftBehind at h
  refine PW_iconst (pc' := 1) (v := 0) (pw_dk dc_X12_leftBehind 0 rfl) rfl (by decide) ?_
  refine PW_istore_n (pc' := 2) (lv' := [(3, .int 0), (0, .ref 5000), (1, .int x1), (2, .int x2)]) (pw_dk dc_X12_leftBehind 1 rfl) rfl rfl (by decide) rfl ?_
  refine PW_iload_n (pc' := 3) (q := 3) (pw_dk dc_X12_leftBehind 2 rfl) rfl rfl rfl ?_
  refine PW_iconst (pc' := 4) (v := 1) (pw_dk dc_X12_leftBehind 3 rfl) rfl (by decide) ?_
  refine PW_iadd (pc' := 5) (pw_dk dc_X12_leftBehind 4 rfl) rfl ?_
  refine PW_topi (fun x4_1 ex4_1 => ?_)
  replace h := lt_w h ex4_1
  refine PW_istore (pc' := 7) (lv' := [(4, .int x4_1), (3, .int 0), (0, .ref 5000), (1, .int x1), (2, .int x2)]) (pw_dk dc_X12_leftBehind 5 rfl) rfl (by decide) rfl ?_
  refine PW_sub (lv' := [(0, .ref 5000), (1, .int x1), (3, .int 0), (4, .int x4_1)]) [2, 3, 1, 0] rfl ?_
  exact b_X12_leftBehind_7 FU x1 0 x4_1 σ h
def f_X12_match_98 (r25 : Int32 → Int32 → Int32 → Int32 → zS → Option (Int32 × zS)) (x1 : Int32) (x2 : Int32) (x3 : Int32) (x4 : Int32) (σ : zS) : Option (Int32 × zS) := 
  r25 x1 x2 x3 (x4 + 1) σ
theorem b_X12_match_98 {Q : Option Value → zS → Prop} (r25 : Int32 → Int32 → Int32 → Int32 → zS → Option (Int32 × zS)) (hr25 : ∀ (x1 : Int32) (x2 : Int32) (x3 : Int32) (x4 : Int32) (σ : zS), wpO (r25 x1 x2 x3 x4 σ) (fun a => Q (some (.int a.1)) a.2) → PZ alM mX12_match (5) Q 25 [(0, .ref 5000), (1, .int x1), (2, .int x2), (3, .int x3), (4, .int x4)] [] σ) (x1 : Int32) (x2 : Int32) (x3 : Int32) (x4 : Int32) (σ : zS) (h : wpO (f_X12_match_98 r25 x1 x2 x3 x4 σ) (fun a => Q (some (.int a.1)) a.2)) : PZ alM mX12_match (5) Q 98 [(0, .ref 5000), (1, .int x1), (2, .int x2), (3, .int x3), (4, .int x4)] [] σ := by
  unfold f_X12_match_98 at h
  refine PW_iinc (pc' := 101) (q := 4) (v := x4 + 1) (lv' := [(4, .int (x4 + 1)), (0, .ref 5000), (1, .int x1), (2, .int x2), (3, .int x3)]) (pw_dk dc_X12_match 61 rfl) rfl rfl rfl (by decide) rfl ?_
  refine PW_goto (tgt := 25) (pw_dk dc_X12_match 62 rfl) (by decide) ?_
  refine PW_sub (lv' := [(0, .ref 5000), (1, .int x1), (2, .int x2), (3, .int x3), (4, .int (x4 + 1))]) [1, 2, 3, 4, 0] rfl ?_
  exact hr25 x1 x2 x3 (x4 + 1) σ h
def f_X12_match_57 (r25 : Int32 → Int32 → Int32 → Int32 → zS → Option (Int32 × zS)) (x1 : Int32) (x2 : Int32) (x3 : Int32) (x4 : Int32) (σ : zS) : Option (Int32 × zS) := 
  (rdI σ 5004 16 0).bind fun v_1 =>
  if x3 < v_1 then
    if x4 = x1 then
      (f_X12_leftBehind x2 x3 σ).bind fun v_7 =>
      (rdI σ 5004 16 2).bind fun v_9 =>
      if v_7 < ((v_9 - (1 : Int32)) - x4) then
        f_X12_match_98 r25 x1 x2 x3 x4 σ
      else
        some (x3, σ)
    else
      f_X12_match_98 r25 x1 x2 x3 x4 σ
  else
    some ((-2 : Int32), σ)
theorem b_X12_match_57 {Q : Option Value → zS → Prop} (r25 : Int32 → Int32 → Int32 → Int32 → zS → Option (Int32 × zS)) (hr25 : ∀ (x1 : Int32) (x2 : Int32) (x3 : Int32) (x4 : Int32) (σ : zS), wpO (r25 x1 x2 x3 x4 σ) (fun a => Q (some (.int a.1)) a.2) → PZ alM mX12_match (5) Q 25 [(0, .ref 5000), (1, .int x1), (2, .int x2), (3, .int x3), (4, .int x4)] [] σ) (x1 : Int32) (x2 : Int32) (x3 : Int32) (x4 : Int32) (σ : zS) (h : wpO (f_X12_match_57 r25 x1 x2 x3 x4 σ) (fun a => Q (some (.int a.1)) a.2)) : PZ alM mX12_match (5) Q 57 [(0, .ref 5000), (1, .int x1), (2, .int x2), (3, .int x3), (4, .int x4)] [] σ := by
  unfold f_X12_match_57 at h
  refine PW_iload_n (pc' := 58) (q := 3) (pw_dk dc_X12_match 35 rfl) rfl rfl rfl ?_
  refine PW_aload_n (pc' := 59) (q := 0) (pw_dk dc_X12_match 36 rfl) rfl rfl rfl ?_
  refine PW_getR (pc' := 62) (id := 5000) (ci := 12) (nn := 0) (C0 := RX12) (T := TX12) (N := 62) (j := 3) (r := 5004) (pw_dk dc_X12_match 37 rfl) rfl me_5000 rfl pi_12 (by decide) fk_12_3 tw_1400 (rfl) (by decide) ?_
  refine PW_iconst (pc' := 63) (v := 0) (pw_dk dc_X12_match 38 rfl) rfl (by decide) ?_
  obtain ⟨v_1, hi_2, e_3, h⟩ := wp_rdIx h
  refine PZ_ialdx (pc' := 64) (v := v_1) (id := 5004) (nn := 16) (pw_dk dc_X12_match 39 rfl) rfl me_5004 hi_2 e_3 ?_
  refine PW_icmp_lt (pc' := 67) (tgt := 70) (pw_dk dc_X12_match 40 rfl) rfl (by decide) (fun c_4 => ?_) (fun c_4 => ?_)
  · rw [if_pos c_4] at h
    refine PW_iload (pc' := 72) (q := 4) (pw_dk dc_X12_match 43 rfl) rfl rfl ?_
    refine PW_iload_n (pc' := 73) (q := 1) (pw_dk dc_X12_match 44 rfl) rfl rfl rfl ?_
    refine PW_icmp_ne (pc' := 76) (tgt := 98) (pw_dk dc_X12_match 45 rfl) rfl (by decide) (fun c_5 => ?_) (fun c_5 => ?_)
    · rw [if_neg c_5] at h
      exact b_X12_match_98 r25 hr25 x1 x2 x3 x4 σ h
    · rw [if_pos c_5] at h
      refine PW_aload_n (pc' := 77) (q := 0) (pw_dk dc_X12_match 46 rfl) rfl rfl rfl ?_
      refine PW_iload_n (pc' := 78) (q := 2) (pw_dk dc_X12_match 47 rfl) rfl rfl rfl ?_
      refine PW_iload_n (pc' := 79) (q := 3) (pw_dk dc_X12_match 48 rfl) rfl rfl rfl ?_
      refine PZ_callVi (pc' := 82) (y := yX12_leftBehind) (M' := mX12_leftBehind) (d' := 0) (As := [.int x2, .int x3]) (st := []) (b := 5000) (ci := 12) (nn := 0) me_5000 rfl tw_1932 tw_102 (pw_dk dc_X12_match 49 rfl) rfl Y_X12_leftBehind tw_1930 rfl (by decide) (Nat.le_of_ble_eq_true rfl) (t_X12_leftBehind x2 x3 σ _ ?_)
      obtain ⟨v_7, e_8, h⟩ := wp_bind h
      refine ⟨v_7, e_8, _, rfl, fun hn_6 => ?_⟩
      show PZ alM mX12_match (5) Q 82 [(0, .ref 5000), (1, .int x1), (2, .int x2), (3, .int x3), (4, .int x4)] [.int v_7] σ
      refine PW_aload_n (pc' := 83) (q := 0) (pw_dk dc_X12_match 50 rfl) rfl rfl rfl ?_
      refine PW_getR (pc' := 86) (id := 5000) (ci := 12) (nn := 0) (C0 := RX12) (T := TX12) (N := 62) (j := 3) (r := 5004) (pw_dk dc_X12_match 51 rfl) rfl me_5000 rfl pi_12 (by decide) fk_12_3 tw_1400 (rfl) (by decide) ?_
      refine PW_iconst (pc' := 87) (v := 2) (pw_dk dc_X12_match 52 rfl) rfl (by decide) ?_
      obtain ⟨v_9, hi_10, e_11, h⟩ := wp_rdIx h
      refine PZ_ialdx (pc' := 88) (v := v_9) (id := 5004) (nn := 16) (pw_dk dc_X12_match 53 rfl) rfl me_5004 hi_10 e_11 ?_
      refine PW_iconst (pc' := 89) (v := 1) (pw_dk dc_X12_match 54 rfl) rfl (by decide) ?_
      refine PW_isub (pc' := 90) (pw_dk dc_X12_match 55 rfl) rfl ?_
      refine PW_iload (pc' := 92) (q := 4) (pw_dk dc_X12_match 56 rfl) rfl rfl ?_
      refine PW_isub (pc' := 93) (pw_dk dc_X12_match 57 rfl) rfl ?_
      refine PW_icmp_lt (pc' := 96) (tgt := 98) (pw_dk dc_X12_match 58 rfl) rfl (by decide) (fun c_12 => ?_) (fun c_12 => ?_)
      · rw [if_pos c_12] at h
        exact b_X12_match_98 r25 hr25 x1 x2 x3 x4 σ h
      · rw [if_neg c_12] at h
        refine PW_iload_n (pc' := 97) (q := 3) (pw_dk dc_X12_match 59 rfl) rfl rfl rfl ?_
        have z := wp_some h
        exact PZ_iret (ty := .int) (pw_dk dc_X12_match 60 rfl) rfl rfl z
  · rw [if_neg c_4] at h
    refine PW_bipush (pc' := 69) (v := (-2 : Int32)) (pw_dk dc_X12_match 41 rfl) rfl (by decide) ?_
    have z := wp_some h
    exact PZ_iret (ty := .int) (pw_dk dc_X12_match 42 rfl) rfl rfl z
def f_X12_match_36 (r25 : Int32 → Int32 → Int32 → Int32 → zS → Option (Int32 × zS)) : Nat → Int32 → Int32 → Int32 → Int32 → zS → Option (Int32 × zS)
  | 0, _, _, _, _, _ => none
  | n + 1, x1, x2, x3, x4, σ => 
    (rdI σ 5004 16 0).bind fun v_1 =>
    if v_1 ≤ (x3 + 1) then
      f_X12_match_57 r25 x1 x2 (x3 + 1) x4 σ
    else
      if ((x2 >>> ((x3 + 1) &&& 31)) &&& (1 : Int32)) = 0 then
        f_X12_match_36 r25 n x1 x2 (x3 + 1) x4 σ
      else
        f_X12_match_57 r25 x1 x2 (x3 + 1) x4 σ
theorem b_X12_match_36 {Q : Option Value → zS → Prop} (r25 : Int32 → Int32 → Int32 → Int32 → zS → Option (Int32 × zS)) (hr25 : ∀ (x1 : Int32) (x2 : Int32) (x3 : Int32) (x4 : Int32) (σ : zS), wpO (r25 x1 x2 x3 x4 σ) (fun a => Q (some (.int a.1)) a.2) → PZ alM mX12_match (5) Q 25 [(0, .ref 5000), (1, .int x1), (2, .int x2), (3, .int x3), (4, .int x4)] [] σ) : ∀ (n : Nat) (x1 : Int32) (x2 : Int32) (x3 : Int32) (x4 : Int32) (σ : zS) (h : wpO (f_X12_match_36 r25 n x1 x2 x3 x4 σ) (fun a => Q (some (.int a.1)) a.2)), PZ alM mX12_match (5) Q 36 [(0, .ref 5000), (1, .int x1), (2, .int x2), (3, .int x3), (4, .int x4)] [] σ := by
  intro n
  induction n with
  | zero => intro x1 x2 x3 x4 σ h; exact wp_none h
  | succ n ih =>
    intro x1 x2 x3 x4 σ h
    rw [f_X12_match_36] at h
    refine PW_iinc (pc' := 39) (q := 3) (v := x3 + 1) (lv' := [(3, .int (x3 + 1)), (0, .ref 5000), (1, .int x1), (2, .int x2), (4, .int x4)]) (pw_dk dc_X12_match 22 rfl) rfl rfl rfl (by decide) rfl ?_
    refine PW_iload_n (pc' := 40) (q := 0) (pw_dk dc_X12_match 23 rfl) rfl rfl rfl ?_
    refine PW_aload_n (pc' := 41) (q := 1) (pw_dk dc_X12_match 24 rfl) rfl rfl rfl ?_
    refine PW_getR (pc' := 44) (id := 5000) (ci := 12) (nn := 0) (C0 := RX12) (T := TX12) (N := 62) (j := 3) (r := 5004) (pw_dk dc_X12_match 25 rfl) rfl me_5000 rfl pi_12 (by decide) fk_12_3 tw_1400 (rfl) (by decide) ?_
    refine PW_iconst (pc' := 45) (v := 0) (pw_dk dc_X12_match 26 rfl) rfl (by decide) ?_
    obtain ⟨v_1, hi_2, e_3, h⟩ := wp_rdIx h
    refine PZ_ialdx (pc' := 46) (v := v_1) (id := 5004) (nn := 16) (pw_dk dc_X12_match 27 rfl) rfl me_5004 hi_2 e_3 ?_
    refine PW_icmp_ge (pc' := 49) (tgt := 57) (pw_dk dc_X12_match 28 rfl) rfl (by decide) (fun c_4 => ?_) (fun c_4 => ?_)
    · rw [if_pos c_4] at h
      refine PW_sub (lv' := [(0, .ref 5000), (1, .int x1), (2, .int x2), (3, .int (x3 + 1)), (4, .int x4)]) [1, 2, 3, 0, 4] rfl ?_
      exact b_X12_match_57 r25 hr25 x1 x2 (x3 + 1) x4 σ h
    · rw [if_neg c_4] at h
      refine PW_iload_n (pc' := 50) (q := 3) (pw_dk dc_X12_match 29 rfl) rfl rfl rfl ?_
      refine PW_iload_n (pc' := 51) (q := 0) (pw_dk dc_X12_match 30 rfl) rfl rfl rfl ?_
      refine PW_ishr (pc' := 52) (pw_dk dc_X12_match 31 rfl) rfl ?_
      refine PW_iconst (pc' := 53) (v := 1) (pw_dk dc_X12_match 32 rfl) rfl (by decide) ?_
      refine PW_iand (pc' := 54) (pw_dk dc_X12_match 33 rfl) rfl ?_
      refine PW_if_eq (pc' := 57) (tgt := 36) (pw_dk dc_X12_match 34 rfl) rfl (by decide) (fun c_5 => ?_) (fun c_5 => ?_)
      · rw [if_pos c_5] at h
        refine PW_sub (lv' := [(0, .ref 5000), (1, .int x1), (2, .int x2), (3, .int (x3 + 1)), (4, .int x4)]) [1, 2, 3, 0, 4] rfl ?_
        exact ih x1 x2 (x3 + 1) x4 σ h
      · rw [if_neg c_5] at h
        refine PW_sub (lv' := [(0, .ref 5000), (1, .int x1), (2, .int x2), (3, .int (x3 + 1)), (4, .int x4)]) [1, 2, 3, 0, 4] rfl ?_
        exact b_X12_match_57 r25 hr25 x1 x2 (x3 + 1) x4 σ h
def f_X12_match_25  : Nat → Int32 → Int32 → Int32 → Int32 → zS → Option (Int32 × zS)
  | 0, _, _, _, _, _ => none
  | n + 1, x1, x2, x3, x4, σ => 
    (rdI σ 5004 16 2).bind fun v_1 =>
    if v_1 ≤ x4 then
      some ((-2 : Int32), σ)
    else
      f_X12_match_36 (f_X12_match_25 n) FU x1 x2 x3 x4 σ
theorem b_X12_match_25 {Q : Option Value → zS → Prop} : ∀ (n : Nat) (x1 : Int32) (x2 : Int32) (x3 : Int32) (x4 : Int32) (σ : zS) (h : wpO (f_X12_match_25 n x1 x2 x3 x4 σ) (fun a => Q (some (.int a.1)) a.2)), PZ alM mX12_match (5) Q 25 [(0, .ref 5000), (1, .int x1), (2, .int x2), (3, .int x3), (4, .int x4)] [] σ := by
  intro n
  induction n with
  | zero => intro x1 x2 x3 x4 σ h; exact wp_none h
  | succ n ih =>
    intro x1 x2 x3 x4 σ h
    rw [f_X12_match_25] at h
    refine PW_iload (pc' := 27) (q := 4) (pw_dk dc_X12_match 16 rfl) rfl rfl ?_
    refine PW_aload_n (pc' := 28) (q := 0) (pw_dk dc_X12_match 17 rfl) rfl rfl rfl ?_
    refine PW_getR (pc' := 31) (id := 5000) (ci := 12) (nn := 0) (C0 := RX12) (T := TX12) (N := 62) (j := 3) (r := 5004) (pw_dk dc_X12_match 18 rfl) rfl me_5000 rfl pi_12 (by decide) fk_12_3 tw_1400 (rfl) (by decide) ?_
    refine PW_iconst (pc' := 32) (v := 2) (pw_dk dc_X12_match 19 rfl) rfl (by decide) ?_
    obtain ⟨v_1, hi_2, e_3, h⟩ := wp_rdIx h
    refine PZ_ialdx (pc' := 33) (v := v_1) (id := 5004) (nn := 16) (pw_dk dc_X12_match 20 rfl) rfl me_5004 hi_2 e_3 ?_
    refine PW_icmp_ge (pc' := 36) (tgt := 104) (pw_dk dc_X12_match 21 rfl) rfl (by decide) (fun c_4 => ?_) (fun c_4 => ?_)
    · rw [if_pos c_4] at h
      refine PW_bipush (pc' := 106) (v := (-2 : Int32)) (pw_dk dc_X12_match 63 rfl) rfl (by decide) ?_
      have z := wp_some h
      exact PZ_iret (ty := .int) (pw_dk dc_X12_match 64 rfl) rfl rfl z
    · rw [if_neg c_4] at h
      exact b_X12_match_36 (f_X12_match_25 n) ih FU x1 x2 x3 x4 σ h
def f_X12_match (x1 : Int32) (σ : zS) : Option (Int32 × zS) := 
  lt (wI σ 5000 0 0) fun σ_1 =>
  (f_X12_isMan x1 σ_1).bind fun v_4 =>
  if v_4 = 0 then
    some ((-1 : Int32), σ_1)
  else
    (f_X12_standsOf σ_1).bind fun v_8 =>
    f_X12_match_25 FU x1 v_8 (-1 : Int32) 0 σ_1
theorem t_X12_match (x1 : Int32) (σ : zS) (Q : Option Value → zS → Prop) (h : wpO (f_X12_match x1 σ) (fun a => Q (some (.int a.1)) a.2)) : PK alM yX12_match mX12_match (5) [.ref 5000, .int x1] σ Q := by
  refine PC_ofF (by decide +kernel) rfl rfl (Nat.le_of_ble_eq_true rfl) ?_
  show PZ alM mX12_match (5) Q 0 [(0, .ref 5000), (1, .int x1)] [] σ
  unfold f_X12_match at h
  refine PW_aload_n (pc' := 1) (q := 0) (pw_dk dc_X12_match 0 rfl) rfl rfl rfl ?_
  refine PW_iconst (pc' := 2) (v := 0) (pw_dk dc_X12_match 1 rfl) rfl (by decide) ?_
  obtain ⟨σ_1, e_2, h⟩ := lt_x h
  refine PZ_putX (pc' := 5) (σ' := σ_1) (id := 5000) (ci := 12) (nn := 0) (C0 := RX12) (T := TX12) (N := 62) (j := 0) (ty := tyX12 0) (pw_dk dc_X12_match 2 rfl) rfl me_5000 rfl pi_12 tyX12_ok nmX12 (by decide) fk_12_0 tw_1397 rfl (tyX12_ok 0 (by decide)) (by first | rfl | decide) (by first | rfl | decide) e_2 ?_
  refine PW_aload_n (pc' := 6) (q := 0) (pw_dk dc_X12_match 3 rfl) rfl rfl rfl ?_
  refine PW_iload_n (pc' := 7) (q := 1) (pw_dk dc_X12_match 4 rfl) rfl rfl rfl ?_
  refine PZ_callVi (pc' := 10) (y := yX12_isMan) (M' := mX12_isMan) (d' := 0) (As := [.int x1]) (st := []) (b := 5000) (ci := 12) (nn := 0) me_5000 rfl tw_1742 tw_77 (pw_dk dc_X12_match 5 rfl) rfl Y_X12_isMan tw_1740 rfl (by decide) (Nat.le_of_ble_eq_true rfl) (t_X12_isMan x1 σ_1 _ ?_)
  obtain ⟨v_4, e_5, h⟩ := wp_bind h
  refine ⟨v_4, e_5, _, rfl, fun hn_3 => ?_⟩
  show PZ alM mX12_match (5) Q 10 [(0, .ref 5000), (1, .int x1)] [.int v_4] σ_1
  refine PW_if_ne (pc' := 13) (tgt := 15) (pw_dk dc_X12_match 6 rfl) rfl (by decide) (fun c_6 => ?_) (fun c_6 => ?_)
  · rw [if_neg c_6] at h
    refine PW_aload_n (pc' := 16) (q := 0) (pw_dk dc_X12_match 9 rfl) rfl rfl rfl ?_
    refine PZ_callVi (pc' := 19) (y := yX12_standsOf) (M' := mX12_standsOf) (d' := 4) (As := []) (st := []) (b := 5000) (ci := 12) (nn := 0) me_5000 rfl tw_1920 tw_100 (pw_dk dc_X12_match 10 rfl) rfl Y_X12_standsOf tw_1918 rfl (by decide) (Nat.le_of_ble_eq_true rfl) (t_X12_standsOf σ_1 _ ?_)
    obtain ⟨v_8, e_9, h⟩ := wp_bind h
    refine ⟨v_8, e_9, _, rfl, fun hn_7 => ?_⟩
    show PZ alM mX12_match (5) Q 19 [(0, .ref 5000), (1, .int x1)] [.int v_8] σ_1
    refine PW_istore_n (pc' := 20) (lv' := [(2, .int v_8), (0, .ref 5000), (1, .int x1)]) (pw_dk dc_X12_match 11 rfl) rfl rfl (by decide) rfl ?_
    refine PW_iconst (pc' := 21) (v := (-1 : Int32)) (pw_dk dc_X12_match 12 rfl) rfl (by decide) ?_
    refine PW_istore_n (pc' := 22) (lv' := [(3, .int (-1 : Int32)), (2, .int v_8), (0, .ref 5000), (1, .int x1)]) (pw_dk dc_X12_match 13 rfl) rfl rfl (by decide) rfl ?_
    refine PW_iconst (pc' := 23) (v := 0) (pw_dk dc_X12_match 14 rfl) rfl (by decide) ?_
    refine PW_istore (pc' := 25) (lv' := [(4, .int 0), (3, .int (-1 : Int32)), (2, .int v_8), (0, .ref 5000), (1, .int x1)]) (pw_dk dc_X12_match 15 rfl) rfl (by decide) rfl ?_
    refine PW_sub (lv' := [(0, .ref 5000), (1, .int x1), (2, .int v_8), (3, .int (-1 : Int32)), (4, .int 0)]) [3, 4, 2, 1, 0] rfl ?_
    exact b_X12_match_25 FU x1 v_8 (-1 : Int32) 0 σ_1 h
  · rw [if_pos c_6] at h
    refine PW_iconst (pc' := 14) (v := (-1 : Int32)) (pw_dk dc_X12_match 7 rfl) rfl (by decide) ?_
    have z := wp_some h
    exact PZ_iret (ty := .int) (pw_dk dc_X12_match 8 rfl) rfl rfl z
def f_X12_layUnlawful_45 (r7 : Int32 → Int32 → Int32 → zS → Option zS) (x1 : Int32) (x2 : Int32) (x3 : Int32) (s1 : Int32) (s2 : Int32) (σ : zS) : Option zS := 
  lt (wI σ 5000 51 (s1 ||| s2)) fun σ_1 =>
  r7 x1 x2 (x3 + 1) σ_1
theorem b_X12_layUnlawful_45 {Q : Option Value → zS → Prop} (r7 : Int32 → Int32 → Int32 → zS → Option zS) (hr7 : ∀ (x1 : Int32) (x2 : Int32) (x3 : Int32) (σ : zS), wpO (r7 x1 x2 x3 σ) (fun s => Q none s) → PZ alM mX12_layUnlawful (5) Q 7 [(0, .ref 5000), (1, .int x1), (2, .int x2), (3, .int x3)] [] σ) (x1 : Int32) (x2 : Int32) (x3 : Int32) (s1 : Int32) (s2 : Int32) (σ : zS) (h : wpO (f_X12_layUnlawful_45 r7 x1 x2 x3 s1 s2 σ) (fun s => Q none s)) : PZ alM mX12_layUnlawful (5) Q 45 [(0, .ref 5000), (1, .int x1), (2, .int x2), (3, .int x3)] [.int s2, .int s1, .ref 5000] σ := by
  unfold f_X12_layUnlawful_45 at h
  refine PW_ior (pc' := 46) (pw_dk dc_X12_layUnlawful 29 rfl) rfl ?_
  obtain ⟨σ_1, e_2, h⟩ := lt_x h
  refine PZ_putX (pc' := 49) (σ' := σ_1) (id := 5000) (ci := 12) (nn := 0) (C0 := RX12) (T := TX12) (N := 62) (j := 51) (ty := tyX12 51) (pw_dk dc_X12_layUnlawful 30 rfl) rfl me_5000 rfl pi_12 tyX12_ok nmX12 (by decide) fk_12_51 tw_1448 rfl (tyX12_ok 51 (by decide)) (by first | rfl | decide) (by first | rfl | decide) e_2 ?_
  refine PW_iinc (pc' := 52) (q := 3) (v := x3 + 1) (lv' := [(3, .int (x3 + 1)), (0, .ref 5000), (1, .int x1), (2, .int x2)]) (pw_dk dc_X12_layUnlawful 31 rfl) rfl rfl rfl (by decide) rfl ?_
  refine PW_goto (tgt := 7) (pw_dk dc_X12_layUnlawful 32 rfl) (by decide) ?_
  refine PW_sub (lv' := [(0, .ref 5000), (1, .int x1), (2, .int x2), (3, .int (x3 + 1))]) [1, 2, 3, 0] rfl ?_
  exact hr7 x1 x2 (x3 + 1) σ_1 h
def f_X12_layUnlawful_7  : Nat → Int32 → Int32 → Int32 → zS → Option zS
  | 0, _, _, _, _ => none
  | n + 1, x1, x2, x3, σ => 
    if 4 ≤ x3 then
      some σ
    else
      (f_X12_firstState x1 σ).bind fun v_3 =>
      (rdI σ 5039 23 0).bind fun v_5 =>
      b2 (f_X12_isLawful x1 v_3 x3 x2 v_5 σ) fun v_10 σ_9 =>
      if v_10 = 0 then
        f_X12_layUnlawful_45 (f_X12_layUnlawful_7 n) x1 x2 x3 (σ.1 5000 51) ((1 : Int32) <<< (x3 &&& 31)) σ_9
      else
        f_X12_layUnlawful_45 (f_X12_layUnlawful_7 n) x1 x2 x3 (σ.1 5000 51) 0 σ_9
theorem b_X12_layUnlawful_7 {Q : Option Value → zS → Prop} : ∀ (n : Nat) (x1 : Int32) (x2 : Int32) (x3 : Int32) (σ : zS) (h : wpO (f_X12_layUnlawful_7 n x1 x2 x3 σ) (fun s => Q none s)), PZ alM mX12_layUnlawful (5) Q 7 [(0, .ref 5000), (1, .int x1), (2, .int x2), (3, .int x3)] [] σ := by
  intro n
  induction n with
  | zero => intro x1 x2 x3 σ h; exact wp_none h
  | succ n ih =>
    intro x1 x2 x3 σ h
    rw [f_X12_layUnlawful_7] at h
    refine PW_iload_n (pc' := 8) (q := 3) (pw_dk dc_X12_layUnlawful 5 rfl) rfl rfl rfl ?_
    refine PW_iconst (pc' := 9) (v := 4) (pw_dk dc_X12_layUnlawful 6 rfl) rfl (by decide) ?_
    refine PW_icmp_ge (pc' := 12) (tgt := 55) (pw_dk dc_X12_layUnlawful 7 rfl) rfl (by decide) (fun c_1 => ?_) (fun c_1 => ?_)
    · rw [if_pos c_1] at h
      have z := wp_some h
      exact PZ_vret (pw_dk dc_X12_layUnlawful 33 rfl) rfl z
    · rw [if_neg c_1] at h
      refine PW_aload_n (pc' := 13) (q := 0) (pw_dk dc_X12_layUnlawful 8 rfl) rfl rfl rfl ?_
      refine PW_dup (pc' := 14) (pw_dk dc_X12_layUnlawful 9 rfl) rfl rfl ?_
      refine PZ_getI (pc' := 17) (id := 5000) (ci := 12) (nn := 0) (C0 := RX12) (T := TX12) (N := 62) (j := 51) (pw_dk dc_X12_layUnlawful 10 rfl) rfl me_5000 rfl pi_12 (by decide) fk_12_51 tw_1448 ?_
      refine PW_aload_n (pc' := 18) (q := 0) (pw_dk dc_X12_layUnlawful 11 rfl) rfl rfl rfl ?_
      refine PW_iload_n (pc' := 19) (q := 1) (pw_dk dc_X12_layUnlawful 12 rfl) rfl rfl rfl ?_
      refine PW_aload_n (pc' := 20) (q := 0) (pw_dk dc_X12_layUnlawful 13 rfl) rfl rfl rfl ?_
      refine PW_iload_n (pc' := 21) (q := 1) (pw_dk dc_X12_layUnlawful 14 rfl) rfl rfl rfl ?_
      refine PZ_callVi (pc' := 24) (y := yX12_firstState) (M' := mX12_firstState) (d' := 0) (As := [.int x1]) (st := [.int x1, .ref 5000, .int (σ.1 5000 51), .ref 5000]) (b := 5000) (ci := 12) (nn := 0) me_5000 rfl tw_1395 tw_47 (pw_dk dc_X12_layUnlawful 15 rfl) rfl Y_X12_firstState tw_1393 rfl (by decide) (Nat.le_of_ble_eq_true rfl) (t_X12_firstState x1 σ _ ?_)
      obtain ⟨v_3, e_4, h⟩ := wp_bind h
      refine ⟨v_3, e_4, _, rfl, fun hn_2 => ?_⟩
      show PZ alM mX12_layUnlawful (5) Q 24 [(0, .ref 5000), (1, .int x1), (2, .int x2), (3, .int x3)] [.int v_3, .int x1, .ref 5000, .int (σ.1 5000 51), .ref 5000] σ
      refine PW_iload_n (pc' := 25) (q := 3) (pw_dk dc_X12_layUnlawful 16 rfl) rfl rfl rfl ?_
      refine PW_iload_n (pc' := 26) (q := 2) (pw_dk dc_X12_layUnlawful 17 rfl) rfl rfl rfl ?_
      refine PW_aload_n (pc' := 27) (q := 0) (pw_dk dc_X12_layUnlawful 18 rfl) rfl rfl rfl ?_
      refine PW_getR (pc' := 30) (id := 5000) (ci := 12) (nn := 0) (C0 := RX12) (T := TX12) (N := 62) (j := 38) (r := 5039) (pw_dk dc_X12_layUnlawful 19 rfl) rfl me_5000 rfl pi_12 (by decide) fk_12_38 tw_1435 (rfl) (by decide) ?_
      refine PW_iconst (pc' := 31) (v := 0) (pw_dk dc_X12_layUnlawful 20 rfl) rfl (by decide) ?_
      obtain ⟨v_5, hi_6, e_7, h⟩ := wp_rdIx h
      refine PZ_ialdx (pc' := 32) (v := v_5) (id := 5039) (nn := 23) (pw_dk dc_X12_layUnlawful 21 rfl) rfl me_5039 hi_6 e_7 ?_
      refine PZ_callVi (pc' := 35) (y := yX12_isLawful) (M' := mX12_isLawful) (d' := 4) (As := [.int x1, .int v_3, .int x3, .int x2, .int v_5]) (st := [.int (σ.1 5000 51), .ref 5000]) (b := 5000) (ci := 12) (nn := 0) me_5000 rfl tw_1817 tw_86 (pw_dk dc_X12_layUnlawful 22 rfl) rfl Y_X12_isLawful tw_1815 rfl (by decide) (Nat.le_of_ble_eq_true rfl) (t_X12_isLawful x1 v_3 x3 x2 v_5 σ _ ?_)
      obtain ⟨⟨v_10, σ_9⟩, e_11, h⟩ := wp_bind2 h
      refine ⟨(v_10, σ_9), e_11, _, rfl, fun hn_8 => ?_⟩
      show PZ alM mX12_layUnlawful (5) Q 35 [(0, .ref 5000), (1, .int x1), (2, .int x2), (3, .int x3)] [.int v_10, .int (σ.1 5000 51), .ref 5000] σ_9
      refine PW_if_eq (pc' := 38) (tgt := 42) (pw_dk dc_X12_layUnlawful 23 rfl) rfl (by decide) (fun c_12 => ?_) (fun c_12 => ?_)
      · rw [if_pos c_12] at h
        refine PW_iconst (pc' := 43) (v := 1) (pw_dk dc_X12_layUnlawful 26 rfl) rfl (by decide) ?_
        refine PW_iload_n (pc' := 44) (q := 3) (pw_dk dc_X12_layUnlawful 27 rfl) rfl rfl rfl ?_
        refine PW_ishl (pc' := 45) (pw_dk dc_X12_layUnlawful 28 rfl) rfl ?_
        exact b_X12_layUnlawful_45 (f_X12_layUnlawful_7 n) ih x1 x2 x3 (σ.1 5000 51) ((1 : Int32) <<< (x3 &&& 31)) σ_9 h
      · rw [if_neg c_12] at h
        refine PW_iconst (pc' := 39) (v := 0) (pw_dk dc_X12_layUnlawful 24 rfl) rfl (by decide) ?_
        refine PW_goto (tgt := 45) (pw_dk dc_X12_layUnlawful 25 rfl) (by decide) ?_
        exact b_X12_layUnlawful_45 (f_X12_layUnlawful_7 n) ih x1 x2 x3 (σ.1 5000 51) 0 σ_9 h
def f_X12_layUnlawful (x1 : Int32) (x2 : Int32) (σ : zS) : Option zS := 
  lt (wI σ 5000 51 0) fun σ_1 =>
  f_X12_layUnlawful_7 FU x1 x2 0 σ_1
theorem t_X12_layUnlawful (x1 : Int32) (x2 : Int32) (σ : zS) (Q : Option Value → zS → Prop) (h : wpO (f_X12_layUnlawful x1 x2 σ) (fun s => Q none s)) : PK alM yX12_layUnlawful mX12_layUnlawful (5) [.ref 5000, .int x1, .int x2] σ Q := by
  refine PC_ofF (by decide +kernel) rfl rfl (Nat.le_of_ble_eq_true rfl) ?_
  show PZ alM mX12_layUnlawful (5) Q 0 [(0, .ref 5000), (1, .int x1), (2, .int x2)] [] σ
  unfold f_X12_layUnlawful at h
  refine PW_aload_n (pc' := 1) (q := 0) (pw_dk dc_X12_layUnlawful 0 rfl) rfl rfl rfl ?_
  refine PW_iconst (pc' := 2) (v := 0) (pw_dk dc_X12_layUnlawful 1 rfl) rfl (by decide) ?_
  obtain ⟨σ_1, e_2, h⟩ := lt_x h
  refine PZ_putX (pc' := 5) (σ' := σ_1) (id := 5000) (ci := 12) (nn := 0) (C0 := RX12) (T := TX12) (N := 62) (j := 51) (ty := tyX12 51) (pw_dk dc_X12_layUnlawful 2 rfl) rfl me_5000 rfl pi_12 tyX12_ok nmX12 (by decide) fk_12_51 tw_1448 rfl (tyX12_ok 51 (by decide)) (by first | rfl | decide) (by first | rfl | decide) e_2 ?_
  refine PW_iconst (pc' := 6) (v := 0) (pw_dk dc_X12_layUnlawful 3 rfl) rfl (by decide) ?_
  refine PW_istore_n (pc' := 7) (lv' := [(3, .int 0), (0, .ref 5000), (1, .int x1), (2, .int x2)]) (pw_dk dc_X12_layUnlawful 4 rfl) rfl rfl (by decide) rfl ?_
  refine PW_sub (lv' := [(0, .ref 5000), (1, .int x1), (2, .int x2), (3, .int 0)]) [1, 2, 3, 0] rfl ?_
  exact b_X12_layUnlawful_7 FU x1 x2 0 σ_1 h
def f_X12_isLoophole_76 (r3 : Int32 → Int32 → Int32 → Int32 → Int32 → zS → Option (Int32 × zS)) (x1 : Int32) (x2 : Int32) (x3 : Int32) (x4 : Int32) (x5 : Int32) (σ : zS) : Option (Int32 × zS) := 
  r3 x1 x2 x3 x4 (x5 + 1) σ
theorem b_X12_isLoophole_76 {Q : Option Value → zS → Prop} (r3 : Int32 → Int32 → Int32 → Int32 → Int32 → zS → Option (Int32 × zS)) (hr3 : ∀ (x1 : Int32) (x2 : Int32) (x3 : Int32) (x4 : Int32) (x5 : Int32) (σ : zS), wpO (r3 x1 x2 x3 x4 x5 σ) (fun a => Q (some (.int a.1)) a.2) → PZ alM mX12_isLoophole (5) Q 3 [(0, .ref 5000), (1, .int x1), (2, .int x2), (3, .int x3), (4, .int x4), (5, .int x5)] [] σ) (x1 : Int32) (x2 : Int32) (x3 : Int32) (x4 : Int32) (x5 : Int32) (σ : zS) (h : wpO (f_X12_isLoophole_76 r3 x1 x2 x3 x4 x5 σ) (fun a => Q (some (.int a.1)) a.2)) : PZ alM mX12_isLoophole (5) Q 76 [(0, .ref 5000), (1, .int x1), (2, .int x2), (3, .int x3), (4, .int x4), (5, .int x5)] [] σ := by
  unfold f_X12_isLoophole_76 at h
  refine PW_iinc (pc' := 79) (q := 5) (v := x5 + 1) (lv' := [(5, .int (x5 + 1)), (0, .ref 5000), (1, .int x1), (2, .int x2), (3, .int x3), (4, .int x4)]) (pw_dk dc_X12_isLoophole 43 rfl) rfl rfl rfl (by decide) rfl ?_
  refine PW_goto (tgt := 3) (pw_dk dc_X12_isLoophole 44 rfl) (by decide) ?_
  refine PW_sub (lv' := [(0, .ref 5000), (1, .int x1), (2, .int x2), (3, .int x3), (4, .int x4), (5, .int (x5 + 1))]) [1, 2, 3, 4, 5, 0] rfl ?_
  exact hr3 x1 x2 x3 x4 (x5 + 1) σ h
def f_X12_isLoophole_56 (r3 : Int32 → Int32 → Int32 → Int32 → Int32 → zS → Option (Int32 × zS)) (x1 : Int32) (x2 : Int32) (x3 : Int32) (x4 : Int32) (x5 : Int32) (σ : zS) : Option (Int32 × zS) := 
  (rdI σ 5039 23 0).bind fun v_1 =>
  b2 (f_X12_isLawful x1 x2 x5 x3 v_1 σ) fun v_6 σ_5 =>
  if v_6 = 0 then
    f_X12_isLoophole_76 r3 x1 x2 x3 x4 x5 σ_5
  else
    some (1, σ_5)
theorem b_X12_isLoophole_56 {Q : Option Value → zS → Prop} (r3 : Int32 → Int32 → Int32 → Int32 → Int32 → zS → Option (Int32 × zS)) (hr3 : ∀ (x1 : Int32) (x2 : Int32) (x3 : Int32) (x4 : Int32) (x5 : Int32) (σ : zS), wpO (r3 x1 x2 x3 x4 x5 σ) (fun a => Q (some (.int a.1)) a.2) → PZ alM mX12_isLoophole (5) Q 3 [(0, .ref 5000), (1, .int x1), (2, .int x2), (3, .int x3), (4, .int x4), (5, .int x5)] [] σ) (x1 : Int32) (x2 : Int32) (x3 : Int32) (x4 : Int32) (x5 : Int32) (σ : zS) (h : wpO (f_X12_isLoophole_56 r3 x1 x2 x3 x4 x5 σ) (fun a => Q (some (.int a.1)) a.2)) : PZ alM mX12_isLoophole (5) Q 56 [(0, .ref 5000), (1, .int x1), (2, .int x2), (3, .int x3), (4, .int x4), (5, .int x5)] [] σ := by
  unfold f_X12_isLoophole_56 at h
  refine PW_aload_n (pc' := 57) (q := 0) (pw_dk dc_X12_isLoophole 30 rfl) rfl rfl rfl ?_
  refine PW_iload_n (pc' := 58) (q := 1) (pw_dk dc_X12_isLoophole 31 rfl) rfl rfl rfl ?_
  refine PW_iload_n (pc' := 59) (q := 2) (pw_dk dc_X12_isLoophole 32 rfl) rfl rfl rfl ?_
  refine PW_iload (pc' := 61) (q := 5) (pw_dk dc_X12_isLoophole 33 rfl) rfl rfl ?_
  refine PW_iload_n (pc' := 62) (q := 3) (pw_dk dc_X12_isLoophole 34 rfl) rfl rfl rfl ?_
  refine PW_aload_n (pc' := 63) (q := 0) (pw_dk dc_X12_isLoophole 35 rfl) rfl rfl rfl ?_
  refine PW_getR (pc' := 66) (id := 5000) (ci := 12) (nn := 0) (C0 := RX12) (T := TX12) (N := 62) (j := 38) (r := 5039) (pw_dk dc_X12_isLoophole 36 rfl) rfl me_5000 rfl pi_12 (by decide) fk_12_38 tw_1435 (rfl) (by decide) ?_
  refine PW_iconst (pc' := 67) (v := 0) (pw_dk dc_X12_isLoophole 37 rfl) rfl (by decide) ?_
  obtain ⟨v_1, hi_2, e_3, h⟩ := wp_rdIx h
  refine PZ_ialdx (pc' := 68) (v := v_1) (id := 5039) (nn := 23) (pw_dk dc_X12_isLoophole 38 rfl) rfl me_5039 hi_2 e_3 ?_
  refine PZ_callVi (pc' := 71) (y := yX12_isLawful) (M' := mX12_isLawful) (d' := 4) (As := [.int x1, .int x2, .int x5, .int x3, .int v_1]) (st := []) (b := 5000) (ci := 12) (nn := 0) me_5000 rfl tw_1817 tw_86 (pw_dk dc_X12_isLoophole 39 rfl) rfl Y_X12_isLawful tw_1815 rfl (by decide) (Nat.le_of_ble_eq_true rfl) (t_X12_isLawful x1 x2 x5 x3 v_1 σ _ ?_)
  obtain ⟨⟨v_6, σ_5⟩, e_7, h⟩ := wp_bind2 h
  refine ⟨(v_6, σ_5), e_7, _, rfl, fun hn_4 => ?_⟩
  show PZ alM mX12_isLoophole (5) Q 71 [(0, .ref 5000), (1, .int x1), (2, .int x2), (3, .int x3), (4, .int x4), (5, .int x5)] [.int v_6] σ_5
  refine PW_if_eq (pc' := 74) (tgt := 76) (pw_dk dc_X12_isLoophole 40 rfl) rfl (by decide) (fun c_8 => ?_) (fun c_8 => ?_)
  · rw [if_pos c_8] at h
    exact b_X12_isLoophole_76 r3 hr3 x1 x2 x3 x4 x5 σ_5 h
  · rw [if_neg c_8] at h
    refine PW_iconst (pc' := 75) (v := 1) (pw_dk dc_X12_isLoophole 41 rfl) rfl (by decide) ?_
    have z := wp_some h
    exact PZ_iret (ty := .boolean) (pw_dk dc_X12_isLoophole 42 rfl) rfl (by decide) z
def f_X12_isLoophole_3  : Nat → Int32 → Int32 → Int32 → Int32 → Int32 → zS → Option (Int32 × zS)
  | 0, _, _, _, _, _, _ => none
  | n + 1, x1, x2, x3, x4, x5, σ => 
    if 4 ≤ x5 then
      some (0, σ)
    else
      if (((σ.1 5000 51) >>> (x5 &&& 31)) &&& (1 : Int32)) = 0 then
        f_X12_isLoophole_76 (f_X12_isLoophole_3 n) x1 x2 x3 x4 x5 σ
      else
        (f_X12_landOf (f_X12_placeOf x2 x5 σ) σ).bind fun v_5 =>
        if v_5 = (-1 : Int32) then
          f_X12_isLoophole_56 (f_X12_isLoophole_3 n) x1 x2 x3 x4 x5 σ
        else
          if ((x4 >>> (v_5 &&& 31)) &&& (1 : Int32)) = 1 then
            f_X12_isLoophole_76 (f_X12_isLoophole_3 n) x1 x2 x3 x4 x5 σ
          else
            f_X12_isLoophole_56 (f_X12_isLoophole_3 n) x1 x2 x3 x4 x5 σ
theorem b_X12_isLoophole_3 {Q : Option Value → zS → Prop} : ∀ (n : Nat) (x1 : Int32) (x2 : Int32) (x3 : Int32) (x4 : Int32) (x5 : Int32) (σ : zS) (h : wpO (f_X12_isLoophole_3 n x1 x2 x3 x4 x5 σ) (fun a => Q (some (.int a.1)) a.2)), PZ alM mX12_isLoophole (5) Q 3 [(0, .ref 5000), (1, .int x1), (2, .int x2), (3, .int x3), (4, .int x4), (5, .int x5)] [] σ := by
  intro n
  induction n with
  | zero => intro x1 x2 x3 x4 x5 σ h; exact wp_none h
  | succ n ih =>
    intro x1 x2 x3 x4 x5 σ h
    rw [f_X12_isLoophole_3] at h
    refine PW_iload (pc' := 5) (q := 5) (pw_dk dc_X12_isLoophole 2 rfl) rfl rfl ?_
    refine PW_iconst (pc' := 6) (v := 4) (pw_dk dc_X12_isLoophole 3 rfl) rfl (by decide) ?_
    refine PW_icmp_ge (pc' := 9) (tgt := 82) (pw_dk dc_X12_isLoophole 4 rfl) rfl (by decide) (fun c_1 => ?_) (fun c_1 => ?_)
    · rw [if_pos c_1] at h
      refine PW_iconst (pc' := 83) (v := 0) (pw_dk dc_X12_isLoophole 45 rfl) rfl (by decide) ?_
      have z := wp_some h
      exact PZ_iret (ty := .boolean) (pw_dk dc_X12_isLoophole 46 rfl) rfl (by decide) z
    · rw [if_neg c_1] at h
      refine PW_aload_n (pc' := 10) (q := 0) (pw_dk dc_X12_isLoophole 5 rfl) rfl rfl rfl ?_
      refine PZ_getI (pc' := 13) (id := 5000) (ci := 12) (nn := 0) (C0 := RX12) (T := TX12) (N := 62) (j := 51) (pw_dk dc_X12_isLoophole 6 rfl) rfl me_5000 rfl pi_12 (by decide) fk_12_51 tw_1448 ?_
      refine PW_iload (pc' := 15) (q := 5) (pw_dk dc_X12_isLoophole 7 rfl) rfl rfl ?_
      refine PW_ishr (pc' := 16) (pw_dk dc_X12_isLoophole 8 rfl) rfl ?_
      refine PW_iconst (pc' := 17) (v := 1) (pw_dk dc_X12_isLoophole 9 rfl) rfl (by decide) ?_
      refine PW_iand (pc' := 18) (pw_dk dc_X12_isLoophole 10 rfl) rfl ?_
      refine PW_if_ne (pc' := 21) (tgt := 24) (pw_dk dc_X12_isLoophole 11 rfl) rfl (by decide) (fun c_2 => ?_) (fun c_2 => ?_)
      · rw [if_neg c_2] at h
        refine PW_aload_n (pc' := 25) (q := 0) (pw_dk dc_X12_isLoophole 13 rfl) rfl rfl rfl ?_
        refine PW_iload_n (pc' := 26) (q := 2) (pw_dk dc_X12_isLoophole 14 rfl) rfl rfl rfl ?_
        refine PW_iload (pc' := 28) (q := 5) (pw_dk dc_X12_isLoophole 15 rfl) rfl rfl ?_
        refine PZ_callSi (pc' := 31) (y := yX12_placeOf) (M' := mX12_placeOf) (d' := 1) (As := [.int x2, .int x5]) (st := [.ref 5000]) tw_1766 (pw_dk dc_X12_isLoophole 16 rfl) rfl Y_X12_placeOf tw_1765 rfl (by decide) (Nat.le_of_ble_eq_true rfl) (t_X12_placeOf x2 x5 σ _ ?_)
        refine ⟨_, rfl, fun hn_3 => ?_⟩
        show PZ alM mX12_isLoophole (5) Q 31 [(0, .ref 5000), (1, .int x1), (2, .int x2), (3, .int x3), (4, .int x4), (5, .int x5)] [.int (f_X12_placeOf x2 x5 σ), .ref 5000] σ
        refine PZ_callVi (pc' := 34) (y := yX12_landOf) (M' := mX12_landOf) (d' := 0) (As := [.int (f_X12_placeOf x2 x5 σ)]) (st := []) (b := 5000) (ci := 12) (nn := 0) me_5000 rfl tw_1756 tw_78 (pw_dk dc_X12_isLoophole 17 rfl) rfl Y_X12_landOf tw_1754 rfl (by decide) (Nat.le_of_ble_eq_true rfl) (t_X12_landOf (f_X12_placeOf x2 x5 σ) σ _ ?_)
        obtain ⟨v_5, e_6, h⟩ := wp_bind h
        refine ⟨v_5, e_6, _, rfl, fun hn_4 => ?_⟩
        show PZ alM mX12_isLoophole (5) Q 34 [(0, .ref 5000), (1, .int x1), (2, .int x2), (3, .int x3), (4, .int x4), (5, .int x5)] [.int v_5] σ
        refine PW_istore (pc' := 36) (lv' := [(6, .int v_5), (0, .ref 5000), (1, .int x1), (2, .int x2), (3, .int x3), (4, .int x4), (5, .int x5)]) (pw_dk dc_X12_isLoophole 18 rfl) rfl (by decide) rfl ?_
        refine PW_iload (pc' := 38) (q := 0) (pw_dk dc_X12_isLoophole 19 rfl) rfl rfl ?_
        refine PW_iconst (pc' := 39) (v := (-1 : Int32)) (pw_dk dc_X12_isLoophole 20 rfl) rfl (by decide) ?_
        refine PW_icmp_eq (pc' := 42) (tgt := 56) (pw_dk dc_X12_isLoophole 21 rfl) rfl (by decide) (fun c_7 => ?_) (fun c_7 => ?_)
        · rw [if_pos c_7] at h
          refine PW_sub (lv' := [(0, .ref 5000), (1, .int x1), (2, .int x2), (3, .int x3), (4, .int x4), (5, .int x5)]) [1, 2, 3, 4, 5, 6] rfl ?_
          exact b_X12_isLoophole_56 (f_X12_isLoophole_3 n) ih x1 x2 x3 x4 x5 σ h
        · rw [if_neg c_7] at h
          refine PW_iload (pc' := 44) (q := 5) (pw_dk dc_X12_isLoophole 22 rfl) rfl rfl ?_
          refine PW_iload (pc' := 46) (q := 0) (pw_dk dc_X12_isLoophole 23 rfl) rfl rfl ?_
          refine PW_ishr (pc' := 47) (pw_dk dc_X12_isLoophole 24 rfl) rfl ?_
          refine PW_iconst (pc' := 48) (v := 1) (pw_dk dc_X12_isLoophole 25 rfl) rfl (by decide) ?_
          refine PW_iand (pc' := 49) (pw_dk dc_X12_isLoophole 26 rfl) rfl ?_
          refine PW_iconst (pc' := 50) (v := 1) (pw_dk dc_X12_isLoophole 27 rfl) rfl (by decide) ?_
          refine PW_icmp_ne (pc' := 53) (tgt := 56) (pw_dk dc_X12_isLoophole 28 rfl) rfl (by decide) (fun c_8 => ?_) (fun c_8 => ?_)
          · rw [if_neg c_8] at h
            refine PW_sub (lv' := [(0, .ref 5000), (1, .int x1), (2, .int x2), (3, .int x3), (4, .int x4), (5, .int x5)]) [1, 2, 3, 4, 5, 6] rfl ?_
            exact b_X12_isLoophole_56 (f_X12_isLoophole_3 n) ih x1 x2 x3 x4 x5 σ h
          · rw [if_pos c_8] at h
            refine PW_goto (tgt := 76) (pw_dk dc_X12_isLoophole 29 rfl) (by decide) ?_
            refine PW_sub (lv' := [(0, .ref 5000), (1, .int x1), (2, .int x2), (3, .int x3), (4, .int x4), (5, .int x5)]) [1, 2, 3, 4, 5, 6] rfl ?_
            exact b_X12_isLoophole_76 (f_X12_isLoophole_3 n) ih x1 x2 x3 x4 x5 σ h
      · rw [if_pos c_2] at h
        refine PW_goto (tgt := 76) (pw_dk dc_X12_isLoophole 12 rfl) (by decide) ?_
        exact b_X12_isLoophole_76 (f_X12_isLoophole_3 n) ih x1 x2 x3 x4 x5 σ h
def f_X12_isLoophole (x1 : Int32) (x2 : Int32) (x3 : Int32) (x4 : Int32) (σ : zS) : Option (Int32 × zS) := 
  f_X12_isLoophole_3 FU x1 x2 x3 x4 0 σ
theorem t_X12_isLoophole (x1 : Int32) (x2 : Int32) (x3 : Int32) (x4 : Int32) (σ : zS) (Q : Option Value → zS → Prop) (h : wpO (f_X12_isLoophole x1 x2 x3 x4 σ) (fun a => Q (some (.int a.1)) a.2)) : PK alM yX12_isLoophole mX12_isLoophole (5) [.ref 5000, .int x1, .int x2, .int x3, .int x4] σ Q := by
  refine PC_ofF (by decide +kernel) rfl rfl (Nat.le_of_ble_eq_true rfl) ?_
  show PZ alM mX12_isLoophole (5) Q 0 [(0, .ref 5000), (1, .int x1), (2, .int x2), (3, .int x3), (4, .int x4)] [] σ
  unfold f_X12_isLoophole at h
  refine PW_iconst (pc' := 1) (v := 0) (pw_dk dc_X12_isLoophole 0 rfl) rfl (by decide) ?_
  refine PW_istore (pc' := 3) (lv' := [(5, .int 0), (0, .ref 5000), (1, .int x1), (2, .int x2), (3, .int x3), (4, .int x4)]) (pw_dk dc_X12_isLoophole 1 rfl) rfl (by decide) rfl ?_
  refine PW_sub (lv' := [(0, .ref 5000), (1, .int x1), (2, .int x2), (3, .int x3), (4, .int x4), (5, .int 0)]) [1, 2, 3, 4, 5, 0] rfl ?_
  exact b_X12_isLoophole_3 FU x1 x2 x3 x4 0 σ h
