/-! walks (printed by wip/gen) -/
def f_X5_binds (x1 : Int32) (x2 : Int32) (x3 : Int32) (x4 : Int32) (σ : zS) : Option (Int32 × zS) := 
  if (σ.1 1000 1) = 0 then
    some (0, σ)
  else
    b2 (f_X5_worth 0 x1 x2 x3 0 x4 σ) fun v_4 σ_3 =>
    if (lg_cmp v_4 (-9223372036854775808 : Int64)) = 0 then
      (f_X5_sideOf x1 x3 σ_3).bind fun v_9 =>
      if v_9 = 0 then
        some (1, σ_3)
      else
        some (0, σ_3)
    else
      if (lg_cmp v_4 0) = 0 then
        some (0, σ_3)
      else
        some (1, σ_3)
theorem t_X5_binds (x1 : Int32) (x2 : Int32) (x3 : Int32) (x4 : Int32) (σ : zS) (Q : Option Value → zS → Prop) (h : wpO (f_X5_binds x1 x2 x3 x4 σ) (fun a => Q (some (.int a.1)) a.2)) : PK alC yX5_binds mX5_binds (4) [.ref 1000, .int x1, .int x2, .int x3, .int x4] σ Q := by
  refine PC_ofF (by decide +kernel) rfl rfl (Nat.le_of_ble_eq_true rfl) ?_
  show PZ alC mX5_binds (4) Q 0 [(0, .ref 1000), (1, .int x1), (2, .int x2), (3, .int x3), (4, .int x4)] [] σ
  unfold f_X5_binds at h
  refine PW_aload_n (pc' := 1) (q := 0) (pw_dk dc_X5_binds 0 rfl) rfl rfl rfl ?_
  refine PZ_getI (pc' := 4) (id := 1000) (ci := 5) (nn := 0) (C0 := RX5) (T := TX5) (N := 3) (j := 1) (pw_dk dc_X5_binds 1 rfl) rfl me_1000 rfl pi_5 (by decide) fk_5_1 tw_437 ?_
  refine PW_if_ne (pc' := 7) (tgt := 9) (pw_dk dc_X5_binds 2 rfl) rfl (by decide) (fun c_1 => ?_) (fun c_1 => ?_)
  · rw [if_neg c_1] at h
    refine PW_aload_n (pc' := 10) (q := 0) (pw_dk dc_X5_binds 5 rfl) rfl rfl rfl ?_
    refine PW_iconst (pc' := 11) (v := 0) (pw_dk dc_X5_binds 6 rfl) rfl (by decide) ?_
    refine PW_iload_n (pc' := 12) (q := 1) (pw_dk dc_X5_binds 7 rfl) rfl rfl rfl ?_
    refine PW_iload_n (pc' := 13) (q := 2) (pw_dk dc_X5_binds 8 rfl) rfl rfl rfl ?_
    refine PW_iload_n (pc' := 14) (q := 3) (pw_dk dc_X5_binds 9 rfl) rfl rfl rfl ?_
    refine PW_iconst (pc' := 15) (v := 0) (pw_dk dc_X5_binds 10 rfl) rfl (by decide) ?_
    refine PW_iload (pc' := 17) (q := 4) (pw_dk dc_X5_binds 11 rfl) rfl rfl ?_
    refine PZ_callVl (pc' := 20) (y := yX5_worth) (M' := mX5_worth) (d' := 3) (As := [.int 0, .int x1, .int x2, .int x3, .int 0, .int x4]) (st := []) (b := 1000) (ci := 5) (nn := 0) me_1000 rfl tw_935 tw_936 (pw_dk dc_X5_binds 12 rfl) rfl Y_X5_worth tw_934 rfl (by decide) (Nat.le_of_ble_eq_true rfl) (t_X5_worth 0 x1 x2 x3 0 x4 σ _ ?_)
    obtain ⟨⟨v_4, σ_3⟩, e_5, h⟩ := wp_bind2 h
    refine ⟨(v_4, σ_3), e_5, _, rfl, fun hn_2 => ?_⟩
    show PZ alC mX5_binds (4) Q 20 [(0, .ref 1000), (1, .int x1), (2, .int x2), (3, .int x3), (4, .int x4)] [.long v_4] σ_3
    refine PW_lstore (pc' := 22) (lv' := [(5, .long v_4), (0, .ref 1000), (1, .int x1), (2, .int x2), (3, .int x3), (4, .int x4)]) (pw_dk dc_X5_binds 13 rfl) rfl (by decide) rfl ?_
    refine PW_lload (pc' := 24) (q := 0) (pw_dk dc_X5_binds 14 rfl) rfl rfl ?_
    refine PW_ldc2 (pc' := 27) (v := (-9223372036854775808 : Int64)) (pw_dk dc_X5_binds 15 rfl) rfl tw_952 ?_
    refine PW_lcmp (pc' := 28) (pw_dk dc_X5_binds 16 rfl) rfl ?_
    refine PW_if_ne (pc' := 31) (tgt := 48) (pw_dk dc_X5_binds 17 rfl) rfl (by decide) (fun c_6 => ?_) (fun c_6 => ?_)
    · rw [if_neg c_6] at h
      refine PW_lload (pc' := 50) (q := 0) (pw_dk dc_X5_binds 27 rfl) rfl rfl ?_
      refine PW_lconst (pc' := 51) (v := 0) (pw_dk dc_X5_binds 28 rfl) rfl (by decide) ?_
      refine PW_lcmp (pc' := 52) (pw_dk dc_X5_binds 29 rfl) rfl ?_
      refine PW_if_eq (pc' := 55) (tgt := 59) (pw_dk dc_X5_binds 30 rfl) rfl (by decide) (fun c_7 => ?_) (fun c_7 => ?_)
      · rw [if_pos c_7] at h
        refine PW_iconst (pc' := 60) (v := 0) (pw_dk dc_X5_binds 33 rfl) rfl (by decide) ?_
        have z := wp_some h
        exact PZ_iret (ty := .boolean) (pw_dk dc_X5_binds 34 rfl) rfl (by decide) z
      · rw [if_neg c_7] at h
        refine PW_iconst (pc' := 56) (v := 1) (pw_dk dc_X5_binds 31 rfl) rfl (by decide) ?_
        refine PW_goto (tgt := 60) (pw_dk dc_X5_binds 32 rfl) (by decide) ?_
        have z := wp_some h
        exact PZ_iret (ty := .boolean) (pw_dk dc_X5_binds 34 rfl) rfl (by decide) z
    · rw [if_pos c_6] at h
      refine PW_aload_n (pc' := 32) (q := 1) (pw_dk dc_X5_binds 18 rfl) rfl rfl rfl ?_
      refine PW_iload_n (pc' := 33) (q := 2) (pw_dk dc_X5_binds 19 rfl) rfl rfl rfl ?_
      refine PW_iload_n (pc' := 34) (q := 4) (pw_dk dc_X5_binds 20 rfl) rfl rfl rfl ?_
      refine PZ_callVi (pc' := 37) (y := yX5_sideOf) (M' := mX5_sideOf) (d' := 0) (As := [.int x1, .int x3]) (st := []) (b := 1000) (ci := 5) (nn := 0) me_1000 rfl tw_927 tw_928 (pw_dk dc_X5_binds 21 rfl) rfl Y_X5_sideOf tw_938 rfl (by decide) (Nat.le_of_ble_eq_true rfl) (t_X5_sideOf x1 x3 σ_3 _ ?_)
      obtain ⟨v_9, e_10, h⟩ := wp_bind h
      refine ⟨v_9, e_10, _, rfl, fun hn_8 => ?_⟩
      show PZ alC mX5_binds (4) Q 37 [(5, .long v_4), (0, .ref 1000), (1, .int x1), (2, .int x2), (3, .int x3), (4, .int x4)] [.int v_9] σ_3
      refine PW_if_ne (pc' := 40) (tgt := 44) (pw_dk dc_X5_binds 22 rfl) rfl (by decide) (fun c_11 => ?_) (fun c_11 => ?_)
      · rw [if_neg c_11] at h
        refine PW_iconst (pc' := 45) (v := 0) (pw_dk dc_X5_binds 25 rfl) rfl (by decide) ?_
        refine PW_goto (tgt := 60) (pw_dk dc_X5_binds 26 rfl) (by decide) ?_
        have z := wp_some h
        exact PZ_iret (ty := .boolean) (pw_dk dc_X5_binds 34 rfl) rfl (by decide) z
      · rw [if_pos c_11] at h
        refine PW_iconst (pc' := 41) (v := 1) (pw_dk dc_X5_binds 23 rfl) rfl (by decide) ?_
        refine PW_goto (tgt := 60) (pw_dk dc_X5_binds 24 rfl) (by decide) ?_
        have z := wp_some h
        exact PZ_iret (ty := .boolean) (pw_dk dc_X5_binds 34 rfl) rfl (by decide) z
  · rw [if_pos c_1] at h
    refine PW_iconst (pc' := 8) (v := 0) (pw_dk dc_X5_binds 3 rfl) rfl (by decide) ?_
    have z := wp_some h
    exact PZ_iret (ty := .boolean) (pw_dk dc_X5_binds 4 rfl) rfl (by decide) z
def f_X5_permits (x1 : Int32) (x2 : Int32) (x3 : Int32) (x4 : Int32) (x5 : Int32) (σ : zS) : Option (Int32 × zS) := 
  b2 (f_X5_worth 1 x1 x2 x3 x4 x5 σ) fun v_3 σ_2 =>
  if (lg_cmp v_3 (-9223372036854775808 : Int64)) = 0 then
    if x4 = 2 then
      some (0, σ_2)
    else
      some (1, σ_2)
  else
    if (lg_cmp v_3 0) = 0 then
      some (0, σ_2)
    else
      some (1, σ_2)
theorem t_X5_permits (x1 : Int32) (x2 : Int32) (x3 : Int32) (x4 : Int32) (x5 : Int32) (σ : zS) (Q : Option Value → zS → Prop) (h : wpO (f_X5_permits x1 x2 x3 x4 x5 σ) (fun a => Q (some (.int a.1)) a.2)) : PK alC yX5_permits mX5_permits (4) [.ref 1000, .int x1, .int x2, .int x3, .int x4, .int x5] σ Q := by
  refine PC_ofF (by decide +kernel) rfl rfl (Nat.le_of_ble_eq_true rfl) ?_
  show PZ alC mX5_permits (4) Q 0 [(0, .ref 1000), (1, .int x1), (2, .int x2), (3, .int x3), (4, .int x4), (5, .int x5)] [] σ
  unfold f_X5_permits at h
  refine PW_aload_n (pc' := 1) (q := 0) (pw_dk dc_X5_permits 0 rfl) rfl rfl rfl ?_
  refine PW_iconst (pc' := 2) (v := 1) (pw_dk dc_X5_permits 1 rfl) rfl (by decide) ?_
  refine PW_iload_n (pc' := 3) (q := 1) (pw_dk dc_X5_permits 2 rfl) rfl rfl rfl ?_
  refine PW_iload_n (pc' := 4) (q := 2) (pw_dk dc_X5_permits 3 rfl) rfl rfl rfl ?_
  refine PW_iload_n (pc' := 5) (q := 3) (pw_dk dc_X5_permits 4 rfl) rfl rfl rfl ?_
  refine PW_iload (pc' := 7) (q := 4) (pw_dk dc_X5_permits 5 rfl) rfl rfl ?_
  refine PW_iload (pc' := 9) (q := 5) (pw_dk dc_X5_permits 6 rfl) rfl rfl ?_
  refine PZ_callVl (pc' := 12) (y := yX5_worth) (M' := mX5_worth) (d' := 3) (As := [.int 1, .int x1, .int x2, .int x3, .int x4, .int x5]) (st := []) (b := 1000) (ci := 5) (nn := 0) me_1000 rfl tw_935 tw_936 (pw_dk dc_X5_permits 7 rfl) rfl Y_X5_worth tw_934 rfl (by decide) (Nat.le_of_ble_eq_true rfl) (t_X5_worth 1 x1 x2 x3 x4 x5 σ _ ?_)
  obtain ⟨⟨v_3, σ_2⟩, e_4, h⟩ := wp_bind2 h
  refine ⟨(v_3, σ_2), e_4, _, rfl, fun hn_1 => ?_⟩
  show PZ alC mX5_permits (4) Q 12 [(0, .ref 1000), (1, .int x1), (2, .int x2), (3, .int x3), (4, .int x4), (5, .int x5)] [.long v_3] σ_2
  refine PW_lstore (pc' := 14) (lv' := [(6, .long v_3), (0, .ref 1000), (1, .int x1), (2, .int x2), (3, .int x3), (4, .int x4), (5, .int x5)]) (pw_dk dc_X5_permits 8 rfl) rfl (by decide) rfl ?_
  refine PW_lload (pc' := 16) (q := 0) (pw_dk dc_X5_permits 9 rfl) rfl rfl ?_
  refine PW_ldc2 (pc' := 19) (v := (-9223372036854775808 : Int64)) (pw_dk dc_X5_permits 10 rfl) rfl tw_952 ?_
  refine PW_lcmp (pc' := 20) (pw_dk dc_X5_permits 11 rfl) rfl ?_
  refine PW_if_ne (pc' := 23) (tgt := 37) (pw_dk dc_X5_permits 12 rfl) rfl (by decide) (fun c_5 => ?_) (fun c_5 => ?_)
  · rw [if_neg c_5] at h
    refine PW_lload (pc' := 39) (q := 0) (pw_dk dc_X5_permits 20 rfl) rfl rfl ?_
    refine PW_lconst (pc' := 40) (v := 0) (pw_dk dc_X5_permits 21 rfl) rfl (by decide) ?_
    refine PW_lcmp (pc' := 41) (pw_dk dc_X5_permits 22 rfl) rfl ?_
    refine PW_if_eq (pc' := 44) (tgt := 48) (pw_dk dc_X5_permits 23 rfl) rfl (by decide) (fun c_6 => ?_) (fun c_6 => ?_)
    · rw [if_pos c_6] at h
      refine PW_iconst (pc' := 49) (v := 0) (pw_dk dc_X5_permits 26 rfl) rfl (by decide) ?_
      have z := wp_some h
      exact PZ_iret (ty := .boolean) (pw_dk dc_X5_permits 27 rfl) rfl (by decide) z
    · rw [if_neg c_6] at h
      refine PW_iconst (pc' := 45) (v := 1) (pw_dk dc_X5_permits 24 rfl) rfl (by decide) ?_
      refine PW_goto (tgt := 49) (pw_dk dc_X5_permits 25 rfl) (by decide) ?_
      have z := wp_some h
      exact PZ_iret (ty := .boolean) (pw_dk dc_X5_permits 27 rfl) rfl (by decide) z
  · rw [if_pos c_5] at h
    refine PW_iload (pc' := 25) (q := 5) (pw_dk dc_X5_permits 13 rfl) rfl rfl ?_
    refine PW_iconst (pc' := 26) (v := 2) (pw_dk dc_X5_permits 14 rfl) rfl (by decide) ?_
    refine PW_icmp_eq (pc' := 29) (tgt := 33) (pw_dk dc_X5_permits 15 rfl) rfl (by decide) (fun c_7 => ?_) (fun c_7 => ?_)
    · rw [if_pos c_7] at h
      refine PW_iconst (pc' := 34) (v := 0) (pw_dk dc_X5_permits 18 rfl) rfl (by decide) ?_
      refine PW_goto (tgt := 49) (pw_dk dc_X5_permits 19 rfl) (by decide) ?_
      have z := wp_some h
      exact PZ_iret (ty := .boolean) (pw_dk dc_X5_permits 27 rfl) rfl (by decide) z
    · rw [if_neg c_7] at h
      refine PW_iconst (pc' := 30) (v := 1) (pw_dk dc_X5_permits 16 rfl) rfl (by decide) ?_
      refine PW_goto (tgt := 49) (pw_dk dc_X5_permits 17 rfl) (by decide) ?_
      have z := wp_some h
      exact PZ_iret (ty := .boolean) (pw_dk dc_X5_permits 27 rfl) rfl (by decide) z
def f_X5_allows_35   (σ : zS) : Option (Int32 × zS) := 
  some (1, σ)
theorem b_X5_allows_35 {Q : Option Value → zS → Prop}  (σ : zS) (h : wpO (f_X5_allows_35 σ) (fun a => Q (some (.int a.1)) a.2)) : PZ alC mX5_allows (5) Q 35 [] [] σ := by
  unfold f_X5_allows_35 at h
  refine PW_iconst (pc' := 36) (v := 1) (pw_dk dc_X5_allows 20 rfl) rfl (by decide) ?_
  refine PW_goto (tgt := 40) (pw_dk dc_X5_allows 21 rfl) (by decide) ?_
  have z := wp_some h
  exact PZ_iret (ty := .boolean) (pw_dk dc_X5_allows 23 rfl) rfl (by decide) z
def f_X5_allows (x1 : Int32) (x2 : Int32) (x3 : Int32) (x4 : Int32) (x5 : Int32) (σ : zS) : Option (Int32 × zS) := 
  (f_X5_bars x2 x3 σ).bind fun v_2 =>
  if v_2 = 0 then
    b2 (f_X5_binds x1 x2 x3 x5 σ) fun v_7 σ_6 =>
    if v_7 = 0 then
      f_X5_allows_35 σ_6
    else
      b2 (f_X5_permits x1 x2 x3 x4 x5 σ_6) fun v_12 σ_11 =>
      if v_12 = 0 then
        some (0, σ_11)
      else
        f_X5_allows_35 σ_11
  else
    some (0, σ)
theorem t_X5_allows (x1 : Int32) (x2 : Int32) (x3 : Int32) (x4 : Int32) (x5 : Int32) (σ : zS) (Q : Option Value → zS → Prop) (h : wpO (f_X5_allows x1 x2 x3 x4 x5 σ) (fun a => Q (some (.int a.1)) a.2)) : PK alC yX5_allows mX5_allows (5) [.ref 1000, .int x1, .int x2, .int x3, .int x4, .int x5] σ Q := by
  refine PC_ofF (by decide +kernel) rfl rfl (Nat.le_of_ble_eq_true rfl) ?_
  show PZ alC mX5_allows (5) Q 0 [(0, .ref 1000), (1, .int x1), (2, .int x2), (3, .int x3), (4, .int x4), (5, .int x5)] [] σ
  unfold f_X5_allows at h
  refine PW_aload_n (pc' := 1) (q := 0) (pw_dk dc_X5_allows 0 rfl) rfl rfl rfl ?_
  refine PW_iload_n (pc' := 2) (q := 2) (pw_dk dc_X5_allows 1 rfl) rfl rfl rfl ?_
  refine PW_iload_n (pc' := 3) (q := 3) (pw_dk dc_X5_allows 2 rfl) rfl rfl rfl ?_
  refine PZ_callVi (pc' := 6) (y := yX5_bars) (M' := mX5_bars) (d' := 3) (As := [.int x2, .int x3]) (st := []) (b := 1000) (ci := 5) (nn := 0) me_1000 rfl tw_954 tw_955 (pw_dk dc_X5_allows 3 rfl) rfl Y_X5_bars tw_972 rfl (by decide) (Nat.le_of_ble_eq_true rfl) (t_X5_bars x2 x3 σ _ ?_)
  obtain ⟨v_2, e_3, h⟩ := wp_bind h
  refine ⟨v_2, e_3, _, rfl, fun hn_1 => ?_⟩
  show PZ alC mX5_allows (5) Q 6 [(0, .ref 1000), (1, .int x1), (2, .int x2), (3, .int x3), (4, .int x4), (5, .int x5)] [.int v_2] σ
  refine PW_if_ne (pc' := 9) (tgt := 39) (pw_dk dc_X5_allows 4 rfl) rfl (by decide) (fun c_4 => ?_) (fun c_4 => ?_)
  · rw [if_neg c_4] at h
    refine PW_iconst (pc' := 40) (v := 0) (pw_dk dc_X5_allows 22 rfl) rfl (by decide) ?_
    have z := wp_some h
    exact PZ_iret (ty := .boolean) (pw_dk dc_X5_allows 23 rfl) rfl (by decide) z
  · rw [if_pos c_4] at h
    refine PW_aload_n (pc' := 10) (q := 0) (pw_dk dc_X5_allows 5 rfl) rfl rfl rfl ?_
    refine PW_iload_n (pc' := 11) (q := 1) (pw_dk dc_X5_allows 6 rfl) rfl rfl rfl ?_
    refine PW_iload_n (pc' := 12) (q := 2) (pw_dk dc_X5_allows 7 rfl) rfl rfl rfl ?_
    refine PW_iload_n (pc' := 13) (q := 3) (pw_dk dc_X5_allows 8 rfl) rfl rfl rfl ?_
    refine PW_iload (pc' := 15) (q := 5) (pw_dk dc_X5_allows 9 rfl) rfl rfl ?_
    refine PZ_callVi (pc' := 18) (y := yX5_binds) (M' := mX5_binds) (d' := 4) (As := [.int x1, .int x2, .int x3, .int x5]) (st := []) (b := 1000) (ci := 5) (nn := 0) me_1000 rfl tw_931 tw_932 (pw_dk dc_X5_allows 10 rfl) rfl Y_X5_binds tw_973 rfl (by decide) (Nat.le_of_ble_eq_true rfl) (t_X5_binds x1 x2 x3 x5 σ _ ?_)
    obtain ⟨⟨v_7, σ_6⟩, e_8, h⟩ := wp_bind2 h
    refine ⟨(v_7, σ_6), e_8, _, rfl, fun hn_5 => ?_⟩
    show PZ alC mX5_allows (5) Q 18 [(0, .ref 1000), (1, .int x1), (2, .int x2), (3, .int x3), (4, .int x4), (5, .int x5)] [.int v_7] σ_6
    refine PW_if_eq (pc' := 21) (tgt := 35) (pw_dk dc_X5_allows 11 rfl) rfl (by decide) (fun c_9 => ?_) (fun c_9 => ?_)
    · rw [if_pos c_9] at h
      refine PW_sub (lv' := []) [] rfl ?_
      exact b_X5_allows_35 σ_6 h
    · rw [if_neg c_9] at h
      refine PW_aload_n (pc' := 22) (q := 0) (pw_dk dc_X5_allows 12 rfl) rfl rfl rfl ?_
      refine PW_iload_n (pc' := 23) (q := 1) (pw_dk dc_X5_allows 13 rfl) rfl rfl rfl ?_
      refine PW_iload_n (pc' := 24) (q := 2) (pw_dk dc_X5_allows 14 rfl) rfl rfl rfl ?_
      refine PW_iload_n (pc' := 25) (q := 3) (pw_dk dc_X5_allows 15 rfl) rfl rfl rfl ?_
      refine PW_iload (pc' := 27) (q := 4) (pw_dk dc_X5_allows 16 rfl) rfl rfl ?_
      refine PW_iload (pc' := 29) (q := 5) (pw_dk dc_X5_allows 17 rfl) rfl rfl ?_
      refine PZ_callVi (pc' := 32) (y := yX5_permits) (M' := mX5_permits) (d' := 4) (As := [.int x1, .int x2, .int x3, .int x4, .int x5]) (st := []) (b := 1000) (ci := 5) (nn := 0) me_1000 rfl tw_976 tw_30 (pw_dk dc_X5_allows 18 rfl) rfl Y_X5_permits tw_974 rfl (by decide) (Nat.le_of_ble_eq_true rfl) (t_X5_permits x1 x2 x3 x4 x5 σ_6 _ ?_)
      obtain ⟨⟨v_12, σ_11⟩, e_13, h⟩ := wp_bind2 h
      refine ⟨(v_12, σ_11), e_13, _, rfl, fun hn_10 => ?_⟩
      show PZ alC mX5_allows (5) Q 32 [(0, .ref 1000), (1, .int x1), (2, .int x2), (3, .int x3), (4, .int x4), (5, .int x5)] [.int v_12] σ_11
      refine PW_if_eq (pc' := 35) (tgt := 39) (pw_dk dc_X5_allows 19 rfl) rfl (by decide) (fun c_14 => ?_) (fun c_14 => ?_)
      · rw [if_pos c_14] at h
        refine PW_iconst (pc' := 40) (v := 0) (pw_dk dc_X5_allows 22 rfl) rfl (by decide) ?_
        have z := wp_some h
        exact PZ_iret (ty := .boolean) (pw_dk dc_X5_allows 23 rfl) rfl (by decide) z
      · rw [if_neg c_14] at h
        refine PW_sub (lv' := []) [] rfl ?_
        exact b_X5_allows_35 σ_11 h
def f_X1_hits_46 (r6 : Int32 → Int32 → Int32 → Int32 → Int32 → Int32 → zS → Option (Int32 × zS)) (x1 : Int32) (x2 : Int32) (x3 : Int32) (x4 : Int32) (x5 : Int32) (x6 : Int32) (σ : zS) : Option (Int32 × zS) := 
  r6 x1 x2 x3 x4 x5 (x6 + 1) σ
theorem b_X1_hits_46 {Q : Option Value → zS → Prop} (r6 : Int32 → Int32 → Int32 → Int32 → Int32 → Int32 → zS → Option (Int32 × zS)) (hr6 : ∀ (x1 : Int32) (x2 : Int32) (x3 : Int32) (x4 : Int32) (x5 : Int32) (x6 : Int32) (σ : zS), wpO (r6 x1 x2 x3 x4 x5 x6 σ) (fun a => Q (some (.int a.1)) a.2) → PZ alC mX1_hits (6) Q 6 [(0, .ref 1000), (1, .int x1), (2, .int x2), (3, .int x3), (4, .int x4), (5, .int x5), (6, .int x6)] [] σ) (x1 : Int32) (x2 : Int32) (x3 : Int32) (x4 : Int32) (x5 : Int32) (x6 : Int32) (σ : zS) (h : wpO (f_X1_hits_46 r6 x1 x2 x3 x4 x5 x6 σ) (fun a => Q (some (.int a.1)) a.2)) : PZ alC mX1_hits (6) Q 46 [(0, .ref 1000), (1, .int x1), (2, .int x2), (3, .int x3), (4, .int x4), (5, .int x5), (6, .int x6)] [] σ := by
  unfold f_X1_hits_46 at h
  refine PW_iinc (pc' := 49) (q := 6) (v := x6 + 1) (lv' := [(6, .int (x6 + 1)), (0, .ref 1000), (1, .int x1), (2, .int x2), (3, .int x3), (4, .int x4), (5, .int x5)]) (pw_dk dc_X1_hits 24 rfl) rfl rfl rfl (by decide) rfl ?_
  refine PW_goto (tgt := 6) (pw_dk dc_X1_hits 25 rfl) (by decide) ?_
  refine PW_sub (lv' := [(0, .ref 1000), (1, .int x1), (2, .int x2), (3, .int x3), (4, .int x4), (5, .int x5), (6, .int (x6 + 1))]) [1, 2, 3, 4, 5, 6, 0] rfl ?_
  exact hr6 x1 x2 x3 x4 x5 (x6 + 1) σ h
def f_X1_hits_6  : Nat → Int32 → Int32 → Int32 → Int32 → Int32 → Int32 → zS → Option (Int32 × zS)
  | 0, _, _, _, _, _, _, _ => none
  | n + 1, x1, x2, x3, x4, x5, x6, σ => 
    if 2 ≤ x6 then
      some (x5, σ)
    else
      (f_X1_hasPartAt x3 (f_X5_placeOf x2 x6 σ) σ).bind fun v_4 =>
      if v_4 = 0 then
        f_X1_hits_46 (f_X1_hits_6 n) x1 x2 x3 x4 x5 x6 σ
      else
        b2 (f_X5_allows x1 x2 x6 2 x4 σ) fun v_9 σ_8 =>
        if v_9 = 0 then
          f_X1_hits_46 (f_X1_hits_6 n) x1 x2 x3 x4 x5 x6 σ_8
        else
          f_X1_hits_46 (f_X1_hits_6 n) x1 x2 x3 x4 (x5 + 1) x6 σ_8
theorem b_X1_hits_6 {Q : Option Value → zS → Prop} : ∀ (n : Nat) (x1 : Int32) (x2 : Int32) (x3 : Int32) (x4 : Int32) (x5 : Int32) (x6 : Int32) (σ : zS) (h : wpO (f_X1_hits_6 n x1 x2 x3 x4 x5 x6 σ) (fun a => Q (some (.int a.1)) a.2)), PZ alC mX1_hits (6) Q 6 [(0, .ref 1000), (1, .int x1), (2, .int x2), (3, .int x3), (4, .int x4), (5, .int x5), (6, .int x6)] [] σ := by
  intro n
  induction n with
  | zero => intro x1 x2 x3 x4 x5 x6 σ h; exact wp_none h
  | succ n ih =>
    intro x1 x2 x3 x4 x5 x6 σ h
    rw [f_X1_hits_6] at h
    refine PW_iload (pc' := 8) (q := 6) (pw_dk dc_X1_hits 4 rfl) rfl rfl ?_
    refine PW_iconst (pc' := 9) (v := 2) (pw_dk dc_X1_hits 5 rfl) rfl (by decide) ?_
    refine PW_icmp_ge (pc' := 12) (tgt := 52) (pw_dk dc_X1_hits 6 rfl) rfl (by decide) (fun c_1 => ?_) (fun c_1 => ?_)
    · rw [if_pos c_1] at h
      refine PW_iload (pc' := 54) (q := 5) (pw_dk dc_X1_hits 26 rfl) rfl rfl ?_
      have z := wp_some h
      exact PZ_iret (ty := .int) (pw_dk dc_X1_hits 27 rfl) rfl rfl z
    · rw [if_neg c_1] at h
      refine PW_iload_n (pc' := 13) (q := 3) (pw_dk dc_X1_hits 7 rfl) rfl rfl rfl ?_
      refine PW_iload_n (pc' := 14) (q := 2) (pw_dk dc_X1_hits 8 rfl) rfl rfl rfl ?_
      refine PW_iload (pc' := 16) (q := 6) (pw_dk dc_X1_hits 9 rfl) rfl rfl ?_
      refine PZ_callSi (pc' := 19) (y := yX5_placeOf) (M' := mX5_placeOf) (d' := 2) (As := [.int x2, .int x6]) (st := [.int x3]) tw_909 (pw_dk dc_X1_hits 10 rfl) rfl Y_X5_placeOf tw_1152 rfl (by decide) (Nat.le_of_ble_eq_true rfl) (t_X5_placeOf x2 x6 σ _ ?_)
      refine ⟨_, rfl, fun hn_2 => ?_⟩
      show PZ alC mX1_hits (6) Q 19 [(0, .ref 1000), (1, .int x1), (2, .int x2), (3, .int x3), (4, .int x4), (5, .int x5), (6, .int x6)] [.int (f_X5_placeOf x2 x6 σ), .int x3] σ
      refine PZ_callSi (pc' := 22) (y := yX1_hasPartAt) (M' := mX1_hasPartAt) (d' := 3) (As := [.int x3, .int (f_X5_placeOf x2 x6 σ)]) (st := []) tw_1154 (pw_dk dc_X1_hits 11 rfl) rfl Y_X1_hasPartAt tw_1153 rfl (by decide) (Nat.le_of_ble_eq_true rfl) (t_X1_hasPartAt x3 (f_X5_placeOf x2 x6 σ) σ _ ?_)
      obtain ⟨v_4, e_5, h⟩ := wp_bind h
      refine ⟨v_4, e_5, _, rfl, fun hn_3 => ?_⟩
      show PZ alC mX1_hits (6) Q 22 [(0, .ref 1000), (1, .int x1), (2, .int x2), (3, .int x3), (4, .int x4), (5, .int x5), (6, .int x6)] [.int v_4] σ
      refine PW_istore (pc' := 24) (lv' := [(7, .int v_4), (0, .ref 1000), (1, .int x1), (2, .int x2), (3, .int x3), (4, .int x4), (5, .int x5), (6, .int x6)]) (pw_dk dc_X1_hits 12 rfl) rfl (by decide) rfl ?_
      refine PW_iload (pc' := 26) (q := 0) (pw_dk dc_X1_hits 13 rfl) rfl rfl ?_
      refine PW_if_eq (pc' := 29) (tgt := 46) (pw_dk dc_X1_hits 14 rfl) rfl (by decide) (fun c_6 => ?_) (fun c_6 => ?_)
      · rw [if_pos c_6] at h
        refine PW_sub (lv' := [(0, .ref 1000), (1, .int x1), (2, .int x2), (3, .int x3), (4, .int x4), (5, .int x5), (6, .int x6)]) [1, 2, 3, 4, 5, 6, 7] rfl ?_
        exact b_X1_hits_46 (f_X1_hits_6 n) ih x1 x2 x3 x4 x5 x6 σ h
      · rw [if_neg c_6] at h
        refine PW_aload_n (pc' := 30) (q := 1) (pw_dk dc_X1_hits 15 rfl) rfl rfl rfl ?_
        refine PW_iload_n (pc' := 31) (q := 2) (pw_dk dc_X1_hits 16 rfl) rfl rfl rfl ?_
        refine PW_iload_n (pc' := 32) (q := 3) (pw_dk dc_X1_hits 17 rfl) rfl rfl rfl ?_
        refine PW_iload (pc' := 34) (q := 7) (pw_dk dc_X1_hits 18 rfl) rfl rfl ?_
        refine PW_iconst (pc' := 35) (v := 2) (pw_dk dc_X1_hits 19 rfl) rfl (by decide) ?_
        refine PW_iload (pc' := 37) (q := 5) (pw_dk dc_X1_hits 20 rfl) rfl rfl ?_
        refine PZ_callVi (pc' := 40) (y := yX5_allows) (M' := mX5_allows) (d' := 5) (As := [.int x1, .int x2, .int x6, .int 2, .int x4]) (st := []) (b := 1000) (ci := 5) (nn := 0) me_1000 rfl tw_969 tw_970 (pw_dk dc_X1_hits 21 rfl) rfl Y_X5_allows tw_1156 rfl (by decide) (Nat.le_of_ble_eq_true rfl) (t_X5_allows x1 x2 x6 2 x4 σ _ ?_)
        obtain ⟨⟨v_9, σ_8⟩, e_10, h⟩ := wp_bind2 h
        refine ⟨(v_9, σ_8), e_10, _, rfl, fun hn_7 => ?_⟩
        show PZ alC mX1_hits (6) Q 40 [(7, .int v_4), (0, .ref 1000), (1, .int x1), (2, .int x2), (3, .int x3), (4, .int x4), (5, .int x5), (6, .int x6)] [.int v_9] σ_8
        refine PW_if_eq (pc' := 43) (tgt := 46) (pw_dk dc_X1_hits 22 rfl) rfl (by decide) (fun c_11 => ?_) (fun c_11 => ?_)
        · rw [if_pos c_11] at h
          refine PW_sub (lv' := [(0, .ref 1000), (1, .int x1), (2, .int x2), (3, .int x3), (4, .int x4), (5, .int x5), (6, .int x6)]) [1, 2, 3, 4, 5, 6, 7] rfl ?_
          exact b_X1_hits_46 (f_X1_hits_6 n) ih x1 x2 x3 x4 x5 x6 σ_8 h
        · rw [if_neg c_11] at h
          refine PW_iinc (pc' := 46) (q := 6) (v := x5 + 1) (lv' := [(5, .int (x5 + 1)), (7, .int v_4), (0, .ref 1000), (1, .int x1), (2, .int x2), (3, .int x3), (4, .int x4), (6, .int x6)]) (pw_dk dc_X1_hits 23 rfl) rfl rfl rfl (by decide) rfl ?_
          refine PW_sub (lv' := [(0, .ref 1000), (1, .int x1), (2, .int x2), (3, .int x3), (4, .int x4), (5, .int (x5 + 1)), (6, .int x6)]) [2, 3, 4, 5, 6, 0, 7] rfl ?_
          exact b_X1_hits_46 (f_X1_hits_6 n) ih x1 x2 x3 x4 (x5 + 1) x6 σ_8 h
def f_X1_hits (x1 : Int32) (x2 : Int32) (x3 : Int32) (x4 : Int32) (σ : zS) : Option (Int32 × zS) := 
  f_X1_hits_6 FU x1 x2 x3 x4 0 0 σ
theorem t_X1_hits (x1 : Int32) (x2 : Int32) (x3 : Int32) (x4 : Int32) (σ : zS) (Q : Option Value → zS → Prop) (h : wpO (f_X1_hits x1 x2 x3 x4 σ) (fun a => Q (some (.int a.1)) a.2)) : PK alC yX1_hits mX1_hits (6) [.ref 1000, .int x1, .int x2, .int x3, .int x4] σ Q := by
  refine PC_ofF (by decide +kernel) rfl rfl (Nat.le_of_ble_eq_true rfl) ?_
  show PZ alC mX1_hits (6) Q 0 [(0, .ref 1000), (1, .int x1), (2, .int x2), (3, .int x3), (4, .int x4)] [] σ
  unfold f_X1_hits at h
  refine PW_iconst (pc' := 1) (v := 0) (pw_dk dc_X1_hits 0 rfl) rfl (by decide) ?_
  refine PW_istore (pc' := 3) (lv' := [(5, .int 0), (0, .ref 1000), (1, .int x1), (2, .int x2), (3, .int x3), (4, .int x4)]) (pw_dk dc_X1_hits 1 rfl) rfl (by decide) rfl ?_
  refine PW_iconst (pc' := 4) (v := 0) (pw_dk dc_X1_hits 2 rfl) rfl (by decide) ?_
  refine PW_istore (pc' := 6) (lv' := [(6, .int 0), (5, .int 0), (0, .ref 1000), (1, .int x1), (2, .int x2), (3, .int x3), (4, .int x4)]) (pw_dk dc_X1_hits 3 rfl) rfl (by decide) rfl ?_
  refine PW_sub (lv' := [(0, .ref 1000), (1, .int x1), (2, .int x2), (3, .int x3), (4, .int x4), (5, .int 0), (6, .int 0)]) [2, 3, 4, 5, 6, 1, 0] rfl ?_
  exact b_X1_hits_6 FU x1 x2 x3 x4 0 0 σ h
def f_X1_weigh_3 (d2 : Nat) : Nat → Int32 → Int32 → Int32 → zS → Option zS
  | 0, _, _, _, _ => none
  | n + 1, x3, x4, x5, σ => 
    if 16 ≤ x5 then
      some σ
    else
      (rdI σ (d2 + 3) 5 x3).bind fun v_2 =>
      lt (α := Int32) (f_X5_facing v_2 (x5 / (4 : Int32)) σ) fun x6_6 =>
      (rdI σ (d2 + 3) 5 x4).bind fun v_7 =>
      lt (α := Int32) (f_X5_facing v_7 (x5 - x5 / (4 : Int32) * (4 : Int32)) σ) fun x7_11 =>
      b2 (f_X1_hits x3 x6_6 x7_11 (σ.1 d2 0) σ) fun v_14 σ_13 =>
      b2 (f_X1_hits x4 x7_11 x6_6 (σ_13.1 d2 0) σ_13) fun v_18 σ_17 =>
      (wrI σ_17 1601 16 x5 (v_14 - v_18)).bind fun σ_20 =>
      f_X1_weigh_3 d2 n x3 x4 (x5 + 1) σ_20
theorem b_X1_weigh_3 {Q : Option Value → zS → Prop} (d2 : Nat) (hd2 : isDay d2) : ∀ (n : Nat) (x3 : Int32) (x4 : Int32) (x5 : Int32) (σ : zS) (h : wpO (f_X1_weigh_3 d2 n x3 x4 x5 σ) (fun s => Q none s)), PZ alC mX1_weigh (7) Q 3 [(0, .ref 1600), (1, .ref 1000), (2, .ref d2), (3, .int x3), (4, .int x4), (5, .int x5)] [] σ := by
  intro n
  induction n with
  | zero => intro x3 x4 x5 σ h; exact wp_none h
  | succ n ih =>
    intro x3 x4 x5 σ h
    rw [f_X1_weigh_3] at h
    refine PW_iload (pc' := 5) (q := 5) (pw_dk dc_X1_weigh 2 rfl) rfl rfl ?_
    refine PW_bipush (pc' := 7) (v := 16) (pw_dk dc_X1_weigh 3 rfl) rfl (by decide) ?_
    refine PW_icmp_ge (pc' := 10) (tgt := 82) (pw_dk dc_X1_weigh 4 rfl) rfl (by decide) (fun c_1 => ?_) (fun c_1 => ?_)
    · rw [if_pos c_1] at h
      have z := wp_some h
      exact PZ_vret (pw_dk dc_X1_weigh 44 rfl) rfl z
    · rw [if_neg c_1] at h
      refine PW_aload_n (pc' := 11) (q := 2) (pw_dk dc_X1_weigh 5 rfl) rfl rfl rfl ?_
      refine PW_getR (pc' := 14) (id := d2) (ci := 0) (nn := 0) (C0 := RX0) (T := TX0) (N := 6) (j := 2) (r := d2 + 3) (pw_dk dc_X1_weigh 6 rfl) rfl (me_D hd2) rfl pi_0 (by decide) fk_0_2 tw_462 (rf_D2 _ hd2) (su0 _ _) ?_
      refine PW_iload_n (pc' := 15) (q := 3) (pw_dk dc_X1_weigh 7 rfl) rfl rfl rfl ?_
      obtain ⟨v_2, hi_3, e_4, h⟩ := wp_rdIx h
      refine PZ_ialdx (pc' := 16) (v := v_2) (id := (d2 + 3)) (nn := 5) (pw_dk dc_X1_weigh 8 rfl) rfl (me_D2 hd2) hi_3 e_4 ?_
      refine PW_iload (pc' := 18) (q := 5) (pw_dk dc_X1_weigh 9 rfl) rfl rfl ?_
      refine PW_iconst (pc' := 19) (v := 4) (pw_dk dc_X1_weigh 10 rfl) rfl (by decide) ?_
      refine PW_idiv (pc' := 20) (pw_dk dc_X1_weigh 11 rfl) rfl (by decide) ?_
      refine PZ_callSi (pc' := 23) (y := yX5_facing) (M' := mX5_facing) (d' := 0) (As := [.int v_2, .int (x5 / (4 : Int32))]) (st := []) tw_1000 (pw_dk dc_X1_weigh 12 rfl) rfl Y_X5_facing tw_1148 rfl (by decide) (Nat.le_of_ble_eq_true rfl) (t_X5_facing v_2 (x5 / (4 : Int32)) σ _ ?_)
      refine ⟨_, rfl, fun hn_5 => ?_⟩
      show PZ alC mX1_weigh (7) Q 23 [(0, .ref 1600), (1, .ref 1000), (2, .ref d2), (3, .int x3), (4, .int x4), (5, .int x5)] [.int (f_X5_facing v_2 (x5 / (4 : Int32)) σ)] σ
      refine PW_topi (fun x6_6 ex6_6 => ?_)
      replace h := lt_w h ex6_6
      refine PW_istore (pc' := 25) (lv' := [(6, .int x6_6), (0, .ref 1600), (1, .ref 1000), (2, .ref d2), (3, .int x3), (4, .int x4), (5, .int x5)]) (pw_dk dc_X1_weigh 13 rfl) rfl (by decide) rfl ?_
      refine PW_aload_n (pc' := 26) (q := 3) (pw_dk dc_X1_weigh 14 rfl) rfl rfl rfl ?_
      refine PW_getR (pc' := 29) (id := d2) (ci := 0) (nn := 0) (C0 := RX0) (T := TX0) (N := 6) (j := 2) (r := d2 + 3) (pw_dk dc_X1_weigh 15 rfl) rfl (me_D hd2) rfl pi_0 (by decide) fk_0_2 tw_462 (rf_D2 _ hd2) (su0 _ _) ?_
      refine PW_iload (pc' := 31) (q := 5) (pw_dk dc_X1_weigh 16 rfl) rfl rfl ?_
      obtain ⟨v_7, hi_8, e_9, h⟩ := wp_rdIx h
      refine PZ_ialdx (pc' := 32) (v := v_7) (id := (d2 + 3)) (nn := 5) (pw_dk dc_X1_weigh 17 rfl) rfl (me_D2 hd2) hi_8 e_9 ?_
      refine PW_iload (pc' := 34) (q := 6) (pw_dk dc_X1_weigh 18 rfl) rfl rfl ?_
      refine PW_iconst (pc' := 35) (v := 4) (pw_dk dc_X1_weigh 19 rfl) rfl (by decide) ?_
      refine PW_irem (pc' := 36) (pw_dk dc_X1_weigh 20 rfl) rfl (by decide) ?_
      refine PZ_callSi (pc' := 39) (y := yX5_facing) (M' := mX5_facing) (d' := 0) (As := [.int v_7, .int (x5 - x5 / (4 : Int32) * (4 : Int32))]) (st := []) tw_1000 (pw_dk dc_X1_weigh 21 rfl) rfl Y_X5_facing tw_1148 rfl (by decide) (Nat.le_of_ble_eq_true rfl) (t_X5_facing v_7 (x5 - x5 / (4 : Int32) * (4 : Int32)) σ _ ?_)
      refine ⟨_, rfl, fun hn_10 => ?_⟩
      show PZ alC mX1_weigh (7) Q 39 [(6, .int x6_6), (0, .ref 1600), (1, .ref 1000), (2, .ref d2), (3, .int x3), (4, .int x4), (5, .int x5)] [.int (f_X5_facing v_7 (x5 - x5 / (4 : Int32) * (4 : Int32)) σ)] σ
      refine PW_topi (fun x7_11 ex7_11 => ?_)
      replace h := lt_w h ex7_11
      refine PW_istore (pc' := 41) (lv' := [(7, .int x7_11), (6, .int x6_6), (0, .ref 1600), (1, .ref 1000), (2, .ref d2), (3, .int x3), (4, .int x4), (5, .int x5)]) (pw_dk dc_X1_weigh 22 rfl) rfl (by decide) rfl ?_
      refine PW_aload_n (pc' := 42) (q := 2) (pw_dk dc_X1_weigh 23 rfl) rfl rfl rfl ?_
      refine PW_getR (pc' := 45) (id := 1600) (ci := 1) (nn := 0) (C0 := RX1) (T := TX1) (N := 1) (j := 0) (r := 1601) (pw_dk dc_X1_weigh 24 rfl) rfl me_1600 rfl pi_1 (by decide) fk_1_0 tw_591 (rfl) (by decide) ?_
      refine PW_iload (pc' := 47) (q := 7) (pw_dk dc_X1_weigh 25 rfl) rfl rfl ?_
      refine PW_aload_n (pc' := 48) (q := 3) (pw_dk dc_X1_weigh 26 rfl) rfl rfl rfl ?_
      refine PW_iload_n (pc' := 49) (q := 5) (pw_dk dc_X1_weigh 27 rfl) rfl rfl rfl ?_
      refine PW_iload (pc' := 51) (q := 1) (pw_dk dc_X1_weigh 28 rfl) rfl rfl ?_
      refine PW_iload (pc' := 53) (q := 0) (pw_dk dc_X1_weigh 29 rfl) rfl rfl ?_
      refine PW_aload_n (pc' := 54) (q := 4) (pw_dk dc_X1_weigh 30 rfl) rfl rfl rfl ?_
      refine PZ_getI (pc' := 57) (id := d2) (ci := 0) (nn := 0) (C0 := RX0) (T := TX0) (N := 6) (j := 0) (pw_dk dc_X1_weigh 31 rfl) rfl (me_D hd2) rfl pi_0 (by decide) fk_0_0 tw_455 ?_
      refine PZ_callSi (pc' := 60) (y := yX1_hits) (M' := mX1_hits) (d' := 6) (As := [.ref 1000, .int x3, .int x6_6, .int x7_11, .int (σ.1 d2 0)]) (st := [.int x5, .ref 1601]) tw_1150 (pw_dk dc_X1_weigh 32 rfl) rfl Y_X1_hits tw_1149 rfl (by decide) (Nat.le_of_ble_eq_true rfl) (t_X1_hits x3 x6_6 x7_11 (σ.1 d2 0) σ _ ?_)
      obtain ⟨⟨v_14, σ_13⟩, e_15, h⟩ := wp_bind2 h
      refine ⟨(v_14, σ_13), e_15, _, rfl, fun hn_12 => ?_⟩
      show PZ alC mX1_weigh (7) Q 60 [(7, .int x7_11), (6, .int x6_6), (0, .ref 1600), (1, .ref 1000), (2, .ref d2), (3, .int x3), (4, .int x4), (5, .int x5)] [.int v_14, .int x5, .ref 1601] σ_13
      refine PW_aload_n (pc' := 61) (q := 3) (pw_dk dc_X1_weigh 33 rfl) rfl rfl rfl ?_
      refine PW_iload (pc' := 63) (q := 6) (pw_dk dc_X1_weigh 34 rfl) rfl rfl ?_
      refine PW_iload (pc' := 65) (q := 0) (pw_dk dc_X1_weigh 35 rfl) rfl rfl ?_
      refine PW_iload (pc' := 67) (q := 1) (pw_dk dc_X1_weigh 36 rfl) rfl rfl ?_
      refine PW_aload_n (pc' := 68) (q := 4) (pw_dk dc_X1_weigh 37 rfl) rfl rfl rfl ?_
      refine PZ_getI (pc' := 71) (id := d2) (ci := 0) (nn := 0) (C0 := RX0) (T := TX0) (N := 6) (j := 0) (pw_dk dc_X1_weigh 38 rfl) rfl (me_D hd2) rfl pi_0 (by decide) fk_0_0 tw_455 ?_
      refine PZ_callSi (pc' := 74) (y := yX1_hits) (M' := mX1_hits) (d' := 6) (As := [.ref 1000, .int x4, .int x7_11, .int x6_6, .int (σ_13.1 d2 0)]) (st := [.int v_14, .int x5, .ref 1601]) tw_1150 (pw_dk dc_X1_weigh 39 rfl) rfl Y_X1_hits tw_1149 rfl (by decide) (Nat.le_of_ble_eq_true rfl) (t_X1_hits x4 x7_11 x6_6 (σ_13.1 d2 0) σ_13 _ ?_)
      obtain ⟨⟨v_18, σ_17⟩, e_19, h⟩ := wp_bind2 h
      refine ⟨(v_18, σ_17), e_19, _, rfl, fun hn_16 => ?_⟩
      show PZ alC mX1_weigh (7) Q 74 [(7, .int x7_11), (6, .int x6_6), (0, .ref 1600), (1, .ref 1000), (2, .ref d2), (3, .int x3), (4, .int x4), (5, .int x5)] [.int v_18, .int v_14, .int x5, .ref 1601] σ_17
      refine PW_isub (pc' := 75) (pw_dk dc_X1_weigh 40 rfl) rfl ?_
      obtain ⟨σ_20, hi_21, e_22, h⟩ := wp_wrIx h
      refine PZ_iastx (pc' := 76) (σ' := σ_20) (id := 1601) (nn := 16) (pw_dk dc_X1_weigh 41 rfl) rfl me_1601 hi_21 e_22 ?_
      refine PW_iinc (pc' := 79) (q := 7) (v := x5 + 1) (lv' := [(5, .int (x5 + 1)), (7, .int x7_11), (6, .int x6_6), (0, .ref 1600), (1, .ref 1000), (2, .ref d2), (3, .int x3), (4, .int x4)]) (pw_dk dc_X1_weigh 42 rfl) rfl rfl rfl (by decide) rfl ?_
      refine PW_goto (tgt := 3) (pw_dk dc_X1_weigh 43 rfl) (by decide) ?_
      refine PW_sub (lv' := [(0, .ref 1600), (1, .ref 1000), (2, .ref d2), (3, .int x3), (4, .int x4), (5, .int (x5 + 1))]) [3, 4, 5, 6, 7, 0] rfl ?_
      exact ih x3 x4 (x5 + 1) σ_20 h
def f_X1_weigh (d2 : Nat) (x3 : Int32) (x4 : Int32) (σ : zS) : Option zS := 
  f_X1_weigh_3 d2 FU x3 x4 0 σ
theorem t_X1_weigh (d2 : Nat) (x3 : Int32) (x4 : Int32) (hd2 : isDay d2) (σ : zS) (Q : Option Value → zS → Prop) (h : wpO (f_X1_weigh d2 x3 x4 σ) (fun s => Q none s)) : PK alC yX1_weigh mX1_weigh (7) [.ref 1600, .ref 1000, .ref d2, .int x3, .int x4] σ Q := by
  refine PC_ofF (by decide +kernel) rfl rfl (Nat.le_of_ble_eq_true rfl) ?_
  show PZ alC mX1_weigh (7) Q 0 [(0, .ref 1600), (1, .ref 1000), (2, .ref d2), (3, .int x3), (4, .int x4)] [] σ
  unfold f_X1_weigh at h
  refine PW_iconst (pc' := 1) (v := 0) (pw_dk dc_X1_weigh 0 rfl) rfl (by decide) ?_
  refine PW_istore (pc' := 3) (lv' := [(5, .int 0), (0, .ref 1600), (1, .ref 1000), (2, .ref d2), (3, .int x3), (4, .int x4)]) (pw_dk dc_X1_weigh 1 rfl) rfl (by decide) rfl ?_
  refine PW_sub (lv' := [(0, .ref 1600), (1, .ref 1000), (2, .ref d2), (3, .int x3), (4, .int x4), (5, .int 0)]) [1, 2, 3, 4, 5, 0] rfl ?_
  exact b_X1_weigh_3 d2 hd2 FU x3 x4 0 σ h
def f_X1_isRest_69 (r11 : Int32 → Int32 → Int32 → Int32 → zS → Option Int32) (x1 : Int32) (x2 : Int32) (x3 : Int32) (x4 : Int32) (x5 : Int32) (s0 : Int32) (σ : zS) : Option Int32 := 
  if x5 = 0 then
    if s0 = 0 then
      r11 x1 x2 x3 (x4 + 1) σ
    else
      some 0
  else
    some 0
theorem b_X1_isRest_69 {Q : Option Value → zS → Prop} (r11 : Int32 → Int32 → Int32 → Int32 → zS → Option Int32) (hr11 : ∀ (x1 : Int32) (x2 : Int32) (x3 : Int32) (x4 : Int32) (σ : zS), wpO (r11 x1 x2 x3 x4 σ) (fun a => Q (some (.int a)) σ) → PZ alC mX1_isRest (0) Q 11 [(0, .ref 1600), (1, .int x1), (2, .int x2), (3, .int x3), (4, .int x4)] [] σ) (x1 : Int32) (x2 : Int32) (x3 : Int32) (x4 : Int32) (x5 : Int32) (s0 : Int32) (σ : zS) (h : wpO (f_X1_isRest_69 r11 x1 x2 x3 x4 x5 s0 σ) (fun a => Q (some (.int a)) σ)) : PZ alC mX1_isRest (0) Q 69 [(0, .ref 1600), (1, .int x1), (2, .int x2), (3, .int x3), (4, .int x4), (5, .int x5)] [.int s0] σ := by
  unfold f_X1_isRest_69 at h
  refine PW_istore (pc' := 71) (lv' := [(6, .int s0), (0, .ref 1600), (1, .int x1), (2, .int x2), (3, .int x3), (4, .int x4), (5, .int x5)]) (pw_dk dc_X1_isRest 46 rfl) rfl (by decide) rfl ?_
  refine PW_iload (pc' := 73) (q := 6) (pw_dk dc_X1_isRest 47 rfl) rfl rfl ?_
  refine PW_if_ne (pc' := 76) (tgt := 81) (pw_dk dc_X1_isRest 48 rfl) rfl (by decide) (fun c_1 => ?_) (fun c_1 => ?_)
  · rw [if_neg c_1] at h
    refine PW_iconst (pc' := 82) (v := 0) (pw_dk dc_X1_isRest 51 rfl) rfl (by decide) ?_
    have z := wp_some h
    exact PZ_iret (ty := .boolean) (pw_dk dc_X1_isRest 52 rfl) rfl (by decide) z
  · rw [if_pos c_1] at h
    refine PW_iload (pc' := 78) (q := 0) (pw_dk dc_X1_isRest 49 rfl) rfl rfl ?_
    refine PW_if_eq (pc' := 81) (tgt := 83) (pw_dk dc_X1_isRest 50 rfl) rfl (by decide) (fun c_2 => ?_) (fun c_2 => ?_)
    · rw [if_pos c_2] at h
      refine PW_iinc (pc' := 86) (q := 5) (v := x4 + 1) (lv' := [(4, .int (x4 + 1)), (6, .int s0), (0, .ref 1600), (1, .int x1), (2, .int x2), (3, .int x3), (5, .int x5)]) (pw_dk dc_X1_isRest 53 rfl) rfl rfl rfl (by decide) rfl ?_
      refine PW_goto (tgt := 11) (pw_dk dc_X1_isRest 54 rfl) (by decide) ?_
      refine PW_sub (lv' := [(0, .ref 1600), (1, .int x1), (2, .int x2), (3, .int x3), (4, .int (x4 + 1))]) [2, 3, 4, 5, 0] rfl ?_
      exact hr11 x1 x2 x3 (x4 + 1) σ h
    · rw [if_neg c_2] at h
      refine PW_iconst (pc' := 82) (v := 0) (pw_dk dc_X1_isRest 51 rfl) rfl (by decide) ?_
      have z := wp_some h
      exact PZ_iret (ty := .boolean) (pw_dk dc_X1_isRest 52 rfl) rfl (by decide) z
def f_X1_isRest_42 (r11 : Int32 → Int32 → Int32 → Int32 → zS → Option Int32) (x1 : Int32) (x2 : Int32) (x3 : Int32) (x4 : Int32) (s0 : Int32) (σ : zS) : Option Int32 := 
  (rdI σ 1601 16 ((x2 * (4 : Int32)) + x4)).bind fun v_1 =>
  (rdI σ 1601 16 x1).bind fun v_4 =>
  if v_4 ≤ v_1 then
    f_X1_isRest_69 r11 x1 x2 x3 x4 s0 0 σ
  else
    f_X1_isRest_69 r11 x1 x2 x3 x4 s0 1 σ
theorem b_X1_isRest_42 {Q : Option Value → zS → Prop} (r11 : Int32 → Int32 → Int32 → Int32 → zS → Option Int32) (hr11 : ∀ (x1 : Int32) (x2 : Int32) (x3 : Int32) (x4 : Int32) (σ : zS), wpO (r11 x1 x2 x3 x4 σ) (fun a => Q (some (.int a)) σ) → PZ alC mX1_isRest (0) Q 11 [(0, .ref 1600), (1, .int x1), (2, .int x2), (3, .int x3), (4, .int x4)] [] σ) (x1 : Int32) (x2 : Int32) (x3 : Int32) (x4 : Int32) (s0 : Int32) (σ : zS) (h : wpO (f_X1_isRest_42 r11 x1 x2 x3 x4 s0 σ) (fun a => Q (some (.int a)) σ)) : PZ alC mX1_isRest (0) Q 42 [(0, .ref 1600), (1, .int x1), (2, .int x2), (3, .int x3), (4, .int x4)] [.int s0] σ := by
  unfold f_X1_isRest_42 at h
  refine PW_istore (pc' := 44) (lv' := [(5, .int s0), (0, .ref 1600), (1, .int x1), (2, .int x2), (3, .int x3), (4, .int x4)]) (pw_dk dc_X1_isRest 29 rfl) rfl (by decide) rfl ?_
  refine PW_aload_n (pc' := 45) (q := 1) (pw_dk dc_X1_isRest 30 rfl) rfl rfl rfl ?_
  refine PW_getR (pc' := 48) (id := 1600) (ci := 1) (nn := 0) (C0 := RX1) (T := TX1) (N := 1) (j := 0) (r := 1601) (pw_dk dc_X1_isRest 31 rfl) rfl me_1600 rfl pi_1 (by decide) fk_1_0 tw_591 (rfl) (by decide) ?_
  refine PW_iload_n (pc' := 49) (q := 3) (pw_dk dc_X1_isRest 32 rfl) rfl rfl rfl ?_
  refine PW_iconst (pc' := 50) (v := 4) (pw_dk dc_X1_isRest 33 rfl) rfl (by decide) ?_
  refine PW_imul (pc' := 51) (pw_dk dc_X1_isRest 34 rfl) rfl ?_
  refine PW_iload (pc' := 53) (q := 5) (pw_dk dc_X1_isRest 35 rfl) rfl rfl ?_
  refine PW_iadd (pc' := 54) (pw_dk dc_X1_isRest 36 rfl) rfl ?_
  obtain ⟨v_1, hi_2, e_3, h⟩ := wp_rdIx h
  refine PZ_ialdx (pc' := 55) (v := v_1) (id := 1601) (nn := 16) (pw_dk dc_X1_isRest 37 rfl) rfl me_1601 hi_2 e_3 ?_
  refine PW_aload_n (pc' := 56) (q := 1) (pw_dk dc_X1_isRest 38 rfl) rfl rfl rfl ?_
  refine PW_getR (pc' := 59) (id := 1600) (ci := 1) (nn := 0) (C0 := RX1) (T := TX1) (N := 1) (j := 0) (r := 1601) (pw_dk dc_X1_isRest 39 rfl) rfl me_1600 rfl pi_1 (by decide) fk_1_0 tw_591 (rfl) (by decide) ?_
  refine PW_iload_n (pc' := 60) (q := 2) (pw_dk dc_X1_isRest 40 rfl) rfl rfl rfl ?_
  obtain ⟨v_4, hi_5, e_6, h⟩ := wp_rdIx h
  refine PZ_ialdx (pc' := 61) (v := v_4) (id := 1601) (nn := 16) (pw_dk dc_X1_isRest 41 rfl) rfl me_1601 hi_5 e_6 ?_
  refine PW_icmp_ge (pc' := 64) (tgt := 68) (pw_dk dc_X1_isRest 42 rfl) rfl (by decide) (fun c_7 => ?_) (fun c_7 => ?_)
  · rw [if_pos c_7] at h
    refine PW_iconst (pc' := 69) (v := 0) (pw_dk dc_X1_isRest 45 rfl) rfl (by decide) ?_
    refine PW_sub (lv' := [(0, .ref 1600), (1, .int x1), (2, .int x2), (3, .int x3), (4, .int x4), (5, .int s0)]) [1, 2, 3, 4, 5, 0] rfl ?_
    exact b_X1_isRest_69 r11 hr11 x1 x2 x3 x4 s0 0 σ h
  · rw [if_neg c_7] at h
    refine PW_iconst (pc' := 65) (v := 1) (pw_dk dc_X1_isRest 43 rfl) rfl (by decide) ?_
    refine PW_goto (tgt := 69) (pw_dk dc_X1_isRest 44 rfl) (by decide) ?_
    refine PW_sub (lv' := [(0, .ref 1600), (1, .int x1), (2, .int x2), (3, .int x3), (4, .int x4), (5, .int s0)]) [1, 2, 3, 4, 5, 0] rfl ?_
    exact b_X1_isRest_69 r11 hr11 x1 x2 x3 x4 s0 1 σ h
def f_X1_isRest_11  : Nat → Int32 → Int32 → Int32 → Int32 → zS → Option Int32
  | 0, _, _, _, _, _ => none
  | n + 1, x1, x2, x3, x4, σ => 
    if 4 ≤ x4 then
      some 1
    else
      (rdI σ 1601 16 ((x4 * (4 : Int32)) + x3)).bind fun v_2 =>
      (rdI σ 1601 16 x1).bind fun v_5 =>
      if v_2 ≤ v_5 then
        f_X1_isRest_42 (f_X1_isRest_11 n) x1 x2 x3 x4 0 σ
      else
        f_X1_isRest_42 (f_X1_isRest_11 n) x1 x2 x3 x4 1 σ
theorem b_X1_isRest_11 {Q : Option Value → zS → Prop} : ∀ (n : Nat) (x1 : Int32) (x2 : Int32) (x3 : Int32) (x4 : Int32) (σ : zS) (h : wpO (f_X1_isRest_11 n x1 x2 x3 x4 σ) (fun a => Q (some (.int a)) σ)), PZ alC mX1_isRest (0) Q 11 [(0, .ref 1600), (1, .int x1), (2, .int x2), (3, .int x3), (4, .int x4)] [] σ := by
  intro n
  induction n with
  | zero => intro x1 x2 x3 x4 σ h; exact wp_none h
  | succ n ih =>
    intro x1 x2 x3 x4 σ h
    rw [f_X1_isRest_11] at h
    refine PW_iload (pc' := 13) (q := 4) (pw_dk dc_X1_isRest 10 rfl) rfl rfl ?_
    refine PW_iconst (pc' := 14) (v := 4) (pw_dk dc_X1_isRest 11 rfl) rfl (by decide) ?_
    refine PW_icmp_ge (pc' := 17) (tgt := 89) (pw_dk dc_X1_isRest 12 rfl) rfl (by decide) (fun c_1 => ?_) (fun c_1 => ?_)
    · rw [if_pos c_1] at h
      refine PW_iconst (pc' := 90) (v := 1) (pw_dk dc_X1_isRest 55 rfl) rfl (by decide) ?_
      have z := wp_some h
      exact PZ_iret (ty := .boolean) (pw_dk dc_X1_isRest 56 rfl) rfl (by decide) z
    · rw [if_neg c_1] at h
      refine PW_aload_n (pc' := 18) (q := 0) (pw_dk dc_X1_isRest 13 rfl) rfl rfl rfl ?_
      refine PW_getR (pc' := 21) (id := 1600) (ci := 1) (nn := 0) (C0 := RX1) (T := TX1) (N := 1) (j := 0) (r := 1601) (pw_dk dc_X1_isRest 14 rfl) rfl me_1600 rfl pi_1 (by decide) fk_1_0 tw_591 (rfl) (by decide) ?_
      refine PW_iload (pc' := 23) (q := 4) (pw_dk dc_X1_isRest 15 rfl) rfl rfl ?_
      refine PW_iconst (pc' := 24) (v := 4) (pw_dk dc_X1_isRest 16 rfl) rfl (by decide) ?_
      refine PW_imul (pc' := 25) (pw_dk dc_X1_isRest 17 rfl) rfl ?_
      refine PW_iload_n (pc' := 26) (q := 3) (pw_dk dc_X1_isRest 18 rfl) rfl rfl rfl ?_
      refine PW_iadd (pc' := 27) (pw_dk dc_X1_isRest 19 rfl) rfl ?_
      obtain ⟨v_2, hi_3, e_4, h⟩ := wp_rdIx h
      refine PZ_ialdx (pc' := 28) (v := v_2) (id := 1601) (nn := 16) (pw_dk dc_X1_isRest 20 rfl) rfl me_1601 hi_3 e_4 ?_
      refine PW_aload_n (pc' := 29) (q := 0) (pw_dk dc_X1_isRest 21 rfl) rfl rfl rfl ?_
      refine PW_getR (pc' := 32) (id := 1600) (ci := 1) (nn := 0) (C0 := RX1) (T := TX1) (N := 1) (j := 0) (r := 1601) (pw_dk dc_X1_isRest 22 rfl) rfl me_1600 rfl pi_1 (by decide) fk_1_0 tw_591 (rfl) (by decide) ?_
      refine PW_iload_n (pc' := 33) (q := 1) (pw_dk dc_X1_isRest 23 rfl) rfl rfl rfl ?_
      obtain ⟨v_5, hi_6, e_7, h⟩ := wp_rdIx h
      refine PZ_ialdx (pc' := 34) (v := v_5) (id := 1601) (nn := 16) (pw_dk dc_X1_isRest 24 rfl) rfl me_1601 hi_6 e_7 ?_
      refine PW_icmp_le (pc' := 37) (tgt := 41) (pw_dk dc_X1_isRest 25 rfl) rfl (by decide) (fun c_8 => ?_) (fun c_8 => ?_)
      · rw [if_pos c_8] at h
        refine PW_iconst (pc' := 42) (v := 0) (pw_dk dc_X1_isRest 28 rfl) rfl (by decide) ?_
        exact b_X1_isRest_42 (f_X1_isRest_11 n) ih x1 x2 x3 x4 0 σ h
      · rw [if_neg c_8] at h
        refine PW_iconst (pc' := 38) (v := 1) (pw_dk dc_X1_isRest 26 rfl) rfl (by decide) ?_
        refine PW_goto (tgt := 42) (pw_dk dc_X1_isRest 27 rfl) (by decide) ?_
        exact b_X1_isRest_42 (f_X1_isRest_11 n) ih x1 x2 x3 x4 1 σ h
def f_X1_isRest (x1 : Int32) (σ : zS) : Option Int32 := 
  lt (α := Int32) (x1 / (4 : Int32)) fun x2_1 =>
  lt (α := Int32) (x1 - x1 / (4 : Int32) * (4 : Int32)) fun x3_2 =>
  f_X1_isRest_11 FU x1 x2_1 x3_2 0 σ
theorem t_X1_isRest (x1 : Int32) (σ : zS) (Q : Option Value → zS → Prop) (h : wpO (f_X1_isRest x1 σ) (fun a => Q (some (.int a)) σ)) : PK alC yX1_isRest mX1_isRest (0) [.ref 1600, .int x1] σ Q := by
  refine PC_ofF (by decide +kernel) rfl rfl (Nat.le_of_ble_eq_true rfl) ?_
  show PZ alC mX1_isRest (0) Q 0 [(0, .ref 1600), (1, .int x1)] [] σ
  unfold f_X1_isRest at h
  refine PW_iload_n (pc' := 1) (q := 1) (pw_dk dc_X1_isRest 0 rfl) rfl rfl rfl ?_
  refine PW_iconst (pc' := 2) (v := 4) (pw_dk dc_X1_isRest 1 rfl) rfl (by decide) ?_
  refine PW_idiv (pc' := 3) (pw_dk dc_X1_isRest 2 rfl) rfl (by decide) ?_
  refine PW_topi (fun x2_1 ex2_1 => ?_)
  replace h := lt_w h ex2_1
  refine PW_istore_n (pc' := 4) (lv' := [(2, .int x2_1), (0, .ref 1600), (1, .int x1)]) (pw_dk dc_X1_isRest 3 rfl) rfl rfl (by decide) rfl ?_
  refine PW_iload_n (pc' := 5) (q := 2) (pw_dk dc_X1_isRest 4 rfl) rfl rfl rfl ?_
  refine PW_iconst (pc' := 6) (v := 4) (pw_dk dc_X1_isRest 5 rfl) rfl (by decide) ?_
  refine PW_irem (pc' := 7) (pw_dk dc_X1_isRest 6 rfl) rfl (by decide) ?_
  refine PW_topi (fun x3_2 ex3_2 => ?_)
  replace h := lt_w h ex3_2
  refine PW_istore_n (pc' := 8) (lv' := [(3, .int x3_2), (2, .int x2_1), (0, .ref 1600), (1, .int x1)]) (pw_dk dc_X1_isRest 7 rfl) rfl rfl (by decide) rfl ?_
  refine PW_iconst (pc' := 9) (v := 0) (pw_dk dc_X1_isRest 8 rfl) rfl (by decide) ?_
  refine PW_istore (pc' := 11) (lv' := [(4, .int 0), (3, .int x3_2), (2, .int x2_1), (0, .ref 1600), (1, .int x1)]) (pw_dk dc_X1_isRest 9 rfl) rfl (by decide) rfl ?_
  refine PW_sub (lv' := [(0, .ref 1600), (1, .int x1), (2, .int x2_1), (3, .int x3_2), (4, .int 0)]) [3, 4, 2, 1, 0] rfl ?_
  exact b_X1_isRest_11 FU x1 x2_1 x3_2 0 σ h
def f_X2_clear (b : Bool) (σ : zS) : Option zS := 
  lt (wI σ (tl b) 0 0) fun σ_1 =>
  lt (wI σ_1 (tl b) 1 0) fun σ_3 =>
  (f_J7_fill_53178 (tl b + 5) 3 (-1 : Int32) σ_3).bind fun σ_6 =>
  some σ_6
theorem t_X2_clear (b : Bool) (σ : zS) (Q : Option Value → zS → Prop) (h : wpO (f_X2_clear b σ) (fun s => Q none s)) : PK alC yX2_clear mX2_clear (1) [.ref (tl b)] σ Q := by
  refine PC_ofF (by decide +kernel) rfl rfl (Nat.le_of_ble_eq_true rfl) ?_
  show PZ alC mX2_clear (1) Q 0 [(0, .ref (tl b))] [] σ
  unfold f_X2_clear at h
  refine PW_aload_n (pc' := 1) (q := 0) (pw_dk dc_X2_clear 0 rfl) rfl rfl rfl ?_
  refine PW_iconst (pc' := 2) (v := 0) (pw_dk dc_X2_clear 1 rfl) rfl (by decide) ?_
  obtain ⟨σ_1, e_2, h⟩ := lt_x h
  refine PZ_putX (pc' := 5) (σ' := σ_1) (id := (tl b)) (ci := 2) (nn := 0) (C0 := RX2) (T := TX2) (N := 8) (j := 0) (ty := tyX2 0) (pw_dk dc_X2_clear 2 rfl) rfl (me_L b) rfl pi_2 tyX2_ok nmX2 (by decide) fk_2_0 tw_166 rfl (tyX2_ok 0 (by decide)) (by first | rfl | decide) (by first | rfl | decide) e_2 ?_
  refine PW_aload_n (pc' := 6) (q := 0) (pw_dk dc_X2_clear 3 rfl) rfl rfl rfl ?_
  refine PW_iconst (pc' := 7) (v := 0) (pw_dk dc_X2_clear 4 rfl) rfl (by decide) ?_
  obtain ⟨σ_3, e_4, h⟩ := lt_x h
  refine PZ_putX (pc' := 10) (σ' := σ_3) (id := (tl b)) (ci := 2) (nn := 0) (C0 := RX2) (T := TX2) (N := 8) (j := 1) (ty := tyX2 1) (pw_dk dc_X2_clear 5 rfl) rfl (me_L b) rfl pi_2 tyX2_ok nmX2 (by decide) fk_2_1 tw_169 rfl (tyX2_ok 1 (by decide)) (by first | rfl | decide) (by first | rfl | decide) e_4 ?_
  refine PW_aload_n (pc' := 11) (q := 0) (pw_dk dc_X2_clear 6 rfl) rfl rfl rfl ?_
  refine PW_getR (pc' := 14) (id := (tl b)) (ci := 2) (nn := 0) (C0 := RX2) (T := TX2) (N := 8) (j := 4) (r := tl b + 5) (pw_dk dc_X2_clear 7 rfl) rfl (me_L b) rfl pi_2 (by decide) fk_2_4 tw_172 (rf_L4 _ _) (su0 _ _) ?_
  refine PW_iconst (pc' := 15) (v := (-1 : Int32)) (pw_dk dc_X2_clear 8 rfl) rfl (by decide) ?_
  refine PZ_callSv (pc' := 18) (y := yJ7_fill_53178) (M' := mJ7_fill_53178) (d' := 0) (As := [.ref (tl b + 5), .int (-1 : Int32)]) (st := []) tw_197 (pw_dk dc_X2_clear 9 rfl) rfl Y_J7_fill_53178 tw_665 rfl (by decide) (Nat.le_of_ble_eq_true rfl) (t_J7_fill_53178 alC (tl b + 5) 3 (-1 : Int32) (me_L4 _) σ_3 _ ?_)
  obtain ⟨σ_6, e_7, h⟩ := wp_bind h
  refine ⟨σ_6, e_7, rfl, fun hn_5 => ?_⟩
  show PZ alC mX2_clear (1) Q 18 [(0, .ref (tl b))] [] σ_6
  have z := wp_some h
  exact PZ_vret (pw_dk dc_X2_clear 10 rfl) rfl z
def f_X2_begin (b : Bool) (x1 : Int32) (σ : zS) : Option zS := 
  (wrI σ (tl b + 5) 3 x1 (σ.1 (tl b) 1)).bind fun σ_1 =>
  some σ_1
theorem t_X2_begin (b : Bool) (x1 : Int32) (σ : zS) (Q : Option Value → zS → Prop) (h : wpO (f_X2_begin b x1 σ) (fun s => Q none s)) : PK alC yX2_begin mX2_begin (0) [.ref (tl b), .int x1] σ Q := by
  refine PC_ofF (by decide +kernel) rfl rfl (Nat.le_of_ble_eq_true rfl) ?_
  show PZ alC mX2_begin (0) Q 0 [(0, .ref (tl b)), (1, .int x1)] [] σ
  unfold f_X2_begin at h
  refine PW_aload_n (pc' := 1) (q := 0) (pw_dk dc_X2_begin 0 rfl) rfl rfl rfl ?_
  refine PW_getR (pc' := 4) (id := (tl b)) (ci := 2) (nn := 0) (C0 := RX2) (T := TX2) (N := 8) (j := 4) (r := tl b + 5) (pw_dk dc_X2_begin 1 rfl) rfl (me_L b) rfl pi_2 (by decide) fk_2_4 tw_172 (rf_L4 _ _) (su0 _ _) ?_
  refine PW_iload_n (pc' := 5) (q := 1) (pw_dk dc_X2_begin 2 rfl) rfl rfl rfl ?_
  refine PW_aload_n (pc' := 6) (q := 0) (pw_dk dc_X2_begin 3 rfl) rfl rfl rfl ?_
  refine PZ_getI (pc' := 9) (id := (tl b)) (ci := 2) (nn := 0) (C0 := RX2) (T := TX2) (N := 8) (j := 1) (pw_dk dc_X2_begin 4 rfl) rfl (me_L b) rfl pi_2 (by decide) fk_2_1 tw_169 ?_
  obtain ⟨σ_1, hi_2, e_3, h⟩ := wp_wrIx h
  refine PZ_iastx (pc' := 10) (σ' := σ_1) (id := (tl b + 5)) (nn := 3) (pw_dk dc_X2_begin 5 rfl) rfl (me_L4 _) hi_2 e_3 ?_
  have z := wp_some h
  exact PZ_vret (pw_dk dc_X2_begin 6 rfl) rfl z
def f_X2_end (b : Bool) (x1 : Int32) (σ : zS) : Option zS := 
  (wrI σ (tl b + 6) 3 x1 (σ.1 (tl b) 1)).bind fun σ_1 =>
  some σ_1
theorem t_X2_end (b : Bool) (x1 : Int32) (σ : zS) (Q : Option Value → zS → Prop) (h : wpO (f_X2_end b x1 σ) (fun s => Q none s)) : PK alC yX2_end mX2_end (0) [.ref (tl b), .int x1] σ Q := by
  refine PC_ofF (by decide +kernel) rfl rfl (Nat.le_of_ble_eq_true rfl) ?_
  show PZ alC mX2_end (0) Q 0 [(0, .ref (tl b)), (1, .int x1)] [] σ
  unfold f_X2_end at h
  refine PW_aload_n (pc' := 1) (q := 0) (pw_dk dc_X2_end 0 rfl) rfl rfl rfl ?_
  refine PW_getR (pc' := 4) (id := (tl b)) (ci := 2) (nn := 0) (C0 := RX2) (T := TX2) (N := 8) (j := 5) (r := tl b + 6) (pw_dk dc_X2_end 1 rfl) rfl (me_L b) rfl pi_2 (by decide) fk_2_5 tw_173 (rf_L5 _ _) (su0 _ _) ?_
  refine PW_iload_n (pc' := 5) (q := 1) (pw_dk dc_X2_end 2 rfl) rfl rfl rfl ?_
  refine PW_aload_n (pc' := 6) (q := 0) (pw_dk dc_X2_end 3 rfl) rfl rfl rfl ?_
  refine PZ_getI (pc' := 9) (id := (tl b)) (ci := 2) (nn := 0) (C0 := RX2) (T := TX2) (N := 8) (j := 1) (pw_dk dc_X2_end 4 rfl) rfl (me_L b) rfl pi_2 (by decide) fk_2_1 tw_169 ?_
  obtain ⟨σ_1, hi_2, e_3, h⟩ := wp_wrIx h
  refine PZ_iastx (pc' := 10) (σ' := σ_1) (id := (tl b + 6)) (nn := 3) (pw_dk dc_X2_end 5 rfl) rfl (me_L5 _) hi_2 e_3 ?_
  have z := wp_some h
  exact PZ_vret (pw_dk dc_X2_end 6 rfl) rfl z
def f_X2_put (b : Bool) (x1 : Int32) (x2 : Int32) (σ : zS) : Option zS := 
  if 64 ≤ (σ.1 (tl b) 1) then
    some σ
  else
    (wrI σ (tl b + 3) 64 (σ.1 (tl b) 1) x1).bind fun σ_2 =>
    (wrI σ_2 (tl b + 4) 64 (σ_2.1 (tl b) 1) x2).bind fun σ_5 =>
    lt (wI σ_5 (tl b) 1 ((σ_5.1 (tl b) 1) + (1 : Int32))) fun σ_8 =>
    some σ_8
theorem t_X2_put (b : Bool) (x1 : Int32) (x2 : Int32) (σ : zS) (Q : Option Value → zS → Prop) (h : wpO (f_X2_put b x1 x2 σ) (fun s => Q none s)) : PK alC yX2_put mX2_put (0) [.ref (tl b), .int x1, .int x2] σ Q := by
  refine PC_ofF (by decide +kernel) rfl rfl (Nat.le_of_ble_eq_true rfl) ?_
  show PZ alC mX2_put (0) Q 0 [(0, .ref (tl b)), (1, .int x1), (2, .int x2)] [] σ
  unfold f_X2_put at h
  refine PW_aload_n (pc' := 1) (q := 0) (pw_dk dc_X2_put 0 rfl) rfl rfl rfl ?_
  refine PZ_getI (pc' := 4) (id := (tl b)) (ci := 2) (nn := 0) (C0 := RX2) (T := TX2) (N := 8) (j := 1) (pw_dk dc_X2_put 1 rfl) rfl (me_L b) rfl pi_2 (by decide) fk_2_1 tw_169 ?_
  refine PW_bipush (pc' := 6) (v := 64) (pw_dk dc_X2_put 2 rfl) rfl (by decide) ?_
  refine PW_icmp_ge (pc' := 9) (tgt := 39) (pw_dk dc_X2_put 3 rfl) rfl (by decide) (fun c_1 => ?_) (fun c_1 => ?_)
  · rw [if_pos c_1] at h
    have z := wp_some h
    exact PZ_vret (pw_dk dc_X2_put 22 rfl) rfl z
  · rw [if_neg c_1] at h
    refine PW_aload_n (pc' := 10) (q := 0) (pw_dk dc_X2_put 4 rfl) rfl rfl rfl ?_
    refine PW_getR (pc' := 13) (id := (tl b)) (ci := 2) (nn := 0) (C0 := RX2) (T := TX2) (N := 8) (j := 2) (r := tl b + 3) (pw_dk dc_X2_put 5 rfl) rfl (me_L b) rfl pi_2 (by decide) fk_2_2 tw_170 (rf_L2 _ _) (su0 _ _) ?_
    refine PW_aload_n (pc' := 14) (q := 0) (pw_dk dc_X2_put 6 rfl) rfl rfl rfl ?_
    refine PZ_getI (pc' := 17) (id := (tl b)) (ci := 2) (nn := 0) (C0 := RX2) (T := TX2) (N := 8) (j := 1) (pw_dk dc_X2_put 7 rfl) rfl (me_L b) rfl pi_2 (by decide) fk_2_1 tw_169 ?_
    refine PW_iload_n (pc' := 18) (q := 1) (pw_dk dc_X2_put 8 rfl) rfl rfl rfl ?_
    obtain ⟨σ_2, hi_3, e_4, h⟩ := wp_wrIx h
    refine PZ_iastx (pc' := 19) (σ' := σ_2) (id := (tl b + 3)) (nn := 64) (pw_dk dc_X2_put 9 rfl) rfl (me_L2 _) hi_3 e_4 ?_
    refine PW_aload_n (pc' := 20) (q := 0) (pw_dk dc_X2_put 10 rfl) rfl rfl rfl ?_
    refine PW_getR (pc' := 23) (id := (tl b)) (ci := 2) (nn := 0) (C0 := RX2) (T := TX2) (N := 8) (j := 3) (r := tl b + 4) (pw_dk dc_X2_put 11 rfl) rfl (me_L b) rfl pi_2 (by decide) fk_2_3 tw_171 (rf_L3 _ _) (su0 _ _) ?_
    refine PW_aload_n (pc' := 24) (q := 0) (pw_dk dc_X2_put 12 rfl) rfl rfl rfl ?_
    refine PZ_getI (pc' := 27) (id := (tl b)) (ci := 2) (nn := 0) (C0 := RX2) (T := TX2) (N := 8) (j := 1) (pw_dk dc_X2_put 13 rfl) rfl (me_L b) rfl pi_2 (by decide) fk_2_1 tw_169 ?_
    refine PW_iload_n (pc' := 28) (q := 2) (pw_dk dc_X2_put 14 rfl) rfl rfl rfl ?_
    obtain ⟨σ_5, hi_6, e_7, h⟩ := wp_wrIx h
    refine PZ_iastx (pc' := 29) (σ' := σ_5) (id := (tl b + 4)) (nn := 64) (pw_dk dc_X2_put 15 rfl) rfl (me_L3 _) hi_6 e_7 ?_
    refine PW_aload_n (pc' := 30) (q := 0) (pw_dk dc_X2_put 16 rfl) rfl rfl rfl ?_
    refine PW_dup (pc' := 31) (pw_dk dc_X2_put 17 rfl) rfl rfl ?_
    refine PZ_getI (pc' := 34) (id := (tl b)) (ci := 2) (nn := 0) (C0 := RX2) (T := TX2) (N := 8) (j := 1) (pw_dk dc_X2_put 18 rfl) rfl (me_L b) rfl pi_2 (by decide) fk_2_1 tw_169 ?_
    refine PW_iconst (pc' := 35) (v := 1) (pw_dk dc_X2_put 19 rfl) rfl (by decide) ?_
    refine PW_iadd (pc' := 36) (pw_dk dc_X2_put 20 rfl) rfl ?_
    obtain ⟨σ_8, e_9, h⟩ := lt_x h
    refine PZ_putX (pc' := 39) (σ' := σ_8) (id := (tl b)) (ci := 2) (nn := 0) (C0 := RX2) (T := TX2) (N := 8) (j := 1) (ty := tyX2 1) (pw_dk dc_X2_put 21 rfl) rfl (me_L b) rfl pi_2 tyX2_ok nmX2 (by decide) fk_2_1 tw_169 rfl (tyX2_ok 1 (by decide)) (by first | rfl | decide) (by first | rfl | decide) e_9 ?_
    have z := wp_some h
    exact PZ_vret (pw_dk dc_X2_put 22 rfl) rfl z
def f_X3_forget  (σ : zS) : Option zS := 
  lt (wI σ 1200 0 0) fun σ_1 =>
  lt (wI σ_1 1200 1 (-1 : Int32)) fun σ_3 =>
  some σ_3
theorem t_X3_forget (σ : zS) (Q : Option Value → zS → Prop) (h : wpO (f_X3_forget σ) (fun s => Q none s)) : PK alC yX3_forget mX3_forget (0) [.ref 1200] σ Q := by
  refine PC_ofF (by decide +kernel) rfl rfl (Nat.le_of_ble_eq_true rfl) ?_
  show PZ alC mX3_forget (0) Q 0 [(0, .ref 1200)] [] σ
  unfold f_X3_forget at h
  refine PW_aload_n (pc' := 1) (q := 0) (pw_dk dc_X3_forget 0 rfl) rfl rfl rfl ?_
  refine PW_iconst (pc' := 2) (v := 0) (pw_dk dc_X3_forget 1 rfl) rfl (by decide) ?_
  obtain ⟨σ_1, e_2, h⟩ := lt_x h
  refine PZ_putX (pc' := 5) (σ' := σ_1) (id := 1200) (ci := 3) (nn := 0) (C0 := RX3) (T := TX3) (N := 9) (j := 0) (ty := tyX3 0) (pw_dk dc_X3_forget 2 rfl) rfl me_1200 rfl pi_3 tyX3_ok nmX3 (by decide) fk_3_0 tw_521 rfl (tyX3_ok 0 (by decide)) (by first | rfl | decide) (by first | rfl | decide) e_2 ?_
  refine PW_aload_n (pc' := 6) (q := 0) (pw_dk dc_X3_forget 3 rfl) rfl rfl rfl ?_
  refine PW_iconst (pc' := 7) (v := (-1 : Int32)) (pw_dk dc_X3_forget 4 rfl) rfl (by decide) ?_
  obtain ⟨σ_3, e_4, h⟩ := lt_x h
  refine PZ_putX (pc' := 10) (σ' := σ_3) (id := 1200) (ci := 3) (nn := 0) (C0 := RX3) (T := TX3) (N := 9) (j := 1) (ty := tyX3 1) (pw_dk dc_X3_forget 5 rfl) rfl me_1200 rfl pi_3 tyX3_ok nmX3 (by decide) fk_3_1 tw_523 rfl (tyX3_ok 1 (by decide)) (by first | rfl | decide) (by first | rfl | decide) e_4 ?_
  have z := wp_some h
  exact PZ_vret (pw_dk dc_X3_forget 6 rfl) rfl z
def f_X3_reach  (σ : zS) : Int32 := 
  if (σ.1 1200 1) = (-1 : Int32) then
    σ.1 1200 0
  else
    σ.1 1200 1
theorem t_X3_reach (σ : zS) (Q : Option Value → zS → Prop) (h : Q (some (.int (f_X3_reach σ))) σ) : PK alC yX3_reach mX3_reach (0) [.ref 1200] σ Q := by
  refine PC_ofF (by decide +kernel) rfl rfl (Nat.le_of_ble_eq_true rfl) ?_
  show PZ alC mX3_reach (0) Q 0 [(0, .ref 1200)] [] σ
  unfold f_X3_reach at h
  refine PW_aload_n (pc' := 1) (q := 0) (pw_dk dc_X3_reach 0 rfl) rfl rfl rfl ?_
  refine PZ_getI (pc' := 4) (id := 1200) (ci := 3) (nn := 0) (C0 := RX3) (T := TX3) (N := 9) (j := 1) (pw_dk dc_X3_reach 1 rfl) rfl me_1200 rfl pi_3 (by decide) fk_3_1 tw_523 ?_
  refine PW_iconst (pc' := 5) (v := (-1 : Int32)) (pw_dk dc_X3_reach 2 rfl) rfl (by decide) ?_
  refine PW_icmp_ne (pc' := 8) (tgt := 15) (pw_dk dc_X3_reach 3 rfl) rfl (by decide) (fun c_1 => ?_) (fun c_1 => ?_)
  · rw [if_neg c_1] at h
    refine PW_aload_n (pc' := 16) (q := 0) (pw_dk dc_X3_reach 7 rfl) rfl rfl rfl ?_
    refine PZ_getI (pc' := 19) (id := 1200) (ci := 3) (nn := 0) (C0 := RX3) (T := TX3) (N := 9) (j := 1) (pw_dk dc_X3_reach 8 rfl) rfl me_1200 rfl pi_3 (by decide) fk_3_1 tw_523 ?_
    exact PZ_iret (ty := .int) (pw_dk dc_X3_reach 9 rfl) rfl rfl h
  · rw [if_pos c_1] at h
    refine PW_aload_n (pc' := 9) (q := 0) (pw_dk dc_X3_reach 4 rfl) rfl rfl rfl ?_
    refine PZ_getI (pc' := 12) (id := 1200) (ci := 3) (nn := 0) (C0 := RX3) (T := TX3) (N := 9) (j := 0) (pw_dk dc_X3_reach 5 rfl) rfl me_1200 rfl pi_3 (by decide) fk_3_0 tw_521 ?_
    refine PW_goto (tgt := 19) (pw_dk dc_X3_reach 6 rfl) (by decide) ?_
    exact PZ_iret (ty := .int) (pw_dk dc_X3_reach 9 rfl) rfl rfl h
def f_X3_add (x1 : Int32) (x2 : Int32) (x3 : Int32) (x4 : Int32) (σ : zS) : Option (Int32 × zS) := 
  if (σ.1 1200 0) < 24 then
    (wrI σ 1203 24 (σ.1 1200 0) x1).bind fun σ_2 =>
    (wrI σ_2 1204 24 (σ_2.1 1200 0) x2).bind fun σ_5 =>
    (wrI σ_5 1205 24 (σ_5.1 1200 0) x3).bind fun σ_8 =>
    (wrI σ_8 1206 24 (σ_8.1 1200 0) x4).bind fun σ_11 =>
    lt (wI σ_11 1200 0 ((σ_11.1 1200 0) + (1 : Int32))) fun σ_14 =>
    some ((σ_14.1 1200 0) - (1 : Int32), σ_14)
  else
    some ((-1 : Int32), σ)
theorem t_X3_add (x1 : Int32) (x2 : Int32) (x3 : Int32) (x4 : Int32) (σ : zS) (Q : Option Value → zS → Prop) (h : wpO (f_X3_add x1 x2 x3 x4 σ) (fun a => Q (some (.int a.1)) a.2)) : PK alC yX3_add mX3_add (0) [.ref 1200, .int x1, .int x2, .int x3, .int x4] σ Q := by
  refine PC_ofF (by decide +kernel) rfl rfl (Nat.le_of_ble_eq_true rfl) ?_
  show PZ alC mX3_add (0) Q 0 [(0, .ref 1200), (1, .int x1), (2, .int x2), (3, .int x3), (4, .int x4)] [] σ
  unfold f_X3_add at h
  refine PW_aload_n (pc' := 1) (q := 0) (pw_dk dc_X3_add 0 rfl) rfl rfl rfl ?_
  refine PZ_getI (pc' := 4) (id := 1200) (ci := 3) (nn := 0) (C0 := RX3) (T := TX3) (N := 9) (j := 0) (pw_dk dc_X3_add 1 rfl) rfl me_1200 rfl pi_3 (by decide) fk_3_0 tw_521 ?_
  refine PW_bipush (pc' := 6) (v := 24) (pw_dk dc_X3_add 2 rfl) rfl (by decide) ?_
  refine PW_icmp_lt (pc' := 9) (tgt := 11) (pw_dk dc_X3_add 3 rfl) rfl (by decide) (fun c_1 => ?_) (fun c_1 => ?_)
  · rw [if_pos c_1] at h
    refine PW_aload_n (pc' := 12) (q := 0) (pw_dk dc_X3_add 6 rfl) rfl rfl rfl ?_
    refine PW_getR (pc' := 15) (id := 1200) (ci := 3) (nn := 0) (C0 := RX3) (T := TX3) (N := 9) (j := 2) (r := 1203) (pw_dk dc_X3_add 7 rfl) rfl me_1200 rfl pi_3 (by decide) fk_3_2 tw_525 (rfl) (by decide) ?_
    refine PW_aload_n (pc' := 16) (q := 0) (pw_dk dc_X3_add 8 rfl) rfl rfl rfl ?_
    refine PZ_getI (pc' := 19) (id := 1200) (ci := 3) (nn := 0) (C0 := RX3) (T := TX3) (N := 9) (j := 0) (pw_dk dc_X3_add 9 rfl) rfl me_1200 rfl pi_3 (by decide) fk_3_0 tw_521 ?_
    refine PW_iload_n (pc' := 20) (q := 1) (pw_dk dc_X3_add 10 rfl) rfl rfl rfl ?_
    obtain ⟨σ_2, hi_3, e_4, h⟩ := wp_wrIx h
    refine PZ_iastx (pc' := 21) (σ' := σ_2) (id := 1203) (nn := 24) (pw_dk dc_X3_add 11 rfl) rfl me_1203 hi_3 e_4 ?_
    refine PW_aload_n (pc' := 22) (q := 0) (pw_dk dc_X3_add 12 rfl) rfl rfl rfl ?_
    refine PW_getR (pc' := 25) (id := 1200) (ci := 3) (nn := 0) (C0 := RX3) (T := TX3) (N := 9) (j := 3) (r := 1204) (pw_dk dc_X3_add 13 rfl) rfl me_1200 rfl pi_3 (by decide) fk_3_3 tw_526 (rfl) (by decide) ?_
    refine PW_aload_n (pc' := 26) (q := 0) (pw_dk dc_X3_add 14 rfl) rfl rfl rfl ?_
    refine PZ_getI (pc' := 29) (id := 1200) (ci := 3) (nn := 0) (C0 := RX3) (T := TX3) (N := 9) (j := 0) (pw_dk dc_X3_add 15 rfl) rfl me_1200 rfl pi_3 (by decide) fk_3_0 tw_521 ?_
    refine PW_iload_n (pc' := 30) (q := 2) (pw_dk dc_X3_add 16 rfl) rfl rfl rfl ?_
    obtain ⟨σ_5, hi_6, e_7, h⟩ := wp_wrIx h
    refine PZ_iastx (pc' := 31) (σ' := σ_5) (id := 1204) (nn := 24) (pw_dk dc_X3_add 17 rfl) rfl me_1204 hi_6 e_7 ?_
    refine PW_aload_n (pc' := 32) (q := 0) (pw_dk dc_X3_add 18 rfl) rfl rfl rfl ?_
    refine PW_getR (pc' := 35) (id := 1200) (ci := 3) (nn := 0) (C0 := RX3) (T := TX3) (N := 9) (j := 4) (r := 1205) (pw_dk dc_X3_add 19 rfl) rfl me_1200 rfl pi_3 (by decide) fk_3_4 tw_527 (rfl) (by decide) ?_
    refine PW_aload_n (pc' := 36) (q := 0) (pw_dk dc_X3_add 20 rfl) rfl rfl rfl ?_
    refine PZ_getI (pc' := 39) (id := 1200) (ci := 3) (nn := 0) (C0 := RX3) (T := TX3) (N := 9) (j := 0) (pw_dk dc_X3_add 21 rfl) rfl me_1200 rfl pi_3 (by decide) fk_3_0 tw_521 ?_
    refine PW_iload_n (pc' := 40) (q := 3) (pw_dk dc_X3_add 22 rfl) rfl rfl rfl ?_
    obtain ⟨σ_8, hi_9, e_10, h⟩ := wp_wrIx h
    refine PZ_iastx (pc' := 41) (σ' := σ_8) (id := 1205) (nn := 24) (pw_dk dc_X3_add 23 rfl) rfl me_1205 hi_9 e_10 ?_
    refine PW_aload_n (pc' := 42) (q := 0) (pw_dk dc_X3_add 24 rfl) rfl rfl rfl ?_
    refine PW_getR (pc' := 45) (id := 1200) (ci := 3) (nn := 0) (C0 := RX3) (T := TX3) (N := 9) (j := 5) (r := 1206) (pw_dk dc_X3_add 25 rfl) rfl me_1200 rfl pi_3 (by decide) fk_3_5 tw_528 (rfl) (by decide) ?_
    refine PW_aload_n (pc' := 46) (q := 0) (pw_dk dc_X3_add 26 rfl) rfl rfl rfl ?_
    refine PZ_getI (pc' := 49) (id := 1200) (ci := 3) (nn := 0) (C0 := RX3) (T := TX3) (N := 9) (j := 0) (pw_dk dc_X3_add 27 rfl) rfl me_1200 rfl pi_3 (by decide) fk_3_0 tw_521 ?_
    refine PW_iload (pc' := 51) (q := 4) (pw_dk dc_X3_add 28 rfl) rfl rfl ?_
    obtain ⟨σ_11, hi_12, e_13, h⟩ := wp_wrIx h
    refine PZ_iastx (pc' := 52) (σ' := σ_11) (id := 1206) (nn := 24) (pw_dk dc_X3_add 29 rfl) rfl me_1206 hi_12 e_13 ?_
    refine PW_aload_n (pc' := 53) (q := 0) (pw_dk dc_X3_add 30 rfl) rfl rfl rfl ?_
    refine PW_dup (pc' := 54) (pw_dk dc_X3_add 31 rfl) rfl rfl ?_
    refine PZ_getI (pc' := 57) (id := 1200) (ci := 3) (nn := 0) (C0 := RX3) (T := TX3) (N := 9) (j := 0) (pw_dk dc_X3_add 32 rfl) rfl me_1200 rfl pi_3 (by decide) fk_3_0 tw_521 ?_
    refine PW_iconst (pc' := 58) (v := 1) (pw_dk dc_X3_add 33 rfl) rfl (by decide) ?_
    refine PW_iadd (pc' := 59) (pw_dk dc_X3_add 34 rfl) rfl ?_
    obtain ⟨σ_14, e_15, h⟩ := lt_x h
    refine PZ_putX (pc' := 62) (σ' := σ_14) (id := 1200) (ci := 3) (nn := 0) (C0 := RX3) (T := TX3) (N := 9) (j := 0) (ty := tyX3 0) (pw_dk dc_X3_add 35 rfl) rfl me_1200 rfl pi_3 tyX3_ok nmX3 (by decide) fk_3_0 tw_521 rfl (tyX3_ok 0 (by decide)) (by first | rfl | decide) (by first | rfl | decide) e_15 ?_
    refine PW_aload_n (pc' := 63) (q := 0) (pw_dk dc_X3_add 36 rfl) rfl rfl rfl ?_
    refine PZ_getI (pc' := 66) (id := 1200) (ci := 3) (nn := 0) (C0 := RX3) (T := TX3) (N := 9) (j := 0) (pw_dk dc_X3_add 37 rfl) rfl me_1200 rfl pi_3 (by decide) fk_3_0 tw_521 ?_
    refine PW_iconst (pc' := 67) (v := 1) (pw_dk dc_X3_add 38 rfl) rfl (by decide) ?_
    refine PW_isub (pc' := 68) (pw_dk dc_X3_add 39 rfl) rfl ?_
    have z := wp_some h
    exact PZ_iret (ty := .int) (pw_dk dc_X3_add 40 rfl) rfl rfl z
  · rw [if_neg c_1] at h
    refine PW_iconst (pc' := 10) (v := (-1 : Int32)) (pw_dk dc_X3_add 4 rfl) rfl (by decide) ?_
    have z := wp_some h
    exact PZ_iret (ty := .int) (pw_dk dc_X3_add 5 rfl) rfl rfl z
def f_X3_weigh_73 (r28 : Int32 → zS → Option zS) (x1 : Int32) (σ : zS) : Option zS := 
  r28 (x1 + (-1 : Int32)) σ
theorem b_X3_weigh_73 {Q : Option Value → zS → Prop} (r28 : Int32 → zS → Option zS) (hr28 : ∀ (x1 : Int32) (σ : zS), wpO (r28 x1 σ) (fun s => Q none s) → PZ alC mX3_weigh (1) Q 28 [(0, .ref 1200), (1, .int x1)] [] σ) (x1 : Int32) (σ : zS) (h : wpO (f_X3_weigh_73 r28 x1 σ) (fun s => Q none s)) : PZ alC mX3_weigh (1) Q 73 [(0, .ref 1200), (1, .int x1)] [] σ := by
  unfold f_X3_weigh_73 at h
  refine PW_iinc (pc' := 76) (q := 1) (v := x1 + (-1 : Int32)) (lv' := [(1, .int (x1 + (-1 : Int32))), (0, .ref 1200)]) (pw_dk dc_X3_weigh 43 rfl) rfl rfl rfl (by decide) rfl ?_
  refine PW_goto (tgt := 28) (pw_dk dc_X3_weigh 44 rfl) (by decide) ?_
  refine PW_sub (lv' := [(0, .ref 1200), (1, .int (x1 + (-1 : Int32)))]) [1, 0] rfl ?_
  exact hr28 (x1 + (-1 : Int32)) σ h
def f_X3_weigh_28  : Nat → Int32 → zS → Option zS
  | 0, _, _ => none
  | n + 1, x1, σ => 
    if x1 < 0 then
      some σ
    else
      (rdI σ 1207 24 x1).bind fun v_2 =>
      if v_2 = 0 then
        (rdI σ 1206 24 x1).bind fun v_6 =>
        if v_6 < 0 then
          f_X3_weigh_73 (f_X3_weigh_28 n) x1 σ
        else
          (rdI σ 1206 24 x1).bind fun v_10 =>
          if 24 ≤ v_10 then
            f_X3_weigh_73 (f_X3_weigh_28 n) x1 σ
          else
            (rdI σ 1206 24 x1).bind fun v_14 =>
            (wrZ σ 1207 24 v_14 1).bind fun σ_17 =>
            f_X3_weigh_73 (f_X3_weigh_28 n) x1 σ_17
      else
        f_X3_weigh_73 (f_X3_weigh_28 n) x1 σ
theorem b_X3_weigh_28 {Q : Option Value → zS → Prop} : ∀ (n : Nat) (x1 : Int32) (σ : zS) (h : wpO (f_X3_weigh_28 n x1 σ) (fun s => Q none s)), PZ alC mX3_weigh (1) Q 28 [(0, .ref 1200), (1, .int x1)] [] σ := by
  intro n
  induction n with
  | zero => intro x1 σ h; exact wp_none h
  | succ n ih =>
    intro x1 σ h
    rw [f_X3_weigh_28] at h
    refine PW_iload_n (pc' := 29) (q := 1) (pw_dk dc_X3_weigh 17 rfl) rfl rfl rfl ?_
    refine PW_if_lt (pc' := 32) (tgt := 79) (pw_dk dc_X3_weigh 18 rfl) rfl (by decide) (fun c_1 => ?_) (fun c_1 => ?_)
    · rw [if_pos c_1] at h
      have z := wp_some h
      exact PZ_vret (pw_dk dc_X3_weigh 45 rfl) rfl z
    · rw [if_neg c_1] at h
      refine PW_aload_n (pc' := 33) (q := 0) (pw_dk dc_X3_weigh 19 rfl) rfl rfl rfl ?_
      refine PW_getR (pc' := 36) (id := 1200) (ci := 3) (nn := 0) (C0 := RX3) (T := TX3) (N := 9) (j := 6) (r := 1207) (pw_dk dc_X3_weigh 20 rfl) rfl me_1200 rfl pi_3 (by decide) fk_3_6 tw_529 (rfl) (by decide) ?_
      refine PW_iload_n (pc' := 37) (q := 1) (pw_dk dc_X3_weigh 21 rfl) rfl rfl rfl ?_
      obtain ⟨v_2, hi_3, e_4, h⟩ := wp_rdIx h
      refine PZ_zaldx (pc' := 38) (v := v_2) (id := 1207) (nn := 24) (pw_dk dc_X3_weigh 22 rfl) rfl me_1207 hi_3 e_4 ?_
      refine PW_if_ne (pc' := 41) (tgt := 73) (pw_dk dc_X3_weigh 23 rfl) rfl (by decide) (fun c_5 => ?_) (fun c_5 => ?_)
      · rw [if_neg c_5] at h
        exact b_X3_weigh_73 (f_X3_weigh_28 n) ih x1 σ h
      · rw [if_pos c_5] at h
        refine PW_aload_n (pc' := 42) (q := 0) (pw_dk dc_X3_weigh 24 rfl) rfl rfl rfl ?_
        refine PW_getR (pc' := 45) (id := 1200) (ci := 3) (nn := 0) (C0 := RX3) (T := TX3) (N := 9) (j := 5) (r := 1206) (pw_dk dc_X3_weigh 25 rfl) rfl me_1200 rfl pi_3 (by decide) fk_3_5 tw_528 (rfl) (by decide) ?_
        refine PW_iload_n (pc' := 46) (q := 1) (pw_dk dc_X3_weigh 26 rfl) rfl rfl rfl ?_
        obtain ⟨v_6, hi_7, e_8, h⟩ := wp_rdIx h
        refine PZ_ialdx (pc' := 47) (v := v_6) (id := 1206) (nn := 24) (pw_dk dc_X3_weigh 27 rfl) rfl me_1206 hi_7 e_8 ?_
        refine PW_if_lt (pc' := 50) (tgt := 73) (pw_dk dc_X3_weigh 28 rfl) rfl (by decide) (fun c_9 => ?_) (fun c_9 => ?_)
        · rw [if_pos c_9] at h
          exact b_X3_weigh_73 (f_X3_weigh_28 n) ih x1 σ h
        · rw [if_neg c_9] at h
          refine PW_aload_n (pc' := 51) (q := 0) (pw_dk dc_X3_weigh 29 rfl) rfl rfl rfl ?_
          refine PW_getR (pc' := 54) (id := 1200) (ci := 3) (nn := 0) (C0 := RX3) (T := TX3) (N := 9) (j := 5) (r := 1206) (pw_dk dc_X3_weigh 30 rfl) rfl me_1200 rfl pi_3 (by decide) fk_3_5 tw_528 (rfl) (by decide) ?_
          refine PW_iload_n (pc' := 55) (q := 1) (pw_dk dc_X3_weigh 31 rfl) rfl rfl rfl ?_
          obtain ⟨v_10, hi_11, e_12, h⟩ := wp_rdIx h
          refine PZ_ialdx (pc' := 56) (v := v_10) (id := 1206) (nn := 24) (pw_dk dc_X3_weigh 32 rfl) rfl me_1206 hi_11 e_12 ?_
          refine PW_bipush (pc' := 58) (v := 24) (pw_dk dc_X3_weigh 33 rfl) rfl (by decide) ?_
          refine PW_icmp_ge (pc' := 61) (tgt := 73) (pw_dk dc_X3_weigh 34 rfl) rfl (by decide) (fun c_13 => ?_) (fun c_13 => ?_)
          · rw [if_pos c_13] at h
            exact b_X3_weigh_73 (f_X3_weigh_28 n) ih x1 σ h
          · rw [if_neg c_13] at h
            refine PW_aload_n (pc' := 62) (q := 0) (pw_dk dc_X3_weigh 35 rfl) rfl rfl rfl ?_
            refine PW_getR (pc' := 65) (id := 1200) (ci := 3) (nn := 0) (C0 := RX3) (T := TX3) (N := 9) (j := 6) (r := 1207) (pw_dk dc_X3_weigh 36 rfl) rfl me_1200 rfl pi_3 (by decide) fk_3_6 tw_529 (rfl) (by decide) ?_
            refine PW_aload_n (pc' := 66) (q := 0) (pw_dk dc_X3_weigh 37 rfl) rfl rfl rfl ?_
            refine PW_getR (pc' := 69) (id := 1200) (ci := 3) (nn := 0) (C0 := RX3) (T := TX3) (N := 9) (j := 5) (r := 1206) (pw_dk dc_X3_weigh 38 rfl) rfl me_1200 rfl pi_3 (by decide) fk_3_5 tw_528 (rfl) (by decide) ?_
            refine PW_iload_n (pc' := 70) (q := 1) (pw_dk dc_X3_weigh 39 rfl) rfl rfl rfl ?_
            obtain ⟨v_14, hi_15, e_16, h⟩ := wp_rdIx h
            refine PZ_ialdx (pc' := 71) (v := v_14) (id := 1206) (nn := 24) (pw_dk dc_X3_weigh 40 rfl) rfl me_1206 hi_15 e_16 ?_
            refine PW_iconst (pc' := 72) (v := 1) (pw_dk dc_X3_weigh 41 rfl) rfl (by decide) ?_
            obtain ⟨σ_17, hi_18, e_19, h⟩ := wp_wrZx h
            refine PZ_zastx (pc' := 73) (σ' := σ_17) (id := 1207) (nn := 24) (pw_dk dc_X3_weigh 42 rfl) rfl me_1207 hi_18 e_19 ?_
            exact b_X3_weigh_73 (f_X3_weigh_28 n) ih x1 σ_17 h
def f_X3_weigh_2  : Nat → Int32 → zS → Option zS
  | 0, _, _ => none
  | n + 1, x1, σ => 
    if 24 ≤ x1 then
      lt (α := Int32) ((f_X3_reach σ) - (1 : Int32)) fun x1_3 =>
      f_X3_weigh_28 FU x1_3 σ
    else
      (wrZ σ 1207 24 x1 0).bind fun σ_4 =>
      f_X3_weigh_2 n (x1 + 1) σ_4
theorem b_X3_weigh_2 {Q : Option Value → zS → Prop} : ∀ (n : Nat) (x1 : Int32) (σ : zS) (h : wpO (f_X3_weigh_2 n x1 σ) (fun s => Q none s)), PZ alC mX3_weigh (1) Q 2 [(0, .ref 1200), (1, .int x1)] [] σ := by
  intro n
  induction n with
  | zero => intro x1 σ h; exact wp_none h
  | succ n ih =>
    intro x1 σ h
    rw [f_X3_weigh_2] at h
    refine PW_iload_n (pc' := 3) (q := 1) (pw_dk dc_X3_weigh 2 rfl) rfl rfl rfl ?_
    refine PW_bipush (pc' := 5) (v := 24) (pw_dk dc_X3_weigh 3 rfl) rfl (by decide) ?_
    refine PW_icmp_ge (pc' := 8) (tgt := 21) (pw_dk dc_X3_weigh 4 rfl) rfl (by decide) (fun c_1 => ?_) (fun c_1 => ?_)
    · rw [if_pos c_1] at h
      refine PW_aload_n (pc' := 22) (q := 0) (pw_dk dc_X3_weigh 12 rfl) rfl rfl rfl ?_
      refine PZ_callVi (pc' := 25) (y := yX3_reach) (M' := mX3_reach) (d' := 0) (As := []) (st := []) (b := 1200) (ci := 3) (nn := 0) me_1200 rfl tw_1194 tw_1195 (pw_dk dc_X3_weigh 13 rfl) rfl Y_X3_reach tw_1193 rfl (by decide) (Nat.le_of_ble_eq_true rfl) (t_X3_reach σ _ ?_)
      refine ⟨_, rfl, fun hn_2 => ?_⟩
      show PZ alC mX3_weigh (1) Q 25 [(0, .ref 1200), (1, .int x1)] [.int (f_X3_reach σ)] σ
      refine PW_iconst (pc' := 26) (v := 1) (pw_dk dc_X3_weigh 14 rfl) rfl (by decide) ?_
      refine PW_isub (pc' := 27) (pw_dk dc_X3_weigh 15 rfl) rfl ?_
      refine PW_topi (fun x1_3 ex1_3 => ?_)
      replace h := lt_w h ex1_3
      refine PW_istore_n (pc' := 28) (lv' := [(1, .int x1_3), (0, .ref 1200)]) (pw_dk dc_X3_weigh 16 rfl) rfl rfl (by decide) rfl ?_
      refine PW_sub (lv' := [(0, .ref 1200), (1, .int x1_3)]) [1, 0] rfl ?_
      exact b_X3_weigh_28 FU x1_3 σ h
    · rw [if_neg c_1] at h
      refine PW_aload_n (pc' := 9) (q := 0) (pw_dk dc_X3_weigh 5 rfl) rfl rfl rfl ?_
      refine PW_getR (pc' := 12) (id := 1200) (ci := 3) (nn := 0) (C0 := RX3) (T := TX3) (N := 9) (j := 6) (r := 1207) (pw_dk dc_X3_weigh 6 rfl) rfl me_1200 rfl pi_3 (by decide) fk_3_6 tw_529 (rfl) (by decide) ?_
      refine PW_iload_n (pc' := 13) (q := 1) (pw_dk dc_X3_weigh 7 rfl) rfl rfl rfl ?_
      refine PW_iconst (pc' := 14) (v := 0) (pw_dk dc_X3_weigh 8 rfl) rfl (by decide) ?_
      obtain ⟨σ_4, hi_5, e_6, h⟩ := wp_wrZx h
      refine PZ_zastx (pc' := 15) (σ' := σ_4) (id := 1207) (nn := 24) (pw_dk dc_X3_weigh 9 rfl) rfl me_1207 hi_5 e_6 ?_
      refine PW_iinc (pc' := 18) (q := 1) (v := x1 + 1) (lv' := [(1, .int (x1 + 1)), (0, .ref 1200)]) (pw_dk dc_X3_weigh 10 rfl) rfl rfl rfl (by decide) rfl ?_
      refine PW_goto (tgt := 2) (pw_dk dc_X3_weigh 11 rfl) (by decide) ?_
      refine PW_sub (lv' := [(0, .ref 1200), (1, .int (x1 + 1))]) [1, 0] rfl ?_
      exact ih (x1 + 1) σ_4 h
def f_X3_weigh  (σ : zS) : Option zS := 
  f_X3_weigh_2 FU 0 σ
theorem t_X3_weigh (σ : zS) (Q : Option Value → zS → Prop) (h : wpO (f_X3_weigh σ) (fun s => Q none s)) : PK alC yX3_weigh mX3_weigh (1) [.ref 1200] σ Q := by
  refine PC_ofF (by decide +kernel) rfl rfl (Nat.le_of_ble_eq_true rfl) ?_
  show PZ alC mX3_weigh (1) Q 0 [(0, .ref 1200)] [] σ
  unfold f_X3_weigh at h
  refine PW_iconst (pc' := 1) (v := 0) (pw_dk dc_X3_weigh 0 rfl) rfl (by decide) ?_
  refine PW_istore_n (pc' := 2) (lv' := [(1, .int 0), (0, .ref 1200)]) (pw_dk dc_X3_weigh 1 rfl) rfl rfl (by decide) rfl ?_
  refine PW_sub (lv' := [(0, .ref 1200), (1, .int 0)]) [1, 0] rfl ?_
  exact b_X3_weigh_2 FU 0 σ h
def f_X3_isKnown (x1 : Int32) (σ : zS) : Option Int32 := 
  (rdI σ 1207 24 x1).bind fun v_1 =>
  if v_1 = 0 then
    (rdI σ 1206 24 x1).bind fun v_5 =>
    if v_5 = (-1 : Int32) then
      some 1
    else
      some 0
  else
    some 0
theorem t_X3_isKnown (x1 : Int32) (σ : zS) (Q : Option Value → zS → Prop) (h : wpO (f_X3_isKnown x1 σ) (fun a => Q (some (.int a)) σ)) : PK alC yX3_isKnown mX3_isKnown (0) [.ref 1200, .int x1] σ Q := by
  refine PC_ofF (by decide +kernel) rfl rfl (Nat.le_of_ble_eq_true rfl) ?_
  show PZ alC mX3_isKnown (0) Q 0 [(0, .ref 1200), (1, .int x1)] [] σ
  unfold f_X3_isKnown at h
  refine PW_aload_n (pc' := 1) (q := 0) (pw_dk dc_X3_isKnown 0 rfl) rfl rfl rfl ?_
  refine PW_getR (pc' := 4) (id := 1200) (ci := 3) (nn := 0) (C0 := RX3) (T := TX3) (N := 9) (j := 6) (r := 1207) (pw_dk dc_X3_isKnown 1 rfl) rfl me_1200 rfl pi_3 (by decide) fk_3_6 tw_529 (rfl) (by decide) ?_
  refine PW_iload_n (pc' := 5) (q := 1) (pw_dk dc_X3_isKnown 2 rfl) rfl rfl rfl ?_
  obtain ⟨v_1, hi_2, e_3, h⟩ := wp_rdIx h
  refine PZ_zaldx (pc' := 6) (v := v_1) (id := 1207) (nn := 24) (pw_dk dc_X3_isKnown 3 rfl) rfl me_1207 hi_2 e_3 ?_
  refine PW_if_ne (pc' := 9) (tgt := 23) (pw_dk dc_X3_isKnown 4 rfl) rfl (by decide) (fun c_4 => ?_) (fun c_4 => ?_)
  · rw [if_neg c_4] at h
    refine PW_iconst (pc' := 24) (v := 0) (pw_dk dc_X3_isKnown 13 rfl) rfl (by decide) ?_
    have z := wp_some h
    exact PZ_iret (ty := .boolean) (pw_dk dc_X3_isKnown 14 rfl) rfl (by decide) z
  · rw [if_pos c_4] at h
    refine PW_aload_n (pc' := 10) (q := 0) (pw_dk dc_X3_isKnown 5 rfl) rfl rfl rfl ?_
    refine PW_getR (pc' := 13) (id := 1200) (ci := 3) (nn := 0) (C0 := RX3) (T := TX3) (N := 9) (j := 5) (r := 1206) (pw_dk dc_X3_isKnown 6 rfl) rfl me_1200 rfl pi_3 (by decide) fk_3_5 tw_528 (rfl) (by decide) ?_
    refine PW_iload_n (pc' := 14) (q := 1) (pw_dk dc_X3_isKnown 7 rfl) rfl rfl rfl ?_
    obtain ⟨v_5, hi_6, e_7, h⟩ := wp_rdIx h
    refine PZ_ialdx (pc' := 15) (v := v_5) (id := 1206) (nn := 24) (pw_dk dc_X3_isKnown 8 rfl) rfl me_1206 hi_6 e_7 ?_
    refine PW_iconst (pc' := 16) (v := (-1 : Int32)) (pw_dk dc_X3_isKnown 9 rfl) rfl (by decide) ?_
    refine PW_icmp_ne (pc' := 19) (tgt := 23) (pw_dk dc_X3_isKnown 10 rfl) rfl (by decide) (fun c_8 => ?_) (fun c_8 => ?_)
    · rw [if_neg c_8] at h
      refine PW_iconst (pc' := 24) (v := 0) (pw_dk dc_X3_isKnown 13 rfl) rfl (by decide) ?_
      have z := wp_some h
      exact PZ_iret (ty := .boolean) (pw_dk dc_X3_isKnown 14 rfl) rfl (by decide) z
    · rw [if_pos c_8] at h
      refine PW_iconst (pc' := 20) (v := 1) (pw_dk dc_X3_isKnown 11 rfl) rfl (by decide) ?_
      refine PW_goto (tgt := 24) (pw_dk dc_X3_isKnown 12 rfl) (by decide) ?_
      have z := wp_some h
      exact PZ_iret (ty := .boolean) (pw_dk dc_X3_isKnown 14 rfl) rfl (by decide) z
def f_J9_max_7cf53 (x0 : Int32) (x1 : Int32) (σ : zS) : Int32 := 
  if x0 < x1 then
    x1
  else
    x0
theorem t_J9_max_7cf53 (al : pAL) (x0 : Int32) (x1 : Int32) (σ : zS) (Q : Option Value → zS → Prop) (h : Q (some (.int (f_J9_max_7cf53 x0 x1 σ))) σ) : PK al yJ9_max_7cf53 mJ9_max_7cf53 (0) [.int x0, .int x1] σ Q := by
  refine PC_ofF (by decide +kernel) rfl rfl (Nat.le_of_ble_eq_true rfl) ?_
  show PZ al mJ9_max_7cf53 (0) Q 0 [(0, .int x0), (1, .int x1)] [] σ
  unfold f_J9_max_7cf53 at h
  refine PW_iload_n (pc' := 1) (q := 0) (pw_dk dc_J9_max_7cf53 0 rfl) rfl rfl rfl ?_
  refine PW_iload_n (pc' := 2) (q := 1) (pw_dk dc_J9_max_7cf53 1 rfl) rfl rfl rfl ?_
  refine PW_icmp_lt (pc' := 5) (tgt := 9) (pw_dk dc_J9_max_7cf53 2 rfl) rfl (by decide) (fun c_1 => ?_) (fun c_1 => ?_)
  · rw [if_pos c_1] at h
    refine PW_iload_n (pc' := 10) (q := 1) (pw_dk dc_J9_max_7cf53 5 rfl) rfl rfl rfl ?_
    exact PZ_iret (ty := .int) (pw_dk dc_J9_max_7cf53 6 rfl) rfl rfl h
  · rw [if_neg c_1] at h
    refine PW_iload_n (pc' := 6) (q := 0) (pw_dk dc_J9_max_7cf53 3 rfl) rfl rfl rfl ?_
    refine PW_goto (tgt := 10) (pw_dk dc_J9_max_7cf53 4 rfl) (by decide) ?_
    exact PZ_iret (ty := .int) (pw_dk dc_J9_max_7cf53 6 rfl) rfl rfl h
def f_X3_lastTime_31 (r4 : Int32 → Int32 → zS → Option Int32) (x1 : Int32) (x2 : Int32) (σ : zS) : Option Int32 := 
  r4 x1 (x2 + 1) σ
theorem b_X3_lastTime_31 {Q : Option Value → zS → Prop} (r4 : Int32 → Int32 → zS → Option Int32) (hr4 : ∀ (x1 : Int32) (x2 : Int32) (σ : zS), wpO (r4 x1 x2 σ) (fun a => Q (some (.int a)) σ) → PZ alC mX3_lastTime (1) Q 4 [(0, .ref 1200), (1, .int x1), (2, .int x2)] [] σ) (x1 : Int32) (x2 : Int32) (σ : zS) (h : wpO (f_X3_lastTime_31 r4 x1 x2 σ) (fun a => Q (some (.int a)) σ)) : PZ alC mX3_lastTime (1) Q 31 [(0, .ref 1200), (1, .int x1), (2, .int x2)] [] σ := by
  unfold f_X3_lastTime_31 at h
  refine PW_iinc (pc' := 34) (q := 2) (v := x2 + 1) (lv' := [(2, .int (x2 + 1)), (0, .ref 1200), (1, .int x1)]) (pw_dk dc_X3_lastTime 19 rfl) rfl rfl rfl (by decide) rfl ?_
  refine PW_goto (tgt := 4) (pw_dk dc_X3_lastTime 20 rfl) (by decide) ?_
  refine PW_sub (lv' := [(0, .ref 1200), (1, .int x1), (2, .int (x2 + 1))]) [1, 2, 0] rfl ?_
  exact hr4 x1 (x2 + 1) σ h
def f_X3_lastTime_4  : Nat → Int32 → Int32 → zS → Option Int32
  | 0, _, _, _ => none
  | n + 1, x1, x2, σ => 
    if (f_X3_reach σ) ≤ x2 then
      some x1
    else
      (f_X3_isKnown x2 σ).bind fun v_4 =>
      if v_4 = 0 then
        f_X3_lastTime_31 (f_X3_lastTime_4 n) x1 x2 σ
      else
        (rdI σ 1203 24 x2).bind fun v_7 =>
        lt (α := Int32) (f_J9_max_7cf53 x1 v_7 σ) fun x1_11 =>
        f_X3_lastTime_31 (f_X3_lastTime_4 n) x1_11 x2 σ
theorem b_X3_lastTime_4 {Q : Option Value → zS → Prop} : ∀ (n : Nat) (x1 : Int32) (x2 : Int32) (σ : zS) (h : wpO (f_X3_lastTime_4 n x1 x2 σ) (fun a => Q (some (.int a)) σ)), PZ alC mX3_lastTime (1) Q 4 [(0, .ref 1200), (1, .int x1), (2, .int x2)] [] σ := by
  intro n
  induction n with
  | zero => intro x1 x2 σ h; exact wp_none h
  | succ n ih =>
    intro x1 x2 σ h
    rw [f_X3_lastTime_4] at h
    refine PW_iload_n (pc' := 5) (q := 2) (pw_dk dc_X3_lastTime 4 rfl) rfl rfl rfl ?_
    refine PW_aload_n (pc' := 6) (q := 0) (pw_dk dc_X3_lastTime 5 rfl) rfl rfl rfl ?_
    refine PZ_callVi (pc' := 9) (y := yX3_reach) (M' := mX3_reach) (d' := 0) (As := []) (st := [.int x2]) (b := 1200) (ci := 3) (nn := 0) me_1200 rfl tw_1194 tw_1195 (pw_dk dc_X3_lastTime 6 rfl) rfl Y_X3_reach tw_1193 rfl (by decide) (Nat.le_of_ble_eq_true rfl) (t_X3_reach σ _ ?_)
    refine ⟨_, rfl, fun hn_1 => ?_⟩
    show PZ alC mX3_lastTime (1) Q 9 [(0, .ref 1200), (1, .int x1), (2, .int x2)] [.int (f_X3_reach σ), .int x2] σ
    refine PW_icmp_ge (pc' := 12) (tgt := 37) (pw_dk dc_X3_lastTime 7 rfl) rfl (by decide) (fun c_2 => ?_) (fun c_2 => ?_)
    · rw [if_pos c_2] at h
      refine PW_iload_n (pc' := 38) (q := 1) (pw_dk dc_X3_lastTime 21 rfl) rfl rfl rfl ?_
      have z := wp_some h
      exact PZ_iret (ty := .int) (pw_dk dc_X3_lastTime 22 rfl) rfl rfl z
    · rw [if_neg c_2] at h
      refine PW_aload_n (pc' := 13) (q := 0) (pw_dk dc_X3_lastTime 8 rfl) rfl rfl rfl ?_
      refine PW_iload_n (pc' := 14) (q := 2) (pw_dk dc_X3_lastTime 9 rfl) rfl rfl rfl ?_
      refine PZ_callVi (pc' := 17) (y := yX3_isKnown) (M' := mX3_isKnown) (d' := 0) (As := [.int x2]) (st := []) (b := 1200) (ci := 3) (nn := 0) me_1200 rfl tw_1209 tw_40 (pw_dk dc_X3_lastTime 10 rfl) rfl Y_X3_isKnown tw_1207 rfl (by decide) (Nat.le_of_ble_eq_true rfl) (t_X3_isKnown x2 σ _ ?_)
      obtain ⟨v_4, e_5, h⟩ := wp_bind h
      refine ⟨v_4, e_5, _, rfl, fun hn_3 => ?_⟩
      show PZ alC mX3_lastTime (1) Q 17 [(0, .ref 1200), (1, .int x1), (2, .int x2)] [.int v_4] σ
      refine PW_if_eq (pc' := 20) (tgt := 31) (pw_dk dc_X3_lastTime 11 rfl) rfl (by decide) (fun c_6 => ?_) (fun c_6 => ?_)
      · rw [if_pos c_6] at h
        exact b_X3_lastTime_31 (f_X3_lastTime_4 n) ih x1 x2 σ h
      · rw [if_neg c_6] at h
        refine PW_iload_n (pc' := 21) (q := 1) (pw_dk dc_X3_lastTime 12 rfl) rfl rfl rfl ?_
        refine PW_aload_n (pc' := 22) (q := 0) (pw_dk dc_X3_lastTime 13 rfl) rfl rfl rfl ?_
        refine PW_getR (pc' := 25) (id := 1200) (ci := 3) (nn := 0) (C0 := RX3) (T := TX3) (N := 9) (j := 2) (r := 1203) (pw_dk dc_X3_lastTime 14 rfl) rfl me_1200 rfl pi_3 (by decide) fk_3_2 tw_525 (rfl) (by decide) ?_
        refine PW_iload_n (pc' := 26) (q := 2) (pw_dk dc_X3_lastTime 15 rfl) rfl rfl rfl ?_
        obtain ⟨v_7, hi_8, e_9, h⟩ := wp_rdIx h
        refine PZ_ialdx (pc' := 27) (v := v_7) (id := 1203) (nn := 24) (pw_dk dc_X3_lastTime 16 rfl) rfl me_1203 hi_8 e_9 ?_
        refine PZ_callSi (pc' := 30) (y := yJ9_max_7cf53) (M' := mJ9_max_7cf53) (d' := 0) (As := [.int x1, .int v_7]) (st := []) tw_737 (pw_dk dc_X3_lastTime 17 rfl) rfl Y_J9_max_7cf53 tw_1211 rfl (by decide) (Nat.le_of_ble_eq_true rfl) (t_J9_max_7cf53 alC x1 v_7 σ _ ?_)
        refine ⟨_, rfl, fun hn_10 => ?_⟩
        show PZ alC mX3_lastTime (1) Q 30 [(0, .ref 1200), (1, .int x1), (2, .int x2)] [.int (f_J9_max_7cf53 x1 v_7 σ)] σ
        refine PW_topi (fun x1_11 ex1_11 => ?_)
        replace h := lt_w h ex1_11
        refine PW_istore_n (pc' := 31) (lv' := [(1, .int x1_11), (0, .ref 1200), (2, .int x2)]) (pw_dk dc_X3_lastTime 18 rfl) rfl rfl (by decide) rfl ?_
        refine PW_sub (lv' := [(0, .ref 1200), (1, .int x1_11), (2, .int x2)]) [1, 0, 2] rfl ?_
        exact b_X3_lastTime_31 (f_X3_lastTime_4 n) ih x1_11 x2 σ h
def f_X3_lastTime  (σ : zS) : Option Int32 := 
  f_X3_lastTime_4 FU (-1 : Int32) 0 σ
theorem t_X3_lastTime (σ : zS) (Q : Option Value → zS → Prop) (h : wpO (f_X3_lastTime σ) (fun a => Q (some (.int a)) σ)) : PK alC yX3_lastTime mX3_lastTime (1) [.ref 1200] σ Q := by
  refine PC_ofF (by decide +kernel) rfl rfl (Nat.le_of_ble_eq_true rfl) ?_
  show PZ alC mX3_lastTime (1) Q 0 [(0, .ref 1200)] [] σ
  unfold f_X3_lastTime at h
  refine PW_iconst (pc' := 1) (v := (-1 : Int32)) (pw_dk dc_X3_lastTime 0 rfl) rfl (by decide) ?_
  refine PW_istore_n (pc' := 2) (lv' := [(1, .int (-1 : Int32)), (0, .ref 1200)]) (pw_dk dc_X3_lastTime 1 rfl) rfl rfl (by decide) rfl ?_
  refine PW_iconst (pc' := 3) (v := 0) (pw_dk dc_X3_lastTime 2 rfl) rfl (by decide) ?_
  refine PW_istore_n (pc' := 4) (lv' := [(2, .int 0), (1, .int (-1 : Int32)), (0, .ref 1200)]) (pw_dk dc_X3_lastTime 3 rfl) rfl rfl (by decide) rfl ?_
  refine PW_sub (lv' := [(0, .ref 1200), (1, .int (-1 : Int32)), (2, .int 0)]) [2, 1, 0] rfl ?_
  exact b_X3_lastTime_4 FU (-1 : Int32) 0 σ h
def f_X3_siftBy_57 (r10 : Int32 → Int32 → Int32 → Int32 → zS → Option zS) (x1 : Int32) (x2 : Int32) (x3 : Int32) (x4 : Int32) (σ : zS) : Option zS := 
  r10 x1 x2 x3 (x4 + 1) σ
theorem b_X3_siftBy_57 {Q : Option Value → zS → Prop} (r10 : Int32 → Int32 → Int32 → Int32 → zS → Option zS) (hr10 : ∀ (x1 : Int32) (x2 : Int32) (x3 : Int32) (x4 : Int32) (σ : zS), wpO (r10 x1 x2 x3 x4 σ) (fun s => Q none s) → PZ alC mX3_siftBy (3) Q 10 [(0, .ref 1200), (1, .int x1), (2, .int x2), (3, .int x3), (4, .int x4)] [] σ) (x1 : Int32) (x2 : Int32) (x3 : Int32) (x4 : Int32) (σ : zS) (h : wpO (f_X3_siftBy_57 r10 x1 x2 x3 x4 σ) (fun s => Q none s)) : PZ alC mX3_siftBy (3) Q 57 [(0, .ref 1200), (1, .int x1), (2, .int x2), (3, .int x3), (4, .int x4)] [] σ := by
  unfold f_X3_siftBy_57 at h
  refine PW_iinc (pc' := 60) (q := 4) (v := x4 + 1) (lv' := [(4, .int (x4 + 1)), (0, .ref 1200), (1, .int x1), (2, .int x2), (3, .int x3)]) (pw_dk dc_X3_siftBy 37 rfl) rfl rfl rfl (by decide) rfl ?_
  refine PW_goto (tgt := 10) (pw_dk dc_X3_siftBy 38 rfl) (by decide) ?_
  refine PW_sub (lv' := [(0, .ref 1200), (1, .int x1), (2, .int x2), (3, .int x3), (4, .int (x4 + 1))]) [1, 2, 3, 4, 0] rfl ?_
  exact hr10 x1 x2 x3 (x4 + 1) σ h
def f_X3_siftBy_10 (r2 : Int32 → Int32 → Int32 → zS → Option zS) : Nat → Int32 → Int32 → Int32 → Int32 → zS → Option zS
  | 0, _, _, _, _, _ => none
  | n + 1, x1, x2, x3, x4, σ => 
    if 16 ≤ x4 then
      r2 x1 x2 (x3 + 1) σ
    else
      (rdI σ 1204 24 x1).bind fun v_2 =>
      (rdI σ 1205 24 x1).bind fun v_6 =>
      if (f_X5_placeOf ((x3 * (16 : Int32)) + x4) v_2 σ) = v_6 then
        f_X3_siftBy_57 (f_X3_siftBy_10 r2 n) x1 x2 x3 x4 σ
      else
        (rdI σ 1208 12 x3).bind fun v_10 =>
        (wrI σ 1208 12 x3 (v_10 &&& (((1 : Int32) <<< (x4 &&& 31)) ^^^ (-1 : Int32)))).bind fun σ_13 =>
        f_X3_siftBy_57 (f_X3_siftBy_10 r2 n) x1 x2 x3 x4 σ_13
theorem b_X3_siftBy_10 {Q : Option Value → zS → Prop} (r2 : Int32 → Int32 → Int32 → zS → Option zS) (hr2 : ∀ (x1 : Int32) (x2 : Int32) (x3 : Int32) (σ : zS), wpO (r2 x1 x2 x3 σ) (fun s => Q none s) → PZ alC mX3_siftBy (3) Q 2 [(0, .ref 1200), (1, .int x1), (2, .int x2), (3, .int x3)] [] σ) : ∀ (n : Nat) (x1 : Int32) (x2 : Int32) (x3 : Int32) (x4 : Int32) (σ : zS) (h : wpO (f_X3_siftBy_10 r2 n x1 x2 x3 x4 σ) (fun s => Q none s)), PZ alC mX3_siftBy (3) Q 10 [(0, .ref 1200), (1, .int x1), (2, .int x2), (3, .int x3), (4, .int x4)] [] σ := by
  intro n
  induction n with
  | zero => intro x1 x2 x3 x4 σ h; exact wp_none h
  | succ n ih =>
    intro x1 x2 x3 x4 σ h
    rw [f_X3_siftBy_10] at h
    refine PW_iload (pc' := 12) (q := 4) (pw_dk dc_X3_siftBy 7 rfl) rfl rfl ?_
    refine PW_bipush (pc' := 14) (v := 16) (pw_dk dc_X3_siftBy 8 rfl) rfl (by decide) ?_
    refine PW_icmp_ge (pc' := 17) (tgt := 63) (pw_dk dc_X3_siftBy 9 rfl) rfl (by decide) (fun c_1 => ?_) (fun c_1 => ?_)
    · rw [if_pos c_1] at h
      refine PW_iinc (pc' := 66) (q := 3) (v := x3 + 1) (lv' := [(3, .int (x3 + 1)), (0, .ref 1200), (1, .int x1), (2, .int x2), (4, .int x4)]) (pw_dk dc_X3_siftBy 39 rfl) rfl rfl rfl (by decide) rfl ?_
      refine PW_goto (tgt := 2) (pw_dk dc_X3_siftBy 40 rfl) (by decide) ?_
      refine PW_sub (lv' := [(0, .ref 1200), (1, .int x1), (2, .int x2), (3, .int (x3 + 1))]) [1, 2, 3, 0] rfl ?_
      exact hr2 x1 x2 (x3 + 1) σ h
    · rw [if_neg c_1] at h
      refine PW_iload_n (pc' := 18) (q := 3) (pw_dk dc_X3_siftBy 10 rfl) rfl rfl rfl ?_
      refine PW_bipush (pc' := 20) (v := 16) (pw_dk dc_X3_siftBy 11 rfl) rfl (by decide) ?_
      refine PW_imul (pc' := 21) (pw_dk dc_X3_siftBy 12 rfl) rfl ?_
      refine PW_iload (pc' := 23) (q := 4) (pw_dk dc_X3_siftBy 13 rfl) rfl rfl ?_
      refine PW_iadd (pc' := 24) (pw_dk dc_X3_siftBy 14 rfl) rfl ?_
      refine PW_aload_n (pc' := 25) (q := 0) (pw_dk dc_X3_siftBy 15 rfl) rfl rfl rfl ?_
      refine PW_getR (pc' := 28) (id := 1200) (ci := 3) (nn := 0) (C0 := RX3) (T := TX3) (N := 9) (j := 3) (r := 1204) (pw_dk dc_X3_siftBy 16 rfl) rfl me_1200 rfl pi_3 (by decide) fk_3_3 tw_526 (rfl) (by decide) ?_
      refine PW_iload_n (pc' := 29) (q := 1) (pw_dk dc_X3_siftBy 17 rfl) rfl rfl rfl ?_
      obtain ⟨v_2, hi_3, e_4, h⟩ := wp_rdIx h
      refine PZ_ialdx (pc' := 30) (v := v_2) (id := 1204) (nn := 24) (pw_dk dc_X3_siftBy 18 rfl) rfl me_1204 hi_3 e_4 ?_
      refine PZ_callSi (pc' := 33) (y := yX5_placeOf) (M' := mX5_placeOf) (d' := 2) (As := [.int ((x3 * (16 : Int32)) + x4), .int v_2]) (st := []) tw_909 (pw_dk dc_X3_siftBy 19 rfl) rfl Y_X5_placeOf tw_1226 rfl (by decide) (Nat.le_of_ble_eq_true rfl) (t_X5_placeOf ((x3 * (16 : Int32)) + x4) v_2 σ _ ?_)
      refine ⟨_, rfl, fun hn_5 => ?_⟩
      show PZ alC mX3_siftBy (3) Q 33 [(0, .ref 1200), (1, .int x1), (2, .int x2), (3, .int x3), (4, .int x4)] [.int (f_X5_placeOf ((x3 * (16 : Int32)) + x4) v_2 σ)] σ
      refine PW_aload_n (pc' := 34) (q := 0) (pw_dk dc_X3_siftBy 20 rfl) rfl rfl rfl ?_
      refine PW_getR (pc' := 37) (id := 1200) (ci := 3) (nn := 0) (C0 := RX3) (T := TX3) (N := 9) (j := 4) (r := 1205) (pw_dk dc_X3_siftBy 21 rfl) rfl me_1200 rfl pi_3 (by decide) fk_3_4 tw_527 (rfl) (by decide) ?_
      refine PW_iload_n (pc' := 38) (q := 1) (pw_dk dc_X3_siftBy 22 rfl) rfl rfl rfl ?_
      obtain ⟨v_6, hi_7, e_8, h⟩ := wp_rdIx h
      refine PZ_ialdx (pc' := 39) (v := v_6) (id := 1205) (nn := 24) (pw_dk dc_X3_siftBy 23 rfl) rfl me_1205 hi_7 e_8 ?_
      refine PW_icmp_eq (pc' := 42) (tgt := 57) (pw_dk dc_X3_siftBy 24 rfl) rfl (by decide) (fun c_9 => ?_) (fun c_9 => ?_)
      · rw [if_pos c_9] at h
        exact b_X3_siftBy_57 (f_X3_siftBy_10 r2 n) ih x1 x2 x3 x4 σ h
      · rw [if_neg c_9] at h
        refine PW_aload_n (pc' := 43) (q := 0) (pw_dk dc_X3_siftBy 25 rfl) rfl rfl rfl ?_
        refine PW_getR (pc' := 46) (id := 1200) (ci := 3) (nn := 0) (C0 := RX3) (T := TX3) (N := 9) (j := 7) (r := 1208) (pw_dk dc_X3_siftBy 26 rfl) rfl me_1200 rfl pi_3 (by decide) fk_3_7 tw_530 (rfl) (by decide) ?_
        refine PW_iload_n (pc' := 47) (q := 3) (pw_dk dc_X3_siftBy 27 rfl) rfl rfl rfl ?_
        refine PW_dup2 (pc' := 48) (pw_dk dc_X3_siftBy 28 rfl) rfl rfl rfl ?_
        obtain ⟨v_10, hi_11, e_12, h⟩ := wp_rdIx h
        refine PZ_ialdx (pc' := 49) (v := v_10) (id := 1208) (nn := 12) (pw_dk dc_X3_siftBy 29 rfl) rfl me_1208 hi_11 e_12 ?_
        refine PW_iconst (pc' := 50) (v := 1) (pw_dk dc_X3_siftBy 30 rfl) rfl (by decide) ?_
        refine PW_iload (pc' := 52) (q := 4) (pw_dk dc_X3_siftBy 31 rfl) rfl rfl ?_
        refine PW_ishl (pc' := 53) (pw_dk dc_X3_siftBy 32 rfl) rfl ?_
        refine PW_iconst (pc' := 54) (v := (-1 : Int32)) (pw_dk dc_X3_siftBy 33 rfl) rfl (by decide) ?_
        refine PW_ixor (pc' := 55) (pw_dk dc_X3_siftBy 34 rfl) rfl ?_
        refine PW_iand (pc' := 56) (pw_dk dc_X3_siftBy 35 rfl) rfl ?_
        obtain ⟨σ_13, hi_14, e_15, h⟩ := wp_wrIx h
        refine PZ_iastx (pc' := 57) (σ' := σ_13) (id := 1208) (nn := 12) (pw_dk dc_X3_siftBy 36 rfl) rfl me_1208 hi_14 e_15 ?_
        exact b_X3_siftBy_57 (f_X3_siftBy_10 r2 n) ih x1 x2 x3 x4 σ_13 h
def f_X3_siftBy_2  : Nat → Int32 → Int32 → Int32 → zS → Option zS
  | 0, _, _, _, _ => none
  | n + 1, x1, x2, x3, σ => 
    if x2 ≤ x3 then
      some σ
    else
      f_X3_siftBy_10 (f_X3_siftBy_2 n) FU x1 x2 x3 0 σ
theorem b_X3_siftBy_2 {Q : Option Value → zS → Prop} : ∀ (n : Nat) (x1 : Int32) (x2 : Int32) (x3 : Int32) (σ : zS) (h : wpO (f_X3_siftBy_2 n x1 x2 x3 σ) (fun s => Q none s)), PZ alC mX3_siftBy (3) Q 2 [(0, .ref 1200), (1, .int x1), (2, .int x2), (3, .int x3)] [] σ := by
  intro n
  induction n with
  | zero => intro x1 x2 x3 σ h; exact wp_none h
  | succ n ih =>
    intro x1 x2 x3 σ h
    rw [f_X3_siftBy_2] at h
    refine PW_iload_n (pc' := 3) (q := 3) (pw_dk dc_X3_siftBy 2 rfl) rfl rfl rfl ?_
    refine PW_iload_n (pc' := 4) (q := 2) (pw_dk dc_X3_siftBy 3 rfl) rfl rfl rfl ?_
    refine PW_icmp_ge (pc' := 7) (tgt := 69) (pw_dk dc_X3_siftBy 4 rfl) rfl (by decide) (fun c_1 => ?_) (fun c_1 => ?_)
    · rw [if_pos c_1] at h
      have z := wp_some h
      exact PZ_vret (pw_dk dc_X3_siftBy 41 rfl) rfl z
    · rw [if_neg c_1] at h
      refine PW_iconst (pc' := 8) (v := 0) (pw_dk dc_X3_siftBy 5 rfl) rfl (by decide) ?_
      refine PW_istore (pc' := 10) (lv' := [(4, .int 0), (0, .ref 1200), (1, .int x1), (2, .int x2), (3, .int x3)]) (pw_dk dc_X3_siftBy 6 rfl) rfl (by decide) rfl ?_
      refine PW_sub (lv' := [(0, .ref 1200), (1, .int x1), (2, .int x2), (3, .int x3), (4, .int 0)]) [1, 2, 3, 4, 0] rfl ?_
      exact b_X3_siftBy_10 (f_X3_siftBy_2 n) ih FU x1 x2 x3 0 σ h
def f_X3_siftBy (x1 : Int32) (x2 : Int32) (σ : zS) : Option zS := 
  f_X3_siftBy_2 FU x1 x2 0 σ
theorem t_X3_siftBy (x1 : Int32) (x2 : Int32) (σ : zS) (Q : Option Value → zS → Prop) (h : wpO (f_X3_siftBy x1 x2 σ) (fun s => Q none s)) : PK alC yX3_siftBy mX3_siftBy (3) [.ref 1200, .int x1, .int x2] σ Q := by
  refine PC_ofF (by decide +kernel) rfl rfl (Nat.le_of_ble_eq_true rfl) ?_
  show PZ alC mX3_siftBy (3) Q 0 [(0, .ref 1200), (1, .int x1), (2, .int x2)] [] σ
  unfold f_X3_siftBy at h
  refine PW_iconst (pc' := 1) (v := 0) (pw_dk dc_X3_siftBy 0 rfl) rfl (by decide) ?_
  refine PW_istore_n (pc' := 2) (lv' := [(3, .int 0), (0, .ref 1200), (1, .int x1), (2, .int x2)]) (pw_dk dc_X3_siftBy 1 rfl) rfl rfl (by decide) rfl ?_
  refine PW_sub (lv' := [(0, .ref 1200), (1, .int x1), (2, .int x2), (3, .int 0)]) [1, 2, 3, 0] rfl ?_
  exact b_X3_siftBy_2 FU x1 x2 0 σ h
def f_X3_sift_41 (r5 : Int32 → Int32 → Int32 → Int32 → zS → Option (Int32 × zS)) (x1 : Int32) (x2 : Int32) (x3 : Int32) (x4 : Int32) (σ : zS) : Option (Int32 × zS) := 
  r5 x1 x2 x3 (x4 + 1) σ
theorem b_X3_sift_41 {Q : Option Value → zS → Prop} (r5 : Int32 → Int32 → Int32 → Int32 → zS → Option (Int32 × zS)) (hr5 : ∀ (x1 : Int32) (x2 : Int32) (x3 : Int32) (x4 : Int32) (σ : zS), wpO (r5 x1 x2 x3 x4 σ) (fun a => Q (some (.int a.1)) a.2) → PZ alC mX3_sift (4) Q 5 [(0, .ref 1200), (1, .int x1), (2, .int x2), (3, .int x3), (4, .int x4)] [] σ) (x1 : Int32) (x2 : Int32) (x3 : Int32) (x4 : Int32) (σ : zS) (h : wpO (f_X3_sift_41 r5 x1 x2 x3 x4 σ) (fun a => Q (some (.int a.1)) a.2)) : PZ alC mX3_sift (4) Q 41 [(0, .ref 1200), (1, .int x1), (2, .int x2), (3, .int x3), (4, .int x4)] [] σ := by
  unfold f_X3_sift_41 at h
  refine PW_iinc (pc' := 44) (q := 4) (v := x4 + 1) (lv' := [(4, .int (x4 + 1)), (0, .ref 1200), (1, .int x1), (2, .int x2), (3, .int x3)]) (pw_dk dc_X3_sift 22 rfl) rfl rfl rfl (by decide) rfl ?_
  refine PW_goto (tgt := 5) (pw_dk dc_X3_sift 23 rfl) (by decide) ?_
  refine PW_sub (lv' := [(0, .ref 1200), (1, .int x1), (2, .int x2), (3, .int x3), (4, .int (x4 + 1))]) [1, 2, 3, 4, 0] rfl ?_
  exact hr5 x1 x2 x3 (x4 + 1) σ h
def f_X3_sift_50  : Nat → Int32 → Int32 → Int32 → zS → Option (Int32 × zS)
  | 0, _, _, _, _ => none
  | n + 1, x2, x3, x4, σ => 
    if x2 ≤ x4 then
      if x3 = 0 then
        some (0, σ)
      else
        some (1, σ)
    else
      (rdI σ 1208 12 x4).bind fun v_3 =>
      lt (α := Int32) (x3 ||| v_3) fun x3_6 =>
      f_X3_sift_50 n x2 x3_6 (x4 + 1) σ
theorem b_X3_sift_50 {Q : Option Value → zS → Prop} : ∀ (n : Nat) (x2 : Int32) (x3 : Int32) (x4 : Int32) (σ : zS) (h : wpO (f_X3_sift_50 n x2 x3 x4 σ) (fun a => Q (some (.int a.1)) a.2)), PZ alC mX3_sift (4) Q 50 [(0, .ref 1200), (2, .int x2), (3, .int x3), (4, .int x4)] [] σ := by
  intro n
  induction n with
  | zero => intro x2 x3 x4 σ h; exact wp_none h
  | succ n ih =>
    intro x2 x3 x4 σ h
    rw [f_X3_sift_50] at h
    refine PW_iload (pc' := 52) (q := 3) (pw_dk dc_X3_sift 26 rfl) rfl rfl ?_
    refine PW_iload_n (pc' := 53) (q := 1) (pw_dk dc_X3_sift 27 rfl) rfl rfl rfl ?_
    refine PW_icmp_ge (pc' := 56) (tgt := 72) (pw_dk dc_X3_sift 28 rfl) rfl (by decide) (fun c_1 => ?_) (fun c_1 => ?_)
    · rw [if_pos c_1] at h
      refine PW_iload_n (pc' := 73) (q := 2) (pw_dk dc_X3_sift 38 rfl) rfl rfl rfl ?_
      refine PW_if_eq (pc' := 76) (tgt := 80) (pw_dk dc_X3_sift 39 rfl) rfl (by decide) (fun c_2 => ?_) (fun c_2 => ?_)
      · rw [if_pos c_2] at h
        refine PW_iconst (pc' := 81) (v := 0) (pw_dk dc_X3_sift 42 rfl) rfl (by decide) ?_
        have z := wp_some h
        exact PZ_iret (ty := .boolean) (pw_dk dc_X3_sift 43 rfl) rfl (by decide) z
      · rw [if_neg c_2] at h
        refine PW_iconst (pc' := 77) (v := 1) (pw_dk dc_X3_sift 40 rfl) rfl (by decide) ?_
        refine PW_goto (tgt := 81) (pw_dk dc_X3_sift 41 rfl) (by decide) ?_
        have z := wp_some h
        exact PZ_iret (ty := .boolean) (pw_dk dc_X3_sift 43 rfl) rfl (by decide) z
    · rw [if_neg c_1] at h
      refine PW_iload_n (pc' := 57) (q := 2) (pw_dk dc_X3_sift 29 rfl) rfl rfl rfl ?_
      refine PW_aload_n (pc' := 58) (q := 0) (pw_dk dc_X3_sift 30 rfl) rfl rfl rfl ?_
      refine PW_getR (pc' := 61) (id := 1200) (ci := 3) (nn := 0) (C0 := RX3) (T := TX3) (N := 9) (j := 7) (r := 1208) (pw_dk dc_X3_sift 31 rfl) rfl me_1200 rfl pi_3 (by decide) fk_3_7 tw_530 (rfl) (by decide) ?_
      refine PW_iload (pc' := 63) (q := 3) (pw_dk dc_X3_sift 32 rfl) rfl rfl ?_
      obtain ⟨v_3, hi_4, e_5, h⟩ := wp_rdIx h
      refine PZ_ialdx (pc' := 64) (v := v_3) (id := 1208) (nn := 12) (pw_dk dc_X3_sift 33 rfl) rfl me_1208 hi_4 e_5 ?_
      refine PW_ior (pc' := 65) (pw_dk dc_X3_sift 34 rfl) rfl ?_
      refine PW_topi (fun x3_6 ex3_6 => ?_)
      replace h := lt_w h ex3_6
      refine PW_istore_n (pc' := 66) (lv' := [(3, .int x3_6), (0, .ref 1200), (2, .int x2), (4, .int x4)]) (pw_dk dc_X3_sift 35 rfl) rfl rfl (by decide) rfl ?_
      refine PW_iinc (pc' := 69) (q := 3) (v := x4 + 1) (lv' := [(4, .int (x4 + 1)), (3, .int x3_6), (0, .ref 1200), (2, .int x2)]) (pw_dk dc_X3_sift 36 rfl) rfl rfl rfl (by decide) rfl ?_
      refine PW_goto (tgt := 50) (pw_dk dc_X3_sift 37 rfl) (by decide) ?_
      refine PW_sub (lv' := [(0, .ref 1200), (2, .int x2), (3, .int x3_6), (4, .int (x4 + 1))]) [2, 3, 1, 0] rfl ?_
      exact ih x2 x3_6 (x4 + 1) σ h
def f_X3_sift_5  : Nat → Int32 → Int32 → Int32 → Int32 → zS → Option (Int32 × zS)
  | 0, _, _, _, _, _ => none
  | n + 1, x1, x2, x3, x4, σ => 
    if (f_X3_reach σ) ≤ x4 then
      f_X3_sift_50 FU x2 x3 0 σ
    else
      (rdI σ 1203 24 x4).bind fun v_3 =>
      if v_3 = x1 then
        (f_X3_isKnown x4 σ).bind fun v_8 =>
        if v_8 = 0 then
          f_X3_sift_41 (f_X3_sift_5 n) x1 x2 x3 x4 σ
        else
          (f_X3_siftBy x4 x2 σ).bind fun σ_12 =>
          f_X3_sift_41 (f_X3_sift_5 n) x1 x2 x3 x4 σ_12
      else
        f_X3_sift_41 (f_X3_sift_5 n) x1 x2 x3 x4 σ
theorem b_X3_sift_5 {Q : Option Value → zS → Prop} : ∀ (n : Nat) (x1 : Int32) (x2 : Int32) (x3 : Int32) (x4 : Int32) (σ : zS) (h : wpO (f_X3_sift_5 n x1 x2 x3 x4 σ) (fun a => Q (some (.int a.1)) a.2)), PZ alC mX3_sift (4) Q 5 [(0, .ref 1200), (1, .int x1), (2, .int x2), (3, .int x3), (4, .int x4)] [] σ := by
  intro n
  induction n with
  | zero => intro x1 x2 x3 x4 σ h; exact wp_none h
  | succ n ih =>
    intro x1 x2 x3 x4 σ h
    rw [f_X3_sift_5] at h
    refine PW_iload (pc' := 7) (q := 4) (pw_dk dc_X3_sift 4 rfl) rfl rfl ?_
    refine PW_aload_n (pc' := 8) (q := 0) (pw_dk dc_X3_sift 5 rfl) rfl rfl rfl ?_
    refine PZ_callVi (pc' := 11) (y := yX3_reach) (M' := mX3_reach) (d' := 0) (As := []) (st := [.int x4]) (b := 1200) (ci := 3) (nn := 0) me_1200 rfl tw_1194 tw_1195 (pw_dk dc_X3_sift 6 rfl) rfl Y_X3_reach tw_1193 rfl (by decide) (Nat.le_of_ble_eq_true rfl) (t_X3_reach σ _ ?_)
    refine ⟨_, rfl, fun hn_1 => ?_⟩
    show PZ alC mX3_sift (4) Q 11 [(0, .ref 1200), (1, .int x1), (2, .int x2), (3, .int x3), (4, .int x4)] [.int (f_X3_reach σ), .int x4] σ
    refine PW_icmp_ge (pc' := 14) (tgt := 47) (pw_dk dc_X3_sift 7 rfl) rfl (by decide) (fun c_2 => ?_) (fun c_2 => ?_)
    · rw [if_pos c_2] at h
      refine PW_iconst (pc' := 48) (v := 0) (pw_dk dc_X3_sift 24 rfl) rfl (by decide) ?_
      refine PW_istore (pc' := 50) (lv' := [(4, .int 0), (0, .ref 1200), (1, .int x1), (2, .int x2), (3, .int x3)]) (pw_dk dc_X3_sift 25 rfl) rfl (by decide) rfl ?_
      refine PW_sub (lv' := [(0, .ref 1200), (2, .int x2), (3, .int x3), (4, .int 0)]) [1, 3, 4, 0] rfl ?_
      exact b_X3_sift_50 FU x2 x3 0 σ h
    · rw [if_neg c_2] at h
      refine PW_aload_n (pc' := 15) (q := 0) (pw_dk dc_X3_sift 8 rfl) rfl rfl rfl ?_
      refine PW_getR (pc' := 18) (id := 1200) (ci := 3) (nn := 0) (C0 := RX3) (T := TX3) (N := 9) (j := 2) (r := 1203) (pw_dk dc_X3_sift 9 rfl) rfl me_1200 rfl pi_3 (by decide) fk_3_2 tw_525 (rfl) (by decide) ?_
      refine PW_iload (pc' := 20) (q := 4) (pw_dk dc_X3_sift 10 rfl) rfl rfl ?_
      obtain ⟨v_3, hi_4, e_5, h⟩ := wp_rdIx h
      refine PZ_ialdx (pc' := 21) (v := v_3) (id := 1203) (nn := 24) (pw_dk dc_X3_sift 11 rfl) rfl me_1203 hi_4 e_5 ?_
      refine PW_iload_n (pc' := 22) (q := 1) (pw_dk dc_X3_sift 12 rfl) rfl rfl rfl ?_
      refine PW_icmp_ne (pc' := 25) (tgt := 41) (pw_dk dc_X3_sift 13 rfl) rfl (by decide) (fun c_6 => ?_) (fun c_6 => ?_)
      · rw [if_neg c_6] at h
        exact b_X3_sift_41 (f_X3_sift_5 n) ih x1 x2 x3 x4 σ h
      · rw [if_pos c_6] at h
        refine PW_aload_n (pc' := 26) (q := 0) (pw_dk dc_X3_sift 14 rfl) rfl rfl rfl ?_
        refine PW_iload (pc' := 28) (q := 4) (pw_dk dc_X3_sift 15 rfl) rfl rfl ?_
        refine PZ_callVi (pc' := 31) (y := yX3_isKnown) (M' := mX3_isKnown) (d' := 0) (As := [.int x4]) (st := []) (b := 1200) (ci := 3) (nn := 0) me_1200 rfl tw_1209 tw_40 (pw_dk dc_X3_sift 16 rfl) rfl Y_X3_isKnown tw_1207 rfl (by decide) (Nat.le_of_ble_eq_true rfl) (t_X3_isKnown x4 σ _ ?_)
        obtain ⟨v_8, e_9, h⟩ := wp_bind h
        refine ⟨v_8, e_9, _, rfl, fun hn_7 => ?_⟩
        show PZ alC mX3_sift (4) Q 31 [(0, .ref 1200), (1, .int x1), (2, .int x2), (3, .int x3), (4, .int x4)] [.int v_8] σ
        refine PW_if_eq (pc' := 34) (tgt := 41) (pw_dk dc_X3_sift 17 rfl) rfl (by decide) (fun c_10 => ?_) (fun c_10 => ?_)
        · rw [if_pos c_10] at h
          exact b_X3_sift_41 (f_X3_sift_5 n) ih x1 x2 x3 x4 σ h
        · rw [if_neg c_10] at h
          refine PW_aload_n (pc' := 35) (q := 0) (pw_dk dc_X3_sift 18 rfl) rfl rfl rfl ?_
          refine PW_iload (pc' := 37) (q := 4) (pw_dk dc_X3_sift 19 rfl) rfl rfl ?_
          refine PW_iload_n (pc' := 38) (q := 2) (pw_dk dc_X3_sift 20 rfl) rfl rfl rfl ?_
          refine PZ_callVv (pc' := 41) (y := yX3_siftBy) (M' := mX3_siftBy) (d' := 3) (As := [.int x4, .int x2]) (st := []) (b := 1200) (ci := 3) (nn := 0) me_1200 rfl tw_1224 tw_43 (pw_dk dc_X3_sift 21 rfl) rfl Y_X3_siftBy tw_1222 rfl (by decide) (Nat.le_of_ble_eq_true rfl) (t_X3_siftBy x4 x2 σ _ ?_)
          obtain ⟨σ_12, e_13, h⟩ := wp_bind h
          refine ⟨σ_12, e_13, rfl, fun hn_11 => ?_⟩
          show PZ alC mX3_sift (4) Q 41 [(0, .ref 1200), (1, .int x1), (2, .int x2), (3, .int x3), (4, .int x4)] [] σ_12
          exact b_X3_sift_41 (f_X3_sift_5 n) ih x1 x2 x3 x4 σ_12 h
def f_X3_sift (x1 : Int32) (x2 : Int32) (σ : zS) : Option (Int32 × zS) := 
  f_X3_sift_5 FU x1 x2 0 0 σ
theorem t_X3_sift (x1 : Int32) (x2 : Int32) (σ : zS) (Q : Option Value → zS → Prop) (h : wpO (f_X3_sift x1 x2 σ) (fun a => Q (some (.int a.1)) a.2)) : PK alC yX3_sift mX3_sift (4) [.ref 1200, .int x1, .int x2] σ Q := by
  refine PC_ofF (by decide +kernel) rfl rfl (Nat.le_of_ble_eq_true rfl) ?_
  show PZ alC mX3_sift (4) Q 0 [(0, .ref 1200), (1, .int x1), (2, .int x2)] [] σ
  unfold f_X3_sift at h
  refine PW_iconst (pc' := 1) (v := 0) (pw_dk dc_X3_sift 0 rfl) rfl (by decide) ?_
  refine PW_istore_n (pc' := 2) (lv' := [(3, .int 0), (0, .ref 1200), (1, .int x1), (2, .int x2)]) (pw_dk dc_X3_sift 1 rfl) rfl rfl (by decide) rfl ?_
  refine PW_iconst (pc' := 3) (v := 0) (pw_dk dc_X3_sift 2 rfl) rfl (by decide) ?_
  refine PW_istore (pc' := 5) (lv' := [(4, .int 0), (3, .int 0), (0, .ref 1200), (1, .int x1), (2, .int x2)]) (pw_dk dc_X3_sift 3 rfl) rfl (by decide) rfl ?_
  refine PW_sub (lv' := [(0, .ref 1200), (1, .int x1), (2, .int x2), (3, .int 0), (4, .int 0)]) [2, 3, 4, 1, 0] rfl ?_
  exact b_X3_sift_5 FU x1 x2 0 0 σ h
def f_X3_spreadOut_104 (r2 : Int32 → Int32 → zS → Option zS) (x1 : Int32) (x2 : Int32) (x3 : Int32) (x4 : Int32) (x5 : Int32) (x6 : Int32) (x7 : Int32) (s0 : Int32) (σ : zS) : Option zS := 
  (wrI σ 1209 12 x2 ((((((x3 ||| x4) ||| x5) ||| x6) ||| x7) ||| s0) &&& (65535 : Int32))).bind fun σ_1 =>
  r2 x1 (x2 + 1) σ_1
theorem b_X3_spreadOut_104 {Q : Option Value → zS → Prop} (r2 : Int32 → Int32 → zS → Option zS) (hr2 : ∀ (x1 : Int32) (x2 : Int32) (σ : zS), wpO (r2 x1 x2 σ) (fun s => Q none s) → PZ alC mX3_spreadOut (1) Q 2 [(0, .ref 1200), (1, .int x1), (2, .int x2)] [] σ) (x1 : Int32) (x2 : Int32) (x3 : Int32) (x4 : Int32) (x5 : Int32) (x6 : Int32) (x7 : Int32) (s0 : Int32) (σ : zS) (h : wpO (f_X3_spreadOut_104 r2 x1 x2 x3 x4 x5 x6 x7 s0 σ) (fun s => Q none s)) : PZ alC mX3_spreadOut (1) Q 104 [(0, .ref 1200), (1, .int x1), (2, .int x2), (3, .int x3), (4, .int x4), (5, .int x5), (6, .int x6), (7, .int x7)] [.int s0] σ := by
  unfold f_X3_spreadOut_104 at h
  refine PW_istore (pc' := 106) (lv' := [(8, .int s0), (0, .ref 1200), (1, .int x1), (2, .int x2), (3, .int x3), (4, .int x4), (5, .int x5), (6, .int x6), (7, .int x7)]) (pw_dk dc_X3_spreadOut 74 rfl) rfl (by decide) rfl ?_
  refine PW_aload_n (pc' := 107) (q := 1) (pw_dk dc_X3_spreadOut 75 rfl) rfl rfl rfl ?_
  refine PW_getR (pc' := 110) (id := 1200) (ci := 3) (nn := 0) (C0 := RX3) (T := TX3) (N := 9) (j := 8) (r := 1209) (pw_dk dc_X3_spreadOut 76 rfl) rfl me_1200 rfl pi_3 (by decide) fk_3_8 tw_531 (rfl) (by decide) ?_
  refine PW_iload_n (pc' := 111) (q := 3) (pw_dk dc_X3_spreadOut 77 rfl) rfl rfl rfl ?_
  refine PW_iload_n (pc' := 112) (q := 4) (pw_dk dc_X3_spreadOut 78 rfl) rfl rfl rfl ?_
  refine PW_iload (pc' := 114) (q := 5) (pw_dk dc_X3_spreadOut 79 rfl) rfl rfl ?_
  refine PW_ior (pc' := 115) (pw_dk dc_X3_spreadOut 80 rfl) rfl ?_
  refine PW_iload (pc' := 117) (q := 6) (pw_dk dc_X3_spreadOut 81 rfl) rfl rfl ?_
  refine PW_ior (pc' := 118) (pw_dk dc_X3_spreadOut 82 rfl) rfl ?_
  refine PW_iload (pc' := 120) (q := 7) (pw_dk dc_X3_spreadOut 83 rfl) rfl rfl ?_
  refine PW_ior (pc' := 121) (pw_dk dc_X3_spreadOut 84 rfl) rfl ?_
  refine PW_iload (pc' := 123) (q := 8) (pw_dk dc_X3_spreadOut 85 rfl) rfl rfl ?_
  refine PW_ior (pc' := 124) (pw_dk dc_X3_spreadOut 86 rfl) rfl ?_
  refine PW_iload (pc' := 126) (q := 0) (pw_dk dc_X3_spreadOut 87 rfl) rfl rfl ?_
  refine PW_ior (pc' := 127) (pw_dk dc_X3_spreadOut 88 rfl) rfl ?_
  refine PW_ldc (pc' := 129) (v := 65535) (pw_dk dc_X3_spreadOut 89 rfl) rfl tw_1216 ?_
  refine PW_iand (pc' := 130) (pw_dk dc_X3_spreadOut 90 rfl) rfl ?_
  obtain ⟨σ_1, hi_2, e_3, h⟩ := wp_wrIx h
  refine PZ_iastx (pc' := 131) (σ' := σ_1) (id := 1209) (nn := 12) (pw_dk dc_X3_spreadOut 91 rfl) rfl me_1209 hi_2 e_3 ?_
  refine PW_iinc (pc' := 134) (q := 3) (v := x2 + 1) (lv' := [(2, .int (x2 + 1)), (8, .int s0), (0, .ref 1200), (1, .int x1), (3, .int x3), (4, .int x4), (5, .int x5), (6, .int x6), (7, .int x7)]) (pw_dk dc_X3_spreadOut 92 rfl) rfl rfl rfl (by decide) rfl ?_
  refine PW_goto (tgt := 2) (pw_dk dc_X3_spreadOut 93 rfl) (by decide) ?_
  refine PW_sub (lv' := [(0, .ref 1200), (1, .int x1), (2, .int (x2 + 1))]) [2, 3, 0] rfl ?_
  exact hr2 x1 (x2 + 1) σ_1 h
def f_X3_spreadOut_83 (r2 : Int32 → Int32 → zS → Option zS) (x1 : Int32) (x2 : Int32) (x3 : Int32) (x4 : Int32) (x5 : Int32) (x6 : Int32) (s0 : Int32) (σ : zS) : Option zS := 
  if x1 ≤ (x2 + (1 : Int32)) then
    f_X3_spreadOut_104 r2 x1 x2 x3 x4 x5 x6 s0 0 σ
  else
    (rdI σ 1208 12 (x2 + (1 : Int32))).bind fun v_2 =>
    f_X3_spreadOut_104 r2 x1 x2 x3 x4 x5 x6 s0 v_2 σ
theorem b_X3_spreadOut_83 {Q : Option Value → zS → Prop} (r2 : Int32 → Int32 → zS → Option zS) (hr2 : ∀ (x1 : Int32) (x2 : Int32) (σ : zS), wpO (r2 x1 x2 σ) (fun s => Q none s) → PZ alC mX3_spreadOut (1) Q 2 [(0, .ref 1200), (1, .int x1), (2, .int x2)] [] σ) (x1 : Int32) (x2 : Int32) (x3 : Int32) (x4 : Int32) (x5 : Int32) (x6 : Int32) (s0 : Int32) (σ : zS) (h : wpO (f_X3_spreadOut_83 r2 x1 x2 x3 x4 x5 x6 s0 σ) (fun s => Q none s)) : PZ alC mX3_spreadOut (1) Q 83 [(0, .ref 1200), (1, .int x1), (2, .int x2), (3, .int x3), (4, .int x4), (5, .int x5), (6, .int x6)] [.int s0] σ := by
  unfold f_X3_spreadOut_83 at h
  refine PW_istore (pc' := 85) (lv' := [(7, .int s0), (0, .ref 1200), (1, .int x1), (2, .int x2), (3, .int x3), (4, .int x4), (5, .int x5), (6, .int x6)]) (pw_dk dc_X3_spreadOut 60 rfl) rfl (by decide) rfl ?_
  refine PW_iload_n (pc' := 86) (q := 3) (pw_dk dc_X3_spreadOut 61 rfl) rfl rfl rfl ?_
  refine PW_iconst (pc' := 87) (v := 1) (pw_dk dc_X3_spreadOut 62 rfl) rfl (by decide) ?_
  refine PW_iadd (pc' := 88) (pw_dk dc_X3_spreadOut 63 rfl) rfl ?_
  refine PW_iload_n (pc' := 89) (q := 2) (pw_dk dc_X3_spreadOut 64 rfl) rfl rfl rfl ?_
  refine PW_icmp_ge (pc' := 92) (tgt := 103) (pw_dk dc_X3_spreadOut 65 rfl) rfl (by decide) (fun c_1 => ?_) (fun c_1 => ?_)
  · rw [if_pos c_1] at h
    refine PW_iconst (pc' := 104) (v := 0) (pw_dk dc_X3_spreadOut 73 rfl) rfl (by decide) ?_
    refine PW_sub (lv' := [(0, .ref 1200), (1, .int x1), (2, .int x2), (3, .int x3), (4, .int x4), (5, .int x5), (6, .int x6), (7, .int s0)]) [1, 2, 3, 4, 5, 6, 7, 0] rfl ?_
    exact b_X3_spreadOut_104 r2 hr2 x1 x2 x3 x4 x5 x6 s0 0 σ h
  · rw [if_neg c_1] at h
    refine PW_aload_n (pc' := 93) (q := 1) (pw_dk dc_X3_spreadOut 66 rfl) rfl rfl rfl ?_
    refine PW_getR (pc' := 96) (id := 1200) (ci := 3) (nn := 0) (C0 := RX3) (T := TX3) (N := 9) (j := 7) (r := 1208) (pw_dk dc_X3_spreadOut 67 rfl) rfl me_1200 rfl pi_3 (by decide) fk_3_7 tw_530 (rfl) (by decide) ?_
    refine PW_iload_n (pc' := 97) (q := 3) (pw_dk dc_X3_spreadOut 68 rfl) rfl rfl rfl ?_
    refine PW_iconst (pc' := 98) (v := 1) (pw_dk dc_X3_spreadOut 69 rfl) rfl (by decide) ?_
    refine PW_iadd (pc' := 99) (pw_dk dc_X3_spreadOut 70 rfl) rfl ?_
    obtain ⟨v_2, hi_3, e_4, h⟩ := wp_rdIx h
    refine PZ_ialdx (pc' := 100) (v := v_2) (id := 1208) (nn := 12) (pw_dk dc_X3_spreadOut 71 rfl) rfl me_1208 hi_3 e_4 ?_
    refine PW_goto (tgt := 104) (pw_dk dc_X3_spreadOut 72 rfl) (by decide) ?_
    refine PW_sub (lv' := [(0, .ref 1200), (1, .int x1), (2, .int x2), (3, .int x3), (4, .int x4), (5, .int x5), (6, .int x6), (7, .int s0)]) [1, 2, 3, 4, 5, 6, 7, 0] rfl ?_
    exact b_X3_spreadOut_104 r2 hr2 x1 x2 x3 x4 x5 x6 s0 v_2 σ h
def f_X3_spreadOut_2  : Nat → Int32 → Int32 → zS → Option zS
  | 0, _, _, _ => none
  | n + 1, x1, x2, σ => 
    if x1 ≤ x2 then
      (cpA σ 1209 12 0 1208 12 0 x1).bind fun σ_2 =>
      some σ_2
    else
      (rdI σ 1208 12 x2).bind fun v_5 =>
      lt (α := Int32) ((((v_5 <<< ((4 : Int32) &&& 31)) ||| (v_5 >>> ((12 : Int32) &&& 31))) ||| (v_5 >>> ((4 : Int32) &&& 31))) ||| (v_5 <<< ((12 : Int32) &&& 31))) fun x4_8 =>
      lt (α := Int32) (((v_5 &&& (13107 : Int32)) <<< ((2 : Int32) &&& 31)) ||| ((v_5 >>> ((2 : Int32) &&& 31)) &&& (13107 : Int32))) fun x5_9 =>
      lt (α := Int32) (((v_5 &&& (21845 : Int32)) <<< ((1 : Int32) &&& 31)) ||| ((v_5 >>> ((1 : Int32) &&& 31)) &&& (21845 : Int32))) fun x6_10 =>
      if x2 ≤ 0 then
        f_X3_spreadOut_83 (f_X3_spreadOut_2 n) x1 x2 v_5 x4_8 x5_9 x6_10 0 σ
      else
        (rdI σ 1208 12 (x2 - (1 : Int32))).bind fun v_12 =>
        f_X3_spreadOut_83 (f_X3_spreadOut_2 n) x1 x2 v_5 x4_8 x5_9 x6_10 v_12 σ
theorem b_X3_spreadOut_2 {Q : Option Value → zS → Prop} : ∀ (n : Nat) (x1 : Int32) (x2 : Int32) (σ : zS) (h : wpO (f_X3_spreadOut_2 n x1 x2 σ) (fun s => Q none s)), PZ alC mX3_spreadOut (1) Q 2 [(0, .ref 1200), (1, .int x1), (2, .int x2)] [] σ := by
  intro n
  induction n with
  | zero => intro x1 x2 σ h; exact wp_none h
  | succ n ih =>
    intro x1 x2 σ h
    rw [f_X3_spreadOut_2] at h
    refine PW_iload_n (pc' := 3) (q := 2) (pw_dk dc_X3_spreadOut 2 rfl) rfl rfl rfl ?_
    refine PW_iload_n (pc' := 4) (q := 1) (pw_dk dc_X3_spreadOut 3 rfl) rfl rfl rfl ?_
    refine PW_icmp_ge (pc' := 7) (tgt := 137) (pw_dk dc_X3_spreadOut 4 rfl) rfl (by decide) (fun c_1 => ?_) (fun c_1 => ?_)
    · rw [if_pos c_1] at h
      refine PW_aload_n (pc' := 138) (q := 0) (pw_dk dc_X3_spreadOut 94 rfl) rfl rfl rfl ?_
      refine PW_getR (pc' := 141) (id := 1200) (ci := 3) (nn := 0) (C0 := RX3) (T := TX3) (N := 9) (j := 8) (r := 1209) (pw_dk dc_X3_spreadOut 95 rfl) rfl me_1200 rfl pi_3 (by decide) fk_3_8 tw_531 (rfl) (by decide) ?_
      refine PW_iconst (pc' := 142) (v := 0) (pw_dk dc_X3_spreadOut 96 rfl) rfl (by decide) ?_
      refine PW_aload_n (pc' := 143) (q := 0) (pw_dk dc_X3_spreadOut 97 rfl) rfl rfl rfl ?_
      refine PW_getR (pc' := 146) (id := 1200) (ci := 3) (nn := 0) (C0 := RX3) (T := TX3) (N := 9) (j := 7) (r := 1208) (pw_dk dc_X3_spreadOut 98 rfl) rfl me_1200 rfl pi_3 (by decide) fk_3_7 tw_530 (rfl) (by decide) ?_
      refine PW_iconst (pc' := 147) (v := 0) (pw_dk dc_X3_spreadOut 99 rfl) rfl (by decide) ?_
      refine PW_iload_n (pc' := 148) (q := 1) (pw_dk dc_X3_spreadOut 100 rfl) rfl rfl rfl ?_
      obtain ⟨σ_2, hh_3, e_4, h⟩ := wp_cpAx h
      refine PZ_acopyx (pc' := 151) (σ' := σ_2) (na := 12) (nb := 12) (pw_dk dc_X3_spreadOut 101 rfl) rfl tw_1217 tw_865 tw_864 tw_139 me_1209 me_1208 (by decide) (Nat.le_of_ble_eq_true rfl) hh_3 e_4 ?_
      have z := wp_some h
      exact PZ_vret (pw_dk dc_X3_spreadOut 102 rfl) rfl z
    · rw [if_neg c_1] at h
      refine PW_aload_n (pc' := 8) (q := 0) (pw_dk dc_X3_spreadOut 5 rfl) rfl rfl rfl ?_
      refine PW_getR (pc' := 11) (id := 1200) (ci := 3) (nn := 0) (C0 := RX3) (T := TX3) (N := 9) (j := 7) (r := 1208) (pw_dk dc_X3_spreadOut 6 rfl) rfl me_1200 rfl pi_3 (by decide) fk_3_7 tw_530 (rfl) (by decide) ?_
      refine PW_iload_n (pc' := 12) (q := 2) (pw_dk dc_X3_spreadOut 7 rfl) rfl rfl rfl ?_
      obtain ⟨v_5, hi_6, e_7, h⟩ := wp_rdIx h
      refine PZ_ialdx (pc' := 13) (v := v_5) (id := 1208) (nn := 12) (pw_dk dc_X3_spreadOut 8 rfl) rfl me_1208 hi_6 e_7 ?_
      refine PW_istore_n (pc' := 14) (lv' := [(3, .int v_5), (0, .ref 1200), (1, .int x1), (2, .int x2)]) (pw_dk dc_X3_spreadOut 9 rfl) rfl rfl (by decide) rfl ?_
      refine PW_iload_n (pc' := 15) (q := 0) (pw_dk dc_X3_spreadOut 10 rfl) rfl rfl rfl ?_
      refine PW_iconst (pc' := 16) (v := 4) (pw_dk dc_X3_spreadOut 11 rfl) rfl (by decide) ?_
      refine PW_ishl (pc' := 17) (pw_dk dc_X3_spreadOut 12 rfl) rfl ?_
      refine PW_iload_n (pc' := 18) (q := 0) (pw_dk dc_X3_spreadOut 13 rfl) rfl rfl rfl ?_
      refine PW_bipush (pc' := 20) (v := 12) (pw_dk dc_X3_spreadOut 14 rfl) rfl (by decide) ?_
      refine PW_ishr (pc' := 21) (pw_dk dc_X3_spreadOut 15 rfl) rfl ?_
      refine PW_ior (pc' := 22) (pw_dk dc_X3_spreadOut 16 rfl) rfl ?_
      refine PW_iload_n (pc' := 23) (q := 0) (pw_dk dc_X3_spreadOut 17 rfl) rfl rfl rfl ?_
      refine PW_iconst (pc' := 24) (v := 4) (pw_dk dc_X3_spreadOut 18 rfl) rfl (by decide) ?_
      refine PW_ishr (pc' := 25) (pw_dk dc_X3_spreadOut 19 rfl) rfl ?_
      refine PW_ior (pc' := 26) (pw_dk dc_X3_spreadOut 20 rfl) rfl ?_
      refine PW_iload_n (pc' := 27) (q := 0) (pw_dk dc_X3_spreadOut 21 rfl) rfl rfl rfl ?_
      refine PW_bipush (pc' := 29) (v := 12) (pw_dk dc_X3_spreadOut 22 rfl) rfl (by decide) ?_
      refine PW_ishl (pc' := 30) (pw_dk dc_X3_spreadOut 23 rfl) rfl ?_
      refine PW_ior (pc' := 31) (pw_dk dc_X3_spreadOut 24 rfl) rfl ?_
      refine PW_topi (fun x4_8 ex4_8 => ?_)
      replace h := lt_w h ex4_8
      refine PW_istore (pc' := 33) (lv' := [(4, .int x4_8), (3, .int v_5), (0, .ref 1200), (1, .int x1), (2, .int x2)]) (pw_dk dc_X3_spreadOut 25 rfl) rfl (by decide) rfl ?_
      refine PW_iload_n (pc' := 34) (q := 1) (pw_dk dc_X3_spreadOut 26 rfl) rfl rfl rfl ?_
      refine PW_sipush (pc' := 37) (v := 13107) (pw_dk dc_X3_spreadOut 27 rfl) rfl (by decide) ?_
      refine PW_iand (pc' := 38) (pw_dk dc_X3_spreadOut 28 rfl) rfl ?_
      refine PW_iconst (pc' := 39) (v := 2) (pw_dk dc_X3_spreadOut 29 rfl) rfl (by decide) ?_
      refine PW_ishl (pc' := 40) (pw_dk dc_X3_spreadOut 30 rfl) rfl ?_
      refine PW_iload_n (pc' := 41) (q := 1) (pw_dk dc_X3_spreadOut 31 rfl) rfl rfl rfl ?_
      refine PW_iconst (pc' := 42) (v := 2) (pw_dk dc_X3_spreadOut 32 rfl) rfl (by decide) ?_
      refine PW_ishr (pc' := 43) (pw_dk dc_X3_spreadOut 33 rfl) rfl ?_
      refine PW_sipush (pc' := 46) (v := 13107) (pw_dk dc_X3_spreadOut 34 rfl) rfl (by decide) ?_
      refine PW_iand (pc' := 47) (pw_dk dc_X3_spreadOut 35 rfl) rfl ?_
      refine PW_ior (pc' := 48) (pw_dk dc_X3_spreadOut 36 rfl) rfl ?_
      refine PW_topi (fun x5_9 ex5_9 => ?_)
      replace h := lt_w h ex5_9
      refine PW_istore (pc' := 50) (lv' := [(5, .int x5_9), (4, .int x4_8), (3, .int v_5), (0, .ref 1200), (1, .int x1), (2, .int x2)]) (pw_dk dc_X3_spreadOut 37 rfl) rfl (by decide) rfl ?_
      refine PW_iload_n (pc' := 51) (q := 2) (pw_dk dc_X3_spreadOut 38 rfl) rfl rfl rfl ?_
      refine PW_sipush (pc' := 54) (v := 21845) (pw_dk dc_X3_spreadOut 39 rfl) rfl (by decide) ?_
      refine PW_iand (pc' := 55) (pw_dk dc_X3_spreadOut 40 rfl) rfl ?_
      refine PW_iconst (pc' := 56) (v := 1) (pw_dk dc_X3_spreadOut 41 rfl) rfl (by decide) ?_
      refine PW_ishl (pc' := 57) (pw_dk dc_X3_spreadOut 42 rfl) rfl ?_
      refine PW_iload_n (pc' := 58) (q := 2) (pw_dk dc_X3_spreadOut 43 rfl) rfl rfl rfl ?_
      refine PW_iconst (pc' := 59) (v := 1) (pw_dk dc_X3_spreadOut 44 rfl) rfl (by decide) ?_
      refine PW_ishr (pc' := 60) (pw_dk dc_X3_spreadOut 45 rfl) rfl ?_
      refine PW_sipush (pc' := 63) (v := 21845) (pw_dk dc_X3_spreadOut 46 rfl) rfl (by decide) ?_
      refine PW_iand (pc' := 64) (pw_dk dc_X3_spreadOut 47 rfl) rfl ?_
      refine PW_ior (pc' := 65) (pw_dk dc_X3_spreadOut 48 rfl) rfl ?_
      refine PW_topi (fun x6_10 ex6_10 => ?_)
      replace h := lt_w h ex6_10
      refine PW_istore (pc' := 67) (lv' := [(6, .int x6_10), (5, .int x5_9), (4, .int x4_8), (3, .int v_5), (0, .ref 1200), (1, .int x1), (2, .int x2)]) (pw_dk dc_X3_spreadOut 49 rfl) rfl (by decide) rfl ?_
      refine PW_iload_n (pc' := 68) (q := 6) (pw_dk dc_X3_spreadOut 50 rfl) rfl rfl rfl ?_
      refine PW_if_le (pc' := 71) (tgt := 82) (pw_dk dc_X3_spreadOut 51 rfl) rfl (by decide) (fun c_11 => ?_) (fun c_11 => ?_)
      · rw [if_pos c_11] at h
        refine PW_iconst (pc' := 83) (v := 0) (pw_dk dc_X3_spreadOut 59 rfl) rfl (by decide) ?_
        refine PW_sub (lv' := [(0, .ref 1200), (1, .int x1), (2, .int x2), (3, .int v_5), (4, .int x4_8), (5, .int x5_9), (6, .int x6_10)]) [4, 5, 6, 3, 2, 1, 0] rfl ?_
        exact b_X3_spreadOut_83 (f_X3_spreadOut_2 n) ih x1 x2 v_5 x4_8 x5_9 x6_10 0 σ h
      · rw [if_neg c_11] at h
        refine PW_aload_n (pc' := 72) (q := 4) (pw_dk dc_X3_spreadOut 52 rfl) rfl rfl rfl ?_
        refine PW_getR (pc' := 75) (id := 1200) (ci := 3) (nn := 0) (C0 := RX3) (T := TX3) (N := 9) (j := 7) (r := 1208) (pw_dk dc_X3_spreadOut 53 rfl) rfl me_1200 rfl pi_3 (by decide) fk_3_7 tw_530 (rfl) (by decide) ?_
        refine PW_iload_n (pc' := 76) (q := 6) (pw_dk dc_X3_spreadOut 54 rfl) rfl rfl rfl ?_
        refine PW_iconst (pc' := 77) (v := 1) (pw_dk dc_X3_spreadOut 55 rfl) rfl (by decide) ?_
        refine PW_isub (pc' := 78) (pw_dk dc_X3_spreadOut 56 rfl) rfl ?_
        obtain ⟨v_12, hi_13, e_14, h⟩ := wp_rdIx h
        refine PZ_ialdx (pc' := 79) (v := v_12) (id := 1208) (nn := 12) (pw_dk dc_X3_spreadOut 57 rfl) rfl me_1208 hi_13 e_14 ?_
        refine PW_goto (tgt := 83) (pw_dk dc_X3_spreadOut 58 rfl) (by decide) ?_
        refine PW_sub (lv' := [(0, .ref 1200), (1, .int x1), (2, .int x2), (3, .int v_5), (4, .int x4_8), (5, .int x5_9), (6, .int x6_10)]) [4, 5, 6, 3, 2, 1, 0] rfl ?_
        exact b_X3_spreadOut_83 (f_X3_spreadOut_2 n) ih x1 x2 v_5 x4_8 x5_9 x6_10 v_12 σ h
def f_X3_spreadOut (x1 : Int32) (σ : zS) : Option zS := 
  f_X3_spreadOut_2 FU x1 0 σ
theorem t_X3_spreadOut (x1 : Int32) (σ : zS) (Q : Option Value → zS → Prop) (h : wpO (f_X3_spreadOut x1 σ) (fun s => Q none s)) : PK alC yX3_spreadOut mX3_spreadOut (1) [.ref 1200, .int x1] σ Q := by
  refine PC_ofF (by decide +kernel) rfl rfl (Nat.le_of_ble_eq_true rfl) ?_
  show PZ alC mX3_spreadOut (1) Q 0 [(0, .ref 1200), (1, .int x1)] [] σ
  unfold f_X3_spreadOut at h
  refine PW_iconst (pc' := 1) (v := 0) (pw_dk dc_X3_spreadOut 0 rfl) rfl (by decide) ?_
  refine PW_istore_n (pc' := 2) (lv' := [(2, .int 0), (0, .ref 1200), (1, .int x1)]) (pw_dk dc_X3_spreadOut 1 rfl) rfl rfl (by decide) rfl ?_
  refine PW_sub (lv' := [(0, .ref 1200), (1, .int x1), (2, .int 0)]) [1, 2, 0] rfl ?_
  exact b_X3_spreadOut_2 FU x1 0 σ h
def f_X3_fit_63 (r46 : Int32 → Int32 → Int32 → zS → Option (Int32 × zS)) (x2 : Int32) (x4 : Int32) (x5 : Int32) (σ : zS) : Option (Int32 × zS) := 
  b2 (f_X3_sift x5 x2 σ) fun v_3 σ_2 =>
  if v_3 = 0 then
    some (0, σ_2)
  else
    r46 x2 x4 (x5 + 1) σ_2
theorem b_X3_fit_63 {Q : Option Value → zS → Prop} (r46 : Int32 → Int32 → Int32 → zS → Option (Int32 × zS)) (hr46 : ∀ (x2 : Int32) (x4 : Int32) (x5 : Int32) (σ : zS), wpO (r46 x2 x4 x5 σ) (fun a => Q (some (.int a.1)) a.2) → PZ alC mX3_fit (5) Q 46 [(0, .ref 1200), (2, .int x2), (4, .int x4), (5, .int x5)] [] σ) (x2 : Int32) (x4 : Int32) (x5 : Int32) (σ : zS) (h : wpO (f_X3_fit_63 r46 x2 x4 x5 σ) (fun a => Q (some (.int a.1)) a.2)) : PZ alC mX3_fit (5) Q 63 [(0, .ref 1200), (2, .int x2), (4, .int x4), (5, .int x5)] [] σ := by
  unfold f_X3_fit_63 at h
  refine PW_aload_n (pc' := 64) (q := 0) (pw_dk dc_X3_fit 36 rfl) rfl rfl rfl ?_
  refine PW_iload (pc' := 66) (q := 3) (pw_dk dc_X3_fit 37 rfl) rfl rfl ?_
  refine PW_iload_n (pc' := 67) (q := 1) (pw_dk dc_X3_fit 38 rfl) rfl rfl rfl ?_
  refine PZ_callVi (pc' := 70) (y := yX3_sift) (M' := mX3_sift) (d' := 4) (As := [.int x5, .int x2]) (st := []) (b := 1200) (ci := 3) (nn := 0) me_1200 rfl tw_1220 tw_42 (pw_dk dc_X3_fit 39 rfl) rfl Y_X3_sift tw_1218 rfl (by decide) (Nat.le_of_ble_eq_true rfl) (t_X3_sift x5 x2 σ _ ?_)
  obtain ⟨⟨v_3, σ_2⟩, e_4, h⟩ := wp_bind2 h
  refine ⟨(v_3, σ_2), e_4, _, rfl, fun hn_1 => ?_⟩
  show PZ alC mX3_fit (5) Q 70 [(0, .ref 1200), (2, .int x2), (4, .int x4), (5, .int x5)] [.int v_3] σ_2
  refine PW_if_ne (pc' := 73) (tgt := 75) (pw_dk dc_X3_fit 40 rfl) rfl (by decide) (fun c_5 => ?_) (fun c_5 => ?_)
  · rw [if_neg c_5] at h
    refine PW_iinc (pc' := 78) (q := 3) (v := x5 + 1) (lv' := [(5, .int (x5 + 1)), (0, .ref 1200), (2, .int x2), (4, .int x4)]) (pw_dk dc_X3_fit 43 rfl) rfl rfl rfl (by decide) rfl ?_
    refine PW_goto (tgt := 46) (pw_dk dc_X3_fit 44 rfl) (by decide) ?_
    refine PW_sub (lv' := [(0, .ref 1200), (2, .int x2), (4, .int x4), (5, .int (x5 + 1))]) [1, 2, 3, 0] rfl ?_
    exact hr46 x2 x4 (x5 + 1) σ_2 h
  · rw [if_pos c_5] at h
    refine PW_iconst (pc' := 74) (v := 0) (pw_dk dc_X3_fit 41 rfl) rfl (by decide) ?_
    have z := wp_some h
    exact PZ_iret (ty := .boolean) (pw_dk dc_X3_fit 42 rfl) rfl (by decide) z
def f_X3_fit_46  : Nat → Int32 → Int32 → Int32 → zS → Option (Int32 × zS)
  | 0, _, _, _, _ => none
  | n + 1, x2, x4, x5, σ => 
    if x4 < x5 then
      some (1, σ)
    else
      if x5 ≤ 0 then
        f_X3_fit_63 (f_X3_fit_46 n) x2 x4 x5 σ
      else
        (f_X3_spreadOut x2 σ).bind fun σ_4 =>
        f_X3_fit_63 (f_X3_fit_46 n) x2 x4 x5 σ_4
theorem b_X3_fit_46 {Q : Option Value → zS → Prop} : ∀ (n : Nat) (x2 : Int32) (x4 : Int32) (x5 : Int32) (σ : zS) (h : wpO (f_X3_fit_46 n x2 x4 x5 σ) (fun a => Q (some (.int a.1)) a.2)), PZ alC mX3_fit (5) Q 46 [(0, .ref 1200), (2, .int x2), (4, .int x4), (5, .int x5)] [] σ := by
  intro n
  induction n with
  | zero => intro x2 x4 x5 σ h; exact wp_none h
  | succ n ih =>
    intro x2 x4 x5 σ h
    rw [f_X3_fit_46] at h
    refine PW_iload (pc' := 48) (q := 3) (pw_dk dc_X3_fit 28 rfl) rfl rfl ?_
    refine PW_iload (pc' := 50) (q := 2) (pw_dk dc_X3_fit 29 rfl) rfl rfl ?_
    refine PW_icmp_gt (pc' := 53) (tgt := 81) (pw_dk dc_X3_fit 30 rfl) rfl (by decide) (fun c_1 => ?_) (fun c_1 => ?_)
    · rw [if_pos c_1] at h
      refine PW_iconst (pc' := 82) (v := 1) (pw_dk dc_X3_fit 45 rfl) rfl (by decide) ?_
      have z := wp_some h
      exact PZ_iret (ty := .boolean) (pw_dk dc_X3_fit 46 rfl) rfl (by decide) z
    · rw [if_neg c_1] at h
      refine PW_iload (pc' := 55) (q := 3) (pw_dk dc_X3_fit 31 rfl) rfl rfl ?_
      refine PW_if_le (pc' := 58) (tgt := 63) (pw_dk dc_X3_fit 32 rfl) rfl (by decide) (fun c_2 => ?_) (fun c_2 => ?_)
      · rw [if_pos c_2] at h
        exact b_X3_fit_63 (f_X3_fit_46 n) ih x2 x4 x5 σ h
      · rw [if_neg c_2] at h
        refine PW_aload_n (pc' := 59) (q := 0) (pw_dk dc_X3_fit 33 rfl) rfl rfl rfl ?_
        refine PW_iload_n (pc' := 60) (q := 1) (pw_dk dc_X3_fit 34 rfl) rfl rfl rfl ?_
        refine PZ_callVv (pc' := 63) (y := yX3_spreadOut) (M' := mX3_spreadOut) (d' := 1) (As := [.int x2]) (st := []) (b := 1200) (ci := 3) (nn := 0) me_1200 rfl tw_1214 tw_41 (pw_dk dc_X3_fit 35 rfl) rfl Y_X3_spreadOut tw_1212 rfl (by decide) (Nat.le_of_ble_eq_true rfl) (t_X3_spreadOut x2 σ _ ?_)
        obtain ⟨σ_4, e_5, h⟩ := wp_bind h
        refine ⟨σ_4, e_5, rfl, fun hn_3 => ?_⟩
        show PZ alC mX3_fit (5) Q 63 [(0, .ref 1200), (2, .int x2), (4, .int x4), (5, .int x5)] [] σ_4
        exact b_X3_fit_63 (f_X3_fit_46 n) ih x2 x4 x5 σ_4 h
def f_X3_fit (x1 : Int32) (x2 : Int32) (σ : zS) : Option (Int32 × zS) := 
  (f_J7_fill_53178 1208 12 0 σ).bind fun σ_2 =>
  lt (α := Int32) (f_X5_cellOf x1 σ_2) fun x3_5 =>
  if x3_5 < 0 then
    some (0, σ_2)
  else
    if x3_5 < 12 then
      (wrI σ_2 1208 12 x3_5 ((1 : Int32) <<< ((x1 - x1 / (16 : Int32) * (16 : Int32)) &&& 31))).bind fun σ_8 =>
      (f_X3_lastTime σ_8).bind fun v_12 =>
      f_X3_fit_46 FU x2 v_12 0 σ_8
    else
      some (0, σ_2)
theorem t_X3_fit (x1 : Int32) (x2 : Int32) (σ : zS) (Q : Option Value → zS → Prop) (h : wpO (f_X3_fit x1 x2 σ) (fun a => Q (some (.int a.1)) a.2)) : PK alC yX3_fit mX3_fit (5) [.ref 1200, .int x1, .int x2] σ Q := by
  refine PC_ofF (by decide +kernel) rfl rfl (Nat.le_of_ble_eq_true rfl) ?_
  show PZ alC mX3_fit (5) Q 0 [(0, .ref 1200), (1, .int x1), (2, .int x2)] [] σ
  unfold f_X3_fit at h
  refine PW_aload_n (pc' := 1) (q := 0) (pw_dk dc_X3_fit 0 rfl) rfl rfl rfl ?_
  refine PW_getR (pc' := 4) (id := 1200) (ci := 3) (nn := 0) (C0 := RX3) (T := TX3) (N := 9) (j := 7) (r := 1208) (pw_dk dc_X3_fit 1 rfl) rfl me_1200 rfl pi_3 (by decide) fk_3_7 tw_530 (rfl) (by decide) ?_
  refine PW_iconst (pc' := 5) (v := 0) (pw_dk dc_X3_fit 2 rfl) rfl (by decide) ?_
  refine PZ_callSv (pc' := 8) (y := yJ7_fill_53178) (M' := mJ7_fill_53178) (d' := 0) (As := [.ref 1208, .int 0]) (st := []) tw_197 (pw_dk dc_X3_fit 3 rfl) rfl Y_J7_fill_53178 tw_1201 rfl (by decide) (Nat.le_of_ble_eq_true rfl) (t_J7_fill_53178 alC 1208 12 0 me_1208 σ _ ?_)
  obtain ⟨σ_2, e_3, h⟩ := wp_bind h
  refine ⟨σ_2, e_3, rfl, fun hn_1 => ?_⟩
  show PZ alC mX3_fit (5) Q 8 [(0, .ref 1200), (1, .int x1), (2, .int x2)] [] σ_2
  refine PW_iload_n (pc' := 9) (q := 1) (pw_dk dc_X3_fit 4 rfl) rfl rfl rfl ?_
  refine PZ_callSi (pc' := 12) (y := yX5_cellOf) (M' := mX5_cellOf) (d' := 0) (As := [.int x1]) (st := []) tw_915 (pw_dk dc_X3_fit 5 rfl) rfl Y_X5_cellOf tw_1202 rfl (by decide) (Nat.le_of_ble_eq_true rfl) (t_X5_cellOf x1 σ_2 _ ?_)
  refine ⟨_, rfl, fun hn_4 => ?_⟩
  show PZ alC mX3_fit (5) Q 12 [(0, .ref 1200), (1, .int x1), (2, .int x2)] [.int (f_X5_cellOf x1 σ_2)] σ_2
  refine PW_topi (fun x3_5 ex3_5 => ?_)
  replace h := lt_w h ex3_5
  refine PW_istore_n (pc' := 13) (lv' := [(3, .int x3_5), (0, .ref 1200), (1, .int x1), (2, .int x2)]) (pw_dk dc_X3_fit 6 rfl) rfl rfl (by decide) rfl ?_
  refine PW_iload_n (pc' := 14) (q := 0) (pw_dk dc_X3_fit 7 rfl) rfl rfl rfl ?_
  refine PW_if_lt (pc' := 17) (tgt := 23) (pw_dk dc_X3_fit 8 rfl) rfl (by decide) (fun c_6 => ?_) (fun c_6 => ?_)
  · rw [if_pos c_6] at h
    refine PW_iconst (pc' := 24) (v := 0) (pw_dk dc_X3_fit 12 rfl) rfl (by decide) ?_
    have z := wp_some h
    exact PZ_iret (ty := .boolean) (pw_dk dc_X3_fit 13 rfl) rfl (by decide) z
  · rw [if_neg c_6] at h
    refine PW_iload_n (pc' := 18) (q := 0) (pw_dk dc_X3_fit 9 rfl) rfl rfl rfl ?_
    refine PW_bipush (pc' := 20) (v := 12) (pw_dk dc_X3_fit 10 rfl) rfl (by decide) ?_
    refine PW_icmp_lt (pc' := 23) (tgt := 25) (pw_dk dc_X3_fit 11 rfl) rfl (by decide) (fun c_7 => ?_) (fun c_7 => ?_)
    · rw [if_pos c_7] at h
      refine PW_aload_n (pc' := 26) (q := 1) (pw_dk dc_X3_fit 14 rfl) rfl rfl rfl ?_
      refine PW_getR (pc' := 29) (id := 1200) (ci := 3) (nn := 0) (C0 := RX3) (T := TX3) (N := 9) (j := 7) (r := 1208) (pw_dk dc_X3_fit 15 rfl) rfl me_1200 rfl pi_3 (by decide) fk_3_7 tw_530 (rfl) (by decide) ?_
      refine PW_iload_n (pc' := 30) (q := 0) (pw_dk dc_X3_fit 16 rfl) rfl rfl rfl ?_
      refine PW_iconst (pc' := 31) (v := 1) (pw_dk dc_X3_fit 17 rfl) rfl (by decide) ?_
      refine PW_iload_n (pc' := 32) (q := 2) (pw_dk dc_X3_fit 18 rfl) rfl rfl rfl ?_
      refine PW_bipush (pc' := 34) (v := 16) (pw_dk dc_X3_fit 19 rfl) rfl (by decide) ?_
      refine PW_irem (pc' := 35) (pw_dk dc_X3_fit 20 rfl) rfl (by decide) ?_
      refine PW_ishl (pc' := 36) (pw_dk dc_X3_fit 21 rfl) rfl ?_
      obtain ⟨σ_8, hi_9, e_10, h⟩ := wp_wrIx h
      refine PZ_iastx (pc' := 37) (σ' := σ_8) (id := 1208) (nn := 12) (pw_dk dc_X3_fit 22 rfl) rfl me_1208 hi_9 e_10 ?_
      refine PW_aload_n (pc' := 38) (q := 1) (pw_dk dc_X3_fit 23 rfl) rfl rfl rfl ?_
      refine PZ_callVi (pc' := 41) (y := yX3_lastTime) (M' := mX3_lastTime) (d' := 1) (As := []) (st := []) (b := 1200) (ci := 3) (nn := 0) me_1200 rfl tw_1205 tw_39 (pw_dk dc_X3_fit 24 rfl) rfl Y_X3_lastTime tw_1203 rfl (by decide) (Nat.le_of_ble_eq_true rfl) (t_X3_lastTime σ_8 _ ?_)
      obtain ⟨v_12, e_13, h⟩ := wp_bind h
      refine ⟨v_12, e_13, _, rfl, fun hn_11 => ?_⟩
      show PZ alC mX3_fit (5) Q 41 [(3, .int x3_5), (0, .ref 1200), (1, .int x1), (2, .int x2)] [.int v_12] σ_8
      refine PW_istore (pc' := 43) (lv' := [(4, .int v_12), (3, .int x3_5), (0, .ref 1200), (1, .int x1), (2, .int x2)]) (pw_dk dc_X3_fit 25 rfl) rfl (by decide) rfl ?_
      refine PW_iconst (pc' := 44) (v := 0) (pw_dk dc_X3_fit 26 rfl) rfl (by decide) ?_
      refine PW_istore (pc' := 46) (lv' := [(5, .int 0), (4, .int v_12), (3, .int x3_5), (0, .ref 1200), (1, .int x1), (2, .int x2)]) (pw_dk dc_X3_fit 27 rfl) rfl (by decide) rfl ?_
      refine PW_sub (lv' := [(0, .ref 1200), (2, .int x2), (4, .int v_12), (5, .int 0)]) [3, 5, 1, 0] rfl ?_
      exact b_X3_fit_46 FU x2 v_12 0 σ_8 h
    · rw [if_neg c_7] at h
      refine PW_iconst (pc' := 24) (v := 0) (pw_dk dc_X3_fit 12 rfl) rfl (by decide) ?_
      have z := wp_some h
      exact PZ_iret (ty := .boolean) (pw_dk dc_X3_fit 13 rfl) rfl (by decide) z
