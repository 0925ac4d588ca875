/-! walks (printed by wip/gen) -/
def f_X12_loopholes_60 (r33 : Int32 → Int32 → Int32 → Int32 → zS → Option (Int32 × zS)) (x1 : Int32) (x2 : Int32) (x4 : Int32) (s0 : Int32) (s1 : Int32) (σ : zS) : Option (Int32 × zS) := 
  lt (α := Int32) (s0 + s1) fun x3_1 =>
  r33 x1 x2 x3_1 (x4 + 1) σ
theorem b_X12_loopholes_60 {Q : Option Value → zS → Prop} (r33 : Int32 → Int32 → Int32 → Int32 → zS → Option (Int32 × zS)) (hr33 : ∀ (x1 : Int32) (x2 : Int32) (x3 : Int32) (x4 : Int32) (σ : zS), wpO (r33 x1 x2 x3 x4 σ) (fun a => Q (some (.int a.1)) a.2) → PZ alM mX12_loopholes (6) Q 33 [(0, .ref 5000), (1, .int x1), (2, .int x2), (3, .int x3), (4, .int x4)] [] σ) (x1 : Int32) (x2 : Int32) (x4 : Int32) (s0 : Int32) (s1 : Int32) (σ : zS) (h : wpO (f_X12_loopholes_60 r33 x1 x2 x4 s0 s1 σ) (fun a => Q (some (.int a.1)) a.2)) : PZ alM mX12_loopholes (6) Q 60 [(0, .ref 5000), (1, .int x1), (2, .int x2), (4, .int x4)] [.int s1, .int s0] σ := by
  unfold f_X12_loopholes_60 at h
  refine PW_iadd (pc' := 61) (pw_dk dc_X12_loopholes 35 rfl) rfl ?_
  refine PW_topi (fun x3_1 ex3_1 => ?_)
  replace h := lt_w h ex3_1
  refine PW_istore_n (pc' := 62) (lv' := [(3, .int x3_1), (0, .ref 5000), (1, .int x1), (2, .int x2), (4, .int x4)]) (pw_dk dc_X12_loopholes 36 rfl) rfl rfl (by decide) rfl ?_
  refine PW_iinc (pc' := 65) (q := 4) (v := x4 + 1) (lv' := [(4, .int (x4 + 1)), (3, .int x3_1), (0, .ref 5000), (1, .int x1), (2, .int x2)]) (pw_dk dc_X12_loopholes 37 rfl) rfl rfl rfl (by decide) rfl ?_
  refine PW_goto (tgt := 33) (pw_dk dc_X12_loopholes 38 rfl) (by decide) ?_
  refine PW_sub (lv' := [(0, .ref 5000), (1, .int x1), (2, .int x2), (3, .int x3_1), (4, .int (x4 + 1))]) [2, 3, 4, 1, 0] rfl ?_
  exact hr33 x1 x2 x3_1 (x4 + 1) σ h
def f_X12_loopholes_33  : Nat → Int32 → Int32 → Int32 → Int32 → zS → Option (Int32 × zS)
  | 0, _, _, _, _, _ => none
  | n + 1, x1, x2, x3, x4, σ => 
    (f_X12_statesMany σ).bind fun v_2 =>
    if v_2 ≤ x4 then
      some (x3, σ)
    else
      b2 (f_X12_isLoophole x1 x4 x2 0 σ) fun v_7 σ_6 =>
      if v_7 = 0 then
        f_X12_loopholes_60 (f_X12_loopholes_33 n) x1 x2 x4 x3 0 σ_6
      else
        f_X12_loopholes_60 (f_X12_loopholes_33 n) x1 x2 x4 x3 1 σ_6
theorem b_X12_loopholes_33 {Q : Option Value → zS → Prop} : ∀ (n : Nat) (x1 : Int32) (x2 : Int32) (x3 : Int32) (x4 : Int32) (σ : zS) (h : wpO (f_X12_loopholes_33 n x1 x2 x3 x4 σ) (fun a => Q (some (.int a.1)) a.2)), PZ alM mX12_loopholes (6) Q 33 [(0, .ref 5000), (1, .int x1), (2, .int x2), (3, .int x3), (4, .int x4)] [] σ := by
  intro n
  induction n with
  | zero => intro x1 x2 x3 x4 σ h; exact wp_none h
  | succ n ih =>
    intro x1 x2 x3 x4 σ h
    rw [f_X12_loopholes_33] at h
    refine PW_iload (pc' := 35) (q := 4) (pw_dk dc_X12_loopholes 20 rfl) rfl rfl ?_
    refine PW_aload_n (pc' := 36) (q := 0) (pw_dk dc_X12_loopholes 21 rfl) rfl rfl rfl ?_
    refine PZ_callVi (pc' := 39) (y := yX12_statesMany) (M' := mX12_statesMany) (d' := 0) (As := []) (st := [.int x4]) (b := 5000) (ci := 12) (nn := 0) me_5000 rfl tw_1889 tw_96 (pw_dk dc_X12_loopholes 22 rfl) rfl Y_X12_statesMany tw_1887 rfl (by decide) (Nat.le_of_ble_eq_true rfl) (t_X12_statesMany σ _ ?_)
    obtain ⟨v_2, e_3, h⟩ := wp_bind h
    refine ⟨v_2, e_3, _, rfl, fun hn_1 => ?_⟩
    show PZ alM mX12_loopholes (6) Q 39 [(0, .ref 5000), (1, .int x1), (2, .int x2), (3, .int x3), (4, .int x4)] [.int v_2, .int x4] σ
    refine PW_icmp_ge (pc' := 42) (tgt := 68) (pw_dk dc_X12_loopholes 23 rfl) rfl (by decide) (fun c_4 => ?_) (fun c_4 => ?_)
    · rw [if_pos c_4] at h
      refine PW_iload_n (pc' := 69) (q := 3) (pw_dk dc_X12_loopholes 39 rfl) rfl rfl rfl ?_
      have z := wp_some h
      exact PZ_iret (ty := .int) (pw_dk dc_X12_loopholes 40 rfl) rfl rfl z
    · rw [if_neg c_4] at h
      refine PW_iload_n (pc' := 43) (q := 3) (pw_dk dc_X12_loopholes 24 rfl) rfl rfl rfl ?_
      refine PW_aload_n (pc' := 44) (q := 0) (pw_dk dc_X12_loopholes 25 rfl) rfl rfl rfl ?_
      refine PW_iload_n (pc' := 45) (q := 1) (pw_dk dc_X12_loopholes 26 rfl) rfl rfl rfl ?_
      refine PW_iload (pc' := 47) (q := 4) (pw_dk dc_X12_loopholes 27 rfl) rfl rfl ?_
      refine PW_iload_n (pc' := 48) (q := 2) (pw_dk dc_X12_loopholes 28 rfl) rfl rfl rfl ?_
      refine PW_iconst (pc' := 49) (v := 0) (pw_dk dc_X12_loopholes 29 rfl) rfl (by decide) ?_
      refine PZ_callVi (pc' := 52) (y := yX12_isLoophole) (M' := mX12_isLoophole) (d' := 5) (As := [.int x1, .int x4, .int x2, .int 0]) (st := [.int x3]) (b := 5000) (ci := 12) (nn := 0) me_5000 rfl tw_1944 tw_104 (pw_dk dc_X12_loopholes 30 rfl) rfl Y_X12_isLoophole tw_1942 rfl (by decide) (Nat.le_of_ble_eq_true rfl) (t_X12_isLoophole x1 x4 x2 0 σ _ ?_)
      obtain ⟨⟨v_7, σ_6⟩, e_8, h⟩ := wp_bind2 h
      refine ⟨(v_7, σ_6), e_8, _, rfl, fun hn_5 => ?_⟩
      show PZ alM mX12_loopholes (6) Q 52 [(0, .ref 5000), (1, .int x1), (2, .int x2), (3, .int x3), (4, .int x4)] [.int v_7, .int x3] σ_6
      refine PW_if_eq (pc' := 55) (tgt := 59) (pw_dk dc_X12_loopholes 31 rfl) rfl (by decide) (fun c_9 => ?_) (fun c_9 => ?_)
      · rw [if_pos c_9] at h
        refine PW_iconst (pc' := 60) (v := 0) (pw_dk dc_X12_loopholes 34 rfl) rfl (by decide) ?_
        refine PW_sub (lv' := [(0, .ref 5000), (1, .int x1), (2, .int x2), (4, .int x4)]) [0, 1, 2, 4] rfl ?_
        exact b_X12_loopholes_60 (f_X12_loopholes_33 n) ih x1 x2 x4 x3 0 σ_6 h
      · rw [if_neg c_9] at h
        refine PW_iconst (pc' := 56) (v := 1) (pw_dk dc_X12_loopholes 32 rfl) rfl (by decide) ?_
        refine PW_goto (tgt := 60) (pw_dk dc_X12_loopholes 33 rfl) (by decide) ?_
        refine PW_sub (lv' := [(0, .ref 5000), (1, .int x1), (2, .int x2), (4, .int x4)]) [0, 1, 2, 4] rfl ?_
        exact b_X12_loopholes_60 (f_X12_loopholes_33 n) ih x1 x2 x4 x3 1 σ_6 h
def f_X12_loopholes (x1 : Int32) (x2 : Int32) (σ : zS) : Option (Int32 × zS) := 
  lt (wI σ 5000 0 0) fun σ_1 =>
  (f_X12_isMan x1 σ_1).bind fun v_4 =>
  if v_4 = 0 then
    some ((-1 : Int32), σ_1)
  else
    if (f_X12_isKind x2 σ_1) = 0 then
      some ((-1 : Int32), σ_1)
    else
      (f_X12_layUnlawful x1 x2 σ_1).bind fun σ_10 =>
      f_X12_loopholes_33 FU x1 x2 0 0 σ_10
theorem t_X12_loopholes (x1 : Int32) (x2 : Int32) (σ : zS) (Q : Option Value → zS → Prop) (h : wpO (f_X12_loopholes x1 x2 σ) (fun a => Q (some (.int a.1)) a.2)) : PK alM yX12_loopholes mX12_loopholes (6) [.ref 5000, .int x1, .int x2] σ Q := by
  refine PC_ofF (by decide +kernel) rfl rfl (Nat.le_of_ble_eq_true rfl) ?_
  show PZ alM mX12_loopholes (6) Q 0 [(0, .ref 5000), (1, .int x1), (2, .int x2)] [] σ
  unfold f_X12_loopholes at h
  refine PW_aload_n (pc' := 1) (q := 0) (pw_dk dc_X12_loopholes 0 rfl) rfl rfl rfl ?_
  refine PW_iconst (pc' := 2) (v := 0) (pw_dk dc_X12_loopholes 1 rfl) rfl (by decide) ?_
  obtain ⟨σ_1, e_2, h⟩ := lt_x h
  refine PZ_putX (pc' := 5) (σ' := σ_1) (id := 5000) (ci := 12) (nn := 0) (C0 := RX12) (T := TX12) (N := 62) (j := 0) (ty := tyX12 0) (pw_dk dc_X12_loopholes 2 rfl) rfl me_5000 rfl pi_12 tyX12_ok nmX12 (by decide) fk_12_0 tw_1397 rfl (tyX12_ok 0 (by decide)) (by first | rfl | decide) (by first | rfl | decide) e_2 ?_
  refine PW_aload_n (pc' := 6) (q := 0) (pw_dk dc_X12_loopholes 3 rfl) rfl rfl rfl ?_
  refine PW_iload_n (pc' := 7) (q := 1) (pw_dk dc_X12_loopholes 4 rfl) rfl rfl rfl ?_
  refine PZ_callVi (pc' := 10) (y := yX12_isMan) (M' := mX12_isMan) (d' := 0) (As := [.int x1]) (st := []) (b := 5000) (ci := 12) (nn := 0) me_5000 rfl tw_1742 tw_77 (pw_dk dc_X12_loopholes 5 rfl) rfl Y_X12_isMan tw_1740 rfl (by decide) (Nat.le_of_ble_eq_true rfl) (t_X12_isMan x1 σ_1 _ ?_)
  obtain ⟨v_4, e_5, h⟩ := wp_bind h
  refine ⟨v_4, e_5, _, rfl, fun hn_3 => ?_⟩
  show PZ alM mX12_loopholes (6) Q 10 [(0, .ref 5000), (1, .int x1), (2, .int x2)] [.int v_4] σ_1
  refine PW_if_eq (pc' := 13) (tgt := 20) (pw_dk dc_X12_loopholes 6 rfl) rfl (by decide) (fun c_6 => ?_) (fun c_6 => ?_)
  · rw [if_pos c_6] at h
    refine PW_iconst (pc' := 21) (v := (-1 : Int32)) (pw_dk dc_X12_loopholes 10 rfl) rfl (by decide) ?_
    have z := wp_some h
    exact PZ_iret (ty := .int) (pw_dk dc_X12_loopholes 11 rfl) rfl rfl z
  · rw [if_neg c_6] at h
    refine PW_iload_n (pc' := 14) (q := 2) (pw_dk dc_X12_loopholes 7 rfl) rfl rfl rfl ?_
    refine PZ_callSi (pc' := 17) (y := yX12_isKind) (M' := mX12_isKind) (d' := 0) (As := [.int x2]) (st := []) tw_1813 (pw_dk dc_X12_loopholes 8 rfl) rfl Y_X12_isKind tw_1812 rfl (by decide) (Nat.le_of_ble_eq_true rfl) (t_X12_isKind x2 σ_1 _ ?_)
    refine ⟨_, rfl, fun hn_7 => ?_⟩
    show PZ alM mX12_loopholes (6) Q 17 [(0, .ref 5000), (1, .int x1), (2, .int x2)] [.int (f_X12_isKind x2 σ_1)] σ_1
    refine PW_if_ne (pc' := 20) (tgt := 22) (pw_dk dc_X12_loopholes 9 rfl) rfl (by decide) (fun c_8 => ?_) (fun c_8 => ?_)
    · rw [if_neg c_8] at h
      refine PW_aload_n (pc' := 23) (q := 0) (pw_dk dc_X12_loopholes 12 rfl) rfl rfl rfl ?_
      refine PW_iload_n (pc' := 24) (q := 1) (pw_dk dc_X12_loopholes 13 rfl) rfl rfl rfl ?_
      refine PW_iload_n (pc' := 25) (q := 2) (pw_dk dc_X12_loopholes 14 rfl) rfl rfl rfl ?_
      refine PZ_callVv (pc' := 28) (y := yX12_layUnlawful) (M' := mX12_layUnlawful) (d' := 5) (As := [.int x1, .int x2]) (st := []) (b := 5000) (ci := 12) (nn := 0) me_5000 rfl tw_1940 tw_103 (pw_dk dc_X12_loopholes 15 rfl) rfl Y_X12_layUnlawful tw_1938 rfl (by decide) (Nat.le_of_ble_eq_true rfl) (t_X12_layUnlawful x1 x2 σ_1 _ ?_)
      obtain ⟨σ_10, e_11, h⟩ := wp_bind h
      refine ⟨σ_10, e_11, rfl, fun hn_9 => ?_⟩
      show PZ alM mX12_loopholes (6) Q 28 [(0, .ref 5000), (1, .int x1), (2, .int x2)] [] σ_10
      refine PW_iconst (pc' := 29) (v := 0) (pw_dk dc_X12_loopholes 16 rfl) rfl (by decide) ?_
      refine PW_istore_n (pc' := 30) (lv' := [(3, .int 0), (0, .ref 5000), (1, .int x1), (2, .int x2)]) (pw_dk dc_X12_loopholes 17 rfl) rfl rfl (by decide) rfl ?_
      refine PW_iconst (pc' := 31) (v := 0) (pw_dk dc_X12_loopholes 18 rfl) rfl (by decide) ?_
      refine PW_istore (pc' := 33) (lv' := [(4, .int 0), (3, .int 0), (0, .ref 5000), (1, .int x1), (2, .int x2)]) (pw_dk dc_X12_loopholes 19 rfl) rfl (by decide) rfl ?_
      refine PW_sub (lv' := [(0, .ref 5000), (1, .int x1), (2, .int x2), (3, .int 0), (4, .int 0)]) [2, 3, 4, 1, 0] rfl ?_
      exact b_X12_loopholes_33 FU x1 x2 0 0 σ_10 h
    · rw [if_pos c_8] at h
      refine PW_iconst (pc' := 21) (v := (-1 : Int32)) (pw_dk dc_X12_loopholes 10 rfl) rfl (by decide) ?_
      have z := wp_some h
      exact PZ_iret (ty := .int) (pw_dk dc_X12_loopholes 11 rfl) rfl rfl z
def f_X12_loophole_74 (r38 : Int32 → Int32 → Int32 → Int32 → Int32 → zS → Option (Int32 × zS)) (x1 : Int32) (x2 : Int32) (x3 : Int32) (x4 : Int32) (x5 : Int32) (σ : zS) : Option (Int32 × zS) := 
  r38 x1 x2 x3 x4 (x5 + 1) σ
theorem b_X12_loophole_74 {Q : Option Value → zS → Prop} (r38 : Int32 → Int32 → Int32 → Int32 → Int32 → zS → Option (Int32 × zS)) (hr38 : ∀ (x1 : Int32) (x2 : Int32) (x3 : Int32) (x4 : Int32) (x5 : Int32) (σ : zS), wpO (r38 x1 x2 x3 x4 x5 σ) (fun a => Q (some (.int a.1)) a.2) → PZ alM mX12_loophole (6) Q 38 [(0, .ref 5000), (1, .int x1), (2, .int x2), (3, .int x3), (4, .int x4), (5, .int x5)] [] σ) (x1 : Int32) (x2 : Int32) (x3 : Int32) (x4 : Int32) (x5 : Int32) (σ : zS) (h : wpO (f_X12_loophole_74 r38 x1 x2 x3 x4 x5 σ) (fun a => Q (some (.int a.1)) a.2)) : PZ alM mX12_loophole (6) Q 74 [(0, .ref 5000), (1, .int x1), (2, .int x2), (3, .int x3), (4, .int x4), (5, .int x5)] [] σ := by
  unfold f_X12_loophole_74 at h
  refine PW_iinc (pc' := 77) (q := 5) (v := x5 + 1) (lv' := [(5, .int (x5 + 1)), (0, .ref 5000), (1, .int x1), (2, .int x2), (3, .int x3), (4, .int x4)]) (pw_dk dc_X12_loophole 40 rfl) rfl rfl rfl (by decide) rfl ?_
  refine PW_goto (tgt := 38) (pw_dk dc_X12_loophole 41 rfl) (by decide) ?_
  refine PW_sub (lv' := [(0, .ref 5000), (1, .int x1), (2, .int x2), (3, .int x3), (4, .int x4), (5, .int (x5 + 1))]) [1, 2, 3, 4, 5, 0] rfl ?_
  exact hr38 x1 x2 x3 x4 (x5 + 1) σ h
def f_X12_loophole_38  : Nat → Int32 → Int32 → Int32 → Int32 → Int32 → zS → Option (Int32 × zS)
  | 0, _, _, _, _, _, _ => none
  | n + 1, x1, x2, x3, x4, x5, σ => 
    (f_X12_statesMany σ).bind fun v_2 =>
    if v_2 ≤ x5 then
      some ((-2 : Int32), σ)
    else
      b2 (f_X12_isLoophole x1 x5 x2 0 σ) fun v_7 σ_6 =>
      if v_7 = 0 then
        f_X12_loophole_74 (f_X12_loophole_38 n) x1 x2 x3 x4 x5 σ_6
      else
        if x4 = x3 then
          some (x5, σ_6)
        else
          f_X12_loophole_74 (f_X12_loophole_38 n) x1 x2 x3 (x4 + 1) x5 σ_6
theorem b_X12_loophole_38 {Q : Option Value → zS → Prop} : ∀ (n : Nat) (x1 : Int32) (x2 : Int32) (x3 : Int32) (x4 : Int32) (x5 : Int32) (σ : zS) (h : wpO (f_X12_loophole_38 n x1 x2 x3 x4 x5 σ) (fun a => Q (some (.int a.1)) a.2)), PZ alM mX12_loophole (6) Q 38 [(0, .ref 5000), (1, .int x1), (2, .int x2), (3, .int x3), (4, .int x4), (5, .int x5)] [] σ := by
  intro n
  induction n with
  | zero => intro x1 x2 x3 x4 x5 σ h; exact wp_none h
  | succ n ih =>
    intro x1 x2 x3 x4 x5 σ h
    rw [f_X12_loophole_38] at h
    refine PW_iload (pc' := 40) (q := 5) (pw_dk dc_X12_loophole 22 rfl) rfl rfl ?_
    refine PW_aload_n (pc' := 41) (q := 0) (pw_dk dc_X12_loophole 23 rfl) rfl rfl rfl ?_
    refine PZ_callVi (pc' := 44) (y := yX12_statesMany) (M' := mX12_statesMany) (d' := 0) (As := []) (st := [.int x5]) (b := 5000) (ci := 12) (nn := 0) me_5000 rfl tw_1889 tw_96 (pw_dk dc_X12_loophole 24 rfl) rfl Y_X12_statesMany tw_1887 rfl (by decide) (Nat.le_of_ble_eq_true rfl) (t_X12_statesMany σ _ ?_)
    obtain ⟨v_2, e_3, h⟩ := wp_bind h
    refine ⟨v_2, e_3, _, rfl, fun hn_1 => ?_⟩
    show PZ alM mX12_loophole (6) Q 44 [(0, .ref 5000), (1, .int x1), (2, .int x2), (3, .int x3), (4, .int x4), (5, .int x5)] [.int v_2, .int x5] σ
    refine PW_icmp_ge (pc' := 47) (tgt := 80) (pw_dk dc_X12_loophole 25 rfl) rfl (by decide) (fun c_4 => ?_) (fun c_4 => ?_)
    · rw [if_pos c_4] at h
      refine PW_bipush (pc' := 82) (v := (-2 : Int32)) (pw_dk dc_X12_loophole 42 rfl) rfl (by decide) ?_
      have z := wp_some h
      exact PZ_iret (ty := .int) (pw_dk dc_X12_loophole 43 rfl) rfl rfl z
    · rw [if_neg c_4] at h
      refine PW_aload_n (pc' := 48) (q := 0) (pw_dk dc_X12_loophole 26 rfl) rfl rfl rfl ?_
      refine PW_iload_n (pc' := 49) (q := 1) (pw_dk dc_X12_loophole 27 rfl) rfl rfl rfl ?_
      refine PW_iload (pc' := 51) (q := 5) (pw_dk dc_X12_loophole 28 rfl) rfl rfl ?_
      refine PW_iload_n (pc' := 52) (q := 2) (pw_dk dc_X12_loophole 29 rfl) rfl rfl rfl ?_
      refine PW_iconst (pc' := 53) (v := 0) (pw_dk dc_X12_loophole 30 rfl) rfl (by decide) ?_
      refine PZ_callVi (pc' := 56) (y := yX12_isLoophole) (M' := mX12_isLoophole) (d' := 5) (As := [.int x1, .int x5, .int x2, .int 0]) (st := []) (b := 5000) (ci := 12) (nn := 0) me_5000 rfl tw_1944 tw_104 (pw_dk dc_X12_loophole 31 rfl) rfl Y_X12_isLoophole tw_1942 rfl (by decide) (Nat.le_of_ble_eq_true rfl) (t_X12_isLoophole x1 x5 x2 0 σ _ ?_)
      obtain ⟨⟨v_7, σ_6⟩, e_8, h⟩ := wp_bind2 h
      refine ⟨(v_7, σ_6), e_8, _, rfl, fun hn_5 => ?_⟩
      show PZ alM mX12_loophole (6) Q 56 [(0, .ref 5000), (1, .int x1), (2, .int x2), (3, .int x3), (4, .int x4), (5, .int x5)] [.int v_7] σ_6
      refine PW_if_ne (pc' := 59) (tgt := 62) (pw_dk dc_X12_loophole 32 rfl) rfl (by decide) (fun c_9 => ?_) (fun c_9 => ?_)
      · rw [if_neg c_9] at h
        refine PW_iload (pc' := 64) (q := 4) (pw_dk dc_X12_loophole 34 rfl) rfl rfl ?_
        refine PW_iload_n (pc' := 65) (q := 3) (pw_dk dc_X12_loophole 35 rfl) rfl rfl rfl ?_
        refine PW_icmp_ne (pc' := 68) (tgt := 71) (pw_dk dc_X12_loophole 36 rfl) rfl (by decide) (fun c_10 => ?_) (fun c_10 => ?_)
        · rw [if_neg c_10] at h
          refine PW_iinc (pc' := 74) (q := 4) (v := x4 + 1) (lv' := [(4, .int (x4 + 1)), (0, .ref 5000), (1, .int x1), (2, .int x2), (3, .int x3), (5, .int x5)]) (pw_dk dc_X12_loophole 39 rfl) rfl rfl rfl (by decide) rfl ?_
          refine PW_sub (lv' := [(0, .ref 5000), (1, .int x1), (2, .int x2), (3, .int x3), (4, .int (x4 + 1)), (5, .int x5)]) [1, 2, 3, 4, 0, 5] rfl ?_
          exact b_X12_loophole_74 (f_X12_loophole_38 n) ih x1 x2 x3 (x4 + 1) x5 σ_6 h
        · rw [if_pos c_10] at h
          refine PW_iload (pc' := 70) (q := 5) (pw_dk dc_X12_loophole 37 rfl) rfl rfl ?_
          have z := wp_some h
          exact PZ_iret (ty := .int) (pw_dk dc_X12_loophole 38 rfl) rfl rfl z
      · rw [if_pos c_9] at h
        refine PW_goto (tgt := 74) (pw_dk dc_X12_loophole 33 rfl) (by decide) ?_
        exact b_X12_loophole_74 (f_X12_loophole_38 n) ih x1 x2 x3 x4 x5 σ_6 h
def f_X12_loophole (x1 : Int32) (x2 : Int32) (x3 : Int32) (σ : zS) : Option (Int32 × zS) := 
  lt (wI σ 5000 0 0) fun σ_1 =>
  (f_X12_isMan x1 σ_1).bind fun v_4 =>
  if v_4 = 0 then
    some ((-1 : Int32), σ_1)
  else
    if (f_X12_isKind x2 σ_1) = 0 then
      some ((-1 : Int32), σ_1)
    else
      if 0 ≤ x3 then
        (f_X12_layUnlawful x1 x2 σ_1).bind fun σ_11 =>
        f_X12_loophole_38 FU x1 x2 x3 0 0 σ_11
      else
        some ((-1 : Int32), σ_1)
theorem t_X12_loophole (x1 : Int32) (x2 : Int32) (x3 : Int32) (σ : zS) (Q : Option Value → zS → Prop) (h : wpO (f_X12_loophole x1 x2 x3 σ) (fun a => Q (some (.int a.1)) a.2)) : PK alM yX12_loophole mX12_loophole (6) [.ref 5000, .int x1, .int x2, .int x3] σ Q := by
  refine PC_ofF (by decide +kernel) rfl rfl (Nat.le_of_ble_eq_true rfl) ?_
  show PZ alM mX12_loophole (6) Q 0 [(0, .ref 5000), (1, .int x1), (2, .int x2), (3, .int x3)] [] σ
  unfold f_X12_loophole at h
  refine PW_aload_n (pc' := 1) (q := 0) (pw_dk dc_X12_loophole 0 rfl) rfl rfl rfl ?_
  refine PW_iconst (pc' := 2) (v := 0) (pw_dk dc_X12_loophole 1 rfl) rfl (by decide) ?_
  obtain ⟨σ_1, e_2, h⟩ := lt_x h
  refine PZ_putX (pc' := 5) (σ' := σ_1) (id := 5000) (ci := 12) (nn := 0) (C0 := RX12) (T := TX12) (N := 62) (j := 0) (ty := tyX12 0) (pw_dk dc_X12_loophole 2 rfl) rfl me_5000 rfl pi_12 tyX12_ok nmX12 (by decide) fk_12_0 tw_1397 rfl (tyX12_ok 0 (by decide)) (by first | rfl | decide) (by first | rfl | decide) e_2 ?_
  refine PW_aload_n (pc' := 6) (q := 0) (pw_dk dc_X12_loophole 3 rfl) rfl rfl rfl ?_
  refine PW_iload_n (pc' := 7) (q := 1) (pw_dk dc_X12_loophole 4 rfl) rfl rfl rfl ?_
  refine PZ_callVi (pc' := 10) (y := yX12_isMan) (M' := mX12_isMan) (d' := 0) (As := [.int x1]) (st := []) (b := 5000) (ci := 12) (nn := 0) me_5000 rfl tw_1742 tw_77 (pw_dk dc_X12_loophole 5 rfl) rfl Y_X12_isMan tw_1740 rfl (by decide) (Nat.le_of_ble_eq_true rfl) (t_X12_isMan x1 σ_1 _ ?_)
  obtain ⟨v_4, e_5, h⟩ := wp_bind h
  refine ⟨v_4, e_5, _, rfl, fun hn_3 => ?_⟩
  show PZ alM mX12_loophole (6) Q 10 [(0, .ref 5000), (1, .int x1), (2, .int x2), (3, .int x3)] [.int v_4] σ_1
  refine PW_if_eq (pc' := 13) (tgt := 24) (pw_dk dc_X12_loophole 6 rfl) rfl (by decide) (fun c_6 => ?_) (fun c_6 => ?_)
  · rw [if_pos c_6] at h
    refine PW_iconst (pc' := 25) (v := (-1 : Int32)) (pw_dk dc_X12_loophole 12 rfl) rfl (by decide) ?_
    have z := wp_some h
    exact PZ_iret (ty := .int) (pw_dk dc_X12_loophole 13 rfl) rfl rfl z
  · rw [if_neg c_6] at h
    refine PW_iload_n (pc' := 14) (q := 2) (pw_dk dc_X12_loophole 7 rfl) rfl rfl rfl ?_
    refine PZ_callSi (pc' := 17) (y := yX12_isKind) (M' := mX12_isKind) (d' := 0) (As := [.int x2]) (st := []) tw_1813 (pw_dk dc_X12_loophole 8 rfl) rfl Y_X12_isKind tw_1812 rfl (by decide) (Nat.le_of_ble_eq_true rfl) (t_X12_isKind x2 σ_1 _ ?_)
    refine ⟨_, rfl, fun hn_7 => ?_⟩
    show PZ alM mX12_loophole (6) Q 17 [(0, .ref 5000), (1, .int x1), (2, .int x2), (3, .int x3)] [.int (f_X12_isKind x2 σ_1)] σ_1
    refine PW_if_eq (pc' := 20) (tgt := 24) (pw_dk dc_X12_loophole 9 rfl) rfl (by decide) (fun c_8 => ?_) (fun c_8 => ?_)
    · rw [if_pos c_8] at h
      refine PW_iconst (pc' := 25) (v := (-1 : Int32)) (pw_dk dc_X12_loophole 12 rfl) rfl (by decide) ?_
      have z := wp_some h
      exact PZ_iret (ty := .int) (pw_dk dc_X12_loophole 13 rfl) rfl rfl z
    · rw [if_neg c_8] at h
      refine PW_iload_n (pc' := 21) (q := 3) (pw_dk dc_X12_loophole 10 rfl) rfl rfl rfl ?_
      refine PW_if_ge (pc' := 24) (tgt := 26) (pw_dk dc_X12_loophole 11 rfl) rfl (by decide) (fun c_9 => ?_) (fun c_9 => ?_)
      · rw [if_pos c_9] at h
        refine PW_aload_n (pc' := 27) (q := 0) (pw_dk dc_X12_loophole 14 rfl) rfl rfl rfl ?_
        refine PW_iload_n (pc' := 28) (q := 1) (pw_dk dc_X12_loophole 15 rfl) rfl rfl rfl ?_
        refine PW_iload_n (pc' := 29) (q := 2) (pw_dk dc_X12_loophole 16 rfl) rfl rfl rfl ?_
        refine PZ_callVv (pc' := 32) (y := yX12_layUnlawful) (M' := mX12_layUnlawful) (d' := 5) (As := [.int x1, .int x2]) (st := []) (b := 5000) (ci := 12) (nn := 0) me_5000 rfl tw_1940 tw_103 (pw_dk dc_X12_loophole 17 rfl) rfl Y_X12_layUnlawful tw_1938 rfl (by decide) (Nat.le_of_ble_eq_true rfl) (t_X12_layUnlawful x1 x2 σ_1 _ ?_)
        obtain ⟨σ_11, e_12, h⟩ := wp_bind h
        refine ⟨σ_11, e_12, rfl, fun hn_10 => ?_⟩
        show PZ alM mX12_loophole (6) Q 32 [(0, .ref 5000), (1, .int x1), (2, .int x2), (3, .int x3)] [] σ_11
        refine PW_iconst (pc' := 33) (v := 0) (pw_dk dc_X12_loophole 18 rfl) rfl (by decide) ?_
        refine PW_istore (pc' := 35) (lv' := [(4, .int 0), (0, .ref 5000), (1, .int x1), (2, .int x2), (3, .int x3)]) (pw_dk dc_X12_loophole 19 rfl) rfl (by decide) rfl ?_
        refine PW_iconst (pc' := 36) (v := 0) (pw_dk dc_X12_loophole 20 rfl) rfl (by decide) ?_
        refine PW_istore (pc' := 38) (lv' := [(5, .int 0), (4, .int 0), (0, .ref 5000), (1, .int x1), (2, .int x2), (3, .int x3)]) (pw_dk dc_X12_loophole 21 rfl) rfl (by decide) rfl ?_
        refine PW_sub (lv' := [(0, .ref 5000), (1, .int x1), (2, .int x2), (3, .int x3), (4, .int 0), (5, .int 0)]) [2, 3, 4, 5, 1, 0] rfl ?_
        exact b_X12_loophole_38 FU x1 x2 x3 0 0 σ_11 h
      · rw [if_neg c_9] at h
        refine PW_iconst (pc' := 25) (v := (-1 : Int32)) (pw_dk dc_X12_loophole 12 rfl) rfl (by decide) ?_
        have z := wp_some h
        exact PZ_iret (ty := .int) (pw_dk dc_X12_loophole 13 rfl) rfl rfl z
def f_X12_bitsOf_4  : Nat → Int32 → Int32 → Int32 → zS → Option Int32
  | 0, _, _, _, _ => none
  | n + 1, x0, x1, x2, σ => 
    if 6 ≤ x2 then
      some x1
    else
      lt (α := Int32) (x1 + ((x0 >>> (x2 &&& 31)) &&& (1 : Int32))) fun x1_2 =>
      f_X12_bitsOf_4 n x0 x1_2 (x2 + 1) σ
theorem b_X12_bitsOf_4 {Q : Option Value → zS → Prop} : ∀ (n : Nat) (x0 : Int32) (x1 : Int32) (x2 : Int32) (σ : zS) (h : wpO (f_X12_bitsOf_4 n x0 x1 x2 σ) (fun a => Q (some (.int a)) σ)), PZ alM mX12_bitsOf (0) Q 4 [(0, .int x0), (1, .int x1), (2, .int x2)] [] σ := by
  intro n
  induction n with
  | zero => intro x0 x1 x2 σ h; exact wp_none h
  | succ n ih =>
    intro x0 x1 x2 σ h
    rw [f_X12_bitsOf_4] at h
    refine PW_iload_n (pc' := 5) (q := 2) (pw_dk dc_X12_bitsOf 4 rfl) rfl rfl rfl ?_
    refine PW_bipush (pc' := 7) (v := 6) (pw_dk dc_X12_bitsOf 5 rfl) rfl (by decide) ?_
    refine PW_icmp_ge (pc' := 10) (tgt := 24) (pw_dk dc_X12_bitsOf 6 rfl) rfl (by decide) (fun c_1 => ?_) (fun c_1 => ?_)
    · rw [if_pos c_1] at h
      refine PW_iload_n (pc' := 25) (q := 1) (pw_dk dc_X12_bitsOf 17 rfl) rfl rfl rfl ?_
      have z := wp_some h
      exact PZ_iret (ty := .int) (pw_dk dc_X12_bitsOf 18 rfl) rfl rfl z
    · rw [if_neg c_1] at h
      refine PW_iload_n (pc' := 11) (q := 1) (pw_dk dc_X12_bitsOf 7 rfl) rfl rfl rfl ?_
      refine PW_iload_n (pc' := 12) (q := 0) (pw_dk dc_X12_bitsOf 8 rfl) rfl rfl rfl ?_
      refine PW_iload_n (pc' := 13) (q := 2) (pw_dk dc_X12_bitsOf 9 rfl) rfl rfl rfl ?_
      refine PW_ishr (pc' := 14) (pw_dk dc_X12_bitsOf 10 rfl) rfl ?_
      refine PW_iconst (pc' := 15) (v := 1) (pw_dk dc_X12_bitsOf 11 rfl) rfl (by decide) ?_
      refine PW_iand (pc' := 16) (pw_dk dc_X12_bitsOf 12 rfl) rfl ?_
      refine PW_iadd (pc' := 17) (pw_dk dc_X12_bitsOf 13 rfl) rfl ?_
      refine PW_topi (fun x1_2 ex1_2 => ?_)
      replace h := lt_w h ex1_2
      refine PW_istore_n (pc' := 18) (lv' := [(1, .int x1_2), (0, .int x0), (2, .int x2)]) (pw_dk dc_X12_bitsOf 14 rfl) rfl rfl (by decide) rfl ?_
      refine PW_iinc (pc' := 21) (q := 2) (v := x2 + 1) (lv' := [(2, .int (x2 + 1)), (1, .int x1_2), (0, .int x0)]) (pw_dk dc_X12_bitsOf 15 rfl) rfl rfl rfl (by decide) rfl ?_
      refine PW_goto (tgt := 4) (pw_dk dc_X12_bitsOf 16 rfl) (by decide) ?_
      refine PW_sub (lv' := [(0, .int x0), (1, .int x1_2), (2, .int (x2 + 1))]) [2, 1, 0] rfl ?_
      exact ih x0 x1_2 (x2 + 1) σ h
def f_X12_bitsOf (x0 : Int32) (σ : zS) : Option Int32 := 
  f_X12_bitsOf_4 FU x0 0 0 σ
theorem t_X12_bitsOf (x0 : Int32) (σ : zS) (Q : Option Value → zS → Prop) (h : wpO (f_X12_bitsOf x0 σ) (fun a => Q (some (.int a)) σ)) : PK alM yX12_bitsOf mX12_bitsOf (0) [.int x0] σ Q := by
  refine PC_ofF (by decide +kernel) rfl rfl (Nat.le_of_ble_eq_true rfl) ?_
  show PZ alM mX12_bitsOf (0) Q 0 [(0, .int x0)] [] σ
  unfold f_X12_bitsOf at h
  refine PW_iconst (pc' := 1) (v := 0) (pw_dk dc_X12_bitsOf 0 rfl) rfl (by decide) ?_
  refine PW_istore_n (pc' := 2) (lv' := [(1, .int 0), (0, .int x0)]) (pw_dk dc_X12_bitsOf 1 rfl) rfl rfl (by decide) rfl ?_
  refine PW_iconst (pc' := 3) (v := 0) (pw_dk dc_X12_bitsOf 2 rfl) rfl (by decide) ?_
  refine PW_istore_n (pc' := 4) (lv' := [(2, .int 0), (1, .int 0), (0, .int x0)]) (pw_dk dc_X12_bitsOf 3 rfl) rfl rfl (by decide) rfl ?_
  refine PW_sub (lv' := [(0, .int x0), (1, .int 0), (2, .int 0)]) [2, 1, 0] rfl ?_
  exact b_X12_bitsOf_4 FU x0 0 0 σ h
def f_X12_isShut_3  : Nat → Int32 → Int32 → Int32 → Int32 → zS → Option (Int32 × zS)
  | 0, _, _, _, _, _ => none
  | n + 1, x1, x2, x3, x4, σ => 
    (f_X12_statesMany σ).bind fun v_2 =>
    if v_2 ≤ x4 then
      some (1, σ)
    else
      b2 (f_X12_isLoophole x1 x4 x2 x3 σ) fun v_7 σ_6 =>
      if v_7 = 0 then
        f_X12_isShut_3 n x1 x2 x3 (x4 + 1) σ_6
      else
        some (0, σ_6)
theorem b_X12_isShut_3 {Q : Option Value → zS → Prop} : ∀ (n : Nat) (x1 : Int32) (x2 : Int32) (x3 : Int32) (x4 : Int32) (σ : zS) (h : wpO (f_X12_isShut_3 n x1 x2 x3 x4 σ) (fun a => Q (some (.int a.1)) a.2)), PZ alM mX12_isShut (6) Q 3 [(0, .ref 5000), (1, .int x1), (2, .int x2), (3, .int x3), (4, .int x4)] [] σ := by
  intro n
  induction n with
  | zero => intro x1 x2 x3 x4 σ h; exact wp_none h
  | succ n ih =>
    intro x1 x2 x3 x4 σ h
    rw [f_X12_isShut_3] at h
    refine PW_iload (pc' := 5) (q := 4) (pw_dk dc_X12_isShut 2 rfl) rfl rfl ?_
    refine PW_aload_n (pc' := 6) (q := 0) (pw_dk dc_X12_isShut 3 rfl) rfl rfl rfl ?_
    refine PZ_callVi (pc' := 9) (y := yX12_statesMany) (M' := mX12_statesMany) (d' := 0) (As := []) (st := [.int x4]) (b := 5000) (ci := 12) (nn := 0) me_5000 rfl tw_1889 tw_96 (pw_dk dc_X12_isShut 4 rfl) rfl Y_X12_statesMany tw_1887 rfl (by decide) (Nat.le_of_ble_eq_true rfl) (t_X12_statesMany σ _ ?_)
    obtain ⟨v_2, e_3, h⟩ := wp_bind h
    refine ⟨v_2, e_3, _, rfl, fun hn_1 => ?_⟩
    show PZ alM mX12_isShut (6) Q 9 [(0, .ref 5000), (1, .int x1), (2, .int x2), (3, .int x3), (4, .int x4)] [.int v_2, .int x4] σ
    refine PW_icmp_ge (pc' := 12) (tgt := 32) (pw_dk dc_X12_isShut 5 rfl) rfl (by decide) (fun c_4 => ?_) (fun c_4 => ?_)
    · rw [if_pos c_4] at h
      refine PW_iconst (pc' := 33) (v := 1) (pw_dk dc_X12_isShut 17 rfl) rfl (by decide) ?_
      have z := wp_some h
      exact PZ_iret (ty := .boolean) (pw_dk dc_X12_isShut 18 rfl) rfl (by decide) z
    · rw [if_neg c_4] at h
      refine PW_aload_n (pc' := 13) (q := 0) (pw_dk dc_X12_isShut 6 rfl) rfl rfl rfl ?_
      refine PW_iload_n (pc' := 14) (q := 1) (pw_dk dc_X12_isShut 7 rfl) rfl rfl rfl ?_
      refine PW_iload (pc' := 16) (q := 4) (pw_dk dc_X12_isShut 8 rfl) rfl rfl ?_
      refine PW_iload_n (pc' := 17) (q := 2) (pw_dk dc_X12_isShut 9 rfl) rfl rfl rfl ?_
      refine PW_iload_n (pc' := 18) (q := 3) (pw_dk dc_X12_isShut 10 rfl) rfl rfl rfl ?_
      refine PZ_callVi (pc' := 21) (y := yX12_isLoophole) (M' := mX12_isLoophole) (d' := 5) (As := [.int x1, .int x4, .int x2, .int x3]) (st := []) (b := 5000) (ci := 12) (nn := 0) me_5000 rfl tw_1944 tw_104 (pw_dk dc_X12_isShut 11 rfl) rfl Y_X12_isLoophole tw_1942 rfl (by decide) (Nat.le_of_ble_eq_true rfl) (t_X12_isLoophole x1 x4 x2 x3 σ _ ?_)
      obtain ⟨⟨v_7, σ_6⟩, e_8, h⟩ := wp_bind2 h
      refine ⟨(v_7, σ_6), e_8, _, rfl, fun hn_5 => ?_⟩
      show PZ alM mX12_isShut (6) Q 21 [(0, .ref 5000), (1, .int x1), (2, .int x2), (3, .int x3), (4, .int x4)] [.int v_7] σ_6
      refine PW_if_eq (pc' := 24) (tgt := 26) (pw_dk dc_X12_isShut 12 rfl) rfl (by decide) (fun c_9 => ?_) (fun c_9 => ?_)
      · rw [if_pos c_9] at h
        refine PW_iinc (pc' := 29) (q := 4) (v := x4 + 1) (lv' := [(4, .int (x4 + 1)), (0, .ref 5000), (1, .int x1), (2, .int x2), (3, .int x3)]) (pw_dk dc_X12_isShut 15 rfl) rfl rfl rfl (by decide) rfl ?_
        refine PW_goto (tgt := 3) (pw_dk dc_X12_isShut 16 rfl) (by decide) ?_
        refine PW_sub (lv' := [(0, .ref 5000), (1, .int x1), (2, .int x2), (3, .int x3), (4, .int (x4 + 1))]) [1, 2, 3, 4, 0] rfl ?_
        exact ih x1 x2 x3 (x4 + 1) σ_6 h
      · rw [if_neg c_9] at h
        refine PW_iconst (pc' := 25) (v := 0) (pw_dk dc_X12_isShut 13 rfl) rfl (by decide) ?_
        have z := wp_some h
        exact PZ_iret (ty := .boolean) (pw_dk dc_X12_isShut 14 rfl) rfl (by decide) z
def f_X12_isShut (x1 : Int32) (x2 : Int32) (x3 : Int32) (σ : zS) : Option (Int32 × zS) := 
  f_X12_isShut_3 FU x1 x2 x3 0 σ
theorem t_X12_isShut (x1 : Int32) (x2 : Int32) (x3 : Int32) (σ : zS) (Q : Option Value → zS → Prop) (h : wpO (f_X12_isShut x1 x2 x3 σ) (fun a => Q (some (.int a.1)) a.2)) : PK alM yX12_isShut mX12_isShut (6) [.ref 5000, .int x1, .int x2, .int x3] σ Q := by
  refine PC_ofF (by decide +kernel) rfl rfl (Nat.le_of_ble_eq_true rfl) ?_
  show PZ alM mX12_isShut (6) Q 0 [(0, .ref 5000), (1, .int x1), (2, .int x2), (3, .int x3)] [] σ
  unfold f_X12_isShut at h
  refine PW_iconst (pc' := 1) (v := 0) (pw_dk dc_X12_isShut 0 rfl) rfl (by decide) ?_
  refine PW_istore (pc' := 3) (lv' := [(4, .int 0), (0, .ref 5000), (1, .int x1), (2, .int x2), (3, .int x3)]) (pw_dk dc_X12_isShut 1 rfl) rfl (by decide) rfl ?_
  refine PW_sub (lv' := [(0, .ref 5000), (1, .int x1), (2, .int x2), (3, .int x3), (4, .int 0)]) [1, 2, 3, 4, 0] rfl ?_
  exact b_X12_isShut_3 FU x1 x2 x3 0 σ h
def f_X12_shut_80 (r34 : Int32 → Int32 → Int32 → Int32 → zS → Option (Int32 × zS)) (x1 : Int32) (x2 : Int32) (x3 : Int32) (x4 : Int32) (σ : zS) : Option (Int32 × zS) := 
  r34 x1 x2 x3 (x4 + 1) σ
theorem b_X12_shut_80 {Q : Option Value → zS → Prop} (r34 : Int32 → Int32 → Int32 → Int32 → zS → Option (Int32 × zS)) (hr34 : ∀ (x1 : Int32) (x2 : Int32) (x3 : Int32) (x4 : Int32) (σ : zS), wpO (r34 x1 x2 x3 x4 σ) (fun a => Q (some (.int a.1)) a.2) → PZ alM mX12_shut (7) Q 34 [(0, .ref 5000), (1, .int x1), (2, .int x2), (3, .int x3), (4, .int x4)] [] σ) (x1 : Int32) (x2 : Int32) (x3 : Int32) (x4 : Int32) (σ : zS) (h : wpO (f_X12_shut_80 r34 x1 x2 x3 x4 σ) (fun a => Q (some (.int a.1)) a.2)) : PZ alM mX12_shut (7) Q 80 [(0, .ref 5000), (1, .int x1), (2, .int x2), (3, .int x3), (4, .int x4)] [] σ := by
  unfold f_X12_shut_80 at h
  refine PW_iinc (pc' := 83) (q := 4) (v := x4 + 1) (lv' := [(4, .int (x4 + 1)), (0, .ref 5000), (1, .int x1), (2, .int x2), (3, .int x3)]) (pw_dk dc_X12_shut 44 rfl) rfl rfl rfl (by decide) rfl ?_
  refine PW_goto (tgt := 34) (pw_dk dc_X12_shut 45 rfl) (by decide) ?_
  refine PW_sub (lv' := [(0, .ref 5000), (1, .int x1), (2, .int x2), (3, .int x3), (4, .int (x4 + 1))]) [1, 2, 3, 4, 0] rfl ?_
  exact hr34 x1 x2 x3 (x4 + 1) σ h
def f_X12_shut_66 (r34 : Int32 → Int32 → Int32 → Int32 → zS → Option (Int32 × zS)) (x1 : Int32) (x2 : Int32) (x3 : Int32) (x4 : Int32) (σ : zS) : Option (Int32 × zS) := 
  b2 (f_X12_isShut x1 x2 x4 σ) fun v_3 σ_2 =>
  if v_3 = 0 then
    f_X12_shut_80 r34 x1 x2 x3 x4 σ_2
  else
    f_X12_shut_80 r34 x1 x2 x4 x4 σ_2
theorem b_X12_shut_66 {Q : Option Value → zS → Prop} (r34 : Int32 → Int32 → Int32 → Int32 → zS → Option (Int32 × zS)) (hr34 : ∀ (x1 : Int32) (x2 : Int32) (x3 : Int32) (x4 : Int32) (σ : zS), wpO (r34 x1 x2 x3 x4 σ) (fun a => Q (some (.int a.1)) a.2) → PZ alM mX12_shut (7) Q 34 [(0, .ref 5000), (1, .int x1), (2, .int x2), (3, .int x3), (4, .int x4)] [] σ) (x1 : Int32) (x2 : Int32) (x3 : Int32) (x4 : Int32) (σ : zS) (h : wpO (f_X12_shut_66 r34 x1 x2 x3 x4 σ) (fun a => Q (some (.int a.1)) a.2)) : PZ alM mX12_shut (7) Q 66 [(0, .ref 5000), (1, .int x1), (2, .int x2), (3, .int x3), (4, .int x4)] [] σ := by
  unfold f_X12_shut_66 at h
  refine PW_aload_n (pc' := 67) (q := 0) (pw_dk dc_X12_shut 36 rfl) rfl rfl rfl ?_
  refine PW_iload_n (pc' := 68) (q := 1) (pw_dk dc_X12_shut 37 rfl) rfl rfl rfl ?_
  refine PW_iload_n (pc' := 69) (q := 2) (pw_dk dc_X12_shut 38 rfl) rfl rfl rfl ?_
  refine PW_iload (pc' := 71) (q := 4) (pw_dk dc_X12_shut 39 rfl) rfl rfl ?_
  refine PZ_callVi (pc' := 74) (y := yX12_isShut) (M' := mX12_isShut) (d' := 6) (As := [.int x1, .int x2, .int x4]) (st := []) (b := 5000) (ci := 12) (nn := 0) me_5000 rfl tw_1959 tw_105 (pw_dk dc_X12_shut 40 rfl) rfl Y_X12_isShut tw_1957 rfl (by decide) (Nat.le_of_ble_eq_true rfl) (t_X12_isShut x1 x2 x4 σ _ ?_)
  obtain ⟨⟨v_3, σ_2⟩, e_4, h⟩ := wp_bind2 h
  refine ⟨(v_3, σ_2), e_4, _, rfl, fun hn_1 => ?_⟩
  show PZ alM mX12_shut (7) Q 74 [(0, .ref 5000), (1, .int x1), (2, .int x2), (3, .int x3), (4, .int x4)] [.int v_3] σ_2
  refine PW_if_eq (pc' := 77) (tgt := 80) (pw_dk dc_X12_shut 41 rfl) rfl (by decide) (fun c_5 => ?_) (fun c_5 => ?_)
  · rw [if_pos c_5] at h
    exact b_X12_shut_80 r34 hr34 x1 x2 x3 x4 σ_2 h
  · rw [if_neg c_5] at h
    refine PW_iload (pc' := 79) (q := 4) (pw_dk dc_X12_shut 42 rfl) rfl rfl ?_
    refine PW_istore_n (pc' := 80) (lv' := [(3, .int x4), (0, .ref 5000), (1, .int x1), (2, .int x2), (4, .int x4)]) (pw_dk dc_X12_shut 43 rfl) rfl rfl (by decide) rfl ?_
    refine PW_sub (lv' := [(0, .ref 5000), (1, .int x1), (2, .int x2), (3, .int x4), (4, .int x4)]) [1, 2, 3, 0, 4] rfl ?_
    exact b_X12_shut_80 r34 hr34 x1 x2 x4 x4 σ_2 h
def f_X12_shut_34  : Nat → Int32 → Int32 → Int32 → Int32 → zS → Option (Int32 × zS)
  | 0, _, _, _, _, _ => none
  | n + 1, x1, x2, x3, x4, σ => 
    (rdI σ 5004 16 1).bind fun v_1 =>
    if ((1 : Int32) <<< (v_1 &&& 31)) ≤ x4 then
      some (x3, σ)
    else
      if x3 < 0 then
        f_X12_shut_66 (f_X12_shut_34 n) x1 x2 x3 x4 σ
      else
        (f_X12_bitsOf x4 σ).bind fun v_7 =>
        (f_X12_bitsOf x3 σ).bind fun v_10 =>
        if v_7 < v_10 then
          f_X12_shut_66 (f_X12_shut_34 n) x1 x2 x3 x4 σ
        else
          f_X12_shut_80 (f_X12_shut_34 n) x1 x2 x3 x4 σ
theorem b_X12_shut_34 {Q : Option Value → zS → Prop} : ∀ (n : Nat) (x1 : Int32) (x2 : Int32) (x3 : Int32) (x4 : Int32) (σ : zS) (h : wpO (f_X12_shut_34 n x1 x2 x3 x4 σ) (fun a => Q (some (.int a.1)) a.2)), PZ alM mX12_shut (7) Q 34 [(0, .ref 5000), (1, .int x1), (2, .int x2), (3, .int x3), (4, .int x4)] [] σ := by
  intro n
  induction n with
  | zero => intro x1 x2 x3 x4 σ h; exact wp_none h
  | succ n ih =>
    intro x1 x2 x3 x4 σ h
    rw [f_X12_shut_34] at h
    refine PW_iload (pc' := 36) (q := 4) (pw_dk dc_X12_shut 20 rfl) rfl rfl ?_
    refine PW_iconst (pc' := 37) (v := 1) (pw_dk dc_X12_shut 21 rfl) rfl (by decide) ?_
    refine PW_aload_n (pc' := 38) (q := 0) (pw_dk dc_X12_shut 22 rfl) rfl rfl rfl ?_
    refine PW_getR (pc' := 41) (id := 5000) (ci := 12) (nn := 0) (C0 := RX12) (T := TX12) (N := 62) (j := 3) (r := 5004) (pw_dk dc_X12_shut 23 rfl) rfl me_5000 rfl pi_12 (by decide) fk_12_3 tw_1400 (rfl) (by decide) ?_
    refine PW_iconst (pc' := 42) (v := 1) (pw_dk dc_X12_shut 24 rfl) rfl (by decide) ?_
    obtain ⟨v_1, hi_2, e_3, h⟩ := wp_rdIx h
    refine PZ_ialdx (pc' := 43) (v := v_1) (id := 5004) (nn := 16) (pw_dk dc_X12_shut 25 rfl) rfl me_5004 hi_2 e_3 ?_
    refine PW_ishl (pc' := 44) (pw_dk dc_X12_shut 26 rfl) rfl ?_
    refine PW_icmp_ge (pc' := 47) (tgt := 86) (pw_dk dc_X12_shut 27 rfl) rfl (by decide) (fun c_4 => ?_) (fun c_4 => ?_)
    · rw [if_pos c_4] at h
      refine PW_iload_n (pc' := 87) (q := 3) (pw_dk dc_X12_shut 46 rfl) rfl rfl rfl ?_
      have z := wp_some h
      exact PZ_iret (ty := .int) (pw_dk dc_X12_shut 47 rfl) rfl rfl z
    · rw [if_neg c_4] at h
      refine PW_iload_n (pc' := 48) (q := 3) (pw_dk dc_X12_shut 28 rfl) rfl rfl rfl ?_
      refine PW_if_lt (pc' := 51) (tgt := 66) (pw_dk dc_X12_shut 29 rfl) rfl (by decide) (fun c_5 => ?_) (fun c_5 => ?_)
      · rw [if_pos c_5] at h
        exact b_X12_shut_66 (f_X12_shut_34 n) ih x1 x2 x3 x4 σ h
      · rw [if_neg c_5] at h
        refine PW_iload (pc' := 53) (q := 4) (pw_dk dc_X12_shut 30 rfl) rfl rfl ?_
        refine PZ_callSi (pc' := 56) (y := yX12_bitsOf) (M' := mX12_bitsOf) (d' := 0) (As := [.int x4]) (st := []) tw_1955 (pw_dk dc_X12_shut 31 rfl) rfl Y_X12_bitsOf tw_1954 rfl (by decide) (Nat.le_of_ble_eq_true rfl) (t_X12_bitsOf x4 σ _ ?_)
        obtain ⟨v_7, e_8, h⟩ := wp_bind h
        refine ⟨v_7, e_8, _, rfl, fun hn_6 => ?_⟩
        show PZ alM mX12_shut (7) Q 56 [(0, .ref 5000), (1, .int x1), (2, .int x2), (3, .int x3), (4, .int x4)] [.int v_7] σ
        refine PW_iload_n (pc' := 57) (q := 3) (pw_dk dc_X12_shut 32 rfl) rfl rfl rfl ?_
        refine PZ_callSi (pc' := 60) (y := yX12_bitsOf) (M' := mX12_bitsOf) (d' := 0) (As := [.int x3]) (st := [.int v_7]) tw_1955 (pw_dk dc_X12_shut 33 rfl) rfl Y_X12_bitsOf tw_1954 rfl (by decide) (Nat.le_of_ble_eq_true rfl) (t_X12_bitsOf x3 σ _ ?_)
        obtain ⟨v_10, e_11, h⟩ := wp_bind h
        refine ⟨v_10, e_11, _, rfl, fun hn_9 => ?_⟩
        show PZ alM mX12_shut (7) Q 60 [(0, .ref 5000), (1, .int x1), (2, .int x2), (3, .int x3), (4, .int x4)] [.int v_10, .int v_7] σ
        refine PW_icmp_lt (pc' := 63) (tgt := 66) (pw_dk dc_X12_shut 34 rfl) rfl (by decide) (fun c_12 => ?_) (fun c_12 => ?_)
        · rw [if_pos c_12] at h
          exact b_X12_shut_66 (f_X12_shut_34 n) ih x1 x2 x3 x4 σ h
        · rw [if_neg c_12] at h
          refine PW_goto (tgt := 80) (pw_dk dc_X12_shut 35 rfl) (by decide) ?_
          exact b_X12_shut_80 (f_X12_shut_34 n) ih x1 x2 x3 x4 σ h
def f_X12_shut (x1 : Int32) (x2 : Int32) (σ : zS) : Option (Int32 × zS) := 
  lt (wI σ 5000 0 0) fun σ_1 =>
  (f_X12_isMan x1 σ_1).bind fun v_4 =>
  if v_4 = 0 then
    some ((-1 : Int32), σ_1)
  else
    if (f_X12_isKind x2 σ_1) = 0 then
      some ((-1 : Int32), σ_1)
    else
      (f_X12_layUnlawful x1 x2 σ_1).bind fun σ_10 =>
      f_X12_shut_34 FU x1 x2 (-2 : Int32) 0 σ_10
theorem t_X12_shut (x1 : Int32) (x2 : Int32) (σ : zS) (Q : Option Value → zS → Prop) (h : wpO (f_X12_shut x1 x2 σ) (fun a => Q (some (.int a.1)) a.2)) : PK alM yX12_shut mX12_shut (7) [.ref 5000, .int x1, .int x2] σ Q := by
  refine PC_ofF (by decide +kernel) rfl rfl (Nat.le_of_ble_eq_true rfl) ?_
  show PZ alM mX12_shut (7) Q 0 [(0, .ref 5000), (1, .int x1), (2, .int x2)] [] σ
  unfold f_X12_shut at h
  refine PW_aload_n (pc' := 1) (q := 0) (pw_dk dc_X12_shut 0 rfl) rfl rfl rfl ?_
  refine PW_iconst (pc' := 2) (v := 0) (pw_dk dc_X12_shut 1 rfl) rfl (by decide) ?_
  obtain ⟨σ_1, e_2, h⟩ := lt_x h
  refine PZ_putX (pc' := 5) (σ' := σ_1) (id := 5000) (ci := 12) (nn := 0) (C0 := RX12) (T := TX12) (N := 62) (j := 0) (ty := tyX12 0) (pw_dk dc_X12_shut 2 rfl) rfl me_5000 rfl pi_12 tyX12_ok nmX12 (by decide) fk_12_0 tw_1397 rfl (tyX12_ok 0 (by decide)) (by first | rfl | decide) (by first | rfl | decide) e_2 ?_
  refine PW_aload_n (pc' := 6) (q := 0) (pw_dk dc_X12_shut 3 rfl) rfl rfl rfl ?_
  refine PW_iload_n (pc' := 7) (q := 1) (pw_dk dc_X12_shut 4 rfl) rfl rfl rfl ?_
  refine PZ_callVi (pc' := 10) (y := yX12_isMan) (M' := mX12_isMan) (d' := 0) (As := [.int x1]) (st := []) (b := 5000) (ci := 12) (nn := 0) me_5000 rfl tw_1742 tw_77 (pw_dk dc_X12_shut 5 rfl) rfl Y_X12_isMan tw_1740 rfl (by decide) (Nat.le_of_ble_eq_true rfl) (t_X12_isMan x1 σ_1 _ ?_)
  obtain ⟨v_4, e_5, h⟩ := wp_bind h
  refine ⟨v_4, e_5, _, rfl, fun hn_3 => ?_⟩
  show PZ alM mX12_shut (7) Q 10 [(0, .ref 5000), (1, .int x1), (2, .int x2)] [.int v_4] σ_1
  refine PW_if_eq (pc' := 13) (tgt := 20) (pw_dk dc_X12_shut 6 rfl) rfl (by decide) (fun c_6 => ?_) (fun c_6 => ?_)
  · rw [if_pos c_6] at h
    refine PW_iconst (pc' := 21) (v := (-1 : Int32)) (pw_dk dc_X12_shut 10 rfl) rfl (by decide) ?_
    have z := wp_some h
    exact PZ_iret (ty := .int) (pw_dk dc_X12_shut 11 rfl) rfl rfl z
  · rw [if_neg c_6] at h
    refine PW_iload_n (pc' := 14) (q := 2) (pw_dk dc_X12_shut 7 rfl) rfl rfl rfl ?_
    refine PZ_callSi (pc' := 17) (y := yX12_isKind) (M' := mX12_isKind) (d' := 0) (As := [.int x2]) (st := []) tw_1813 (pw_dk dc_X12_shut 8 rfl) rfl Y_X12_isKind tw_1812 rfl (by decide) (Nat.le_of_ble_eq_true rfl) (t_X12_isKind x2 σ_1 _ ?_)
    refine ⟨_, rfl, fun hn_7 => ?_⟩
    show PZ alM mX12_shut (7) Q 17 [(0, .ref 5000), (1, .int x1), (2, .int x2)] [.int (f_X12_isKind x2 σ_1)] σ_1
    refine PW_if_ne (pc' := 20) (tgt := 22) (pw_dk dc_X12_shut 9 rfl) rfl (by decide) (fun c_8 => ?_) (fun c_8 => ?_)
    · rw [if_neg c_8] at h
      refine PW_aload_n (pc' := 23) (q := 0) (pw_dk dc_X12_shut 12 rfl) rfl rfl rfl ?_
      refine PW_iload_n (pc' := 24) (q := 1) (pw_dk dc_X12_shut 13 rfl) rfl rfl rfl ?_
      refine PW_iload_n (pc' := 25) (q := 2) (pw_dk dc_X12_shut 14 rfl) rfl rfl rfl ?_
      refine PZ_callVv (pc' := 28) (y := yX12_layUnlawful) (M' := mX12_layUnlawful) (d' := 5) (As := [.int x1, .int x2]) (st := []) (b := 5000) (ci := 12) (nn := 0) me_5000 rfl tw_1940 tw_103 (pw_dk dc_X12_shut 15 rfl) rfl Y_X12_layUnlawful tw_1938 rfl (by decide) (Nat.le_of_ble_eq_true rfl) (t_X12_layUnlawful x1 x2 σ_1 _ ?_)
      obtain ⟨σ_10, e_11, h⟩ := wp_bind h
      refine ⟨σ_10, e_11, rfl, fun hn_9 => ?_⟩
      show PZ alM mX12_shut (7) Q 28 [(0, .ref 5000), (1, .int x1), (2, .int x2)] [] σ_10
      refine PW_bipush (pc' := 30) (v := (-2 : Int32)) (pw_dk dc_X12_shut 16 rfl) rfl (by decide) ?_
      refine PW_istore_n (pc' := 31) (lv' := [(3, .int (-2 : Int32)), (0, .ref 5000), (1, .int x1), (2, .int x2)]) (pw_dk dc_X12_shut 17 rfl) rfl rfl (by decide) rfl ?_
      refine PW_iconst (pc' := 32) (v := 0) (pw_dk dc_X12_shut 18 rfl) rfl (by decide) ?_
      refine PW_istore (pc' := 34) (lv' := [(4, .int 0), (3, .int (-2 : Int32)), (0, .ref 5000), (1, .int x1), (2, .int x2)]) (pw_dk dc_X12_shut 19 rfl) rfl (by decide) rfl ?_
      refine PW_sub (lv' := [(0, .ref 5000), (1, .int x1), (2, .int x2), (3, .int (-2 : Int32)), (4, .int 0)]) [2, 3, 4, 1, 0] rfl ?_
      exact b_X12_shut_34 FU x1 x2 (-2 : Int32) 0 σ_10 h
    · rw [if_pos c_8] at h
      refine PW_iconst (pc' := 21) (v := (-1 : Int32)) (pw_dk dc_X12_shut 10 rfl) rfl (by decide) ?_
      have z := wp_some h
      exact PZ_iret (ty := .int) (pw_dk dc_X12_shut 11 rfl) rfl rfl z
def f_X12_facing (x0 : Int32) (x1 : Int32) (σ : zS) : Int32 := 
  (((x0 / (16 : Int32)) * (16 : Int32)) + ((4 : Int32) * x1)) + (x0 - x0 / (4 : Int32) * (4 : Int32))
theorem t_X12_facing (x0 : Int32) (x1 : Int32) (σ : zS) (Q : Option Value → zS → Prop) (h : Q (some (.int (f_X12_facing x0 x1 σ))) σ) : PK alM yX12_facing mX12_facing (0) [.int x0, .int x1] σ Q := by
  refine PC_ofF (by decide +kernel) rfl rfl (Nat.le_of_ble_eq_true rfl) ?_
  show PZ alM mX12_facing (0) Q 0 [(0, .int x0), (1, .int x1)] [] σ
  unfold f_X12_facing at h
  refine PW_iload_n (pc' := 1) (q := 0) (pw_dk dc_X12_facing 0 rfl) rfl rfl rfl ?_
  refine PW_bipush (pc' := 3) (v := 16) (pw_dk dc_X12_facing 1 rfl) rfl (by decide) ?_
  refine PW_idiv (pc' := 4) (pw_dk dc_X12_facing 2 rfl) rfl (by decide) ?_
  refine PW_bipush (pc' := 6) (v := 16) (pw_dk dc_X12_facing 3 rfl) rfl (by decide) ?_
  refine PW_imul (pc' := 7) (pw_dk dc_X12_facing 4 rfl) rfl ?_
  refine PW_iconst (pc' := 8) (v := 4) (pw_dk dc_X12_facing 5 rfl) rfl (by decide) ?_
  refine PW_iload_n (pc' := 9) (q := 1) (pw_dk dc_X12_facing 6 rfl) rfl rfl rfl ?_
  refine PW_imul (pc' := 10) (pw_dk dc_X12_facing 7 rfl) rfl ?_
  refine PW_iadd (pc' := 11) (pw_dk dc_X12_facing 8 rfl) rfl ?_
  refine PW_iload_n (pc' := 12) (q := 0) (pw_dk dc_X12_facing 9 rfl) rfl rfl rfl ?_
  refine PW_iconst (pc' := 13) (v := 4) (pw_dk dc_X12_facing 10 rfl) rfl (by decide) ?_
  refine PW_irem (pc' := 14) (pw_dk dc_X12_facing 11 rfl) rfl (by decide) ?_
  refine PW_iadd (pc' := 15) (pw_dk dc_X12_facing 12 rfl) rfl ?_
  exact PZ_iret (ty := .int) (pw_dk dc_X12_facing 13 rfl) rfl rfl h
def f_X12_hits_42 (r18 : Int32 → Int32 → Int32 → Int32 → Int32 → Int32 → Int32 → zS → Option (Int32 × zS)) (x1 : Int32) (x2 : Int32) (x3 : Int32) (x4 : Int32) (x5 : Int32) (x6 : Int32) (x7 : Int32) (σ : zS) : Option (Int32 × zS) := 
  r18 x1 x2 x3 x4 x5 x6 (x7 + 1) σ
theorem b_X12_hits_42 {Q : Option Value → zS → Prop} (r18 : Int32 → Int32 → Int32 → Int32 → Int32 → Int32 → Int32 → zS → Option (Int32 × zS)) (hr18 : ∀ (x1 : Int32) (x2 : Int32) (x3 : Int32) (x4 : Int32) (x5 : Int32) (x6 : Int32) (x7 : Int32) (σ : zS), wpO (r18 x1 x2 x3 x4 x5 x6 x7 σ) (fun a => Q (some (.int a.1)) a.2) → PZ alM mX12_hits (5) Q 18 [(0, .ref 5000), (1, .int x1), (2, .int x2), (3, .int x3), (4, .int x4), (5, .int x5), (6, .int x6), (7, .int x7)] [] σ) (x1 : Int32) (x2 : Int32) (x3 : Int32) (x4 : Int32) (x5 : Int32) (x6 : Int32) (x7 : Int32) (σ : zS) (h : wpO (f_X12_hits_42 r18 x1 x2 x3 x4 x5 x6 x7 σ) (fun a => Q (some (.int a.1)) a.2)) : PZ alM mX12_hits (5) Q 42 [(0, .ref 5000), (1, .int x1), (2, .int x2), (3, .int x3), (4, .int x4), (5, .int x5), (6, .int x6), (7, .int x7)] [] σ := by
  unfold f_X12_hits_42 at h
  refine PW_iinc (pc' := 45) (q := 7) (v := x7 + 1) (lv' := [(7, .int (x7 + 1)), (0, .ref 5000), (1, .int x1), (2, .int x2), (3, .int x3), (4, .int x4), (5, .int x5), (6, .int x6)]) (pw_dk dc_X12_hits 23 rfl) rfl rfl rfl (by decide) rfl ?_
  refine PW_goto (tgt := 18) (pw_dk dc_X12_hits 24 rfl) (by decide) ?_
  refine PW_sub (lv' := [(0, .ref 5000), (1, .int x1), (2, .int x2), (3, .int x3), (4, .int x4), (5, .int x5), (6, .int x6), (7, .int (x7 + 1))]) [1, 2, 3, 4, 5, 6, 7, 0] rfl ?_
  exact hr18 x1 x2 x3 x4 x5 x6 (x7 + 1) σ h
def f_X12_hits_78 (r6 : Int32 → Int32 → Int32 → Int32 → Int32 → zS → Option (Int32 × zS)) (x1 : Int32) (x2 : Int32) (x3 : Int32) (x5 : Int32) (s0 : Int32) (s1 : Int32) (σ : zS) : Option (Int32 × zS) := 
  lt (α := Int32) (s0 + s1) fun x4_1 =>
  r6 x1 x2 x3 x4_1 (x5 + 1) σ
theorem b_X12_hits_78 {Q : Option Value → zS → Prop} (r6 : Int32 → Int32 → Int32 → Int32 → Int32 → zS → Option (Int32 × zS)) (hr6 : ∀ (x1 : Int32) (x2 : Int32) (x3 : Int32) (x4 : Int32) (x5 : Int32) (σ : zS), wpO (r6 x1 x2 x3 x4 x5 σ) (fun a => Q (some (.int a.1)) a.2) → PZ alM mX12_hits (5) Q 6 [(0, .ref 5000), (1, .int x1), (2, .int x2), (3, .int x3), (4, .int x4), (5, .int x5)] [] σ) (x1 : Int32) (x2 : Int32) (x3 : Int32) (x5 : Int32) (s0 : Int32) (s1 : Int32) (σ : zS) (h : wpO (f_X12_hits_78 r6 x1 x2 x3 x5 s0 s1 σ) (fun a => Q (some (.int a.1)) a.2)) : PZ alM mX12_hits (5) Q 78 [(0, .ref 5000), (1, .int x1), (2, .int x2), (3, .int x3), (5, .int x5)] [.int s1, .int s0] σ := by
  unfold f_X12_hits_78 at h
  refine PW_iadd (pc' := 79) (pw_dk dc_X12_hits 42 rfl) rfl ?_
  refine PW_topi (fun x4_1 ex4_1 => ?_)
  replace h := lt_w h ex4_1
  refine PW_istore (pc' := 81) (lv' := [(4, .int x4_1), (0, .ref 5000), (1, .int x1), (2, .int x2), (3, .int x3), (5, .int x5)]) (pw_dk dc_X12_hits 43 rfl) rfl (by decide) rfl ?_
  refine PW_iinc (pc' := 84) (q := 5) (v := x5 + 1) (lv' := [(5, .int (x5 + 1)), (4, .int x4_1), (0, .ref 5000), (1, .int x1), (2, .int x2), (3, .int x3)]) (pw_dk dc_X12_hits 44 rfl) rfl rfl rfl (by decide) rfl ?_
  refine PW_goto (tgt := 6) (pw_dk dc_X12_hits 45 rfl) (by decide) ?_
  refine PW_sub (lv' := [(0, .ref 5000), (1, .int x1), (2, .int x2), (3, .int x3), (4, .int x4_1), (5, .int (x5 + 1))]) [2, 3, 4, 5, 1, 0] rfl ?_
  exact hr6 x1 x2 x3 x4_1 (x5 + 1) σ h
def f_X12_hits_77 (r6 : Int32 → Int32 → Int32 → Int32 → Int32 → zS → Option (Int32 × zS)) (x1 : Int32) (x2 : Int32) (x3 : Int32) (x5 : Int32) (s0 : Int32) (σ : zS) : Option (Int32 × zS) := 
  f_X12_hits_78 r6 x1 x2 x3 x5 s0 0 σ
theorem b_X12_hits_77 {Q : Option Value → zS → Prop} (r6 : Int32 → Int32 → Int32 → Int32 → Int32 → zS → Option (Int32 × zS)) (hr6 : ∀ (x1 : Int32) (x2 : Int32) (x3 : Int32) (x4 : Int32) (x5 : Int32) (σ : zS), wpO (r6 x1 x2 x3 x4 x5 σ) (fun a => Q (some (.int a.1)) a.2) → PZ alM mX12_hits (5) Q 6 [(0, .ref 5000), (1, .int x1), (2, .int x2), (3, .int x3), (4, .int x4), (5, .int x5)] [] σ) (x1 : Int32) (x2 : Int32) (x3 : Int32) (x5 : Int32) (s0 : Int32) (σ : zS) (h : wpO (f_X12_hits_77 r6 x1 x2 x3 x5 s0 σ) (fun a => Q (some (.int a.1)) a.2)) : PZ alM mX12_hits (5) Q 77 [(0, .ref 5000), (1, .int x1), (2, .int x2), (3, .int x3), (5, .int x5)] [.int s0] σ := by
  unfold f_X12_hits_77 at h
  refine PW_iconst (pc' := 78) (v := 0) (pw_dk dc_X12_hits 41 rfl) rfl (by decide) ?_
  exact b_X12_hits_78 r6 hr6 x1 x2 x3 x5 s0 0 σ h
def f_X12_hits_18 (r6 : Int32 → Int32 → Int32 → Int32 → Int32 → zS → Option (Int32 × zS)) : Nat → Int32 → Int32 → Int32 → Int32 → Int32 → Int32 → Int32 → zS → Option (Int32 × zS)
  | 0, _, _, _, _, _, _, _, _ => none
  | n + 1, x1, x2, x3, x4, x5, x6, x7, σ => 
    if 4 ≤ x7 then
      if x6 = 0 then
        f_X12_hits_77 r6 x1 x2 x3 x5 x4 σ
      else
        (rdI σ 5039 23 0).bind fun v_3 =>
        b2 (f_X12_isLawful x1 x2 x5 2 v_3 σ) fun v_8 σ_7 =>
        if v_8 = 0 then
          f_X12_hits_77 r6 x1 x2 x3 x5 x4 σ_7
        else
          f_X12_hits_78 r6 x1 x2 x3 x5 x4 1 σ_7
    else
      if (f_X12_placeOf x3 x7 σ) = (f_X12_placeOf x2 x5 σ) then
        f_X12_hits_42 (f_X12_hits_18 r6 n) x1 x2 x3 x4 x5 1 x7 σ
      else
        f_X12_hits_42 (f_X12_hits_18 r6 n) x1 x2 x3 x4 x5 x6 x7 σ
theorem b_X12_hits_18 {Q : Option Value → zS → Prop} (r6 : Int32 → Int32 → Int32 → Int32 → Int32 → zS → Option (Int32 × zS)) (hr6 : ∀ (x1 : Int32) (x2 : Int32) (x3 : Int32) (x4 : Int32) (x5 : Int32) (σ : zS), wpO (r6 x1 x2 x3 x4 x5 σ) (fun a => Q (some (.int a.1)) a.2) → PZ alM mX12_hits (5) Q 6 [(0, .ref 5000), (1, .int x1), (2, .int x2), (3, .int x3), (4, .int x4), (5, .int x5)] [] σ) : ∀ (n : Nat) (x1 : Int32) (x2 : Int32) (x3 : Int32) (x4 : Int32) (x5 : Int32) (x6 : Int32) (x7 : Int32) (σ : zS) (h : wpO (f_X12_hits_18 r6 n x1 x2 x3 x4 x5 x6 x7 σ) (fun a => Q (some (.int a.1)) a.2)), PZ alM mX12_hits (5) Q 18 [(0, .ref 5000), (1, .int x1), (2, .int x2), (3, .int x3), (4, .int x4), (5, .int x5), (6, .int x6), (7, .int x7)] [] σ := by
  intro n
  induction n with
  | zero => intro x1 x2 x3 x4 x5 x6 x7 σ h; exact wp_none h
  | succ n ih =>
    intro x1 x2 x3 x4 x5 x6 x7 σ h
    rw [f_X12_hits_18] at h
    refine PW_iload (pc' := 20) (q := 7) (pw_dk dc_X12_hits 11 rfl) rfl rfl ?_
    refine PW_iconst (pc' := 21) (v := 4) (pw_dk dc_X12_hits 12 rfl) rfl (by decide) ?_
    refine PW_icmp_ge (pc' := 24) (tgt := 48) (pw_dk dc_X12_hits 13 rfl) rfl (by decide) (fun c_1 => ?_) (fun c_1 => ?_)
    · rw [if_pos c_1] at h
      refine PW_iload (pc' := 50) (q := 4) (pw_dk dc_X12_hits 25 rfl) rfl rfl ?_
      refine PW_iload (pc' := 52) (q := 6) (pw_dk dc_X12_hits 26 rfl) rfl rfl ?_
      refine PW_if_eq (pc' := 55) (tgt := 77) (pw_dk dc_X12_hits 27 rfl) rfl (by decide) (fun c_2 => ?_) (fun c_2 => ?_)
      · rw [if_pos c_2] at h
        refine PW_sub (lv' := [(0, .ref 5000), (1, .int x1), (2, .int x2), (3, .int x3), (5, .int x5)]) [0, 1, 2, 3, 5] rfl ?_
        exact b_X12_hits_77 r6 hr6 x1 x2 x3 x5 x4 σ h
      · rw [if_neg c_2] at h
        refine PW_aload_n (pc' := 56) (q := 0) (pw_dk dc_X12_hits 28 rfl) rfl rfl rfl ?_
        refine PW_iload_n (pc' := 57) (q := 1) (pw_dk dc_X12_hits 29 rfl) rfl rfl rfl ?_
        refine PW_iload_n (pc' := 58) (q := 2) (pw_dk dc_X12_hits 30 rfl) rfl rfl rfl ?_
        refine PW_iload (pc' := 60) (q := 5) (pw_dk dc_X12_hits 31 rfl) rfl rfl ?_
        refine PW_iconst (pc' := 61) (v := 2) (pw_dk dc_X12_hits 32 rfl) rfl (by decide) ?_
        refine PW_aload_n (pc' := 62) (q := 0) (pw_dk dc_X12_hits 33 rfl) rfl rfl rfl ?_
        refine PW_getR (pc' := 65) (id := 5000) (ci := 12) (nn := 0) (C0 := RX12) (T := TX12) (N := 62) (j := 38) (r := 5039) (pw_dk dc_X12_hits 34 rfl) rfl me_5000 rfl pi_12 (by decide) fk_12_38 tw_1435 (rfl) (by decide) ?_
        refine PW_iconst (pc' := 66) (v := 0) (pw_dk dc_X12_hits 35 rfl) rfl (by decide) ?_
        obtain ⟨v_3, hi_4, e_5, h⟩ := wp_rdIx h
        refine PZ_ialdx (pc' := 67) (v := v_3) (id := 5039) (nn := 23) (pw_dk dc_X12_hits 36 rfl) rfl me_5039 hi_4 e_5 ?_
        refine PZ_callVi (pc' := 70) (y := yX12_isLawful) (M' := mX12_isLawful) (d' := 4) (As := [.int x1, .int x2, .int x5, .int 2, .int v_3]) (st := [.int x4]) (b := 5000) (ci := 12) (nn := 0) me_5000 rfl tw_1817 tw_86 (pw_dk dc_X12_hits 37 rfl) rfl Y_X12_isLawful tw_1815 rfl (by decide) (Nat.le_of_ble_eq_true rfl) (t_X12_isLawful x1 x2 x5 2 v_3 σ _ ?_)
        obtain ⟨⟨v_8, σ_7⟩, e_9, h⟩ := wp_bind2 h
        refine ⟨(v_8, σ_7), e_9, _, rfl, fun hn_6 => ?_⟩
        show PZ alM mX12_hits (5) Q 70 [(0, .ref 5000), (1, .int x1), (2, .int x2), (3, .int x3), (4, .int x4), (5, .int x5), (6, .int x6), (7, .int x7)] [.int v_8, .int x4] σ_7
        refine PW_if_eq (pc' := 73) (tgt := 77) (pw_dk dc_X12_hits 38 rfl) rfl (by decide) (fun c_10 => ?_) (fun c_10 => ?_)
        · rw [if_pos c_10] at h
          refine PW_sub (lv' := [(0, .ref 5000), (1, .int x1), (2, .int x2), (3, .int x3), (5, .int x5)]) [0, 1, 2, 3, 5] rfl ?_
          exact b_X12_hits_77 r6 hr6 x1 x2 x3 x5 x4 σ_7 h
        · rw [if_neg c_10] at h
          refine PW_iconst (pc' := 74) (v := 1) (pw_dk dc_X12_hits 39 rfl) rfl (by decide) ?_
          refine PW_goto (tgt := 78) (pw_dk dc_X12_hits 40 rfl) (by decide) ?_
          refine PW_sub (lv' := [(0, .ref 5000), (1, .int x1), (2, .int x2), (3, .int x3), (5, .int x5)]) [0, 1, 2, 3, 5] rfl ?_
          exact b_X12_hits_78 r6 hr6 x1 x2 x3 x5 x4 1 σ_7 h
    · rw [if_neg c_1] at h
      refine PW_iload_n (pc' := 25) (q := 3) (pw_dk dc_X12_hits 14 rfl) rfl rfl rfl ?_
      refine PW_iload (pc' := 27) (q := 7) (pw_dk dc_X12_hits 15 rfl) rfl rfl ?_
      refine PZ_callSi (pc' := 30) (y := yX12_placeOf) (M' := mX12_placeOf) (d' := 1) (As := [.int x3, .int x7]) (st := []) tw_1766 (pw_dk dc_X12_hits 16 rfl) rfl Y_X12_placeOf tw_1765 rfl (by decide) (Nat.le_of_ble_eq_true rfl) (t_X12_placeOf x3 x7 σ _ ?_)
      refine ⟨_, rfl, fun hn_11 => ?_⟩
      show PZ alM mX12_hits (5) Q 30 [(0, .ref 5000), (1, .int x1), (2, .int x2), (3, .int x3), (4, .int x4), (5, .int x5), (6, .int x6), (7, .int x7)] [.int (f_X12_placeOf x3 x7 σ)] σ
      refine PW_iload_n (pc' := 31) (q := 2) (pw_dk dc_X12_hits 17 rfl) rfl rfl rfl ?_
      refine PW_iload (pc' := 33) (q := 5) (pw_dk dc_X12_hits 18 rfl) rfl rfl ?_
      refine PZ_callSi (pc' := 36) (y := yX12_placeOf) (M' := mX12_placeOf) (d' := 1) (As := [.int x2, .int x5]) (st := [.int (f_X12_placeOf x3 x7 σ)]) tw_1766 (pw_dk dc_X12_hits 19 rfl) rfl Y_X12_placeOf tw_1765 rfl (by decide) (Nat.le_of_ble_eq_true rfl) (t_X12_placeOf x2 x5 σ _ ?_)
      refine ⟨_, rfl, fun hn_12 => ?_⟩
      show PZ alM mX12_hits (5) Q 36 [(0, .ref 5000), (1, .int x1), (2, .int x2), (3, .int x3), (4, .int x4), (5, .int x5), (6, .int x6), (7, .int x7)] [.int (f_X12_placeOf x2 x5 σ), .int (f_X12_placeOf x3 x7 σ)] σ
      refine PW_icmp_ne (pc' := 39) (tgt := 42) (pw_dk dc_X12_hits 20 rfl) rfl (by decide) (fun c_13 => ?_) (fun c_13 => ?_)
      · rw [if_neg c_13] at h
        exact b_X12_hits_42 (f_X12_hits_18 r6 n) ih x1 x2 x3 x4 x5 x6 x7 σ h
      · rw [if_pos c_13] at h
        refine PW_iconst (pc' := 40) (v := 1) (pw_dk dc_X12_hits 21 rfl) rfl (by decide) ?_
        refine PW_istore (pc' := 42) (lv' := [(6, .int 1), (0, .ref 5000), (1, .int x1), (2, .int x2), (3, .int x3), (4, .int x4), (5, .int x5), (7, .int x7)]) (pw_dk dc_X12_hits 22 rfl) rfl (by decide) rfl ?_
        refine PW_sub (lv' := [(0, .ref 5000), (1, .int x1), (2, .int x2), (3, .int x3), (4, .int x4), (5, .int x5), (6, .int 1), (7, .int x7)]) [1, 2, 3, 4, 5, 6, 0, 7] rfl ?_
        exact b_X12_hits_42 (f_X12_hits_18 r6 n) ih x1 x2 x3 x4 x5 1 x7 σ h
def f_X12_hits_6  : Nat → Int32 → Int32 → Int32 → Int32 → Int32 → zS → Option (Int32 × zS)
  | 0, _, _, _, _, _, _ => none
  | n + 1, x1, x2, x3, x4, x5, σ => 
    if 2 ≤ x5 then
      some (x4, σ)
    else
      f_X12_hits_18 (f_X12_hits_6 n) FU x1 x2 x3 x4 x5 0 0 σ
theorem b_X12_hits_6 {Q : Option Value → zS → Prop} : ∀ (n : Nat) (x1 : Int32) (x2 : Int32) (x3 : Int32) (x4 : Int32) (x5 : Int32) (σ : zS) (h : wpO (f_X12_hits_6 n x1 x2 x3 x4 x5 σ) (fun a => Q (some (.int a.1)) a.2)), PZ alM mX12_hits (5) Q 6 [(0, .ref 5000), (1, .int x1), (2, .int x2), (3, .int x3), (4, .int x4), (5, .int x5)] [] σ := by
  intro n
  induction n with
  | zero => intro x1 x2 x3 x4 x5 σ h; exact wp_none h
  | succ n ih =>
    intro x1 x2 x3 x4 x5 σ h
    rw [f_X12_hits_6] at h
    refine PW_iload (pc' := 8) (q := 5) (pw_dk dc_X12_hits 4 rfl) rfl rfl ?_
    refine PW_iconst (pc' := 9) (v := 2) (pw_dk dc_X12_hits 5 rfl) rfl (by decide) ?_
    refine PW_icmp_ge (pc' := 12) (tgt := 87) (pw_dk dc_X12_hits 6 rfl) rfl (by decide) (fun c_1 => ?_) (fun c_1 => ?_)
    · rw [if_pos c_1] at h
      refine PW_iload (pc' := 89) (q := 4) (pw_dk dc_X12_hits 46 rfl) rfl rfl ?_
      have z := wp_some h
      exact PZ_iret (ty := .int) (pw_dk dc_X12_hits 47 rfl) rfl rfl z
    · rw [if_neg c_1] at h
      refine PW_iconst (pc' := 13) (v := 0) (pw_dk dc_X12_hits 7 rfl) rfl (by decide) ?_
      refine PW_istore (pc' := 15) (lv' := [(6, .int 0), (0, .ref 5000), (1, .int x1), (2, .int x2), (3, .int x3), (4, .int x4), (5, .int x5)]) (pw_dk dc_X12_hits 8 rfl) rfl (by decide) rfl ?_
      refine PW_iconst (pc' := 16) (v := 0) (pw_dk dc_X12_hits 9 rfl) rfl (by decide) ?_
      refine PW_istore (pc' := 18) (lv' := [(7, .int 0), (6, .int 0), (0, .ref 5000), (1, .int x1), (2, .int x2), (3, .int x3), (4, .int x4), (5, .int x5)]) (pw_dk dc_X12_hits 10 rfl) rfl (by decide) rfl ?_
      refine PW_sub (lv' := [(0, .ref 5000), (1, .int x1), (2, .int x2), (3, .int x3), (4, .int x4), (5, .int x5), (6, .int 0), (7, .int 0)]) [2, 3, 4, 5, 6, 7, 1, 0] rfl ?_
      exact b_X12_hits_18 (f_X12_hits_6 n) ih FU x1 x2 x3 x4 x5 0 0 σ h
def f_X12_hits (x1 : Int32) (x2 : Int32) (x3 : Int32) (σ : zS) : Option (Int32 × zS) := 
  f_X12_hits_6 FU x1 x2 x3 0 0 σ
theorem t_X12_hits (x1 : Int32) (x2 : Int32) (x3 : Int32) (σ : zS) (Q : Option Value → zS → Prop) (h : wpO (f_X12_hits x1 x2 x3 σ) (fun a => Q (some (.int a.1)) a.2)) : PK alM yX12_hits mX12_hits (5) [.ref 5000, .int x1, .int x2, .int x3] σ Q := by
  refine PC_ofF (by decide +kernel) rfl rfl (Nat.le_of_ble_eq_true rfl) ?_
  show PZ alM mX12_hits (5) Q 0 [(0, .ref 5000), (1, .int x1), (2, .int x2), (3, .int x3)] [] σ
  unfold f_X12_hits at h
  refine PW_iconst (pc' := 1) (v := 0) (pw_dk dc_X12_hits 0 rfl) rfl (by decide) ?_
  refine PW_istore (pc' := 3) (lv' := [(4, .int 0), (0, .ref 5000), (1, .int x1), (2, .int x2), (3, .int x3)]) (pw_dk dc_X12_hits 1 rfl) rfl (by decide) rfl ?_
  refine PW_iconst (pc' := 4) (v := 0) (pw_dk dc_X12_hits 2 rfl) rfl (by decide) ?_
  refine PW_istore (pc' := 6) (lv' := [(5, .int 0), (4, .int 0), (0, .ref 5000), (1, .int x1), (2, .int x2), (3, .int x3)]) (pw_dk dc_X12_hits 3 rfl) rfl (by decide) rfl ?_
  refine PW_sub (lv' := [(0, .ref 5000), (1, .int x1), (2, .int x2), (3, .int x3), (4, .int 0), (5, .int 0)]) [2, 3, 4, 5, 1, 0] rfl ?_
  exact b_X12_hits_6 FU x1 x2 x3 0 0 σ h
def f_X12_layDuel_10 (r2 : Int32 → Int32 → Int32 → zS → Option zS) : Nat → Int32 → Int32 → Int32 → Int32 → zS → Option zS
  | 0, _, _, _, _, _ => none
  | n + 1, x1, x2, x3, x4, σ => 
    if 4 ≤ x4 then
      r2 x1 x2 (x3 + 1) σ
    else
      (rdI σ 5042 115 x1).bind fun v_2 =>
      lt (α := Int32) (f_X12_facing v_2 x3 σ) fun x5_6 =>
      (rdI σ 5042 115 x2).bind fun v_7 =>
      lt (α := Int32) (f_X12_facing v_7 x4 σ) fun x6_11 =>
      b2 (f_X12_hits x1 x5_6 x6_11 σ) fun v_14 σ_13 =>
      b2 (f_X12_hits x2 x6_11 x5_6 σ_13) fun v_18 σ_17 =>
      (wrI σ_17 5053 16 (((4 : Int32) * x3) + x4) (v_14 - v_18)).bind fun σ_20 =>
      f_X12_layDuel_10 r2 n x1 x2 x3 (x4 + 1) σ_20
theorem b_X12_layDuel_10 {Q : Option Value → zS → Prop} (r2 : Int32 → Int32 → Int32 → zS → Option zS) (hr2 : ∀ (x1 : Int32) (x2 : Int32) (x3 : Int32) (σ : zS), wpO (r2 x1 x2 x3 σ) (fun s => Q none s) → PZ alM mX12_layDuel (6) Q 2 [(0, .ref 5000), (1, .int x1), (2, .int x2), (3, .int x3)] [] σ) : ∀ (n : Nat) (x1 : Int32) (x2 : Int32) (x3 : Int32) (x4 : Int32) (σ : zS) (h : wpO (f_X12_layDuel_10 r2 n x1 x2 x3 x4 σ) (fun s => Q none s)), PZ alM mX12_layDuel (6) Q 10 [(0, .ref 5000), (1, .int x1), (2, .int x2), (3, .int x3), (4, .int x4)] [] σ := by
  intro n
  induction n with
  | zero => intro x1 x2 x3 x4 σ h; exact wp_none h
  | succ n ih =>
    intro x1 x2 x3 x4 σ h
    rw [f_X12_layDuel_10] at h
    refine PW_iload (pc' := 12) (q := 4) (pw_dk dc_X12_layDuel 7 rfl) rfl rfl ?_
    refine PW_iconst (pc' := 13) (v := 4) (pw_dk dc_X12_layDuel 8 rfl) rfl (by decide) ?_
    refine PW_icmp_ge (pc' := 16) (tgt := 77) (pw_dk dc_X12_layDuel 9 rfl) rfl (by decide) (fun c_1 => ?_) (fun c_1 => ?_)
    · rw [if_pos c_1] at h
      refine PW_iinc (pc' := 80) (q := 3) (v := x3 + 1) (lv' := [(3, .int (x3 + 1)), (0, .ref 5000), (1, .int x1), (2, .int x2), (4, .int x4)]) (pw_dk dc_X12_layDuel 45 rfl) rfl rfl rfl (by decide) rfl ?_
      refine PW_goto (tgt := 2) (pw_dk dc_X12_layDuel 46 rfl) (by decide) ?_
      refine PW_sub (lv' := [(0, .ref 5000), (1, .int x1), (2, .int x2), (3, .int (x3 + 1))]) [1, 2, 3, 0] rfl ?_
      exact hr2 x1 x2 (x3 + 1) σ h
    · rw [if_neg c_1] at h
      refine PW_aload_n (pc' := 17) (q := 0) (pw_dk dc_X12_layDuel 10 rfl) rfl rfl rfl ?_
      refine PW_getR (pc' := 20) (id := 5000) (ci := 12) (nn := 0) (C0 := RX12) (T := TX12) (N := 62) (j := 41) (r := 5042) (pw_dk dc_X12_layDuel 11 rfl) rfl me_5000 rfl pi_12 (by decide) fk_12_41 tw_1438 (rfl) (by decide) ?_
      refine PW_iload_n (pc' := 21) (q := 1) (pw_dk dc_X12_layDuel 12 rfl) rfl rfl rfl ?_
      obtain ⟨v_2, hi_3, e_4, h⟩ := wp_rdIx h
      refine PZ_ialdx (pc' := 22) (v := v_2) (id := 5042) (nn := 115) (pw_dk dc_X12_layDuel 13 rfl) rfl me_5042 hi_3 e_4 ?_
      refine PW_iload_n (pc' := 23) (q := 3) (pw_dk dc_X12_layDuel 14 rfl) rfl rfl rfl ?_
      refine PZ_callSi (pc' := 26) (y := yX12_facing) (M' := mX12_facing) (d' := 0) (As := [.int v_2, .int x3]) (st := []) tw_1974 (pw_dk dc_X12_layDuel 15 rfl) rfl Y_X12_facing tw_1973 rfl (by decide) (Nat.le_of_ble_eq_true rfl) (t_X12_facing v_2 x3 σ _ ?_)
      refine ⟨_, rfl, fun hn_5 => ?_⟩
      show PZ alM mX12_layDuel (6) Q 26 [(0, .ref 5000), (1, .int x1), (2, .int x2), (3, .int x3), (4, .int x4)] [.int (f_X12_facing v_2 x3 σ)] σ
      refine PW_topi (fun x5_6 ex5_6 => ?_)
      replace h := lt_w h ex5_6
      refine PW_istore (pc' := 28) (lv' := [(5, .int x5_6), (0, .ref 5000), (1, .int x1), (2, .int x2), (3, .int x3), (4, .int x4)]) (pw_dk dc_X12_layDuel 16 rfl) rfl (by decide) rfl ?_
      refine PW_aload_n (pc' := 29) (q := 1) (pw_dk dc_X12_layDuel 17 rfl) rfl rfl rfl ?_
      refine PW_getR (pc' := 32) (id := 5000) (ci := 12) (nn := 0) (C0 := RX12) (T := TX12) (N := 62) (j := 41) (r := 5042) (pw_dk dc_X12_layDuel 18 rfl) rfl me_5000 rfl pi_12 (by decide) fk_12_41 tw_1438 (rfl) (by decide) ?_
      refine PW_iload_n (pc' := 33) (q := 3) (pw_dk dc_X12_layDuel 19 rfl) rfl rfl rfl ?_
      obtain ⟨v_7, hi_8, e_9, h⟩ := wp_rdIx h
      refine PZ_ialdx (pc' := 34) (v := v_7) (id := 5042) (nn := 115) (pw_dk dc_X12_layDuel 20 rfl) rfl me_5042 hi_8 e_9 ?_
      refine PW_iload (pc' := 36) (q := 5) (pw_dk dc_X12_layDuel 21 rfl) rfl rfl ?_
      refine PZ_callSi (pc' := 39) (y := yX12_facing) (M' := mX12_facing) (d' := 0) (As := [.int v_7, .int x4]) (st := []) tw_1974 (pw_dk dc_X12_layDuel 22 rfl) rfl Y_X12_facing tw_1973 rfl (by decide) (Nat.le_of_ble_eq_true rfl) (t_X12_facing v_7 x4 σ _ ?_)
      refine ⟨_, rfl, fun hn_10 => ?_⟩
      show PZ alM mX12_layDuel (6) Q 39 [(5, .int x5_6), (0, .ref 5000), (1, .int x1), (2, .int x2), (3, .int x3), (4, .int x4)] [.int (f_X12_facing v_7 x4 σ)] σ
      refine PW_topi (fun x6_11 ex6_11 => ?_)
      replace h := lt_w h ex6_11
      refine PW_istore (pc' := 41) (lv' := [(6, .int x6_11), (5, .int x5_6), (0, .ref 5000), (1, .int x1), (2, .int x2), (3, .int x3), (4, .int x4)]) (pw_dk dc_X12_layDuel 23 rfl) rfl (by decide) rfl ?_
      refine PW_aload_n (pc' := 42) (q := 2) (pw_dk dc_X12_layDuel 24 rfl) rfl rfl rfl ?_
      refine PW_getR (pc' := 45) (id := 5000) (ci := 12) (nn := 0) (C0 := RX12) (T := TX12) (N := 62) (j := 52) (r := 5053) (pw_dk dc_X12_layDuel 25 rfl) rfl me_5000 rfl pi_12 (by decide) fk_12_52 tw_1449 (rfl) (by decide) ?_
      refine PW_iconst (pc' := 46) (v := 4) (pw_dk dc_X12_layDuel 26 rfl) rfl (by decide) ?_
      refine PW_iload_n (pc' := 47) (q := 5) (pw_dk dc_X12_layDuel 27 rfl) rfl rfl rfl ?_
      refine PW_imul (pc' := 48) (pw_dk dc_X12_layDuel 28 rfl) rfl ?_
      refine PW_iload (pc' := 50) (q := 6) (pw_dk dc_X12_layDuel 29 rfl) rfl rfl ?_
      refine PW_iadd (pc' := 51) (pw_dk dc_X12_layDuel 30 rfl) rfl ?_
      refine PW_aload_n (pc' := 52) (q := 2) (pw_dk dc_X12_layDuel 31 rfl) rfl rfl rfl ?_
      refine PW_iload_n (pc' := 53) (q := 3) (pw_dk dc_X12_layDuel 32 rfl) rfl rfl rfl ?_
      refine PW_iload (pc' := 55) (q := 1) (pw_dk dc_X12_layDuel 33 rfl) rfl rfl ?_
      refine PW_iload (pc' := 57) (q := 0) (pw_dk dc_X12_layDuel 34 rfl) rfl rfl ?_
      refine PZ_callVi (pc' := 60) (y := yX12_hits) (M' := mX12_hits) (d' := 5) (As := [.int x1, .int x5_6, .int x6_11]) (st := [.int (((4 : Int32) * x3) + x4), .ref 5053]) (b := 5000) (ci := 12) (nn := 0) me_5000 rfl tw_1978 tw_108 (pw_dk dc_X12_layDuel 35 rfl) rfl Y_X12_hits tw_1976 rfl (by decide) (Nat.le_of_ble_eq_true rfl) (t_X12_hits x1 x5_6 x6_11 σ _ ?_)
      obtain ⟨⟨v_14, σ_13⟩, e_15, h⟩ := wp_bind2 h
      refine ⟨(v_14, σ_13), e_15, _, rfl, fun hn_12 => ?_⟩
      show PZ alM mX12_layDuel (6) Q 60 [(6, .int x6_11), (5, .int x5_6), (0, .ref 5000), (1, .int x1), (2, .int x2), (3, .int x3), (4, .int x4)] [.int v_14, .int (((4 : Int32) * x3) + x4), .ref 5053] σ_13
      refine PW_aload_n (pc' := 61) (q := 2) (pw_dk dc_X12_layDuel 36 rfl) rfl rfl rfl ?_
      refine PW_iload_n (pc' := 62) (q := 4) (pw_dk dc_X12_layDuel 37 rfl) rfl rfl rfl ?_
      refine PW_iload (pc' := 64) (q := 0) (pw_dk dc_X12_layDuel 38 rfl) rfl rfl ?_
      refine PW_iload (pc' := 66) (q := 1) (pw_dk dc_X12_layDuel 39 rfl) rfl rfl ?_
      refine PZ_callVi (pc' := 69) (y := yX12_hits) (M' := mX12_hits) (d' := 5) (As := [.int x2, .int x6_11, .int x5_6]) (st := [.int v_14, .int (((4 : Int32) * x3) + x4), .ref 5053]) (b := 5000) (ci := 12) (nn := 0) me_5000 rfl tw_1978 tw_108 (pw_dk dc_X12_layDuel 40 rfl) rfl Y_X12_hits tw_1976 rfl (by decide) (Nat.le_of_ble_eq_true rfl) (t_X12_hits x2 x6_11 x5_6 σ_13 _ ?_)
      obtain ⟨⟨v_18, σ_17⟩, e_19, h⟩ := wp_bind2 h
      refine ⟨(v_18, σ_17), e_19, _, rfl, fun hn_16 => ?_⟩
      show PZ alM mX12_layDuel (6) Q 69 [(6, .int x6_11), (5, .int x5_6), (0, .ref 5000), (1, .int x1), (2, .int x2), (3, .int x3), (4, .int x4)] [.int v_18, .int v_14, .int (((4 : Int32) * x3) + x4), .ref 5053] σ_17
      refine PW_isub (pc' := 70) (pw_dk dc_X12_layDuel 41 rfl) rfl ?_
      obtain ⟨σ_20, hi_21, e_22, h⟩ := wp_wrIx h
      refine PZ_iastx (pc' := 71) (σ' := σ_20) (id := 5053) (nn := 16) (pw_dk dc_X12_layDuel 42 rfl) rfl me_5053 hi_21 e_22 ?_
      refine PW_iinc (pc' := 74) (q := 6) (v := x4 + 1) (lv' := [(4, .int (x4 + 1)), (6, .int x6_11), (5, .int x5_6), (0, .ref 5000), (1, .int x1), (2, .int x2), (3, .int x3)]) (pw_dk dc_X12_layDuel 43 rfl) rfl rfl rfl (by decide) rfl ?_
      refine PW_goto (tgt := 10) (pw_dk dc_X12_layDuel 44 rfl) (by decide) ?_
      refine PW_sub (lv' := [(0, .ref 5000), (1, .int x1), (2, .int x2), (3, .int x3), (4, .int (x4 + 1))]) [3, 4, 5, 6, 0] rfl ?_
      exact ih x1 x2 x3 (x4 + 1) σ_20 h
def f_X12_layDuel_2  : Nat → Int32 → Int32 → Int32 → zS → Option zS
  | 0, _, _, _, _ => none
  | n + 1, x1, x2, x3, σ => 
    if 4 ≤ x3 then
      some σ
    else
      f_X12_layDuel_10 (f_X12_layDuel_2 n) FU x1 x2 x3 0 σ
theorem b_X12_layDuel_2 {Q : Option Value → zS → Prop} : ∀ (n : Nat) (x1 : Int32) (x2 : Int32) (x3 : Int32) (σ : zS) (h : wpO (f_X12_layDuel_2 n x1 x2 x3 σ) (fun s => Q none s)), PZ alM mX12_layDuel (6) Q 2 [(0, .ref 5000), (1, .int x1), (2, .int x2), (3, .int x3)] [] σ := by
  intro n
  induction n with
  | zero => intro x1 x2 x3 σ h; exact wp_none h
  | succ n ih =>
    intro x1 x2 x3 σ h
    rw [f_X12_layDuel_2] at h
    refine PW_iload_n (pc' := 3) (q := 3) (pw_dk dc_X12_layDuel 2 rfl) rfl rfl rfl ?_
    refine PW_iconst (pc' := 4) (v := 4) (pw_dk dc_X12_layDuel 3 rfl) rfl (by decide) ?_
    refine PW_icmp_ge (pc' := 7) (tgt := 83) (pw_dk dc_X12_layDuel 4 rfl) rfl (by decide) (fun c_1 => ?_) (fun c_1 => ?_)
    · rw [if_pos c_1] at h
      have z := wp_some h
      exact PZ_vret (pw_dk dc_X12_layDuel 47 rfl) rfl z
    · rw [if_neg c_1] at h
      refine PW_iconst (pc' := 8) (v := 0) (pw_dk dc_X12_layDuel 5 rfl) rfl (by decide) ?_
      refine PW_istore (pc' := 10) (lv' := [(4, .int 0), (0, .ref 5000), (1, .int x1), (2, .int x2), (3, .int x3)]) (pw_dk dc_X12_layDuel 6 rfl) rfl (by decide) rfl ?_
      refine PW_sub (lv' := [(0, .ref 5000), (1, .int x1), (2, .int x2), (3, .int x3), (4, .int 0)]) [1, 2, 3, 4, 0] rfl ?_
      exact b_X12_layDuel_10 (f_X12_layDuel_2 n) ih FU x1 x2 x3 0 σ h
def f_X12_layDuel (x1 : Int32) (x2 : Int32) (σ : zS) : Option zS := 
  f_X12_layDuel_2 FU x1 x2 0 σ
theorem t_X12_layDuel (x1 : Int32) (x2 : Int32) (σ : zS) (Q : Option Value → zS → Prop) (h : wpO (f_X12_layDuel x1 x2 σ) (fun s => Q none s)) : PK alM yX12_layDuel mX12_layDuel (6) [.ref 5000, .int x1, .int x2] σ Q := by
  refine PC_ofF (by decide +kernel) rfl rfl (Nat.le_of_ble_eq_true rfl) ?_
  show PZ alM mX12_layDuel (6) Q 0 [(0, .ref 5000), (1, .int x1), (2, .int x2)] [] σ
  unfold f_X12_layDuel at h
  refine PW_iconst (pc' := 1) (v := 0) (pw_dk dc_X12_layDuel 0 rfl) rfl (by decide) ?_
  refine PW_istore_n (pc' := 2) (lv' := [(3, .int 0), (0, .ref 5000), (1, .int x1), (2, .int x2)]) (pw_dk dc_X12_layDuel 1 rfl) rfl rfl (by decide) rfl ?_
  refine PW_sub (lv' := [(0, .ref 5000), (1, .int x1), (2, .int x2), (3, .int 0)]) [1, 2, 3, 0] rfl ?_
  exact b_X12_layDuel_2 FU x1 x2 0 σ h
def f_X12_isRest_2  : Nat → Int32 → Int32 → Int32 → zS → Option Int32
  | 0, _, _, _, _ => none
  | n + 1, x1, x2, x3, σ => 
    if 4 ≤ x3 then
      some 1
    else
      (rdI σ 5053 16 (((4 : Int32) * x3) + x2)).bind fun v_2 =>
      (rdI σ 5053 16 (((4 : Int32) * x1) + x2)).bind fun v_5 =>
      if v_5 < v_2 then
        some 0
      else
        (rdI σ 5053 16 (((4 : Int32) * x1) + x3)).bind fun v_9 =>
        (rdI σ 5053 16 (((4 : Int32) * x1) + x2)).bind fun v_12 =>
        if v_12 ≤ v_9 then
          f_X12_isRest_2 n x1 x2 (x3 + 1) σ
        else
          some 0
theorem b_X12_isRest_2 {Q : Option Value → zS → Prop} : ∀ (n : Nat) (x1 : Int32) (x2 : Int32) (x3 : Int32) (σ : zS) (h : wpO (f_X12_isRest_2 n x1 x2 x3 σ) (fun a => Q (some (.int a)) σ)), PZ alM mX12_isRest (0) Q 2 [(0, .ref 5000), (1, .int x1), (2, .int x2), (3, .int x3)] [] σ := by
  intro n
  induction n with
  | zero => intro x1 x2 x3 σ h; exact wp_none h
  | succ n ih =>
    intro x1 x2 x3 σ h
    rw [f_X12_isRest_2] at h
    refine PW_iload_n (pc' := 3) (q := 3) (pw_dk dc_X12_isRest 2 rfl) rfl rfl rfl ?_
    refine PW_iconst (pc' := 4) (v := 4) (pw_dk dc_X12_isRest 3 rfl) rfl (by decide) ?_
    refine PW_icmp_ge (pc' := 7) (tgt := 61) (pw_dk dc_X12_isRest 4 rfl) rfl (by decide) (fun c_1 => ?_) (fun c_1 => ?_)
    · rw [if_pos c_1] at h
      refine PW_iconst (pc' := 62) (v := 1) (pw_dk dc_X12_isRest 43 rfl) rfl (by decide) ?_
      have z := wp_some h
      exact PZ_iret (ty := .boolean) (pw_dk dc_X12_isRest 44 rfl) rfl (by decide) z
    · rw [if_neg c_1] at h
      refine PW_aload_n (pc' := 8) (q := 0) (pw_dk dc_X12_isRest 5 rfl) rfl rfl rfl ?_
      refine PW_getR (pc' := 11) (id := 5000) (ci := 12) (nn := 0) (C0 := RX12) (T := TX12) (N := 62) (j := 52) (r := 5053) (pw_dk dc_X12_isRest 6 rfl) rfl me_5000 rfl pi_12 (by decide) fk_12_52 tw_1449 (rfl) (by decide) ?_
      refine PW_iconst (pc' := 12) (v := 4) (pw_dk dc_X12_isRest 7 rfl) rfl (by decide) ?_
      refine PW_iload_n (pc' := 13) (q := 3) (pw_dk dc_X12_isRest 8 rfl) rfl rfl rfl ?_
      refine PW_imul (pc' := 14) (pw_dk dc_X12_isRest 9 rfl) rfl ?_
      refine PW_iload_n (pc' := 15) (q := 2) (pw_dk dc_X12_isRest 10 rfl) rfl rfl rfl ?_
      refine PW_iadd (pc' := 16) (pw_dk dc_X12_isRest 11 rfl) rfl ?_
      obtain ⟨v_2, hi_3, e_4, h⟩ := wp_rdIx h
      refine PZ_ialdx (pc' := 17) (v := v_2) (id := 5053) (nn := 16) (pw_dk dc_X12_isRest 12 rfl) rfl me_5053 hi_3 e_4 ?_
      refine PW_aload_n (pc' := 18) (q := 0) (pw_dk dc_X12_isRest 13 rfl) rfl rfl rfl ?_
      refine PW_getR (pc' := 21) (id := 5000) (ci := 12) (nn := 0) (C0 := RX12) (T := TX12) (N := 62) (j := 52) (r := 5053) (pw_dk dc_X12_isRest 14 rfl) rfl me_5000 rfl pi_12 (by decide) fk_12_52 tw_1449 (rfl) (by decide) ?_
      refine PW_iconst (pc' := 22) (v := 4) (pw_dk dc_X12_isRest 15 rfl) rfl (by decide) ?_
      refine PW_iload_n (pc' := 23) (q := 1) (pw_dk dc_X12_isRest 16 rfl) rfl rfl rfl ?_
      refine PW_imul (pc' := 24) (pw_dk dc_X12_isRest 17 rfl) rfl ?_
      refine PW_iload_n (pc' := 25) (q := 2) (pw_dk dc_X12_isRest 18 rfl) rfl rfl rfl ?_
      refine PW_iadd (pc' := 26) (pw_dk dc_X12_isRest 19 rfl) rfl ?_
      obtain ⟨v_5, hi_6, e_7, h⟩ := wp_rdIx h
      refine PZ_ialdx (pc' := 27) (v := v_5) (id := 5053) (nn := 16) (pw_dk dc_X12_isRest 20 rfl) rfl me_5053 hi_6 e_7 ?_
      refine PW_icmp_gt (pc' := 30) (tgt := 53) (pw_dk dc_X12_isRest 21 rfl) rfl (by decide) (fun c_8 => ?_) (fun c_8 => ?_)
      · rw [if_pos c_8] at h
        refine PW_iconst (pc' := 54) (v := 0) (pw_dk dc_X12_isRest 39 rfl) rfl (by decide) ?_
        have z := wp_some h
        exact PZ_iret (ty := .boolean) (pw_dk dc_X12_isRest 40 rfl) rfl (by decide) z
      · rw [if_neg c_8] at h
        refine PW_aload_n (pc' := 31) (q := 0) (pw_dk dc_X12_isRest 22 rfl) rfl rfl rfl ?_
        refine PW_getR (pc' := 34) (id := 5000) (ci := 12) (nn := 0) (C0 := RX12) (T := TX12) (N := 62) (j := 52) (r := 5053) (pw_dk dc_X12_isRest 23 rfl) rfl me_5000 rfl pi_12 (by decide) fk_12_52 tw_1449 (rfl) (by decide) ?_
        refine PW_iconst (pc' := 35) (v := 4) (pw_dk dc_X12_isRest 24 rfl) rfl (by decide) ?_
        refine PW_iload_n (pc' := 36) (q := 1) (pw_dk dc_X12_isRest 25 rfl) rfl rfl rfl ?_
        refine PW_imul (pc' := 37) (pw_dk dc_X12_isRest 26 rfl) rfl ?_
        refine PW_iload_n (pc' := 38) (q := 3) (pw_dk dc_X12_isRest 27 rfl) rfl rfl rfl ?_
        refine PW_iadd (pc' := 39) (pw_dk dc_X12_isRest 28 rfl) rfl ?_
        obtain ⟨v_9, hi_10, e_11, h⟩ := wp_rdIx h
        refine PZ_ialdx (pc' := 40) (v := v_9) (id := 5053) (nn := 16) (pw_dk dc_X12_isRest 29 rfl) rfl me_5053 hi_10 e_11 ?_
        refine PW_aload_n (pc' := 41) (q := 0) (pw_dk dc_X12_isRest 30 rfl) rfl rfl rfl ?_
        refine PW_getR (pc' := 44) (id := 5000) (ci := 12) (nn := 0) (C0 := RX12) (T := TX12) (N := 62) (j := 52) (r := 5053) (pw_dk dc_X12_isRest 31 rfl) rfl me_5000 rfl pi_12 (by decide) fk_12_52 tw_1449 (rfl) (by decide) ?_
        refine PW_iconst (pc' := 45) (v := 4) (pw_dk dc_X12_isRest 32 rfl) rfl (by decide) ?_
        refine PW_iload_n (pc' := 46) (q := 1) (pw_dk dc_X12_isRest 33 rfl) rfl rfl rfl ?_
        refine PW_imul (pc' := 47) (pw_dk dc_X12_isRest 34 rfl) rfl ?_
        refine PW_iload_n (pc' := 48) (q := 2) (pw_dk dc_X12_isRest 35 rfl) rfl rfl rfl ?_
        refine PW_iadd (pc' := 49) (pw_dk dc_X12_isRest 36 rfl) rfl ?_
        obtain ⟨v_12, hi_13, e_14, h⟩ := wp_rdIx h
        refine PZ_ialdx (pc' := 50) (v := v_12) (id := 5053) (nn := 16) (pw_dk dc_X12_isRest 37 rfl) rfl me_5053 hi_13 e_14 ?_
        refine PW_icmp_ge (pc' := 53) (tgt := 55) (pw_dk dc_X12_isRest 38 rfl) rfl (by decide) (fun c_15 => ?_) (fun c_15 => ?_)
        · rw [if_pos c_15] at h
          refine PW_iinc (pc' := 58) (q := 3) (v := x3 + 1) (lv' := [(3, .int (x3 + 1)), (0, .ref 5000), (1, .int x1), (2, .int x2)]) (pw_dk dc_X12_isRest 41 rfl) rfl rfl rfl (by decide) rfl ?_
          refine PW_goto (tgt := 2) (pw_dk dc_X12_isRest 42 rfl) (by decide) ?_
          refine PW_sub (lv' := [(0, .ref 5000), (1, .int x1), (2, .int x2), (3, .int (x3 + 1))]) [1, 2, 3, 0] rfl ?_
          exact ih x1 x2 (x3 + 1) σ h
        · rw [if_neg c_15] at h
          refine PW_iconst (pc' := 54) (v := 0) (pw_dk dc_X12_isRest 39 rfl) rfl (by decide) ?_
          have z := wp_some h
          exact PZ_iret (ty := .boolean) (pw_dk dc_X12_isRest 40 rfl) rfl (by decide) z
def f_X12_isRest (x1 : Int32) (x2 : Int32) (σ : zS) : Option Int32 := 
  f_X12_isRest_2 FU x1 x2 0 σ
theorem t_X12_isRest (x1 : Int32) (x2 : Int32) (σ : zS) (Q : Option Value → zS → Prop) (h : wpO (f_X12_isRest x1 x2 σ) (fun a => Q (some (.int a)) σ)) : PK alM yX12_isRest mX12_isRest (0) [.ref 5000, .int x1, .int x2] σ Q := by
  refine PC_ofF (by decide +kernel) rfl rfl (Nat.le_of_ble_eq_true rfl) ?_
  show PZ alM mX12_isRest (0) Q 0 [(0, .ref 5000), (1, .int x1), (2, .int x2)] [] σ
  unfold f_X12_isRest at h
  refine PW_iconst (pc' := 1) (v := 0) (pw_dk dc_X12_isRest 0 rfl) rfl (by decide) ?_
  refine PW_istore_n (pc' := 2) (lv' := [(3, .int 0), (0, .ref 5000), (1, .int x1), (2, .int x2)]) (pw_dk dc_X12_isRest 1 rfl) rfl rfl (by decide) rfl ?_
  refine PW_sub (lv' := [(0, .ref 5000), (1, .int x1), (2, .int x2), (3, .int 0)]) [1, 2, 3, 0] rfl ?_
  exact b_X12_isRest_2 FU x1 x2 0 σ h
def f_X12_restOf_47 (r12 : Int32 → Int32 → Int32 → Int32 → zS → Option Int32) (x1 : Int32) (x2 : Int32) (x3 : Int32) (x4 : Int32) (σ : zS) : Option Int32 := 
  r12 x1 x2 x3 (x4 + 1) σ
theorem b_X12_restOf_47 {Q : Option Value → zS → Prop} (r12 : Int32 → Int32 → Int32 → Int32 → zS → Option Int32) (hr12 : ∀ (x1 : Int32) (x2 : Int32) (x3 : Int32) (x4 : Int32) (σ : zS), wpO (r12 x1 x2 x3 x4 σ) (fun a => Q (some (.int a)) σ) → PZ alM mX12_restOf (1) Q 12 [(0, .ref 5000), (1, .int x1), (2, .int x2), (3, .int x3), (4, .int x4)] [] σ) (x1 : Int32) (x2 : Int32) (x3 : Int32) (x4 : Int32) (σ : zS) (h : wpO (f_X12_restOf_47 r12 x1 x2 x3 x4 σ) (fun a => Q (some (.int a)) σ)) : PZ alM mX12_restOf (1) Q 47 [(0, .ref 5000), (1, .int x1), (2, .int x2), (3, .int x3), (4, .int x4)] [] σ := by
  unfold f_X12_restOf_47 at h
  refine PW_iinc (pc' := 50) (q := 4) (v := x4 + 1) (lv' := [(4, .int (x4 + 1)), (0, .ref 5000), (1, .int x1), (2, .int x2), (3, .int x3)]) (pw_dk dc_X12_restOf 28 rfl) rfl rfl rfl (by decide) rfl ?_
  refine PW_goto (tgt := 12) (pw_dk dc_X12_restOf 29 rfl) (by decide) ?_
  refine PW_sub (lv' := [(0, .ref 5000), (1, .int x1), (2, .int x2), (3, .int x3), (4, .int (x4 + 1))]) [1, 2, 3, 4, 0] rfl ?_
  exact hr12 x1 x2 x3 (x4 + 1) σ h
def f_X12_restOf_12 (r4 : Int32 → Int32 → Int32 → zS → Option Int32) : Nat → Int32 → Int32 → Int32 → Int32 → zS → Option Int32
  | 0, _, _, _, _, _ => none
  | n + 1, x1, x2, x3, x4, σ => 
    if 4 ≤ x4 then
      r4 x1 x2 (x3 + 1) σ
    else
      (f_X12_isRest x3 x4 σ).bind fun v_3 =>
      if v_3 = 0 then
        f_X12_restOf_47 (f_X12_restOf_12 r4 n) x1 x2 x3 x4 σ
      else
        if x2 = x1 then
          some (((10 : Int32) * x3) + x4)
        else
          f_X12_restOf_47 (f_X12_restOf_12 r4 n) x1 (x2 + 1) x3 x4 σ
theorem b_X12_restOf_12 {Q : Option Value → zS → Prop} (r4 : Int32 → Int32 → Int32 → zS → Option Int32) (hr4 : ∀ (x1 : Int32) (x2 : Int32) (x3 : Int32) (σ : zS), wpO (r4 x1 x2 x3 σ) (fun a => Q (some (.int a)) σ) → PZ alM mX12_restOf (1) Q 4 [(0, .ref 5000), (1, .int x1), (2, .int x2), (3, .int x3)] [] σ) : ∀ (n : Nat) (x1 : Int32) (x2 : Int32) (x3 : Int32) (x4 : Int32) (σ : zS) (h : wpO (f_X12_restOf_12 r4 n x1 x2 x3 x4 σ) (fun a => Q (some (.int a)) σ)), PZ alM mX12_restOf (1) Q 12 [(0, .ref 5000), (1, .int x1), (2, .int x2), (3, .int x3), (4, .int x4)] [] σ := by
  intro n
  induction n with
  | zero => intro x1 x2 x3 x4 σ h; exact wp_none h
  | succ n ih =>
    intro x1 x2 x3 x4 σ h
    rw [f_X12_restOf_12] at h
    refine PW_iload (pc' := 14) (q := 4) (pw_dk dc_X12_restOf 9 rfl) rfl rfl ?_
    refine PW_iconst (pc' := 15) (v := 4) (pw_dk dc_X12_restOf 10 rfl) rfl (by decide) ?_
    refine PW_icmp_ge (pc' := 18) (tgt := 53) (pw_dk dc_X12_restOf 11 rfl) rfl (by decide) (fun c_1 => ?_) (fun c_1 => ?_)
    · rw [if_pos c_1] at h
      refine PW_iinc (pc' := 56) (q := 3) (v := x3 + 1) (lv' := [(3, .int (x3 + 1)), (0, .ref 5000), (1, .int x1), (2, .int x2), (4, .int x4)]) (pw_dk dc_X12_restOf 30 rfl) rfl rfl rfl (by decide) rfl ?_
      refine PW_goto (tgt := 4) (pw_dk dc_X12_restOf 31 rfl) (by decide) ?_
      refine PW_sub (lv' := [(0, .ref 5000), (1, .int x1), (2, .int x2), (3, .int (x3 + 1))]) [1, 2, 3, 0] rfl ?_
      exact hr4 x1 x2 (x3 + 1) σ h
    · rw [if_neg c_1] at h
      refine PW_aload_n (pc' := 19) (q := 0) (pw_dk dc_X12_restOf 12 rfl) rfl rfl rfl ?_
      refine PW_iload_n (pc' := 20) (q := 3) (pw_dk dc_X12_restOf 13 rfl) rfl rfl rfl ?_
      refine PW_iload (pc' := 22) (q := 4) (pw_dk dc_X12_restOf 14 rfl) rfl rfl ?_
      refine PZ_callVi (pc' := 25) (y := yX12_isRest) (M' := mX12_isRest) (d' := 0) (As := [.int x3, .int x4]) (st := []) (b := 5000) (ci := 12) (nn := 0) me_5000 rfl tw_1986 tw_110 (pw_dk dc_X12_restOf 15 rfl) rfl Y_X12_isRest tw_1984 rfl (by decide) (Nat.le_of_ble_eq_true rfl) (t_X12_isRest x3 x4 σ _ ?_)
      obtain ⟨v_3, e_4, h⟩ := wp_bind h
      refine ⟨v_3, e_4, _, rfl, fun hn_2 => ?_⟩
      show PZ alM mX12_restOf (1) Q 25 [(0, .ref 5000), (1, .int x1), (2, .int x2), (3, .int x3), (4, .int x4)] [.int v_3] σ
      refine PW_if_ne (pc' := 28) (tgt := 31) (pw_dk dc_X12_restOf 16 rfl) rfl (by decide) (fun c_5 => ?_) (fun c_5 => ?_)
      · rw [if_neg c_5] at h
        refine PW_iload_n (pc' := 32) (q := 2) (pw_dk dc_X12_restOf 18 rfl) rfl rfl rfl ?_
        refine PW_iload_n (pc' := 33) (q := 1) (pw_dk dc_X12_restOf 19 rfl) rfl rfl rfl ?_
        refine PW_icmp_ne (pc' := 36) (tgt := 44) (pw_dk dc_X12_restOf 20 rfl) rfl (by decide) (fun c_6 => ?_) (fun c_6 => ?_)
        · rw [if_neg c_6] at h
          refine PW_iinc (pc' := 47) (q := 2) (v := x2 + 1) (lv' := [(2, .int (x2 + 1)), (0, .ref 5000), (1, .int x1), (3, .int x3), (4, .int x4)]) (pw_dk dc_X12_restOf 27 rfl) rfl rfl rfl (by decide) rfl ?_
          refine PW_sub (lv' := [(0, .ref 5000), (1, .int x1), (2, .int (x2 + 1)), (3, .int x3), (4, .int x4)]) [1, 2, 0, 3, 4] rfl ?_
          exact b_X12_restOf_47 (f_X12_restOf_12 r4 n) ih x1 (x2 + 1) x3 x4 σ h
        · rw [if_pos c_6] at h
          refine PW_bipush (pc' := 38) (v := 10) (pw_dk dc_X12_restOf 21 rfl) rfl (by decide) ?_
          refine PW_iload_n (pc' := 39) (q := 3) (pw_dk dc_X12_restOf 22 rfl) rfl rfl rfl ?_
          refine PW_imul (pc' := 40) (pw_dk dc_X12_restOf 23 rfl) rfl ?_
          refine PW_iload (pc' := 42) (q := 4) (pw_dk dc_X12_restOf 24 rfl) rfl rfl ?_
          refine PW_iadd (pc' := 43) (pw_dk dc_X12_restOf 25 rfl) rfl ?_
          have z := wp_some h
          exact PZ_iret (ty := .int) (pw_dk dc_X12_restOf 26 rfl) rfl rfl z
      · rw [if_pos c_5] at h
        refine PW_goto (tgt := 47) (pw_dk dc_X12_restOf 17 rfl) (by decide) ?_
        exact b_X12_restOf_47 (f_X12_restOf_12 r4 n) ih x1 x2 x3 x4 σ h
def f_X12_restOf_4  : Nat → Int32 → Int32 → Int32 → zS → Option Int32
  | 0, _, _, _, _ => none
  | n + 1, x1, x2, x3, σ => 
    if 4 ≤ x3 then
      if x1 = (-1 : Int32) then
        some x2
      else
        some (-2 : Int32)
    else
      f_X12_restOf_12 (f_X12_restOf_4 n) FU x1 x2 x3 0 σ
theorem b_X12_restOf_4 {Q : Option Value → zS → Prop} : ∀ (n : Nat) (x1 : Int32) (x2 : Int32) (x3 : Int32) (σ : zS) (h : wpO (f_X12_restOf_4 n x1 x2 x3 σ) (fun a => Q (some (.int a)) σ)), PZ alM mX12_restOf (1) Q 4 [(0, .ref 5000), (1, .int x1), (2, .int x2), (3, .int x3)] [] σ := by
  intro n
  induction n with
  | zero => intro x1 x2 x3 σ h; exact wp_none h
  | succ n ih =>
    intro x1 x2 x3 σ h
    rw [f_X12_restOf_4] at h
    refine PW_iload_n (pc' := 5) (q := 3) (pw_dk dc_X12_restOf 4 rfl) rfl rfl rfl ?_
    refine PW_iconst (pc' := 6) (v := 4) (pw_dk dc_X12_restOf 5 rfl) rfl (by decide) ?_
    refine PW_icmp_ge (pc' := 9) (tgt := 59) (pw_dk dc_X12_restOf 6 rfl) rfl (by decide) (fun c_1 => ?_) (fun c_1 => ?_)
    · rw [if_pos c_1] at h
      refine PW_iload_n (pc' := 60) (q := 1) (pw_dk dc_X12_restOf 32 rfl) rfl rfl rfl ?_
      refine PW_iconst (pc' := 61) (v := (-1 : Int32)) (pw_dk dc_X12_restOf 33 rfl) rfl (by decide) ?_
      refine PW_icmp_ne (pc' := 64) (tgt := 68) (pw_dk dc_X12_restOf 34 rfl) rfl (by decide) (fun c_2 => ?_) (fun c_2 => ?_)
      · rw [if_neg c_2] at h
        refine PW_bipush (pc' := 70) (v := (-2 : Int32)) (pw_dk dc_X12_restOf 37 rfl) rfl (by decide) ?_
        have z := wp_some h
        exact PZ_iret (ty := .int) (pw_dk dc_X12_restOf 38 rfl) rfl rfl z
      · rw [if_pos c_2] at h
        refine PW_iload_n (pc' := 65) (q := 2) (pw_dk dc_X12_restOf 35 rfl) rfl rfl rfl ?_
        refine PW_goto (tgt := 70) (pw_dk dc_X12_restOf 36 rfl) (by decide) ?_
        have z := wp_some h
        exact PZ_iret (ty := .int) (pw_dk dc_X12_restOf 38 rfl) rfl rfl z
    · rw [if_neg c_1] at h
      refine PW_iconst (pc' := 10) (v := 0) (pw_dk dc_X12_restOf 7 rfl) rfl (by decide) ?_
      refine PW_istore (pc' := 12) (lv' := [(4, .int 0), (0, .ref 5000), (1, .int x1), (2, .int x2), (3, .int x3)]) (pw_dk dc_X12_restOf 8 rfl) rfl (by decide) rfl ?_
      refine PW_sub (lv' := [(0, .ref 5000), (1, .int x1), (2, .int x2), (3, .int x3), (4, .int 0)]) [1, 2, 3, 4, 0] rfl ?_
      exact b_X12_restOf_12 (f_X12_restOf_4 n) ih FU x1 x2 x3 0 σ h
def f_X12_restOf (x1 : Int32) (σ : zS) : Option Int32 := 
  f_X12_restOf_4 FU x1 0 0 σ
theorem t_X12_restOf (x1 : Int32) (σ : zS) (Q : Option Value → zS → Prop) (h : wpO (f_X12_restOf x1 σ) (fun a => Q (some (.int a)) σ)) : PK alM yX12_restOf mX12_restOf (1) [.ref 5000, .int x1] σ Q := by
  refine PC_ofF (by decide +kernel) rfl rfl (Nat.le_of_ble_eq_true rfl) ?_
  show PZ alM mX12_restOf (1) Q 0 [(0, .ref 5000), (1, .int x1)] [] σ
  unfold f_X12_restOf at h
  refine PW_iconst (pc' := 1) (v := 0) (pw_dk dc_X12_restOf 0 rfl) rfl (by decide) ?_
  refine PW_istore_n (pc' := 2) (lv' := [(2, .int 0), (0, .ref 5000), (1, .int x1)]) (pw_dk dc_X12_restOf 1 rfl) rfl rfl (by decide) rfl ?_
  refine PW_iconst (pc' := 3) (v := 0) (pw_dk dc_X12_restOf 2 rfl) rfl (by decide) ?_
  refine PW_istore_n (pc' := 4) (lv' := [(3, .int 0), (2, .int 0), (0, .ref 5000), (1, .int x1)]) (pw_dk dc_X12_restOf 3 rfl) rfl rfl (by decide) rfl ?_
  refine PW_sub (lv' := [(0, .ref 5000), (1, .int x1), (2, .int 0), (3, .int 0)]) [2, 3, 1, 0] rfl ?_
  exact b_X12_restOf_4 FU x1 0 0 σ h
def f_X12_areTwo (x1 : Int32) (x2 : Int32) (σ : zS) : Option Int32 := 
  (f_X12_isMan x1 σ).bind fun v_2 =>
  if v_2 = 0 then
    some 0
  else
    (f_X12_isMan x2 σ).bind fun v_6 =>
    if v_6 = 0 then
      some 0
    else
      if x1 = x2 then
        some 0
      else
        some 1
theorem t_X12_areTwo (x1 : Int32) (x2 : Int32) (σ : zS) (Q : Option Value → zS → Prop) (h : wpO (f_X12_areTwo x1 x2 σ) (fun a => Q (some (.int a)) σ)) : PK alM yX12_areTwo mX12_areTwo (1) [.ref 5000, .int x1, .int x2] σ Q := by
  refine PC_ofF (by decide +kernel) rfl rfl (Nat.le_of_ble_eq_true rfl) ?_
  show PZ alM mX12_areTwo (1) Q 0 [(0, .ref 5000), (1, .int x1), (2, .int x2)] [] σ
  unfold f_X12_areTwo at h
  refine PW_aload_n (pc' := 1) (q := 0) (pw_dk dc_X12_areTwo 0 rfl) rfl rfl rfl ?_
  refine PW_iload_n (pc' := 2) (q := 1) (pw_dk dc_X12_areTwo 1 rfl) rfl rfl rfl ?_
  refine PZ_callVi (pc' := 5) (y := yX12_isMan) (M' := mX12_isMan) (d' := 0) (As := [.int x1]) (st := []) (b := 5000) (ci := 12) (nn := 0) me_5000 rfl tw_1742 tw_77 (pw_dk dc_X12_areTwo 2 rfl) rfl Y_X12_isMan tw_1740 rfl (by decide) (Nat.le_of_ble_eq_true rfl) (t_X12_isMan x1 σ _ ?_)
  obtain ⟨v_2, e_3, h⟩ := wp_bind h
  refine ⟨v_2, e_3, _, rfl, fun hn_1 => ?_⟩
  show PZ alM mX12_areTwo (1) Q 5 [(0, .ref 5000), (1, .int x1), (2, .int x2)] [.int v_2] σ
  refine PW_if_eq (pc' := 8) (tgt := 25) (pw_dk dc_X12_areTwo 3 rfl) rfl (by decide) (fun c_4 => ?_) (fun c_4 => ?_)
  · rw [if_pos c_4] at h
    refine PW_iconst (pc' := 26) (v := 0) (pw_dk dc_X12_areTwo 13 rfl) rfl (by decide) ?_
    have z := wp_some h
    exact PZ_iret (ty := .boolean) (pw_dk dc_X12_areTwo 14 rfl) rfl (by decide) z
  · rw [if_neg c_4] at h
    refine PW_aload_n (pc' := 9) (q := 0) (pw_dk dc_X12_areTwo 4 rfl) rfl rfl rfl ?_
    refine PW_iload_n (pc' := 10) (q := 2) (pw_dk dc_X12_areTwo 5 rfl) rfl rfl rfl ?_
    refine PZ_callVi (pc' := 13) (y := yX12_isMan) (M' := mX12_isMan) (d' := 0) (As := [.int x2]) (st := []) (b := 5000) (ci := 12) (nn := 0) me_5000 rfl tw_1742 tw_77 (pw_dk dc_X12_areTwo 6 rfl) rfl Y_X12_isMan tw_1740 rfl (by decide) (Nat.le_of_ble_eq_true rfl) (t_X12_isMan x2 σ _ ?_)
    obtain ⟨v_6, e_7, h⟩ := wp_bind h
    refine ⟨v_6, e_7, _, rfl, fun hn_5 => ?_⟩
    show PZ alM mX12_areTwo (1) Q 13 [(0, .ref 5000), (1, .int x1), (2, .int x2)] [.int v_6] σ
    refine PW_if_eq (pc' := 16) (tgt := 25) (pw_dk dc_X12_areTwo 7 rfl) rfl (by decide) (fun c_8 => ?_) (fun c_8 => ?_)
    · rw [if_pos c_8] at h
      refine PW_iconst (pc' := 26) (v := 0) (pw_dk dc_X12_areTwo 13 rfl) rfl (by decide) ?_
      have z := wp_some h
      exact PZ_iret (ty := .boolean) (pw_dk dc_X12_areTwo 14 rfl) rfl (by decide) z
    · rw [if_neg c_8] at h
      refine PW_iload_n (pc' := 17) (q := 1) (pw_dk dc_X12_areTwo 8 rfl) rfl rfl rfl ?_
      refine PW_iload_n (pc' := 18) (q := 2) (pw_dk dc_X12_areTwo 9 rfl) rfl rfl rfl ?_
      refine PW_icmp_eq (pc' := 21) (tgt := 25) (pw_dk dc_X12_areTwo 10 rfl) rfl (by decide) (fun c_9 => ?_) (fun c_9 => ?_)
      · rw [if_pos c_9] at h
        refine PW_iconst (pc' := 26) (v := 0) (pw_dk dc_X12_areTwo 13 rfl) rfl (by decide) ?_
        have z := wp_some h
        exact PZ_iret (ty := .boolean) (pw_dk dc_X12_areTwo 14 rfl) rfl (by decide) z
      · rw [if_neg c_9] at h
        refine PW_iconst (pc' := 22) (v := 1) (pw_dk dc_X12_areTwo 11 rfl) rfl (by decide) ?_
        refine PW_goto (tgt := 26) (pw_dk dc_X12_areTwo 12 rfl) (by decide) ?_
        have z := wp_some h
        exact PZ_iret (ty := .boolean) (pw_dk dc_X12_areTwo 14 rfl) rfl (by decide) z
def f_X12_rests (x1 : Int32) (x2 : Int32) (σ : zS) : Option (Int32 × zS) := 
  lt (wI σ 5000 0 0) fun σ_1 =>
  (f_X12_areTwo x1 x2 σ_1).bind fun v_4 =>
  if v_4 = 0 then
    some ((-1 : Int32), σ_1)
  else
    (f_X12_layDuel x1 x2 σ_1).bind fun σ_8 =>
    (f_X12_restOf (-1 : Int32) σ_8).bind fun v_11 =>
    some (v_11, σ_8)
theorem t_X12_rests (x1 : Int32) (x2 : Int32) (σ : zS) (Q : Option Value → zS → Prop) (h : wpO (f_X12_rests x1 x2 σ) (fun a => Q (some (.int a.1)) a.2)) : PK alM yX12_rests mX12_rests (7) [.ref 5000, .int x1, .int x2] σ Q := by
  refine PC_ofF (by decide +kernel) rfl rfl (Nat.le_of_ble_eq_true rfl) ?_
  show PZ alM mX12_rests (7) Q 0 [(0, .ref 5000), (1, .int x1), (2, .int x2)] [] σ
  unfold f_X12_rests at h
  refine PW_aload_n (pc' := 1) (q := 0) (pw_dk dc_X12_rests 0 rfl) rfl rfl rfl ?_
  refine PW_iconst (pc' := 2) (v := 0) (pw_dk dc_X12_rests 1 rfl) rfl (by decide) ?_
  obtain ⟨σ_1, e_2, h⟩ := lt_x h
  refine PZ_putX (pc' := 5) (σ' := σ_1) (id := 5000) (ci := 12) (nn := 0) (C0 := RX12) (T := TX12) (N := 62) (j := 0) (ty := tyX12 0) (pw_dk dc_X12_rests 2 rfl) rfl me_5000 rfl pi_12 tyX12_ok nmX12 (by decide) fk_12_0 tw_1397 rfl (tyX12_ok 0 (by decide)) (by first | rfl | decide) (by first | rfl | decide) e_2 ?_
  refine PW_aload_n (pc' := 6) (q := 0) (pw_dk dc_X12_rests 3 rfl) rfl rfl rfl ?_
  refine PW_iload_n (pc' := 7) (q := 1) (pw_dk dc_X12_rests 4 rfl) rfl rfl rfl ?_
  refine PW_iload_n (pc' := 8) (q := 2) (pw_dk dc_X12_rests 5 rfl) rfl rfl rfl ?_
  refine PZ_callVi (pc' := 11) (y := yX12_areTwo) (M' := mX12_areTwo) (d' := 1) (As := [.int x1, .int x2]) (st := []) (b := 5000) (ci := 12) (nn := 0) me_5000 rfl tw_1967 tw_106 (pw_dk dc_X12_rests 6 rfl) rfl Y_X12_areTwo tw_1965 rfl (by decide) (Nat.le_of_ble_eq_true rfl) (t_X12_areTwo x1 x2 σ_1 _ ?_)
  obtain ⟨v_4, e_5, h⟩ := wp_bind h
  refine ⟨v_4, e_5, _, rfl, fun hn_3 => ?_⟩
  show PZ alM mX12_rests (7) Q 11 [(0, .ref 5000), (1, .int x1), (2, .int x2)] [.int v_4] σ_1
  refine PW_if_ne (pc' := 14) (tgt := 16) (pw_dk dc_X12_rests 7 rfl) rfl (by decide) (fun c_6 => ?_) (fun c_6 => ?_)
  · rw [if_neg c_6] at h
    refine PW_aload_n (pc' := 17) (q := 0) (pw_dk dc_X12_rests 10 rfl) rfl rfl rfl ?_
    refine PW_iload_n (pc' := 18) (q := 1) (pw_dk dc_X12_rests 11 rfl) rfl rfl rfl ?_
    refine PW_iload_n (pc' := 19) (q := 2) (pw_dk dc_X12_rests 12 rfl) rfl rfl rfl ?_
    refine PZ_callVv (pc' := 22) (y := yX12_layDuel) (M' := mX12_layDuel) (d' := 6) (As := [.int x1, .int x2]) (st := []) (b := 5000) (ci := 12) (nn := 0) me_5000 rfl tw_1971 tw_107 (pw_dk dc_X12_rests 13 rfl) rfl Y_X12_layDuel tw_1969 rfl (by decide) (Nat.le_of_ble_eq_true rfl) (t_X12_layDuel x1 x2 σ_1 _ ?_)
    obtain ⟨σ_8, e_9, h⟩ := wp_bind h
    refine ⟨σ_8, e_9, rfl, fun hn_7 => ?_⟩
    show PZ alM mX12_rests (7) Q 22 [(0, .ref 5000), (1, .int x1), (2, .int x2)] [] σ_8
    refine PW_aload_n (pc' := 23) (q := 0) (pw_dk dc_X12_rests 14 rfl) rfl rfl rfl ?_
    refine PW_iconst (pc' := 24) (v := (-1 : Int32)) (pw_dk dc_X12_rests 15 rfl) rfl (by decide) ?_
    refine PZ_callVi (pc' := 27) (y := yX12_restOf) (M' := mX12_restOf) (d' := 1) (As := [.int (-1 : Int32)]) (st := []) (b := 5000) (ci := 12) (nn := 0) me_5000 rfl tw_1982 tw_109 (pw_dk dc_X12_rests 16 rfl) rfl Y_X12_restOf tw_1980 rfl (by decide) (Nat.le_of_ble_eq_true rfl) (t_X12_restOf (-1 : Int32) σ_8 _ ?_)
    obtain ⟨v_11, e_12, h⟩ := wp_bind h
    refine ⟨v_11, e_12, _, rfl, fun hn_10 => ?_⟩
    show PZ alM mX12_rests (7) Q 27 [(0, .ref 5000), (1, .int x1), (2, .int x2)] [.int v_11] σ_8
    have z := wp_some h
    exact PZ_iret (ty := .int) (pw_dk dc_X12_rests 17 rfl) rfl rfl z
  · rw [if_pos c_6] at h
    refine PW_iconst (pc' := 15) (v := (-1 : Int32)) (pw_dk dc_X12_rests 8 rfl) rfl (by decide) ?_
    have z := wp_some h
    exact PZ_iret (ty := .int) (pw_dk dc_X12_rests 9 rfl) rfl rfl z
def f_X12_rest (x1 : Int32) (x2 : Int32) (x3 : Int32) (σ : zS) : Option (Int32 × zS) := 
  lt (wI σ 5000 0 0) fun σ_1 =>
  (f_X12_areTwo x1 x2 σ_1).bind fun v_4 =>
  if v_4 = 0 then
    some ((-1 : Int32), σ_1)
  else
    if 0 ≤ x3 then
      (f_X12_layDuel x1 x2 σ_1).bind fun σ_9 =>
      (f_X12_restOf x3 σ_9).bind fun v_12 =>
      some (v_12, σ_9)
    else
      some ((-1 : Int32), σ_1)
theorem t_X12_rest (x1 : Int32) (x2 : Int32) (x3 : Int32) (σ : zS) (Q : Option Value → zS → Prop) (h : wpO (f_X12_rest x1 x2 x3 σ) (fun a => Q (some (.int a.1)) a.2)) : PK alM yX12_rest mX12_rest (7) [.ref 5000, .int x1, .int x2, .int x3] σ Q := by
  refine PC_ofF (by decide +kernel) rfl rfl (Nat.le_of_ble_eq_true rfl) ?_
  show PZ alM mX12_rest (7) Q 0 [(0, .ref 5000), (1, .int x1), (2, .int x2), (3, .int x3)] [] σ
  unfold f_X12_rest at h
  refine PW_aload_n (pc' := 1) (q := 0) (pw_dk dc_X12_rest 0 rfl) rfl rfl rfl ?_
  refine PW_iconst (pc' := 2) (v := 0) (pw_dk dc_X12_rest 1 rfl) rfl (by decide) ?_
  obtain ⟨σ_1, e_2, h⟩ := lt_x h
  refine PZ_putX (pc' := 5) (σ' := σ_1) (id := 5000) (ci := 12) (nn := 0) (C0 := RX12) (T := TX12) (N := 62) (j := 0) (ty := tyX12 0) (pw_dk dc_X12_rest 2 rfl) rfl me_5000 rfl pi_12 tyX12_ok nmX12 (by decide) fk_12_0 tw_1397 rfl (tyX12_ok 0 (by decide)) (by first | rfl | decide) (by first | rfl | decide) e_2 ?_
  refine PW_aload_n (pc' := 6) (q := 0) (pw_dk dc_X12_rest 3 rfl) rfl rfl rfl ?_
  refine PW_iload_n (pc' := 7) (q := 1) (pw_dk dc_X12_rest 4 rfl) rfl rfl rfl ?_
  refine PW_iload_n (pc' := 8) (q := 2) (pw_dk dc_X12_rest 5 rfl) rfl rfl rfl ?_
  refine PZ_callVi (pc' := 11) (y := yX12_areTwo) (M' := mX12_areTwo) (d' := 1) (As := [.int x1, .int x2]) (st := []) (b := 5000) (ci := 12) (nn := 0) me_5000 rfl tw_1967 tw_106 (pw_dk dc_X12_rest 6 rfl) rfl Y_X12_areTwo tw_1965 rfl (by decide) (Nat.le_of_ble_eq_true rfl) (t_X12_areTwo x1 x2 σ_1 _ ?_)
  obtain ⟨v_4, e_5, h⟩ := wp_bind h
  refine ⟨v_4, e_5, _, rfl, fun hn_3 => ?_⟩
  show PZ alM mX12_rest (7) Q 11 [(0, .ref 5000), (1, .int x1), (2, .int x2), (3, .int x3)] [.int v_4] σ_1
  refine PW_if_eq (pc' := 14) (tgt := 18) (pw_dk dc_X12_rest 7 rfl) rfl (by decide) (fun c_6 => ?_) (fun c_6 => ?_)
  · rw [if_pos c_6] at h
    refine PW_iconst (pc' := 19) (v := (-1 : Int32)) (pw_dk dc_X12_rest 10 rfl) rfl (by decide) ?_
    have z := wp_some h
    exact PZ_iret (ty := .int) (pw_dk dc_X12_rest 11 rfl) rfl rfl z
  · rw [if_neg c_6] at h
    refine PW_iload_n (pc' := 15) (q := 3) (pw_dk dc_X12_rest 8 rfl) rfl rfl rfl ?_
    refine PW_if_ge (pc' := 18) (tgt := 20) (pw_dk dc_X12_rest 9 rfl) rfl (by decide) (fun c_7 => ?_) (fun c_7 => ?_)
    · rw [if_pos c_7] at h
      refine PW_aload_n (pc' := 21) (q := 0) (pw_dk dc_X12_rest 12 rfl) rfl rfl rfl ?_
      refine PW_iload_n (pc' := 22) (q := 1) (pw_dk dc_X12_rest 13 rfl) rfl rfl rfl ?_
      refine PW_iload_n (pc' := 23) (q := 2) (pw_dk dc_X12_rest 14 rfl) rfl rfl rfl ?_
      refine PZ_callVv (pc' := 26) (y := yX12_layDuel) (M' := mX12_layDuel) (d' := 6) (As := [.int x1, .int x2]) (st := []) (b := 5000) (ci := 12) (nn := 0) me_5000 rfl tw_1971 tw_107 (pw_dk dc_X12_rest 15 rfl) rfl Y_X12_layDuel tw_1969 rfl (by decide) (Nat.le_of_ble_eq_true rfl) (t_X12_layDuel x1 x2 σ_1 _ ?_)
      obtain ⟨σ_9, e_10, h⟩ := wp_bind h
      refine ⟨σ_9, e_10, rfl, fun hn_8 => ?_⟩
      show PZ alM mX12_rest (7) Q 26 [(0, .ref 5000), (1, .int x1), (2, .int x2), (3, .int x3)] [] σ_9
      refine PW_aload_n (pc' := 27) (q := 0) (pw_dk dc_X12_rest 16 rfl) rfl rfl rfl ?_
      refine PW_iload_n (pc' := 28) (q := 3) (pw_dk dc_X12_rest 17 rfl) rfl rfl rfl ?_
      refine PZ_callVi (pc' := 31) (y := yX12_restOf) (M' := mX12_restOf) (d' := 1) (As := [.int x3]) (st := []) (b := 5000) (ci := 12) (nn := 0) me_5000 rfl tw_1982 tw_109 (pw_dk dc_X12_rest 18 rfl) rfl Y_X12_restOf tw_1980 rfl (by decide) (Nat.le_of_ble_eq_true rfl) (t_X12_restOf x3 σ_9 _ ?_)
      obtain ⟨v_12, e_13, h⟩ := wp_bind h
      refine ⟨v_12, e_13, _, rfl, fun hn_11 => ?_⟩
      show PZ alM mX12_rest (7) Q 31 [(0, .ref 5000), (1, .int x1), (2, .int x2), (3, .int x3)] [.int v_12] σ_9
      have z := wp_some h
      exact PZ_iret (ty := .int) (pw_dk dc_X12_rest 19 rfl) rfl rfl z
    · rw [if_neg c_7] at h
      refine PW_iconst (pc' := 19) (v := (-1 : Int32)) (pw_dk dc_X12_rest 10 rfl) rfl (by decide) ?_
      have z := wp_some h
      exact PZ_iret (ty := .int) (pw_dk dc_X12_rest 11 rfl) rfl rfl z
def f_X12_freed_103 (r22 : Int32 → Int32 → Int32 → Int32 → zS → Option (Int32 × zS)) (x1 : Int32) (x2 : Int32) (x3 : Int32) (x4 : Int32) (σ : zS) : Option (Int32 × zS) := 
  r22 x1 x2 x3 (x4 + 1) σ
theorem b_X12_freed_103 {Q : Option Value → zS → Prop} (r22 : Int32 → Int32 → Int32 → Int32 → zS → Option (Int32 × zS)) (hr22 : ∀ (x1 : Int32) (x2 : Int32) (x3 : Int32) (x4 : Int32) (σ : zS), wpO (r22 x1 x2 x3 x4 σ) (fun a => Q (some (.int a.1)) a.2) → PZ alM mX12_freed (1) Q 22 [(0, .ref 5000), (1, .int x1), (2, .int x2), (3, .int x3), (4, .int x4)] [] σ) (x1 : Int32) (x2 : Int32) (x3 : Int32) (x4 : Int32) (σ : zS) (h : wpO (f_X12_freed_103 r22 x1 x2 x3 x4 σ) (fun a => Q (some (.int a.1)) a.2)) : PZ alM mX12_freed (1) Q 103 [(0, .ref 5000), (1, .int x1), (2, .int x2), (3, .int x3), (4, .int x4)] [] σ := by
  unfold f_X12_freed_103 at h
  refine PW_iinc (pc' := 106) (q := 4) (v := x4 + 1) (lv' := [(4, .int (x4 + 1)), (0, .ref 5000), (1, .int x1), (2, .int x2), (3, .int x3)]) (pw_dk dc_X12_freed 62 rfl) rfl rfl rfl (by decide) rfl ?_
  refine PW_goto (tgt := 22) (pw_dk dc_X12_freed 63 rfl) (by decide) ?_
  refine PW_sub (lv' := [(0, .ref 5000), (1, .int x1), (2, .int x2), (3, .int x3), (4, .int (x4 + 1))]) [1, 2, 3, 4, 0] rfl ?_
  exact hr22 x1 x2 x3 (x4 + 1) σ h
def f_X12_freed_22  : Nat → Int32 → Int32 → Int32 → Int32 → zS → Option (Int32 × zS)
  | 0, _, _, _, _, _ => none
  | n + 1, x1, x2, x3, x4, σ => 
    if 16 ≤ x4 then
      some (x2, σ)
    else
      (rdI σ 5044 115 x1).bind fun v_2 =>
      if (x4 &&& (v_2 ^^^ (-1 : Int32))) = 0 then
        (f_X12_bitsOf x4 σ).bind fun v_7 =>
        (rdI σ 5004 16 5).bind fun v_9 =>
        (rdI σ 5043 115 x1).bind fun v_12 =>
        if (v_7 * v_9) ≤ v_12 then
          (f_X12_bitsOf (x4 &&& (3 : Int32)) σ).bind fun v_17 =>
          (f_X12_bitsOf (x4 >>> ((2 : Int32) &&& 31)) σ).bind fun v_20 =>
          lt (α := Int32) (((3 : Int32) * v_17) + ((2 : Int32) * v_20)) fun x5_22 =>
          if x3 < x5_22 then
            f_X12_freed_103 (f_X12_freed_22 n) x1 x4 x5_22 x4 σ
          else
            f_X12_freed_103 (f_X12_freed_22 n) x1 x2 x3 x4 σ
        else
          f_X12_freed_103 (f_X12_freed_22 n) x1 x2 x3 x4 σ
      else
        f_X12_freed_103 (f_X12_freed_22 n) x1 x2 x3 x4 σ
theorem b_X12_freed_22 {Q : Option Value → zS → Prop} : ∀ (n : Nat) (x1 : Int32) (x2 : Int32) (x3 : Int32) (x4 : Int32) (σ : zS) (h : wpO (f_X12_freed_22 n x1 x2 x3 x4 σ) (fun a => Q (some (.int a.1)) a.2)), PZ alM mX12_freed (1) Q 22 [(0, .ref 5000), (1, .int x1), (2, .int x2), (3, .int x3), (4, .int x4)] [] σ := by
  intro n
  induction n with
  | zero => intro x1 x2 x3 x4 σ h; exact wp_none h
  | succ n ih =>
    intro x1 x2 x3 x4 σ h
    rw [f_X12_freed_22] at h
    refine PW_iload (pc' := 24) (q := 4) (pw_dk dc_X12_freed 15 rfl) rfl rfl ?_
    refine PW_bipush (pc' := 26) (v := 16) (pw_dk dc_X12_freed 16 rfl) rfl (by decide) ?_
    refine PW_icmp_ge (pc' := 29) (tgt := 109) (pw_dk dc_X12_freed 17 rfl) rfl (by decide) (fun c_1 => ?_) (fun c_1 => ?_)
    · rw [if_pos c_1] at h
      refine PW_iload_n (pc' := 110) (q := 2) (pw_dk dc_X12_freed 64 rfl) rfl rfl rfl ?_
      have z := wp_some h
      exact PZ_iret (ty := .int) (pw_dk dc_X12_freed 65 rfl) rfl rfl z
    · rw [if_neg c_1] at h
      refine PW_iload (pc' := 31) (q := 4) (pw_dk dc_X12_freed 18 rfl) rfl rfl ?_
      refine PW_aload_n (pc' := 32) (q := 0) (pw_dk dc_X12_freed 19 rfl) rfl rfl rfl ?_
      refine PW_getR (pc' := 35) (id := 5000) (ci := 12) (nn := 0) (C0 := RX12) (T := TX12) (N := 62) (j := 43) (r := 5044) (pw_dk dc_X12_freed 20 rfl) rfl me_5000 rfl pi_12 (by decide) fk_12_43 tw_1440 (rfl) (by decide) ?_
      refine PW_iload_n (pc' := 36) (q := 1) (pw_dk dc_X12_freed 21 rfl) rfl rfl rfl ?_
      obtain ⟨v_2, hi_3, e_4, h⟩ := wp_rdIx h
      refine PZ_ialdx (pc' := 37) (v := v_2) (id := 5044) (nn := 115) (pw_dk dc_X12_freed 22 rfl) rfl me_5044 hi_3 e_4 ?_
      refine PW_iconst (pc' := 38) (v := (-1 : Int32)) (pw_dk dc_X12_freed 23 rfl) rfl (by decide) ?_
      refine PW_ixor (pc' := 39) (pw_dk dc_X12_freed 24 rfl) rfl ?_
      refine PW_iand (pc' := 40) (pw_dk dc_X12_freed 25 rfl) rfl ?_
      refine PW_if_ne (pc' := 43) (tgt := 103) (pw_dk dc_X12_freed 26 rfl) rfl (by decide) (fun c_5 => ?_) (fun c_5 => ?_)
      · rw [if_neg c_5] at h
        exact b_X12_freed_103 (f_X12_freed_22 n) ih x1 x2 x3 x4 σ h
      · rw [if_pos c_5] at h
        refine PW_iload (pc' := 45) (q := 4) (pw_dk dc_X12_freed 27 rfl) rfl rfl ?_
        refine PZ_callSi (pc' := 48) (y := yX12_bitsOf) (M' := mX12_bitsOf) (d' := 0) (As := [.int x4]) (st := []) tw_1955 (pw_dk dc_X12_freed 28 rfl) rfl Y_X12_bitsOf tw_1954 rfl (by decide) (Nat.le_of_ble_eq_true rfl) (t_X12_bitsOf x4 σ _ ?_)
        obtain ⟨v_7, e_8, h⟩ := wp_bind h
        refine ⟨v_7, e_8, _, rfl, fun hn_6 => ?_⟩
        show PZ alM mX12_freed (1) Q 48 [(0, .ref 5000), (1, .int x1), (2, .int x2), (3, .int x3), (4, .int x4)] [.int v_7] σ
        refine PW_aload_n (pc' := 49) (q := 0) (pw_dk dc_X12_freed 29 rfl) rfl rfl rfl ?_
        refine PW_getR (pc' := 52) (id := 5000) (ci := 12) (nn := 0) (C0 := RX12) (T := TX12) (N := 62) (j := 3) (r := 5004) (pw_dk dc_X12_freed 30 rfl) rfl me_5000 rfl pi_12 (by decide) fk_12_3 tw_1400 (rfl) (by decide) ?_
        refine PW_iconst (pc' := 53) (v := 5) (pw_dk dc_X12_freed 31 rfl) rfl (by decide) ?_
        obtain ⟨v_9, hi_10, e_11, h⟩ := wp_rdIx h
        refine PZ_ialdx (pc' := 54) (v := v_9) (id := 5004) (nn := 16) (pw_dk dc_X12_freed 32 rfl) rfl me_5004 hi_10 e_11 ?_
        refine PW_imul (pc' := 55) (pw_dk dc_X12_freed 33 rfl) rfl ?_
        refine PW_aload_n (pc' := 56) (q := 0) (pw_dk dc_X12_freed 34 rfl) rfl rfl rfl ?_
        refine PW_getR (pc' := 59) (id := 5000) (ci := 12) (nn := 0) (C0 := RX12) (T := TX12) (N := 62) (j := 42) (r := 5043) (pw_dk dc_X12_freed 35 rfl) rfl me_5000 rfl pi_12 (by decide) fk_12_42 tw_1439 (rfl) (by decide) ?_
        refine PW_iload_n (pc' := 60) (q := 1) (pw_dk dc_X12_freed 36 rfl) rfl rfl rfl ?_
        obtain ⟨v_12, hi_13, e_14, h⟩ := wp_rdIx h
        refine PZ_ialdx (pc' := 61) (v := v_12) (id := 5043) (nn := 115) (pw_dk dc_X12_freed 37 rfl) rfl me_5043 hi_13 e_14 ?_
        refine PW_icmp_le (pc' := 64) (tgt := 67) (pw_dk dc_X12_freed 38 rfl) rfl (by decide) (fun c_15 => ?_) (fun c_15 => ?_)
        · rw [if_pos c_15] at h
          refine PW_iconst (pc' := 68) (v := 3) (pw_dk dc_X12_freed 40 rfl) rfl (by decide) ?_
          refine PW_iload (pc' := 70) (q := 4) (pw_dk dc_X12_freed 41 rfl) rfl rfl ?_
          refine PW_iconst (pc' := 71) (v := 3) (pw_dk dc_X12_freed 42 rfl) rfl (by decide) ?_
          refine PW_iand (pc' := 72) (pw_dk dc_X12_freed 43 rfl) rfl ?_
          refine PZ_callSi (pc' := 75) (y := yX12_bitsOf) (M' := mX12_bitsOf) (d' := 0) (As := [.int (x4 &&& (3 : Int32))]) (st := [.int 3]) tw_1955 (pw_dk dc_X12_freed 44 rfl) rfl Y_X12_bitsOf tw_1954 rfl (by decide) (Nat.le_of_ble_eq_true rfl) (t_X12_bitsOf (x4 &&& (3 : Int32)) σ _ ?_)
          obtain ⟨v_17, e_18, h⟩ := wp_bind h
          refine ⟨v_17, e_18, _, rfl, fun hn_16 => ?_⟩
          show PZ alM mX12_freed (1) Q 75 [(0, .ref 5000), (1, .int x1), (2, .int x2), (3, .int x3), (4, .int x4)] [.int v_17, .int 3] σ
          refine PW_imul (pc' := 76) (pw_dk dc_X12_freed 45 rfl) rfl ?_
          refine PW_iconst (pc' := 77) (v := 2) (pw_dk dc_X12_freed 46 rfl) rfl (by decide) ?_
          refine PW_iload (pc' := 79) (q := 4) (pw_dk dc_X12_freed 47 rfl) rfl rfl ?_
          refine PW_iconst (pc' := 80) (v := 2) (pw_dk dc_X12_freed 48 rfl) rfl (by decide) ?_
          refine PW_ishr (pc' := 81) (pw_dk dc_X12_freed 49 rfl) rfl ?_
          refine PZ_callSi (pc' := 84) (y := yX12_bitsOf) (M' := mX12_bitsOf) (d' := 0) (As := [.int (x4 >>> ((2 : Int32) &&& 31))]) (st := [.int 2, .int ((3 : Int32) * v_17)]) tw_1955 (pw_dk dc_X12_freed 50 rfl) rfl Y_X12_bitsOf tw_1954 rfl (by decide) (Nat.le_of_ble_eq_true rfl) (t_X12_bitsOf (x4 >>> ((2 : Int32) &&& 31)) σ _ ?_)
          obtain ⟨v_20, e_21, h⟩ := wp_bind h
          refine ⟨v_20, e_21, _, rfl, fun hn_19 => ?_⟩
          show PZ alM mX12_freed (1) Q 84 [(0, .ref 5000), (1, .int x1), (2, .int x2), (3, .int x3), (4, .int x4)] [.int v_20, .int 2, .int ((3 : Int32) * v_17)] σ
          refine PW_imul (pc' := 85) (pw_dk dc_X12_freed 51 rfl) rfl ?_
          refine PW_iadd (pc' := 86) (pw_dk dc_X12_freed 52 rfl) rfl ?_
          refine PW_topi (fun x5_22 ex5_22 => ?_)
          replace h := lt_w h ex5_22
          refine PW_istore (pc' := 88) (lv' := [(5, .int x5_22), (0, .ref 5000), (1, .int x1), (2, .int x2), (3, .int x3), (4, .int x4)]) (pw_dk dc_X12_freed 53 rfl) rfl (by decide) rfl ?_
          refine PW_iload (pc' := 90) (q := 0) (pw_dk dc_X12_freed 54 rfl) rfl rfl ?_
          refine PW_iload_n (pc' := 91) (q := 4) (pw_dk dc_X12_freed 55 rfl) rfl rfl rfl ?_
          refine PW_icmp_gt (pc' := 94) (tgt := 97) (pw_dk dc_X12_freed 56 rfl) rfl (by decide) (fun c_23 => ?_) (fun c_23 => ?_)
          · rw [if_pos c_23] at h
            refine PW_iload (pc' := 99) (q := 0) (pw_dk dc_X12_freed 58 rfl) rfl rfl ?_
            refine PW_istore_n (pc' := 100) (lv' := [(3, .int x5_22), (5, .int x5_22), (0, .ref 5000), (1, .int x1), (2, .int x2), (4, .int x4)]) (pw_dk dc_X12_freed 59 rfl) rfl rfl (by decide) rfl ?_
            refine PW_iload (pc' := 102) (q := 5) (pw_dk dc_X12_freed 60 rfl) rfl rfl ?_
            refine PW_istore_n (pc' := 103) (lv' := [(2, .int x4), (3, .int x5_22), (5, .int x5_22), (0, .ref 5000), (1, .int x1), (4, .int x4)]) (pw_dk dc_X12_freed 61 rfl) rfl rfl (by decide) rfl ?_
            refine PW_sub (lv' := [(0, .ref 5000), (1, .int x1), (2, .int x4), (3, .int x5_22), (4, .int x4)]) [3, 4, 0, 1, 5] rfl ?_
            exact b_X12_freed_103 (f_X12_freed_22 n) ih x1 x4 x5_22 x4 σ h
          · rw [if_neg c_23] at h
            refine PW_goto (tgt := 103) (pw_dk dc_X12_freed 57 rfl) (by decide) ?_
            refine PW_sub (lv' := [(0, .ref 5000), (1, .int x1), (2, .int x2), (3, .int x3), (4, .int x4)]) [1, 2, 3, 4, 5] rfl ?_
            exact b_X12_freed_103 (f_X12_freed_22 n) ih x1 x2 x3 x4 σ h
        · rw [if_neg c_15] at h
          refine PW_goto (tgt := 103) (pw_dk dc_X12_freed 39 rfl) (by decide) ?_
          exact b_X12_freed_103 (f_X12_freed_22 n) ih x1 x2 x3 x4 σ h
def f_X12_freed (x1 : Int32) (σ : zS) : Option (Int32 × zS) := 
  lt (wI σ 5000 0 0) fun σ_1 =>
  (f_X12_isMan x1 σ_1).bind fun v_4 =>
  if v_4 = 0 then
    some ((-1 : Int32), σ_1)
  else
    f_X12_freed_22 FU x1 0 0 0 σ_1
theorem t_X12_freed (x1 : Int32) (σ : zS) (Q : Option Value → zS → Prop) (h : wpO (f_X12_freed x1 σ) (fun a => Q (some (.int a.1)) a.2)) : PK alM yX12_freed mX12_freed (1) [.ref 5000, .int x1] σ Q := by
  refine PC_ofF (by decide +kernel) rfl rfl (Nat.le_of_ble_eq_true rfl) ?_
  show PZ alM mX12_freed (1) Q 0 [(0, .ref 5000), (1, .int x1)] [] σ
  unfold f_X12_freed at h
  refine PW_aload_n (pc' := 1) (q := 0) (pw_dk dc_X12_freed 0 rfl) rfl rfl rfl ?_
  refine PW_iconst (pc' := 2) (v := 0) (pw_dk dc_X12_freed 1 rfl) rfl (by decide) ?_
  obtain ⟨σ_1, e_2, h⟩ := lt_x h
  refine PZ_putX (pc' := 5) (σ' := σ_1) (id := 5000) (ci := 12) (nn := 0) (C0 := RX12) (T := TX12) (N := 62) (j := 0) (ty := tyX12 0) (pw_dk dc_X12_freed 2 rfl) rfl me_5000 rfl pi_12 tyX12_ok nmX12 (by decide) fk_12_0 tw_1397 rfl (tyX12_ok 0 (by decide)) (by first | rfl | decide) (by first | rfl | decide) e_2 ?_
  refine PW_aload_n (pc' := 6) (q := 0) (pw_dk dc_X12_freed 3 rfl) rfl rfl rfl ?_
  refine PW_iload_n (pc' := 7) (q := 1) (pw_dk dc_X12_freed 4 rfl) rfl rfl rfl ?_
  refine PZ_callVi (pc' := 10) (y := yX12_isMan) (M' := mX12_isMan) (d' := 0) (As := [.int x1]) (st := []) (b := 5000) (ci := 12) (nn := 0) me_5000 rfl tw_1742 tw_77 (pw_dk dc_X12_freed 5 rfl) rfl Y_X12_isMan tw_1740 rfl (by decide) (Nat.le_of_ble_eq_true rfl) (t_X12_isMan x1 σ_1 _ ?_)
  obtain ⟨v_4, e_5, h⟩ := wp_bind h
  refine ⟨v_4, e_5, _, rfl, fun hn_3 => ?_⟩
  show PZ alM mX12_freed (1) Q 10 [(0, .ref 5000), (1, .int x1)] [.int v_4] σ_1
  refine PW_if_ne (pc' := 13) (tgt := 15) (pw_dk dc_X12_freed 6 rfl) rfl (by decide) (fun c_6 => ?_) (fun c_6 => ?_)
  · rw [if_neg c_6] at h
    refine PW_iconst (pc' := 16) (v := 0) (pw_dk dc_X12_freed 9 rfl) rfl (by decide) ?_
    refine PW_istore_n (pc' := 17) (lv' := [(2, .int 0), (0, .ref 5000), (1, .int x1)]) (pw_dk dc_X12_freed 10 rfl) rfl rfl (by decide) rfl ?_
    refine PW_iconst (pc' := 18) (v := 0) (pw_dk dc_X12_freed 11 rfl) rfl (by decide) ?_
    refine PW_istore_n (pc' := 19) (lv' := [(3, .int 0), (2, .int 0), (0, .ref 5000), (1, .int x1)]) (pw_dk dc_X12_freed 12 rfl) rfl rfl (by decide) rfl ?_
    refine PW_iconst (pc' := 20) (v := 0) (pw_dk dc_X12_freed 13 rfl) rfl (by decide) ?_
    refine PW_istore (pc' := 22) (lv' := [(4, .int 0), (3, .int 0), (2, .int 0), (0, .ref 5000), (1, .int x1)]) (pw_dk dc_X12_freed 14 rfl) rfl (by decide) rfl ?_
    refine PW_sub (lv' := [(0, .ref 5000), (1, .int x1), (2, .int 0), (3, .int 0), (4, .int 0)]) [3, 4, 2, 1, 0] rfl ?_
    exact b_X12_freed_22 FU x1 0 0 0 σ_1 h
  · rw [if_pos c_6] at h
    refine PW_iconst (pc' := 14) (v := (-1 : Int32)) (pw_dk dc_X12_freed 7 rfl) rfl (by decide) ?_
    have z := wp_some h
    exact PZ_iret (ty := .int) (pw_dk dc_X12_freed 8 rfl) rfl rfl z
def f_X12_print (x1 : Int32) (x2 : Int32) (x3 : Int32) (σ : zS) : Option (Int32 × zS) := 
  lt (wI σ 5000 0 0) fun σ_1 =>
  if x1 < 0 then
    some ((-1 : Int32), σ_1)
  else
    if 99 < x1 then
      some ((-1 : Int32), σ_1)
    else
      if (f_X12_isPart x2 σ_1) = 0 then
        some ((-1 : Int32), σ_1)
      else
        if x3 < 0 then
          some ((-1 : Int32), σ_1)
        else
          (rdI σ_1 5004 16 0).bind fun v_8 =>
          if v_8 ≤ x3 then
            some ((-1 : Int32), σ_1)
          else
            if (σ_1.1 5000 53) = 24 then
              some ((-1 : Int32), σ_1)
            else
              (wrI σ_1 5056 24 (σ_1.1 5000 53) x1).bind fun σ_13 =>
              (wrI σ_13 5057 24 (σ_13.1 5000 53) x2).bind fun σ_16 =>
              (wrI σ_16 5058 24 (σ_16.1 5000 53) x3).bind fun σ_19 =>
              (wrI σ_19 5059 24 (σ_19.1 5000 53) (-1 : Int32)).bind fun σ_22 =>
              lt (wI σ_22 5000 53 ((σ_22.1 5000 53) + (1 : Int32))) fun σ_25 =>
              some ((σ_25.1 5000 53) - (1 : Int32), σ_25)
theorem t_X12_print (x1 : Int32) (x2 : Int32) (x3 : Int32) (σ : zS) (Q : Option Value → zS → Prop) (h : wpO (f_X12_print x1 x2 x3 σ) (fun a => Q (some (.int a.1)) a.2)) : PK alM yX12_print mX12_print (1) [.ref 5000, .int x1, .int x2, .int x3] σ Q := by
  refine PC_ofF (by decide +kernel) rfl rfl (Nat.le_of_ble_eq_true rfl) ?_
  show PZ alM mX12_print (1) Q 0 [(0, .ref 5000), (1, .int x1), (2, .int x2), (3, .int x3)] [] σ
  unfold f_X12_print at h
  refine PW_aload_n (pc' := 1) (q := 0) (pw_dk dc_X12_print 0 rfl) rfl rfl rfl ?_
  refine PW_iconst (pc' := 2) (v := 0) (pw_dk dc_X12_print 1 rfl) rfl (by decide) ?_
  obtain ⟨σ_1, e_2, h⟩ := lt_x h
  refine PZ_putX (pc' := 5) (σ' := σ_1) (id := 5000) (ci := 12) (nn := 0) (C0 := RX12) (T := TX12) (N := 62) (j := 0) (ty := tyX12 0) (pw_dk dc_X12_print 2 rfl) rfl me_5000 rfl pi_12 tyX12_ok nmX12 (by decide) fk_12_0 tw_1397 rfl (tyX12_ok 0 (by decide)) (by first | rfl | decide) (by first | rfl | decide) e_2 ?_
  refine PW_iload_n (pc' := 6) (q := 1) (pw_dk dc_X12_print 3 rfl) rfl rfl rfl ?_
  refine PW_if_lt (pc' := 9) (tgt := 45) (pw_dk dc_X12_print 4 rfl) rfl (by decide) (fun c_3 => ?_) (fun c_3 => ?_)
  · rw [if_pos c_3] at h
    refine PW_iconst (pc' := 46) (v := (-1 : Int32)) (pw_dk dc_X12_print 23 rfl) rfl (by decide) ?_
    have z := wp_some h
    exact PZ_iret (ty := .int) (pw_dk dc_X12_print 24 rfl) rfl rfl z
  · rw [if_neg c_3] at h
    refine PW_iload_n (pc' := 10) (q := 1) (pw_dk dc_X12_print 5 rfl) rfl rfl rfl ?_
    refine PW_bipush (pc' := 12) (v := 99) (pw_dk dc_X12_print 6 rfl) rfl (by decide) ?_
    refine PW_icmp_gt (pc' := 15) (tgt := 45) (pw_dk dc_X12_print 7 rfl) rfl (by decide) (fun c_4 => ?_) (fun c_4 => ?_)
    · rw [if_pos c_4] at h
      refine PW_iconst (pc' := 46) (v := (-1 : Int32)) (pw_dk dc_X12_print 23 rfl) rfl (by decide) ?_
      have z := wp_some h
      exact PZ_iret (ty := .int) (pw_dk dc_X12_print 24 rfl) rfl rfl z
    · rw [if_neg c_4] at h
      refine PW_iload_n (pc' := 16) (q := 2) (pw_dk dc_X12_print 8 rfl) rfl rfl rfl ?_
      refine PZ_callSi (pc' := 19) (y := yX12_isPart) (M' := mX12_isPart) (d' := 0) (As := [.int x2]) (st := []) tw_1763 (pw_dk dc_X12_print 9 rfl) rfl Y_X12_isPart tw_1762 rfl (by decide) (Nat.le_of_ble_eq_true rfl) (t_X12_isPart x2 σ_1 _ ?_)
      refine ⟨_, rfl, fun hn_5 => ?_⟩
      show PZ alM mX12_print (1) Q 19 [(0, .ref 5000), (1, .int x1), (2, .int x2), (3, .int x3)] [.int (f_X12_isPart x2 σ_1)] σ_1
      refine PW_if_eq (pc' := 22) (tgt := 45) (pw_dk dc_X12_print 10 rfl) rfl (by decide) (fun c_6 => ?_) (fun c_6 => ?_)
      · rw [if_pos c_6] at h
        refine PW_iconst (pc' := 46) (v := (-1 : Int32)) (pw_dk dc_X12_print 23 rfl) rfl (by decide) ?_
        have z := wp_some h
        exact PZ_iret (ty := .int) (pw_dk dc_X12_print 24 rfl) rfl rfl z
      · rw [if_neg c_6] at h
        refine PW_iload_n (pc' := 23) (q := 3) (pw_dk dc_X12_print 11 rfl) rfl rfl rfl ?_
        refine PW_if_lt (pc' := 26) (tgt := 45) (pw_dk dc_X12_print 12 rfl) rfl (by decide) (fun c_7 => ?_) (fun c_7 => ?_)
        · rw [if_pos c_7] at h
          refine PW_iconst (pc' := 46) (v := (-1 : Int32)) (pw_dk dc_X12_print 23 rfl) rfl (by decide) ?_
          have z := wp_some h
          exact PZ_iret (ty := .int) (pw_dk dc_X12_print 24 rfl) rfl rfl z
        · rw [if_neg c_7] at h
          refine PW_iload_n (pc' := 27) (q := 3) (pw_dk dc_X12_print 13 rfl) rfl rfl rfl ?_
          refine PW_aload_n (pc' := 28) (q := 0) (pw_dk dc_X12_print 14 rfl) rfl rfl rfl ?_
          refine PW_getR (pc' := 31) (id := 5000) (ci := 12) (nn := 0) (C0 := RX12) (T := TX12) (N := 62) (j := 3) (r := 5004) (pw_dk dc_X12_print 15 rfl) rfl me_5000 rfl pi_12 (by decide) fk_12_3 tw_1400 (rfl) (by decide) ?_
          refine PW_iconst (pc' := 32) (v := 0) (pw_dk dc_X12_print 16 rfl) rfl (by decide) ?_
          obtain ⟨v_8, hi_9, e_10, h⟩ := wp_rdIx h
          refine PZ_ialdx (pc' := 33) (v := v_8) (id := 5004) (nn := 16) (pw_dk dc_X12_print 17 rfl) rfl me_5004 hi_9 e_10 ?_
          refine PW_icmp_ge (pc' := 36) (tgt := 45) (pw_dk dc_X12_print 18 rfl) rfl (by decide) (fun c_11 => ?_) (fun c_11 => ?_)
          · rw [if_pos c_11] at h
            refine PW_iconst (pc' := 46) (v := (-1 : Int32)) (pw_dk dc_X12_print 23 rfl) rfl (by decide) ?_
            have z := wp_some h
            exact PZ_iret (ty := .int) (pw_dk dc_X12_print 24 rfl) rfl rfl z
          · rw [if_neg c_11] at h
            refine PW_aload_n (pc' := 37) (q := 0) (pw_dk dc_X12_print 19 rfl) rfl rfl rfl ?_
            refine PZ_getI (pc' := 40) (id := 5000) (ci := 12) (nn := 0) (C0 := RX12) (T := TX12) (N := 62) (j := 53) (pw_dk dc_X12_print 20 rfl) rfl me_5000 rfl pi_12 (by decide) fk_12_53 tw_1450 ?_
            refine PW_bipush (pc' := 42) (v := 24) (pw_dk dc_X12_print 21 rfl) rfl (by decide) ?_
            refine PW_icmp_ne (pc' := 45) (tgt := 47) (pw_dk dc_X12_print 22 rfl) rfl (by decide) (fun c_12 => ?_) (fun c_12 => ?_)
            · rw [if_neg c_12] at h
              refine PW_aload_n (pc' := 48) (q := 0) (pw_dk dc_X12_print 25 rfl) rfl rfl rfl ?_
              refine PW_getR (pc' := 51) (id := 5000) (ci := 12) (nn := 0) (C0 := RX12) (T := TX12) (N := 62) (j := 55) (r := 5056) (pw_dk dc_X12_print 26 rfl) rfl me_5000 rfl pi_12 (by decide) fk_12_55 tw_1452 (rfl) (by decide) ?_
              refine PW_aload_n (pc' := 52) (q := 0) (pw_dk dc_X12_print 27 rfl) rfl rfl rfl ?_
              refine PZ_getI (pc' := 55) (id := 5000) (ci := 12) (nn := 0) (C0 := RX12) (T := TX12) (N := 62) (j := 53) (pw_dk dc_X12_print 28 rfl) rfl me_5000 rfl pi_12 (by decide) fk_12_53 tw_1450 ?_
              refine PW_iload_n (pc' := 56) (q := 1) (pw_dk dc_X12_print 29 rfl) rfl rfl rfl ?_
              obtain ⟨σ_13, hi_14, e_15, h⟩ := wp_wrIx h
              refine PZ_iastx (pc' := 57) (σ' := σ_13) (id := 5056) (nn := 24) (pw_dk dc_X12_print 30 rfl) rfl me_5056 hi_14 e_15 ?_
              refine PW_aload_n (pc' := 58) (q := 0) (pw_dk dc_X12_print 31 rfl) rfl rfl rfl ?_
              refine PW_getR (pc' := 61) (id := 5000) (ci := 12) (nn := 0) (C0 := RX12) (T := TX12) (N := 62) (j := 56) (r := 5057) (pw_dk dc_X12_print 32 rfl) rfl me_5000 rfl pi_12 (by decide) fk_12_56 tw_1453 (rfl) (by decide) ?_
              refine PW_aload_n (pc' := 62) (q := 0) (pw_dk dc_X12_print 33 rfl) rfl rfl rfl ?_
              refine PZ_getI (pc' := 65) (id := 5000) (ci := 12) (nn := 0) (C0 := RX12) (T := TX12) (N := 62) (j := 53) (pw_dk dc_X12_print 34 rfl) rfl me_5000 rfl pi_12 (by decide) fk_12_53 tw_1450 ?_
              refine PW_iload_n (pc' := 66) (q := 2) (pw_dk dc_X12_print 35 rfl) rfl rfl rfl ?_
              obtain ⟨σ_16, hi_17, e_18, h⟩ := wp_wrIx h
              refine PZ_iastx (pc' := 67) (σ' := σ_16) (id := 5057) (nn := 24) (pw_dk dc_X12_print 36 rfl) rfl me_5057 hi_17 e_18 ?_
              refine PW_aload_n (pc' := 68) (q := 0) (pw_dk dc_X12_print 37 rfl) rfl rfl rfl ?_
              refine PW_getR (pc' := 71) (id := 5000) (ci := 12) (nn := 0) (C0 := RX12) (T := TX12) (N := 62) (j := 57) (r := 5058) (pw_dk dc_X12_print 38 rfl) rfl me_5000 rfl pi_12 (by decide) fk_12_57 tw_1454 (rfl) (by decide) ?_
              refine PW_aload_n (pc' := 72) (q := 0) (pw_dk dc_X12_print 39 rfl) rfl rfl rfl ?_
              refine PZ_getI (pc' := 75) (id := 5000) (ci := 12) (nn := 0) (C0 := RX12) (T := TX12) (N := 62) (j := 53) (pw_dk dc_X12_print 40 rfl) rfl me_5000 rfl pi_12 (by decide) fk_12_53 tw_1450 ?_
              refine PW_iload_n (pc' := 76) (q := 3) (pw_dk dc_X12_print 41 rfl) rfl rfl rfl ?_
              obtain ⟨σ_19, hi_20, e_21, h⟩ := wp_wrIx h
              refine PZ_iastx (pc' := 77) (σ' := σ_19) (id := 5058) (nn := 24) (pw_dk dc_X12_print 42 rfl) rfl me_5058 hi_20 e_21 ?_
              refine PW_aload_n (pc' := 78) (q := 0) (pw_dk dc_X12_print 43 rfl) rfl rfl rfl ?_
              refine PW_getR (pc' := 81) (id := 5000) (ci := 12) (nn := 0) (C0 := RX12) (T := TX12) (N := 62) (j := 58) (r := 5059) (pw_dk dc_X12_print 44 rfl) rfl me_5000 rfl pi_12 (by decide) fk_12_58 tw_1455 (rfl) (by decide) ?_
              refine PW_aload_n (pc' := 82) (q := 0) (pw_dk dc_X12_print 45 rfl) rfl rfl rfl ?_
              refine PZ_getI (pc' := 85) (id := 5000) (ci := 12) (nn := 0) (C0 := RX12) (T := TX12) (N := 62) (j := 53) (pw_dk dc_X12_print 46 rfl) rfl me_5000 rfl pi_12 (by decide) fk_12_53 tw_1450 ?_
              refine PW_iconst (pc' := 86) (v := (-1 : Int32)) (pw_dk dc_X12_print 47 rfl) rfl (by decide) ?_
              obtain ⟨σ_22, hi_23, e_24, h⟩ := wp_wrIx h
              refine PZ_iastx (pc' := 87) (σ' := σ_22) (id := 5059) (nn := 24) (pw_dk dc_X12_print 48 rfl) rfl me_5059 hi_23 e_24 ?_
              refine PW_aload_n (pc' := 88) (q := 0) (pw_dk dc_X12_print 49 rfl) rfl rfl rfl ?_
              refine PW_dup (pc' := 89) (pw_dk dc_X12_print 50 rfl) rfl rfl ?_
              refine PZ_getI (pc' := 92) (id := 5000) (ci := 12) (nn := 0) (C0 := RX12) (T := TX12) (N := 62) (j := 53) (pw_dk dc_X12_print 51 rfl) rfl me_5000 rfl pi_12 (by decide) fk_12_53 tw_1450 ?_
              refine PW_iconst (pc' := 93) (v := 1) (pw_dk dc_X12_print 52 rfl) rfl (by decide) ?_
              refine PW_iadd (pc' := 94) (pw_dk dc_X12_print 53 rfl) rfl ?_
              obtain ⟨σ_25, e_26, h⟩ := lt_x h
              refine PZ_putX (pc' := 97) (σ' := σ_25) (id := 5000) (ci := 12) (nn := 0) (C0 := RX12) (T := TX12) (N := 62) (j := 53) (ty := tyX12 53) (pw_dk dc_X12_print 54 rfl) rfl me_5000 rfl pi_12 tyX12_ok nmX12 (by decide) fk_12_53 tw_1450 rfl (tyX12_ok 53 (by decide)) (by first | rfl | decide) (by first | rfl | decide) e_26 ?_
              refine PW_aload_n (pc' := 98) (q := 0) (pw_dk dc_X12_print 55 rfl) rfl rfl rfl ?_
              refine PZ_getI (pc' := 101) (id := 5000) (ci := 12) (nn := 0) (C0 := RX12) (T := TX12) (N := 62) (j := 53) (pw_dk dc_X12_print 56 rfl) rfl me_5000 rfl pi_12 (by decide) fk_12_53 tw_1450 ?_
              refine PW_iconst (pc' := 102) (v := 1) (pw_dk dc_X12_print 57 rfl) rfl (by decide) ?_
              refine PW_isub (pc' := 103) (pw_dk dc_X12_print 58 rfl) rfl ?_
              have z := wp_some h
              exact PZ_iret (ty := .int) (pw_dk dc_X12_print 59 rfl) rfl rfl z
            · rw [if_pos c_12] at h
              refine PW_iconst (pc' := 46) (v := (-1 : Int32)) (pw_dk dc_X12_print 23 rfl) rfl (by decide) ?_
              have z := wp_some h
              exact PZ_iret (ty := .int) (pw_dk dc_X12_print 24 rfl) rfl rfl z
