/-! walks (printed by wip/gen) -/
def f_X8_states (b : Bool) (σ : zS) : Int32 := 
  (σ.1 (tv b) 0) * (16 : Int32)
theorem t_X8_states (b : Bool) (σ : zS) (Q : Option Value → zS → Prop) (h : Q (some (.int (f_X8_states b σ))) σ) : PK alC yX8_states mX8_states (0) [.ref (tv b)] σ Q := by
  refine PC_ofF (by decide +kernel) rfl rfl (Nat.le_of_ble_eq_true rfl) ?_
  show PZ alC mX8_states (0) Q 0 [(0, .ref (tv b))] [] σ
  unfold f_X8_states at h
  refine PW_aload_n (pc' := 1) (q := 0) (pw_dk dc_X8_states 0 rfl) rfl rfl rfl ?_
  refine PZ_getI (pc' := 4) (id := (tv b)) (ci := 8) (nn := 0) (C0 := RX8) (T := TX8) (N := 18) (j := 0) (pw_dk dc_X8_states 1 rfl) rfl (me_T b) rfl pi_8 (by decide) fk_8_0 tw_199 ?_
  refine PW_bipush (pc' := 6) (v := 16) (pw_dk dc_X8_states 2 rfl) rfl (by decide) ?_
  refine PW_imul (pc' := 7) (pw_dk dc_X8_states 3 rfl) rfl ?_
  exact PZ_iret (ty := .int) (pw_dk dc_X8_states 4 rfl) rfl rfl h
def f_X5_standing_32 (r4 : Int32 → Int32 → zS → Option Int32) (x1 : Int32) (x2 : Int32) (σ : zS) : Option Int32 := 
  r4 x1 (x2 + 1) σ
theorem b_X5_standing_32 {Q : Option Value → zS → Prop} (r4 : Int32 → Int32 → zS → Option Int32) (hr4 : ∀ (x1 : Int32) (x2 : Int32) (σ : zS), wpO (r4 x1 x2 σ) (fun a => Q (some (.int a)) σ) → PZ alC mX5_standing (5) Q 4 [(0, .ref 1000), (1, .int x1), (2, .int x2)] [] σ) (x1 : Int32) (x2 : Int32) (σ : zS) (h : wpO (f_X5_standing_32 r4 x1 x2 σ) (fun a => Q (some (.int a)) σ)) : PZ alC mX5_standing (5) Q 32 [(0, .ref 1000), (1, .int x1), (2, .int x2)] [] σ := by
  unfold f_X5_standing_32 at h
  refine PW_iinc (pc' := 35) (q := 2) (v := x2 + 1) (lv' := [(2, .int (x2 + 1)), (0, .ref 1000), (1, .int x1)]) (pw_dk dc_X5_standing 20 rfl) rfl rfl rfl (by decide) rfl ?_
  refine PW_goto (tgt := 4) (pw_dk dc_X5_standing 21 rfl) (by decide) ?_
  refine PW_sub (lv' := [(0, .ref 1000), (1, .int x1), (2, .int (x2 + 1))]) [1, 2, 0] rfl ?_
  exact hr4 x1 (x2 + 1) σ h
def f_X5_standing_4  : Nat → Int32 → Int32 → zS → Option Int32
  | 0, _, _, _ => none
  | n + 1, x1, x2, σ => 
    if (f_X8_states (σ.2.2 2) σ) ≤ x2 then
      some x1
    else
      (f_X5_barsSome x2 σ).bind fun v_4 =>
      if v_4 = 0 then
        lt (α := Int32) (x1 ||| ((1 : Int32) <<< ((f_X5_cellOf x2 σ) &&& 31))) fun x1_8 =>
        f_X5_standing_32 (f_X5_standing_4 n) x1_8 x2 σ
      else
        f_X5_standing_32 (f_X5_standing_4 n) x1 x2 σ
theorem b_X5_standing_4 {Q : Option Value → zS → Prop} : ∀ (n : Nat) (x1 : Int32) (x2 : Int32) (σ : zS) (h : wpO (f_X5_standing_4 n x1 x2 σ) (fun a => Q (some (.int a)) σ)), PZ alC mX5_standing (5) Q 4 [(0, .ref 1000), (1, .int x1), (2, .int x2)] [] σ := by
  intro n
  induction n with
  | zero => intro x1 x2 σ h; exact wp_none h
  | succ n ih =>
    intro x1 x2 σ h
    rw [f_X5_standing_4] at h
    refine PW_iload_n (pc' := 5) (q := 2) (pw_dk dc_X5_standing 4 rfl) rfl rfl rfl ?_
    refine PW_aload_n (pc' := 6) (q := 0) (pw_dk dc_X5_standing 5 rfl) rfl rfl rfl ?_
    refine PW_getR (pc' := 9) (id := 1000) (ci := 5) (nn := 0) (C0 := RX5) (T := TX5) (N := 3) (j := 0) (r := tv (σ.2.2 2)) (pw_dk dc_X5_standing 6 rfl) rfl me_1000 rfl pi_5 (by decide) fk_5_0 tw_435 (rf_M2 _) (tv0 _) ?_
    refine PZ_callVi (pc' := 12) (y := yX8_states) (M' := mX8_states) (d' := 0) (As := []) (st := [.int x2]) (b := (tv (σ.2.2 2))) (ci := 8) (nn := 0) (me_T _) rfl tw_1094 tw_1095 (pw_dk dc_X5_standing 7 rfl) rfl Y_X8_states tw_1093 rfl (by decide) (Nat.le_of_ble_eq_true rfl) (t_X8_states (σ.2.2 2) σ _ ?_)
    refine ⟨_, rfl, fun hn_1 => ?_⟩
    show PZ alC mX5_standing (5) Q 12 [(0, .ref 1000), (1, .int x1), (2, .int x2)] [.int (f_X8_states (σ.2.2 2) σ), .int x2] σ
    refine PW_icmp_ge (pc' := 15) (tgt := 38) (pw_dk dc_X5_standing 8 rfl) rfl (by decide) (fun c_2 => ?_) (fun c_2 => ?_)
    · rw [if_pos c_2] at h
      refine PW_iload_n (pc' := 39) (q := 1) (pw_dk dc_X5_standing 22 rfl) rfl rfl rfl ?_
      have z := wp_some h
      exact PZ_iret (ty := .int) (pw_dk dc_X5_standing 23 rfl) rfl rfl z
    · rw [if_neg c_2] at h
      refine PW_aload_n (pc' := 16) (q := 0) (pw_dk dc_X5_standing 9 rfl) rfl rfl rfl ?_
      refine PW_iload_n (pc' := 17) (q := 2) (pw_dk dc_X5_standing 10 rfl) rfl rfl rfl ?_
      refine PZ_callVi (pc' := 20) (y := yX5_barsSome) (M' := mX5_barsSome) (d' := 4) (As := [.int x2]) (st := []) (b := 1000) (ci := 5) (nn := 0) me_1000 rfl tw_1099 tw_37 (pw_dk dc_X5_standing 11 rfl) rfl Y_X5_barsSome tw_1097 rfl (by decide) (Nat.le_of_ble_eq_true rfl) (t_X5_barsSome x2 σ _ ?_)
      obtain ⟨v_4, e_5, h⟩ := wp_bind h
      refine ⟨v_4, e_5, _, rfl, fun hn_3 => ?_⟩
      show PZ alC mX5_standing (5) Q 20 [(0, .ref 1000), (1, .int x1), (2, .int x2)] [.int v_4] σ
      refine PW_if_ne (pc' := 23) (tgt := 32) (pw_dk dc_X5_standing 12 rfl) rfl (by decide) (fun c_6 => ?_) (fun c_6 => ?_)
      · rw [if_neg c_6] at h
        exact b_X5_standing_32 (f_X5_standing_4 n) ih x1 x2 σ h
      · rw [if_pos c_6] at h
        refine PW_iload_n (pc' := 24) (q := 1) (pw_dk dc_X5_standing 13 rfl) rfl rfl rfl ?_
        refine PW_iconst (pc' := 25) (v := 1) (pw_dk dc_X5_standing 14 rfl) rfl (by decide) ?_
        refine PW_iload_n (pc' := 26) (q := 2) (pw_dk dc_X5_standing 15 rfl) rfl rfl rfl ?_
        refine PZ_callSi (pc' := 29) (y := yX5_cellOf) (M' := mX5_cellOf) (d' := 0) (As := [.int x2]) (st := [.int 1, .int x1]) tw_915 (pw_dk dc_X5_standing 16 rfl) rfl Y_X5_cellOf tw_914 rfl (by decide) (Nat.le_of_ble_eq_true rfl) (t_X5_cellOf x2 σ _ ?_)
        refine ⟨_, rfl, fun hn_7 => ?_⟩
        show PZ alC mX5_standing (5) Q 29 [(0, .ref 1000), (1, .int x1), (2, .int x2)] [.int (f_X5_cellOf x2 σ), .int 1, .int x1] σ
        refine PW_ishl (pc' := 30) (pw_dk dc_X5_standing 17 rfl) rfl ?_
        refine PW_ior (pc' := 31) (pw_dk dc_X5_standing 18 rfl) rfl ?_
        refine PW_topi (fun x1_8 ex1_8 => ?_)
        replace h := lt_w h ex1_8
        refine PW_istore_n (pc' := 32) (lv' := [(1, .int x1_8), (0, .ref 1000), (2, .int x2)]) (pw_dk dc_X5_standing 19 rfl) rfl rfl (by decide) rfl ?_
        refine PW_sub (lv' := [(0, .ref 1000), (1, .int x1_8), (2, .int x2)]) [1, 0, 2] rfl ?_
        exact b_X5_standing_32 (f_X5_standing_4 n) ih x1_8 x2 σ h
def f_X5_standing  (σ : zS) : Option Int32 := 
  f_X5_standing_4 FU 0 0 σ
theorem t_X5_standing (σ : zS) (Q : Option Value → zS → Prop) (h : wpO (f_X5_standing σ) (fun a => Q (some (.int a)) σ)) : PK alC yX5_standing mX5_standing (5) [.ref 1000] σ Q := by
  refine PC_ofF (by decide +kernel) rfl rfl (Nat.le_of_ble_eq_true rfl) ?_
  show PZ alC mX5_standing (5) Q 0 [(0, .ref 1000)] [] σ
  unfold f_X5_standing at h
  refine PW_iconst (pc' := 1) (v := 0) (pw_dk dc_X5_standing 0 rfl) rfl (by decide) ?_
  refine PW_istore_n (pc' := 2) (lv' := [(1, .int 0), (0, .ref 1000)]) (pw_dk dc_X5_standing 1 rfl) rfl rfl (by decide) rfl ?_
  refine PW_iconst (pc' := 3) (v := 0) (pw_dk dc_X5_standing 2 rfl) rfl (by decide) ?_
  refine PW_istore_n (pc' := 4) (lv' := [(2, .int 0), (1, .int 0), (0, .ref 1000)]) (pw_dk dc_X5_standing 3 rfl) rfl rfl (by decide) rfl ?_
  refine PW_sub (lv' := [(0, .ref 1000), (1, .int 0), (2, .int 0)]) [2, 1, 0] rfl ?_
  exact b_X5_standing_4 FU 0 0 σ h
def f_J9_max_f86c9 (x0 : Int64) (x2 : Int64) (σ : zS) : Int64 := 
  if (lg_cmp x0 x2) < 0 then
    x2
  else
    x0
theorem t_J9_max_f86c9 (al : pAL) (x0 : Int64) (x2 : Int64) (σ : zS) (Q : Option Value → zS → Prop) (h : Q (some (.long (f_J9_max_f86c9 x0 x2 σ))) σ) : PK al yJ9_max_f86c9 mJ9_max_f86c9 (0) [.long x0, .long x2] σ Q := by
  refine PC_ofF (by decide +kernel) rfl rfl (Nat.le_of_ble_eq_true rfl) ?_
  show PZ al mJ9_max_f86c9 (0) Q 0 [(0, .long x0), (2, .long x2)] [] σ
  unfold f_J9_max_f86c9 at h
  refine PW_lload_n (pc' := 1) (q := 0) (pw_dk dc_J9_max_f86c9 0 rfl) rfl rfl rfl ?_
  refine PW_lload_n (pc' := 2) (q := 1) (pw_dk dc_J9_max_f86c9 1 rfl) rfl rfl rfl ?_
  refine PW_lcmp (pc' := 3) (pw_dk dc_J9_max_f86c9 2 rfl) rfl ?_
  refine PW_if_lt (pc' := 6) (tgt := 10) (pw_dk dc_J9_max_f86c9 3 rfl) rfl (by decide) (fun c_1 => ?_) (fun c_1 => ?_)
  · rw [if_pos c_1] at h
    refine PW_lload_n (pc' := 11) (q := 1) (pw_dk dc_J9_max_f86c9 6 rfl) rfl rfl rfl ?_
    exact PZ_lret (pw_dk dc_J9_max_f86c9 7 rfl) rfl h
  · rw [if_neg c_1] at h
    refine PW_lload_n (pc' := 7) (q := 0) (pw_dk dc_J9_max_f86c9 4 rfl) rfl rfl rfl ?_
    refine PW_goto (tgt := 11) (pw_dk dc_J9_max_f86c9 5 rfl) (by decide) ?_
    exact PZ_lret (pw_dk dc_J9_max_f86c9 7 rfl) rfl h
def f_J9_min_f86c9 (x0 : Int64) (x2 : Int64) (σ : zS) : Int64 := 
  if 0 < (lg_cmp x0 x2) then
    x2
  else
    x0
theorem t_J9_min_f86c9 (al : pAL) (x0 : Int64) (x2 : Int64) (σ : zS) (Q : Option Value → zS → Prop) (h : Q (some (.long (f_J9_min_f86c9 x0 x2 σ))) σ) : PK al yJ9_min_f86c9 mJ9_min_f86c9 (0) [.long x0, .long x2] σ Q := by
  refine PC_ofF (by decide +kernel) rfl rfl (Nat.le_of_ble_eq_true rfl) ?_
  show PZ al mJ9_min_f86c9 (0) Q 0 [(0, .long x0), (2, .long x2)] [] σ
  unfold f_J9_min_f86c9 at h
  refine PW_lload_n (pc' := 1) (q := 0) (pw_dk dc_J9_min_f86c9 0 rfl) rfl rfl rfl ?_
  refine PW_lload_n (pc' := 2) (q := 1) (pw_dk dc_J9_min_f86c9 1 rfl) rfl rfl rfl ?_
  refine PW_lcmp (pc' := 3) (pw_dk dc_J9_min_f86c9 2 rfl) rfl ?_
  refine PW_if_gt (pc' := 6) (tgt := 10) (pw_dk dc_J9_min_f86c9 3 rfl) rfl (by decide) (fun c_1 => ?_) (fun c_1 => ?_)
  · rw [if_pos c_1] at h
    refine PW_lload_n (pc' := 11) (q := 1) (pw_dk dc_J9_min_f86c9 6 rfl) rfl rfl rfl ?_
    exact PZ_lret (pw_dk dc_J9_min_f86c9 7 rfl) rfl h
  · rw [if_neg c_1] at h
    refine PW_lload_n (pc' := 7) (q := 0) (pw_dk dc_J9_min_f86c9 4 rfl) rfl rfl rfl ?_
    refine PW_goto (tgt := 11) (pw_dk dc_J9_min_f86c9 5 rfl) (by decide) ?_
    exact PZ_lret (pw_dk dc_J9_min_f86c9 7 rfl) rfl h
def f_X5_collectTax_15 (d1 : Nat) (r2 : Int32 → zS → Option zS) : Nat → Int32 → Int32 → zS → Option zS
  | 0, _, _, _ => none
  | n + 1, x2, x3, σ => 
    if 4 ≤ x3 then
      r2 (x2 + 1) σ
    else
      (rdI σ (d1 + 3) 5 x2).bind fun v_2 =>
      b2 (f_X5_worth 2 x2 v_2 x3 0 (σ.1 d1 0) σ) fun v_7 σ_6 =>
      (f_X0_pay d1 x2 ((f_J9_max_f86c9 0 (f_J9_min_f86c9 v_7 9 σ_6) σ_6).toInt32) σ_6).bind fun σ_12 =>
      f_X5_collectTax_15 d1 r2 n x2 (x3 + 1) σ_12
theorem b_X5_collectTax_15 {Q : Option Value → zS → Prop} (d1 : Nat) (hd1 : isDay d1) (r2 : Int32 → zS → Option zS) (hr2 : ∀ (x2 : Int32) (σ : zS), wpO (r2 x2 σ) (fun s => Q none s) → PZ alC mX5_collectTax (4) Q 2 [(0, .ref 1000), (1, .ref d1), (2, .int x2)] [] σ) : ∀ (n : Nat) (x2 : Int32) (x3 : Int32) (σ : zS) (h : wpO (f_X5_collectTax_15 d1 r2 n x2 x3 σ) (fun s => Q none s)), PZ alC mX5_collectTax (4) Q 15 [(0, .ref 1000), (1, .ref d1), (2, .int x2), (3, .int x3)] [] σ := by
  intro n
  induction n with
  | zero => intro x2 x3 σ h; exact wp_none h
  | succ n ih =>
    intro x2 x3 σ h
    rw [f_X5_collectTax_15] at h
    refine PW_iload_n (pc' := 16) (q := 3) (pw_dk dc_X5_collectTax 9 rfl) rfl rfl rfl ?_
    refine PW_iconst (pc' := 17) (v := 4) (pw_dk dc_X5_collectTax 10 rfl) rfl (by decide) ?_
    refine PW_icmp_ge (pc' := 20) (tgt := 64) (pw_dk dc_X5_collectTax 11 rfl) rfl (by decide) (fun c_1 => ?_) (fun c_1 => ?_)
    · rw [if_pos c_1] at h
      refine PW_iinc (pc' := 67) (q := 2) (v := x2 + 1) (lv' := [(2, .int (x2 + 1)), (0, .ref 1000), (1, .ref d1), (3, .int x3)]) (pw_dk dc_X5_collectTax 36 rfl) rfl rfl rfl (by decide) rfl ?_
      refine PW_goto (tgt := 2) (pw_dk dc_X5_collectTax 37 rfl) (by decide) ?_
      refine PW_sub (lv' := [(0, .ref 1000), (1, .ref d1), (2, .int (x2 + 1))]) [1, 2, 0] rfl ?_
      exact hr2 (x2 + 1) σ h
    · rw [if_neg c_1] at h
      refine PW_aload_n (pc' := 21) (q := 0) (pw_dk dc_X5_collectTax 12 rfl) rfl rfl rfl ?_
      refine PW_iconst (pc' := 22) (v := 2) (pw_dk dc_X5_collectTax 13 rfl) rfl (by decide) ?_
      refine PW_iload_n (pc' := 23) (q := 2) (pw_dk dc_X5_collectTax 14 rfl) rfl rfl rfl ?_
      refine PW_aload_n (pc' := 24) (q := 1) (pw_dk dc_X5_collectTax 15 rfl) rfl rfl rfl ?_
      refine PW_getR (pc' := 27) (id := d1) (ci := 0) (nn := 0) (C0 := RX0) (T := TX0) (N := 6) (j := 2) (r := d1 + 3) (pw_dk dc_X5_collectTax 16 rfl) rfl (me_D hd1) rfl pi_0 (by decide) fk_0_2 tw_465 (rf_D2 _ hd1) (su0 _ _) ?_
      refine PW_iload_n (pc' := 28) (q := 2) (pw_dk dc_X5_collectTax 17 rfl) rfl rfl rfl ?_
      obtain ⟨v_2, hi_3, e_4, h⟩ := wp_rdIx h
      refine PZ_ialdx (pc' := 29) (v := v_2) (id := (d1 + 3)) (nn := 5) (pw_dk dc_X5_collectTax 18 rfl) rfl (me_D2 hd1) hi_3 e_4 ?_
      refine PW_iload_n (pc' := 30) (q := 3) (pw_dk dc_X5_collectTax 19 rfl) rfl rfl rfl ?_
      refine PW_iconst (pc' := 31) (v := 0) (pw_dk dc_X5_collectTax 20 rfl) rfl (by decide) ?_
      refine PW_aload_n (pc' := 32) (q := 1) (pw_dk dc_X5_collectTax 21 rfl) rfl rfl rfl ?_
      refine PZ_getI (pc' := 35) (id := d1) (ci := 0) (nn := 0) (C0 := RX0) (T := TX0) (N := 6) (j := 0) (pw_dk dc_X5_collectTax 22 rfl) rfl (me_D hd1) rfl pi_0 (by decide) fk_0_0 tw_457 ?_
      refine PZ_callVl (pc' := 38) (y := yX5_worth) (M' := mX5_worth) (d' := 3) (As := [.int 2, .int x2, .int v_2, .int x3, .int 0, .int (σ.1 d1 0)]) (st := []) (b := 1000) (ci := 5) (nn := 0) me_1000 rfl tw_935 tw_936 (pw_dk dc_X5_collectTax 23 rfl) rfl Y_X5_worth tw_934 rfl (by decide) (Nat.le_of_ble_eq_true rfl) (t_X5_worth 2 x2 v_2 x3 0 (σ.1 d1 0) σ _ ?_)
      obtain ⟨⟨v_7, σ_6⟩, e_8, h⟩ := wp_bind2 h
      refine ⟨(v_7, σ_6), e_8, _, rfl, fun hn_5 => ?_⟩
      show PZ alC mX5_collectTax (4) Q 38 [(0, .ref 1000), (1, .ref d1), (2, .int x2), (3, .int x3)] [.long v_7] σ_6
      refine PW_lstore (pc' := 40) (lv' := [(4, .long v_7), (0, .ref 1000), (1, .ref d1), (2, .int x2), (3, .int x3)]) (pw_dk dc_X5_collectTax 24 rfl) rfl (by decide) rfl ?_
      refine PW_aload_n (pc' := 41) (q := 2) (pw_dk dc_X5_collectTax 25 rfl) rfl rfl rfl ?_
      refine PW_iload_n (pc' := 42) (q := 3) (pw_dk dc_X5_collectTax 26 rfl) rfl rfl rfl ?_
      refine PW_lconst (pc' := 43) (v := 0) (pw_dk dc_X5_collectTax 27 rfl) rfl (by decide) ?_
      refine PW_lload (pc' := 45) (q := 0) (pw_dk dc_X5_collectTax 28 rfl) rfl rfl ?_
      refine PW_ldc2 (pc' := 48) (v := 9) (pw_dk dc_X5_collectTax 29 rfl) rfl tw_1038 ?_
      refine PZ_callSl (pc' := 51) (y := yJ9_min_f86c9) (M' := mJ9_min_f86c9) (d' := 0) (As := [.long v_7, .long 9]) (st := [.long 0, .int x2, .ref d1]) tw_1040 (pw_dk dc_X5_collectTax 30 rfl) rfl Y_J9_min_f86c9 tw_1039 rfl (by decide) (Nat.le_of_ble_eq_true rfl) (t_J9_min_f86c9 alC v_7 9 σ_6 _ ?_)
      refine ⟨_, rfl, fun hn_9 => ?_⟩
      show PZ alC mX5_collectTax (4) Q 51 [(4, .long v_7), (0, .ref 1000), (1, .ref d1), (2, .int x2), (3, .int x3)] [.long (f_J9_min_f86c9 v_7 9 σ_6), .long 0, .int x2, .ref d1] σ_6
      refine PZ_callSl (pc' := 54) (y := yJ9_max_f86c9) (M' := mJ9_max_f86c9) (d' := 0) (As := [.long 0, .long (f_J9_min_f86c9 v_7 9 σ_6)]) (st := [.int x2, .ref d1]) tw_1043 (pw_dk dc_X5_collectTax 31 rfl) rfl Y_J9_max_f86c9 tw_1042 rfl (by decide) (Nat.le_of_ble_eq_true rfl) (t_J9_max_f86c9 alC 0 (f_J9_min_f86c9 v_7 9 σ_6) σ_6 _ ?_)
      refine ⟨_, rfl, fun hn_10 => ?_⟩
      show PZ alC mX5_collectTax (4) Q 54 [(4, .long v_7), (0, .ref 1000), (1, .ref d1), (2, .int x2), (3, .int x3)] [.long (f_J9_max_f86c9 0 (f_J9_min_f86c9 v_7 9 σ_6) σ_6), .int x2, .ref d1] σ_6
      refine PW_l2i (pc' := 55) (pw_dk dc_X5_collectTax 32 rfl) rfl ?_
      refine PZ_callVv (pc' := 58) (y := yX0_pay) (M' := mX0_pay) (d' := 1) (As := [.int x2, .int ((f_J9_max_f86c9 0 (f_J9_min_f86c9 v_7 9 σ_6) σ_6).toInt32)]) (st := []) (b := d1) (ci := 0) (nn := 0) (me_D hd1) rfl tw_1030 tw_1031 (pw_dk dc_X5_collectTax 33 rfl) rfl Y_X0_pay tw_1029 rfl (by decide) (Nat.le_of_ble_eq_true rfl) (t_X0_pay d1 x2 ((f_J9_max_f86c9 0 (f_J9_min_f86c9 v_7 9 σ_6) σ_6).toInt32) hd1 σ_6 _ ?_)
      obtain ⟨σ_12, e_13, h⟩ := wp_bind h
      refine ⟨σ_12, e_13, rfl, fun hn_11 => ?_⟩
      show PZ alC mX5_collectTax (4) Q 58 [(4, .long v_7), (0, .ref 1000), (1, .ref d1), (2, .int x2), (3, .int x3)] [] σ_12
      refine PW_iinc (pc' := 61) (q := 4) (v := x3 + 1) (lv' := [(3, .int (x3 + 1)), (4, .long v_7), (0, .ref 1000), (1, .ref d1), (2, .int x2)]) (pw_dk dc_X5_collectTax 34 rfl) rfl rfl rfl (by decide) rfl ?_
      refine PW_goto (tgt := 15) (pw_dk dc_X5_collectTax 35 rfl) (by decide) ?_
      refine PW_sub (lv' := [(0, .ref 1000), (1, .ref d1), (2, .int x2), (3, .int (x3 + 1))]) [2, 3, 4, 0] rfl ?_
      exact ih x2 (x3 + 1) σ_12 h
def f_X5_collectTax_2 (d1 : Nat) : Nat → Int32 → zS → Option zS
  | 0, _, _ => none
  | n + 1, x2, σ => 
    if (σ.1 (tv (σ.2.2 2)) 6) ≤ x2 then
      some σ
    else
      f_X5_collectTax_15 d1 (f_X5_collectTax_2 d1 n) FU x2 0 σ
theorem b_X5_collectTax_2 {Q : Option Value → zS → Prop} (d1 : Nat) (hd1 : isDay d1) : ∀ (n : Nat) (x2 : Int32) (σ : zS) (h : wpO (f_X5_collectTax_2 d1 n x2 σ) (fun s => Q none s)), PZ alC mX5_collectTax (4) Q 2 [(0, .ref 1000), (1, .ref d1), (2, .int x2)] [] σ := by
  intro n
  induction n with
  | zero => intro x2 σ h; exact wp_none h
  | succ n ih =>
    intro x2 σ h
    rw [f_X5_collectTax_2] at h
    refine PW_iload_n (pc' := 3) (q := 2) (pw_dk dc_X5_collectTax 2 rfl) rfl rfl rfl ?_
    refine PW_aload_n (pc' := 4) (q := 0) (pw_dk dc_X5_collectTax 3 rfl) rfl rfl rfl ?_
    refine PW_getR (pc' := 7) (id := 1000) (ci := 5) (nn := 0) (C0 := RX5) (T := TX5) (N := 3) (j := 0) (r := tv (σ.2.2 2)) (pw_dk dc_X5_collectTax 4 rfl) rfl me_1000 rfl pi_5 (by decide) fk_5_0 tw_435 (rf_M2 _) (tv0 _) ?_
    refine PZ_getI (pc' := 10) (id := (tv (σ.2.2 2))) (ci := 8) (nn := 0) (C0 := RX8) (T := TX8) (N := 18) (j := 6) (pw_dk dc_X5_collectTax 5 rfl) rfl (me_T _) rfl pi_8 (by decide) fk_8_6 tw_218 ?_
    refine PW_icmp_ge (pc' := 13) (tgt := 70) (pw_dk dc_X5_collectTax 6 rfl) rfl (by decide) (fun c_1 => ?_) (fun c_1 => ?_)
    · rw [if_pos c_1] at h
      have z := wp_some h
      exact PZ_vret (pw_dk dc_X5_collectTax 38 rfl) rfl z
    · rw [if_neg c_1] at h
      refine PW_iconst (pc' := 14) (v := 0) (pw_dk dc_X5_collectTax 7 rfl) rfl (by decide) ?_
      refine PW_istore_n (pc' := 15) (lv' := [(3, .int 0), (0, .ref 1000), (1, .ref d1), (2, .int x2)]) (pw_dk dc_X5_collectTax 8 rfl) rfl rfl (by decide) rfl ?_
      refine PW_sub (lv' := [(0, .ref 1000), (1, .ref d1), (2, .int x2), (3, .int 0)]) [1, 2, 3, 0] rfl ?_
      exact b_X5_collectTax_15 d1 hd1 (f_X5_collectTax_2 d1 n) ih FU x2 0 σ h
def f_X5_collectTax (d1 : Nat) (σ : zS) : Option zS := 
  f_X5_collectTax_2 d1 FU 0 σ
theorem t_X5_collectTax (d1 : Nat) (hd1 : isDay d1) (σ : zS) (Q : Option Value → zS → Prop) (h : wpO (f_X5_collectTax d1 σ) (fun s => Q none s)) : PK alC yX5_collectTax mX5_collectTax (4) [.ref 1000, .ref d1] σ Q := by
  refine PC_ofF (by decide +kernel) rfl rfl (Nat.le_of_ble_eq_true rfl) ?_
  show PZ alC mX5_collectTax (4) Q 0 [(0, .ref 1000), (1, .ref d1)] [] σ
  unfold f_X5_collectTax at h
  refine PW_iconst (pc' := 1) (v := 0) (pw_dk dc_X5_collectTax 0 rfl) rfl (by decide) ?_
  refine PW_istore_n (pc' := 2) (lv' := [(2, .int 0), (0, .ref 1000), (1, .ref d1)]) (pw_dk dc_X5_collectTax 1 rfl) rfl rfl (by decide) rfl ?_
  refine PW_sub (lv' := [(0, .ref 1000), (1, .ref d1), (2, .int 0)]) [1, 2, 0] rfl ?_
  exact b_X5_collectTax_2 d1 hd1 FU 0 σ h
def f_X5_punish_20 (d1 : Nat) (x2 : Int32) (σ : zS) : Option zS := 
  (f_X0_pay d1 x2 (σ.1 (tv (σ.2.2 2)) 16) σ).bind fun σ_2 =>
  some σ_2
theorem b_X5_punish_20 {Q : Option Value → zS → Prop} (d1 : Nat) (hd1 : isDay d1) (x2 : Int32) (σ : zS) (h : wpO (f_X5_punish_20 d1 x2 σ) (fun s => Q none s)) : PZ alC mX5_punish (2) Q 20 [(0, .ref 1000), (1, .ref d1), (2, .int x2)] [] σ := by
  unfold f_X5_punish_20 at h
  refine PW_aload_n (pc' := 21) (q := 1) (pw_dk dc_X5_punish 14 rfl) rfl rfl rfl ?_
  refine PW_iload_n (pc' := 22) (q := 2) (pw_dk dc_X5_punish 15 rfl) rfl rfl rfl ?_
  refine PW_aload_n (pc' := 23) (q := 0) (pw_dk dc_X5_punish 16 rfl) rfl rfl rfl ?_
  refine PW_getR (pc' := 26) (id := 1000) (ci := 5) (nn := 0) (C0 := RX5) (T := TX5) (N := 3) (j := 0) (r := tv (σ.2.2 2)) (pw_dk dc_X5_punish 17 rfl) rfl me_1000 rfl pi_5 (by decide) fk_5_0 tw_435 (rf_M2 _) (tv0 _) ?_
  refine PZ_getI (pc' := 29) (id := (tv (σ.2.2 2))) (ci := 8) (nn := 0) (C0 := RX8) (T := TX8) (N := 18) (j := 16) (pw_dk dc_X5_punish 18 rfl) rfl (me_T _) rfl pi_8 (by decide) fk_8_16 tw_247 ?_
  refine PZ_callVv (pc' := 32) (y := yX0_pay) (M' := mX0_pay) (d' := 1) (As := [.int x2, .int (σ.1 (tv (σ.2.2 2)) 16)]) (st := []) (b := d1) (ci := 0) (nn := 0) (me_D hd1) rfl tw_1030 tw_1031 (pw_dk dc_X5_punish 19 rfl) rfl Y_X0_pay tw_1029 rfl (by decide) (Nat.le_of_ble_eq_true rfl) (t_X0_pay d1 x2 (σ.1 (tv (σ.2.2 2)) 16) hd1 σ _ ?_)
  obtain ⟨σ_2, e_3, h⟩ := wp_bind h
  refine ⟨σ_2, e_3, rfl, fun hn_1 => ?_⟩
  show PZ alC mX5_punish (2) Q 32 [(0, .ref 1000), (1, .ref d1), (2, .int x2)] [] σ_2
  have z := wp_some h
  exact PZ_vret (pw_dk dc_X5_punish 20 rfl) rfl z
def f_X5_punish (d1 : Nat) (x2 : Int32) (x3 : Int32) (σ : zS) : Option zS := 
  if (σ.1 1000 1) = 4 then
    f_X5_punish_20 d1 x2 σ
  else
    (rdI σ (d1 + 5) 5 x2).bind fun v_2 =>
    (wrI σ (d1 + 5) 5 x2 (v_2 ||| ((1 : Int32) <<< (x3 &&& 31)))).bind fun σ_5 =>
    f_X5_punish_20 d1 x2 σ_5
theorem t_X5_punish (d1 : Nat) (x2 : Int32) (x3 : Int32) (hd1 : isDay d1) (σ : zS) (Q : Option Value → zS → Prop) (h : wpO (f_X5_punish d1 x2 x3 σ) (fun s => Q none s)) : PK alC yX5_punish mX5_punish (2) [.ref 1000, .ref d1, .int x2, .int x3] σ Q := by
  refine PC_ofF (by decide +kernel) rfl rfl (Nat.le_of_ble_eq_true rfl) ?_
  show PZ alC mX5_punish (2) Q 0 [(0, .ref 1000), (1, .ref d1), (2, .int x2), (3, .int x3)] [] σ
  unfold f_X5_punish at h
  refine PW_aload_n (pc' := 1) (q := 0) (pw_dk dc_X5_punish 0 rfl) rfl rfl rfl ?_
  refine PZ_getI (pc' := 4) (id := 1000) (ci := 5) (nn := 0) (C0 := RX5) (T := TX5) (N := 3) (j := 1) (pw_dk dc_X5_punish 1 rfl) rfl me_1000 rfl pi_5 (by decide) fk_5_1 tw_437 ?_
  refine PW_iconst (pc' := 5) (v := 4) (pw_dk dc_X5_punish 2 rfl) rfl (by decide) ?_
  refine PW_icmp_eq (pc' := 8) (tgt := 20) (pw_dk dc_X5_punish 3 rfl) rfl (by decide) (fun c_1 => ?_) (fun c_1 => ?_)
  · rw [if_pos c_1] at h
    refine PW_sub (lv' := [(0, .ref 1000), (1, .ref d1), (2, .int x2)]) [0, 1, 2] rfl ?_
    exact b_X5_punish_20 d1 hd1 x2 σ h
  · rw [if_neg c_1] at h
    refine PW_aload_n (pc' := 9) (q := 1) (pw_dk dc_X5_punish 4 rfl) rfl rfl rfl ?_
    refine PW_getR (pc' := 12) (id := d1) (ci := 0) (nn := 0) (C0 := RX0) (T := TX0) (N := 6) (j := 4) (r := d1 + 5) (pw_dk dc_X5_punish 5 rfl) rfl (me_D hd1) rfl pi_0 (by decide) fk_0_4 tw_472 (rf_D4 _ hd1) (su0 _ _) ?_
    refine PW_iload_n (pc' := 13) (q := 2) (pw_dk dc_X5_punish 6 rfl) rfl rfl rfl ?_
    refine PW_dup2 (pc' := 14) (pw_dk dc_X5_punish 7 rfl) rfl rfl rfl ?_
    obtain ⟨v_2, hi_3, e_4, h⟩ := wp_rdIx h
    refine PZ_ialdx (pc' := 15) (v := v_2) (id := (d1 + 5)) (nn := 5) (pw_dk dc_X5_punish 8 rfl) rfl (me_D4 hd1) hi_3 e_4 ?_
    refine PW_iconst (pc' := 16) (v := 1) (pw_dk dc_X5_punish 9 rfl) rfl (by decide) ?_
    refine PW_iload_n (pc' := 17) (q := 3) (pw_dk dc_X5_punish 10 rfl) rfl rfl rfl ?_
    refine PW_ishl (pc' := 18) (pw_dk dc_X5_punish 11 rfl) rfl ?_
    refine PW_ior (pc' := 19) (pw_dk dc_X5_punish 12 rfl) rfl ?_
    obtain ⟨σ_5, hi_6, e_7, h⟩ := wp_wrIx h
    refine PZ_iastx (pc' := 20) (σ' := σ_5) (id := (d1 + 5)) (nn := 5) (pw_dk dc_X5_punish 13 rfl) rfl (me_D4 hd1) hi_6 e_7 ?_
    refine PW_sub (lv' := [(0, .ref 1000), (1, .ref d1), (2, .int x2)]) [0, 1, 2] rfl ?_
    exact b_X5_punish_20 d1 hd1 x2 σ_5 h
def f_X5_passHour_140 (d1 : Nat) (r2 : Int32 → zS → Option zS) (x2 : Int32) (σ : zS) : Option zS := 
  r2 (x2 + 1) σ
theorem b_X5_passHour_140 {Q : Option Value → zS → Prop} (d1 : Nat) (hd1 : isDay d1) (r2 : Int32 → zS → Option zS) (hr2 : ∀ (x2 : Int32) (σ : zS), wpO (r2 x2 σ) (fun s => Q none s) → PZ alC mX5_passHour (6) Q 2 [(0, .ref 1000), (1, .ref d1), (2, .int x2)] [] σ) (x2 : Int32) (σ : zS) (h : wpO (f_X5_passHour_140 d1 r2 x2 σ) (fun s => Q none s)) : PZ alC mX5_passHour (6) Q 140 [(0, .ref 1000), (1, .ref d1), (2, .int x2)] [] σ := by
  unfold f_X5_passHour_140 at h
  refine PW_iinc (pc' := 143) (q := 2) (v := x2 + 1) (lv' := [(2, .int (x2 + 1)), (0, .ref 1000), (1, .ref d1)]) (pw_dk dc_X5_passHour 78 rfl) rfl rfl rfl (by decide) rfl ?_
  refine PW_goto (tgt := 2) (pw_dk dc_X5_passHour 79 rfl) (by decide) ?_
  refine PW_sub (lv' := [(0, .ref 1000), (1, .ref d1), (2, .int (x2 + 1))]) [1, 2, 0] rfl ?_
  exact hr2 (x2 + 1) σ h
def f_X5_passHour_160 (d1 : Nat)  (σ : zS) : Option zS := 
  lt (wI σ d1 0 ((σ.1 d1 0) + (1 : Int32))) fun σ_1 =>
  some σ_1
theorem b_X5_passHour_160 {Q : Option Value → zS → Prop} (d1 : Nat) (hd1 : isDay d1)  (σ : zS) (h : wpO (f_X5_passHour_160 d1 σ) (fun s => Q none s)) : PZ alC mX5_passHour (6) Q 160 [(1, .ref d1)] [] σ := by
  unfold f_X5_passHour_160 at h
  refine PW_aload_n (pc' := 161) (q := 0) (pw_dk dc_X5_passHour 87 rfl) rfl rfl rfl ?_
  refine PW_dup (pc' := 162) (pw_dk dc_X5_passHour 88 rfl) rfl rfl ?_
  refine PZ_getI (pc' := 165) (id := d1) (ci := 0) (nn := 0) (C0 := RX0) (T := TX0) (N := 6) (j := 0) (pw_dk dc_X5_passHour 89 rfl) rfl (me_D hd1) rfl pi_0 (by decide) fk_0_0 tw_457 ?_
  refine PW_iconst (pc' := 166) (v := 1) (pw_dk dc_X5_passHour 90 rfl) rfl (by decide) ?_
  refine PW_iadd (pc' := 167) (pw_dk dc_X5_passHour 91 rfl) rfl ?_
  obtain ⟨σ_1, e_2, h⟩ := lt_x h
  refine PZ_putX (pc' := 170) (σ' := σ_1) (id := d1) (ci := 0) (nn := 0) (C0 := RX0) (T := TX0) (N := 6) (j := 0) (ty := tyX0 0) (pw_dk dc_X5_passHour 92 rfl) rfl (me_D hd1) rfl pi_0 tyX0_ok nmX0 (by decide) fk_0_0 tw_457 rfl (tyX0_ok 0 (by decide)) (by first | rfl | decide) (by first | rfl | decide) e_2 ?_
  have z := wp_some h
  exact PZ_vret (pw_dk dc_X5_passHour 93 rfl) rfl z
def f_X5_passHour_2 (d1 : Nat) : Nat → Int32 → zS → Option zS
  | 0, _, _ => none
  | n + 1, x2, σ => 
    if (σ.1 (tv (σ.2.2 2)) 11) ≤ x2 then
      if (σ.1 d1 0) = 23 then
        (f_X5_collectTax d1 σ).bind fun σ_4 =>
        f_X5_passHour_160 d1 σ_4
      else
        f_X5_passHour_160 d1 σ
    else
      (rdI σ (tv (σ.2.2 2) + 16) 12 x2).bind fun v_6 =>
      if v_6 = (σ.1 d1 0) then
        (rdI σ (tv (σ.2.2 2) + 13) 12 x2).bind fun v_10 =>
        if v_10 = (σ.1 1000 2) then
          f_X5_passHour_140 d1 (f_X5_passHour_2 d1 n) x2 σ
        else
          (rdI σ (tv (σ.2.2 2) + 13) 12 x2).bind fun v_14 =>
          (rdI σ (tv (σ.2.2 2) + 14) 12 x2).bind fun v_17 =>
          (f_X0_isSeized d1 v_14 v_17 σ).bind fun v_21 =>
          if v_21 = 0 then
            (rdI σ (d1 + 3) 5 v_14).bind fun v_24 =>
            (rdI σ (tv (σ.2.2 2) + 15) 12 x2).bind fun v_27 =>
            b2 (f_X5_allows v_14 v_24 v_17 v_27 (σ.1 d1 0) σ) fun v_32 σ_31 =>
            if v_32 = 0 then
              (wrI σ_31 (d1 + 6) 12 x2 2).bind fun σ_35 =>
              (f_X5_punish d1 v_14 v_17 σ_35).bind fun σ_39 =>
              f_X5_passHour_140 d1 (f_X5_passHour_2 d1 n) x2 σ_39
            else
              (wrI σ_31 (d1 + 6) 12 x2 1).bind fun σ_41 =>
              f_X5_passHour_140 d1 (f_X5_passHour_2 d1 n) x2 σ_41
          else
            (wrI σ (d1 + 6) 12 x2 3).bind fun σ_44 =>
            f_X5_passHour_140 d1 (f_X5_passHour_2 d1 n) x2 σ_44
      else
        f_X5_passHour_140 d1 (f_X5_passHour_2 d1 n) x2 σ
theorem b_X5_passHour_2 {Q : Option Value → zS → Prop} (d1 : Nat) (hd1 : isDay d1) : ∀ (n : Nat) (x2 : Int32) (σ : zS) (h : wpO (f_X5_passHour_2 d1 n x2 σ) (fun s => Q none s)), PZ alC mX5_passHour (6) Q 2 [(0, .ref 1000), (1, .ref d1), (2, .int x2)] [] σ := by
  intro n
  induction n with
  | zero => intro x2 σ h; exact wp_none h
  | succ n ih =>
    intro x2 σ h
    rw [f_X5_passHour_2] at h
    refine PW_iload_n (pc' := 3) (q := 2) (pw_dk dc_X5_passHour 2 rfl) rfl rfl rfl ?_
    refine PW_aload_n (pc' := 4) (q := 0) (pw_dk dc_X5_passHour 3 rfl) rfl rfl rfl ?_
    refine PW_getR (pc' := 7) (id := 1000) (ci := 5) (nn := 0) (C0 := RX5) (T := TX5) (N := 3) (j := 0) (r := tv (σ.2.2 2)) (pw_dk dc_X5_passHour 4 rfl) rfl me_1000 rfl pi_5 (by decide) fk_5_0 tw_435 (rf_M2 _) (tv0 _) ?_
    refine PZ_getI (pc' := 10) (id := (tv (σ.2.2 2))) (ci := 8) (nn := 0) (C0 := RX8) (T := TX8) (N := 18) (j := 11) (pw_dk dc_X5_passHour 5 rfl) rfl (me_T _) rfl pi_8 (by decide) fk_8_11 tw_231 ?_
    refine PW_icmp_ge (pc' := 13) (tgt := 146) (pw_dk dc_X5_passHour 6 rfl) rfl (by decide) (fun c_1 => ?_) (fun c_1 => ?_)
    · rw [if_pos c_1] at h
      refine PW_aload_n (pc' := 147) (q := 1) (pw_dk dc_X5_passHour 80 rfl) rfl rfl rfl ?_
      refine PZ_getI (pc' := 150) (id := d1) (ci := 0) (nn := 0) (C0 := RX0) (T := TX0) (N := 6) (j := 0) (pw_dk dc_X5_passHour 81 rfl) rfl (me_D hd1) rfl pi_0 (by decide) fk_0_0 tw_457 ?_
      refine PW_bipush (pc' := 152) (v := 23) (pw_dk dc_X5_passHour 82 rfl) rfl (by decide) ?_
      refine PW_icmp_ne (pc' := 155) (tgt := 160) (pw_dk dc_X5_passHour 83 rfl) rfl (by decide) (fun c_2 => ?_) (fun c_2 => ?_)
      · rw [if_neg c_2] at h
        refine PW_sub (lv' := [(1, .ref d1)]) [1] rfl ?_
        exact b_X5_passHour_160 d1 hd1 σ h
      · rw [if_pos c_2] at h
        refine PW_aload_n (pc' := 156) (q := 0) (pw_dk dc_X5_passHour 84 rfl) rfl rfl rfl ?_
        refine PW_aload_n (pc' := 157) (q := 1) (pw_dk dc_X5_passHour 85 rfl) rfl rfl rfl ?_
        refine PZ_callVv (pc' := 160) (y := yX5_collectTax) (M' := mX5_collectTax) (d' := 4) (As := [.ref d1]) (st := []) (b := 1000) (ci := 5) (nn := 0) me_1000 rfl tw_1036 tw_33 (pw_dk dc_X5_passHour 86 rfl) rfl Y_X5_collectTax tw_1034 rfl (by decide) (Nat.le_of_ble_eq_true rfl) (t_X5_collectTax d1 hd1 σ _ ?_)
        obtain ⟨σ_4, e_5, h⟩ := wp_bind h
        refine ⟨σ_4, e_5, rfl, fun hn_3 => ?_⟩
        show PZ alC mX5_passHour (6) Q 160 [(0, .ref 1000), (1, .ref d1), (2, .int x2)] [] σ_4
        refine PW_sub (lv' := [(1, .ref d1)]) [1] rfl ?_
        exact b_X5_passHour_160 d1 hd1 σ_4 h
    · rw [if_neg c_1] at h
      refine PW_aload_n (pc' := 14) (q := 0) (pw_dk dc_X5_passHour 7 rfl) rfl rfl rfl ?_
      refine PW_getR (pc' := 17) (id := 1000) (ci := 5) (nn := 0) (C0 := RX5) (T := TX5) (N := 3) (j := 0) (r := tv (σ.2.2 2)) (pw_dk dc_X5_passHour 8 rfl) rfl me_1000 rfl pi_5 (by decide) fk_5_0 tw_435 (rf_M2 _) (tv0 _) ?_
      refine PW_getR (pc' := 20) (id := (tv (σ.2.2 2))) (ci := 8) (nn := 0) (C0 := RX8) (T := TX8) (N := 18) (j := 15) (r := tv (σ.2.2 2) + 16) (pw_dk dc_X5_passHour 9 rfl) rfl (me_T _) rfl pi_8 (by decide) fk_8_15 tw_243 (rf_T15 _ _) (su0 _ _) ?_
      refine PW_iload_n (pc' := 21) (q := 2) (pw_dk dc_X5_passHour 10 rfl) rfl rfl rfl ?_
      obtain ⟨v_6, hi_7, e_8, h⟩ := wp_rdIx h
      refine PZ_ialdx (pc' := 22) (v := v_6) (id := (tv (σ.2.2 2) + 16)) (nn := 12) (pw_dk dc_X5_passHour 11 rfl) rfl (me_T15 _) hi_7 e_8 ?_
      refine PW_aload_n (pc' := 23) (q := 1) (pw_dk dc_X5_passHour 12 rfl) rfl rfl rfl ?_
      refine PZ_getI (pc' := 26) (id := d1) (ci := 0) (nn := 0) (C0 := RX0) (T := TX0) (N := 6) (j := 0) (pw_dk dc_X5_passHour 13 rfl) rfl (me_D hd1) rfl pi_0 (by decide) fk_0_0 tw_457 ?_
      refine PW_icmp_ne (pc' := 29) (tgt := 140) (pw_dk dc_X5_passHour 14 rfl) rfl (by decide) (fun c_9 => ?_) (fun c_9 => ?_)
      · rw [if_neg c_9] at h
        exact b_X5_passHour_140 d1 hd1 (f_X5_passHour_2 d1 n) ih x2 σ h
      · rw [if_pos c_9] at h
        refine PW_aload_n (pc' := 30) (q := 0) (pw_dk dc_X5_passHour 15 rfl) rfl rfl rfl ?_
        refine PW_getR (pc' := 33) (id := 1000) (ci := 5) (nn := 0) (C0 := RX5) (T := TX5) (N := 3) (j := 0) (r := tv (σ.2.2 2)) (pw_dk dc_X5_passHour 16 rfl) rfl me_1000 rfl pi_5 (by decide) fk_5_0 tw_435 (rf_M2 _) (tv0 _) ?_
        refine PW_getR (pc' := 36) (id := (tv (σ.2.2 2))) (ci := 8) (nn := 0) (C0 := RX8) (T := TX8) (N := 18) (j := 12) (r := tv (σ.2.2 2) + 13) (pw_dk dc_X5_passHour 17 rfl) rfl (me_T _) rfl pi_8 (by decide) fk_8_12 tw_234 (rf_T12 _ _) (su0 _ _) ?_
        refine PW_iload_n (pc' := 37) (q := 2) (pw_dk dc_X5_passHour 18 rfl) rfl rfl rfl ?_
        obtain ⟨v_10, hi_11, e_12, h⟩ := wp_rdIx h
        refine PZ_ialdx (pc' := 38) (v := v_10) (id := (tv (σ.2.2 2) + 13)) (nn := 12) (pw_dk dc_X5_passHour 19 rfl) rfl (me_T12 _) hi_11 e_12 ?_
        refine PW_aload_n (pc' := 39) (q := 0) (pw_dk dc_X5_passHour 20 rfl) rfl rfl rfl ?_
        refine PZ_getI (pc' := 42) (id := 1000) (ci := 5) (nn := 0) (C0 := RX5) (T := TX5) (N := 3) (j := 2) (pw_dk dc_X5_passHour 21 rfl) rfl me_1000 rfl pi_5 (by decide) fk_5_2 tw_439 ?_
        refine PW_icmp_eq (pc' := 45) (tgt := 140) (pw_dk dc_X5_passHour 22 rfl) rfl (by decide) (fun c_13 => ?_) (fun c_13 => ?_)
        · rw [if_pos c_13] at h
          exact b_X5_passHour_140 d1 hd1 (f_X5_passHour_2 d1 n) ih x2 σ h
        · rw [if_neg c_13] at h
          refine PW_aload_n (pc' := 46) (q := 0) (pw_dk dc_X5_passHour 23 rfl) rfl rfl rfl ?_
          refine PW_getR (pc' := 49) (id := 1000) (ci := 5) (nn := 0) (C0 := RX5) (T := TX5) (N := 3) (j := 0) (r := tv (σ.2.2 2)) (pw_dk dc_X5_passHour 24 rfl) rfl me_1000 rfl pi_5 (by decide) fk_5_0 tw_435 (rf_M2 _) (tv0 _) ?_
          refine PW_getR (pc' := 52) (id := (tv (σ.2.2 2))) (ci := 8) (nn := 0) (C0 := RX8) (T := TX8) (N := 18) (j := 12) (r := tv (σ.2.2 2) + 13) (pw_dk dc_X5_passHour 25 rfl) rfl (me_T _) rfl pi_8 (by decide) fk_8_12 tw_234 (rf_T12 _ _) (su0 _ _) ?_
          refine PW_iload_n (pc' := 53) (q := 2) (pw_dk dc_X5_passHour 26 rfl) rfl rfl rfl ?_
          obtain ⟨v_14, hi_15, e_16, h⟩ := wp_rdIx h
          refine PZ_ialdx (pc' := 54) (v := v_14) (id := (tv (σ.2.2 2) + 13)) (nn := 12) (pw_dk dc_X5_passHour 27 rfl) rfl (me_T12 _) hi_15 e_16 ?_
          refine PW_istore_n (pc' := 55) (lv' := [(3, .int v_14), (0, .ref 1000), (1, .ref d1), (2, .int x2)]) (pw_dk dc_X5_passHour 28 rfl) rfl rfl (by decide) rfl ?_
          refine PW_aload_n (pc' := 56) (q := 1) (pw_dk dc_X5_passHour 29 rfl) rfl rfl rfl ?_
          refine PW_getR (pc' := 59) (id := 1000) (ci := 5) (nn := 0) (C0 := RX5) (T := TX5) (N := 3) (j := 0) (r := tv (σ.2.2 2)) (pw_dk dc_X5_passHour 30 rfl) rfl me_1000 rfl pi_5 (by decide) fk_5_0 tw_435 (rf_M2 _) (tv0 _) ?_
          refine PW_getR (pc' := 62) (id := (tv (σ.2.2 2))) (ci := 8) (nn := 0) (C0 := RX8) (T := TX8) (N := 18) (j := 13) (r := tv (σ.2.2 2) + 14) (pw_dk dc_X5_passHour 31 rfl) rfl (me_T _) rfl pi_8 (by decide) fk_8_13 tw_237 (rf_T13 _ _) (su0 _ _) ?_
          refine PW_iload_n (pc' := 63) (q := 3) (pw_dk dc_X5_passHour 32 rfl) rfl rfl rfl ?_
          obtain ⟨v_17, hi_18, e_19, h⟩ := wp_rdIx h
          refine PZ_ialdx (pc' := 64) (v := v_17) (id := (tv (σ.2.2 2) + 14)) (nn := 12) (pw_dk dc_X5_passHour 33 rfl) rfl (me_T13 _) hi_18 e_19 ?_
          refine PW_istore (pc' := 66) (lv' := [(4, .int v_17), (3, .int v_14), (0, .ref 1000), (1, .ref d1), (2, .int x2)]) (pw_dk dc_X5_passHour 34 rfl) rfl (by decide) rfl ?_
          refine PW_aload_n (pc' := 67) (q := 3) (pw_dk dc_X5_passHour 35 rfl) rfl rfl rfl ?_
          refine PW_iload_n (pc' := 68) (q := 1) (pw_dk dc_X5_passHour 36 rfl) rfl rfl rfl ?_
          refine PW_iload (pc' := 70) (q := 0) (pw_dk dc_X5_passHour 37 rfl) rfl rfl ?_
          refine PZ_callVi (pc' := 73) (y := yX0_isSeized) (M' := mX0_isSeized) (d' := 0) (As := [.int v_14, .int v_17]) (st := []) (b := d1) (ci := 0) (nn := 0) (me_D hd1) rfl tw_958 tw_959 (pw_dk dc_X5_passHour 38 rfl) rfl Y_X0_isSeized tw_1023 rfl (by decide) (Nat.le_of_ble_eq_true rfl) (t_X0_isSeized d1 v_14 v_17 hd1 σ _ ?_)
          obtain ⟨v_21, e_22, h⟩ := wp_bind h
          refine ⟨v_21, e_22, _, rfl, fun hn_20 => ?_⟩
          show PZ alC mX5_passHour (6) Q 73 [(4, .int v_17), (3, .int v_14), (0, .ref 1000), (1, .ref d1), (2, .int x2)] [.int v_21] σ
          refine PW_if_eq (pc' := 76) (tgt := 86) (pw_dk dc_X5_passHour 39 rfl) rfl (by decide) (fun c_23 => ?_) (fun c_23 => ?_)
          · rw [if_pos c_23] at h
            refine PW_aload_n (pc' := 87) (q := 2) (pw_dk dc_X5_passHour 46 rfl) rfl rfl rfl ?_
            refine PW_iload_n (pc' := 88) (q := 1) (pw_dk dc_X5_passHour 47 rfl) rfl rfl rfl ?_
            refine PW_aload_n (pc' := 89) (q := 3) (pw_dk dc_X5_passHour 48 rfl) rfl rfl rfl ?_
            refine PW_getR (pc' := 92) (id := d1) (ci := 0) (nn := 0) (C0 := RX0) (T := TX0) (N := 6) (j := 2) (r := d1 + 3) (pw_dk dc_X5_passHour 49 rfl) rfl (me_D hd1) rfl pi_0 (by decide) fk_0_2 tw_465 (rf_D2 _ hd1) (su0 _ _) ?_
            refine PW_iload_n (pc' := 93) (q := 1) (pw_dk dc_X5_passHour 50 rfl) rfl rfl rfl ?_
            obtain ⟨v_24, hi_25, e_26, h⟩ := wp_rdIx h
            refine PZ_ialdx (pc' := 94) (v := v_24) (id := (d1 + 3)) (nn := 5) (pw_dk dc_X5_passHour 51 rfl) rfl (me_D2 hd1) hi_25 e_26 ?_
            refine PW_iload (pc' := 96) (q := 0) (pw_dk dc_X5_passHour 52 rfl) rfl rfl ?_
            refine PW_aload_n (pc' := 97) (q := 2) (pw_dk dc_X5_passHour 53 rfl) rfl rfl rfl ?_
            refine PW_getR (pc' := 100) (id := 1000) (ci := 5) (nn := 0) (C0 := RX5) (T := TX5) (N := 3) (j := 0) (r := tv (σ.2.2 2)) (pw_dk dc_X5_passHour 54 rfl) rfl me_1000 rfl pi_5 (by decide) fk_5_0 tw_435 (rf_M2 _) (tv0 _) ?_
            refine PW_getR (pc' := 103) (id := (tv (σ.2.2 2))) (ci := 8) (nn := 0) (C0 := RX8) (T := TX8) (N := 18) (j := 14) (r := tv (σ.2.2 2) + 15) (pw_dk dc_X5_passHour 55 rfl) rfl (me_T _) rfl pi_8 (by decide) fk_8_14 tw_240 (rf_T14 _ _) (su0 _ _) ?_
            refine PW_iload_n (pc' := 104) (q := 4) (pw_dk dc_X5_passHour 56 rfl) rfl rfl rfl ?_
            obtain ⟨v_27, hi_28, e_29, h⟩ := wp_rdIx h
            refine PZ_ialdx (pc' := 105) (v := v_27) (id := (tv (σ.2.2 2) + 15)) (nn := 12) (pw_dk dc_X5_passHour 57 rfl) rfl (me_T14 _) hi_28 e_29 ?_
            refine PW_aload_n (pc' := 106) (q := 3) (pw_dk dc_X5_passHour 58 rfl) rfl rfl rfl ?_
            refine PZ_getI (pc' := 109) (id := d1) (ci := 0) (nn := 0) (C0 := RX0) (T := TX0) (N := 6) (j := 0) (pw_dk dc_X5_passHour 59 rfl) rfl (me_D hd1) rfl pi_0 (by decide) fk_0_0 tw_457 ?_
            refine PZ_callVi (pc' := 112) (y := yX5_allows) (M' := mX5_allows) (d' := 5) (As := [.int v_14, .int v_24, .int v_17, .int v_27, .int (σ.1 d1 0)]) (st := []) (b := 1000) (ci := 5) (nn := 0) me_1000 rfl tw_969 tw_970 (pw_dk dc_X5_passHour 60 rfl) rfl Y_X5_allows tw_1024 rfl (by decide) (Nat.le_of_ble_eq_true rfl) (t_X5_allows v_14 v_24 v_17 v_27 (σ.1 d1 0) σ _ ?_)
            obtain ⟨⟨v_32, σ_31⟩, e_33, h⟩ := wp_bind2 h
            refine ⟨(v_32, σ_31), e_33, _, rfl, fun hn_30 => ?_⟩
            show PZ alC mX5_passHour (6) Q 112 [(4, .int v_17), (3, .int v_14), (0, .ref 1000), (1, .ref d1), (2, .int x2)] [.int v_32] σ_31
            refine PW_if_eq (pc' := 115) (tgt := 125) (pw_dk dc_X5_passHour 61 rfl) rfl (by decide) (fun c_34 => ?_) (fun c_34 => ?_)
            · rw [if_pos c_34] at h
              refine PW_aload_n (pc' := 126) (q := 3) (pw_dk dc_X5_passHour 68 rfl) rfl rfl rfl ?_
              refine PW_getR (pc' := 129) (id := d1) (ci := 0) (nn := 0) (C0 := RX0) (T := TX0) (N := 6) (j := 5) (r := d1 + 6) (pw_dk dc_X5_passHour 69 rfl) rfl (me_D hd1) rfl pi_0 (by decide) fk_0_5 tw_475 (rf_D5 _ hd1) (su0 _ _) ?_
              refine PW_iload_n (pc' := 130) (q := 4) (pw_dk dc_X5_passHour 70 rfl) rfl rfl rfl ?_
              refine PW_iconst (pc' := 131) (v := 2) (pw_dk dc_X5_passHour 71 rfl) rfl (by decide) ?_
              obtain ⟨σ_35, hi_36, e_37, h⟩ := wp_wrIx h
              refine PZ_iastx (pc' := 132) (σ' := σ_35) (id := (d1 + 6)) (nn := 12) (pw_dk dc_X5_passHour 72 rfl) rfl (me_D5 hd1) hi_36 e_37 ?_
              refine PW_aload_n (pc' := 133) (q := 2) (pw_dk dc_X5_passHour 73 rfl) rfl rfl rfl ?_
              refine PW_aload_n (pc' := 134) (q := 3) (pw_dk dc_X5_passHour 74 rfl) rfl rfl rfl ?_
              refine PW_iload_n (pc' := 135) (q := 1) (pw_dk dc_X5_passHour 75 rfl) rfl rfl rfl ?_
              refine PW_iload (pc' := 137) (q := 0) (pw_dk dc_X5_passHour 76 rfl) rfl rfl ?_
              refine PZ_callVv (pc' := 140) (y := yX5_punish) (M' := mX5_punish) (d' := 2) (As := [.ref d1, .int v_14, .int v_17]) (st := []) (b := 1000) (ci := 5) (nn := 0) me_1000 rfl tw_1027 tw_32 (pw_dk dc_X5_passHour 77 rfl) rfl Y_X5_punish tw_1025 rfl (by decide) (Nat.le_of_ble_eq_true rfl) (t_X5_punish d1 v_14 v_17 hd1 σ_35 _ ?_)
              obtain ⟨σ_39, e_40, h⟩ := wp_bind h
              refine ⟨σ_39, e_40, rfl, fun hn_38 => ?_⟩
              show PZ alC mX5_passHour (6) Q 140 [(4, .int v_17), (3, .int v_14), (0, .ref 1000), (1, .ref d1), (2, .int x2)] [] σ_39
              refine PW_sub (lv' := [(0, .ref 1000), (1, .ref d1), (2, .int x2)]) [2, 3, 4] rfl ?_
              exact b_X5_passHour_140 d1 hd1 (f_X5_passHour_2 d1 n) ih x2 σ_39 h
            · rw [if_neg c_34] at h
              refine PW_aload_n (pc' := 116) (q := 3) (pw_dk dc_X5_passHour 62 rfl) rfl rfl rfl ?_
              refine PW_getR (pc' := 119) (id := d1) (ci := 0) (nn := 0) (C0 := RX0) (T := TX0) (N := 6) (j := 5) (r := d1 + 6) (pw_dk dc_X5_passHour 63 rfl) rfl (me_D hd1) rfl pi_0 (by decide) fk_0_5 tw_475 (rf_D5 _ hd1) (su0 _ _) ?_
              refine PW_iload_n (pc' := 120) (q := 4) (pw_dk dc_X5_passHour 64 rfl) rfl rfl rfl ?_
              refine PW_iconst (pc' := 121) (v := 1) (pw_dk dc_X5_passHour 65 rfl) rfl (by decide) ?_
              obtain ⟨σ_41, hi_42, e_43, h⟩ := wp_wrIx h
              refine PZ_iastx (pc' := 122) (σ' := σ_41) (id := (d1 + 6)) (nn := 12) (pw_dk dc_X5_passHour 66 rfl) rfl (me_D5 hd1) hi_42 e_43 ?_
              refine PW_goto (tgt := 140) (pw_dk dc_X5_passHour 67 rfl) (by decide) ?_
              refine PW_sub (lv' := [(0, .ref 1000), (1, .ref d1), (2, .int x2)]) [2, 3, 4] rfl ?_
              exact b_X5_passHour_140 d1 hd1 (f_X5_passHour_2 d1 n) ih x2 σ_41 h
          · rw [if_neg c_23] at h
            refine PW_aload_n (pc' := 77) (q := 3) (pw_dk dc_X5_passHour 40 rfl) rfl rfl rfl ?_
            refine PW_getR (pc' := 80) (id := d1) (ci := 0) (nn := 0) (C0 := RX0) (T := TX0) (N := 6) (j := 5) (r := d1 + 6) (pw_dk dc_X5_passHour 41 rfl) rfl (me_D hd1) rfl pi_0 (by decide) fk_0_5 tw_475 (rf_D5 _ hd1) (su0 _ _) ?_
            refine PW_iload_n (pc' := 81) (q := 4) (pw_dk dc_X5_passHour 42 rfl) rfl rfl rfl ?_
            refine PW_iconst (pc' := 82) (v := 3) (pw_dk dc_X5_passHour 43 rfl) rfl (by decide) ?_
            obtain ⟨σ_44, hi_45, e_46, h⟩ := wp_wrIx h
            refine PZ_iastx (pc' := 83) (σ' := σ_44) (id := (d1 + 6)) (nn := 12) (pw_dk dc_X5_passHour 44 rfl) rfl (me_D5 hd1) hi_45 e_46 ?_
            refine PW_goto (tgt := 140) (pw_dk dc_X5_passHour 45 rfl) (by decide) ?_
            refine PW_sub (lv' := [(0, .ref 1000), (1, .ref d1), (2, .int x2)]) [2, 3, 4] rfl ?_
            exact b_X5_passHour_140 d1 hd1 (f_X5_passHour_2 d1 n) ih x2 σ_44 h
def f_X5_passHour (d1 : Nat) (σ : zS) : Option zS := 
  f_X5_passHour_2 d1 FU 0 σ
theorem t_X5_passHour (d1 : Nat) (hd1 : isDay d1) (σ : zS) (Q : Option Value → zS → Prop) (h : wpO (f_X5_passHour d1 σ) (fun s => Q none s)) : PK alC yX5_passHour mX5_passHour (6) [.ref 1000, .ref d1] σ Q := by
  refine PC_ofF (by decide +kernel) rfl rfl (Nat.le_of_ble_eq_true rfl) ?_
  show PZ alC mX5_passHour (6) Q 0 [(0, .ref 1000), (1, .ref d1)] [] σ
  unfold f_X5_passHour at h
  refine PW_iconst (pc' := 1) (v := 0) (pw_dk dc_X5_passHour 0 rfl) rfl (by decide) ?_
  refine PW_istore_n (pc' := 2) (lv' := [(2, .int 0), (0, .ref 1000), (1, .ref d1)]) (pw_dk dc_X5_passHour 1 rfl) rfl rfl (by decide) rfl ?_
  refine PW_sub (lv' := [(0, .ref 1000), (1, .ref d1), (2, .int 0)]) [1, 2, 0] rfl ?_
  exact b_X5_passHour_2 d1 hd1 FU 0 σ h
def f_X5_passByChance_92 (d1 : Nat) (r19 : Int64 → Int32 → Int32 → zS → Option (Int64 × zS)) (x4 : Int64) (x6 : Int32) (x7 : Int32) (σ : zS) : Option (Int64 × zS) := 
  r19 x4 x6 (x7 + 1) σ
theorem b_X5_passByChance_92 {Q : Option Value → zS → Prop} (d1 : Nat) (hd1 : isDay d1) (r19 : Int64 → Int32 → Int32 → zS → Option (Int64 × zS)) (hr19 : ∀ (x4 : Int64) (x6 : Int32) (x7 : Int32) (σ : zS), wpO (r19 x4 x6 x7 σ) (fun a => Q (some (.long a.1)) a.2) → PZ alC mX5_passByChance (7) Q 19 [(0, .ref 1000), (1, .ref d1), (4, .long x4), (6, .int x6), (7, .int x7)] [] σ) (x4 : Int64) (x6 : Int32) (x7 : Int32) (σ : zS) (h : wpO (f_X5_passByChance_92 d1 r19 x4 x6 x7 σ) (fun a => Q (some (.long a.1)) a.2)) : PZ alC mX5_passByChance (7) Q 92 [(0, .ref 1000), (1, .ref d1), (4, .long x4), (6, .int x6), (7, .int x7)] [] σ := by
  unfold f_X5_passByChance_92 at h
  refine PW_iinc (pc' := 95) (q := 4) (v := x7 + 1) (lv' := [(7, .int (x7 + 1)), (0, .ref 1000), (1, .ref d1), (4, .long x4), (6, .int x6)]) (pw_dk dc_X5_passByChance 46 rfl) rfl rfl rfl (by decide) rfl ?_
  refine PW_goto (tgt := 19) (pw_dk dc_X5_passByChance 47 rfl) (by decide) ?_
  refine PW_sub (lv' := [(0, .ref 1000), (1, .ref d1), (4, .long x4), (6, .int x6), (7, .int (x7 + 1))]) [1, 2, 3, 4, 0] rfl ?_
  exact hr19 x4 x6 (x7 + 1) σ h
def f_X5_passByChance_19 (d1 : Nat) (r9 : Int64 → Int32 → zS → Option (Int64 × zS)) : Nat → Int64 → Int32 → Int32 → zS → Option (Int64 × zS)
  | 0, _, _, _, _ => none
  | n + 1, x4, x6, x7, σ => 
    if (σ.1 (tv (σ.2.2 2)) 6) ≤ x7 then
      (f_X5_passHour d1 σ).bind fun σ_3 =>
      r9 x4 (x6 + 1) σ_3
    else
      lt (α := Int64) (((x4 * (1103515245 : Int64)) + (12345 : Int64)) &&& (2147483647 : Int64)) fun x4_5 =>
      (rdI σ (d1 + 3) 5 x7).bind fun v_6 =>
      lt (α := Int32) (f_X5_movedBy v_6 (((x4_5 / (65536 : Int64)) - (x4_5 / (65536 : Int64)) / (6 : Int64) * (6 : Int64)).toInt32) (σ.1 (tv (σ.2.2 2)) 0) σ) fun x8_10 =>
      if x8_10 = (-1 : Int32) then
        f_X5_passByChance_92 d1 (f_X5_passByChance_19 d1 r9 n) x4_5 x6 x7 σ
      else
        (wrI σ (d1 + 3) 5 x7 x8_10).bind fun σ_12 =>
        f_X5_passByChance_92 d1 (f_X5_passByChance_19 d1 r9 n) x4_5 x6 x7 σ_12
theorem b_X5_passByChance_19 {Q : Option Value → zS → Prop} (d1 : Nat) (hd1 : isDay d1) (r9 : Int64 → Int32 → zS → Option (Int64 × zS)) (hr9 : ∀ (x4 : Int64) (x6 : Int32) (σ : zS), wpO (r9 x4 x6 σ) (fun a => Q (some (.long a.1)) a.2) → PZ alC mX5_passByChance (7) Q 9 [(0, .ref 1000), (1, .ref d1), (4, .long x4), (6, .int x6)] [] σ) : ∀ (n : Nat) (x4 : Int64) (x6 : Int32) (x7 : Int32) (σ : zS) (h : wpO (f_X5_passByChance_19 d1 r9 n x4 x6 x7 σ) (fun a => Q (some (.long a.1)) a.2)), PZ alC mX5_passByChance (7) Q 19 [(0, .ref 1000), (1, .ref d1), (4, .long x4), (6, .int x6), (7, .int x7)] [] σ := by
  intro n
  induction n with
  | zero => intro x4 x6 x7 σ h; exact wp_none h
  | succ n ih =>
    intro x4 x6 x7 σ h
    rw [f_X5_passByChance_19] at h
    refine PW_iload (pc' := 21) (q := 4) (pw_dk dc_X5_passByChance 10 rfl) rfl rfl ?_
    refine PW_aload_n (pc' := 22) (q := 0) (pw_dk dc_X5_passByChance 11 rfl) rfl rfl rfl ?_
    refine PW_getR (pc' := 25) (id := 1000) (ci := 5) (nn := 0) (C0 := RX5) (T := TX5) (N := 3) (j := 0) (r := tv (σ.2.2 2)) (pw_dk dc_X5_passByChance 12 rfl) rfl me_1000 rfl pi_5 (by decide) fk_5_0 tw_435 (rf_M2 _) (tv0 _) ?_
    refine PZ_getI (pc' := 28) (id := (tv (σ.2.2 2))) (ci := 8) (nn := 0) (C0 := RX8) (T := TX8) (N := 18) (j := 6) (pw_dk dc_X5_passByChance 13 rfl) rfl (me_T _) rfl pi_8 (by decide) fk_8_6 tw_218 ?_
    refine PW_icmp_ge (pc' := 31) (tgt := 98) (pw_dk dc_X5_passByChance 14 rfl) rfl (by decide) (fun c_1 => ?_) (fun c_1 => ?_)
    · rw [if_pos c_1] at h
      refine PW_aload_n (pc' := 99) (q := 0) (pw_dk dc_X5_passByChance 48 rfl) rfl rfl rfl ?_
      refine PW_aload_n (pc' := 100) (q := 1) (pw_dk dc_X5_passByChance 49 rfl) rfl rfl rfl ?_
      refine PZ_callVv (pc' := 103) (y := yX5_passHour) (M' := mX5_passHour) (d' := 6) (As := [.ref d1]) (st := []) (b := 1000) (ci := 5) (nn := 0) me_1000 rfl tw_1020 tw_1021 (pw_dk dc_X5_passByChance 50 rfl) rfl Y_X5_passHour tw_1245 rfl (by decide) (Nat.le_of_ble_eq_true rfl) (t_X5_passHour d1 hd1 σ _ ?_)
      obtain ⟨σ_3, e_4, h⟩ := wp_bind h
      refine ⟨σ_3, e_4, rfl, fun hn_2 => ?_⟩
      show PZ alC mX5_passByChance (7) Q 103 [(0, .ref 1000), (1, .ref d1), (4, .long x4), (6, .int x6), (7, .int x7)] [] σ_3
      refine PW_iinc (pc' := 106) (q := 3) (v := x6 + 1) (lv' := [(6, .int (x6 + 1)), (0, .ref 1000), (1, .ref d1), (4, .long x4), (7, .int x7)]) (pw_dk dc_X5_passByChance 51 rfl) rfl rfl rfl (by decide) rfl ?_
      refine PW_goto (tgt := 9) (pw_dk dc_X5_passByChance 52 rfl) (by decide) ?_
      refine PW_sub (lv' := [(0, .ref 1000), (1, .ref d1), (4, .long x4), (6, .int (x6 + 1))]) [1, 2, 3, 0] rfl ?_
      exact hr9 x4 (x6 + 1) σ_3 h
    · rw [if_neg c_1] at h
      refine PW_lload (pc' := 33) (q := 2) (pw_dk dc_X5_passByChance 15 rfl) rfl rfl ?_
      refine PW_ldc2 (pc' := 36) (v := 1103515245) (pw_dk dc_X5_passByChance 16 rfl) rfl tw_1239 ?_
      refine PW_lmul (pc' := 37) (pw_dk dc_X5_passByChance 17 rfl) rfl ?_
      refine PW_ldc2 (pc' := 40) (v := 12345) (pw_dk dc_X5_passByChance 18 rfl) rfl tw_1240 ?_
      refine PW_ladd (pc' := 41) (pw_dk dc_X5_passByChance 19 rfl) rfl ?_
      refine PW_ldc2 (pc' := 44) (v := 2147483647) (pw_dk dc_X5_passByChance 20 rfl) rfl tw_1241 ?_
      refine PW_land (pc' := 45) (pw_dk dc_X5_passByChance 21 rfl) rfl ?_
      refine PW_topl (fun x4_5 ex4_5 => ?_)
      replace h := lt_w h ex4_5
      refine PW_lstore (pc' := 47) (lv' := [(4, .long x4_5), (0, .ref 1000), (1, .ref d1), (6, .int x6), (7, .int x7)]) (pw_dk dc_X5_passByChance 22 rfl) rfl (by decide) rfl ?_
      refine PW_aload_n (pc' := 48) (q := 2) (pw_dk dc_X5_passByChance 23 rfl) rfl rfl rfl ?_
      refine PW_getR (pc' := 51) (id := d1) (ci := 0) (nn := 0) (C0 := RX0) (T := TX0) (N := 6) (j := 2) (r := d1 + 3) (pw_dk dc_X5_passByChance 24 rfl) rfl (me_D hd1) rfl pi_0 (by decide) fk_0_2 tw_465 (rf_D2 _ hd1) (su0 _ _) ?_
      refine PW_iload (pc' := 53) (q := 4) (pw_dk dc_X5_passByChance 25 rfl) rfl rfl ?_
      obtain ⟨v_6, hi_7, e_8, h⟩ := wp_rdIx h
      refine PZ_ialdx (pc' := 54) (v := v_6) (id := (d1 + 3)) (nn := 5) (pw_dk dc_X5_passByChance 26 rfl) rfl (me_D2 hd1) hi_7 e_8 ?_
      refine PW_lload (pc' := 56) (q := 0) (pw_dk dc_X5_passByChance 27 rfl) rfl rfl ?_
      refine PW_ldc2 (pc' := 59) (v := 65536) (pw_dk dc_X5_passByChance 28 rfl) rfl tw_1242 ?_
      refine PW_ldiv (pc' := 60) (pw_dk dc_X5_passByChance 29 rfl) rfl (by decide) ?_
      refine PW_ldc2 (pc' := 63) (v := 6) (pw_dk dc_X5_passByChance 30 rfl) rfl tw_1243 ?_
      refine PW_lrem (pc' := 64) (pw_dk dc_X5_passByChance 31 rfl) rfl (by decide) ?_
      refine PW_l2i (pc' := 65) (pw_dk dc_X5_passByChance 32 rfl) rfl ?_
      refine PW_aload_n (pc' := 66) (q := 1) (pw_dk dc_X5_passByChance 33 rfl) rfl rfl rfl ?_
      refine PW_getR (pc' := 69) (id := 1000) (ci := 5) (nn := 0) (C0 := RX5) (T := TX5) (N := 3) (j := 0) (r := tv (σ.2.2 2)) (pw_dk dc_X5_passByChance 34 rfl) rfl me_1000 rfl pi_5 (by decide) fk_5_0 tw_435 (rf_M2 _) (tv0 _) ?_
      refine PZ_getI (pc' := 72) (id := (tv (σ.2.2 2))) (ci := 8) (nn := 0) (C0 := RX8) (T := TX8) (N := 18) (j := 0) (pw_dk dc_X5_passByChance 35 rfl) rfl (me_T _) rfl pi_8 (by decide) fk_8_0 tw_201 ?_
      refine PZ_callSi (pc' := 75) (y := yX5_movedBy) (M' := mX5_movedBy) (d' := 1) (As := [.int v_6, .int (((x4_5 / (65536 : Int64)) - (x4_5 / (65536 : Int64)) / (6 : Int64) * (6 : Int64)).toInt32), .int (σ.1 (tv (σ.2.2 2)) 0)]) (st := []) tw_997 (pw_dk dc_X5_passByChance 36 rfl) rfl Y_X5_movedBy tw_1244 rfl (by decide) (Nat.le_of_ble_eq_true rfl) (t_X5_movedBy v_6 (((x4_5 / (65536 : Int64)) - (x4_5 / (65536 : Int64)) / (6 : Int64) * (6 : Int64)).toInt32) (σ.1 (tv (σ.2.2 2)) 0) σ _ ?_)
      refine ⟨_, rfl, fun hn_9 => ?_⟩
      show PZ alC mX5_passByChance (7) Q 75 [(4, .long x4_5), (0, .ref 1000), (1, .ref d1), (6, .int x6), (7, .int x7)] [.int (f_X5_movedBy v_6 (((x4_5 / (65536 : Int64)) - (x4_5 / (65536 : Int64)) / (6 : Int64) * (6 : Int64)).toInt32) (σ.1 (tv (σ.2.2 2)) 0) σ)] σ
      refine PW_topi (fun x8_10 ex8_10 => ?_)
      replace h := lt_w h ex8_10
      refine PW_istore (pc' := 77) (lv' := [(8, .int x8_10), (4, .long x4_5), (0, .ref 1000), (1, .ref d1), (6, .int x6), (7, .int x7)]) (pw_dk dc_X5_passByChance 37 rfl) rfl (by decide) rfl ?_
      refine PW_iload (pc' := 79) (q := 0) (pw_dk dc_X5_passByChance 38 rfl) rfl rfl ?_
      refine PW_iconst (pc' := 80) (v := (-1 : Int32)) (pw_dk dc_X5_passByChance 39 rfl) rfl (by decide) ?_
      refine PW_icmp_eq (pc' := 83) (tgt := 92) (pw_dk dc_X5_passByChance 40 rfl) rfl (by decide) (fun c_11 => ?_) (fun c_11 => ?_)
      · rw [if_pos c_11] at h
        refine PW_sub (lv' := [(0, .ref 1000), (1, .ref d1), (4, .long x4_5), (6, .int x6), (7, .int x7)]) [2, 3, 1, 4, 5] rfl ?_
        exact b_X5_passByChance_92 d1 hd1 (f_X5_passByChance_19 d1 r9 n) ih x4_5 x6 x7 σ h
      · rw [if_neg c_11] at h
        refine PW_aload_n (pc' := 84) (q := 3) (pw_dk dc_X5_passByChance 41 rfl) rfl rfl rfl ?_
        refine PW_getR (pc' := 87) (id := d1) (ci := 0) (nn := 0) (C0 := RX0) (T := TX0) (N := 6) (j := 2) (r := d1 + 3) (pw_dk dc_X5_passByChance 42 rfl) rfl (me_D hd1) rfl pi_0 (by decide) fk_0_2 tw_465 (rf_D2 _ hd1) (su0 _ _) ?_
        refine PW_iload (pc' := 89) (q := 5) (pw_dk dc_X5_passByChance 43 rfl) rfl rfl ?_
        refine PW_iload (pc' := 91) (q := 0) (pw_dk dc_X5_passByChance 44 rfl) rfl rfl ?_
        obtain ⟨σ_12, hi_13, e_14, h⟩ := wp_wrIx h
        refine PZ_iastx (pc' := 92) (σ' := σ_12) (id := (d1 + 3)) (nn := 5) (pw_dk dc_X5_passByChance 45 rfl) rfl (me_D2 hd1) hi_13 e_14 ?_
        refine PW_sub (lv' := [(0, .ref 1000), (1, .ref d1), (4, .long x4_5), (6, .int x6), (7, .int x7)]) [2, 3, 1, 4, 5] rfl ?_
        exact b_X5_passByChance_92 d1 hd1 (f_X5_passByChance_19 d1 r9 n) ih x4_5 x6 x7 σ_12 h
def f_X5_passByChance_9 (d1 : Nat) : Nat → Int64 → Int32 → zS → Option (Int64 × zS)
  | 0, _, _, _ => none
  | n + 1, x4, x6, σ => 
    if 24 ≤ x6 then
      some (x4, σ)
    else
      f_X5_passByChance_19 d1 (f_X5_passByChance_9 d1 n) FU x4 x6 0 σ
theorem b_X5_passByChance_9 {Q : Option Value → zS → Prop} (d1 : Nat) (hd1 : isDay d1) : ∀ (n : Nat) (x4 : Int64) (x6 : Int32) (σ : zS) (h : wpO (f_X5_passByChance_9 d1 n x4 x6 σ) (fun a => Q (some (.long a.1)) a.2)), PZ alC mX5_passByChance (7) Q 9 [(0, .ref 1000), (1, .ref d1), (4, .long x4), (6, .int x6)] [] σ := by
  intro n
  induction n with
  | zero => intro x4 x6 σ h; exact wp_none h
  | succ n ih =>
    intro x4 x6 σ h
    rw [f_X5_passByChance_9] at h
    refine PW_iload (pc' := 11) (q := 3) (pw_dk dc_X5_passByChance 5 rfl) rfl rfl ?_
    refine PW_bipush (pc' := 13) (v := 24) (pw_dk dc_X5_passByChance 6 rfl) rfl (by decide) ?_
    refine PW_icmp_ge (pc' := 16) (tgt := 109) (pw_dk dc_X5_passByChance 7 rfl) rfl (by decide) (fun c_1 => ?_) (fun c_1 => ?_)
    · rw [if_pos c_1] at h
      refine PW_lload (pc' := 111) (q := 2) (pw_dk dc_X5_passByChance 53 rfl) rfl rfl ?_
      have z := wp_some h
      exact PZ_lret (pw_dk dc_X5_passByChance 54 rfl) rfl z
    · rw [if_neg c_1] at h
      refine PW_iconst (pc' := 17) (v := 0) (pw_dk dc_X5_passByChance 8 rfl) rfl (by decide) ?_
      refine PW_istore (pc' := 19) (lv' := [(7, .int 0), (0, .ref 1000), (1, .ref d1), (4, .long x4), (6, .int x6)]) (pw_dk dc_X5_passByChance 9 rfl) rfl (by decide) rfl ?_
      refine PW_sub (lv' := [(0, .ref 1000), (1, .ref d1), (4, .long x4), (6, .int x6), (7, .int 0)]) [1, 2, 3, 4, 0] rfl ?_
      exact b_X5_passByChance_19 d1 hd1 (f_X5_passByChance_9 d1 n) ih FU x4 x6 0 σ h
def f_X5_passByChance (d1 : Nat) (x2 : Int64) (σ : zS) : Option (Int64 × zS) := 
  lt (α := Int32) (σ.1 d1 0) fun x6_1 =>
  f_X5_passByChance_9 d1 FU x2 x6_1 σ
theorem t_X5_passByChance (d1 : Nat) (x2 : Int64) (hd1 : isDay d1) (σ : zS) (Q : Option Value → zS → Prop) (h : wpO (f_X5_passByChance d1 x2 σ) (fun a => Q (some (.long a.1)) a.2)) : PK alC yX5_passByChance mX5_passByChance (7) [.ref 1000, .ref d1, .long x2] σ Q := by
  refine PC_ofF (by decide +kernel) rfl rfl (Nat.le_of_ble_eq_true rfl) ?_
  show PZ alC mX5_passByChance (7) Q 0 [(0, .ref 1000), (1, .ref d1), (2, .long x2)] [] σ
  unfold f_X5_passByChance at h
  refine PW_lload_n (pc' := 1) (q := 2) (pw_dk dc_X5_passByChance 0 rfl) rfl rfl rfl ?_
  refine PW_lstore (pc' := 3) (lv' := [(4, .long x2), (0, .ref 1000), (1, .ref d1), (2, .long x2)]) (pw_dk dc_X5_passByChance 1 rfl) rfl (by decide) rfl ?_
  refine PW_aload_n (pc' := 4) (q := 2) (pw_dk dc_X5_passByChance 2 rfl) rfl rfl rfl ?_
  refine PZ_getI (pc' := 7) (id := d1) (ci := 0) (nn := 0) (C0 := RX0) (T := TX0) (N := 6) (j := 0) (pw_dk dc_X5_passByChance 3 rfl) rfl (me_D hd1) rfl pi_0 (by decide) fk_0_0 tw_457 ?_
  refine PW_topi (fun x6_1 ex6_1 => ?_)
  replace h := lt_w h ex6_1
  refine PW_istore (pc' := 9) (lv' := [(6, .int x6_1), (4, .long x2), (0, .ref 1000), (1, .ref d1), (2, .long x2)]) (pw_dk dc_X5_passByChance 4 rfl) rfl (by decide) rfl ?_
  refine PW_sub (lv' := [(0, .ref 1000), (1, .ref d1), (4, .long x2), (6, .int x6_1)]) [2, 3, 1, 0] rfl ?_
  exact b_X5_passByChance_9 d1 hd1 FU x2 x6_1 σ h
def f_X9_forget  (σ : zS) : Option zS := 
  lt (wI σ 1100 0 0) fun σ_1 =>
  some σ_1
theorem t_X9_forget (σ : zS) (Q : Option Value → zS → Prop) (h : wpO (f_X9_forget σ) (fun s => Q none s)) : PK alC yX9_forget mX9_forget (0) [.ref 1100] σ Q := by
  refine PC_ofF (by decide +kernel) rfl rfl (Nat.le_of_ble_eq_true rfl) ?_
  show PZ alC mX9_forget (0) Q 0 [(0, .ref 1100)] [] σ
  unfold f_X9_forget at h
  refine PW_aload_n (pc' := 1) (q := 0) (pw_dk dc_X9_forget 0 rfl) rfl rfl rfl ?_
  refine PW_iconst (pc' := 2) (v := 0) (pw_dk dc_X9_forget 1 rfl) rfl (by decide) ?_
  obtain ⟨σ_1, e_2, h⟩ := lt_x h
  refine PZ_putX (pc' := 5) (σ' := σ_1) (id := 1100) (ci := 9) (nn := 0) (C0 := RX9) (T := TX9) (N := 6) (j := 0) (ty := tyX9 0) (pw_dk dc_X9_forget 2 rfl) rfl me_1100 rfl pi_9 tyX9_ok nmX9 (by decide) fk_9_0 tw_495 rfl (tyX9_ok 0 (by decide)) (by first | rfl | decide) (by first | rfl | decide) e_2 ?_
  have z := wp_some h
  exact PZ_vret (pw_dk dc_X9_forget 3 rfl) rfl z
def f_X9_dropOldest  (σ : zS) : Option zS := 
  lt (wI σ 1100 0 19) fun σ_1 =>
  (cpA σ_1 1102 20 1 1102 20 0 (σ_1.1 1100 0)).bind fun σ_3 =>
  (cpA σ_3 1103 20 1 1103 20 0 (σ_3.1 1100 0)).bind fun σ_6 =>
  (cpA σ_6 1104 20 1 1104 20 0 (σ_6.1 1100 0)).bind fun σ_9 =>
  (cpA σ_9 1105 20 1 1105 20 0 (σ_9.1 1100 0)).bind fun σ_12 =>
  (cpA σ_12 1106 20 1 1106 20 0 (σ_12.1 1100 0)).bind fun σ_15 =>
  some σ_15
theorem t_X9_dropOldest (σ : zS) (Q : Option Value → zS → Prop) (h : wpO (f_X9_dropOldest σ) (fun s => Q none s)) : PK alC yX9_dropOldest mX9_dropOldest (1) [.ref 1100] σ Q := by
  refine PC_ofF (by decide +kernel) rfl rfl (Nat.le_of_ble_eq_true rfl) ?_
  show PZ alC mX9_dropOldest (1) Q 0 [(0, .ref 1100)] [] σ
  unfold f_X9_dropOldest at h
  refine PW_aload_n (pc' := 1) (q := 0) (pw_dk dc_X9_dropOldest 0 rfl) rfl rfl rfl ?_
  refine PW_bipush (pc' := 3) (v := 19) (pw_dk dc_X9_dropOldest 1 rfl) rfl (by decide) ?_
  obtain ⟨σ_1, e_2, h⟩ := lt_x h
  refine PZ_putX (pc' := 6) (σ' := σ_1) (id := 1100) (ci := 9) (nn := 0) (C0 := RX9) (T := TX9) (N := 6) (j := 0) (ty := tyX9 0) (pw_dk dc_X9_dropOldest 2 rfl) rfl me_1100 rfl pi_9 tyX9_ok nmX9 (by decide) fk_9_0 tw_495 rfl (tyX9_ok 0 (by decide)) (by first | rfl | decide) (by first | rfl | decide) e_2 ?_
  refine PW_aload_n (pc' := 7) (q := 0) (pw_dk dc_X9_dropOldest 3 rfl) rfl rfl rfl ?_
  refine PW_getR (pc' := 10) (id := 1100) (ci := 9) (nn := 0) (C0 := RX9) (T := TX9) (N := 6) (j := 1) (r := 1102) (pw_dk dc_X9_dropOldest 4 rfl) rfl me_1100 rfl pi_9 (by decide) fk_9_1 tw_497 (rfl) (by decide) ?_
  refine PW_iconst (pc' := 11) (v := 1) (pw_dk dc_X9_dropOldest 5 rfl) rfl (by decide) ?_
  refine PW_aload_n (pc' := 12) (q := 0) (pw_dk dc_X9_dropOldest 6 rfl) rfl rfl rfl ?_
  refine PW_getR (pc' := 15) (id := 1100) (ci := 9) (nn := 0) (C0 := RX9) (T := TX9) (N := 6) (j := 1) (r := 1102) (pw_dk dc_X9_dropOldest 7 rfl) rfl me_1100 rfl pi_9 (by decide) fk_9_1 tw_497 (rfl) (by decide) ?_
  refine PW_iconst (pc' := 16) (v := 0) (pw_dk dc_X9_dropOldest 8 rfl) rfl (by decide) ?_
  refine PW_aload_n (pc' := 17) (q := 0) (pw_dk dc_X9_dropOldest 9 rfl) rfl rfl rfl ?_
  refine PZ_getI (pc' := 20) (id := 1100) (ci := 9) (nn := 0) (C0 := RX9) (T := TX9) (N := 6) (j := 0) (pw_dk dc_X9_dropOldest 10 rfl) rfl me_1100 rfl pi_9 (by decide) fk_9_0 tw_495 ?_
  obtain ⟨σ_3, hh_4, e_5, h⟩ := wp_cpAx h
  refine PZ_acopyx (pc' := 23) (σ' := σ_3) (na := 20) (nb := 20) (pw_dk dc_X9_dropOldest 11 rfl) rfl tw_1010 tw_865 tw_864 tw_139 me_1102 me_1102 (by decide) (Nat.le_of_ble_eq_true rfl) hh_4 e_5 ?_
  refine PW_aload_n (pc' := 24) (q := 0) (pw_dk dc_X9_dropOldest 12 rfl) rfl rfl rfl ?_
  refine PW_getR (pc' := 27) (id := 1100) (ci := 9) (nn := 0) (C0 := RX9) (T := TX9) (N := 6) (j := 2) (r := 1103) (pw_dk dc_X9_dropOldest 13 rfl) rfl me_1100 rfl pi_9 (by decide) fk_9_2 tw_498 (rfl) (by decide) ?_
  refine PW_iconst (pc' := 28) (v := 1) (pw_dk dc_X9_dropOldest 14 rfl) rfl (by decide) ?_
  refine PW_aload_n (pc' := 29) (q := 0) (pw_dk dc_X9_dropOldest 15 rfl) rfl rfl rfl ?_
  refine PW_getR (pc' := 32) (id := 1100) (ci := 9) (nn := 0) (C0 := RX9) (T := TX9) (N := 6) (j := 2) (r := 1103) (pw_dk dc_X9_dropOldest 16 rfl) rfl me_1100 rfl pi_9 (by decide) fk_9_2 tw_498 (rfl) (by decide) ?_
  refine PW_iconst (pc' := 33) (v := 0) (pw_dk dc_X9_dropOldest 17 rfl) rfl (by decide) ?_
  refine PW_aload_n (pc' := 34) (q := 0) (pw_dk dc_X9_dropOldest 18 rfl) rfl rfl rfl ?_
  refine PZ_getI (pc' := 37) (id := 1100) (ci := 9) (nn := 0) (C0 := RX9) (T := TX9) (N := 6) (j := 0) (pw_dk dc_X9_dropOldest 19 rfl) rfl me_1100 rfl pi_9 (by decide) fk_9_0 tw_495 ?_
  obtain ⟨σ_6, hh_7, e_8, h⟩ := wp_cpAx h
  refine PZ_acopyx (pc' := 40) (σ' := σ_6) (na := 20) (nb := 20) (pw_dk dc_X9_dropOldest 20 rfl) rfl tw_1010 tw_865 tw_864 tw_139 me_1103 me_1103 (by decide) (Nat.le_of_ble_eq_true rfl) hh_7 e_8 ?_
  refine PW_aload_n (pc' := 41) (q := 0) (pw_dk dc_X9_dropOldest 21 rfl) rfl rfl rfl ?_
  refine PW_getR (pc' := 44) (id := 1100) (ci := 9) (nn := 0) (C0 := RX9) (T := TX9) (N := 6) (j := 3) (r := 1104) (pw_dk dc_X9_dropOldest 22 rfl) rfl me_1100 rfl pi_9 (by decide) fk_9_3 tw_499 (rfl) (by decide) ?_
  refine PW_iconst (pc' := 45) (v := 1) (pw_dk dc_X9_dropOldest 23 rfl) rfl (by decide) ?_
  refine PW_aload_n (pc' := 46) (q := 0) (pw_dk dc_X9_dropOldest 24 rfl) rfl rfl rfl ?_
  refine PW_getR (pc' := 49) (id := 1100) (ci := 9) (nn := 0) (C0 := RX9) (T := TX9) (N := 6) (j := 3) (r := 1104) (pw_dk dc_X9_dropOldest 25 rfl) rfl me_1100 rfl pi_9 (by decide) fk_9_3 tw_499 (rfl) (by decide) ?_
  refine PW_iconst (pc' := 50) (v := 0) (pw_dk dc_X9_dropOldest 26 rfl) rfl (by decide) ?_
  refine PW_aload_n (pc' := 51) (q := 0) (pw_dk dc_X9_dropOldest 27 rfl) rfl rfl rfl ?_
  refine PZ_getI (pc' := 54) (id := 1100) (ci := 9) (nn := 0) (C0 := RX9) (T := TX9) (N := 6) (j := 0) (pw_dk dc_X9_dropOldest 28 rfl) rfl me_1100 rfl pi_9 (by decide) fk_9_0 tw_495 ?_
  obtain ⟨σ_9, hh_10, e_11, h⟩ := wp_cpAx h
  refine PZ_acopyx (pc' := 57) (σ' := σ_9) (na := 20) (nb := 20) (pw_dk dc_X9_dropOldest 29 rfl) rfl tw_1010 tw_865 tw_864 tw_139 me_1104 me_1104 (by decide) (Nat.le_of_ble_eq_true rfl) hh_10 e_11 ?_
  refine PW_aload_n (pc' := 58) (q := 0) (pw_dk dc_X9_dropOldest 30 rfl) rfl rfl rfl ?_
  refine PW_getR (pc' := 61) (id := 1100) (ci := 9) (nn := 0) (C0 := RX9) (T := TX9) (N := 6) (j := 4) (r := 1105) (pw_dk dc_X9_dropOldest 31 rfl) rfl me_1100 rfl pi_9 (by decide) fk_9_4 tw_500 (rfl) (by decide) ?_
  refine PW_iconst (pc' := 62) (v := 1) (pw_dk dc_X9_dropOldest 32 rfl) rfl (by decide) ?_
  refine PW_aload_n (pc' := 63) (q := 0) (pw_dk dc_X9_dropOldest 33 rfl) rfl rfl rfl ?_
  refine PW_getR (pc' := 66) (id := 1100) (ci := 9) (nn := 0) (C0 := RX9) (T := TX9) (N := 6) (j := 4) (r := 1105) (pw_dk dc_X9_dropOldest 34 rfl) rfl me_1100 rfl pi_9 (by decide) fk_9_4 tw_500 (rfl) (by decide) ?_
  refine PW_iconst (pc' := 67) (v := 0) (pw_dk dc_X9_dropOldest 35 rfl) rfl (by decide) ?_
  refine PW_aload_n (pc' := 68) (q := 0) (pw_dk dc_X9_dropOldest 36 rfl) rfl rfl rfl ?_
  refine PZ_getI (pc' := 71) (id := 1100) (ci := 9) (nn := 0) (C0 := RX9) (T := TX9) (N := 6) (j := 0) (pw_dk dc_X9_dropOldest 37 rfl) rfl me_1100 rfl pi_9 (by decide) fk_9_0 tw_495 ?_
  obtain ⟨σ_12, hh_13, e_14, h⟩ := wp_cpAx h
  refine PZ_acopyx (pc' := 74) (σ' := σ_12) (na := 20) (nb := 20) (pw_dk dc_X9_dropOldest 38 rfl) rfl tw_1010 tw_865 tw_864 tw_139 me_1105 me_1105 (by decide) (Nat.le_of_ble_eq_true rfl) hh_13 e_14 ?_
  refine PW_aload_n (pc' := 75) (q := 0) (pw_dk dc_X9_dropOldest 39 rfl) rfl rfl rfl ?_
  refine PW_getR (pc' := 78) (id := 1100) (ci := 9) (nn := 0) (C0 := RX9) (T := TX9) (N := 6) (j := 5) (r := 1106) (pw_dk dc_X9_dropOldest 40 rfl) rfl me_1100 rfl pi_9 (by decide) fk_9_5 tw_501 (rfl) (by decide) ?_
  refine PW_iconst (pc' := 79) (v := 1) (pw_dk dc_X9_dropOldest 41 rfl) rfl (by decide) ?_
  refine PW_aload_n (pc' := 80) (q := 0) (pw_dk dc_X9_dropOldest 42 rfl) rfl rfl rfl ?_
  refine PW_getR (pc' := 83) (id := 1100) (ci := 9) (nn := 0) (C0 := RX9) (T := TX9) (N := 6) (j := 5) (r := 1106) (pw_dk dc_X9_dropOldest 43 rfl) rfl me_1100 rfl pi_9 (by decide) fk_9_5 tw_501 (rfl) (by decide) ?_
  refine PW_iconst (pc' := 84) (v := 0) (pw_dk dc_X9_dropOldest 44 rfl) rfl (by decide) ?_
  refine PW_aload_n (pc' := 85) (q := 0) (pw_dk dc_X9_dropOldest 45 rfl) rfl rfl rfl ?_
  refine PZ_getI (pc' := 88) (id := 1100) (ci := 9) (nn := 0) (C0 := RX9) (T := TX9) (N := 6) (j := 0) (pw_dk dc_X9_dropOldest 46 rfl) rfl me_1100 rfl pi_9 (by decide) fk_9_0 tw_495 ?_
  obtain ⟨σ_15, hh_16, e_17, h⟩ := wp_cpAx h
  refine PZ_acopyx (pc' := 91) (σ' := σ_15) (na := 20) (nb := 20) (pw_dk dc_X9_dropOldest 47 rfl) rfl tw_1010 tw_865 tw_864 tw_139 me_1106 me_1106 (by decide) (Nat.le_of_ble_eq_true rfl) hh_16 e_17 ?_
  have z := wp_some h
  exact PZ_vret (pw_dk dc_X9_dropOldest 48 rfl) rfl z
def f_X9_remember_13 (d1 : Nat) (x2 : Int32) (σ : zS) : Option zS := 
  (wrI σ 1102 20 (σ.1 1100 0) x2).bind fun σ_1 =>
  (rdI σ_1 (d1 + 3) 5 x2).bind fun v_4 =>
  (wrI σ_1 1103 20 (σ_1.1 1100 0) v_4).bind fun σ_7 =>
  (rdI σ_7 (d1 + 4) 5 x2).bind fun v_10 =>
  (wrI σ_7 1104 20 (σ_7.1 1100 0) v_10).bind fun σ_13 =>
  (rdI σ_13 (d1 + 5) 5 x2).bind fun v_16 =>
  (wrI σ_13 1105 20 (σ_13.1 1100 0) v_16).bind fun σ_19 =>
  (wrI σ_19 1106 20 (σ_19.1 1100 0) (σ_19.1 d1 1)).bind fun σ_22 =>
  lt (wI σ_22 1100 0 ((σ_22.1 1100 0) + (1 : Int32))) fun σ_25 =>
  some σ_25
theorem b_X9_remember_13 {Q : Option Value → zS → Prop} (d1 : Nat) (hd1 : isDay d1) (x2 : Int32) (σ : zS) (h : wpO (f_X9_remember_13 d1 x2 σ) (fun s => Q none s)) : PZ alC mX9_remember (2) Q 13 [(0, .ref 1100), (1, .ref d1), (2, .int x2)] [] σ := by
  unfold f_X9_remember_13 at h
  refine PW_aload_n (pc' := 14) (q := 0) (pw_dk dc_X9_remember 6 rfl) rfl rfl rfl ?_
  refine PW_getR (pc' := 17) (id := 1100) (ci := 9) (nn := 0) (C0 := RX9) (T := TX9) (N := 6) (j := 1) (r := 1102) (pw_dk dc_X9_remember 7 rfl) rfl me_1100 rfl pi_9 (by decide) fk_9_1 tw_497 (rfl) (by decide) ?_
  refine PW_aload_n (pc' := 18) (q := 0) (pw_dk dc_X9_remember 8 rfl) rfl rfl rfl ?_
  refine PZ_getI (pc' := 21) (id := 1100) (ci := 9) (nn := 0) (C0 := RX9) (T := TX9) (N := 6) (j := 0) (pw_dk dc_X9_remember 9 rfl) rfl me_1100 rfl pi_9 (by decide) fk_9_0 tw_495 ?_
  refine PW_iload_n (pc' := 22) (q := 2) (pw_dk dc_X9_remember 10 rfl) rfl rfl rfl ?_
  obtain ⟨σ_1, hi_2, e_3, h⟩ := wp_wrIx h
  refine PZ_iastx (pc' := 23) (σ' := σ_1) (id := 1102) (nn := 20) (pw_dk dc_X9_remember 11 rfl) rfl me_1102 hi_2 e_3 ?_
  refine PW_aload_n (pc' := 24) (q := 0) (pw_dk dc_X9_remember 12 rfl) rfl rfl rfl ?_
  refine PW_getR (pc' := 27) (id := 1100) (ci := 9) (nn := 0) (C0 := RX9) (T := TX9) (N := 6) (j := 2) (r := 1103) (pw_dk dc_X9_remember 13 rfl) rfl me_1100 rfl pi_9 (by decide) fk_9_2 tw_498 (rfl) (by decide) ?_
  refine PW_aload_n (pc' := 28) (q := 0) (pw_dk dc_X9_remember 14 rfl) rfl rfl rfl ?_
  refine PZ_getI (pc' := 31) (id := 1100) (ci := 9) (nn := 0) (C0 := RX9) (T := TX9) (N := 6) (j := 0) (pw_dk dc_X9_remember 15 rfl) rfl me_1100 rfl pi_9 (by decide) fk_9_0 tw_495 ?_
  refine PW_aload_n (pc' := 32) (q := 1) (pw_dk dc_X9_remember 16 rfl) rfl rfl rfl ?_
  refine PW_getR (pc' := 35) (id := d1) (ci := 0) (nn := 0) (C0 := RX0) (T := TX0) (N := 6) (j := 2) (r := d1 + 3) (pw_dk dc_X9_remember 17 rfl) rfl (me_D hd1) rfl pi_0 (by decide) fk_0_2 tw_463 (rf_D2 _ hd1) (su0 _ _) ?_
  refine PW_iload_n (pc' := 36) (q := 2) (pw_dk dc_X9_remember 18 rfl) rfl rfl rfl ?_
  obtain ⟨v_4, hi_5, e_6, h⟩ := wp_rdIx h
  refine PZ_ialdx (pc' := 37) (v := v_4) (id := (d1 + 3)) (nn := 5) (pw_dk dc_X9_remember 19 rfl) rfl (me_D2 hd1) hi_5 e_6 ?_
  obtain ⟨σ_7, hi_8, e_9, h⟩ := wp_wrIx h
  refine PZ_iastx (pc' := 38) (σ' := σ_7) (id := 1103) (nn := 20) (pw_dk dc_X9_remember 20 rfl) rfl me_1103 hi_8 e_9 ?_
  refine PW_aload_n (pc' := 39) (q := 0) (pw_dk dc_X9_remember 21 rfl) rfl rfl rfl ?_
  refine PW_getR (pc' := 42) (id := 1100) (ci := 9) (nn := 0) (C0 := RX9) (T := TX9) (N := 6) (j := 3) (r := 1104) (pw_dk dc_X9_remember 22 rfl) rfl me_1100 rfl pi_9 (by decide) fk_9_3 tw_499 (rfl) (by decide) ?_
  refine PW_aload_n (pc' := 43) (q := 0) (pw_dk dc_X9_remember 23 rfl) rfl rfl rfl ?_
  refine PZ_getI (pc' := 46) (id := 1100) (ci := 9) (nn := 0) (C0 := RX9) (T := TX9) (N := 6) (j := 0) (pw_dk dc_X9_remember 24 rfl) rfl me_1100 rfl pi_9 (by decide) fk_9_0 tw_495 ?_
  refine PW_aload_n (pc' := 47) (q := 1) (pw_dk dc_X9_remember 25 rfl) rfl rfl rfl ?_
  refine PW_getR (pc' := 50) (id := d1) (ci := 0) (nn := 0) (C0 := RX0) (T := TX0) (N := 6) (j := 3) (r := d1 + 4) (pw_dk dc_X9_remember 26 rfl) rfl (me_D hd1) rfl pi_0 (by decide) fk_0_3 tw_467 (rf_D3 _ hd1) (su0 _ _) ?_
  refine PW_iload_n (pc' := 51) (q := 2) (pw_dk dc_X9_remember 27 rfl) rfl rfl rfl ?_
  obtain ⟨v_10, hi_11, e_12, h⟩ := wp_rdIx h
  refine PZ_ialdx (pc' := 52) (v := v_10) (id := (d1 + 4)) (nn := 5) (pw_dk dc_X9_remember 28 rfl) rfl (me_D3 hd1) hi_11 e_12 ?_
  obtain ⟨σ_13, hi_14, e_15, h⟩ := wp_wrIx h
  refine PZ_iastx (pc' := 53) (σ' := σ_13) (id := 1104) (nn := 20) (pw_dk dc_X9_remember 29 rfl) rfl me_1104 hi_14 e_15 ?_
  refine PW_aload_n (pc' := 54) (q := 0) (pw_dk dc_X9_remember 30 rfl) rfl rfl rfl ?_
  refine PW_getR (pc' := 57) (id := 1100) (ci := 9) (nn := 0) (C0 := RX9) (T := TX9) (N := 6) (j := 4) (r := 1105) (pw_dk dc_X9_remember 31 rfl) rfl me_1100 rfl pi_9 (by decide) fk_9_4 tw_500 (rfl) (by decide) ?_
  refine PW_aload_n (pc' := 58) (q := 0) (pw_dk dc_X9_remember 32 rfl) rfl rfl rfl ?_
  refine PZ_getI (pc' := 61) (id := 1100) (ci := 9) (nn := 0) (C0 := RX9) (T := TX9) (N := 6) (j := 0) (pw_dk dc_X9_remember 33 rfl) rfl me_1100 rfl pi_9 (by decide) fk_9_0 tw_495 ?_
  refine PW_aload_n (pc' := 62) (q := 1) (pw_dk dc_X9_remember 34 rfl) rfl rfl rfl ?_
  refine PW_getR (pc' := 65) (id := d1) (ci := 0) (nn := 0) (C0 := RX0) (T := TX0) (N := 6) (j := 4) (r := d1 + 5) (pw_dk dc_X9_remember 35 rfl) rfl (me_D hd1) rfl pi_0 (by decide) fk_0_4 tw_470 (rf_D4 _ hd1) (su0 _ _) ?_
  refine PW_iload_n (pc' := 66) (q := 2) (pw_dk dc_X9_remember 36 rfl) rfl rfl rfl ?_
  obtain ⟨v_16, hi_17, e_18, h⟩ := wp_rdIx h
  refine PZ_ialdx (pc' := 67) (v := v_16) (id := (d1 + 5)) (nn := 5) (pw_dk dc_X9_remember 37 rfl) rfl (me_D4 hd1) hi_17 e_18 ?_
  obtain ⟨σ_19, hi_20, e_21, h⟩ := wp_wrIx h
  refine PZ_iastx (pc' := 68) (σ' := σ_19) (id := 1105) (nn := 20) (pw_dk dc_X9_remember 38 rfl) rfl me_1105 hi_20 e_21 ?_
  refine PW_aload_n (pc' := 69) (q := 0) (pw_dk dc_X9_remember 39 rfl) rfl rfl rfl ?_
  refine PW_getR (pc' := 72) (id := 1100) (ci := 9) (nn := 0) (C0 := RX9) (T := TX9) (N := 6) (j := 5) (r := 1106) (pw_dk dc_X9_remember 40 rfl) rfl me_1100 rfl pi_9 (by decide) fk_9_5 tw_501 (rfl) (by decide) ?_
  refine PW_aload_n (pc' := 73) (q := 0) (pw_dk dc_X9_remember 41 rfl) rfl rfl rfl ?_
  refine PZ_getI (pc' := 76) (id := 1100) (ci := 9) (nn := 0) (C0 := RX9) (T := TX9) (N := 6) (j := 0) (pw_dk dc_X9_remember 42 rfl) rfl me_1100 rfl pi_9 (by decide) fk_9_0 tw_495 ?_
  refine PW_aload_n (pc' := 77) (q := 1) (pw_dk dc_X9_remember 43 rfl) rfl rfl rfl ?_
  refine PZ_getI (pc' := 80) (id := d1) (ci := 0) (nn := 0) (C0 := RX0) (T := TX0) (N := 6) (j := 1) (pw_dk dc_X9_remember 44 rfl) rfl (me_D hd1) rfl pi_0 (by decide) fk_0_1 tw_459 ?_
  obtain ⟨σ_22, hi_23, e_24, h⟩ := wp_wrIx h
  refine PZ_iastx (pc' := 81) (σ' := σ_22) (id := 1106) (nn := 20) (pw_dk dc_X9_remember 45 rfl) rfl me_1106 hi_23 e_24 ?_
  refine PW_aload_n (pc' := 82) (q := 0) (pw_dk dc_X9_remember 46 rfl) rfl rfl rfl ?_
  refine PW_dup (pc' := 83) (pw_dk dc_X9_remember 47 rfl) rfl rfl ?_
  refine PZ_getI (pc' := 86) (id := 1100) (ci := 9) (nn := 0) (C0 := RX9) (T := TX9) (N := 6) (j := 0) (pw_dk dc_X9_remember 48 rfl) rfl me_1100 rfl pi_9 (by decide) fk_9_0 tw_495 ?_
  refine PW_iconst (pc' := 87) (v := 1) (pw_dk dc_X9_remember 49 rfl) rfl (by decide) ?_
  refine PW_iadd (pc' := 88) (pw_dk dc_X9_remember 50 rfl) rfl ?_
  obtain ⟨σ_25, e_26, h⟩ := lt_x h
  refine PZ_putX (pc' := 91) (σ' := σ_25) (id := 1100) (ci := 9) (nn := 0) (C0 := RX9) (T := TX9) (N := 6) (j := 0) (ty := tyX9 0) (pw_dk dc_X9_remember 51 rfl) rfl me_1100 rfl pi_9 tyX9_ok nmX9 (by decide) fk_9_0 tw_495 rfl (tyX9_ok 0 (by decide)) (by first | rfl | decide) (by first | rfl | decide) e_26 ?_
  have z := wp_some h
  exact PZ_vret (pw_dk dc_X9_remember 52 rfl) rfl z
def f_X9_remember (d1 : Nat) (x2 : Int32) (σ : zS) : Option zS := 
  if (σ.1 1100 0) < 20 then
    f_X9_remember_13 d1 x2 σ
  else
    (f_X9_dropOldest σ).bind fun σ_3 =>
    f_X9_remember_13 d1 x2 σ_3
theorem t_X9_remember (d1 : Nat) (x2 : Int32) (hd1 : isDay d1) (σ : zS) (Q : Option Value → zS → Prop) (h : wpO (f_X9_remember d1 x2 σ) (fun s => Q none s)) : PK alC yX9_remember mX9_remember (2) [.ref 1100, .ref d1, .int x2] σ Q := by
  refine PC_ofF (by decide +kernel) rfl rfl (Nat.le_of_ble_eq_true rfl) ?_
  show PZ alC mX9_remember (2) Q 0 [(0, .ref 1100), (1, .ref d1), (2, .int x2)] [] σ
  unfold f_X9_remember at h
  refine PW_aload_n (pc' := 1) (q := 0) (pw_dk dc_X9_remember 0 rfl) rfl rfl rfl ?_
  refine PZ_getI (pc' := 4) (id := 1100) (ci := 9) (nn := 0) (C0 := RX9) (T := TX9) (N := 6) (j := 0) (pw_dk dc_X9_remember 1 rfl) rfl me_1100 rfl pi_9 (by decide) fk_9_0 tw_495 ?_
  refine PW_bipush (pc' := 6) (v := 20) (pw_dk dc_X9_remember 2 rfl) rfl (by decide) ?_
  refine PW_icmp_lt (pc' := 9) (tgt := 13) (pw_dk dc_X9_remember 3 rfl) rfl (by decide) (fun c_1 => ?_) (fun c_1 => ?_)
  · rw [if_pos c_1] at h
    exact b_X9_remember_13 d1 hd1 x2 σ h
  · rw [if_neg c_1] at h
    refine PW_aload_n (pc' := 10) (q := 0) (pw_dk dc_X9_remember 4 rfl) rfl rfl rfl ?_
    refine PZ_callVv (pc' := 13) (y := yX9_dropOldest) (M' := mX9_dropOldest) (d' := 1) (As := []) (st := []) (b := 1100) (ci := 9) (nn := 0) me_1100 rfl tw_1008 tw_31 (pw_dk dc_X9_remember 5 rfl) rfl Y_X9_dropOldest tw_1006 rfl (by decide) (Nat.le_of_ble_eq_true rfl) (t_X9_dropOldest σ _ ?_)
    obtain ⟨σ_3, e_4, h⟩ := wp_bind h
    refine ⟨σ_3, e_4, rfl, fun hn_2 => ?_⟩
    show PZ alC mX9_remember (2) Q 13 [(0, .ref 1100), (1, .ref d1), (2, .int x2)] [] σ_3
    exact b_X9_remember_13 d1 hd1 x2 σ_3 h
def f_X9_takeBack (d1 : Nat) (σ : zS) : Option (Int32 × zS) := 
  if 0 < (σ.1 1100 0) then
    lt (wI σ 1100 0 ((σ.1 1100 0) - (1 : Int32))) fun σ_2 =>
    (rdI σ_2 1102 20 (σ_2.1 1100 0)).bind fun v_4 =>
    (rdI σ_2 1103 20 (σ_2.1 1100 0)).bind fun v_7 =>
    (wrI σ_2 (d1 + 3) 5 v_4 v_7).bind fun σ_10 =>
    (rdI σ_10 1104 20 (σ_10.1 1100 0)).bind fun v_13 =>
    (wrI σ_10 (d1 + 4) 5 v_4 v_13).bind fun σ_16 =>
    (rdI σ_16 1105 20 (σ_16.1 1100 0)).bind fun v_19 =>
    (wrI σ_16 (d1 + 5) 5 v_4 v_19).bind fun σ_22 =>
    (rdI σ_22 1106 20 (σ_22.1 1100 0)).bind fun v_25 =>
    lt (wI σ_22 d1 1 v_25) fun σ_28 =>
    some (σ_28.1 1100 0, σ_28)
  else
    some ((-1 : Int32), σ)
theorem t_X9_takeBack (d1 : Nat) (hd1 : isDay d1) (σ : zS) (Q : Option Value → zS → Prop) (h : wpO (f_X9_takeBack d1 σ) (fun a => Q (some (.int a.1)) a.2)) : PK alC yX9_takeBack mX9_takeBack (0) [.ref 1100, .ref d1] σ Q := by
  refine PC_ofF (by decide +kernel) rfl rfl (Nat.le_of_ble_eq_true rfl) ?_
  show PZ alC mX9_takeBack (0) Q 0 [(0, .ref 1100), (1, .ref d1)] [] σ
  unfold f_X9_takeBack at h
  refine PW_aload_n (pc' := 1) (q := 0) (pw_dk dc_X9_takeBack 0 rfl) rfl rfl rfl ?_
  refine PZ_getI (pc' := 4) (id := 1100) (ci := 9) (nn := 0) (C0 := RX9) (T := TX9) (N := 6) (j := 0) (pw_dk dc_X9_takeBack 1 rfl) rfl me_1100 rfl pi_9 (by decide) fk_9_0 tw_495 ?_
  refine PW_if_gt (pc' := 7) (tgt := 9) (pw_dk dc_X9_takeBack 2 rfl) rfl (by decide) (fun c_1 => ?_) (fun c_1 => ?_)
  · rw [if_pos c_1] at h
    refine PW_aload_n (pc' := 10) (q := 0) (pw_dk dc_X9_takeBack 5 rfl) rfl rfl rfl ?_
    refine PW_dup (pc' := 11) (pw_dk dc_X9_takeBack 6 rfl) rfl rfl ?_
    refine PZ_getI (pc' := 14) (id := 1100) (ci := 9) (nn := 0) (C0 := RX9) (T := TX9) (N := 6) (j := 0) (pw_dk dc_X9_takeBack 7 rfl) rfl me_1100 rfl pi_9 (by decide) fk_9_0 tw_495 ?_
    refine PW_iconst (pc' := 15) (v := 1) (pw_dk dc_X9_takeBack 8 rfl) rfl (by decide) ?_
    refine PW_isub (pc' := 16) (pw_dk dc_X9_takeBack 9 rfl) rfl ?_
    obtain ⟨σ_2, e_3, h⟩ := lt_x h
    refine PZ_putX (pc' := 19) (σ' := σ_2) (id := 1100) (ci := 9) (nn := 0) (C0 := RX9) (T := TX9) (N := 6) (j := 0) (ty := tyX9 0) (pw_dk dc_X9_takeBack 10 rfl) rfl me_1100 rfl pi_9 tyX9_ok nmX9 (by decide) fk_9_0 tw_495 rfl (tyX9_ok 0 (by decide)) (by first | rfl | decide) (by first | rfl | decide) e_3 ?_
    refine PW_aload_n (pc' := 20) (q := 0) (pw_dk dc_X9_takeBack 11 rfl) rfl rfl rfl ?_
    refine PW_getR (pc' := 23) (id := 1100) (ci := 9) (nn := 0) (C0 := RX9) (T := TX9) (N := 6) (j := 1) (r := 1102) (pw_dk dc_X9_takeBack 12 rfl) rfl me_1100 rfl pi_9 (by decide) fk_9_1 tw_497 (rfl) (by decide) ?_
    refine PW_aload_n (pc' := 24) (q := 0) (pw_dk dc_X9_takeBack 13 rfl) rfl rfl rfl ?_
    refine PZ_getI (pc' := 27) (id := 1100) (ci := 9) (nn := 0) (C0 := RX9) (T := TX9) (N := 6) (j := 0) (pw_dk dc_X9_takeBack 14 rfl) rfl me_1100 rfl pi_9 (by decide) fk_9_0 tw_495 ?_
    obtain ⟨v_4, hi_5, e_6, h⟩ := wp_rdIx h
    refine PZ_ialdx (pc' := 28) (v := v_4) (id := 1102) (nn := 20) (pw_dk dc_X9_takeBack 15 rfl) rfl me_1102 hi_5 e_6 ?_
    refine PW_istore_n (pc' := 29) (lv' := [(2, .int v_4), (0, .ref 1100), (1, .ref d1)]) (pw_dk dc_X9_takeBack 16 rfl) rfl rfl (by decide) rfl ?_
    refine PW_aload_n (pc' := 30) (q := 2) (pw_dk dc_X9_takeBack 17 rfl) rfl rfl rfl ?_
    refine PW_getR (pc' := 33) (id := d1) (ci := 0) (nn := 0) (C0 := RX0) (T := TX0) (N := 6) (j := 2) (r := d1 + 3) (pw_dk dc_X9_takeBack 18 rfl) rfl (me_D hd1) rfl pi_0 (by decide) fk_0_2 tw_463 (rf_D2 _ hd1) (su0 _ _) ?_
    refine PW_iload_n (pc' := 34) (q := 0) (pw_dk dc_X9_takeBack 19 rfl) rfl rfl rfl ?_
    refine PW_aload_n (pc' := 35) (q := 1) (pw_dk dc_X9_takeBack 20 rfl) rfl rfl rfl ?_
    refine PW_getR (pc' := 38) (id := 1100) (ci := 9) (nn := 0) (C0 := RX9) (T := TX9) (N := 6) (j := 2) (r := 1103) (pw_dk dc_X9_takeBack 21 rfl) rfl me_1100 rfl pi_9 (by decide) fk_9_2 tw_498 (rfl) (by decide) ?_
    refine PW_aload_n (pc' := 39) (q := 1) (pw_dk dc_X9_takeBack 22 rfl) rfl rfl rfl ?_
    refine PZ_getI (pc' := 42) (id := 1100) (ci := 9) (nn := 0) (C0 := RX9) (T := TX9) (N := 6) (j := 0) (pw_dk dc_X9_takeBack 23 rfl) rfl me_1100 rfl pi_9 (by decide) fk_9_0 tw_495 ?_
    obtain ⟨v_7, hi_8, e_9, h⟩ := wp_rdIx h
    refine PZ_ialdx (pc' := 43) (v := v_7) (id := 1103) (nn := 20) (pw_dk dc_X9_takeBack 24 rfl) rfl me_1103 hi_8 e_9 ?_
    obtain ⟨σ_10, hi_11, e_12, h⟩ := wp_wrIx h
    refine PZ_iastx (pc' := 44) (σ' := σ_10) (id := (d1 + 3)) (nn := 5) (pw_dk dc_X9_takeBack 25 rfl) rfl (me_D2 hd1) hi_11 e_12 ?_
    refine PW_aload_n (pc' := 45) (q := 2) (pw_dk dc_X9_takeBack 26 rfl) rfl rfl rfl ?_
    refine PW_getR (pc' := 48) (id := d1) (ci := 0) (nn := 0) (C0 := RX0) (T := TX0) (N := 6) (j := 3) (r := d1 + 4) (pw_dk dc_X9_takeBack 27 rfl) rfl (me_D hd1) rfl pi_0 (by decide) fk_0_3 tw_467 (rf_D3 _ hd1) (su0 _ _) ?_
    refine PW_iload_n (pc' := 49) (q := 0) (pw_dk dc_X9_takeBack 28 rfl) rfl rfl rfl ?_
    refine PW_aload_n (pc' := 50) (q := 1) (pw_dk dc_X9_takeBack 29 rfl) rfl rfl rfl ?_
    refine PW_getR (pc' := 53) (id := 1100) (ci := 9) (nn := 0) (C0 := RX9) (T := TX9) (N := 6) (j := 3) (r := 1104) (pw_dk dc_X9_takeBack 30 rfl) rfl me_1100 rfl pi_9 (by decide) fk_9_3 tw_499 (rfl) (by decide) ?_
    refine PW_aload_n (pc' := 54) (q := 1) (pw_dk dc_X9_takeBack 31 rfl) rfl rfl rfl ?_
    refine PZ_getI (pc' := 57) (id := 1100) (ci := 9) (nn := 0) (C0 := RX9) (T := TX9) (N := 6) (j := 0) (pw_dk dc_X9_takeBack 32 rfl) rfl me_1100 rfl pi_9 (by decide) fk_9_0 tw_495 ?_
    obtain ⟨v_13, hi_14, e_15, h⟩ := wp_rdIx h
    refine PZ_ialdx (pc' := 58) (v := v_13) (id := 1104) (nn := 20) (pw_dk dc_X9_takeBack 33 rfl) rfl me_1104 hi_14 e_15 ?_
    obtain ⟨σ_16, hi_17, e_18, h⟩ := wp_wrIx h
    refine PZ_iastx (pc' := 59) (σ' := σ_16) (id := (d1 + 4)) (nn := 5) (pw_dk dc_X9_takeBack 34 rfl) rfl (me_D3 hd1) hi_17 e_18 ?_
    refine PW_aload_n (pc' := 60) (q := 2) (pw_dk dc_X9_takeBack 35 rfl) rfl rfl rfl ?_
    refine PW_getR (pc' := 63) (id := d1) (ci := 0) (nn := 0) (C0 := RX0) (T := TX0) (N := 6) (j := 4) (r := d1 + 5) (pw_dk dc_X9_takeBack 36 rfl) rfl (me_D hd1) rfl pi_0 (by decide) fk_0_4 tw_470 (rf_D4 _ hd1) (su0 _ _) ?_
    refine PW_iload_n (pc' := 64) (q := 0) (pw_dk dc_X9_takeBack 37 rfl) rfl rfl rfl ?_
    refine PW_aload_n (pc' := 65) (q := 1) (pw_dk dc_X9_takeBack 38 rfl) rfl rfl rfl ?_
    refine PW_getR (pc' := 68) (id := 1100) (ci := 9) (nn := 0) (C0 := RX9) (T := TX9) (N := 6) (j := 4) (r := 1105) (pw_dk dc_X9_takeBack 39 rfl) rfl me_1100 rfl pi_9 (by decide) fk_9_4 tw_500 (rfl) (by decide) ?_
    refine PW_aload_n (pc' := 69) (q := 1) (pw_dk dc_X9_takeBack 40 rfl) rfl rfl rfl ?_
    refine PZ_getI (pc' := 72) (id := 1100) (ci := 9) (nn := 0) (C0 := RX9) (T := TX9) (N := 6) (j := 0) (pw_dk dc_X9_takeBack 41 rfl) rfl me_1100 rfl pi_9 (by decide) fk_9_0 tw_495 ?_
    obtain ⟨v_19, hi_20, e_21, h⟩ := wp_rdIx h
    refine PZ_ialdx (pc' := 73) (v := v_19) (id := 1105) (nn := 20) (pw_dk dc_X9_takeBack 42 rfl) rfl me_1105 hi_20 e_21 ?_
    obtain ⟨σ_22, hi_23, e_24, h⟩ := wp_wrIx h
    refine PZ_iastx (pc' := 74) (σ' := σ_22) (id := (d1 + 5)) (nn := 5) (pw_dk dc_X9_takeBack 43 rfl) rfl (me_D4 hd1) hi_23 e_24 ?_
    refine PW_aload_n (pc' := 75) (q := 2) (pw_dk dc_X9_takeBack 44 rfl) rfl rfl rfl ?_
    refine PW_aload_n (pc' := 76) (q := 1) (pw_dk dc_X9_takeBack 45 rfl) rfl rfl rfl ?_
    refine PW_getR (pc' := 79) (id := 1100) (ci := 9) (nn := 0) (C0 := RX9) (T := TX9) (N := 6) (j := 5) (r := 1106) (pw_dk dc_X9_takeBack 46 rfl) rfl me_1100 rfl pi_9 (by decide) fk_9_5 tw_501 (rfl) (by decide) ?_
    refine PW_aload_n (pc' := 80) (q := 1) (pw_dk dc_X9_takeBack 47 rfl) rfl rfl rfl ?_
    refine PZ_getI (pc' := 83) (id := 1100) (ci := 9) (nn := 0) (C0 := RX9) (T := TX9) (N := 6) (j := 0) (pw_dk dc_X9_takeBack 48 rfl) rfl me_1100 rfl pi_9 (by decide) fk_9_0 tw_495 ?_
    obtain ⟨v_25, hi_26, e_27, h⟩ := wp_rdIx h
    refine PZ_ialdx (pc' := 84) (v := v_25) (id := 1106) (nn := 20) (pw_dk dc_X9_takeBack 49 rfl) rfl me_1106 hi_26 e_27 ?_
    obtain ⟨σ_28, e_29, h⟩ := lt_x h
    refine PZ_putX (pc' := 87) (σ' := σ_28) (id := d1) (ci := 0) (nn := 0) (C0 := RX0) (T := TX0) (N := 6) (j := 1) (ty := tyX0 1) (pw_dk dc_X9_takeBack 50 rfl) rfl (me_D hd1) rfl pi_0 tyX0_ok nmX0 (by decide) fk_0_1 tw_459 rfl (tyX0_ok 1 (by decide)) (by first | rfl | decide) (by first | rfl | decide) e_29 ?_
    refine PW_aload_n (pc' := 88) (q := 1) (pw_dk dc_X9_takeBack 51 rfl) rfl rfl rfl ?_
    refine PZ_getI (pc' := 91) (id := 1100) (ci := 9) (nn := 0) (C0 := RX9) (T := TX9) (N := 6) (j := 0) (pw_dk dc_X9_takeBack 52 rfl) rfl me_1100 rfl pi_9 (by decide) fk_9_0 tw_495 ?_
    have z := wp_some h
    exact PZ_iret (ty := .int) (pw_dk dc_X9_takeBack 53 rfl) rfl rfl z
  · rw [if_neg c_1] at h
    refine PW_iconst (pc' := 8) (v := (-1 : Int32)) (pw_dk dc_X9_takeBack 3 rfl) rfl (by decide) ?_
    have z := wp_some h
    exact PZ_iret (ty := .int) (pw_dk dc_X9_takeBack 4 rfl) rfl rfl z
def f_X10_reachState_54  (x1 : Int32) (x2 : Int32) (x3 : Int32) (s1 : Int32) (s2 : Int32) (σ : zS) : Option zS := 
  (wrI σ 1503 192 s1 s2).bind fun σ_1 =>
  (wrI σ_1 1504 192 x1 x2).bind fun σ_4 =>
  (wrI σ_4 1505 192 x1 x3).bind fun σ_7 =>
  (wrI σ_7 1502 192 (σ_7.1 1500 0) x1).bind fun σ_10 =>
  lt (wI σ_10 1500 0 ((σ_10.1 1500 0) + (1 : Int32))) fun σ_13 =>
  some σ_13
theorem b_X10_reachState_54 {Q : Option Value → zS → Prop} (x1 : Int32) (x2 : Int32) (x3 : Int32) (s1 : Int32) (s2 : Int32) (σ : zS) (h : wpO (f_X10_reachState_54 x1 x2 x3 s1 s2 σ) (fun s => Q none s)) : PZ alC mX10_reachState (0) Q 54 [(0, .ref 1500), (1, .int x1), (2, .int x2), (3, .int x3)] [.int s2, .int s1, .ref 1503] σ := by
  unfold f_X10_reachState_54 at h
  obtain ⟨σ_1, hi_2, e_3, h⟩ := wp_wrIx h
  refine PZ_iastx (pc' := 55) (σ' := σ_1) (id := 1503) (nn := 192) (pw_dk dc_X10_reachState 30 rfl) rfl me_1503 hi_2 e_3 ?_
  refine PW_aload_n (pc' := 56) (q := 0) (pw_dk dc_X10_reachState 31 rfl) rfl rfl rfl ?_
  refine PW_getR (pc' := 59) (id := 1500) (ci := 10) (nn := 0) (C0 := RX10) (T := TX10) (N := 7) (j := 3) (r := 1504) (pw_dk dc_X10_reachState 32 rfl) rfl me_1500 rfl pi_10 (by decide) fk_10_3 tw_564 (rfl) (by decide) ?_
  refine PW_iload_n (pc' := 60) (q := 1) (pw_dk dc_X10_reachState 33 rfl) rfl rfl rfl ?_
  refine PW_iload_n (pc' := 61) (q := 2) (pw_dk dc_X10_reachState 34 rfl) rfl rfl rfl ?_
  obtain ⟨σ_4, hi_5, e_6, h⟩ := wp_wrIx h
  refine PZ_iastx (pc' := 62) (σ' := σ_4) (id := 1504) (nn := 192) (pw_dk dc_X10_reachState 35 rfl) rfl me_1504 hi_5 e_6 ?_
  refine PW_aload_n (pc' := 63) (q := 0) (pw_dk dc_X10_reachState 36 rfl) rfl rfl rfl ?_
  refine PW_getR (pc' := 66) (id := 1500) (ci := 10) (nn := 0) (C0 := RX10) (T := TX10) (N := 7) (j := 4) (r := 1505) (pw_dk dc_X10_reachState 37 rfl) rfl me_1500 rfl pi_10 (by decide) fk_10_4 tw_565 (rfl) (by decide) ?_
  refine PW_iload_n (pc' := 67) (q := 1) (pw_dk dc_X10_reachState 38 rfl) rfl rfl rfl ?_
  refine PW_iload_n (pc' := 68) (q := 3) (pw_dk dc_X10_reachState 39 rfl) rfl rfl rfl ?_
  obtain ⟨σ_7, hi_8, e_9, h⟩ := wp_wrIx h
  refine PZ_iastx (pc' := 69) (σ' := σ_7) (id := 1505) (nn := 192) (pw_dk dc_X10_reachState 40 rfl) rfl me_1505 hi_8 e_9 ?_
  refine PW_aload_n (pc' := 70) (q := 0) (pw_dk dc_X10_reachState 41 rfl) rfl rfl rfl ?_
  refine PW_getR (pc' := 73) (id := 1500) (ci := 10) (nn := 0) (C0 := RX10) (T := TX10) (N := 7) (j := 1) (r := 1502) (pw_dk dc_X10_reachState 42 rfl) rfl me_1500 rfl pi_10 (by decide) fk_10_1 tw_560 (rfl) (by decide) ?_
  refine PW_aload_n (pc' := 74) (q := 0) (pw_dk dc_X10_reachState 43 rfl) rfl rfl rfl ?_
  refine PZ_getI (pc' := 77) (id := 1500) (ci := 10) (nn := 0) (C0 := RX10) (T := TX10) (N := 7) (j := 0) (pw_dk dc_X10_reachState 44 rfl) rfl me_1500 rfl pi_10 (by decide) fk_10_0 tw_558 ?_
  refine PW_iload_n (pc' := 78) (q := 1) (pw_dk dc_X10_reachState 45 rfl) rfl rfl rfl ?_
  obtain ⟨σ_10, hi_11, e_12, h⟩ := wp_wrIx h
  refine PZ_iastx (pc' := 79) (σ' := σ_10) (id := 1502) (nn := 192) (pw_dk dc_X10_reachState 46 rfl) rfl me_1502 hi_11 e_12 ?_
  refine PW_aload_n (pc' := 80) (q := 0) (pw_dk dc_X10_reachState 47 rfl) rfl rfl rfl ?_
  refine PW_dup (pc' := 81) (pw_dk dc_X10_reachState 48 rfl) rfl rfl ?_
  refine PZ_getI (pc' := 84) (id := 1500) (ci := 10) (nn := 0) (C0 := RX10) (T := TX10) (N := 7) (j := 0) (pw_dk dc_X10_reachState 49 rfl) rfl me_1500 rfl pi_10 (by decide) fk_10_0 tw_558 ?_
  refine PW_iconst (pc' := 85) (v := 1) (pw_dk dc_X10_reachState 50 rfl) rfl (by decide) ?_
  refine PW_iadd (pc' := 86) (pw_dk dc_X10_reachState 51 rfl) rfl ?_
  obtain ⟨σ_13, e_14, h⟩ := lt_x h
  refine PZ_putX (pc' := 89) (σ' := σ_13) (id := 1500) (ci := 10) (nn := 0) (C0 := RX10) (T := TX10) (N := 7) (j := 0) (ty := tyX10 0) (pw_dk dc_X10_reachState 52 rfl) rfl me_1500 rfl pi_10 tyX10_ok nmX10 (by decide) fk_10_0 tw_558 rfl (tyX10_ok 0 (by decide)) (by first | rfl | decide) (by first | rfl | decide) e_14 ?_
  have z := wp_some h
  exact PZ_vret (pw_dk dc_X10_reachState 53 rfl) rfl z
def f_X10_reachState (x1 : Int32) (x2 : Int32) (x3 : Int32) (σ : zS) : Option zS := 
  if x1 < 0 then
    some σ
  else
    if 192 ≤ x1 then
      some σ
    else
      (rdI σ 1503 192 x1).bind fun v_3 =>
      if v_3 = (-1 : Int32) then
        if (σ.1 1500 0) < 192 then
          if x2 = (-1 : Int32) then
            f_X10_reachState_54 x1 x2 x3 x1 0 σ
          else
            (rdI σ 1503 192 x2).bind fun v_9 =>
            f_X10_reachState_54 x1 x2 x3 x1 (v_9 + (1 : Int32)) σ
        else
          some σ
      else
        some σ
theorem t_X10_reachState (x1 : Int32) (x2 : Int32) (x3 : Int32) (σ : zS) (Q : Option Value → zS → Prop) (h : wpO (f_X10_reachState x1 x2 x3 σ) (fun s => Q none s)) : PK alC yX10_reachState mX10_reachState (0) [.ref 1500, .int x1, .int x2, .int x3] σ Q := by
  refine PC_ofF (by decide +kernel) rfl rfl (Nat.le_of_ble_eq_true rfl) ?_
  show PZ alC mX10_reachState (0) Q 0 [(0, .ref 1500), (1, .int x1), (2, .int x2), (3, .int x3)] [] σ
  unfold f_X10_reachState at h
  refine PW_iload_n (pc' := 1) (q := 1) (pw_dk dc_X10_reachState 0 rfl) rfl rfl rfl ?_
  refine PW_if_lt (pc' := 4) (tgt := 31) (pw_dk dc_X10_reachState 1 rfl) rfl (by decide) (fun c_1 => ?_) (fun c_1 => ?_)
  · rw [if_pos c_1] at h
    have z := wp_some h
    exact PZ_vret (pw_dk dc_X10_reachState 15 rfl) rfl z
  · rw [if_neg c_1] at h
    refine PW_iload_n (pc' := 5) (q := 1) (pw_dk dc_X10_reachState 2 rfl) rfl rfl rfl ?_
    refine PW_sipush (pc' := 8) (v := 192) (pw_dk dc_X10_reachState 3 rfl) rfl (by decide) ?_
    refine PW_icmp_ge (pc' := 11) (tgt := 31) (pw_dk dc_X10_reachState 4 rfl) rfl (by decide) (fun c_2 => ?_) (fun c_2 => ?_)
    · rw [if_pos c_2] at h
      have z := wp_some h
      exact PZ_vret (pw_dk dc_X10_reachState 15 rfl) rfl z
    · rw [if_neg c_2] at h
      refine PW_aload_n (pc' := 12) (q := 0) (pw_dk dc_X10_reachState 5 rfl) rfl rfl rfl ?_
      refine PW_getR (pc' := 15) (id := 1500) (ci := 10) (nn := 0) (C0 := RX10) (T := TX10) (N := 7) (j := 2) (r := 1503) (pw_dk dc_X10_reachState 6 rfl) rfl me_1500 rfl pi_10 (by decide) fk_10_2 tw_562 (rfl) (by decide) ?_
      refine PW_iload_n (pc' := 16) (q := 1) (pw_dk dc_X10_reachState 7 rfl) rfl rfl rfl ?_
      obtain ⟨v_3, hi_4, e_5, h⟩ := wp_rdIx h
      refine PZ_ialdx (pc' := 17) (v := v_3) (id := 1503) (nn := 192) (pw_dk dc_X10_reachState 8 rfl) rfl me_1503 hi_4 e_5 ?_
      refine PW_iconst (pc' := 18) (v := (-1 : Int32)) (pw_dk dc_X10_reachState 9 rfl) rfl (by decide) ?_
      refine PW_icmp_ne (pc' := 21) (tgt := 31) (pw_dk dc_X10_reachState 10 rfl) rfl (by decide) (fun c_6 => ?_) (fun c_6 => ?_)
      · rw [if_neg c_6] at h
        have z := wp_some h
        exact PZ_vret (pw_dk dc_X10_reachState 15 rfl) rfl z
      · rw [if_pos c_6] at h
        refine PW_aload_n (pc' := 22) (q := 0) (pw_dk dc_X10_reachState 11 rfl) rfl rfl rfl ?_
        refine PZ_getI (pc' := 25) (id := 1500) (ci := 10) (nn := 0) (C0 := RX10) (T := TX10) (N := 7) (j := 0) (pw_dk dc_X10_reachState 12 rfl) rfl me_1500 rfl pi_10 (by decide) fk_10_0 tw_558 ?_
        refine PW_sipush (pc' := 28) (v := 192) (pw_dk dc_X10_reachState 13 rfl) rfl (by decide) ?_
        refine PW_icmp_lt (pc' := 31) (tgt := 32) (pw_dk dc_X10_reachState 14 rfl) rfl (by decide) (fun c_7 => ?_) (fun c_7 => ?_)
        · rw [if_pos c_7] at h
          refine PW_aload_n (pc' := 33) (q := 0) (pw_dk dc_X10_reachState 16 rfl) rfl rfl rfl ?_
          refine PW_getR (pc' := 36) (id := 1500) (ci := 10) (nn := 0) (C0 := RX10) (T := TX10) (N := 7) (j := 2) (r := 1503) (pw_dk dc_X10_reachState 17 rfl) rfl me_1500 rfl pi_10 (by decide) fk_10_2 tw_562 (rfl) (by decide) ?_
          refine PW_iload_n (pc' := 37) (q := 1) (pw_dk dc_X10_reachState 18 rfl) rfl rfl rfl ?_
          refine PW_iload_n (pc' := 38) (q := 2) (pw_dk dc_X10_reachState 19 rfl) rfl rfl rfl ?_
          refine PW_iconst (pc' := 39) (v := (-1 : Int32)) (pw_dk dc_X10_reachState 20 rfl) rfl (by decide) ?_
          refine PW_icmp_ne (pc' := 42) (tgt := 46) (pw_dk dc_X10_reachState 21 rfl) rfl (by decide) (fun c_8 => ?_) (fun c_8 => ?_)
          · rw [if_neg c_8] at h
            refine PW_aload_n (pc' := 47) (q := 0) (pw_dk dc_X10_reachState 24 rfl) rfl rfl rfl ?_
            refine PW_getR (pc' := 50) (id := 1500) (ci := 10) (nn := 0) (C0 := RX10) (T := TX10) (N := 7) (j := 2) (r := 1503) (pw_dk dc_X10_reachState 25 rfl) rfl me_1500 rfl pi_10 (by decide) fk_10_2 tw_562 (rfl) (by decide) ?_
            refine PW_iload_n (pc' := 51) (q := 2) (pw_dk dc_X10_reachState 26 rfl) rfl rfl rfl ?_
            obtain ⟨v_9, hi_10, e_11, h⟩ := wp_rdIx h
            refine PZ_ialdx (pc' := 52) (v := v_9) (id := 1503) (nn := 192) (pw_dk dc_X10_reachState 27 rfl) rfl me_1503 hi_10 e_11 ?_
            refine PW_iconst (pc' := 53) (v := 1) (pw_dk dc_X10_reachState 28 rfl) rfl (by decide) ?_
            refine PW_iadd (pc' := 54) (pw_dk dc_X10_reachState 29 rfl) rfl ?_
            exact b_X10_reachState_54 x1 x2 x3 x1 (v_9 + (1 : Int32)) σ h
          · rw [if_pos c_8] at h
            refine PW_iconst (pc' := 43) (v := 0) (pw_dk dc_X10_reachState 22 rfl) rfl (by decide) ?_
            refine PW_goto (tgt := 54) (pw_dk dc_X10_reachState 23 rfl) (by decide) ?_
            exact b_X10_reachState_54 x1 x2 x3 x1 0 σ h
        · rw [if_neg c_7] at h
          have z := wp_some h
          exact PZ_vret (pw_dk dc_X10_reachState 15 rfl) rfl z
def f_X10_explore_48 (r22 : Int32 → Int32 → zS → Option zS) : Nat → Int32 → Int32 → Int32 → Int32 → zS → Option zS
  | 0, _, _, _, _, _ => none
  | n + 1, x2, x3, x4, x5, σ => 
    if 6 ≤ x5 then
      r22 x2 (x3 + 1) σ
    else
      (f_X10_reachState (f_X5_movedBy x4 x5 x2 σ) x4 x5 σ).bind fun σ_4 =>
      f_X10_explore_48 r22 n x2 x3 x4 (x5 + 1) σ_4
theorem b_X10_explore_48 {Q : Option Value → zS → Prop} (r22 : Int32 → Int32 → zS → Option zS) (hr22 : ∀ (x2 : Int32) (x3 : Int32) (σ : zS), wpO (r22 x2 x3 σ) (fun s => Q none s) → PZ alC mX10_explore (2) Q 22 [(0, .ref 1500), (2, .int x2), (3, .int x3)] [] σ) : ∀ (n : Nat) (x2 : Int32) (x3 : Int32) (x4 : Int32) (x5 : Int32) (σ : zS) (h : wpO (f_X10_explore_48 r22 n x2 x3 x4 x5 σ) (fun s => Q none s)), PZ alC mX10_explore (2) Q 48 [(0, .ref 1500), (2, .int x2), (3, .int x3), (4, .int x4), (5, .int x5)] [] σ := by
  intro n
  induction n with
  | zero => intro x2 x3 x4 x5 σ h; exact wp_none h
  | succ n ih =>
    intro x2 x3 x4 x5 σ h
    rw [f_X10_explore_48] at h
    refine PW_iload (pc' := 50) (q := 4) (pw_dk dc_X10_explore 28 rfl) rfl rfl ?_
    refine PW_bipush (pc' := 52) (v := 6) (pw_dk dc_X10_explore 29 rfl) rfl (by decide) ?_
    refine PW_icmp_ge (pc' := 55) (tgt := 77) (pw_dk dc_X10_explore 30 rfl) rfl (by decide) (fun c_1 => ?_) (fun c_1 => ?_)
    · rw [if_pos c_1] at h
      refine PW_iinc (pc' := 80) (q := 2) (v := x3 + 1) (lv' := [(3, .int (x3 + 1)), (0, .ref 1500), (2, .int x2), (4, .int x4), (5, .int x5)]) (pw_dk dc_X10_explore 41 rfl) rfl rfl rfl (by decide) rfl ?_
      refine PW_goto (tgt := 22) (pw_dk dc_X10_explore 42 rfl) (by decide) ?_
      refine PW_sub (lv' := [(0, .ref 1500), (2, .int x2), (3, .int (x3 + 1))]) [1, 2, 0] rfl ?_
      exact hr22 x2 (x3 + 1) σ h
    · rw [if_neg c_1] at h
      refine PW_aload_n (pc' := 56) (q := 0) (pw_dk dc_X10_explore 31 rfl) rfl rfl rfl ?_
      refine PW_iload (pc' := 58) (q := 3) (pw_dk dc_X10_explore 32 rfl) rfl rfl ?_
      refine PW_iload (pc' := 60) (q := 4) (pw_dk dc_X10_explore 33 rfl) rfl rfl ?_
      refine PW_iload_n (pc' := 61) (q := 1) (pw_dk dc_X10_explore 34 rfl) rfl rfl rfl ?_
      refine PZ_callSi (pc' := 64) (y := yX5_movedBy) (M' := mX5_movedBy) (d' := 1) (As := [.int x4, .int x5, .int x2]) (st := [.ref 1500]) tw_997 (pw_dk dc_X10_explore 35 rfl) rfl Y_X5_movedBy tw_1062 rfl (by decide) (Nat.le_of_ble_eq_true rfl) (t_X5_movedBy x4 x5 x2 σ _ ?_)
      refine ⟨_, rfl, fun hn_2 => ?_⟩
      show PZ alC mX10_explore (2) Q 64 [(0, .ref 1500), (2, .int x2), (3, .int x3), (4, .int x4), (5, .int x5)] [.int (f_X5_movedBy x4 x5 x2 σ), .ref 1500] σ
      refine PW_iload (pc' := 66) (q := 3) (pw_dk dc_X10_explore 36 rfl) rfl rfl ?_
      refine PW_iload (pc' := 68) (q := 4) (pw_dk dc_X10_explore 37 rfl) rfl rfl ?_
      refine PZ_callVv (pc' := 71) (y := yX10_reachState) (M' := mX10_reachState) (d' := 0) (As := [.int (f_X5_movedBy x4 x5 x2 σ), .int x4, .int x5]) (st := []) (b := 1500) (ci := 10) (nn := 0) me_1500 rfl tw_1060 tw_35 (pw_dk dc_X10_explore 38 rfl) rfl Y_X10_reachState tw_1058 rfl (by decide) (Nat.le_of_ble_eq_true rfl) (t_X10_reachState (f_X5_movedBy x4 x5 x2 σ) x4 x5 σ _ ?_)
      obtain ⟨σ_4, e_5, h⟩ := wp_bind h
      refine ⟨σ_4, e_5, rfl, fun hn_3 => ?_⟩
      show PZ alC mX10_explore (2) Q 71 [(0, .ref 1500), (2, .int x2), (3, .int x3), (4, .int x4), (5, .int x5)] [] σ_4
      refine PW_iinc (pc' := 74) (q := 4) (v := x5 + 1) (lv' := [(5, .int (x5 + 1)), (0, .ref 1500), (2, .int x2), (3, .int x3), (4, .int x4)]) (pw_dk dc_X10_explore 39 rfl) rfl rfl rfl (by decide) rfl ?_
      refine PW_goto (tgt := 48) (pw_dk dc_X10_explore 40 rfl) (by decide) ?_
      refine PW_sub (lv' := [(0, .ref 1500), (2, .int x2), (3, .int x3), (4, .int x4), (5, .int (x5 + 1))]) [1, 2, 3, 4, 0] rfl ?_
      exact ih x2 x3 x4 (x5 + 1) σ_4 h
def f_X10_explore_22  : Nat → Int32 → Int32 → zS → Option zS
  | 0, _, _, _ => none
  | n + 1, x2, x3, σ => 
    if (σ.1 1500 0) ≤ x3 then
      some σ
    else
      if 192 ≤ x3 then
        some σ
      else
        (rdI σ 1502 192 x3).bind fun v_3 =>
        f_X10_explore_48 (f_X10_explore_22 n) FU x2 x3 v_3 0 σ
theorem b_X10_explore_22 {Q : Option Value → zS → Prop} : ∀ (n : Nat) (x2 : Int32) (x3 : Int32) (σ : zS) (h : wpO (f_X10_explore_22 n x2 x3 σ) (fun s => Q none s)), PZ alC mX10_explore (2) Q 22 [(0, .ref 1500), (2, .int x2), (3, .int x3)] [] σ := by
  intro n
  induction n with
  | zero => intro x2 x3 σ h; exact wp_none h
  | succ n ih =>
    intro x2 x3 σ h
    rw [f_X10_explore_22] at h
    refine PW_iload_n (pc' := 23) (q := 2) (pw_dk dc_X10_explore 14 rfl) rfl rfl rfl ?_
    refine PW_aload_n (pc' := 24) (q := 0) (pw_dk dc_X10_explore 15 rfl) rfl rfl rfl ?_
    refine PZ_getI (pc' := 27) (id := 1500) (ci := 10) (nn := 0) (C0 := RX10) (T := TX10) (N := 7) (j := 0) (pw_dk dc_X10_explore 16 rfl) rfl me_1500 rfl pi_10 (by decide) fk_10_0 tw_558 ?_
    refine PW_icmp_ge (pc' := 30) (tgt := 83) (pw_dk dc_X10_explore 17 rfl) rfl (by decide) (fun c_1 => ?_) (fun c_1 => ?_)
    · rw [if_pos c_1] at h
      have z := wp_some h
      exact PZ_vret (pw_dk dc_X10_explore 43 rfl) rfl z
    · rw [if_neg c_1] at h
      refine PW_iload_n (pc' := 31) (q := 2) (pw_dk dc_X10_explore 18 rfl) rfl rfl rfl ?_
      refine PW_sipush (pc' := 34) (v := 192) (pw_dk dc_X10_explore 19 rfl) rfl (by decide) ?_
      refine PW_icmp_ge (pc' := 37) (tgt := 83) (pw_dk dc_X10_explore 20 rfl) rfl (by decide) (fun c_2 => ?_) (fun c_2 => ?_)
      · rw [if_pos c_2] at h
        have z := wp_some h
        exact PZ_vret (pw_dk dc_X10_explore 43 rfl) rfl z
      · rw [if_neg c_2] at h
        refine PW_aload_n (pc' := 38) (q := 0) (pw_dk dc_X10_explore 21 rfl) rfl rfl rfl ?_
        refine PW_getR (pc' := 41) (id := 1500) (ci := 10) (nn := 0) (C0 := RX10) (T := TX10) (N := 7) (j := 1) (r := 1502) (pw_dk dc_X10_explore 22 rfl) rfl me_1500 rfl pi_10 (by decide) fk_10_1 tw_560 (rfl) (by decide) ?_
        refine PW_iload_n (pc' := 42) (q := 2) (pw_dk dc_X10_explore 23 rfl) rfl rfl rfl ?_
        obtain ⟨v_3, hi_4, e_5, h⟩ := wp_rdIx h
        refine PZ_ialdx (pc' := 43) (v := v_3) (id := 1502) (nn := 192) (pw_dk dc_X10_explore 24 rfl) rfl me_1502 hi_4 e_5 ?_
        refine PW_istore (pc' := 45) (lv' := [(4, .int v_3), (0, .ref 1500), (2, .int x2), (3, .int x3)]) (pw_dk dc_X10_explore 25 rfl) rfl (by decide) rfl ?_
        refine PW_iconst (pc' := 46) (v := 0) (pw_dk dc_X10_explore 26 rfl) rfl (by decide) ?_
        refine PW_istore (pc' := 48) (lv' := [(5, .int 0), (4, .int v_3), (0, .ref 1500), (2, .int x2), (3, .int x3)]) (pw_dk dc_X10_explore 27 rfl) rfl (by decide) rfl ?_
        refine PW_sub (lv' := [(0, .ref 1500), (2, .int x2), (3, .int x3), (4, .int v_3), (5, .int 0)]) [2, 3, 4, 1, 0] rfl ?_
        exact b_X10_explore_48 (f_X10_explore_22 n) ih FU x2 x3 v_3 0 σ h
def f_X10_explore (x1 : Int32) (x2 : Int32) (σ : zS) : Option zS := 
  (f_J7_fill_53178 1503 192 (-1 : Int32) σ).bind fun σ_2 =>
  lt (wI σ_2 1500 0 0) fun σ_4 =>
  (f_X10_reachState x1 (-1 : Int32) (-1 : Int32) σ_4).bind fun σ_7 =>
  f_X10_explore_22 FU x2 0 σ_7
theorem t_X10_explore (x1 : Int32) (x2 : Int32) (σ : zS) (Q : Option Value → zS → Prop) (h : wpO (f_X10_explore x1 x2 σ) (fun s => Q none s)) : PK alC yX10_explore mX10_explore (2) [.ref 1500, .int x1, .int x2] σ Q := by
  refine PC_ofF (by decide +kernel) rfl rfl (Nat.le_of_ble_eq_true rfl) ?_
  show PZ alC mX10_explore (2) Q 0 [(0, .ref 1500), (1, .int x1), (2, .int x2)] [] σ
  unfold f_X10_explore at h
  refine PW_aload_n (pc' := 1) (q := 0) (pw_dk dc_X10_explore 0 rfl) rfl rfl rfl ?_
  refine PW_getR (pc' := 4) (id := 1500) (ci := 10) (nn := 0) (C0 := RX10) (T := TX10) (N := 7) (j := 2) (r := 1503) (pw_dk dc_X10_explore 1 rfl) rfl me_1500 rfl pi_10 (by decide) fk_10_2 tw_562 (rfl) (by decide) ?_
  refine PW_iconst (pc' := 5) (v := (-1 : Int32)) (pw_dk dc_X10_explore 2 rfl) rfl (by decide) ?_
  refine PZ_callSv (pc' := 8) (y := yJ7_fill_53178) (M' := mJ7_fill_53178) (d' := 0) (As := [.ref 1503, .int (-1 : Int32)]) (st := []) tw_197 (pw_dk dc_X10_explore 3 rfl) rfl Y_J7_fill_53178 tw_1057 rfl (by decide) (Nat.le_of_ble_eq_true rfl) (t_J7_fill_53178 alC 1503 192 (-1 : Int32) me_1503 σ _ ?_)
  obtain ⟨σ_2, e_3, h⟩ := wp_bind h
  refine ⟨σ_2, e_3, rfl, fun hn_1 => ?_⟩
  show PZ alC mX10_explore (2) Q 8 [(0, .ref 1500), (1, .int x1), (2, .int x2)] [] σ_2
  refine PW_aload_n (pc' := 9) (q := 0) (pw_dk dc_X10_explore 4 rfl) rfl rfl rfl ?_
  refine PW_iconst (pc' := 10) (v := 0) (pw_dk dc_X10_explore 5 rfl) rfl (by decide) ?_
  obtain ⟨σ_4, e_5, h⟩ := lt_x h
  refine PZ_putX (pc' := 13) (σ' := σ_4) (id := 1500) (ci := 10) (nn := 0) (C0 := RX10) (T := TX10) (N := 7) (j := 0) (ty := tyX10 0) (pw_dk dc_X10_explore 6 rfl) rfl me_1500 rfl pi_10 tyX10_ok nmX10 (by decide) fk_10_0 tw_558 rfl (tyX10_ok 0 (by decide)) (by first | rfl | decide) (by first | rfl | decide) e_5 ?_
  refine PW_aload_n (pc' := 14) (q := 0) (pw_dk dc_X10_explore 7 rfl) rfl rfl rfl ?_
  refine PW_iload_n (pc' := 15) (q := 1) (pw_dk dc_X10_explore 8 rfl) rfl rfl rfl ?_
  refine PW_iconst (pc' := 16) (v := (-1 : Int32)) (pw_dk dc_X10_explore 9 rfl) rfl (by decide) ?_
  refine PW_iconst (pc' := 17) (v := (-1 : Int32)) (pw_dk dc_X10_explore 10 rfl) rfl (by decide) ?_
  refine PZ_callVv (pc' := 20) (y := yX10_reachState) (M' := mX10_reachState) (d' := 0) (As := [.int x1, .int (-1 : Int32), .int (-1 : Int32)]) (st := []) (b := 1500) (ci := 10) (nn := 0) me_1500 rfl tw_1060 tw_35 (pw_dk dc_X10_explore 11 rfl) rfl Y_X10_reachState tw_1058 rfl (by decide) (Nat.le_of_ble_eq_true rfl) (t_X10_reachState x1 (-1 : Int32) (-1 : Int32) σ_4 _ ?_)
  obtain ⟨σ_7, e_8, h⟩ := wp_bind h
  refine ⟨σ_7, e_8, rfl, fun hn_6 => ?_⟩
  show PZ alC mX10_explore (2) Q 20 [(0, .ref 1500), (1, .int x1), (2, .int x2)] [] σ_7
  refine PW_iconst (pc' := 21) (v := 0) (pw_dk dc_X10_explore 12 rfl) rfl (by decide) ?_
  refine PW_istore_n (pc' := 22) (lv' := [(3, .int 0), (0, .ref 1500), (1, .int x1), (2, .int x2)]) (pw_dk dc_X10_explore 13 rfl) rfl rfl (by decide) rfl ?_
  refine PW_sub (lv' := [(0, .ref 1500), (2, .int x2), (3, .int 0)]) [1, 3, 0] rfl ?_
  exact b_X10_explore_22 FU x2 0 σ_7 h
def f_X10_moveTo_10  : Nat → Int32 → Int32 → Int32 → zS → Option Int32
  | 0, _, _, _, _ => none
  | n + 1, x2, x3, x4, σ => 
    if x4 ≤ (x2 + (1 : Int32)) then
      (rdI σ 1505 192 x3).bind fun v_2 =>
      some v_2
    else
      (rdI σ 1504 192 x3).bind fun v_5 =>
      f_X10_moveTo_10 n x2 v_5 (x4 + (-1 : Int32)) σ
theorem b_X10_moveTo_10 {Q : Option Value → zS → Prop} : ∀ (n : Nat) (x2 : Int32) (x3 : Int32) (x4 : Int32) (σ : zS) (h : wpO (f_X10_moveTo_10 n x2 x3 x4 σ) (fun a => Q (some (.int a)) σ)), PZ alC mX10_moveTo (0) Q 10 [(0, .ref 1500), (2, .int x2), (3, .int x3), (4, .int x4)] [] σ := by
  intro n
  induction n with
  | zero => intro x2 x3 x4 σ h; exact wp_none h
  | succ n ih =>
    intro x2 x3 x4 σ h
    rw [f_X10_moveTo_10] at h
    refine PW_iload (pc' := 12) (q := 3) (pw_dk dc_X10_moveTo 7 rfl) rfl rfl ?_
    refine PW_iload_n (pc' := 13) (q := 1) (pw_dk dc_X10_moveTo 8 rfl) rfl rfl rfl ?_
    refine PW_iconst (pc' := 14) (v := 1) (pw_dk dc_X10_moveTo 9 rfl) rfl (by decide) ?_
    refine PW_iadd (pc' := 15) (pw_dk dc_X10_moveTo 10 rfl) rfl ?_
    refine PW_icmp_le (pc' := 18) (tgt := 31) (pw_dk dc_X10_moveTo 11 rfl) rfl (by decide) (fun c_1 => ?_) (fun c_1 => ?_)
    · rw [if_pos c_1] at h
      refine PW_aload_n (pc' := 32) (q := 0) (pw_dk dc_X10_moveTo 19 rfl) rfl rfl rfl ?_
      refine PW_getR (pc' := 35) (id := 1500) (ci := 10) (nn := 0) (C0 := RX10) (T := TX10) (N := 7) (j := 4) (r := 1505) (pw_dk dc_X10_moveTo 20 rfl) rfl me_1500 rfl pi_10 (by decide) fk_10_4 tw_565 (rfl) (by decide) ?_
      refine PW_iload_n (pc' := 36) (q := 2) (pw_dk dc_X10_moveTo 21 rfl) rfl rfl rfl ?_
      obtain ⟨v_2, hi_3, e_4, h⟩ := wp_rdIx h
      refine PZ_ialdx (pc' := 37) (v := v_2) (id := 1505) (nn := 192) (pw_dk dc_X10_moveTo 22 rfl) rfl me_1505 hi_3 e_4 ?_
      have z := wp_some h
      exact PZ_iret (ty := .int) (pw_dk dc_X10_moveTo 23 rfl) rfl rfl z
    · rw [if_neg c_1] at h
      refine PW_aload_n (pc' := 19) (q := 0) (pw_dk dc_X10_moveTo 12 rfl) rfl rfl rfl ?_
      refine PW_getR (pc' := 22) (id := 1500) (ci := 10) (nn := 0) (C0 := RX10) (T := TX10) (N := 7) (j := 3) (r := 1504) (pw_dk dc_X10_moveTo 13 rfl) rfl me_1500 rfl pi_10 (by decide) fk_10_3 tw_564 (rfl) (by decide) ?_
      refine PW_iload_n (pc' := 23) (q := 2) (pw_dk dc_X10_moveTo 14 rfl) rfl rfl rfl ?_
      obtain ⟨v_5, hi_6, e_7, h⟩ := wp_rdIx h
      refine PZ_ialdx (pc' := 24) (v := v_5) (id := 1504) (nn := 192) (pw_dk dc_X10_moveTo 15 rfl) rfl me_1504 hi_6 e_7 ?_
      refine PW_istore_n (pc' := 25) (lv' := [(3, .int v_5), (0, .ref 1500), (2, .int x2), (4, .int x4)]) (pw_dk dc_X10_moveTo 16 rfl) rfl rfl (by decide) rfl ?_
      refine PW_iinc (pc' := 28) (q := 3) (v := x4 + (-1 : Int32)) (lv' := [(4, .int (x4 + (-1 : Int32))), (3, .int v_5), (0, .ref 1500), (2, .int x2)]) (pw_dk dc_X10_moveTo 17 rfl) rfl rfl rfl (by decide) rfl ?_
      refine PW_goto (tgt := 10) (pw_dk dc_X10_moveTo 18 rfl) (by decide) ?_
      refine PW_sub (lv' := [(0, .ref 1500), (2, .int x2), (3, .int v_5), (4, .int (x4 + (-1 : Int32)))]) [2, 3, 1, 0] rfl ?_
      exact ih x2 v_5 (x4 + (-1 : Int32)) σ h
def f_X10_moveTo (x1 : Int32) (x2 : Int32) (σ : zS) : Option Int32 := 
  (rdI σ 1503 192 x1).bind fun v_1 =>
  f_X10_moveTo_10 FU x2 x1 v_1 σ
theorem t_X10_moveTo (x1 : Int32) (x2 : Int32) (σ : zS) (Q : Option Value → zS → Prop) (h : wpO (f_X10_moveTo x1 x2 σ) (fun a => Q (some (.int a)) σ)) : PK alC yX10_moveTo mX10_moveTo (0) [.ref 1500, .int x1, .int x2] σ Q := by
  refine PC_ofF (by decide +kernel) rfl rfl (Nat.le_of_ble_eq_true rfl) ?_
  show PZ alC mX10_moveTo (0) Q 0 [(0, .ref 1500), (1, .int x1), (2, .int x2)] [] σ
  unfold f_X10_moveTo at h
  refine PW_iload_n (pc' := 1) (q := 1) (pw_dk dc_X10_moveTo 0 rfl) rfl rfl rfl ?_
  refine PW_istore_n (pc' := 2) (lv' := [(3, .int x1), (0, .ref 1500), (1, .int x1), (2, .int x2)]) (pw_dk dc_X10_moveTo 1 rfl) rfl rfl (by decide) rfl ?_
  refine PW_aload_n (pc' := 3) (q := 1) (pw_dk dc_X10_moveTo 2 rfl) rfl rfl rfl ?_
  refine PW_getR (pc' := 6) (id := 1500) (ci := 10) (nn := 0) (C0 := RX10) (T := TX10) (N := 7) (j := 2) (r := 1503) (pw_dk dc_X10_moveTo 3 rfl) rfl me_1500 rfl pi_10 (by decide) fk_10_2 tw_562 (rfl) (by decide) ?_
  refine PW_iload_n (pc' := 7) (q := 2) (pw_dk dc_X10_moveTo 4 rfl) rfl rfl rfl ?_
  obtain ⟨v_1, hi_2, e_3, h⟩ := wp_rdIx h
  refine PZ_ialdx (pc' := 8) (v := v_1) (id := 1503) (nn := 192) (pw_dk dc_X10_moveTo 5 rfl) rfl me_1503 hi_2 e_3 ?_
  refine PW_istore (pc' := 10) (lv' := [(4, .int v_1), (3, .int x1), (0, .ref 1500), (1, .int x1), (2, .int x2)]) (pw_dk dc_X10_moveTo 6 rfl) rfl (by decide) rfl ?_
  refine PW_sub (lv' := [(0, .ref 1500), (2, .int x2), (3, .int x1), (4, .int v_1)]) [2, 4, 1, 0] rfl ?_
  exact b_X10_moveTo_10 FU x2 x1 v_1 σ h
def f_X10_leastSum_106 (r27 : Int32 → Int32 → Int32 → Int32 → zS → Option Int32) (x1 : Int32) (x2 : Int32) (x3 : Int32) (x4 : Int32) (σ : zS) : Option Int32 := 
  r27 x1 x2 x3 (x4 + 1) σ
theorem b_X10_leastSum_106 {Q : Option Value → zS → Prop} (r27 : Int32 → Int32 → Int32 → Int32 → zS → Option Int32) (hr27 : ∀ (x1 : Int32) (x2 : Int32) (x3 : Int32) (x4 : Int32) (σ : zS), wpO (r27 x1 x2 x3 x4 σ) (fun a => Q (some (.int a)) σ) → PZ alC mX10_leastSum (1) Q 27 [(0, .ref 1500), (1, .int x1), (2, .int x2), (3, .int x3), (4, .int x4)] [] σ) (x1 : Int32) (x2 : Int32) (x3 : Int32) (x4 : Int32) (σ : zS) (h : wpO (f_X10_leastSum_106 r27 x1 x2 x3 x4 σ) (fun a => Q (some (.int a)) σ)) : PZ alC mX10_leastSum (1) Q 106 [(0, .ref 1500), (1, .int x1), (2, .int x2), (3, .int x3), (4, .int x4)] [] σ := by
  unfold f_X10_leastSum_106 at h
  refine PW_iinc (pc' := 109) (q := 4) (v := x4 + 1) (lv' := [(4, .int (x4 + 1)), (0, .ref 1500), (1, .int x1), (2, .int x2), (3, .int x3)]) (pw_dk dc_X10_leastSum 62 rfl) rfl rfl rfl (by decide) rfl ?_
  refine PW_goto (tgt := 27) (pw_dk dc_X10_leastSum 63 rfl) (by decide) ?_
  refine PW_sub (lv' := [(0, .ref 1500), (1, .int x1), (2, .int x2), (3, .int x3), (4, .int (x4 + 1))]) [1, 2, 3, 4, 0] rfl ?_
  exact hr27 x1 x2 x3 (x4 + 1) σ h
def f_X10_leastSum_103 (r27 : Int32 → Int32 → Int32 → Int32 → zS → Option Int32) (x1 : Int32) (x3 : Int32) (x4 : Int32) (x5 : Int32) (σ : zS) : Option Int32 := 
  f_X10_leastSum_106 r27 x1 x5 x3 x4 σ
theorem b_X10_leastSum_103 {Q : Option Value → zS → Prop} (r27 : Int32 → Int32 → Int32 → Int32 → zS → Option Int32) (hr27 : ∀ (x1 : Int32) (x2 : Int32) (x3 : Int32) (x4 : Int32) (σ : zS), wpO (r27 x1 x2 x3 x4 σ) (fun a => Q (some (.int a)) σ) → PZ alC mX10_leastSum (1) Q 27 [(0, .ref 1500), (1, .int x1), (2, .int x2), (3, .int x3), (4, .int x4)] [] σ) (x1 : Int32) (x3 : Int32) (x4 : Int32) (x5 : Int32) (σ : zS) (h : wpO (f_X10_leastSum_103 r27 x1 x3 x4 x5 σ) (fun a => Q (some (.int a)) σ)) : PZ alC mX10_leastSum (1) Q 103 [(0, .ref 1500), (1, .int x1), (3, .int x3), (4, .int x4), (5, .int x5)] [] σ := by
  unfold f_X10_leastSum_103 at h
  refine PW_iload (pc' := 105) (q := 4) (pw_dk dc_X10_leastSum 60 rfl) rfl rfl ?_
  refine PW_istore_n (pc' := 106) (lv' := [(2, .int x5), (0, .ref 1500), (1, .int x1), (3, .int x3), (4, .int x4), (5, .int x5)]) (pw_dk dc_X10_leastSum 61 rfl) rfl rfl (by decide) rfl ?_
  refine PW_sub (lv' := [(0, .ref 1500), (1, .int x1), (2, .int x5), (3, .int x3), (4, .int x4)]) [1, 2, 0, 3, 4] rfl ?_
  exact b_X10_leastSum_106 r27 hr27 x1 x5 x3 x4 σ h
def f_X10_leastSum_84 (r27 : Int32 → Int32 → Int32 → Int32 → zS → Option Int32) (x1 : Int32) (x2 : Int32) (x3 : Int32) (x4 : Int32) (x5 : Int32) (s0 : Int32) (σ : zS) : Option Int32 := 
  if s0 = 0 then
    f_X10_leastSum_106 r27 x1 x2 x3 x4 σ
  else
    if x2 = (-2 : Int32) then
      f_X10_leastSum_103 r27 x1 x3 x4 x5 σ
    else
      if x2 ≤ x5 then
        f_X10_leastSum_106 r27 x1 x2 x3 x4 σ
      else
        f_X10_leastSum_103 r27 x1 x3 x4 x5 σ
theorem b_X10_leastSum_84 {Q : Option Value → zS → Prop} (r27 : Int32 → Int32 → Int32 → Int32 → zS → Option Int32) (hr27 : ∀ (x1 : Int32) (x2 : Int32) (x3 : Int32) (x4 : Int32) (σ : zS), wpO (r27 x1 x2 x3 x4 σ) (fun a => Q (some (.int a)) σ) → PZ alC mX10_leastSum (1) Q 27 [(0, .ref 1500), (1, .int x1), (2, .int x2), (3, .int x3), (4, .int x4)] [] σ) (x1 : Int32) (x2 : Int32) (x3 : Int32) (x4 : Int32) (x5 : Int32) (s0 : Int32) (σ : zS) (h : wpO (f_X10_leastSum_84 r27 x1 x2 x3 x4 x5 s0 σ) (fun a => Q (some (.int a)) σ)) : PZ alC mX10_leastSum (1) Q 84 [(0, .ref 1500), (1, .int x1), (2, .int x2), (3, .int x3), (4, .int x4), (5, .int x5)] [.int s0] σ := by
  unfold f_X10_leastSum_84 at h
  refine PW_istore (pc' := 86) (lv' := [(6, .int s0), (0, .ref 1500), (1, .int x1), (2, .int x2), (3, .int x3), (4, .int x4), (5, .int x5)]) (pw_dk dc_X10_leastSum 51 rfl) rfl (by decide) rfl ?_
  refine PW_iload (pc' := 88) (q := 0) (pw_dk dc_X10_leastSum 52 rfl) rfl rfl ?_
  refine PW_if_eq (pc' := 91) (tgt := 106) (pw_dk dc_X10_leastSum 53 rfl) rfl (by decide) (fun c_1 => ?_) (fun c_1 => ?_)
  · rw [if_pos c_1] at h
    refine PW_sub (lv' := [(0, .ref 1500), (1, .int x1), (2, .int x2), (3, .int x3), (4, .int x4)]) [1, 2, 3, 4, 5] rfl ?_
    exact b_X10_leastSum_106 r27 hr27 x1 x2 x3 x4 σ h
  · rw [if_neg c_1] at h
    refine PW_iload_n (pc' := 92) (q := 3) (pw_dk dc_X10_leastSum 54 rfl) rfl rfl rfl ?_
    refine PW_bipush (pc' := 94) (v := (-2 : Int32)) (pw_dk dc_X10_leastSum 55 rfl) rfl (by decide) ?_
    refine PW_icmp_eq (pc' := 97) (tgt := 103) (pw_dk dc_X10_leastSum 56 rfl) rfl (by decide) (fun c_2 => ?_) (fun c_2 => ?_)
    · rw [if_pos c_2] at h
      refine PW_sub (lv' := [(0, .ref 1500), (1, .int x1), (3, .int x3), (4, .int x4), (5, .int x5)]) [1, 2, 4, 5, 6] rfl ?_
      exact b_X10_leastSum_103 r27 hr27 x1 x3 x4 x5 σ h
    · rw [if_neg c_2] at h
      refine PW_iload (pc' := 99) (q := 6) (pw_dk dc_X10_leastSum 57 rfl) rfl rfl ?_
      refine PW_iload_n (pc' := 100) (q := 3) (pw_dk dc_X10_leastSum 58 rfl) rfl rfl rfl ?_
      refine PW_icmp_ge (pc' := 103) (tgt := 106) (pw_dk dc_X10_leastSum 59 rfl) rfl (by decide) (fun c_3 => ?_) (fun c_3 => ?_)
      · rw [if_pos c_3] at h
        refine PW_sub (lv' := [(0, .ref 1500), (1, .int x1), (2, .int x2), (3, .int x3), (4, .int x4)]) [1, 2, 3, 4, 5] rfl ?_
        exact b_X10_leastSum_106 r27 hr27 x1 x2 x3 x4 σ h
      · rw [if_neg c_3] at h
        refine PW_sub (lv' := [(0, .ref 1500), (1, .int x1), (3, .int x3), (4, .int x4), (5, .int x5)]) [1, 2, 4, 5, 6] rfl ?_
        exact b_X10_leastSum_103 r27 hr27 x1 x3 x4 x5 σ h
def f_X10_leastSum_83 (r27 : Int32 → Int32 → Int32 → Int32 → zS → Option Int32) (x1 : Int32) (x2 : Int32) (x3 : Int32) (x4 : Int32) (x5 : Int32) (σ : zS) : Option Int32 := 
  f_X10_leastSum_84 r27 x1 x2 x3 x4 x5 0 σ
theorem b_X10_leastSum_83 {Q : Option Value → zS → Prop} (r27 : Int32 → Int32 → Int32 → Int32 → zS → Option Int32) (hr27 : ∀ (x1 : Int32) (x2 : Int32) (x3 : Int32) (x4 : Int32) (σ : zS), wpO (r27 x1 x2 x3 x4 σ) (fun a => Q (some (.int a)) σ) → PZ alC mX10_leastSum (1) Q 27 [(0, .ref 1500), (1, .int x1), (2, .int x2), (3, .int x3), (4, .int x4)] [] σ) (x1 : Int32) (x2 : Int32) (x3 : Int32) (x4 : Int32) (x5 : Int32) (σ : zS) (h : wpO (f_X10_leastSum_83 r27 x1 x2 x3 x4 x5 σ) (fun a => Q (some (.int a)) σ)) : PZ alC mX10_leastSum (1) Q 83 [(0, .ref 1500), (1, .int x1), (2, .int x2), (3, .int x3), (4, .int x4), (5, .int x5)] [] σ := by
  unfold f_X10_leastSum_83 at h
  refine PW_iconst (pc' := 84) (v := 0) (pw_dk dc_X10_leastSum 50 rfl) rfl (by decide) ?_
  exact b_X10_leastSum_84 r27 hr27 x1 x2 x3 x4 x5 0 σ h
def f_X10_leastSum_112 (r5 : Int32 → Int32 → Int32 → zS → Option Int32) (x1 : Int32) (x2 : Int32) (x3 : Int32) (σ : zS) : Option Int32 := 
  r5 x1 x2 (x3 + 1) σ
theorem b_X10_leastSum_112 {Q : Option Value → zS → Prop} (r5 : Int32 → Int32 → Int32 → zS → Option Int32) (hr5 : ∀ (x1 : Int32) (x2 : Int32) (x3 : Int32) (σ : zS), wpO (r5 x1 x2 x3 σ) (fun a => Q (some (.int a)) σ) → PZ alC mX10_leastSum (1) Q 5 [(0, .ref 1500), (1, .int x1), (2, .int x2), (3, .int x3)] [] σ) (x1 : Int32) (x2 : Int32) (x3 : Int32) (σ : zS) (h : wpO (f_X10_leastSum_112 r5 x1 x2 x3 σ) (fun a => Q (some (.int a)) σ)) : PZ alC mX10_leastSum (1) Q 112 [(0, .ref 1500), (1, .int x1), (2, .int x2), (3, .int x3)] [] σ := by
  unfold f_X10_leastSum_112 at h
  refine PW_iinc (pc' := 115) (q := 3) (v := x3 + 1) (lv' := [(3, .int (x3 + 1)), (0, .ref 1500), (1, .int x1), (2, .int x2)]) (pw_dk dc_X10_leastSum 64 rfl) rfl rfl rfl (by decide) rfl ?_
  refine PW_goto (tgt := 5) (pw_dk dc_X10_leastSum 65 rfl) (by decide) ?_
  refine PW_sub (lv' := [(0, .ref 1500), (1, .int x1), (2, .int x2), (3, .int (x3 + 1))]) [1, 2, 3, 0] rfl ?_
  exact hr5 x1 x2 (x3 + 1) σ h
def f_X10_leastSum_27 (r5 : Int32 → Int32 → Int32 → zS → Option Int32) : Nat → Int32 → Int32 → Int32 → Int32 → zS → Option Int32
  | 0, _, _, _, _, _ => none
  | n + 1, x1, x2, x3, x4, σ => 
    if (x3 + (1 : Int32)) < x4 then
      f_X10_leastSum_112 r5 x1 x2 x3 σ
    else
      if 14 ≤ x4 then
        f_X10_leastSum_112 r5 x1 x2 x3 σ
      else
        (rdI σ 1506 14 x3).bind fun v_3 =>
        (rdI σ 1507 14 x4).bind fun v_6 =>
        lt (α := Int32) (v_3 + v_6) fun x5_9 =>
        (rdI σ 1506 14 x3).bind fun v_10 =>
        if v_10 = (-1 : Int32) then
          f_X10_leastSum_83 (f_X10_leastSum_27 r5 n) x1 x2 x3 x4 x5_9 σ
        else
          (rdI σ 1507 14 x4).bind fun v_14 =>
          if v_14 = (-1 : Int32) then
            f_X10_leastSum_83 (f_X10_leastSum_27 r5 n) x1 x2 x3 x4 x5_9 σ
          else
            f_X10_leastSum_84 (f_X10_leastSum_27 r5 n) x1 x2 x3 x4 x5_9 1 σ
theorem b_X10_leastSum_27 {Q : Option Value → zS → Prop} (r5 : Int32 → Int32 → Int32 → zS → Option Int32) (hr5 : ∀ (x1 : Int32) (x2 : Int32) (x3 : Int32) (σ : zS), wpO (r5 x1 x2 x3 σ) (fun a => Q (some (.int a)) σ) → PZ alC mX10_leastSum (1) Q 5 [(0, .ref 1500), (1, .int x1), (2, .int x2), (3, .int x3)] [] σ) : ∀ (n : Nat) (x1 : Int32) (x2 : Int32) (x3 : Int32) (x4 : Int32) (σ : zS) (h : wpO (f_X10_leastSum_27 r5 n x1 x2 x3 x4 σ) (fun a => Q (some (.int a)) σ)), PZ alC mX10_leastSum (1) Q 27 [(0, .ref 1500), (1, .int x1), (2, .int x2), (3, .int x3), (4, .int x4)] [] σ := by
  intro n
  induction n with
  | zero => intro x1 x2 x3 x4 σ h; exact wp_none h
  | succ n ih =>
    intro x1 x2 x3 x4 σ h
    rw [f_X10_leastSum_27] at h
    refine PW_iload (pc' := 29) (q := 4) (pw_dk dc_X10_leastSum 18 rfl) rfl rfl ?_
    refine PW_iload_n (pc' := 30) (q := 3) (pw_dk dc_X10_leastSum 19 rfl) rfl rfl rfl ?_
    refine PW_iconst (pc' := 31) (v := 1) (pw_dk dc_X10_leastSum 20 rfl) rfl (by decide) ?_
    refine PW_iadd (pc' := 32) (pw_dk dc_X10_leastSum 21 rfl) rfl ?_
    refine PW_icmp_gt (pc' := 35) (tgt := 112) (pw_dk dc_X10_leastSum 22 rfl) rfl (by decide) (fun c_1 => ?_) (fun c_1 => ?_)
    · rw [if_pos c_1] at h
      refine PW_sub (lv' := [(0, .ref 1500), (1, .int x1), (2, .int x2), (3, .int x3)]) [0, 1, 2, 3] rfl ?_
      exact b_X10_leastSum_112 r5 hr5 x1 x2 x3 σ h
    · rw [if_neg c_1] at h
      refine PW_iload (pc' := 37) (q := 4) (pw_dk dc_X10_leastSum 23 rfl) rfl rfl ?_
      refine PW_bipush (pc' := 39) (v := 14) (pw_dk dc_X10_leastSum 24 rfl) rfl (by decide) ?_
      refine PW_icmp_ge (pc' := 42) (tgt := 112) (pw_dk dc_X10_leastSum 25 rfl) rfl (by decide) (fun c_2 => ?_) (fun c_2 => ?_)
      · rw [if_pos c_2] at h
        refine PW_sub (lv' := [(0, .ref 1500), (1, .int x1), (2, .int x2), (3, .int x3)]) [0, 1, 2, 3] rfl ?_
        exact b_X10_leastSum_112 r5 hr5 x1 x2 x3 σ h
      · rw [if_neg c_2] at h
        refine PW_aload_n (pc' := 43) (q := 0) (pw_dk dc_X10_leastSum 26 rfl) rfl rfl rfl ?_
        refine PW_getR (pc' := 46) (id := 1500) (ci := 10) (nn := 0) (C0 := RX10) (T := TX10) (N := 7) (j := 5) (r := 1506) (pw_dk dc_X10_leastSum 27 rfl) rfl me_1500 rfl pi_10 (by decide) fk_10_5 tw_566 (rfl) (by decide) ?_
        refine PW_iload_n (pc' := 47) (q := 3) (pw_dk dc_X10_leastSum 28 rfl) rfl rfl rfl ?_
        obtain ⟨v_3, hi_4, e_5, h⟩ := wp_rdIx h
        refine PZ_ialdx (pc' := 48) (v := v_3) (id := 1506) (nn := 14) (pw_dk dc_X10_leastSum 29 rfl) rfl me_1506 hi_4 e_5 ?_
        refine PW_aload_n (pc' := 49) (q := 0) (pw_dk dc_X10_leastSum 30 rfl) rfl rfl rfl ?_
        refine PW_getR (pc' := 52) (id := 1500) (ci := 10) (nn := 0) (C0 := RX10) (T := TX10) (N := 7) (j := 6) (r := 1507) (pw_dk dc_X10_leastSum 31 rfl) rfl me_1500 rfl pi_10 (by decide) fk_10_6 tw_568 (rfl) (by decide) ?_
        refine PW_iload (pc' := 54) (q := 4) (pw_dk dc_X10_leastSum 32 rfl) rfl rfl ?_
        obtain ⟨v_6, hi_7, e_8, h⟩ := wp_rdIx h
        refine PZ_ialdx (pc' := 55) (v := v_6) (id := 1507) (nn := 14) (pw_dk dc_X10_leastSum 33 rfl) rfl me_1507 hi_7 e_8 ?_
        refine PW_iadd (pc' := 56) (pw_dk dc_X10_leastSum 34 rfl) rfl ?_
        refine PW_topi (fun x5_9 ex5_9 => ?_)
        replace h := lt_w h ex5_9
        refine PW_istore (pc' := 58) (lv' := [(5, .int x5_9), (0, .ref 1500), (1, .int x1), (2, .int x2), (3, .int x3), (4, .int x4)]) (pw_dk dc_X10_leastSum 35 rfl) rfl (by decide) rfl ?_
        refine PW_aload_n (pc' := 59) (q := 1) (pw_dk dc_X10_leastSum 36 rfl) rfl rfl rfl ?_
        refine PW_getR (pc' := 62) (id := 1500) (ci := 10) (nn := 0) (C0 := RX10) (T := TX10) (N := 7) (j := 5) (r := 1506) (pw_dk dc_X10_leastSum 37 rfl) rfl me_1500 rfl pi_10 (by decide) fk_10_5 tw_566 (rfl) (by decide) ?_
        refine PW_iload_n (pc' := 63) (q := 4) (pw_dk dc_X10_leastSum 38 rfl) rfl rfl rfl ?_
        obtain ⟨v_10, hi_11, e_12, h⟩ := wp_rdIx h
        refine PZ_ialdx (pc' := 64) (v := v_10) (id := 1506) (nn := 14) (pw_dk dc_X10_leastSum 39 rfl) rfl me_1506 hi_11 e_12 ?_
        refine PW_iconst (pc' := 65) (v := (-1 : Int32)) (pw_dk dc_X10_leastSum 40 rfl) rfl (by decide) ?_
        refine PW_icmp_eq (pc' := 68) (tgt := 83) (pw_dk dc_X10_leastSum 41 rfl) rfl (by decide) (fun c_13 => ?_) (fun c_13 => ?_)
        · rw [if_pos c_13] at h
          refine PW_sub (lv' := [(0, .ref 1500), (1, .int x1), (2, .int x2), (3, .int x3), (4, .int x4), (5, .int x5_9)]) [1, 2, 3, 4, 5, 0] rfl ?_
          exact b_X10_leastSum_83 (f_X10_leastSum_27 r5 n) ih x1 x2 x3 x4 x5_9 σ h
        · rw [if_neg c_13] at h
          refine PW_aload_n (pc' := 69) (q := 1) (pw_dk dc_X10_leastSum 42 rfl) rfl rfl rfl ?_
          refine PW_getR (pc' := 72) (id := 1500) (ci := 10) (nn := 0) (C0 := RX10) (T := TX10) (N := 7) (j := 6) (r := 1507) (pw_dk dc_X10_leastSum 43 rfl) rfl me_1500 rfl pi_10 (by decide) fk_10_6 tw_568 (rfl) (by decide) ?_
          refine PW_iload (pc' := 74) (q := 5) (pw_dk dc_X10_leastSum 44 rfl) rfl rfl ?_
          obtain ⟨v_14, hi_15, e_16, h⟩ := wp_rdIx h
          refine PZ_ialdx (pc' := 75) (v := v_14) (id := 1507) (nn := 14) (pw_dk dc_X10_leastSum 45 rfl) rfl me_1507 hi_15 e_16 ?_
          refine PW_iconst (pc' := 76) (v := (-1 : Int32)) (pw_dk dc_X10_leastSum 46 rfl) rfl (by decide) ?_
          refine PW_icmp_eq (pc' := 79) (tgt := 83) (pw_dk dc_X10_leastSum 47 rfl) rfl (by decide) (fun c_17 => ?_) (fun c_17 => ?_)
          · rw [if_pos c_17] at h
            refine PW_sub (lv' := [(0, .ref 1500), (1, .int x1), (2, .int x2), (3, .int x3), (4, .int x4), (5, .int x5_9)]) [1, 2, 3, 4, 5, 0] rfl ?_
            exact b_X10_leastSum_83 (f_X10_leastSum_27 r5 n) ih x1 x2 x3 x4 x5_9 σ h
          · rw [if_neg c_17] at h
            refine PW_iconst (pc' := 80) (v := 1) (pw_dk dc_X10_leastSum 48 rfl) rfl (by decide) ?_
            refine PW_goto (tgt := 84) (pw_dk dc_X10_leastSum 49 rfl) (by decide) ?_
            refine PW_sub (lv' := [(0, .ref 1500), (1, .int x1), (2, .int x2), (3, .int x3), (4, .int x4), (5, .int x5_9)]) [1, 2, 3, 4, 5, 0] rfl ?_
            exact b_X10_leastSum_84 (f_X10_leastSum_27 r5 n) ih x1 x2 x3 x4 x5_9 1 σ h
def f_X10_leastSum_5  : Nat → Int32 → Int32 → Int32 → zS → Option Int32
  | 0, _, _, _, _ => none
  | n + 1, x1, x2, x3, σ => 
    if (x1 + (2 : Int32)) ≤ x3 then
      some x2
    else
      if 14 ≤ x3 then
        some x2
      else
        lt (α := Int32) (f_J9_max_7cf53 (x3 - (1 : Int32)) 0 σ) fun x4_4 =>
        f_X10_leastSum_27 (f_X10_leastSum_5 n) FU x1 x2 x3 x4_4 σ
theorem b_X10_leastSum_5 {Q : Option Value → zS → Prop} : ∀ (n : Nat) (x1 : Int32) (x2 : Int32) (x3 : Int32) (σ : zS) (h : wpO (f_X10_leastSum_5 n x1 x2 x3 σ) (fun a => Q (some (.int a)) σ)), PZ alC mX10_leastSum (1) Q 5 [(0, .ref 1500), (1, .int x1), (2, .int x2), (3, .int x3)] [] σ := by
  intro n
  induction n with
  | zero => intro x1 x2 x3 σ h; exact wp_none h
  | succ n ih =>
    intro x1 x2 x3 σ h
    rw [f_X10_leastSum_5] at h
    refine PW_iload_n (pc' := 6) (q := 3) (pw_dk dc_X10_leastSum 4 rfl) rfl rfl rfl ?_
    refine PW_iload_n (pc' := 7) (q := 1) (pw_dk dc_X10_leastSum 5 rfl) rfl rfl rfl ?_
    refine PW_iconst (pc' := 8) (v := 2) (pw_dk dc_X10_leastSum 6 rfl) rfl (by decide) ?_
    refine PW_iadd (pc' := 9) (pw_dk dc_X10_leastSum 7 rfl) rfl ?_
    refine PW_icmp_ge (pc' := 12) (tgt := 118) (pw_dk dc_X10_leastSum 8 rfl) rfl (by decide) (fun c_1 => ?_) (fun c_1 => ?_)
    · rw [if_pos c_1] at h
      refine PW_iload_n (pc' := 119) (q := 2) (pw_dk dc_X10_leastSum 66 rfl) rfl rfl rfl ?_
      have z := wp_some h
      exact PZ_iret (ty := .int) (pw_dk dc_X10_leastSum 67 rfl) rfl rfl z
    · rw [if_neg c_1] at h
      refine PW_iload_n (pc' := 13) (q := 3) (pw_dk dc_X10_leastSum 9 rfl) rfl rfl rfl ?_
      refine PW_bipush (pc' := 15) (v := 14) (pw_dk dc_X10_leastSum 10 rfl) rfl (by decide) ?_
      refine PW_icmp_ge (pc' := 18) (tgt := 118) (pw_dk dc_X10_leastSum 11 rfl) rfl (by decide) (fun c_2 => ?_) (fun c_2 => ?_)
      · rw [if_pos c_2] at h
        refine PW_iload_n (pc' := 119) (q := 2) (pw_dk dc_X10_leastSum 66 rfl) rfl rfl rfl ?_
        have z := wp_some h
        exact PZ_iret (ty := .int) (pw_dk dc_X10_leastSum 67 rfl) rfl rfl z
      · rw [if_neg c_2] at h
        refine PW_iload_n (pc' := 19) (q := 3) (pw_dk dc_X10_leastSum 12 rfl) rfl rfl rfl ?_
        refine PW_iconst (pc' := 20) (v := 1) (pw_dk dc_X10_leastSum 13 rfl) rfl (by decide) ?_
        refine PW_isub (pc' := 21) (pw_dk dc_X10_leastSum 14 rfl) rfl ?_
        refine PW_iconst (pc' := 22) (v := 0) (pw_dk dc_X10_leastSum 15 rfl) rfl (by decide) ?_
        refine PZ_callSi (pc' := 25) (y := yJ9_max_7cf53) (M' := mJ9_max_7cf53) (d' := 0) (As := [.int (x3 - (1 : Int32)), .int 0]) (st := []) tw_737 (pw_dk dc_X10_leastSum 16 rfl) rfl Y_J9_max_7cf53 tw_1084 rfl (by decide) (Nat.le_of_ble_eq_true rfl) (t_J9_max_7cf53 alC (x3 - (1 : Int32)) 0 σ _ ?_)
        refine ⟨_, rfl, fun hn_3 => ?_⟩
        show PZ alC mX10_leastSum (1) Q 25 [(0, .ref 1500), (1, .int x1), (2, .int x2), (3, .int x3)] [.int (f_J9_max_7cf53 (x3 - (1 : Int32)) 0 σ)] σ
        refine PW_topi (fun x4_4 ex4_4 => ?_)
        replace h := lt_w h ex4_4
        refine PW_istore (pc' := 27) (lv' := [(4, .int x4_4), (0, .ref 1500), (1, .int x1), (2, .int x2), (3, .int x3)]) (pw_dk dc_X10_leastSum 17 rfl) rfl (by decide) rfl ?_
        refine PW_sub (lv' := [(0, .ref 1500), (1, .int x1), (2, .int x2), (3, .int x3), (4, .int x4_4)]) [1, 2, 3, 4, 0] rfl ?_
        exact b_X10_leastSum_27 (f_X10_leastSum_5 n) ih FU x1 x2 x3 x4_4 σ h
def f_X10_leastSum (x1 : Int32) (σ : zS) : Option Int32 := 
  f_X10_leastSum_5 FU x1 (-2 : Int32) 0 σ
theorem t_X10_leastSum (x1 : Int32) (σ : zS) (Q : Option Value → zS → Prop) (h : wpO (f_X10_leastSum x1 σ) (fun a => Q (some (.int a)) σ)) : PK alC yX10_leastSum mX10_leastSum (1) [.ref 1500, .int x1] σ Q := by
  refine PC_ofF (by decide +kernel) rfl rfl (Nat.le_of_ble_eq_true rfl) ?_
  show PZ alC mX10_leastSum (1) Q 0 [(0, .ref 1500), (1, .int x1)] [] σ
  unfold f_X10_leastSum at h
  refine PW_bipush (pc' := 2) (v := (-2 : Int32)) (pw_dk dc_X10_leastSum 0 rfl) rfl (by decide) ?_
  refine PW_istore_n (pc' := 3) (lv' := [(2, .int (-2 : Int32)), (0, .ref 1500), (1, .int x1)]) (pw_dk dc_X10_leastSum 1 rfl) rfl rfl (by decide) rfl ?_
  refine PW_iconst (pc' := 4) (v := 0) (pw_dk dc_X10_leastSum 2 rfl) rfl (by decide) ?_
  refine PW_istore_n (pc' := 5) (lv' := [(3, .int 0), (2, .int (-2 : Int32)), (0, .ref 1500), (1, .int x1)]) (pw_dk dc_X10_leastSum 3 rfl) rfl rfl (by decide) rfl ?_
  refine PW_sub (lv' := [(0, .ref 1500), (1, .int x1), (2, .int (-2 : Int32)), (3, .int 0)]) [2, 3, 1, 0] rfl ?_
  exact b_X10_leastSum_5 FU x1 (-2 : Int32) 0 σ h
