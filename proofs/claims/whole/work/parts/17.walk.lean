/-! walks (printed by wip/gen) -/
def f_X11_putBytes_43 (r3 : Int32 → Int32 → zS → Option zS) (x1 : Int32) (x2 : Int32) (σ : zS) : Option zS := 
  r3 x1 (x2 + (-8 : Int32)) σ
theorem b_X11_putBytes_43 {Q : Option Value → zS → Prop} (r3 : Int32 → Int32 → zS → Option zS) (hr3 : ∀ (x1 : Int32) (x2 : Int32) (σ : zS), wpO (r3 x1 x2 σ) (fun s => Q none s) → PZ alC mX11_putBytes (0) Q 3 [(0, .ref 100), (1, .int x1), (2, .int x2)] [] σ) (x1 : Int32) (x2 : Int32) (σ : zS) (h : wpO (f_X11_putBytes_43 r3 x1 x2 σ) (fun s => Q none s)) : PZ alC mX11_putBytes (0) Q 43 [(0, .ref 100), (1, .int x1), (2, .int x2)] [] σ := by
  unfold f_X11_putBytes_43 at h
  refine PW_iinc (pc' := 46) (q := 2) (v := x2 + (-8 : Int32)) (lv' := [(2, .int (x2 + (-8 : Int32))), (0, .ref 100), (1, .int x1)]) (pw_dk dc_X11_putBytes 24 rfl) rfl rfl rfl (by decide) rfl ?_
  refine PW_goto (tgt := 3) (pw_dk dc_X11_putBytes 25 rfl) (by decide) ?_
  refine PW_sub (lv' := [(0, .ref 100), (1, .int x1), (2, .int (x2 + (-8 : Int32)))]) [1, 2, 0] rfl ?_
  exact hr3 x1 (x2 + (-8 : Int32)) σ h
def f_X11_putBytes_3  : Nat → Int32 → Int32 → zS → Option zS
  | 0, _, _, _ => none
  | n + 1, x1, x2, σ => 
    if x2 < 0 then
      some σ
    else
      if 700 ≤ (σ.1 100 1) then
        f_X11_putBytes_43 (f_X11_putBytes_3 n) x1 x2 σ
      else
        (wrI σ 101 700 (σ.1 100 1) (((x1.toUInt32 >>> (x2.toUInt32 &&& Int32.toUInt32 31)).toInt32) &&& (255 : Int32))).bind fun σ_3 =>
        lt (wI σ_3 100 1 ((σ_3.1 100 1) + (1 : Int32))) fun σ_6 =>
        f_X11_putBytes_43 (f_X11_putBytes_3 n) x1 x2 σ_6
theorem b_X11_putBytes_3 {Q : Option Value → zS → Prop} : ∀ (n : Nat) (x1 : Int32) (x2 : Int32) (σ : zS) (h : wpO (f_X11_putBytes_3 n x1 x2 σ) (fun s => Q none s)), PZ alC mX11_putBytes (0) Q 3 [(0, .ref 100), (1, .int x1), (2, .int x2)] [] σ := by
  intro n
  induction n with
  | zero => intro x1 x2 σ h; exact wp_none h
  | succ n ih =>
    intro x1 x2 σ h
    rw [f_X11_putBytes_3] at h
    refine PW_iload_n (pc' := 4) (q := 2) (pw_dk dc_X11_putBytes 2 rfl) rfl rfl rfl ?_
    refine PW_if_lt (pc' := 7) (tgt := 49) (pw_dk dc_X11_putBytes 3 rfl) rfl (by decide) (fun c_1 => ?_) (fun c_1 => ?_)
    · rw [if_pos c_1] at h
      have z := wp_some h
      exact PZ_vret (pw_dk dc_X11_putBytes 26 rfl) rfl z
    · rw [if_neg c_1] at h
      refine PW_aload_n (pc' := 8) (q := 0) (pw_dk dc_X11_putBytes 4 rfl) rfl rfl rfl ?_
      refine PZ_getI (pc' := 11) (id := 100) (ci := 11) (nn := 0) (C0 := RX11) (T := TX11) (N := 15) (j := 1) (pw_dk dc_X11_putBytes 5 rfl) rfl me_100 rfl pi_11 (by decide) fk_11_1 tw_596 ?_
      refine PW_sipush (pc' := 14) (v := 700) (pw_dk dc_X11_putBytes 6 rfl) rfl (by decide) ?_
      refine PW_icmp_ge (pc' := 17) (tgt := 43) (pw_dk dc_X11_putBytes 7 rfl) rfl (by decide) (fun c_2 => ?_) (fun c_2 => ?_)
      · rw [if_pos c_2] at h
        exact b_X11_putBytes_43 (f_X11_putBytes_3 n) ih x1 x2 σ h
      · rw [if_neg c_2] at h
        refine PW_aload_n (pc' := 18) (q := 0) (pw_dk dc_X11_putBytes 8 rfl) rfl rfl rfl ?_
        refine PW_getR (pc' := 21) (id := 100) (ci := 11) (nn := 0) (C0 := RX11) (T := TX11) (N := 15) (j := 0) (r := 101) (pw_dk dc_X11_putBytes 9 rfl) rfl me_100 rfl pi_11 (by decide) fk_11_0 tw_595 (rfl) (by decide) ?_
        refine PW_aload_n (pc' := 22) (q := 0) (pw_dk dc_X11_putBytes 10 rfl) rfl rfl rfl ?_
        refine PZ_getI (pc' := 25) (id := 100) (ci := 11) (nn := 0) (C0 := RX11) (T := TX11) (N := 15) (j := 1) (pw_dk dc_X11_putBytes 11 rfl) rfl me_100 rfl pi_11 (by decide) fk_11_1 tw_596 ?_
        refine PW_iload_n (pc' := 26) (q := 1) (pw_dk dc_X11_putBytes 12 rfl) rfl rfl rfl ?_
        refine PW_iload_n (pc' := 27) (q := 2) (pw_dk dc_X11_putBytes 13 rfl) rfl rfl rfl ?_
        refine PW_iushr (pc' := 28) (pw_dk dc_X11_putBytes 14 rfl) rfl ?_
        refine PW_sipush (pc' := 31) (v := 255) (pw_dk dc_X11_putBytes 15 rfl) rfl (by decide) ?_
        refine PW_iand (pc' := 32) (pw_dk dc_X11_putBytes 16 rfl) rfl ?_
        obtain ⟨σ_3, hi_4, e_5, h⟩ := wp_wrIx h
        refine PZ_iastx (pc' := 33) (σ' := σ_3) (id := 101) (nn := 700) (pw_dk dc_X11_putBytes 17 rfl) rfl me_101 hi_4 e_5 ?_
        refine PW_aload_n (pc' := 34) (q := 0) (pw_dk dc_X11_putBytes 18 rfl) rfl rfl rfl ?_
        refine PW_dup (pc' := 35) (pw_dk dc_X11_putBytes 19 rfl) rfl rfl ?_
        refine PZ_getI (pc' := 38) (id := 100) (ci := 11) (nn := 0) (C0 := RX11) (T := TX11) (N := 15) (j := 1) (pw_dk dc_X11_putBytes 20 rfl) rfl me_100 rfl pi_11 (by decide) fk_11_1 tw_596 ?_
        refine PW_iconst (pc' := 39) (v := 1) (pw_dk dc_X11_putBytes 21 rfl) rfl (by decide) ?_
        refine PW_iadd (pc' := 40) (pw_dk dc_X11_putBytes 22 rfl) rfl ?_
        obtain ⟨σ_6, e_7, h⟩ := lt_x h
        refine PZ_putX (pc' := 43) (σ' := σ_6) (id := 100) (ci := 11) (nn := 0) (C0 := RX11) (T := TX11) (N := 15) (j := 1) (ty := tyX11 1) (pw_dk dc_X11_putBytes 23 rfl) rfl me_100 rfl pi_11 tyX11_ok nmX11 (by decide) fk_11_1 tw_596 rfl (tyX11_ok 1 (by decide)) (by first | rfl | decide) (by first | rfl | decide) e_7 ?_
        exact b_X11_putBytes_43 (f_X11_putBytes_3 n) ih x1 x2 σ_6 h
def f_X11_putBytes (x1 : Int32) (σ : zS) : Option zS := 
  f_X11_putBytes_3 FU x1 24 σ
theorem t_X11_putBytes (x1 : Int32) (σ : zS) (Q : Option Value → zS → Prop) (h : wpO (f_X11_putBytes x1 σ) (fun s => Q none s)) : PK alC yX11_putBytes mX11_putBytes (0) [.ref 100, .int x1] σ Q := by
  refine PC_ofF (by decide +kernel) rfl rfl (Nat.le_of_ble_eq_true rfl) ?_
  show PZ alC mX11_putBytes (0) Q 0 [(0, .ref 100), (1, .int x1)] [] σ
  unfold f_X11_putBytes at h
  refine PW_bipush (pc' := 2) (v := 24) (pw_dk dc_X11_putBytes 0 rfl) rfl (by decide) ?_
  refine PW_istore_n (pc' := 3) (lv' := [(2, .int 24), (0, .ref 100), (1, .int x1)]) (pw_dk dc_X11_putBytes 1 rfl) rfl rfl (by decide) rfl ?_
  refine PW_sub (lv' := [(0, .ref 100), (1, .int x1), (2, .int 24)]) [1, 2, 0] rfl ?_
  exact b_X11_putBytes_3 FU x1 24 σ h
def f_X11_feed (x1 : Int32) (x2 : Int32) (x3 : Int32) (x4 : Int32) (x5 : Int32) (σ : zS) : Option (Int32 × zS) := 
  if ((σ.1 100 1) + (20 : Int32)) ≤ 700 then
    (f_X11_putBytes x1 σ).bind fun σ_3 =>
    (f_X11_putBytes x2 σ_3).bind fun σ_6 =>
    (f_X11_putBytes x3 σ_6).bind fun σ_9 =>
    (f_X11_putBytes x4 σ_9).bind fun σ_12 =>
    (f_X11_putBytes x5 σ_12).bind fun σ_15 =>
    some (σ_15.1 100 1, σ_15)
  else
    some ((-1 : Int32), σ)
theorem t_X11_feed (x1 : Int32) (x2 : Int32) (x3 : Int32) (x4 : Int32) (x5 : Int32) (σ : zS) (Q : Option Value → zS → Prop) (h : wpO (f_X11_feed x1 x2 x3 x4 x5 σ) (fun a => Q (some (.int a.1)) a.2)) : PK alC yX11_feed mX11_feed (1) [.ref 100, .int x1, .int x2, .int x3, .int x4, .int x5] σ Q := by
  refine PC_ofF (by decide +kernel) rfl rfl (Nat.le_of_ble_eq_true rfl) ?_
  show PZ alC mX11_feed (1) Q 0 [(0, .ref 100), (1, .int x1), (2, .int x2), (3, .int x3), (4, .int x4), (5, .int x5)] [] σ
  unfold f_X11_feed at h
  refine PW_aload_n (pc' := 1) (q := 0) (pw_dk dc_X11_feed 0 rfl) rfl rfl rfl ?_
  refine PZ_getI (pc' := 4) (id := 100) (ci := 11) (nn := 0) (C0 := RX11) (T := TX11) (N := 15) (j := 1) (pw_dk dc_X11_feed 1 rfl) rfl me_100 rfl pi_11 (by decide) fk_11_1 tw_596 ?_
  refine PW_bipush (pc' := 6) (v := 20) (pw_dk dc_X11_feed 2 rfl) rfl (by decide) ?_
  refine PW_iadd (pc' := 7) (pw_dk dc_X11_feed 3 rfl) rfl ?_
  refine PW_sipush (pc' := 10) (v := 700) (pw_dk dc_X11_feed 4 rfl) rfl (by decide) ?_
  refine PW_icmp_le (pc' := 13) (tgt := 15) (pw_dk dc_X11_feed 5 rfl) rfl (by decide) (fun c_1 => ?_) (fun c_1 => ?_)
  · rw [if_pos c_1] at h
    refine PW_aload_n (pc' := 16) (q := 0) (pw_dk dc_X11_feed 8 rfl) rfl rfl rfl ?_
    refine PW_iload_n (pc' := 17) (q := 1) (pw_dk dc_X11_feed 9 rfl) rfl rfl rfl ?_
    refine PZ_callVv (pc' := 20) (y := yX11_putBytes) (M' := mX11_putBytes) (d' := 0) (As := [.int x1]) (st := []) (b := 100) (ci := 11) (nn := 0) me_100 rfl tw_647 tw_0 (pw_dk dc_X11_feed 10 rfl) rfl Y_X11_putBytes tw_645 rfl (by decide) (Nat.le_of_ble_eq_true rfl) (t_X11_putBytes x1 σ _ ?_)
    obtain ⟨σ_3, e_4, h⟩ := wp_bind h
    refine ⟨σ_3, e_4, rfl, fun hn_2 => ?_⟩
    show PZ alC mX11_feed (1) Q 20 [(0, .ref 100), (1, .int x1), (2, .int x2), (3, .int x3), (4, .int x4), (5, .int x5)] [] σ_3
    refine PW_aload_n (pc' := 21) (q := 0) (pw_dk dc_X11_feed 11 rfl) rfl rfl rfl ?_
    refine PW_iload_n (pc' := 22) (q := 2) (pw_dk dc_X11_feed 12 rfl) rfl rfl rfl ?_
    refine PZ_callVv (pc' := 25) (y := yX11_putBytes) (M' := mX11_putBytes) (d' := 0) (As := [.int x2]) (st := []) (b := 100) (ci := 11) (nn := 0) me_100 rfl tw_647 tw_0 (pw_dk dc_X11_feed 13 rfl) rfl Y_X11_putBytes tw_645 rfl (by decide) (Nat.le_of_ble_eq_true rfl) (t_X11_putBytes x2 σ_3 _ ?_)
    obtain ⟨σ_6, e_7, h⟩ := wp_bind h
    refine ⟨σ_6, e_7, rfl, fun hn_5 => ?_⟩
    show PZ alC mX11_feed (1) Q 25 [(0, .ref 100), (1, .int x1), (2, .int x2), (3, .int x3), (4, .int x4), (5, .int x5)] [] σ_6
    refine PW_aload_n (pc' := 26) (q := 0) (pw_dk dc_X11_feed 14 rfl) rfl rfl rfl ?_
    refine PW_iload_n (pc' := 27) (q := 3) (pw_dk dc_X11_feed 15 rfl) rfl rfl rfl ?_
    refine PZ_callVv (pc' := 30) (y := yX11_putBytes) (M' := mX11_putBytes) (d' := 0) (As := [.int x3]) (st := []) (b := 100) (ci := 11) (nn := 0) me_100 rfl tw_647 tw_0 (pw_dk dc_X11_feed 16 rfl) rfl Y_X11_putBytes tw_645 rfl (by decide) (Nat.le_of_ble_eq_true rfl) (t_X11_putBytes x3 σ_6 _ ?_)
    obtain ⟨σ_9, e_10, h⟩ := wp_bind h
    refine ⟨σ_9, e_10, rfl, fun hn_8 => ?_⟩
    show PZ alC mX11_feed (1) Q 30 [(0, .ref 100), (1, .int x1), (2, .int x2), (3, .int x3), (4, .int x4), (5, .int x5)] [] σ_9
    refine PW_aload_n (pc' := 31) (q := 0) (pw_dk dc_X11_feed 17 rfl) rfl rfl rfl ?_
    refine PW_iload (pc' := 33) (q := 4) (pw_dk dc_X11_feed 18 rfl) rfl rfl ?_
    refine PZ_callVv (pc' := 36) (y := yX11_putBytes) (M' := mX11_putBytes) (d' := 0) (As := [.int x4]) (st := []) (b := 100) (ci := 11) (nn := 0) me_100 rfl tw_647 tw_0 (pw_dk dc_X11_feed 19 rfl) rfl Y_X11_putBytes tw_645 rfl (by decide) (Nat.le_of_ble_eq_true rfl) (t_X11_putBytes x4 σ_9 _ ?_)
    obtain ⟨σ_12, e_13, h⟩ := wp_bind h
    refine ⟨σ_12, e_13, rfl, fun hn_11 => ?_⟩
    show PZ alC mX11_feed (1) Q 36 [(0, .ref 100), (1, .int x1), (2, .int x2), (3, .int x3), (4, .int x4), (5, .int x5)] [] σ_12
    refine PW_aload_n (pc' := 37) (q := 0) (pw_dk dc_X11_feed 20 rfl) rfl rfl rfl ?_
    refine PW_iload (pc' := 39) (q := 5) (pw_dk dc_X11_feed 21 rfl) rfl rfl ?_
    refine PZ_callVv (pc' := 42) (y := yX11_putBytes) (M' := mX11_putBytes) (d' := 0) (As := [.int x5]) (st := []) (b := 100) (ci := 11) (nn := 0) me_100 rfl tw_647 tw_0 (pw_dk dc_X11_feed 22 rfl) rfl Y_X11_putBytes tw_645 rfl (by decide) (Nat.le_of_ble_eq_true rfl) (t_X11_putBytes x5 σ_12 _ ?_)
    obtain ⟨σ_15, e_16, h⟩ := wp_bind h
    refine ⟨σ_15, e_16, rfl, fun hn_14 => ?_⟩
    show PZ alC mX11_feed (1) Q 42 [(0, .ref 100), (1, .int x1), (2, .int x2), (3, .int x3), (4, .int x4), (5, .int x5)] [] σ_15
    refine PW_aload_n (pc' := 43) (q := 0) (pw_dk dc_X11_feed 23 rfl) rfl rfl rfl ?_
    refine PZ_getI (pc' := 46) (id := 100) (ci := 11) (nn := 0) (C0 := RX11) (T := TX11) (N := 15) (j := 1) (pw_dk dc_X11_feed 24 rfl) rfl me_100 rfl pi_11 (by decide) fk_11_1 tw_596 ?_
    have z := wp_some h
    exact PZ_iret (ty := .int) (pw_dk dc_X11_feed 25 rfl) rfl rfl z
  · rw [if_neg c_1] at h
    refine PW_iconst (pc' := 14) (v := (-1 : Int32)) (pw_dk dc_X11_feed 6 rfl) rfl (by decide) ?_
    have z := wp_some h
    exact PZ_iret (ty := .int) (pw_dk dc_X11_feed 7 rfl) rfl rfl z
def f_X11_takeDraft  (σ : zS) : Option zS := 
  lt (wB σ 1 (σ.2.2 0)) fun σ_1 =>
  lt (wB σ_1 0 (σ.2.2 1)) fun σ_3 =>
  lt (wB σ_3 2 (σ.2.2 1)) fun σ_5 =>
  (f_X0_begin 700 (σ.2.2 1) σ_5).bind fun σ_8 =>
  lt (wI σ_8 100 10 0) fun σ_10 =>
  (f_X9_forget σ_10).bind fun σ_13 =>
  (f_X3_forget σ_13).bind fun σ_16 =>
  some σ_16
theorem t_X11_takeDraft (σ : zS) (Q : Option Value → zS → Prop) (h : wpO (f_X11_takeDraft σ) (fun s => Q none s)) : PK alC yX11_takeDraft mX11_takeDraft (2) [.ref 100] σ Q := by
  refine PC_ofF (by decide +kernel) rfl rfl (Nat.le_of_ble_eq_true rfl) ?_
  show PZ alC mX11_takeDraft (2) Q 0 [(0, .ref 100)] [] σ
  unfold f_X11_takeDraft at h
  refine PW_aload_n (pc' := 1) (q := 0) (pw_dk dc_X11_takeDraft 0 rfl) rfl rfl rfl ?_
  refine PW_getR (pc' := 4) (id := 100) (ci := 11) (nn := 0) (C0 := RX11) (T := TX11) (N := 15) (j := 5) (r := 200) (pw_dk dc_X11_takeDraft 1 rfl) rfl me_100 rfl pi_11 (by decide) fk_11_5 tw_600 (rfl) (by decide) ?_
  refine PW_getR (pc' := 7) (id := 200) (ci := 4) (nn := 0) (C0 := RX4) (T := TX4) (N := 6) (j := 2) (r := tv (σ.2.2 1)) (pw_dk dc_X11_takeDraft 2 rfl) rfl me_200 rfl pi_4 (by decide) fk_4_2 tw_412 (rf_M1 _) (tv0 _) ?_
  refine PW_astore_n (pc' := 8) (lv' := [(1, .ref (tv (σ.2.2 1))), (0, .ref 100)]) (pw_dk dc_X11_takeDraft 3 rfl) rfl rfl (by decide) rfl ?_
  refine PW_aload_n (pc' := 9) (q := 1) (pw_dk dc_X11_takeDraft 4 rfl) rfl rfl rfl ?_
  refine PW_getR (pc' := 12) (id := 100) (ci := 11) (nn := 0) (C0 := RX11) (T := TX11) (N := 15) (j := 5) (r := 200) (pw_dk dc_X11_takeDraft 5 rfl) rfl me_100 rfl pi_11 (by decide) fk_11_5 tw_600 (rfl) (by decide) ?_
  refine PW_aload_n (pc' := 13) (q := 1) (pw_dk dc_X11_takeDraft 6 rfl) rfl rfl rfl ?_
  refine PW_getR (pc' := 16) (id := 100) (ci := 11) (nn := 0) (C0 := RX11) (T := TX11) (N := 15) (j := 4) (r := tv (σ.2.2 0)) (pw_dk dc_X11_takeDraft 7 rfl) rfl me_100 rfl pi_11 (by decide) fk_11_4 tw_599 (rf_M0 _) (tv0 _) ?_
  obtain ⟨σ_1, e_2, h⟩ := lt_x h
  refine PZ_putB1 (pc' := 19) (nn := 0) (b := σ.2.2 0) (pw_dk dc_X11_takeDraft 8 rfl) rfl me_200 pi_4 tw_412 ?_
  rw [← e_2]
  refine PW_aload_n (pc' := 20) (q := 1) (pw_dk dc_X11_takeDraft 9 rfl) rfl rfl rfl ?_
  refine PW_aload_n (pc' := 21) (q := 0) (pw_dk dc_X11_takeDraft 10 rfl) rfl rfl rfl ?_
  obtain ⟨σ_3, e_4, h⟩ := lt_x h
  refine PZ_putB0 (pc' := 24) (nn := 0) (b := σ.2.2 1) (pw_dk dc_X11_takeDraft 11 rfl) rfl me_100 pi_11 tw_599 ?_
  rw [← e_4]
  refine PW_aload_n (pc' := 25) (q := 1) (pw_dk dc_X11_takeDraft 12 rfl) rfl rfl rfl ?_
  refine PW_getR (pc' := 28) (id := 100) (ci := 11) (nn := 0) (C0 := RX11) (T := TX11) (N := 15) (j := 6) (r := 1000) (pw_dk dc_X11_takeDraft 13 rfl) rfl me_100 rfl pi_11 (by decide) fk_11_6 tw_601 (rfl) (by decide) ?_
  refine PW_aload_n (pc' := 29) (q := 0) (pw_dk dc_X11_takeDraft 14 rfl) rfl rfl rfl ?_
  obtain ⟨σ_5, e_6, h⟩ := lt_x h
  refine PZ_putB2 (pc' := 32) (nn := 0) (b := σ.2.2 1) (pw_dk dc_X11_takeDraft 15 rfl) rfl me_1000 pi_5 tw_436 ?_
  rw [← e_6]
  refine PW_aload_n (pc' := 33) (q := 1) (pw_dk dc_X11_takeDraft 16 rfl) rfl rfl rfl ?_
  refine PW_getR (pc' := 36) (id := 100) (ci := 11) (nn := 0) (C0 := RX11) (T := TX11) (N := 15) (j := 7) (r := 700) (pw_dk dc_X11_takeDraft 17 rfl) rfl me_100 rfl pi_11 (by decide) fk_11_7 tw_602 (rfl) (by decide) ?_
  refine PW_aload_n (pc' := 37) (q := 0) (pw_dk dc_X11_takeDraft 18 rfl) rfl rfl rfl ?_
  refine PZ_callVv (pc' := 40) (y := yX0_begin) (M' := mX0_begin) (d' := 1) (As := [.ref (tv (σ.2.2 1))]) (st := []) (b := 700) (ci := 0) (nn := 0) me_700 rfl tw_860 tw_861 (pw_dk dc_X11_takeDraft 19 rfl) rfl Y_X0_begin tw_859 rfl (by decide) (Nat.le_of_ble_eq_true rfl) (t_X0_begin 700 (σ.2.2 1) (Or.inl rfl) σ_5 _ ?_)
  obtain ⟨σ_8, e_9, h⟩ := wp_bind h
  refine ⟨σ_8, e_9, rfl, fun hn_7 => ?_⟩
  show PZ alC mX11_takeDraft (2) Q 40 [(1, .ref (tv (σ.2.2 1))), (0, .ref 100)] [] σ_8
  refine PW_aload_n (pc' := 41) (q := 1) (pw_dk dc_X11_takeDraft 20 rfl) rfl rfl rfl ?_
  refine PW_iconst (pc' := 42) (v := 0) (pw_dk dc_X11_takeDraft 21 rfl) rfl (by decide) ?_
  obtain ⟨σ_10, e_11, h⟩ := lt_x h
  refine PZ_putX (pc' := 45) (σ' := σ_10) (id := 100) (ci := 11) (nn := 0) (C0 := RX11) (T := TX11) (N := 15) (j := 10) (ty := tyX11 10) (pw_dk dc_X11_takeDraft 22 rfl) rfl me_100 rfl pi_11 tyX11_ok nmX11 (by decide) fk_11_10 tw_605 rfl (tyX11_ok 10 (by decide)) (by first | rfl | decide) (by first | rfl | decide) e_11 ?_
  refine PW_aload_n (pc' := 46) (q := 1) (pw_dk dc_X11_takeDraft 23 rfl) rfl rfl rfl ?_
  refine PW_getR (pc' := 49) (id := 100) (ci := 11) (nn := 0) (C0 := RX11) (T := TX11) (N := 15) (j := 11) (r := 1100) (pw_dk dc_X11_takeDraft 24 rfl) rfl me_100 rfl pi_11 (by decide) fk_11_11 tw_606 (rfl) (by decide) ?_
  refine PZ_callVv (pc' := 52) (y := yX9_forget) (M' := mX9_forget) (d' := 0) (As := []) (st := []) (b := 1100) (ci := 9) (nn := 0) me_1100 rfl tw_868 tw_869 (pw_dk dc_X11_takeDraft 25 rfl) rfl Y_X9_forget tw_867 rfl (by decide) (Nat.le_of_ble_eq_true rfl) (t_X9_forget σ_10 _ ?_)
  obtain ⟨σ_13, e_14, h⟩ := wp_bind h
  refine ⟨σ_13, e_14, rfl, fun hn_12 => ?_⟩
  show PZ alC mX11_takeDraft (2) Q 52 [(1, .ref (tv (σ.2.2 1))), (0, .ref 100)] [] σ_13
  refine PW_aload_n (pc' := 53) (q := 1) (pw_dk dc_X11_takeDraft 26 rfl) rfl rfl rfl ?_
  refine PW_getR (pc' := 56) (id := 100) (ci := 11) (nn := 0) (C0 := RX11) (T := TX11) (N := 15) (j := 12) (r := 1200) (pw_dk dc_X11_takeDraft 27 rfl) rfl me_100 rfl pi_11 (by decide) fk_11_12 tw_607 (rfl) (by decide) ?_
  refine PZ_callVv (pc' := 59) (y := yX3_forget) (M' := mX3_forget) (d' := 0) (As := []) (st := []) (b := 1200) (ci := 3) (nn := 0) me_1200 rfl tw_872 tw_873 (pw_dk dc_X11_takeDraft 28 rfl) rfl Y_X3_forget tw_871 rfl (by decide) (Nat.le_of_ble_eq_true rfl) (t_X3_forget σ_13 _ ?_)
  obtain ⟨σ_16, e_17, h⟩ := wp_bind h
  refine ⟨σ_16, e_17, rfl, fun hn_15 => ?_⟩
  show PZ alC mX11_takeDraft (2) Q 59 [(1, .ref (tv (σ.2.2 1))), (0, .ref 100)] [] σ_16
  have z := wp_some h
  exact PZ_vret (pw_dk dc_X11_takeDraft 29 rfl) rfl z
def f_X11_text_12   (σ : zS) : Option (Int32 × zS) := 
  some ((-2 : Int32), σ)
theorem b_X11_text_12 {Q : Option Value → zS → Prop}  (σ : zS) (h : wpO (f_X11_text_12 σ) (fun a => Q (some (.int a.1)) a.2)) : PZ alC mX11_text (208) Q 12 [] [] σ := by
  unfold f_X11_text_12 at h
  refine PW_bipush (pc' := 14) (v := (-2 : Int32)) (pw_dk dc_X11_text 6 rfl) rfl (by decide) ?_
  have z := wp_some h
  exact PZ_iret (ty := .int) (pw_dk dc_X11_text 7 rfl) rfl rfl z
def f_X11_text (x1 : Int32) (σ : zS) : Option (Int32 × zS) := 
  if x1 < 0 then
    f_X11_text_12 σ
  else
    if x1 ≤ (σ.1 100 1) then
      lt (wI σ 100 1 0) fun σ_3 =>
      b2 (f_X4_readTape x1 σ_3) fun v_7 σ_6 =>
      lt (wI σ_6 100 2 (σ_6.1 500 8)) fun σ_9 =>
      lt (wI σ_9 100 3 (σ_9.1 500 9)) fun σ_11 =>
      if v_7 = (-1 : Int32) then
        some (v_7, σ_11)
      else
        (f_X11_takeDraft σ_11).bind fun σ_15 =>
        some (v_7, σ_15)
    else
      f_X11_text_12 σ
theorem t_X11_text (x1 : Int32) (σ : zS) (Q : Option Value → zS → Prop) (h : wpO (f_X11_text x1 σ) (fun a => Q (some (.int a.1)) a.2)) : PK alC yX11_text mX11_text (208) [.ref 100, .int x1] σ Q := by
  refine PC_ofF (by decide +kernel) rfl rfl (Nat.le_of_ble_eq_true rfl) ?_
  show PZ alC mX11_text (208) Q 0 [(0, .ref 100), (1, .int x1)] [] σ
  unfold f_X11_text at h
  refine PW_iload_n (pc' := 1) (q := 1) (pw_dk dc_X11_text 0 rfl) rfl rfl rfl ?_
  refine PW_if_lt (pc' := 4) (tgt := 12) (pw_dk dc_X11_text 1 rfl) rfl (by decide) (fun c_1 => ?_) (fun c_1 => ?_)
  · rw [if_pos c_1] at h
    refine PW_sub (lv' := []) [] rfl ?_
    exact b_X11_text_12 σ h
  · rw [if_neg c_1] at h
    refine PW_iload_n (pc' := 5) (q := 1) (pw_dk dc_X11_text 2 rfl) rfl rfl rfl ?_
    refine PW_aload_n (pc' := 6) (q := 0) (pw_dk dc_X11_text 3 rfl) rfl rfl rfl ?_
    refine PZ_getI (pc' := 9) (id := 100) (ci := 11) (nn := 0) (C0 := RX11) (T := TX11) (N := 15) (j := 1) (pw_dk dc_X11_text 4 rfl) rfl me_100 rfl pi_11 (by decide) fk_11_1 tw_596 ?_
    refine PW_icmp_le (pc' := 12) (tgt := 15) (pw_dk dc_X11_text 5 rfl) rfl (by decide) (fun c_2 => ?_) (fun c_2 => ?_)
    · rw [if_pos c_2] at h
      refine PW_aload_n (pc' := 16) (q := 0) (pw_dk dc_X11_text 8 rfl) rfl rfl rfl ?_
      refine PW_iconst (pc' := 17) (v := 0) (pw_dk dc_X11_text 9 rfl) rfl (by decide) ?_
      obtain ⟨σ_3, e_4, h⟩ := lt_x h
      refine PZ_putX (pc' := 20) (σ' := σ_3) (id := 100) (ci := 11) (nn := 0) (C0 := RX11) (T := TX11) (N := 15) (j := 1) (ty := tyX11 1) (pw_dk dc_X11_text 10 rfl) rfl me_100 rfl pi_11 tyX11_ok nmX11 (by decide) fk_11_1 tw_596 rfl (tyX11_ok 1 (by decide)) (by first | rfl | decide) (by first | rfl | decide) e_4 ?_
      refine PW_aload_n (pc' := 21) (q := 0) (pw_dk dc_X11_text 11 rfl) rfl rfl rfl ?_
      refine PW_getR (pc' := 24) (id := 100) (ci := 11) (nn := 0) (C0 := RX11) (T := TX11) (N := 15) (j := 5) (r := 200) (pw_dk dc_X11_text 12 rfl) rfl me_100 rfl pi_11 (by decide) fk_11_5 tw_600 (rfl) (by decide) ?_
      refine PW_iload_n (pc' := 25) (q := 1) (pw_dk dc_X11_text 13 rfl) rfl rfl rfl ?_
      refine PZ_callVi (pc' := 28) (y := yX4_readTape) (M' := mX4_readTape) (d' := 207) (As := [.int x1]) (st := []) (b := 200) (ci := 4) (nn := 0) me_200 rfl tw_654 tw_655 (pw_dk dc_X11_text 14 rfl) rfl Y_X4_readTape tw_653 rfl (by decide) (Nat.le_of_ble_eq_true rfl) (t_X4_readTape x1 σ_3 _ ?_)
      obtain ⟨⟨v_7, σ_6⟩, e_8, h⟩ := wp_bind2 h
      refine ⟨(v_7, σ_6), e_8, _, rfl, fun hn_5 => ?_⟩
      show PZ alC mX11_text (208) Q 28 [(0, .ref 100), (1, .int x1)] [.int v_7] σ_6
      refine PW_istore_n (pc' := 29) (lv' := [(2, .int v_7), (0, .ref 100), (1, .int x1)]) (pw_dk dc_X11_text 15 rfl) rfl rfl (by decide) rfl ?_
      refine PW_aload_n (pc' := 30) (q := 1) (pw_dk dc_X11_text 16 rfl) rfl rfl rfl ?_
      refine PW_aload_n (pc' := 31) (q := 1) (pw_dk dc_X11_text 17 rfl) rfl rfl rfl ?_
      refine PW_getR (pc' := 34) (id := 100) (ci := 11) (nn := 0) (C0 := RX11) (T := TX11) (N := 15) (j := 5) (r := 200) (pw_dk dc_X11_text 18 rfl) rfl me_100 rfl pi_11 (by decide) fk_11_5 tw_600 (rfl) (by decide) ?_
      refine PW_getR (pc' := 37) (id := 200) (ci := 4) (nn := 0) (C0 := RX4) (T := TX4) (N := 6) (j := 0) (r := 500) (pw_dk dc_X11_text 19 rfl) rfl me_200 rfl pi_4 (by decide) fk_4_0 tw_409 (rfl) (by decide) ?_
      refine PZ_getI (pc' := 40) (id := 500) (ci := 7) (nn := 0) (C0 := RX7) (T := TX7) (N := 10) (j := 8) (pw_dk dc_X11_text 20 rfl) rfl me_500 rfl pi_7 (by decide) fk_7_8 tw_369 ?_
      obtain ⟨σ_9, e_10, h⟩ := lt_x h
      refine PZ_putX (pc' := 43) (σ' := σ_9) (id := 100) (ci := 11) (nn := 0) (C0 := RX11) (T := TX11) (N := 15) (j := 2) (ty := tyX11 2) (pw_dk dc_X11_text 21 rfl) rfl me_100 rfl pi_11 tyX11_ok nmX11 (by decide) fk_11_2 tw_597 rfl (tyX11_ok 2 (by decide)) (by first | rfl | decide) (by first | rfl | decide) e_10 ?_
      refine PW_aload_n (pc' := 44) (q := 1) (pw_dk dc_X11_text 22 rfl) rfl rfl rfl ?_
      refine PW_aload_n (pc' := 45) (q := 1) (pw_dk dc_X11_text 23 rfl) rfl rfl rfl ?_
      refine PW_getR (pc' := 48) (id := 100) (ci := 11) (nn := 0) (C0 := RX11) (T := TX11) (N := 15) (j := 5) (r := 200) (pw_dk dc_X11_text 24 rfl) rfl me_100 rfl pi_11 (by decide) fk_11_5 tw_600 (rfl) (by decide) ?_
      refine PW_getR (pc' := 51) (id := 200) (ci := 4) (nn := 0) (C0 := RX4) (T := TX4) (N := 6) (j := 0) (r := 500) (pw_dk dc_X11_text 25 rfl) rfl me_200 rfl pi_4 (by decide) fk_4_0 tw_409 (rfl) (by decide) ?_
      refine PZ_getI (pc' := 54) (id := 500) (ci := 7) (nn := 0) (C0 := RX7) (T := TX7) (N := 10) (j := 9) (pw_dk dc_X11_text 26 rfl) rfl me_500 rfl pi_7 (by decide) fk_7_9 tw_371 ?_
      obtain ⟨σ_11, e_12, h⟩ := lt_x h
      refine PZ_putX (pc' := 57) (σ' := σ_11) (id := 100) (ci := 11) (nn := 0) (C0 := RX11) (T := TX11) (N := 15) (j := 3) (ty := tyX11 3) (pw_dk dc_X11_text 27 rfl) rfl me_100 rfl pi_11 tyX11_ok nmX11 (by decide) fk_11_3 tw_598 rfl (tyX11_ok 3 (by decide)) (by first | rfl | decide) (by first | rfl | decide) e_12 ?_
      refine PW_iload_n (pc' := 58) (q := 0) (pw_dk dc_X11_text 28 rfl) rfl rfl rfl ?_
      refine PW_iconst (pc' := 59) (v := (-1 : Int32)) (pw_dk dc_X11_text 29 rfl) rfl (by decide) ?_
      refine PW_icmp_eq (pc' := 62) (tgt := 66) (pw_dk dc_X11_text 30 rfl) rfl (by decide) (fun c_13 => ?_) (fun c_13 => ?_)
      · rw [if_pos c_13] at h
        refine PW_iload_n (pc' := 67) (q := 0) (pw_dk dc_X11_text 33 rfl) rfl rfl rfl ?_
        have z := wp_some h
        exact PZ_iret (ty := .int) (pw_dk dc_X11_text 34 rfl) rfl rfl z
      · rw [if_neg c_13] at h
        refine PW_aload_n (pc' := 63) (q := 1) (pw_dk dc_X11_text 31 rfl) rfl rfl rfl ?_
        refine PZ_callVv (pc' := 66) (y := yX11_takeDraft) (M' := mX11_takeDraft) (d' := 2) (As := []) (st := []) (b := 100) (ci := 11) (nn := 0) me_100 rfl tw_857 tw_27 (pw_dk dc_X11_text 32 rfl) rfl Y_X11_takeDraft tw_855 rfl (by decide) (Nat.le_of_ble_eq_true rfl) (t_X11_takeDraft σ_11 _ ?_)
        obtain ⟨σ_15, e_16, h⟩ := wp_bind h
        refine ⟨σ_15, e_16, rfl, fun hn_14 => ?_⟩
        show PZ alC mX11_text (208) Q 66 [(2, .int v_7), (0, .ref 100), (1, .int x1)] [] σ_15
        refine PW_iload_n (pc' := 67) (q := 0) (pw_dk dc_X11_text 33 rfl) rfl rfl rfl ?_
        have z := wp_some h
        exact PZ_iret (ty := .int) (pw_dk dc_X11_text 34 rfl) rfl rfl z
    · rw [if_neg c_2] at h
      refine PW_sub (lv' := []) [] rfl ?_
      exact b_X11_text_12 σ h
def f_X11_fault (x1 : Int32) (σ : zS) : Int32 := 
  if x1 = 0 then
    σ.1 100 2
  else if x1 = 1 then
    σ.1 100 3
  else
    (-1 : Int32)
theorem t_X11_fault (x1 : Int32) (σ : zS) (Q : Option Value → zS → Prop) (h : Q (some (.int (f_X11_fault x1 σ))) σ) : PK alC yX11_fault mX11_fault (0) [.ref 100, .int x1] σ Q := by
  refine PC_ofF (by decide +kernel) rfl rfl (Nat.le_of_ble_eq_true rfl) ?_
  show PZ alC mX11_fault (0) Q 0 [(0, .ref 100), (1, .int x1)] [] σ
  unfold f_X11_fault at h
  refine PW_iload_n (pc' := 1) (q := 1) (pw_dk dc_X11_fault 0 rfl) rfl rfl rfl ?_
  by_cases c_1 : x1 = 0
  · rw [if_pos c_1] at h
    refine PW_look (tgt := 28) (off := 27) (pw_dk dc_X11_fault 1 rfl) (by decide) (by rw [c_1] <;> rfl) (by decide) ?_
    refine PW_aload_n (pc' := 29) (q := 0) (pw_dk dc_X11_fault 2 rfl) rfl rfl rfl ?_
    refine PZ_getI (pc' := 32) (id := 100) (ci := 11) (nn := 0) (C0 := RX11) (T := TX11) (N := 15) (j := 2) (pw_dk dc_X11_fault 3 rfl) rfl me_100 rfl pi_11 (by decide) fk_11_2 tw_597 ?_
    exact PZ_iret (ty := .int) (pw_dk dc_X11_fault 4 rfl) rfl rfl h
  · rw [if_neg c_1] at h
    by_cases c_2 : x1 = 1
    · rw [if_pos c_2] at h
      refine PW_look (tgt := 33) (off := 32) (pw_dk dc_X11_fault 1 rfl) (by decide) (by rw [c_2] <;> rfl) (by decide) ?_
      refine PW_aload_n (pc' := 34) (q := 0) (pw_dk dc_X11_fault 5 rfl) rfl rfl rfl ?_
      refine PZ_getI (pc' := 37) (id := 100) (ci := 11) (nn := 0) (C0 := RX11) (T := TX11) (N := 15) (j := 3) (pw_dk dc_X11_fault 6 rfl) rfl me_100 rfl pi_11 (by decide) fk_11_3 tw_598 ?_
      exact PZ_iret (ty := .int) (pw_dk dc_X11_fault 7 rfl) rfl rfl h
    · rw [if_neg c_2] at h
      have kc_1 := pw_ne c_1 (show (0 : Int32).toInt = 0 by decide)
      have kc_2 := pw_ne c_2 (show (1 : Int32).toInt = 1 by decide)
      refine PW_look (tgt := 38) (off := 37) (pw_dk dc_X11_fault 1 rfl) (by decide) (by simp [Op.lookupswitch.offset, kc_1, kc_2, Ne.symm kc_1, Ne.symm kc_2]) (by decide) ?_
      refine PW_iconst (pc' := 39) (v := (-1 : Int32)) (pw_dk dc_X11_fault 8 rfl) rfl (by decide) ?_
      exact PZ_iret (ty := .int) (pw_dk dc_X11_fault 9 rfl) rfl rfl h
def f_X11_named (x1 : Int32) (x2 : Int32) (σ : zS) : Option Int32 := 
  if x1 = 0 then
    (f_X8_landNamed (σ.2.2 0) x2 σ).bind fun v_3 =>
    some v_3
  else if x1 = 1 then
    (f_X8_manNamed (σ.2.2 0) x2 σ).bind fun v_7 =>
    some v_7
  else
    some (-1 : Int32)
theorem t_X11_named (x1 : Int32) (x2 : Int32) (σ : zS) (Q : Option Value → zS → Prop) (h : wpO (f_X11_named x1 x2 σ) (fun a => Q (some (.int a)) σ)) : PK alC yX11_named mX11_named (2) [.ref 100, .int x1, .int x2] σ Q := by
  refine PC_ofF (by decide +kernel) rfl rfl (Nat.le_of_ble_eq_true rfl) ?_
  show PZ alC mX11_named (2) Q 0 [(0, .ref 100), (1, .int x1), (2, .int x2)] [] σ
  unfold f_X11_named at h
  refine PW_iload_n (pc' := 1) (q := 1) (pw_dk dc_X11_named 0 rfl) rfl rfl rfl ?_
  by_cases c_1 : x1 = 0
  · rw [if_pos c_1] at h
    refine PW_look (tgt := 28) (off := 27) (pw_dk dc_X11_named 1 rfl) (by decide) (by rw [c_1] <;> rfl) (by decide) ?_
    refine PW_aload_n (pc' := 29) (q := 0) (pw_dk dc_X11_named 2 rfl) rfl rfl rfl ?_
    refine PW_getR (pc' := 32) (id := 100) (ci := 11) (nn := 0) (C0 := RX11) (T := TX11) (N := 15) (j := 4) (r := tv (σ.2.2 0)) (pw_dk dc_X11_named 3 rfl) rfl me_100 rfl pi_11 (by decide) fk_11_4 tw_599 (rf_M0 _) (tv0 _) ?_
    refine PW_iload_n (pc' := 33) (q := 2) (pw_dk dc_X11_named 4 rfl) rfl rfl rfl ?_
    refine PZ_callVi (pc' := 36) (y := yX8_landNamed) (M' := mX8_landNamed) (d' := 1) (As := [.int x2]) (st := []) (b := (tv (σ.2.2 0))) (ci := 8) (nn := 0) (me_T _) rfl tw_726 tw_727 (pw_dk dc_X11_named 5 rfl) rfl Y_X8_landNamed tw_883 rfl (by decide) (Nat.le_of_ble_eq_true rfl) (t_X8_landNamed (σ.2.2 0) x2 σ _ ?_)
    obtain ⟨v_3, e_4, h⟩ := wp_bind h
    refine ⟨v_3, e_4, _, rfl, fun hn_2 => ?_⟩
    show PZ alC mX11_named (2) Q 36 [(0, .ref 100), (1, .int x1), (2, .int x2)] [.int v_3] σ
    have z := wp_some h
    exact PZ_iret (ty := .int) (pw_dk dc_X11_named 6 rfl) rfl rfl z
  · rw [if_neg c_1] at h
    by_cases c_5 : x1 = 1
    · rw [if_pos c_5] at h
      refine PW_look (tgt := 37) (off := 36) (pw_dk dc_X11_named 1 rfl) (by decide) (by rw [c_5] <;> rfl) (by decide) ?_
      refine PW_aload_n (pc' := 38) (q := 0) (pw_dk dc_X11_named 7 rfl) rfl rfl rfl ?_
      refine PW_getR (pc' := 41) (id := 100) (ci := 11) (nn := 0) (C0 := RX11) (T := TX11) (N := 15) (j := 4) (r := tv (σ.2.2 0)) (pw_dk dc_X11_named 8 rfl) rfl me_100 rfl pi_11 (by decide) fk_11_4 tw_599 (rf_M0 _) (tv0 _) ?_
      refine PW_iload_n (pc' := 42) (q := 2) (pw_dk dc_X11_named 9 rfl) rfl rfl rfl ?_
      refine PZ_callVi (pc' := 45) (y := yX8_manNamed) (M' := mX8_manNamed) (d' := 1) (As := [.int x2]) (st := []) (b := (tv (σ.2.2 0))) (ci := 8) (nn := 0) (me_T _) rfl tw_744 tw_745 (pw_dk dc_X11_named 10 rfl) rfl Y_X8_manNamed tw_884 rfl (by decide) (Nat.le_of_ble_eq_true rfl) (t_X8_manNamed (σ.2.2 0) x2 σ _ ?_)
      obtain ⟨v_7, e_8, h⟩ := wp_bind h
      refine ⟨v_7, e_8, _, rfl, fun hn_6 => ?_⟩
      show PZ alC mX11_named (2) Q 45 [(0, .ref 100), (1, .int x1), (2, .int x2)] [.int v_7] σ
      have z := wp_some h
      exact PZ_iret (ty := .int) (pw_dk dc_X11_named 11 rfl) rfl rfl z
    · rw [if_neg c_5] at h
      have kc_1 := pw_ne c_1 (show (0 : Int32).toInt = 0 by decide)
      have kc_5 := pw_ne c_5 (show (1 : Int32).toInt = 1 by decide)
      refine PW_look (tgt := 46) (off := 45) (pw_dk dc_X11_named 1 rfl) (by decide) (by simp [Op.lookupswitch.offset, kc_1, kc_5, Ne.symm kc_1, Ne.symm kc_5]) (by decide) ?_
      refine PW_iconst (pc' := 47) (v := (-1 : Int32)) (pw_dk dc_X11_named 12 rfl) rfl (by decide) ?_
      have z := wp_some h
      exact PZ_iret (ty := .int) (pw_dk dc_X11_named 13 rfl) rfl rfl z
def f_X11_isCell (x1 : Int32) (σ : zS) : Int32 := 
  if x1 < 0 then
    0
  else
    if (σ.1 (tv (σ.2.2 0)) 0) ≤ x1 then
      0
    else
      1
theorem t_X11_isCell (x1 : Int32) (σ : zS) (Q : Option Value → zS → Prop) (h : Q (some (.int (f_X11_isCell x1 σ))) σ) : PK alC yX11_isCell mX11_isCell (0) [.ref 100, .int x1] σ Q := by
  refine PC_ofF (by decide +kernel) rfl rfl (Nat.le_of_ble_eq_true rfl) ?_
  show PZ alC mX11_isCell (0) Q 0 [(0, .ref 100), (1, .int x1)] [] σ
  unfold f_X11_isCell at h
  refine PW_iload_n (pc' := 1) (q := 1) (pw_dk dc_X11_isCell 0 rfl) rfl rfl rfl ?_
  refine PW_if_lt (pc' := 4) (tgt := 19) (pw_dk dc_X11_isCell 1 rfl) rfl (by decide) (fun c_1 => ?_) (fun c_1 => ?_)
  · rw [if_pos c_1] at h
    refine PW_iconst (pc' := 20) (v := 0) (pw_dk dc_X11_isCell 9 rfl) rfl (by decide) ?_
    exact PZ_iret (ty := .boolean) (pw_dk dc_X11_isCell 10 rfl) rfl (by decide) h
  · rw [if_neg c_1] at h
    refine PW_iload_n (pc' := 5) (q := 1) (pw_dk dc_X11_isCell 2 rfl) rfl rfl rfl ?_
    refine PW_aload_n (pc' := 6) (q := 0) (pw_dk dc_X11_isCell 3 rfl) rfl rfl rfl ?_
    refine PW_getR (pc' := 9) (id := 100) (ci := 11) (nn := 0) (C0 := RX11) (T := TX11) (N := 15) (j := 4) (r := tv (σ.2.2 0)) (pw_dk dc_X11_isCell 4 rfl) rfl me_100 rfl pi_11 (by decide) fk_11_4 tw_599 (rf_M0 _) (tv0 _) ?_
    refine PZ_getI (pc' := 12) (id := (tv (σ.2.2 0))) (ci := 8) (nn := 0) (C0 := RX8) (T := TX8) (N := 18) (j := 0) (pw_dk dc_X11_isCell 5 rfl) rfl (me_T _) rfl pi_8 (by decide) fk_8_0 tw_202 ?_
    refine PW_icmp_ge (pc' := 15) (tgt := 19) (pw_dk dc_X11_isCell 6 rfl) rfl (by decide) (fun c_2 => ?_) (fun c_2 => ?_)
    · rw [if_pos c_2] at h
      refine PW_iconst (pc' := 20) (v := 0) (pw_dk dc_X11_isCell 9 rfl) rfl (by decide) ?_
      exact PZ_iret (ty := .boolean) (pw_dk dc_X11_isCell 10 rfl) rfl (by decide) h
    · rw [if_neg c_2] at h
      refine PW_iconst (pc' := 16) (v := 1) (pw_dk dc_X11_isCell 7 rfl) rfl (by decide) ?_
      refine PW_goto (tgt := 20) (pw_dk dc_X11_isCell 8 rfl) (by decide) ?_
      exact PZ_iret (ty := .boolean) (pw_dk dc_X11_isCell 10 rfl) rfl (by decide) h
def f_X11_land (x1 : Int32) (σ : zS) : Option Int32 := 
  if (f_X11_isCell x1 σ) = 0 then
    some (-1 : Int32)
  else
    (f_X5_landAt x1 σ).bind fun v_4 =>
    if v_4 = 9 then
      some (-2 : Int32)
    else
      some v_4
theorem t_X11_land (x1 : Int32) (σ : zS) (Q : Option Value → zS → Prop) (h : wpO (f_X11_land x1 σ) (fun a => Q (some (.int a)) σ)) : PK alC yX11_land mX11_land (1) [.ref 100, .int x1] σ Q := by
  refine PC_ofF (by decide +kernel) rfl rfl (Nat.le_of_ble_eq_true rfl) ?_
  show PZ alC mX11_land (1) Q 0 [(0, .ref 100), (1, .int x1)] [] σ
  unfold f_X11_land at h
  refine PW_aload_n (pc' := 1) (q := 0) (pw_dk dc_X11_land 0 rfl) rfl rfl rfl ?_
  refine PW_iload_n (pc' := 2) (q := 1) (pw_dk dc_X11_land 1 rfl) rfl rfl rfl ?_
  refine PZ_callVi (pc' := 5) (y := yX11_isCell) (M' := mX11_isCell) (d' := 0) (As := [.int x1]) (st := []) (b := 100) (ci := 11) (nn := 0) me_100 rfl tw_891 tw_28 (pw_dk dc_X11_land 2 rfl) rfl Y_X11_isCell tw_889 rfl (by decide) (Nat.le_of_ble_eq_true rfl) (t_X11_isCell x1 σ _ ?_)
  refine ⟨_, rfl, fun hn_1 => ?_⟩
  show PZ alC mX11_land (1) Q 5 [(0, .ref 100), (1, .int x1)] [.int (f_X11_isCell x1 σ)] σ
  refine PW_if_ne (pc' := 8) (tgt := 10) (pw_dk dc_X11_land 3 rfl) rfl (by decide) (fun c_2 => ?_) (fun c_2 => ?_)
  · rw [if_neg c_2] at h
    refine PW_aload_n (pc' := 11) (q := 0) (pw_dk dc_X11_land 6 rfl) rfl rfl rfl ?_
    refine PW_getR (pc' := 14) (id := 100) (ci := 11) (nn := 0) (C0 := RX11) (T := TX11) (N := 15) (j := 6) (r := 1000) (pw_dk dc_X11_land 7 rfl) rfl me_100 rfl pi_11 (by decide) fk_11_6 tw_601 (rfl) (by decide) ?_
    refine PW_iload_n (pc' := 15) (q := 1) (pw_dk dc_X11_land 8 rfl) rfl rfl rfl ?_
    refine PZ_callVi (pc' := 18) (y := yX5_landAt) (M' := mX5_landAt) (d' := 0) (As := [.int x1]) (st := []) (b := 1000) (ci := 5) (nn := 0) me_1000 rfl tw_894 tw_895 (pw_dk dc_X11_land 9 rfl) rfl Y_X5_landAt tw_893 rfl (by decide) (Nat.le_of_ble_eq_true rfl) (t_X5_landAt x1 σ _ ?_)
    obtain ⟨v_4, e_5, h⟩ := wp_bind h
    refine ⟨v_4, e_5, _, rfl, fun hn_3 => ?_⟩
    show PZ alC mX11_land (1) Q 18 [(0, .ref 100), (1, .int x1)] [.int v_4] σ
    refine PW_istore_n (pc' := 19) (lv' := [(2, .int v_4), (0, .ref 100), (1, .int x1)]) (pw_dk dc_X11_land 10 rfl) rfl rfl (by decide) rfl ?_
    refine PW_iload_n (pc' := 20) (q := 0) (pw_dk dc_X11_land 11 rfl) rfl rfl rfl ?_
    refine PW_bipush (pc' := 22) (v := 9) (pw_dk dc_X11_land 12 rfl) rfl (by decide) ?_
    refine PW_icmp_ne (pc' := 25) (tgt := 30) (pw_dk dc_X11_land 13 rfl) rfl (by decide) (fun c_6 => ?_) (fun c_6 => ?_)
    · rw [if_neg c_6] at h
      refine PW_iload_n (pc' := 31) (q := 0) (pw_dk dc_X11_land 16 rfl) rfl rfl rfl ?_
      have z := wp_some h
      exact PZ_iret (ty := .int) (pw_dk dc_X11_land 17 rfl) rfl rfl z
    · rw [if_pos c_6] at h
      refine PW_bipush (pc' := 27) (v := (-2 : Int32)) (pw_dk dc_X11_land 14 rfl) rfl (by decide) ?_
      refine PW_goto (tgt := 31) (pw_dk dc_X11_land 15 rfl) (by decide) ?_
      have z := wp_some h
      exact PZ_iret (ty := .int) (pw_dk dc_X11_land 17 rfl) rfl rfl z
  · rw [if_pos c_2] at h
    refine PW_iconst (pc' := 9) (v := (-1 : Int32)) (pw_dk dc_X11_land 4 rfl) rfl (by decide) ?_
    have z := wp_some h
    exact PZ_iret (ty := .int) (pw_dk dc_X11_land 5 rfl) rfl rfl z
def f_X11_isMan (x1 : Int32) (σ : zS) : Int32 := 
  if x1 < 0 then
    0
  else
    if (σ.1 (tv (σ.2.2 0)) 6) ≤ x1 then
      0
    else
      1
theorem t_X11_isMan (x1 : Int32) (σ : zS) (Q : Option Value → zS → Prop) (h : Q (some (.int (f_X11_isMan x1 σ))) σ) : PK alC yX11_isMan mX11_isMan (0) [.ref 100, .int x1] σ Q := by
  refine PC_ofF (by decide +kernel) rfl rfl (Nat.le_of_ble_eq_true rfl) ?_
  show PZ alC mX11_isMan (0) Q 0 [(0, .ref 100), (1, .int x1)] [] σ
  unfold f_X11_isMan at h
  refine PW_iload_n (pc' := 1) (q := 1) (pw_dk dc_X11_isMan 0 rfl) rfl rfl rfl ?_
  refine PW_if_lt (pc' := 4) (tgt := 19) (pw_dk dc_X11_isMan 1 rfl) rfl (by decide) (fun c_1 => ?_) (fun c_1 => ?_)
  · rw [if_pos c_1] at h
    refine PW_iconst (pc' := 20) (v := 0) (pw_dk dc_X11_isMan 9 rfl) rfl (by decide) ?_
    exact PZ_iret (ty := .boolean) (pw_dk dc_X11_isMan 10 rfl) rfl (by decide) h
  · rw [if_neg c_1] at h
    refine PW_iload_n (pc' := 5) (q := 1) (pw_dk dc_X11_isMan 2 rfl) rfl rfl rfl ?_
    refine PW_aload_n (pc' := 6) (q := 0) (pw_dk dc_X11_isMan 3 rfl) rfl rfl rfl ?_
    refine PW_getR (pc' := 9) (id := 100) (ci := 11) (nn := 0) (C0 := RX11) (T := TX11) (N := 15) (j := 4) (r := tv (σ.2.2 0)) (pw_dk dc_X11_isMan 4 rfl) rfl me_100 rfl pi_11 (by decide) fk_11_4 tw_599 (rf_M0 _) (tv0 _) ?_
    refine PZ_getI (pc' := 12) (id := (tv (σ.2.2 0))) (ci := 8) (nn := 0) (C0 := RX8) (T := TX8) (N := 18) (j := 6) (pw_dk dc_X11_isMan 5 rfl) rfl (me_T _) rfl pi_8 (by decide) fk_8_6 tw_217 ?_
    refine PW_icmp_ge (pc' := 15) (tgt := 19) (pw_dk dc_X11_isMan 6 rfl) rfl (by decide) (fun c_2 => ?_) (fun c_2 => ?_)
    · rw [if_pos c_2] at h
      refine PW_iconst (pc' := 20) (v := 0) (pw_dk dc_X11_isMan 9 rfl) rfl (by decide) ?_
      exact PZ_iret (ty := .boolean) (pw_dk dc_X11_isMan 10 rfl) rfl (by decide) h
    · rw [if_neg c_2] at h
      refine PW_iconst (pc' := 16) (v := 1) (pw_dk dc_X11_isMan 7 rfl) rfl (by decide) ?_
      refine PW_goto (tgt := 20) (pw_dk dc_X11_isMan 8 rfl) (by decide) ?_
      exact PZ_iret (ty := .boolean) (pw_dk dc_X11_isMan 10 rfl) rfl (by decide) h
def f_X11_isPart (x0 : Int32) (σ : zS) : Int32 := 
  if x0 < 0 then
    0
  else
    if 4 ≤ x0 then
      0
    else
      1
theorem t_X11_isPart (x0 : Int32) (σ : zS) (Q : Option Value → zS → Prop) (h : Q (some (.int (f_X11_isPart x0 σ))) σ) : PK alC yX11_isPart mX11_isPart (0) [.int x0] σ Q := by
  refine PC_ofF (by decide +kernel) rfl rfl (Nat.le_of_ble_eq_true rfl) ?_
  show PZ alC mX11_isPart (0) Q 0 [(0, .int x0)] [] σ
  unfold f_X11_isPart at h
  refine PW_iload_n (pc' := 1) (q := 0) (pw_dk dc_X11_isPart 0 rfl) rfl rfl rfl ?_
  refine PW_if_lt (pc' := 4) (tgt := 13) (pw_dk dc_X11_isPart 1 rfl) rfl (by decide) (fun c_1 => ?_) (fun c_1 => ?_)
  · rw [if_pos c_1] at h
    refine PW_iconst (pc' := 14) (v := 0) (pw_dk dc_X11_isPart 7 rfl) rfl (by decide) ?_
    exact PZ_iret (ty := .boolean) (pw_dk dc_X11_isPart 8 rfl) rfl (by decide) h
  · rw [if_neg c_1] at h
    refine PW_iload_n (pc' := 5) (q := 0) (pw_dk dc_X11_isPart 2 rfl) rfl rfl rfl ?_
    refine PW_iconst (pc' := 6) (v := 4) (pw_dk dc_X11_isPart 3 rfl) rfl (by decide) ?_
    refine PW_icmp_ge (pc' := 9) (tgt := 13) (pw_dk dc_X11_isPart 4 rfl) rfl (by decide) (fun c_2 => ?_) (fun c_2 => ?_)
    · rw [if_pos c_2] at h
      refine PW_iconst (pc' := 14) (v := 0) (pw_dk dc_X11_isPart 7 rfl) rfl (by decide) ?_
      exact PZ_iret (ty := .boolean) (pw_dk dc_X11_isPart 8 rfl) rfl (by decide) h
    · rw [if_neg c_2] at h
      refine PW_iconst (pc' := 10) (v := 1) (pw_dk dc_X11_isPart 5 rfl) rfl (by decide) ?_
      refine PW_goto (tgt := 14) (pw_dk dc_X11_isPart 6 rfl) (by decide) ?_
      exact PZ_iret (ty := .boolean) (pw_dk dc_X11_isPart 8 rfl) rfl (by decide) h
def f_X11_part_15   (σ : zS) : Option (Int32 × zS) := 
  some ((-2 : Int32), σ)
theorem b_X11_part_15 {Q : Option Value → zS → Prop}  (σ : zS) (h : wpO (f_X11_part_15 σ) (fun a => Q (some (.int a.1)) a.2)) : PZ alC mX11_part (5) Q 15 [] [] σ := by
  unfold f_X11_part_15 at h
  refine PW_bipush (pc' := 17) (v := (-2 : Int32)) (pw_dk dc_X11_part 7 rfl) rfl (by decide) ?_
  have z := wp_some h
  exact PZ_iret (ty := .int) (pw_dk dc_X11_part 8 rfl) rfl rfl z
def f_X11_part (x1 : Int32) (x2 : Int32) (x3 : Int32) (σ : zS) : Option (Int32 × zS) := 
  if (f_X11_isMan x1 σ) = 0 then
    f_X11_part_15 σ
  else
    if (f_X11_isPart x2 σ) = 0 then
      f_X11_part_15 σ
    else
      (rdI σ 703 5 x1).bind fun v_5 =>
      if x3 = 0 then
        some (f_X5_placeOf v_5 x2 σ, σ)
      else if x3 = 1 then
        (f_X5_landAt (f_X5_placeOf v_5 x2 σ) σ).bind fun v_13 =>
        some (v_13, σ)
      else if x3 = 2 then
        (f_X5_sideOf x1 x2 σ).bind fun v_17 =>
        some (v_17, σ)
      else if x3 = 3 then
        b2 (f_X5_binds x1 v_5 x2 (σ.1 700 0) σ) fun v_22 σ_21 =>
        if v_22 = 0 then
          some (0, σ_21)
        else
          some (1, σ_21)
      else if x3 = 4 then
        (f_X5_bars v_5 x2 σ).bind fun v_27 =>
        if v_27 = 0 then
          some (0, σ)
        else
          some (1, σ)
      else if x3 = 5 then
        (f_X0_isSeized 700 x1 x2 σ).bind fun v_32 =>
        if v_32 = 0 then
          some (0, σ)
        else
          some (1, σ)
      else
        some ((-2 : Int32), σ)
theorem t_X11_part (x1 : Int32) (x2 : Int32) (x3 : Int32) (σ : zS) (Q : Option Value → zS → Prop) (h : wpO (f_X11_part x1 x2 x3 σ) (fun a => Q (some (.int a.1)) a.2)) : PK alC yX11_part mX11_part (5) [.ref 100, .int x1, .int x2, .int x3] σ Q := by
  refine PC_ofF (by decide +kernel) rfl rfl (Nat.le_of_ble_eq_true rfl) ?_
  show PZ alC mX11_part (5) Q 0 [(0, .ref 100), (1, .int x1), (2, .int x2), (3, .int x3)] [] σ
  unfold f_X11_part at h
  refine PW_aload_n (pc' := 1) (q := 0) (pw_dk dc_X11_part 0 rfl) rfl rfl rfl ?_
  refine PW_iload_n (pc' := 2) (q := 1) (pw_dk dc_X11_part 1 rfl) rfl rfl rfl ?_
  refine PZ_callVi (pc' := 5) (y := yX11_isMan) (M' := mX11_isMan) (d' := 0) (As := [.int x1]) (st := []) (b := 100) (ci := 11) (nn := 0) me_100 rfl tw_903 tw_29 (pw_dk dc_X11_part 2 rfl) rfl Y_X11_isMan tw_901 rfl (by decide) (Nat.le_of_ble_eq_true rfl) (t_X11_isMan x1 σ _ ?_)
  refine ⟨_, rfl, fun hn_1 => ?_⟩
  show PZ alC mX11_part (5) Q 5 [(0, .ref 100), (1, .int x1), (2, .int x2), (3, .int x3)] [.int (f_X11_isMan x1 σ)] σ
  refine PW_if_eq (pc' := 8) (tgt := 15) (pw_dk dc_X11_part 3 rfl) rfl (by decide) (fun c_2 => ?_) (fun c_2 => ?_)
  · rw [if_pos c_2] at h
    refine PW_sub (lv' := []) [] rfl ?_
    exact b_X11_part_15 σ h
  · rw [if_neg c_2] at h
    refine PW_iload_n (pc' := 9) (q := 2) (pw_dk dc_X11_part 4 rfl) rfl rfl rfl ?_
    refine PZ_callSi (pc' := 12) (y := yX11_isPart) (M' := mX11_isPart) (d' := 0) (As := [.int x2]) (st := []) tw_906 (pw_dk dc_X11_part 5 rfl) rfl Y_X11_isPart tw_905 rfl (by decide) (Nat.le_of_ble_eq_true rfl) (t_X11_isPart x2 σ _ ?_)
    refine ⟨_, rfl, fun hn_3 => ?_⟩
    show PZ alC mX11_part (5) Q 12 [(0, .ref 100), (1, .int x1), (2, .int x2), (3, .int x3)] [.int (f_X11_isPart x2 σ)] σ
    refine PW_if_ne (pc' := 15) (tgt := 18) (pw_dk dc_X11_part 6 rfl) rfl (by decide) (fun c_4 => ?_) (fun c_4 => ?_)
    · rw [if_neg c_4] at h
      refine PW_aload_n (pc' := 19) (q := 0) (pw_dk dc_X11_part 9 rfl) rfl rfl rfl ?_
      refine PW_getR (pc' := 22) (id := 100) (ci := 11) (nn := 0) (C0 := RX11) (T := TX11) (N := 15) (j := 7) (r := 700) (pw_dk dc_X11_part 10 rfl) rfl me_100 rfl pi_11 (by decide) fk_11_7 tw_602 (rfl) (by decide) ?_
      refine PW_getR (pc' := 25) (id := 700) (ci := 0) (nn := 0) (C0 := RX0) (T := TX0) (N := 6) (j := 2) (r := 703) (pw_dk dc_X11_part 11 rfl) rfl me_700 rfl pi_0 (by decide) fk_0_2 tw_464 (rfl) (by decide) ?_
      refine PW_iload_n (pc' := 26) (q := 1) (pw_dk dc_X11_part 12 rfl) rfl rfl rfl ?_
      obtain ⟨v_5, hi_6, e_7, h⟩ := wp_rdIx h
      refine PZ_ialdx (pc' := 27) (v := v_5) (id := 703) (nn := 5) (pw_dk dc_X11_part 13 rfl) rfl me_703 hi_6 e_7 ?_
      refine PW_istore (pc' := 29) (lv' := [(4, .int v_5), (0, .ref 100), (1, .int x1), (2, .int x2), (3, .int x3)]) (pw_dk dc_X11_part 14 rfl) rfl (by decide) rfl ?_
      refine PW_iload_n (pc' := 30) (q := 4) (pw_dk dc_X11_part 15 rfl) rfl rfl rfl ?_
      by_cases c_8 : x3 = 0
      · rw [if_pos c_8] at h
        refine PW_tin (tgt := 68) (pw_dk dc_X11_part 16 rfl) (by rw [c_8]; decide) (by rw [c_8]; decide) (by rw [c_8] <;> rfl) (by decide) ?_
        refine PW_iload (pc' := 70) (q := 0) (pw_dk dc_X11_part 17 rfl) rfl rfl ?_
        refine PW_iload_n (pc' := 71) (q := 3) (pw_dk dc_X11_part 18 rfl) rfl rfl rfl ?_
        refine PZ_callSi (pc' := 74) (y := yX5_placeOf) (M' := mX5_placeOf) (d' := 2) (As := [.int v_5, .int x2]) (st := []) tw_909 (pw_dk dc_X11_part 19 rfl) rfl Y_X5_placeOf tw_908 rfl (by decide) (Nat.le_of_ble_eq_true rfl) (t_X5_placeOf v_5 x2 σ _ ?_)
        refine ⟨_, rfl, fun hn_9 => ?_⟩
        show PZ alC mX11_part (5) Q 74 [(4, .int v_5), (0, .ref 100), (1, .int x1), (2, .int x2), (3, .int x3)] [.int (f_X5_placeOf v_5 x2 σ)] σ
        have z := wp_some h
        exact PZ_iret (ty := .int) (pw_dk dc_X11_part 20 rfl) rfl rfl z
      · rw [if_neg c_8] at h
        by_cases c_10 : x3 = 1
        · rw [if_pos c_10] at h
          refine PW_tin (tgt := 75) (pw_dk dc_X11_part 16 rfl) (by rw [c_10]; decide) (by rw [c_10]; decide) (by rw [c_10] <;> rfl) (by decide) ?_
          refine PW_aload_n (pc' := 76) (q := 1) (pw_dk dc_X11_part 21 rfl) rfl rfl rfl ?_
          refine PW_getR (pc' := 79) (id := 100) (ci := 11) (nn := 0) (C0 := RX11) (T := TX11) (N := 15) (j := 6) (r := 1000) (pw_dk dc_X11_part 22 rfl) rfl me_100 rfl pi_11 (by decide) fk_11_6 tw_601 (rfl) (by decide) ?_
          refine PW_iload (pc' := 81) (q := 0) (pw_dk dc_X11_part 23 rfl) rfl rfl ?_
          refine PW_iload_n (pc' := 82) (q := 3) (pw_dk dc_X11_part 24 rfl) rfl rfl rfl ?_
          refine PZ_callSi (pc' := 85) (y := yX5_placeOf) (M' := mX5_placeOf) (d' := 2) (As := [.int v_5, .int x2]) (st := [.ref 1000]) tw_909 (pw_dk dc_X11_part 25 rfl) rfl Y_X5_placeOf tw_908 rfl (by decide) (Nat.le_of_ble_eq_true rfl) (t_X5_placeOf v_5 x2 σ _ ?_)
          refine ⟨_, rfl, fun hn_11 => ?_⟩
          show PZ alC mX11_part (5) Q 85 [(4, .int v_5), (0, .ref 100), (1, .int x1), (2, .int x2), (3, .int x3)] [.int (f_X5_placeOf v_5 x2 σ), .ref 1000] σ
          refine PZ_callVi (pc' := 88) (y := yX5_landAt) (M' := mX5_landAt) (d' := 0) (As := [.int (f_X5_placeOf v_5 x2 σ)]) (st := []) (b := 1000) (ci := 5) (nn := 0) me_1000 rfl tw_894 tw_895 (pw_dk dc_X11_part 26 rfl) rfl Y_X5_landAt tw_893 rfl (by decide) (Nat.le_of_ble_eq_true rfl) (t_X5_landAt (f_X5_placeOf v_5 x2 σ) σ _ ?_)
          obtain ⟨v_13, e_14, h⟩ := wp_bind h
          refine ⟨v_13, e_14, _, rfl, fun hn_12 => ?_⟩
          show PZ alC mX11_part (5) Q 88 [(4, .int v_5), (0, .ref 100), (1, .int x1), (2, .int x2), (3, .int x3)] [.int v_13] σ
          have z := wp_some h
          exact PZ_iret (ty := .int) (pw_dk dc_X11_part 27 rfl) rfl rfl z
        · rw [if_neg c_10] at h
          by_cases c_15 : x3 = 2
          · rw [if_pos c_15] at h
            refine PW_tin (tgt := 89) (pw_dk dc_X11_part 16 rfl) (by rw [c_15]; decide) (by rw [c_15]; decide) (by rw [c_15] <;> rfl) (by decide) ?_
            refine PW_aload_n (pc' := 90) (q := 1) (pw_dk dc_X11_part 28 rfl) rfl rfl rfl ?_
            refine PW_getR (pc' := 93) (id := 100) (ci := 11) (nn := 0) (C0 := RX11) (T := TX11) (N := 15) (j := 6) (r := 1000) (pw_dk dc_X11_part 29 rfl) rfl me_100 rfl pi_11 (by decide) fk_11_6 tw_601 (rfl) (by decide) ?_
            refine PW_iload_n (pc' := 94) (q := 2) (pw_dk dc_X11_part 30 rfl) rfl rfl rfl ?_
            refine PW_iload_n (pc' := 95) (q := 3) (pw_dk dc_X11_part 31 rfl) rfl rfl rfl ?_
            refine PZ_callVi (pc' := 98) (y := yX5_sideOf) (M' := mX5_sideOf) (d' := 0) (As := [.int x1, .int x2]) (st := []) (b := 1000) (ci := 5) (nn := 0) me_1000 rfl tw_927 tw_928 (pw_dk dc_X11_part 32 rfl) rfl Y_X5_sideOf tw_926 rfl (by decide) (Nat.le_of_ble_eq_true rfl) (t_X5_sideOf x1 x2 σ _ ?_)
            obtain ⟨v_17, e_18, h⟩ := wp_bind h
            refine ⟨v_17, e_18, _, rfl, fun hn_16 => ?_⟩
            show PZ alC mX11_part (5) Q 98 [(4, .int v_5), (0, .ref 100), (1, .int x1), (2, .int x2), (3, .int x3)] [.int v_17] σ
            have z := wp_some h
            exact PZ_iret (ty := .int) (pw_dk dc_X11_part 33 rfl) rfl rfl z
          · rw [if_neg c_15] at h
            by_cases c_19 : x3 = 3
            · rw [if_pos c_19] at h
              refine PW_tin (tgt := 99) (pw_dk dc_X11_part 16 rfl) (by rw [c_19]; decide) (by rw [c_19]; decide) (by rw [c_19] <;> rfl) (by decide) ?_
              refine PW_aload_n (pc' := 100) (q := 1) (pw_dk dc_X11_part 34 rfl) rfl rfl rfl ?_
              refine PW_getR (pc' := 103) (id := 100) (ci := 11) (nn := 0) (C0 := RX11) (T := TX11) (N := 15) (j := 6) (r := 1000) (pw_dk dc_X11_part 35 rfl) rfl me_100 rfl pi_11 (by decide) fk_11_6 tw_601 (rfl) (by decide) ?_
              refine PW_iload_n (pc' := 104) (q := 2) (pw_dk dc_X11_part 36 rfl) rfl rfl rfl ?_
              refine PW_iload (pc' := 106) (q := 0) (pw_dk dc_X11_part 37 rfl) rfl rfl ?_
              refine PW_iload_n (pc' := 107) (q := 3) (pw_dk dc_X11_part 38 rfl) rfl rfl rfl ?_
              refine PW_aload_n (pc' := 108) (q := 1) (pw_dk dc_X11_part 39 rfl) rfl rfl rfl ?_
              refine PW_getR (pc' := 111) (id := 100) (ci := 11) (nn := 0) (C0 := RX11) (T := TX11) (N := 15) (j := 7) (r := 700) (pw_dk dc_X11_part 40 rfl) rfl me_100 rfl pi_11 (by decide) fk_11_7 tw_602 (rfl) (by decide) ?_
              refine PZ_getI (pc' := 114) (id := 700) (ci := 0) (nn := 0) (C0 := RX0) (T := TX0) (N := 6) (j := 0) (pw_dk dc_X11_part 41 rfl) rfl me_700 rfl pi_0 (by decide) fk_0_0 tw_456 ?_
              refine PZ_callVi (pc' := 117) (y := yX5_binds) (M' := mX5_binds) (d' := 4) (As := [.int x1, .int v_5, .int x2, .int (σ.1 700 0)]) (st := []) (b := 1000) (ci := 5) (nn := 0) me_1000 rfl tw_931 tw_932 (pw_dk dc_X11_part 42 rfl) rfl Y_X5_binds tw_930 rfl (by decide) (Nat.le_of_ble_eq_true rfl) (t_X5_binds x1 v_5 x2 (σ.1 700 0) σ _ ?_)
              obtain ⟨⟨v_22, σ_21⟩, e_23, h⟩ := wp_bind2 h
              refine ⟨(v_22, σ_21), e_23, _, rfl, fun hn_20 => ?_⟩
              show PZ alC mX11_part (5) Q 117 [(4, .int v_5), (0, .ref 100), (1, .int x1), (2, .int x2), (3, .int x3)] [.int v_22] σ_21
              refine PW_if_eq (pc' := 120) (tgt := 124) (pw_dk dc_X11_part 43 rfl) rfl (by decide) (fun c_24 => ?_) (fun c_24 => ?_)
              · rw [if_pos c_24] at h
                refine PW_iconst (pc' := 125) (v := 0) (pw_dk dc_X11_part 46 rfl) rfl (by decide) ?_
                have z := wp_some h
                exact PZ_iret (ty := .int) (pw_dk dc_X11_part 47 rfl) rfl rfl z
              · rw [if_neg c_24] at h
                refine PW_iconst (pc' := 121) (v := 1) (pw_dk dc_X11_part 44 rfl) rfl (by decide) ?_
                refine PW_goto (tgt := 125) (pw_dk dc_X11_part 45 rfl) (by decide) ?_
                have z := wp_some h
                exact PZ_iret (ty := .int) (pw_dk dc_X11_part 47 rfl) rfl rfl z
            · rw [if_neg c_19] at h
              by_cases c_25 : x3 = 4
              · rw [if_pos c_25] at h
                refine PW_tin (tgt := 126) (pw_dk dc_X11_part 16 rfl) (by rw [c_25]; decide) (by rw [c_25]; decide) (by rw [c_25] <;> rfl) (by decide) ?_
                refine PW_aload_n (pc' := 127) (q := 1) (pw_dk dc_X11_part 48 rfl) rfl rfl rfl ?_
                refine PW_getR (pc' := 130) (id := 100) (ci := 11) (nn := 0) (C0 := RX11) (T := TX11) (N := 15) (j := 6) (r := 1000) (pw_dk dc_X11_part 49 rfl) rfl me_100 rfl pi_11 (by decide) fk_11_6 tw_601 (rfl) (by decide) ?_
                refine PW_iload (pc' := 132) (q := 0) (pw_dk dc_X11_part 50 rfl) rfl rfl ?_
                refine PW_iload_n (pc' := 133) (q := 3) (pw_dk dc_X11_part 51 rfl) rfl rfl rfl ?_
                refine PZ_callVi (pc' := 136) (y := yX5_bars) (M' := mX5_bars) (d' := 3) (As := [.int v_5, .int x2]) (st := []) (b := 1000) (ci := 5) (nn := 0) me_1000 rfl tw_954 tw_955 (pw_dk dc_X11_part 52 rfl) rfl Y_X5_bars tw_953 rfl (by decide) (Nat.le_of_ble_eq_true rfl) (t_X5_bars v_5 x2 σ _ ?_)
                obtain ⟨v_27, e_28, h⟩ := wp_bind h
                refine ⟨v_27, e_28, _, rfl, fun hn_26 => ?_⟩
                show PZ alC mX11_part (5) Q 136 [(4, .int v_5), (0, .ref 100), (1, .int x1), (2, .int x2), (3, .int x3)] [.int v_27] σ
                refine PW_if_eq (pc' := 139) (tgt := 143) (pw_dk dc_X11_part 53 rfl) rfl (by decide) (fun c_29 => ?_) (fun c_29 => ?_)
                · rw [if_pos c_29] at h
                  refine PW_iconst (pc' := 144) (v := 0) (pw_dk dc_X11_part 56 rfl) rfl (by decide) ?_
                  have z := wp_some h
                  exact PZ_iret (ty := .int) (pw_dk dc_X11_part 57 rfl) rfl rfl z
                · rw [if_neg c_29] at h
                  refine PW_iconst (pc' := 140) (v := 1) (pw_dk dc_X11_part 54 rfl) rfl (by decide) ?_
                  refine PW_goto (tgt := 144) (pw_dk dc_X11_part 55 rfl) (by decide) ?_
                  have z := wp_some h
                  exact PZ_iret (ty := .int) (pw_dk dc_X11_part 57 rfl) rfl rfl z
              · rw [if_neg c_25] at h
                by_cases c_30 : x3 = 5
                · rw [if_pos c_30] at h
                  refine PW_tin (tgt := 145) (pw_dk dc_X11_part 16 rfl) (by rw [c_30]; decide) (by rw [c_30]; decide) (by rw [c_30] <;> rfl) (by decide) ?_
                  refine PW_aload_n (pc' := 146) (q := 1) (pw_dk dc_X11_part 58 rfl) rfl rfl rfl ?_
                  refine PW_getR (pc' := 149) (id := 100) (ci := 11) (nn := 0) (C0 := RX11) (T := TX11) (N := 15) (j := 7) (r := 700) (pw_dk dc_X11_part 59 rfl) rfl me_100 rfl pi_11 (by decide) fk_11_7 tw_602 (rfl) (by decide) ?_
                  refine PW_iload_n (pc' := 150) (q := 2) (pw_dk dc_X11_part 60 rfl) rfl rfl rfl ?_
                  refine PW_iload_n (pc' := 151) (q := 3) (pw_dk dc_X11_part 61 rfl) rfl rfl rfl ?_
                  refine PZ_callVi (pc' := 154) (y := yX0_isSeized) (M' := mX0_isSeized) (d' := 0) (As := [.int x1, .int x2]) (st := []) (b := 700) (ci := 0) (nn := 0) me_700 rfl tw_958 tw_959 (pw_dk dc_X11_part 62 rfl) rfl Y_X0_isSeized tw_957 rfl (by decide) (Nat.le_of_ble_eq_true rfl) (t_X0_isSeized 700 x1 x2 (Or.inl rfl) σ _ ?_)
                  obtain ⟨v_32, e_33, h⟩ := wp_bind h
                  refine ⟨v_32, e_33, _, rfl, fun hn_31 => ?_⟩
                  show PZ alC mX11_part (5) Q 154 [(4, .int v_5), (0, .ref 100), (1, .int x1), (2, .int x2), (3, .int x3)] [.int v_32] σ
                  refine PW_if_eq (pc' := 157) (tgt := 161) (pw_dk dc_X11_part 63 rfl) rfl (by decide) (fun c_34 => ?_) (fun c_34 => ?_)
                  · rw [if_pos c_34] at h
                    refine PW_iconst (pc' := 162) (v := 0) (pw_dk dc_X11_part 66 rfl) rfl (by decide) ?_
                    have z := wp_some h
                    exact PZ_iret (ty := .int) (pw_dk dc_X11_part 67 rfl) rfl rfl z
                  · rw [if_neg c_34] at h
                    refine PW_iconst (pc' := 158) (v := 1) (pw_dk dc_X11_part 64 rfl) rfl (by decide) ?_
                    refine PW_goto (tgt := 162) (pw_dk dc_X11_part 65 rfl) (by decide) ?_
                    have z := wp_some h
                    exact PZ_iret (ty := .int) (pw_dk dc_X11_part 67 rfl) rfl rfl z
                · rw [if_neg c_30] at h
                  have kc_8 := pw_ne c_8 (show (0 : Int32).toInt = 0 by decide)
                  have kc_10 := pw_ne c_10 (show (1 : Int32).toInt = 1 by decide)
                  have kc_15 := pw_ne c_15 (show (2 : Int32).toInt = 2 by decide)
                  have kc_19 := pw_ne c_19 (show (3 : Int32).toInt = 3 by decide)
                  have kc_25 := pw_ne c_25 (show (4 : Int32).toInt = 4 by decide)
                  have kc_30 := pw_ne c_30 (show (5 : Int32).toInt = 5 by decide)
                  refine PW_tout (tgt := 163) (pw_dk dc_X11_part 16 rfl) (by omega) (by decide) ?_
                  refine PW_bipush (pc' := 165) (v := (-2 : Int32)) (pw_dk dc_X11_part 68 rfl) rfl (by decide) ?_
                  have z := wp_some h
                  exact PZ_iret (ty := .int) (pw_dk dc_X11_part 69 rfl) rfl rfl z
    · rw [if_pos c_4] at h
      refine PW_sub (lv' := []) [] rfl ?_
      exact b_X11_part_15 σ h
def f_X11_isKind (x0 : Int32) (σ : zS) : Int32 := 
  if x0 < 0 then
    0
  else
    if 4 ≤ x0 then
      0
    else
      1
theorem t_X11_isKind (x0 : Int32) (σ : zS) (Q : Option Value → zS → Prop) (h : Q (some (.int (f_X11_isKind x0 σ))) σ) : PK alC yX11_isKind mX11_isKind (0) [.int x0] σ Q := by
  refine PC_ofF (by decide +kernel) rfl rfl (Nat.le_of_ble_eq_true rfl) ?_
  show PZ alC mX11_isKind (0) Q 0 [(0, .int x0)] [] σ
  unfold f_X11_isKind at h
  refine PW_iload_n (pc' := 1) (q := 0) (pw_dk dc_X11_isKind 0 rfl) rfl rfl rfl ?_
  refine PW_if_lt (pc' := 4) (tgt := 13) (pw_dk dc_X11_isKind 1 rfl) rfl (by decide) (fun c_1 => ?_) (fun c_1 => ?_)
  · rw [if_pos c_1] at h
    refine PW_iconst (pc' := 14) (v := 0) (pw_dk dc_X11_isKind 7 rfl) rfl (by decide) ?_
    exact PZ_iret (ty := .boolean) (pw_dk dc_X11_isKind 8 rfl) rfl (by decide) h
  · rw [if_neg c_1] at h
    refine PW_iload_n (pc' := 5) (q := 0) (pw_dk dc_X11_isKind 2 rfl) rfl rfl rfl ?_
    refine PW_iconst (pc' := 6) (v := 4) (pw_dk dc_X11_isKind 3 rfl) rfl (by decide) ?_
    refine PW_icmp_ge (pc' := 9) (tgt := 13) (pw_dk dc_X11_isKind 4 rfl) rfl (by decide) (fun c_2 => ?_) (fun c_2 => ?_)
    · rw [if_pos c_2] at h
      refine PW_iconst (pc' := 14) (v := 0) (pw_dk dc_X11_isKind 7 rfl) rfl (by decide) ?_
      exact PZ_iret (ty := .boolean) (pw_dk dc_X11_isKind 8 rfl) rfl (by decide) h
    · rw [if_neg c_2] at h
      refine PW_iconst (pc' := 10) (v := 1) (pw_dk dc_X11_isKind 5 rfl) rfl (by decide) ?_
      refine PW_goto (tgt := 14) (pw_dk dc_X11_isKind 6 rfl) (by decide) ?_
      exact PZ_iret (ty := .boolean) (pw_dk dc_X11_isKind 8 rfl) rfl (by decide) h
def f_X11_lawful (x1 : Int32) (x2 : Int32) (x3 : Int32) (σ : zS) : Option (Int32 × zS) := 
  if (f_X11_isMan x1 σ) = 0 then
    some ((-1 : Int32), σ)
  else
    if (f_X11_isPart x2 σ) = 0 then
      some ((-1 : Int32), σ)
    else
      if (f_X11_isKind x3 σ) = 0 then
        some ((-1 : Int32), σ)
      else
        (rdI σ 703 5 x1).bind fun v_7 =>
        b2 (f_X5_allows x1 v_7 x2 x3 (σ.1 700 0) σ) fun v_12 σ_11 =>
        if v_12 = 0 then
          some (0, σ_11)
        else
          some (1, σ_11)
theorem t_X11_lawful (x1 : Int32) (x2 : Int32) (x3 : Int32) (σ : zS) (Q : Option Value → zS → Prop) (h : wpO (f_X11_lawful x1 x2 x3 σ) (fun a => Q (some (.int a.1)) a.2)) : PK alC yX11_lawful mX11_lawful (6) [.ref 100, .int x1, .int x2, .int x3] σ Q := by
  refine PC_ofF (by decide +kernel) rfl rfl (Nat.le_of_ble_eq_true rfl) ?_
  show PZ alC mX11_lawful (6) Q 0 [(0, .ref 100), (1, .int x1), (2, .int x2), (3, .int x3)] [] σ
  unfold f_X11_lawful at h
  refine PW_aload_n (pc' := 1) (q := 0) (pw_dk dc_X11_lawful 0 rfl) rfl rfl rfl ?_
  refine PW_iload_n (pc' := 2) (q := 1) (pw_dk dc_X11_lawful 1 rfl) rfl rfl rfl ?_
  refine PZ_callVi (pc' := 5) (y := yX11_isMan) (M' := mX11_isMan) (d' := 0) (As := [.int x1]) (st := []) (b := 100) (ci := 11) (nn := 0) me_100 rfl tw_903 tw_29 (pw_dk dc_X11_lawful 2 rfl) rfl Y_X11_isMan tw_901 rfl (by decide) (Nat.le_of_ble_eq_true rfl) (t_X11_isMan x1 σ _ ?_)
  refine ⟨_, rfl, fun hn_1 => ?_⟩
  show PZ alC mX11_lawful (6) Q 5 [(0, .ref 100), (1, .int x1), (2, .int x2), (3, .int x3)] [.int (f_X11_isMan x1 σ)] σ
  refine PW_if_eq (pc' := 8) (tgt := 22) (pw_dk dc_X11_lawful 3 rfl) rfl (by decide) (fun c_2 => ?_) (fun c_2 => ?_)
  · rw [if_pos c_2] at h
    refine PW_iconst (pc' := 23) (v := (-1 : Int32)) (pw_dk dc_X11_lawful 10 rfl) rfl (by decide) ?_
    have z := wp_some h
    exact PZ_iret (ty := .int) (pw_dk dc_X11_lawful 11 rfl) rfl rfl z
  · rw [if_neg c_2] at h
    refine PW_iload_n (pc' := 9) (q := 2) (pw_dk dc_X11_lawful 4 rfl) rfl rfl rfl ?_
    refine PZ_callSi (pc' := 12) (y := yX11_isPart) (M' := mX11_isPart) (d' := 0) (As := [.int x2]) (st := []) tw_906 (pw_dk dc_X11_lawful 5 rfl) rfl Y_X11_isPart tw_905 rfl (by decide) (Nat.le_of_ble_eq_true rfl) (t_X11_isPart x2 σ _ ?_)
    refine ⟨_, rfl, fun hn_3 => ?_⟩
    show PZ alC mX11_lawful (6) Q 12 [(0, .ref 100), (1, .int x1), (2, .int x2), (3, .int x3)] [.int (f_X11_isPart x2 σ)] σ
    refine PW_if_eq (pc' := 15) (tgt := 22) (pw_dk dc_X11_lawful 6 rfl) rfl (by decide) (fun c_4 => ?_) (fun c_4 => ?_)
    · rw [if_pos c_4] at h
      refine PW_iconst (pc' := 23) (v := (-1 : Int32)) (pw_dk dc_X11_lawful 10 rfl) rfl (by decide) ?_
      have z := wp_some h
      exact PZ_iret (ty := .int) (pw_dk dc_X11_lawful 11 rfl) rfl rfl z
    · rw [if_neg c_4] at h
      refine PW_iload_n (pc' := 16) (q := 3) (pw_dk dc_X11_lawful 7 rfl) rfl rfl rfl ?_
      refine PZ_callSi (pc' := 19) (y := yX11_isKind) (M' := mX11_isKind) (d' := 0) (As := [.int x3]) (st := []) tw_966 (pw_dk dc_X11_lawful 8 rfl) rfl Y_X11_isKind tw_965 rfl (by decide) (Nat.le_of_ble_eq_true rfl) (t_X11_isKind x3 σ _ ?_)
      refine ⟨_, rfl, fun hn_5 => ?_⟩
      show PZ alC mX11_lawful (6) Q 19 [(0, .ref 100), (1, .int x1), (2, .int x2), (3, .int x3)] [.int (f_X11_isKind x3 σ)] σ
      refine PW_if_ne (pc' := 22) (tgt := 24) (pw_dk dc_X11_lawful 9 rfl) rfl (by decide) (fun c_6 => ?_) (fun c_6 => ?_)
      · rw [if_neg c_6] at h
        refine PW_aload_n (pc' := 25) (q := 0) (pw_dk dc_X11_lawful 12 rfl) rfl rfl rfl ?_
        refine PW_getR (pc' := 28) (id := 100) (ci := 11) (nn := 0) (C0 := RX11) (T := TX11) (N := 15) (j := 6) (r := 1000) (pw_dk dc_X11_lawful 13 rfl) rfl me_100 rfl pi_11 (by decide) fk_11_6 tw_601 (rfl) (by decide) ?_
        refine PW_iload_n (pc' := 29) (q := 1) (pw_dk dc_X11_lawful 14 rfl) rfl rfl rfl ?_
        refine PW_aload_n (pc' := 30) (q := 0) (pw_dk dc_X11_lawful 15 rfl) rfl rfl rfl ?_
        refine PW_getR (pc' := 33) (id := 100) (ci := 11) (nn := 0) (C0 := RX11) (T := TX11) (N := 15) (j := 7) (r := 700) (pw_dk dc_X11_lawful 16 rfl) rfl me_100 rfl pi_11 (by decide) fk_11_7 tw_602 (rfl) (by decide) ?_
        refine PW_getR (pc' := 36) (id := 700) (ci := 0) (nn := 0) (C0 := RX0) (T := TX0) (N := 6) (j := 2) (r := 703) (pw_dk dc_X11_lawful 17 rfl) rfl me_700 rfl pi_0 (by decide) fk_0_2 tw_464 (rfl) (by decide) ?_
        refine PW_iload_n (pc' := 37) (q := 1) (pw_dk dc_X11_lawful 18 rfl) rfl rfl rfl ?_
        obtain ⟨v_7, hi_8, e_9, h⟩ := wp_rdIx h
        refine PZ_ialdx (pc' := 38) (v := v_7) (id := 703) (nn := 5) (pw_dk dc_X11_lawful 19 rfl) rfl me_703 hi_8 e_9 ?_
        refine PW_iload_n (pc' := 39) (q := 2) (pw_dk dc_X11_lawful 20 rfl) rfl rfl rfl ?_
        refine PW_iload_n (pc' := 40) (q := 3) (pw_dk dc_X11_lawful 21 rfl) rfl rfl rfl ?_
        refine PW_aload_n (pc' := 41) (q := 0) (pw_dk dc_X11_lawful 22 rfl) rfl rfl rfl ?_
        refine PW_getR (pc' := 44) (id := 100) (ci := 11) (nn := 0) (C0 := RX11) (T := TX11) (N := 15) (j := 7) (r := 700) (pw_dk dc_X11_lawful 23 rfl) rfl me_100 rfl pi_11 (by decide) fk_11_7 tw_602 (rfl) (by decide) ?_
        refine PZ_getI (pc' := 47) (id := 700) (ci := 0) (nn := 0) (C0 := RX0) (T := TX0) (N := 6) (j := 0) (pw_dk dc_X11_lawful 24 rfl) rfl me_700 rfl pi_0 (by decide) fk_0_0 tw_456 ?_
        refine PZ_callVi (pc' := 50) (y := yX5_allows) (M' := mX5_allows) (d' := 5) (As := [.int x1, .int v_7, .int x2, .int x3, .int (σ.1 700 0)]) (st := []) (b := 1000) (ci := 5) (nn := 0) me_1000 rfl tw_969 tw_970 (pw_dk dc_X11_lawful 25 rfl) rfl Y_X5_allows tw_968 rfl (by decide) (Nat.le_of_ble_eq_true rfl) (t_X5_allows x1 v_7 x2 x3 (σ.1 700 0) σ _ ?_)
        obtain ⟨⟨v_12, σ_11⟩, e_13, h⟩ := wp_bind2 h
        refine ⟨(v_12, σ_11), e_13, _, rfl, fun hn_10 => ?_⟩
        show PZ alC mX11_lawful (6) Q 50 [(0, .ref 100), (1, .int x1), (2, .int x2), (3, .int x3)] [.int v_12] σ_11
        refine PW_if_eq (pc' := 53) (tgt := 57) (pw_dk dc_X11_lawful 26 rfl) rfl (by decide) (fun c_14 => ?_) (fun c_14 => ?_)
        · rw [if_pos c_14] at h
          refine PW_iconst (pc' := 58) (v := 0) (pw_dk dc_X11_lawful 29 rfl) rfl (by decide) ?_
          have z := wp_some h
          exact PZ_iret (ty := .int) (pw_dk dc_X11_lawful 30 rfl) rfl rfl z
        · rw [if_neg c_14] at h
          refine PW_iconst (pc' := 54) (v := 1) (pw_dk dc_X11_lawful 27 rfl) rfl (by decide) ?_
          refine PW_goto (tgt := 58) (pw_dk dc_X11_lawful 28 rfl) (by decide) ?_
          have z := wp_some h
          exact PZ_iret (ty := .int) (pw_dk dc_X11_lawful 30 rfl) rfl rfl z
      · rw [if_pos c_6] at h
        refine PW_iconst (pc' := 23) (v := (-1 : Int32)) (pw_dk dc_X11_lawful 10 rfl) rfl (by decide) ?_
        have z := wp_some h
        exact PZ_iret (ty := .int) (pw_dk dc_X11_lawful 11 rfl) rfl rfl z
def f_X11_law_24   (σ : zS) : Option (Int64 × zS) := 
  some ((-9223372036854775808 : Int64), σ)
theorem b_X11_law_24 {Q : Option Value → zS → Prop}  (σ : zS) (h : wpO (f_X11_law_24 σ) (fun a => Q (some (.long a.1)) a.2)) : PZ alC mX11_law (4) Q 24 [] [] σ := by
  unfold f_X11_law_24 at h
  refine PW_ldc2 (pc' := 27) (v := (-9223372036854775808 : Int64)) (pw_dk dc_X11_law 12 rfl) rfl tw_982 ?_
  have z := wp_some h
  exact PZ_lret (pw_dk dc_X11_law 13 rfl) rfl z
def f_X11_law_72  (s1 : Int32) (s2 : Int32) (s3 : Int32) (s4 : Int32) (s5 : Int32) (σ : zS) : Option (Int64 × zS) := 
  b2 (f_X5_worth s1 s2 s3 s4 s5 (σ.1 700 0) σ) fun v_3 σ_2 =>
  some (v_3, σ_2)
theorem b_X11_law_72 {Q : Option Value → zS → Prop} (s1 : Int32) (s2 : Int32) (s3 : Int32) (s4 : Int32) (s5 : Int32) (σ : zS) (h : wpO (f_X11_law_72 s1 s2 s3 s4 s5 σ) (fun a => Q (some (.long a.1)) a.2)) : PZ alC mX11_law (4) Q 72 [(0, .ref 100)] [.int s5, .int s4, .int s3, .int s2, .int s1, .ref 1000] σ := by
  unfold f_X11_law_72 at h
  refine PW_aload_n (pc' := 73) (q := 0) (pw_dk dc_X11_law 38 rfl) rfl rfl rfl ?_
  refine PW_getR (pc' := 76) (id := 100) (ci := 11) (nn := 0) (C0 := RX11) (T := TX11) (N := 15) (j := 7) (r := 700) (pw_dk dc_X11_law 39 rfl) rfl me_100 rfl pi_11 (by decide) fk_11_7 tw_602 (rfl) (by decide) ?_
  refine PZ_getI (pc' := 79) (id := 700) (ci := 0) (nn := 0) (C0 := RX0) (T := TX0) (N := 6) (j := 0) (pw_dk dc_X11_law 40 rfl) rfl me_700 rfl pi_0 (by decide) fk_0_0 tw_456 ?_
  refine PZ_callVl (pc' := 82) (y := yX5_worth) (M' := mX5_worth) (d' := 3) (As := [.int s1, .int s2, .int s3, .int s4, .int s5, .int (σ.1 700 0)]) (st := []) (b := 1000) (ci := 5) (nn := 0) me_1000 rfl tw_935 tw_936 (pw_dk dc_X11_law 41 rfl) rfl Y_X5_worth tw_983 rfl (by decide) (Nat.le_of_ble_eq_true rfl) (t_X5_worth s1 s2 s3 s4 s5 (σ.1 700 0) σ _ ?_)
  obtain ⟨⟨v_3, σ_2⟩, e_4, h⟩ := wp_bind2 h
  refine ⟨(v_3, σ_2), e_4, _, rfl, fun hn_1 => ?_⟩
  show PZ alC mX11_law (4) Q 82 [(0, .ref 100)] [.long v_3] σ_2
  have z := wp_some h
  exact PZ_lret (pw_dk dc_X11_law 42 rfl) rfl z
def f_X11_law_45  (x1 : Int32) (x2 : Int32) (x3 : Int32) (x4 : Int32) (σ : zS) : Option (Int64 × zS) := 
  (rdI σ 703 5 x2).bind fun v_1 =>
  if x1 = 1 then
    f_X11_law_72 x1 x2 v_1 x3 x4 σ
  else
    f_X11_law_72 x1 x2 v_1 x3 0 σ
theorem b_X11_law_45 {Q : Option Value → zS → Prop} (x1 : Int32) (x2 : Int32) (x3 : Int32) (x4 : Int32) (σ : zS) (h : wpO (f_X11_law_45 x1 x2 x3 x4 σ) (fun a => Q (some (.long a.1)) a.2)) : PZ alC mX11_law (4) Q 45 [(0, .ref 100), (1, .int x1), (2, .int x2), (3, .int x3), (4, .int x4)] [] σ := by
  unfold f_X11_law_45 at h
  refine PW_aload_n (pc' := 46) (q := 0) (pw_dk dc_X11_law 22 rfl) rfl rfl rfl ?_
  refine PW_getR (pc' := 49) (id := 100) (ci := 11) (nn := 0) (C0 := RX11) (T := TX11) (N := 15) (j := 6) (r := 1000) (pw_dk dc_X11_law 23 rfl) rfl me_100 rfl pi_11 (by decide) fk_11_6 tw_601 (rfl) (by decide) ?_
  refine PW_iload_n (pc' := 50) (q := 1) (pw_dk dc_X11_law 24 rfl) rfl rfl rfl ?_
  refine PW_iload_n (pc' := 51) (q := 2) (pw_dk dc_X11_law 25 rfl) rfl rfl rfl ?_
  refine PW_aload_n (pc' := 52) (q := 0) (pw_dk dc_X11_law 26 rfl) rfl rfl rfl ?_
  refine PW_getR (pc' := 55) (id := 100) (ci := 11) (nn := 0) (C0 := RX11) (T := TX11) (N := 15) (j := 7) (r := 700) (pw_dk dc_X11_law 27 rfl) rfl me_100 rfl pi_11 (by decide) fk_11_7 tw_602 (rfl) (by decide) ?_
  refine PW_getR (pc' := 58) (id := 700) (ci := 0) (nn := 0) (C0 := RX0) (T := TX0) (N := 6) (j := 2) (r := 703) (pw_dk dc_X11_law 28 rfl) rfl me_700 rfl pi_0 (by decide) fk_0_2 tw_464 (rfl) (by decide) ?_
  refine PW_iload_n (pc' := 59) (q := 2) (pw_dk dc_X11_law 29 rfl) rfl rfl rfl ?_
  obtain ⟨v_1, hi_2, e_3, h⟩ := wp_rdIx h
  refine PZ_ialdx (pc' := 60) (v := v_1) (id := 703) (nn := 5) (pw_dk dc_X11_law 30 rfl) rfl me_703 hi_2 e_3 ?_
  refine PW_iload_n (pc' := 61) (q := 3) (pw_dk dc_X11_law 31 rfl) rfl rfl rfl ?_
  refine PW_iload_n (pc' := 62) (q := 1) (pw_dk dc_X11_law 32 rfl) rfl rfl rfl ?_
  refine PW_iconst (pc' := 63) (v := 1) (pw_dk dc_X11_law 33 rfl) rfl (by decide) ?_
  refine PW_icmp_ne (pc' := 66) (tgt := 71) (pw_dk dc_X11_law 34 rfl) rfl (by decide) (fun c_4 => ?_) (fun c_4 => ?_)
  · rw [if_neg c_4] at h
    refine PW_iconst (pc' := 72) (v := 0) (pw_dk dc_X11_law 37 rfl) rfl (by decide) ?_
    refine PW_sub (lv' := [(0, .ref 100)]) [0] rfl ?_
    exact b_X11_law_72 x1 x2 v_1 x3 0 σ h
  · rw [if_pos c_4] at h
    refine PW_iload (pc' := 68) (q := 4) (pw_dk dc_X11_law 35 rfl) rfl rfl ?_
    refine PW_goto (tgt := 72) (pw_dk dc_X11_law 36 rfl) (by decide) ?_
    refine PW_sub (lv' := [(0, .ref 100)]) [0] rfl ?_
    exact b_X11_law_72 x1 x2 v_1 x3 x4 σ h
def f_X11_law (x1 : Int32) (x2 : Int32) (x3 : Int32) (x4 : Int32) (σ : zS) : Option (Int64 × zS) := 
  if x1 < 0 then
    f_X11_law_24 σ
  else
    if 3 ≤ x1 then
      f_X11_law_24 σ
    else
      if (f_X11_isMan x2 σ) = 0 then
        f_X11_law_24 σ
      else
        if (f_X11_isPart x3 σ) = 0 then
          f_X11_law_24 σ
        else
          if x1 = 1 then
            if (f_X11_isKind x4 σ) = 0 then
              some ((-9223372036854775808 : Int64), σ)
            else
              f_X11_law_45 x1 x2 x3 x4 σ
          else
            f_X11_law_45 x1 x2 x3 x4 σ
theorem t_X11_law (x1 : Int32) (x2 : Int32) (x3 : Int32) (x4 : Int32) (σ : zS) (Q : Option Value → zS → Prop) (h : wpO (f_X11_law x1 x2 x3 x4 σ) (fun a => Q (some (.long a.1)) a.2)) : PK alC yX11_law mX11_law (4) [.ref 100, .int x1, .int x2, .int x3, .int x4] σ Q := by
  refine PC_ofF (by decide +kernel) rfl rfl (Nat.le_of_ble_eq_true rfl) ?_
  show PZ alC mX11_law (4) Q 0 [(0, .ref 100), (1, .int x1), (2, .int x2), (3, .int x3), (4, .int x4)] [] σ
  unfold f_X11_law at h
  refine PW_iload_n (pc' := 1) (q := 1) (pw_dk dc_X11_law 0 rfl) rfl rfl rfl ?_
  refine PW_if_lt (pc' := 4) (tgt := 24) (pw_dk dc_X11_law 1 rfl) rfl (by decide) (fun c_1 => ?_) (fun c_1 => ?_)
  · rw [if_pos c_1] at h
    refine PW_sub (lv' := []) [] rfl ?_
    exact b_X11_law_24 σ h
  · rw [if_neg c_1] at h
    refine PW_iload_n (pc' := 5) (q := 1) (pw_dk dc_X11_law 2 rfl) rfl rfl rfl ?_
    refine PW_iconst (pc' := 6) (v := 3) (pw_dk dc_X11_law 3 rfl) rfl (by decide) ?_
    refine PW_icmp_ge (pc' := 9) (tgt := 24) (pw_dk dc_X11_law 4 rfl) rfl (by decide) (fun c_2 => ?_) (fun c_2 => ?_)
    · rw [if_pos c_2] at h
      refine PW_sub (lv' := []) [] rfl ?_
      exact b_X11_law_24 σ h
    · rw [if_neg c_2] at h
      refine PW_aload_n (pc' := 10) (q := 0) (pw_dk dc_X11_law 5 rfl) rfl rfl rfl ?_
      refine PW_iload_n (pc' := 11) (q := 2) (pw_dk dc_X11_law 6 rfl) rfl rfl rfl ?_
      refine PZ_callVi (pc' := 14) (y := yX11_isMan) (M' := mX11_isMan) (d' := 0) (As := [.int x2]) (st := []) (b := 100) (ci := 11) (nn := 0) me_100 rfl tw_903 tw_29 (pw_dk dc_X11_law 7 rfl) rfl Y_X11_isMan tw_901 rfl (by decide) (Nat.le_of_ble_eq_true rfl) (t_X11_isMan x2 σ _ ?_)
      refine ⟨_, rfl, fun hn_3 => ?_⟩
      show PZ alC mX11_law (4) Q 14 [(0, .ref 100), (1, .int x1), (2, .int x2), (3, .int x3), (4, .int x4)] [.int (f_X11_isMan x2 σ)] σ
      refine PW_if_eq (pc' := 17) (tgt := 24) (pw_dk dc_X11_law 8 rfl) rfl (by decide) (fun c_4 => ?_) (fun c_4 => ?_)
      · rw [if_pos c_4] at h
        refine PW_sub (lv' := []) [] rfl ?_
        exact b_X11_law_24 σ h
      · rw [if_neg c_4] at h
        refine PW_iload_n (pc' := 18) (q := 3) (pw_dk dc_X11_law 9 rfl) rfl rfl rfl ?_
        refine PZ_callSi (pc' := 21) (y := yX11_isPart) (M' := mX11_isPart) (d' := 0) (As := [.int x3]) (st := []) tw_906 (pw_dk dc_X11_law 10 rfl) rfl Y_X11_isPart tw_905 rfl (by decide) (Nat.le_of_ble_eq_true rfl) (t_X11_isPart x3 σ _ ?_)
        refine ⟨_, rfl, fun hn_5 => ?_⟩
        show PZ alC mX11_law (4) Q 21 [(0, .ref 100), (1, .int x1), (2, .int x2), (3, .int x3), (4, .int x4)] [.int (f_X11_isPart x3 σ)] σ
        refine PW_if_ne (pc' := 24) (tgt := 28) (pw_dk dc_X11_law 11 rfl) rfl (by decide) (fun c_6 => ?_) (fun c_6 => ?_)
        · rw [if_neg c_6] at h
          refine PW_iload_n (pc' := 29) (q := 1) (pw_dk dc_X11_law 14 rfl) rfl rfl rfl ?_
          refine PW_iconst (pc' := 30) (v := 1) (pw_dk dc_X11_law 15 rfl) rfl (by decide) ?_
          refine PW_icmp_ne (pc' := 33) (tgt := 45) (pw_dk dc_X11_law 16 rfl) rfl (by decide) (fun c_7 => ?_) (fun c_7 => ?_)
          · rw [if_neg c_7] at h
            exact b_X11_law_45 x1 x2 x3 x4 σ h
          · rw [if_pos c_7] at h
            refine PW_iload (pc' := 35) (q := 4) (pw_dk dc_X11_law 17 rfl) rfl rfl ?_
            refine PZ_callSi (pc' := 38) (y := yX11_isKind) (M' := mX11_isKind) (d' := 0) (As := [.int x4]) (st := []) tw_966 (pw_dk dc_X11_law 18 rfl) rfl Y_X11_isKind tw_965 rfl (by decide) (Nat.le_of_ble_eq_true rfl) (t_X11_isKind x4 σ _ ?_)
            refine ⟨_, rfl, fun hn_8 => ?_⟩
            show PZ alC mX11_law (4) Q 38 [(0, .ref 100), (1, .int x1), (2, .int x2), (3, .int x3), (4, .int x4)] [.int (f_X11_isKind x4 σ)] σ
            refine PW_if_ne (pc' := 41) (tgt := 45) (pw_dk dc_X11_law 19 rfl) rfl (by decide) (fun c_9 => ?_) (fun c_9 => ?_)
            · rw [if_neg c_9] at h
              exact b_X11_law_45 x1 x2 x3 x4 σ h
            · rw [if_pos c_9] at h
              refine PW_ldc2 (pc' := 44) (v := (-9223372036854775808 : Int64)) (pw_dk dc_X11_law 20 rfl) rfl tw_982 ?_
              have z := wp_some h
              exact PZ_lret (pw_dk dc_X11_law 21 rfl) rfl z
        · rw [if_pos c_6] at h
          refine PW_sub (lv' := []) [] rfl ?_
          exact b_X11_law_24 σ h
def f_X11_deed (x1 : Int32) (x2 : Int32) (σ : zS) : Option Int32 := 
  if x1 < 0 then
    some (-1 : Int32)
  else
    if x1 < (σ.1 (tv (σ.2.2 0)) 11) then
      if x2 = 0 then
        (rdI σ (tv (σ.2.2 0) + 13) 12 x1).bind fun v_4 =>
        some v_4
      else if x2 = 1 then
        (rdI σ (tv (σ.2.2 0) + 14) 12 x1).bind fun v_8 =>
        some v_8
      else if x2 = 2 then
        (rdI σ (tv (σ.2.2 0) + 15) 12 x1).bind fun v_12 =>
        some v_12
      else if x2 = 3 then
        (rdI σ (tv (σ.2.2 0) + 16) 12 x1).bind fun v_16 =>
        some v_16
      else if x2 = 4 then
        (rdI σ 706 12 x1).bind fun v_20 =>
        some v_20
      else
        some (-1 : Int32)
    else
      some (-1 : Int32)
theorem t_X11_deed (x1 : Int32) (x2 : Int32) (σ : zS) (Q : Option Value → zS → Prop) (h : wpO (f_X11_deed x1 x2 σ) (fun a => Q (some (.int a)) σ)) : PK alC yX11_deed mX11_deed (0) [.ref 100, .int x1, .int x2] σ Q := by
  refine PC_ofF (by decide +kernel) rfl rfl (Nat.le_of_ble_eq_true rfl) ?_
  show PZ alC mX11_deed (0) Q 0 [(0, .ref 100), (1, .int x1), (2, .int x2)] [] σ
  unfold f_X11_deed at h
  refine PW_iload_n (pc' := 1) (q := 1) (pw_dk dc_X11_deed 0 rfl) rfl rfl rfl ?_
  refine PW_if_lt (pc' := 4) (tgt := 15) (pw_dk dc_X11_deed 1 rfl) rfl (by decide) (fun c_1 => ?_) (fun c_1 => ?_)
  · rw [if_pos c_1] at h
    refine PW_iconst (pc' := 16) (v := (-1 : Int32)) (pw_dk dc_X11_deed 7 rfl) rfl (by decide) ?_
    have z := wp_some h
    exact PZ_iret (ty := .int) (pw_dk dc_X11_deed 8 rfl) rfl rfl z
  · rw [if_neg c_1] at h
    refine PW_iload_n (pc' := 5) (q := 1) (pw_dk dc_X11_deed 2 rfl) rfl rfl rfl ?_
    refine PW_aload_n (pc' := 6) (q := 0) (pw_dk dc_X11_deed 3 rfl) rfl rfl rfl ?_
    refine PW_getR (pc' := 9) (id := 100) (ci := 11) (nn := 0) (C0 := RX11) (T := TX11) (N := 15) (j := 4) (r := tv (σ.2.2 0)) (pw_dk dc_X11_deed 4 rfl) rfl me_100 rfl pi_11 (by decide) fk_11_4 tw_599 (rf_M0 _) (tv0 _) ?_
    refine PZ_getI (pc' := 12) (id := (tv (σ.2.2 0))) (ci := 8) (nn := 0) (C0 := RX8) (T := TX8) (N := 18) (j := 11) (pw_dk dc_X11_deed 5 rfl) rfl (me_T _) rfl pi_8 (by decide) fk_8_11 tw_230 ?_
    refine PW_icmp_lt (pc' := 15) (tgt := 17) (pw_dk dc_X11_deed 6 rfl) rfl (by decide) (fun c_2 => ?_) (fun c_2 => ?_)
    · rw [if_pos c_2] at h
      refine PW_iload_n (pc' := 18) (q := 2) (pw_dk dc_X11_deed 9 rfl) rfl rfl rfl ?_
      by_cases c_3 : x2 = 0
      · rw [if_pos c_3] at h
        refine PW_tin (tgt := 52) (pw_dk dc_X11_deed 10 rfl) (by rw [c_3]; decide) (by rw [c_3]; decide) (by rw [c_3] <;> rfl) (by decide) ?_
        refine PW_aload_n (pc' := 53) (q := 0) (pw_dk dc_X11_deed 11 rfl) rfl rfl rfl ?_
        refine PW_getR (pc' := 56) (id := 100) (ci := 11) (nn := 0) (C0 := RX11) (T := TX11) (N := 15) (j := 4) (r := tv (σ.2.2 0)) (pw_dk dc_X11_deed 12 rfl) rfl me_100 rfl pi_11 (by decide) fk_11_4 tw_599 (rf_M0 _) (tv0 _) ?_
        refine PW_getR (pc' := 59) (id := (tv (σ.2.2 0))) (ci := 8) (nn := 0) (C0 := RX8) (T := TX8) (N := 18) (j := 12) (r := tv (σ.2.2 0) + 13) (pw_dk dc_X11_deed 13 rfl) rfl (me_T _) rfl pi_8 (by decide) fk_8_12 tw_233 (rf_T12 _ _) (su0 _ _) ?_
        refine PW_iload_n (pc' := 60) (q := 1) (pw_dk dc_X11_deed 14 rfl) rfl rfl rfl ?_
        obtain ⟨v_4, hi_5, e_6, h⟩ := wp_rdIx h
        refine PZ_ialdx (pc' := 61) (v := v_4) (id := (tv (σ.2.2 0) + 13)) (nn := 12) (pw_dk dc_X11_deed 15 rfl) rfl (me_T12 _) hi_5 e_6 ?_
        have z := wp_some h
        exact PZ_iret (ty := .int) (pw_dk dc_X11_deed 16 rfl) rfl rfl z
      · rw [if_neg c_3] at h
        by_cases c_7 : x2 = 1
        · rw [if_pos c_7] at h
          refine PW_tin (tgt := 62) (pw_dk dc_X11_deed 10 rfl) (by rw [c_7]; decide) (by rw [c_7]; decide) (by rw [c_7] <;> rfl) (by decide) ?_
          refine PW_aload_n (pc' := 63) (q := 0) (pw_dk dc_X11_deed 17 rfl) rfl rfl rfl ?_
          refine PW_getR (pc' := 66) (id := 100) (ci := 11) (nn := 0) (C0 := RX11) (T := TX11) (N := 15) (j := 4) (r := tv (σ.2.2 0)) (pw_dk dc_X11_deed 18 rfl) rfl me_100 rfl pi_11 (by decide) fk_11_4 tw_599 (rf_M0 _) (tv0 _) ?_
          refine PW_getR (pc' := 69) (id := (tv (σ.2.2 0))) (ci := 8) (nn := 0) (C0 := RX8) (T := TX8) (N := 18) (j := 13) (r := tv (σ.2.2 0) + 14) (pw_dk dc_X11_deed 19 rfl) rfl (me_T _) rfl pi_8 (by decide) fk_8_13 tw_236 (rf_T13 _ _) (su0 _ _) ?_
          refine PW_iload_n (pc' := 70) (q := 1) (pw_dk dc_X11_deed 20 rfl) rfl rfl rfl ?_
          obtain ⟨v_8, hi_9, e_10, h⟩ := wp_rdIx h
          refine PZ_ialdx (pc' := 71) (v := v_8) (id := (tv (σ.2.2 0) + 14)) (nn := 12) (pw_dk dc_X11_deed 21 rfl) rfl (me_T13 _) hi_9 e_10 ?_
          have z := wp_some h
          exact PZ_iret (ty := .int) (pw_dk dc_X11_deed 22 rfl) rfl rfl z
        · rw [if_neg c_7] at h
          by_cases c_11 : x2 = 2
          · rw [if_pos c_11] at h
            refine PW_tin (tgt := 72) (pw_dk dc_X11_deed 10 rfl) (by rw [c_11]; decide) (by rw [c_11]; decide) (by rw [c_11] <;> rfl) (by decide) ?_
            refine PW_aload_n (pc' := 73) (q := 0) (pw_dk dc_X11_deed 23 rfl) rfl rfl rfl ?_
            refine PW_getR (pc' := 76) (id := 100) (ci := 11) (nn := 0) (C0 := RX11) (T := TX11) (N := 15) (j := 4) (r := tv (σ.2.2 0)) (pw_dk dc_X11_deed 24 rfl) rfl me_100 rfl pi_11 (by decide) fk_11_4 tw_599 (rf_M0 _) (tv0 _) ?_
            refine PW_getR (pc' := 79) (id := (tv (σ.2.2 0))) (ci := 8) (nn := 0) (C0 := RX8) (T := TX8) (N := 18) (j := 14) (r := tv (σ.2.2 0) + 15) (pw_dk dc_X11_deed 25 rfl) rfl (me_T _) rfl pi_8 (by decide) fk_8_14 tw_239 (rf_T14 _ _) (su0 _ _) ?_
            refine PW_iload_n (pc' := 80) (q := 1) (pw_dk dc_X11_deed 26 rfl) rfl rfl rfl ?_
            obtain ⟨v_12, hi_13, e_14, h⟩ := wp_rdIx h
            refine PZ_ialdx (pc' := 81) (v := v_12) (id := (tv (σ.2.2 0) + 15)) (nn := 12) (pw_dk dc_X11_deed 27 rfl) rfl (me_T14 _) hi_13 e_14 ?_
            have z := wp_some h
            exact PZ_iret (ty := .int) (pw_dk dc_X11_deed 28 rfl) rfl rfl z
          · rw [if_neg c_11] at h
            by_cases c_15 : x2 = 3
            · rw [if_pos c_15] at h
              refine PW_tin (tgt := 82) (pw_dk dc_X11_deed 10 rfl) (by rw [c_15]; decide) (by rw [c_15]; decide) (by rw [c_15] <;> rfl) (by decide) ?_
              refine PW_aload_n (pc' := 83) (q := 0) (pw_dk dc_X11_deed 29 rfl) rfl rfl rfl ?_
              refine PW_getR (pc' := 86) (id := 100) (ci := 11) (nn := 0) (C0 := RX11) (T := TX11) (N := 15) (j := 4) (r := tv (σ.2.2 0)) (pw_dk dc_X11_deed 30 rfl) rfl me_100 rfl pi_11 (by decide) fk_11_4 tw_599 (rf_M0 _) (tv0 _) ?_
              refine PW_getR (pc' := 89) (id := (tv (σ.2.2 0))) (ci := 8) (nn := 0) (C0 := RX8) (T := TX8) (N := 18) (j := 15) (r := tv (σ.2.2 0) + 16) (pw_dk dc_X11_deed 31 rfl) rfl (me_T _) rfl pi_8 (by decide) fk_8_15 tw_242 (rf_T15 _ _) (su0 _ _) ?_
              refine PW_iload_n (pc' := 90) (q := 1) (pw_dk dc_X11_deed 32 rfl) rfl rfl rfl ?_
              obtain ⟨v_16, hi_17, e_18, h⟩ := wp_rdIx h
              refine PZ_ialdx (pc' := 91) (v := v_16) (id := (tv (σ.2.2 0) + 16)) (nn := 12) (pw_dk dc_X11_deed 33 rfl) rfl (me_T15 _) hi_17 e_18 ?_
              have z := wp_some h
              exact PZ_iret (ty := .int) (pw_dk dc_X11_deed 34 rfl) rfl rfl z
            · rw [if_neg c_15] at h
              by_cases c_19 : x2 = 4
              · rw [if_pos c_19] at h
                refine PW_tin (tgt := 92) (pw_dk dc_X11_deed 10 rfl) (by rw [c_19]; decide) (by rw [c_19]; decide) (by rw [c_19] <;> rfl) (by decide) ?_
                refine PW_aload_n (pc' := 93) (q := 0) (pw_dk dc_X11_deed 35 rfl) rfl rfl rfl ?_
                refine PW_getR (pc' := 96) (id := 100) (ci := 11) (nn := 0) (C0 := RX11) (T := TX11) (N := 15) (j := 7) (r := 700) (pw_dk dc_X11_deed 36 rfl) rfl me_100 rfl pi_11 (by decide) fk_11_7 tw_602 (rfl) (by decide) ?_
                refine PW_getR (pc' := 99) (id := 700) (ci := 0) (nn := 0) (C0 := RX0) (T := TX0) (N := 6) (j := 5) (r := 706) (pw_dk dc_X11_deed 37 rfl) rfl me_700 rfl pi_0 (by decide) fk_0_5 tw_474 (rfl) (by decide) ?_
                refine PW_iload_n (pc' := 100) (q := 1) (pw_dk dc_X11_deed 38 rfl) rfl rfl rfl ?_
                obtain ⟨v_20, hi_21, e_22, h⟩ := wp_rdIx h
                refine PZ_ialdx (pc' := 101) (v := v_20) (id := 706) (nn := 12) (pw_dk dc_X11_deed 39 rfl) rfl me_706 hi_21 e_22 ?_
                have z := wp_some h
                exact PZ_iret (ty := .int) (pw_dk dc_X11_deed 40 rfl) rfl rfl z
              · rw [if_neg c_19] at h
                have kc_3 := pw_ne c_3 (show (0 : Int32).toInt = 0 by decide)
                have kc_7 := pw_ne c_7 (show (1 : Int32).toInt = 1 by decide)
                have kc_11 := pw_ne c_11 (show (2 : Int32).toInt = 2 by decide)
                have kc_15 := pw_ne c_15 (show (3 : Int32).toInt = 3 by decide)
                have kc_19 := pw_ne c_19 (show (4 : Int32).toInt = 4 by decide)
                refine PW_tout (tgt := 102) (pw_dk dc_X11_deed 10 rfl) (by omega) (by decide) ?_
                refine PW_iconst (pc' := 103) (v := (-1 : Int32)) (pw_dk dc_X11_deed 41 rfl) rfl (by decide) ?_
                have z := wp_some h
                exact PZ_iret (ty := .int) (pw_dk dc_X11_deed 42 rfl) rfl rfl z
    · rw [if_neg c_2] at h
      refine PW_iconst (pc' := 16) (v := (-1 : Int32)) (pw_dk dc_X11_deed 7 rfl) rfl (by decide) ?_
      have z := wp_some h
      exact PZ_iret (ty := .int) (pw_dk dc_X11_deed 8 rfl) rfl rfl z
def f_X11_clash_56 (r7 : Int32 → Int32 → Int32 → zS → Option Int32) (x1 : Int32) (x2 : Int32) (x3 : Int32) (σ : zS) : Option Int32 := 
  r7 x1 x2 (x3 + 1) σ
theorem b_X11_clash_56 {Q : Option Value → zS → Prop} (r7 : Int32 → Int32 → Int32 → zS → Option Int32) (hr7 : ∀ (x1 : Int32) (x2 : Int32) (x3 : Int32) (σ : zS), wpO (r7 x1 x2 x3 σ) (fun a => Q (some (.int a)) σ) → PZ alC mX11_clash (0) Q 7 [(0, .ref 100), (1, .int x1), (2, .int x2), (3, .int x3)] [] σ) (x1 : Int32) (x2 : Int32) (x3 : Int32) (σ : zS) (h : wpO (f_X11_clash_56 r7 x1 x2 x3 σ) (fun a => Q (some (.int a)) σ)) : PZ alC mX11_clash (0) Q 56 [(0, .ref 100), (1, .int x1), (2, .int x2), (3, .int x3)] [] σ := by
  unfold f_X11_clash_56 at h
  refine PW_iinc (pc' := 59) (q := 3) (v := x3 + 1) (lv' := [(3, .int (x3 + 1)), (0, .ref 100), (1, .int x1), (2, .int x2)]) (pw_dk dc_X11_clash 33 rfl) rfl rfl rfl (by decide) rfl ?_
  refine PW_goto (tgt := 7) (pw_dk dc_X11_clash 34 rfl) (by decide) ?_
  refine PW_sub (lv' := [(0, .ref 100), (1, .int x1), (2, .int x2), (3, .int (x3 + 1))]) [1, 2, 3, 0] rfl ?_
  exact hr7 x1 x2 (x3 + 1) σ h
def f_X11_clash_7  : Nat → Int32 → Int32 → Int32 → zS → Option Int32
  | 0, _, _, _, _ => none
  | n + 1, x1, x2, x3, σ => 
    if (σ.1 (tv (σ.2.2 0)) 11) ≤ x3 then
      some x1
    else
      (rdI σ 706 12 x3).bind fun v_2 =>
      if v_2 = 2 then
        (rdI σ (tv (σ.2.2 0) + 16) 12 x3).bind fun v_6 =>
        if x2 ≤ v_6 then
          f_X11_clash_56 (f_X11_clash_7 n) x1 x2 x3 σ
        else
          (rdI σ (tv (σ.2.2 0) + 16) 12 x3).bind fun v_10 =>
          f_X11_clash_56 (f_X11_clash_7 n) x3 v_10 x3 σ
      else
        f_X11_clash_56 (f_X11_clash_7 n) x1 x2 x3 σ
theorem b_X11_clash_7 {Q : Option Value → zS → Prop} : ∀ (n : Nat) (x1 : Int32) (x2 : Int32) (x3 : Int32) (σ : zS) (h : wpO (f_X11_clash_7 n x1 x2 x3 σ) (fun a => Q (some (.int a)) σ)), PZ alC mX11_clash (0) Q 7 [(0, .ref 100), (1, .int x1), (2, .int x2), (3, .int x3)] [] σ := by
  intro n
  induction n with
  | zero => intro x1 x2 x3 σ h; exact wp_none h
  | succ n ih =>
    intro x1 x2 x3 σ h
    rw [f_X11_clash_7] at h
    refine PW_iload_n (pc' := 8) (q := 3) (pw_dk dc_X11_clash 6 rfl) rfl rfl rfl ?_
    refine PW_aload_n (pc' := 9) (q := 0) (pw_dk dc_X11_clash 7 rfl) rfl rfl rfl ?_
    refine PW_getR (pc' := 12) (id := 100) (ci := 11) (nn := 0) (C0 := RX11) (T := TX11) (N := 15) (j := 4) (r := tv (σ.2.2 0)) (pw_dk dc_X11_clash 8 rfl) rfl me_100 rfl pi_11 (by decide) fk_11_4 tw_599 (rf_M0 _) (tv0 _) ?_
    refine PZ_getI (pc' := 15) (id := (tv (σ.2.2 0))) (ci := 8) (nn := 0) (C0 := RX8) (T := TX8) (N := 18) (j := 11) (pw_dk dc_X11_clash 9 rfl) rfl (me_T _) rfl pi_8 (by decide) fk_8_11 tw_230 ?_
    refine PW_icmp_ge (pc' := 18) (tgt := 62) (pw_dk dc_X11_clash 10 rfl) rfl (by decide) (fun c_1 => ?_) (fun c_1 => ?_)
    · rw [if_pos c_1] at h
      refine PW_iload_n (pc' := 63) (q := 1) (pw_dk dc_X11_clash 35 rfl) rfl rfl rfl ?_
      have z := wp_some h
      exact PZ_iret (ty := .int) (pw_dk dc_X11_clash 36 rfl) rfl rfl z
    · rw [if_neg c_1] at h
      refine PW_aload_n (pc' := 19) (q := 0) (pw_dk dc_X11_clash 11 rfl) rfl rfl rfl ?_
      refine PW_getR (pc' := 22) (id := 100) (ci := 11) (nn := 0) (C0 := RX11) (T := TX11) (N := 15) (j := 7) (r := 700) (pw_dk dc_X11_clash 12 rfl) rfl me_100 rfl pi_11 (by decide) fk_11_7 tw_602 (rfl) (by decide) ?_
      refine PW_getR (pc' := 25) (id := 700) (ci := 0) (nn := 0) (C0 := RX0) (T := TX0) (N := 6) (j := 5) (r := 706) (pw_dk dc_X11_clash 13 rfl) rfl me_700 rfl pi_0 (by decide) fk_0_5 tw_474 (rfl) (by decide) ?_
      refine PW_iload_n (pc' := 26) (q := 3) (pw_dk dc_X11_clash 14 rfl) rfl rfl rfl ?_
      obtain ⟨v_2, hi_3, e_4, h⟩ := wp_rdIx h
      refine PZ_ialdx (pc' := 27) (v := v_2) (id := 706) (nn := 12) (pw_dk dc_X11_clash 15 rfl) rfl me_706 hi_3 e_4 ?_
      refine PW_iconst (pc' := 28) (v := 2) (pw_dk dc_X11_clash 16 rfl) rfl (by decide) ?_
      refine PW_icmp_ne (pc' := 31) (tgt := 56) (pw_dk dc_X11_clash 17 rfl) rfl (by decide) (fun c_5 => ?_) (fun c_5 => ?_)
      · rw [if_neg c_5] at h
        exact b_X11_clash_56 (f_X11_clash_7 n) ih x1 x2 x3 σ h
      · rw [if_pos c_5] at h
        refine PW_aload_n (pc' := 32) (q := 0) (pw_dk dc_X11_clash 18 rfl) rfl rfl rfl ?_
        refine PW_getR (pc' := 35) (id := 100) (ci := 11) (nn := 0) (C0 := RX11) (T := TX11) (N := 15) (j := 4) (r := tv (σ.2.2 0)) (pw_dk dc_X11_clash 19 rfl) rfl me_100 rfl pi_11 (by decide) fk_11_4 tw_599 (rf_M0 _) (tv0 _) ?_
        refine PW_getR (pc' := 38) (id := (tv (σ.2.2 0))) (ci := 8) (nn := 0) (C0 := RX8) (T := TX8) (N := 18) (j := 15) (r := tv (σ.2.2 0) + 16) (pw_dk dc_X11_clash 20 rfl) rfl (me_T _) rfl pi_8 (by decide) fk_8_15 tw_242 (rf_T15 _ _) (su0 _ _) ?_
        refine PW_iload_n (pc' := 39) (q := 3) (pw_dk dc_X11_clash 21 rfl) rfl rfl rfl ?_
        obtain ⟨v_6, hi_7, e_8, h⟩ := wp_rdIx h
        refine PZ_ialdx (pc' := 40) (v := v_6) (id := (tv (σ.2.2 0) + 16)) (nn := 12) (pw_dk dc_X11_clash 22 rfl) rfl (me_T15 _) hi_7 e_8 ?_
        refine PW_iload_n (pc' := 41) (q := 2) (pw_dk dc_X11_clash 23 rfl) rfl rfl rfl ?_
        refine PW_icmp_ge (pc' := 44) (tgt := 56) (pw_dk dc_X11_clash 24 rfl) rfl (by decide) (fun c_9 => ?_) (fun c_9 => ?_)
        · rw [if_pos c_9] at h
          exact b_X11_clash_56 (f_X11_clash_7 n) ih x1 x2 x3 σ h
        · rw [if_neg c_9] at h
          refine PW_iload_n (pc' := 45) (q := 3) (pw_dk dc_X11_clash 25 rfl) rfl rfl rfl ?_
          refine PW_istore_n (pc' := 46) (lv' := [(1, .int x3), (0, .ref 100), (2, .int x2), (3, .int x3)]) (pw_dk dc_X11_clash 26 rfl) rfl rfl (by decide) rfl ?_
          refine PW_aload_n (pc' := 47) (q := 1) (pw_dk dc_X11_clash 27 rfl) rfl rfl rfl ?_
          refine PW_getR (pc' := 50) (id := 100) (ci := 11) (nn := 0) (C0 := RX11) (T := TX11) (N := 15) (j := 4) (r := tv (σ.2.2 0)) (pw_dk dc_X11_clash 28 rfl) rfl me_100 rfl pi_11 (by decide) fk_11_4 tw_599 (rf_M0 _) (tv0 _) ?_
          refine PW_getR (pc' := 53) (id := (tv (σ.2.2 0))) (ci := 8) (nn := 0) (C0 := RX8) (T := TX8) (N := 18) (j := 15) (r := tv (σ.2.2 0) + 16) (pw_dk dc_X11_clash 29 rfl) rfl (me_T _) rfl pi_8 (by decide) fk_8_15 tw_242 (rf_T15 _ _) (su0 _ _) ?_
          refine PW_iload_n (pc' := 54) (q := 3) (pw_dk dc_X11_clash 30 rfl) rfl rfl rfl ?_
          obtain ⟨v_10, hi_11, e_12, h⟩ := wp_rdIx h
          refine PZ_ialdx (pc' := 55) (v := v_10) (id := (tv (σ.2.2 0) + 16)) (nn := 12) (pw_dk dc_X11_clash 31 rfl) rfl (me_T15 _) hi_11 e_12 ?_
          refine PW_istore_n (pc' := 56) (lv' := [(2, .int v_10), (1, .int x3), (0, .ref 100), (3, .int x3)]) (pw_dk dc_X11_clash 32 rfl) rfl rfl (by decide) rfl ?_
          refine PW_sub (lv' := [(0, .ref 100), (1, .int x3), (2, .int v_10), (3, .int x3)]) [2, 1, 0, 3] rfl ?_
          exact b_X11_clash_56 (f_X11_clash_7 n) ih x3 v_10 x3 σ h
def f_X11_clash  (σ : zS) : Option Int32 := 
  f_X11_clash_7 FU (-1 : Int32) 24 0 σ
theorem t_X11_clash (σ : zS) (Q : Option Value → zS → Prop) (h : wpO (f_X11_clash σ) (fun a => Q (some (.int a)) σ)) : PK alC yX11_clash mX11_clash (0) [.ref 100] σ Q := by
  refine PC_ofF (by decide +kernel) rfl rfl (Nat.le_of_ble_eq_true rfl) ?_
  show PZ alC mX11_clash (0) Q 0 [(0, .ref 100)] [] σ
  unfold f_X11_clash at h
  refine PW_iconst (pc' := 1) (v := (-1 : Int32)) (pw_dk dc_X11_clash 0 rfl) rfl (by decide) ?_
  refine PW_istore_n (pc' := 2) (lv' := [(1, .int (-1 : Int32)), (0, .ref 100)]) (pw_dk dc_X11_clash 1 rfl) rfl rfl (by decide) rfl ?_
  refine PW_bipush (pc' := 4) (v := 24) (pw_dk dc_X11_clash 2 rfl) rfl (by decide) ?_
  refine PW_istore_n (pc' := 5) (lv' := [(2, .int 24), (1, .int (-1 : Int32)), (0, .ref 100)]) (pw_dk dc_X11_clash 3 rfl) rfl rfl (by decide) rfl ?_
  refine PW_iconst (pc' := 6) (v := 0) (pw_dk dc_X11_clash 4 rfl) rfl (by decide) ?_
  refine PW_istore_n (pc' := 7) (lv' := [(3, .int 0), (2, .int 24), (1, .int (-1 : Int32)), (0, .ref 100)]) (pw_dk dc_X11_clash 5 rfl) rfl rfl (by decide) rfl ?_
  refine PW_sub (lv' := [(0, .ref 100), (1, .int (-1 : Int32)), (2, .int 24), (3, .int 0)]) [3, 2, 1, 0] rfl ?_
  exact b_X11_clash_7 FU (-1 : Int32) 24 0 σ h
def f_X11_move (x1 : Int32) (x2 : Int32) (σ : zS) : Option (Int32 × zS) := 
  if (f_X11_isMan x1 σ) = 0 then
    some (0, σ)
  else
    (rdI σ 703 5 x1).bind fun v_3 =>
    lt (α := Int32) (f_X5_movedBy v_3 x2 (σ.1 (tv (σ.2.2 0)) 0) σ) fun x3_7 =>
    if x3_7 = (-1 : Int32) then
      some (0, σ)
    else
      (f_X9_remember 700 x1 σ).bind fun σ_10 =>
      (wrI σ_10 703 5 x1 x3_7).bind fun σ_12 =>
      lt (wI σ_12 700 1 ((σ_12.1 700 1) + (1 : Int32))) fun σ_15 =>
      some (1, σ_15)
theorem t_X11_move (x1 : Int32) (x2 : Int32) (σ : zS) (Q : Option Value → zS → Prop) (h : wpO (f_X11_move x1 x2 σ) (fun a => Q (some (.int a.1)) a.2)) : PK alC yX11_move mX11_move (3) [.ref 100, .int x1, .int x2] σ Q := by
  refine PC_ofF (by decide +kernel) rfl rfl (Nat.le_of_ble_eq_true rfl) ?_
  show PZ alC mX11_move (3) Q 0 [(0, .ref 100), (1, .int x1), (2, .int x2)] [] σ
  unfold f_X11_move at h
  refine PW_aload_n (pc' := 1) (q := 0) (pw_dk dc_X11_move 0 rfl) rfl rfl rfl ?_
  refine PW_iload_n (pc' := 2) (q := 1) (pw_dk dc_X11_move 1 rfl) rfl rfl rfl ?_
  refine PZ_callVi (pc' := 5) (y := yX11_isMan) (M' := mX11_isMan) (d' := 0) (As := [.int x1]) (st := []) (b := 100) (ci := 11) (nn := 0) me_100 rfl tw_903 tw_29 (pw_dk dc_X11_move 2 rfl) rfl Y_X11_isMan tw_901 rfl (by decide) (Nat.le_of_ble_eq_true rfl) (t_X11_isMan x1 σ _ ?_)
  refine ⟨_, rfl, fun hn_1 => ?_⟩
  show PZ alC mX11_move (3) Q 5 [(0, .ref 100), (1, .int x1), (2, .int x2)] [.int (f_X11_isMan x1 σ)] σ
  refine PW_if_ne (pc' := 8) (tgt := 10) (pw_dk dc_X11_move 3 rfl) rfl (by decide) (fun c_2 => ?_) (fun c_2 => ?_)
  · rw [if_neg c_2] at h
    refine PW_aload_n (pc' := 11) (q := 0) (pw_dk dc_X11_move 6 rfl) rfl rfl rfl ?_
    refine PW_getR (pc' := 14) (id := 100) (ci := 11) (nn := 0) (C0 := RX11) (T := TX11) (N := 15) (j := 7) (r := 700) (pw_dk dc_X11_move 7 rfl) rfl me_100 rfl pi_11 (by decide) fk_11_7 tw_602 (rfl) (by decide) ?_
    refine PW_getR (pc' := 17) (id := 700) (ci := 0) (nn := 0) (C0 := RX0) (T := TX0) (N := 6) (j := 2) (r := 703) (pw_dk dc_X11_move 8 rfl) rfl me_700 rfl pi_0 (by decide) fk_0_2 tw_464 (rfl) (by decide) ?_
    refine PW_iload_n (pc' := 18) (q := 1) (pw_dk dc_X11_move 9 rfl) rfl rfl rfl ?_
    obtain ⟨v_3, hi_4, e_5, h⟩ := wp_rdIx h
    refine PZ_ialdx (pc' := 19) (v := v_3) (id := 703) (nn := 5) (pw_dk dc_X11_move 10 rfl) rfl me_703 hi_4 e_5 ?_
    refine PW_iload_n (pc' := 20) (q := 2) (pw_dk dc_X11_move 11 rfl) rfl rfl rfl ?_
    refine PW_aload_n (pc' := 21) (q := 0) (pw_dk dc_X11_move 12 rfl) rfl rfl rfl ?_
    refine PW_getR (pc' := 24) (id := 100) (ci := 11) (nn := 0) (C0 := RX11) (T := TX11) (N := 15) (j := 4) (r := tv (σ.2.2 0)) (pw_dk dc_X11_move 13 rfl) rfl me_100 rfl pi_11 (by decide) fk_11_4 tw_599 (rf_M0 _) (tv0 _) ?_
    refine PZ_getI (pc' := 27) (id := (tv (σ.2.2 0))) (ci := 8) (nn := 0) (C0 := RX8) (T := TX8) (N := 18) (j := 0) (pw_dk dc_X11_move 14 rfl) rfl (me_T _) rfl pi_8 (by decide) fk_8_0 tw_202 ?_
    refine PZ_callSi (pc' := 30) (y := yX5_movedBy) (M' := mX5_movedBy) (d' := 1) (As := [.int v_3, .int x2, .int (σ.1 (tv (σ.2.2 0)) 0)]) (st := []) tw_997 (pw_dk dc_X11_move 15 rfl) rfl Y_X5_movedBy tw_996 rfl (by decide) (Nat.le_of_ble_eq_true rfl) (t_X5_movedBy v_3 x2 (σ.1 (tv (σ.2.2 0)) 0) σ _ ?_)
    refine ⟨_, rfl, fun hn_6 => ?_⟩
    show PZ alC mX11_move (3) Q 30 [(0, .ref 100), (1, .int x1), (2, .int x2)] [.int (f_X5_movedBy v_3 x2 (σ.1 (tv (σ.2.2 0)) 0) σ)] σ
    refine PW_topi (fun x3_7 ex3_7 => ?_)
    replace h := lt_w h ex3_7
    refine PW_istore_n (pc' := 31) (lv' := [(3, .int x3_7), (0, .ref 100), (1, .int x1), (2, .int x2)]) (pw_dk dc_X11_move 16 rfl) rfl rfl (by decide) rfl ?_
    refine PW_iload_n (pc' := 32) (q := 0) (pw_dk dc_X11_move 17 rfl) rfl rfl rfl ?_
    refine PW_iconst (pc' := 33) (v := (-1 : Int32)) (pw_dk dc_X11_move 18 rfl) rfl (by decide) ?_
    refine PW_icmp_ne (pc' := 36) (tgt := 38) (pw_dk dc_X11_move 19 rfl) rfl (by decide) (fun c_8 => ?_) (fun c_8 => ?_)
    · rw [if_neg c_8] at h
      refine PW_aload_n (pc' := 39) (q := 1) (pw_dk dc_X11_move 22 rfl) rfl rfl rfl ?_
      refine PW_getR (pc' := 42) (id := 100) (ci := 11) (nn := 0) (C0 := RX11) (T := TX11) (N := 15) (j := 11) (r := 1100) (pw_dk dc_X11_move 23 rfl) rfl me_100 rfl pi_11 (by decide) fk_11_11 tw_606 (rfl) (by decide) ?_
      refine PW_aload_n (pc' := 43) (q := 1) (pw_dk dc_X11_move 24 rfl) rfl rfl rfl ?_
      refine PW_getR (pc' := 46) (id := 100) (ci := 11) (nn := 0) (C0 := RX11) (T := TX11) (N := 15) (j := 7) (r := 700) (pw_dk dc_X11_move 25 rfl) rfl me_100 rfl pi_11 (by decide) fk_11_7 tw_602 (rfl) (by decide) ?_
      refine PW_iload_n (pc' := 47) (q := 2) (pw_dk dc_X11_move 26 rfl) rfl rfl rfl ?_
      refine PZ_callVv (pc' := 50) (y := yX9_remember) (M' := mX9_remember) (d' := 2) (As := [.ref 700, .int x1]) (st := []) (b := 1100) (ci := 9) (nn := 0) me_1100 rfl tw_1003 tw_1004 (pw_dk dc_X11_move 27 rfl) rfl Y_X9_remember tw_1002 rfl (by decide) (Nat.le_of_ble_eq_true rfl) (t_X9_remember 700 x1 (Or.inl rfl) σ _ ?_)
      obtain ⟨σ_10, e_11, h⟩ := wp_bind h
      refine ⟨σ_10, e_11, rfl, fun hn_9 => ?_⟩
      show PZ alC mX11_move (3) Q 50 [(3, .int x3_7), (0, .ref 100), (1, .int x1), (2, .int x2)] [] σ_10
      refine PW_aload_n (pc' := 51) (q := 1) (pw_dk dc_X11_move 28 rfl) rfl rfl rfl ?_
      refine PW_getR (pc' := 54) (id := 100) (ci := 11) (nn := 0) (C0 := RX11) (T := TX11) (N := 15) (j := 7) (r := 700) (pw_dk dc_X11_move 29 rfl) rfl me_100 rfl pi_11 (by decide) fk_11_7 tw_602 (rfl) (by decide) ?_
      refine PW_getR (pc' := 57) (id := 700) (ci := 0) (nn := 0) (C0 := RX0) (T := TX0) (N := 6) (j := 2) (r := 703) (pw_dk dc_X11_move 30 rfl) rfl me_700 rfl pi_0 (by decide) fk_0_2 tw_464 (rfl) (by decide) ?_
      refine PW_iload_n (pc' := 58) (q := 2) (pw_dk dc_X11_move 31 rfl) rfl rfl rfl ?_
      refine PW_iload_n (pc' := 59) (q := 0) (pw_dk dc_X11_move 32 rfl) rfl rfl rfl ?_
      obtain ⟨σ_12, hi_13, e_14, h⟩ := wp_wrIx h
      refine PZ_iastx (pc' := 60) (σ' := σ_12) (id := 703) (nn := 5) (pw_dk dc_X11_move 33 rfl) rfl me_703 hi_13 e_14 ?_
      refine PW_aload_n (pc' := 61) (q := 1) (pw_dk dc_X11_move 34 rfl) rfl rfl rfl ?_
      refine PW_getR (pc' := 64) (id := 100) (ci := 11) (nn := 0) (C0 := RX11) (T := TX11) (N := 15) (j := 7) (r := 700) (pw_dk dc_X11_move 35 rfl) rfl me_100 rfl pi_11 (by decide) fk_11_7 tw_602 (rfl) (by decide) ?_
      refine PW_dup (pc' := 65) (pw_dk dc_X11_move 36 rfl) rfl rfl ?_
      refine PZ_getI (pc' := 68) (id := 700) (ci := 0) (nn := 0) (C0 := RX0) (T := TX0) (N := 6) (j := 1) (pw_dk dc_X11_move 37 rfl) rfl me_700 rfl pi_0 (by decide) fk_0_1 tw_460 ?_
      refine PW_iconst (pc' := 69) (v := 1) (pw_dk dc_X11_move 38 rfl) rfl (by decide) ?_
      refine PW_iadd (pc' := 70) (pw_dk dc_X11_move 39 rfl) rfl ?_
      obtain ⟨σ_15, e_16, h⟩ := lt_x h
      refine PZ_putX (pc' := 73) (σ' := σ_15) (id := 700) (ci := 0) (nn := 0) (C0 := RX0) (T := TX0) (N := 6) (j := 1) (ty := tyX0 1) (pw_dk dc_X11_move 40 rfl) rfl me_700 rfl pi_0 tyX0_ok nmX0 (by decide) fk_0_1 tw_460 rfl (tyX0_ok 1 (by decide)) (by first | rfl | decide) (by first | rfl | decide) e_16 ?_
      refine PW_iconst (pc' := 74) (v := 1) (pw_dk dc_X11_move 41 rfl) rfl (by decide) ?_
      have z := wp_some h
      exact PZ_iret (ty := .boolean) (pw_dk dc_X11_move 42 rfl) rfl (by decide) z
    · rw [if_pos c_8] at h
      refine PW_iconst (pc' := 37) (v := 0) (pw_dk dc_X11_move 20 rfl) rfl (by decide) ?_
      have z := wp_some h
      exact PZ_iret (ty := .boolean) (pw_dk dc_X11_move 21 rfl) rfl (by decide) z
  · rw [if_pos c_2] at h
    refine PW_iconst (pc' := 9) (v := 0) (pw_dk dc_X11_move 4 rfl) rfl (by decide) ?_
    have z := wp_some h
    exact PZ_iret (ty := .boolean) (pw_dk dc_X11_move 5 rfl) rfl (by decide) z
def f_X11_free (x1 : Int32) (x2 : Int32) (σ : zS) : Option (Int32 × zS) := 
  if (f_X11_isMan x1 σ) = 0 then
    some (0, σ)
  else
    if (f_X11_isPart x2 σ) = 0 then
      some (0, σ)
    else
      (f_X0_isSeized 700 x1 x2 σ).bind fun v_6 =>
      if v_6 = 0 then
        some (0, σ)
      else
        (rdI σ 704 5 x1).bind fun v_9 =>
        if (σ.1 (tv (σ.2.2 0)) 16) ≤ v_9 then
          (f_X9_remember 700 x1 σ).bind fun σ_14 =>
          (rdI σ_14 705 5 x1).bind fun v_16 =>
          (wrI σ_14 705 5 x1 (v_16 &&& (((1 : Int32) <<< (x2 &&& 31)) ^^^ (-1 : Int32)))).bind fun σ_19 =>
          (rdI σ_19 704 5 x1).bind fun v_22 =>
          (wrI σ_19 704 5 x1 (v_22 - (σ_19.1 (tv (σ_19.2.2 0)) 16))).bind fun σ_25 =>
          some (1, σ_25)
        else
          some (0, σ)
theorem t_X11_free (x1 : Int32) (x2 : Int32) (σ : zS) (Q : Option Value → zS → Prop) (h : wpO (f_X11_free x1 x2 σ) (fun a => Q (some (.int a.1)) a.2)) : PK alC yX11_free mX11_free (3) [.ref 100, .int x1, .int x2] σ Q := by
  refine PC_ofF (by decide +kernel) rfl rfl (Nat.le_of_ble_eq_true rfl) ?_
  show PZ alC mX11_free (3) Q 0 [(0, .ref 100), (1, .int x1), (2, .int x2)] [] σ
  unfold f_X11_free at h
  refine PW_aload_n (pc' := 1) (q := 0) (pw_dk dc_X11_free 0 rfl) rfl rfl rfl ?_
  refine PW_iload_n (pc' := 2) (q := 1) (pw_dk dc_X11_free 1 rfl) rfl rfl rfl ?_
  refine PZ_callVi (pc' := 5) (y := yX11_isMan) (M' := mX11_isMan) (d' := 0) (As := [.int x1]) (st := []) (b := 100) (ci := 11) (nn := 0) me_100 rfl tw_903 tw_29 (pw_dk dc_X11_free 2 rfl) rfl Y_X11_isMan tw_901 rfl (by decide) (Nat.le_of_ble_eq_true rfl) (t_X11_isMan x1 σ _ ?_)
  refine ⟨_, rfl, fun hn_1 => ?_⟩
  show PZ alC mX11_free (3) Q 5 [(0, .ref 100), (1, .int x1), (2, .int x2)] [.int (f_X11_isMan x1 σ)] σ
  refine PW_if_eq (pc' := 8) (tgt := 15) (pw_dk dc_X11_free 3 rfl) rfl (by decide) (fun c_2 => ?_) (fun c_2 => ?_)
  · rw [if_pos c_2] at h
    refine PW_iconst (pc' := 16) (v := 0) (pw_dk dc_X11_free 7 rfl) rfl (by decide) ?_
    have z := wp_some h
    exact PZ_iret (ty := .boolean) (pw_dk dc_X11_free 8 rfl) rfl (by decide) z
  · rw [if_neg c_2] at h
    refine PW_iload_n (pc' := 9) (q := 2) (pw_dk dc_X11_free 4 rfl) rfl rfl rfl ?_
    refine PZ_callSi (pc' := 12) (y := yX11_isPart) (M' := mX11_isPart) (d' := 0) (As := [.int x2]) (st := []) tw_906 (pw_dk dc_X11_free 5 rfl) rfl Y_X11_isPart tw_905 rfl (by decide) (Nat.le_of_ble_eq_true rfl) (t_X11_isPart x2 σ _ ?_)
    refine ⟨_, rfl, fun hn_3 => ?_⟩
    show PZ alC mX11_free (3) Q 12 [(0, .ref 100), (1, .int x1), (2, .int x2)] [.int (f_X11_isPart x2 σ)] σ
    refine PW_if_ne (pc' := 15) (tgt := 17) (pw_dk dc_X11_free 6 rfl) rfl (by decide) (fun c_4 => ?_) (fun c_4 => ?_)
    · rw [if_neg c_4] at h
      refine PW_aload_n (pc' := 18) (q := 0) (pw_dk dc_X11_free 9 rfl) rfl rfl rfl ?_
      refine PW_getR (pc' := 21) (id := 100) (ci := 11) (nn := 0) (C0 := RX11) (T := TX11) (N := 15) (j := 7) (r := 700) (pw_dk dc_X11_free 10 rfl) rfl me_100 rfl pi_11 (by decide) fk_11_7 tw_602 (rfl) (by decide) ?_
      refine PW_iload_n (pc' := 22) (q := 1) (pw_dk dc_X11_free 11 rfl) rfl rfl rfl ?_
      refine PW_iload_n (pc' := 23) (q := 2) (pw_dk dc_X11_free 12 rfl) rfl rfl rfl ?_
      refine PZ_callVi (pc' := 26) (y := yX0_isSeized) (M' := mX0_isSeized) (d' := 0) (As := [.int x1, .int x2]) (st := []) (b := 700) (ci := 0) (nn := 0) me_700 rfl tw_958 tw_959 (pw_dk dc_X11_free 13 rfl) rfl Y_X0_isSeized tw_957 rfl (by decide) (Nat.le_of_ble_eq_true rfl) (t_X0_isSeized 700 x1 x2 (Or.inl rfl) σ _ ?_)
      obtain ⟨v_6, e_7, h⟩ := wp_bind h
      refine ⟨v_6, e_7, _, rfl, fun hn_5 => ?_⟩
      show PZ alC mX11_free (3) Q 26 [(0, .ref 100), (1, .int x1), (2, .int x2)] [.int v_6] σ
      refine PW_if_eq (pc' := 29) (tgt := 48) (pw_dk dc_X11_free 14 rfl) rfl (by decide) (fun c_8 => ?_) (fun c_8 => ?_)
      · rw [if_pos c_8] at h
        refine PW_iconst (pc' := 49) (v := 0) (pw_dk dc_X11_free 24 rfl) rfl (by decide) ?_
        have z := wp_some h
        exact PZ_iret (ty := .boolean) (pw_dk dc_X11_free 25 rfl) rfl (by decide) z
      · rw [if_neg c_8] at h
        refine PW_aload_n (pc' := 30) (q := 0) (pw_dk dc_X11_free 15 rfl) rfl rfl rfl ?_
        refine PW_getR (pc' := 33) (id := 100) (ci := 11) (nn := 0) (C0 := RX11) (T := TX11) (N := 15) (j := 7) (r := 700) (pw_dk dc_X11_free 16 rfl) rfl me_100 rfl pi_11 (by decide) fk_11_7 tw_602 (rfl) (by decide) ?_
        refine PW_getR (pc' := 36) (id := 700) (ci := 0) (nn := 0) (C0 := RX0) (T := TX0) (N := 6) (j := 3) (r := 704) (pw_dk dc_X11_free 17 rfl) rfl me_700 rfl pi_0 (by decide) fk_0_3 tw_468 (rfl) (by decide) ?_
        refine PW_iload_n (pc' := 37) (q := 1) (pw_dk dc_X11_free 18 rfl) rfl rfl rfl ?_
        obtain ⟨v_9, hi_10, e_11, h⟩ := wp_rdIx h
        refine PZ_ialdx (pc' := 38) (v := v_9) (id := 704) (nn := 5) (pw_dk dc_X11_free 19 rfl) rfl me_704 hi_10 e_11 ?_
        refine PW_aload_n (pc' := 39) (q := 0) (pw_dk dc_X11_free 20 rfl) rfl rfl rfl ?_
        refine PW_getR (pc' := 42) (id := 100) (ci := 11) (nn := 0) (C0 := RX11) (T := TX11) (N := 15) (j := 4) (r := tv (σ.2.2 0)) (pw_dk dc_X11_free 21 rfl) rfl me_100 rfl pi_11 (by decide) fk_11_4 tw_599 (rf_M0 _) (tv0 _) ?_
        refine PZ_getI (pc' := 45) (id := (tv (σ.2.2 0))) (ci := 8) (nn := 0) (C0 := RX8) (T := TX8) (N := 18) (j := 16) (pw_dk dc_X11_free 22 rfl) rfl (me_T _) rfl pi_8 (by decide) fk_8_16 tw_246 ?_
        refine PW_icmp_ge (pc' := 48) (tgt := 50) (pw_dk dc_X11_free 23 rfl) rfl (by decide) (fun c_12 => ?_) (fun c_12 => ?_)
        · rw [if_pos c_12] at h
          refine PW_aload_n (pc' := 51) (q := 0) (pw_dk dc_X11_free 26 rfl) rfl rfl rfl ?_
          refine PW_getR (pc' := 54) (id := 100) (ci := 11) (nn := 0) (C0 := RX11) (T := TX11) (N := 15) (j := 11) (r := 1100) (pw_dk dc_X11_free 27 rfl) rfl me_100 rfl pi_11 (by decide) fk_11_11 tw_606 (rfl) (by decide) ?_
          refine PW_aload_n (pc' := 55) (q := 0) (pw_dk dc_X11_free 28 rfl) rfl rfl rfl ?_
          refine PW_getR (pc' := 58) (id := 100) (ci := 11) (nn := 0) (C0 := RX11) (T := TX11) (N := 15) (j := 7) (r := 700) (pw_dk dc_X11_free 29 rfl) rfl me_100 rfl pi_11 (by decide) fk_11_7 tw_602 (rfl) (by decide) ?_
          refine PW_iload_n (pc' := 59) (q := 1) (pw_dk dc_X11_free 30 rfl) rfl rfl rfl ?_
          refine PZ_callVv (pc' := 62) (y := yX9_remember) (M' := mX9_remember) (d' := 2) (As := [.ref 700, .int x1]) (st := []) (b := 1100) (ci := 9) (nn := 0) me_1100 rfl tw_1003 tw_1004 (pw_dk dc_X11_free 31 rfl) rfl Y_X9_remember tw_1002 rfl (by decide) (Nat.le_of_ble_eq_true rfl) (t_X9_remember 700 x1 (Or.inl rfl) σ _ ?_)
          obtain ⟨σ_14, e_15, h⟩ := wp_bind h
          refine ⟨σ_14, e_15, rfl, fun hn_13 => ?_⟩
          show PZ alC mX11_free (3) Q 62 [(0, .ref 100), (1, .int x1), (2, .int x2)] [] σ_14
          refine PW_aload_n (pc' := 63) (q := 0) (pw_dk dc_X11_free 32 rfl) rfl rfl rfl ?_
          refine PW_getR (pc' := 66) (id := 100) (ci := 11) (nn := 0) (C0 := RX11) (T := TX11) (N := 15) (j := 7) (r := 700) (pw_dk dc_X11_free 33 rfl) rfl me_100 rfl pi_11 (by decide) fk_11_7 tw_602 (rfl) (by decide) ?_
          refine PW_getR (pc' := 69) (id := 700) (ci := 0) (nn := 0) (C0 := RX0) (T := TX0) (N := 6) (j := 4) (r := 705) (pw_dk dc_X11_free 34 rfl) rfl me_700 rfl pi_0 (by decide) fk_0_4 tw_471 (rfl) (by decide) ?_
          refine PW_iload_n (pc' := 70) (q := 1) (pw_dk dc_X11_free 35 rfl) rfl rfl rfl ?_
          refine PW_dup2 (pc' := 71) (pw_dk dc_X11_free 36 rfl) rfl rfl rfl ?_
          obtain ⟨v_16, hi_17, e_18, h⟩ := wp_rdIx h
          refine PZ_ialdx (pc' := 72) (v := v_16) (id := 705) (nn := 5) (pw_dk dc_X11_free 37 rfl) rfl me_705 hi_17 e_18 ?_
          refine PW_iconst (pc' := 73) (v := 1) (pw_dk dc_X11_free 38 rfl) rfl (by decide) ?_
          refine PW_iload_n (pc' := 74) (q := 2) (pw_dk dc_X11_free 39 rfl) rfl rfl rfl ?_
          refine PW_ishl (pc' := 75) (pw_dk dc_X11_free 40 rfl) rfl ?_
          refine PW_iconst (pc' := 76) (v := (-1 : Int32)) (pw_dk dc_X11_free 41 rfl) rfl (by decide) ?_
          refine PW_ixor (pc' := 77) (pw_dk dc_X11_free 42 rfl) rfl ?_
          refine PW_iand (pc' := 78) (pw_dk dc_X11_free 43 rfl) rfl ?_
          obtain ⟨σ_19, hi_20, e_21, h⟩ := wp_wrIx h
          refine PZ_iastx (pc' := 79) (σ' := σ_19) (id := 705) (nn := 5) (pw_dk dc_X11_free 44 rfl) rfl me_705 hi_20 e_21 ?_
          refine PW_aload_n (pc' := 80) (q := 0) (pw_dk dc_X11_free 45 rfl) rfl rfl rfl ?_
          refine PW_getR (pc' := 83) (id := 100) (ci := 11) (nn := 0) (C0 := RX11) (T := TX11) (N := 15) (j := 7) (r := 700) (pw_dk dc_X11_free 46 rfl) rfl me_100 rfl pi_11 (by decide) fk_11_7 tw_602 (rfl) (by decide) ?_
          refine PW_getR (pc' := 86) (id := 700) (ci := 0) (nn := 0) (C0 := RX0) (T := TX0) (N := 6) (j := 3) (r := 704) (pw_dk dc_X11_free 47 rfl) rfl me_700 rfl pi_0 (by decide) fk_0_3 tw_468 (rfl) (by decide) ?_
          refine PW_iload_n (pc' := 87) (q := 1) (pw_dk dc_X11_free 48 rfl) rfl rfl rfl ?_
          refine PW_dup2 (pc' := 88) (pw_dk dc_X11_free 49 rfl) rfl rfl rfl ?_
          obtain ⟨v_22, hi_23, e_24, h⟩ := wp_rdIx h
          refine PZ_ialdx (pc' := 89) (v := v_22) (id := 704) (nn := 5) (pw_dk dc_X11_free 50 rfl) rfl me_704 hi_23 e_24 ?_
          refine PW_aload_n (pc' := 90) (q := 0) (pw_dk dc_X11_free 51 rfl) rfl rfl rfl ?_
          refine PW_getR (pc' := 93) (id := 100) (ci := 11) (nn := 0) (C0 := RX11) (T := TX11) (N := 15) (j := 4) (r := tv (σ_19.2.2 0)) (pw_dk dc_X11_free 52 rfl) rfl me_100 rfl pi_11 (by decide) fk_11_4 tw_599 (rf_M0 _) (tv0 _) ?_
          refine PZ_getI (pc' := 96) (id := (tv (σ_19.2.2 0))) (ci := 8) (nn := 0) (C0 := RX8) (T := TX8) (N := 18) (j := 16) (pw_dk dc_X11_free 53 rfl) rfl (me_T _) rfl pi_8 (by decide) fk_8_16 tw_246 ?_
          refine PW_isub (pc' := 97) (pw_dk dc_X11_free 54 rfl) rfl ?_
          obtain ⟨σ_25, hi_26, e_27, h⟩ := wp_wrIx h
          refine PZ_iastx (pc' := 98) (σ' := σ_25) (id := 704) (nn := 5) (pw_dk dc_X11_free 55 rfl) rfl me_704 hi_26 e_27 ?_
          refine PW_iconst (pc' := 99) (v := 1) (pw_dk dc_X11_free 56 rfl) rfl (by decide) ?_
          have z := wp_some h
          exact PZ_iret (ty := .boolean) (pw_dk dc_X11_free 57 rfl) rfl (by decide) z
        · rw [if_neg c_12] at h
          refine PW_iconst (pc' := 49) (v := 0) (pw_dk dc_X11_free 24 rfl) rfl (by decide) ?_
          have z := wp_some h
          exact PZ_iret (ty := .boolean) (pw_dk dc_X11_free 25 rfl) rfl (by decide) z
    · rw [if_pos c_4] at h
      refine PW_iconst (pc' := 16) (v := 0) (pw_dk dc_X11_free 7 rfl) rfl (by decide) ?_
      have z := wp_some h
      exact PZ_iret (ty := .boolean) (pw_dk dc_X11_free 8 rfl) rfl (by decide) z
def f_X11_go_33  : Nat → Int32 → Int32 → zS → Option (Int32 × zS)
  | 0, _, _, _ => none
  | n + 1, x1, x2, σ => 
    if x1 ≤ x2 then
      some (σ.1 700 0, σ)
    else
      (f_X5_passHour 700 σ).bind fun σ_3 =>
      f_X11_go_33 n x1 (x2 + 1) σ_3
theorem b_X11_go_33 {Q : Option Value → zS → Prop} : ∀ (n : Nat) (x1 : Int32) (x2 : Int32) (σ : zS) (h : wpO (f_X11_go_33 n x1 x2 σ) (fun a => Q (some (.int a.1)) a.2)), PZ alC mX11_go (7) Q 33 [(0, .ref 100), (1, .int x1), (2, .int x2)] [] σ := by
  intro n
  induction n with
  | zero => intro x1 x2 σ h; exact wp_none h
  | succ n ih =>
    intro x1 x2 σ h
    rw [f_X11_go_33] at h
    refine PW_iload_n (pc' := 34) (q := 2) (pw_dk dc_X11_go 18 rfl) rfl rfl rfl ?_
    refine PW_iload_n (pc' := 35) (q := 1) (pw_dk dc_X11_go 19 rfl) rfl rfl rfl ?_
    refine PW_icmp_ge (pc' := 38) (tgt := 55) (pw_dk dc_X11_go 20 rfl) rfl (by decide) (fun c_1 => ?_) (fun c_1 => ?_)
    · rw [if_pos c_1] at h
      refine PW_aload_n (pc' := 56) (q := 0) (pw_dk dc_X11_go 28 rfl) rfl rfl rfl ?_
      refine PW_getR (pc' := 59) (id := 100) (ci := 11) (nn := 0) (C0 := RX11) (T := TX11) (N := 15) (j := 7) (r := 700) (pw_dk dc_X11_go 29 rfl) rfl me_100 rfl pi_11 (by decide) fk_11_7 tw_602 (rfl) (by decide) ?_
      refine PZ_getI (pc' := 62) (id := 700) (ci := 0) (nn := 0) (C0 := RX0) (T := TX0) (N := 6) (j := 0) (pw_dk dc_X11_go 30 rfl) rfl me_700 rfl pi_0 (by decide) fk_0_0 tw_456 ?_
      have z := wp_some h
      exact PZ_iret (ty := .int) (pw_dk dc_X11_go 31 rfl) rfl rfl z
    · rw [if_neg c_1] at h
      refine PW_aload_n (pc' := 39) (q := 0) (pw_dk dc_X11_go 21 rfl) rfl rfl rfl ?_
      refine PW_getR (pc' := 42) (id := 100) (ci := 11) (nn := 0) (C0 := RX11) (T := TX11) (N := 15) (j := 6) (r := 1000) (pw_dk dc_X11_go 22 rfl) rfl me_100 rfl pi_11 (by decide) fk_11_6 tw_601 (rfl) (by decide) ?_
      refine PW_aload_n (pc' := 43) (q := 0) (pw_dk dc_X11_go 23 rfl) rfl rfl rfl ?_
      refine PW_getR (pc' := 46) (id := 100) (ci := 11) (nn := 0) (C0 := RX11) (T := TX11) (N := 15) (j := 7) (r := 700) (pw_dk dc_X11_go 24 rfl) rfl me_100 rfl pi_11 (by decide) fk_11_7 tw_602 (rfl) (by decide) ?_
      refine PZ_callVv (pc' := 49) (y := yX5_passHour) (M' := mX5_passHour) (d' := 6) (As := [.ref 700]) (st := []) (b := 1000) (ci := 5) (nn := 0) me_1000 rfl tw_1020 tw_1021 (pw_dk dc_X11_go 25 rfl) rfl Y_X5_passHour tw_1019 rfl (by decide) (Nat.le_of_ble_eq_true rfl) (t_X5_passHour 700 (Or.inl rfl) σ _ ?_)
      obtain ⟨σ_3, e_4, h⟩ := wp_bind h
      refine ⟨σ_3, e_4, rfl, fun hn_2 => ?_⟩
      show PZ alC mX11_go (7) Q 49 [(0, .ref 100), (1, .int x1), (2, .int x2)] [] σ_3
      refine PW_iinc (pc' := 52) (q := 2) (v := x2 + 1) (lv' := [(2, .int (x2 + 1)), (0, .ref 100), (1, .int x1)]) (pw_dk dc_X11_go 26 rfl) rfl rfl rfl (by decide) rfl ?_
      refine PW_goto (tgt := 33) (pw_dk dc_X11_go 27 rfl) (by decide) ?_
      refine PW_sub (lv' := [(0, .ref 100), (1, .int x1), (2, .int (x2 + 1))]) [1, 2, 0] rfl ?_
      exact ih x1 (x2 + 1) σ_3 h
def f_X11_go_31  (x1 : Int32) (σ : zS) : Option (Int32 × zS) := 
  f_X11_go_33 FU x1 0 σ
theorem b_X11_go_31 {Q : Option Value → zS → Prop} (x1 : Int32) (σ : zS) (h : wpO (f_X11_go_31 x1 σ) (fun a => Q (some (.int a.1)) a.2)) : PZ alC mX11_go (7) Q 31 [(0, .ref 100), (1, .int x1)] [] σ := by
  unfold f_X11_go_31 at h
  refine PW_iconst (pc' := 32) (v := 0) (pw_dk dc_X11_go 16 rfl) rfl (by decide) ?_
  refine PW_istore_n (pc' := 33) (lv' := [(2, .int 0), (0, .ref 100), (1, .int x1)]) (pw_dk dc_X11_go 17 rfl) rfl rfl (by decide) rfl ?_
  refine PW_sub (lv' := [(0, .ref 100), (1, .int x1), (2, .int 0)]) [1, 2, 0] rfl ?_
  exact b_X11_go_33 FU x1 0 σ h
def f_X11_go (x1 : Int32) (σ : zS) : Option (Int32 × zS) := 
  if x1 < 0 then
    some ((-1 : Int32), σ)
  else
    if x1 ≤ ((24 : Int32) - (σ.1 700 0)) then
      if x1 ≤ 0 then
        f_X11_go_31 x1 σ
      else
        (f_X9_forget σ).bind fun σ_5 =>
        f_X11_go_31 x1 σ_5
    else
      some ((-1 : Int32), σ)
theorem t_X11_go (x1 : Int32) (σ : zS) (Q : Option Value → zS → Prop) (h : wpO (f_X11_go x1 σ) (fun a => Q (some (.int a.1)) a.2)) : PK alC yX11_go mX11_go (7) [.ref 100, .int x1] σ Q := by
  refine PC_ofF (by decide +kernel) rfl rfl (Nat.le_of_ble_eq_true rfl) ?_
  show PZ alC mX11_go (7) Q 0 [(0, .ref 100), (1, .int x1)] [] σ
  unfold f_X11_go at h
  refine PW_iload_n (pc' := 1) (q := 1) (pw_dk dc_X11_go 0 rfl) rfl rfl rfl ?_
  refine PW_if_lt (pc' := 4) (tgt := 18) (pw_dk dc_X11_go 1 rfl) rfl (by decide) (fun c_1 => ?_) (fun c_1 => ?_)
  · rw [if_pos c_1] at h
    refine PW_iconst (pc' := 19) (v := (-1 : Int32)) (pw_dk dc_X11_go 9 rfl) rfl (by decide) ?_
    have z := wp_some h
    exact PZ_iret (ty := .int) (pw_dk dc_X11_go 10 rfl) rfl rfl z
  · rw [if_neg c_1] at h
    refine PW_iload_n (pc' := 5) (q := 1) (pw_dk dc_X11_go 2 rfl) rfl rfl rfl ?_
    refine PW_bipush (pc' := 7) (v := 24) (pw_dk dc_X11_go 3 rfl) rfl (by decide) ?_
    refine PW_aload_n (pc' := 8) (q := 0) (pw_dk dc_X11_go 4 rfl) rfl rfl rfl ?_
    refine PW_getR (pc' := 11) (id := 100) (ci := 11) (nn := 0) (C0 := RX11) (T := TX11) (N := 15) (j := 7) (r := 700) (pw_dk dc_X11_go 5 rfl) rfl me_100 rfl pi_11 (by decide) fk_11_7 tw_602 (rfl) (by decide) ?_
    refine PZ_getI (pc' := 14) (id := 700) (ci := 0) (nn := 0) (C0 := RX0) (T := TX0) (N := 6) (j := 0) (pw_dk dc_X11_go 6 rfl) rfl me_700 rfl pi_0 (by decide) fk_0_0 tw_456 ?_
    refine PW_isub (pc' := 15) (pw_dk dc_X11_go 7 rfl) rfl ?_
    refine PW_icmp_le (pc' := 18) (tgt := 20) (pw_dk dc_X11_go 8 rfl) rfl (by decide) (fun c_2 => ?_) (fun c_2 => ?_)
    · rw [if_pos c_2] at h
      refine PW_iload_n (pc' := 21) (q := 1) (pw_dk dc_X11_go 11 rfl) rfl rfl rfl ?_
      refine PW_if_le (pc' := 24) (tgt := 31) (pw_dk dc_X11_go 12 rfl) rfl (by decide) (fun c_3 => ?_) (fun c_3 => ?_)
      · rw [if_pos c_3] at h
        exact b_X11_go_31 x1 σ h
      · rw [if_neg c_3] at h
        refine PW_aload_n (pc' := 25) (q := 0) (pw_dk dc_X11_go 13 rfl) rfl rfl rfl ?_
        refine PW_getR (pc' := 28) (id := 100) (ci := 11) (nn := 0) (C0 := RX11) (T := TX11) (N := 15) (j := 11) (r := 1100) (pw_dk dc_X11_go 14 rfl) rfl me_100 rfl pi_11 (by decide) fk_11_11 tw_606 (rfl) (by decide) ?_
        refine PZ_callVv (pc' := 31) (y := yX9_forget) (M' := mX9_forget) (d' := 0) (As := []) (st := []) (b := 1100) (ci := 9) (nn := 0) me_1100 rfl tw_868 tw_869 (pw_dk dc_X11_go 15 rfl) rfl Y_X9_forget tw_867 rfl (by decide) (Nat.le_of_ble_eq_true rfl) (t_X9_forget σ _ ?_)
        obtain ⟨σ_5, e_6, h⟩ := wp_bind h
        refine ⟨σ_5, e_6, rfl, fun hn_4 => ?_⟩
        show PZ alC mX11_go (7) Q 31 [(0, .ref 100), (1, .int x1)] [] σ_5
        exact b_X11_go_31 x1 σ_5 h
    · rw [if_neg c_2] at h
      refine PW_iconst (pc' := 19) (v := (-1 : Int32)) (pw_dk dc_X11_go 9 rfl) rfl (by decide) ?_
      have z := wp_some h
      exact PZ_iret (ty := .int) (pw_dk dc_X11_go 10 rfl) rfl rfl z
def f_X11_nearestLawful_26  : Nat → Int32 → Int32 → Int32 → Int32 → zS → Option (Int32 × zS)
  | 0, _, _, _, _, _ => none
  | n + 1, x1, x2, x3, x4, σ => 
    if (σ.1 1500 0) ≤ x4 then
      some ((-1 : Int32), σ)
    else
      (rdI σ 1502 192 x4).bind fun v_2 =>
      b2 (f_X5_allows x1 v_2 x2 x3 (σ.1 700 0) σ) fun v_7 σ_6 =>
      if v_7 = 0 then
        f_X11_nearestLawful_26 n x1 x2 x3 (x4 + 1) σ_6
      else
        some (v_2, σ_6)
theorem b_X11_nearestLawful_26 {Q : Option Value → zS → Prop} : ∀ (n : Nat) (x1 : Int32) (x2 : Int32) (x3 : Int32) (x4 : Int32) (σ : zS) (h : wpO (f_X11_nearestLawful_26 n x1 x2 x3 x4 σ) (fun a => Q (some (.int a.1)) a.2)), PZ alC mX11_nearestLawful (6) Q 26 [(0, .ref 100), (1, .int x1), (2, .int x2), (3, .int x3), (4, .int x4)] [] σ := by
  intro n
  induction n with
  | zero => intro x1 x2 x3 x4 σ h; exact wp_none h
  | succ n ih =>
    intro x1 x2 x3 x4 σ h
    rw [f_X11_nearestLawful_26] at h
    refine PW_iload (pc' := 28) (q := 4) (pw_dk dc_X11_nearestLawful 13 rfl) rfl rfl ?_
    refine PW_aload_n (pc' := 29) (q := 0) (pw_dk dc_X11_nearestLawful 14 rfl) rfl rfl rfl ?_
    refine PW_getR (pc' := 32) (id := 100) (ci := 11) (nn := 0) (C0 := RX11) (T := TX11) (N := 15) (j := 13) (r := 1500) (pw_dk dc_X11_nearestLawful 15 rfl) rfl me_100 rfl pi_11 (by decide) fk_11_13 tw_608 (rfl) (by decide) ?_
    refine PZ_getI (pc' := 35) (id := 1500) (ci := 10) (nn := 0) (C0 := RX10) (T := TX10) (N := 7) (j := 0) (pw_dk dc_X11_nearestLawful 16 rfl) rfl me_1500 rfl pi_10 (by decide) fk_10_0 tw_559 ?_
    refine PW_icmp_ge (pc' := 38) (tgt := 81) (pw_dk dc_X11_nearestLawful 17 rfl) rfl (by decide) (fun c_1 => ?_) (fun c_1 => ?_)
    · rw [if_pos c_1] at h
      refine PW_iconst (pc' := 82) (v := (-1 : Int32)) (pw_dk dc_X11_nearestLawful 39 rfl) rfl (by decide) ?_
      have z := wp_some h
      exact PZ_iret (ty := .int) (pw_dk dc_X11_nearestLawful 40 rfl) rfl rfl z
    · rw [if_neg c_1] at h
      refine PW_aload_n (pc' := 39) (q := 0) (pw_dk dc_X11_nearestLawful 18 rfl) rfl rfl rfl ?_
      refine PW_getR (pc' := 42) (id := 100) (ci := 11) (nn := 0) (C0 := RX11) (T := TX11) (N := 15) (j := 13) (r := 1500) (pw_dk dc_X11_nearestLawful 19 rfl) rfl me_100 rfl pi_11 (by decide) fk_11_13 tw_608 (rfl) (by decide) ?_
      refine PW_getR (pc' := 45) (id := 1500) (ci := 10) (nn := 0) (C0 := RX10) (T := TX10) (N := 7) (j := 1) (r := 1502) (pw_dk dc_X11_nearestLawful 20 rfl) rfl me_1500 rfl pi_10 (by decide) fk_10_1 tw_561 (rfl) (by decide) ?_
      refine PW_iload (pc' := 47) (q := 4) (pw_dk dc_X11_nearestLawful 21 rfl) rfl rfl ?_
      obtain ⟨v_2, hi_3, e_4, h⟩ := wp_rdIx h
      refine PZ_ialdx (pc' := 48) (v := v_2) (id := 1502) (nn := 192) (pw_dk dc_X11_nearestLawful 22 rfl) rfl me_1502 hi_3 e_4 ?_
      refine PW_istore (pc' := 50) (lv' := [(5, .int v_2), (0, .ref 100), (1, .int x1), (2, .int x2), (3, .int x3), (4, .int x4)]) (pw_dk dc_X11_nearestLawful 23 rfl) rfl (by decide) rfl ?_
      refine PW_aload_n (pc' := 51) (q := 1) (pw_dk dc_X11_nearestLawful 24 rfl) rfl rfl rfl ?_
      refine PW_getR (pc' := 54) (id := 100) (ci := 11) (nn := 0) (C0 := RX11) (T := TX11) (N := 15) (j := 6) (r := 1000) (pw_dk dc_X11_nearestLawful 25 rfl) rfl me_100 rfl pi_11 (by decide) fk_11_6 tw_601 (rfl) (by decide) ?_
      refine PW_iload_n (pc' := 55) (q := 2) (pw_dk dc_X11_nearestLawful 26 rfl) rfl rfl rfl ?_
      refine PW_iload (pc' := 57) (q := 0) (pw_dk dc_X11_nearestLawful 27 rfl) rfl rfl ?_
      refine PW_iload_n (pc' := 58) (q := 3) (pw_dk dc_X11_nearestLawful 28 rfl) rfl rfl rfl ?_
      refine PW_iload_n (pc' := 59) (q := 4) (pw_dk dc_X11_nearestLawful 29 rfl) rfl rfl rfl ?_
      refine PW_aload_n (pc' := 60) (q := 1) (pw_dk dc_X11_nearestLawful 30 rfl) rfl rfl rfl ?_
      refine PW_getR (pc' := 63) (id := 100) (ci := 11) (nn := 0) (C0 := RX11) (T := TX11) (N := 15) (j := 7) (r := 700) (pw_dk dc_X11_nearestLawful 31 rfl) rfl me_100 rfl pi_11 (by decide) fk_11_7 tw_602 (rfl) (by decide) ?_
      refine PZ_getI (pc' := 66) (id := 700) (ci := 0) (nn := 0) (C0 := RX0) (T := TX0) (N := 6) (j := 0) (pw_dk dc_X11_nearestLawful 32 rfl) rfl me_700 rfl pi_0 (by decide) fk_0_0 tw_456 ?_
      refine PZ_callVi (pc' := 69) (y := yX5_allows) (M' := mX5_allows) (d' := 5) (As := [.int x1, .int v_2, .int x2, .int x3, .int (σ.1 700 0)]) (st := []) (b := 1000) (ci := 5) (nn := 0) me_1000 rfl tw_969 tw_970 (pw_dk dc_X11_nearestLawful 33 rfl) rfl Y_X5_allows tw_968 rfl (by decide) (Nat.le_of_ble_eq_true rfl) (t_X5_allows x1 v_2 x2 x3 (σ.1 700 0) σ _ ?_)
      obtain ⟨⟨v_7, σ_6⟩, e_8, h⟩ := wp_bind2 h
      refine ⟨(v_7, σ_6), e_8, _, rfl, fun hn_5 => ?_⟩
      show PZ alC mX11_nearestLawful (6) Q 69 [(5, .int v_2), (0, .ref 100), (1, .int x1), (2, .int x2), (3, .int x3), (4, .int x4)] [.int v_7] σ_6
      refine PW_if_eq (pc' := 72) (tgt := 75) (pw_dk dc_X11_nearestLawful 34 rfl) rfl (by decide) (fun c_9 => ?_) (fun c_9 => ?_)
      · rw [if_pos c_9] at h
        refine PW_iinc (pc' := 78) (q := 5) (v := x4 + 1) (lv' := [(4, .int (x4 + 1)), (5, .int v_2), (0, .ref 100), (1, .int x1), (2, .int x2), (3, .int x3)]) (pw_dk dc_X11_nearestLawful 37 rfl) rfl rfl rfl (by decide) rfl ?_
        refine PW_goto (tgt := 26) (pw_dk dc_X11_nearestLawful 38 rfl) (by decide) ?_
        refine PW_sub (lv' := [(0, .ref 100), (1, .int x1), (2, .int x2), (3, .int x3), (4, .int (x4 + 1))]) [2, 3, 4, 5, 0] rfl ?_
        exact ih x1 x2 x3 (x4 + 1) σ_6 h
      · rw [if_neg c_9] at h
        refine PW_iload (pc' := 74) (q := 0) (pw_dk dc_X11_nearestLawful 35 rfl) rfl rfl ?_
        have z := wp_some h
        exact PZ_iret (ty := .int) (pw_dk dc_X11_nearestLawful 36 rfl) rfl rfl z
def f_X11_nearestLawful (x1 : Int32) (x2 : Int32) (x3 : Int32) (σ : zS) : Option (Int32 × zS) := 
  (rdI σ 703 5 x1).bind fun v_1 =>
  (f_X10_explore v_1 (σ.1 (tv (σ.2.2 0)) 0) σ).bind fun σ_5 =>
  f_X11_nearestLawful_26 FU x1 x2 x3 0 σ_5
theorem t_X11_nearestLawful (x1 : Int32) (x2 : Int32) (x3 : Int32) (σ : zS) (Q : Option Value → zS → Prop) (h : wpO (f_X11_nearestLawful x1 x2 x3 σ) (fun a => Q (some (.int a.1)) a.2)) : PK alC yX11_nearestLawful mX11_nearestLawful (6) [.ref 100, .int x1, .int x2, .int x3] σ Q := by
  refine PC_ofF (by decide +kernel) rfl rfl (Nat.le_of_ble_eq_true rfl) ?_
  show PZ alC mX11_nearestLawful (6) Q 0 [(0, .ref 100), (1, .int x1), (2, .int x2), (3, .int x3)] [] σ
  unfold f_X11_nearestLawful at h
  refine PW_aload_n (pc' := 1) (q := 0) (pw_dk dc_X11_nearestLawful 0 rfl) rfl rfl rfl ?_
  refine PW_getR (pc' := 4) (id := 100) (ci := 11) (nn := 0) (C0 := RX11) (T := TX11) (N := 15) (j := 13) (r := 1500) (pw_dk dc_X11_nearestLawful 1 rfl) rfl me_100 rfl pi_11 (by decide) fk_11_13 tw_608 (rfl) (by decide) ?_
  refine PW_aload_n (pc' := 5) (q := 0) (pw_dk dc_X11_nearestLawful 2 rfl) rfl rfl rfl ?_
  refine PW_getR (pc' := 8) (id := 100) (ci := 11) (nn := 0) (C0 := RX11) (T := TX11) (N := 15) (j := 7) (r := 700) (pw_dk dc_X11_nearestLawful 3 rfl) rfl me_100 rfl pi_11 (by decide) fk_11_7 tw_602 (rfl) (by decide) ?_
  refine PW_getR (pc' := 11) (id := 700) (ci := 0) (nn := 0) (C0 := RX0) (T := TX0) (N := 6) (j := 2) (r := 703) (pw_dk dc_X11_nearestLawful 4 rfl) rfl me_700 rfl pi_0 (by decide) fk_0_2 tw_464 (rfl) (by decide) ?_
  refine PW_iload_n (pc' := 12) (q := 1) (pw_dk dc_X11_nearestLawful 5 rfl) rfl rfl rfl ?_
  obtain ⟨v_1, hi_2, e_3, h⟩ := wp_rdIx h
  refine PZ_ialdx (pc' := 13) (v := v_1) (id := 703) (nn := 5) (pw_dk dc_X11_nearestLawful 6 rfl) rfl me_703 hi_2 e_3 ?_
  refine PW_aload_n (pc' := 14) (q := 0) (pw_dk dc_X11_nearestLawful 7 rfl) rfl rfl rfl ?_
  refine PW_getR (pc' := 17) (id := 100) (ci := 11) (nn := 0) (C0 := RX11) (T := TX11) (N := 15) (j := 4) (r := tv (σ.2.2 0)) (pw_dk dc_X11_nearestLawful 8 rfl) rfl me_100 rfl pi_11 (by decide) fk_11_4 tw_599 (rf_M0 _) (tv0 _) ?_
  refine PZ_getI (pc' := 20) (id := (tv (σ.2.2 0))) (ci := 8) (nn := 0) (C0 := RX8) (T := TX8) (N := 18) (j := 0) (pw_dk dc_X11_nearestLawful 9 rfl) rfl (me_T _) rfl pi_8 (by decide) fk_8_0 tw_202 ?_
  refine PZ_callVv (pc' := 23) (y := yX10_explore) (M' := mX10_explore) (d' := 2) (As := [.int v_1, .int (σ.1 (tv (σ.2.2 0)) 0)]) (st := []) (b := 1500) (ci := 10) (nn := 0) me_1500 rfl tw_1054 tw_1055 (pw_dk dc_X11_nearestLawful 10 rfl) rfl Y_X10_explore tw_1053 rfl (by decide) (Nat.le_of_ble_eq_true rfl) (t_X10_explore v_1 (σ.1 (tv (σ.2.2 0)) 0) σ _ ?_)
  obtain ⟨σ_5, e_6, h⟩ := wp_bind h
  refine ⟨σ_5, e_6, rfl, fun hn_4 => ?_⟩
  show PZ alC mX11_nearestLawful (6) Q 23 [(0, .ref 100), (1, .int x1), (2, .int x2), (3, .int x3)] [] σ_5
  refine PW_iconst (pc' := 24) (v := 0) (pw_dk dc_X11_nearestLawful 11 rfl) rfl (by decide) ?_
  refine PW_istore (pc' := 26) (lv' := [(4, .int 0), (0, .ref 100), (1, .int x1), (2, .int x2), (3, .int x3)]) (pw_dk dc_X11_nearestLawful 12 rfl) rfl (by decide) rfl ?_
  refine PW_sub (lv' := [(0, .ref 100), (1, .int x1), (2, .int x2), (3, .int x3), (4, .int 0)]) [1, 2, 3, 4, 0] rfl ?_
  exact b_X11_nearestLawful_26 FU x1 x2 x3 0 σ_5 h
