/-! walks (printed by wip/gen) -/
def f_X11_freed_111 (r17 : Int32 → Int32 → Int32 → Int32 → zS → Option Int32) (x1 : Int32) (x2 : Int32) (x3 : Int32) (x4 : Int32) (σ : zS) : Option Int32 := 
  r17 x1 x2 x3 (x4 + 1) σ
theorem b_X11_freed_111 {Q : Option Value → zS → Prop} (r17 : Int32 → Int32 → Int32 → Int32 → zS → Option Int32) (hr17 : ∀ (x1 : Int32) (x2 : Int32) (x3 : Int32) (x4 : Int32) (σ : zS), wpO (r17 x1 x2 x3 x4 σ) (fun a => Q (some (.int a)) σ) → PZ alC mX11_freed (1) Q 17 [(0, .ref 100), (1, .int x1), (2, .int x2), (3, .int x3), (4, .int x4)] [] σ) (x1 : Int32) (x2 : Int32) (x3 : Int32) (x4 : Int32) (σ : zS) (h : wpO (f_X11_freed_111 r17 x1 x2 x3 x4 σ) (fun a => Q (some (.int a)) σ)) : PZ alC mX11_freed (1) Q 111 [(0, .ref 100), (1, .int x1), (2, .int x2), (3, .int x3), (4, .int x4)] [] σ := by
  unfold f_X11_freed_111 at h
  refine PW_iinc (pc' := 114) (q := 4) (v := x4 + 1) (lv' := [(4, .int (x4 + 1)), (0, .ref 100), (1, .int x1), (2, .int x2), (3, .int x3)]) (pw_dk dc_X11_freed 64 rfl) rfl rfl rfl (by decide) rfl ?_
  refine PW_goto (tgt := 17) (pw_dk dc_X11_freed 65 rfl) (by decide) ?_
  refine PW_sub (lv' := [(0, .ref 100), (1, .int x1), (2, .int x2), (3, .int x3), (4, .int (x4 + 1))]) [1, 2, 3, 4, 0] rfl ?_
  exact hr17 x1 x2 x3 (x4 + 1) σ h
def f_X11_freed_46 (r17 : Int32 → Int32 → Int32 → Int32 → zS → Option Int32) (x1 : Int32) (x2 : Int32) (x3 : Int32) (x4 : Int32) (s0 : Int32) (σ : zS) : Option Int32 := 
  lt (α := Int32) (((f_J6_bitCount_0f7a4 (x4 &&& (3 : Int32)) σ) * (3 : Int32)) + ((f_J6_bitCount_0f7a4 (x4 >>> ((2 : Int32) &&& 31)) σ) * (2 : Int32))) fun x6_3 =>
  if s0 = 0 then
    f_X11_freed_111 r17 x1 x2 x3 x4 σ
  else
    (rdI σ 704 5 x1).bind fun v_6 =>
    if v_6 < ((f_J6_bitCount_0f7a4 x4 σ) * (σ.1 (tv (σ.2.2 0)) 16)) then
      f_X11_freed_111 r17 x1 x2 x3 x4 σ
    else
      if x6_3 ≤ x3 then
        f_X11_freed_111 r17 x1 x2 x3 x4 σ
      else
        f_X11_freed_111 r17 x1 x4 x6_3 x4 σ
theorem b_X11_freed_46 {Q : Option Value → zS → Prop} (r17 : Int32 → Int32 → Int32 → Int32 → zS → Option Int32) (hr17 : ∀ (x1 : Int32) (x2 : Int32) (x3 : Int32) (x4 : Int32) (σ : zS), wpO (r17 x1 x2 x3 x4 σ) (fun a => Q (some (.int a)) σ) → PZ alC mX11_freed (1) Q 17 [(0, .ref 100), (1, .int x1), (2, .int x2), (3, .int x3), (4, .int x4)] [] σ) (x1 : Int32) (x2 : Int32) (x3 : Int32) (x4 : Int32) (s0 : Int32) (σ : zS) (h : wpO (f_X11_freed_46 r17 x1 x2 x3 x4 s0 σ) (fun a => Q (some (.int a)) σ)) : PZ alC mX11_freed (1) Q 46 [(0, .ref 100), (1, .int x1), (2, .int x2), (3, .int x3), (4, .int x4)] [.int s0] σ := by
  unfold f_X11_freed_46 at h
  refine PW_istore (pc' := 48) (lv' := [(5, .int s0), (0, .ref 100), (1, .int x1), (2, .int x2), (3, .int x3), (4, .int x4)]) (pw_dk dc_X11_freed 28 rfl) rfl (by decide) rfl ?_
  refine PW_iload (pc' := 50) (q := 5) (pw_dk dc_X11_freed 29 rfl) rfl rfl ?_
  refine PW_iconst (pc' := 51) (v := 3) (pw_dk dc_X11_freed 30 rfl) rfl (by decide) ?_
  refine PW_iand (pc' := 52) (pw_dk dc_X11_freed 31 rfl) rfl ?_
  refine PZ_callSi (pc' := 55) (y := yJ6_bitCount_0f7a4) (M' := mJ6_bitCount_0f7a4) (d' := 0) (As := [.int (x4 &&& (3 : Int32))]) (st := []) tw_1106 (pw_dk dc_X11_freed 32 rfl) rfl Y_J6_bitCount_0f7a4 tw_1105 rfl (by decide) (Nat.le_of_ble_eq_true rfl) (t_J6_bitCount_0f7a4 alC (x4 &&& (3 : Int32)) σ _ ?_)
  refine ⟨_, rfl, fun hn_1 => ?_⟩
  show PZ alC mX11_freed (1) Q 55 [(5, .int s0), (0, .ref 100), (1, .int x1), (2, .int x2), (3, .int x3), (4, .int x4)] [.int (f_J6_bitCount_0f7a4 (x4 &&& (3 : Int32)) σ)] σ
  refine PW_iconst (pc' := 56) (v := 3) (pw_dk dc_X11_freed 33 rfl) rfl (by decide) ?_
  refine PW_imul (pc' := 57) (pw_dk dc_X11_freed 34 rfl) rfl ?_
  refine PW_iload (pc' := 59) (q := 5) (pw_dk dc_X11_freed 35 rfl) rfl rfl ?_
  refine PW_iconst (pc' := 60) (v := 2) (pw_dk dc_X11_freed 36 rfl) rfl (by decide) ?_
  refine PW_ishr (pc' := 61) (pw_dk dc_X11_freed 37 rfl) rfl ?_
  refine PZ_callSi (pc' := 64) (y := yJ6_bitCount_0f7a4) (M' := mJ6_bitCount_0f7a4) (d' := 0) (As := [.int (x4 >>> ((2 : Int32) &&& 31))]) (st := [.int ((f_J6_bitCount_0f7a4 (x4 &&& (3 : Int32)) σ) * (3 : Int32))]) tw_1106 (pw_dk dc_X11_freed 38 rfl) rfl Y_J6_bitCount_0f7a4 tw_1105 rfl (by decide) (Nat.le_of_ble_eq_true rfl) (t_J6_bitCount_0f7a4 alC (x4 >>> ((2 : Int32) &&& 31)) σ _ ?_)
  refine ⟨_, rfl, fun hn_2 => ?_⟩
  show PZ alC mX11_freed (1) Q 64 [(5, .int s0), (0, .ref 100), (1, .int x1), (2, .int x2), (3, .int x3), (4, .int x4)] [.int (f_J6_bitCount_0f7a4 (x4 >>> ((2 : Int32) &&& 31)) σ), .int ((f_J6_bitCount_0f7a4 (x4 &&& (3 : Int32)) σ) * (3 : Int32))] σ
  refine PW_iconst (pc' := 65) (v := 2) (pw_dk dc_X11_freed 39 rfl) rfl (by decide) ?_
  refine PW_imul (pc' := 66) (pw_dk dc_X11_freed 40 rfl) rfl ?_
  refine PW_iadd (pc' := 67) (pw_dk dc_X11_freed 41 rfl) rfl ?_
  refine PW_topi (fun x6_3 ex6_3 => ?_)
  replace h := lt_w h ex6_3
  refine PW_istore (pc' := 69) (lv' := [(6, .int x6_3), (5, .int s0), (0, .ref 100), (1, .int x1), (2, .int x2), (3, .int x3), (4, .int x4)]) (pw_dk dc_X11_freed 42 rfl) rfl (by decide) rfl ?_
  refine PW_iload (pc' := 71) (q := 1) (pw_dk dc_X11_freed 43 rfl) rfl rfl ?_
  refine PW_if_eq (pc' := 74) (tgt := 111) (pw_dk dc_X11_freed 44 rfl) rfl (by decide) (fun c_4 => ?_) (fun c_4 => ?_)
  · rw [if_pos c_4] at h
    refine PW_sub (lv' := [(0, .ref 100), (1, .int x1), (2, .int x2), (3, .int x3), (4, .int x4)]) [2, 3, 4, 5, 6] rfl ?_
    exact b_X11_freed_111 r17 hr17 x1 x2 x3 x4 σ h
  · rw [if_neg c_4] at h
    refine PW_iload (pc' := 76) (q := 6) (pw_dk dc_X11_freed 45 rfl) rfl rfl ?_
    refine PZ_callSi (pc' := 79) (y := yJ6_bitCount_0f7a4) (M' := mJ6_bitCount_0f7a4) (d' := 0) (As := [.int x4]) (st := []) tw_1106 (pw_dk dc_X11_freed 46 rfl) rfl Y_J6_bitCount_0f7a4 tw_1105 rfl (by decide) (Nat.le_of_ble_eq_true rfl) (t_J6_bitCount_0f7a4 alC x4 σ _ ?_)
    refine ⟨_, rfl, fun hn_5 => ?_⟩
    show PZ alC mX11_freed (1) Q 79 [(6, .int x6_3), (5, .int s0), (0, .ref 100), (1, .int x1), (2, .int x2), (3, .int x3), (4, .int x4)] [.int (f_J6_bitCount_0f7a4 x4 σ)] σ
    refine PW_aload_n (pc' := 80) (q := 2) (pw_dk dc_X11_freed 47 rfl) rfl rfl rfl ?_
    refine PW_getR (pc' := 83) (id := 100) (ci := 11) (nn := 0) (C0 := RX11) (T := TX11) (N := 15) (j := 4) (r := tv (σ.2.2 0)) (pw_dk dc_X11_freed 48 rfl) rfl me_100 rfl pi_11 (by decide) fk_11_4 tw_599 (rf_M0 _) (tv0 _) ?_
    refine PZ_getI (pc' := 86) (id := (tv (σ.2.2 0))) (ci := 8) (nn := 0) (C0 := RX8) (T := TX8) (N := 18) (j := 16) (pw_dk dc_X11_freed 49 rfl) rfl (me_T _) rfl pi_8 (by decide) fk_8_16 tw_246 ?_
    refine PW_imul (pc' := 87) (pw_dk dc_X11_freed 50 rfl) rfl ?_
    refine PW_aload_n (pc' := 88) (q := 2) (pw_dk dc_X11_freed 51 rfl) rfl rfl rfl ?_
    refine PW_getR (pc' := 91) (id := 100) (ci := 11) (nn := 0) (C0 := RX11) (T := TX11) (N := 15) (j := 7) (r := 700) (pw_dk dc_X11_freed 52 rfl) rfl me_100 rfl pi_11 (by decide) fk_11_7 tw_602 (rfl) (by decide) ?_
    refine PW_getR (pc' := 94) (id := 700) (ci := 0) (nn := 0) (C0 := RX0) (T := TX0) (N := 6) (j := 3) (r := 704) (pw_dk dc_X11_freed 53 rfl) rfl me_700 rfl pi_0 (by decide) fk_0_3 tw_468 (rfl) (by decide) ?_
    refine PW_iload_n (pc' := 95) (q := 3) (pw_dk dc_X11_freed 54 rfl) rfl rfl rfl ?_
    obtain ⟨v_6, hi_7, e_8, h⟩ := wp_rdIx h
    refine PZ_ialdx (pc' := 96) (v := v_6) (id := 704) (nn := 5) (pw_dk dc_X11_freed 55 rfl) rfl me_704 hi_7 e_8 ?_
    refine PW_icmp_gt (pc' := 99) (tgt := 111) (pw_dk dc_X11_freed 56 rfl) rfl (by decide) (fun c_9 => ?_) (fun c_9 => ?_)
    · rw [if_pos c_9] at h
      refine PW_sub (lv' := [(0, .ref 100), (1, .int x1), (2, .int x2), (3, .int x3), (4, .int x4)]) [2, 3, 4, 5, 6] rfl ?_
      exact b_X11_freed_111 r17 hr17 x1 x2 x3 x4 σ h
    · rw [if_neg c_9] at h
      refine PW_iload (pc' := 101) (q := 0) (pw_dk dc_X11_freed 57 rfl) rfl rfl ?_
      refine PW_iload_n (pc' := 102) (q := 5) (pw_dk dc_X11_freed 58 rfl) rfl rfl rfl ?_
      refine PW_icmp_le (pc' := 105) (tgt := 111) (pw_dk dc_X11_freed 59 rfl) rfl (by decide) (fun c_10 => ?_) (fun c_10 => ?_)
      · rw [if_pos c_10] at h
        refine PW_sub (lv' := [(0, .ref 100), (1, .int x1), (2, .int x2), (3, .int x3), (4, .int x4)]) [2, 3, 4, 5, 6] rfl ?_
        exact b_X11_freed_111 r17 hr17 x1 x2 x3 x4 σ h
      · rw [if_neg c_10] at h
        refine PW_iload (pc' := 107) (q := 6) (pw_dk dc_X11_freed 60 rfl) rfl rfl ?_
        refine PW_istore_n (pc' := 108) (lv' := [(2, .int x4), (6, .int x6_3), (5, .int s0), (0, .ref 100), (1, .int x1), (3, .int x3), (4, .int x4)]) (pw_dk dc_X11_freed 61 rfl) rfl rfl (by decide) rfl ?_
        refine PW_iload (pc' := 110) (q := 1) (pw_dk dc_X11_freed 62 rfl) rfl rfl ?_
        refine PW_istore_n (pc' := 111) (lv' := [(3, .int x6_3), (2, .int x4), (6, .int x6_3), (5, .int s0), (0, .ref 100), (1, .int x1), (4, .int x4)]) (pw_dk dc_X11_freed 63 rfl) rfl rfl (by decide) rfl ?_
        refine PW_sub (lv' := [(0, .ref 100), (1, .int x1), (2, .int x4), (3, .int x6_3), (4, .int x4)]) [4, 5, 1, 0, 6] rfl ?_
        exact b_X11_freed_111 r17 hr17 x1 x4 x6_3 x4 σ h
def f_X11_freed_17  : Nat → Int32 → Int32 → Int32 → Int32 → zS → Option Int32
  | 0, _, _, _, _, _ => none
  | n + 1, x1, x2, x3, x4, σ => 
    if 16 ≤ x4 then
      some x2
    else
      (rdI σ 705 5 x1).bind fun v_2 =>
      if (x4 &&& (v_2 ^^^ (-1 : Int32))) = 0 then
        f_X11_freed_46 (f_X11_freed_17 n) x1 x2 x3 x4 1 σ
      else
        f_X11_freed_46 (f_X11_freed_17 n) x1 x2 x3 x4 0 σ
theorem b_X11_freed_17 {Q : Option Value → zS → Prop} : ∀ (n : Nat) (x1 : Int32) (x2 : Int32) (x3 : Int32) (x4 : Int32) (σ : zS) (h : wpO (f_X11_freed_17 n x1 x2 x3 x4 σ) (fun a => Q (some (.int a)) σ)), PZ alC mX11_freed (1) Q 17 [(0, .ref 100), (1, .int x1), (2, .int x2), (3, .int x3), (4, .int x4)] [] σ := by
  intro n
  induction n with
  | zero => intro x1 x2 x3 x4 σ h; exact wp_none h
  | succ n ih =>
    intro x1 x2 x3 x4 σ h
    rw [f_X11_freed_17] at h
    refine PW_iload (pc' := 19) (q := 4) (pw_dk dc_X11_freed 12 rfl) rfl rfl ?_
    refine PW_bipush (pc' := 21) (v := 16) (pw_dk dc_X11_freed 13 rfl) rfl (by decide) ?_
    refine PW_icmp_ge (pc' := 24) (tgt := 117) (pw_dk dc_X11_freed 14 rfl) rfl (by decide) (fun c_1 => ?_) (fun c_1 => ?_)
    · rw [if_pos c_1] at h
      refine PW_iload_n (pc' := 118) (q := 2) (pw_dk dc_X11_freed 66 rfl) rfl rfl rfl ?_
      have z := wp_some h
      exact PZ_iret (ty := .int) (pw_dk dc_X11_freed 67 rfl) rfl rfl z
    · rw [if_neg c_1] at h
      refine PW_iload (pc' := 26) (q := 4) (pw_dk dc_X11_freed 15 rfl) rfl rfl ?_
      refine PW_aload_n (pc' := 27) (q := 0) (pw_dk dc_X11_freed 16 rfl) rfl rfl rfl ?_
      refine PW_getR (pc' := 30) (id := 100) (ci := 11) (nn := 0) (C0 := RX11) (T := TX11) (N := 15) (j := 7) (r := 700) (pw_dk dc_X11_freed 17 rfl) rfl me_100 rfl pi_11 (by decide) fk_11_7 tw_602 (rfl) (by decide) ?_
      refine PW_getR (pc' := 33) (id := 700) (ci := 0) (nn := 0) (C0 := RX0) (T := TX0) (N := 6) (j := 4) (r := 705) (pw_dk dc_X11_freed 18 rfl) rfl me_700 rfl pi_0 (by decide) fk_0_4 tw_471 (rfl) (by decide) ?_
      refine PW_iload_n (pc' := 34) (q := 1) (pw_dk dc_X11_freed 19 rfl) rfl rfl rfl ?_
      obtain ⟨v_2, hi_3, e_4, h⟩ := wp_rdIx h
      refine PZ_ialdx (pc' := 35) (v := v_2) (id := 705) (nn := 5) (pw_dk dc_X11_freed 20 rfl) rfl me_705 hi_3 e_4 ?_
      refine PW_iconst (pc' := 36) (v := (-1 : Int32)) (pw_dk dc_X11_freed 21 rfl) rfl (by decide) ?_
      refine PW_ixor (pc' := 37) (pw_dk dc_X11_freed 22 rfl) rfl ?_
      refine PW_iand (pc' := 38) (pw_dk dc_X11_freed 23 rfl) rfl ?_
      refine PW_if_ne (pc' := 41) (tgt := 45) (pw_dk dc_X11_freed 24 rfl) rfl (by decide) (fun c_5 => ?_) (fun c_5 => ?_)
      · rw [if_neg c_5] at h
        refine PW_iconst (pc' := 46) (v := 0) (pw_dk dc_X11_freed 27 rfl) rfl (by decide) ?_
        exact b_X11_freed_46 (f_X11_freed_17 n) ih x1 x2 x3 x4 0 σ h
      · rw [if_pos c_5] at h
        refine PW_iconst (pc' := 42) (v := 1) (pw_dk dc_X11_freed 25 rfl) rfl (by decide) ?_
        refine PW_goto (tgt := 46) (pw_dk dc_X11_freed 26 rfl) (by decide) ?_
        exact b_X11_freed_46 (f_X11_freed_17 n) ih x1 x2 x3 x4 1 σ h
def f_X11_freed (x1 : Int32) (σ : zS) : Option Int32 := 
  if (f_X11_isMan x1 σ) = 0 then
    some (-1 : Int32)
  else
    f_X11_freed_17 FU x1 0 0 1 σ
theorem t_X11_freed (x1 : Int32) (σ : zS) (Q : Option Value → zS → Prop) (h : wpO (f_X11_freed x1 σ) (fun a => Q (some (.int a)) σ)) : PK alC yX11_freed mX11_freed (1) [.ref 100, .int x1] σ Q := by
  refine PC_ofF (by decide +kernel) rfl rfl (Nat.le_of_ble_eq_true rfl) ?_
  show PZ alC mX11_freed (1) Q 0 [(0, .ref 100), (1, .int x1)] [] σ
  unfold f_X11_freed at h
  refine PW_aload_n (pc' := 1) (q := 0) (pw_dk dc_X11_freed 0 rfl) rfl rfl rfl ?_
  refine PW_iload_n (pc' := 2) (q := 1) (pw_dk dc_X11_freed 1 rfl) rfl rfl rfl ?_
  refine PZ_callVi (pc' := 5) (y := yX11_isMan) (M' := mX11_isMan) (d' := 0) (As := [.int x1]) (st := []) (b := 100) (ci := 11) (nn := 0) me_100 rfl tw_903 tw_29 (pw_dk dc_X11_freed 2 rfl) rfl Y_X11_isMan tw_901 rfl (by decide) (Nat.le_of_ble_eq_true rfl) (t_X11_isMan x1 σ _ ?_)
  refine ⟨_, rfl, fun hn_1 => ?_⟩
  show PZ alC mX11_freed (1) Q 5 [(0, .ref 100), (1, .int x1)] [.int (f_X11_isMan x1 σ)] σ
  refine PW_if_ne (pc' := 8) (tgt := 10) (pw_dk dc_X11_freed 3 rfl) rfl (by decide) (fun c_2 => ?_) (fun c_2 => ?_)
  · rw [if_neg c_2] at h
    refine PW_iconst (pc' := 11) (v := 0) (pw_dk dc_X11_freed 6 rfl) rfl (by decide) ?_
    refine PW_istore_n (pc' := 12) (lv' := [(2, .int 0), (0, .ref 100), (1, .int x1)]) (pw_dk dc_X11_freed 7 rfl) rfl rfl (by decide) rfl ?_
    refine PW_iconst (pc' := 13) (v := 0) (pw_dk dc_X11_freed 8 rfl) rfl (by decide) ?_
    refine PW_istore_n (pc' := 14) (lv' := [(3, .int 0), (2, .int 0), (0, .ref 100), (1, .int x1)]) (pw_dk dc_X11_freed 9 rfl) rfl rfl (by decide) rfl ?_
    refine PW_iconst (pc' := 15) (v := 1) (pw_dk dc_X11_freed 10 rfl) rfl (by decide) ?_
    refine PW_istore (pc' := 17) (lv' := [(4, .int 1), (3, .int 0), (2, .int 0), (0, .ref 100), (1, .int x1)]) (pw_dk dc_X11_freed 11 rfl) rfl (by decide) rfl ?_
    refine PW_sub (lv' := [(0, .ref 100), (1, .int x1), (2, .int 0), (3, .int 0), (4, .int 1)]) [3, 4, 2, 1, 0] rfl ?_
    exact b_X11_freed_17 FU x1 0 0 1 σ h
  · rw [if_pos c_2] at h
    refine PW_iconst (pc' := 9) (v := (-1 : Int32)) (pw_dk dc_X11_freed 4 rfl) rfl (by decide) ?_
    have z := wp_some h
    exact PZ_iret (ty := .int) (pw_dk dc_X11_freed 5 rfl) rfl rfl z
def f_X11_print (x1 : Int32) (x2 : Int32) (x3 : Int32) (σ : zS) : Option (Int32 × zS) := 
  if x1 < 0 then
    some ((-1 : Int32), σ)
  else
    if 99 < x1 then
      some ((-1 : Int32), σ)
    else
      if (f_X11_isPart x2 σ) = 0 then
        some ((-1 : Int32), σ)
      else
        if (f_X11_isCell x3 σ) = 0 then
          some ((-1 : Int32), σ)
        else
          b2 (f_X3_add x1 x2 x3 (-1 : Int32) σ) fun v_9 σ_8 =>
          some (v_9, σ_8)
theorem t_X11_print (x1 : Int32) (x2 : Int32) (x3 : Int32) (σ : zS) (Q : Option Value → zS → Prop) (h : wpO (f_X11_print x1 x2 x3 σ) (fun a => Q (some (.int a.1)) a.2)) : PK alC yX11_print mX11_print (1) [.ref 100, .int x1, .int x2, .int x3] σ Q := by
  refine PC_ofF (by decide +kernel) rfl rfl (Nat.le_of_ble_eq_true rfl) ?_
  show PZ alC mX11_print (1) Q 0 [(0, .ref 100), (1, .int x1), (2, .int x2), (3, .int x3)] [] σ
  unfold f_X11_print at h
  refine PW_iload_n (pc' := 1) (q := 1) (pw_dk dc_X11_print 0 rfl) rfl rfl rfl ?_
  refine PW_if_lt (pc' := 4) (tgt := 25) (pw_dk dc_X11_print 1 rfl) rfl (by decide) (fun c_1 => ?_) (fun c_1 => ?_)
  · rw [if_pos c_1] at h
    refine PW_iconst (pc' := 26) (v := (-1 : Int32)) (pw_dk dc_X11_print 12 rfl) rfl (by decide) ?_
    have z := wp_some h
    exact PZ_iret (ty := .int) (pw_dk dc_X11_print 13 rfl) rfl rfl z
  · rw [if_neg c_1] at h
    refine PW_iload_n (pc' := 5) (q := 1) (pw_dk dc_X11_print 2 rfl) rfl rfl rfl ?_
    refine PW_bipush (pc' := 7) (v := 99) (pw_dk dc_X11_print 3 rfl) rfl (by decide) ?_
    refine PW_icmp_gt (pc' := 10) (tgt := 25) (pw_dk dc_X11_print 4 rfl) rfl (by decide) (fun c_2 => ?_) (fun c_2 => ?_)
    · rw [if_pos c_2] at h
      refine PW_iconst (pc' := 26) (v := (-1 : Int32)) (pw_dk dc_X11_print 12 rfl) rfl (by decide) ?_
      have z := wp_some h
      exact PZ_iret (ty := .int) (pw_dk dc_X11_print 13 rfl) rfl rfl z
    · rw [if_neg c_2] at h
      refine PW_iload_n (pc' := 11) (q := 2) (pw_dk dc_X11_print 5 rfl) rfl rfl rfl ?_
      refine PZ_callSi (pc' := 14) (y := yX11_isPart) (M' := mX11_isPart) (d' := 0) (As := [.int x2]) (st := []) tw_906 (pw_dk dc_X11_print 6 rfl) rfl Y_X11_isPart tw_905 rfl (by decide) (Nat.le_of_ble_eq_true rfl) (t_X11_isPart x2 σ _ ?_)
      refine ⟨_, rfl, fun hn_3 => ?_⟩
      show PZ alC mX11_print (1) Q 14 [(0, .ref 100), (1, .int x1), (2, .int x2), (3, .int x3)] [.int (f_X11_isPart x2 σ)] σ
      refine PW_if_eq (pc' := 17) (tgt := 25) (pw_dk dc_X11_print 7 rfl) rfl (by decide) (fun c_4 => ?_) (fun c_4 => ?_)
      · rw [if_pos c_4] at h
        refine PW_iconst (pc' := 26) (v := (-1 : Int32)) (pw_dk dc_X11_print 12 rfl) rfl (by decide) ?_
        have z := wp_some h
        exact PZ_iret (ty := .int) (pw_dk dc_X11_print 13 rfl) rfl rfl z
      · rw [if_neg c_4] at h
        refine PW_aload_n (pc' := 18) (q := 0) (pw_dk dc_X11_print 8 rfl) rfl rfl rfl ?_
        refine PW_iload_n (pc' := 19) (q := 3) (pw_dk dc_X11_print 9 rfl) rfl rfl rfl ?_
        refine PZ_callVi (pc' := 22) (y := yX11_isCell) (M' := mX11_isCell) (d' := 0) (As := [.int x3]) (st := []) (b := 100) (ci := 11) (nn := 0) me_100 rfl tw_891 tw_28 (pw_dk dc_X11_print 10 rfl) rfl Y_X11_isCell tw_889 rfl (by decide) (Nat.le_of_ble_eq_true rfl) (t_X11_isCell x3 σ _ ?_)
        refine ⟨_, rfl, fun hn_5 => ?_⟩
        show PZ alC mX11_print (1) Q 22 [(0, .ref 100), (1, .int x1), (2, .int x2), (3, .int x3)] [.int (f_X11_isCell x3 σ)] σ
        refine PW_if_ne (pc' := 25) (tgt := 27) (pw_dk dc_X11_print 11 rfl) rfl (by decide) (fun c_6 => ?_) (fun c_6 => ?_)
        · rw [if_neg c_6] at h
          refine PW_aload_n (pc' := 28) (q := 0) (pw_dk dc_X11_print 14 rfl) rfl rfl rfl ?_
          refine PW_getR (pc' := 31) (id := 100) (ci := 11) (nn := 0) (C0 := RX11) (T := TX11) (N := 15) (j := 12) (r := 1200) (pw_dk dc_X11_print 15 rfl) rfl me_100 rfl pi_11 (by decide) fk_11_12 tw_607 (rfl) (by decide) ?_
          refine PW_iload_n (pc' := 32) (q := 1) (pw_dk dc_X11_print 16 rfl) rfl rfl rfl ?_
          refine PW_iload_n (pc' := 33) (q := 2) (pw_dk dc_X11_print 17 rfl) rfl rfl rfl ?_
          refine PW_iload_n (pc' := 34) (q := 3) (pw_dk dc_X11_print 18 rfl) rfl rfl rfl ?_
          refine PW_iconst (pc' := 35) (v := (-1 : Int32)) (pw_dk dc_X11_print 19 rfl) rfl (by decide) ?_
          refine PZ_callVi (pc' := 38) (y := yX3_add) (M' := mX3_add) (d' := 0) (As := [.int x1, .int x2, .int x3, .int (-1 : Int32)]) (st := []) (b := 1200) (ci := 3) (nn := 0) me_1200 rfl tw_1174 tw_1175 (pw_dk dc_X11_print 20 rfl) rfl Y_X3_add tw_1173 rfl (by decide) (Nat.le_of_ble_eq_true rfl) (t_X3_add x1 x2 x3 (-1 : Int32) σ _ ?_)
          obtain ⟨⟨v_9, σ_8⟩, e_10, h⟩ := wp_bind2 h
          refine ⟨(v_9, σ_8), e_10, _, rfl, fun hn_7 => ?_⟩
          show PZ alC mX11_print (1) Q 38 [(0, .ref 100), (1, .int x1), (2, .int x2), (3, .int x3)] [.int v_9] σ_8
          have z := wp_some h
          exact PZ_iret (ty := .int) (pw_dk dc_X11_print 21 rfl) rfl rfl z
        · rw [if_pos c_6] at h
          refine PW_iconst (pc' := 26) (v := (-1 : Int32)) (pw_dk dc_X11_print 12 rfl) rfl (by decide) ?_
          have z := wp_some h
          exact PZ_iret (ty := .int) (pw_dk dc_X11_print 13 rfl) rfl rfl z
def f_X11_strike (x1 : Int32) (σ : zS) : Option (Int32 × zS) := 
  if x1 < 0 then
    some ((-1 : Int32), σ)
  else
    if x1 < (σ.1 1200 0) then
      b2 (f_X3_add 0 0 0 x1 σ) fun v_5 σ_4 =>
      some (v_5, σ_4)
    else
      some ((-1 : Int32), σ)
theorem t_X11_strike (x1 : Int32) (σ : zS) (Q : Option Value → zS → Prop) (h : wpO (f_X11_strike x1 σ) (fun a => Q (some (.int a.1)) a.2)) : PK alC yX11_strike mX11_strike (1) [.ref 100, .int x1] σ Q := by
  refine PC_ofF (by decide +kernel) rfl rfl (Nat.le_of_ble_eq_true rfl) ?_
  show PZ alC mX11_strike (1) Q 0 [(0, .ref 100), (1, .int x1)] [] σ
  unfold f_X11_strike at h
  refine PW_iload_n (pc' := 1) (q := 1) (pw_dk dc_X11_strike 0 rfl) rfl rfl rfl ?_
  refine PW_if_lt (pc' := 4) (tgt := 15) (pw_dk dc_X11_strike 1 rfl) rfl (by decide) (fun c_1 => ?_) (fun c_1 => ?_)
  · rw [if_pos c_1] at h
    refine PW_iconst (pc' := 16) (v := (-1 : Int32)) (pw_dk dc_X11_strike 7 rfl) rfl (by decide) ?_
    have z := wp_some h
    exact PZ_iret (ty := .int) (pw_dk dc_X11_strike 8 rfl) rfl rfl z
  · rw [if_neg c_1] at h
    refine PW_iload_n (pc' := 5) (q := 1) (pw_dk dc_X11_strike 2 rfl) rfl rfl rfl ?_
    refine PW_aload_n (pc' := 6) (q := 0) (pw_dk dc_X11_strike 3 rfl) rfl rfl rfl ?_
    refine PW_getR (pc' := 9) (id := 100) (ci := 11) (nn := 0) (C0 := RX11) (T := TX11) (N := 15) (j := 12) (r := 1200) (pw_dk dc_X11_strike 4 rfl) rfl me_100 rfl pi_11 (by decide) fk_11_12 tw_607 (rfl) (by decide) ?_
    refine PZ_getI (pc' := 12) (id := 1200) (ci := 3) (nn := 0) (C0 := RX3) (T := TX3) (N := 9) (j := 0) (pw_dk dc_X11_strike 5 rfl) rfl me_1200 rfl pi_3 (by decide) fk_3_0 tw_522 ?_
    refine PW_icmp_lt (pc' := 15) (tgt := 17) (pw_dk dc_X11_strike 6 rfl) rfl (by decide) (fun c_2 => ?_) (fun c_2 => ?_)
    · rw [if_pos c_2] at h
      refine PW_aload_n (pc' := 18) (q := 0) (pw_dk dc_X11_strike 9 rfl) rfl rfl rfl ?_
      refine PW_getR (pc' := 21) (id := 100) (ci := 11) (nn := 0) (C0 := RX11) (T := TX11) (N := 15) (j := 12) (r := 1200) (pw_dk dc_X11_strike 10 rfl) rfl me_100 rfl pi_11 (by decide) fk_11_12 tw_607 (rfl) (by decide) ?_
      refine PW_iconst (pc' := 22) (v := 0) (pw_dk dc_X11_strike 11 rfl) rfl (by decide) ?_
      refine PW_iconst (pc' := 23) (v := 0) (pw_dk dc_X11_strike 12 rfl) rfl (by decide) ?_
      refine PW_iconst (pc' := 24) (v := 0) (pw_dk dc_X11_strike 13 rfl) rfl (by decide) ?_
      refine PW_iload_n (pc' := 25) (q := 1) (pw_dk dc_X11_strike 14 rfl) rfl rfl rfl ?_
      refine PZ_callVi (pc' := 28) (y := yX3_add) (M' := mX3_add) (d' := 0) (As := [.int 0, .int 0, .int 0, .int x1]) (st := []) (b := 1200) (ci := 3) (nn := 0) me_1200 rfl tw_1174 tw_1175 (pw_dk dc_X11_strike 15 rfl) rfl Y_X3_add tw_1173 rfl (by decide) (Nat.le_of_ble_eq_true rfl) (t_X3_add 0 0 0 x1 σ _ ?_)
      obtain ⟨⟨v_5, σ_4⟩, e_6, h⟩ := wp_bind2 h
      refine ⟨(v_5, σ_4), e_6, _, rfl, fun hn_3 => ?_⟩
      show PZ alC mX11_strike (1) Q 28 [(0, .ref 100), (1, .int x1)] [.int v_5] σ_4
      have z := wp_some h
      exact PZ_iret (ty := .int) (pw_dk dc_X11_strike 16 rfl) rfl rfl z
    · rw [if_neg c_2] at h
      refine PW_iconst (pc' := 16) (v := (-1 : Int32)) (pw_dk dc_X11_strike 7 rfl) rfl (by decide) ?_
      have z := wp_some h
      exact PZ_iret (ty := .int) (pw_dk dc_X11_strike 8 rfl) rfl rfl z
def f_X11_known (x1 : Int32) (σ : zS) : Option (Int32 × zS) := 
  if x1 < (-1 : Int32) then
    some (0, σ)
  else
    if x1 ≤ (σ.1 1200 0) then
      lt (wI σ 1200 1 x1) fun σ_3 =>
      some (1, σ_3)
    else
      some (0, σ)
theorem t_X11_known (x1 : Int32) (σ : zS) (Q : Option Value → zS → Prop) (h : wpO (f_X11_known x1 σ) (fun a => Q (some (.int a.1)) a.2)) : PK alC yX11_known mX11_known (0) [.ref 100, .int x1] σ Q := by
  refine PC_ofF (by decide +kernel) rfl rfl (Nat.le_of_ble_eq_true rfl) ?_
  show PZ alC mX11_known (0) Q 0 [(0, .ref 100), (1, .int x1)] [] σ
  unfold f_X11_known at h
  refine PW_iload_n (pc' := 1) (q := 1) (pw_dk dc_X11_known 0 rfl) rfl rfl rfl ?_
  refine PW_iconst (pc' := 2) (v := (-1 : Int32)) (pw_dk dc_X11_known 1 rfl) rfl (by decide) ?_
  refine PW_icmp_lt (pc' := 5) (tgt := 16) (pw_dk dc_X11_known 2 rfl) rfl (by decide) (fun c_1 => ?_) (fun c_1 => ?_)
  · rw [if_pos c_1] at h
    refine PW_iconst (pc' := 17) (v := 0) (pw_dk dc_X11_known 8 rfl) rfl (by decide) ?_
    have z := wp_some h
    exact PZ_iret (ty := .boolean) (pw_dk dc_X11_known 9 rfl) rfl (by decide) z
  · rw [if_neg c_1] at h
    refine PW_iload_n (pc' := 6) (q := 1) (pw_dk dc_X11_known 3 rfl) rfl rfl rfl ?_
    refine PW_aload_n (pc' := 7) (q := 0) (pw_dk dc_X11_known 4 rfl) rfl rfl rfl ?_
    refine PW_getR (pc' := 10) (id := 100) (ci := 11) (nn := 0) (C0 := RX11) (T := TX11) (N := 15) (j := 12) (r := 1200) (pw_dk dc_X11_known 5 rfl) rfl me_100 rfl pi_11 (by decide) fk_11_12 tw_607 (rfl) (by decide) ?_
    refine PZ_getI (pc' := 13) (id := 1200) (ci := 3) (nn := 0) (C0 := RX3) (T := TX3) (N := 9) (j := 0) (pw_dk dc_X11_known 6 rfl) rfl me_1200 rfl pi_3 (by decide) fk_3_0 tw_522 ?_
    refine PW_icmp_le (pc' := 16) (tgt := 18) (pw_dk dc_X11_known 7 rfl) rfl (by decide) (fun c_2 => ?_) (fun c_2 => ?_)
    · rw [if_pos c_2] at h
      refine PW_aload_n (pc' := 19) (q := 0) (pw_dk dc_X11_known 10 rfl) rfl rfl rfl ?_
      refine PW_getR (pc' := 22) (id := 100) (ci := 11) (nn := 0) (C0 := RX11) (T := TX11) (N := 15) (j := 12) (r := 1200) (pw_dk dc_X11_known 11 rfl) rfl me_100 rfl pi_11 (by decide) fk_11_12 tw_607 (rfl) (by decide) ?_
      refine PW_iload_n (pc' := 23) (q := 1) (pw_dk dc_X11_known 12 rfl) rfl rfl rfl ?_
      obtain ⟨σ_3, e_4, h⟩ := lt_x h
      refine PZ_putX (pc' := 26) (σ' := σ_3) (id := 1200) (ci := 3) (nn := 0) (C0 := RX3) (T := TX3) (N := 9) (j := 1) (ty := tyX3 1) (pw_dk dc_X11_known 13 rfl) rfl me_1200 rfl pi_3 tyX3_ok nmX3 (by decide) fk_3_1 tw_524 rfl (tyX3_ok 1 (by decide)) (by first | rfl | decide) (by first | rfl | decide) e_4 ?_
      refine PW_iconst (pc' := 27) (v := 1) (pw_dk dc_X11_known 14 rfl) rfl (by decide) ?_
      have z := wp_some h
      exact PZ_iret (ty := .boolean) (pw_dk dc_X11_known 15 rfl) rfl (by decide) z
    · rw [if_neg c_2] at h
      refine PW_iconst (pc' := 17) (v := 0) (pw_dk dc_X11_known 8 rfl) rfl (by decide) ?_
      have z := wp_some h
      exact PZ_iret (ty := .boolean) (pw_dk dc_X11_known 9 rfl) rfl (by decide) z
def f_X11_whose_54 (r11 : Int32 → Int32 → zS → Option (Int32 × zS)) (x1 : Int32) (x2 : Int32) (σ : zS) : Option (Int32 × zS) := 
  r11 x1 (x2 + 1) σ
theorem b_X11_whose_54 {Q : Option Value → zS → Prop} (r11 : Int32 → Int32 → zS → Option (Int32 × zS)) (hr11 : ∀ (x1 : Int32) (x2 : Int32) (σ : zS), wpO (r11 x1 x2 σ) (fun a => Q (some (.int a.1)) a.2) → PZ alC mX11_whose (6) Q 11 [(0, .ref 100), (1, .int x1), (2, .int x2)] [] σ) (x1 : Int32) (x2 : Int32) (σ : zS) (h : wpO (f_X11_whose_54 r11 x1 x2 σ) (fun a => Q (some (.int a.1)) a.2)) : PZ alC mX11_whose (6) Q 54 [(0, .ref 100), (1, .int x1), (2, .int x2)] [] σ := by
  unfold f_X11_whose_54 at h
  refine PW_iinc (pc' := 57) (q := 2) (v := x2 + 1) (lv' := [(2, .int (x2 + 1)), (0, .ref 100), (1, .int x1)]) (pw_dk dc_X11_whose 30 rfl) rfl rfl rfl (by decide) rfl ?_
  refine PW_goto (tgt := 11) (pw_dk dc_X11_whose 31 rfl) (by decide) ?_
  refine PW_sub (lv' := [(0, .ref 100), (1, .int x1), (2, .int (x2 + 1))]) [1, 2, 0] rfl ?_
  exact hr11 x1 (x2 + 1) σ h
def f_X11_whose_11  : Nat → Int32 → Int32 → zS → Option (Int32 × zS)
  | 0, _, _, _ => none
  | n + 1, x1, x2, σ => 
    if (σ.1 (tv (σ.2.2 0)) 6) ≤ x2 then
      some (x1, σ)
    else
      (rdI σ (tv (σ.2.2 0) + 9) 5 x2).bind fun v_2 =>
      b2 (f_X3_fit v_2 (σ.1 (tv (σ.2.2 0)) 0) σ) fun v_7 σ_6 =>
      if v_7 = 0 then
        f_X11_whose_54 (f_X11_whose_11 n) x1 x2 σ_6
      else
        lt (α := Int32) (x1 ||| ((1 : Int32) <<< (x2 &&& 31))) fun x1_10 =>
        f_X11_whose_54 (f_X11_whose_11 n) x1_10 x2 σ_6
theorem b_X11_whose_11 {Q : Option Value → zS → Prop} : ∀ (n : Nat) (x1 : Int32) (x2 : Int32) (σ : zS) (h : wpO (f_X11_whose_11 n x1 x2 σ) (fun a => Q (some (.int a.1)) a.2)), PZ alC mX11_whose (6) Q 11 [(0, .ref 100), (1, .int x1), (2, .int x2)] [] σ := by
  intro n
  induction n with
  | zero => intro x1 x2 σ h; exact wp_none h
  | succ n ih =>
    intro x1 x2 σ h
    rw [f_X11_whose_11] at h
    refine PW_iload_n (pc' := 12) (q := 2) (pw_dk dc_X11_whose 7 rfl) rfl rfl rfl ?_
    refine PW_aload_n (pc' := 13) (q := 0) (pw_dk dc_X11_whose 8 rfl) rfl rfl rfl ?_
    refine PW_getR (pc' := 16) (id := 100) (ci := 11) (nn := 0) (C0 := RX11) (T := TX11) (N := 15) (j := 4) (r := tv (σ.2.2 0)) (pw_dk dc_X11_whose 9 rfl) rfl me_100 rfl pi_11 (by decide) fk_11_4 tw_599 (rf_M0 _) (tv0 _) ?_
    refine PZ_getI (pc' := 19) (id := (tv (σ.2.2 0))) (ci := 8) (nn := 0) (C0 := RX8) (T := TX8) (N := 18) (j := 6) (pw_dk dc_X11_whose 10 rfl) rfl (me_T _) rfl pi_8 (by decide) fk_8_6 tw_217 ?_
    refine PW_icmp_ge (pc' := 22) (tgt := 60) (pw_dk dc_X11_whose 11 rfl) rfl (by decide) (fun c_1 => ?_) (fun c_1 => ?_)
    · rw [if_pos c_1] at h
      refine PW_iload_n (pc' := 61) (q := 1) (pw_dk dc_X11_whose 32 rfl) rfl rfl rfl ?_
      have z := wp_some h
      exact PZ_iret (ty := .int) (pw_dk dc_X11_whose 33 rfl) rfl rfl z
    · rw [if_neg c_1] at h
      refine PW_aload_n (pc' := 23) (q := 0) (pw_dk dc_X11_whose 12 rfl) rfl rfl rfl ?_
      refine PW_getR (pc' := 26) (id := 100) (ci := 11) (nn := 0) (C0 := RX11) (T := TX11) (N := 15) (j := 12) (r := 1200) (pw_dk dc_X11_whose 13 rfl) rfl me_100 rfl pi_11 (by decide) fk_11_12 tw_607 (rfl) (by decide) ?_
      refine PW_aload_n (pc' := 27) (q := 0) (pw_dk dc_X11_whose 14 rfl) rfl rfl rfl ?_
      refine PW_getR (pc' := 30) (id := 100) (ci := 11) (nn := 0) (C0 := RX11) (T := TX11) (N := 15) (j := 4) (r := tv (σ.2.2 0)) (pw_dk dc_X11_whose 15 rfl) rfl me_100 rfl pi_11 (by decide) fk_11_4 tw_599 (rf_M0 _) (tv0 _) ?_
      refine PW_getR (pc' := 33) (id := (tv (σ.2.2 0))) (ci := 8) (nn := 0) (C0 := RX8) (T := TX8) (N := 18) (j := 8) (r := tv (σ.2.2 0) + 9) (pw_dk dc_X11_whose 16 rfl) rfl (me_T _) rfl pi_8 (by decide) fk_8_8 tw_222 (rf_T8 _ _) (su0 _ _) ?_
      refine PW_iload_n (pc' := 34) (q := 2) (pw_dk dc_X11_whose 17 rfl) rfl rfl rfl ?_
      obtain ⟨v_2, hi_3, e_4, h⟩ := wp_rdIx h
      refine PZ_ialdx (pc' := 35) (v := v_2) (id := (tv (σ.2.2 0) + 9)) (nn := 5) (pw_dk dc_X11_whose 18 rfl) rfl (me_T8 _) hi_3 e_4 ?_
      refine PW_aload_n (pc' := 36) (q := 0) (pw_dk dc_X11_whose 19 rfl) rfl rfl rfl ?_
      refine PW_getR (pc' := 39) (id := 100) (ci := 11) (nn := 0) (C0 := RX11) (T := TX11) (N := 15) (j := 4) (r := tv (σ.2.2 0)) (pw_dk dc_X11_whose 20 rfl) rfl me_100 rfl pi_11 (by decide) fk_11_4 tw_599 (rf_M0 _) (tv0 _) ?_
      refine PZ_getI (pc' := 42) (id := (tv (σ.2.2 0))) (ci := 8) (nn := 0) (C0 := RX8) (T := TX8) (N := 18) (j := 0) (pw_dk dc_X11_whose 21 rfl) rfl (me_T _) rfl pi_8 (by decide) fk_8_0 tw_202 ?_
      refine PZ_callVi (pc' := 45) (y := yX3_fit) (M' := mX3_fit) (d' := 5) (As := [.int v_2, .int (σ.1 (tv (σ.2.2 0)) 0)]) (st := []) (b := 1200) (ci := 3) (nn := 0) me_1200 rfl tw_1198 tw_1199 (pw_dk dc_X11_whose 22 rfl) rfl Y_X3_fit tw_1197 rfl (by decide) (Nat.le_of_ble_eq_true rfl) (t_X3_fit v_2 (σ.1 (tv (σ.2.2 0)) 0) σ _ ?_)
      obtain ⟨⟨v_7, σ_6⟩, e_8, h⟩ := wp_bind2 h
      refine ⟨(v_7, σ_6), e_8, _, rfl, fun hn_5 => ?_⟩
      show PZ alC mX11_whose (6) Q 45 [(0, .ref 100), (1, .int x1), (2, .int x2)] [.int v_7] σ_6
      refine PW_if_eq (pc' := 48) (tgt := 54) (pw_dk dc_X11_whose 23 rfl) rfl (by decide) (fun c_9 => ?_) (fun c_9 => ?_)
      · rw [if_pos c_9] at h
        exact b_X11_whose_54 (f_X11_whose_11 n) ih x1 x2 σ_6 h
      · rw [if_neg c_9] at h
        refine PW_iload_n (pc' := 49) (q := 1) (pw_dk dc_X11_whose 24 rfl) rfl rfl rfl ?_
        refine PW_iconst (pc' := 50) (v := 1) (pw_dk dc_X11_whose 25 rfl) rfl (by decide) ?_
        refine PW_iload_n (pc' := 51) (q := 2) (pw_dk dc_X11_whose 26 rfl) rfl rfl rfl ?_
        refine PW_ishl (pc' := 52) (pw_dk dc_X11_whose 27 rfl) rfl ?_
        refine PW_ior (pc' := 53) (pw_dk dc_X11_whose 28 rfl) rfl ?_
        refine PW_topi (fun x1_10 ex1_10 => ?_)
        replace h := lt_w h ex1_10
        refine PW_istore_n (pc' := 54) (lv' := [(1, .int x1_10), (0, .ref 100), (2, .int x2)]) (pw_dk dc_X11_whose 29 rfl) rfl rfl (by decide) rfl ?_
        refine PW_sub (lv' := [(0, .ref 100), (1, .int x1_10), (2, .int x2)]) [1, 0, 2] rfl ?_
        exact b_X11_whose_54 (f_X11_whose_11 n) ih x1_10 x2 σ_6 h
def f_X11_whose  (σ : zS) : Option (Int32 × zS) := 
  (f_X3_weigh σ).bind fun σ_2 =>
  f_X11_whose_11 FU 0 0 σ_2
theorem t_X11_whose (σ : zS) (Q : Option Value → zS → Prop) (h : wpO (f_X11_whose σ) (fun a => Q (some (.int a.1)) a.2)) : PK alC yX11_whose mX11_whose (6) [.ref 100] σ Q := by
  refine PC_ofF (by decide +kernel) rfl rfl (Nat.le_of_ble_eq_true rfl) ?_
  show PZ alC mX11_whose (6) Q 0 [(0, .ref 100)] [] σ
  unfold f_X11_whose at h
  refine PW_aload_n (pc' := 1) (q := 0) (pw_dk dc_X11_whose 0 rfl) rfl rfl rfl ?_
  refine PW_getR (pc' := 4) (id := 100) (ci := 11) (nn := 0) (C0 := RX11) (T := TX11) (N := 15) (j := 12) (r := 1200) (pw_dk dc_X11_whose 1 rfl) rfl me_100 rfl pi_11 (by decide) fk_11_12 tw_607 (rfl) (by decide) ?_
  refine PZ_callVv (pc' := 7) (y := yX3_weigh) (M' := mX3_weigh) (d' := 1) (As := []) (st := []) (b := 1200) (ci := 3) (nn := 0) me_1200 rfl tw_1190 tw_1191 (pw_dk dc_X11_whose 2 rfl) rfl Y_X3_weigh tw_1189 rfl (by decide) (Nat.le_of_ble_eq_true rfl) (t_X3_weigh σ _ ?_)
  obtain ⟨σ_2, e_3, h⟩ := wp_bind h
  refine ⟨σ_2, e_3, rfl, fun hn_1 => ?_⟩
  show PZ alC mX11_whose (6) Q 7 [(0, .ref 100)] [] σ_2
  refine PW_iconst (pc' := 8) (v := 0) (pw_dk dc_X11_whose 3 rfl) rfl (by decide) ?_
  refine PW_istore_n (pc' := 9) (lv' := [(1, .int 0), (0, .ref 100)]) (pw_dk dc_X11_whose 4 rfl) rfl rfl (by decide) rfl ?_
  refine PW_iconst (pc' := 10) (v := 0) (pw_dk dc_X11_whose 5 rfl) rfl (by decide) ?_
  refine PW_istore_n (pc' := 11) (lv' := [(2, .int 0), (1, .int 0), (0, .ref 100)]) (pw_dk dc_X11_whose 6 rfl) rfl rfl (by decide) rfl ?_
  refine PW_sub (lv' := [(0, .ref 100), (1, .int 0), (2, .int 0)]) [2, 1, 0] rfl ?_
  exact b_X11_whose_11 FU 0 0 σ_2 h
def f_X11_doneBy_45 (d1 : Nat) (r5 : Int32 → Int32 → Int32 → zS → Option Int32) (x2 : Int32) (x3 : Int32) (x4 : Int32) (σ : zS) : Option Int32 := 
  r5 x2 x3 (x4 + 1) σ
theorem b_X11_doneBy_45 {Q : Option Value → zS → Prop} (d1 : Nat) (hd1 : isDay d1) (r5 : Int32 → Int32 → Int32 → zS → Option Int32) (hr5 : ∀ (x2 : Int32) (x3 : Int32) (x4 : Int32) (σ : zS), wpO (r5 x2 x3 x4 σ) (fun a => Q (some (.int a)) σ) → PZ alC mX11_doneBy (0) Q 5 [(0, .ref 100), (1, .ref d1), (2, .int x2), (3, .int x3), (4, .int x4)] [] σ) (x2 : Int32) (x3 : Int32) (x4 : Int32) (σ : zS) (h : wpO (f_X11_doneBy_45 d1 r5 x2 x3 x4 σ) (fun a => Q (some (.int a)) σ)) : PZ alC mX11_doneBy (0) Q 45 [(0, .ref 100), (1, .ref d1), (2, .int x2), (3, .int x3), (4, .int x4)] [] σ := by
  unfold f_X11_doneBy_45 at h
  refine PW_iinc (pc' := 48) (q := 4) (v := x4 + 1) (lv' := [(4, .int (x4 + 1)), (0, .ref 100), (1, .ref d1), (2, .int x2), (3, .int x3)]) (pw_dk dc_X11_doneBy 23 rfl) rfl rfl rfl (by decide) rfl ?_
  refine PW_goto (tgt := 5) (pw_dk dc_X11_doneBy 24 rfl) (by decide) ?_
  refine PW_sub (lv' := [(0, .ref 100), (1, .ref d1), (2, .int x2), (3, .int x3), (4, .int (x4 + 1))]) [1, 2, 3, 4, 0] rfl ?_
  exact hr5 x2 x3 (x4 + 1) σ h
def f_X11_doneBy_5 (d1 : Nat) : Nat → Int32 → Int32 → Int32 → zS → Option Int32
  | 0, _, _, _, _ => none
  | n + 1, x2, x3, x4, σ => 
    if (σ.1 (tv (σ.2.2 0)) 11) ≤ x4 then
      some x3
    else
      (rdI σ (tv (σ.2.2 0) + 13) 12 x4).bind fun v_2 =>
      if v_2 = x2 then
        (rdI σ (d1 + 6) 12 x4).bind fun v_6 =>
        if v_6 = 1 then
          f_X11_doneBy_45 d1 (f_X11_doneBy_5 d1 n) x2 (x3 + 1) x4 σ
        else
          f_X11_doneBy_45 d1 (f_X11_doneBy_5 d1 n) x2 x3 x4 σ
      else
        f_X11_doneBy_45 d1 (f_X11_doneBy_5 d1 n) x2 x3 x4 σ
theorem b_X11_doneBy_5 {Q : Option Value → zS → Prop} (d1 : Nat) (hd1 : isDay d1) : ∀ (n : Nat) (x2 : Int32) (x3 : Int32) (x4 : Int32) (σ : zS) (h : wpO (f_X11_doneBy_5 d1 n x2 x3 x4 σ) (fun a => Q (some (.int a)) σ)), PZ alC mX11_doneBy (0) Q 5 [(0, .ref 100), (1, .ref d1), (2, .int x2), (3, .int x3), (4, .int x4)] [] σ := by
  intro n
  induction n with
  | zero => intro x2 x3 x4 σ h; exact wp_none h
  | succ n ih =>
    intro x2 x3 x4 σ h
    rw [f_X11_doneBy_5] at h
    refine PW_iload (pc' := 7) (q := 4) (pw_dk dc_X11_doneBy 4 rfl) rfl rfl ?_
    refine PW_aload_n (pc' := 8) (q := 0) (pw_dk dc_X11_doneBy 5 rfl) rfl rfl rfl ?_
    refine PW_getR (pc' := 11) (id := 100) (ci := 11) (nn := 0) (C0 := RX11) (T := TX11) (N := 15) (j := 4) (r := tv (σ.2.2 0)) (pw_dk dc_X11_doneBy 6 rfl) rfl me_100 rfl pi_11 (by decide) fk_11_4 tw_599 (rf_M0 _) (tv0 _) ?_
    refine PZ_getI (pc' := 14) (id := (tv (σ.2.2 0))) (ci := 8) (nn := 0) (C0 := RX8) (T := TX8) (N := 18) (j := 11) (pw_dk dc_X11_doneBy 7 rfl) rfl (me_T _) rfl pi_8 (by decide) fk_8_11 tw_230 ?_
    refine PW_icmp_ge (pc' := 17) (tgt := 51) (pw_dk dc_X11_doneBy 8 rfl) rfl (by decide) (fun c_1 => ?_) (fun c_1 => ?_)
    · rw [if_pos c_1] at h
      refine PW_iload_n (pc' := 52) (q := 3) (pw_dk dc_X11_doneBy 25 rfl) rfl rfl rfl ?_
      have z := wp_some h
      exact PZ_iret (ty := .int) (pw_dk dc_X11_doneBy 26 rfl) rfl rfl z
    · rw [if_neg c_1] at h
      refine PW_aload_n (pc' := 18) (q := 0) (pw_dk dc_X11_doneBy 9 rfl) rfl rfl rfl ?_
      refine PW_getR (pc' := 21) (id := 100) (ci := 11) (nn := 0) (C0 := RX11) (T := TX11) (N := 15) (j := 4) (r := tv (σ.2.2 0)) (pw_dk dc_X11_doneBy 10 rfl) rfl me_100 rfl pi_11 (by decide) fk_11_4 tw_599 (rf_M0 _) (tv0 _) ?_
      refine PW_getR (pc' := 24) (id := (tv (σ.2.2 0))) (ci := 8) (nn := 0) (C0 := RX8) (T := TX8) (N := 18) (j := 12) (r := tv (σ.2.2 0) + 13) (pw_dk dc_X11_doneBy 11 rfl) rfl (me_T _) rfl pi_8 (by decide) fk_8_12 tw_233 (rf_T12 _ _) (su0 _ _) ?_
      refine PW_iload (pc' := 26) (q := 4) (pw_dk dc_X11_doneBy 12 rfl) rfl rfl ?_
      obtain ⟨v_2, hi_3, e_4, h⟩ := wp_rdIx h
      refine PZ_ialdx (pc' := 27) (v := v_2) (id := (tv (σ.2.2 0) + 13)) (nn := 12) (pw_dk dc_X11_doneBy 13 rfl) rfl (me_T12 _) hi_3 e_4 ?_
      refine PW_iload_n (pc' := 28) (q := 2) (pw_dk dc_X11_doneBy 14 rfl) rfl rfl rfl ?_
      refine PW_icmp_ne (pc' := 31) (tgt := 45) (pw_dk dc_X11_doneBy 15 rfl) rfl (by decide) (fun c_5 => ?_) (fun c_5 => ?_)
      · rw [if_neg c_5] at h
        exact b_X11_doneBy_45 d1 hd1 (f_X11_doneBy_5 d1 n) ih x2 x3 x4 σ h
      · rw [if_pos c_5] at h
        refine PW_aload_n (pc' := 32) (q := 1) (pw_dk dc_X11_doneBy 16 rfl) rfl rfl rfl ?_
        refine PW_getR (pc' := 35) (id := d1) (ci := 0) (nn := 0) (C0 := RX0) (T := TX0) (N := 6) (j := 5) (r := d1 + 6) (pw_dk dc_X11_doneBy 17 rfl) rfl (me_D hd1) rfl pi_0 (by decide) fk_0_5 tw_474 (rf_D5 _ hd1) (su0 _ _) ?_
        refine PW_iload (pc' := 37) (q := 4) (pw_dk dc_X11_doneBy 18 rfl) rfl rfl ?_
        obtain ⟨v_6, hi_7, e_8, h⟩ := wp_rdIx h
        refine PZ_ialdx (pc' := 38) (v := v_6) (id := (d1 + 6)) (nn := 12) (pw_dk dc_X11_doneBy 19 rfl) rfl (me_D5 hd1) hi_7 e_8 ?_
        refine PW_iconst (pc' := 39) (v := 1) (pw_dk dc_X11_doneBy 20 rfl) rfl (by decide) ?_
        refine PW_icmp_ne (pc' := 42) (tgt := 45) (pw_dk dc_X11_doneBy 21 rfl) rfl (by decide) (fun c_9 => ?_) (fun c_9 => ?_)
        · rw [if_neg c_9] at h
          exact b_X11_doneBy_45 d1 hd1 (f_X11_doneBy_5 d1 n) ih x2 x3 x4 σ h
        · rw [if_pos c_9] at h
          refine PW_iinc (pc' := 45) (q := 3) (v := x3 + 1) (lv' := [(3, .int (x3 + 1)), (0, .ref 100), (1, .ref d1), (2, .int x2), (4, .int x4)]) (pw_dk dc_X11_doneBy 22 rfl) rfl rfl rfl (by decide) rfl ?_
          refine PW_sub (lv' := [(0, .ref 100), (1, .ref d1), (2, .int x2), (3, .int (x3 + 1)), (4, .int x4)]) [1, 2, 3, 0, 4] rfl ?_
          exact b_X11_doneBy_45 d1 hd1 (f_X11_doneBy_5 d1 n) ih x2 (x3 + 1) x4 σ h
def f_X11_doneBy (d1 : Nat) (x2 : Int32) (σ : zS) : Option Int32 := 
  f_X11_doneBy_5 d1 FU x2 0 0 σ
theorem t_X11_doneBy (d1 : Nat) (x2 : Int32) (hd1 : isDay d1) (σ : zS) (Q : Option Value → zS → Prop) (h : wpO (f_X11_doneBy d1 x2 σ) (fun a => Q (some (.int a)) σ)) : PK alC yX11_doneBy mX11_doneBy (0) [.ref 100, .ref d1, .int x2] σ Q := by
  refine PC_ofF (by decide +kernel) rfl rfl (Nat.le_of_ble_eq_true rfl) ?_
  show PZ alC mX11_doneBy (0) Q 0 [(0, .ref 100), (1, .ref d1), (2, .int x2)] [] σ
  unfold f_X11_doneBy at h
  refine PW_iconst (pc' := 1) (v := 0) (pw_dk dc_X11_doneBy 0 rfl) rfl (by decide) ?_
  refine PW_istore_n (pc' := 2) (lv' := [(3, .int 0), (0, .ref 100), (1, .ref d1), (2, .int x2)]) (pw_dk dc_X11_doneBy 1 rfl) rfl rfl (by decide) rfl ?_
  refine PW_iconst (pc' := 3) (v := 0) (pw_dk dc_X11_doneBy 2 rfl) rfl (by decide) ?_
  refine PW_istore (pc' := 5) (lv' := [(4, .int 0), (3, .int 0), (0, .ref 100), (1, .ref d1), (2, .int x2)]) (pw_dk dc_X11_doneBy 3 rfl) rfl (by decide) rfl ?_
  refine PW_sub (lv' := [(0, .ref 100), (1, .ref d1), (2, .int x2), (3, .int 0), (4, .int 0)]) [2, 3, 4, 1, 0] rfl ?_
  exact b_X11_doneBy_5 d1 hd1 FU x2 0 0 σ h
def f_X11_chance_83 (r34 : Int32 → Int32 → Int32 → Int64 → Int32 → zS → Option (Int32 × zS)) (x2 : Int32) (x3 : Int32) (x4 : Int32) (x5 : Int64) (x7 : Int32) (σ : zS) : Option (Int32 × zS) := 
  r34 x2 x3 x4 x5 (x7 + 1) σ
theorem b_X11_chance_83 {Q : Option Value → zS → Prop} (r34 : Int32 → Int32 → Int32 → Int64 → Int32 → zS → Option (Int32 × zS)) (hr34 : ∀ (x2 : Int32) (x3 : Int32) (x4 : Int32) (x5 : Int64) (x7 : Int32) (σ : zS), wpO (r34 x2 x3 x4 x5 x7 σ) (fun a => Q (some (.int a.1)) a.2) → PZ alC mX11_chance (8) Q 34 [(0, .ref 100), (2, .int x2), (3, .int x3), (4, .int x4), (5, .long x5), (7, .int x7)] [] σ) (x2 : Int32) (x3 : Int32) (x4 : Int32) (x5 : Int64) (x7 : Int32) (σ : zS) (h : wpO (f_X11_chance_83 r34 x2 x3 x4 x5 x7 σ) (fun a => Q (some (.int a.1)) a.2)) : PZ alC mX11_chance (8) Q 83 [(0, .ref 100), (2, .int x2), (3, .int x3), (4, .int x4), (5, .long x5), (7, .int x7)] [] σ := by
  unfold f_X11_chance_83 at h
  refine PW_iinc (pc' := 86) (q := 5) (v := x7 + 1) (lv' := [(7, .int (x7 + 1)), (0, .ref 100), (2, .int x2), (3, .int x3), (4, .int x4), (5, .long x5)]) (pw_dk dc_X11_chance 43 rfl) rfl rfl rfl (by decide) rfl ?_
  refine PW_goto (tgt := 34) (pw_dk dc_X11_chance 44 rfl) (by decide) ?_
  refine PW_sub (lv' := [(0, .ref 100), (2, .int x2), (3, .int x3), (4, .int x4), (5, .long x5), (7, .int (x7 + 1))]) [1, 2, 3, 4, 5, 0] rfl ?_
  exact hr34 x2 x3 x4 x5 (x7 + 1) σ h
def f_X11_chance_34  : Nat → Int32 → Int32 → Int32 → Int64 → Int32 → zS → Option (Int32 × zS)
  | 0, _, _, _, _, _, _ => none
  | n + 1, x2, x3, x4, x5, x7, σ => 
    if 10 ≤ x7 then
      some (x4, σ)
    else
      (f_X0_copyFrom 900 700 σ).bind fun σ_3 =>
      b2 (f_X5_passByChance 900 x5 σ_3) fun v_7 σ_6 =>
      (f_X11_doneBy 900 x2 σ_6).bind fun v_10 =>
      if v_10 < x3 then
        f_X11_chance_83 (f_X11_chance_34 n) x2 x3 x4 v_7 x7 σ_6
      else
        f_X11_chance_83 (f_X11_chance_34 n) x2 x3 (x4 + 1) v_7 x7 σ_6
theorem b_X11_chance_34 {Q : Option Value → zS → Prop} : ∀ (n : Nat) (x2 : Int32) (x3 : Int32) (x4 : Int32) (x5 : Int64) (x7 : Int32) (σ : zS) (h : wpO (f_X11_chance_34 n x2 x3 x4 x5 x7 σ) (fun a => Q (some (.int a.1)) a.2)), PZ alC mX11_chance (8) Q 34 [(0, .ref 100), (2, .int x2), (3, .int x3), (4, .int x4), (5, .long x5), (7, .int x7)] [] σ := by
  intro n
  induction n with
  | zero => intro x2 x3 x4 x5 x7 σ h; exact wp_none h
  | succ n ih =>
    intro x2 x3 x4 x5 x7 σ h
    rw [f_X11_chance_34] at h
    refine PW_iload (pc' := 36) (q := 5) (pw_dk dc_X11_chance 20 rfl) rfl rfl ?_
    refine PW_bipush (pc' := 38) (v := 10) (pw_dk dc_X11_chance 21 rfl) rfl (by decide) ?_
    refine PW_icmp_ge (pc' := 41) (tgt := 89) (pw_dk dc_X11_chance 22 rfl) rfl (by decide) (fun c_1 => ?_) (fun c_1 => ?_)
    · rw [if_pos c_1] at h
      refine PW_iload (pc' := 91) (q := 3) (pw_dk dc_X11_chance 45 rfl) rfl rfl ?_
      have z := wp_some h
      exact PZ_iret (ty := .int) (pw_dk dc_X11_chance 46 rfl) rfl rfl z
    · rw [if_neg c_1] at h
      refine PW_aload_n (pc' := 42) (q := 0) (pw_dk dc_X11_chance 23 rfl) rfl rfl rfl ?_
      refine PW_getR (pc' := 45) (id := 100) (ci := 11) (nn := 0) (C0 := RX11) (T := TX11) (N := 15) (j := 9) (r := 900) (pw_dk dc_X11_chance 24 rfl) rfl me_100 rfl pi_11 (by decide) fk_11_9 tw_604 (rfl) (by decide) ?_
      refine PW_aload_n (pc' := 46) (q := 0) (pw_dk dc_X11_chance 25 rfl) rfl rfl rfl ?_
      refine PW_getR (pc' := 49) (id := 100) (ci := 11) (nn := 0) (C0 := RX11) (T := TX11) (N := 15) (j := 7) (r := 700) (pw_dk dc_X11_chance 26 rfl) rfl me_100 rfl pi_11 (by decide) fk_11_7 tw_602 (rfl) (by decide) ?_
      refine PZ_callVv (pc' := 52) (y := yX0_copyFrom) (M' := mX0_copyFrom) (d' := 1) (As := [.ref 700]) (st := []) (b := 900) (ci := 0) (nn := 0) me_900 rfl tw_1232 tw_1233 (pw_dk dc_X11_chance 27 rfl) rfl Y_X0_copyFrom tw_1231 rfl (by decide) (Nat.le_of_ble_eq_true rfl) (t_X0_copyFrom 900 700 (Or.inr (Or.inr rfl)) (Or.inl rfl) σ _ ?_)
      obtain ⟨σ_3, e_4, h⟩ := wp_bind h
      refine ⟨σ_3, e_4, rfl, fun hn_2 => ?_⟩
      show PZ alC mX11_chance (8) Q 52 [(0, .ref 100), (2, .int x2), (3, .int x3), (4, .int x4), (5, .long x5), (7, .int x7)] [] σ_3
      refine PW_aload_n (pc' := 53) (q := 0) (pw_dk dc_X11_chance 28 rfl) rfl rfl rfl ?_
      refine PW_getR (pc' := 56) (id := 100) (ci := 11) (nn := 0) (C0 := RX11) (T := TX11) (N := 15) (j := 6) (r := 1000) (pw_dk dc_X11_chance 29 rfl) rfl me_100 rfl pi_11 (by decide) fk_11_6 tw_601 (rfl) (by decide) ?_
      refine PW_aload_n (pc' := 57) (q := 0) (pw_dk dc_X11_chance 30 rfl) rfl rfl rfl ?_
      refine PW_getR (pc' := 60) (id := 100) (ci := 11) (nn := 0) (C0 := RX11) (T := TX11) (N := 15) (j := 9) (r := 900) (pw_dk dc_X11_chance 31 rfl) rfl me_100 rfl pi_11 (by decide) fk_11_9 tw_604 (rfl) (by decide) ?_
      refine PW_lload (pc' := 62) (q := 4) (pw_dk dc_X11_chance 32 rfl) rfl rfl ?_
      refine PZ_callVl (pc' := 65) (y := yX5_passByChance) (M' := mX5_passByChance) (d' := 7) (As := [.ref 900, .long x5]) (st := []) (b := 1000) (ci := 5) (nn := 0) me_1000 rfl tw_1236 tw_1237 (pw_dk dc_X11_chance 33 rfl) rfl Y_X5_passByChance tw_1235 rfl (by decide) (Nat.le_of_ble_eq_true rfl) (t_X5_passByChance 900 x5 (Or.inr (Or.inr rfl)) σ_3 _ ?_)
      obtain ⟨⟨v_7, σ_6⟩, e_8, h⟩ := wp_bind2 h
      refine ⟨(v_7, σ_6), e_8, _, rfl, fun hn_5 => ?_⟩
      show PZ alC mX11_chance (8) Q 65 [(0, .ref 100), (2, .int x2), (3, .int x3), (4, .int x4), (5, .long x5), (7, .int x7)] [.long v_7] σ_6
      refine PW_lstore (pc' := 67) (lv' := [(5, .long v_7), (0, .ref 100), (2, .int x2), (3, .int x3), (4, .int x4), (7, .int x7)]) (pw_dk dc_X11_chance 34 rfl) rfl (by decide) rfl ?_
      refine PW_aload_n (pc' := 68) (q := 1) (pw_dk dc_X11_chance 35 rfl) rfl rfl rfl ?_
      refine PW_aload_n (pc' := 69) (q := 1) (pw_dk dc_X11_chance 36 rfl) rfl rfl rfl ?_
      refine PW_getR (pc' := 72) (id := 100) (ci := 11) (nn := 0) (C0 := RX11) (T := TX11) (N := 15) (j := 9) (r := 900) (pw_dk dc_X11_chance 37 rfl) rfl me_100 rfl pi_11 (by decide) fk_11_9 tw_604 (rfl) (by decide) ?_
      refine PW_iload_n (pc' := 73) (q := 2) (pw_dk dc_X11_chance 38 rfl) rfl rfl rfl ?_
      refine PZ_callVi (pc' := 76) (y := yX11_doneBy) (M' := mX11_doneBy) (d' := 0) (As := [.ref 900, .int x2]) (st := []) (b := 100) (ci := 11) (nn := 0) me_100 rfl tw_1248 tw_44 (pw_dk dc_X11_chance 39 rfl) rfl Y_X11_doneBy tw_1246 rfl (by decide) (Nat.le_of_ble_eq_true rfl) (t_X11_doneBy 900 x2 (Or.inr (Or.inr rfl)) σ_6 _ ?_)
      obtain ⟨v_10, e_11, h⟩ := wp_bind h
      refine ⟨v_10, e_11, _, rfl, fun hn_9 => ?_⟩
      show PZ alC mX11_chance (8) Q 76 [(5, .long v_7), (0, .ref 100), (2, .int x2), (3, .int x3), (4, .int x4), (7, .int x7)] [.int v_10] σ_6
      refine PW_iload_n (pc' := 77) (q := 3) (pw_dk dc_X11_chance 40 rfl) rfl rfl rfl ?_
      refine PW_icmp_lt (pc' := 80) (tgt := 83) (pw_dk dc_X11_chance 41 rfl) rfl (by decide) (fun c_12 => ?_) (fun c_12 => ?_)
      · rw [if_pos c_12] at h
        refine PW_sub (lv' := [(0, .ref 100), (2, .int x2), (3, .int x3), (4, .int x4), (5, .long v_7), (7, .int x7)]) [1, 2, 3, 4, 0, 5] rfl ?_
        exact b_X11_chance_83 (f_X11_chance_34 n) ih x2 x3 x4 v_7 x7 σ_6 h
      · rw [if_neg c_12] at h
        refine PW_iinc (pc' := 83) (q := 4) (v := x4 + 1) (lv' := [(4, .int (x4 + 1)), (5, .long v_7), (0, .ref 100), (2, .int x2), (3, .int x3), (7, .int x7)]) (pw_dk dc_X11_chance 42 rfl) rfl rfl rfl (by decide) rfl ?_
        refine PW_sub (lv' := [(0, .ref 100), (2, .int x2), (3, .int x3), (4, .int (x4 + 1)), (5, .long v_7), (7, .int x7)]) [2, 3, 4, 0, 1, 5] rfl ?_
        exact b_X11_chance_83 (f_X11_chance_34 n) ih x2 x3 (x4 + 1) v_7 x7 σ_6 h
def f_X11_chance (x1 : Int32) (x2 : Int32) (x3 : Int32) (σ : zS) : Option (Int32 × zS) := 
  if x1 < 0 then
    some ((-1 : Int32), σ)
  else
    if (f_X11_isMan x2 σ) = 0 then
      some ((-1 : Int32), σ)
    else
      if x3 < 0 then
        some ((-1 : Int32), σ)
      else
        if x3 ≤ 12 then
          lt (α := Int64) (x1.toInt64) fun x5_6 =>
          f_X11_chance_34 FU x2 x3 0 x5_6 0 σ
        else
          some ((-1 : Int32), σ)
theorem t_X11_chance (x1 : Int32) (x2 : Int32) (x3 : Int32) (σ : zS) (Q : Option Value → zS → Prop) (h : wpO (f_X11_chance x1 x2 x3 σ) (fun a => Q (some (.int a.1)) a.2)) : PK alC yX11_chance mX11_chance (8) [.ref 100, .int x1, .int x2, .int x3] σ Q := by
  refine PC_ofF (by decide +kernel) rfl rfl (Nat.le_of_ble_eq_true rfl) ?_
  show PZ alC mX11_chance (8) Q 0 [(0, .ref 100), (1, .int x1), (2, .int x2), (3, .int x3)] [] σ
  unfold f_X11_chance at h
  refine PW_iload_n (pc' := 1) (q := 1) (pw_dk dc_X11_chance 0 rfl) rfl rfl rfl ?_
  refine PW_if_lt (pc' := 4) (tgt := 22) (pw_dk dc_X11_chance 1 rfl) rfl (by decide) (fun c_1 => ?_) (fun c_1 => ?_)
  · rw [if_pos c_1] at h
    refine PW_iconst (pc' := 23) (v := (-1 : Int32)) (pw_dk dc_X11_chance 11 rfl) rfl (by decide) ?_
    have z := wp_some h
    exact PZ_iret (ty := .int) (pw_dk dc_X11_chance 12 rfl) rfl rfl z
  · rw [if_neg c_1] at h
    refine PW_aload_n (pc' := 5) (q := 0) (pw_dk dc_X11_chance 2 rfl) rfl rfl rfl ?_
    refine PW_iload_n (pc' := 6) (q := 2) (pw_dk dc_X11_chance 3 rfl) rfl rfl rfl ?_
    refine PZ_callVi (pc' := 9) (y := yX11_isMan) (M' := mX11_isMan) (d' := 0) (As := [.int x2]) (st := []) (b := 100) (ci := 11) (nn := 0) me_100 rfl tw_903 tw_29 (pw_dk dc_X11_chance 4 rfl) rfl Y_X11_isMan tw_901 rfl (by decide) (Nat.le_of_ble_eq_true rfl) (t_X11_isMan x2 σ _ ?_)
    refine ⟨_, rfl, fun hn_2 => ?_⟩
    show PZ alC mX11_chance (8) Q 9 [(0, .ref 100), (1, .int x1), (2, .int x2), (3, .int x3)] [.int (f_X11_isMan x2 σ)] σ
    refine PW_if_eq (pc' := 12) (tgt := 22) (pw_dk dc_X11_chance 5 rfl) rfl (by decide) (fun c_3 => ?_) (fun c_3 => ?_)
    · rw [if_pos c_3] at h
      refine PW_iconst (pc' := 23) (v := (-1 : Int32)) (pw_dk dc_X11_chance 11 rfl) rfl (by decide) ?_
      have z := wp_some h
      exact PZ_iret (ty := .int) (pw_dk dc_X11_chance 12 rfl) rfl rfl z
    · rw [if_neg c_3] at h
      refine PW_iload_n (pc' := 13) (q := 3) (pw_dk dc_X11_chance 6 rfl) rfl rfl rfl ?_
      refine PW_if_lt (pc' := 16) (tgt := 22) (pw_dk dc_X11_chance 7 rfl) rfl (by decide) (fun c_4 => ?_) (fun c_4 => ?_)
      · rw [if_pos c_4] at h
        refine PW_iconst (pc' := 23) (v := (-1 : Int32)) (pw_dk dc_X11_chance 11 rfl) rfl (by decide) ?_
        have z := wp_some h
        exact PZ_iret (ty := .int) (pw_dk dc_X11_chance 12 rfl) rfl rfl z
      · rw [if_neg c_4] at h
        refine PW_iload_n (pc' := 17) (q := 3) (pw_dk dc_X11_chance 8 rfl) rfl rfl rfl ?_
        refine PW_bipush (pc' := 19) (v := 12) (pw_dk dc_X11_chance 9 rfl) rfl (by decide) ?_
        refine PW_icmp_le (pc' := 22) (tgt := 24) (pw_dk dc_X11_chance 10 rfl) rfl (by decide) (fun c_5 => ?_) (fun c_5 => ?_)
        · rw [if_pos c_5] at h
          refine PW_iconst (pc' := 25) (v := 0) (pw_dk dc_X11_chance 13 rfl) rfl (by decide) ?_
          refine PW_istore (pc' := 27) (lv' := [(4, .int 0), (0, .ref 100), (1, .int x1), (2, .int x2), (3, .int x3)]) (pw_dk dc_X11_chance 14 rfl) rfl (by decide) rfl ?_
          refine PW_iload_n (pc' := 28) (q := 2) (pw_dk dc_X11_chance 15 rfl) rfl rfl rfl ?_
          refine PW_i2l (pc' := 29) (pw_dk dc_X11_chance 16 rfl) rfl ?_
          refine PW_topl (fun x5_6 ex5_6 => ?_)
          replace h := lt_w h ex5_6
          refine PW_lstore (pc' := 31) (lv' := [(5, .long x5_6), (4, .int 0), (0, .ref 100), (1, .int x1), (2, .int x2), (3, .int x3)]) (pw_dk dc_X11_chance 17 rfl) rfl (by decide) rfl ?_
          refine PW_iconst (pc' := 32) (v := 0) (pw_dk dc_X11_chance 18 rfl) rfl (by decide) ?_
          refine PW_istore (pc' := 34) (lv' := [(7, .int 0), (5, .long x5_6), (4, .int 0), (0, .ref 100), (1, .int x1), (2, .int x2), (3, .int x3)]) (pw_dk dc_X11_chance 19 rfl) rfl (by decide) rfl ?_
          refine PW_sub (lv' := [(0, .ref 100), (2, .int x2), (3, .int x3), (4, .int 0), (5, .long x5_6), (7, .int 0)]) [3, 5, 6, 2, 1, 0] rfl ?_
          exact b_X11_chance_34 FU x2 x3 0 x5_6 0 σ h
        · rw [if_neg c_5] at h
          refine PW_iconst (pc' := 23) (v := (-1 : Int32)) (pw_dk dc_X11_chance 11 rfl) rfl (by decide) ?_
          have z := wp_some h
          exact PZ_iret (ty := .int) (pw_dk dc_X11_chance 12 rfl) rfl rfl z
def f_X11_tried_103  : Nat → Int32 → zS → Option (Int32 × zS)
  | 0, _, _ => none
  | n + 1, x3, σ => 
    if 24 ≤ x3 then
      lt (wI σ 1000 1 (-1 : Int32)) fun σ_2 =>
      lt (wI σ_2 1000 2 (-1 : Int32)) fun σ_4 =>
      (f_X0_fated 900 1 (σ_4.1 (tv (σ_4.2.2 0)) 11) σ_4).bind fun v_7 =>
      some (v_7, σ_4)
    else
      (f_X5_passHour 900 σ).bind fun σ_10 =>
      f_X11_tried_103 n (x3 + 1) σ_10
theorem b_X11_tried_103 {Q : Option Value → zS → Prop} : ∀ (n : Nat) (x3 : Int32) (σ : zS) (h : wpO (f_X11_tried_103 n x3 σ) (fun a => Q (some (.int a.1)) a.2)), PZ alC mX11_tried (7) Q 103 [(0, .ref 100), (3, .int x3)] [] σ := by
  intro n
  induction n with
  | zero => intro x3 σ h; exact wp_none h
  | succ n ih =>
    intro x3 σ h
    rw [f_X11_tried_103] at h
    refine PW_iload_n (pc' := 104) (q := 1) (pw_dk dc_X11_tried 53 rfl) rfl rfl rfl ?_
    refine PW_bipush (pc' := 106) (v := 24) (pw_dk dc_X11_tried 54 rfl) rfl (by decide) ?_
    refine PW_icmp_ge (pc' := 109) (tgt := 126) (pw_dk dc_X11_tried 55 rfl) rfl (by decide) (fun c_1 => ?_) (fun c_1 => ?_)
    · rw [if_pos c_1] at h
      refine PW_aload_n (pc' := 127) (q := 0) (pw_dk dc_X11_tried 63 rfl) rfl rfl rfl ?_
      refine PW_getR (pc' := 130) (id := 100) (ci := 11) (nn := 0) (C0 := RX11) (T := TX11) (N := 15) (j := 6) (r := 1000) (pw_dk dc_X11_tried 64 rfl) rfl me_100 rfl pi_11 (by decide) fk_11_6 tw_601 (rfl) (by decide) ?_
      refine PW_iconst (pc' := 131) (v := (-1 : Int32)) (pw_dk dc_X11_tried 65 rfl) rfl (by decide) ?_
      obtain ⟨σ_2, e_3, h⟩ := lt_x h
      refine PZ_putX (pc' := 134) (σ' := σ_2) (id := 1000) (ci := 5) (nn := 0) (C0 := RX5) (T := TX5) (N := 3) (j := 1) (ty := tyX5 1) (pw_dk dc_X11_tried 66 rfl) rfl me_1000 rfl pi_5 tyX5_ok nmX5 (by decide) fk_5_1 tw_438 rfl (tyX5_ok 1 (by decide)) (by first | rfl | decide) (by first | rfl | decide) e_3 ?_
      refine PW_aload_n (pc' := 135) (q := 0) (pw_dk dc_X11_tried 67 rfl) rfl rfl rfl ?_
      refine PW_getR (pc' := 138) (id := 100) (ci := 11) (nn := 0) (C0 := RX11) (T := TX11) (N := 15) (j := 6) (r := 1000) (pw_dk dc_X11_tried 68 rfl) rfl me_100 rfl pi_11 (by decide) fk_11_6 tw_601 (rfl) (by decide) ?_
      refine PW_iconst (pc' := 139) (v := (-1 : Int32)) (pw_dk dc_X11_tried 69 rfl) rfl (by decide) ?_
      obtain ⟨σ_4, e_5, h⟩ := lt_x h
      refine PZ_putX (pc' := 142) (σ' := σ_4) (id := 1000) (ci := 5) (nn := 0) (C0 := RX5) (T := TX5) (N := 3) (j := 2) (ty := tyX5 2) (pw_dk dc_X11_tried 70 rfl) rfl me_1000 rfl pi_5 tyX5_ok nmX5 (by decide) fk_5_2 tw_440 rfl (tyX5_ok 2 (by decide)) (by first | rfl | decide) (by first | rfl | decide) e_5 ?_
      refine PW_aload_n (pc' := 143) (q := 0) (pw_dk dc_X11_tried 71 rfl) rfl rfl rfl ?_
      refine PW_getR (pc' := 146) (id := 100) (ci := 11) (nn := 0) (C0 := RX11) (T := TX11) (N := 15) (j := 9) (r := 900) (pw_dk dc_X11_tried 72 rfl) rfl me_100 rfl pi_11 (by decide) fk_11_9 tw_604 (rfl) (by decide) ?_
      refine PW_iconst (pc' := 147) (v := 1) (pw_dk dc_X11_tried 73 rfl) rfl (by decide) ?_
      refine PW_aload_n (pc' := 148) (q := 0) (pw_dk dc_X11_tried 74 rfl) rfl rfl rfl ?_
      refine PW_getR (pc' := 151) (id := 100) (ci := 11) (nn := 0) (C0 := RX11) (T := TX11) (N := 15) (j := 4) (r := tv (σ_4.2.2 0)) (pw_dk dc_X11_tried 75 rfl) rfl me_100 rfl pi_11 (by decide) fk_11_4 tw_599 (rf_M0 _) (tv0 _) ?_
      refine PZ_getI (pc' := 154) (id := (tv (σ_4.2.2 0))) (ci := 8) (nn := 0) (C0 := RX8) (T := TX8) (N := 18) (j := 11) (pw_dk dc_X11_tried 76 rfl) rfl (me_T _) rfl pi_8 (by decide) fk_8_11 tw_230 ?_
      refine PZ_callVi (pc' := 157) (y := yX0_fated) (M' := mX0_fated) (d' := 0) (As := [.int 1, .int (σ_4.1 (tv (σ_4.2.2 0)) 11)]) (st := []) (b := 900) (ci := 0) (nn := 0) me_900 rfl tw_1260 tw_1261 (pw_dk dc_X11_tried 77 rfl) rfl Y_X0_fated tw_1259 rfl (by decide) (Nat.le_of_ble_eq_true rfl) (t_X0_fated 900 1 (σ_4.1 (tv (σ_4.2.2 0)) 11) (Or.inr (Or.inr rfl)) σ_4 _ ?_)
      obtain ⟨v_7, e_8, h⟩ := wp_bind h
      refine ⟨v_7, e_8, _, rfl, fun hn_6 => ?_⟩
      show PZ alC mX11_tried (7) Q 157 [(0, .ref 100), (3, .int x3)] [.int v_7] σ_4
      have z := wp_some h
      exact PZ_iret (ty := .int) (pw_dk dc_X11_tried 78 rfl) rfl rfl z
    · rw [if_neg c_1] at h
      refine PW_aload_n (pc' := 110) (q := 0) (pw_dk dc_X11_tried 56 rfl) rfl rfl rfl ?_
      refine PW_getR (pc' := 113) (id := 100) (ci := 11) (nn := 0) (C0 := RX11) (T := TX11) (N := 15) (j := 6) (r := 1000) (pw_dk dc_X11_tried 57 rfl) rfl me_100 rfl pi_11 (by decide) fk_11_6 tw_601 (rfl) (by decide) ?_
      refine PW_aload_n (pc' := 114) (q := 0) (pw_dk dc_X11_tried 58 rfl) rfl rfl rfl ?_
      refine PW_getR (pc' := 117) (id := 100) (ci := 11) (nn := 0) (C0 := RX11) (T := TX11) (N := 15) (j := 9) (r := 900) (pw_dk dc_X11_tried 59 rfl) rfl me_100 rfl pi_11 (by decide) fk_11_9 tw_604 (rfl) (by decide) ?_
      refine PZ_callVv (pc' := 120) (y := yX5_passHour) (M' := mX5_passHour) (d' := 6) (As := [.ref 900]) (st := []) (b := 1000) (ci := 5) (nn := 0) me_1000 rfl tw_1020 tw_1021 (pw_dk dc_X11_tried 60 rfl) rfl Y_X5_passHour tw_1019 rfl (by decide) (Nat.le_of_ble_eq_true rfl) (t_X5_passHour 900 (Or.inr (Or.inr rfl)) σ _ ?_)
      obtain ⟨σ_10, e_11, h⟩ := wp_bind h
      refine ⟨σ_10, e_11, rfl, fun hn_9 => ?_⟩
      show PZ alC mX11_tried (7) Q 120 [(0, .ref 100), (3, .int x3)] [] σ_10
      refine PW_iinc (pc' := 123) (q := 1) (v := x3 + 1) (lv' := [(3, .int (x3 + 1)), (0, .ref 100)]) (pw_dk dc_X11_tried 61 rfl) rfl rfl rfl (by decide) rfl ?_
      refine PW_goto (tgt := 103) (pw_dk dc_X11_tried 62 rfl) (by decide) ?_
      refine PW_sub (lv' := [(0, .ref 100), (3, .int (x3 + 1))]) [1, 0] rfl ?_
      exact ih (x3 + 1) σ_10 h
def f_X11_tried_92  (s1 : Int32) (σ : zS) : Option (Int32 × zS) := 
  lt (wI σ 1000 2 s1) fun σ_1 =>
  lt (α := Int32) (σ_1.1 700 0) fun x3_3 =>
  f_X11_tried_103 FU x3_3 σ_1
theorem b_X11_tried_92 {Q : Option Value → zS → Prop} (s1 : Int32) (σ : zS) (h : wpO (f_X11_tried_92 s1 σ) (fun a => Q (some (.int a.1)) a.2)) : PZ alC mX11_tried (7) Q 92 [(0, .ref 100)] [.int s1, .ref 1000] σ := by
  unfold f_X11_tried_92 at h
  obtain ⟨σ_1, e_2, h⟩ := lt_x h
  refine PZ_putX (pc' := 95) (σ' := σ_1) (id := 1000) (ci := 5) (nn := 0) (C0 := RX5) (T := TX5) (N := 3) (j := 2) (ty := tyX5 2) (pw_dk dc_X11_tried 48 rfl) rfl me_1000 rfl pi_5 tyX5_ok nmX5 (by decide) fk_5_2 tw_440 rfl (tyX5_ok 2 (by decide)) (by first | rfl | decide) (by first | rfl | decide) e_2 ?_
  refine PW_aload_n (pc' := 96) (q := 0) (pw_dk dc_X11_tried 49 rfl) rfl rfl rfl ?_
  refine PW_getR (pc' := 99) (id := 100) (ci := 11) (nn := 0) (C0 := RX11) (T := TX11) (N := 15) (j := 7) (r := 700) (pw_dk dc_X11_tried 50 rfl) rfl me_100 rfl pi_11 (by decide) fk_11_7 tw_602 (rfl) (by decide) ?_
  refine PZ_getI (pc' := 102) (id := 700) (ci := 0) (nn := 0) (C0 := RX0) (T := TX0) (N := 6) (j := 0) (pw_dk dc_X11_tried 51 rfl) rfl me_700 rfl pi_0 (by decide) fk_0_0 tw_456 ?_
  refine PW_topi (fun x3_3 ex3_3 => ?_)
  replace h := lt_w h ex3_3
  refine PW_istore_n (pc' := 103) (lv' := [(3, .int x3_3), (0, .ref 100)]) (pw_dk dc_X11_tried 52 rfl) rfl rfl (by decide) rfl ?_
  refine PW_sub (lv' := [(0, .ref 100), (3, .int x3_3)]) [1, 0] rfl ?_
  exact b_X11_tried_103 FU x3_3 σ_1 h
def f_X11_tried_70  (x1 : Int32) (x2 : Int32) (σ : zS) : Option (Int32 × zS) := 
  lt (wI σ 1000 1 x1) fun σ_1 =>
  if x1 = 3 then
    f_X11_tried_92 x2 σ_1
  else
    f_X11_tried_92 (-1 : Int32) σ_1
theorem b_X11_tried_70 {Q : Option Value → zS → Prop} (x1 : Int32) (x2 : Int32) (σ : zS) (h : wpO (f_X11_tried_70 x1 x2 σ) (fun a => Q (some (.int a.1)) a.2)) : PZ alC mX11_tried (7) Q 70 [(0, .ref 100), (1, .int x1), (2, .int x2)] [] σ := by
  unfold f_X11_tried_70 at h
  refine PW_aload_n (pc' := 71) (q := 0) (pw_dk dc_X11_tried 36 rfl) rfl rfl rfl ?_
  refine PW_getR (pc' := 74) (id := 100) (ci := 11) (nn := 0) (C0 := RX11) (T := TX11) (N := 15) (j := 6) (r := 1000) (pw_dk dc_X11_tried 37 rfl) rfl me_100 rfl pi_11 (by decide) fk_11_6 tw_601 (rfl) (by decide) ?_
  refine PW_iload_n (pc' := 75) (q := 1) (pw_dk dc_X11_tried 38 rfl) rfl rfl rfl ?_
  obtain ⟨σ_1, e_2, h⟩ := lt_x h
  refine PZ_putX (pc' := 78) (σ' := σ_1) (id := 1000) (ci := 5) (nn := 0) (C0 := RX5) (T := TX5) (N := 3) (j := 1) (ty := tyX5 1) (pw_dk dc_X11_tried 39 rfl) rfl me_1000 rfl pi_5 tyX5_ok nmX5 (by decide) fk_5_1 tw_438 rfl (tyX5_ok 1 (by decide)) (by first | rfl | decide) (by first | rfl | decide) e_2 ?_
  refine PW_aload_n (pc' := 79) (q := 0) (pw_dk dc_X11_tried 40 rfl) rfl rfl rfl ?_
  refine PW_getR (pc' := 82) (id := 100) (ci := 11) (nn := 0) (C0 := RX11) (T := TX11) (N := 15) (j := 6) (r := 1000) (pw_dk dc_X11_tried 41 rfl) rfl me_100 rfl pi_11 (by decide) fk_11_6 tw_601 (rfl) (by decide) ?_
  refine PW_iload_n (pc' := 83) (q := 1) (pw_dk dc_X11_tried 42 rfl) rfl rfl rfl ?_
  refine PW_iconst (pc' := 84) (v := 3) (pw_dk dc_X11_tried 43 rfl) rfl (by decide) ?_
  refine PW_icmp_ne (pc' := 87) (tgt := 91) (pw_dk dc_X11_tried 44 rfl) rfl (by decide) (fun c_3 => ?_) (fun c_3 => ?_)
  · rw [if_neg c_3] at h
    refine PW_iconst (pc' := 92) (v := (-1 : Int32)) (pw_dk dc_X11_tried 47 rfl) rfl (by decide) ?_
    refine PW_sub (lv' := [(0, .ref 100)]) [0] rfl ?_
    exact b_X11_tried_92 (-1 : Int32) σ_1 h
  · rw [if_pos c_3] at h
    refine PW_iload_n (pc' := 88) (q := 2) (pw_dk dc_X11_tried 45 rfl) rfl rfl rfl ?_
    refine PW_goto (tgt := 92) (pw_dk dc_X11_tried 46 rfl) (by decide) ?_
    refine PW_sub (lv' := [(0, .ref 100)]) [0] rfl ?_
    exact b_X11_tried_92 x2 σ_1 h
def f_X11_tried_58  (x1 : Int32) (x2 : Int32) (σ : zS) : Option (Int32 × zS) := 
  if x1 = 5 then
    (f_X0_turnNorth 900 σ).bind fun σ_3 =>
    f_X11_tried_70 x1 x2 σ_3
  else
    f_X11_tried_70 x1 x2 σ
theorem b_X11_tried_58 {Q : Option Value → zS → Prop} (x1 : Int32) (x2 : Int32) (σ : zS) (h : wpO (f_X11_tried_58 x1 x2 σ) (fun a => Q (some (.int a.1)) a.2)) : PZ alC mX11_tried (7) Q 58 [(0, .ref 100), (1, .int x1), (2, .int x2)] [] σ := by
  unfold f_X11_tried_58 at h
  refine PW_iload_n (pc' := 59) (q := 1) (pw_dk dc_X11_tried 30 rfl) rfl rfl rfl ?_
  refine PW_iconst (pc' := 60) (v := 5) (pw_dk dc_X11_tried 31 rfl) rfl (by decide) ?_
  refine PW_icmp_ne (pc' := 63) (tgt := 70) (pw_dk dc_X11_tried 32 rfl) rfl (by decide) (fun c_1 => ?_) (fun c_1 => ?_)
  · rw [if_neg c_1] at h
    exact b_X11_tried_70 x1 x2 σ h
  · rw [if_pos c_1] at h
    refine PW_aload_n (pc' := 64) (q := 0) (pw_dk dc_X11_tried 33 rfl) rfl rfl rfl ?_
    refine PW_getR (pc' := 67) (id := 100) (ci := 11) (nn := 0) (C0 := RX11) (T := TX11) (N := 15) (j := 9) (r := 900) (pw_dk dc_X11_tried 34 rfl) rfl me_100 rfl pi_11 (by decide) fk_11_9 tw_604 (rfl) (by decide) ?_
    refine PZ_callVv (pc' := 70) (y := yX0_turnNorth) (M' := mX0_turnNorth) (d' := 1) (As := []) (st := []) (b := 900) (ci := 0) (nn := 0) me_900 rfl tw_1255 tw_1256 (pw_dk dc_X11_tried 35 rfl) rfl Y_X0_turnNorth tw_1254 rfl (by decide) (Nat.le_of_ble_eq_true rfl) (t_X0_turnNorth 900 (Or.inr (Or.inr rfl)) σ _ ?_)
    obtain ⟨σ_3, e_4, h⟩ := wp_bind h
    refine ⟨σ_3, e_4, rfl, fun hn_2 => ?_⟩
    show PZ alC mX11_tried (7) Q 70 [(0, .ref 100), (1, .int x1), (2, .int x2)] [] σ_3
    exact b_X11_tried_70 x1 x2 σ_3 h
def f_X11_tried_31  (x1 : Int32) (x2 : Int32) (σ : zS) : Option (Int32 × zS) := 
  (f_X0_copyFrom 900 700 σ).bind fun σ_2 =>
  if x1 = 4 then
    (f_J7_fill_53178 905 5 0 σ_2).bind fun σ_6 =>
    f_X11_tried_58 x1 x2 σ_6
  else
    f_X11_tried_58 x1 x2 σ_2
theorem b_X11_tried_31 {Q : Option Value → zS → Prop} (x1 : Int32) (x2 : Int32) (σ : zS) (h : wpO (f_X11_tried_31 x1 x2 σ) (fun a => Q (some (.int a.1)) a.2)) : PZ alC mX11_tried (7) Q 31 [(0, .ref 100), (1, .int x1), (2, .int x2)] [] σ := by
  unfold f_X11_tried_31 at h
  refine PW_aload_n (pc' := 32) (q := 0) (pw_dk dc_X11_tried 17 rfl) rfl rfl rfl ?_
  refine PW_getR (pc' := 35) (id := 100) (ci := 11) (nn := 0) (C0 := RX11) (T := TX11) (N := 15) (j := 9) (r := 900) (pw_dk dc_X11_tried 18 rfl) rfl me_100 rfl pi_11 (by decide) fk_11_9 tw_604 (rfl) (by decide) ?_
  refine PW_aload_n (pc' := 36) (q := 0) (pw_dk dc_X11_tried 19 rfl) rfl rfl rfl ?_
  refine PW_getR (pc' := 39) (id := 100) (ci := 11) (nn := 0) (C0 := RX11) (T := TX11) (N := 15) (j := 7) (r := 700) (pw_dk dc_X11_tried 20 rfl) rfl me_100 rfl pi_11 (by decide) fk_11_7 tw_602 (rfl) (by decide) ?_
  refine PZ_callVv (pc' := 42) (y := yX0_copyFrom) (M' := mX0_copyFrom) (d' := 1) (As := [.ref 700]) (st := []) (b := 900) (ci := 0) (nn := 0) me_900 rfl tw_1232 tw_1233 (pw_dk dc_X11_tried 21 rfl) rfl Y_X0_copyFrom tw_1231 rfl (by decide) (Nat.le_of_ble_eq_true rfl) (t_X0_copyFrom 900 700 (Or.inr (Or.inr rfl)) (Or.inl rfl) σ _ ?_)
  obtain ⟨σ_2, e_3, h⟩ := wp_bind h
  refine ⟨σ_2, e_3, rfl, fun hn_1 => ?_⟩
  show PZ alC mX11_tried (7) Q 42 [(0, .ref 100), (1, .int x1), (2, .int x2)] [] σ_2
  refine PW_iload_n (pc' := 43) (q := 1) (pw_dk dc_X11_tried 22 rfl) rfl rfl rfl ?_
  refine PW_iconst (pc' := 44) (v := 4) (pw_dk dc_X11_tried 23 rfl) rfl (by decide) ?_
  refine PW_icmp_ne (pc' := 47) (tgt := 58) (pw_dk dc_X11_tried 24 rfl) rfl (by decide) (fun c_4 => ?_) (fun c_4 => ?_)
  · rw [if_neg c_4] at h
    exact b_X11_tried_58 x1 x2 σ_2 h
  · rw [if_pos c_4] at h
    refine PW_aload_n (pc' := 48) (q := 0) (pw_dk dc_X11_tried 25 rfl) rfl rfl rfl ?_
    refine PW_getR (pc' := 51) (id := 100) (ci := 11) (nn := 0) (C0 := RX11) (T := TX11) (N := 15) (j := 9) (r := 900) (pw_dk dc_X11_tried 26 rfl) rfl me_100 rfl pi_11 (by decide) fk_11_9 tw_604 (rfl) (by decide) ?_
    refine PW_getR (pc' := 54) (id := 900) (ci := 0) (nn := 0) (C0 := RX0) (T := TX0) (N := 6) (j := 4) (r := 905) (pw_dk dc_X11_tried 27 rfl) rfl me_900 rfl pi_0 (by decide) fk_0_4 tw_471 (rfl) (by decide) ?_
    refine PW_iconst (pc' := 55) (v := 0) (pw_dk dc_X11_tried 28 rfl) rfl (by decide) ?_
    refine PZ_callSv (pc' := 58) (y := yJ7_fill_53178) (M' := mJ7_fill_53178) (d' := 0) (As := [.ref 905, .int 0]) (st := []) tw_197 (pw_dk dc_X11_tried 29 rfl) rfl Y_J7_fill_53178 tw_1079 rfl (by decide) (Nat.le_of_ble_eq_true rfl) (t_J7_fill_53178 alC 905 5 0 me_905 σ_2 _ ?_)
    obtain ⟨σ_6, e_7, h⟩ := wp_bind h
    refine ⟨σ_6, e_7, rfl, fun hn_5 => ?_⟩
    show PZ alC mX11_tried (7) Q 58 [(0, .ref 100), (1, .int x1), (2, .int x2)] [] σ_6
    exact b_X11_tried_58 x1 x2 σ_6 h
def f_X11_tried (x1 : Int32) (x2 : Int32) (σ : zS) : Option (Int32 × zS) := 
  if x1 < 0 then
    some ((-1 : Int32), σ)
  else
    if 5 < x1 then
      some ((-1 : Int32), σ)
    else
      if x1 = 3 then
        if (f_X11_isMan x2 σ) = 0 then
          some ((-1 : Int32), σ)
        else
          f_X11_tried_31 x1 x2 σ
      else
        if x2 = 0 then
          f_X11_tried_31 x1 x2 σ
        else
          some ((-1 : Int32), σ)
theorem t_X11_tried (x1 : Int32) (x2 : Int32) (σ : zS) (Q : Option Value → zS → Prop) (h : wpO (f_X11_tried x1 x2 σ) (fun a => Q (some (.int a.1)) a.2)) : PK alC yX11_tried mX11_tried (7) [.ref 100, .int x1, .int x2] σ Q := by
  refine PC_ofF (by decide +kernel) rfl rfl (Nat.le_of_ble_eq_true rfl) ?_
  show PZ alC mX11_tried (7) Q 0 [(0, .ref 100), (1, .int x1), (2, .int x2)] [] σ
  unfold f_X11_tried at h
  refine PW_iload_n (pc' := 1) (q := 1) (pw_dk dc_X11_tried 0 rfl) rfl rfl rfl ?_
  refine PW_if_lt (pc' := 4) (tgt := 29) (pw_dk dc_X11_tried 1 rfl) rfl (by decide) (fun c_1 => ?_) (fun c_1 => ?_)
  · rw [if_pos c_1] at h
    refine PW_iconst (pc' := 30) (v := (-1 : Int32)) (pw_dk dc_X11_tried 15 rfl) rfl (by decide) ?_
    have z := wp_some h
    exact PZ_iret (ty := .int) (pw_dk dc_X11_tried 16 rfl) rfl rfl z
  · rw [if_neg c_1] at h
    refine PW_iload_n (pc' := 5) (q := 1) (pw_dk dc_X11_tried 2 rfl) rfl rfl rfl ?_
    refine PW_iconst (pc' := 6) (v := 5) (pw_dk dc_X11_tried 3 rfl) rfl (by decide) ?_
    refine PW_icmp_gt (pc' := 9) (tgt := 29) (pw_dk dc_X11_tried 4 rfl) rfl (by decide) (fun c_2 => ?_) (fun c_2 => ?_)
    · rw [if_pos c_2] at h
      refine PW_iconst (pc' := 30) (v := (-1 : Int32)) (pw_dk dc_X11_tried 15 rfl) rfl (by decide) ?_
      have z := wp_some h
      exact PZ_iret (ty := .int) (pw_dk dc_X11_tried 16 rfl) rfl rfl z
    · rw [if_neg c_2] at h
      refine PW_iload_n (pc' := 10) (q := 1) (pw_dk dc_X11_tried 5 rfl) rfl rfl rfl ?_
      refine PW_iconst (pc' := 11) (v := 3) (pw_dk dc_X11_tried 6 rfl) rfl (by decide) ?_
      refine PW_icmp_ne (pc' := 14) (tgt := 25) (pw_dk dc_X11_tried 7 rfl) rfl (by decide) (fun c_3 => ?_) (fun c_3 => ?_)
      · rw [if_neg c_3] at h
        refine PW_iload_n (pc' := 26) (q := 2) (pw_dk dc_X11_tried 13 rfl) rfl rfl rfl ?_
        refine PW_if_eq (pc' := 29) (tgt := 31) (pw_dk dc_X11_tried 14 rfl) rfl (by decide) (fun c_4 => ?_) (fun c_4 => ?_)
        · rw [if_pos c_4] at h
          exact b_X11_tried_31 x1 x2 σ h
        · rw [if_neg c_4] at h
          refine PW_iconst (pc' := 30) (v := (-1 : Int32)) (pw_dk dc_X11_tried 15 rfl) rfl (by decide) ?_
          have z := wp_some h
          exact PZ_iret (ty := .int) (pw_dk dc_X11_tried 16 rfl) rfl rfl z
      · rw [if_pos c_3] at h
        refine PW_aload_n (pc' := 15) (q := 0) (pw_dk dc_X11_tried 8 rfl) rfl rfl rfl ?_
        refine PW_iload_n (pc' := 16) (q := 2) (pw_dk dc_X11_tried 9 rfl) rfl rfl rfl ?_
        refine PZ_callVi (pc' := 19) (y := yX11_isMan) (M' := mX11_isMan) (d' := 0) (As := [.int x2]) (st := []) (b := 100) (ci := 11) (nn := 0) me_100 rfl tw_903 tw_29 (pw_dk dc_X11_tried 10 rfl) rfl Y_X11_isMan tw_901 rfl (by decide) (Nat.le_of_ble_eq_true rfl) (t_X11_isMan x2 σ _ ?_)
        refine ⟨_, rfl, fun hn_5 => ?_⟩
        show PZ alC mX11_tried (7) Q 19 [(0, .ref 100), (1, .int x1), (2, .int x2)] [.int (f_X11_isMan x2 σ)] σ
        refine PW_if_ne (pc' := 22) (tgt := 31) (pw_dk dc_X11_tried 11 rfl) rfl (by decide) (fun c_6 => ?_) (fun c_6 => ?_)
        · rw [if_neg c_6] at h
          exact b_X11_tried_31 x1 x2 σ h
        · rw [if_pos c_6] at h
          refine PW_goto (tgt := 29) (pw_dk dc_X11_tried 12 rfl) (by decide) ?_
          refine PW_iconst (pc' := 30) (v := (-1 : Int32)) (pw_dk dc_X11_tried 15 rfl) rfl (by decide) ?_
          have z := wp_some h
          exact PZ_iret (ty := .int) (pw_dk dc_X11_tried 16 rfl) rfl rfl z
def f_X11_undo  (σ : zS) : Option (Int32 × zS) := 
  b2 (f_X9_takeBack 700 σ) fun v_3 σ_2 =>
  some (v_3, σ_2)
theorem t_X11_undo (σ : zS) (Q : Option Value → zS → Prop) (h : wpO (f_X11_undo σ) (fun a => Q (some (.int a.1)) a.2)) : PK alC yX11_undo mX11_undo (1) [.ref 100] σ Q := by
  refine PC_ofF (by decide +kernel) rfl rfl (Nat.le_of_ble_eq_true rfl) ?_
  show PZ alC mX11_undo (1) Q 0 [(0, .ref 100)] [] σ
  unfold f_X11_undo at h
  refine PW_aload_n (pc' := 1) (q := 0) (pw_dk dc_X11_undo 0 rfl) rfl rfl rfl ?_
  refine PW_getR (pc' := 4) (id := 100) (ci := 11) (nn := 0) (C0 := RX11) (T := TX11) (N := 15) (j := 11) (r := 1100) (pw_dk dc_X11_undo 1 rfl) rfl me_100 rfl pi_11 (by decide) fk_11_11 tw_606 (rfl) (by decide) ?_
  refine PW_aload_n (pc' := 5) (q := 0) (pw_dk dc_X11_undo 2 rfl) rfl rfl rfl ?_
  refine PW_getR (pc' := 8) (id := 100) (ci := 11) (nn := 0) (C0 := RX11) (T := TX11) (N := 15) (j := 7) (r := 700) (pw_dk dc_X11_undo 3 rfl) rfl me_100 rfl pi_11 (by decide) fk_11_7 tw_602 (rfl) (by decide) ?_
  refine PZ_callVi (pc' := 11) (y := yX9_takeBack) (M' := mX9_takeBack) (d' := 0) (As := [.ref 700]) (st := []) (b := 1100) (ci := 9) (nn := 0) me_1100 rfl tw_1268 tw_1269 (pw_dk dc_X11_undo 4 rfl) rfl Y_X9_takeBack tw_1267 rfl (by decide) (Nat.le_of_ble_eq_true rfl) (t_X9_takeBack 700 (Or.inl rfl) σ _ ?_)
  obtain ⟨⟨v_3, σ_2⟩, e_4, h⟩ := wp_bind2 h
  refine ⟨(v_3, σ_2), e_4, _, rfl, fun hn_1 => ?_⟩
  show PZ alC mX11_undo (1) Q 11 [(0, .ref 100)] [.int v_3] σ_2
  have z := wp_some h
  exact PZ_iret (ty := .int) (pw_dk dc_X11_undo 5 rfl) rfl rfl z
def f_X11_keep  (σ : zS) : Option (Int32 × zS) := 
  (f_X0_copyFrom 800 700 σ).bind fun σ_2 =>
  lt (wI σ_2 100 10 1) fun σ_4 =>
  some (σ_4.1 700 0, σ_4)
theorem t_X11_keep (σ : zS) (Q : Option Value → zS → Prop) (h : wpO (f_X11_keep σ) (fun a => Q (some (.int a.1)) a.2)) : PK alC yX11_keep mX11_keep (2) [.ref 100] σ Q := by
  refine PC_ofF (by decide +kernel) rfl rfl (Nat.le_of_ble_eq_true rfl) ?_
  show PZ alC mX11_keep (2) Q 0 [(0, .ref 100)] [] σ
  unfold f_X11_keep at h
  refine PW_aload_n (pc' := 1) (q := 0) (pw_dk dc_X11_keep 0 rfl) rfl rfl rfl ?_
  refine PW_getR (pc' := 4) (id := 100) (ci := 11) (nn := 0) (C0 := RX11) (T := TX11) (N := 15) (j := 8) (r := 800) (pw_dk dc_X11_keep 1 rfl) rfl me_100 rfl pi_11 (by decide) fk_11_8 tw_603 (rfl) (by decide) ?_
  refine PW_aload_n (pc' := 5) (q := 0) (pw_dk dc_X11_keep 2 rfl) rfl rfl rfl ?_
  refine PW_getR (pc' := 8) (id := 100) (ci := 11) (nn := 0) (C0 := RX11) (T := TX11) (N := 15) (j := 7) (r := 700) (pw_dk dc_X11_keep 3 rfl) rfl me_100 rfl pi_11 (by decide) fk_11_7 tw_602 (rfl) (by decide) ?_
  refine PZ_callVv (pc' := 11) (y := yX0_copyFrom) (M' := mX0_copyFrom) (d' := 1) (As := [.ref 700]) (st := []) (b := 800) (ci := 0) (nn := 0) me_800 rfl tw_1232 tw_1233 (pw_dk dc_X11_keep 4 rfl) rfl Y_X0_copyFrom tw_1231 rfl (by decide) (Nat.le_of_ble_eq_true rfl) (t_X0_copyFrom 800 700 (Or.inr (Or.inl rfl)) (Or.inl rfl) σ _ ?_)
  obtain ⟨σ_2, e_3, h⟩ := wp_bind h
  refine ⟨σ_2, e_3, rfl, fun hn_1 => ?_⟩
  show PZ alC mX11_keep (2) Q 11 [(0, .ref 100)] [] σ_2
  refine PW_aload_n (pc' := 12) (q := 0) (pw_dk dc_X11_keep 5 rfl) rfl rfl rfl ?_
  refine PW_iconst (pc' := 13) (v := 1) (pw_dk dc_X11_keep 6 rfl) rfl (by decide) ?_
  obtain ⟨σ_4, e_5, h⟩ := lt_x h
  refine PZ_putX (pc' := 16) (σ' := σ_4) (id := 100) (ci := 11) (nn := 0) (C0 := RX11) (T := TX11) (N := 15) (j := 10) (ty := tyX11 10) (pw_dk dc_X11_keep 7 rfl) rfl me_100 rfl pi_11 tyX11_ok nmX11 (by decide) fk_11_10 tw_605 rfl (tyX11_ok 10 (by decide)) (by first | rfl | decide) (by first | rfl | decide) e_5 ?_
  refine PW_aload_n (pc' := 17) (q := 0) (pw_dk dc_X11_keep 8 rfl) rfl rfl rfl ?_
  refine PW_getR (pc' := 20) (id := 100) (ci := 11) (nn := 0) (C0 := RX11) (T := TX11) (N := 15) (j := 7) (r := 700) (pw_dk dc_X11_keep 9 rfl) rfl me_100 rfl pi_11 (by decide) fk_11_7 tw_602 (rfl) (by decide) ?_
  refine PZ_getI (pc' := 23) (id := 700) (ci := 0) (nn := 0) (C0 := RX0) (T := TX0) (N := 6) (j := 0) (pw_dk dc_X11_keep 10 rfl) rfl me_700 rfl pi_0 (by decide) fk_0_0 tw_456 ?_
  have z := wp_some h
  exact PZ_iret (ty := .int) (pw_dk dc_X11_keep 11 rfl) rfl rfl z
def f_X11_back  (σ : zS) : Option (Int32 × zS) := 
  if (σ.1 100 10) = 0 then
    some ((-1 : Int32), σ)
  else
    (f_X0_copyFrom 700 800 σ).bind fun σ_3 =>
    (f_X9_forget σ_3).bind fun σ_6 =>
    some (σ_6.1 700 0, σ_6)
theorem t_X11_back (σ : zS) (Q : Option Value → zS → Prop) (h : wpO (f_X11_back σ) (fun a => Q (some (.int a.1)) a.2)) : PK alC yX11_back mX11_back (2) [.ref 100] σ Q := by
  refine PC_ofF (by decide +kernel) rfl rfl (Nat.le_of_ble_eq_true rfl) ?_
  show PZ alC mX11_back (2) Q 0 [(0, .ref 100)] [] σ
  unfold f_X11_back at h
  refine PW_aload_n (pc' := 1) (q := 0) (pw_dk dc_X11_back 0 rfl) rfl rfl rfl ?_
  refine PZ_getI (pc' := 4) (id := 100) (ci := 11) (nn := 0) (C0 := RX11) (T := TX11) (N := 15) (j := 10) (pw_dk dc_X11_back 1 rfl) rfl me_100 rfl pi_11 (by decide) fk_11_10 tw_605 ?_
  refine PW_if_ne (pc' := 7) (tgt := 9) (pw_dk dc_X11_back 2 rfl) rfl (by decide) (fun c_1 => ?_) (fun c_1 => ?_)
  · rw [if_neg c_1] at h
    refine PW_aload_n (pc' := 10) (q := 0) (pw_dk dc_X11_back 5 rfl) rfl rfl rfl ?_
    refine PW_getR (pc' := 13) (id := 100) (ci := 11) (nn := 0) (C0 := RX11) (T := TX11) (N := 15) (j := 7) (r := 700) (pw_dk dc_X11_back 6 rfl) rfl me_100 rfl pi_11 (by decide) fk_11_7 tw_602 (rfl) (by decide) ?_
    refine PW_aload_n (pc' := 14) (q := 0) (pw_dk dc_X11_back 7 rfl) rfl rfl rfl ?_
    refine PW_getR (pc' := 17) (id := 100) (ci := 11) (nn := 0) (C0 := RX11) (T := TX11) (N := 15) (j := 8) (r := 800) (pw_dk dc_X11_back 8 rfl) rfl me_100 rfl pi_11 (by decide) fk_11_8 tw_603 (rfl) (by decide) ?_
    refine PZ_callVv (pc' := 20) (y := yX0_copyFrom) (M' := mX0_copyFrom) (d' := 1) (As := [.ref 800]) (st := []) (b := 700) (ci := 0) (nn := 0) me_700 rfl tw_1232 tw_1233 (pw_dk dc_X11_back 9 rfl) rfl Y_X0_copyFrom tw_1231 rfl (by decide) (Nat.le_of_ble_eq_true rfl) (t_X0_copyFrom 700 800 (Or.inl rfl) (Or.inr (Or.inl rfl)) σ _ ?_)
    obtain ⟨σ_3, e_4, h⟩ := wp_bind h
    refine ⟨σ_3, e_4, rfl, fun hn_2 => ?_⟩
    show PZ alC mX11_back (2) Q 20 [(0, .ref 100)] [] σ_3
    refine PW_aload_n (pc' := 21) (q := 0) (pw_dk dc_X11_back 10 rfl) rfl rfl rfl ?_
    refine PW_getR (pc' := 24) (id := 100) (ci := 11) (nn := 0) (C0 := RX11) (T := TX11) (N := 15) (j := 11) (r := 1100) (pw_dk dc_X11_back 11 rfl) rfl me_100 rfl pi_11 (by decide) fk_11_11 tw_606 (rfl) (by decide) ?_
    refine PZ_callVv (pc' := 27) (y := yX9_forget) (M' := mX9_forget) (d' := 0) (As := []) (st := []) (b := 1100) (ci := 9) (nn := 0) me_1100 rfl tw_868 tw_869 (pw_dk dc_X11_back 12 rfl) rfl Y_X9_forget tw_867 rfl (by decide) (Nat.le_of_ble_eq_true rfl) (t_X9_forget σ_3 _ ?_)
    obtain ⟨σ_6, e_7, h⟩ := wp_bind h
    refine ⟨σ_6, e_7, rfl, fun hn_5 => ?_⟩
    show PZ alC mX11_back (2) Q 27 [(0, .ref 100)] [] σ_6
    refine PW_aload_n (pc' := 28) (q := 0) (pw_dk dc_X11_back 13 rfl) rfl rfl rfl ?_
    refine PW_getR (pc' := 31) (id := 100) (ci := 11) (nn := 0) (C0 := RX11) (T := TX11) (N := 15) (j := 7) (r := 700) (pw_dk dc_X11_back 14 rfl) rfl me_100 rfl pi_11 (by decide) fk_11_7 tw_602 (rfl) (by decide) ?_
    refine PZ_getI (pc' := 34) (id := 700) (ci := 0) (nn := 0) (C0 := RX0) (T := TX0) (N := 6) (j := 0) (pw_dk dc_X11_back 15 rfl) rfl me_700 rfl pi_0 (by decide) fk_0_0 tw_456 ?_
    have z := wp_some h
    exact PZ_iret (ty := .int) (pw_dk dc_X11_back 16 rfl) rfl rfl z
  · rw [if_pos c_1] at h
    refine PW_iconst (pc' := 8) (v := (-1 : Int32)) (pw_dk dc_X11_back 3 rfl) rfl (by decide) ?_
    have z := wp_some h
    exact PZ_iret (ty := .int) (pw_dk dc_X11_back 4 rfl) rfl rfl z
def f_X11_count (x1 : Int32) (σ : zS) : Option Int32 := 
  if x1 = 0 then
    some (σ.1 (tv (σ.2.2 0)) 0)
  else if x1 = 1 then
    some (σ.1 (tv (σ.2.2 0)) 1)
  else if x1 = 2 then
    some (σ.1 (tv (σ.2.2 0)) 6)
  else if x1 = 3 then
    some (σ.1 (tv (σ.2.2 0)) 11)
  else if x1 = 4 then
    some (σ.1 (tv (σ.2.2 0)) 5)
  else if x1 = 5 then
    some (σ.1 (tl (σ.2.2 0)) 0)
  else if x1 = 6 then
    some (σ.1 700 0)
  else if x1 = 7 then
    (f_X0_fated 700 1 (σ.1 (tv (σ.2.2 0)) 11) σ).bind fun v_10 =>
    some v_10
  else if x1 = 8 then
    (f_X0_fated 700 2 (σ.1 (tv (σ.2.2 0)) 11) σ).bind fun v_14 =>
    some v_14
  else if x1 = 9 then
    (f_X0_fated 700 3 (σ.1 (tv (σ.2.2 0)) 11) σ).bind fun v_18 =>
    some v_18
  else if x1 = 10 then
    (f_X0_allCoin 700 (σ.1 (tv (σ.2.2 0)) 6) σ).bind fun v_22 =>
    some v_22
  else if x1 = 11 then
    some (σ.1 1200 0)
  else if x1 = 12 then
    some (f_X3_reach σ)
  else if x1 = 13 then
    some (σ.1 1100 0)
  else if x1 = 14 then
    some (σ.1 700 1)
  else
    some (-1 : Int32)
theorem t_X11_count (x1 : Int32) (σ : zS) (Q : Option Value → zS → Prop) (h : wpO (f_X11_count x1 σ) (fun a => Q (some (.int a)) σ)) : PK alC yX11_count mX11_count (1) [.ref 100, .int x1] σ Q := by
  refine PC_ofF (by decide +kernel) rfl rfl (Nat.le_of_ble_eq_true rfl) ?_
  show PZ alC mX11_count (1) Q 0 [(0, .ref 100), (1, .int x1)] [] σ
  unfold f_X11_count at h
  refine PW_iload_n (pc' := 1) (q := 1) (pw_dk dc_X11_count 0 rfl) rfl rfl rfl ?_
  by_cases c_1 : x1 = 0
  · rw [if_pos c_1] at h
    refine PW_tin (tgt := 76) (pw_dk dc_X11_count 1 rfl) (by rw [c_1]; decide) (by rw [c_1]; decide) (by rw [c_1] <;> rfl) (by decide) ?_
    refine PW_aload_n (pc' := 77) (q := 0) (pw_dk dc_X11_count 2 rfl) rfl rfl rfl ?_
    refine PW_getR (pc' := 80) (id := 100) (ci := 11) (nn := 0) (C0 := RX11) (T := TX11) (N := 15) (j := 4) (r := tv (σ.2.2 0)) (pw_dk dc_X11_count 3 rfl) rfl me_100 rfl pi_11 (by decide) fk_11_4 tw_599 (rf_M0 _) (tv0 _) ?_
    refine PZ_getI (pc' := 83) (id := (tv (σ.2.2 0))) (ci := 8) (nn := 0) (C0 := RX8) (T := TX8) (N := 18) (j := 0) (pw_dk dc_X11_count 4 rfl) rfl (me_T _) rfl pi_8 (by decide) fk_8_0 tw_202 ?_
    have z := wp_some h
    exact PZ_iret (ty := .int) (pw_dk dc_X11_count 5 rfl) rfl rfl z
  · rw [if_neg c_1] at h
    by_cases c_2 : x1 = 1
    · rw [if_pos c_2] at h
      refine PW_tin (tgt := 84) (pw_dk dc_X11_count 1 rfl) (by rw [c_2]; decide) (by rw [c_2]; decide) (by rw [c_2] <;> rfl) (by decide) ?_
      refine PW_aload_n (pc' := 85) (q := 0) (pw_dk dc_X11_count 6 rfl) rfl rfl rfl ?_
      refine PW_getR (pc' := 88) (id := 100) (ci := 11) (nn := 0) (C0 := RX11) (T := TX11) (N := 15) (j := 4) (r := tv (σ.2.2 0)) (pw_dk dc_X11_count 7 rfl) rfl me_100 rfl pi_11 (by decide) fk_11_4 tw_599 (rf_M0 _) (tv0 _) ?_
      refine PZ_getI (pc' := 91) (id := (tv (σ.2.2 0))) (ci := 8) (nn := 0) (C0 := RX8) (T := TX8) (N := 18) (j := 1) (pw_dk dc_X11_count 8 rfl) rfl (me_T _) rfl pi_8 (by decide) fk_8_1 tw_205 ?_
      have z := wp_some h
      exact PZ_iret (ty := .int) (pw_dk dc_X11_count 9 rfl) rfl rfl z
    · rw [if_neg c_2] at h
      by_cases c_3 : x1 = 2
      · rw [if_pos c_3] at h
        refine PW_tin (tgt := 92) (pw_dk dc_X11_count 1 rfl) (by rw [c_3]; decide) (by rw [c_3]; decide) (by rw [c_3] <;> rfl) (by decide) ?_
        refine PW_aload_n (pc' := 93) (q := 0) (pw_dk dc_X11_count 10 rfl) rfl rfl rfl ?_
        refine PW_getR (pc' := 96) (id := 100) (ci := 11) (nn := 0) (C0 := RX11) (T := TX11) (N := 15) (j := 4) (r := tv (σ.2.2 0)) (pw_dk dc_X11_count 11 rfl) rfl me_100 rfl pi_11 (by decide) fk_11_4 tw_599 (rf_M0 _) (tv0 _) ?_
        refine PZ_getI (pc' := 99) (id := (tv (σ.2.2 0))) (ci := 8) (nn := 0) (C0 := RX8) (T := TX8) (N := 18) (j := 6) (pw_dk dc_X11_count 12 rfl) rfl (me_T _) rfl pi_8 (by decide) fk_8_6 tw_217 ?_
        have z := wp_some h
        exact PZ_iret (ty := .int) (pw_dk dc_X11_count 13 rfl) rfl rfl z
      · rw [if_neg c_3] at h
        by_cases c_4 : x1 = 3
        · rw [if_pos c_4] at h
          refine PW_tin (tgt := 100) (pw_dk dc_X11_count 1 rfl) (by rw [c_4]; decide) (by rw [c_4]; decide) (by rw [c_4] <;> rfl) (by decide) ?_
          refine PW_aload_n (pc' := 101) (q := 0) (pw_dk dc_X11_count 14 rfl) rfl rfl rfl ?_
          refine PW_getR (pc' := 104) (id := 100) (ci := 11) (nn := 0) (C0 := RX11) (T := TX11) (N := 15) (j := 4) (r := tv (σ.2.2 0)) (pw_dk dc_X11_count 15 rfl) rfl me_100 rfl pi_11 (by decide) fk_11_4 tw_599 (rf_M0 _) (tv0 _) ?_
          refine PZ_getI (pc' := 107) (id := (tv (σ.2.2 0))) (ci := 8) (nn := 0) (C0 := RX8) (T := TX8) (N := 18) (j := 11) (pw_dk dc_X11_count 16 rfl) rfl (me_T _) rfl pi_8 (by decide) fk_8_11 tw_230 ?_
          have z := wp_some h
          exact PZ_iret (ty := .int) (pw_dk dc_X11_count 17 rfl) rfl rfl z
        · rw [if_neg c_4] at h
          by_cases c_5 : x1 = 4
          · rw [if_pos c_5] at h
            refine PW_tin (tgt := 108) (pw_dk dc_X11_count 1 rfl) (by rw [c_5]; decide) (by rw [c_5]; decide) (by rw [c_5] <;> rfl) (by decide) ?_
            refine PW_aload_n (pc' := 109) (q := 0) (pw_dk dc_X11_count 18 rfl) rfl rfl rfl ?_
            refine PW_getR (pc' := 112) (id := 100) (ci := 11) (nn := 0) (C0 := RX11) (T := TX11) (N := 15) (j := 4) (r := tv (σ.2.2 0)) (pw_dk dc_X11_count 19 rfl) rfl me_100 rfl pi_11 (by decide) fk_11_4 tw_599 (rf_M0 _) (tv0 _) ?_
            refine PZ_getI (pc' := 115) (id := (tv (σ.2.2 0))) (ci := 8) (nn := 0) (C0 := RX8) (T := TX8) (N := 18) (j := 5) (pw_dk dc_X11_count 20 rfl) rfl (me_T _) rfl pi_8 (by decide) fk_8_5 tw_214 ?_
            have z := wp_some h
            exact PZ_iret (ty := .int) (pw_dk dc_X11_count 21 rfl) rfl rfl z
          · rw [if_neg c_5] at h
            by_cases c_6 : x1 = 5
            · rw [if_pos c_6] at h
              refine PW_tin (tgt := 116) (pw_dk dc_X11_count 1 rfl) (by rw [c_6]; decide) (by rw [c_6]; decide) (by rw [c_6] <;> rfl) (by decide) ?_
              refine PW_aload_n (pc' := 117) (q := 0) (pw_dk dc_X11_count 22 rfl) rfl rfl rfl ?_
              refine PW_getR (pc' := 120) (id := 100) (ci := 11) (nn := 0) (C0 := RX11) (T := TX11) (N := 15) (j := 4) (r := tv (σ.2.2 0)) (pw_dk dc_X11_count 23 rfl) rfl me_100 rfl pi_11 (by decide) fk_11_4 tw_599 (rf_M0 _) (tv0 _) ?_
              refine PW_getR (pc' := 123) (id := (tv (σ.2.2 0))) (ci := 8) (nn := 0) (C0 := RX8) (T := TX8) (N := 18) (j := 17) (r := tl (σ.2.2 0)) (pw_dk dc_X11_count 24 rfl) rfl (me_T _) rfl pi_8 (by decide) fk_8_17 tw_251 (rf_T17 _ _) (tl0 _) ?_
              refine PZ_getI (pc' := 126) (id := (tl (σ.2.2 0))) (ci := 2) (nn := 0) (C0 := RX2) (T := TX2) (N := 8) (j := 0) (pw_dk dc_X11_count 25 rfl) rfl (me_L _) rfl pi_2 (by decide) fk_2_0 tw_168 ?_
              have z := wp_some h
              exact PZ_iret (ty := .int) (pw_dk dc_X11_count 26 rfl) rfl rfl z
            · rw [if_neg c_6] at h
              by_cases c_7 : x1 = 6
              · rw [if_pos c_7] at h
                refine PW_tin (tgt := 127) (pw_dk dc_X11_count 1 rfl) (by rw [c_7]; decide) (by rw [c_7]; decide) (by rw [c_7] <;> rfl) (by decide) ?_
                refine PW_aload_n (pc' := 128) (q := 0) (pw_dk dc_X11_count 27 rfl) rfl rfl rfl ?_
                refine PW_getR (pc' := 131) (id := 100) (ci := 11) (nn := 0) (C0 := RX11) (T := TX11) (N := 15) (j := 7) (r := 700) (pw_dk dc_X11_count 28 rfl) rfl me_100 rfl pi_11 (by decide) fk_11_7 tw_602 (rfl) (by decide) ?_
                refine PZ_getI (pc' := 134) (id := 700) (ci := 0) (nn := 0) (C0 := RX0) (T := TX0) (N := 6) (j := 0) (pw_dk dc_X11_count 29 rfl) rfl me_700 rfl pi_0 (by decide) fk_0_0 tw_456 ?_
                have z := wp_some h
                exact PZ_iret (ty := .int) (pw_dk dc_X11_count 30 rfl) rfl rfl z
              · rw [if_neg c_7] at h
                by_cases c_8 : x1 = 7
                · rw [if_pos c_8] at h
                  refine PW_tin (tgt := 135) (pw_dk dc_X11_count 1 rfl) (by rw [c_8]; decide) (by rw [c_8]; decide) (by rw [c_8] <;> rfl) (by decide) ?_
                  refine PW_aload_n (pc' := 136) (q := 0) (pw_dk dc_X11_count 31 rfl) rfl rfl rfl ?_
                  refine PW_getR (pc' := 139) (id := 100) (ci := 11) (nn := 0) (C0 := RX11) (T := TX11) (N := 15) (j := 7) (r := 700) (pw_dk dc_X11_count 32 rfl) rfl me_100 rfl pi_11 (by decide) fk_11_7 tw_602 (rfl) (by decide) ?_
                  refine PW_iconst (pc' := 140) (v := 1) (pw_dk dc_X11_count 33 rfl) rfl (by decide) ?_
                  refine PW_aload_n (pc' := 141) (q := 0) (pw_dk dc_X11_count 34 rfl) rfl rfl rfl ?_
                  refine PW_getR (pc' := 144) (id := 100) (ci := 11) (nn := 0) (C0 := RX11) (T := TX11) (N := 15) (j := 4) (r := tv (σ.2.2 0)) (pw_dk dc_X11_count 35 rfl) rfl me_100 rfl pi_11 (by decide) fk_11_4 tw_599 (rf_M0 _) (tv0 _) ?_
                  refine PZ_getI (pc' := 147) (id := (tv (σ.2.2 0))) (ci := 8) (nn := 0) (C0 := RX8) (T := TX8) (N := 18) (j := 11) (pw_dk dc_X11_count 36 rfl) rfl (me_T _) rfl pi_8 (by decide) fk_8_11 tw_230 ?_
                  refine PZ_callVi (pc' := 150) (y := yX0_fated) (M' := mX0_fated) (d' := 0) (As := [.int 1, .int (σ.1 (tv (σ.2.2 0)) 11)]) (st := []) (b := 700) (ci := 0) (nn := 0) me_700 rfl tw_1260 tw_1261 (pw_dk dc_X11_count 37 rfl) rfl Y_X0_fated tw_1259 rfl (by decide) (Nat.le_of_ble_eq_true rfl) (t_X0_fated 700 1 (σ.1 (tv (σ.2.2 0)) 11) (Or.inl rfl) σ _ ?_)
                  obtain ⟨v_10, e_11, h⟩ := wp_bind h
                  refine ⟨v_10, e_11, _, rfl, fun hn_9 => ?_⟩
                  show PZ alC mX11_count (1) Q 150 [(0, .ref 100), (1, .int x1)] [.int v_10] σ
                  have z := wp_some h
                  exact PZ_iret (ty := .int) (pw_dk dc_X11_count 38 rfl) rfl rfl z
                · rw [if_neg c_8] at h
                  by_cases c_12 : x1 = 8
                  · rw [if_pos c_12] at h
                    refine PW_tin (tgt := 151) (pw_dk dc_X11_count 1 rfl) (by rw [c_12]; decide) (by rw [c_12]; decide) (by rw [c_12] <;> rfl) (by decide) ?_
                    refine PW_aload_n (pc' := 152) (q := 0) (pw_dk dc_X11_count 39 rfl) rfl rfl rfl ?_
                    refine PW_getR (pc' := 155) (id := 100) (ci := 11) (nn := 0) (C0 := RX11) (T := TX11) (N := 15) (j := 7) (r := 700) (pw_dk dc_X11_count 40 rfl) rfl me_100 rfl pi_11 (by decide) fk_11_7 tw_602 (rfl) (by decide) ?_
                    refine PW_iconst (pc' := 156) (v := 2) (pw_dk dc_X11_count 41 rfl) rfl (by decide) ?_
                    refine PW_aload_n (pc' := 157) (q := 0) (pw_dk dc_X11_count 42 rfl) rfl rfl rfl ?_
                    refine PW_getR (pc' := 160) (id := 100) (ci := 11) (nn := 0) (C0 := RX11) (T := TX11) (N := 15) (j := 4) (r := tv (σ.2.2 0)) (pw_dk dc_X11_count 43 rfl) rfl me_100 rfl pi_11 (by decide) fk_11_4 tw_599 (rf_M0 _) (tv0 _) ?_
                    refine PZ_getI (pc' := 163) (id := (tv (σ.2.2 0))) (ci := 8) (nn := 0) (C0 := RX8) (T := TX8) (N := 18) (j := 11) (pw_dk dc_X11_count 44 rfl) rfl (me_T _) rfl pi_8 (by decide) fk_8_11 tw_230 ?_
                    refine PZ_callVi (pc' := 166) (y := yX0_fated) (M' := mX0_fated) (d' := 0) (As := [.int 2, .int (σ.1 (tv (σ.2.2 0)) 11)]) (st := []) (b := 700) (ci := 0) (nn := 0) me_700 rfl tw_1260 tw_1261 (pw_dk dc_X11_count 45 rfl) rfl Y_X0_fated tw_1259 rfl (by decide) (Nat.le_of_ble_eq_true rfl) (t_X0_fated 700 2 (σ.1 (tv (σ.2.2 0)) 11) (Or.inl rfl) σ _ ?_)
                    obtain ⟨v_14, e_15, h⟩ := wp_bind h
                    refine ⟨v_14, e_15, _, rfl, fun hn_13 => ?_⟩
                    show PZ alC mX11_count (1) Q 166 [(0, .ref 100), (1, .int x1)] [.int v_14] σ
                    have z := wp_some h
                    exact PZ_iret (ty := .int) (pw_dk dc_X11_count 46 rfl) rfl rfl z
                  · rw [if_neg c_12] at h
                    by_cases c_16 : x1 = 9
                    · rw [if_pos c_16] at h
                      refine PW_tin (tgt := 167) (pw_dk dc_X11_count 1 rfl) (by rw [c_16]; decide) (by rw [c_16]; decide) (by rw [c_16] <;> rfl) (by decide) ?_
                      refine PW_aload_n (pc' := 168) (q := 0) (pw_dk dc_X11_count 47 rfl) rfl rfl rfl ?_
                      refine PW_getR (pc' := 171) (id := 100) (ci := 11) (nn := 0) (C0 := RX11) (T := TX11) (N := 15) (j := 7) (r := 700) (pw_dk dc_X11_count 48 rfl) rfl me_100 rfl pi_11 (by decide) fk_11_7 tw_602 (rfl) (by decide) ?_
                      refine PW_iconst (pc' := 172) (v := 3) (pw_dk dc_X11_count 49 rfl) rfl (by decide) ?_
                      refine PW_aload_n (pc' := 173) (q := 0) (pw_dk dc_X11_count 50 rfl) rfl rfl rfl ?_
                      refine PW_getR (pc' := 176) (id := 100) (ci := 11) (nn := 0) (C0 := RX11) (T := TX11) (N := 15) (j := 4) (r := tv (σ.2.2 0)) (pw_dk dc_X11_count 51 rfl) rfl me_100 rfl pi_11 (by decide) fk_11_4 tw_599 (rf_M0 _) (tv0 _) ?_
                      refine PZ_getI (pc' := 179) (id := (tv (σ.2.2 0))) (ci := 8) (nn := 0) (C0 := RX8) (T := TX8) (N := 18) (j := 11) (pw_dk dc_X11_count 52 rfl) rfl (me_T _) rfl pi_8 (by decide) fk_8_11 tw_230 ?_
                      refine PZ_callVi (pc' := 182) (y := yX0_fated) (M' := mX0_fated) (d' := 0) (As := [.int 3, .int (σ.1 (tv (σ.2.2 0)) 11)]) (st := []) (b := 700) (ci := 0) (nn := 0) me_700 rfl tw_1260 tw_1261 (pw_dk dc_X11_count 53 rfl) rfl Y_X0_fated tw_1259 rfl (by decide) (Nat.le_of_ble_eq_true rfl) (t_X0_fated 700 3 (σ.1 (tv (σ.2.2 0)) 11) (Or.inl rfl) σ _ ?_)
                      obtain ⟨v_18, e_19, h⟩ := wp_bind h
                      refine ⟨v_18, e_19, _, rfl, fun hn_17 => ?_⟩
                      show PZ alC mX11_count (1) Q 182 [(0, .ref 100), (1, .int x1)] [.int v_18] σ
                      have z := wp_some h
                      exact PZ_iret (ty := .int) (pw_dk dc_X11_count 54 rfl) rfl rfl z
                    · rw [if_neg c_16] at h
                      by_cases c_20 : x1 = 10
                      · rw [if_pos c_20] at h
                        refine PW_tin (tgt := 183) (pw_dk dc_X11_count 1 rfl) (by rw [c_20]; decide) (by rw [c_20]; decide) (by rw [c_20] <;> rfl) (by decide) ?_
                        refine PW_aload_n (pc' := 184) (q := 0) (pw_dk dc_X11_count 55 rfl) rfl rfl rfl ?_
                        refine PW_getR (pc' := 187) (id := 100) (ci := 11) (nn := 0) (C0 := RX11) (T := TX11) (N := 15) (j := 7) (r := 700) (pw_dk dc_X11_count 56 rfl) rfl me_100 rfl pi_11 (by decide) fk_11_7 tw_602 (rfl) (by decide) ?_
                        refine PW_aload_n (pc' := 188) (q := 0) (pw_dk dc_X11_count 57 rfl) rfl rfl rfl ?_
                        refine PW_getR (pc' := 191) (id := 100) (ci := 11) (nn := 0) (C0 := RX11) (T := TX11) (N := 15) (j := 4) (r := tv (σ.2.2 0)) (pw_dk dc_X11_count 58 rfl) rfl me_100 rfl pi_11 (by decide) fk_11_4 tw_599 (rf_M0 _) (tv0 _) ?_
                        refine PZ_getI (pc' := 194) (id := (tv (σ.2.2 0))) (ci := 8) (nn := 0) (C0 := RX8) (T := TX8) (N := 18) (j := 6) (pw_dk dc_X11_count 59 rfl) rfl (me_T _) rfl pi_8 (by decide) fk_8_6 tw_217 ?_
                        refine PZ_callVi (pc' := 197) (y := yX0_allCoin) (M' := mX0_allCoin) (d' := 0) (As := [.int (σ.1 (tv (σ.2.2 0)) 6)]) (st := []) (b := 700) (ci := 0) (nn := 0) me_700 rfl tw_1284 tw_1285 (pw_dk dc_X11_count 60 rfl) rfl Y_X0_allCoin tw_1283 rfl (by decide) (Nat.le_of_ble_eq_true rfl) (t_X0_allCoin 700 (σ.1 (tv (σ.2.2 0)) 6) (Or.inl rfl) σ _ ?_)
                        obtain ⟨v_22, e_23, h⟩ := wp_bind h
                        refine ⟨v_22, e_23, _, rfl, fun hn_21 => ?_⟩
                        show PZ alC mX11_count (1) Q 197 [(0, .ref 100), (1, .int x1)] [.int v_22] σ
                        have z := wp_some h
                        exact PZ_iret (ty := .int) (pw_dk dc_X11_count 61 rfl) rfl rfl z
                      · rw [if_neg c_20] at h
                        by_cases c_24 : x1 = 11
                        · rw [if_pos c_24] at h
                          refine PW_tin (tgt := 198) (pw_dk dc_X11_count 1 rfl) (by rw [c_24]; decide) (by rw [c_24]; decide) (by rw [c_24] <;> rfl) (by decide) ?_
                          refine PW_aload_n (pc' := 199) (q := 0) (pw_dk dc_X11_count 62 rfl) rfl rfl rfl ?_
                          refine PW_getR (pc' := 202) (id := 100) (ci := 11) (nn := 0) (C0 := RX11) (T := TX11) (N := 15) (j := 12) (r := 1200) (pw_dk dc_X11_count 63 rfl) rfl me_100 rfl pi_11 (by decide) fk_11_12 tw_607 (rfl) (by decide) ?_
                          refine PZ_getI (pc' := 205) (id := 1200) (ci := 3) (nn := 0) (C0 := RX3) (T := TX3) (N := 9) (j := 0) (pw_dk dc_X11_count 64 rfl) rfl me_1200 rfl pi_3 (by decide) fk_3_0 tw_522 ?_
                          have z := wp_some h
                          exact PZ_iret (ty := .int) (pw_dk dc_X11_count 65 rfl) rfl rfl z
                        · rw [if_neg c_24] at h
                          by_cases c_25 : x1 = 12
                          · rw [if_pos c_25] at h
                            refine PW_tin (tgt := 206) (pw_dk dc_X11_count 1 rfl) (by rw [c_25]; decide) (by rw [c_25]; decide) (by rw [c_25] <;> rfl) (by decide) ?_
                            refine PW_aload_n (pc' := 207) (q := 0) (pw_dk dc_X11_count 66 rfl) rfl rfl rfl ?_
                            refine PW_getR (pc' := 210) (id := 100) (ci := 11) (nn := 0) (C0 := RX11) (T := TX11) (N := 15) (j := 12) (r := 1200) (pw_dk dc_X11_count 67 rfl) rfl me_100 rfl pi_11 (by decide) fk_11_12 tw_607 (rfl) (by decide) ?_
                            refine PZ_callVi (pc' := 213) (y := yX3_reach) (M' := mX3_reach) (d' := 0) (As := []) (st := []) (b := 1200) (ci := 3) (nn := 0) me_1200 rfl tw_1194 tw_1195 (pw_dk dc_X11_count 68 rfl) rfl Y_X3_reach tw_1287 rfl (by decide) (Nat.le_of_ble_eq_true rfl) (t_X3_reach σ _ ?_)
                            refine ⟨_, rfl, fun hn_26 => ?_⟩
                            show PZ alC mX11_count (1) Q 213 [(0, .ref 100), (1, .int x1)] [.int (f_X3_reach σ)] σ
                            have z := wp_some h
                            exact PZ_iret (ty := .int) (pw_dk dc_X11_count 69 rfl) rfl rfl z
                          · rw [if_neg c_25] at h
                            by_cases c_27 : x1 = 13
                            · rw [if_pos c_27] at h
                              refine PW_tin (tgt := 214) (pw_dk dc_X11_count 1 rfl) (by rw [c_27]; decide) (by rw [c_27]; decide) (by rw [c_27] <;> rfl) (by decide) ?_
                              refine PW_aload_n (pc' := 215) (q := 0) (pw_dk dc_X11_count 70 rfl) rfl rfl rfl ?_
                              refine PW_getR (pc' := 218) (id := 100) (ci := 11) (nn := 0) (C0 := RX11) (T := TX11) (N := 15) (j := 11) (r := 1100) (pw_dk dc_X11_count 71 rfl) rfl me_100 rfl pi_11 (by decide) fk_11_11 tw_606 (rfl) (by decide) ?_
                              refine PZ_getI (pc' := 221) (id := 1100) (ci := 9) (nn := 0) (C0 := RX9) (T := TX9) (N := 6) (j := 0) (pw_dk dc_X11_count 72 rfl) rfl me_1100 rfl pi_9 (by decide) fk_9_0 tw_496 ?_
                              have z := wp_some h
                              exact PZ_iret (ty := .int) (pw_dk dc_X11_count 73 rfl) rfl rfl z
                            · rw [if_neg c_27] at h
                              by_cases c_28 : x1 = 14
                              · rw [if_pos c_28] at h
                                refine PW_tin (tgt := 222) (pw_dk dc_X11_count 1 rfl) (by rw [c_28]; decide) (by rw [c_28]; decide) (by rw [c_28] <;> rfl) (by decide) ?_
                                refine PW_aload_n (pc' := 223) (q := 0) (pw_dk dc_X11_count 74 rfl) rfl rfl rfl ?_
                                refine PW_getR (pc' := 226) (id := 100) (ci := 11) (nn := 0) (C0 := RX11) (T := TX11) (N := 15) (j := 7) (r := 700) (pw_dk dc_X11_count 75 rfl) rfl me_100 rfl pi_11 (by decide) fk_11_7 tw_602 (rfl) (by decide) ?_
                                refine PZ_getI (pc' := 229) (id := 700) (ci := 0) (nn := 0) (C0 := RX0) (T := TX0) (N := 6) (j := 1) (pw_dk dc_X11_count 76 rfl) rfl me_700 rfl pi_0 (by decide) fk_0_1 tw_460 ?_
                                have z := wp_some h
                                exact PZ_iret (ty := .int) (pw_dk dc_X11_count 77 rfl) rfl rfl z
                              · rw [if_neg c_28] at h
                                have kc_1 := pw_ne c_1 (show (0 : Int32).toInt = 0 by decide)
                                have kc_2 := pw_ne c_2 (show (1 : Int32).toInt = 1 by decide)
                                have kc_3 := pw_ne c_3 (show (2 : Int32).toInt = 2 by decide)
                                have kc_4 := pw_ne c_4 (show (3 : Int32).toInt = 3 by decide)
                                have kc_5 := pw_ne c_5 (show (4 : Int32).toInt = 4 by decide)
                                have kc_6 := pw_ne c_6 (show (5 : Int32).toInt = 5 by decide)
                                have kc_7 := pw_ne c_7 (show (6 : Int32).toInt = 6 by decide)
                                have kc_8 := pw_ne c_8 (show (7 : Int32).toInt = 7 by decide)
                                have kc_12 := pw_ne c_12 (show (8 : Int32).toInt = 8 by decide)
                                have kc_16 := pw_ne c_16 (show (9 : Int32).toInt = 9 by decide)
                                have kc_20 := pw_ne c_20 (show (10 : Int32).toInt = 10 by decide)
                                have kc_24 := pw_ne c_24 (show (11 : Int32).toInt = 11 by decide)
                                have kc_25 := pw_ne c_25 (show (12 : Int32).toInt = 12 by decide)
                                have kc_27 := pw_ne c_27 (show (13 : Int32).toInt = 13 by decide)
                                have kc_28 := pw_ne c_28 (show (14 : Int32).toInt = 14 by decide)
                                refine PW_tout (tgt := 230) (pw_dk dc_X11_count 1 rfl) (by omega) (by decide) ?_
                                refine PW_iconst (pc' := 231) (v := (-1 : Int32)) (pw_dk dc_X11_count 78 rfl) rfl (by decide) ?_
                                have z := wp_some h
                                exact PZ_iret (ty := .int) (pw_dk dc_X11_count 79 rfl) rfl rfl z
def f_X12_thrown  (σ : zS) : Int32 := 
  σ.1 5000 0
theorem t_X12_thrown (σ : zS) (Q : Option Value → zS → Prop) (h : Q (some (.int (f_X12_thrown σ))) σ) : PK alM yX12_thrown mX12_thrown (0) [.ref 5000] σ Q := by
  refine PC_ofF (by decide +kernel) rfl rfl (Nat.le_of_ble_eq_true rfl) ?_
  show PZ alM mX12_thrown (0) Q 0 [(0, .ref 5000)] [] σ
  unfold f_X12_thrown at h
  refine PW_aload_n (pc' := 1) (q := 0) (pw_dk dc_X12_thrown 0 rfl) rfl rfl rfl ?_
  refine PZ_getI (pc' := 4) (id := 5000) (ci := 12) (nn := 0) (C0 := RX12) (T := TX12) (N := 62) (j := 0) (pw_dk dc_X12_thrown 1 rfl) rfl me_5000 rfl pi_12 (by decide) fk_12_0 tw_1397 ?_
  exact PZ_iret (ty := .int) (pw_dk dc_X12_thrown 2 rfl) rfl rfl h
def f_X12_feed_73 (r20 : Int32 → Int32 → Int32 → Int32 → Int32 → Int32 → zS → Option (Int32 × zS)) (x1 : Int32) (x2 : Int32) (x3 : Int32) (x4 : Int32) (x5 : Int32) (x6 : Int32) (s0 : Int32) (σ : zS) : Option (Int32 × zS) := 
  (wrI σ 5002 700 ((σ.1 5000 2) + x6) ((s0 >>> (((24 : Int32) - ((8 : Int32) * (x6 - x6 / (4 : Int32) * (4 : Int32)))) &&& 31)) &&& (255 : Int32))).bind fun σ_1 =>
  r20 x1 x2 x3 x4 x5 (x6 + 1) σ_1
theorem b_X12_feed_73 {Q : Option Value → zS → Prop} (r20 : Int32 → Int32 → Int32 → Int32 → Int32 → Int32 → zS → Option (Int32 × zS)) (hr20 : ∀ (x1 : Int32) (x2 : Int32) (x3 : Int32) (x4 : Int32) (x5 : Int32) (x6 : Int32) (σ : zS), wpO (r20 x1 x2 x3 x4 x5 x6 σ) (fun a => Q (some (.int a.1)) a.2) → PZ alM mX12_feed (0) Q 20 [(0, .ref 5000), (1, .int x1), (2, .int x2), (3, .int x3), (4, .int x4), (5, .int x5), (6, .int x6)] [] σ) (x1 : Int32) (x2 : Int32) (x3 : Int32) (x4 : Int32) (x5 : Int32) (x6 : Int32) (s0 : Int32) (σ : zS) (h : wpO (f_X12_feed_73 r20 x1 x2 x3 x4 x5 x6 s0 σ) (fun a => Q (some (.int a.1)) a.2)) : PZ alM mX12_feed (0) Q 73 [(0, .ref 5000), (1, .int x1), (2, .int x2), (3, .int x3), (4, .int x4), (5, .int x5), (6, .int x6)] [.int s0] σ := by
  unfold f_X12_feed_73 at h
  refine PW_istore (pc' := 75) (lv' := [(7, .int s0), (0, .ref 5000), (1, .int x1), (2, .int x2), (3, .int x3), (4, .int x4), (5, .int x5), (6, .int x6)]) (pw_dk dc_X12_feed 35 rfl) rfl (by decide) rfl ?_
  refine PW_aload_n (pc' := 76) (q := 1) (pw_dk dc_X12_feed 36 rfl) rfl rfl rfl ?_
  refine PW_getR (pc' := 79) (id := 5000) (ci := 12) (nn := 0) (C0 := RX12) (T := TX12) (N := 62) (j := 1) (r := 5002) (pw_dk dc_X12_feed 37 rfl) rfl me_5000 rfl pi_12 (by decide) fk_12_1 tw_1398 (rfl) (by decide) ?_
  refine PW_aload_n (pc' := 80) (q := 1) (pw_dk dc_X12_feed 38 rfl) rfl rfl rfl ?_
  refine PZ_getI (pc' := 83) (id := 5000) (ci := 12) (nn := 0) (C0 := RX12) (T := TX12) (N := 62) (j := 2) (pw_dk dc_X12_feed 39 rfl) rfl me_5000 rfl pi_12 (by decide) fk_12_2 tw_1399 ?_
  refine PW_iload (pc' := 85) (q := 7) (pw_dk dc_X12_feed 40 rfl) rfl rfl ?_
  refine PW_iadd (pc' := 86) (pw_dk dc_X12_feed 41 rfl) rfl ?_
  refine PW_iload (pc' := 88) (q := 0) (pw_dk dc_X12_feed 42 rfl) rfl rfl ?_
  refine PW_bipush (pc' := 90) (v := 24) (pw_dk dc_X12_feed 43 rfl) rfl (by decide) ?_
  refine PW_bipush (pc' := 92) (v := 8) (pw_dk dc_X12_feed 44 rfl) rfl (by decide) ?_
  refine PW_iload (pc' := 94) (q := 7) (pw_dk dc_X12_feed 45 rfl) rfl rfl ?_
  refine PW_iconst (pc' := 95) (v := 4) (pw_dk dc_X12_feed 46 rfl) rfl (by decide) ?_
  refine PW_irem (pc' := 96) (pw_dk dc_X12_feed 47 rfl) rfl (by decide) ?_
  refine PW_imul (pc' := 97) (pw_dk dc_X12_feed 48 rfl) rfl ?_
  refine PW_isub (pc' := 98) (pw_dk dc_X12_feed 49 rfl) rfl ?_
  refine PW_ishr (pc' := 99) (pw_dk dc_X12_feed 50 rfl) rfl ?_
  refine PW_sipush (pc' := 102) (v := 255) (pw_dk dc_X12_feed 51 rfl) rfl (by decide) ?_
  refine PW_iand (pc' := 103) (pw_dk dc_X12_feed 52 rfl) rfl ?_
  obtain ⟨σ_1, hi_2, e_3, h⟩ := wp_wrIx h
  refine PZ_iastx (pc' := 104) (σ' := σ_1) (id := 5002) (nn := 700) (pw_dk dc_X12_feed 53 rfl) rfl me_5002 hi_2 e_3 ?_
  refine PW_iinc (pc' := 107) (q := 7) (v := x6 + 1) (lv' := [(6, .int (x6 + 1)), (7, .int s0), (0, .ref 5000), (1, .int x1), (2, .int x2), (3, .int x3), (4, .int x4), (5, .int x5)]) (pw_dk dc_X12_feed 54 rfl) rfl rfl rfl (by decide) rfl ?_
  refine PW_goto (tgt := 20) (pw_dk dc_X12_feed 55 rfl) (by decide) ?_
  refine PW_sub (lv' := [(0, .ref 5000), (1, .int x1), (2, .int x2), (3, .int x3), (4, .int x4), (5, .int x5), (6, .int (x6 + 1))]) [2, 3, 4, 5, 6, 7, 0] rfl ?_
  exact hr20 x1 x2 x3 x4 x5 (x6 + 1) σ_1 h
def f_X12_feed_20  : Nat → Int32 → Int32 → Int32 → Int32 → Int32 → Int32 → zS → Option (Int32 × zS)
  | 0, _, _, _, _, _, _, _ => none
  | n + 1, x1, x2, x3, x4, x5, x6, σ => 
    if 20 ≤ x6 then
      lt (wI σ 5000 2 ((σ.1 5000 2) + (20 : Int32))) fun σ_2 =>
      some (σ_2.1 5000 2, σ_2)
    else
      if 4 ≤ x6 then
        if 8 ≤ x6 then
          if 12 ≤ x6 then
            if 16 ≤ x6 then
              f_X12_feed_73 (f_X12_feed_20 n) x1 x2 x3 x4 x5 x6 x5 σ
            else
              f_X12_feed_73 (f_X12_feed_20 n) x1 x2 x3 x4 x5 x6 x4 σ
          else
            f_X12_feed_73 (f_X12_feed_20 n) x1 x2 x3 x4 x5 x6 x3 σ
        else
          f_X12_feed_73 (f_X12_feed_20 n) x1 x2 x3 x4 x5 x6 x2 σ
      else
        f_X12_feed_73 (f_X12_feed_20 n) x1 x2 x3 x4 x5 x6 x1 σ
theorem b_X12_feed_20 {Q : Option Value → zS → Prop} : ∀ (n : Nat) (x1 : Int32) (x2 : Int32) (x3 : Int32) (x4 : Int32) (x5 : Int32) (x6 : Int32) (σ : zS) (h : wpO (f_X12_feed_20 n x1 x2 x3 x4 x5 x6 σ) (fun a => Q (some (.int a.1)) a.2)), PZ alM mX12_feed (0) Q 20 [(0, .ref 5000), (1, .int x1), (2, .int x2), (3, .int x3), (4, .int x4), (5, .int x5), (6, .int x6)] [] σ := by
  intro n
  induction n with
  | zero => intro x1 x2 x3 x4 x5 x6 σ h; exact wp_none h
  | succ n ih =>
    intro x1 x2 x3 x4 x5 x6 σ h
    rw [f_X12_feed_20] at h
    refine PW_iload (pc' := 22) (q := 6) (pw_dk dc_X12_feed 11 rfl) rfl rfl ?_
    refine PW_bipush (pc' := 24) (v := 20) (pw_dk dc_X12_feed 12 rfl) rfl (by decide) ?_
    refine PW_icmp_ge (pc' := 27) (tgt := 110) (pw_dk dc_X12_feed 13 rfl) rfl (by decide) (fun c_1 => ?_) (fun c_1 => ?_)
    · rw [if_pos c_1] at h
      refine PW_aload_n (pc' := 111) (q := 0) (pw_dk dc_X12_feed 56 rfl) rfl rfl rfl ?_
      refine PW_dup (pc' := 112) (pw_dk dc_X12_feed 57 rfl) rfl rfl ?_
      refine PZ_getI (pc' := 115) (id := 5000) (ci := 12) (nn := 0) (C0 := RX12) (T := TX12) (N := 62) (j := 2) (pw_dk dc_X12_feed 58 rfl) rfl me_5000 rfl pi_12 (by decide) fk_12_2 tw_1399 ?_
      refine PW_bipush (pc' := 117) (v := 20) (pw_dk dc_X12_feed 59 rfl) rfl (by decide) ?_
      refine PW_iadd (pc' := 118) (pw_dk dc_X12_feed 60 rfl) rfl ?_
      obtain ⟨σ_2, e_3, h⟩ := lt_x h
      refine PZ_putX (pc' := 121) (σ' := σ_2) (id := 5000) (ci := 12) (nn := 0) (C0 := RX12) (T := TX12) (N := 62) (j := 2) (ty := tyX12 2) (pw_dk dc_X12_feed 61 rfl) rfl me_5000 rfl pi_12 tyX12_ok nmX12 (by decide) fk_12_2 tw_1399 rfl (tyX12_ok 2 (by decide)) (by first | rfl | decide) (by first | rfl | decide) e_3 ?_
      refine PW_aload_n (pc' := 122) (q := 0) (pw_dk dc_X12_feed 62 rfl) rfl rfl rfl ?_
      refine PZ_getI (pc' := 125) (id := 5000) (ci := 12) (nn := 0) (C0 := RX12) (T := TX12) (N := 62) (j := 2) (pw_dk dc_X12_feed 63 rfl) rfl me_5000 rfl pi_12 (by decide) fk_12_2 tw_1399 ?_
      have z := wp_some h
      exact PZ_iret (ty := .int) (pw_dk dc_X12_feed 64 rfl) rfl rfl z
    · rw [if_neg c_1] at h
      refine PW_iload (pc' := 29) (q := 6) (pw_dk dc_X12_feed 14 rfl) rfl rfl ?_
      refine PW_iconst (pc' := 30) (v := 4) (pw_dk dc_X12_feed 15 rfl) rfl (by decide) ?_
      refine PW_icmp_ge (pc' := 33) (tgt := 37) (pw_dk dc_X12_feed 16 rfl) rfl (by decide) (fun c_4 => ?_) (fun c_4 => ?_)
      · rw [if_pos c_4] at h
        refine PW_iload (pc' := 39) (q := 6) (pw_dk dc_X12_feed 19 rfl) rfl rfl ?_
        refine PW_bipush (pc' := 41) (v := 8) (pw_dk dc_X12_feed 20 rfl) rfl (by decide) ?_
        refine PW_icmp_ge (pc' := 44) (tgt := 48) (pw_dk dc_X12_feed 21 rfl) rfl (by decide) (fun c_5 => ?_) (fun c_5 => ?_)
        · rw [if_pos c_5] at h
          refine PW_iload (pc' := 50) (q := 6) (pw_dk dc_X12_feed 24 rfl) rfl rfl ?_
          refine PW_bipush (pc' := 52) (v := 12) (pw_dk dc_X12_feed 25 rfl) rfl (by decide) ?_
          refine PW_icmp_ge (pc' := 55) (tgt := 59) (pw_dk dc_X12_feed 26 rfl) rfl (by decide) (fun c_6 => ?_) (fun c_6 => ?_)
          · rw [if_pos c_6] at h
            refine PW_iload (pc' := 61) (q := 6) (pw_dk dc_X12_feed 29 rfl) rfl rfl ?_
            refine PW_bipush (pc' := 63) (v := 16) (pw_dk dc_X12_feed 30 rfl) rfl (by decide) ?_
            refine PW_icmp_ge (pc' := 66) (tgt := 71) (pw_dk dc_X12_feed 31 rfl) rfl (by decide) (fun c_7 => ?_) (fun c_7 => ?_)
            · rw [if_pos c_7] at h
              refine PW_iload (pc' := 73) (q := 5) (pw_dk dc_X12_feed 34 rfl) rfl rfl ?_
              exact b_X12_feed_73 (f_X12_feed_20 n) ih x1 x2 x3 x4 x5 x6 x5 σ h
            · rw [if_neg c_7] at h
              refine PW_iload (pc' := 68) (q := 4) (pw_dk dc_X12_feed 32 rfl) rfl rfl ?_
              refine PW_goto (tgt := 73) (pw_dk dc_X12_feed 33 rfl) (by decide) ?_
              exact b_X12_feed_73 (f_X12_feed_20 n) ih x1 x2 x3 x4 x5 x6 x4 σ h
          · rw [if_neg c_6] at h
            refine PW_iload_n (pc' := 56) (q := 3) (pw_dk dc_X12_feed 27 rfl) rfl rfl rfl ?_
            refine PW_goto (tgt := 73) (pw_dk dc_X12_feed 28 rfl) (by decide) ?_
            exact b_X12_feed_73 (f_X12_feed_20 n) ih x1 x2 x3 x4 x5 x6 x3 σ h
        · rw [if_neg c_5] at h
          refine PW_iload_n (pc' := 45) (q := 2) (pw_dk dc_X12_feed 22 rfl) rfl rfl rfl ?_
          refine PW_goto (tgt := 73) (pw_dk dc_X12_feed 23 rfl) (by decide) ?_
          exact b_X12_feed_73 (f_X12_feed_20 n) ih x1 x2 x3 x4 x5 x6 x2 σ h
      · rw [if_neg c_4] at h
        refine PW_iload_n (pc' := 34) (q := 1) (pw_dk dc_X12_feed 17 rfl) rfl rfl rfl ?_
        refine PW_goto (tgt := 73) (pw_dk dc_X12_feed 18 rfl) (by decide) ?_
        exact b_X12_feed_73 (f_X12_feed_20 n) ih x1 x2 x3 x4 x5 x6 x1 σ h
def f_X12_feed (x1 : Int32) (x2 : Int32) (x3 : Int32) (x4 : Int32) (x5 : Int32) (σ : zS) : Option (Int32 × zS) := 
  lt (wI σ 5000 0 0) fun σ_1 =>
  if (σ_1.1 5000 2) ≤ 680 then
    f_X12_feed_20 FU x1 x2 x3 x4 x5 0 σ_1
  else
    some ((-1 : Int32), σ_1)
theorem t_X12_feed (x1 : Int32) (x2 : Int32) (x3 : Int32) (x4 : Int32) (x5 : Int32) (σ : zS) (Q : Option Value → zS → Prop) (h : wpO (f_X12_feed x1 x2 x3 x4 x5 σ) (fun a => Q (some (.int a.1)) a.2)) : PK alM yX12_feed mX12_feed (0) [.ref 5000, .int x1, .int x2, .int x3, .int x4, .int x5] σ Q := by
  refine PC_ofF (by decide +kernel) rfl rfl (Nat.le_of_ble_eq_true rfl) ?_
  show PZ alM mX12_feed (0) Q 0 [(0, .ref 5000), (1, .int x1), (2, .int x2), (3, .int x3), (4, .int x4), (5, .int x5)] [] σ
  unfold f_X12_feed at h
  refine PW_aload_n (pc' := 1) (q := 0) (pw_dk dc_X12_feed 0 rfl) rfl rfl rfl ?_
  refine PW_iconst (pc' := 2) (v := 0) (pw_dk dc_X12_feed 1 rfl) rfl (by decide) ?_
  obtain ⟨σ_1, e_2, h⟩ := lt_x h
  refine PZ_putX (pc' := 5) (σ' := σ_1) (id := 5000) (ci := 12) (nn := 0) (C0 := RX12) (T := TX12) (N := 62) (j := 0) (ty := tyX12 0) (pw_dk dc_X12_feed 2 rfl) rfl me_5000 rfl pi_12 tyX12_ok nmX12 (by decide) fk_12_0 tw_1397 rfl (tyX12_ok 0 (by decide)) (by first | rfl | decide) (by first | rfl | decide) e_2 ?_
  refine PW_aload_n (pc' := 6) (q := 0) (pw_dk dc_X12_feed 3 rfl) rfl rfl rfl ?_
  refine PZ_getI (pc' := 9) (id := 5000) (ci := 12) (nn := 0) (C0 := RX12) (T := TX12) (N := 62) (j := 2) (pw_dk dc_X12_feed 4 rfl) rfl me_5000 rfl pi_12 (by decide) fk_12_2 tw_1399 ?_
  refine PW_sipush (pc' := 12) (v := 680) (pw_dk dc_X12_feed 5 rfl) rfl (by decide) ?_
  refine PW_icmp_le (pc' := 15) (tgt := 17) (pw_dk dc_X12_feed 6 rfl) rfl (by decide) (fun c_3 => ?_) (fun c_3 => ?_)
  · rw [if_pos c_3] at h
    refine PW_iconst (pc' := 18) (v := 0) (pw_dk dc_X12_feed 9 rfl) rfl (by decide) ?_
    refine PW_istore (pc' := 20) (lv' := [(6, .int 0), (0, .ref 5000), (1, .int x1), (2, .int x2), (3, .int x3), (4, .int x4), (5, .int x5)]) (pw_dk dc_X12_feed 10 rfl) rfl (by decide) rfl ?_
    refine PW_sub (lv' := [(0, .ref 5000), (1, .int x1), (2, .int x2), (3, .int x3), (4, .int x4), (5, .int x5), (6, .int 0)]) [1, 2, 3, 4, 5, 6, 0] rfl ?_
    exact b_X12_feed_20 FU x1 x2 x3 x4 x5 0 σ_1 h
  · rw [if_neg c_3] at h
    refine PW_iconst (pc' := 16) (v := (-1 : Int32)) (pw_dk dc_X12_feed 7 rfl) rfl (by decide) ?_
    have z := wp_some h
    exact PZ_iret (ty := .int) (pw_dk dc_X12_feed 8 rfl) rfl rfl z
def f_X12_here  (σ : zS) : Option Int32 := 
  if (σ.1 5000 23) ≤ (σ.1 5000 24) then
    some (-1 : Int32)
  else
    (rdI σ 5002 700 (σ.1 5000 24)).bind fun v_2 =>
    some v_2
theorem t_X12_here (σ : zS) (Q : Option Value → zS → Prop) (h : wpO (f_X12_here σ) (fun a => Q (some (.int a)) σ)) : PK alM yX12_here mX12_here (0) [.ref 5000] σ Q := by
  refine PC_ofF (by decide +kernel) rfl rfl (Nat.le_of_ble_eq_true rfl) ?_
  show PZ alM mX12_here (0) Q 0 [(0, .ref 5000)] [] σ
  unfold f_X12_here at h
  refine PW_aload_n (pc' := 1) (q := 0) (pw_dk dc_X12_here 0 rfl) rfl rfl rfl ?_
  refine PZ_getI (pc' := 4) (id := 5000) (ci := 12) (nn := 0) (C0 := RX12) (T := TX12) (N := 62) (j := 24) (pw_dk dc_X12_here 1 rfl) rfl me_5000 rfl pi_12 (by decide) fk_12_24 tw_1421 ?_
  refine PW_aload_n (pc' := 5) (q := 0) (pw_dk dc_X12_here 2 rfl) rfl rfl rfl ?_
  refine PZ_getI (pc' := 8) (id := 5000) (ci := 12) (nn := 0) (C0 := RX12) (T := TX12) (N := 62) (j := 23) (pw_dk dc_X12_here 3 rfl) rfl me_5000 rfl pi_12 (by decide) fk_12_23 tw_1420 ?_
  refine PW_icmp_ge (pc' := 11) (tgt := 23) (pw_dk dc_X12_here 4 rfl) rfl (by decide) (fun c_1 => ?_) (fun c_1 => ?_)
  · rw [if_pos c_1] at h
    refine PW_iconst (pc' := 24) (v := (-1 : Int32)) (pw_dk dc_X12_here 11 rfl) rfl (by decide) ?_
    have z := wp_some h
    exact PZ_iret (ty := .int) (pw_dk dc_X12_here 12 rfl) rfl rfl z
  · rw [if_neg c_1] at h
    refine PW_aload_n (pc' := 12) (q := 0) (pw_dk dc_X12_here 5 rfl) rfl rfl rfl ?_
    refine PW_getR (pc' := 15) (id := 5000) (ci := 12) (nn := 0) (C0 := RX12) (T := TX12) (N := 62) (j := 1) (r := 5002) (pw_dk dc_X12_here 6 rfl) rfl me_5000 rfl pi_12 (by decide) fk_12_1 tw_1398 (rfl) (by decide) ?_
    refine PW_aload_n (pc' := 16) (q := 0) (pw_dk dc_X12_here 7 rfl) rfl rfl rfl ?_
    refine PZ_getI (pc' := 19) (id := 5000) (ci := 12) (nn := 0) (C0 := RX12) (T := TX12) (N := 62) (j := 24) (pw_dk dc_X12_here 8 rfl) rfl me_5000 rfl pi_12 (by decide) fk_12_24 tw_1421 ?_
    obtain ⟨v_2, hi_3, e_4, h⟩ := wp_rdIx h
    refine PZ_ialdx (pc' := 20) (v := v_2) (id := 5002) (nn := 700) (pw_dk dc_X12_here 9 rfl) rfl me_5002 hi_3 e_4 ?_
    refine PW_goto (tgt := 24) (pw_dk dc_X12_here 10 rfl) (by decide) ?_
    have z := wp_some h
    exact PZ_iret (ty := .int) (pw_dk dc_X12_here 12 rfl) rfl rfl z
def f_X12_isSmall (x0 : Int32) (σ : zS) : Int32 := 
  if x0 < 97 then
    0
  else
    if 122 < x0 then
      0
    else
      1
theorem t_X12_isSmall (x0 : Int32) (σ : zS) (Q : Option Value → zS → Prop) (h : Q (some (.int (f_X12_isSmall x0 σ))) σ) : PK alM yX12_isSmall mX12_isSmall (0) [.int x0] σ Q := by
  refine PC_ofF (by decide +kernel) rfl rfl (Nat.le_of_ble_eq_true rfl) ?_
  show PZ alM mX12_isSmall (0) Q 0 [(0, .int x0)] [] σ
  unfold f_X12_isSmall at h
  refine PW_iload_n (pc' := 1) (q := 0) (pw_dk dc_X12_isSmall 0 rfl) rfl rfl rfl ?_
  refine PW_bipush (pc' := 3) (v := 97) (pw_dk dc_X12_isSmall 1 rfl) rfl (by decide) ?_
  refine PW_icmp_lt (pc' := 6) (tgt := 16) (pw_dk dc_X12_isSmall 2 rfl) rfl (by decide) (fun c_1 => ?_) (fun c_1 => ?_)
  · rw [if_pos c_1] at h
    refine PW_iconst (pc' := 17) (v := 0) (pw_dk dc_X12_isSmall 8 rfl) rfl (by decide) ?_
    exact PZ_iret (ty := .boolean) (pw_dk dc_X12_isSmall 9 rfl) rfl (by decide) h
  · rw [if_neg c_1] at h
    refine PW_iload_n (pc' := 7) (q := 0) (pw_dk dc_X12_isSmall 3 rfl) rfl rfl rfl ?_
    refine PW_bipush (pc' := 9) (v := 122) (pw_dk dc_X12_isSmall 4 rfl) rfl (by decide) ?_
    refine PW_icmp_gt (pc' := 12) (tgt := 16) (pw_dk dc_X12_isSmall 5 rfl) rfl (by decide) (fun c_2 => ?_) (fun c_2 => ?_)
    · rw [if_pos c_2] at h
      refine PW_iconst (pc' := 17) (v := 0) (pw_dk dc_X12_isSmall 8 rfl) rfl (by decide) ?_
      exact PZ_iret (ty := .boolean) (pw_dk dc_X12_isSmall 9 rfl) rfl (by decide) h
    · rw [if_neg c_2] at h
      refine PW_iconst (pc' := 13) (v := 1) (pw_dk dc_X12_isSmall 6 rfl) rfl (by decide) ?_
      refine PW_goto (tgt := 17) (pw_dk dc_X12_isSmall 7 rfl) (by decide) ?_
      exact PZ_iret (ty := .boolean) (pw_dk dc_X12_isSmall 9 rfl) rfl (by decide) h
def f_X12_isDigit (x0 : Int32) (σ : zS) : Int32 := 
  if x0 < 48 then
    0
  else
    if 57 < x0 then
      0
    else
      1
theorem t_X12_isDigit (x0 : Int32) (σ : zS) (Q : Option Value → zS → Prop) (h : Q (some (.int (f_X12_isDigit x0 σ))) σ) : PK alM yX12_isDigit mX12_isDigit (0) [.int x0] σ Q := by
  refine PC_ofF (by decide +kernel) rfl rfl (Nat.le_of_ble_eq_true rfl) ?_
  show PZ alM mX12_isDigit (0) Q 0 [(0, .int x0)] [] σ
  unfold f_X12_isDigit at h
  refine PW_iload_n (pc' := 1) (q := 0) (pw_dk dc_X12_isDigit 0 rfl) rfl rfl rfl ?_
  refine PW_bipush (pc' := 3) (v := 48) (pw_dk dc_X12_isDigit 1 rfl) rfl (by decide) ?_
  refine PW_icmp_lt (pc' := 6) (tgt := 16) (pw_dk dc_X12_isDigit 2 rfl) rfl (by decide) (fun c_1 => ?_) (fun c_1 => ?_)
  · rw [if_pos c_1] at h
    refine PW_iconst (pc' := 17) (v := 0) (pw_dk dc_X12_isDigit 8 rfl) rfl (by decide) ?_
    exact PZ_iret (ty := .boolean) (pw_dk dc_X12_isDigit 9 rfl) rfl (by decide) h
  · rw [if_neg c_1] at h
    refine PW_iload_n (pc' := 7) (q := 0) (pw_dk dc_X12_isDigit 3 rfl) rfl rfl rfl ?_
    refine PW_bipush (pc' := 9) (v := 57) (pw_dk dc_X12_isDigit 4 rfl) rfl (by decide) ?_
    refine PW_icmp_gt (pc' := 12) (tgt := 16) (pw_dk dc_X12_isDigit 5 rfl) rfl (by decide) (fun c_2 => ?_) (fun c_2 => ?_)
    · rw [if_pos c_2] at h
      refine PW_iconst (pc' := 17) (v := 0) (pw_dk dc_X12_isDigit 8 rfl) rfl (by decide) ?_
      exact PZ_iret (ty := .boolean) (pw_dk dc_X12_isDigit 9 rfl) rfl (by decide) h
    · rw [if_neg c_2] at h
      refine PW_iconst (pc' := 13) (v := 1) (pw_dk dc_X12_isDigit 6 rfl) rfl (by decide) ?_
      refine PW_goto (tgt := 17) (pw_dk dc_X12_isDigit 7 rfl) (by decide) ?_
      exact PZ_iret (ty := .boolean) (pw_dk dc_X12_isDigit 9 rfl) rfl (by decide) h
def f_X12_name_53 (r7 : Int32 → zS → Option zS) (x1 : Int32) (s1 : Int32) (s2 : Int32) (σ : zS) : Option zS := 
  lt (wI σ 5000 27 (s1 ||| s2)) fun σ_1 =>
  r7 (x1 + 1) σ_1
theorem b_X12_name_53 {Q : Option Value → zS → Prop} (r7 : Int32 → zS → Option zS) (hr7 : ∀ (x1 : Int32) (σ : zS), wpO (r7 x1 σ) (fun s => Q none s) → PZ alM mX12_name (0) Q 7 [(0, .ref 5000), (1, .int x1)] [] σ) (x1 : Int32) (s1 : Int32) (s2 : Int32) (σ : zS) (h : wpO (f_X12_name_53 r7 x1 s1 s2 σ) (fun s => Q none s)) : PZ alM mX12_name (0) Q 53 [(0, .ref 5000), (1, .int x1)] [.int s2, .int s1, .ref 5000] σ := by
  unfold f_X12_name_53 at h
  refine PW_ior (pc' := 54) (pw_dk dc_X12_name 33 rfl) rfl ?_
  obtain ⟨σ_1, e_2, h⟩ := lt_x h
  refine PZ_putX (pc' := 57) (σ' := σ_1) (id := 5000) (ci := 12) (nn := 0) (C0 := RX12) (T := TX12) (N := 62) (j := 27) (ty := tyX12 27) (pw_dk dc_X12_name 34 rfl) rfl me_5000 rfl pi_12 tyX12_ok nmX12 (by decide) fk_12_27 tw_1424 rfl (tyX12_ok 27 (by decide)) (by first | rfl | decide) (by first | rfl | decide) e_2 ?_
  refine PW_iinc (pc' := 60) (q := 1) (v := x1 + 1) (lv' := [(1, .int (x1 + 1)), (0, .ref 5000)]) (pw_dk dc_X12_name 35 rfl) rfl rfl rfl (by decide) rfl ?_
  refine PW_goto (tgt := 7) (pw_dk dc_X12_name 36 rfl) (by decide) ?_
  refine PW_sub (lv' := [(0, .ref 5000), (1, .int (x1 + 1))]) [1, 0] rfl ?_
  exact hr7 (x1 + 1) σ_1 h
def f_X12_name_7  : Nat → Int32 → zS → Option zS
  | 0, _, _ => none
  | n + 1, x1, σ => 
    if 6 ≤ x1 then
      some σ
    else
      if (σ.1 5000 24) ≤ ((σ.1 5000 25) + x1) then
        f_X12_name_53 (f_X12_name_7 n) x1 ((σ.1 5000 27) <<< ((5 : Int32) &&& 31)) 0 σ
      else
        (rdI σ 5002 700 ((σ.1 5000 25) + x1)).bind fun v_3 =>
        f_X12_name_53 (f_X12_name_7 n) x1 ((σ.1 5000 27) <<< ((5 : Int32) &&& 31)) ((v_3 - (97 : Int32)) + (1 : Int32)) σ
theorem b_X12_name_7 {Q : Option Value → zS → Prop} : ∀ (n : Nat) (x1 : Int32) (σ : zS) (h : wpO (f_X12_name_7 n x1 σ) (fun s => Q none s)), PZ alM mX12_name (0) Q 7 [(0, .ref 5000), (1, .int x1)] [] σ := by
  intro n
  induction n with
  | zero => intro x1 σ h; exact wp_none h
  | succ n ih =>
    intro x1 σ h
    rw [f_X12_name_7] at h
    refine PW_iload_n (pc' := 8) (q := 1) (pw_dk dc_X12_name 5 rfl) rfl rfl rfl ?_
    refine PW_bipush (pc' := 10) (v := 6) (pw_dk dc_X12_name 6 rfl) rfl (by decide) ?_
    refine PW_icmp_ge (pc' := 13) (tgt := 63) (pw_dk dc_X12_name 7 rfl) rfl (by decide) (fun c_1 => ?_) (fun c_1 => ?_)
    · rw [if_pos c_1] at h
      have z := wp_some h
      exact PZ_vret (pw_dk dc_X12_name 37 rfl) rfl z
    · rw [if_neg c_1] at h
      refine PW_aload_n (pc' := 14) (q := 0) (pw_dk dc_X12_name 8 rfl) rfl rfl rfl ?_
      refine PW_aload_n (pc' := 15) (q := 0) (pw_dk dc_X12_name 9 rfl) rfl rfl rfl ?_
      refine PZ_getI (pc' := 18) (id := 5000) (ci := 12) (nn := 0) (C0 := RX12) (T := TX12) (N := 62) (j := 27) (pw_dk dc_X12_name 10 rfl) rfl me_5000 rfl pi_12 (by decide) fk_12_27 tw_1424 ?_
      refine PW_iconst (pc' := 19) (v := 5) (pw_dk dc_X12_name 11 rfl) rfl (by decide) ?_
      refine PW_ishl (pc' := 20) (pw_dk dc_X12_name 12 rfl) rfl ?_
      refine PW_aload_n (pc' := 21) (q := 0) (pw_dk dc_X12_name 13 rfl) rfl rfl rfl ?_
      refine PZ_getI (pc' := 24) (id := 5000) (ci := 12) (nn := 0) (C0 := RX12) (T := TX12) (N := 62) (j := 25) (pw_dk dc_X12_name 14 rfl) rfl me_5000 rfl pi_12 (by decide) fk_12_25 tw_1422 ?_
      refine PW_iload_n (pc' := 25) (q := 1) (pw_dk dc_X12_name 15 rfl) rfl rfl rfl ?_
      refine PW_iadd (pc' := 26) (pw_dk dc_X12_name 16 rfl) rfl ?_
      refine PW_aload_n (pc' := 27) (q := 0) (pw_dk dc_X12_name 17 rfl) rfl rfl rfl ?_
      refine PZ_getI (pc' := 30) (id := 5000) (ci := 12) (nn := 0) (C0 := RX12) (T := TX12) (N := 62) (j := 24) (pw_dk dc_X12_name 18 rfl) rfl me_5000 rfl pi_12 (by decide) fk_12_24 tw_1421 ?_
      refine PW_icmp_ge (pc' := 33) (tgt := 52) (pw_dk dc_X12_name 19 rfl) rfl (by decide) (fun c_2 => ?_) (fun c_2 => ?_)
      · rw [if_pos c_2] at h
        refine PW_iconst (pc' := 53) (v := 0) (pw_dk dc_X12_name 32 rfl) rfl (by decide) ?_
        exact b_X12_name_53 (f_X12_name_7 n) ih x1 ((σ.1 5000 27) <<< ((5 : Int32) &&& 31)) 0 σ h
      · rw [if_neg c_2] at h
        refine PW_aload_n (pc' := 34) (q := 0) (pw_dk dc_X12_name 20 rfl) rfl rfl rfl ?_
        refine PW_getR (pc' := 37) (id := 5000) (ci := 12) (nn := 0) (C0 := RX12) (T := TX12) (N := 62) (j := 1) (r := 5002) (pw_dk dc_X12_name 21 rfl) rfl me_5000 rfl pi_12 (by decide) fk_12_1 tw_1398 (rfl) (by decide) ?_
        refine PW_aload_n (pc' := 38) (q := 0) (pw_dk dc_X12_name 22 rfl) rfl rfl rfl ?_
        refine PZ_getI (pc' := 41) (id := 5000) (ci := 12) (nn := 0) (C0 := RX12) (T := TX12) (N := 62) (j := 25) (pw_dk dc_X12_name 23 rfl) rfl me_5000 rfl pi_12 (by decide) fk_12_25 tw_1422 ?_
        refine PW_iload_n (pc' := 42) (q := 1) (pw_dk dc_X12_name 24 rfl) rfl rfl rfl ?_
        refine PW_iadd (pc' := 43) (pw_dk dc_X12_name 25 rfl) rfl ?_
        obtain ⟨v_3, hi_4, e_5, h⟩ := wp_rdIx h
        refine PZ_ialdx (pc' := 44) (v := v_3) (id := 5002) (nn := 700) (pw_dk dc_X12_name 26 rfl) rfl me_5002 hi_4 e_5 ?_
        refine PW_bipush (pc' := 46) (v := 97) (pw_dk dc_X12_name 27 rfl) rfl (by decide) ?_
        refine PW_isub (pc' := 47) (pw_dk dc_X12_name 28 rfl) rfl ?_
        refine PW_iconst (pc' := 48) (v := 1) (pw_dk dc_X12_name 29 rfl) rfl (by decide) ?_
        refine PW_iadd (pc' := 49) (pw_dk dc_X12_name 30 rfl) rfl ?_
        refine PW_goto (tgt := 53) (pw_dk dc_X12_name 31 rfl) (by decide) ?_
        exact b_X12_name_53 (f_X12_name_7 n) ih x1 ((σ.1 5000 27) <<< ((5 : Int32) &&& 31)) ((v_3 - (97 : Int32)) + (1 : Int32)) σ h
def f_X12_name  (σ : zS) : Option zS := 
  lt (wI σ 5000 27 0) fun σ_1 =>
  f_X12_name_7 FU 0 σ_1
theorem t_X12_name (σ : zS) (Q : Option Value → zS → Prop) (h : wpO (f_X12_name σ) (fun s => Q none s)) : PK alM yX12_name mX12_name (0) [.ref 5000] σ Q := by
  refine PC_ofF (by decide +kernel) rfl rfl (Nat.le_of_ble_eq_true rfl) ?_
  show PZ alM mX12_name (0) Q 0 [(0, .ref 5000)] [] σ
  unfold f_X12_name at h
  refine PW_aload_n (pc' := 1) (q := 0) (pw_dk dc_X12_name 0 rfl) rfl rfl rfl ?_
  refine PW_iconst (pc' := 2) (v := 0) (pw_dk dc_X12_name 1 rfl) rfl (by decide) ?_
  obtain ⟨σ_1, e_2, h⟩ := lt_x h
  refine PZ_putX (pc' := 5) (σ' := σ_1) (id := 5000) (ci := 12) (nn := 0) (C0 := RX12) (T := TX12) (N := 62) (j := 27) (ty := tyX12 27) (pw_dk dc_X12_name 2 rfl) rfl me_5000 rfl pi_12 tyX12_ok nmX12 (by decide) fk_12_27 tw_1424 rfl (tyX12_ok 27 (by decide)) (by first | rfl | decide) (by first | rfl | decide) e_2 ?_
  refine PW_iconst (pc' := 6) (v := 0) (pw_dk dc_X12_name 3 rfl) rfl (by decide) ?_
  refine PW_istore_n (pc' := 7) (lv' := [(1, .int 0), (0, .ref 5000)]) (pw_dk dc_X12_name 4 rfl) rfl rfl (by decide) rfl ?_
  refine PW_sub (lv' := [(0, .ref 5000), (1, .int 0)]) [1, 0] rfl ?_
  exact b_X12_name_7 FU 0 σ_1 h
