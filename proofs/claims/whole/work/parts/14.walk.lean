/-! walks (printed by wip/gen) -/
def f_X8_manNamed (b : Bool) (x1 : Int32) (σ : zS) : Option Int32 := 
  (f_X8_indexOf (tv b + 8) 5 (σ.1 (tv b) 6) x1 σ).bind fun v_2 =>
  some v_2
theorem t_X8_manNamed (b : Bool) (x1 : Int32) (σ : zS) (Q : Option Value → zS → Prop) (h : wpO (f_X8_manNamed b x1 σ) (fun a => Q (some (.int a)) σ)) : PK alC yX8_manNamed mX8_manNamed (1) [.ref (tv b), .int x1] σ Q := by
  refine PC_ofF (by decide +kernel) rfl rfl (Nat.le_of_ble_eq_true rfl) ?_
  show PZ alC mX8_manNamed (1) Q 0 [(0, .ref (tv b)), (1, .int x1)] [] σ
  unfold f_X8_manNamed at h
  refine PW_aload_n (pc' := 1) (q := 0) (pw_dk dc_X8_manNamed 0 rfl) rfl rfl rfl ?_
  refine PW_getR (pc' := 4) (id := (tv b)) (ci := 8) (nn := 0) (C0 := RX8) (T := TX8) (N := 18) (j := 7) (r := tv b + 8) (pw_dk dc_X8_manNamed 1 rfl) rfl (me_T b) rfl pi_8 (by decide) fk_8_7 tw_219 (rf_T7 _ _) (su0 _ _) ?_
  refine PW_aload_n (pc' := 5) (q := 0) (pw_dk dc_X8_manNamed 2 rfl) rfl rfl rfl ?_
  refine PZ_getI (pc' := 8) (id := (tv b)) (ci := 8) (nn := 0) (C0 := RX8) (T := TX8) (N := 18) (j := 6) (pw_dk dc_X8_manNamed 3 rfl) rfl (me_T b) rfl pi_8 (by decide) fk_8_6 tw_215 ?_
  refine PW_iload_n (pc' := 9) (q := 1) (pw_dk dc_X8_manNamed 4 rfl) rfl rfl rfl ?_
  refine PZ_callSi (pc' := 12) (y := yX8_indexOf) (M' := mX8_indexOf) (d' := 0) (As := [.ref (tv b + 8), .int (σ.1 (tv b) 6), .int x1]) (st := []) tw_730 (pw_dk dc_X8_manNamed 5 rfl) rfl Y_X8_indexOf tw_729 rfl (by decide) (Nat.le_of_ble_eq_true rfl) (t_X8_indexOf (tv b + 8) 5 (σ.1 (tv b) 6) x1 (me_T7 _) σ _ ?_)
  obtain ⟨v_2, e_3, h⟩ := wp_bind h
  refine ⟨v_2, e_3, _, rfl, fun hn_1 => ?_⟩
  show PZ alC mX8_manNamed (1) Q 12 [(0, .ref (tv b)), (1, .int x1)] [.int v_2] σ
  have z := wp_some h
  exact PZ_iret (ty := .int) (pw_dk dc_X8_manNamed 6 rfl) rfl rfl z
def f_X4_readDeed_113  (x2 : Int32) (x3 : Int32) (x4 : Int32) (s0 : Int32) (σ : zS) : Option (Int32 × zS) := 
  if s0 = (-1 : Int32) then
    some (0, σ)
  else
    (f_X8_addDeed (σ.2.2 1) x2 x3 x4 s0 σ).bind fun σ_3 =>
    some (1, σ_3)
theorem b_X4_readDeed_113 {Q : Option Value → zS → Prop} (x2 : Int32) (x3 : Int32) (x4 : Int32) (s0 : Int32) (σ : zS) (h : wpO (f_X4_readDeed_113 x2 x3 x4 s0 σ) (fun a => Q (some (.int a.1)) a.2)) : PZ alC mX4_readDeed (4) Q 113 [(0, .ref 200), (2, .int x2), (3, .int x3), (4, .int x4)] [.int s0] σ := by
  unfold f_X4_readDeed_113 at h
  refine PW_istore (pc' := 115) (lv' := [(5, .int s0), (0, .ref 200), (2, .int x2), (3, .int x3), (4, .int x4)]) (pw_dk dc_X4_readDeed 61 rfl) rfl (by decide) rfl ?_
  refine PW_iload (pc' := 117) (q := 0) (pw_dk dc_X4_readDeed 62 rfl) rfl rfl ?_
  refine PW_iconst (pc' := 118) (v := (-1 : Int32)) (pw_dk dc_X4_readDeed 63 rfl) rfl (by decide) ?_
  refine PW_icmp_ne (pc' := 121) (tgt := 123) (pw_dk dc_X4_readDeed 64 rfl) rfl (by decide) (fun c_1 => ?_) (fun c_1 => ?_)
  · rw [if_neg c_1] at h
    refine PW_aload_n (pc' := 124) (q := 1) (pw_dk dc_X4_readDeed 67 rfl) rfl rfl rfl ?_
    refine PW_getR (pc' := 127) (id := 200) (ci := 4) (nn := 0) (C0 := RX4) (T := TX4) (N := 6) (j := 2) (r := tv (σ.2.2 1)) (pw_dk dc_X4_readDeed 68 rfl) rfl me_200 rfl pi_4 (by decide) fk_4_2 tw_411 (rf_M1 _) (tv0 _) ?_
    refine PW_iload_n (pc' := 128) (q := 2) (pw_dk dc_X4_readDeed 69 rfl) rfl rfl rfl ?_
    refine PW_iload_n (pc' := 129) (q := 3) (pw_dk dc_X4_readDeed 70 rfl) rfl rfl rfl ?_
    refine PW_iload (pc' := 131) (q := 4) (pw_dk dc_X4_readDeed 71 rfl) rfl rfl ?_
    refine PW_iload (pc' := 133) (q := 0) (pw_dk dc_X4_readDeed 72 rfl) rfl rfl ?_
    refine PZ_callVv (pc' := 136) (y := yX8_addDeed) (M' := mX8_addDeed) (d' := 0) (As := [.int x2, .int x3, .int x4, .int s0]) (st := []) (b := (tv (σ.2.2 1))) (ci := 8) (nn := 0) (me_T _) rfl tw_764 tw_765 (pw_dk dc_X4_readDeed 73 rfl) rfl Y_X8_addDeed tw_763 rfl (by decide) (Nat.le_of_ble_eq_true rfl) (t_X8_addDeed (σ.2.2 1) x2 x3 x4 s0 σ _ ?_)
    obtain ⟨σ_3, e_4, h⟩ := wp_bind h
    refine ⟨σ_3, e_4, rfl, fun hn_2 => ?_⟩
    show PZ alC mX4_readDeed (4) Q 136 [(5, .int s0), (0, .ref 200), (2, .int x2), (3, .int x3), (4, .int x4)] [] σ_3
    refine PW_iconst (pc' := 137) (v := 1) (pw_dk dc_X4_readDeed 74 rfl) rfl (by decide) ?_
    have z := wp_some h
    exact PZ_iret (ty := .boolean) (pw_dk dc_X4_readDeed 75 rfl) rfl (by decide) z
  · rw [if_pos c_1] at h
    refine PW_iconst (pc' := 122) (v := 0) (pw_dk dc_X4_readDeed 65 rfl) rfl (by decide) ?_
    have z := wp_some h
    exact PZ_iret (ty := .boolean) (pw_dk dc_X4_readDeed 66 rfl) rfl (by decide) z
def f_X4_readDeed_94  (x2 : Int32) (x3 : Int32) (s0 : Int32) (σ : zS) : Option (Int32 × zS) := 
  if s0 = (-1 : Int32) then
    f_X4_readDeed_113 x2 x3 s0 (-1 : Int32) σ
  else
    b2 (f_X4_takeNumber 0 23 σ) fun v_4 σ_3 =>
    f_X4_readDeed_113 x2 x3 s0 v_4 σ_3
theorem b_X4_readDeed_94 {Q : Option Value → zS → Prop} (x2 : Int32) (x3 : Int32) (s0 : Int32) (σ : zS) (h : wpO (f_X4_readDeed_94 x2 x3 s0 σ) (fun a => Q (some (.int a.1)) a.2)) : PZ alC mX4_readDeed (4) Q 94 [(0, .ref 200), (2, .int x2), (3, .int x3)] [.int s0] σ := by
  unfold f_X4_readDeed_94 at h
  refine PW_istore (pc' := 96) (lv' := [(4, .int s0), (0, .ref 200), (2, .int x2), (3, .int x3)]) (pw_dk dc_X4_readDeed 51 rfl) rfl (by decide) rfl ?_
  refine PW_iload (pc' := 98) (q := 0) (pw_dk dc_X4_readDeed 52 rfl) rfl rfl ?_
  refine PW_iconst (pc' := 99) (v := (-1 : Int32)) (pw_dk dc_X4_readDeed 53 rfl) rfl (by decide) ?_
  refine PW_icmp_ne (pc' := 102) (tgt := 106) (pw_dk dc_X4_readDeed 54 rfl) rfl (by decide) (fun c_1 => ?_) (fun c_1 => ?_)
  · rw [if_neg c_1] at h
    refine PW_aload_n (pc' := 107) (q := 1) (pw_dk dc_X4_readDeed 57 rfl) rfl rfl rfl ?_
    refine PW_iconst (pc' := 108) (v := 0) (pw_dk dc_X4_readDeed 58 rfl) rfl (by decide) ?_
    refine PW_bipush (pc' := 110) (v := 23) (pw_dk dc_X4_readDeed 59 rfl) rfl (by decide) ?_
    refine PZ_callVi (pc' := 113) (y := yX4_takeNumber) (M' := mX4_takeNumber) (d' := 3) (As := [.int 0, .int 23]) (st := []) (b := 200) (ci := 4) (nn := 0) me_200 rfl tw_715 tw_7 (pw_dk dc_X4_readDeed 60 rfl) rfl Y_X4_takeNumber tw_713 rfl (by decide) (Nat.le_of_ble_eq_true rfl) (t_X4_takeNumber 0 23 σ _ ?_)
    obtain ⟨⟨v_4, σ_3⟩, e_5, h⟩ := wp_bind2 h
    refine ⟨(v_4, σ_3), e_5, _, rfl, fun hn_2 => ?_⟩
    show PZ alC mX4_readDeed (4) Q 113 [(4, .int s0), (0, .ref 200), (2, .int x2), (3, .int x3)] [.int v_4] σ_3
    refine PW_sub (lv' := [(0, .ref 200), (2, .int x2), (3, .int x3), (4, .int s0)]) [1, 2, 3, 0] rfl ?_
    exact b_X4_readDeed_113 x2 x3 s0 v_4 σ_3 h
  · rw [if_pos c_1] at h
    refine PW_iconst (pc' := 103) (v := (-1 : Int32)) (pw_dk dc_X4_readDeed 55 rfl) rfl (by decide) ?_
    refine PW_goto (tgt := 113) (pw_dk dc_X4_readDeed 56 rfl) (by decide) ?_
    refine PW_sub (lv' := [(0, .ref 200), (2, .int x2), (3, .int x3), (4, .int s0)]) [1, 2, 3, 0] rfl ?_
    exact b_X4_readDeed_113 x2 x3 s0 (-1 : Int32) σ h
def f_X4_readDeed  (σ : zS) : Option (Int32 × zS) := 
  if (σ.1 (tv (σ.2.2 1)) 11) < 12 then
    (f_X7_advance σ).bind fun σ_3 =>
    b2 (f_X4_takeName σ_3) fun v_7 σ_6 =>
    if v_7 = (-1 : Int32) then
      some (0, σ_6)
    else
      (f_X8_manNamed (σ_6.2.2 1) v_7 σ_6).bind fun v_11 =>
      if v_11 = (-1 : Int32) then
        b2 (f_X7_refuse 4 σ_6) fun v_28 σ_27 =>
        some (v_28, σ_27)
      else
        (f_X7_advance σ_6).bind fun σ_15 =>
        b2 (f_X4_takeChoice 14 4 σ_15) fun v_19 σ_18 =>
        if v_19 = (-1 : Int32) then
          f_X4_readDeed_94 v_11 v_19 (-1 : Int32) σ_18
        else
          b2 (f_X4_takeChoice 18 4 σ_18) fun v_24 σ_23 =>
          f_X4_readDeed_94 v_11 v_19 v_24 σ_23
  else
    b2 (f_X7_refuse 2 σ) fun v_32 σ_31 =>
    some (v_32, σ_31)
theorem t_X4_readDeed (σ : zS) (Q : Option Value → zS → Prop) (h : wpO (f_X4_readDeed σ) (fun a => Q (some (.int a.1)) a.2)) : PK alC yX4_readDeed mX4_readDeed (4) [.ref 200] σ Q := by
  refine PC_ofF (by decide +kernel) rfl rfl (Nat.le_of_ble_eq_true rfl) ?_
  show PZ alC mX4_readDeed (4) Q 0 [(0, .ref 200)] [] σ
  unfold f_X4_readDeed at h
  refine PW_aload_n (pc' := 1) (q := 0) (pw_dk dc_X4_readDeed 0 rfl) rfl rfl rfl ?_
  refine PW_getR (pc' := 4) (id := 200) (ci := 4) (nn := 0) (C0 := RX4) (T := TX4) (N := 6) (j := 2) (r := tv (σ.2.2 1)) (pw_dk dc_X4_readDeed 1 rfl) rfl me_200 rfl pi_4 (by decide) fk_4_2 tw_411 (rf_M1 _) (tv0 _) ?_
  refine PZ_getI (pc' := 7) (id := (tv (σ.2.2 1))) (ci := 8) (nn := 0) (C0 := RX8) (T := TX8) (N := 18) (j := 11) (pw_dk dc_X4_readDeed 2 rfl) rfl (me_T _) rfl pi_8 (by decide) fk_8_11 tw_229 ?_
  refine PW_bipush (pc' := 9) (v := 12) (pw_dk dc_X4_readDeed 3 rfl) rfl (by decide) ?_
  refine PW_icmp_lt (pc' := 12) (tgt := 21) (pw_dk dc_X4_readDeed 4 rfl) rfl (by decide) (fun c_1 => ?_) (fun c_1 => ?_)
  · rw [if_pos c_1] at h
    refine PW_aload_n (pc' := 22) (q := 0) (pw_dk dc_X4_readDeed 10 rfl) rfl rfl rfl ?_
    refine PW_getR (pc' := 25) (id := 200) (ci := 4) (nn := 0) (C0 := RX4) (T := TX4) (N := 6) (j := 0) (r := 500) (pw_dk dc_X4_readDeed 11 rfl) rfl me_200 rfl pi_4 (by decide) fk_4_0 tw_408 (rfl) (by decide) ?_
    refine PZ_callVv (pc' := 28) (y := yX7_advance) (M' := mX7_advance) (d' := 2) (As := []) (st := []) (b := 500) (ci := 7) (nn := 0) me_500 rfl tw_674 tw_675 (pw_dk dc_X4_readDeed 12 rfl) rfl Y_X7_advance tw_712 rfl (by decide) (Nat.le_of_ble_eq_true rfl) (t_X7_advance σ _ ?_)
    obtain ⟨σ_3, e_4, h⟩ := wp_bind h
    refine ⟨σ_3, e_4, rfl, fun hn_2 => ?_⟩
    show PZ alC mX4_readDeed (4) Q 28 [(0, .ref 200)] [] σ_3
    refine PW_aload_n (pc' := 29) (q := 0) (pw_dk dc_X4_readDeed 13 rfl) rfl rfl rfl ?_
    refine PZ_callVi (pc' := 32) (y := yX4_takeName) (M' := mX4_takeName) (d' := 1) (As := []) (st := []) (b := 200) (ci := 4) (nn := 0) me_200 rfl tw_723 tw_9 (pw_dk dc_X4_readDeed 14 rfl) rfl Y_X4_takeName tw_721 rfl (by decide) (Nat.le_of_ble_eq_true rfl) (t_X4_takeName σ_3 _ ?_)
    obtain ⟨⟨v_7, σ_6⟩, e_8, h⟩ := wp_bind2 h
    refine ⟨(v_7, σ_6), e_8, _, rfl, fun hn_5 => ?_⟩
    show PZ alC mX4_readDeed (4) Q 32 [(0, .ref 200)] [.int v_7] σ_6
    refine PW_istore_n (pc' := 33) (lv' := [(1, .int v_7), (0, .ref 200)]) (pw_dk dc_X4_readDeed 15 rfl) rfl rfl (by decide) rfl ?_
    refine PW_iload_n (pc' := 34) (q := 0) (pw_dk dc_X4_readDeed 16 rfl) rfl rfl rfl ?_
    refine PW_iconst (pc' := 35) (v := (-1 : Int32)) (pw_dk dc_X4_readDeed 17 rfl) rfl (by decide) ?_
    refine PW_icmp_ne (pc' := 38) (tgt := 40) (pw_dk dc_X4_readDeed 18 rfl) rfl (by decide) (fun c_9 => ?_) (fun c_9 => ?_)
    · rw [if_neg c_9] at h
      refine PW_aload_n (pc' := 41) (q := 1) (pw_dk dc_X4_readDeed 21 rfl) rfl rfl rfl ?_
      refine PW_getR (pc' := 44) (id := 200) (ci := 4) (nn := 0) (C0 := RX4) (T := TX4) (N := 6) (j := 2) (r := tv (σ_6.2.2 1)) (pw_dk dc_X4_readDeed 22 rfl) rfl me_200 rfl pi_4 (by decide) fk_4_2 tw_411 (rf_M1 _) (tv0 _) ?_
      refine PW_iload_n (pc' := 45) (q := 0) (pw_dk dc_X4_readDeed 23 rfl) rfl rfl rfl ?_
      refine PZ_callVi (pc' := 48) (y := yX8_manNamed) (M' := mX8_manNamed) (d' := 1) (As := [.int v_7]) (st := []) (b := (tv (σ_6.2.2 1))) (ci := 8) (nn := 0) (me_T _) rfl tw_744 tw_745 (pw_dk dc_X4_readDeed 24 rfl) rfl Y_X8_manNamed tw_743 rfl (by decide) (Nat.le_of_ble_eq_true rfl) (t_X8_manNamed (σ_6.2.2 1) v_7 σ_6 _ ?_)
      obtain ⟨v_11, e_12, h⟩ := wp_bind h
      refine ⟨v_11, e_12, _, rfl, fun hn_10 => ?_⟩
      show PZ alC mX4_readDeed (4) Q 48 [(1, .int v_7), (0, .ref 200)] [.int v_11] σ_6
      refine PW_istore_n (pc' := 49) (lv' := [(2, .int v_11), (1, .int v_7), (0, .ref 200)]) (pw_dk dc_X4_readDeed 25 rfl) rfl rfl (by decide) rfl ?_
      refine PW_iload_n (pc' := 50) (q := 0) (pw_dk dc_X4_readDeed 26 rfl) rfl rfl rfl ?_
      refine PW_iconst (pc' := 51) (v := (-1 : Int32)) (pw_dk dc_X4_readDeed 27 rfl) rfl (by decide) ?_
      refine PW_icmp_ne (pc' := 54) (tgt := 63) (pw_dk dc_X4_readDeed 28 rfl) rfl (by decide) (fun c_13 => ?_) (fun c_13 => ?_)
      · rw [if_neg c_13] at h
        refine PW_aload_n (pc' := 64) (q := 2) (pw_dk dc_X4_readDeed 34 rfl) rfl rfl rfl ?_
        refine PW_getR (pc' := 67) (id := 200) (ci := 4) (nn := 0) (C0 := RX4) (T := TX4) (N := 6) (j := 0) (r := 500) (pw_dk dc_X4_readDeed 35 rfl) rfl me_200 rfl pi_4 (by decide) fk_4_0 tw_408 (rfl) (by decide) ?_
        refine PZ_callVv (pc' := 70) (y := yX7_advance) (M' := mX7_advance) (d' := 2) (As := []) (st := []) (b := 500) (ci := 7) (nn := 0) me_500 rfl tw_674 tw_675 (pw_dk dc_X4_readDeed 36 rfl) rfl Y_X7_advance tw_712 rfl (by decide) (Nat.le_of_ble_eq_true rfl) (t_X7_advance σ_6 _ ?_)
        obtain ⟨σ_15, e_16, h⟩ := wp_bind h
        refine ⟨σ_15, e_16, rfl, fun hn_14 => ?_⟩
        show PZ alC mX4_readDeed (4) Q 70 [(2, .int v_11), (1, .int v_7), (0, .ref 200)] [] σ_15
        refine PW_aload_n (pc' := 71) (q := 2) (pw_dk dc_X4_readDeed 37 rfl) rfl rfl rfl ?_
        refine PW_bipush (pc' := 73) (v := 14) (pw_dk dc_X4_readDeed 38 rfl) rfl (by decide) ?_
        refine PW_iconst (pc' := 74) (v := 4) (pw_dk dc_X4_readDeed 39 rfl) rfl (by decide) ?_
        refine PZ_callVi (pc' := 77) (y := yX4_takeChoice) (M' := mX4_takeChoice) (d' := 3) (As := [.int 14, .int 4]) (st := []) (b := 200) (ci := 4) (nn := 0) me_200 rfl tw_749 tw_11 (pw_dk dc_X4_readDeed 40 rfl) rfl Y_X4_takeChoice tw_747 rfl (by decide) (Nat.le_of_ble_eq_true rfl) (t_X4_takeChoice 14 4 σ_15 _ ?_)
        obtain ⟨⟨v_19, σ_18⟩, e_20, h⟩ := wp_bind2 h
        refine ⟨(v_19, σ_18), e_20, _, rfl, fun hn_17 => ?_⟩
        show PZ alC mX4_readDeed (4) Q 77 [(2, .int v_11), (1, .int v_7), (0, .ref 200)] [.int v_19] σ_18
        refine PW_istore_n (pc' := 78) (lv' := [(3, .int v_19), (2, .int v_11), (1, .int v_7), (0, .ref 200)]) (pw_dk dc_X4_readDeed 41 rfl) rfl rfl (by decide) rfl ?_
        refine PW_iload_n (pc' := 79) (q := 0) (pw_dk dc_X4_readDeed 42 rfl) rfl rfl rfl ?_
        refine PW_iconst (pc' := 80) (v := (-1 : Int32)) (pw_dk dc_X4_readDeed 43 rfl) rfl (by decide) ?_
        refine PW_icmp_ne (pc' := 83) (tgt := 87) (pw_dk dc_X4_readDeed 44 rfl) rfl (by decide) (fun c_21 => ?_) (fun c_21 => ?_)
        · rw [if_neg c_21] at h
          refine PW_aload_n (pc' := 88) (q := 3) (pw_dk dc_X4_readDeed 47 rfl) rfl rfl rfl ?_
          refine PW_bipush (pc' := 90) (v := 18) (pw_dk dc_X4_readDeed 48 rfl) rfl (by decide) ?_
          refine PW_iconst (pc' := 91) (v := 4) (pw_dk dc_X4_readDeed 49 rfl) rfl (by decide) ?_
          refine PZ_callVi (pc' := 94) (y := yX4_takeChoice) (M' := mX4_takeChoice) (d' := 3) (As := [.int 18, .int 4]) (st := []) (b := 200) (ci := 4) (nn := 0) me_200 rfl tw_749 tw_11 (pw_dk dc_X4_readDeed 50 rfl) rfl Y_X4_takeChoice tw_747 rfl (by decide) (Nat.le_of_ble_eq_true rfl) (t_X4_takeChoice 18 4 σ_18 _ ?_)
          obtain ⟨⟨v_24, σ_23⟩, e_25, h⟩ := wp_bind2 h
          refine ⟨(v_24, σ_23), e_25, _, rfl, fun hn_22 => ?_⟩
          show PZ alC mX4_readDeed (4) Q 94 [(3, .int v_19), (2, .int v_11), (1, .int v_7), (0, .ref 200)] [.int v_24] σ_23
          refine PW_sub (lv' := [(0, .ref 200), (2, .int v_11), (3, .int v_19)]) [3, 1, 0] rfl ?_
          exact b_X4_readDeed_94 v_11 v_19 v_24 σ_23 h
        · rw [if_pos c_21] at h
          refine PW_iconst (pc' := 84) (v := (-1 : Int32)) (pw_dk dc_X4_readDeed 45 rfl) rfl (by decide) ?_
          refine PW_goto (tgt := 94) (pw_dk dc_X4_readDeed 46 rfl) (by decide) ?_
          refine PW_sub (lv' := [(0, .ref 200), (2, .int v_11), (3, .int v_19)]) [3, 1, 0] rfl ?_
          exact b_X4_readDeed_94 v_11 v_19 (-1 : Int32) σ_18 h
      · rw [if_pos c_13] at h
        refine PW_aload_n (pc' := 55) (q := 2) (pw_dk dc_X4_readDeed 29 rfl) rfl rfl rfl ?_
        refine PW_getR (pc' := 58) (id := 200) (ci := 4) (nn := 0) (C0 := RX4) (T := TX4) (N := 6) (j := 0) (r := 500) (pw_dk dc_X4_readDeed 30 rfl) rfl me_200 rfl pi_4 (by decide) fk_4_0 tw_408 (rfl) (by decide) ?_
        refine PW_iconst (pc' := 59) (v := 4) (pw_dk dc_X4_readDeed 31 rfl) rfl (by decide) ?_
        refine PZ_callVi (pc' := 62) (y := yX7_refuse) (M' := mX7_refuse) (d' := 0) (As := [.int 4]) (st := []) (b := 500) (ci := 7) (nn := 0) me_500 rfl tw_709 tw_710 (pw_dk dc_X4_readDeed 32 rfl) rfl Y_X7_refuse tw_708 rfl (by decide) (Nat.le_of_ble_eq_true rfl) (t_X7_refuse 4 σ_6 _ ?_)
        obtain ⟨⟨v_28, σ_27⟩, e_29, h⟩ := wp_bind2 h
        refine ⟨(v_28, σ_27), e_29, _, rfl, fun hn_26 => ?_⟩
        show PZ alC mX4_readDeed (4) Q 62 [(2, .int v_11), (1, .int v_7), (0, .ref 200)] [.int v_28] σ_27
        have z := wp_some h
        exact PZ_iret (ty := .boolean) (pw_dk dc_X4_readDeed 33 rfl) rfl (hn_26 _ _ rfl rfl) z
    · rw [if_pos c_9] at h
      refine PW_iconst (pc' := 39) (v := 0) (pw_dk dc_X4_readDeed 19 rfl) rfl (by decide) ?_
      have z := wp_some h
      exact PZ_iret (ty := .boolean) (pw_dk dc_X4_readDeed 20 rfl) rfl (by decide) z
  · rw [if_neg c_1] at h
    refine PW_aload_n (pc' := 13) (q := 0) (pw_dk dc_X4_readDeed 5 rfl) rfl rfl rfl ?_
    refine PW_getR (pc' := 16) (id := 200) (ci := 4) (nn := 0) (C0 := RX4) (T := TX4) (N := 6) (j := 0) (r := 500) (pw_dk dc_X4_readDeed 6 rfl) rfl me_200 rfl pi_4 (by decide) fk_4_0 tw_408 (rfl) (by decide) ?_
    refine PW_iconst (pc' := 17) (v := 2) (pw_dk dc_X4_readDeed 7 rfl) rfl (by decide) ?_
    refine PZ_callVi (pc' := 20) (y := yX7_refuse) (M' := mX7_refuse) (d' := 0) (As := [.int 2]) (st := []) (b := 500) (ci := 7) (nn := 0) me_500 rfl tw_709 tw_710 (pw_dk dc_X4_readDeed 8 rfl) rfl Y_X7_refuse tw_708 rfl (by decide) (Nat.le_of_ble_eq_true rfl) (t_X7_refuse 2 σ _ ?_)
    obtain ⟨⟨v_32, σ_31⟩, e_33, h⟩ := wp_bind2 h
    refine ⟨(v_32, σ_31), e_33, _, rfl, fun hn_30 => ?_⟩
    show PZ alC mX4_readDeed (4) Q 20 [(0, .ref 200)] [.int v_32] σ_31
    have z := wp_some h
    exact PZ_iret (ty := .boolean) (pw_dk dc_X4_readDeed 9 rfl) rfl (hn_30 _ _ rfl rfl) z
def f_X4_readFine  (σ : zS) : Option (Int32 × zS) := 
  if (σ.1 200 4) = 0 then
    lt (wI σ 200 4 1) fun σ_2 =>
    (f_X7_advance σ_2).bind fun σ_5 =>
    b2 (f_X4_takeNumber 0 99 σ_5) fun v_9 σ_8 =>
    if v_9 = (-1 : Int32) then
      some (0, σ_8)
    else
      lt (wI σ_8 (tv (σ_8.2.2 1)) 16 v_9) fun σ_12 =>
      some (1, σ_12)
  else
    b2 (f_X7_refuse 3 σ) fun v_16 σ_15 =>
    some (v_16, σ_15)
theorem t_X4_readFine (σ : zS) (Q : Option Value → zS → Prop) (h : wpO (f_X4_readFine σ) (fun a => Q (some (.int a.1)) a.2)) : PK alC yX4_readFine mX4_readFine (4) [.ref 200] σ Q := by
  refine PC_ofF (by decide +kernel) rfl rfl (Nat.le_of_ble_eq_true rfl) ?_
  show PZ alC mX4_readFine (4) Q 0 [(0, .ref 200)] [] σ
  unfold f_X4_readFine at h
  refine PW_aload_n (pc' := 1) (q := 0) (pw_dk dc_X4_readFine 0 rfl) rfl rfl rfl ?_
  refine PZ_getI (pc' := 4) (id := 200) (ci := 4) (nn := 0) (C0 := RX4) (T := TX4) (N := 6) (j := 4) (pw_dk dc_X4_readFine 1 rfl) rfl me_200 rfl pi_4 (by decide) fk_4_4 tw_414 ?_
  refine PW_if_eq (pc' := 7) (tgt := 16) (pw_dk dc_X4_readFine 2 rfl) rfl (by decide) (fun c_1 => ?_) (fun c_1 => ?_)
  · rw [if_pos c_1] at h
    refine PW_aload_n (pc' := 17) (q := 0) (pw_dk dc_X4_readFine 8 rfl) rfl rfl rfl ?_
    refine PW_iconst (pc' := 18) (v := 1) (pw_dk dc_X4_readFine 9 rfl) rfl (by decide) ?_
    obtain ⟨σ_2, e_3, h⟩ := lt_x h
    refine PZ_putX (pc' := 21) (σ' := σ_2) (id := 200) (ci := 4) (nn := 0) (C0 := RX4) (T := TX4) (N := 6) (j := 4) (ty := tyX4 4) (pw_dk dc_X4_readFine 10 rfl) rfl me_200 rfl pi_4 tyX4_ok nmX4 (by decide) fk_4_4 tw_414 rfl (tyX4_ok 4 (by decide)) (by first | rfl | decide) (by first | rfl | decide) e_3 ?_
    refine PW_aload_n (pc' := 22) (q := 0) (pw_dk dc_X4_readFine 11 rfl) rfl rfl rfl ?_
    refine PW_getR (pc' := 25) (id := 200) (ci := 4) (nn := 0) (C0 := RX4) (T := TX4) (N := 6) (j := 0) (r := 500) (pw_dk dc_X4_readFine 12 rfl) rfl me_200 rfl pi_4 (by decide) fk_4_0 tw_408 (rfl) (by decide) ?_
    refine PZ_callVv (pc' := 28) (y := yX7_advance) (M' := mX7_advance) (d' := 2) (As := []) (st := []) (b := 500) (ci := 7) (nn := 0) me_500 rfl tw_674 tw_675 (pw_dk dc_X4_readFine 13 rfl) rfl Y_X7_advance tw_712 rfl (by decide) (Nat.le_of_ble_eq_true rfl) (t_X7_advance σ_2 _ ?_)
    obtain ⟨σ_5, e_6, h⟩ := wp_bind h
    refine ⟨σ_5, e_6, rfl, fun hn_4 => ?_⟩
    show PZ alC mX4_readFine (4) Q 28 [(0, .ref 200)] [] σ_5
    refine PW_aload_n (pc' := 29) (q := 0) (pw_dk dc_X4_readFine 14 rfl) rfl rfl rfl ?_
    refine PW_iconst (pc' := 30) (v := 0) (pw_dk dc_X4_readFine 15 rfl) rfl (by decide) ?_
    refine PW_bipush (pc' := 32) (v := 99) (pw_dk dc_X4_readFine 16 rfl) rfl (by decide) ?_
    refine PZ_callVi (pc' := 35) (y := yX4_takeNumber) (M' := mX4_takeNumber) (d' := 3) (As := [.int 0, .int 99]) (st := []) (b := 200) (ci := 4) (nn := 0) me_200 rfl tw_715 tw_7 (pw_dk dc_X4_readFine 17 rfl) rfl Y_X4_takeNumber tw_713 rfl (by decide) (Nat.le_of_ble_eq_true rfl) (t_X4_takeNumber 0 99 σ_5 _ ?_)
    obtain ⟨⟨v_9, σ_8⟩, e_10, h⟩ := wp_bind2 h
    refine ⟨(v_9, σ_8), e_10, _, rfl, fun hn_7 => ?_⟩
    show PZ alC mX4_readFine (4) Q 35 [(0, .ref 200)] [.int v_9] σ_8
    refine PW_istore_n (pc' := 36) (lv' := [(1, .int v_9), (0, .ref 200)]) (pw_dk dc_X4_readFine 18 rfl) rfl rfl (by decide) rfl ?_
    refine PW_iload_n (pc' := 37) (q := 0) (pw_dk dc_X4_readFine 19 rfl) rfl rfl rfl ?_
    refine PW_iconst (pc' := 38) (v := (-1 : Int32)) (pw_dk dc_X4_readFine 20 rfl) rfl (by decide) ?_
    refine PW_icmp_ne (pc' := 41) (tgt := 43) (pw_dk dc_X4_readFine 21 rfl) rfl (by decide) (fun c_11 => ?_) (fun c_11 => ?_)
    · rw [if_neg c_11] at h
      refine PW_aload_n (pc' := 44) (q := 1) (pw_dk dc_X4_readFine 24 rfl) rfl rfl rfl ?_
      refine PW_getR (pc' := 47) (id := 200) (ci := 4) (nn := 0) (C0 := RX4) (T := TX4) (N := 6) (j := 2) (r := tv (σ_8.2.2 1)) (pw_dk dc_X4_readFine 25 rfl) rfl me_200 rfl pi_4 (by decide) fk_4_2 tw_411 (rf_M1 _) (tv0 _) ?_
      refine PW_iload_n (pc' := 48) (q := 0) (pw_dk dc_X4_readFine 26 rfl) rfl rfl rfl ?_
      obtain ⟨σ_12, e_13, h⟩ := lt_x h
      refine PZ_putX (pc' := 51) (σ' := σ_12) (id := (tv (σ_8.2.2 1))) (ci := 8) (nn := 0) (C0 := RX8) (T := TX8) (N := 18) (j := 16) (ty := tyX8 16) (pw_dk dc_X4_readFine 27 rfl) rfl (me_T _) rfl pi_8 tyX8_ok nmX8 (by decide) fk_8_16 tw_245 rfl (tyX8_ok 16 (by decide)) (by first | rfl | decide) (by first | rfl | decide) e_13 ?_
      refine PW_iconst (pc' := 52) (v := 1) (pw_dk dc_X4_readFine 28 rfl) rfl (by decide) ?_
      have z := wp_some h
      exact PZ_iret (ty := .boolean) (pw_dk dc_X4_readFine 29 rfl) rfl (by decide) z
    · rw [if_pos c_11] at h
      refine PW_iconst (pc' := 42) (v := 0) (pw_dk dc_X4_readFine 22 rfl) rfl (by decide) ?_
      have z := wp_some h
      exact PZ_iret (ty := .boolean) (pw_dk dc_X4_readFine 23 rfl) rfl (by decide) z
  · rw [if_neg c_1] at h
    refine PW_aload_n (pc' := 8) (q := 0) (pw_dk dc_X4_readFine 3 rfl) rfl rfl rfl ?_
    refine PW_getR (pc' := 11) (id := 200) (ci := 4) (nn := 0) (C0 := RX4) (T := TX4) (N := 6) (j := 0) (r := 500) (pw_dk dc_X4_readFine 4 rfl) rfl me_200 rfl pi_4 (by decide) fk_4_0 tw_408 (rfl) (by decide) ?_
    refine PW_iconst (pc' := 12) (v := 3) (pw_dk dc_X4_readFine 5 rfl) rfl (by decide) ?_
    refine PZ_callVi (pc' := 15) (y := yX7_refuse) (M' := mX7_refuse) (d' := 0) (As := [.int 3]) (st := []) (b := 500) (ci := 7) (nn := 0) me_500 rfl tw_709 tw_710 (pw_dk dc_X4_readFine 6 rfl) rfl Y_X7_refuse tw_708 rfl (by decide) (Nat.le_of_ble_eq_true rfl) (t_X7_refuse 3 σ _ ?_)
    obtain ⟨⟨v_16, σ_15⟩, e_17, h⟩ := wp_bind2 h
    refine ⟨(v_16, σ_15), e_17, _, rfl, fun hn_14 => ?_⟩
    show PZ alC mX4_readFine (4) Q 15 [(0, .ref 200)] [.int v_16] σ_15
    have z := wp_some h
    exact PZ_iret (ty := .boolean) (pw_dk dc_X4_readFine 7 rfl) rfl (hn_14 _ _ rfl rfl) z
def f_X8_addLand_56 (b : Bool)  (σ : zS) : Option zS := 
  lt (wI σ (tv b) 1 ((σ.1 (tv b) 1) + (1 : Int32))) fun σ_1 =>
  some σ_1
theorem b_X8_addLand_56 {Q : Option Value → zS → Prop} (b : Bool)  (σ : zS) (h : wpO (f_X8_addLand_56 b σ) (fun s => Q none s)) : PZ alC mX8_addLand (1) Q 56 [(0, .ref (tv b))] [] σ := by
  unfold f_X8_addLand_56 at h
  refine PW_aload_n (pc' := 57) (q := 0) (pw_dk dc_X8_addLand 29 rfl) rfl rfl rfl ?_
  refine PW_dup (pc' := 58) (pw_dk dc_X8_addLand 30 rfl) rfl rfl ?_
  refine PZ_getI (pc' := 61) (id := (tv b)) (ci := 8) (nn := 0) (C0 := RX8) (T := TX8) (N := 18) (j := 1) (pw_dk dc_X8_addLand 31 rfl) rfl (me_T b) rfl pi_8 (by decide) fk_8_1 tw_203 ?_
  refine PW_iconst (pc' := 62) (v := 1) (pw_dk dc_X8_addLand 32 rfl) rfl (by decide) ?_
  refine PW_iadd (pc' := 63) (pw_dk dc_X8_addLand 33 rfl) rfl ?_
  obtain ⟨σ_1, e_2, h⟩ := lt_x h
  refine PZ_putX (pc' := 66) (σ' := σ_1) (id := (tv b)) (ci := 8) (nn := 0) (C0 := RX8) (T := TX8) (N := 18) (j := 1) (ty := tyX8 1) (pw_dk dc_X8_addLand 34 rfl) rfl (me_T b) rfl pi_8 tyX8_ok nmX8 (by decide) fk_8_1 tw_203 rfl (tyX8_ok 1 (by decide)) (by first | rfl | decide) (by first | rfl | decide) e_2 ?_
  have z := wp_some h
  exact PZ_vret (pw_dk dc_X8_addLand 35 rfl) rfl z
def f_X8_addLand_26 (b : Bool) : Nat → Int32 → Int32 → zS → Option zS
  | 0, _, _, _ => none
  | n + 1, x3, x4, σ => 
    if x3 < x4 then
      f_X8_addLand_56 b σ
    else
      if 12 ≤ x4 then
        f_X8_addLand_56 b σ
      else
        (wrI σ (tv b + 4) 12 x4 (σ.1 (tv b) 1)).bind fun σ_3 =>
        f_X8_addLand_26 b n x3 (x4 + 1) σ_3
theorem b_X8_addLand_26 {Q : Option Value → zS → Prop} (b : Bool) : ∀ (n : Nat) (x3 : Int32) (x4 : Int32) (σ : zS) (h : wpO (f_X8_addLand_26 b n x3 x4 σ) (fun s => Q none s)), PZ alC mX8_addLand (1) Q 26 [(0, .ref (tv b)), (3, .int x3), (4, .int x4)] [] σ := by
  intro n
  induction n with
  | zero => intro x3 x4 σ h; exact wp_none h
  | succ n ih =>
    intro x3 x4 σ h
    rw [f_X8_addLand_26] at h
    refine PW_iload (pc' := 28) (q := 2) (pw_dk dc_X8_addLand 15 rfl) rfl rfl ?_
    refine PW_iload_n (pc' := 29) (q := 1) (pw_dk dc_X8_addLand 16 rfl) rfl rfl rfl ?_
    refine PW_icmp_gt (pc' := 32) (tgt := 56) (pw_dk dc_X8_addLand 17 rfl) rfl (by decide) (fun c_1 => ?_) (fun c_1 => ?_)
    · rw [if_pos c_1] at h
      refine PW_sub (lv' := [(0, .ref (tv b))]) [0] rfl ?_
      exact b_X8_addLand_56 b σ h
    · rw [if_neg c_1] at h
      refine PW_iload (pc' := 34) (q := 2) (pw_dk dc_X8_addLand 18 rfl) rfl rfl ?_
      refine PW_bipush (pc' := 36) (v := 12) (pw_dk dc_X8_addLand 19 rfl) rfl (by decide) ?_
      refine PW_icmp_ge (pc' := 39) (tgt := 56) (pw_dk dc_X8_addLand 20 rfl) rfl (by decide) (fun c_2 => ?_) (fun c_2 => ?_)
      · rw [if_pos c_2] at h
        refine PW_sub (lv' := [(0, .ref (tv b))]) [0] rfl ?_
        exact b_X8_addLand_56 b σ h
      · rw [if_neg c_2] at h
        refine PW_aload_n (pc' := 40) (q := 0) (pw_dk dc_X8_addLand 21 rfl) rfl rfl rfl ?_
        refine PW_getR (pc' := 43) (id := (tv b)) (ci := 8) (nn := 0) (C0 := RX8) (T := TX8) (N := 18) (j := 3) (r := tv b + 4) (pw_dk dc_X8_addLand 22 rfl) rfl (me_T b) rfl pi_8 (by decide) fk_8_3 tw_207 (rf_T3 _ _) (su0 _ _) ?_
        refine PW_iload (pc' := 45) (q := 2) (pw_dk dc_X8_addLand 23 rfl) rfl rfl ?_
        refine PW_aload_n (pc' := 46) (q := 0) (pw_dk dc_X8_addLand 24 rfl) rfl rfl rfl ?_
        refine PZ_getI (pc' := 49) (id := (tv b)) (ci := 8) (nn := 0) (C0 := RX8) (T := TX8) (N := 18) (j := 1) (pw_dk dc_X8_addLand 25 rfl) rfl (me_T b) rfl pi_8 (by decide) fk_8_1 tw_203 ?_
        obtain ⟨σ_3, hi_4, e_5, h⟩ := wp_wrIx h
        refine PZ_iastx (pc' := 50) (σ' := σ_3) (id := (tv b + 4)) (nn := 12) (pw_dk dc_X8_addLand 26 rfl) rfl (me_T3 _) hi_4 e_5 ?_
        refine PW_iinc (pc' := 53) (q := 2) (v := x4 + 1) (lv' := [(4, .int (x4 + 1)), (0, .ref (tv b)), (3, .int x3)]) (pw_dk dc_X8_addLand 27 rfl) rfl rfl rfl (by decide) rfl ?_
        refine PW_goto (tgt := 26) (pw_dk dc_X8_addLand 28 rfl) (by decide) ?_
        refine PW_sub (lv' := [(0, .ref (tv b)), (3, .int x3), (4, .int (x4 + 1))]) [1, 2, 0] rfl ?_
        exact ih x3 (x4 + 1) σ_3 h
def f_X8_addLand (b : Bool) (x1 : Int32) (x2 : Int32) (x3 : Int32) (σ : zS) : Option zS := 
  if (σ.1 (tv b) 1) < 5 then
    (wrI σ (tv b + 3) 5 (σ.1 (tv b) 1) x1).bind fun σ_2 =>
    lt (α := Int32) (f_J9_max_7cf53 x2 0 σ_2) fun x4_6 =>
    f_X8_addLand_26 b FU x3 x4_6 σ_2
  else
    some σ
theorem t_X8_addLand (b : Bool) (x1 : Int32) (x2 : Int32) (x3 : Int32) (σ : zS) (Q : Option Value → zS → Prop) (h : wpO (f_X8_addLand b x1 x2 x3 σ) (fun s => Q none s)) : PK alC yX8_addLand mX8_addLand (1) [.ref (tv b), .int x1, .int x2, .int x3] σ Q := by
  refine PC_ofF (by decide +kernel) rfl rfl (Nat.le_of_ble_eq_true rfl) ?_
  show PZ alC mX8_addLand (1) Q 0 [(0, .ref (tv b)), (1, .int x1), (2, .int x2), (3, .int x3)] [] σ
  unfold f_X8_addLand at h
  refine PW_aload_n (pc' := 1) (q := 0) (pw_dk dc_X8_addLand 0 rfl) rfl rfl rfl ?_
  refine PZ_getI (pc' := 4) (id := (tv b)) (ci := 8) (nn := 0) (C0 := RX8) (T := TX8) (N := 18) (j := 1) (pw_dk dc_X8_addLand 1 rfl) rfl (me_T b) rfl pi_8 (by decide) fk_8_1 tw_203 ?_
  refine PW_iconst (pc' := 5) (v := 5) (pw_dk dc_X8_addLand 2 rfl) rfl (by decide) ?_
  refine PW_icmp_lt (pc' := 8) (tgt := 9) (pw_dk dc_X8_addLand 3 rfl) rfl (by decide) (fun c_1 => ?_) (fun c_1 => ?_)
  · rw [if_pos c_1] at h
    refine PW_aload_n (pc' := 10) (q := 0) (pw_dk dc_X8_addLand 5 rfl) rfl rfl rfl ?_
    refine PW_getR (pc' := 13) (id := (tv b)) (ci := 8) (nn := 0) (C0 := RX8) (T := TX8) (N := 18) (j := 2) (r := tv b + 3) (pw_dk dc_X8_addLand 6 rfl) rfl (me_T b) rfl pi_8 (by decide) fk_8_2 tw_206 (rf_T2 _ _) (su0 _ _) ?_
    refine PW_aload_n (pc' := 14) (q := 0) (pw_dk dc_X8_addLand 7 rfl) rfl rfl rfl ?_
    refine PZ_getI (pc' := 17) (id := (tv b)) (ci := 8) (nn := 0) (C0 := RX8) (T := TX8) (N := 18) (j := 1) (pw_dk dc_X8_addLand 8 rfl) rfl (me_T b) rfl pi_8 (by decide) fk_8_1 tw_203 ?_
    refine PW_iload_n (pc' := 18) (q := 1) (pw_dk dc_X8_addLand 9 rfl) rfl rfl rfl ?_
    obtain ⟨σ_2, hi_3, e_4, h⟩ := wp_wrIx h
    refine PZ_iastx (pc' := 19) (σ' := σ_2) (id := (tv b + 3)) (nn := 5) (pw_dk dc_X8_addLand 10 rfl) rfl (me_T2 _) hi_3 e_4 ?_
    refine PW_iload_n (pc' := 20) (q := 2) (pw_dk dc_X8_addLand 11 rfl) rfl rfl rfl ?_
    refine PW_iconst (pc' := 21) (v := 0) (pw_dk dc_X8_addLand 12 rfl) rfl (by decide) ?_
    refine PZ_callSi (pc' := 24) (y := yJ9_max_7cf53) (M' := mJ9_max_7cf53) (d' := 0) (As := [.int x2, .int 0]) (st := []) tw_737 (pw_dk dc_X8_addLand 13 rfl) rfl Y_J9_max_7cf53 tw_736 rfl (by decide) (Nat.le_of_ble_eq_true rfl) (t_J9_max_7cf53 alC x2 0 σ_2 _ ?_)
    refine ⟨_, rfl, fun hn_5 => ?_⟩
    show PZ alC mX8_addLand (1) Q 24 [(0, .ref (tv b)), (1, .int x1), (2, .int x2), (3, .int x3)] [.int (f_J9_max_7cf53 x2 0 σ_2)] σ_2
    refine PW_topi (fun x4_6 ex4_6 => ?_)
    replace h := lt_w h ex4_6
    refine PW_istore (pc' := 26) (lv' := [(4, .int x4_6), (0, .ref (tv b)), (1, .int x1), (2, .int x2), (3, .int x3)]) (pw_dk dc_X8_addLand 14 rfl) rfl (by decide) rfl ?_
    refine PW_sub (lv' := [(0, .ref (tv b)), (3, .int x3), (4, .int x4_6)]) [1, 4, 0] rfl ?_
    exact b_X8_addLand_26 b FU x3 x4_6 σ_2 h
  · rw [if_neg c_1] at h
    have z := wp_some h
    exact PZ_vret (pw_dk dc_X8_addLand 4 rfl) rfl z
def f_X4_readLand_105  (x1 : Int32) (x2 : Int32) (s0 : Int32) (σ : zS) : Option (Int32 × zS) := 
  if s0 = (-1 : Int32) then
    some (0, σ)
  else
    (f_X8_addLand (σ.2.2 1) x1 x2 s0 σ).bind fun σ_3 =>
    some (1, σ_3)
theorem b_X4_readLand_105 {Q : Option Value → zS → Prop} (x1 : Int32) (x2 : Int32) (s0 : Int32) (σ : zS) (h : wpO (f_X4_readLand_105 x1 x2 s0 σ) (fun a => Q (some (.int a.1)) a.2)) : PZ alC mX4_readLand (4) Q 105 [(0, .ref 200), (1, .int x1), (2, .int x2)] [.int s0] σ := by
  unfold f_X4_readLand_105 at h
  refine PW_istore_n (pc' := 106) (lv' := [(3, .int s0), (0, .ref 200), (1, .int x1), (2, .int x2)]) (pw_dk dc_X4_readLand 57 rfl) rfl rfl (by decide) rfl ?_
  refine PW_iload_n (pc' := 107) (q := 0) (pw_dk dc_X4_readLand 58 rfl) rfl rfl rfl ?_
  refine PW_iconst (pc' := 108) (v := (-1 : Int32)) (pw_dk dc_X4_readLand 59 rfl) rfl (by decide) ?_
  refine PW_icmp_ne (pc' := 111) (tgt := 113) (pw_dk dc_X4_readLand 60 rfl) rfl (by decide) (fun c_1 => ?_) (fun c_1 => ?_)
  · rw [if_neg c_1] at h
    refine PW_aload_n (pc' := 114) (q := 1) (pw_dk dc_X4_readLand 63 rfl) rfl rfl rfl ?_
    refine PW_getR (pc' := 117) (id := 200) (ci := 4) (nn := 0) (C0 := RX4) (T := TX4) (N := 6) (j := 2) (r := tv (σ.2.2 1)) (pw_dk dc_X4_readLand 64 rfl) rfl me_200 rfl pi_4 (by decide) fk_4_2 tw_411 (rf_M1 _) (tv0 _) ?_
    refine PW_iload_n (pc' := 118) (q := 2) (pw_dk dc_X4_readLand 65 rfl) rfl rfl rfl ?_
    refine PW_iload_n (pc' := 119) (q := 3) (pw_dk dc_X4_readLand 66 rfl) rfl rfl rfl ?_
    refine PW_iload_n (pc' := 120) (q := 0) (pw_dk dc_X4_readLand 67 rfl) rfl rfl rfl ?_
    refine PZ_callVv (pc' := 123) (y := yX8_addLand) (M' := mX8_addLand) (d' := 1) (As := [.int x1, .int x2, .int s0]) (st := []) (b := (tv (σ.2.2 1))) (ci := 8) (nn := 0) (me_T _) rfl tw_733 tw_734 (pw_dk dc_X4_readLand 68 rfl) rfl Y_X8_addLand tw_732 rfl (by decide) (Nat.le_of_ble_eq_true rfl) (t_X8_addLand (σ.2.2 1) x1 x2 s0 σ _ ?_)
    obtain ⟨σ_3, e_4, h⟩ := wp_bind h
    refine ⟨σ_3, e_4, rfl, fun hn_2 => ?_⟩
    show PZ alC mX4_readLand (4) Q 123 [(3, .int s0), (0, .ref 200), (1, .int x1), (2, .int x2)] [] σ_3
    refine PW_iconst (pc' := 124) (v := 1) (pw_dk dc_X4_readLand 69 rfl) rfl (by decide) ?_
    have z := wp_some h
    exact PZ_iret (ty := .boolean) (pw_dk dc_X4_readLand 70 rfl) rfl (by decide) z
  · rw [if_pos c_1] at h
    refine PW_iconst (pc' := 112) (v := 0) (pw_dk dc_X4_readLand 61 rfl) rfl (by decide) ?_
    have z := wp_some h
    exact PZ_iret (ty := .boolean) (pw_dk dc_X4_readLand 62 rfl) rfl (by decide) z
def f_X4_readLand  (σ : zS) : Option (Int32 × zS) := 
  if (σ.1 (tv (σ.2.2 1)) 1) < 5 then
    (f_X7_advance σ).bind fun σ_3 =>
    b2 (f_X4_takeName σ_3) fun v_7 σ_6 =>
    if v_7 = (-1 : Int32) then
      some (0, σ_6)
    else
      (f_X8_landNamed (σ_6.2.2 1) v_7 σ_6).bind fun v_11 =>
      if v_11 = (-1 : Int32) then
        (f_X7_advance σ_6).bind fun σ_15 =>
        b2 (f_X4_takeNumber 0 ((σ_15.1 (tv (σ_15.2.2 1)) 0) - (1 : Int32)) σ_15) fun v_19 σ_18 =>
        if v_19 = (-1 : Int32) then
          f_X4_readLand_105 v_7 v_19 (-1 : Int32) σ_18
        else
          b2 (f_X4_takeNumber v_19 ((σ_18.1 (tv (σ_18.2.2 1)) 0) - (1 : Int32)) σ_18) fun v_24 σ_23 =>
          f_X4_readLand_105 v_7 v_19 v_24 σ_23
      else
        b2 (f_X7_refuse 3 σ_6) fun v_28 σ_27 =>
        some (v_28, σ_27)
  else
    b2 (f_X7_refuse 2 σ) fun v_32 σ_31 =>
    some (v_32, σ_31)
theorem t_X4_readLand (σ : zS) (Q : Option Value → zS → Prop) (h : wpO (f_X4_readLand σ) (fun a => Q (some (.int a.1)) a.2)) : PK alC yX4_readLand mX4_readLand (4) [.ref 200] σ Q := by
  refine PC_ofF (by decide +kernel) rfl rfl (Nat.le_of_ble_eq_true rfl) ?_
  show PZ alC mX4_readLand (4) Q 0 [(0, .ref 200)] [] σ
  unfold f_X4_readLand at h
  refine PW_aload_n (pc' := 1) (q := 0) (pw_dk dc_X4_readLand 0 rfl) rfl rfl rfl ?_
  refine PW_getR (pc' := 4) (id := 200) (ci := 4) (nn := 0) (C0 := RX4) (T := TX4) (N := 6) (j := 2) (r := tv (σ.2.2 1)) (pw_dk dc_X4_readLand 1 rfl) rfl me_200 rfl pi_4 (by decide) fk_4_2 tw_411 (rf_M1 _) (tv0 _) ?_
  refine PZ_getI (pc' := 7) (id := (tv (σ.2.2 1))) (ci := 8) (nn := 0) (C0 := RX8) (T := TX8) (N := 18) (j := 1) (pw_dk dc_X4_readLand 2 rfl) rfl (me_T _) rfl pi_8 (by decide) fk_8_1 tw_204 ?_
  refine PW_iconst (pc' := 8) (v := 5) (pw_dk dc_X4_readLand 3 rfl) rfl (by decide) ?_
  refine PW_icmp_lt (pc' := 11) (tgt := 20) (pw_dk dc_X4_readLand 4 rfl) rfl (by decide) (fun c_1 => ?_) (fun c_1 => ?_)
  · rw [if_pos c_1] at h
    refine PW_aload_n (pc' := 21) (q := 0) (pw_dk dc_X4_readLand 10 rfl) rfl rfl rfl ?_
    refine PW_getR (pc' := 24) (id := 200) (ci := 4) (nn := 0) (C0 := RX4) (T := TX4) (N := 6) (j := 0) (r := 500) (pw_dk dc_X4_readLand 11 rfl) rfl me_200 rfl pi_4 (by decide) fk_4_0 tw_408 (rfl) (by decide) ?_
    refine PZ_callVv (pc' := 27) (y := yX7_advance) (M' := mX7_advance) (d' := 2) (As := []) (st := []) (b := 500) (ci := 7) (nn := 0) me_500 rfl tw_674 tw_675 (pw_dk dc_X4_readLand 12 rfl) rfl Y_X7_advance tw_712 rfl (by decide) (Nat.le_of_ble_eq_true rfl) (t_X7_advance σ _ ?_)
    obtain ⟨σ_3, e_4, h⟩ := wp_bind h
    refine ⟨σ_3, e_4, rfl, fun hn_2 => ?_⟩
    show PZ alC mX4_readLand (4) Q 27 [(0, .ref 200)] [] σ_3
    refine PW_aload_n (pc' := 28) (q := 0) (pw_dk dc_X4_readLand 13 rfl) rfl rfl rfl ?_
    refine PZ_callVi (pc' := 31) (y := yX4_takeName) (M' := mX4_takeName) (d' := 1) (As := []) (st := []) (b := 200) (ci := 4) (nn := 0) me_200 rfl tw_723 tw_9 (pw_dk dc_X4_readLand 14 rfl) rfl Y_X4_takeName tw_721 rfl (by decide) (Nat.le_of_ble_eq_true rfl) (t_X4_takeName σ_3 _ ?_)
    obtain ⟨⟨v_7, σ_6⟩, e_8, h⟩ := wp_bind2 h
    refine ⟨(v_7, σ_6), e_8, _, rfl, fun hn_5 => ?_⟩
    show PZ alC mX4_readLand (4) Q 31 [(0, .ref 200)] [.int v_7] σ_6
    refine PW_istore_n (pc' := 32) (lv' := [(1, .int v_7), (0, .ref 200)]) (pw_dk dc_X4_readLand 15 rfl) rfl rfl (by decide) rfl ?_
    refine PW_iload_n (pc' := 33) (q := 0) (pw_dk dc_X4_readLand 16 rfl) rfl rfl rfl ?_
    refine PW_iconst (pc' := 34) (v := (-1 : Int32)) (pw_dk dc_X4_readLand 17 rfl) rfl (by decide) ?_
    refine PW_icmp_ne (pc' := 37) (tgt := 39) (pw_dk dc_X4_readLand 18 rfl) rfl (by decide) (fun c_9 => ?_) (fun c_9 => ?_)
    · rw [if_neg c_9] at h
      refine PW_aload_n (pc' := 40) (q := 1) (pw_dk dc_X4_readLand 21 rfl) rfl rfl rfl ?_
      refine PW_getR (pc' := 43) (id := 200) (ci := 4) (nn := 0) (C0 := RX4) (T := TX4) (N := 6) (j := 2) (r := tv (σ_6.2.2 1)) (pw_dk dc_X4_readLand 22 rfl) rfl me_200 rfl pi_4 (by decide) fk_4_2 tw_411 (rf_M1 _) (tv0 _) ?_
      refine PW_iload_n (pc' := 44) (q := 0) (pw_dk dc_X4_readLand 23 rfl) rfl rfl rfl ?_
      refine PZ_callVi (pc' := 47) (y := yX8_landNamed) (M' := mX8_landNamed) (d' := 1) (As := [.int v_7]) (st := []) (b := (tv (σ_6.2.2 1))) (ci := 8) (nn := 0) (me_T _) rfl tw_726 tw_727 (pw_dk dc_X4_readLand 24 rfl) rfl Y_X8_landNamed tw_725 rfl (by decide) (Nat.le_of_ble_eq_true rfl) (t_X8_landNamed (σ_6.2.2 1) v_7 σ_6 _ ?_)
      obtain ⟨v_11, e_12, h⟩ := wp_bind h
      refine ⟨v_11, e_12, _, rfl, fun hn_10 => ?_⟩
      show PZ alC mX4_readLand (4) Q 47 [(1, .int v_7), (0, .ref 200)] [.int v_11] σ_6
      refine PW_iconst (pc' := 48) (v := (-1 : Int32)) (pw_dk dc_X4_readLand 25 rfl) rfl (by decide) ?_
      refine PW_icmp_eq (pc' := 51) (tgt := 60) (pw_dk dc_X4_readLand 26 rfl) rfl (by decide) (fun c_13 => ?_) (fun c_13 => ?_)
      · rw [if_pos c_13] at h
        refine PW_aload_n (pc' := 61) (q := 1) (pw_dk dc_X4_readLand 32 rfl) rfl rfl rfl ?_
        refine PW_getR (pc' := 64) (id := 200) (ci := 4) (nn := 0) (C0 := RX4) (T := TX4) (N := 6) (j := 0) (r := 500) (pw_dk dc_X4_readLand 33 rfl) rfl me_200 rfl pi_4 (by decide) fk_4_0 tw_408 (rfl) (by decide) ?_
        refine PZ_callVv (pc' := 67) (y := yX7_advance) (M' := mX7_advance) (d' := 2) (As := []) (st := []) (b := 500) (ci := 7) (nn := 0) me_500 rfl tw_674 tw_675 (pw_dk dc_X4_readLand 34 rfl) rfl Y_X7_advance tw_712 rfl (by decide) (Nat.le_of_ble_eq_true rfl) (t_X7_advance σ_6 _ ?_)
        obtain ⟨σ_15, e_16, h⟩ := wp_bind h
        refine ⟨σ_15, e_16, rfl, fun hn_14 => ?_⟩
        show PZ alC mX4_readLand (4) Q 67 [(1, .int v_7), (0, .ref 200)] [] σ_15
        refine PW_aload_n (pc' := 68) (q := 1) (pw_dk dc_X4_readLand 35 rfl) rfl rfl rfl ?_
        refine PW_iconst (pc' := 69) (v := 0) (pw_dk dc_X4_readLand 36 rfl) rfl (by decide) ?_
        refine PW_aload_n (pc' := 70) (q := 1) (pw_dk dc_X4_readLand 37 rfl) rfl rfl rfl ?_
        refine PW_getR (pc' := 73) (id := 200) (ci := 4) (nn := 0) (C0 := RX4) (T := TX4) (N := 6) (j := 2) (r := tv (σ_15.2.2 1)) (pw_dk dc_X4_readLand 38 rfl) rfl me_200 rfl pi_4 (by decide) fk_4_2 tw_411 (rf_M1 _) (tv0 _) ?_
        refine PZ_getI (pc' := 76) (id := (tv (σ_15.2.2 1))) (ci := 8) (nn := 0) (C0 := RX8) (T := TX8) (N := 18) (j := 0) (pw_dk dc_X4_readLand 39 rfl) rfl (me_T _) rfl pi_8 (by decide) fk_8_0 tw_200 ?_
        refine PW_iconst (pc' := 77) (v := 1) (pw_dk dc_X4_readLand 40 rfl) rfl (by decide) ?_
        refine PW_isub (pc' := 78) (pw_dk dc_X4_readLand 41 rfl) rfl ?_
        refine PZ_callVi (pc' := 81) (y := yX4_takeNumber) (M' := mX4_takeNumber) (d' := 3) (As := [.int 0, .int ((σ_15.1 (tv (σ_15.2.2 1)) 0) - (1 : Int32))]) (st := []) (b := 200) (ci := 4) (nn := 0) me_200 rfl tw_715 tw_7 (pw_dk dc_X4_readLand 42 rfl) rfl Y_X4_takeNumber tw_713 rfl (by decide) (Nat.le_of_ble_eq_true rfl) (t_X4_takeNumber 0 ((σ_15.1 (tv (σ_15.2.2 1)) 0) - (1 : Int32)) σ_15 _ ?_)
        obtain ⟨⟨v_19, σ_18⟩, e_20, h⟩ := wp_bind2 h
        refine ⟨(v_19, σ_18), e_20, _, rfl, fun hn_17 => ?_⟩
        show PZ alC mX4_readLand (4) Q 81 [(1, .int v_7), (0, .ref 200)] [.int v_19] σ_18
        refine PW_istore_n (pc' := 82) (lv' := [(2, .int v_19), (1, .int v_7), (0, .ref 200)]) (pw_dk dc_X4_readLand 43 rfl) rfl rfl (by decide) rfl ?_
        refine PW_iload_n (pc' := 83) (q := 0) (pw_dk dc_X4_readLand 44 rfl) rfl rfl rfl ?_
        refine PW_iconst (pc' := 84) (v := (-1 : Int32)) (pw_dk dc_X4_readLand 45 rfl) rfl (by decide) ?_
        refine PW_icmp_ne (pc' := 87) (tgt := 91) (pw_dk dc_X4_readLand 46 rfl) rfl (by decide) (fun c_21 => ?_) (fun c_21 => ?_)
        · rw [if_neg c_21] at h
          refine PW_aload_n (pc' := 92) (q := 2) (pw_dk dc_X4_readLand 49 rfl) rfl rfl rfl ?_
          refine PW_iload_n (pc' := 93) (q := 0) (pw_dk dc_X4_readLand 50 rfl) rfl rfl rfl ?_
          refine PW_aload_n (pc' := 94) (q := 2) (pw_dk dc_X4_readLand 51 rfl) rfl rfl rfl ?_
          refine PW_getR (pc' := 97) (id := 200) (ci := 4) (nn := 0) (C0 := RX4) (T := TX4) (N := 6) (j := 2) (r := tv (σ_18.2.2 1)) (pw_dk dc_X4_readLand 52 rfl) rfl me_200 rfl pi_4 (by decide) fk_4_2 tw_411 (rf_M1 _) (tv0 _) ?_
          refine PZ_getI (pc' := 100) (id := (tv (σ_18.2.2 1))) (ci := 8) (nn := 0) (C0 := RX8) (T := TX8) (N := 18) (j := 0) (pw_dk dc_X4_readLand 53 rfl) rfl (me_T _) rfl pi_8 (by decide) fk_8_0 tw_200 ?_
          refine PW_iconst (pc' := 101) (v := 1) (pw_dk dc_X4_readLand 54 rfl) rfl (by decide) ?_
          refine PW_isub (pc' := 102) (pw_dk dc_X4_readLand 55 rfl) rfl ?_
          refine PZ_callVi (pc' := 105) (y := yX4_takeNumber) (M' := mX4_takeNumber) (d' := 3) (As := [.int v_19, .int ((σ_18.1 (tv (σ_18.2.2 1)) 0) - (1 : Int32))]) (st := []) (b := 200) (ci := 4) (nn := 0) me_200 rfl tw_715 tw_7 (pw_dk dc_X4_readLand 56 rfl) rfl Y_X4_takeNumber tw_713 rfl (by decide) (Nat.le_of_ble_eq_true rfl) (t_X4_takeNumber v_19 ((σ_18.1 (tv (σ_18.2.2 1)) 0) - (1 : Int32)) σ_18 _ ?_)
          obtain ⟨⟨v_24, σ_23⟩, e_25, h⟩ := wp_bind2 h
          refine ⟨(v_24, σ_23), e_25, _, rfl, fun hn_22 => ?_⟩
          show PZ alC mX4_readLand (4) Q 105 [(2, .int v_19), (1, .int v_7), (0, .ref 200)] [.int v_24] σ_23
          refine PW_sub (lv' := [(0, .ref 200), (1, .int v_7), (2, .int v_19)]) [2, 1, 0] rfl ?_
          exact b_X4_readLand_105 v_7 v_19 v_24 σ_23 h
        · rw [if_pos c_21] at h
          refine PW_iconst (pc' := 88) (v := (-1 : Int32)) (pw_dk dc_X4_readLand 47 rfl) rfl (by decide) ?_
          refine PW_goto (tgt := 105) (pw_dk dc_X4_readLand 48 rfl) (by decide) ?_
          refine PW_sub (lv' := [(0, .ref 200), (1, .int v_7), (2, .int v_19)]) [2, 1, 0] rfl ?_
          exact b_X4_readLand_105 v_7 v_19 (-1 : Int32) σ_18 h
      · rw [if_neg c_13] at h
        refine PW_aload_n (pc' := 52) (q := 1) (pw_dk dc_X4_readLand 27 rfl) rfl rfl rfl ?_
        refine PW_getR (pc' := 55) (id := 200) (ci := 4) (nn := 0) (C0 := RX4) (T := TX4) (N := 6) (j := 0) (r := 500) (pw_dk dc_X4_readLand 28 rfl) rfl me_200 rfl pi_4 (by decide) fk_4_0 tw_408 (rfl) (by decide) ?_
        refine PW_iconst (pc' := 56) (v := 3) (pw_dk dc_X4_readLand 29 rfl) rfl (by decide) ?_
        refine PZ_callVi (pc' := 59) (y := yX7_refuse) (M' := mX7_refuse) (d' := 0) (As := [.int 3]) (st := []) (b := 500) (ci := 7) (nn := 0) me_500 rfl tw_709 tw_710 (pw_dk dc_X4_readLand 30 rfl) rfl Y_X7_refuse tw_708 rfl (by decide) (Nat.le_of_ble_eq_true rfl) (t_X7_refuse 3 σ_6 _ ?_)
        obtain ⟨⟨v_28, σ_27⟩, e_29, h⟩ := wp_bind2 h
        refine ⟨(v_28, σ_27), e_29, _, rfl, fun hn_26 => ?_⟩
        show PZ alC mX4_readLand (4) Q 59 [(1, .int v_7), (0, .ref 200)] [.int v_28] σ_27
        have z := wp_some h
        exact PZ_iret (ty := .boolean) (pw_dk dc_X4_readLand 31 rfl) rfl (hn_26 _ _ rfl rfl) z
    · rw [if_pos c_9] at h
      refine PW_iconst (pc' := 38) (v := 0) (pw_dk dc_X4_readLand 19 rfl) rfl (by decide) ?_
      have z := wp_some h
      exact PZ_iret (ty := .boolean) (pw_dk dc_X4_readLand 20 rfl) rfl (by decide) z
  · rw [if_neg c_1] at h
    refine PW_aload_n (pc' := 12) (q := 0) (pw_dk dc_X4_readLand 5 rfl) rfl rfl rfl ?_
    refine PW_getR (pc' := 15) (id := 200) (ci := 4) (nn := 0) (C0 := RX4) (T := TX4) (N := 6) (j := 0) (r := 500) (pw_dk dc_X4_readLand 6 rfl) rfl me_200 rfl pi_4 (by decide) fk_4_0 tw_408 (rfl) (by decide) ?_
    refine PW_iconst (pc' := 16) (v := 2) (pw_dk dc_X4_readLand 7 rfl) rfl (by decide) ?_
    refine PZ_callVi (pc' := 19) (y := yX7_refuse) (M' := mX7_refuse) (d' := 0) (As := [.int 2]) (st := []) (b := 500) (ci := 7) (nn := 0) me_500 rfl tw_709 tw_710 (pw_dk dc_X4_readLand 8 rfl) rfl Y_X7_refuse tw_708 rfl (by decide) (Nat.le_of_ble_eq_true rfl) (t_X7_refuse 2 σ _ ?_)
    obtain ⟨⟨v_32, σ_31⟩, e_33, h⟩ := wp_bind2 h
    refine ⟨(v_32, σ_31), e_33, _, rfl, fun hn_30 => ?_⟩
    show PZ alC mX4_readLand (4) Q 19 [(0, .ref 200)] [.int v_32] σ_31
    have z := wp_some h
    exact PZ_iret (ty := .boolean) (pw_dk dc_X4_readLand 9 rfl) rfl (hn_30 _ _ rfl rfl) z
def f_X6_takeKnot  (σ : zS) : Option (Int32 × zS) := 
  if (σ.1 (tl (σ.2.2 3)) 0) < 64 then
    lt (wI σ (tl (σ.2.2 3)) 0 ((σ.1 (tl (σ.2.2 3)) 0) + (1 : Int32))) fun σ_2 =>
    (f_X7_advance σ_2).bind fun σ_5 =>
    some (1, σ_5)
  else
    b2 (f_X7_refuse 2 σ) fun v_9 σ_8 =>
    some (v_9, σ_8)
theorem t_X6_takeKnot (σ : zS) (Q : Option Value → zS → Prop) (h : wpO (f_X6_takeKnot σ) (fun a => Q (some (.int a.1)) a.2)) : PK alC yX6_takeKnot mX6_takeKnot (3) [.ref 600] σ Q := by
  refine PC_ofF (by decide +kernel) rfl rfl (Nat.le_of_ble_eq_true rfl) ?_
  show PZ alC mX6_takeKnot (3) Q 0 [(0, .ref 600)] [] σ
  unfold f_X6_takeKnot at h
  refine PW_aload_n (pc' := 1) (q := 0) (pw_dk dc_X6_takeKnot 0 rfl) rfl rfl rfl ?_
  refine PW_getR (pc' := 4) (id := 600) (ci := 6) (nn := 0) (C0 := RX6) (T := TX6) (N := 2) (j := 1) (r := tl (σ.2.2 3)) (pw_dk dc_X6_takeKnot 1 rfl) rfl me_600 rfl pi_6 (by decide) fk_6_1 tw_401 (rf_M3 _) (tl0 _) ?_
  refine PZ_getI (pc' := 7) (id := (tl (σ.2.2 3))) (ci := 2) (nn := 0) (C0 := RX2) (T := TX2) (N := 8) (j := 0) (pw_dk dc_X6_takeKnot 2 rfl) rfl (me_L _) rfl pi_2 (by decide) fk_2_0 tw_167 ?_
  refine PW_bipush (pc' := 9) (v := 64) (pw_dk dc_X6_takeKnot 3 rfl) rfl (by decide) ?_
  refine PW_icmp_lt (pc' := 12) (tgt := 21) (pw_dk dc_X6_takeKnot 4 rfl) rfl (by decide) (fun c_1 => ?_) (fun c_1 => ?_)
  · rw [if_pos c_1] at h
    refine PW_aload_n (pc' := 22) (q := 0) (pw_dk dc_X6_takeKnot 10 rfl) rfl rfl rfl ?_
    refine PW_getR (pc' := 25) (id := 600) (ci := 6) (nn := 0) (C0 := RX6) (T := TX6) (N := 2) (j := 1) (r := tl (σ.2.2 3)) (pw_dk dc_X6_takeKnot 11 rfl) rfl me_600 rfl pi_6 (by decide) fk_6_1 tw_401 (rf_M3 _) (tl0 _) ?_
    refine PW_dup (pc' := 26) (pw_dk dc_X6_takeKnot 12 rfl) rfl rfl ?_
    refine PZ_getI (pc' := 29) (id := (tl (σ.2.2 3))) (ci := 2) (nn := 0) (C0 := RX2) (T := TX2) (N := 8) (j := 0) (pw_dk dc_X6_takeKnot 13 rfl) rfl (me_L _) rfl pi_2 (by decide) fk_2_0 tw_167 ?_
    refine PW_iconst (pc' := 30) (v := 1) (pw_dk dc_X6_takeKnot 14 rfl) rfl (by decide) ?_
    refine PW_iadd (pc' := 31) (pw_dk dc_X6_takeKnot 15 rfl) rfl ?_
    obtain ⟨σ_2, e_3, h⟩ := lt_x h
    refine PZ_putX (pc' := 34) (σ' := σ_2) (id := (tl (σ.2.2 3))) (ci := 2) (nn := 0) (C0 := RX2) (T := TX2) (N := 8) (j := 0) (ty := tyX2 0) (pw_dk dc_X6_takeKnot 16 rfl) rfl (me_L _) rfl pi_2 tyX2_ok nmX2 (by decide) fk_2_0 tw_167 rfl (tyX2_ok 0 (by decide)) (by first | rfl | decide) (by first | rfl | decide) e_3 ?_
    refine PW_aload_n (pc' := 35) (q := 0) (pw_dk dc_X6_takeKnot 17 rfl) rfl rfl rfl ?_
    refine PW_getR (pc' := 38) (id := 600) (ci := 6) (nn := 0) (C0 := RX6) (T := TX6) (N := 2) (j := 0) (r := 500) (pw_dk dc_X6_takeKnot 18 rfl) rfl me_600 rfl pi_6 (by decide) fk_6_0 tw_400 (rfl) (by decide) ?_
    refine PZ_callVv (pc' := 41) (y := yX7_advance) (M' := mX7_advance) (d' := 2) (As := []) (st := []) (b := 500) (ci := 7) (nn := 0) me_500 rfl tw_674 tw_675 (pw_dk dc_X6_takeKnot 19 rfl) rfl Y_X7_advance tw_813 rfl (by decide) (Nat.le_of_ble_eq_true rfl) (t_X7_advance σ_2 _ ?_)
    obtain ⟨σ_5, e_6, h⟩ := wp_bind h
    refine ⟨σ_5, e_6, rfl, fun hn_4 => ?_⟩
    show PZ alC mX6_takeKnot (3) Q 41 [(0, .ref 600)] [] σ_5
    refine PW_iconst (pc' := 42) (v := 1) (pw_dk dc_X6_takeKnot 20 rfl) rfl (by decide) ?_
    have z := wp_some h
    exact PZ_iret (ty := .boolean) (pw_dk dc_X6_takeKnot 21 rfl) rfl (by decide) z
  · rw [if_neg c_1] at h
    refine PW_aload_n (pc' := 13) (q := 0) (pw_dk dc_X6_takeKnot 5 rfl) rfl rfl rfl ?_
    refine PW_getR (pc' := 16) (id := 600) (ci := 6) (nn := 0) (C0 := RX6) (T := TX6) (N := 2) (j := 0) (r := 500) (pw_dk dc_X6_takeKnot 6 rfl) rfl me_600 rfl pi_6 (by decide) fk_6_0 tw_400 (rfl) (by decide) ?_
    refine PW_iconst (pc' := 17) (v := 2) (pw_dk dc_X6_takeKnot 7 rfl) rfl (by decide) ?_
    refine PZ_callVi (pc' := 20) (y := yX7_refuse) (M' := mX7_refuse) (d' := 0) (As := [.int 2]) (st := []) (b := 500) (ci := 7) (nn := 0) me_500 rfl tw_709 tw_710 (pw_dk dc_X6_takeKnot 8 rfl) rfl Y_X7_refuse tw_812 rfl (by decide) (Nat.le_of_ble_eq_true rfl) (t_X7_refuse 2 σ _ ?_)
    obtain ⟨⟨v_9, σ_8⟩, e_10, h⟩ := wp_bind2 h
    refine ⟨(v_9, σ_8), e_10, _, rfl, fun hn_7 => ?_⟩
    show PZ alC mX6_takeKnot (3) Q 20 [(0, .ref 600)] [.int v_9] σ_8
    have z := wp_some h
    exact PZ_iret (ty := .boolean) (pw_dk dc_X6_takeKnot 9 rfl) rfl (hn_7 _ _ rfl rfl) z
def f_X7_isWord (x1 : Int32) (σ : zS) : Int32 := 
  if (σ.1 500 4) = 1 then
    if (σ.1 500 6) = x1 then
      1
    else
      0
  else
    0
theorem t_X7_isWord (x1 : Int32) (σ : zS) (Q : Option Value → zS → Prop) (h : Q (some (.int (f_X7_isWord x1 σ))) σ) : PK alC yX7_isWord mX7_isWord (0) [.ref 500, .int x1] σ Q := by
  refine PC_ofF (by decide +kernel) rfl rfl (Nat.le_of_ble_eq_true rfl) ?_
  show PZ alC mX7_isWord (0) Q 0 [(0, .ref 500), (1, .int x1)] [] σ
  unfold f_X7_isWord at h
  refine PW_aload_n (pc' := 1) (q := 0) (pw_dk dc_X7_isWord 0 rfl) rfl rfl rfl ?_
  refine PZ_getI (pc' := 4) (id := 500) (ci := 7) (nn := 0) (C0 := RX7) (T := TX7) (N := 10) (j := 4) (pw_dk dc_X7_isWord 1 rfl) rfl me_500 rfl pi_7 (by decide) fk_7_4 tw_359 ?_
  refine PW_iconst (pc' := 5) (v := 1) (pw_dk dc_X7_isWord 2 rfl) rfl (by decide) ?_
  refine PW_icmp_ne (pc' := 8) (tgt := 20) (pw_dk dc_X7_isWord 3 rfl) rfl (by decide) (fun c_1 => ?_) (fun c_1 => ?_)
  · rw [if_neg c_1] at h
    refine PW_iconst (pc' := 21) (v := 0) (pw_dk dc_X7_isWord 10 rfl) rfl (by decide) ?_
    exact PZ_iret (ty := .boolean) (pw_dk dc_X7_isWord 11 rfl) rfl (by decide) h
  · rw [if_pos c_1] at h
    refine PW_aload_n (pc' := 9) (q := 0) (pw_dk dc_X7_isWord 4 rfl) rfl rfl rfl ?_
    refine PZ_getI (pc' := 12) (id := 500) (ci := 7) (nn := 0) (C0 := RX7) (T := TX7) (N := 10) (j := 6) (pw_dk dc_X7_isWord 5 rfl) rfl me_500 rfl pi_7 (by decide) fk_7_6 tw_363 ?_
    refine PW_iload_n (pc' := 13) (q := 1) (pw_dk dc_X7_isWord 6 rfl) rfl rfl rfl ?_
    refine PW_icmp_ne (pc' := 16) (tgt := 20) (pw_dk dc_X7_isWord 7 rfl) rfl (by decide) (fun c_2 => ?_) (fun c_2 => ?_)
    · rw [if_neg c_2] at h
      refine PW_iconst (pc' := 21) (v := 0) (pw_dk dc_X7_isWord 10 rfl) rfl (by decide) ?_
      exact PZ_iret (ty := .boolean) (pw_dk dc_X7_isWord 11 rfl) rfl (by decide) h
    · rw [if_pos c_2] at h
      refine PW_iconst (pc' := 17) (v := 1) (pw_dk dc_X7_isWord 8 rfl) rfl (by decide) ?_
      refine PW_goto (tgt := 21) (pw_dk dc_X7_isWord 9 rfl) (by decide) ?_
      exact PZ_iret (ty := .boolean) (pw_dk dc_X7_isWord 11 rfl) rfl (by decide) h
def f_X6_readEither_12 (rc : Nat → Int32 → zS → Option (Int32 × zS)) : Nat → Int32 → Int32 → zS → Option (Int32 × zS)
  | 0, _, _, _ => none
  | n + 1, x1, x2, σ => 
    if 64 < x2 then
      some (1, σ)
    else
      if (f_X7_isWord 25 σ) = 0 then
        some (1, σ)
      else
        b2 (f_X6_takeKnot σ) fun v_6 σ_5 =>
        if v_6 = 0 then
          some (0, σ_5)
        else
          b2 (rc 1 x1 σ_5) fun v_11 σ_10 =>
          if v_11 = 0 then
            some (0, σ_10)
          else
            (f_X2_put (σ_10.2.2 3) 2 0 σ_10).bind fun σ_15 =>
            f_X6_readEither_12 rc n x1 (x2 + 1) σ_15
theorem b_X6_readEither_12 (rc : Nat → Int32 → zS → Option (Int32 × zS)) (dd : Nat) (hdd : 4 ≤ dd) (hg : gC rc dd) {Q : Option Value → zS → Prop} : ∀ (n : Nat) (x1 : Int32) (x2 : Int32) (σ : zS) (h : wpO (f_X6_readEither_12 rc n x1 x2 σ) (fun a => Q (some (.int a.1)) a.2)), PZ alC mX6_readEither (dd + 1) Q 12 [(0, .ref 600), (1, .int x1), (2, .int x2)] [] σ := by
  intro n
  induction n with
  | zero => intro x1 x2 σ h; exact wp_none h
  | succ n ih =>
    intro x1 x2 σ h
    rw [f_X6_readEither_12] at h
    refine PW_iload_n (pc' := 13) (q := 2) (pw_dk dc_X6_readEither 8 rfl) rfl rfl rfl ?_
    refine PW_bipush (pc' := 15) (v := 64) (pw_dk dc_X6_readEither 9 rfl) rfl (by decide) ?_
    refine PW_icmp_gt (pc' := 18) (tgt := 62) (pw_dk dc_X6_readEither 10 rfl) rfl (by decide) (fun c_1 => ?_) (fun c_1 => ?_)
    · rw [if_pos c_1] at h
      refine PW_iconst (pc' := 63) (v := 1) (pw_dk dc_X6_readEither 32 rfl) rfl (by decide) ?_
      have z := wp_some h
      exact PZ_iret (ty := .boolean) (pw_dk dc_X6_readEither 33 rfl) rfl (by decide) z
    · rw [if_neg c_1] at h
      refine PW_aload_n (pc' := 19) (q := 0) (pw_dk dc_X6_readEither 11 rfl) rfl rfl rfl ?_
      refine PW_getR (pc' := 22) (id := 600) (ci := 6) (nn := 0) (C0 := RX6) (T := TX6) (N := 2) (j := 0) (r := 500) (pw_dk dc_X6_readEither 12 rfl) rfl me_600 rfl pi_6 (by decide) fk_6_0 tw_400 (rfl) (by decide) ?_
      refine PW_bipush (pc' := 24) (v := 25) (pw_dk dc_X6_readEither 13 rfl) rfl (by decide) ?_
      refine PZ_callVi (pc' := 27) (y := yX7_isWord) (M' := mX7_isWord) (d' := 0) (As := [.int 25]) (st := []) (b := 500) (ci := 7) (nn := 0) me_500 rfl tw_805 tw_806 (pw_dk dc_X6_readEither 14 rfl) rfl Y_X7_isWord tw_804 rfl (by omega) (Nat.le_of_ble_eq_true rfl) (t_X7_isWord 25 σ _ ?_)
      refine ⟨_, rfl, fun hn_2 => ?_⟩
      show PZ alC mX6_readEither (dd + 1) Q 27 [(0, .ref 600), (1, .int x1), (2, .int x2)] [.int (f_X7_isWord 25 σ)] σ
      refine PW_if_eq (pc' := 30) (tgt := 62) (pw_dk dc_X6_readEither 15 rfl) rfl (by decide) (fun c_3 => ?_) (fun c_3 => ?_)
      · rw [if_pos c_3] at h
        refine PW_iconst (pc' := 63) (v := 1) (pw_dk dc_X6_readEither 32 rfl) rfl (by decide) ?_
        have z := wp_some h
        exact PZ_iret (ty := .boolean) (pw_dk dc_X6_readEither 33 rfl) rfl (by decide) z
      · rw [if_neg c_3] at h
        refine PW_aload_n (pc' := 31) (q := 0) (pw_dk dc_X6_readEither 16 rfl) rfl rfl rfl ?_
        refine PZ_callVi (pc' := 34) (y := yX6_takeKnot) (M' := mX6_takeKnot) (d' := 3) (As := []) (st := []) (b := 600) (ci := 6) (nn := 0) me_600 rfl tw_810 tw_20 (pw_dk dc_X6_readEither 17 rfl) rfl Y_X6_takeKnot tw_808 rfl (by omega) (Nat.le_of_ble_eq_true rfl) (t_X6_takeKnot σ _ ?_)
        obtain ⟨⟨v_6, σ_5⟩, e_7, h⟩ := wp_bind2 h
        refine ⟨(v_6, σ_5), e_7, _, rfl, fun hn_4 => ?_⟩
        show PZ alC mX6_readEither (dd + 1) Q 34 [(0, .ref 600), (1, .int x1), (2, .int x2)] [.int v_6] σ_5
        refine PW_if_eq (pc' := 37) (tgt := 45) (pw_dk dc_X6_readEither 18 rfl) rfl (by decide) (fun c_8 => ?_) (fun c_8 => ?_)
        · rw [if_pos c_8] at h
          refine PW_iconst (pc' := 46) (v := 0) (pw_dk dc_X6_readEither 23 rfl) rfl (by decide) ?_
          have z := wp_some h
          exact PZ_iret (ty := .boolean) (pw_dk dc_X6_readEither 24 rfl) rfl (by decide) z
        · rw [if_neg c_8] at h
          refine PW_aload_n (pc' := 38) (q := 0) (pw_dk dc_X6_readEither 19 rfl) rfl rfl rfl ?_
          refine PW_iload_n (pc' := 39) (q := 1) (pw_dk dc_X6_readEither 20 rfl) rfl rfl rfl ?_
          refine PZ_callVi (pc' := 42) (y := yX6_readBoth) (M' := mX6_readBoth) (d' := dd) (As := [.int x1]) (st := []) (b := 600) (ci := 6) (nn := 0) me_600 rfl tw_798 tw_18 (pw_dk dc_X6_readEither 21 rfl) rfl Y_X6_readBoth tw_796 rfl (Nat.le_refl _) (Nat.le_of_ble_eq_true rfl) (hg.2.1 x1 σ_5 _ ?_)
          obtain ⟨⟨v_11, σ_10⟩, e_12, h⟩ := wp_bind2 h
          refine ⟨(v_11, σ_10), e_12, _, rfl, fun hn_9 => ?_⟩
          show PZ alC mX6_readEither (dd + 1) Q 42 [(0, .ref 600), (1, .int x1), (2, .int x2)] [.int v_11] σ_10
          refine PW_if_ne (pc' := 45) (tgt := 47) (pw_dk dc_X6_readEither 22 rfl) rfl (by decide) (fun c_13 => ?_) (fun c_13 => ?_)
          · rw [if_neg c_13] at h
            refine PW_aload_n (pc' := 48) (q := 0) (pw_dk dc_X6_readEither 25 rfl) rfl rfl rfl ?_
            refine PW_getR (pc' := 51) (id := 600) (ci := 6) (nn := 0) (C0 := RX6) (T := TX6) (N := 2) (j := 1) (r := tl (σ_10.2.2 3)) (pw_dk dc_X6_readEither 26 rfl) rfl me_600 rfl pi_6 (by decide) fk_6_1 tw_401 (rf_M3 _) (tl0 _) ?_
            refine PW_iconst (pc' := 52) (v := 2) (pw_dk dc_X6_readEither 27 rfl) rfl (by decide) ?_
            refine PW_iconst (pc' := 53) (v := 0) (pw_dk dc_X6_readEither 28 rfl) rfl (by decide) ?_
            refine PZ_callVv (pc' := 56) (y := yX2_put) (M' := mX2_put) (d' := 0) (As := [.int 2, .int 0]) (st := []) (b := (tl (σ_10.2.2 3))) (ci := 2) (nn := 0) (me_L _) rfl tw_844 tw_845 (pw_dk dc_X6_readEither 29 rfl) rfl Y_X2_put tw_843 rfl (by omega) (Nat.le_of_ble_eq_true rfl) (t_X2_put (σ_10.2.2 3) 2 0 σ_10 _ ?_)
            obtain ⟨σ_15, e_16, h⟩ := wp_bind h
            refine ⟨σ_15, e_16, rfl, fun hn_14 => ?_⟩
            show PZ alC mX6_readEither (dd + 1) Q 56 [(0, .ref 600), (1, .int x1), (2, .int x2)] [] σ_15
            refine PW_iinc (pc' := 59) (q := 2) (v := x2 + 1) (lv' := [(2, .int (x2 + 1)), (0, .ref 600), (1, .int x1)]) (pw_dk dc_X6_readEither 30 rfl) rfl rfl rfl (by decide) rfl ?_
            refine PW_goto (tgt := 12) (pw_dk dc_X6_readEither 31 rfl) (by decide) ?_
            refine PW_sub (lv' := [(0, .ref 600), (1, .int x1), (2, .int (x2 + 1))]) [1, 2, 0] rfl ?_
            exact ih x1 (x2 + 1) σ_15 h
          · rw [if_pos c_13] at h
            refine PW_iconst (pc' := 46) (v := 0) (pw_dk dc_X6_readEither 23 rfl) rfl (by decide) ?_
            have z := wp_some h
            exact PZ_iret (ty := .boolean) (pw_dk dc_X6_readEither 24 rfl) rfl (by decide) z
def F_X6_readEither (rc : Nat → Int32 → zS → Option (Int32 × zS)) (x1 : Int32) (σ : zS) : Option (Int32 × zS) := 
  b2 (rc 1 x1 σ) fun v_3 σ_2 =>
  if v_3 = 0 then
    some (0, σ_2)
  else
    f_X6_readEither_12 rc FU x1 0 σ_2
theorem t_X6_readEither (rc : Nat → Int32 → zS → Option (Int32 × zS)) (dd : Nat) (hdd : 4 ≤ dd) (hg : gC rc dd) (x1 : Int32) (σ : zS) (Q : Option Value → zS → Prop) (h : wpO (F_X6_readEither rc x1 σ) (fun a => Q (some (.int a.1)) a.2)) : PK alC yX6_readEither mX6_readEither (dd + 1) [.ref 600, .int x1] σ Q := by
  refine PC_ofF (by decide +kernel) rfl rfl (Nat.le_of_ble_eq_true rfl) ?_
  show PZ alC mX6_readEither (dd + 1) Q 0 [(0, .ref 600), (1, .int x1)] [] σ
  unfold F_X6_readEither at h
  refine PW_aload_n (pc' := 1) (q := 0) (pw_dk dc_X6_readEither 0 rfl) rfl rfl rfl ?_
  refine PW_iload_n (pc' := 2) (q := 1) (pw_dk dc_X6_readEither 1 rfl) rfl rfl rfl ?_
  refine PZ_callVi (pc' := 5) (y := yX6_readBoth) (M' := mX6_readBoth) (d' := dd) (As := [.int x1]) (st := []) (b := 600) (ci := 6) (nn := 0) me_600 rfl tw_798 tw_18 (pw_dk dc_X6_readEither 2 rfl) rfl Y_X6_readBoth tw_796 rfl (Nat.le_refl _) (Nat.le_of_ble_eq_true rfl) (hg.2.1 x1 σ _ ?_)
  obtain ⟨⟨v_3, σ_2⟩, e_4, h⟩ := wp_bind2 h
  refine ⟨(v_3, σ_2), e_4, _, rfl, fun hn_1 => ?_⟩
  show PZ alC mX6_readEither (dd + 1) Q 5 [(0, .ref 600), (1, .int x1)] [.int v_3] σ_2
  refine PW_if_ne (pc' := 8) (tgt := 10) (pw_dk dc_X6_readEither 3 rfl) rfl (by decide) (fun c_5 => ?_) (fun c_5 => ?_)
  · rw [if_neg c_5] at h
    refine PW_iconst (pc' := 11) (v := 0) (pw_dk dc_X6_readEither 6 rfl) rfl (by decide) ?_
    refine PW_istore_n (pc' := 12) (lv' := [(2, .int 0), (0, .ref 600), (1, .int x1)]) (pw_dk dc_X6_readEither 7 rfl) rfl rfl (by decide) rfl ?_
    refine PW_sub (lv' := [(0, .ref 600), (1, .int x1), (2, .int 0)]) [1, 2, 0] rfl ?_
    exact b_X6_readEither_12 rc dd hdd hg FU x1 0 σ_2 h
  · rw [if_pos c_5] at h
    refine PW_iconst (pc' := 9) (v := 0) (pw_dk dc_X6_readEither 4 rfl) rfl (by decide) ?_
    have z := wp_some h
    exact PZ_iret (ty := .boolean) (pw_dk dc_X6_readEither 5 rfl) rfl (by decide) z
def f_X6_readBoth_12 (rc : Nat → Int32 → zS → Option (Int32 × zS)) : Nat → Int32 → Int32 → zS → Option (Int32 × zS)
  | 0, _, _, _ => none
  | n + 1, x1, x2, σ => 
    if 64 < x2 then
      some (1, σ)
    else
      if (f_X7_isWord 26 σ) = 0 then
        some (1, σ)
      else
        b2 (f_X6_takeKnot σ) fun v_6 σ_5 =>
        if v_6 = 0 then
          some (0, σ_5)
        else
          b2 (rc 2 x1 σ_5) fun v_11 σ_10 =>
          if v_11 = 0 then
            some (0, σ_10)
          else
            (f_X2_put (σ_10.2.2 3) 3 0 σ_10).bind fun σ_15 =>
            f_X6_readBoth_12 rc n x1 (x2 + 1) σ_15
theorem b_X6_readBoth_12 (rc : Nat → Int32 → zS → Option (Int32 × zS)) (dd : Nat) (hdd : 4 ≤ dd) (hg : gC rc dd) {Q : Option Value → zS → Prop} : ∀ (n : Nat) (x1 : Int32) (x2 : Int32) (σ : zS) (h : wpO (f_X6_readBoth_12 rc n x1 x2 σ) (fun a => Q (some (.int a.1)) a.2)), PZ alC mX6_readBoth (dd + 1) Q 12 [(0, .ref 600), (1, .int x1), (2, .int x2)] [] σ := by
  intro n
  induction n with
  | zero => intro x1 x2 σ h; exact wp_none h
  | succ n ih =>
    intro x1 x2 σ h
    rw [f_X6_readBoth_12] at h
    refine PW_iload_n (pc' := 13) (q := 2) (pw_dk dc_X6_readBoth 8 rfl) rfl rfl rfl ?_
    refine PW_bipush (pc' := 15) (v := 64) (pw_dk dc_X6_readBoth 9 rfl) rfl (by decide) ?_
    refine PW_icmp_gt (pc' := 18) (tgt := 62) (pw_dk dc_X6_readBoth 10 rfl) rfl (by decide) (fun c_1 => ?_) (fun c_1 => ?_)
    · rw [if_pos c_1] at h
      refine PW_iconst (pc' := 63) (v := 1) (pw_dk dc_X6_readBoth 32 rfl) rfl (by decide) ?_
      have z := wp_some h
      exact PZ_iret (ty := .boolean) (pw_dk dc_X6_readBoth 33 rfl) rfl (by decide) z
    · rw [if_neg c_1] at h
      refine PW_aload_n (pc' := 19) (q := 0) (pw_dk dc_X6_readBoth 11 rfl) rfl rfl rfl ?_
      refine PW_getR (pc' := 22) (id := 600) (ci := 6) (nn := 0) (C0 := RX6) (T := TX6) (N := 2) (j := 0) (r := 500) (pw_dk dc_X6_readBoth 12 rfl) rfl me_600 rfl pi_6 (by decide) fk_6_0 tw_400 (rfl) (by decide) ?_
      refine PW_bipush (pc' := 24) (v := 26) (pw_dk dc_X6_readBoth 13 rfl) rfl (by decide) ?_
      refine PZ_callVi (pc' := 27) (y := yX7_isWord) (M' := mX7_isWord) (d' := 0) (As := [.int 26]) (st := []) (b := 500) (ci := 7) (nn := 0) me_500 rfl tw_805 tw_806 (pw_dk dc_X6_readBoth 14 rfl) rfl Y_X7_isWord tw_804 rfl (by omega) (Nat.le_of_ble_eq_true rfl) (t_X7_isWord 26 σ _ ?_)
      refine ⟨_, rfl, fun hn_2 => ?_⟩
      show PZ alC mX6_readBoth (dd + 1) Q 27 [(0, .ref 600), (1, .int x1), (2, .int x2)] [.int (f_X7_isWord 26 σ)] σ
      refine PW_if_eq (pc' := 30) (tgt := 62) (pw_dk dc_X6_readBoth 15 rfl) rfl (by decide) (fun c_3 => ?_) (fun c_3 => ?_)
      · rw [if_pos c_3] at h
        refine PW_iconst (pc' := 63) (v := 1) (pw_dk dc_X6_readBoth 32 rfl) rfl (by decide) ?_
        have z := wp_some h
        exact PZ_iret (ty := .boolean) (pw_dk dc_X6_readBoth 33 rfl) rfl (by decide) z
      · rw [if_neg c_3] at h
        refine PW_aload_n (pc' := 31) (q := 0) (pw_dk dc_X6_readBoth 16 rfl) rfl rfl rfl ?_
        refine PZ_callVi (pc' := 34) (y := yX6_takeKnot) (M' := mX6_takeKnot) (d' := 3) (As := []) (st := []) (b := 600) (ci := 6) (nn := 0) me_600 rfl tw_810 tw_20 (pw_dk dc_X6_readBoth 17 rfl) rfl Y_X6_takeKnot tw_808 rfl (by omega) (Nat.le_of_ble_eq_true rfl) (t_X6_takeKnot σ _ ?_)
        obtain ⟨⟨v_6, σ_5⟩, e_7, h⟩ := wp_bind2 h
        refine ⟨(v_6, σ_5), e_7, _, rfl, fun hn_4 => ?_⟩
        show PZ alC mX6_readBoth (dd + 1) Q 34 [(0, .ref 600), (1, .int x1), (2, .int x2)] [.int v_6] σ_5
        refine PW_if_eq (pc' := 37) (tgt := 45) (pw_dk dc_X6_readBoth 18 rfl) rfl (by decide) (fun c_8 => ?_) (fun c_8 => ?_)
        · rw [if_pos c_8] at h
          refine PW_iconst (pc' := 46) (v := 0) (pw_dk dc_X6_readBoth 23 rfl) rfl (by decide) ?_
          have z := wp_some h
          exact PZ_iret (ty := .boolean) (pw_dk dc_X6_readBoth 24 rfl) rfl (by decide) z
        · rw [if_neg c_8] at h
          refine PW_aload_n (pc' := 38) (q := 0) (pw_dk dc_X6_readBoth 19 rfl) rfl rfl rfl ?_
          refine PW_iload_n (pc' := 39) (q := 1) (pw_dk dc_X6_readBoth 20 rfl) rfl rfl rfl ?_
          refine PZ_callVi (pc' := 42) (y := yX6_readDenied) (M' := mX6_readDenied) (d' := dd) (As := [.int x1]) (st := []) (b := 600) (ci := 6) (nn := 0) me_600 rfl tw_802 tw_19 (pw_dk dc_X6_readBoth 21 rfl) rfl Y_X6_readDenied tw_800 rfl (Nat.le_refl _) (Nat.le_of_ble_eq_true rfl) (hg.2.2.1 x1 σ_5 _ ?_)
          obtain ⟨⟨v_11, σ_10⟩, e_12, h⟩ := wp_bind2 h
          refine ⟨(v_11, σ_10), e_12, _, rfl, fun hn_9 => ?_⟩
          show PZ alC mX6_readBoth (dd + 1) Q 42 [(0, .ref 600), (1, .int x1), (2, .int x2)] [.int v_11] σ_10
          refine PW_if_ne (pc' := 45) (tgt := 47) (pw_dk dc_X6_readBoth 22 rfl) rfl (by decide) (fun c_13 => ?_) (fun c_13 => ?_)
          · rw [if_neg c_13] at h
            refine PW_aload_n (pc' := 48) (q := 0) (pw_dk dc_X6_readBoth 25 rfl) rfl rfl rfl ?_
            refine PW_getR (pc' := 51) (id := 600) (ci := 6) (nn := 0) (C0 := RX6) (T := TX6) (N := 2) (j := 1) (r := tl (σ_10.2.2 3)) (pw_dk dc_X6_readBoth 26 rfl) rfl me_600 rfl pi_6 (by decide) fk_6_1 tw_401 (rf_M3 _) (tl0 _) ?_
            refine PW_iconst (pc' := 52) (v := 3) (pw_dk dc_X6_readBoth 27 rfl) rfl (by decide) ?_
            refine PW_iconst (pc' := 53) (v := 0) (pw_dk dc_X6_readBoth 28 rfl) rfl (by decide) ?_
            refine PZ_callVv (pc' := 56) (y := yX2_put) (M' := mX2_put) (d' := 0) (As := [.int 3, .int 0]) (st := []) (b := (tl (σ_10.2.2 3))) (ci := 2) (nn := 0) (me_L _) rfl tw_844 tw_845 (pw_dk dc_X6_readBoth 29 rfl) rfl Y_X2_put tw_843 rfl (by omega) (Nat.le_of_ble_eq_true rfl) (t_X2_put (σ_10.2.2 3) 3 0 σ_10 _ ?_)
            obtain ⟨σ_15, e_16, h⟩ := wp_bind h
            refine ⟨σ_15, e_16, rfl, fun hn_14 => ?_⟩
            show PZ alC mX6_readBoth (dd + 1) Q 56 [(0, .ref 600), (1, .int x1), (2, .int x2)] [] σ_15
            refine PW_iinc (pc' := 59) (q := 2) (v := x2 + 1) (lv' := [(2, .int (x2 + 1)), (0, .ref 600), (1, .int x1)]) (pw_dk dc_X6_readBoth 30 rfl) rfl rfl rfl (by decide) rfl ?_
            refine PW_goto (tgt := 12) (pw_dk dc_X6_readBoth 31 rfl) (by decide) ?_
            refine PW_sub (lv' := [(0, .ref 600), (1, .int x1), (2, .int (x2 + 1))]) [1, 2, 0] rfl ?_
            exact ih x1 (x2 + 1) σ_15 h
          · rw [if_pos c_13] at h
            refine PW_iconst (pc' := 46) (v := 0) (pw_dk dc_X6_readBoth 23 rfl) rfl (by decide) ?_
            have z := wp_some h
            exact PZ_iret (ty := .boolean) (pw_dk dc_X6_readBoth 24 rfl) rfl (by decide) z
def F_X6_readBoth (rc : Nat → Int32 → zS → Option (Int32 × zS)) (x1 : Int32) (σ : zS) : Option (Int32 × zS) := 
  b2 (rc 2 x1 σ) fun v_3 σ_2 =>
  if v_3 = 0 then
    some (0, σ_2)
  else
    f_X6_readBoth_12 rc FU x1 0 σ_2
theorem t_X6_readBoth (rc : Nat → Int32 → zS → Option (Int32 × zS)) (dd : Nat) (hdd : 4 ≤ dd) (hg : gC rc dd) (x1 : Int32) (σ : zS) (Q : Option Value → zS → Prop) (h : wpO (F_X6_readBoth rc x1 σ) (fun a => Q (some (.int a.1)) a.2)) : PK alC yX6_readBoth mX6_readBoth (dd + 1) [.ref 600, .int x1] σ Q := by
  refine PC_ofF (by decide +kernel) rfl rfl (Nat.le_of_ble_eq_true rfl) ?_
  show PZ alC mX6_readBoth (dd + 1) Q 0 [(0, .ref 600), (1, .int x1)] [] σ
  unfold F_X6_readBoth at h
  refine PW_aload_n (pc' := 1) (q := 0) (pw_dk dc_X6_readBoth 0 rfl) rfl rfl rfl ?_
  refine PW_iload_n (pc' := 2) (q := 1) (pw_dk dc_X6_readBoth 1 rfl) rfl rfl rfl ?_
  refine PZ_callVi (pc' := 5) (y := yX6_readDenied) (M' := mX6_readDenied) (d' := dd) (As := [.int x1]) (st := []) (b := 600) (ci := 6) (nn := 0) me_600 rfl tw_802 tw_19 (pw_dk dc_X6_readBoth 2 rfl) rfl Y_X6_readDenied tw_800 rfl (Nat.le_refl _) (Nat.le_of_ble_eq_true rfl) (hg.2.2.1 x1 σ _ ?_)
  obtain ⟨⟨v_3, σ_2⟩, e_4, h⟩ := wp_bind2 h
  refine ⟨(v_3, σ_2), e_4, _, rfl, fun hn_1 => ?_⟩
  show PZ alC mX6_readBoth (dd + 1) Q 5 [(0, .ref 600), (1, .int x1)] [.int v_3] σ_2
  refine PW_if_ne (pc' := 8) (tgt := 10) (pw_dk dc_X6_readBoth 3 rfl) rfl (by decide) (fun c_5 => ?_) (fun c_5 => ?_)
  · rw [if_neg c_5] at h
    refine PW_iconst (pc' := 11) (v := 0) (pw_dk dc_X6_readBoth 6 rfl) rfl (by decide) ?_
    refine PW_istore_n (pc' := 12) (lv' := [(2, .int 0), (0, .ref 600), (1, .int x1)]) (pw_dk dc_X6_readBoth 7 rfl) rfl rfl (by decide) rfl ?_
    refine PW_sub (lv' := [(0, .ref 600), (1, .int x1), (2, .int 0)]) [1, 2, 0] rfl ?_
    exact b_X6_readBoth_12 rc dd hdd hg FU x1 0 σ_2 h
  · rw [if_pos c_5] at h
    refine PW_iconst (pc' := 9) (v := 0) (pw_dk dc_X6_readBoth 4 rfl) rfl (by decide) ?_
    have z := wp_some h
    exact PZ_iret (ty := .boolean) (pw_dk dc_X6_readBoth 5 rfl) rfl (by decide) z
def f_X6_readDenied_52 (rc : Nat → Int32 → zS → Option (Int32 × zS)) : Nat → Int32 → Int32 → zS → Option (Int32 × zS)
  | 0, _, _, _ => none
  | n + 1, x2, x3, σ => 
    if x2 ≤ x3 then
      some (1, σ)
    else
      (f_X2_put (σ.2.2 3) 4 0 σ).bind fun σ_3 =>
      f_X6_readDenied_52 rc n x2 (x3 + 1) σ_3
theorem b_X6_readDenied_52 (rc : Nat → Int32 → zS → Option (Int32 × zS)) (dd : Nat) (hdd : 4 ≤ dd) (hg : gC rc dd) {Q : Option Value → zS → Prop} : ∀ (n : Nat) (x2 : Int32) (x3 : Int32) (σ : zS) (h : wpO (f_X6_readDenied_52 rc n x2 x3 σ) (fun a => Q (some (.int a.1)) a.2)), PZ alC mX6_readDenied (dd + 1) Q 52 [(0, .ref 600), (2, .int x2), (3, .int x3)] [] σ := by
  intro n
  induction n with
  | zero => intro x2 x3 σ h; exact wp_none h
  | succ n ih =>
    intro x2 x3 σ h
    rw [f_X6_readDenied_52] at h
    refine PW_iload_n (pc' := 53) (q := 2) (pw_dk dc_X6_readDenied 28 rfl) rfl rfl rfl ?_
    refine PW_iload_n (pc' := 54) (q := 1) (pw_dk dc_X6_readDenied 29 rfl) rfl rfl rfl ?_
    refine PW_icmp_ge (pc' := 57) (tgt := 72) (pw_dk dc_X6_readDenied 30 rfl) rfl (by decide) (fun c_1 => ?_) (fun c_1 => ?_)
    · rw [if_pos c_1] at h
      refine PW_iconst (pc' := 73) (v := 1) (pw_dk dc_X6_readDenied 38 rfl) rfl (by decide) ?_
      have z := wp_some h
      exact PZ_iret (ty := .boolean) (pw_dk dc_X6_readDenied 39 rfl) rfl (by decide) z
    · rw [if_neg c_1] at h
      refine PW_aload_n (pc' := 58) (q := 0) (pw_dk dc_X6_readDenied 31 rfl) rfl rfl rfl ?_
      refine PW_getR (pc' := 61) (id := 600) (ci := 6) (nn := 0) (C0 := RX6) (T := TX6) (N := 2) (j := 1) (r := tl (σ.2.2 3)) (pw_dk dc_X6_readDenied 32 rfl) rfl me_600 rfl pi_6 (by decide) fk_6_1 tw_401 (rf_M3 _) (tl0 _) ?_
      refine PW_iconst (pc' := 62) (v := 4) (pw_dk dc_X6_readDenied 33 rfl) rfl (by decide) ?_
      refine PW_iconst (pc' := 63) (v := 0) (pw_dk dc_X6_readDenied 34 rfl) rfl (by decide) ?_
      refine PZ_callVv (pc' := 66) (y := yX2_put) (M' := mX2_put) (d' := 0) (As := [.int 4, .int 0]) (st := []) (b := (tl (σ.2.2 3))) (ci := 2) (nn := 0) (me_L _) rfl tw_844 tw_845 (pw_dk dc_X6_readDenied 35 rfl) rfl Y_X2_put tw_843 rfl (by omega) (Nat.le_of_ble_eq_true rfl) (t_X2_put (σ.2.2 3) 4 0 σ _ ?_)
      obtain ⟨σ_3, e_4, h⟩ := wp_bind h
      refine ⟨σ_3, e_4, rfl, fun hn_2 => ?_⟩
      show PZ alC mX6_readDenied (dd + 1) Q 66 [(0, .ref 600), (2, .int x2), (3, .int x3)] [] σ_3
      refine PW_iinc (pc' := 69) (q := 2) (v := x3 + 1) (lv' := [(3, .int (x3 + 1)), (0, .ref 600), (2, .int x2)]) (pw_dk dc_X6_readDenied 36 rfl) rfl rfl rfl (by decide) rfl ?_
      refine PW_goto (tgt := 52) (pw_dk dc_X6_readDenied 37 rfl) (by decide) ?_
      refine PW_sub (lv' := [(0, .ref 600), (2, .int x2), (3, .int (x3 + 1))]) [1, 2, 0] rfl ?_
      exact ih x2 (x3 + 1) σ_3 h
def f_X6_readDenied_40 (rc : Nat → Int32 → zS → Option (Int32 × zS)) (x1 : Int32) (x2 : Int32) (σ : zS) : Option (Int32 × zS) := 
  b2 (rc 3 x1 σ) fun v_3 σ_2 =>
  if v_3 = 0 then
    some (0, σ_2)
  else
    f_X6_readDenied_52 rc FU x2 0 σ_2
theorem b_X6_readDenied_40 (rc : Nat → Int32 → zS → Option (Int32 × zS)) (dd : Nat) (hdd : 4 ≤ dd) (hg : gC rc dd) {Q : Option Value → zS → Prop} (x1 : Int32) (x2 : Int32) (σ : zS) (h : wpO (f_X6_readDenied_40 rc x1 x2 σ) (fun a => Q (some (.int a.1)) a.2)) : PZ alC mX6_readDenied (dd + 1) Q 40 [(0, .ref 600), (1, .int x1), (2, .int x2)] [] σ := by
  unfold f_X6_readDenied_40 at h
  refine PW_aload_n (pc' := 41) (q := 0) (pw_dk dc_X6_readDenied 20 rfl) rfl rfl rfl ?_
  refine PW_iload_n (pc' := 42) (q := 1) (pw_dk dc_X6_readDenied 21 rfl) rfl rfl rfl ?_
  refine PZ_callVi (pc' := 45) (y := yX6_readCompared) (M' := mX6_readCompared) (d' := dd) (As := [.int x1]) (st := []) (b := 600) (ci := 6) (nn := 0) me_600 rfl tw_816 tw_21 (pw_dk dc_X6_readDenied 22 rfl) rfl Y_X6_readCompared tw_814 rfl (Nat.le_refl _) (Nat.le_of_ble_eq_true rfl) (hg.2.2.2.1 x1 σ _ ?_)
  obtain ⟨⟨v_3, σ_2⟩, e_4, h⟩ := wp_bind2 h
  refine ⟨(v_3, σ_2), e_4, _, rfl, fun hn_1 => ?_⟩
  show PZ alC mX6_readDenied (dd + 1) Q 45 [(0, .ref 600), (1, .int x1), (2, .int x2)] [.int v_3] σ_2
  refine PW_if_ne (pc' := 48) (tgt := 50) (pw_dk dc_X6_readDenied 23 rfl) rfl (by decide) (fun c_5 => ?_) (fun c_5 => ?_)
  · rw [if_neg c_5] at h
    refine PW_iconst (pc' := 51) (v := 0) (pw_dk dc_X6_readDenied 26 rfl) rfl (by decide) ?_
    refine PW_istore_n (pc' := 52) (lv' := [(3, .int 0), (0, .ref 600), (1, .int x1), (2, .int x2)]) (pw_dk dc_X6_readDenied 27 rfl) rfl rfl (by decide) rfl ?_
    refine PW_sub (lv' := [(0, .ref 600), (2, .int x2), (3, .int 0)]) [1, 3, 0] rfl ?_
    exact b_X6_readDenied_52 rc dd hdd hg FU x2 0 σ_2 h
  · rw [if_pos c_5] at h
    refine PW_iconst (pc' := 49) (v := 0) (pw_dk dc_X6_readDenied 24 rfl) rfl (by decide) ?_
    have z := wp_some h
    exact PZ_iret (ty := .boolean) (pw_dk dc_X6_readDenied 25 rfl) rfl (by decide) z
def f_X6_readDenied_4 (rc : Nat → Int32 → zS → Option (Int32 × zS)) : Nat → Int32 → Int32 → Int32 → zS → Option (Int32 × zS)
  | 0, _, _, _, _ => none
  | n + 1, x1, x2, x3, σ => 
    if 64 < x3 then
      f_X6_readDenied_40 rc x1 x2 σ
    else
      if (f_X7_isWord 27 σ) = 0 then
        f_X6_readDenied_40 rc x1 x2 σ
      else
        b2 (f_X6_takeKnot σ) fun v_6 σ_5 =>
        if v_6 = 0 then
          some (0, σ_5)
        else
          f_X6_readDenied_4 rc n x1 (x2 + 1) (x3 + 1) σ_5
theorem b_X6_readDenied_4 (rc : Nat → Int32 → zS → Option (Int32 × zS)) (dd : Nat) (hdd : 4 ≤ dd) (hg : gC rc dd) {Q : Option Value → zS → Prop} : ∀ (n : Nat) (x1 : Int32) (x2 : Int32) (x3 : Int32) (σ : zS) (h : wpO (f_X6_readDenied_4 rc n x1 x2 x3 σ) (fun a => Q (some (.int a.1)) a.2)), PZ alC mX6_readDenied (dd + 1) Q 4 [(0, .ref 600), (1, .int x1), (2, .int x2), (3, .int x3)] [] σ := by
  intro n
  induction n with
  | zero => intro x1 x2 x3 σ h; exact wp_none h
  | succ n ih =>
    intro x1 x2 x3 σ h
    rw [f_X6_readDenied_4] at h
    refine PW_iload_n (pc' := 5) (q := 3) (pw_dk dc_X6_readDenied 4 rfl) rfl rfl rfl ?_
    refine PW_bipush (pc' := 7) (v := 64) (pw_dk dc_X6_readDenied 5 rfl) rfl (by decide) ?_
    refine PW_icmp_gt (pc' := 10) (tgt := 40) (pw_dk dc_X6_readDenied 6 rfl) rfl (by decide) (fun c_1 => ?_) (fun c_1 => ?_)
    · rw [if_pos c_1] at h
      refine PW_sub (lv' := [(0, .ref 600), (1, .int x1), (2, .int x2)]) [0, 1, 2] rfl ?_
      exact b_X6_readDenied_40 rc dd hdd hg x1 x2 σ h
    · rw [if_neg c_1] at h
      refine PW_aload_n (pc' := 11) (q := 0) (pw_dk dc_X6_readDenied 7 rfl) rfl rfl rfl ?_
      refine PW_getR (pc' := 14) (id := 600) (ci := 6) (nn := 0) (C0 := RX6) (T := TX6) (N := 2) (j := 0) (r := 500) (pw_dk dc_X6_readDenied 8 rfl) rfl me_600 rfl pi_6 (by decide) fk_6_0 tw_400 (rfl) (by decide) ?_
      refine PW_bipush (pc' := 16) (v := 27) (pw_dk dc_X6_readDenied 9 rfl) rfl (by decide) ?_
      refine PZ_callVi (pc' := 19) (y := yX7_isWord) (M' := mX7_isWord) (d' := 0) (As := [.int 27]) (st := []) (b := 500) (ci := 7) (nn := 0) me_500 rfl tw_805 tw_806 (pw_dk dc_X6_readDenied 10 rfl) rfl Y_X7_isWord tw_804 rfl (by omega) (Nat.le_of_ble_eq_true rfl) (t_X7_isWord 27 σ _ ?_)
      refine ⟨_, rfl, fun hn_2 => ?_⟩
      show PZ alC mX6_readDenied (dd + 1) Q 19 [(0, .ref 600), (1, .int x1), (2, .int x2), (3, .int x3)] [.int (f_X7_isWord 27 σ)] σ
      refine PW_if_eq (pc' := 22) (tgt := 40) (pw_dk dc_X6_readDenied 11 rfl) rfl (by decide) (fun c_3 => ?_) (fun c_3 => ?_)
      · rw [if_pos c_3] at h
        refine PW_sub (lv' := [(0, .ref 600), (1, .int x1), (2, .int x2)]) [0, 1, 2] rfl ?_
        exact b_X6_readDenied_40 rc dd hdd hg x1 x2 σ h
      · rw [if_neg c_3] at h
        refine PW_aload_n (pc' := 23) (q := 0) (pw_dk dc_X6_readDenied 12 rfl) rfl rfl rfl ?_
        refine PZ_callVi (pc' := 26) (y := yX6_takeKnot) (M' := mX6_takeKnot) (d' := 3) (As := []) (st := []) (b := 600) (ci := 6) (nn := 0) me_600 rfl tw_810 tw_20 (pw_dk dc_X6_readDenied 13 rfl) rfl Y_X6_takeKnot tw_808 rfl (by omega) (Nat.le_of_ble_eq_true rfl) (t_X6_takeKnot σ _ ?_)
        obtain ⟨⟨v_6, σ_5⟩, e_7, h⟩ := wp_bind2 h
        refine ⟨(v_6, σ_5), e_7, _, rfl, fun hn_4 => ?_⟩
        show PZ alC mX6_readDenied (dd + 1) Q 26 [(0, .ref 600), (1, .int x1), (2, .int x2), (3, .int x3)] [.int v_6] σ_5
        refine PW_if_ne (pc' := 29) (tgt := 31) (pw_dk dc_X6_readDenied 14 rfl) rfl (by decide) (fun c_8 => ?_) (fun c_8 => ?_)
        · rw [if_neg c_8] at h
          refine PW_iinc (pc' := 34) (q := 2) (v := x2 + 1) (lv' := [(2, .int (x2 + 1)), (0, .ref 600), (1, .int x1), (3, .int x3)]) (pw_dk dc_X6_readDenied 17 rfl) rfl rfl rfl (by decide) rfl ?_
          refine PW_iinc (pc' := 37) (q := 3) (v := x3 + 1) (lv' := [(3, .int (x3 + 1)), (2, .int (x2 + 1)), (0, .ref 600), (1, .int x1)]) (pw_dk dc_X6_readDenied 18 rfl) rfl rfl rfl (by decide) rfl ?_
          refine PW_goto (tgt := 4) (pw_dk dc_X6_readDenied 19 rfl) (by decide) ?_
          refine PW_sub (lv' := [(0, .ref 600), (1, .int x1), (2, .int (x2 + 1)), (3, .int (x3 + 1))]) [2, 3, 1, 0] rfl ?_
          exact ih x1 (x2 + 1) (x3 + 1) σ_5 h
        · rw [if_pos c_8] at h
          refine PW_iconst (pc' := 30) (v := 0) (pw_dk dc_X6_readDenied 15 rfl) rfl (by decide) ?_
          have z := wp_some h
          exact PZ_iret (ty := .boolean) (pw_dk dc_X6_readDenied 16 rfl) rfl (by decide) z
def F_X6_readDenied (rc : Nat → Int32 → zS → Option (Int32 × zS)) (x1 : Int32) (σ : zS) : Option (Int32 × zS) := 
  f_X6_readDenied_4 rc FU x1 0 0 σ
theorem t_X6_readDenied (rc : Nat → Int32 → zS → Option (Int32 × zS)) (dd : Nat) (hdd : 4 ≤ dd) (hg : gC rc dd) (x1 : Int32) (σ : zS) (Q : Option Value → zS → Prop) (h : wpO (F_X6_readDenied rc x1 σ) (fun a => Q (some (.int a.1)) a.2)) : PK alC yX6_readDenied mX6_readDenied (dd + 1) [.ref 600, .int x1] σ Q := by
  refine PC_ofF (by decide +kernel) rfl rfl (Nat.le_of_ble_eq_true rfl) ?_
  show PZ alC mX6_readDenied (dd + 1) Q 0 [(0, .ref 600), (1, .int x1)] [] σ
  unfold F_X6_readDenied at h
  refine PW_iconst (pc' := 1) (v := 0) (pw_dk dc_X6_readDenied 0 rfl) rfl (by decide) ?_
  refine PW_istore_n (pc' := 2) (lv' := [(2, .int 0), (0, .ref 600), (1, .int x1)]) (pw_dk dc_X6_readDenied 1 rfl) rfl rfl (by decide) rfl ?_
  refine PW_iconst (pc' := 3) (v := 0) (pw_dk dc_X6_readDenied 2 rfl) rfl (by decide) ?_
  refine PW_istore_n (pc' := 4) (lv' := [(3, .int 0), (2, .int 0), (0, .ref 600), (1, .int x1)]) (pw_dk dc_X6_readDenied 3 rfl) rfl rfl (by decide) rfl ?_
  refine PW_sub (lv' := [(0, .ref 600), (1, .int x1), (2, .int 0), (3, .int 0)]) [2, 3, 1, 0] rfl ?_
  exact b_X6_readDenied_4 rc dd hdd hg FU x1 0 0 σ h
def f_X6_isComparison (x0 : Int32) (σ : zS) : Int32 := 
  if x0 = 60 then
    1
  else if x0 = 61 then
    1
  else if x0 = 62 then
    1
  else if x0 = 15421 then
    1
  else if x0 = 15422 then
    1
  else if x0 = 15933 then
    1
  else
    0
theorem t_X6_isComparison (x0 : Int32) (σ : zS) (Q : Option Value → zS → Prop) (h : Q (some (.int (f_X6_isComparison x0 σ))) σ) : PK alC yX6_isComparison mX6_isComparison (0) [.int x0] σ Q := by
  refine PC_ofF (by decide +kernel) rfl rfl (Nat.le_of_ble_eq_true rfl) ?_
  show PZ alC mX6_isComparison (0) Q 0 [(0, .int x0)] [] σ
  unfold f_X6_isComparison at h
  refine PW_iload_n (pc' := 1) (q := 0) (pw_dk dc_X6_isComparison 0 rfl) rfl rfl rfl ?_
  by_cases c_1 : x0 = 60
  · rw [if_pos c_1] at h
    refine PW_look (tgt := 60) (off := 59) (pw_dk dc_X6_isComparison 1 rfl) (by decide) (by rw [c_1] <;> rfl) (by decide) ?_
    refine PW_iconst (pc' := 61) (v := 1) (pw_dk dc_X6_isComparison 2 rfl) rfl (by decide) ?_
    exact PZ_iret (ty := .boolean) (pw_dk dc_X6_isComparison 3 rfl) rfl (by decide) h
  · rw [if_neg c_1] at h
    by_cases c_2 : x0 = 61
    · rw [if_pos c_2] at h
      refine PW_look (tgt := 60) (off := 59) (pw_dk dc_X6_isComparison 1 rfl) (by decide) (by rw [c_2] <;> rfl) (by decide) ?_
      refine PW_iconst (pc' := 61) (v := 1) (pw_dk dc_X6_isComparison 2 rfl) rfl (by decide) ?_
      exact PZ_iret (ty := .boolean) (pw_dk dc_X6_isComparison 3 rfl) rfl (by decide) h
    · rw [if_neg c_2] at h
      by_cases c_3 : x0 = 62
      · rw [if_pos c_3] at h
        refine PW_look (tgt := 60) (off := 59) (pw_dk dc_X6_isComparison 1 rfl) (by decide) (by rw [c_3] <;> rfl) (by decide) ?_
        refine PW_iconst (pc' := 61) (v := 1) (pw_dk dc_X6_isComparison 2 rfl) rfl (by decide) ?_
        exact PZ_iret (ty := .boolean) (pw_dk dc_X6_isComparison 3 rfl) rfl (by decide) h
      · rw [if_neg c_3] at h
        by_cases c_4 : x0 = 15421
        · rw [if_pos c_4] at h
          refine PW_look (tgt := 60) (off := 59) (pw_dk dc_X6_isComparison 1 rfl) (by decide) (by rw [c_4] <;> rfl) (by decide) ?_
          refine PW_iconst (pc' := 61) (v := 1) (pw_dk dc_X6_isComparison 2 rfl) rfl (by decide) ?_
          exact PZ_iret (ty := .boolean) (pw_dk dc_X6_isComparison 3 rfl) rfl (by decide) h
        · rw [if_neg c_4] at h
          by_cases c_5 : x0 = 15422
          · rw [if_pos c_5] at h
            refine PW_look (tgt := 60) (off := 59) (pw_dk dc_X6_isComparison 1 rfl) (by decide) (by rw [c_5] <;> rfl) (by decide) ?_
            refine PW_iconst (pc' := 61) (v := 1) (pw_dk dc_X6_isComparison 2 rfl) rfl (by decide) ?_
            exact PZ_iret (ty := .boolean) (pw_dk dc_X6_isComparison 3 rfl) rfl (by decide) h
          · rw [if_neg c_5] at h
            by_cases c_6 : x0 = 15933
            · rw [if_pos c_6] at h
              refine PW_look (tgt := 60) (off := 59) (pw_dk dc_X6_isComparison 1 rfl) (by decide) (by rw [c_6] <;> rfl) (by decide) ?_
              refine PW_iconst (pc' := 61) (v := 1) (pw_dk dc_X6_isComparison 2 rfl) rfl (by decide) ?_
              exact PZ_iret (ty := .boolean) (pw_dk dc_X6_isComparison 3 rfl) rfl (by decide) h
            · rw [if_neg c_6] at h
              have kc_1 := pw_ne c_1 (show (60 : Int32).toInt = 60 by decide)
              have kc_2 := pw_ne c_2 (show (61 : Int32).toInt = 61 by decide)
              have kc_3 := pw_ne c_3 (show (62 : Int32).toInt = 62 by decide)
              have kc_4 := pw_ne c_4 (show (15421 : Int32).toInt = 15421 by decide)
              have kc_5 := pw_ne c_5 (show (15422 : Int32).toInt = 15422 by decide)
              have kc_6 := pw_ne c_6 (show (15933 : Int32).toInt = 15933 by decide)
              refine PW_look (tgt := 62) (off := 61) (pw_dk dc_X6_isComparison 1 rfl) (by decide) (by simp [Op.lookupswitch.offset, kc_1, kc_2, kc_3, kc_4, kc_5, kc_6, Ne.symm kc_1, Ne.symm kc_2, Ne.symm kc_3, Ne.symm kc_4, Ne.symm kc_5, Ne.symm kc_6]) (by decide) ?_
              refine PW_iconst (pc' := 63) (v := 0) (pw_dk dc_X6_isComparison 4 rfl) rfl (by decide) ?_
              exact PZ_iret (ty := .boolean) (pw_dk dc_X6_isComparison 5 rfl) rfl (by decide) h
def F_X6_readCompared (rc : Nat → Int32 → zS → Option (Int32 × zS)) (x1 : Int32) (σ : zS) : Option (Int32 × zS) := 
  b2 (rc 4 x1 σ) fun v_3 σ_2 =>
  if v_3 = 0 then
    some (0, σ_2)
  else
    lt (α := Int32) (σ_2.1 500 6) fun x2_6 =>
    if (σ_2.1 500 4) = 3 then
      if (f_X6_isComparison x2_6 σ_2) = 0 then
        some (1, σ_2)
      else
        b2 (f_X6_takeKnot σ_2) fun v_12 σ_11 =>
        if v_12 = 0 then
          some (0, σ_11)
        else
          b2 (rc 4 x1 σ_11) fun v_17 σ_16 =>
          if v_17 = 0 then
            some (0, σ_16)
          else
            (f_X2_put (σ_16.2.2 3) x2_6 0 σ_16).bind fun σ_21 =>
            some (1, σ_21)
    else
      some (1, σ_2)
theorem t_X6_readCompared (rc : Nat → Int32 → zS → Option (Int32 × zS)) (dd : Nat) (hdd : 4 ≤ dd) (hg : gC rc dd) (x1 : Int32) (σ : zS) (Q : Option Value → zS → Prop) (h : wpO (F_X6_readCompared rc x1 σ) (fun a => Q (some (.int a.1)) a.2)) : PK alC yX6_readCompared mX6_readCompared (dd + 1) [.ref 600, .int x1] σ Q := by
  refine PC_ofF (by decide +kernel) rfl rfl (Nat.le_of_ble_eq_true rfl) ?_
  show PZ alC mX6_readCompared (dd + 1) Q 0 [(0, .ref 600), (1, .int x1)] [] σ
  unfold F_X6_readCompared at h
  refine PW_aload_n (pc' := 1) (q := 0) (pw_dk dc_X6_readCompared 0 rfl) rfl rfl rfl ?_
  refine PW_iload_n (pc' := 2) (q := 1) (pw_dk dc_X6_readCompared 1 rfl) rfl rfl rfl ?_
  refine PZ_callVi (pc' := 5) (y := yX6_readSum) (M' := mX6_readSum) (d' := dd) (As := [.int x1]) (st := []) (b := 600) (ci := 6) (nn := 0) me_600 rfl tw_820 tw_22 (pw_dk dc_X6_readCompared 2 rfl) rfl Y_X6_readSum tw_818 rfl (Nat.le_refl _) (Nat.le_of_ble_eq_true rfl) (hg.2.2.2.2.1 x1 σ _ ?_)
  obtain ⟨⟨v_3, σ_2⟩, e_4, h⟩ := wp_bind2 h
  refine ⟨(v_3, σ_2), e_4, _, rfl, fun hn_1 => ?_⟩
  show PZ alC mX6_readCompared (dd + 1) Q 5 [(0, .ref 600), (1, .int x1)] [.int v_3] σ_2
  refine PW_if_ne (pc' := 8) (tgt := 10) (pw_dk dc_X6_readCompared 3 rfl) rfl (by decide) (fun c_5 => ?_) (fun c_5 => ?_)
  · rw [if_neg c_5] at h
    refine PW_aload_n (pc' := 11) (q := 0) (pw_dk dc_X6_readCompared 6 rfl) rfl rfl rfl ?_
    refine PW_getR (pc' := 14) (id := 600) (ci := 6) (nn := 0) (C0 := RX6) (T := TX6) (N := 2) (j := 0) (r := 500) (pw_dk dc_X6_readCompared 7 rfl) rfl me_600 rfl pi_6 (by decide) fk_6_0 tw_400 (rfl) (by decide) ?_
    refine PZ_getI (pc' := 17) (id := 500) (ci := 7) (nn := 0) (C0 := RX7) (T := TX7) (N := 10) (j := 6) (pw_dk dc_X6_readCompared 8 rfl) rfl me_500 rfl pi_7 (by decide) fk_7_6 tw_365 ?_
    refine PW_topi (fun x2_6 ex2_6 => ?_)
    replace h := lt_w h ex2_6
    refine PW_istore_n (pc' := 18) (lv' := [(2, .int x2_6), (0, .ref 600), (1, .int x1)]) (pw_dk dc_X6_readCompared 9 rfl) rfl rfl (by decide) rfl ?_
    refine PW_aload_n (pc' := 19) (q := 1) (pw_dk dc_X6_readCompared 10 rfl) rfl rfl rfl ?_
    refine PW_getR (pc' := 22) (id := 600) (ci := 6) (nn := 0) (C0 := RX6) (T := TX6) (N := 2) (j := 0) (r := 500) (pw_dk dc_X6_readCompared 11 rfl) rfl me_600 rfl pi_6 (by decide) fk_6_0 tw_400 (rfl) (by decide) ?_
    refine PZ_getI (pc' := 25) (id := 500) (ci := 7) (nn := 0) (C0 := RX7) (T := TX7) (N := 10) (j := 4) (pw_dk dc_X6_readCompared 12 rfl) rfl me_500 rfl pi_7 (by decide) fk_7_4 tw_361 ?_
    refine PW_iconst (pc' := 26) (v := 3) (pw_dk dc_X6_readCompared 13 rfl) rfl (by decide) ?_
    refine PW_icmp_ne (pc' := 29) (tgt := 36) (pw_dk dc_X6_readCompared 14 rfl) rfl (by decide) (fun c_7 => ?_) (fun c_7 => ?_)
    · rw [if_neg c_7] at h
      refine PW_iconst (pc' := 37) (v := 1) (pw_dk dc_X6_readCompared 18 rfl) rfl (by decide) ?_
      have z := wp_some h
      exact PZ_iret (ty := .boolean) (pw_dk dc_X6_readCompared 19 rfl) rfl (by decide) z
    · rw [if_pos c_7] at h
      refine PW_iload_n (pc' := 30) (q := 0) (pw_dk dc_X6_readCompared 15 rfl) rfl rfl rfl ?_
      refine PZ_callSi (pc' := 33) (y := yX6_isComparison) (M' := mX6_isComparison) (d' := 0) (As := [.int x2_6]) (st := []) tw_848 (pw_dk dc_X6_readCompared 16 rfl) rfl Y_X6_isComparison tw_847 rfl (by omega) (Nat.le_of_ble_eq_true rfl) (t_X6_isComparison x2_6 σ_2 _ ?_)
      refine ⟨_, rfl, fun hn_8 => ?_⟩
      show PZ alC mX6_readCompared (dd + 1) Q 33 [(2, .int x2_6), (0, .ref 600), (1, .int x1)] [.int (f_X6_isComparison x2_6 σ_2)] σ_2
      refine PW_if_ne (pc' := 36) (tgt := 38) (pw_dk dc_X6_readCompared 17 rfl) rfl (by decide) (fun c_9 => ?_) (fun c_9 => ?_)
      · rw [if_neg c_9] at h
        refine PW_aload_n (pc' := 39) (q := 1) (pw_dk dc_X6_readCompared 20 rfl) rfl rfl rfl ?_
        refine PZ_callVi (pc' := 42) (y := yX6_takeKnot) (M' := mX6_takeKnot) (d' := 3) (As := []) (st := []) (b := 600) (ci := 6) (nn := 0) me_600 rfl tw_810 tw_20 (pw_dk dc_X6_readCompared 21 rfl) rfl Y_X6_takeKnot tw_808 rfl (by omega) (Nat.le_of_ble_eq_true rfl) (t_X6_takeKnot σ_2 _ ?_)
        obtain ⟨⟨v_12, σ_11⟩, e_13, h⟩ := wp_bind2 h
        refine ⟨(v_12, σ_11), e_13, _, rfl, fun hn_10 => ?_⟩
        show PZ alC mX6_readCompared (dd + 1) Q 42 [(2, .int x2_6), (0, .ref 600), (1, .int x1)] [.int v_12] σ_11
        refine PW_if_eq (pc' := 45) (tgt := 53) (pw_dk dc_X6_readCompared 22 rfl) rfl (by decide) (fun c_14 => ?_) (fun c_14 => ?_)
        · rw [if_pos c_14] at h
          refine PW_iconst (pc' := 54) (v := 0) (pw_dk dc_X6_readCompared 27 rfl) rfl (by decide) ?_
          have z := wp_some h
          exact PZ_iret (ty := .boolean) (pw_dk dc_X6_readCompared 28 rfl) rfl (by decide) z
        · rw [if_neg c_14] at h
          refine PW_aload_n (pc' := 46) (q := 1) (pw_dk dc_X6_readCompared 23 rfl) rfl rfl rfl ?_
          refine PW_iload_n (pc' := 47) (q := 2) (pw_dk dc_X6_readCompared 24 rfl) rfl rfl rfl ?_
          refine PZ_callVi (pc' := 50) (y := yX6_readSum) (M' := mX6_readSum) (d' := dd) (As := [.int x1]) (st := []) (b := 600) (ci := 6) (nn := 0) me_600 rfl tw_820 tw_22 (pw_dk dc_X6_readCompared 25 rfl) rfl Y_X6_readSum tw_818 rfl (Nat.le_refl _) (Nat.le_of_ble_eq_true rfl) (hg.2.2.2.2.1 x1 σ_11 _ ?_)
          obtain ⟨⟨v_17, σ_16⟩, e_18, h⟩ := wp_bind2 h
          refine ⟨(v_17, σ_16), e_18, _, rfl, fun hn_15 => ?_⟩
          show PZ alC mX6_readCompared (dd + 1) Q 50 [(2, .int x2_6), (0, .ref 600), (1, .int x1)] [.int v_17] σ_16
          refine PW_if_ne (pc' := 53) (tgt := 55) (pw_dk dc_X6_readCompared 26 rfl) rfl (by decide) (fun c_19 => ?_) (fun c_19 => ?_)
          · rw [if_neg c_19] at h
            refine PW_aload_n (pc' := 56) (q := 1) (pw_dk dc_X6_readCompared 29 rfl) rfl rfl rfl ?_
            refine PW_getR (pc' := 59) (id := 600) (ci := 6) (nn := 0) (C0 := RX6) (T := TX6) (N := 2) (j := 1) (r := tl (σ_16.2.2 3)) (pw_dk dc_X6_readCompared 30 rfl) rfl me_600 rfl pi_6 (by decide) fk_6_1 tw_401 (rf_M3 _) (tl0 _) ?_
            refine PW_iload_n (pc' := 60) (q := 0) (pw_dk dc_X6_readCompared 31 rfl) rfl rfl rfl ?_
            refine PW_iconst (pc' := 61) (v := 0) (pw_dk dc_X6_readCompared 32 rfl) rfl (by decide) ?_
            refine PZ_callVv (pc' := 64) (y := yX2_put) (M' := mX2_put) (d' := 0) (As := [.int x2_6, .int 0]) (st := []) (b := (tl (σ_16.2.2 3))) (ci := 2) (nn := 0) (me_L _) rfl tw_844 tw_845 (pw_dk dc_X6_readCompared 33 rfl) rfl Y_X2_put tw_843 rfl (by omega) (Nat.le_of_ble_eq_true rfl) (t_X2_put (σ_16.2.2 3) x2_6 0 σ_16 _ ?_)
            obtain ⟨σ_21, e_22, h⟩ := wp_bind h
            refine ⟨σ_21, e_22, rfl, fun hn_20 => ?_⟩
            show PZ alC mX6_readCompared (dd + 1) Q 64 [(2, .int x2_6), (0, .ref 600), (1, .int x1)] [] σ_21
            refine PW_iconst (pc' := 65) (v := 1) (pw_dk dc_X6_readCompared 34 rfl) rfl (by decide) ?_
            have z := wp_some h
            exact PZ_iret (ty := .boolean) (pw_dk dc_X6_readCompared 35 rfl) rfl (by decide) z
          · rw [if_pos c_19] at h
            refine PW_iconst (pc' := 54) (v := 0) (pw_dk dc_X6_readCompared 27 rfl) rfl (by decide) ?_
            have z := wp_some h
            exact PZ_iret (ty := .boolean) (pw_dk dc_X6_readCompared 28 rfl) rfl (by decide) z
      · rw [if_pos c_9] at h
        refine PW_iconst (pc' := 37) (v := 1) (pw_dk dc_X6_readCompared 18 rfl) rfl (by decide) ?_
        have z := wp_some h
        exact PZ_iret (ty := .boolean) (pw_dk dc_X6_readCompared 19 rfl) rfl (by decide) z
  · rw [if_pos c_5] at h
    refine PW_iconst (pc' := 9) (v := 0) (pw_dk dc_X6_readCompared 4 rfl) rfl (by decide) ?_
    have z := wp_some h
    exact PZ_iret (ty := .boolean) (pw_dk dc_X6_readCompared 5 rfl) rfl (by decide) z
def f_X7_isSign (x1 : Int32) (σ : zS) : Int32 := 
  if (σ.1 500 4) = 3 then
    if (σ.1 500 6) = x1 then
      1
    else
      0
  else
    0
theorem t_X7_isSign (x1 : Int32) (σ : zS) (Q : Option Value → zS → Prop) (h : Q (some (.int (f_X7_isSign x1 σ))) σ) : PK alC yX7_isSign mX7_isSign (0) [.ref 500, .int x1] σ Q := by
  refine PC_ofF (by decide +kernel) rfl rfl (Nat.le_of_ble_eq_true rfl) ?_
  show PZ alC mX7_isSign (0) Q 0 [(0, .ref 500), (1, .int x1)] [] σ
  unfold f_X7_isSign at h
  refine PW_aload_n (pc' := 1) (q := 0) (pw_dk dc_X7_isSign 0 rfl) rfl rfl rfl ?_
  refine PZ_getI (pc' := 4) (id := 500) (ci := 7) (nn := 0) (C0 := RX7) (T := TX7) (N := 10) (j := 4) (pw_dk dc_X7_isSign 1 rfl) rfl me_500 rfl pi_7 (by decide) fk_7_4 tw_359 ?_
  refine PW_iconst (pc' := 5) (v := 3) (pw_dk dc_X7_isSign 2 rfl) rfl (by decide) ?_
  refine PW_icmp_ne (pc' := 8) (tgt := 20) (pw_dk dc_X7_isSign 3 rfl) rfl (by decide) (fun c_1 => ?_) (fun c_1 => ?_)
  · rw [if_neg c_1] at h
    refine PW_iconst (pc' := 21) (v := 0) (pw_dk dc_X7_isSign 10 rfl) rfl (by decide) ?_
    exact PZ_iret (ty := .boolean) (pw_dk dc_X7_isSign 11 rfl) rfl (by decide) h
  · rw [if_pos c_1] at h
    refine PW_aload_n (pc' := 9) (q := 0) (pw_dk dc_X7_isSign 4 rfl) rfl rfl rfl ?_
    refine PZ_getI (pc' := 12) (id := 500) (ci := 7) (nn := 0) (C0 := RX7) (T := TX7) (N := 10) (j := 6) (pw_dk dc_X7_isSign 5 rfl) rfl me_500 rfl pi_7 (by decide) fk_7_6 tw_363 ?_
    refine PW_iload_n (pc' := 13) (q := 1) (pw_dk dc_X7_isSign 6 rfl) rfl rfl rfl ?_
    refine PW_icmp_ne (pc' := 16) (tgt := 20) (pw_dk dc_X7_isSign 7 rfl) rfl (by decide) (fun c_2 => ?_) (fun c_2 => ?_)
    · rw [if_neg c_2] at h
      refine PW_iconst (pc' := 21) (v := 0) (pw_dk dc_X7_isSign 10 rfl) rfl (by decide) ?_
      exact PZ_iret (ty := .boolean) (pw_dk dc_X7_isSign 11 rfl) rfl (by decide) h
    · rw [if_pos c_2] at h
      refine PW_iconst (pc' := 17) (v := 1) (pw_dk dc_X7_isSign 8 rfl) rfl (by decide) ?_
      refine PW_goto (tgt := 21) (pw_dk dc_X7_isSign 9 rfl) (by decide) ?_
      exact PZ_iret (ty := .boolean) (pw_dk dc_X7_isSign 11 rfl) rfl (by decide) h
def f_X6_readSum_42 (rc : Nat → Int32 → zS → Option (Int32 × zS)) (r12 : Int32 → Int32 → zS → Option (Int32 × zS)) (x1 : Int32) (x2 : Int32) (σ : zS) : Option (Int32 × zS) := 
  lt (α := Int32) (σ.1 500 6) fun x3_1 =>
  b2 (f_X6_takeKnot σ) fun v_4 σ_3 =>
  if v_4 = 0 then
    some (0, σ_3)
  else
    b2 (rc 5 x1 σ_3) fun v_9 σ_8 =>
    if v_9 = 0 then
      some (0, σ_8)
    else
      (f_X2_put (σ_8.2.2 3) x3_1 0 σ_8).bind fun σ_13 =>
      r12 x1 (x2 + 1) σ_13
theorem b_X6_readSum_42 (rc : Nat → Int32 → zS → Option (Int32 × zS)) (dd : Nat) (hdd : 4 ≤ dd) (hg : gC rc dd) {Q : Option Value → zS → Prop} (r12 : Int32 → Int32 → zS → Option (Int32 × zS)) (hr12 : ∀ (x1 : Int32) (x2 : Int32) (σ : zS), wpO (r12 x1 x2 σ) (fun a => Q (some (.int a.1)) a.2) → PZ alC mX6_readSum (dd + 1) Q 12 [(0, .ref 600), (1, .int x1), (2, .int x2)] [] σ) (x1 : Int32) (x2 : Int32) (σ : zS) (h : wpO (f_X6_readSum_42 rc r12 x1 x2 σ) (fun a => Q (some (.int a.1)) a.2)) : PZ alC mX6_readSum (dd + 1) Q 42 [(0, .ref 600), (1, .int x1), (2, .int x2)] [] σ := by
  unfold f_X6_readSum_42 at h
  refine PW_aload_n (pc' := 43) (q := 0) (pw_dk dc_X6_readSum 21 rfl) rfl rfl rfl ?_
  refine PW_getR (pc' := 46) (id := 600) (ci := 6) (nn := 0) (C0 := RX6) (T := TX6) (N := 2) (j := 0) (r := 500) (pw_dk dc_X6_readSum 22 rfl) rfl me_600 rfl pi_6 (by decide) fk_6_0 tw_400 (rfl) (by decide) ?_
  refine PZ_getI (pc' := 49) (id := 500) (ci := 7) (nn := 0) (C0 := RX7) (T := TX7) (N := 10) (j := 6) (pw_dk dc_X6_readSum 23 rfl) rfl me_500 rfl pi_7 (by decide) fk_7_6 tw_365 ?_
  refine PW_topi (fun x3_1 ex3_1 => ?_)
  replace h := lt_w h ex3_1
  refine PW_istore_n (pc' := 50) (lv' := [(3, .int x3_1), (0, .ref 600), (1, .int x1), (2, .int x2)]) (pw_dk dc_X6_readSum 24 rfl) rfl rfl (by decide) rfl ?_
  refine PW_aload_n (pc' := 51) (q := 1) (pw_dk dc_X6_readSum 25 rfl) rfl rfl rfl ?_
  refine PZ_callVi (pc' := 54) (y := yX6_takeKnot) (M' := mX6_takeKnot) (d' := 3) (As := []) (st := []) (b := 600) (ci := 6) (nn := 0) me_600 rfl tw_810 tw_20 (pw_dk dc_X6_readSum 26 rfl) rfl Y_X6_takeKnot tw_808 rfl (by omega) (Nat.le_of_ble_eq_true rfl) (t_X6_takeKnot σ _ ?_)
  obtain ⟨⟨v_4, σ_3⟩, e_5, h⟩ := wp_bind2 h
  refine ⟨(v_4, σ_3), e_5, _, rfl, fun hn_2 => ?_⟩
  show PZ alC mX6_readSum (dd + 1) Q 54 [(3, .int x3_1), (0, .ref 600), (1, .int x1), (2, .int x2)] [.int v_4] σ_3
  refine PW_if_eq (pc' := 57) (tgt := 65) (pw_dk dc_X6_readSum 27 rfl) rfl (by decide) (fun c_6 => ?_) (fun c_6 => ?_)
  · rw [if_pos c_6] at h
    refine PW_iconst (pc' := 66) (v := 0) (pw_dk dc_X6_readSum 32 rfl) rfl (by decide) ?_
    have z := wp_some h
    exact PZ_iret (ty := .boolean) (pw_dk dc_X6_readSum 33 rfl) rfl (by decide) z
  · rw [if_neg c_6] at h
    refine PW_aload_n (pc' := 58) (q := 1) (pw_dk dc_X6_readSum 28 rfl) rfl rfl rfl ?_
    refine PW_iload_n (pc' := 59) (q := 2) (pw_dk dc_X6_readSum 29 rfl) rfl rfl rfl ?_
    refine PZ_callVi (pc' := 62) (y := yX6_readProduct) (M' := mX6_readProduct) (d' := dd) (As := [.int x1]) (st := []) (b := 600) (ci := 6) (nn := 0) me_600 rfl tw_824 tw_23 (pw_dk dc_X6_readSum 30 rfl) rfl Y_X6_readProduct tw_822 rfl (Nat.le_refl _) (Nat.le_of_ble_eq_true rfl) (hg.2.2.2.2.2.1 x1 σ_3 _ ?_)
    obtain ⟨⟨v_9, σ_8⟩, e_10, h⟩ := wp_bind2 h
    refine ⟨(v_9, σ_8), e_10, _, rfl, fun hn_7 => ?_⟩
    show PZ alC mX6_readSum (dd + 1) Q 62 [(3, .int x3_1), (0, .ref 600), (1, .int x1), (2, .int x2)] [.int v_9] σ_8
    refine PW_if_ne (pc' := 65) (tgt := 67) (pw_dk dc_X6_readSum 31 rfl) rfl (by decide) (fun c_11 => ?_) (fun c_11 => ?_)
    · rw [if_neg c_11] at h
      refine PW_aload_n (pc' := 68) (q := 1) (pw_dk dc_X6_readSum 34 rfl) rfl rfl rfl ?_
      refine PW_getR (pc' := 71) (id := 600) (ci := 6) (nn := 0) (C0 := RX6) (T := TX6) (N := 2) (j := 1) (r := tl (σ_8.2.2 3)) (pw_dk dc_X6_readSum 35 rfl) rfl me_600 rfl pi_6 (by decide) fk_6_1 tw_401 (rf_M3 _) (tl0 _) ?_
      refine PW_iload_n (pc' := 72) (q := 0) (pw_dk dc_X6_readSum 36 rfl) rfl rfl rfl ?_
      refine PW_iconst (pc' := 73) (v := 0) (pw_dk dc_X6_readSum 37 rfl) rfl (by decide) ?_
      refine PZ_callVv (pc' := 76) (y := yX2_put) (M' := mX2_put) (d' := 0) (As := [.int x3_1, .int 0]) (st := []) (b := (tl (σ_8.2.2 3))) (ci := 2) (nn := 0) (me_L _) rfl tw_844 tw_845 (pw_dk dc_X6_readSum 38 rfl) rfl Y_X2_put tw_843 rfl (by omega) (Nat.le_of_ble_eq_true rfl) (t_X2_put (σ_8.2.2 3) x3_1 0 σ_8 _ ?_)
      obtain ⟨σ_13, e_14, h⟩ := wp_bind h
      refine ⟨σ_13, e_14, rfl, fun hn_12 => ?_⟩
      show PZ alC mX6_readSum (dd + 1) Q 76 [(3, .int x3_1), (0, .ref 600), (1, .int x1), (2, .int x2)] [] σ_13
      refine PW_iinc (pc' := 79) (q := 3) (v := x2 + 1) (lv' := [(2, .int (x2 + 1)), (3, .int x3_1), (0, .ref 600), (1, .int x1)]) (pw_dk dc_X6_readSum 39 rfl) rfl rfl rfl (by decide) rfl ?_
      refine PW_goto (tgt := 12) (pw_dk dc_X6_readSum 40 rfl) (by decide) ?_
      refine PW_sub (lv' := [(0, .ref 600), (1, .int x1), (2, .int (x2 + 1))]) [2, 3, 0] rfl ?_
      exact hr12 x1 (x2 + 1) σ_13 h
    · rw [if_pos c_11] at h
      refine PW_iconst (pc' := 66) (v := 0) (pw_dk dc_X6_readSum 32 rfl) rfl (by decide) ?_
      have z := wp_some h
      exact PZ_iret (ty := .boolean) (pw_dk dc_X6_readSum 33 rfl) rfl (by decide) z
def f_X6_readSum_12 (rc : Nat → Int32 → zS → Option (Int32 × zS)) : Nat → Int32 → Int32 → zS → Option (Int32 × zS)
  | 0, _, _, _ => none
  | n + 1, x1, x2, σ => 
    if 64 < x2 then
      some (1, σ)
    else
      if (f_X7_isSign 43 σ) = 0 then
        if (f_X7_isSign 45 σ) = 0 then
          some (1, σ)
        else
          f_X6_readSum_42 rc (f_X6_readSum_12 rc n) x1 x2 σ
      else
        f_X6_readSum_42 rc (f_X6_readSum_12 rc n) x1 x2 σ
theorem b_X6_readSum_12 (rc : Nat → Int32 → zS → Option (Int32 × zS)) (dd : Nat) (hdd : 4 ≤ dd) (hg : gC rc dd) {Q : Option Value → zS → Prop} : ∀ (n : Nat) (x1 : Int32) (x2 : Int32) (σ : zS) (h : wpO (f_X6_readSum_12 rc n x1 x2 σ) (fun a => Q (some (.int a.1)) a.2)), PZ alC mX6_readSum (dd + 1) Q 12 [(0, .ref 600), (1, .int x1), (2, .int x2)] [] σ := by
  intro n
  induction n with
  | zero => intro x1 x2 σ h; exact wp_none h
  | succ n ih =>
    intro x1 x2 σ h
    rw [f_X6_readSum_12] at h
    refine PW_iload_n (pc' := 13) (q := 2) (pw_dk dc_X6_readSum 8 rfl) rfl rfl rfl ?_
    refine PW_bipush (pc' := 15) (v := 64) (pw_dk dc_X6_readSum 9 rfl) rfl (by decide) ?_
    refine PW_icmp_gt (pc' := 18) (tgt := 82) (pw_dk dc_X6_readSum 10 rfl) rfl (by decide) (fun c_1 => ?_) (fun c_1 => ?_)
    · rw [if_pos c_1] at h
      refine PW_iconst (pc' := 83) (v := 1) (pw_dk dc_X6_readSum 41 rfl) rfl (by decide) ?_
      have z := wp_some h
      exact PZ_iret (ty := .boolean) (pw_dk dc_X6_readSum 42 rfl) rfl (by decide) z
    · rw [if_neg c_1] at h
      refine PW_aload_n (pc' := 19) (q := 0) (pw_dk dc_X6_readSum 11 rfl) rfl rfl rfl ?_
      refine PW_getR (pc' := 22) (id := 600) (ci := 6) (nn := 0) (C0 := RX6) (T := TX6) (N := 2) (j := 0) (r := 500) (pw_dk dc_X6_readSum 12 rfl) rfl me_600 rfl pi_6 (by decide) fk_6_0 tw_400 (rfl) (by decide) ?_
      refine PW_bipush (pc' := 24) (v := 43) (pw_dk dc_X6_readSum 13 rfl) rfl (by decide) ?_
      refine PZ_callVi (pc' := 27) (y := yX7_isSign) (M' := mX7_isSign) (d' := 0) (As := [.int 43]) (st := []) (b := 500) (ci := 7) (nn := 0) me_500 rfl tw_831 tw_832 (pw_dk dc_X6_readSum 14 rfl) rfl Y_X7_isSign tw_830 rfl (by omega) (Nat.le_of_ble_eq_true rfl) (t_X7_isSign 43 σ _ ?_)
      refine ⟨_, rfl, fun hn_2 => ?_⟩
      show PZ alC mX6_readSum (dd + 1) Q 27 [(0, .ref 600), (1, .int x1), (2, .int x2)] [.int (f_X7_isSign 43 σ)] σ
      refine PW_if_ne (pc' := 30) (tgt := 42) (pw_dk dc_X6_readSum 15 rfl) rfl (by decide) (fun c_3 => ?_) (fun c_3 => ?_)
      · rw [if_neg c_3] at h
        exact b_X6_readSum_42 rc dd hdd hg (f_X6_readSum_12 rc n) ih x1 x2 σ h
      · rw [if_pos c_3] at h
        refine PW_aload_n (pc' := 31) (q := 0) (pw_dk dc_X6_readSum 16 rfl) rfl rfl rfl ?_
        refine PW_getR (pc' := 34) (id := 600) (ci := 6) (nn := 0) (C0 := RX6) (T := TX6) (N := 2) (j := 0) (r := 500) (pw_dk dc_X6_readSum 17 rfl) rfl me_600 rfl pi_6 (by decide) fk_6_0 tw_400 (rfl) (by decide) ?_
        refine PW_bipush (pc' := 36) (v := 45) (pw_dk dc_X6_readSum 18 rfl) rfl (by decide) ?_
        refine PZ_callVi (pc' := 39) (y := yX7_isSign) (M' := mX7_isSign) (d' := 0) (As := [.int 45]) (st := []) (b := 500) (ci := 7) (nn := 0) me_500 rfl tw_831 tw_832 (pw_dk dc_X6_readSum 19 rfl) rfl Y_X7_isSign tw_830 rfl (by omega) (Nat.le_of_ble_eq_true rfl) (t_X7_isSign 45 σ _ ?_)
        refine ⟨_, rfl, fun hn_4 => ?_⟩
        show PZ alC mX6_readSum (dd + 1) Q 39 [(0, .ref 600), (1, .int x1), (2, .int x2)] [.int (f_X7_isSign 45 σ)] σ
        refine PW_if_eq (pc' := 42) (tgt := 82) (pw_dk dc_X6_readSum 20 rfl) rfl (by decide) (fun c_5 => ?_) (fun c_5 => ?_)
        · rw [if_pos c_5] at h
          refine PW_iconst (pc' := 83) (v := 1) (pw_dk dc_X6_readSum 41 rfl) rfl (by decide) ?_
          have z := wp_some h
          exact PZ_iret (ty := .boolean) (pw_dk dc_X6_readSum 42 rfl) rfl (by decide) z
        · rw [if_neg c_5] at h
          exact b_X6_readSum_42 rc dd hdd hg (f_X6_readSum_12 rc n) ih x1 x2 σ h
def F_X6_readSum (rc : Nat → Int32 → zS → Option (Int32 × zS)) (x1 : Int32) (σ : zS) : Option (Int32 × zS) := 
  b2 (rc 5 x1 σ) fun v_3 σ_2 =>
  if v_3 = 0 then
    some (0, σ_2)
  else
    f_X6_readSum_12 rc FU x1 0 σ_2
theorem t_X6_readSum (rc : Nat → Int32 → zS → Option (Int32 × zS)) (dd : Nat) (hdd : 4 ≤ dd) (hg : gC rc dd) (x1 : Int32) (σ : zS) (Q : Option Value → zS → Prop) (h : wpO (F_X6_readSum rc x1 σ) (fun a => Q (some (.int a.1)) a.2)) : PK alC yX6_readSum mX6_readSum (dd + 1) [.ref 600, .int x1] σ Q := by
  refine PC_ofF (by decide +kernel) rfl rfl (Nat.le_of_ble_eq_true rfl) ?_
  show PZ alC mX6_readSum (dd + 1) Q 0 [(0, .ref 600), (1, .int x1)] [] σ
  unfold F_X6_readSum at h
  refine PW_aload_n (pc' := 1) (q := 0) (pw_dk dc_X6_readSum 0 rfl) rfl rfl rfl ?_
  refine PW_iload_n (pc' := 2) (q := 1) (pw_dk dc_X6_readSum 1 rfl) rfl rfl rfl ?_
  refine PZ_callVi (pc' := 5) (y := yX6_readProduct) (M' := mX6_readProduct) (d' := dd) (As := [.int x1]) (st := []) (b := 600) (ci := 6) (nn := 0) me_600 rfl tw_824 tw_23 (pw_dk dc_X6_readSum 2 rfl) rfl Y_X6_readProduct tw_822 rfl (Nat.le_refl _) (Nat.le_of_ble_eq_true rfl) (hg.2.2.2.2.2.1 x1 σ _ ?_)
  obtain ⟨⟨v_3, σ_2⟩, e_4, h⟩ := wp_bind2 h
  refine ⟨(v_3, σ_2), e_4, _, rfl, fun hn_1 => ?_⟩
  show PZ alC mX6_readSum (dd + 1) Q 5 [(0, .ref 600), (1, .int x1)] [.int v_3] σ_2
  refine PW_if_ne (pc' := 8) (tgt := 10) (pw_dk dc_X6_readSum 3 rfl) rfl (by decide) (fun c_5 => ?_) (fun c_5 => ?_)
  · rw [if_neg c_5] at h
    refine PW_iconst (pc' := 11) (v := 0) (pw_dk dc_X6_readSum 6 rfl) rfl (by decide) ?_
    refine PW_istore_n (pc' := 12) (lv' := [(2, .int 0), (0, .ref 600), (1, .int x1)]) (pw_dk dc_X6_readSum 7 rfl) rfl rfl (by decide) rfl ?_
    refine PW_sub (lv' := [(0, .ref 600), (1, .int x1), (2, .int 0)]) [1, 2, 0] rfl ?_
    exact b_X6_readSum_12 rc dd hdd hg FU x1 0 σ_2 h
  · rw [if_pos c_5] at h
    refine PW_iconst (pc' := 9) (v := 0) (pw_dk dc_X6_readSum 4 rfl) rfl (by decide) ?_
    have z := wp_some h
    exact PZ_iret (ty := .boolean) (pw_dk dc_X6_readSum 5 rfl) rfl (by decide) z
def f_X6_readProduct_42 (rc : Nat → Int32 → zS → Option (Int32 × zS)) (r12 : Int32 → Int32 → zS → Option (Int32 × zS)) (x1 : Int32) (x2 : Int32) (σ : zS) : Option (Int32 × zS) := 
  lt (α := Int32) (σ.1 500 6) fun x3_1 =>
  b2 (f_X6_takeKnot σ) fun v_4 σ_3 =>
  if v_4 = 0 then
    some (0, σ_3)
  else
    b2 (rc 6 x1 σ_3) fun v_9 σ_8 =>
    if v_9 = 0 then
      some (0, σ_8)
    else
      (f_X2_put (σ_8.2.2 3) x3_1 0 σ_8).bind fun σ_13 =>
      r12 x1 (x2 + 1) σ_13
theorem b_X6_readProduct_42 (rc : Nat → Int32 → zS → Option (Int32 × zS)) (dd : Nat) (hdd : 4 ≤ dd) (hg : gC rc dd) {Q : Option Value → zS → Prop} (r12 : Int32 → Int32 → zS → Option (Int32 × zS)) (hr12 : ∀ (x1 : Int32) (x2 : Int32) (σ : zS), wpO (r12 x1 x2 σ) (fun a => Q (some (.int a.1)) a.2) → PZ alC mX6_readProduct (dd + 1) Q 12 [(0, .ref 600), (1, .int x1), (2, .int x2)] [] σ) (x1 : Int32) (x2 : Int32) (σ : zS) (h : wpO (f_X6_readProduct_42 rc r12 x1 x2 σ) (fun a => Q (some (.int a.1)) a.2)) : PZ alC mX6_readProduct (dd + 1) Q 42 [(0, .ref 600), (1, .int x1), (2, .int x2)] [] σ := by
  unfold f_X6_readProduct_42 at h
  refine PW_aload_n (pc' := 43) (q := 0) (pw_dk dc_X6_readProduct 21 rfl) rfl rfl rfl ?_
  refine PW_getR (pc' := 46) (id := 600) (ci := 6) (nn := 0) (C0 := RX6) (T := TX6) (N := 2) (j := 0) (r := 500) (pw_dk dc_X6_readProduct 22 rfl) rfl me_600 rfl pi_6 (by decide) fk_6_0 tw_400 (rfl) (by decide) ?_
  refine PZ_getI (pc' := 49) (id := 500) (ci := 7) (nn := 0) (C0 := RX7) (T := TX7) (N := 10) (j := 6) (pw_dk dc_X6_readProduct 23 rfl) rfl me_500 rfl pi_7 (by decide) fk_7_6 tw_365 ?_
  refine PW_topi (fun x3_1 ex3_1 => ?_)
  replace h := lt_w h ex3_1
  refine PW_istore_n (pc' := 50) (lv' := [(3, .int x3_1), (0, .ref 600), (1, .int x1), (2, .int x2)]) (pw_dk dc_X6_readProduct 24 rfl) rfl rfl (by decide) rfl ?_
  refine PW_aload_n (pc' := 51) (q := 1) (pw_dk dc_X6_readProduct 25 rfl) rfl rfl rfl ?_
  refine PZ_callVi (pc' := 54) (y := yX6_takeKnot) (M' := mX6_takeKnot) (d' := 3) (As := []) (st := []) (b := 600) (ci := 6) (nn := 0) me_600 rfl tw_810 tw_20 (pw_dk dc_X6_readProduct 26 rfl) rfl Y_X6_takeKnot tw_808 rfl (by omega) (Nat.le_of_ble_eq_true rfl) (t_X6_takeKnot σ _ ?_)
  obtain ⟨⟨v_4, σ_3⟩, e_5, h⟩ := wp_bind2 h
  refine ⟨(v_4, σ_3), e_5, _, rfl, fun hn_2 => ?_⟩
  show PZ alC mX6_readProduct (dd + 1) Q 54 [(3, .int x3_1), (0, .ref 600), (1, .int x1), (2, .int x2)] [.int v_4] σ_3
  refine PW_if_eq (pc' := 57) (tgt := 65) (pw_dk dc_X6_readProduct 27 rfl) rfl (by decide) (fun c_6 => ?_) (fun c_6 => ?_)
  · rw [if_pos c_6] at h
    refine PW_iconst (pc' := 66) (v := 0) (pw_dk dc_X6_readProduct 32 rfl) rfl (by decide) ?_
    have z := wp_some h
    exact PZ_iret (ty := .boolean) (pw_dk dc_X6_readProduct 33 rfl) rfl (by decide) z
  · rw [if_neg c_6] at h
    refine PW_aload_n (pc' := 58) (q := 1) (pw_dk dc_X6_readProduct 28 rfl) rfl rfl rfl ?_
    refine PW_iload_n (pc' := 59) (q := 2) (pw_dk dc_X6_readProduct 29 rfl) rfl rfl rfl ?_
    refine PZ_callVi (pc' := 62) (y := yX6_readPlain) (M' := mX6_readPlain) (d' := dd) (As := [.int x1]) (st := []) (b := 600) (ci := 6) (nn := 0) me_600 rfl tw_828 tw_24 (pw_dk dc_X6_readProduct 30 rfl) rfl Y_X6_readPlain tw_826 rfl (Nat.le_refl _) (Nat.le_of_ble_eq_true rfl) (hg.2.2.2.2.2.2.1 x1 σ_3 _ ?_)
    obtain ⟨⟨v_9, σ_8⟩, e_10, h⟩ := wp_bind2 h
    refine ⟨(v_9, σ_8), e_10, _, rfl, fun hn_7 => ?_⟩
    show PZ alC mX6_readProduct (dd + 1) Q 62 [(3, .int x3_1), (0, .ref 600), (1, .int x1), (2, .int x2)] [.int v_9] σ_8
    refine PW_if_ne (pc' := 65) (tgt := 67) (pw_dk dc_X6_readProduct 31 rfl) rfl (by decide) (fun c_11 => ?_) (fun c_11 => ?_)
    · rw [if_neg c_11] at h
      refine PW_aload_n (pc' := 68) (q := 1) (pw_dk dc_X6_readProduct 34 rfl) rfl rfl rfl ?_
      refine PW_getR (pc' := 71) (id := 600) (ci := 6) (nn := 0) (C0 := RX6) (T := TX6) (N := 2) (j := 1) (r := tl (σ_8.2.2 3)) (pw_dk dc_X6_readProduct 35 rfl) rfl me_600 rfl pi_6 (by decide) fk_6_1 tw_401 (rf_M3 _) (tl0 _) ?_
      refine PW_iload_n (pc' := 72) (q := 0) (pw_dk dc_X6_readProduct 36 rfl) rfl rfl rfl ?_
      refine PW_iconst (pc' := 73) (v := 0) (pw_dk dc_X6_readProduct 37 rfl) rfl (by decide) ?_
      refine PZ_callVv (pc' := 76) (y := yX2_put) (M' := mX2_put) (d' := 0) (As := [.int x3_1, .int 0]) (st := []) (b := (tl (σ_8.2.2 3))) (ci := 2) (nn := 0) (me_L _) rfl tw_844 tw_845 (pw_dk dc_X6_readProduct 38 rfl) rfl Y_X2_put tw_843 rfl (by omega) (Nat.le_of_ble_eq_true rfl) (t_X2_put (σ_8.2.2 3) x3_1 0 σ_8 _ ?_)
      obtain ⟨σ_13, e_14, h⟩ := wp_bind h
      refine ⟨σ_13, e_14, rfl, fun hn_12 => ?_⟩
      show PZ alC mX6_readProduct (dd + 1) Q 76 [(3, .int x3_1), (0, .ref 600), (1, .int x1), (2, .int x2)] [] σ_13
      refine PW_iinc (pc' := 79) (q := 3) (v := x2 + 1) (lv' := [(2, .int (x2 + 1)), (3, .int x3_1), (0, .ref 600), (1, .int x1)]) (pw_dk dc_X6_readProduct 39 rfl) rfl rfl rfl (by decide) rfl ?_
      refine PW_goto (tgt := 12) (pw_dk dc_X6_readProduct 40 rfl) (by decide) ?_
      refine PW_sub (lv' := [(0, .ref 600), (1, .int x1), (2, .int (x2 + 1))]) [2, 3, 0] rfl ?_
      exact hr12 x1 (x2 + 1) σ_13 h
    · rw [if_pos c_11] at h
      refine PW_iconst (pc' := 66) (v := 0) (pw_dk dc_X6_readProduct 32 rfl) rfl (by decide) ?_
      have z := wp_some h
      exact PZ_iret (ty := .boolean) (pw_dk dc_X6_readProduct 33 rfl) rfl (by decide) z
def f_X6_readProduct_12 (rc : Nat → Int32 → zS → Option (Int32 × zS)) : Nat → Int32 → Int32 → zS → Option (Int32 × zS)
  | 0, _, _, _ => none
  | n + 1, x1, x2, σ => 
    if 64 < x2 then
      some (1, σ)
    else
      if (f_X7_isSign 42 σ) = 0 then
        if (f_X7_isSign 47 σ) = 0 then
          some (1, σ)
        else
          f_X6_readProduct_42 rc (f_X6_readProduct_12 rc n) x1 x2 σ
      else
        f_X6_readProduct_42 rc (f_X6_readProduct_12 rc n) x1 x2 σ
theorem b_X6_readProduct_12 (rc : Nat → Int32 → zS → Option (Int32 × zS)) (dd : Nat) (hdd : 4 ≤ dd) (hg : gC rc dd) {Q : Option Value → zS → Prop} : ∀ (n : Nat) (x1 : Int32) (x2 : Int32) (σ : zS) (h : wpO (f_X6_readProduct_12 rc n x1 x2 σ) (fun a => Q (some (.int a.1)) a.2)), PZ alC mX6_readProduct (dd + 1) Q 12 [(0, .ref 600), (1, .int x1), (2, .int x2)] [] σ := by
  intro n
  induction n with
  | zero => intro x1 x2 σ h; exact wp_none h
  | succ n ih =>
    intro x1 x2 σ h
    rw [f_X6_readProduct_12] at h
    refine PW_iload_n (pc' := 13) (q := 2) (pw_dk dc_X6_readProduct 8 rfl) rfl rfl rfl ?_
    refine PW_bipush (pc' := 15) (v := 64) (pw_dk dc_X6_readProduct 9 rfl) rfl (by decide) ?_
    refine PW_icmp_gt (pc' := 18) (tgt := 82) (pw_dk dc_X6_readProduct 10 rfl) rfl (by decide) (fun c_1 => ?_) (fun c_1 => ?_)
    · rw [if_pos c_1] at h
      refine PW_iconst (pc' := 83) (v := 1) (pw_dk dc_X6_readProduct 41 rfl) rfl (by decide) ?_
      have z := wp_some h
      exact PZ_iret (ty := .boolean) (pw_dk dc_X6_readProduct 42 rfl) rfl (by decide) z
    · rw [if_neg c_1] at h
      refine PW_aload_n (pc' := 19) (q := 0) (pw_dk dc_X6_readProduct 11 rfl) rfl rfl rfl ?_
      refine PW_getR (pc' := 22) (id := 600) (ci := 6) (nn := 0) (C0 := RX6) (T := TX6) (N := 2) (j := 0) (r := 500) (pw_dk dc_X6_readProduct 12 rfl) rfl me_600 rfl pi_6 (by decide) fk_6_0 tw_400 (rfl) (by decide) ?_
      refine PW_bipush (pc' := 24) (v := 42) (pw_dk dc_X6_readProduct 13 rfl) rfl (by decide) ?_
      refine PZ_callVi (pc' := 27) (y := yX7_isSign) (M' := mX7_isSign) (d' := 0) (As := [.int 42]) (st := []) (b := 500) (ci := 7) (nn := 0) me_500 rfl tw_831 tw_832 (pw_dk dc_X6_readProduct 14 rfl) rfl Y_X7_isSign tw_830 rfl (by omega) (Nat.le_of_ble_eq_true rfl) (t_X7_isSign 42 σ _ ?_)
      refine ⟨_, rfl, fun hn_2 => ?_⟩
      show PZ alC mX6_readProduct (dd + 1) Q 27 [(0, .ref 600), (1, .int x1), (2, .int x2)] [.int (f_X7_isSign 42 σ)] σ
      refine PW_if_ne (pc' := 30) (tgt := 42) (pw_dk dc_X6_readProduct 15 rfl) rfl (by decide) (fun c_3 => ?_) (fun c_3 => ?_)
      · rw [if_neg c_3] at h
        exact b_X6_readProduct_42 rc dd hdd hg (f_X6_readProduct_12 rc n) ih x1 x2 σ h
      · rw [if_pos c_3] at h
        refine PW_aload_n (pc' := 31) (q := 0) (pw_dk dc_X6_readProduct 16 rfl) rfl rfl rfl ?_
        refine PW_getR (pc' := 34) (id := 600) (ci := 6) (nn := 0) (C0 := RX6) (T := TX6) (N := 2) (j := 0) (r := 500) (pw_dk dc_X6_readProduct 17 rfl) rfl me_600 rfl pi_6 (by decide) fk_6_0 tw_400 (rfl) (by decide) ?_
        refine PW_bipush (pc' := 36) (v := 47) (pw_dk dc_X6_readProduct 18 rfl) rfl (by decide) ?_
        refine PZ_callVi (pc' := 39) (y := yX7_isSign) (M' := mX7_isSign) (d' := 0) (As := [.int 47]) (st := []) (b := 500) (ci := 7) (nn := 0) me_500 rfl tw_831 tw_832 (pw_dk dc_X6_readProduct 19 rfl) rfl Y_X7_isSign tw_830 rfl (by omega) (Nat.le_of_ble_eq_true rfl) (t_X7_isSign 47 σ _ ?_)
        refine ⟨_, rfl, fun hn_4 => ?_⟩
        show PZ alC mX6_readProduct (dd + 1) Q 39 [(0, .ref 600), (1, .int x1), (2, .int x2)] [.int (f_X7_isSign 47 σ)] σ
        refine PW_if_eq (pc' := 42) (tgt := 82) (pw_dk dc_X6_readProduct 20 rfl) rfl (by decide) (fun c_5 => ?_) (fun c_5 => ?_)
        · rw [if_pos c_5] at h
          refine PW_iconst (pc' := 83) (v := 1) (pw_dk dc_X6_readProduct 41 rfl) rfl (by decide) ?_
          have z := wp_some h
          exact PZ_iret (ty := .boolean) (pw_dk dc_X6_readProduct 42 rfl) rfl (by decide) z
        · rw [if_neg c_5] at h
          exact b_X6_readProduct_42 rc dd hdd hg (f_X6_readProduct_12 rc n) ih x1 x2 σ h
def F_X6_readProduct (rc : Nat → Int32 → zS → Option (Int32 × zS)) (x1 : Int32) (σ : zS) : Option (Int32 × zS) := 
  b2 (rc 6 x1 σ) fun v_3 σ_2 =>
  if v_3 = 0 then
    some (0, σ_2)
  else
    f_X6_readProduct_12 rc FU x1 0 σ_2
theorem t_X6_readProduct (rc : Nat → Int32 → zS → Option (Int32 × zS)) (dd : Nat) (hdd : 4 ≤ dd) (hg : gC rc dd) (x1 : Int32) (σ : zS) (Q : Option Value → zS → Prop) (h : wpO (F_X6_readProduct rc x1 σ) (fun a => Q (some (.int a.1)) a.2)) : PK alC yX6_readProduct mX6_readProduct (dd + 1) [.ref 600, .int x1] σ Q := by
  refine PC_ofF (by decide +kernel) rfl rfl (Nat.le_of_ble_eq_true rfl) ?_
  show PZ alC mX6_readProduct (dd + 1) Q 0 [(0, .ref 600), (1, .int x1)] [] σ
  unfold F_X6_readProduct at h
  refine PW_aload_n (pc' := 1) (q := 0) (pw_dk dc_X6_readProduct 0 rfl) rfl rfl rfl ?_
  refine PW_iload_n (pc' := 2) (q := 1) (pw_dk dc_X6_readProduct 1 rfl) rfl rfl rfl ?_
  refine PZ_callVi (pc' := 5) (y := yX6_readPlain) (M' := mX6_readPlain) (d' := dd) (As := [.int x1]) (st := []) (b := 600) (ci := 6) (nn := 0) me_600 rfl tw_828 tw_24 (pw_dk dc_X6_readProduct 2 rfl) rfl Y_X6_readPlain tw_826 rfl (Nat.le_refl _) (Nat.le_of_ble_eq_true rfl) (hg.2.2.2.2.2.2.1 x1 σ _ ?_)
  obtain ⟨⟨v_3, σ_2⟩, e_4, h⟩ := wp_bind2 h
  refine ⟨(v_3, σ_2), e_4, _, rfl, fun hn_1 => ?_⟩
  show PZ alC mX6_readProduct (dd + 1) Q 5 [(0, .ref 600), (1, .int x1)] [.int v_3] σ_2
  refine PW_if_ne (pc' := 8) (tgt := 10) (pw_dk dc_X6_readProduct 3 rfl) rfl (by decide) (fun c_5 => ?_) (fun c_5 => ?_)
  · rw [if_neg c_5] at h
    refine PW_iconst (pc' := 11) (v := 0) (pw_dk dc_X6_readProduct 6 rfl) rfl (by decide) ?_
    refine PW_istore_n (pc' := 12) (lv' := [(2, .int 0), (0, .ref 600), (1, .int x1)]) (pw_dk dc_X6_readProduct 7 rfl) rfl rfl (by decide) rfl ?_
    refine PW_sub (lv' := [(0, .ref 600), (1, .int x1), (2, .int 0)]) [1, 2, 0] rfl ?_
    exact b_X6_readProduct_12 rc dd hdd hg FU x1 0 σ_2 h
  · rw [if_pos c_5] at h
    refine PW_iconst (pc' := 9) (v := 0) (pw_dk dc_X6_readProduct 4 rfl) rfl (by decide) ?_
    have z := wp_some h
    exact PZ_iret (ty := .boolean) (pw_dk dc_X6_readProduct 5 rfl) rfl (by decide) z
def f_X6_nameAtHand_25  (x1 : Int32) (σ : zS) : Int32 := 
  if x1 = 3 then
    5
  else
    if x1 = 33 then
      6
    else
      (-1 : Int32)
theorem b_X6_nameAtHand_25 {Q : Option Value → zS → Prop} (x1 : Int32) (σ : zS) (h : Q (some (.int (f_X6_nameAtHand_25 x1 σ))) σ) : PZ alC mX6_nameAtHand (0) Q 25 [(1, .int x1)] [] σ := by
  unfold f_X6_nameAtHand_25 at h
  refine PW_iload_n (pc' := 26) (q := 0) (pw_dk dc_X6_nameAtHand 14 rfl) rfl rfl rfl ?_
  refine PW_iconst (pc' := 27) (v := 3) (pw_dk dc_X6_nameAtHand 15 rfl) rfl (by decide) ?_
  refine PW_icmp_ne (pc' := 30) (tgt := 32) (pw_dk dc_X6_nameAtHand 16 rfl) rfl (by decide) (fun c_1 => ?_) (fun c_1 => ?_)
  · rw [if_neg c_1] at h
    refine PW_iload_n (pc' := 33) (q := 0) (pw_dk dc_X6_nameAtHand 19 rfl) rfl rfl rfl ?_
    refine PW_bipush (pc' := 35) (v := 33) (pw_dk dc_X6_nameAtHand 20 rfl) rfl (by decide) ?_
    refine PW_icmp_ne (pc' := 38) (tgt := 43) (pw_dk dc_X6_nameAtHand 21 rfl) rfl (by decide) (fun c_2 => ?_) (fun c_2 => ?_)
    · rw [if_neg c_2] at h
      refine PW_iconst (pc' := 44) (v := (-1 : Int32)) (pw_dk dc_X6_nameAtHand 24 rfl) rfl (by decide) ?_
      exact PZ_iret (ty := .int) (pw_dk dc_X6_nameAtHand 25 rfl) rfl rfl h
    · rw [if_pos c_2] at h
      refine PW_bipush (pc' := 40) (v := 6) (pw_dk dc_X6_nameAtHand 22 rfl) rfl (by decide) ?_
      refine PW_goto (tgt := 44) (pw_dk dc_X6_nameAtHand 23 rfl) (by decide) ?_
      exact PZ_iret (ty := .int) (pw_dk dc_X6_nameAtHand 25 rfl) rfl rfl h
  · rw [if_pos c_1] at h
    refine PW_iconst (pc' := 31) (v := 5) (pw_dk dc_X6_nameAtHand 17 rfl) rfl (by decide) ?_
    exact PZ_iret (ty := .int) (pw_dk dc_X6_nameAtHand 18 rfl) rfl rfl h
def f_X6_nameAtHand  (σ : zS) : Int32 := 
  lt (α := Int32) (σ.1 500 6) fun x1_1 =>
  if x1_1 < 28 then
    f_X6_nameAtHand_25 x1_1 σ
  else
    if 32 < x1_1 then
      f_X6_nameAtHand_25 x1_1 σ
    else
      x1_1 - (28 : Int32)
theorem t_X6_nameAtHand (σ : zS) (Q : Option Value → zS → Prop) (h : Q (some (.int (f_X6_nameAtHand σ))) σ) : PK alC yX6_nameAtHand mX6_nameAtHand (0) [.ref 600] σ Q := by
  refine PC_ofF (by decide +kernel) rfl rfl (Nat.le_of_ble_eq_true rfl) ?_
  show PZ alC mX6_nameAtHand (0) Q 0 [(0, .ref 600)] [] σ
  unfold f_X6_nameAtHand at h
  refine PW_aload_n (pc' := 1) (q := 0) (pw_dk dc_X6_nameAtHand 0 rfl) rfl rfl rfl ?_
  refine PW_getR (pc' := 4) (id := 600) (ci := 6) (nn := 0) (C0 := RX6) (T := TX6) (N := 2) (j := 0) (r := 500) (pw_dk dc_X6_nameAtHand 1 rfl) rfl me_600 rfl pi_6 (by decide) fk_6_0 tw_400 (rfl) (by decide) ?_
  refine PZ_getI (pc' := 7) (id := 500) (ci := 7) (nn := 0) (C0 := RX7) (T := TX7) (N := 10) (j := 6) (pw_dk dc_X6_nameAtHand 2 rfl) rfl me_500 rfl pi_7 (by decide) fk_7_6 tw_365 ?_
  refine PW_topi (fun x1_1 ex1_1 => ?_)
  replace h := lt_q (ρ := fun z => Q (some (.int z)) σ) h ex1_1
  refine PW_istore_n (pc' := 8) (lv' := [(1, .int x1_1), (0, .ref 600)]) (pw_dk dc_X6_nameAtHand 3 rfl) rfl rfl (by decide) rfl ?_
  refine PW_iload_n (pc' := 9) (q := 0) (pw_dk dc_X6_nameAtHand 4 rfl) rfl rfl rfl ?_
  refine PW_bipush (pc' := 11) (v := 28) (pw_dk dc_X6_nameAtHand 5 rfl) rfl (by decide) ?_
  refine PW_icmp_lt (pc' := 14) (tgt := 25) (pw_dk dc_X6_nameAtHand 6 rfl) rfl (by decide) (fun c_2 => ?_) (fun c_2 => ?_)
  · rw [if_pos c_2] at h
    refine PW_sub (lv' := [(1, .int x1_1)]) [0] rfl ?_
    exact b_X6_nameAtHand_25 x1_1 σ h
  · rw [if_neg c_2] at h
    refine PW_iload_n (pc' := 15) (q := 0) (pw_dk dc_X6_nameAtHand 7 rfl) rfl rfl rfl ?_
    refine PW_bipush (pc' := 17) (v := 32) (pw_dk dc_X6_nameAtHand 8 rfl) rfl (by decide) ?_
    refine PW_icmp_gt (pc' := 20) (tgt := 25) (pw_dk dc_X6_nameAtHand 9 rfl) rfl (by decide) (fun c_3 => ?_) (fun c_3 => ?_)
    · rw [if_pos c_3] at h
      refine PW_sub (lv' := [(1, .int x1_1)]) [0] rfl ?_
      exact b_X6_nameAtHand_25 x1_1 σ h
    · rw [if_neg c_3] at h
      refine PW_iload_n (pc' := 21) (q := 0) (pw_dk dc_X6_nameAtHand 10 rfl) rfl rfl rfl ?_
      refine PW_bipush (pc' := 23) (v := 28) (pw_dk dc_X6_nameAtHand 11 rfl) rfl (by decide) ?_
      refine PW_isub (pc' := 24) (pw_dk dc_X6_nameAtHand 12 rfl) rfl ?_
      exact PZ_iret (ty := .int) (pw_dk dc_X6_nameAtHand 13 rfl) rfl rfl h
def f_X6_readPlain_108 (rc : Nat → Int32 → zS → Option (Int32 × zS)) (x2 : Int32) (x3 : Int32) (σ : zS) : Option (Int32 × zS) := 
  b2 (f_X6_takeKnot σ) fun v_3 σ_2 =>
  if v_3 = 0 then
    some (0, σ_2)
  else
    (f_X2_put (σ_2.2.2 3) x3 x2 σ_2).bind fun σ_7 =>
    some (1, σ_7)
theorem b_X6_readPlain_108 (rc : Nat → Int32 → zS → Option (Int32 × zS)) (dd : Nat) (hdd : 4 ≤ dd) (hg : gC rc dd) {Q : Option Value → zS → Prop} (x2 : Int32) (x3 : Int32) (σ : zS) (h : wpO (f_X6_readPlain_108 rc x2 x3 σ) (fun a => Q (some (.int a.1)) a.2)) : PZ alC mX6_readPlain (dd + 1) Q 108 [(0, .ref 600), (2, .int x2), (3, .int x3)] [] σ := by
  unfold f_X6_readPlain_108 at h
  refine PW_aload_n (pc' := 109) (q := 0) (pw_dk dc_X6_readPlain 57 rfl) rfl rfl rfl ?_
  refine PZ_callVi (pc' := 112) (y := yX6_takeKnot) (M' := mX6_takeKnot) (d' := 3) (As := []) (st := []) (b := 600) (ci := 6) (nn := 0) me_600 rfl tw_810 tw_20 (pw_dk dc_X6_readPlain 58 rfl) rfl Y_X6_takeKnot tw_808 rfl (by omega) (Nat.le_of_ble_eq_true rfl) (t_X6_takeKnot σ _ ?_)
  obtain ⟨⟨v_3, σ_2⟩, e_4, h⟩ := wp_bind2 h
  refine ⟨(v_3, σ_2), e_4, _, rfl, fun hn_1 => ?_⟩
  show PZ alC mX6_readPlain (dd + 1) Q 112 [(0, .ref 600), (2, .int x2), (3, .int x3)] [.int v_3] σ_2
  refine PW_if_ne (pc' := 115) (tgt := 117) (pw_dk dc_X6_readPlain 59 rfl) rfl (by decide) (fun c_5 => ?_) (fun c_5 => ?_)
  · rw [if_neg c_5] at h
    refine PW_aload_n (pc' := 118) (q := 0) (pw_dk dc_X6_readPlain 62 rfl) rfl rfl rfl ?_
    refine PW_getR (pc' := 121) (id := 600) (ci := 6) (nn := 0) (C0 := RX6) (T := TX6) (N := 2) (j := 1) (r := tl (σ_2.2.2 3)) (pw_dk dc_X6_readPlain 63 rfl) rfl me_600 rfl pi_6 (by decide) fk_6_1 tw_401 (rf_M3 _) (tl0 _) ?_
    refine PW_iload_n (pc' := 122) (q := 2) (pw_dk dc_X6_readPlain 64 rfl) rfl rfl rfl ?_
    refine PW_iload_n (pc' := 123) (q := 1) (pw_dk dc_X6_readPlain 65 rfl) rfl rfl rfl ?_
    refine PZ_callVv (pc' := 126) (y := yX2_put) (M' := mX2_put) (d' := 0) (As := [.int x3, .int x2]) (st := []) (b := (tl (σ_2.2.2 3))) (ci := 2) (nn := 0) (me_L _) rfl tw_844 tw_845 (pw_dk dc_X6_readPlain 66 rfl) rfl Y_X2_put tw_843 rfl (by omega) (Nat.le_of_ble_eq_true rfl) (t_X2_put (σ_2.2.2 3) x3 x2 σ_2 _ ?_)
    obtain ⟨σ_7, e_8, h⟩ := wp_bind h
    refine ⟨σ_7, e_8, rfl, fun hn_6 => ?_⟩
    show PZ alC mX6_readPlain (dd + 1) Q 126 [(0, .ref 600), (2, .int x2), (3, .int x3)] [] σ_7
    refine PW_iconst (pc' := 127) (v := 1) (pw_dk dc_X6_readPlain 67 rfl) rfl (by decide) ?_
    have z := wp_some h
    exact PZ_iret (ty := .boolean) (pw_dk dc_X6_readPlain 68 rfl) rfl (by decide) z
  · rw [if_pos c_5] at h
    refine PW_iconst (pc' := 116) (v := 0) (pw_dk dc_X6_readPlain 60 rfl) rfl (by decide) ?_
    have z := wp_some h
    exact PZ_iret (ty := .boolean) (pw_dk dc_X6_readPlain 61 rfl) rfl (by decide) z
def f_X6_readPlain_72 (rc : Nat → Int32 → zS → Option (Int32 × zS)) (x2 : Int32) (x3 : Int32) (s0 : Int32) (σ : zS) : Option (Int32 × zS) := 
  if s0 = 0 then
    b2 (f_X7_refuse 1 σ) fun v_10 σ_9 =>
    some (v_10, σ_9)
  else
    if x3 = 0 then
      if x2 ≤ 9999 then
        f_X6_readPlain_108 rc x2 x3 σ
      else
        b2 (f_X7_refuse 2 σ) fun v_6 σ_5 =>
        some (v_6, σ_5)
    else
      f_X6_readPlain_108 rc x2 x3 σ
theorem b_X6_readPlain_72 (rc : Nat → Int32 → zS → Option (Int32 × zS)) (dd : Nat) (hdd : 4 ≤ dd) (hg : gC rc dd) {Q : Option Value → zS → Prop} (x2 : Int32) (x3 : Int32) (s0 : Int32) (σ : zS) (h : wpO (f_X6_readPlain_72 rc x2 x3 s0 σ) (fun a => Q (some (.int a.1)) a.2)) : PZ alC mX6_readPlain (dd + 1) Q 72 [(0, .ref 600), (2, .int x2), (3, .int x3)] [.int s0] σ := by
  unfold f_X6_readPlain_72 at h
  refine PW_istore (pc' := 74) (lv' := [(4, .int s0), (0, .ref 600), (2, .int x2), (3, .int x3)]) (pw_dk dc_X6_readPlain 39 rfl) rfl (by decide) rfl ?_
  refine PW_iload (pc' := 76) (q := 0) (pw_dk dc_X6_readPlain 40 rfl) rfl rfl ?_
  refine PW_if_ne (pc' := 79) (tgt := 88) (pw_dk dc_X6_readPlain 41 rfl) rfl (by decide) (fun c_1 => ?_) (fun c_1 => ?_)
  · rw [if_neg c_1] at h
    refine PW_iload_n (pc' := 89) (q := 3) (pw_dk dc_X6_readPlain 47 rfl) rfl rfl rfl ?_
    refine PW_if_ne (pc' := 92) (tgt := 108) (pw_dk dc_X6_readPlain 48 rfl) rfl (by decide) (fun c_2 => ?_) (fun c_2 => ?_)
    · rw [if_neg c_2] at h
      refine PW_sub (lv' := [(0, .ref 600), (2, .int x2), (3, .int x3)]) [1, 2, 3] rfl ?_
      exact b_X6_readPlain_108 rc dd hdd hg x2 x3 σ h
    · rw [if_pos c_2] at h
      refine PW_iload_n (pc' := 93) (q := 2) (pw_dk dc_X6_readPlain 49 rfl) rfl rfl rfl ?_
      refine PW_sipush (pc' := 96) (v := 9999) (pw_dk dc_X6_readPlain 50 rfl) rfl (by decide) ?_
      refine PW_icmp_le (pc' := 99) (tgt := 108) (pw_dk dc_X6_readPlain 51 rfl) rfl (by decide) (fun c_3 => ?_) (fun c_3 => ?_)
      · rw [if_pos c_3] at h
        refine PW_sub (lv' := [(0, .ref 600), (2, .int x2), (3, .int x3)]) [1, 2, 3] rfl ?_
        exact b_X6_readPlain_108 rc dd hdd hg x2 x3 σ h
      · rw [if_neg c_3] at h
        refine PW_aload_n (pc' := 100) (q := 1) (pw_dk dc_X6_readPlain 52 rfl) rfl rfl rfl ?_
        refine PW_getR (pc' := 103) (id := 600) (ci := 6) (nn := 0) (C0 := RX6) (T := TX6) (N := 2) (j := 0) (r := 500) (pw_dk dc_X6_readPlain 53 rfl) rfl me_600 rfl pi_6 (by decide) fk_6_0 tw_400 (rfl) (by decide) ?_
        refine PW_iconst (pc' := 104) (v := 2) (pw_dk dc_X6_readPlain 54 rfl) rfl (by decide) ?_
        refine PZ_callVi (pc' := 107) (y := yX7_refuse) (M' := mX7_refuse) (d' := 0) (As := [.int 2]) (st := []) (b := 500) (ci := 7) (nn := 0) me_500 rfl tw_709 tw_710 (pw_dk dc_X6_readPlain 55 rfl) rfl Y_X7_refuse tw_812 rfl (by omega) (Nat.le_of_ble_eq_true rfl) (t_X7_refuse 2 σ _ ?_)
        obtain ⟨⟨v_6, σ_5⟩, e_7, h⟩ := wp_bind2 h
        refine ⟨(v_6, σ_5), e_7, _, rfl, fun hn_4 => ?_⟩
        show PZ alC mX6_readPlain (dd + 1) Q 107 [(4, .int s0), (0, .ref 600), (2, .int x2), (3, .int x3)] [.int v_6] σ_5
        have z := wp_some h
        exact PZ_iret (ty := .boolean) (pw_dk dc_X6_readPlain 56 rfl) rfl (hn_4 _ _ rfl rfl) z
  · rw [if_pos c_1] at h
    refine PW_aload_n (pc' := 80) (q := 1) (pw_dk dc_X6_readPlain 42 rfl) rfl rfl rfl ?_
    refine PW_getR (pc' := 83) (id := 600) (ci := 6) (nn := 0) (C0 := RX6) (T := TX6) (N := 2) (j := 0) (r := 500) (pw_dk dc_X6_readPlain 43 rfl) rfl me_600 rfl pi_6 (by decide) fk_6_0 tw_400 (rfl) (by decide) ?_
    refine PW_iconst (pc' := 84) (v := 1) (pw_dk dc_X6_readPlain 44 rfl) rfl (by decide) ?_
    refine PZ_callVi (pc' := 87) (y := yX7_refuse) (M' := mX7_refuse) (d' := 0) (As := [.int 1]) (st := []) (b := 500) (ci := 7) (nn := 0) me_500 rfl tw_709 tw_710 (pw_dk dc_X6_readPlain 45 rfl) rfl Y_X7_refuse tw_812 rfl (by omega) (Nat.le_of_ble_eq_true rfl) (t_X7_refuse 1 σ _ ?_)
    obtain ⟨⟨v_10, σ_9⟩, e_11, h⟩ := wp_bind2 h
    refine ⟨(v_10, σ_9), e_11, _, rfl, fun hn_8 => ?_⟩
    show PZ alC mX6_readPlain (dd + 1) Q 87 [(4, .int s0), (0, .ref 600), (2, .int x2), (3, .int x3)] [.int v_10] σ_9
    have z := wp_some h
    exact PZ_iret (ty := .boolean) (pw_dk dc_X6_readPlain 46 rfl) rfl (hn_8 _ _ rfl rfl) z
def f_X6_readPlain_67 (rc : Nat → Int32 → zS → Option (Int32 × zS)) (x2 : Int32) (x3 : Int32) (σ : zS) : Option (Int32 × zS) := 
  f_X6_readPlain_72 rc x2 x3 1 σ
theorem b_X6_readPlain_67 (rc : Nat → Int32 → zS → Option (Int32 × zS)) (dd : Nat) (hdd : 4 ≤ dd) (hg : gC rc dd) {Q : Option Value → zS → Prop} (x2 : Int32) (x3 : Int32) (σ : zS) (h : wpO (f_X6_readPlain_67 rc x2 x3 σ) (fun a => Q (some (.int a.1)) a.2)) : PZ alC mX6_readPlain (dd + 1) Q 67 [(0, .ref 600), (2, .int x2), (3, .int x3)] [] σ := by
  unfold f_X6_readPlain_67 at h
  refine PW_iconst (pc' := 68) (v := 1) (pw_dk dc_X6_readPlain 36 rfl) rfl (by decide) ?_
  refine PW_goto (tgt := 72) (pw_dk dc_X6_readPlain 37 rfl) (by decide) ?_
  exact b_X6_readPlain_72 rc dd hdd hg x2 x3 1 σ h
def f_X6_readPlain_71 (rc : Nat → Int32 → zS → Option (Int32 × zS)) (x2 : Int32) (x3 : Int32) (σ : zS) : Option (Int32 × zS) := 
  f_X6_readPlain_72 rc x2 x3 0 σ
theorem b_X6_readPlain_71 (rc : Nat → Int32 → zS → Option (Int32 × zS)) (dd : Nat) (hdd : 4 ≤ dd) (hg : gC rc dd) {Q : Option Value → zS → Prop} (x2 : Int32) (x3 : Int32) (σ : zS) (h : wpO (f_X6_readPlain_71 rc x2 x3 σ) (fun a => Q (some (.int a.1)) a.2)) : PZ alC mX6_readPlain (dd + 1) Q 71 [(0, .ref 600), (2, .int x2), (3, .int x3)] [] σ := by
  unfold f_X6_readPlain_71 at h
  refine PW_iconst (pc' := 72) (v := 0) (pw_dk dc_X6_readPlain 38 rfl) rfl (by decide) ?_
  exact b_X6_readPlain_72 rc dd hdd hg x2 x3 0 σ h
def f_X6_readPlain_46 (rc : Nat → Int32 → zS → Option (Int32 × zS)) (x2 : Int32) (x3 : Int32) (σ : zS) : Option (Int32 × zS) := 
  if (σ.1 500 4) = 2 then
    f_X6_readPlain_67 rc x2 x3 σ
  else
    if x3 = 1 then
      if x2 = (-1 : Int32) then
        f_X6_readPlain_71 rc x2 x3 σ
      else
        f_X6_readPlain_67 rc x2 x3 σ
    else
      f_X6_readPlain_71 rc x2 x3 σ
theorem b_X6_readPlain_46 (rc : Nat → Int32 → zS → Option (Int32 × zS)) (dd : Nat) (hdd : 4 ≤ dd) (hg : gC rc dd) {Q : Option Value → zS → Prop} (x2 : Int32) (x3 : Int32) (σ : zS) (h : wpO (f_X6_readPlain_46 rc x2 x3 σ) (fun a => Q (some (.int a.1)) a.2)) : PZ alC mX6_readPlain (dd + 1) Q 46 [(0, .ref 600), (2, .int x2), (3, .int x3)] [] σ := by
  unfold f_X6_readPlain_46 at h
  refine PW_aload_n (pc' := 47) (q := 0) (pw_dk dc_X6_readPlain 25 rfl) rfl rfl rfl ?_
  refine PW_getR (pc' := 50) (id := 600) (ci := 6) (nn := 0) (C0 := RX6) (T := TX6) (N := 2) (j := 0) (r := 500) (pw_dk dc_X6_readPlain 26 rfl) rfl me_600 rfl pi_6 (by decide) fk_6_0 tw_400 (rfl) (by decide) ?_
  refine PZ_getI (pc' := 53) (id := 500) (ci := 7) (nn := 0) (C0 := RX7) (T := TX7) (N := 10) (j := 4) (pw_dk dc_X6_readPlain 27 rfl) rfl me_500 rfl pi_7 (by decide) fk_7_4 tw_361 ?_
  refine PW_iconst (pc' := 54) (v := 2) (pw_dk dc_X6_readPlain 28 rfl) rfl (by decide) ?_
  refine PW_icmp_eq (pc' := 57) (tgt := 67) (pw_dk dc_X6_readPlain 29 rfl) rfl (by decide) (fun c_1 => ?_) (fun c_1 => ?_)
  · rw [if_pos c_1] at h
    exact b_X6_readPlain_67 rc dd hdd hg x2 x3 σ h
  · rw [if_neg c_1] at h
    refine PW_iload_n (pc' := 58) (q := 2) (pw_dk dc_X6_readPlain 30 rfl) rfl rfl rfl ?_
    refine PW_iconst (pc' := 59) (v := 1) (pw_dk dc_X6_readPlain 31 rfl) rfl (by decide) ?_
    refine PW_icmp_ne (pc' := 62) (tgt := 71) (pw_dk dc_X6_readPlain 32 rfl) rfl (by decide) (fun c_2 => ?_) (fun c_2 => ?_)
    · rw [if_neg c_2] at h
      exact b_X6_readPlain_71 rc dd hdd hg x2 x3 σ h
    · rw [if_pos c_2] at h
      refine PW_iload_n (pc' := 63) (q := 1) (pw_dk dc_X6_readPlain 33 rfl) rfl rfl rfl ?_
      refine PW_iconst (pc' := 64) (v := (-1 : Int32)) (pw_dk dc_X6_readPlain 34 rfl) rfl (by decide) ?_
      refine PW_icmp_eq (pc' := 67) (tgt := 71) (pw_dk dc_X6_readPlain 35 rfl) rfl (by decide) (fun c_3 => ?_) (fun c_3 => ?_)
      · rw [if_pos c_3] at h
        exact b_X6_readPlain_71 rc dd hdd hg x2 x3 σ h
      · rw [if_neg c_3] at h
        exact b_X6_readPlain_67 rc dd hdd hg x2 x3 σ h
def F_X6_readPlain (rc : Nat → Int32 → zS → Option (Int32 × zS)) (x1 : Int32) (σ : zS) : Option (Int32 × zS) := 
  if (f_X7_isSign 40 σ) = 0 then
    lt (α := Int32) (σ.1 500 6) fun x2_3 =>
    if (σ.1 500 4) = 1 then
      lt (α := Int32) (f_X6_nameAtHand σ) fun x2_6 =>
      f_X6_readPlain_46 rc x2_6 1 σ
    else
      f_X6_readPlain_46 rc x2_3 0 σ
  else
    b2 (rc 7 x1 σ) fun v_9 σ_8 =>
    some (v_9, σ_8)
theorem t_X6_readPlain (rc : Nat → Int32 → zS → Option (Int32 × zS)) (dd : Nat) (hdd : 4 ≤ dd) (hg : gC rc dd) (x1 : Int32) (σ : zS) (Q : Option Value → zS → Prop) (h : wpO (F_X6_readPlain rc x1 σ) (fun a => Q (some (.int a.1)) a.2)) : PK alC yX6_readPlain mX6_readPlain (dd + 1) [.ref 600, .int x1] σ Q := by
  refine PC_ofF (by decide +kernel) rfl rfl (Nat.le_of_ble_eq_true rfl) ?_
  show PZ alC mX6_readPlain (dd + 1) Q 0 [(0, .ref 600), (1, .int x1)] [] σ
  unfold F_X6_readPlain at h
  refine PW_aload_n (pc' := 1) (q := 0) (pw_dk dc_X6_readPlain 0 rfl) rfl rfl rfl ?_
  refine PW_getR (pc' := 4) (id := 600) (ci := 6) (nn := 0) (C0 := RX6) (T := TX6) (N := 2) (j := 0) (r := 500) (pw_dk dc_X6_readPlain 1 rfl) rfl me_600 rfl pi_6 (by decide) fk_6_0 tw_400 (rfl) (by decide) ?_
  refine PW_bipush (pc' := 6) (v := 40) (pw_dk dc_X6_readPlain 2 rfl) rfl (by decide) ?_
  refine PZ_callVi (pc' := 9) (y := yX7_isSign) (M' := mX7_isSign) (d' := 0) (As := [.int 40]) (st := []) (b := 500) (ci := 7) (nn := 0) me_500 rfl tw_831 tw_832 (pw_dk dc_X6_readPlain 3 rfl) rfl Y_X7_isSign tw_830 rfl (by omega) (Nat.le_of_ble_eq_true rfl) (t_X7_isSign 40 σ _ ?_)
  refine ⟨_, rfl, fun hn_1 => ?_⟩
  show PZ alC mX6_readPlain (dd + 1) Q 9 [(0, .ref 600), (1, .int x1)] [.int (f_X7_isSign 40 σ)] σ
  refine PW_if_eq (pc' := 12) (tgt := 18) (pw_dk dc_X6_readPlain 4 rfl) rfl (by decide) (fun c_2 => ?_) (fun c_2 => ?_)
  · rw [if_pos c_2] at h
    refine PW_aload_n (pc' := 19) (q := 0) (pw_dk dc_X6_readPlain 9 rfl) rfl rfl rfl ?_
    refine PW_getR (pc' := 22) (id := 600) (ci := 6) (nn := 0) (C0 := RX6) (T := TX6) (N := 2) (j := 0) (r := 500) (pw_dk dc_X6_readPlain 10 rfl) rfl me_600 rfl pi_6 (by decide) fk_6_0 tw_400 (rfl) (by decide) ?_
    refine PZ_getI (pc' := 25) (id := 500) (ci := 7) (nn := 0) (C0 := RX7) (T := TX7) (N := 10) (j := 6) (pw_dk dc_X6_readPlain 11 rfl) rfl me_500 rfl pi_7 (by decide) fk_7_6 tw_365 ?_
    refine PW_topi (fun x2_3 ex2_3 => ?_)
    replace h := lt_w h ex2_3
    refine PW_istore_n (pc' := 26) (lv' := [(2, .int x2_3), (0, .ref 600), (1, .int x1)]) (pw_dk dc_X6_readPlain 12 rfl) rfl rfl (by decide) rfl ?_
    refine PW_iconst (pc' := 27) (v := 0) (pw_dk dc_X6_readPlain 13 rfl) rfl (by decide) ?_
    refine PW_istore_n (pc' := 28) (lv' := [(3, .int 0), (2, .int x2_3), (0, .ref 600), (1, .int x1)]) (pw_dk dc_X6_readPlain 14 rfl) rfl rfl (by decide) rfl ?_
    refine PW_aload_n (pc' := 29) (q := 2) (pw_dk dc_X6_readPlain 15 rfl) rfl rfl rfl ?_
    refine PW_getR (pc' := 32) (id := 600) (ci := 6) (nn := 0) (C0 := RX6) (T := TX6) (N := 2) (j := 0) (r := 500) (pw_dk dc_X6_readPlain 16 rfl) rfl me_600 rfl pi_6 (by decide) fk_6_0 tw_400 (rfl) (by decide) ?_
    refine PZ_getI (pc' := 35) (id := 500) (ci := 7) (nn := 0) (C0 := RX7) (T := TX7) (N := 10) (j := 4) (pw_dk dc_X6_readPlain 17 rfl) rfl me_500 rfl pi_7 (by decide) fk_7_4 tw_361 ?_
    refine PW_iconst (pc' := 36) (v := 1) (pw_dk dc_X6_readPlain 18 rfl) rfl (by decide) ?_
    refine PW_icmp_ne (pc' := 39) (tgt := 46) (pw_dk dc_X6_readPlain 19 rfl) rfl (by decide) (fun c_4 => ?_) (fun c_4 => ?_)
    · rw [if_neg c_4] at h
      refine PW_sub (lv' := [(0, .ref 600), (2, .int x2_3), (3, .int 0)]) [2, 1, 0] rfl ?_
      exact b_X6_readPlain_46 rc dd hdd hg x2_3 0 σ h
    · rw [if_pos c_4] at h
      refine PW_iconst (pc' := 40) (v := 1) (pw_dk dc_X6_readPlain 20 rfl) rfl (by decide) ?_
      refine PW_istore_n (pc' := 41) (lv' := [(3, .int 1), (2, .int x2_3), (0, .ref 600), (1, .int x1)]) (pw_dk dc_X6_readPlain 21 rfl) rfl rfl (by decide) rfl ?_
      refine PW_aload_n (pc' := 42) (q := 2) (pw_dk dc_X6_readPlain 22 rfl) rfl rfl rfl ?_
      refine PZ_callVi (pc' := 45) (y := yX6_nameAtHand) (M' := mX6_nameAtHand) (d' := 0) (As := []) (st := []) (b := 600) (ci := 6) (nn := 0) me_600 rfl tw_841 tw_26 (pw_dk dc_X6_readPlain 23 rfl) rfl Y_X6_nameAtHand tw_839 rfl (by omega) (Nat.le_of_ble_eq_true rfl) (t_X6_nameAtHand σ _ ?_)
      refine ⟨_, rfl, fun hn_5 => ?_⟩
      show PZ alC mX6_readPlain (dd + 1) Q 45 [(3, .int 1), (2, .int x2_3), (0, .ref 600), (1, .int x1)] [.int (f_X6_nameAtHand σ)] σ
      refine PW_topi (fun x2_6 ex2_6 => ?_)
      replace h := lt_w h ex2_6
      refine PW_istore_n (pc' := 46) (lv' := [(2, .int x2_6), (3, .int 1), (0, .ref 600), (1, .int x1)]) (pw_dk dc_X6_readPlain 24 rfl) rfl rfl (by decide) rfl ?_
      refine PW_sub (lv' := [(0, .ref 600), (2, .int x2_6), (3, .int 1)]) [2, 0, 1] rfl ?_
      exact b_X6_readPlain_46 rc dd hdd hg x2_6 1 σ h
  · rw [if_neg c_2] at h
    refine PW_aload_n (pc' := 13) (q := 0) (pw_dk dc_X6_readPlain 5 rfl) rfl rfl rfl ?_
    refine PW_iload_n (pc' := 14) (q := 1) (pw_dk dc_X6_readPlain 6 rfl) rfl rfl rfl ?_
    refine PZ_callVi (pc' := 17) (y := yX6_readInner) (M' := mX6_readInner) (d' := dd) (As := [.int x1]) (st := []) (b := 600) (ci := 6) (nn := 0) me_600 rfl tw_836 tw_25 (pw_dk dc_X6_readPlain 7 rfl) rfl Y_X6_readInner tw_834 rfl (Nat.le_refl _) (Nat.le_of_ble_eq_true rfl) (hg.2.2.2.2.2.2.2 x1 σ _ ?_)
    obtain ⟨⟨v_9, σ_8⟩, e_10, h⟩ := wp_bind2 h
    refine ⟨(v_9, σ_8), e_10, _, rfl, fun hn_7 => ?_⟩
    show PZ alC mX6_readPlain (dd + 1) Q 17 [(0, .ref 600), (1, .int x1)] [.int v_9] σ_8
    have z := wp_some h
    exact PZ_iret (ty := .boolean) (pw_dk dc_X6_readPlain 8 rfl) rfl (hn_7 _ _ rfl rfl) z
