/-! walks (printed by wip/gen) -/
def f_X11_fewest (x1 : Int32) (x2 : Int32) (x3 : Int32) (σ : zS) : Option (Int32 × zS) := 
  if (f_X11_isMan x1 σ) = 0 then
    some ((-1 : Int32), σ)
  else
    if (f_X11_isPart x2 σ) = 0 then
      some ((-1 : Int32), σ)
    else
      if (f_X11_isKind x3 σ) = 0 then
        some ((-1 : Int32), σ)
      else
        b2 (f_X11_nearestLawful x1 x2 x3 σ) fun v_9 σ_8 =>
        if v_9 = (-1 : Int32) then
          some ((-2 : Int32), σ_8)
        else
          (rdI σ_8 1503 192 v_9).bind fun v_12 =>
          some (v_12, σ_8)
theorem t_X11_fewest (x1 : Int32) (x2 : Int32) (x3 : Int32) (σ : zS) (Q : Option Value → zS → Prop) (h : wpO (f_X11_fewest x1 x2 x3 σ) (fun a => Q (some (.int a.1)) a.2)) : PK alC yX11_fewest mX11_fewest (7) [.ref 100, .int x1, .int x2, .int x3] σ Q := by
  refine PC_ofF (by decide +kernel) rfl rfl (Nat.le_of_ble_eq_true rfl) ?_
  show PZ alC mX11_fewest (7) Q 0 [(0, .ref 100), (1, .int x1), (2, .int x2), (3, .int x3)] [] σ
  unfold f_X11_fewest at h
  refine PW_aload_n (pc' := 1) (q := 0) (pw_dk dc_X11_fewest 0 rfl) rfl rfl rfl ?_
  refine PW_iload_n (pc' := 2) (q := 1) (pw_dk dc_X11_fewest 1 rfl) rfl rfl rfl ?_
  refine PZ_callVi (pc' := 5) (y := yX11_isMan) (M' := mX11_isMan) (d' := 0) (As := [.int x1]) (st := []) (b := 100) (ci := 11) (nn := 0) me_100 rfl tw_903 tw_29 (pw_dk dc_X11_fewest 2 rfl) rfl Y_X11_isMan tw_901 rfl (by decide) (Nat.le_of_ble_eq_true rfl) (t_X11_isMan x1 σ _ ?_)
  refine ⟨_, rfl, fun hn_1 => ?_⟩
  show PZ alC mX11_fewest (7) Q 5 [(0, .ref 100), (1, .int x1), (2, .int x2), (3, .int x3)] [.int (f_X11_isMan x1 σ)] σ
  refine PW_if_eq (pc' := 8) (tgt := 22) (pw_dk dc_X11_fewest 3 rfl) rfl (by decide) (fun c_2 => ?_) (fun c_2 => ?_)
  · rw [if_pos c_2] at h
    refine PW_iconst (pc' := 23) (v := (-1 : Int32)) (pw_dk dc_X11_fewest 10 rfl) rfl (by decide) ?_
    have z := wp_some h
    exact PZ_iret (ty := .int) (pw_dk dc_X11_fewest 11 rfl) rfl rfl z
  · rw [if_neg c_2] at h
    refine PW_iload_n (pc' := 9) (q := 2) (pw_dk dc_X11_fewest 4 rfl) rfl rfl rfl ?_
    refine PZ_callSi (pc' := 12) (y := yX11_isPart) (M' := mX11_isPart) (d' := 0) (As := [.int x2]) (st := []) tw_906 (pw_dk dc_X11_fewest 5 rfl) rfl Y_X11_isPart tw_905 rfl (by decide) (Nat.le_of_ble_eq_true rfl) (t_X11_isPart x2 σ _ ?_)
    refine ⟨_, rfl, fun hn_3 => ?_⟩
    show PZ alC mX11_fewest (7) Q 12 [(0, .ref 100), (1, .int x1), (2, .int x2), (3, .int x3)] [.int (f_X11_isPart x2 σ)] σ
    refine PW_if_eq (pc' := 15) (tgt := 22) (pw_dk dc_X11_fewest 6 rfl) rfl (by decide) (fun c_4 => ?_) (fun c_4 => ?_)
    · rw [if_pos c_4] at h
      refine PW_iconst (pc' := 23) (v := (-1 : Int32)) (pw_dk dc_X11_fewest 10 rfl) rfl (by decide) ?_
      have z := wp_some h
      exact PZ_iret (ty := .int) (pw_dk dc_X11_fewest 11 rfl) rfl rfl z
    · rw [if_neg c_4] at h
      refine PW_iload_n (pc' := 16) (q := 3) (pw_dk dc_X11_fewest 7 rfl) rfl rfl rfl ?_
      refine PZ_callSi (pc' := 19) (y := yX11_isKind) (M' := mX11_isKind) (d' := 0) (As := [.int x3]) (st := []) tw_966 (pw_dk dc_X11_fewest 8 rfl) rfl Y_X11_isKind tw_965 rfl (by decide) (Nat.le_of_ble_eq_true rfl) (t_X11_isKind x3 σ _ ?_)
      refine ⟨_, rfl, fun hn_5 => ?_⟩
      show PZ alC mX11_fewest (7) Q 19 [(0, .ref 100), (1, .int x1), (2, .int x2), (3, .int x3)] [.int (f_X11_isKind x3 σ)] σ
      refine PW_if_ne (pc' := 22) (tgt := 24) (pw_dk dc_X11_fewest 9 rfl) rfl (by decide) (fun c_6 => ?_) (fun c_6 => ?_)
      · rw [if_neg c_6] at h
        refine PW_aload_n (pc' := 25) (q := 0) (pw_dk dc_X11_fewest 12 rfl) rfl rfl rfl ?_
        refine PW_iload_n (pc' := 26) (q := 1) (pw_dk dc_X11_fewest 13 rfl) rfl rfl rfl ?_
        refine PW_iload_n (pc' := 27) (q := 2) (pw_dk dc_X11_fewest 14 rfl) rfl rfl rfl ?_
        refine PW_iload_n (pc' := 28) (q := 3) (pw_dk dc_X11_fewest 15 rfl) rfl rfl rfl ?_
        refine PZ_callVi (pc' := 31) (y := yX11_nearestLawful) (M' := mX11_nearestLawful) (d' := 6) (As := [.int x1, .int x2, .int x3]) (st := []) (b := 100) (ci := 11) (nn := 0) me_100 rfl tw_1051 tw_34 (pw_dk dc_X11_fewest 16 rfl) rfl Y_X11_nearestLawful tw_1049 rfl (by decide) (Nat.le_of_ble_eq_true rfl) (t_X11_nearestLawful x1 x2 x3 σ _ ?_)
        obtain ⟨⟨v_9, σ_8⟩, e_10, h⟩ := wp_bind2 h
        refine ⟨(v_9, σ_8), e_10, _, rfl, fun hn_7 => ?_⟩
        show PZ alC mX11_fewest (7) Q 31 [(0, .ref 100), (1, .int x1), (2, .int x2), (3, .int x3)] [.int v_9] σ_8
        refine PW_istore (pc' := 33) (lv' := [(4, .int v_9), (0, .ref 100), (1, .int x1), (2, .int x2), (3, .int x3)]) (pw_dk dc_X11_fewest 17 rfl) rfl (by decide) rfl ?_
        refine PW_iload (pc' := 35) (q := 0) (pw_dk dc_X11_fewest 18 rfl) rfl rfl ?_
        refine PW_iconst (pc' := 36) (v := (-1 : Int32)) (pw_dk dc_X11_fewest 19 rfl) rfl (by decide) ?_
        refine PW_icmp_ne (pc' := 39) (tgt := 44) (pw_dk dc_X11_fewest 20 rfl) rfl (by decide) (fun c_11 => ?_) (fun c_11 => ?_)
        · rw [if_neg c_11] at h
          refine PW_aload_n (pc' := 45) (q := 1) (pw_dk dc_X11_fewest 23 rfl) rfl rfl rfl ?_
          refine PW_getR (pc' := 48) (id := 100) (ci := 11) (nn := 0) (C0 := RX11) (T := TX11) (N := 15) (j := 13) (r := 1500) (pw_dk dc_X11_fewest 24 rfl) rfl me_100 rfl pi_11 (by decide) fk_11_13 tw_608 (rfl) (by decide) ?_
          refine PW_getR (pc' := 51) (id := 1500) (ci := 10) (nn := 0) (C0 := RX10) (T := TX10) (N := 7) (j := 2) (r := 1503) (pw_dk dc_X11_fewest 25 rfl) rfl me_1500 rfl pi_10 (by decide) fk_10_2 tw_563 (rfl) (by decide) ?_
          refine PW_iload (pc' := 53) (q := 0) (pw_dk dc_X11_fewest 26 rfl) rfl rfl ?_
          obtain ⟨v_12, hi_13, e_14, h⟩ := wp_rdIx h
          refine PZ_ialdx (pc' := 54) (v := v_12) (id := 1503) (nn := 192) (pw_dk dc_X11_fewest 27 rfl) rfl me_1503 hi_13 e_14 ?_
          have z := wp_some h
          exact PZ_iret (ty := .int) (pw_dk dc_X11_fewest 28 rfl) rfl rfl z
        · rw [if_pos c_11] at h
          refine PW_bipush (pc' := 41) (v := (-2 : Int32)) (pw_dk dc_X11_fewest 21 rfl) rfl (by decide) ?_
          refine PW_goto (tgt := 54) (pw_dk dc_X11_fewest 22 rfl) (by decide) ?_
          have z := wp_some h
          exact PZ_iret (ty := .int) (pw_dk dc_X11_fewest 28 rfl) rfl rfl z
      · rw [if_pos c_6] at h
        refine PW_iconst (pc' := 23) (v := (-1 : Int32)) (pw_dk dc_X11_fewest 10 rfl) rfl (by decide) ?_
        have z := wp_some h
        exact PZ_iret (ty := .int) (pw_dk dc_X11_fewest 11 rfl) rfl rfl z
def f_X11_way_59   (σ : zS) : Option (Int32 × zS) := 
  some ((-2 : Int32), σ)
theorem b_X11_way_59 {Q : Option Value → zS → Prop}  (σ : zS) (h : wpO (f_X11_way_59 σ) (fun a => Q (some (.int a.1)) a.2)) : PZ alC mX11_way (7) Q 59 [] [] σ := by
  unfold f_X11_way_59 at h
  refine PW_bipush (pc' := 61) (v := (-2 : Int32)) (pw_dk dc_X11_way 30 rfl) rfl (by decide) ?_
  have z := wp_some h
  exact PZ_iret (ty := .int) (pw_dk dc_X11_way 31 rfl) rfl rfl z
def f_X11_way (x1 : Int32) (x2 : Int32) (x3 : Int32) (x4 : Int32) (σ : zS) : Option (Int32 × zS) := 
  if (f_X11_isMan x1 σ) = 0 then
    some ((-1 : Int32), σ)
  else
    if (f_X11_isPart x2 σ) = 0 then
      some ((-1 : Int32), σ)
    else
      if (f_X11_isKind x3 σ) = 0 then
        some ((-1 : Int32), σ)
      else
        if 0 ≤ x4 then
          b2 (f_X11_nearestLawful x1 x2 x3 σ) fun v_10 σ_9 =>
          if v_10 = (-1 : Int32) then
            f_X11_way_59 σ_9
          else
            (rdI σ_9 1503 192 v_10).bind fun v_13 =>
            if x4 < v_13 then
              (f_X10_moveTo v_10 x4 σ_9).bind fun v_18 =>
              some (v_18, σ_9)
            else
              f_X11_way_59 σ_9
        else
          some ((-1 : Int32), σ)
theorem t_X11_way (x1 : Int32) (x2 : Int32) (x3 : Int32) (x4 : Int32) (σ : zS) (Q : Option Value → zS → Prop) (h : wpO (f_X11_way x1 x2 x3 x4 σ) (fun a => Q (some (.int a.1)) a.2)) : PK alC yX11_way mX11_way (7) [.ref 100, .int x1, .int x2, .int x3, .int x4] σ Q := by
  refine PC_ofF (by decide +kernel) rfl rfl (Nat.le_of_ble_eq_true rfl) ?_
  show PZ alC mX11_way (7) Q 0 [(0, .ref 100), (1, .int x1), (2, .int x2), (3, .int x3), (4, .int x4)] [] σ
  unfold f_X11_way at h
  refine PW_aload_n (pc' := 1) (q := 0) (pw_dk dc_X11_way 0 rfl) rfl rfl rfl ?_
  refine PW_iload_n (pc' := 2) (q := 1) (pw_dk dc_X11_way 1 rfl) rfl rfl rfl ?_
  refine PZ_callVi (pc' := 5) (y := yX11_isMan) (M' := mX11_isMan) (d' := 0) (As := [.int x1]) (st := []) (b := 100) (ci := 11) (nn := 0) me_100 rfl tw_903 tw_29 (pw_dk dc_X11_way 2 rfl) rfl Y_X11_isMan tw_901 rfl (by decide) (Nat.le_of_ble_eq_true rfl) (t_X11_isMan x1 σ _ ?_)
  refine ⟨_, rfl, fun hn_1 => ?_⟩
  show PZ alC mX11_way (7) Q 5 [(0, .ref 100), (1, .int x1), (2, .int x2), (3, .int x3), (4, .int x4)] [.int (f_X11_isMan x1 σ)] σ
  refine PW_if_eq (pc' := 8) (tgt := 27) (pw_dk dc_X11_way 3 rfl) rfl (by decide) (fun c_2 => ?_) (fun c_2 => ?_)
  · rw [if_pos c_2] at h
    refine PW_iconst (pc' := 28) (v := (-1 : Int32)) (pw_dk dc_X11_way 12 rfl) rfl (by decide) ?_
    have z := wp_some h
    exact PZ_iret (ty := .int) (pw_dk dc_X11_way 13 rfl) rfl rfl z
  · rw [if_neg c_2] at h
    refine PW_iload_n (pc' := 9) (q := 2) (pw_dk dc_X11_way 4 rfl) rfl rfl rfl ?_
    refine PZ_callSi (pc' := 12) (y := yX11_isPart) (M' := mX11_isPart) (d' := 0) (As := [.int x2]) (st := []) tw_906 (pw_dk dc_X11_way 5 rfl) rfl Y_X11_isPart tw_905 rfl (by decide) (Nat.le_of_ble_eq_true rfl) (t_X11_isPart x2 σ _ ?_)
    refine ⟨_, rfl, fun hn_3 => ?_⟩
    show PZ alC mX11_way (7) Q 12 [(0, .ref 100), (1, .int x1), (2, .int x2), (3, .int x3), (4, .int x4)] [.int (f_X11_isPart x2 σ)] σ
    refine PW_if_eq (pc' := 15) (tgt := 27) (pw_dk dc_X11_way 6 rfl) rfl (by decide) (fun c_4 => ?_) (fun c_4 => ?_)
    · rw [if_pos c_4] at h
      refine PW_iconst (pc' := 28) (v := (-1 : Int32)) (pw_dk dc_X11_way 12 rfl) rfl (by decide) ?_
      have z := wp_some h
      exact PZ_iret (ty := .int) (pw_dk dc_X11_way 13 rfl) rfl rfl z
    · rw [if_neg c_4] at h
      refine PW_iload_n (pc' := 16) (q := 3) (pw_dk dc_X11_way 7 rfl) rfl rfl rfl ?_
      refine PZ_callSi (pc' := 19) (y := yX11_isKind) (M' := mX11_isKind) (d' := 0) (As := [.int x3]) (st := []) tw_966 (pw_dk dc_X11_way 8 rfl) rfl Y_X11_isKind tw_965 rfl (by decide) (Nat.le_of_ble_eq_true rfl) (t_X11_isKind x3 σ _ ?_)
      refine ⟨_, rfl, fun hn_5 => ?_⟩
      show PZ alC mX11_way (7) Q 19 [(0, .ref 100), (1, .int x1), (2, .int x2), (3, .int x3), (4, .int x4)] [.int (f_X11_isKind x3 σ)] σ
      refine PW_if_eq (pc' := 22) (tgt := 27) (pw_dk dc_X11_way 9 rfl) rfl (by decide) (fun c_6 => ?_) (fun c_6 => ?_)
      · rw [if_pos c_6] at h
        refine PW_iconst (pc' := 28) (v := (-1 : Int32)) (pw_dk dc_X11_way 12 rfl) rfl (by decide) ?_
        have z := wp_some h
        exact PZ_iret (ty := .int) (pw_dk dc_X11_way 13 rfl) rfl rfl z
      · rw [if_neg c_6] at h
        refine PW_iload (pc' := 24) (q := 4) (pw_dk dc_X11_way 10 rfl) rfl rfl ?_
        refine PW_if_ge (pc' := 27) (tgt := 29) (pw_dk dc_X11_way 11 rfl) rfl (by decide) (fun c_7 => ?_) (fun c_7 => ?_)
        · rw [if_pos c_7] at h
          refine PW_aload_n (pc' := 30) (q := 0) (pw_dk dc_X11_way 14 rfl) rfl rfl rfl ?_
          refine PW_iload_n (pc' := 31) (q := 1) (pw_dk dc_X11_way 15 rfl) rfl rfl rfl ?_
          refine PW_iload_n (pc' := 32) (q := 2) (pw_dk dc_X11_way 16 rfl) rfl rfl rfl ?_
          refine PW_iload_n (pc' := 33) (q := 3) (pw_dk dc_X11_way 17 rfl) rfl rfl rfl ?_
          refine PZ_callVi (pc' := 36) (y := yX11_nearestLawful) (M' := mX11_nearestLawful) (d' := 6) (As := [.int x1, .int x2, .int x3]) (st := []) (b := 100) (ci := 11) (nn := 0) me_100 rfl tw_1051 tw_34 (pw_dk dc_X11_way 18 rfl) rfl Y_X11_nearestLawful tw_1049 rfl (by decide) (Nat.le_of_ble_eq_true rfl) (t_X11_nearestLawful x1 x2 x3 σ _ ?_)
          obtain ⟨⟨v_10, σ_9⟩, e_11, h⟩ := wp_bind2 h
          refine ⟨(v_10, σ_9), e_11, _, rfl, fun hn_8 => ?_⟩
          show PZ alC mX11_way (7) Q 36 [(0, .ref 100), (1, .int x1), (2, .int x2), (3, .int x3), (4, .int x4)] [.int v_10] σ_9
          refine PW_istore (pc' := 38) (lv' := [(5, .int v_10), (0, .ref 100), (1, .int x1), (2, .int x2), (3, .int x3), (4, .int x4)]) (pw_dk dc_X11_way 19 rfl) rfl (by decide) rfl ?_
          refine PW_iload (pc' := 40) (q := 0) (pw_dk dc_X11_way 20 rfl) rfl rfl ?_
          refine PW_iconst (pc' := 41) (v := (-1 : Int32)) (pw_dk dc_X11_way 21 rfl) rfl (by decide) ?_
          refine PW_icmp_eq (pc' := 44) (tgt := 59) (pw_dk dc_X11_way 22 rfl) rfl (by decide) (fun c_12 => ?_) (fun c_12 => ?_)
          · rw [if_pos c_12] at h
            refine PW_sub (lv' := []) [] rfl ?_
            exact b_X11_way_59 σ_9 h
          · rw [if_neg c_12] at h
            refine PW_iload (pc' := 46) (q := 5) (pw_dk dc_X11_way 23 rfl) rfl rfl ?_
            refine PW_aload_n (pc' := 47) (q := 1) (pw_dk dc_X11_way 24 rfl) rfl rfl rfl ?_
            refine PW_getR (pc' := 50) (id := 100) (ci := 11) (nn := 0) (C0 := RX11) (T := TX11) (N := 15) (j := 13) (r := 1500) (pw_dk dc_X11_way 25 rfl) rfl me_100 rfl pi_11 (by decide) fk_11_13 tw_608 (rfl) (by decide) ?_
            refine PW_getR (pc' := 53) (id := 1500) (ci := 10) (nn := 0) (C0 := RX10) (T := TX10) (N := 7) (j := 2) (r := 1503) (pw_dk dc_X11_way 26 rfl) rfl me_1500 rfl pi_10 (by decide) fk_10_2 tw_563 (rfl) (by decide) ?_
            refine PW_iload (pc' := 55) (q := 0) (pw_dk dc_X11_way 27 rfl) rfl rfl ?_
            obtain ⟨v_13, hi_14, e_15, h⟩ := wp_rdIx h
            refine PZ_ialdx (pc' := 56) (v := v_13) (id := 1503) (nn := 192) (pw_dk dc_X11_way 28 rfl) rfl me_1503 hi_14 e_15 ?_
            refine PW_icmp_lt (pc' := 59) (tgt := 62) (pw_dk dc_X11_way 29 rfl) rfl (by decide) (fun c_16 => ?_) (fun c_16 => ?_)
            · rw [if_pos c_16] at h
              refine PW_aload_n (pc' := 63) (q := 1) (pw_dk dc_X11_way 32 rfl) rfl rfl rfl ?_
              refine PW_getR (pc' := 66) (id := 100) (ci := 11) (nn := 0) (C0 := RX11) (T := TX11) (N := 15) (j := 13) (r := 1500) (pw_dk dc_X11_way 33 rfl) rfl me_100 rfl pi_11 (by decide) fk_11_13 tw_608 (rfl) (by decide) ?_
              refine PW_iload (pc' := 68) (q := 0) (pw_dk dc_X11_way 34 rfl) rfl rfl ?_
              refine PW_iload (pc' := 70) (q := 5) (pw_dk dc_X11_way 35 rfl) rfl rfl ?_
              refine PZ_callVi (pc' := 73) (y := yX10_moveTo) (M' := mX10_moveTo) (d' := 0) (As := [.int v_10, .int x4]) (st := []) (b := 1500) (ci := 10) (nn := 0) me_1500 rfl tw_1068 tw_1069 (pw_dk dc_X11_way 36 rfl) rfl Y_X10_moveTo tw_1067 rfl (by decide) (Nat.le_of_ble_eq_true rfl) (t_X10_moveTo v_10 x4 σ_9 _ ?_)
              obtain ⟨v_18, e_19, h⟩ := wp_bind h
              refine ⟨v_18, e_19, _, rfl, fun hn_17 => ?_⟩
              show PZ alC mX11_way (7) Q 73 [(5, .int v_10), (0, .ref 100), (1, .int x1), (2, .int x2), (3, .int x3), (4, .int x4)] [.int v_18] σ_9
              have z := wp_some h
              exact PZ_iret (ty := .int) (pw_dk dc_X11_way 37 rfl) rfl rfl z
            · rw [if_neg c_16] at h
              refine PW_sub (lv' := []) [] rfl ?_
              exact b_X11_way_59 σ_9 h
        · rw [if_neg c_7] at h
          refine PW_iconst (pc' := 28) (v := (-1 : Int32)) (pw_dk dc_X11_way 12 rfl) rfl (by decide) ?_
          have z := wp_some h
          exact PZ_iret (ty := .int) (pw_dk dc_X11_way 13 rfl) rfl rfl z
def f_X11_measurePlaces_137 (a4 n4 : Nat) (r32 : Int32 → Int32 → Int32 → Int32 → zS → Option zS) (x1 : Int32) (x2 : Int32) (x3 : Int32) (x5 : Int32) (σ : zS) : Option zS := 
  r32 x1 x2 x3 (x5 + 1) σ
theorem b_X11_measurePlaces_137 {Q : Option Value → zS → Prop} (a4 n4 : Nat) (ha4 : (a4, 13, n4) ∈ alC) (r32 : Int32 → Int32 → Int32 → Int32 → zS → Option zS) (hr32 : ∀ (x1 : Int32) (x2 : Int32) (x3 : Int32) (x5 : Int32) (σ : zS), wpO (r32 x1 x2 x3 x5 σ) (fun s => Q none s) → PZ alC mX11_measurePlaces (6) Q 32 [(0, .ref 100), (1, .int x1), (2, .int x2), (3, .int x3), (4, .ref a4), (5, .int x5)] [] σ) (x1 : Int32) (x2 : Int32) (x3 : Int32) (x5 : Int32) (σ : zS) (h : wpO (f_X11_measurePlaces_137 a4 n4 r32 x1 x2 x3 x5 σ) (fun s => Q none s)) : PZ alC mX11_measurePlaces (6) Q 137 [(0, .ref 100), (1, .int x1), (2, .int x2), (3, .int x3), (4, .ref a4), (5, .int x5)] [] σ := by
  unfold f_X11_measurePlaces_137 at h
  refine PW_iinc (pc' := 140) (q := 5) (v := x5 + 1) (lv' := [(5, .int (x5 + 1)), (0, .ref 100), (1, .int x1), (2, .int x2), (3, .int x3), (4, .ref a4)]) (pw_dk dc_X11_measurePlaces 69 rfl) rfl rfl rfl (by decide) rfl ?_
  refine PW_goto (tgt := 32) (pw_dk dc_X11_measurePlaces 70 rfl) (by decide) ?_
  refine PW_sub (lv' := [(0, .ref 100), (1, .int x1), (2, .int x2), (3, .int x3), (4, .ref a4), (5, .int (x5 + 1))]) [1, 2, 3, 4, 5, 0] rfl ?_
  exact hr32 x1 x2 x3 (x5 + 1) σ h
def f_X11_measurePlaces_84 (a4 n4 : Nat) (r32 : Int32 → Int32 → Int32 → Int32 → zS → Option zS) (x1 : Int32) (x2 : Int32) (x3 : Int32) (x5 : Int32) (x6 : Int32) (x7 : Int32) (s0 : Int32) (σ : zS) : Option zS := 
  if s0 = 0 then
    f_X11_measurePlaces_137 a4 n4 r32 x1 x2 x3 x5 σ
  else
    (rdI σ a4 n4 x7).bind fun v_2 =>
    if v_2 = (-1 : Int32) then
      b2 (f_X5_allows x1 x6 x2 x3 (σ.1 700 0) σ) fun v_8 σ_7 =>
      if v_8 = 0 then
        f_X11_measurePlaces_137 a4 n4 r32 x1 x2 x3 x5 σ_7
      else
        (rdI σ_7 1503 192 x6).bind fun v_11 =>
        (wrI σ_7 a4 n4 x7 v_11).bind fun σ_14 =>
        f_X11_measurePlaces_137 a4 n4 r32 x1 x2 x3 x5 σ_14
    else
      f_X11_measurePlaces_137 a4 n4 r32 x1 x2 x3 x5 σ
theorem b_X11_measurePlaces_84 {Q : Option Value → zS → Prop} (a4 n4 : Nat) (ha4 : (a4, 13, n4) ∈ alC) (r32 : Int32 → Int32 → Int32 → Int32 → zS → Option zS) (hr32 : ∀ (x1 : Int32) (x2 : Int32) (x3 : Int32) (x5 : Int32) (σ : zS), wpO (r32 x1 x2 x3 x5 σ) (fun s => Q none s) → PZ alC mX11_measurePlaces (6) Q 32 [(0, .ref 100), (1, .int x1), (2, .int x2), (3, .int x3), (4, .ref a4), (5, .int x5)] [] σ) (x1 : Int32) (x2 : Int32) (x3 : Int32) (x5 : Int32) (x6 : Int32) (x7 : Int32) (s0 : Int32) (σ : zS) (h : wpO (f_X11_measurePlaces_84 a4 n4 r32 x1 x2 x3 x5 x6 x7 s0 σ) (fun s => Q none s)) : PZ alC mX11_measurePlaces (6) Q 84 [(0, .ref 100), (1, .int x1), (2, .int x2), (3, .int x3), (4, .ref a4), (5, .int x5), (6, .int x6), (7, .int x7)] [.int s0] σ := by
  unfold f_X11_measurePlaces_84 at h
  refine PW_istore (pc' := 86) (lv' := [(8, .int s0), (0, .ref 100), (1, .int x1), (2, .int x2), (3, .int x3), (4, .ref a4), (5, .int x5), (6, .int x6), (7, .int x7)]) (pw_dk dc_X11_measurePlaces 42 rfl) rfl (by decide) rfl ?_
  refine PW_iload (pc' := 88) (q := 0) (pw_dk dc_X11_measurePlaces 43 rfl) rfl rfl ?_
  refine PW_if_eq (pc' := 91) (tgt := 137) (pw_dk dc_X11_measurePlaces 44 rfl) rfl (by decide) (fun c_1 => ?_) (fun c_1 => ?_)
  · rw [if_pos c_1] at h
    refine PW_sub (lv' := [(0, .ref 100), (1, .int x1), (2, .int x2), (3, .int x3), (4, .ref a4), (5, .int x5)]) [1, 2, 3, 4, 5, 6] rfl ?_
    exact b_X11_measurePlaces_137 a4 n4 ha4 r32 hr32 x1 x2 x3 x5 σ h
  · rw [if_neg c_1] at h
    refine PW_aload (pc' := 93) (q := 5) (pw_dk dc_X11_measurePlaces 45 rfl) rfl rfl ?_
    refine PW_iload (pc' := 95) (q := 8) (pw_dk dc_X11_measurePlaces 46 rfl) rfl rfl ?_
    obtain ⟨v_2, hi_3, e_4, h⟩ := wp_rdIx h
    refine PZ_ialdx (pc' := 96) (v := v_2) (id := a4) (nn := n4) (pw_dk dc_X11_measurePlaces 47 rfl) rfl ha4 hi_3 e_4 ?_
    refine PW_iconst (pc' := 97) (v := (-1 : Int32)) (pw_dk dc_X11_measurePlaces 48 rfl) rfl (by decide) ?_
    refine PW_icmp_ne (pc' := 100) (tgt := 137) (pw_dk dc_X11_measurePlaces 49 rfl) rfl (by decide) (fun c_5 => ?_) (fun c_5 => ?_)
    · rw [if_neg c_5] at h
      refine PW_sub (lv' := [(0, .ref 100), (1, .int x1), (2, .int x2), (3, .int x3), (4, .ref a4), (5, .int x5)]) [1, 2, 3, 4, 5, 6] rfl ?_
      exact b_X11_measurePlaces_137 a4 n4 ha4 r32 hr32 x1 x2 x3 x5 σ h
    · rw [if_pos c_5] at h
      refine PW_aload_n (pc' := 101) (q := 1) (pw_dk dc_X11_measurePlaces 50 rfl) rfl rfl rfl ?_
      refine PW_getR (pc' := 104) (id := 100) (ci := 11) (nn := 0) (C0 := RX11) (T := TX11) (N := 15) (j := 6) (r := 1000) (pw_dk dc_X11_measurePlaces 51 rfl) rfl me_100 rfl pi_11 (by decide) fk_11_6 tw_601 (rfl) (by decide) ?_
      refine PW_iload_n (pc' := 105) (q := 2) (pw_dk dc_X11_measurePlaces 52 rfl) rfl rfl rfl ?_
      refine PW_iload (pc' := 107) (q := 7) (pw_dk dc_X11_measurePlaces 53 rfl) rfl rfl ?_
      refine PW_iload_n (pc' := 108) (q := 3) (pw_dk dc_X11_measurePlaces 54 rfl) rfl rfl rfl ?_
      refine PW_iload_n (pc' := 109) (q := 4) (pw_dk dc_X11_measurePlaces 55 rfl) rfl rfl rfl ?_
      refine PW_aload_n (pc' := 110) (q := 1) (pw_dk dc_X11_measurePlaces 56 rfl) rfl rfl rfl ?_
      refine PW_getR (pc' := 113) (id := 100) (ci := 11) (nn := 0) (C0 := RX11) (T := TX11) (N := 15) (j := 7) (r := 700) (pw_dk dc_X11_measurePlaces 57 rfl) rfl me_100 rfl pi_11 (by decide) fk_11_7 tw_602 (rfl) (by decide) ?_
      refine PZ_getI (pc' := 116) (id := 700) (ci := 0) (nn := 0) (C0 := RX0) (T := TX0) (N := 6) (j := 0) (pw_dk dc_X11_measurePlaces 58 rfl) rfl me_700 rfl pi_0 (by decide) fk_0_0 tw_456 ?_
      refine PZ_callVi (pc' := 119) (y := yX5_allows) (M' := mX5_allows) (d' := 5) (As := [.int x1, .int x6, .int x2, .int x3, .int (σ.1 700 0)]) (st := []) (b := 1000) (ci := 5) (nn := 0) me_1000 rfl tw_969 tw_970 (pw_dk dc_X11_measurePlaces 59 rfl) rfl Y_X5_allows tw_968 rfl (by decide) (Nat.le_of_ble_eq_true rfl) (t_X5_allows x1 x6 x2 x3 (σ.1 700 0) σ _ ?_)
      obtain ⟨⟨v_8, σ_7⟩, e_9, h⟩ := wp_bind2 h
      refine ⟨(v_8, σ_7), e_9, _, rfl, fun hn_6 => ?_⟩
      show PZ alC mX11_measurePlaces (6) Q 119 [(8, .int s0), (0, .ref 100), (1, .int x1), (2, .int x2), (3, .int x3), (4, .ref a4), (5, .int x5), (6, .int x6), (7, .int x7)] [.int v_8] σ_7
      refine PW_if_eq (pc' := 122) (tgt := 137) (pw_dk dc_X11_measurePlaces 60 rfl) rfl (by decide) (fun c_10 => ?_) (fun c_10 => ?_)
      · rw [if_pos c_10] at h
        refine PW_sub (lv' := [(0, .ref 100), (1, .int x1), (2, .int x2), (3, .int x3), (4, .ref a4), (5, .int x5)]) [1, 2, 3, 4, 5, 6] rfl ?_
        exact b_X11_measurePlaces_137 a4 n4 ha4 r32 hr32 x1 x2 x3 x5 σ_7 h
      · rw [if_neg c_10] at h
        refine PW_aload (pc' := 124) (q := 5) (pw_dk dc_X11_measurePlaces 61 rfl) rfl rfl ?_
        refine PW_iload (pc' := 126) (q := 8) (pw_dk dc_X11_measurePlaces 62 rfl) rfl rfl ?_
        refine PW_aload_n (pc' := 127) (q := 1) (pw_dk dc_X11_measurePlaces 63 rfl) rfl rfl rfl ?_
        refine PW_getR (pc' := 130) (id := 100) (ci := 11) (nn := 0) (C0 := RX11) (T := TX11) (N := 15) (j := 13) (r := 1500) (pw_dk dc_X11_measurePlaces 64 rfl) rfl me_100 rfl pi_11 (by decide) fk_11_13 tw_608 (rfl) (by decide) ?_
        refine PW_getR (pc' := 133) (id := 1500) (ci := 10) (nn := 0) (C0 := RX10) (T := TX10) (N := 7) (j := 2) (r := 1503) (pw_dk dc_X11_measurePlaces 65 rfl) rfl me_1500 rfl pi_10 (by decide) fk_10_2 tw_563 (rfl) (by decide) ?_
        refine PW_iload (pc' := 135) (q := 7) (pw_dk dc_X11_measurePlaces 66 rfl) rfl rfl ?_
        obtain ⟨v_11, hi_12, e_13, h⟩ := wp_rdIx h
        refine PZ_ialdx (pc' := 136) (v := v_11) (id := 1503) (nn := 192) (pw_dk dc_X11_measurePlaces 67 rfl) rfl me_1503 hi_12 e_13 ?_
        obtain ⟨σ_14, hi_15, e_16, h⟩ := wp_wrIx h
        refine PZ_iastx (pc' := 137) (σ' := σ_14) (id := a4) (nn := n4) (pw_dk dc_X11_measurePlaces 68 rfl) rfl ha4 hi_15 e_16 ?_
        refine PW_sub (lv' := [(0, .ref 100), (1, .int x1), (2, .int x2), (3, .int x3), (4, .ref a4), (5, .int x5)]) [1, 2, 3, 4, 5, 6] rfl ?_
        exact b_X11_measurePlaces_137 a4 n4 ha4 r32 hr32 x1 x2 x3 x5 σ_14 h
def f_X11_measurePlaces_83 (a4 n4 : Nat) (r32 : Int32 → Int32 → Int32 → Int32 → zS → Option zS) (x1 : Int32) (x2 : Int32) (x3 : Int32) (x5 : Int32) (x6 : Int32) (x7 : Int32) (σ : zS) : Option zS := 
  f_X11_measurePlaces_84 a4 n4 r32 x1 x2 x3 x5 x6 x7 0 σ
theorem b_X11_measurePlaces_83 {Q : Option Value → zS → Prop} (a4 n4 : Nat) (ha4 : (a4, 13, n4) ∈ alC) (r32 : Int32 → Int32 → Int32 → Int32 → zS → Option zS) (hr32 : ∀ (x1 : Int32) (x2 : Int32) (x3 : Int32) (x5 : Int32) (σ : zS), wpO (r32 x1 x2 x3 x5 σ) (fun s => Q none s) → PZ alC mX11_measurePlaces (6) Q 32 [(0, .ref 100), (1, .int x1), (2, .int x2), (3, .int x3), (4, .ref a4), (5, .int x5)] [] σ) (x1 : Int32) (x2 : Int32) (x3 : Int32) (x5 : Int32) (x6 : Int32) (x7 : Int32) (σ : zS) (h : wpO (f_X11_measurePlaces_83 a4 n4 r32 x1 x2 x3 x5 x6 x7 σ) (fun s => Q none s)) : PZ alC mX11_measurePlaces (6) Q 83 [(0, .ref 100), (1, .int x1), (2, .int x2), (3, .int x3), (4, .ref a4), (5, .int x5), (6, .int x6), (7, .int x7)] [] σ := by
  unfold f_X11_measurePlaces_83 at h
  refine PW_iconst (pc' := 84) (v := 0) (pw_dk dc_X11_measurePlaces 41 rfl) rfl (by decide) ?_
  exact b_X11_measurePlaces_84 a4 n4 ha4 r32 hr32 x1 x2 x3 x5 x6 x7 0 σ h
def f_X11_measurePlaces_32 (a4 n4 : Nat) : Nat → Int32 → Int32 → Int32 → Int32 → zS → Option zS
  | 0, _, _, _, _, _ => none
  | n + 1, x1, x2, x3, x5, σ => 
    if (σ.1 1500 0) ≤ x5 then
      some σ
    else
      (rdI σ 1502 192 x5).bind fun v_2 =>
      lt (α := Int32) ((f_X5_placeOf v_2 x2 σ) + (1 : Int32)) fun x7_6 =>
      if x7_6 < 0 then
        f_X11_measurePlaces_83 a4 n4 (f_X11_measurePlaces_32 a4 n4 n) x1 x2 x3 x5 v_2 x7_6 σ
      else
        if (nI n4) ≤ x7_6 then
          f_X11_measurePlaces_83 a4 n4 (f_X11_measurePlaces_32 a4 n4 n) x1 x2 x3 x5 v_2 x7_6 σ
        else
          f_X11_measurePlaces_84 a4 n4 (f_X11_measurePlaces_32 a4 n4 n) x1 x2 x3 x5 v_2 x7_6 1 σ
theorem b_X11_measurePlaces_32 {Q : Option Value → zS → Prop} (a4 n4 : Nat) (ha4 : (a4, 13, n4) ∈ alC) : ∀ (n : Nat) (x1 : Int32) (x2 : Int32) (x3 : Int32) (x5 : Int32) (σ : zS) (h : wpO (f_X11_measurePlaces_32 a4 n4 n x1 x2 x3 x5 σ) (fun s => Q none s)), PZ alC mX11_measurePlaces (6) Q 32 [(0, .ref 100), (1, .int x1), (2, .int x2), (3, .int x3), (4, .ref a4), (5, .int x5)] [] σ := by
  intro n
  induction n with
  | zero => intro x1 x2 x3 x5 σ h; exact wp_none h
  | succ n ih =>
    intro x1 x2 x3 x5 σ h
    rw [f_X11_measurePlaces_32] at h
    refine PW_iload (pc' := 34) (q := 5) (pw_dk dc_X11_measurePlaces 16 rfl) rfl rfl ?_
    refine PW_aload_n (pc' := 35) (q := 0) (pw_dk dc_X11_measurePlaces 17 rfl) rfl rfl rfl ?_
    refine PW_getR (pc' := 38) (id := 100) (ci := 11) (nn := 0) (C0 := RX11) (T := TX11) (N := 15) (j := 13) (r := 1500) (pw_dk dc_X11_measurePlaces 18 rfl) rfl me_100 rfl pi_11 (by decide) fk_11_13 tw_608 (rfl) (by decide) ?_
    refine PZ_getI (pc' := 41) (id := 1500) (ci := 10) (nn := 0) (C0 := RX10) (T := TX10) (N := 7) (j := 0) (pw_dk dc_X11_measurePlaces 19 rfl) rfl me_1500 rfl pi_10 (by decide) fk_10_0 tw_559 ?_
    refine PW_icmp_ge (pc' := 44) (tgt := 143) (pw_dk dc_X11_measurePlaces 20 rfl) rfl (by decide) (fun c_1 => ?_) (fun c_1 => ?_)
    · rw [if_pos c_1] at h
      have z := wp_some h
      exact PZ_vret (pw_dk dc_X11_measurePlaces 71 rfl) rfl z
    · rw [if_neg c_1] at h
      refine PW_aload_n (pc' := 45) (q := 0) (pw_dk dc_X11_measurePlaces 21 rfl) rfl rfl rfl ?_
      refine PW_getR (pc' := 48) (id := 100) (ci := 11) (nn := 0) (C0 := RX11) (T := TX11) (N := 15) (j := 13) (r := 1500) (pw_dk dc_X11_measurePlaces 22 rfl) rfl me_100 rfl pi_11 (by decide) fk_11_13 tw_608 (rfl) (by decide) ?_
      refine PW_getR (pc' := 51) (id := 1500) (ci := 10) (nn := 0) (C0 := RX10) (T := TX10) (N := 7) (j := 1) (r := 1502) (pw_dk dc_X11_measurePlaces 23 rfl) rfl me_1500 rfl pi_10 (by decide) fk_10_1 tw_561 (rfl) (by decide) ?_
      refine PW_iload (pc' := 53) (q := 5) (pw_dk dc_X11_measurePlaces 24 rfl) rfl rfl ?_
      obtain ⟨v_2, hi_3, e_4, h⟩ := wp_rdIx h
      refine PZ_ialdx (pc' := 54) (v := v_2) (id := 1502) (nn := 192) (pw_dk dc_X11_measurePlaces 25 rfl) rfl me_1502 hi_3 e_4 ?_
      refine PW_istore (pc' := 56) (lv' := [(6, .int v_2), (0, .ref 100), (1, .int x1), (2, .int x2), (3, .int x3), (4, .ref a4), (5, .int x5)]) (pw_dk dc_X11_measurePlaces 26 rfl) rfl (by decide) rfl ?_
      refine PW_iload (pc' := 58) (q := 0) (pw_dk dc_X11_measurePlaces 27 rfl) rfl rfl ?_
      refine PW_iload_n (pc' := 59) (q := 3) (pw_dk dc_X11_measurePlaces 28 rfl) rfl rfl rfl ?_
      refine PZ_callSi (pc' := 62) (y := yX5_placeOf) (M' := mX5_placeOf) (d' := 2) (As := [.int v_2, .int x2]) (st := []) tw_909 (pw_dk dc_X11_measurePlaces 29 rfl) rfl Y_X5_placeOf tw_908 rfl (by decide) (Nat.le_of_ble_eq_true rfl) (t_X5_placeOf v_2 x2 σ _ ?_)
      refine ⟨_, rfl, fun hn_5 => ?_⟩
      show PZ alC mX11_measurePlaces (6) Q 62 [(6, .int v_2), (0, .ref 100), (1, .int x1), (2, .int x2), (3, .int x3), (4, .ref a4), (5, .int x5)] [.int (f_X5_placeOf v_2 x2 σ)] σ
      refine PW_iconst (pc' := 63) (v := 1) (pw_dk dc_X11_measurePlaces 30 rfl) rfl (by decide) ?_
      refine PW_iadd (pc' := 64) (pw_dk dc_X11_measurePlaces 31 rfl) rfl ?_
      refine PW_topi (fun x7_6 ex7_6 => ?_)
      replace h := lt_w h ex7_6
      refine PW_istore (pc' := 66) (lv' := [(7, .int x7_6), (6, .int v_2), (0, .ref 100), (1, .int x1), (2, .int x2), (3, .int x3), (4, .ref a4), (5, .int x5)]) (pw_dk dc_X11_measurePlaces 32 rfl) rfl (by decide) rfl ?_
      refine PW_iload (pc' := 68) (q := 0) (pw_dk dc_X11_measurePlaces 33 rfl) rfl rfl ?_
      refine PW_if_lt (pc' := 71) (tgt := 83) (pw_dk dc_X11_measurePlaces 34 rfl) rfl (by decide) (fun c_7 => ?_) (fun c_7 => ?_)
      · rw [if_pos c_7] at h
        refine PW_sub (lv' := [(0, .ref 100), (1, .int x1), (2, .int x2), (3, .int x3), (4, .ref a4), (5, .int x5), (6, .int v_2), (7, .int x7_6)]) [2, 3, 4, 5, 6, 7, 1, 0] rfl ?_
        exact b_X11_measurePlaces_83 a4 n4 ha4 (f_X11_measurePlaces_32 a4 n4 n) ih x1 x2 x3 x5 v_2 x7_6 σ h
      · rw [if_neg c_7] at h
        refine PW_iload (pc' := 73) (q := 0) (pw_dk dc_X11_measurePlaces 35 rfl) rfl rfl ?_
        refine PW_aload (pc' := 75) (q := 6) (pw_dk dc_X11_measurePlaces 36 rfl) rfl rfl ?_
        refine PW_alen13 (pc' := 76) (nn := n4) (pw_dk dc_X11_measurePlaces 37 rfl) rfl ha4 ?_
        refine PW_icmp_ge (pc' := 79) (tgt := 83) (pw_dk dc_X11_measurePlaces 38 rfl) rfl (by decide) (fun c_8 => ?_) (fun c_8 => ?_)
        · rw [if_pos c_8] at h
          refine PW_sub (lv' := [(0, .ref 100), (1, .int x1), (2, .int x2), (3, .int x3), (4, .ref a4), (5, .int x5), (6, .int v_2), (7, .int x7_6)]) [2, 3, 4, 5, 6, 7, 1, 0] rfl ?_
          exact b_X11_measurePlaces_83 a4 n4 ha4 (f_X11_measurePlaces_32 a4 n4 n) ih x1 x2 x3 x5 v_2 x7_6 σ h
        · rw [if_neg c_8] at h
          refine PW_iconst (pc' := 80) (v := 1) (pw_dk dc_X11_measurePlaces 39 rfl) rfl (by decide) ?_
          refine PW_goto (tgt := 84) (pw_dk dc_X11_measurePlaces 40 rfl) (by decide) ?_
          refine PW_sub (lv' := [(0, .ref 100), (1, .int x1), (2, .int x2), (3, .int x3), (4, .ref a4), (5, .int x5), (6, .int v_2), (7, .int x7_6)]) [2, 3, 4, 5, 6, 7, 1, 0] rfl ?_
          exact b_X11_measurePlaces_84 a4 n4 ha4 (f_X11_measurePlaces_32 a4 n4 n) ih x1 x2 x3 x5 v_2 x7_6 1 σ h
def f_X11_measurePlaces (x1 : Int32) (x2 : Int32) (x3 : Int32) (a4 n4 : Nat) (σ : zS) : Option zS := 
  (f_J7_fill_53178 a4 n4 (-1 : Int32) σ).bind fun σ_2 =>
  (rdI σ_2 703 5 x1).bind fun v_4 =>
  (f_X10_explore v_4 (σ_2.1 (tv (σ_2.2.2 0)) 0) σ_2).bind fun σ_8 =>
  f_X11_measurePlaces_32 a4 n4 FU x1 x2 x3 0 σ_8
theorem t_X11_measurePlaces (x1 : Int32) (x2 : Int32) (x3 : Int32) (a4 n4 : Nat) (ha4 : (a4, 13, n4) ∈ alC) (σ : zS) (Q : Option Value → zS → Prop) (h : wpO (f_X11_measurePlaces x1 x2 x3 a4 n4 σ) (fun s => Q none s)) : PK alC yX11_measurePlaces mX11_measurePlaces (6) [.ref 100, .int x1, .int x2, .int x3, .ref a4] σ Q := by
  refine PC_ofF (by decide +kernel) rfl rfl (Nat.le_of_ble_eq_true rfl) ?_
  show PZ alC mX11_measurePlaces (6) Q 0 [(0, .ref 100), (1, .int x1), (2, .int x2), (3, .int x3), (4, .ref a4)] [] σ
  unfold f_X11_measurePlaces at h
  refine PW_aload (pc' := 2) (q := 4) (pw_dk dc_X11_measurePlaces 0 rfl) rfl rfl ?_
  refine PW_iconst (pc' := 3) (v := (-1 : Int32)) (pw_dk dc_X11_measurePlaces 1 rfl) rfl (by decide) ?_
  refine PZ_callSv (pc' := 6) (y := yJ7_fill_53178) (M' := mJ7_fill_53178) (d' := 0) (As := [.ref a4, .int (-1 : Int32)]) (st := []) tw_197 (pw_dk dc_X11_measurePlaces 2 rfl) rfl Y_J7_fill_53178 tw_1079 rfl (by decide) (Nat.le_of_ble_eq_true rfl) (t_J7_fill_53178 alC a4 n4 (-1 : Int32) ha4 σ _ ?_)
  obtain ⟨σ_2, e_3, h⟩ := wp_bind h
  refine ⟨σ_2, e_3, rfl, fun hn_1 => ?_⟩
  show PZ alC mX11_measurePlaces (6) Q 6 [(0, .ref 100), (1, .int x1), (2, .int x2), (3, .int x3), (4, .ref a4)] [] σ_2
  refine PW_aload_n (pc' := 7) (q := 0) (pw_dk dc_X11_measurePlaces 3 rfl) rfl rfl rfl ?_
  refine PW_getR (pc' := 10) (id := 100) (ci := 11) (nn := 0) (C0 := RX11) (T := TX11) (N := 15) (j := 13) (r := 1500) (pw_dk dc_X11_measurePlaces 4 rfl) rfl me_100 rfl pi_11 (by decide) fk_11_13 tw_608 (rfl) (by decide) ?_
  refine PW_aload_n (pc' := 11) (q := 0) (pw_dk dc_X11_measurePlaces 5 rfl) rfl rfl rfl ?_
  refine PW_getR (pc' := 14) (id := 100) (ci := 11) (nn := 0) (C0 := RX11) (T := TX11) (N := 15) (j := 7) (r := 700) (pw_dk dc_X11_measurePlaces 6 rfl) rfl me_100 rfl pi_11 (by decide) fk_11_7 tw_602 (rfl) (by decide) ?_
  refine PW_getR (pc' := 17) (id := 700) (ci := 0) (nn := 0) (C0 := RX0) (T := TX0) (N := 6) (j := 2) (r := 703) (pw_dk dc_X11_measurePlaces 7 rfl) rfl me_700 rfl pi_0 (by decide) fk_0_2 tw_464 (rfl) (by decide) ?_
  refine PW_iload_n (pc' := 18) (q := 1) (pw_dk dc_X11_measurePlaces 8 rfl) rfl rfl rfl ?_
  obtain ⟨v_4, hi_5, e_6, h⟩ := wp_rdIx h
  refine PZ_ialdx (pc' := 19) (v := v_4) (id := 703) (nn := 5) (pw_dk dc_X11_measurePlaces 9 rfl) rfl me_703 hi_5 e_6 ?_
  refine PW_aload_n (pc' := 20) (q := 0) (pw_dk dc_X11_measurePlaces 10 rfl) rfl rfl rfl ?_
  refine PW_getR (pc' := 23) (id := 100) (ci := 11) (nn := 0) (C0 := RX11) (T := TX11) (N := 15) (j := 4) (r := tv (σ_2.2.2 0)) (pw_dk dc_X11_measurePlaces 11 rfl) rfl me_100 rfl pi_11 (by decide) fk_11_4 tw_599 (rf_M0 _) (tv0 _) ?_
  refine PZ_getI (pc' := 26) (id := (tv (σ_2.2.2 0))) (ci := 8) (nn := 0) (C0 := RX8) (T := TX8) (N := 18) (j := 0) (pw_dk dc_X11_measurePlaces 12 rfl) rfl (me_T _) rfl pi_8 (by decide) fk_8_0 tw_202 ?_
  refine PZ_callVv (pc' := 29) (y := yX10_explore) (M' := mX10_explore) (d' := 2) (As := [.int v_4, .int (σ_2.1 (tv (σ_2.2.2 0)) 0)]) (st := []) (b := 1500) (ci := 10) (nn := 0) me_1500 rfl tw_1054 tw_1055 (pw_dk dc_X11_measurePlaces 13 rfl) rfl Y_X10_explore tw_1053 rfl (by decide) (Nat.le_of_ble_eq_true rfl) (t_X10_explore v_4 (σ_2.1 (tv (σ_2.2.2 0)) 0) σ_2 _ ?_)
  obtain ⟨σ_8, e_9, h⟩ := wp_bind h
  refine ⟨σ_8, e_9, rfl, fun hn_7 => ?_⟩
  show PZ alC mX11_measurePlaces (6) Q 29 [(0, .ref 100), (1, .int x1), (2, .int x2), (3, .int x3), (4, .ref a4)] [] σ_8
  refine PW_iconst (pc' := 30) (v := 0) (pw_dk dc_X11_measurePlaces 14 rfl) rfl (by decide) ?_
  refine PW_istore (pc' := 32) (lv' := [(5, .int 0), (0, .ref 100), (1, .int x1), (2, .int x2), (3, .int x3), (4, .ref a4)]) (pw_dk dc_X11_measurePlaces 15 rfl) rfl (by decide) rfl ?_
  refine PW_sub (lv' := [(0, .ref 100), (1, .int x1), (2, .int x2), (3, .int x3), (4, .ref a4), (5, .int 0)]) [1, 2, 3, 4, 5, 0] rfl ?_
  exact b_X11_measurePlaces_32 a4 n4 ha4 FU x1 x2 x3 0 σ_8 h
def f_X11_joint (x1 : Int32) (x2 : Int32) (x3 : Int32) (x4 : Int32) (x5 : Int32) (σ : zS) : Option (Int32 × zS) := 
  if (f_X11_isMan x1 σ) = 0 then
    some ((-1 : Int32), σ)
  else
    if (f_X11_isPart x2 σ) = 0 then
      some ((-1 : Int32), σ)
    else
      if (f_X11_isMan x3 σ) = 0 then
        some ((-1 : Int32), σ)
      else
        if (f_X11_isPart x4 σ) = 0 then
          some ((-1 : Int32), σ)
        else
          if (f_X11_isKind x5 σ) = 0 then
            some ((-1 : Int32), σ)
          else
            if x1 = x3 then
              some ((-1 : Int32), σ)
            else
              (f_X11_measurePlaces x1 x2 x5 1506 14 σ).bind fun σ_13 =>
              (f_X11_measurePlaces x3 x4 x5 1507 14 σ_13).bind fun σ_16 =>
              (f_X10_leastSum (σ_16.1 (tv (σ_16.2.2 0)) 0) σ_16).bind fun v_19 =>
              some (v_19, σ_16)
theorem t_X11_joint (x1 : Int32) (x2 : Int32) (x3 : Int32) (x4 : Int32) (x5 : Int32) (σ : zS) (Q : Option Value → zS → Prop) (h : wpO (f_X11_joint x1 x2 x3 x4 x5 σ) (fun a => Q (some (.int a.1)) a.2)) : PK alC yX11_joint mX11_joint (7) [.ref 100, .int x1, .int x2, .int x3, .int x4, .int x5] σ Q := by
  refine PC_ofF (by decide +kernel) rfl rfl (Nat.le_of_ble_eq_true rfl) ?_
  show PZ alC mX11_joint (7) Q 0 [(0, .ref 100), (1, .int x1), (2, .int x2), (3, .int x3), (4, .int x4), (5, .int x5)] [] σ
  unfold f_X11_joint at h
  refine PW_aload_n (pc' := 1) (q := 0) (pw_dk dc_X11_joint 0 rfl) rfl rfl rfl ?_
  refine PW_iload_n (pc' := 2) (q := 1) (pw_dk dc_X11_joint 1 rfl) rfl rfl rfl ?_
  refine PZ_callVi (pc' := 5) (y := yX11_isMan) (M' := mX11_isMan) (d' := 0) (As := [.int x1]) (st := []) (b := 100) (ci := 11) (nn := 0) me_100 rfl tw_903 tw_29 (pw_dk dc_X11_joint 2 rfl) rfl Y_X11_isMan tw_901 rfl (by decide) (Nat.le_of_ble_eq_true rfl) (t_X11_isMan x1 σ _ ?_)
  refine ⟨_, rfl, fun hn_1 => ?_⟩
  show PZ alC mX11_joint (7) Q 5 [(0, .ref 100), (1, .int x1), (2, .int x2), (3, .int x3), (4, .int x4), (5, .int x5)] [.int (f_X11_isMan x1 σ)] σ
  refine PW_if_eq (pc' := 8) (tgt := 44) (pw_dk dc_X11_joint 3 rfl) rfl (by decide) (fun c_2 => ?_) (fun c_2 => ?_)
  · rw [if_pos c_2] at h
    refine PW_iconst (pc' := 45) (v := (-1 : Int32)) (pw_dk dc_X11_joint 20 rfl) rfl (by decide) ?_
    have z := wp_some h
    exact PZ_iret (ty := .int) (pw_dk dc_X11_joint 21 rfl) rfl rfl z
  · rw [if_neg c_2] at h
    refine PW_iload_n (pc' := 9) (q := 2) (pw_dk dc_X11_joint 4 rfl) rfl rfl rfl ?_
    refine PZ_callSi (pc' := 12) (y := yX11_isPart) (M' := mX11_isPart) (d' := 0) (As := [.int x2]) (st := []) tw_906 (pw_dk dc_X11_joint 5 rfl) rfl Y_X11_isPart tw_905 rfl (by decide) (Nat.le_of_ble_eq_true rfl) (t_X11_isPart x2 σ _ ?_)
    refine ⟨_, rfl, fun hn_3 => ?_⟩
    show PZ alC mX11_joint (7) Q 12 [(0, .ref 100), (1, .int x1), (2, .int x2), (3, .int x3), (4, .int x4), (5, .int x5)] [.int (f_X11_isPart x2 σ)] σ
    refine PW_if_eq (pc' := 15) (tgt := 44) (pw_dk dc_X11_joint 6 rfl) rfl (by decide) (fun c_4 => ?_) (fun c_4 => ?_)
    · rw [if_pos c_4] at h
      refine PW_iconst (pc' := 45) (v := (-1 : Int32)) (pw_dk dc_X11_joint 20 rfl) rfl (by decide) ?_
      have z := wp_some h
      exact PZ_iret (ty := .int) (pw_dk dc_X11_joint 21 rfl) rfl rfl z
    · rw [if_neg c_4] at h
      refine PW_aload_n (pc' := 16) (q := 0) (pw_dk dc_X11_joint 7 rfl) rfl rfl rfl ?_
      refine PW_iload_n (pc' := 17) (q := 3) (pw_dk dc_X11_joint 8 rfl) rfl rfl rfl ?_
      refine PZ_callVi (pc' := 20) (y := yX11_isMan) (M' := mX11_isMan) (d' := 0) (As := [.int x3]) (st := []) (b := 100) (ci := 11) (nn := 0) me_100 rfl tw_903 tw_29 (pw_dk dc_X11_joint 9 rfl) rfl Y_X11_isMan tw_901 rfl (by decide) (Nat.le_of_ble_eq_true rfl) (t_X11_isMan x3 σ _ ?_)
      refine ⟨_, rfl, fun hn_5 => ?_⟩
      show PZ alC mX11_joint (7) Q 20 [(0, .ref 100), (1, .int x1), (2, .int x2), (3, .int x3), (4, .int x4), (5, .int x5)] [.int (f_X11_isMan x3 σ)] σ
      refine PW_if_eq (pc' := 23) (tgt := 44) (pw_dk dc_X11_joint 10 rfl) rfl (by decide) (fun c_6 => ?_) (fun c_6 => ?_)
      · rw [if_pos c_6] at h
        refine PW_iconst (pc' := 45) (v := (-1 : Int32)) (pw_dk dc_X11_joint 20 rfl) rfl (by decide) ?_
        have z := wp_some h
        exact PZ_iret (ty := .int) (pw_dk dc_X11_joint 21 rfl) rfl rfl z
      · rw [if_neg c_6] at h
        refine PW_iload (pc' := 25) (q := 4) (pw_dk dc_X11_joint 11 rfl) rfl rfl ?_
        refine PZ_callSi (pc' := 28) (y := yX11_isPart) (M' := mX11_isPart) (d' := 0) (As := [.int x4]) (st := []) tw_906 (pw_dk dc_X11_joint 12 rfl) rfl Y_X11_isPart tw_905 rfl (by decide) (Nat.le_of_ble_eq_true rfl) (t_X11_isPart x4 σ _ ?_)
        refine ⟨_, rfl, fun hn_7 => ?_⟩
        show PZ alC mX11_joint (7) Q 28 [(0, .ref 100), (1, .int x1), (2, .int x2), (3, .int x3), (4, .int x4), (5, .int x5)] [.int (f_X11_isPart x4 σ)] σ
        refine PW_if_eq (pc' := 31) (tgt := 44) (pw_dk dc_X11_joint 13 rfl) rfl (by decide) (fun c_8 => ?_) (fun c_8 => ?_)
        · rw [if_pos c_8] at h
          refine PW_iconst (pc' := 45) (v := (-1 : Int32)) (pw_dk dc_X11_joint 20 rfl) rfl (by decide) ?_
          have z := wp_some h
          exact PZ_iret (ty := .int) (pw_dk dc_X11_joint 21 rfl) rfl rfl z
        · rw [if_neg c_8] at h
          refine PW_iload (pc' := 33) (q := 5) (pw_dk dc_X11_joint 14 rfl) rfl rfl ?_
          refine PZ_callSi (pc' := 36) (y := yX11_isKind) (M' := mX11_isKind) (d' := 0) (As := [.int x5]) (st := []) tw_966 (pw_dk dc_X11_joint 15 rfl) rfl Y_X11_isKind tw_965 rfl (by decide) (Nat.le_of_ble_eq_true rfl) (t_X11_isKind x5 σ _ ?_)
          refine ⟨_, rfl, fun hn_9 => ?_⟩
          show PZ alC mX11_joint (7) Q 36 [(0, .ref 100), (1, .int x1), (2, .int x2), (3, .int x3), (4, .int x4), (5, .int x5)] [.int (f_X11_isKind x5 σ)] σ
          refine PW_if_eq (pc' := 39) (tgt := 44) (pw_dk dc_X11_joint 16 rfl) rfl (by decide) (fun c_10 => ?_) (fun c_10 => ?_)
          · rw [if_pos c_10] at h
            refine PW_iconst (pc' := 45) (v := (-1 : Int32)) (pw_dk dc_X11_joint 20 rfl) rfl (by decide) ?_
            have z := wp_some h
            exact PZ_iret (ty := .int) (pw_dk dc_X11_joint 21 rfl) rfl rfl z
          · rw [if_neg c_10] at h
            refine PW_iload_n (pc' := 40) (q := 1) (pw_dk dc_X11_joint 17 rfl) rfl rfl rfl ?_
            refine PW_iload_n (pc' := 41) (q := 3) (pw_dk dc_X11_joint 18 rfl) rfl rfl rfl ?_
            refine PW_icmp_ne (pc' := 44) (tgt := 46) (pw_dk dc_X11_joint 19 rfl) rfl (by decide) (fun c_11 => ?_) (fun c_11 => ?_)
            · rw [if_neg c_11] at h
              refine PW_aload_n (pc' := 47) (q := 0) (pw_dk dc_X11_joint 22 rfl) rfl rfl rfl ?_
              refine PW_iload_n (pc' := 48) (q := 1) (pw_dk dc_X11_joint 23 rfl) rfl rfl rfl ?_
              refine PW_iload_n (pc' := 49) (q := 2) (pw_dk dc_X11_joint 24 rfl) rfl rfl rfl ?_
              refine PW_iload (pc' := 51) (q := 5) (pw_dk dc_X11_joint 25 rfl) rfl rfl ?_
              refine PW_aload_n (pc' := 52) (q := 0) (pw_dk dc_X11_joint 26 rfl) rfl rfl rfl ?_
              refine PW_getR (pc' := 55) (id := 100) (ci := 11) (nn := 0) (C0 := RX11) (T := TX11) (N := 15) (j := 13) (r := 1500) (pw_dk dc_X11_joint 27 rfl) rfl me_100 rfl pi_11 (by decide) fk_11_13 tw_608 (rfl) (by decide) ?_
              refine PW_getR (pc' := 58) (id := 1500) (ci := 10) (nn := 0) (C0 := RX10) (T := TX10) (N := 7) (j := 5) (r := 1506) (pw_dk dc_X11_joint 28 rfl) rfl me_1500 rfl pi_10 (by decide) fk_10_5 tw_567 (rfl) (by decide) ?_
              refine PZ_callVv (pc' := 61) (y := yX11_measurePlaces) (M' := mX11_measurePlaces) (d' := 6) (As := [.int x1, .int x2, .int x5, .ref 1506]) (st := []) (b := 100) (ci := 11) (nn := 0) me_100 rfl tw_1077 tw_36 (pw_dk dc_X11_joint 29 rfl) rfl Y_X11_measurePlaces tw_1075 rfl (by decide) (Nat.le_of_ble_eq_true rfl) (t_X11_measurePlaces x1 x2 x5 1506 14 me_1506 σ _ ?_)
              obtain ⟨σ_13, e_14, h⟩ := wp_bind h
              refine ⟨σ_13, e_14, rfl, fun hn_12 => ?_⟩
              show PZ alC mX11_joint (7) Q 61 [(0, .ref 100), (1, .int x1), (2, .int x2), (3, .int x3), (4, .int x4), (5, .int x5)] [] σ_13
              refine PW_aload_n (pc' := 62) (q := 0) (pw_dk dc_X11_joint 30 rfl) rfl rfl rfl ?_
              refine PW_iload_n (pc' := 63) (q := 3) (pw_dk dc_X11_joint 31 rfl) rfl rfl rfl ?_
              refine PW_iload (pc' := 65) (q := 4) (pw_dk dc_X11_joint 32 rfl) rfl rfl ?_
              refine PW_iload (pc' := 67) (q := 5) (pw_dk dc_X11_joint 33 rfl) rfl rfl ?_
              refine PW_aload_n (pc' := 68) (q := 0) (pw_dk dc_X11_joint 34 rfl) rfl rfl rfl ?_
              refine PW_getR (pc' := 71) (id := 100) (ci := 11) (nn := 0) (C0 := RX11) (T := TX11) (N := 15) (j := 13) (r := 1500) (pw_dk dc_X11_joint 35 rfl) rfl me_100 rfl pi_11 (by decide) fk_11_13 tw_608 (rfl) (by decide) ?_
              refine PW_getR (pc' := 74) (id := 1500) (ci := 10) (nn := 0) (C0 := RX10) (T := TX10) (N := 7) (j := 6) (r := 1507) (pw_dk dc_X11_joint 36 rfl) rfl me_1500 rfl pi_10 (by decide) fk_10_6 tw_569 (rfl) (by decide) ?_
              refine PZ_callVv (pc' := 77) (y := yX11_measurePlaces) (M' := mX11_measurePlaces) (d' := 6) (As := [.int x3, .int x4, .int x5, .ref 1507]) (st := []) (b := 100) (ci := 11) (nn := 0) me_100 rfl tw_1077 tw_36 (pw_dk dc_X11_joint 37 rfl) rfl Y_X11_measurePlaces tw_1075 rfl (by decide) (Nat.le_of_ble_eq_true rfl) (t_X11_measurePlaces x3 x4 x5 1507 14 me_1507 σ_13 _ ?_)
              obtain ⟨σ_16, e_17, h⟩ := wp_bind h
              refine ⟨σ_16, e_17, rfl, fun hn_15 => ?_⟩
              show PZ alC mX11_joint (7) Q 77 [(0, .ref 100), (1, .int x1), (2, .int x2), (3, .int x3), (4, .int x4), (5, .int x5)] [] σ_16
              refine PW_aload_n (pc' := 78) (q := 0) (pw_dk dc_X11_joint 38 rfl) rfl rfl rfl ?_
              refine PW_getR (pc' := 81) (id := 100) (ci := 11) (nn := 0) (C0 := RX11) (T := TX11) (N := 15) (j := 13) (r := 1500) (pw_dk dc_X11_joint 39 rfl) rfl me_100 rfl pi_11 (by decide) fk_11_13 tw_608 (rfl) (by decide) ?_
              refine PW_aload_n (pc' := 82) (q := 0) (pw_dk dc_X11_joint 40 rfl) rfl rfl rfl ?_
              refine PW_getR (pc' := 85) (id := 100) (ci := 11) (nn := 0) (C0 := RX11) (T := TX11) (N := 15) (j := 4) (r := tv (σ_16.2.2 0)) (pw_dk dc_X11_joint 41 rfl) rfl me_100 rfl pi_11 (by decide) fk_11_4 tw_599 (rf_M0 _) (tv0 _) ?_
              refine PZ_getI (pc' := 88) (id := (tv (σ_16.2.2 0))) (ci := 8) (nn := 0) (C0 := RX8) (T := TX8) (N := 18) (j := 0) (pw_dk dc_X11_joint 42 rfl) rfl (me_T _) rfl pi_8 (by decide) fk_8_0 tw_202 ?_
              refine PZ_callVi (pc' := 91) (y := yX10_leastSum) (M' := mX10_leastSum) (d' := 1) (As := [.int (σ_16.1 (tv (σ_16.2.2 0)) 0)]) (st := []) (b := 1500) (ci := 10) (nn := 0) me_1500 rfl tw_1081 tw_1082 (pw_dk dc_X11_joint 43 rfl) rfl Y_X10_leastSum tw_1080 rfl (by decide) (Nat.le_of_ble_eq_true rfl) (t_X10_leastSum (σ_16.1 (tv (σ_16.2.2 0)) 0) σ_16 _ ?_)
              obtain ⟨v_19, e_20, h⟩ := wp_bind h
              refine ⟨v_19, e_20, _, rfl, fun hn_18 => ?_⟩
              show PZ alC mX11_joint (7) Q 91 [(0, .ref 100), (1, .int x1), (2, .int x2), (3, .int x3), (4, .int x4), (5, .int x5)] [.int v_19] σ_16
              have z := wp_some h
              exact PZ_iret (ty := .int) (pw_dk dc_X11_joint 44 rfl) rfl rfl z
            · rw [if_pos c_11] at h
              refine PW_iconst (pc' := 45) (v := (-1 : Int32)) (pw_dk dc_X11_joint 20 rfl) rfl (by decide) ?_
              have z := wp_some h
              exact PZ_iret (ty := .int) (pw_dk dc_X11_joint 21 rfl) rfl rfl z
def f_X11_stands (x1 : Int32) (σ : zS) : Option Int32 := 
  if (f_X11_isMan x1 σ) = 0 then
    some (-1 : Int32)
  else
    (f_X5_standing σ).bind fun v_4 =>
    some v_4
theorem t_X11_stands (x1 : Int32) (σ : zS) (Q : Option Value → zS → Prop) (h : wpO (f_X11_stands x1 σ) (fun a => Q (some (.int a)) σ)) : PK alC yX11_stands mX11_stands (6) [.ref 100, .int x1] σ Q := by
  refine PC_ofF (by decide +kernel) rfl rfl (Nat.le_of_ble_eq_true rfl) ?_
  show PZ alC mX11_stands (6) Q 0 [(0, .ref 100), (1, .int x1)] [] σ
  unfold f_X11_stands at h
  refine PW_aload_n (pc' := 1) (q := 0) (pw_dk dc_X11_stands 0 rfl) rfl rfl rfl ?_
  refine PW_iload_n (pc' := 2) (q := 1) (pw_dk dc_X11_stands 1 rfl) rfl rfl rfl ?_
  refine PZ_callVi (pc' := 5) (y := yX11_isMan) (M' := mX11_isMan) (d' := 0) (As := [.int x1]) (st := []) (b := 100) (ci := 11) (nn := 0) me_100 rfl tw_903 tw_29 (pw_dk dc_X11_stands 2 rfl) rfl Y_X11_isMan tw_901 rfl (by decide) (Nat.le_of_ble_eq_true rfl) (t_X11_isMan x1 σ _ ?_)
  refine ⟨_, rfl, fun hn_1 => ?_⟩
  show PZ alC mX11_stands (6) Q 5 [(0, .ref 100), (1, .int x1)] [.int (f_X11_isMan x1 σ)] σ
  refine PW_if_eq (pc' := 8) (tgt := 18) (pw_dk dc_X11_stands 3 rfl) rfl (by decide) (fun c_2 => ?_) (fun c_2 => ?_)
  · rw [if_pos c_2] at h
    refine PW_iconst (pc' := 19) (v := (-1 : Int32)) (pw_dk dc_X11_stands 8 rfl) rfl (by decide) ?_
    have z := wp_some h
    exact PZ_iret (ty := .int) (pw_dk dc_X11_stands 9 rfl) rfl rfl z
  · rw [if_neg c_2] at h
    refine PW_aload_n (pc' := 9) (q := 0) (pw_dk dc_X11_stands 4 rfl) rfl rfl rfl ?_
    refine PW_getR (pc' := 12) (id := 100) (ci := 11) (nn := 0) (C0 := RX11) (T := TX11) (N := 15) (j := 6) (r := 1000) (pw_dk dc_X11_stands 5 rfl) rfl me_100 rfl pi_11 (by decide) fk_11_6 tw_601 (rfl) (by decide) ?_
    refine PZ_callVi (pc' := 15) (y := yX5_standing) (M' := mX5_standing) (d' := 5) (As := []) (st := []) (b := 1000) (ci := 5) (nn := 0) me_1000 rfl tw_1090 tw_1091 (pw_dk dc_X11_stands 6 rfl) rfl Y_X5_standing tw_1089 rfl (by decide) (Nat.le_of_ble_eq_true rfl) (t_X5_standing σ _ ?_)
    obtain ⟨v_4, e_5, h⟩ := wp_bind h
    refine ⟨v_4, e_5, _, rfl, fun hn_3 => ?_⟩
    show PZ alC mX11_stands (6) Q 15 [(0, .ref 100), (1, .int x1)] [.int v_4] σ
    refine PW_goto (tgt := 19) (pw_dk dc_X11_stands 7 rfl) (by decide) ?_
    have z := wp_some h
    exact PZ_iret (ty := .int) (pw_dk dc_X11_stands 9 rfl) rfl rfl z
def f_J6_bitCount_0f7a4 (x0 : Int32) (σ : zS) : Int32 := 
  lt (α := Int32) (x0 - (((x0.toUInt32 >>> ((1 : Int32).toUInt32 &&& Int32.toUInt32 31)).toInt32) &&& (1431655765 : Int32))) fun x0_1 =>
  lt (α := Int32) ((x0_1 &&& (858993459 : Int32)) + (((x0_1.toUInt32 >>> ((2 : Int32).toUInt32 &&& Int32.toUInt32 31)).toInt32) &&& (858993459 : Int32))) fun x0_2 =>
  lt (α := Int32) ((x0_2 + ((x0_2.toUInt32 >>> ((4 : Int32).toUInt32 &&& Int32.toUInt32 31)).toInt32)) &&& (252645135 : Int32)) fun x0_3 =>
  lt (α := Int32) (x0_3 + ((x0_3.toUInt32 >>> ((8 : Int32).toUInt32 &&& Int32.toUInt32 31)).toInt32)) fun x0_4 =>
  lt (α := Int32) (x0_4 + ((x0_4.toUInt32 >>> ((16 : Int32).toUInt32 &&& Int32.toUInt32 31)).toInt32)) fun x0_5 =>
  x0_5 &&& (63 : Int32)
theorem t_J6_bitCount_0f7a4 (al : pAL) (x0 : Int32) (σ : zS) (Q : Option Value → zS → Prop) (h : Q (some (.int (f_J6_bitCount_0f7a4 x0 σ))) σ) : PK al yJ6_bitCount_0f7a4 mJ6_bitCount_0f7a4 (0) [.int x0] σ Q := by
  refine PC_ofF (by decide +kernel) rfl rfl (Nat.le_of_ble_eq_true rfl) ?_
  show PZ al mJ6_bitCount_0f7a4 (0) Q 0 [(0, .int x0)] [] σ
  unfold f_J6_bitCount_0f7a4 at h
  refine PW_iload_n (pc' := 1) (q := 0) (pw_dk dc_J6_bitCount_0f7a4 0 rfl) rfl rfl rfl ?_
  refine PW_iload_n (pc' := 2) (q := 0) (pw_dk dc_J6_bitCount_0f7a4 1 rfl) rfl rfl rfl ?_
  refine PW_iconst (pc' := 3) (v := 1) (pw_dk dc_J6_bitCount_0f7a4 2 rfl) rfl (by decide) ?_
  refine PW_iushr (pc' := 4) (pw_dk dc_J6_bitCount_0f7a4 3 rfl) rfl ?_
  refine PW_ldcw (pc' := 7) (v := 1431655765) (pw_dk dc_J6_bitCount_0f7a4 4 rfl) rfl tw_1108 ?_
  refine PW_iand (pc' := 8) (pw_dk dc_J6_bitCount_0f7a4 5 rfl) rfl ?_
  refine PW_isub (pc' := 9) (pw_dk dc_J6_bitCount_0f7a4 6 rfl) rfl ?_
  refine PW_topi (fun x0_1 ex0_1 => ?_)
  replace h := lt_q (ρ := fun z => Q (some (.int z)) σ) h ex0_1
  refine PW_istore_n (pc' := 10) (lv' := [(0, .int x0_1)]) (pw_dk dc_J6_bitCount_0f7a4 7 rfl) rfl rfl (by decide) rfl ?_
  refine PW_iload_n (pc' := 11) (q := 0) (pw_dk dc_J6_bitCount_0f7a4 8 rfl) rfl rfl rfl ?_
  refine PW_ldcw (pc' := 14) (v := 858993459) (pw_dk dc_J6_bitCount_0f7a4 9 rfl) rfl tw_1109 ?_
  refine PW_iand (pc' := 15) (pw_dk dc_J6_bitCount_0f7a4 10 rfl) rfl ?_
  refine PW_iload_n (pc' := 16) (q := 0) (pw_dk dc_J6_bitCount_0f7a4 11 rfl) rfl rfl rfl ?_
  refine PW_iconst (pc' := 17) (v := 2) (pw_dk dc_J6_bitCount_0f7a4 12 rfl) rfl (by decide) ?_
  refine PW_iushr (pc' := 18) (pw_dk dc_J6_bitCount_0f7a4 13 rfl) rfl ?_
  refine PW_ldcw (pc' := 21) (v := 858993459) (pw_dk dc_J6_bitCount_0f7a4 14 rfl) rfl tw_1109 ?_
  refine PW_iand (pc' := 22) (pw_dk dc_J6_bitCount_0f7a4 15 rfl) rfl ?_
  refine PW_iadd (pc' := 23) (pw_dk dc_J6_bitCount_0f7a4 16 rfl) rfl ?_
  refine PW_topi (fun x0_2 ex0_2 => ?_)
  replace h := lt_q (ρ := fun z => Q (some (.int z)) σ) h ex0_2
  refine PW_istore_n (pc' := 24) (lv' := [(0, .int x0_2)]) (pw_dk dc_J6_bitCount_0f7a4 17 rfl) rfl rfl (by decide) rfl ?_
  refine PW_iload_n (pc' := 25) (q := 0) (pw_dk dc_J6_bitCount_0f7a4 18 rfl) rfl rfl rfl ?_
  refine PW_iload_n (pc' := 26) (q := 0) (pw_dk dc_J6_bitCount_0f7a4 19 rfl) rfl rfl rfl ?_
  refine PW_iconst (pc' := 27) (v := 4) (pw_dk dc_J6_bitCount_0f7a4 20 rfl) rfl (by decide) ?_
  refine PW_iushr (pc' := 28) (pw_dk dc_J6_bitCount_0f7a4 21 rfl) rfl ?_
  refine PW_iadd (pc' := 29) (pw_dk dc_J6_bitCount_0f7a4 22 rfl) rfl ?_
  refine PW_ldcw (pc' := 32) (v := 252645135) (pw_dk dc_J6_bitCount_0f7a4 23 rfl) rfl tw_1110 ?_
  refine PW_iand (pc' := 33) (pw_dk dc_J6_bitCount_0f7a4 24 rfl) rfl ?_
  refine PW_topi (fun x0_3 ex0_3 => ?_)
  replace h := lt_q (ρ := fun z => Q (some (.int z)) σ) h ex0_3
  refine PW_istore_n (pc' := 34) (lv' := [(0, .int x0_3)]) (pw_dk dc_J6_bitCount_0f7a4 25 rfl) rfl rfl (by decide) rfl ?_
  refine PW_iload_n (pc' := 35) (q := 0) (pw_dk dc_J6_bitCount_0f7a4 26 rfl) rfl rfl rfl ?_
  refine PW_iload_n (pc' := 36) (q := 0) (pw_dk dc_J6_bitCount_0f7a4 27 rfl) rfl rfl rfl ?_
  refine PW_bipush (pc' := 38) (v := 8) (pw_dk dc_J6_bitCount_0f7a4 28 rfl) rfl (by decide) ?_
  refine PW_iushr (pc' := 39) (pw_dk dc_J6_bitCount_0f7a4 29 rfl) rfl ?_
  refine PW_iadd (pc' := 40) (pw_dk dc_J6_bitCount_0f7a4 30 rfl) rfl ?_
  refine PW_topi (fun x0_4 ex0_4 => ?_)
  replace h := lt_q (ρ := fun z => Q (some (.int z)) σ) h ex0_4
  refine PW_istore_n (pc' := 41) (lv' := [(0, .int x0_4)]) (pw_dk dc_J6_bitCount_0f7a4 31 rfl) rfl rfl (by decide) rfl ?_
  refine PW_iload_n (pc' := 42) (q := 0) (pw_dk dc_J6_bitCount_0f7a4 32 rfl) rfl rfl rfl ?_
  refine PW_iload_n (pc' := 43) (q := 0) (pw_dk dc_J6_bitCount_0f7a4 33 rfl) rfl rfl rfl ?_
  refine PW_bipush (pc' := 45) (v := 16) (pw_dk dc_J6_bitCount_0f7a4 34 rfl) rfl (by decide) ?_
  refine PW_iushr (pc' := 46) (pw_dk dc_J6_bitCount_0f7a4 35 rfl) rfl ?_
  refine PW_iadd (pc' := 47) (pw_dk dc_J6_bitCount_0f7a4 36 rfl) rfl ?_
  refine PW_topi (fun x0_5 ex0_5 => ?_)
  replace h := lt_q (ρ := fun z => Q (some (.int z)) σ) h ex0_5
  refine PW_istore_n (pc' := 48) (lv' := [(0, .int x0_5)]) (pw_dk dc_J6_bitCount_0f7a4 37 rfl) rfl rfl (by decide) rfl ?_
  refine PW_iload_n (pc' := 49) (q := 0) (pw_dk dc_J6_bitCount_0f7a4 38 rfl) rfl rfl rfl ?_
  refine PW_bipush (pc' := 51) (v := 63) (pw_dk dc_J6_bitCount_0f7a4 39 rfl) rfl (by decide) ?_
  refine PW_iand (pc' := 52) (pw_dk dc_J6_bitCount_0f7a4 40 rfl) rfl ?_
  exact PZ_iret (ty := .int) (pw_dk dc_J6_bitCount_0f7a4 41 rfl) rfl rfl h
def f_J6_numberOfTrailingZeros_0f7a4_74  (x0 : Int32) (x1 : Int32) (σ : zS) : Int32 := 
  x1 + ((x0.toUInt32 >>> ((1 : Int32).toUInt32 &&& Int32.toUInt32 31)).toInt32)
theorem b_J6_numberOfTrailingZeros_0f7a4_74 (al : pAL) {Q : Option Value → zS → Prop} (x0 : Int32) (x1 : Int32) (σ : zS) (h : Q (some (.int (f_J6_numberOfTrailingZeros_0f7a4_74 x0 x1 σ))) σ) : PZ al mJ6_numberOfTrailingZeros_0f7a4 (0) Q 74 [(0, .int x0), (1, .int x1)] [] σ := by
  unfold f_J6_numberOfTrailingZeros_0f7a4_74 at h
  refine PW_iload_n (pc' := 75) (q := 1) (pw_dk dc_J6_numberOfTrailingZeros_0f7a4 48 rfl) rfl rfl rfl ?_
  refine PW_iload_n (pc' := 76) (q := 0) (pw_dk dc_J6_numberOfTrailingZeros_0f7a4 49 rfl) rfl rfl rfl ?_
  refine PW_iconst (pc' := 77) (v := 1) (pw_dk dc_J6_numberOfTrailingZeros_0f7a4 50 rfl) rfl (by decide) ?_
  refine PW_iushr (pc' := 78) (pw_dk dc_J6_numberOfTrailingZeros_0f7a4 51 rfl) rfl ?_
  refine PW_iadd (pc' := 79) (pw_dk dc_J6_numberOfTrailingZeros_0f7a4 52 rfl) rfl ?_
  exact PZ_iret (ty := .int) (pw_dk dc_J6_numberOfTrailingZeros_0f7a4 53 rfl) rfl rfl h
def f_J6_numberOfTrailingZeros_0f7a4_62  (x0 : Int32) (x1 : Int32) (σ : zS) : Int32 := 
  if x0 ≤ 4 then
    f_J6_numberOfTrailingZeros_0f7a4_74 x0 x1 σ
  else
    lt (α := Int32) ((x0.toUInt32 >>> ((2 : Int32).toUInt32 &&& Int32.toUInt32 31)).toInt32) fun x0_2 =>
    f_J6_numberOfTrailingZeros_0f7a4_74 x0_2 (x1 + 2) σ
theorem b_J6_numberOfTrailingZeros_0f7a4_62 (al : pAL) {Q : Option Value → zS → Prop} (x0 : Int32) (x1 : Int32) (σ : zS) (h : Q (some (.int (f_J6_numberOfTrailingZeros_0f7a4_62 x0 x1 σ))) σ) : PZ al mJ6_numberOfTrailingZeros_0f7a4 (0) Q 62 [(0, .int x0), (1, .int x1)] [] σ := by
  unfold f_J6_numberOfTrailingZeros_0f7a4_62 at h
  refine PW_iload_n (pc' := 63) (q := 0) (pw_dk dc_J6_numberOfTrailingZeros_0f7a4 40 rfl) rfl rfl rfl ?_
  refine PW_iconst (pc' := 64) (v := 4) (pw_dk dc_J6_numberOfTrailingZeros_0f7a4 41 rfl) rfl (by decide) ?_
  refine PW_icmp_le (pc' := 67) (tgt := 74) (pw_dk dc_J6_numberOfTrailingZeros_0f7a4 42 rfl) rfl (by decide) (fun c_1 => ?_) (fun c_1 => ?_)
  · rw [if_pos c_1] at h
    exact b_J6_numberOfTrailingZeros_0f7a4_74 al x0 x1 σ h
  · rw [if_neg c_1] at h
    refine PW_iinc (pc' := 70) (q := 1) (v := x1 + 2) (lv' := [(1, .int (x1 + 2)), (0, .int x0)]) (pw_dk dc_J6_numberOfTrailingZeros_0f7a4 43 rfl) rfl rfl rfl (by decide) rfl ?_
    refine PW_iload_n (pc' := 71) (q := 1) (pw_dk dc_J6_numberOfTrailingZeros_0f7a4 44 rfl) rfl rfl rfl ?_
    refine PW_iconst (pc' := 72) (v := 2) (pw_dk dc_J6_numberOfTrailingZeros_0f7a4 45 rfl) rfl (by decide) ?_
    refine PW_iushr (pc' := 73) (pw_dk dc_J6_numberOfTrailingZeros_0f7a4 46 rfl) rfl ?_
    refine PW_topi (fun x0_2 ex0_2 => ?_)
    replace h := lt_q (ρ := fun z => Q (some (.int z)) σ) h ex0_2
    refine PW_istore_n (pc' := 74) (lv' := [(0, .int x0_2), (1, .int (x1 + 2))]) (pw_dk dc_J6_numberOfTrailingZeros_0f7a4 47 rfl) rfl rfl (by decide) rfl ?_
    exact b_J6_numberOfTrailingZeros_0f7a4_74 al x0_2 (x1 + 2) σ h
def f_J6_numberOfTrailingZeros_0f7a4_49  (x0 : Int32) (x1 : Int32) (σ : zS) : Int32 := 
  if x0 ≤ 16 then
    f_J6_numberOfTrailingZeros_0f7a4_62 x0 x1 σ
  else
    lt (α := Int32) ((x0.toUInt32 >>> ((4 : Int32).toUInt32 &&& Int32.toUInt32 31)).toInt32) fun x0_2 =>
    f_J6_numberOfTrailingZeros_0f7a4_62 x0_2 (x1 + 4) σ
theorem b_J6_numberOfTrailingZeros_0f7a4_49 (al : pAL) {Q : Option Value → zS → Prop} (x0 : Int32) (x1 : Int32) (σ : zS) (h : Q (some (.int (f_J6_numberOfTrailingZeros_0f7a4_49 x0 x1 σ))) σ) : PZ al mJ6_numberOfTrailingZeros_0f7a4 (0) Q 49 [(0, .int x0), (1, .int x1)] [] σ := by
  unfold f_J6_numberOfTrailingZeros_0f7a4_49 at h
  refine PW_iload_n (pc' := 50) (q := 0) (pw_dk dc_J6_numberOfTrailingZeros_0f7a4 32 rfl) rfl rfl rfl ?_
  refine PW_bipush (pc' := 52) (v := 16) (pw_dk dc_J6_numberOfTrailingZeros_0f7a4 33 rfl) rfl (by decide) ?_
  refine PW_icmp_le (pc' := 55) (tgt := 62) (pw_dk dc_J6_numberOfTrailingZeros_0f7a4 34 rfl) rfl (by decide) (fun c_1 => ?_) (fun c_1 => ?_)
  · rw [if_pos c_1] at h
    exact b_J6_numberOfTrailingZeros_0f7a4_62 al x0 x1 σ h
  · rw [if_neg c_1] at h
    refine PW_iinc (pc' := 58) (q := 1) (v := x1 + 4) (lv' := [(1, .int (x1 + 4)), (0, .int x0)]) (pw_dk dc_J6_numberOfTrailingZeros_0f7a4 35 rfl) rfl rfl rfl (by decide) rfl ?_
    refine PW_iload_n (pc' := 59) (q := 1) (pw_dk dc_J6_numberOfTrailingZeros_0f7a4 36 rfl) rfl rfl rfl ?_
    refine PW_iconst (pc' := 60) (v := 4) (pw_dk dc_J6_numberOfTrailingZeros_0f7a4 37 rfl) rfl (by decide) ?_
    refine PW_iushr (pc' := 61) (pw_dk dc_J6_numberOfTrailingZeros_0f7a4 38 rfl) rfl ?_
    refine PW_topi (fun x0_2 ex0_2 => ?_)
    replace h := lt_q (ρ := fun z => Q (some (.int z)) σ) h ex0_2
    refine PW_istore_n (pc' := 62) (lv' := [(0, .int x0_2), (1, .int (x1 + 4))]) (pw_dk dc_J6_numberOfTrailingZeros_0f7a4 39 rfl) rfl rfl (by decide) rfl ?_
    exact b_J6_numberOfTrailingZeros_0f7a4_62 al x0_2 (x1 + 4) σ h
def f_J6_numberOfTrailingZeros_0f7a4_34  (x0 : Int32) (x1 : Int32) (σ : zS) : Int32 := 
  if x0 ≤ 256 then
    f_J6_numberOfTrailingZeros_0f7a4_49 x0 x1 σ
  else
    lt (α := Int32) ((x0.toUInt32 >>> ((8 : Int32).toUInt32 &&& Int32.toUInt32 31)).toInt32) fun x0_2 =>
    f_J6_numberOfTrailingZeros_0f7a4_49 x0_2 (x1 + 8) σ
theorem b_J6_numberOfTrailingZeros_0f7a4_34 (al : pAL) {Q : Option Value → zS → Prop} (x0 : Int32) (x1 : Int32) (σ : zS) (h : Q (some (.int (f_J6_numberOfTrailingZeros_0f7a4_34 x0 x1 σ))) σ) : PZ al mJ6_numberOfTrailingZeros_0f7a4 (0) Q 34 [(0, .int x0), (1, .int x1)] [] σ := by
  unfold f_J6_numberOfTrailingZeros_0f7a4_34 at h
  refine PW_iload_n (pc' := 35) (q := 0) (pw_dk dc_J6_numberOfTrailingZeros_0f7a4 24 rfl) rfl rfl rfl ?_
  refine PW_sipush (pc' := 38) (v := 256) (pw_dk dc_J6_numberOfTrailingZeros_0f7a4 25 rfl) rfl (by decide) ?_
  refine PW_icmp_le (pc' := 41) (tgt := 49) (pw_dk dc_J6_numberOfTrailingZeros_0f7a4 26 rfl) rfl (by decide) (fun c_1 => ?_) (fun c_1 => ?_)
  · rw [if_pos c_1] at h
    exact b_J6_numberOfTrailingZeros_0f7a4_49 al x0 x1 σ h
  · rw [if_neg c_1] at h
    refine PW_iinc (pc' := 44) (q := 1) (v := x1 + 8) (lv' := [(1, .int (x1 + 8)), (0, .int x0)]) (pw_dk dc_J6_numberOfTrailingZeros_0f7a4 27 rfl) rfl rfl rfl (by decide) rfl ?_
    refine PW_iload_n (pc' := 45) (q := 1) (pw_dk dc_J6_numberOfTrailingZeros_0f7a4 28 rfl) rfl rfl rfl ?_
    refine PW_bipush (pc' := 47) (v := 8) (pw_dk dc_J6_numberOfTrailingZeros_0f7a4 29 rfl) rfl (by decide) ?_
    refine PW_iushr (pc' := 48) (pw_dk dc_J6_numberOfTrailingZeros_0f7a4 30 rfl) rfl ?_
    refine PW_topi (fun x0_2 ex0_2 => ?_)
    replace h := lt_q (ρ := fun z => Q (some (.int z)) σ) h ex0_2
    refine PW_istore_n (pc' := 49) (lv' := [(0, .int x0_2), (1, .int (x1 + 8))]) (pw_dk dc_J6_numberOfTrailingZeros_0f7a4 31 rfl) rfl rfl (by decide) rfl ?_
    exact b_J6_numberOfTrailingZeros_0f7a4_49 al x0_2 (x1 + 8) σ h
def f_J6_numberOfTrailingZeros_0f7a4 (x0 : Int32) (σ : zS) : Int32 := 
  lt (α := Int32) ((x0 ^^^ (-1 : Int32)) &&& (x0 - (1 : Int32))) fun x0_1 =>
  if 0 < x0_1 then
    if x0_1 ≤ 65536 then
      f_J6_numberOfTrailingZeros_0f7a4_34 x0_1 1 σ
    else
      lt (α := Int32) ((x0_1.toUInt32 >>> ((16 : Int32).toUInt32 &&& Int32.toUInt32 31)).toInt32) fun x0_4 =>
      f_J6_numberOfTrailingZeros_0f7a4_34 x0_4 (1 + 16) σ
  else
    x0_1 &&& (32 : Int32)
theorem t_J6_numberOfTrailingZeros_0f7a4 (al : pAL) (x0 : Int32) (σ : zS) (Q : Option Value → zS → Prop) (h : Q (some (.int (f_J6_numberOfTrailingZeros_0f7a4 x0 σ))) σ) : PK al yJ6_numberOfTrailingZeros_0f7a4 mJ6_numberOfTrailingZeros_0f7a4 (0) [.int x0] σ Q := by
  refine PC_ofF (by decide +kernel) rfl rfl (Nat.le_of_ble_eq_true rfl) ?_
  show PZ al mJ6_numberOfTrailingZeros_0f7a4 (0) Q 0 [(0, .int x0)] [] σ
  unfold f_J6_numberOfTrailingZeros_0f7a4 at h
  refine PW_iload_n (pc' := 1) (q := 0) (pw_dk dc_J6_numberOfTrailingZeros_0f7a4 0 rfl) rfl rfl rfl ?_
  refine PW_iconst (pc' := 2) (v := (-1 : Int32)) (pw_dk dc_J6_numberOfTrailingZeros_0f7a4 1 rfl) rfl (by decide) ?_
  refine PW_ixor (pc' := 3) (pw_dk dc_J6_numberOfTrailingZeros_0f7a4 2 rfl) rfl ?_
  refine PW_iload_n (pc' := 4) (q := 0) (pw_dk dc_J6_numberOfTrailingZeros_0f7a4 3 rfl) rfl rfl rfl ?_
  refine PW_iconst (pc' := 5) (v := 1) (pw_dk dc_J6_numberOfTrailingZeros_0f7a4 4 rfl) rfl (by decide) ?_
  refine PW_isub (pc' := 6) (pw_dk dc_J6_numberOfTrailingZeros_0f7a4 5 rfl) rfl ?_
  refine PW_iand (pc' := 7) (pw_dk dc_J6_numberOfTrailingZeros_0f7a4 6 rfl) rfl ?_
  refine PW_topi (fun x0_1 ex0_1 => ?_)
  replace h := lt_q (ρ := fun z => Q (some (.int z)) σ) h ex0_1
  refine PW_istore_n (pc' := 8) (lv' := [(0, .int x0_1)]) (pw_dk dc_J6_numberOfTrailingZeros_0f7a4 7 rfl) rfl rfl (by decide) rfl ?_
  refine PW_iload_n (pc' := 9) (q := 0) (pw_dk dc_J6_numberOfTrailingZeros_0f7a4 8 rfl) rfl rfl rfl ?_
  refine PW_if_gt (pc' := 12) (tgt := 17) (pw_dk dc_J6_numberOfTrailingZeros_0f7a4 9 rfl) rfl (by decide) (fun c_2 => ?_) (fun c_2 => ?_)
  · rw [if_pos c_2] at h
    refine PW_iconst (pc' := 18) (v := 1) (pw_dk dc_J6_numberOfTrailingZeros_0f7a4 14 rfl) rfl (by decide) ?_
    refine PW_istore_n (pc' := 19) (lv' := [(1, .int 1), (0, .int x0_1)]) (pw_dk dc_J6_numberOfTrailingZeros_0f7a4 15 rfl) rfl rfl (by decide) rfl ?_
    refine PW_iload_n (pc' := 20) (q := 1) (pw_dk dc_J6_numberOfTrailingZeros_0f7a4 16 rfl) rfl rfl rfl ?_
    refine PW_ldcw (pc' := 23) (v := 65536) (pw_dk dc_J6_numberOfTrailingZeros_0f7a4 17 rfl) rfl tw_1114 ?_
    refine PW_icmp_le (pc' := 26) (tgt := 34) (pw_dk dc_J6_numberOfTrailingZeros_0f7a4 18 rfl) rfl (by decide) (fun c_3 => ?_) (fun c_3 => ?_)
    · rw [if_pos c_3] at h
      refine PW_sub (lv' := [(0, .int x0_1), (1, .int 1)]) [1, 0] rfl ?_
      exact b_J6_numberOfTrailingZeros_0f7a4_34 al x0_1 1 σ h
    · rw [if_neg c_3] at h
      refine PW_iinc (pc' := 29) (q := 0) (v := 1 + 16) (lv' := [(1, .int (1 + 16)), (0, .int x0_1)]) (pw_dk dc_J6_numberOfTrailingZeros_0f7a4 19 rfl) rfl rfl rfl (by decide) rfl ?_
      refine PW_iload_n (pc' := 30) (q := 1) (pw_dk dc_J6_numberOfTrailingZeros_0f7a4 20 rfl) rfl rfl rfl ?_
      refine PW_bipush (pc' := 32) (v := 16) (pw_dk dc_J6_numberOfTrailingZeros_0f7a4 21 rfl) rfl (by decide) ?_
      refine PW_iushr (pc' := 33) (pw_dk dc_J6_numberOfTrailingZeros_0f7a4 22 rfl) rfl ?_
      refine PW_topi (fun x0_4 ex0_4 => ?_)
      replace h := lt_q (ρ := fun z => Q (some (.int z)) σ) h ex0_4
      refine PW_istore_n (pc' := 34) (lv' := [(0, .int x0_4), (1, .int (1 + 16))]) (pw_dk dc_J6_numberOfTrailingZeros_0f7a4 23 rfl) rfl rfl (by decide) rfl ?_
      exact b_J6_numberOfTrailingZeros_0f7a4_34 al x0_4 (1 + 16) σ h
  · rw [if_neg c_2] at h
    refine PW_iload_n (pc' := 13) (q := 0) (pw_dk dc_J6_numberOfTrailingZeros_0f7a4 10 rfl) rfl rfl rfl ?_
    refine PW_bipush (pc' := 15) (v := 32) (pw_dk dc_J6_numberOfTrailingZeros_0f7a4 11 rfl) rfl (by decide) ?_
    refine PW_iand (pc' := 16) (pw_dk dc_J6_numberOfTrailingZeros_0f7a4 12 rfl) rfl ?_
    exact PZ_iret (ty := .int) (pw_dk dc_J6_numberOfTrailingZeros_0f7a4 13 rfl) rfl rfl h
def f_X11_match_37  : Nat → Int32 → Int32 → Int32 → zS → Option Int32
  | 0, _, _, _, _ => none
  | n + 1, x1, x2, x3, σ => 
    if x1 ≤ x3 then
      some (f_J6_numberOfTrailingZeros_0f7a4 x2 σ)
    else
      lt (α := Int32) (x2 &&& (x2 - (1 : Int32))) fun x2_3 =>
      f_X11_match_37 n x1 x2_3 (x3 + 1) σ
theorem b_X11_match_37 {Q : Option Value → zS → Prop} : ∀ (n : Nat) (x1 : Int32) (x2 : Int32) (x3 : Int32) (σ : zS) (h : wpO (f_X11_match_37 n x1 x2 x3 σ) (fun a => Q (some (.int a)) σ)), PZ alC mX11_match (6) Q 37 [(1, .int x1), (2, .int x2), (3, .int x3)] [] σ := by
  intro n
  induction n with
  | zero => intro x1 x2 x3 σ h; exact wp_none h
  | succ n ih =>
    intro x1 x2 x3 σ h
    rw [f_X11_match_37] at h
    refine PW_iload_n (pc' := 38) (q := 2) (pw_dk dc_X11_match 20 rfl) rfl rfl rfl ?_
    refine PW_iload_n (pc' := 39) (q := 0) (pw_dk dc_X11_match 21 rfl) rfl rfl rfl ?_
    refine PW_icmp_ge (pc' := 42) (tgt := 54) (pw_dk dc_X11_match 22 rfl) rfl (by decide) (fun c_1 => ?_) (fun c_1 => ?_)
    · rw [if_pos c_1] at h
      refine PW_iload_n (pc' := 55) (q := 1) (pw_dk dc_X11_match 31 rfl) rfl rfl rfl ?_
      refine PZ_callSi (pc' := 58) (y := yJ6_numberOfTrailingZeros_0f7a4) (M' := mJ6_numberOfTrailingZeros_0f7a4) (d' := 0) (As := [.int x2]) (st := []) tw_1112 (pw_dk dc_X11_match 32 rfl) rfl Y_J6_numberOfTrailingZeros_0f7a4 tw_1111 rfl (by decide) (Nat.le_of_ble_eq_true rfl) (t_J6_numberOfTrailingZeros_0f7a4 alC x2 σ _ ?_)
      refine ⟨_, rfl, fun hn_2 => ?_⟩
      show PZ alC mX11_match (6) Q 58 [(1, .int x1), (2, .int x2), (3, .int x3)] [.int (f_J6_numberOfTrailingZeros_0f7a4 x2 σ)] σ
      have z := wp_some h
      exact PZ_iret (ty := .int) (pw_dk dc_X11_match 33 rfl) rfl rfl z
    · rw [if_neg c_1] at h
      refine PW_iload_n (pc' := 43) (q := 1) (pw_dk dc_X11_match 23 rfl) rfl rfl rfl ?_
      refine PW_iload_n (pc' := 44) (q := 1) (pw_dk dc_X11_match 24 rfl) rfl rfl rfl ?_
      refine PW_iconst (pc' := 45) (v := 1) (pw_dk dc_X11_match 25 rfl) rfl (by decide) ?_
      refine PW_isub (pc' := 46) (pw_dk dc_X11_match 26 rfl) rfl ?_
      refine PW_iand (pc' := 47) (pw_dk dc_X11_match 27 rfl) rfl ?_
      refine PW_topi (fun x2_3 ex2_3 => ?_)
      replace h := lt_w h ex2_3
      refine PW_istore_n (pc' := 48) (lv' := [(2, .int x2_3), (1, .int x1), (3, .int x3)]) (pw_dk dc_X11_match 28 rfl) rfl rfl (by decide) rfl ?_
      refine PW_iinc (pc' := 51) (q := 2) (v := x3 + 1) (lv' := [(3, .int (x3 + 1)), (2, .int x2_3), (1, .int x1)]) (pw_dk dc_X11_match 29 rfl) rfl rfl rfl (by decide) rfl ?_
      refine PW_goto (tgt := 37) (pw_dk dc_X11_match 30 rfl) (by decide) ?_
      refine PW_sub (lv' := [(1, .int x1), (2, .int x2_3), (3, .int (x3 + 1))]) [2, 1, 0] rfl ?_
      exact ih x1 x2_3 (x3 + 1) σ h
def f_X11_match (x1 : Int32) (σ : zS) : Option Int32 := 
  if (f_X11_isMan x1 σ) = 0 then
    some (-1 : Int32)
  else
    (f_X5_standing σ).bind fun v_4 =>
    if (σ.1 (tv (σ.2.2 0)) 6) ≤ (f_J6_bitCount_0f7a4 v_4 σ) then
      f_X11_match_37 FU x1 v_4 0 σ
    else
      some (-2 : Int32)
theorem t_X11_match (x1 : Int32) (σ : zS) (Q : Option Value → zS → Prop) (h : wpO (f_X11_match x1 σ) (fun a => Q (some (.int a)) σ)) : PK alC yX11_match mX11_match (6) [.ref 100, .int x1] σ Q := by
  refine PC_ofF (by decide +kernel) rfl rfl (Nat.le_of_ble_eq_true rfl) ?_
  show PZ alC mX11_match (6) Q 0 [(0, .ref 100), (1, .int x1)] [] σ
  unfold f_X11_match at h
  refine PW_aload_n (pc' := 1) (q := 0) (pw_dk dc_X11_match 0 rfl) rfl rfl rfl ?_
  refine PW_iload_n (pc' := 2) (q := 1) (pw_dk dc_X11_match 1 rfl) rfl rfl rfl ?_
  refine PZ_callVi (pc' := 5) (y := yX11_isMan) (M' := mX11_isMan) (d' := 0) (As := [.int x1]) (st := []) (b := 100) (ci := 11) (nn := 0) me_100 rfl tw_903 tw_29 (pw_dk dc_X11_match 2 rfl) rfl Y_X11_isMan tw_901 rfl (by decide) (Nat.le_of_ble_eq_true rfl) (t_X11_isMan x1 σ _ ?_)
  refine ⟨_, rfl, fun hn_1 => ?_⟩
  show PZ alC mX11_match (6) Q 5 [(0, .ref 100), (1, .int x1)] [.int (f_X11_isMan x1 σ)] σ
  refine PW_if_ne (pc' := 8) (tgt := 10) (pw_dk dc_X11_match 3 rfl) rfl (by decide) (fun c_2 => ?_) (fun c_2 => ?_)
  · rw [if_neg c_2] at h
    refine PW_aload_n (pc' := 11) (q := 0) (pw_dk dc_X11_match 6 rfl) rfl rfl rfl ?_
    refine PW_getR (pc' := 14) (id := 100) (ci := 11) (nn := 0) (C0 := RX11) (T := TX11) (N := 15) (j := 6) (r := 1000) (pw_dk dc_X11_match 7 rfl) rfl me_100 rfl pi_11 (by decide) fk_11_6 tw_601 (rfl) (by decide) ?_
    refine PZ_callVi (pc' := 17) (y := yX5_standing) (M' := mX5_standing) (d' := 5) (As := []) (st := []) (b := 1000) (ci := 5) (nn := 0) me_1000 rfl tw_1090 tw_1091 (pw_dk dc_X11_match 8 rfl) rfl Y_X5_standing tw_1089 rfl (by decide) (Nat.le_of_ble_eq_true rfl) (t_X5_standing σ _ ?_)
    obtain ⟨v_4, e_5, h⟩ := wp_bind h
    refine ⟨v_4, e_5, _, rfl, fun hn_3 => ?_⟩
    show PZ alC mX11_match (6) Q 17 [(0, .ref 100), (1, .int x1)] [.int v_4] σ
    refine PW_istore_n (pc' := 18) (lv' := [(2, .int v_4), (0, .ref 100), (1, .int x1)]) (pw_dk dc_X11_match 9 rfl) rfl rfl (by decide) rfl ?_
    refine PW_iload_n (pc' := 19) (q := 0) (pw_dk dc_X11_match 10 rfl) rfl rfl rfl ?_
    refine PZ_callSi (pc' := 22) (y := yJ6_bitCount_0f7a4) (M' := mJ6_bitCount_0f7a4) (d' := 0) (As := [.int v_4]) (st := []) tw_1106 (pw_dk dc_X11_match 11 rfl) rfl Y_J6_bitCount_0f7a4 tw_1105 rfl (by decide) (Nat.le_of_ble_eq_true rfl) (t_J6_bitCount_0f7a4 alC v_4 σ _ ?_)
    refine ⟨_, rfl, fun hn_6 => ?_⟩
    show PZ alC mX11_match (6) Q 22 [(2, .int v_4), (0, .ref 100), (1, .int x1)] [.int (f_J6_bitCount_0f7a4 v_4 σ)] σ
    refine PW_aload_n (pc' := 23) (q := 1) (pw_dk dc_X11_match 12 rfl) rfl rfl rfl ?_
    refine PW_getR (pc' := 26) (id := 100) (ci := 11) (nn := 0) (C0 := RX11) (T := TX11) (N := 15) (j := 4) (r := tv (σ.2.2 0)) (pw_dk dc_X11_match 13 rfl) rfl me_100 rfl pi_11 (by decide) fk_11_4 tw_599 (rf_M0 _) (tv0 _) ?_
    refine PZ_getI (pc' := 29) (id := (tv (σ.2.2 0))) (ci := 8) (nn := 0) (C0 := RX8) (T := TX8) (N := 18) (j := 6) (pw_dk dc_X11_match 14 rfl) rfl (me_T _) rfl pi_8 (by decide) fk_8_6 tw_217 ?_
    refine PW_icmp_ge (pc' := 32) (tgt := 35) (pw_dk dc_X11_match 15 rfl) rfl (by decide) (fun c_7 => ?_) (fun c_7 => ?_)
    · rw [if_pos c_7] at h
      refine PW_iconst (pc' := 36) (v := 0) (pw_dk dc_X11_match 18 rfl) rfl (by decide) ?_
      refine PW_istore_n (pc' := 37) (lv' := [(3, .int 0), (2, .int v_4), (0, .ref 100), (1, .int x1)]) (pw_dk dc_X11_match 19 rfl) rfl rfl (by decide) rfl ?_
      refine PW_sub (lv' := [(1, .int x1), (2, .int v_4), (3, .int 0)]) [3, 1, 0] rfl ?_
      exact b_X11_match_37 FU x1 v_4 0 σ h
    · rw [if_neg c_7] at h
      refine PW_bipush (pc' := 34) (v := (-2 : Int32)) (pw_dk dc_X11_match 16 rfl) rfl (by decide) ?_
      have z := wp_some h
      exact PZ_iret (ty := .int) (pw_dk dc_X11_match 17 rfl) rfl rfl z
  · rw [if_pos c_2] at h
    refine PW_iconst (pc' := 9) (v := (-1 : Int32)) (pw_dk dc_X11_match 4 rfl) rfl (by decide) ?_
    have z := wp_some h
    exact PZ_iret (ty := .int) (pw_dk dc_X11_match 5 rfl) rfl rfl z
def f_X11_closedParts (x1 : Int32) (x2 : Int32) (σ : zS) : Option (Int32 × zS) := 
  (rdI σ (tv (σ.2.2 0) + 9) 5 x1).bind fun v_1 =>
  b2 (f_X5_lawfulParts x1 v_1 x2 (σ.1 700 0) σ) fun v_6 σ_5 =>
  some ((v_6 ^^^ (-1 : Int32)) &&& (15 : Int32), σ_5)
theorem t_X11_closedParts (x1 : Int32) (x2 : Int32) (σ : zS) (Q : Option Value → zS → Prop) (h : wpO (f_X11_closedParts x1 x2 σ) (fun a => Q (some (.int a.1)) a.2)) : PK alC yX11_closedParts mX11_closedParts (7) [.ref 100, .int x1, .int x2] σ Q := by
  refine PC_ofF (by decide +kernel) rfl rfl (Nat.le_of_ble_eq_true rfl) ?_
  show PZ alC mX11_closedParts (7) Q 0 [(0, .ref 100), (1, .int x1), (2, .int x2)] [] σ
  unfold f_X11_closedParts at h
  refine PW_aload_n (pc' := 1) (q := 0) (pw_dk dc_X11_closedParts 0 rfl) rfl rfl rfl ?_
  refine PW_getR (pc' := 4) (id := 100) (ci := 11) (nn := 0) (C0 := RX11) (T := TX11) (N := 15) (j := 6) (r := 1000) (pw_dk dc_X11_closedParts 1 rfl) rfl me_100 rfl pi_11 (by decide) fk_11_6 tw_601 (rfl) (by decide) ?_
  refine PW_iload_n (pc' := 5) (q := 1) (pw_dk dc_X11_closedParts 2 rfl) rfl rfl rfl ?_
  refine PW_aload_n (pc' := 6) (q := 0) (pw_dk dc_X11_closedParts 3 rfl) rfl rfl rfl ?_
  refine PW_getR (pc' := 9) (id := 100) (ci := 11) (nn := 0) (C0 := RX11) (T := TX11) (N := 15) (j := 4) (r := tv (σ.2.2 0)) (pw_dk dc_X11_closedParts 4 rfl) rfl me_100 rfl pi_11 (by decide) fk_11_4 tw_599 (rf_M0 _) (tv0 _) ?_
  refine PW_getR (pc' := 12) (id := (tv (σ.2.2 0))) (ci := 8) (nn := 0) (C0 := RX8) (T := TX8) (N := 18) (j := 8) (r := tv (σ.2.2 0) + 9) (pw_dk dc_X11_closedParts 5 rfl) rfl (me_T _) rfl pi_8 (by decide) fk_8_8 tw_222 (rf_T8 _ _) (su0 _ _) ?_
  refine PW_iload_n (pc' := 13) (q := 1) (pw_dk dc_X11_closedParts 6 rfl) rfl rfl rfl ?_
  obtain ⟨v_1, hi_2, e_3, h⟩ := wp_rdIx h
  refine PZ_ialdx (pc' := 14) (v := v_1) (id := (tv (σ.2.2 0) + 9)) (nn := 5) (pw_dk dc_X11_closedParts 7 rfl) rfl (me_T8 _) hi_2 e_3 ?_
  refine PW_iload_n (pc' := 15) (q := 2) (pw_dk dc_X11_closedParts 8 rfl) rfl rfl rfl ?_
  refine PW_aload_n (pc' := 16) (q := 0) (pw_dk dc_X11_closedParts 9 rfl) rfl rfl rfl ?_
  refine PW_getR (pc' := 19) (id := 100) (ci := 11) (nn := 0) (C0 := RX11) (T := TX11) (N := 15) (j := 7) (r := 700) (pw_dk dc_X11_closedParts 10 rfl) rfl me_100 rfl pi_11 (by decide) fk_11_7 tw_602 (rfl) (by decide) ?_
  refine PZ_getI (pc' := 22) (id := 700) (ci := 0) (nn := 0) (C0 := RX0) (T := TX0) (N := 6) (j := 0) (pw_dk dc_X11_closedParts 11 rfl) rfl me_700 rfl pi_0 (by decide) fk_0_0 tw_456 ?_
  refine PZ_callVi (pc' := 25) (y := yX5_lawfulParts) (M' := mX5_lawfulParts) (d' := 6) (As := [.int x1, .int v_1, .int x2, .int (σ.1 700 0)]) (st := []) (b := 1000) (ci := 5) (nn := 0) me_1000 rfl tw_1124 tw_1125 (pw_dk dc_X11_closedParts 12 rfl) rfl Y_X5_lawfulParts tw_1123 rfl (by decide) (Nat.le_of_ble_eq_true rfl) (t_X5_lawfulParts x1 v_1 x2 (σ.1 700 0) σ _ ?_)
  obtain ⟨⟨v_6, σ_5⟩, e_7, h⟩ := wp_bind2 h
  refine ⟨(v_6, σ_5), e_7, _, rfl, fun hn_4 => ?_⟩
  show PZ alC mX11_closedParts (7) Q 25 [(0, .ref 100), (1, .int x1), (2, .int x2)] [.int v_6] σ_5
  refine PW_iconst (pc' := 26) (v := (-1 : Int32)) (pw_dk dc_X11_closedParts 13 rfl) rfl (by decide) ?_
  refine PW_ixor (pc' := 27) (pw_dk dc_X11_closedParts 14 rfl) rfl ?_
  refine PW_bipush (pc' := 29) (v := 15) (pw_dk dc_X11_closedParts 15 rfl) rfl (by decide) ?_
  refine PW_iand (pc' := 30) (pw_dk dc_X11_closedParts 16 rfl) rfl ?_
  have z := wp_some h
  exact PZ_iret (ty := .int) (pw_dk dc_X11_closedParts 17 rfl) rfl rfl z
def f_X11_loopholes_68 (r30 : Int32 → Int32 → Int32 → Int32 → Int32 → zS → Option (Int32 × zS)) (x1 : Int32) (x2 : Int32) (x3 : Int32) (x4 : Int32) (x5 : Int32) (σ : zS) : Option (Int32 × zS) := 
  r30 x1 x2 x3 x4 (x5 + 1) σ
theorem b_X11_loopholes_68 {Q : Option Value → zS → Prop} (r30 : Int32 → Int32 → Int32 → Int32 → Int32 → zS → Option (Int32 × zS)) (hr30 : ∀ (x1 : Int32) (x2 : Int32) (x3 : Int32) (x4 : Int32) (x5 : Int32) (σ : zS), wpO (r30 x1 x2 x3 x4 x5 σ) (fun a => Q (some (.int a.1)) a.2) → PZ alC mX11_loopholes (8) Q 30 [(0, .ref 100), (1, .int x1), (2, .int x2), (3, .int x3), (4, .int x4), (5, .int x5)] [] σ) (x1 : Int32) (x2 : Int32) (x3 : Int32) (x4 : Int32) (x5 : Int32) (σ : zS) (h : wpO (f_X11_loopholes_68 r30 x1 x2 x3 x4 x5 σ) (fun a => Q (some (.int a.1)) a.2)) : PZ alC mX11_loopholes (8) Q 68 [(0, .ref 100), (1, .int x1), (2, .int x2), (3, .int x3), (4, .int x4), (5, .int x5)] [] σ := by
  unfold f_X11_loopholes_68 at h
  refine PW_iinc (pc' := 71) (q := 5) (v := x5 + 1) (lv' := [(5, .int (x5 + 1)), (0, .ref 100), (1, .int x1), (2, .int x2), (3, .int x3), (4, .int x4)]) (pw_dk dc_X11_loopholes 36 rfl) rfl rfl rfl (by decide) rfl ?_
  refine PW_goto (tgt := 30) (pw_dk dc_X11_loopholes 37 rfl) (by decide) ?_
  refine PW_sub (lv' := [(0, .ref 100), (1, .int x1), (2, .int x2), (3, .int x3), (4, .int x4), (5, .int (x5 + 1))]) [1, 2, 3, 4, 5, 0] rfl ?_
  exact hr30 x1 x2 x3 x4 (x5 + 1) σ h
def f_X11_loopholes_30  : Nat → Int32 → Int32 → Int32 → Int32 → Int32 → zS → Option (Int32 × zS)
  | 0, _, _, _, _, _, _ => none
  | n + 1, x1, x2, x3, x4, x5, σ => 
    if (f_X8_states (σ.2.2 0) σ) ≤ x5 then
      some (x4, σ)
    else
      b2 (f_X5_lawfulParts x1 x5 x2 (σ.1 700 0) σ) fun v_5 σ_4 =>
      if (v_5 &&& x3) = 0 then
        f_X11_loopholes_68 (f_X11_loopholes_30 n) x1 x2 x3 x4 x5 σ_4
      else
        f_X11_loopholes_68 (f_X11_loopholes_30 n) x1 x2 x3 (x4 + 1) x5 σ_4
theorem b_X11_loopholes_30 {Q : Option Value → zS → Prop} : ∀ (n : Nat) (x1 : Int32) (x2 : Int32) (x3 : Int32) (x4 : Int32) (x5 : Int32) (σ : zS) (h : wpO (f_X11_loopholes_30 n x1 x2 x3 x4 x5 σ) (fun a => Q (some (.int a.1)) a.2)), PZ alC mX11_loopholes (8) Q 30 [(0, .ref 100), (1, .int x1), (2, .int x2), (3, .int x3), (4, .int x4), (5, .int x5)] [] σ := by
  intro n
  induction n with
  | zero => intro x1 x2 x3 x4 x5 σ h; exact wp_none h
  | succ n ih =>
    intro x1 x2 x3 x4 x5 σ h
    rw [f_X11_loopholes_30] at h
    refine PW_iload (pc' := 32) (q := 5) (pw_dk dc_X11_loopholes 18 rfl) rfl rfl ?_
    refine PW_aload_n (pc' := 33) (q := 0) (pw_dk dc_X11_loopholes 19 rfl) rfl rfl rfl ?_
    refine PW_getR (pc' := 36) (id := 100) (ci := 11) (nn := 0) (C0 := RX11) (T := TX11) (N := 15) (j := 4) (r := tv (σ.2.2 0)) (pw_dk dc_X11_loopholes 20 rfl) rfl me_100 rfl pi_11 (by decide) fk_11_4 tw_599 (rf_M0 _) (tv0 _) ?_
    refine PZ_callVi (pc' := 39) (y := yX8_states) (M' := mX8_states) (d' := 0) (As := []) (st := [.int x5]) (b := (tv (σ.2.2 0))) (ci := 8) (nn := 0) (me_T _) rfl tw_1094 tw_1095 (pw_dk dc_X11_loopholes 21 rfl) rfl Y_X8_states tw_1127 rfl (by decide) (Nat.le_of_ble_eq_true rfl) (t_X8_states (σ.2.2 0) σ _ ?_)
    refine ⟨_, rfl, fun hn_1 => ?_⟩
    show PZ alC mX11_loopholes (8) Q 39 [(0, .ref 100), (1, .int x1), (2, .int x2), (3, .int x3), (4, .int x4), (5, .int x5)] [.int (f_X8_states (σ.2.2 0) σ), .int x5] σ
    refine PW_icmp_ge (pc' := 42) (tgt := 74) (pw_dk dc_X11_loopholes 22 rfl) rfl (by decide) (fun c_2 => ?_) (fun c_2 => ?_)
    · rw [if_pos c_2] at h
      refine PW_iload (pc' := 76) (q := 4) (pw_dk dc_X11_loopholes 38 rfl) rfl rfl ?_
      have z := wp_some h
      exact PZ_iret (ty := .int) (pw_dk dc_X11_loopholes 39 rfl) rfl rfl z
    · rw [if_neg c_2] at h
      refine PW_aload_n (pc' := 43) (q := 0) (pw_dk dc_X11_loopholes 23 rfl) rfl rfl rfl ?_
      refine PW_getR (pc' := 46) (id := 100) (ci := 11) (nn := 0) (C0 := RX11) (T := TX11) (N := 15) (j := 6) (r := 1000) (pw_dk dc_X11_loopholes 24 rfl) rfl me_100 rfl pi_11 (by decide) fk_11_6 tw_601 (rfl) (by decide) ?_
      refine PW_iload_n (pc' := 47) (q := 1) (pw_dk dc_X11_loopholes 25 rfl) rfl rfl rfl ?_
      refine PW_iload (pc' := 49) (q := 5) (pw_dk dc_X11_loopholes 26 rfl) rfl rfl ?_
      refine PW_iload_n (pc' := 50) (q := 2) (pw_dk dc_X11_loopholes 27 rfl) rfl rfl rfl ?_
      refine PW_aload_n (pc' := 51) (q := 0) (pw_dk dc_X11_loopholes 28 rfl) rfl rfl rfl ?_
      refine PW_getR (pc' := 54) (id := 100) (ci := 11) (nn := 0) (C0 := RX11) (T := TX11) (N := 15) (j := 7) (r := 700) (pw_dk dc_X11_loopholes 29 rfl) rfl me_100 rfl pi_11 (by decide) fk_11_7 tw_602 (rfl) (by decide) ?_
      refine PZ_getI (pc' := 57) (id := 700) (ci := 0) (nn := 0) (C0 := RX0) (T := TX0) (N := 6) (j := 0) (pw_dk dc_X11_loopholes 30 rfl) rfl me_700 rfl pi_0 (by decide) fk_0_0 tw_456 ?_
      refine PZ_callVi (pc' := 60) (y := yX5_lawfulParts) (M' := mX5_lawfulParts) (d' := 6) (As := [.int x1, .int x5, .int x2, .int (σ.1 700 0)]) (st := []) (b := 1000) (ci := 5) (nn := 0) me_1000 rfl tw_1124 tw_1125 (pw_dk dc_X11_loopholes 31 rfl) rfl Y_X5_lawfulParts tw_1123 rfl (by decide) (Nat.le_of_ble_eq_true rfl) (t_X5_lawfulParts x1 x5 x2 (σ.1 700 0) σ _ ?_)
      obtain ⟨⟨v_5, σ_4⟩, e_6, h⟩ := wp_bind2 h
      refine ⟨(v_5, σ_4), e_6, _, rfl, fun hn_3 => ?_⟩
      show PZ alC mX11_loopholes (8) Q 60 [(0, .ref 100), (1, .int x1), (2, .int x2), (3, .int x3), (4, .int x4), (5, .int x5)] [.int v_5] σ_4
      refine PW_iload_n (pc' := 61) (q := 3) (pw_dk dc_X11_loopholes 32 rfl) rfl rfl rfl ?_
      refine PW_iand (pc' := 62) (pw_dk dc_X11_loopholes 33 rfl) rfl ?_
      refine PW_if_eq (pc' := 65) (tgt := 68) (pw_dk dc_X11_loopholes 34 rfl) rfl (by decide) (fun c_7 => ?_) (fun c_7 => ?_)
      · rw [if_pos c_7] at h
        exact b_X11_loopholes_68 (f_X11_loopholes_30 n) ih x1 x2 x3 x4 x5 σ_4 h
      · rw [if_neg c_7] at h
        refine PW_iinc (pc' := 68) (q := 4) (v := x4 + 1) (lv' := [(4, .int (x4 + 1)), (0, .ref 100), (1, .int x1), (2, .int x2), (3, .int x3), (5, .int x5)]) (pw_dk dc_X11_loopholes 35 rfl) rfl rfl rfl (by decide) rfl ?_
        refine PW_sub (lv' := [(0, .ref 100), (1, .int x1), (2, .int x2), (3, .int x3), (4, .int (x4 + 1)), (5, .int x5)]) [1, 2, 3, 4, 0, 5] rfl ?_
        exact b_X11_loopholes_68 (f_X11_loopholes_30 n) ih x1 x2 x3 (x4 + 1) x5 σ_4 h
def f_X11_loopholes (x1 : Int32) (x2 : Int32) (σ : zS) : Option (Int32 × zS) := 
  if (f_X11_isMan x1 σ) = 0 then
    some ((-1 : Int32), σ)
  else
    if (f_X11_isKind x2 σ) = 0 then
      some ((-1 : Int32), σ)
    else
      b2 (f_X11_closedParts x1 x2 σ) fun v_7 σ_6 =>
      f_X11_loopholes_30 FU x1 x2 v_7 0 0 σ_6
theorem t_X11_loopholes (x1 : Int32) (x2 : Int32) (σ : zS) (Q : Option Value → zS → Prop) (h : wpO (f_X11_loopholes x1 x2 σ) (fun a => Q (some (.int a.1)) a.2)) : PK alC yX11_loopholes mX11_loopholes (8) [.ref 100, .int x1, .int x2] σ Q := by
  refine PC_ofF (by decide +kernel) rfl rfl (Nat.le_of_ble_eq_true rfl) ?_
  show PZ alC mX11_loopholes (8) Q 0 [(0, .ref 100), (1, .int x1), (2, .int x2)] [] σ
  unfold f_X11_loopholes at h
  refine PW_aload_n (pc' := 1) (q := 0) (pw_dk dc_X11_loopholes 0 rfl) rfl rfl rfl ?_
  refine PW_iload_n (pc' := 2) (q := 1) (pw_dk dc_X11_loopholes 1 rfl) rfl rfl rfl ?_
  refine PZ_callVi (pc' := 5) (y := yX11_isMan) (M' := mX11_isMan) (d' := 0) (As := [.int x1]) (st := []) (b := 100) (ci := 11) (nn := 0) me_100 rfl tw_903 tw_29 (pw_dk dc_X11_loopholes 2 rfl) rfl Y_X11_isMan tw_901 rfl (by decide) (Nat.le_of_ble_eq_true rfl) (t_X11_isMan x1 σ _ ?_)
  refine ⟨_, rfl, fun hn_1 => ?_⟩
  show PZ alC mX11_loopholes (8) Q 5 [(0, .ref 100), (1, .int x1), (2, .int x2)] [.int (f_X11_isMan x1 σ)] σ
  refine PW_if_eq (pc' := 8) (tgt := 15) (pw_dk dc_X11_loopholes 3 rfl) rfl (by decide) (fun c_2 => ?_) (fun c_2 => ?_)
  · rw [if_pos c_2] at h
    refine PW_iconst (pc' := 16) (v := (-1 : Int32)) (pw_dk dc_X11_loopholes 7 rfl) rfl (by decide) ?_
    have z := wp_some h
    exact PZ_iret (ty := .int) (pw_dk dc_X11_loopholes 8 rfl) rfl rfl z
  · rw [if_neg c_2] at h
    refine PW_iload_n (pc' := 9) (q := 2) (pw_dk dc_X11_loopholes 4 rfl) rfl rfl rfl ?_
    refine PZ_callSi (pc' := 12) (y := yX11_isKind) (M' := mX11_isKind) (d' := 0) (As := [.int x2]) (st := []) tw_966 (pw_dk dc_X11_loopholes 5 rfl) rfl Y_X11_isKind tw_965 rfl (by decide) (Nat.le_of_ble_eq_true rfl) (t_X11_isKind x2 σ _ ?_)
    refine ⟨_, rfl, fun hn_3 => ?_⟩
    show PZ alC mX11_loopholes (8) Q 12 [(0, .ref 100), (1, .int x1), (2, .int x2)] [.int (f_X11_isKind x2 σ)] σ
    refine PW_if_ne (pc' := 15) (tgt := 17) (pw_dk dc_X11_loopholes 6 rfl) rfl (by decide) (fun c_4 => ?_) (fun c_4 => ?_)
    · rw [if_neg c_4] at h
      refine PW_aload_n (pc' := 18) (q := 0) (pw_dk dc_X11_loopholes 9 rfl) rfl rfl rfl ?_
      refine PW_iload_n (pc' := 19) (q := 1) (pw_dk dc_X11_loopholes 10 rfl) rfl rfl rfl ?_
      refine PW_iload_n (pc' := 20) (q := 2) (pw_dk dc_X11_loopholes 11 rfl) rfl rfl rfl ?_
      refine PZ_callVi (pc' := 23) (y := yX11_closedParts) (M' := mX11_closedParts) (d' := 7) (As := [.int x1, .int x2]) (st := []) (b := 100) (ci := 11) (nn := 0) me_100 rfl tw_1121 tw_38 (pw_dk dc_X11_loopholes 12 rfl) rfl Y_X11_closedParts tw_1119 rfl (by decide) (Nat.le_of_ble_eq_true rfl) (t_X11_closedParts x1 x2 σ _ ?_)
      obtain ⟨⟨v_7, σ_6⟩, e_8, h⟩ := wp_bind2 h
      refine ⟨(v_7, σ_6), e_8, _, rfl, fun hn_5 => ?_⟩
      show PZ alC mX11_loopholes (8) Q 23 [(0, .ref 100), (1, .int x1), (2, .int x2)] [.int v_7] σ_6
      refine PW_istore_n (pc' := 24) (lv' := [(3, .int v_7), (0, .ref 100), (1, .int x1), (2, .int x2)]) (pw_dk dc_X11_loopholes 13 rfl) rfl rfl (by decide) rfl ?_
      refine PW_iconst (pc' := 25) (v := 0) (pw_dk dc_X11_loopholes 14 rfl) rfl (by decide) ?_
      refine PW_istore (pc' := 27) (lv' := [(4, .int 0), (3, .int v_7), (0, .ref 100), (1, .int x1), (2, .int x2)]) (pw_dk dc_X11_loopholes 15 rfl) rfl (by decide) rfl ?_
      refine PW_iconst (pc' := 28) (v := 0) (pw_dk dc_X11_loopholes 16 rfl) rfl (by decide) ?_
      refine PW_istore (pc' := 30) (lv' := [(5, .int 0), (4, .int 0), (3, .int v_7), (0, .ref 100), (1, .int x1), (2, .int x2)]) (pw_dk dc_X11_loopholes 17 rfl) rfl (by decide) rfl ?_
      refine PW_sub (lv' := [(0, .ref 100), (1, .int x1), (2, .int x2), (3, .int v_7), (4, .int 0), (5, .int 0)]) [3, 4, 5, 2, 1, 0] rfl ?_
      exact b_X11_loopholes_30 FU x1 x2 v_7 0 0 σ_6 h
    · rw [if_pos c_4] at h
      refine PW_iconst (pc' := 16) (v := (-1 : Int32)) (pw_dk dc_X11_loopholes 7 rfl) rfl (by decide) ?_
      have z := wp_some h
      exact PZ_iret (ty := .int) (pw_dk dc_X11_loopholes 8 rfl) rfl rfl z
def f_X11_loophole_82 (r35 : Int32 → Int32 → Int32 → Int32 → Int32 → zS → Option (Int32 × zS)) (x1 : Int32) (x2 : Int32) (x4 : Int32) (x5 : Int32) (x6 : Int32) (σ : zS) : Option (Int32 × zS) := 
  r35 x1 x2 x4 x5 (x6 + 1) σ
theorem b_X11_loophole_82 {Q : Option Value → zS → Prop} (r35 : Int32 → Int32 → Int32 → Int32 → Int32 → zS → Option (Int32 × zS)) (hr35 : ∀ (x1 : Int32) (x2 : Int32) (x4 : Int32) (x5 : Int32) (x6 : Int32) (σ : zS), wpO (r35 x1 x2 x4 x5 x6 σ) (fun a => Q (some (.int a.1)) a.2) → PZ alC mX11_loophole (8) Q 35 [(0, .ref 100), (1, .int x1), (2, .int x2), (4, .int x4), (5, .int x5), (6, .int x6)] [] σ) (x1 : Int32) (x2 : Int32) (x4 : Int32) (x5 : Int32) (x6 : Int32) (σ : zS) (h : wpO (f_X11_loophole_82 r35 x1 x2 x4 x5 x6 σ) (fun a => Q (some (.int a.1)) a.2)) : PZ alC mX11_loophole (8) Q 82 [(0, .ref 100), (1, .int x1), (2, .int x2), (4, .int x4), (5, .int x5), (6, .int x6)] [] σ := by
  unfold f_X11_loophole_82 at h
  refine PW_iinc (pc' := 85) (q := 5) (v := x6 + 1) (lv' := [(6, .int (x6 + 1)), (0, .ref 100), (1, .int x1), (2, .int x2), (4, .int x4), (5, .int x5)]) (pw_dk dc_X11_loophole 42 rfl) rfl rfl rfl (by decide) rfl ?_
  refine PW_goto (tgt := 35) (pw_dk dc_X11_loophole 43 rfl) (by decide) ?_
  refine PW_sub (lv' := [(0, .ref 100), (1, .int x1), (2, .int x2), (4, .int x4), (5, .int x5), (6, .int (x6 + 1))]) [1, 2, 3, 4, 5, 0] rfl ?_
  exact hr35 x1 x2 x4 x5 (x6 + 1) σ h
def f_X11_loophole_35  : Nat → Int32 → Int32 → Int32 → Int32 → Int32 → zS → Option (Int32 × zS)
  | 0, _, _, _, _, _, _ => none
  | n + 1, x1, x2, x4, x5, x6, σ => 
    if (f_X8_states (σ.2.2 0) σ) ≤ x6 then
      some ((-2 : Int32), σ)
    else
      b2 (f_X5_lawfulParts x1 x6 x2 (σ.1 700 0) σ) fun v_5 σ_4 =>
      if (v_5 &&& x4) = 0 then
        f_X11_loophole_82 (f_X11_loophole_35 n) x1 x2 x4 x5 x6 σ_4
      else
        if x5 = 0 then
          some (x6, σ_4)
        else
          f_X11_loophole_82 (f_X11_loophole_35 n) x1 x2 x4 (x5 + (-1 : Int32)) x6 σ_4
theorem b_X11_loophole_35 {Q : Option Value → zS → Prop} : ∀ (n : Nat) (x1 : Int32) (x2 : Int32) (x4 : Int32) (x5 : Int32) (x6 : Int32) (σ : zS) (h : wpO (f_X11_loophole_35 n x1 x2 x4 x5 x6 σ) (fun a => Q (some (.int a.1)) a.2)), PZ alC mX11_loophole (8) Q 35 [(0, .ref 100), (1, .int x1), (2, .int x2), (4, .int x4), (5, .int x5), (6, .int x6)] [] σ := by
  intro n
  induction n with
  | zero => intro x1 x2 x4 x5 x6 σ h; exact wp_none h
  | succ n ih =>
    intro x1 x2 x4 x5 x6 σ h
    rw [f_X11_loophole_35] at h
    refine PW_iload (pc' := 37) (q := 5) (pw_dk dc_X11_loophole 20 rfl) rfl rfl ?_
    refine PW_aload_n (pc' := 38) (q := 0) (pw_dk dc_X11_loophole 21 rfl) rfl rfl rfl ?_
    refine PW_getR (pc' := 41) (id := 100) (ci := 11) (nn := 0) (C0 := RX11) (T := TX11) (N := 15) (j := 4) (r := tv (σ.2.2 0)) (pw_dk dc_X11_loophole 22 rfl) rfl me_100 rfl pi_11 (by decide) fk_11_4 tw_599 (rf_M0 _) (tv0 _) ?_
    refine PZ_callVi (pc' := 44) (y := yX8_states) (M' := mX8_states) (d' := 0) (As := []) (st := [.int x6]) (b := (tv (σ.2.2 0))) (ci := 8) (nn := 0) (me_T _) rfl tw_1094 tw_1095 (pw_dk dc_X11_loophole 23 rfl) rfl Y_X8_states tw_1127 rfl (by decide) (Nat.le_of_ble_eq_true rfl) (t_X8_states (σ.2.2 0) σ _ ?_)
    refine ⟨_, rfl, fun hn_1 => ?_⟩
    show PZ alC mX11_loophole (8) Q 44 [(0, .ref 100), (1, .int x1), (2, .int x2), (4, .int x4), (5, .int x5), (6, .int x6)] [.int (f_X8_states (σ.2.2 0) σ), .int x6] σ
    refine PW_icmp_ge (pc' := 47) (tgt := 88) (pw_dk dc_X11_loophole 24 rfl) rfl (by decide) (fun c_2 => ?_) (fun c_2 => ?_)
    · rw [if_pos c_2] at h
      refine PW_bipush (pc' := 90) (v := (-2 : Int32)) (pw_dk dc_X11_loophole 44 rfl) rfl (by decide) ?_
      have z := wp_some h
      exact PZ_iret (ty := .int) (pw_dk dc_X11_loophole 45 rfl) rfl rfl z
    · rw [if_neg c_2] at h
      refine PW_aload_n (pc' := 48) (q := 0) (pw_dk dc_X11_loophole 25 rfl) rfl rfl rfl ?_
      refine PW_getR (pc' := 51) (id := 100) (ci := 11) (nn := 0) (C0 := RX11) (T := TX11) (N := 15) (j := 6) (r := 1000) (pw_dk dc_X11_loophole 26 rfl) rfl me_100 rfl pi_11 (by decide) fk_11_6 tw_601 (rfl) (by decide) ?_
      refine PW_iload_n (pc' := 52) (q := 1) (pw_dk dc_X11_loophole 27 rfl) rfl rfl rfl ?_
      refine PW_iload (pc' := 54) (q := 5) (pw_dk dc_X11_loophole 28 rfl) rfl rfl ?_
      refine PW_iload_n (pc' := 55) (q := 2) (pw_dk dc_X11_loophole 29 rfl) rfl rfl rfl ?_
      refine PW_aload_n (pc' := 56) (q := 0) (pw_dk dc_X11_loophole 30 rfl) rfl rfl rfl ?_
      refine PW_getR (pc' := 59) (id := 100) (ci := 11) (nn := 0) (C0 := RX11) (T := TX11) (N := 15) (j := 7) (r := 700) (pw_dk dc_X11_loophole 31 rfl) rfl me_100 rfl pi_11 (by decide) fk_11_7 tw_602 (rfl) (by decide) ?_
      refine PZ_getI (pc' := 62) (id := 700) (ci := 0) (nn := 0) (C0 := RX0) (T := TX0) (N := 6) (j := 0) (pw_dk dc_X11_loophole 32 rfl) rfl me_700 rfl pi_0 (by decide) fk_0_0 tw_456 ?_
      refine PZ_callVi (pc' := 65) (y := yX5_lawfulParts) (M' := mX5_lawfulParts) (d' := 6) (As := [.int x1, .int x6, .int x2, .int (σ.1 700 0)]) (st := []) (b := 1000) (ci := 5) (nn := 0) me_1000 rfl tw_1124 tw_1125 (pw_dk dc_X11_loophole 33 rfl) rfl Y_X5_lawfulParts tw_1123 rfl (by decide) (Nat.le_of_ble_eq_true rfl) (t_X5_lawfulParts x1 x6 x2 (σ.1 700 0) σ _ ?_)
      obtain ⟨⟨v_5, σ_4⟩, e_6, h⟩ := wp_bind2 h
      refine ⟨(v_5, σ_4), e_6, _, rfl, fun hn_3 => ?_⟩
      show PZ alC mX11_loophole (8) Q 65 [(0, .ref 100), (1, .int x1), (2, .int x2), (4, .int x4), (5, .int x5), (6, .int x6)] [.int v_5] σ_4
      refine PW_iload (pc' := 67) (q := 3) (pw_dk dc_X11_loophole 34 rfl) rfl rfl ?_
      refine PW_iand (pc' := 68) (pw_dk dc_X11_loophole 35 rfl) rfl ?_
      refine PW_if_eq (pc' := 71) (tgt := 82) (pw_dk dc_X11_loophole 36 rfl) rfl (by decide) (fun c_7 => ?_) (fun c_7 => ?_)
      · rw [if_pos c_7] at h
        exact b_X11_loophole_82 (f_X11_loophole_35 n) ih x1 x2 x4 x5 x6 σ_4 h
      · rw [if_neg c_7] at h
        refine PW_iload (pc' := 73) (q := 4) (pw_dk dc_X11_loophole 37 rfl) rfl rfl ?_
        refine PW_if_ne (pc' := 76) (tgt := 79) (pw_dk dc_X11_loophole 38 rfl) rfl (by decide) (fun c_8 => ?_) (fun c_8 => ?_)
        · rw [if_neg c_8] at h
          refine PW_iinc (pc' := 82) (q := 4) (v := x5 + (-1 : Int32)) (lv' := [(5, .int (x5 + (-1 : Int32))), (0, .ref 100), (1, .int x1), (2, .int x2), (4, .int x4), (6, .int x6)]) (pw_dk dc_X11_loophole 41 rfl) rfl rfl rfl (by decide) rfl ?_
          refine PW_sub (lv' := [(0, .ref 100), (1, .int x1), (2, .int x2), (4, .int x4), (5, .int (x5 + (-1 : Int32))), (6, .int x6)]) [1, 2, 3, 4, 0, 5] rfl ?_
          exact b_X11_loophole_82 (f_X11_loophole_35 n) ih x1 x2 x4 (x5 + (-1 : Int32)) x6 σ_4 h
        · rw [if_pos c_8] at h
          refine PW_iload (pc' := 78) (q := 5) (pw_dk dc_X11_loophole 39 rfl) rfl rfl ?_
          have z := wp_some h
          exact PZ_iret (ty := .int) (pw_dk dc_X11_loophole 40 rfl) rfl rfl z
def f_X11_loophole (x1 : Int32) (x2 : Int32) (x3 : Int32) (σ : zS) : Option (Int32 × zS) := 
  if (f_X11_isMan x1 σ) = 0 then
    some ((-1 : Int32), σ)
  else
    if (f_X11_isKind x2 σ) = 0 then
      some ((-1 : Int32), σ)
    else
      if 0 ≤ x3 then
        b2 (f_X11_closedParts x1 x2 σ) fun v_8 σ_7 =>
        f_X11_loophole_35 FU x1 x2 v_8 x3 0 σ_7
      else
        some ((-1 : Int32), σ)
theorem t_X11_loophole (x1 : Int32) (x2 : Int32) (x3 : Int32) (σ : zS) (Q : Option Value → zS → Prop) (h : wpO (f_X11_loophole x1 x2 x3 σ) (fun a => Q (some (.int a.1)) a.2)) : PK alC yX11_loophole mX11_loophole (8) [.ref 100, .int x1, .int x2, .int x3] σ Q := by
  refine PC_ofF (by decide +kernel) rfl rfl (Nat.le_of_ble_eq_true rfl) ?_
  show PZ alC mX11_loophole (8) Q 0 [(0, .ref 100), (1, .int x1), (2, .int x2), (3, .int x3)] [] σ
  unfold f_X11_loophole at h
  refine PW_aload_n (pc' := 1) (q := 0) (pw_dk dc_X11_loophole 0 rfl) rfl rfl rfl ?_
  refine PW_iload_n (pc' := 2) (q := 1) (pw_dk dc_X11_loophole 1 rfl) rfl rfl rfl ?_
  refine PZ_callVi (pc' := 5) (y := yX11_isMan) (M' := mX11_isMan) (d' := 0) (As := [.int x1]) (st := []) (b := 100) (ci := 11) (nn := 0) me_100 rfl tw_903 tw_29 (pw_dk dc_X11_loophole 2 rfl) rfl Y_X11_isMan tw_901 rfl (by decide) (Nat.le_of_ble_eq_true rfl) (t_X11_isMan x1 σ _ ?_)
  refine ⟨_, rfl, fun hn_1 => ?_⟩
  show PZ alC mX11_loophole (8) Q 5 [(0, .ref 100), (1, .int x1), (2, .int x2), (3, .int x3)] [.int (f_X11_isMan x1 σ)] σ
  refine PW_if_eq (pc' := 8) (tgt := 19) (pw_dk dc_X11_loophole 3 rfl) rfl (by decide) (fun c_2 => ?_) (fun c_2 => ?_)
  · rw [if_pos c_2] at h
    refine PW_iconst (pc' := 20) (v := (-1 : Int32)) (pw_dk dc_X11_loophole 9 rfl) rfl (by decide) ?_
    have z := wp_some h
    exact PZ_iret (ty := .int) (pw_dk dc_X11_loophole 10 rfl) rfl rfl z
  · rw [if_neg c_2] at h
    refine PW_iload_n (pc' := 9) (q := 2) (pw_dk dc_X11_loophole 4 rfl) rfl rfl rfl ?_
    refine PZ_callSi (pc' := 12) (y := yX11_isKind) (M' := mX11_isKind) (d' := 0) (As := [.int x2]) (st := []) tw_966 (pw_dk dc_X11_loophole 5 rfl) rfl Y_X11_isKind tw_965 rfl (by decide) (Nat.le_of_ble_eq_true rfl) (t_X11_isKind x2 σ _ ?_)
    refine ⟨_, rfl, fun hn_3 => ?_⟩
    show PZ alC mX11_loophole (8) Q 12 [(0, .ref 100), (1, .int x1), (2, .int x2), (3, .int x3)] [.int (f_X11_isKind x2 σ)] σ
    refine PW_if_eq (pc' := 15) (tgt := 19) (pw_dk dc_X11_loophole 6 rfl) rfl (by decide) (fun c_4 => ?_) (fun c_4 => ?_)
    · rw [if_pos c_4] at h
      refine PW_iconst (pc' := 20) (v := (-1 : Int32)) (pw_dk dc_X11_loophole 9 rfl) rfl (by decide) ?_
      have z := wp_some h
      exact PZ_iret (ty := .int) (pw_dk dc_X11_loophole 10 rfl) rfl rfl z
    · rw [if_neg c_4] at h
      refine PW_iload_n (pc' := 16) (q := 3) (pw_dk dc_X11_loophole 7 rfl) rfl rfl rfl ?_
      refine PW_if_ge (pc' := 19) (tgt := 21) (pw_dk dc_X11_loophole 8 rfl) rfl (by decide) (fun c_5 => ?_) (fun c_5 => ?_)
      · rw [if_pos c_5] at h
        refine PW_aload_n (pc' := 22) (q := 0) (pw_dk dc_X11_loophole 11 rfl) rfl rfl rfl ?_
        refine PW_iload_n (pc' := 23) (q := 1) (pw_dk dc_X11_loophole 12 rfl) rfl rfl rfl ?_
        refine PW_iload_n (pc' := 24) (q := 2) (pw_dk dc_X11_loophole 13 rfl) rfl rfl rfl ?_
        refine PZ_callVi (pc' := 27) (y := yX11_closedParts) (M' := mX11_closedParts) (d' := 7) (As := [.int x1, .int x2]) (st := []) (b := 100) (ci := 11) (nn := 0) me_100 rfl tw_1121 tw_38 (pw_dk dc_X11_loophole 14 rfl) rfl Y_X11_closedParts tw_1119 rfl (by decide) (Nat.le_of_ble_eq_true rfl) (t_X11_closedParts x1 x2 σ _ ?_)
        obtain ⟨⟨v_8, σ_7⟩, e_9, h⟩ := wp_bind2 h
        refine ⟨(v_8, σ_7), e_9, _, rfl, fun hn_6 => ?_⟩
        show PZ alC mX11_loophole (8) Q 27 [(0, .ref 100), (1, .int x1), (2, .int x2), (3, .int x3)] [.int v_8] σ_7
        refine PW_istore (pc' := 29) (lv' := [(4, .int v_8), (0, .ref 100), (1, .int x1), (2, .int x2), (3, .int x3)]) (pw_dk dc_X11_loophole 15 rfl) rfl (by decide) rfl ?_
        refine PW_iload_n (pc' := 30) (q := 4) (pw_dk dc_X11_loophole 16 rfl) rfl rfl rfl ?_
        refine PW_istore (pc' := 32) (lv' := [(5, .int x3), (4, .int v_8), (0, .ref 100), (1, .int x1), (2, .int x2), (3, .int x3)]) (pw_dk dc_X11_loophole 17 rfl) rfl (by decide) rfl ?_
        refine PW_iconst (pc' := 33) (v := 0) (pw_dk dc_X11_loophole 18 rfl) rfl (by decide) ?_
        refine PW_istore (pc' := 35) (lv' := [(6, .int 0), (5, .int x3), (4, .int v_8), (0, .ref 100), (1, .int x1), (2, .int x2), (3, .int x3)]) (pw_dk dc_X11_loophole 19 rfl) rfl (by decide) rfl ?_
        refine PW_sub (lv' := [(0, .ref 100), (1, .int x1), (2, .int x2), (4, .int v_8), (5, .int x3), (6, .int 0)]) [3, 4, 5, 2, 1, 0] rfl ?_
        exact b_X11_loophole_35 FU x1 x2 v_8 x3 0 σ_7 h
      · rw [if_neg c_5] at h
        refine PW_iconst (pc' := 20) (v := (-1 : Int32)) (pw_dk dc_X11_loophole 9 rfl) rfl (by decide) ?_
        have z := wp_some h
        exact PZ_iret (ty := .int) (pw_dk dc_X11_loophole 10 rfl) rfl rfl z
def f_X11_shut_30  : Nat → Int32 → Int32 → Int32 → Int32 → Int32 → zS → Option (Int32 × zS)
  | 0, _, _, _, _, _, _ => none
  | n + 1, x1, x2, x3, x4, x5, σ => 
    if (f_X8_states (σ.2.2 0) σ) ≤ x5 then
      if ((x4 >>> ((9 : Int32) &&& 31)) &&& (1 : Int32)) = 0 then
        some (x4, σ)
      else
        some ((-2 : Int32), σ)
    else
      b2 (f_X5_lawfulParts x1 x5 x2 (σ.1 700 0) σ) fun v_6 σ_5 =>
      (f_X5_landsOf x5 (v_6 &&& x3) σ_5).bind fun v_9 =>
      lt (α := Int32) (x4 ||| v_9) fun x4_11 =>
      f_X11_shut_30 n x1 x2 x3 x4_11 (x5 + 1) σ_5
theorem b_X11_shut_30 {Q : Option Value → zS → Prop} : ∀ (n : Nat) (x1 : Int32) (x2 : Int32) (x3 : Int32) (x4 : Int32) (x5 : Int32) (σ : zS) (h : wpO (f_X11_shut_30 n x1 x2 x3 x4 x5 σ) (fun a => Q (some (.int a.1)) a.2)), PZ alC mX11_shut (8) Q 30 [(0, .ref 100), (1, .int x1), (2, .int x2), (3, .int x3), (4, .int x4), (5, .int x5)] [] σ := by
  intro n
  induction n with
  | zero => intro x1 x2 x3 x4 x5 σ h; exact wp_none h
  | succ n ih =>
    intro x1 x2 x3 x4 x5 σ h
    rw [f_X11_shut_30] at h
    refine PW_iload (pc' := 32) (q := 5) (pw_dk dc_X11_shut 18 rfl) rfl rfl ?_
    refine PW_aload_n (pc' := 33) (q := 0) (pw_dk dc_X11_shut 19 rfl) rfl rfl rfl ?_
    refine PW_getR (pc' := 36) (id := 100) (ci := 11) (nn := 0) (C0 := RX11) (T := TX11) (N := 15) (j := 4) (r := tv (σ.2.2 0)) (pw_dk dc_X11_shut 20 rfl) rfl me_100 rfl pi_11 (by decide) fk_11_4 tw_599 (rf_M0 _) (tv0 _) ?_
    refine PZ_callVi (pc' := 39) (y := yX8_states) (M' := mX8_states) (d' := 0) (As := []) (st := [.int x5]) (b := (tv (σ.2.2 0))) (ci := 8) (nn := 0) (me_T _) rfl tw_1094 tw_1095 (pw_dk dc_X11_shut 21 rfl) rfl Y_X8_states tw_1127 rfl (by decide) (Nat.le_of_ble_eq_true rfl) (t_X8_states (σ.2.2 0) σ _ ?_)
    refine ⟨_, rfl, fun hn_1 => ?_⟩
    show PZ alC mX11_shut (8) Q 39 [(0, .ref 100), (1, .int x1), (2, .int x2), (3, .int x3), (4, .int x4), (5, .int x5)] [.int (f_X8_states (σ.2.2 0) σ), .int x5] σ
    refine PW_icmp_ge (pc' := 42) (tgt := 82) (pw_dk dc_X11_shut 22 rfl) rfl (by decide) (fun c_2 => ?_) (fun c_2 => ?_)
    · rw [if_pos c_2] at h
      refine PW_iload (pc' := 84) (q := 4) (pw_dk dc_X11_shut 43 rfl) rfl rfl ?_
      refine PW_bipush (pc' := 86) (v := 9) (pw_dk dc_X11_shut 44 rfl) rfl (by decide) ?_
      refine PW_ishr (pc' := 87) (pw_dk dc_X11_shut 45 rfl) rfl ?_
      refine PW_iconst (pc' := 88) (v := 1) (pw_dk dc_X11_shut 46 rfl) rfl (by decide) ?_
      refine PW_iand (pc' := 89) (pw_dk dc_X11_shut 47 rfl) rfl ?_
      refine PW_if_eq (pc' := 92) (tgt := 97) (pw_dk dc_X11_shut 48 rfl) rfl (by decide) (fun c_3 => ?_) (fun c_3 => ?_)
      · rw [if_pos c_3] at h
        refine PW_iload (pc' := 99) (q := 4) (pw_dk dc_X11_shut 51 rfl) rfl rfl ?_
        have z := wp_some h
        exact PZ_iret (ty := .int) (pw_dk dc_X11_shut 52 rfl) rfl rfl z
      · rw [if_neg c_3] at h
        refine PW_bipush (pc' := 94) (v := (-2 : Int32)) (pw_dk dc_X11_shut 49 rfl) rfl (by decide) ?_
        refine PW_goto (tgt := 99) (pw_dk dc_X11_shut 50 rfl) (by decide) ?_
        have z := wp_some h
        exact PZ_iret (ty := .int) (pw_dk dc_X11_shut 52 rfl) rfl rfl z
    · rw [if_neg c_2] at h
      refine PW_iload (pc' := 44) (q := 4) (pw_dk dc_X11_shut 23 rfl) rfl rfl ?_
      refine PW_aload_n (pc' := 45) (q := 0) (pw_dk dc_X11_shut 24 rfl) rfl rfl rfl ?_
      refine PW_getR (pc' := 48) (id := 100) (ci := 11) (nn := 0) (C0 := RX11) (T := TX11) (N := 15) (j := 6) (r := 1000) (pw_dk dc_X11_shut 25 rfl) rfl me_100 rfl pi_11 (by decide) fk_11_6 tw_601 (rfl) (by decide) ?_
      refine PW_iload (pc' := 50) (q := 5) (pw_dk dc_X11_shut 26 rfl) rfl rfl ?_
      refine PW_aload_n (pc' := 51) (q := 0) (pw_dk dc_X11_shut 27 rfl) rfl rfl rfl ?_
      refine PW_getR (pc' := 54) (id := 100) (ci := 11) (nn := 0) (C0 := RX11) (T := TX11) (N := 15) (j := 6) (r := 1000) (pw_dk dc_X11_shut 28 rfl) rfl me_100 rfl pi_11 (by decide) fk_11_6 tw_601 (rfl) (by decide) ?_
      refine PW_iload_n (pc' := 55) (q := 1) (pw_dk dc_X11_shut 29 rfl) rfl rfl rfl ?_
      refine PW_iload (pc' := 57) (q := 5) (pw_dk dc_X11_shut 30 rfl) rfl rfl ?_
      refine PW_iload_n (pc' := 58) (q := 2) (pw_dk dc_X11_shut 31 rfl) rfl rfl rfl ?_
      refine PW_aload_n (pc' := 59) (q := 0) (pw_dk dc_X11_shut 32 rfl) rfl rfl rfl ?_
      refine PW_getR (pc' := 62) (id := 100) (ci := 11) (nn := 0) (C0 := RX11) (T := TX11) (N := 15) (j := 7) (r := 700) (pw_dk dc_X11_shut 33 rfl) rfl me_100 rfl pi_11 (by decide) fk_11_7 tw_602 (rfl) (by decide) ?_
      refine PZ_getI (pc' := 65) (id := 700) (ci := 0) (nn := 0) (C0 := RX0) (T := TX0) (N := 6) (j := 0) (pw_dk dc_X11_shut 34 rfl) rfl me_700 rfl pi_0 (by decide) fk_0_0 tw_456 ?_
      refine PZ_callVi (pc' := 68) (y := yX5_lawfulParts) (M' := mX5_lawfulParts) (d' := 6) (As := [.int x1, .int x5, .int x2, .int (σ.1 700 0)]) (st := [.int x5, .ref 1000, .int x4]) (b := 1000) (ci := 5) (nn := 0) me_1000 rfl tw_1124 tw_1125 (pw_dk dc_X11_shut 35 rfl) rfl Y_X5_lawfulParts tw_1123 rfl (by decide) (Nat.le_of_ble_eq_true rfl) (t_X5_lawfulParts x1 x5 x2 (σ.1 700 0) σ _ ?_)
      obtain ⟨⟨v_6, σ_5⟩, e_7, h⟩ := wp_bind2 h
      refine ⟨(v_6, σ_5), e_7, _, rfl, fun hn_4 => ?_⟩
      show PZ alC mX11_shut (8) Q 68 [(0, .ref 100), (1, .int x1), (2, .int x2), (3, .int x3), (4, .int x4), (5, .int x5)] [.int v_6, .int x5, .ref 1000, .int x4] σ_5
      refine PW_iload_n (pc' := 69) (q := 3) (pw_dk dc_X11_shut 36 rfl) rfl rfl rfl ?_
      refine PW_iand (pc' := 70) (pw_dk dc_X11_shut 37 rfl) rfl ?_
      refine PZ_callVi (pc' := 73) (y := yX5_landsOf) (M' := mX5_landsOf) (d' := 3) (As := [.int x5, .int (v_6 &&& x3)]) (st := [.int x4]) (b := 1000) (ci := 5) (nn := 0) me_1000 rfl tw_1137 tw_1138 (pw_dk dc_X11_shut 38 rfl) rfl Y_X5_landsOf tw_1136 rfl (by decide) (Nat.le_of_ble_eq_true rfl) (t_X5_landsOf x5 (v_6 &&& x3) σ_5 _ ?_)
      obtain ⟨v_9, e_10, h⟩ := wp_bind h
      refine ⟨v_9, e_10, _, rfl, fun hn_8 => ?_⟩
      show PZ alC mX11_shut (8) Q 73 [(0, .ref 100), (1, .int x1), (2, .int x2), (3, .int x3), (4, .int x4), (5, .int x5)] [.int v_9, .int x4] σ_5
      refine PW_ior (pc' := 74) (pw_dk dc_X11_shut 39 rfl) rfl ?_
      refine PW_topi (fun x4_11 ex4_11 => ?_)
      replace h := lt_w h ex4_11
      refine PW_istore (pc' := 76) (lv' := [(4, .int x4_11), (0, .ref 100), (1, .int x1), (2, .int x2), (3, .int x3), (5, .int x5)]) (pw_dk dc_X11_shut 40 rfl) rfl (by decide) rfl ?_
      refine PW_iinc (pc' := 79) (q := 5) (v := x5 + 1) (lv' := [(5, .int (x5 + 1)), (4, .int x4_11), (0, .ref 100), (1, .int x1), (2, .int x2), (3, .int x3)]) (pw_dk dc_X11_shut 41 rfl) rfl rfl rfl (by decide) rfl ?_
      refine PW_goto (tgt := 30) (pw_dk dc_X11_shut 42 rfl) (by decide) ?_
      refine PW_sub (lv' := [(0, .ref 100), (1, .int x1), (2, .int x2), (3, .int x3), (4, .int x4_11), (5, .int (x5 + 1))]) [2, 3, 4, 5, 1, 0] rfl ?_
      exact ih x1 x2 x3 x4_11 (x5 + 1) σ_5 h
def f_X11_shut (x1 : Int32) (x2 : Int32) (σ : zS) : Option (Int32 × zS) := 
  if (f_X11_isMan x1 σ) = 0 then
    some ((-1 : Int32), σ)
  else
    if (f_X11_isKind x2 σ) = 0 then
      some ((-1 : Int32), σ)
    else
      b2 (f_X11_closedParts x1 x2 σ) fun v_7 σ_6 =>
      f_X11_shut_30 FU x1 x2 v_7 0 0 σ_6
theorem t_X11_shut (x1 : Int32) (x2 : Int32) (σ : zS) (Q : Option Value → zS → Prop) (h : wpO (f_X11_shut x1 x2 σ) (fun a => Q (some (.int a.1)) a.2)) : PK alC yX11_shut mX11_shut (8) [.ref 100, .int x1, .int x2] σ Q := by
  refine PC_ofF (by decide +kernel) rfl rfl (Nat.le_of_ble_eq_true rfl) ?_
  show PZ alC mX11_shut (8) Q 0 [(0, .ref 100), (1, .int x1), (2, .int x2)] [] σ
  unfold f_X11_shut at h
  refine PW_aload_n (pc' := 1) (q := 0) (pw_dk dc_X11_shut 0 rfl) rfl rfl rfl ?_
  refine PW_iload_n (pc' := 2) (q := 1) (pw_dk dc_X11_shut 1 rfl) rfl rfl rfl ?_
  refine PZ_callVi (pc' := 5) (y := yX11_isMan) (M' := mX11_isMan) (d' := 0) (As := [.int x1]) (st := []) (b := 100) (ci := 11) (nn := 0) me_100 rfl tw_903 tw_29 (pw_dk dc_X11_shut 2 rfl) rfl Y_X11_isMan tw_901 rfl (by decide) (Nat.le_of_ble_eq_true rfl) (t_X11_isMan x1 σ _ ?_)
  refine ⟨_, rfl, fun hn_1 => ?_⟩
  show PZ alC mX11_shut (8) Q 5 [(0, .ref 100), (1, .int x1), (2, .int x2)] [.int (f_X11_isMan x1 σ)] σ
  refine PW_if_eq (pc' := 8) (tgt := 15) (pw_dk dc_X11_shut 3 rfl) rfl (by decide) (fun c_2 => ?_) (fun c_2 => ?_)
  · rw [if_pos c_2] at h
    refine PW_iconst (pc' := 16) (v := (-1 : Int32)) (pw_dk dc_X11_shut 7 rfl) rfl (by decide) ?_
    have z := wp_some h
    exact PZ_iret (ty := .int) (pw_dk dc_X11_shut 8 rfl) rfl rfl z
  · rw [if_neg c_2] at h
    refine PW_iload_n (pc' := 9) (q := 2) (pw_dk dc_X11_shut 4 rfl) rfl rfl rfl ?_
    refine PZ_callSi (pc' := 12) (y := yX11_isKind) (M' := mX11_isKind) (d' := 0) (As := [.int x2]) (st := []) tw_966 (pw_dk dc_X11_shut 5 rfl) rfl Y_X11_isKind tw_965 rfl (by decide) (Nat.le_of_ble_eq_true rfl) (t_X11_isKind x2 σ _ ?_)
    refine ⟨_, rfl, fun hn_3 => ?_⟩
    show PZ alC mX11_shut (8) Q 12 [(0, .ref 100), (1, .int x1), (2, .int x2)] [.int (f_X11_isKind x2 σ)] σ
    refine PW_if_ne (pc' := 15) (tgt := 17) (pw_dk dc_X11_shut 6 rfl) rfl (by decide) (fun c_4 => ?_) (fun c_4 => ?_)
    · rw [if_neg c_4] at h
      refine PW_aload_n (pc' := 18) (q := 0) (pw_dk dc_X11_shut 9 rfl) rfl rfl rfl ?_
      refine PW_iload_n (pc' := 19) (q := 1) (pw_dk dc_X11_shut 10 rfl) rfl rfl rfl ?_
      refine PW_iload_n (pc' := 20) (q := 2) (pw_dk dc_X11_shut 11 rfl) rfl rfl rfl ?_
      refine PZ_callVi (pc' := 23) (y := yX11_closedParts) (M' := mX11_closedParts) (d' := 7) (As := [.int x1, .int x2]) (st := []) (b := 100) (ci := 11) (nn := 0) me_100 rfl tw_1121 tw_38 (pw_dk dc_X11_shut 12 rfl) rfl Y_X11_closedParts tw_1119 rfl (by decide) (Nat.le_of_ble_eq_true rfl) (t_X11_closedParts x1 x2 σ _ ?_)
      obtain ⟨⟨v_7, σ_6⟩, e_8, h⟩ := wp_bind2 h
      refine ⟨(v_7, σ_6), e_8, _, rfl, fun hn_5 => ?_⟩
      show PZ alC mX11_shut (8) Q 23 [(0, .ref 100), (1, .int x1), (2, .int x2)] [.int v_7] σ_6
      refine PW_istore_n (pc' := 24) (lv' := [(3, .int v_7), (0, .ref 100), (1, .int x1), (2, .int x2)]) (pw_dk dc_X11_shut 13 rfl) rfl rfl (by decide) rfl ?_
      refine PW_iconst (pc' := 25) (v := 0) (pw_dk dc_X11_shut 14 rfl) rfl (by decide) ?_
      refine PW_istore (pc' := 27) (lv' := [(4, .int 0), (3, .int v_7), (0, .ref 100), (1, .int x1), (2, .int x2)]) (pw_dk dc_X11_shut 15 rfl) rfl (by decide) rfl ?_
      refine PW_iconst (pc' := 28) (v := 0) (pw_dk dc_X11_shut 16 rfl) rfl (by decide) ?_
      refine PW_istore (pc' := 30) (lv' := [(5, .int 0), (4, .int 0), (3, .int v_7), (0, .ref 100), (1, .int x1), (2, .int x2)]) (pw_dk dc_X11_shut 17 rfl) rfl (by decide) rfl ?_
      refine PW_sub (lv' := [(0, .ref 100), (1, .int x1), (2, .int x2), (3, .int v_7), (4, .int 0), (5, .int 0)]) [3, 4, 5, 2, 1, 0] rfl ?_
      exact b_X11_shut_30 FU x1 x2 v_7 0 0 σ_6 h
    · rw [if_pos c_4] at h
      refine PW_iconst (pc' := 16) (v := (-1 : Int32)) (pw_dk dc_X11_shut 7 rfl) rfl (by decide) ?_
      have z := wp_some h
      exact PZ_iret (ty := .int) (pw_dk dc_X11_shut 8 rfl) rfl rfl z
def f_X11_rests_67 (r45 : Int32 → Int32 → zS → Option (Int32 × zS)) (x3 : Int32) (x4 : Int32) (σ : zS) : Option (Int32 × zS) := 
  r45 x3 (x4 + 1) σ
theorem b_X11_rests_67 {Q : Option Value → zS → Prop} (r45 : Int32 → Int32 → zS → Option (Int32 × zS)) (hr45 : ∀ (x3 : Int32) (x4 : Int32) (σ : zS), wpO (r45 x3 x4 σ) (fun a => Q (some (.int a.1)) a.2) → PZ alC mX11_rests (8) Q 45 [(0, .ref 100), (3, .int x3), (4, .int x4)] [] σ) (x3 : Int32) (x4 : Int32) (σ : zS) (h : wpO (f_X11_rests_67 r45 x3 x4 σ) (fun a => Q (some (.int a.1)) a.2)) : PZ alC mX11_rests (8) Q 67 [(0, .ref 100), (3, .int x3), (4, .int x4)] [] σ := by
  unfold f_X11_rests_67 at h
  refine PW_iinc (pc' := 70) (q := 2) (v := x4 + 1) (lv' := [(4, .int (x4 + 1)), (0, .ref 100), (3, .int x3)]) (pw_dk dc_X11_rests 35 rfl) rfl rfl rfl (by decide) rfl ?_
  refine PW_goto (tgt := 45) (pw_dk dc_X11_rests 36 rfl) (by decide) ?_
  refine PW_sub (lv' := [(0, .ref 100), (3, .int x3), (4, .int (x4 + 1))]) [1, 2, 0] rfl ?_
  exact hr45 x3 (x4 + 1) σ h
def f_X11_rests_45  : Nat → Int32 → Int32 → zS → Option (Int32 × zS)
  | 0, _, _, _ => none
  | n + 1, x3, x4, σ => 
    if 16 ≤ x4 then
      some (x3, σ)
    else
      (f_X1_isRest x4 σ).bind fun v_3 =>
      if v_3 = 0 then
        f_X11_rests_67 (f_X11_rests_45 n) x3 x4 σ
      else
        f_X11_rests_67 (f_X11_rests_45 n) (x3 + 1) x4 σ
theorem b_X11_rests_45 {Q : Option Value → zS → Prop} : ∀ (n : Nat) (x3 : Int32) (x4 : Int32) (σ : zS) (h : wpO (f_X11_rests_45 n x3 x4 σ) (fun a => Q (some (.int a.1)) a.2)), PZ alC mX11_rests (8) Q 45 [(0, .ref 100), (3, .int x3), (4, .int x4)] [] σ := by
  intro n
  induction n with
  | zero => intro x3 x4 σ h; exact wp_none h
  | succ n ih =>
    intro x3 x4 σ h
    rw [f_X11_rests_45] at h
    refine PW_iload (pc' := 47) (q := 2) (pw_dk dc_X11_rests 26 rfl) rfl rfl ?_
    refine PW_bipush (pc' := 49) (v := 16) (pw_dk dc_X11_rests 27 rfl) rfl (by decide) ?_
    refine PW_icmp_ge (pc' := 52) (tgt := 73) (pw_dk dc_X11_rests 28 rfl) rfl (by decide) (fun c_1 => ?_) (fun c_1 => ?_)
    · rw [if_pos c_1] at h
      refine PW_iload_n (pc' := 74) (q := 1) (pw_dk dc_X11_rests 37 rfl) rfl rfl rfl ?_
      have z := wp_some h
      exact PZ_iret (ty := .int) (pw_dk dc_X11_rests 38 rfl) rfl rfl z
    · rw [if_neg c_1] at h
      refine PW_aload_n (pc' := 53) (q := 0) (pw_dk dc_X11_rests 29 rfl) rfl rfl rfl ?_
      refine PW_getR (pc' := 56) (id := 100) (ci := 11) (nn := 0) (C0 := RX11) (T := TX11) (N := 15) (j := 14) (r := 1600) (pw_dk dc_X11_rests 30 rfl) rfl me_100 rfl pi_11 (by decide) fk_11_14 tw_609 (rfl) (by decide) ?_
      refine PW_iload (pc' := 58) (q := 2) (pw_dk dc_X11_rests 31 rfl) rfl rfl ?_
      refine PZ_callVi (pc' := 61) (y := yX1_isRest) (M' := mX1_isRest) (d' := 0) (As := [.int x4]) (st := []) (b := 1600) (ci := 1) (nn := 0) me_1600 rfl tw_1158 tw_1159 (pw_dk dc_X11_rests 32 rfl) rfl Y_X1_isRest tw_1157 rfl (by decide) (Nat.le_of_ble_eq_true rfl) (t_X1_isRest x4 σ _ ?_)
      obtain ⟨v_3, e_4, h⟩ := wp_bind h
      refine ⟨v_3, e_4, _, rfl, fun hn_2 => ?_⟩
      show PZ alC mX11_rests (8) Q 61 [(0, .ref 100), (3, .int x3), (4, .int x4)] [.int v_3] σ
      refine PW_if_eq (pc' := 64) (tgt := 67) (pw_dk dc_X11_rests 33 rfl) rfl (by decide) (fun c_5 => ?_) (fun c_5 => ?_)
      · rw [if_pos c_5] at h
        exact b_X11_rests_67 (f_X11_rests_45 n) ih x3 x4 σ h
      · rw [if_neg c_5] at h
        refine PW_iinc (pc' := 67) (q := 1) (v := x3 + 1) (lv' := [(3, .int (x3 + 1)), (0, .ref 100), (4, .int x4)]) (pw_dk dc_X11_rests 34 rfl) rfl rfl rfl (by decide) rfl ?_
        refine PW_sub (lv' := [(0, .ref 100), (3, .int (x3 + 1)), (4, .int x4)]) [1, 0, 2] rfl ?_
        exact b_X11_rests_67 (f_X11_rests_45 n) ih (x3 + 1) x4 σ h
def f_X11_rests (x1 : Int32) (x2 : Int32) (σ : zS) : Option (Int32 × zS) := 
  if (f_X11_isMan x1 σ) = 0 then
    some ((-1 : Int32), σ)
  else
    if (f_X11_isMan x2 σ) = 0 then
      some ((-1 : Int32), σ)
    else
      if x1 = x2 then
        some ((-1 : Int32), σ)
      else
        (f_X1_weigh 700 x1 x2 σ).bind fun σ_7 =>
        f_X11_rests_45 FU 0 0 σ_7
theorem t_X11_rests (x1 : Int32) (x2 : Int32) (σ : zS) (Q : Option Value → zS → Prop) (h : wpO (f_X11_rests x1 x2 σ) (fun a => Q (some (.int a.1)) a.2)) : PK alC yX11_rests mX11_rests (8) [.ref 100, .int x1, .int x2] σ Q := by
  refine PC_ofF (by decide +kernel) rfl rfl (Nat.le_of_ble_eq_true rfl) ?_
  show PZ alC mX11_rests (8) Q 0 [(0, .ref 100), (1, .int x1), (2, .int x2)] [] σ
  unfold f_X11_rests at h
  refine PW_aload_n (pc' := 1) (q := 0) (pw_dk dc_X11_rests 0 rfl) rfl rfl rfl ?_
  refine PW_iload_n (pc' := 2) (q := 1) (pw_dk dc_X11_rests 1 rfl) rfl rfl rfl ?_
  refine PZ_callVi (pc' := 5) (y := yX11_isMan) (M' := mX11_isMan) (d' := 0) (As := [.int x1]) (st := []) (b := 100) (ci := 11) (nn := 0) me_100 rfl tw_903 tw_29 (pw_dk dc_X11_rests 2 rfl) rfl Y_X11_isMan tw_901 rfl (by decide) (Nat.le_of_ble_eq_true rfl) (t_X11_isMan x1 σ _ ?_)
  refine ⟨_, rfl, fun hn_1 => ?_⟩
  show PZ alC mX11_rests (8) Q 5 [(0, .ref 100), (1, .int x1), (2, .int x2)] [.int (f_X11_isMan x1 σ)] σ
  refine PW_if_eq (pc' := 8) (tgt := 21) (pw_dk dc_X11_rests 3 rfl) rfl (by decide) (fun c_2 => ?_) (fun c_2 => ?_)
  · rw [if_pos c_2] at h
    refine PW_iconst (pc' := 22) (v := (-1 : Int32)) (pw_dk dc_X11_rests 11 rfl) rfl (by decide) ?_
    have z := wp_some h
    exact PZ_iret (ty := .int) (pw_dk dc_X11_rests 12 rfl) rfl rfl z
  · rw [if_neg c_2] at h
    refine PW_aload_n (pc' := 9) (q := 0) (pw_dk dc_X11_rests 4 rfl) rfl rfl rfl ?_
    refine PW_iload_n (pc' := 10) (q := 2) (pw_dk dc_X11_rests 5 rfl) rfl rfl rfl ?_
    refine PZ_callVi (pc' := 13) (y := yX11_isMan) (M' := mX11_isMan) (d' := 0) (As := [.int x2]) (st := []) (b := 100) (ci := 11) (nn := 0) me_100 rfl tw_903 tw_29 (pw_dk dc_X11_rests 6 rfl) rfl Y_X11_isMan tw_901 rfl (by decide) (Nat.le_of_ble_eq_true rfl) (t_X11_isMan x2 σ _ ?_)
    refine ⟨_, rfl, fun hn_3 => ?_⟩
    show PZ alC mX11_rests (8) Q 13 [(0, .ref 100), (1, .int x1), (2, .int x2)] [.int (f_X11_isMan x2 σ)] σ
    refine PW_if_eq (pc' := 16) (tgt := 21) (pw_dk dc_X11_rests 7 rfl) rfl (by decide) (fun c_4 => ?_) (fun c_4 => ?_)
    · rw [if_pos c_4] at h
      refine PW_iconst (pc' := 22) (v := (-1 : Int32)) (pw_dk dc_X11_rests 11 rfl) rfl (by decide) ?_
      have z := wp_some h
      exact PZ_iret (ty := .int) (pw_dk dc_X11_rests 12 rfl) rfl rfl z
    · rw [if_neg c_4] at h
      refine PW_iload_n (pc' := 17) (q := 1) (pw_dk dc_X11_rests 8 rfl) rfl rfl rfl ?_
      refine PW_iload_n (pc' := 18) (q := 2) (pw_dk dc_X11_rests 9 rfl) rfl rfl rfl ?_
      refine PW_icmp_ne (pc' := 21) (tgt := 23) (pw_dk dc_X11_rests 10 rfl) rfl (by decide) (fun c_5 => ?_) (fun c_5 => ?_)
      · rw [if_neg c_5] at h
        refine PW_aload_n (pc' := 24) (q := 0) (pw_dk dc_X11_rests 13 rfl) rfl rfl rfl ?_
        refine PW_getR (pc' := 27) (id := 100) (ci := 11) (nn := 0) (C0 := RX11) (T := TX11) (N := 15) (j := 14) (r := 1600) (pw_dk dc_X11_rests 14 rfl) rfl me_100 rfl pi_11 (by decide) fk_11_14 tw_609 (rfl) (by decide) ?_
        refine PW_aload_n (pc' := 28) (q := 0) (pw_dk dc_X11_rests 15 rfl) rfl rfl rfl ?_
        refine PW_getR (pc' := 31) (id := 100) (ci := 11) (nn := 0) (C0 := RX11) (T := TX11) (N := 15) (j := 6) (r := 1000) (pw_dk dc_X11_rests 16 rfl) rfl me_100 rfl pi_11 (by decide) fk_11_6 tw_601 (rfl) (by decide) ?_
        refine PW_aload_n (pc' := 32) (q := 0) (pw_dk dc_X11_rests 17 rfl) rfl rfl rfl ?_
        refine PW_getR (pc' := 35) (id := 100) (ci := 11) (nn := 0) (C0 := RX11) (T := TX11) (N := 15) (j := 7) (r := 700) (pw_dk dc_X11_rests 18 rfl) rfl me_100 rfl pi_11 (by decide) fk_11_7 tw_602 (rfl) (by decide) ?_
        refine PW_iload_n (pc' := 36) (q := 1) (pw_dk dc_X11_rests 19 rfl) rfl rfl rfl ?_
        refine PW_iload_n (pc' := 37) (q := 2) (pw_dk dc_X11_rests 20 rfl) rfl rfl rfl ?_
        refine PZ_callVv (pc' := 40) (y := yX1_weigh) (M' := mX1_weigh) (d' := 7) (As := [.ref 1000, .ref 700, .int x1, .int x2]) (st := []) (b := 1600) (ci := 1) (nn := 0) me_1600 rfl tw_1145 tw_1146 (pw_dk dc_X11_rests 21 rfl) rfl Y_X1_weigh tw_1144 rfl (by decide) (Nat.le_of_ble_eq_true rfl) (t_X1_weigh 700 x1 x2 (Or.inl rfl) σ _ ?_)
        obtain ⟨σ_7, e_8, h⟩ := wp_bind h
        refine ⟨σ_7, e_8, rfl, fun hn_6 => ?_⟩
        show PZ alC mX11_rests (8) Q 40 [(0, .ref 100), (1, .int x1), (2, .int x2)] [] σ_7
        refine PW_iconst (pc' := 41) (v := 0) (pw_dk dc_X11_rests 22 rfl) rfl (by decide) ?_
        refine PW_istore_n (pc' := 42) (lv' := [(3, .int 0), (0, .ref 100), (1, .int x1), (2, .int x2)]) (pw_dk dc_X11_rests 23 rfl) rfl rfl (by decide) rfl ?_
        refine PW_iconst (pc' := 43) (v := 0) (pw_dk dc_X11_rests 24 rfl) rfl (by decide) ?_
        refine PW_istore (pc' := 45) (lv' := [(4, .int 0), (3, .int 0), (0, .ref 100), (1, .int x1), (2, .int x2)]) (pw_dk dc_X11_rests 25 rfl) rfl (by decide) rfl ?_
        refine PW_sub (lv' := [(0, .ref 100), (3, .int 0), (4, .int 0)]) [2, 1, 0] rfl ?_
        exact b_X11_rests_45 FU 0 0 σ_7 h
      · rw [if_pos c_5] at h
        refine PW_iconst (pc' := 22) (v := (-1 : Int32)) (pw_dk dc_X11_rests 11 rfl) rfl (by decide) ?_
        have z := wp_some h
        exact PZ_iret (ty := .int) (pw_dk dc_X11_rests 12 rfl) rfl rfl z
def f_X11_rest_90 (r50 : Int32 → Int32 → zS → Option (Int32 × zS)) (x4 : Int32) (x5 : Int32) (σ : zS) : Option (Int32 × zS) := 
  r50 x4 (x5 + 1) σ
theorem b_X11_rest_90 {Q : Option Value → zS → Prop} (r50 : Int32 → Int32 → zS → Option (Int32 × zS)) (hr50 : ∀ (x4 : Int32) (x5 : Int32) (σ : zS), wpO (r50 x4 x5 σ) (fun a => Q (some (.int a.1)) a.2) → PZ alC mX11_rest (8) Q 50 [(0, .ref 100), (4, .int x4), (5, .int x5)] [] σ) (x4 : Int32) (x5 : Int32) (σ : zS) (h : wpO (f_X11_rest_90 r50 x4 x5 σ) (fun a => Q (some (.int a.1)) a.2)) : PZ alC mX11_rest (8) Q 90 [(0, .ref 100), (4, .int x4), (5, .int x5)] [] σ := by
  unfold f_X11_rest_90 at h
  refine PW_iinc (pc' := 93) (q := 2) (v := x5 + 1) (lv' := [(5, .int (x5 + 1)), (0, .ref 100), (4, .int x4)]) (pw_dk dc_X11_rest 49 rfl) rfl rfl rfl (by decide) rfl ?_
  refine PW_goto (tgt := 50) (pw_dk dc_X11_rest 50 rfl) (by decide) ?_
  refine PW_sub (lv' := [(0, .ref 100), (4, .int x4), (5, .int (x5 + 1))]) [1, 2, 0] rfl ?_
  exact hr50 x4 (x5 + 1) σ h
def f_X11_rest_50  : Nat → Int32 → Int32 → zS → Option (Int32 × zS)
  | 0, _, _, _ => none
  | n + 1, x4, x5, σ => 
    if 16 ≤ x5 then
      some ((-2 : Int32), σ)
    else
      (f_X1_isRest x5 σ).bind fun v_3 =>
      if v_3 = 0 then
        f_X11_rest_90 (f_X11_rest_50 n) x4 x5 σ
      else
        if x4 = 0 then
          some (((x5 / (4 : Int32)) * (10 : Int32)) + (x5 - x5 / (4 : Int32) * (4 : Int32)), σ)
        else
          f_X11_rest_90 (f_X11_rest_50 n) (x4 + (-1 : Int32)) x5 σ
theorem b_X11_rest_50 {Q : Option Value → zS → Prop} : ∀ (n : Nat) (x4 : Int32) (x5 : Int32) (σ : zS) (h : wpO (f_X11_rest_50 n x4 x5 σ) (fun a => Q (some (.int a.1)) a.2)), PZ alC mX11_rest (8) Q 50 [(0, .ref 100), (4, .int x4), (5, .int x5)] [] σ := by
  intro n
  induction n with
  | zero => intro x4 x5 σ h; exact wp_none h
  | succ n ih =>
    intro x4 x5 σ h
    rw [f_X11_rest_50] at h
    refine PW_iload (pc' := 52) (q := 2) (pw_dk dc_X11_rest 28 rfl) rfl rfl ?_
    refine PW_bipush (pc' := 54) (v := 16) (pw_dk dc_X11_rest 29 rfl) rfl (by decide) ?_
    refine PW_icmp_ge (pc' := 57) (tgt := 96) (pw_dk dc_X11_rest 30 rfl) rfl (by decide) (fun c_1 => ?_) (fun c_1 => ?_)
    · rw [if_pos c_1] at h
      refine PW_bipush (pc' := 98) (v := (-2 : Int32)) (pw_dk dc_X11_rest 51 rfl) rfl (by decide) ?_
      have z := wp_some h
      exact PZ_iret (ty := .int) (pw_dk dc_X11_rest 52 rfl) rfl rfl z
    · rw [if_neg c_1] at h
      refine PW_aload_n (pc' := 58) (q := 0) (pw_dk dc_X11_rest 31 rfl) rfl rfl rfl ?_
      refine PW_getR (pc' := 61) (id := 100) (ci := 11) (nn := 0) (C0 := RX11) (T := TX11) (N := 15) (j := 14) (r := 1600) (pw_dk dc_X11_rest 32 rfl) rfl me_100 rfl pi_11 (by decide) fk_11_14 tw_609 (rfl) (by decide) ?_
      refine PW_iload (pc' := 63) (q := 2) (pw_dk dc_X11_rest 33 rfl) rfl rfl ?_
      refine PZ_callVi (pc' := 66) (y := yX1_isRest) (M' := mX1_isRest) (d' := 0) (As := [.int x5]) (st := []) (b := 1600) (ci := 1) (nn := 0) me_1600 rfl tw_1158 tw_1159 (pw_dk dc_X11_rest 34 rfl) rfl Y_X1_isRest tw_1157 rfl (by decide) (Nat.le_of_ble_eq_true rfl) (t_X1_isRest x5 σ _ ?_)
      obtain ⟨v_3, e_4, h⟩ := wp_bind h
      refine ⟨v_3, e_4, _, rfl, fun hn_2 => ?_⟩
      show PZ alC mX11_rest (8) Q 66 [(0, .ref 100), (4, .int x4), (5, .int x5)] [.int v_3] σ
      refine PW_if_eq (pc' := 69) (tgt := 90) (pw_dk dc_X11_rest 35 rfl) rfl (by decide) (fun c_5 => ?_) (fun c_5 => ?_)
      · rw [if_pos c_5] at h
        exact b_X11_rest_90 (f_X11_rest_50 n) ih x4 x5 σ h
      · rw [if_neg c_5] at h
        refine PW_iload (pc' := 71) (q := 1) (pw_dk dc_X11_rest 36 rfl) rfl rfl ?_
        refine PW_if_ne (pc' := 74) (tgt := 87) (pw_dk dc_X11_rest 37 rfl) rfl (by decide) (fun c_6 => ?_) (fun c_6 => ?_)
        · rw [if_neg c_6] at h
          refine PW_iinc (pc' := 90) (q := 1) (v := x4 + (-1 : Int32)) (lv' := [(4, .int (x4 + (-1 : Int32))), (0, .ref 100), (5, .int x5)]) (pw_dk dc_X11_rest 48 rfl) rfl rfl rfl (by decide) rfl ?_
          refine PW_sub (lv' := [(0, .ref 100), (4, .int (x4 + (-1 : Int32))), (5, .int x5)]) [1, 0, 2] rfl ?_
          exact b_X11_rest_90 (f_X11_rest_50 n) ih (x4 + (-1 : Int32)) x5 σ h
        · rw [if_pos c_6] at h
          refine PW_iload (pc' := 76) (q := 2) (pw_dk dc_X11_rest 38 rfl) rfl rfl ?_
          refine PW_iconst (pc' := 77) (v := 4) (pw_dk dc_X11_rest 39 rfl) rfl (by decide) ?_
          refine PW_idiv (pc' := 78) (pw_dk dc_X11_rest 40 rfl) rfl (by decide) ?_
          refine PW_bipush (pc' := 80) (v := 10) (pw_dk dc_X11_rest 41 rfl) rfl (by decide) ?_
          refine PW_imul (pc' := 81) (pw_dk dc_X11_rest 42 rfl) rfl ?_
          refine PW_iload (pc' := 83) (q := 2) (pw_dk dc_X11_rest 43 rfl) rfl rfl ?_
          refine PW_iconst (pc' := 84) (v := 4) (pw_dk dc_X11_rest 44 rfl) rfl (by decide) ?_
          refine PW_irem (pc' := 85) (pw_dk dc_X11_rest 45 rfl) rfl (by decide) ?_
          refine PW_iadd (pc' := 86) (pw_dk dc_X11_rest 46 rfl) rfl ?_
          have z := wp_some h
          exact PZ_iret (ty := .int) (pw_dk dc_X11_rest 47 rfl) rfl rfl z
def f_X11_rest (x1 : Int32) (x2 : Int32) (x3 : Int32) (σ : zS) : Option (Int32 × zS) := 
  if (f_X11_isMan x1 σ) = 0 then
    some ((-1 : Int32), σ)
  else
    if (f_X11_isMan x2 σ) = 0 then
      some ((-1 : Int32), σ)
    else
      if x1 = x2 then
        some ((-1 : Int32), σ)
      else
        if 0 ≤ x3 then
          (f_X1_weigh 700 x1 x2 σ).bind fun σ_8 =>
          f_X11_rest_50 FU x3 0 σ_8
        else
          some ((-1 : Int32), σ)
theorem t_X11_rest (x1 : Int32) (x2 : Int32) (x3 : Int32) (σ : zS) (Q : Option Value → zS → Prop) (h : wpO (f_X11_rest x1 x2 x3 σ) (fun a => Q (some (.int a.1)) a.2)) : PK alC yX11_rest mX11_rest (8) [.ref 100, .int x1, .int x2, .int x3] σ Q := by
  refine PC_ofF (by decide +kernel) rfl rfl (Nat.le_of_ble_eq_true rfl) ?_
  show PZ alC mX11_rest (8) Q 0 [(0, .ref 100), (1, .int x1), (2, .int x2), (3, .int x3)] [] σ
  unfold f_X11_rest at h
  refine PW_aload_n (pc' := 1) (q := 0) (pw_dk dc_X11_rest 0 rfl) rfl rfl rfl ?_
  refine PW_iload_n (pc' := 2) (q := 1) (pw_dk dc_X11_rest 1 rfl) rfl rfl rfl ?_
  refine PZ_callVi (pc' := 5) (y := yX11_isMan) (M' := mX11_isMan) (d' := 0) (As := [.int x1]) (st := []) (b := 100) (ci := 11) (nn := 0) me_100 rfl tw_903 tw_29 (pw_dk dc_X11_rest 2 rfl) rfl Y_X11_isMan tw_901 rfl (by decide) (Nat.le_of_ble_eq_true rfl) (t_X11_isMan x1 σ _ ?_)
  refine ⟨_, rfl, fun hn_1 => ?_⟩
  show PZ alC mX11_rest (8) Q 5 [(0, .ref 100), (1, .int x1), (2, .int x2), (3, .int x3)] [.int (f_X11_isMan x1 σ)] σ
  refine PW_if_eq (pc' := 8) (tgt := 25) (pw_dk dc_X11_rest 3 rfl) rfl (by decide) (fun c_2 => ?_) (fun c_2 => ?_)
  · rw [if_pos c_2] at h
    refine PW_iconst (pc' := 26) (v := (-1 : Int32)) (pw_dk dc_X11_rest 13 rfl) rfl (by decide) ?_
    have z := wp_some h
    exact PZ_iret (ty := .int) (pw_dk dc_X11_rest 14 rfl) rfl rfl z
  · rw [if_neg c_2] at h
    refine PW_aload_n (pc' := 9) (q := 0) (pw_dk dc_X11_rest 4 rfl) rfl rfl rfl ?_
    refine PW_iload_n (pc' := 10) (q := 2) (pw_dk dc_X11_rest 5 rfl) rfl rfl rfl ?_
    refine PZ_callVi (pc' := 13) (y := yX11_isMan) (M' := mX11_isMan) (d' := 0) (As := [.int x2]) (st := []) (b := 100) (ci := 11) (nn := 0) me_100 rfl tw_903 tw_29 (pw_dk dc_X11_rest 6 rfl) rfl Y_X11_isMan tw_901 rfl (by decide) (Nat.le_of_ble_eq_true rfl) (t_X11_isMan x2 σ _ ?_)
    refine ⟨_, rfl, fun hn_3 => ?_⟩
    show PZ alC mX11_rest (8) Q 13 [(0, .ref 100), (1, .int x1), (2, .int x2), (3, .int x3)] [.int (f_X11_isMan x2 σ)] σ
    refine PW_if_eq (pc' := 16) (tgt := 25) (pw_dk dc_X11_rest 7 rfl) rfl (by decide) (fun c_4 => ?_) (fun c_4 => ?_)
    · rw [if_pos c_4] at h
      refine PW_iconst (pc' := 26) (v := (-1 : Int32)) (pw_dk dc_X11_rest 13 rfl) rfl (by decide) ?_
      have z := wp_some h
      exact PZ_iret (ty := .int) (pw_dk dc_X11_rest 14 rfl) rfl rfl z
    · rw [if_neg c_4] at h
      refine PW_iload_n (pc' := 17) (q := 1) (pw_dk dc_X11_rest 8 rfl) rfl rfl rfl ?_
      refine PW_iload_n (pc' := 18) (q := 2) (pw_dk dc_X11_rest 9 rfl) rfl rfl rfl ?_
      refine PW_icmp_eq (pc' := 21) (tgt := 25) (pw_dk dc_X11_rest 10 rfl) rfl (by decide) (fun c_5 => ?_) (fun c_5 => ?_)
      · rw [if_pos c_5] at h
        refine PW_iconst (pc' := 26) (v := (-1 : Int32)) (pw_dk dc_X11_rest 13 rfl) rfl (by decide) ?_
        have z := wp_some h
        exact PZ_iret (ty := .int) (pw_dk dc_X11_rest 14 rfl) rfl rfl z
      · rw [if_neg c_5] at h
        refine PW_iload_n (pc' := 22) (q := 3) (pw_dk dc_X11_rest 11 rfl) rfl rfl rfl ?_
        refine PW_if_ge (pc' := 25) (tgt := 27) (pw_dk dc_X11_rest 12 rfl) rfl (by decide) (fun c_6 => ?_) (fun c_6 => ?_)
        · rw [if_pos c_6] at h
          refine PW_aload_n (pc' := 28) (q := 0) (pw_dk dc_X11_rest 15 rfl) rfl rfl rfl ?_
          refine PW_getR (pc' := 31) (id := 100) (ci := 11) (nn := 0) (C0 := RX11) (T := TX11) (N := 15) (j := 14) (r := 1600) (pw_dk dc_X11_rest 16 rfl) rfl me_100 rfl pi_11 (by decide) fk_11_14 tw_609 (rfl) (by decide) ?_
          refine PW_aload_n (pc' := 32) (q := 0) (pw_dk dc_X11_rest 17 rfl) rfl rfl rfl ?_
          refine PW_getR (pc' := 35) (id := 100) (ci := 11) (nn := 0) (C0 := RX11) (T := TX11) (N := 15) (j := 6) (r := 1000) (pw_dk dc_X11_rest 18 rfl) rfl me_100 rfl pi_11 (by decide) fk_11_6 tw_601 (rfl) (by decide) ?_
          refine PW_aload_n (pc' := 36) (q := 0) (pw_dk dc_X11_rest 19 rfl) rfl rfl rfl ?_
          refine PW_getR (pc' := 39) (id := 100) (ci := 11) (nn := 0) (C0 := RX11) (T := TX11) (N := 15) (j := 7) (r := 700) (pw_dk dc_X11_rest 20 rfl) rfl me_100 rfl pi_11 (by decide) fk_11_7 tw_602 (rfl) (by decide) ?_
          refine PW_iload_n (pc' := 40) (q := 1) (pw_dk dc_X11_rest 21 rfl) rfl rfl rfl ?_
          refine PW_iload_n (pc' := 41) (q := 2) (pw_dk dc_X11_rest 22 rfl) rfl rfl rfl ?_
          refine PZ_callVv (pc' := 44) (y := yX1_weigh) (M' := mX1_weigh) (d' := 7) (As := [.ref 1000, .ref 700, .int x1, .int x2]) (st := []) (b := 1600) (ci := 1) (nn := 0) me_1600 rfl tw_1145 tw_1146 (pw_dk dc_X11_rest 23 rfl) rfl Y_X1_weigh tw_1144 rfl (by decide) (Nat.le_of_ble_eq_true rfl) (t_X1_weigh 700 x1 x2 (Or.inl rfl) σ _ ?_)
          obtain ⟨σ_8, e_9, h⟩ := wp_bind h
          refine ⟨σ_8, e_9, rfl, fun hn_7 => ?_⟩
          show PZ alC mX11_rest (8) Q 44 [(0, .ref 100), (1, .int x1), (2, .int x2), (3, .int x3)] [] σ_8
          refine PW_iload_n (pc' := 45) (q := 3) (pw_dk dc_X11_rest 24 rfl) rfl rfl rfl ?_
          refine PW_istore (pc' := 47) (lv' := [(4, .int x3), (0, .ref 100), (1, .int x1), (2, .int x2), (3, .int x3)]) (pw_dk dc_X11_rest 25 rfl) rfl (by decide) rfl ?_
          refine PW_iconst (pc' := 48) (v := 0) (pw_dk dc_X11_rest 26 rfl) rfl (by decide) ?_
          refine PW_istore (pc' := 50) (lv' := [(5, .int 0), (4, .int x3), (0, .ref 100), (1, .int x1), (2, .int x2), (3, .int x3)]) (pw_dk dc_X11_rest 27 rfl) rfl (by decide) rfl ?_
          refine PW_sub (lv' := [(0, .ref 100), (4, .int x3), (5, .int 0)]) [2, 1, 0] rfl ?_
          exact b_X11_rest_50 FU x3 0 σ_8 h
        · rw [if_neg c_6] at h
          refine PW_iconst (pc' := 26) (v := (-1 : Int32)) (pw_dk dc_X11_rest 13 rfl) rfl (by decide) ?_
          have z := wp_some h
          exact PZ_iret (ty := .int) (pw_dk dc_X11_rest 14 rfl) rfl rfl z
