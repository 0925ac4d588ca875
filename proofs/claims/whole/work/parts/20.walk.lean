/-! walks (printed by wip/gen) -/
def f_X12_sign_150   (σ : zS) : Option zS := 
  if (σ.1 5000 27) < 256 then
    some σ
  else
    lt (wI σ 5000 24 ((σ.1 5000 24) + (1 : Int32))) fun σ_2 =>
    some σ_2
theorem b_X12_sign_150 {Q : Option Value → zS → Prop}  (σ : zS) (h : wpO (f_X12_sign_150 σ) (fun s => Q none s)) : PZ alM mX12_sign (1) Q 150 [(0, .ref 5000)] [] σ := by
  unfold f_X12_sign_150 at h
  refine PW_aload_n (pc' := 151) (q := 0) (pw_dk dc_X12_sign 74 rfl) rfl rfl rfl ?_
  refine PZ_getI (pc' := 154) (id := 5000) (ci := 12) (nn := 0) (C0 := RX12) (T := TX12) (N := 62) (j := 27) (pw_dk dc_X12_sign 75 rfl) rfl me_5000 rfl pi_12 (by decide) fk_12_27 tw_1424 ?_
  refine PW_sipush (pc' := 157) (v := 256) (pw_dk dc_X12_sign 76 rfl) rfl (by decide) ?_
  refine PW_icmp_lt (pc' := 160) (tgt := 170) (pw_dk dc_X12_sign 77 rfl) rfl (by decide) (fun c_1 => ?_) (fun c_1 => ?_)
  · rw [if_pos c_1] at h
    have z := wp_some h
    exact PZ_vret (pw_dk dc_X12_sign 84 rfl) rfl z
  · rw [if_neg c_1] at h
    refine PW_aload_n (pc' := 161) (q := 0) (pw_dk dc_X12_sign 78 rfl) rfl rfl rfl ?_
    refine PW_dup (pc' := 162) (pw_dk dc_X12_sign 79 rfl) rfl rfl ?_
    refine PZ_getI (pc' := 165) (id := 5000) (ci := 12) (nn := 0) (C0 := RX12) (T := TX12) (N := 62) (j := 24) (pw_dk dc_X12_sign 80 rfl) rfl me_5000 rfl pi_12 (by decide) fk_12_24 tw_1421 ?_
    refine PW_iconst (pc' := 166) (v := 1) (pw_dk dc_X12_sign 81 rfl) rfl (by decide) ?_
    refine PW_iadd (pc' := 167) (pw_dk dc_X12_sign 82 rfl) rfl ?_
    obtain ⟨σ_2, e_3, h⟩ := lt_x h
    refine PZ_putX (pc' := 170) (σ' := σ_2) (id := 5000) (ci := 12) (nn := 0) (C0 := RX12) (T := TX12) (N := 62) (j := 24) (ty := tyX12 24) (pw_dk dc_X12_sign 83 rfl) rfl me_5000 rfl pi_12 tyX12_ok nmX12 (by decide) fk_12_24 tw_1421 rfl (tyX12_ok 24 (by decide)) (by first | rfl | decide) (by first | rfl | decide) e_3 ?_
    have z := wp_some h
    exact PZ_vret (pw_dk dc_X12_sign 84 rfl) rfl z
def f_X12_sign_128  (x1 : Int32) (σ : zS) : Option zS := 
  if x1 = 62 then
    (f_X12_here σ).bind fun v_3 =>
    if v_3 = 61 then
      lt (wI σ 5000 27 258) fun σ_6 =>
      f_X12_sign_150 σ_6
    else
      f_X12_sign_150 σ
  else
    f_X12_sign_150 σ
theorem b_X12_sign_128 {Q : Option Value → zS → Prop} (x1 : Int32) (σ : zS) (h : wpO (f_X12_sign_128 x1 σ) (fun s => Q none s)) : PZ alM mX12_sign (1) Q 128 [(0, .ref 5000), (1, .int x1)] [] σ := by
  unfold f_X12_sign_128 at h
  refine PW_iload_n (pc' := 129) (q := 1) (pw_dk dc_X12_sign 64 rfl) rfl rfl rfl ?_
  refine PW_bipush (pc' := 131) (v := 62) (pw_dk dc_X12_sign 65 rfl) rfl (by decide) ?_
  refine PW_icmp_ne (pc' := 134) (tgt := 150) (pw_dk dc_X12_sign 66 rfl) rfl (by decide) (fun c_1 => ?_) (fun c_1 => ?_)
  · rw [if_neg c_1] at h
    refine PW_sub (lv' := [(0, .ref 5000)]) [0] rfl ?_
    exact b_X12_sign_150 σ h
  · rw [if_pos c_1] at h
    refine PW_aload_n (pc' := 135) (q := 0) (pw_dk dc_X12_sign 67 rfl) rfl rfl rfl ?_
    refine PZ_callVi (pc' := 138) (y := yX12_here) (M' := mX12_here) (d' := 0) (As := []) (st := []) (b := 5000) (ci := 12) (nn := 0) me_5000 rfl tw_1606 tw_50 (pw_dk dc_X12_sign 68 rfl) rfl Y_X12_here tw_1604 rfl (by decide) (Nat.le_of_ble_eq_true rfl) (t_X12_here σ _ ?_)
    obtain ⟨v_3, e_4, h⟩ := wp_bind h
    refine ⟨v_3, e_4, _, rfl, fun hn_2 => ?_⟩
    show PZ alM mX12_sign (1) Q 138 [(0, .ref 5000), (1, .int x1)] [.int v_3] σ
    refine PW_bipush (pc' := 140) (v := 61) (pw_dk dc_X12_sign 69 rfl) rfl (by decide) ?_
    refine PW_icmp_ne (pc' := 143) (tgt := 150) (pw_dk dc_X12_sign 70 rfl) rfl (by decide) (fun c_5 => ?_) (fun c_5 => ?_)
    · rw [if_neg c_5] at h
      refine PW_sub (lv' := [(0, .ref 5000)]) [0] rfl ?_
      exact b_X12_sign_150 σ h
    · rw [if_pos c_5] at h
      refine PW_aload_n (pc' := 144) (q := 0) (pw_dk dc_X12_sign 71 rfl) rfl rfl rfl ?_
      refine PW_sipush (pc' := 147) (v := 258) (pw_dk dc_X12_sign 72 rfl) rfl (by decide) ?_
      obtain ⟨σ_6, e_7, h⟩ := lt_x h
      refine PZ_putX (pc' := 150) (σ' := σ_6) (id := 5000) (ci := 12) (nn := 0) (C0 := RX12) (T := TX12) (N := 62) (j := 27) (ty := tyX12 27) (pw_dk dc_X12_sign 73 rfl) rfl me_5000 rfl pi_12 tyX12_ok nmX12 (by decide) fk_12_27 tw_1424 rfl (tyX12_ok 27 (by decide)) (by first | rfl | decide) (by first | rfl | decide) e_7 ?_
      refine PW_sub (lv' := [(0, .ref 5000)]) [0] rfl ?_
      exact b_X12_sign_150 σ_6 h
def f_X12_sign_106  (x1 : Int32) (σ : zS) : Option zS := 
  if x1 = 60 then
    (f_X12_here σ).bind fun v_3 =>
    if v_3 = 62 then
      lt (wI σ 5000 27 257) fun σ_6 =>
      f_X12_sign_128 x1 σ_6
    else
      f_X12_sign_128 x1 σ
  else
    f_X12_sign_128 x1 σ
theorem b_X12_sign_106 {Q : Option Value → zS → Prop} (x1 : Int32) (σ : zS) (h : wpO (f_X12_sign_106 x1 σ) (fun s => Q none s)) : PZ alM mX12_sign (1) Q 106 [(0, .ref 5000), (1, .int x1)] [] σ := by
  unfold f_X12_sign_106 at h
  refine PW_iload_n (pc' := 107) (q := 1) (pw_dk dc_X12_sign 54 rfl) rfl rfl rfl ?_
  refine PW_bipush (pc' := 109) (v := 60) (pw_dk dc_X12_sign 55 rfl) rfl (by decide) ?_
  refine PW_icmp_ne (pc' := 112) (tgt := 128) (pw_dk dc_X12_sign 56 rfl) rfl (by decide) (fun c_1 => ?_) (fun c_1 => ?_)
  · rw [if_neg c_1] at h
    exact b_X12_sign_128 x1 σ h
  · rw [if_pos c_1] at h
    refine PW_aload_n (pc' := 113) (q := 0) (pw_dk dc_X12_sign 57 rfl) rfl rfl rfl ?_
    refine PZ_callVi (pc' := 116) (y := yX12_here) (M' := mX12_here) (d' := 0) (As := []) (st := []) (b := 5000) (ci := 12) (nn := 0) me_5000 rfl tw_1606 tw_50 (pw_dk dc_X12_sign 58 rfl) rfl Y_X12_here tw_1604 rfl (by decide) (Nat.le_of_ble_eq_true rfl) (t_X12_here σ _ ?_)
    obtain ⟨v_3, e_4, h⟩ := wp_bind h
    refine ⟨v_3, e_4, _, rfl, fun hn_2 => ?_⟩
    show PZ alM mX12_sign (1) Q 116 [(0, .ref 5000), (1, .int x1)] [.int v_3] σ
    refine PW_bipush (pc' := 118) (v := 62) (pw_dk dc_X12_sign 59 rfl) rfl (by decide) ?_
    refine PW_icmp_ne (pc' := 121) (tgt := 128) (pw_dk dc_X12_sign 60 rfl) rfl (by decide) (fun c_5 => ?_) (fun c_5 => ?_)
    · rw [if_neg c_5] at h
      exact b_X12_sign_128 x1 σ h
    · rw [if_pos c_5] at h
      refine PW_aload_n (pc' := 122) (q := 0) (pw_dk dc_X12_sign 61 rfl) rfl rfl rfl ?_
      refine PW_sipush (pc' := 125) (v := 257) (pw_dk dc_X12_sign 62 rfl) rfl (by decide) ?_
      obtain ⟨σ_6, e_7, h⟩ := lt_x h
      refine PZ_putX (pc' := 128) (σ' := σ_6) (id := 5000) (ci := 12) (nn := 0) (C0 := RX12) (T := TX12) (N := 62) (j := 27) (ty := tyX12 27) (pw_dk dc_X12_sign 63 rfl) rfl me_5000 rfl pi_12 tyX12_ok nmX12 (by decide) fk_12_27 tw_1424 rfl (tyX12_ok 27 (by decide)) (by first | rfl | decide) (by first | rfl | decide) e_7 ?_
      exact b_X12_sign_128 x1 σ_6 h
def f_X12_sign_76  (x1 : Int32) (s1 : Int32) (σ : zS) : Option zS := 
  lt (wI σ 5000 26 s1) fun σ_1 =>
  lt (wI σ_1 5000 27 x1) fun σ_3 =>
  if x1 = 60 then
    (f_X12_here σ_3).bind fun v_7 =>
    if v_7 = 61 then
      lt (wI σ_3 5000 27 256) fun σ_10 =>
      f_X12_sign_106 x1 σ_10
    else
      f_X12_sign_106 x1 σ_3
  else
    f_X12_sign_106 x1 σ_3
theorem b_X12_sign_76 {Q : Option Value → zS → Prop} (x1 : Int32) (s1 : Int32) (σ : zS) (h : wpO (f_X12_sign_76 x1 s1 σ) (fun s => Q none s)) : PZ alM mX12_sign (1) Q 76 [(0, .ref 5000), (1, .int x1)] [.int s1, .ref 5000] σ := by
  unfold f_X12_sign_76 at h
  obtain ⟨σ_1, e_2, h⟩ := lt_x h
  refine PZ_putX (pc' := 79) (σ' := σ_1) (id := 5000) (ci := 12) (nn := 0) (C0 := RX12) (T := TX12) (N := 62) (j := 26) (ty := tyX12 26) (pw_dk dc_X12_sign 40 rfl) rfl me_5000 rfl pi_12 tyX12_ok nmX12 (by decide) fk_12_26 tw_1423 rfl (tyX12_ok 26 (by decide)) (by first | rfl | decide) (by first | rfl | decide) e_2 ?_
  refine PW_aload_n (pc' := 80) (q := 0) (pw_dk dc_X12_sign 41 rfl) rfl rfl rfl ?_
  refine PW_iload_n (pc' := 81) (q := 1) (pw_dk dc_X12_sign 42 rfl) rfl rfl rfl ?_
  obtain ⟨σ_3, e_4, h⟩ := lt_x h
  refine PZ_putX (pc' := 84) (σ' := σ_3) (id := 5000) (ci := 12) (nn := 0) (C0 := RX12) (T := TX12) (N := 62) (j := 27) (ty := tyX12 27) (pw_dk dc_X12_sign 43 rfl) rfl me_5000 rfl pi_12 tyX12_ok nmX12 (by decide) fk_12_27 tw_1424 rfl (tyX12_ok 27 (by decide)) (by first | rfl | decide) (by first | rfl | decide) e_4 ?_
  refine PW_iload_n (pc' := 85) (q := 1) (pw_dk dc_X12_sign 44 rfl) rfl rfl rfl ?_
  refine PW_bipush (pc' := 87) (v := 60) (pw_dk dc_X12_sign 45 rfl) rfl (by decide) ?_
  refine PW_icmp_ne (pc' := 90) (tgt := 106) (pw_dk dc_X12_sign 46 rfl) rfl (by decide) (fun c_5 => ?_) (fun c_5 => ?_)
  · rw [if_neg c_5] at h
    exact b_X12_sign_106 x1 σ_3 h
  · rw [if_pos c_5] at h
    refine PW_aload_n (pc' := 91) (q := 0) (pw_dk dc_X12_sign 47 rfl) rfl rfl rfl ?_
    refine PZ_callVi (pc' := 94) (y := yX12_here) (M' := mX12_here) (d' := 0) (As := []) (st := []) (b := 5000) (ci := 12) (nn := 0) me_5000 rfl tw_1606 tw_50 (pw_dk dc_X12_sign 48 rfl) rfl Y_X12_here tw_1604 rfl (by decide) (Nat.le_of_ble_eq_true rfl) (t_X12_here σ_3 _ ?_)
    obtain ⟨v_7, e_8, h⟩ := wp_bind h
    refine ⟨v_7, e_8, _, rfl, fun hn_6 => ?_⟩
    show PZ alM mX12_sign (1) Q 94 [(0, .ref 5000), (1, .int x1)] [.int v_7] σ_3
    refine PW_bipush (pc' := 96) (v := 61) (pw_dk dc_X12_sign 49 rfl) rfl (by decide) ?_
    refine PW_icmp_ne (pc' := 99) (tgt := 106) (pw_dk dc_X12_sign 50 rfl) rfl (by decide) (fun c_9 => ?_) (fun c_9 => ?_)
    · rw [if_neg c_9] at h
      exact b_X12_sign_106 x1 σ_3 h
    · rw [if_pos c_9] at h
      refine PW_aload_n (pc' := 100) (q := 0) (pw_dk dc_X12_sign 51 rfl) rfl rfl rfl ?_
      refine PW_sipush (pc' := 103) (v := 256) (pw_dk dc_X12_sign 52 rfl) rfl (by decide) ?_
      obtain ⟨σ_10, e_11, h⟩ := lt_x h
      refine PZ_putX (pc' := 106) (σ' := σ_10) (id := 5000) (ci := 12) (nn := 0) (C0 := RX12) (T := TX12) (N := 62) (j := 27) (ty := tyX12 27) (pw_dk dc_X12_sign 53 rfl) rfl me_5000 rfl pi_12 tyX12_ok nmX12 (by decide) fk_12_27 tw_1424 rfl (tyX12_ok 27 (by decide)) (by first | rfl | decide) (by first | rfl | decide) e_11 ?_
      exact b_X12_sign_106 x1 σ_10 h
def f_X12_sign_71  (x1 : Int32) (σ : zS) : Option zS := 
  f_X12_sign_76 x1 3 σ
theorem b_X12_sign_71 {Q : Option Value → zS → Prop} (x1 : Int32) (σ : zS) (h : wpO (f_X12_sign_71 x1 σ) (fun s => Q none s)) : PZ alM mX12_sign (1) Q 71 [(0, .ref 5000), (1, .int x1)] [.ref 5000] σ := by
  unfold f_X12_sign_71 at h
  refine PW_iconst (pc' := 72) (v := 3) (pw_dk dc_X12_sign 37 rfl) rfl (by decide) ?_
  refine PW_goto (tgt := 76) (pw_dk dc_X12_sign 38 rfl) (by decide) ?_
  exact b_X12_sign_76 x1 3 σ h
def f_X12_sign (x1 : Int32) (σ : zS) : Option zS := 
  lt (wI σ 5000 24 ((σ.1 5000 24) + (1 : Int32))) fun σ_1 =>
  if x1 = 59 then
    f_X12_sign_71 x1 σ_1
  else
    if x1 = 40 then
      f_X12_sign_71 x1 σ_1
    else
      if x1 = 41 then
        f_X12_sign_71 x1 σ_1
      else
        if x1 = 43 then
          f_X12_sign_71 x1 σ_1
        else
          if x1 = 45 then
            f_X12_sign_71 x1 σ_1
          else
            if x1 = 42 then
              f_X12_sign_71 x1 σ_1
            else
              if x1 = 47 then
                f_X12_sign_71 x1 σ_1
              else
                if x1 = 60 then
                  f_X12_sign_71 x1 σ_1
                else
                  if x1 = 61 then
                    f_X12_sign_71 x1 σ_1
                  else
                    if x1 = 62 then
                      f_X12_sign_71 x1 σ_1
                    else
                      f_X12_sign_76 x1 5 σ_1
theorem t_X12_sign (x1 : Int32) (σ : zS) (Q : Option Value → zS → Prop) (h : wpO (f_X12_sign x1 σ) (fun s => Q none s)) : PK alM yX12_sign mX12_sign (1) [.ref 5000, .int x1] σ Q := by
  refine PC_ofF (by decide +kernel) rfl rfl (Nat.le_of_ble_eq_true rfl) ?_
  show PZ alM mX12_sign (1) Q 0 [(0, .ref 5000), (1, .int x1)] [] σ
  unfold f_X12_sign at h
  refine PW_aload_n (pc' := 1) (q := 0) (pw_dk dc_X12_sign 0 rfl) rfl rfl rfl ?_
  refine PW_dup (pc' := 2) (pw_dk dc_X12_sign 1 rfl) rfl rfl ?_
  refine PZ_getI (pc' := 5) (id := 5000) (ci := 12) (nn := 0) (C0 := RX12) (T := TX12) (N := 62) (j := 24) (pw_dk dc_X12_sign 2 rfl) rfl me_5000 rfl pi_12 (by decide) fk_12_24 tw_1421 ?_
  refine PW_iconst (pc' := 6) (v := 1) (pw_dk dc_X12_sign 3 rfl) rfl (by decide) ?_
  refine PW_iadd (pc' := 7) (pw_dk dc_X12_sign 4 rfl) rfl ?_
  obtain ⟨σ_1, e_2, h⟩ := lt_x h
  refine PZ_putX (pc' := 10) (σ' := σ_1) (id := 5000) (ci := 12) (nn := 0) (C0 := RX12) (T := TX12) (N := 62) (j := 24) (ty := tyX12 24) (pw_dk dc_X12_sign 5 rfl) rfl me_5000 rfl pi_12 tyX12_ok nmX12 (by decide) fk_12_24 tw_1421 rfl (tyX12_ok 24 (by decide)) (by first | rfl | decide) (by first | rfl | decide) e_2 ?_
  refine PW_aload_n (pc' := 11) (q := 0) (pw_dk dc_X12_sign 6 rfl) rfl rfl rfl ?_
  refine PW_iload_n (pc' := 12) (q := 1) (pw_dk dc_X12_sign 7 rfl) rfl rfl rfl ?_
  refine PW_bipush (pc' := 14) (v := 59) (pw_dk dc_X12_sign 8 rfl) rfl (by decide) ?_
  refine PW_icmp_eq (pc' := 17) (tgt := 71) (pw_dk dc_X12_sign 9 rfl) rfl (by decide) (fun c_3 => ?_) (fun c_3 => ?_)
  · rw [if_pos c_3] at h
    exact b_X12_sign_71 x1 σ_1 h
  · rw [if_neg c_3] at h
    refine PW_iload_n (pc' := 18) (q := 1) (pw_dk dc_X12_sign 10 rfl) rfl rfl rfl ?_
    refine PW_bipush (pc' := 20) (v := 40) (pw_dk dc_X12_sign 11 rfl) rfl (by decide) ?_
    refine PW_icmp_eq (pc' := 23) (tgt := 71) (pw_dk dc_X12_sign 12 rfl) rfl (by decide) (fun c_4 => ?_) (fun c_4 => ?_)
    · rw [if_pos c_4] at h
      exact b_X12_sign_71 x1 σ_1 h
    · rw [if_neg c_4] at h
      refine PW_iload_n (pc' := 24) (q := 1) (pw_dk dc_X12_sign 13 rfl) rfl rfl rfl ?_
      refine PW_bipush (pc' := 26) (v := 41) (pw_dk dc_X12_sign 14 rfl) rfl (by decide) ?_
      refine PW_icmp_eq (pc' := 29) (tgt := 71) (pw_dk dc_X12_sign 15 rfl) rfl (by decide) (fun c_5 => ?_) (fun c_5 => ?_)
      · rw [if_pos c_5] at h
        exact b_X12_sign_71 x1 σ_1 h
      · rw [if_neg c_5] at h
        refine PW_iload_n (pc' := 30) (q := 1) (pw_dk dc_X12_sign 16 rfl) rfl rfl rfl ?_
        refine PW_bipush (pc' := 32) (v := 43) (pw_dk dc_X12_sign 17 rfl) rfl (by decide) ?_
        refine PW_icmp_eq (pc' := 35) (tgt := 71) (pw_dk dc_X12_sign 18 rfl) rfl (by decide) (fun c_6 => ?_) (fun c_6 => ?_)
        · rw [if_pos c_6] at h
          exact b_X12_sign_71 x1 σ_1 h
        · rw [if_neg c_6] at h
          refine PW_iload_n (pc' := 36) (q := 1) (pw_dk dc_X12_sign 19 rfl) rfl rfl rfl ?_
          refine PW_bipush (pc' := 38) (v := 45) (pw_dk dc_X12_sign 20 rfl) rfl (by decide) ?_
          refine PW_icmp_eq (pc' := 41) (tgt := 71) (pw_dk dc_X12_sign 21 rfl) rfl (by decide) (fun c_7 => ?_) (fun c_7 => ?_)
          · rw [if_pos c_7] at h
            exact b_X12_sign_71 x1 σ_1 h
          · rw [if_neg c_7] at h
            refine PW_iload_n (pc' := 42) (q := 1) (pw_dk dc_X12_sign 22 rfl) rfl rfl rfl ?_
            refine PW_bipush (pc' := 44) (v := 42) (pw_dk dc_X12_sign 23 rfl) rfl (by decide) ?_
            refine PW_icmp_eq (pc' := 47) (tgt := 71) (pw_dk dc_X12_sign 24 rfl) rfl (by decide) (fun c_8 => ?_) (fun c_8 => ?_)
            · rw [if_pos c_8] at h
              exact b_X12_sign_71 x1 σ_1 h
            · rw [if_neg c_8] at h
              refine PW_iload_n (pc' := 48) (q := 1) (pw_dk dc_X12_sign 25 rfl) rfl rfl rfl ?_
              refine PW_bipush (pc' := 50) (v := 47) (pw_dk dc_X12_sign 26 rfl) rfl (by decide) ?_
              refine PW_icmp_eq (pc' := 53) (tgt := 71) (pw_dk dc_X12_sign 27 rfl) rfl (by decide) (fun c_9 => ?_) (fun c_9 => ?_)
              · rw [if_pos c_9] at h
                exact b_X12_sign_71 x1 σ_1 h
              · rw [if_neg c_9] at h
                refine PW_iload_n (pc' := 54) (q := 1) (pw_dk dc_X12_sign 28 rfl) rfl rfl rfl ?_
                refine PW_bipush (pc' := 56) (v := 60) (pw_dk dc_X12_sign 29 rfl) rfl (by decide) ?_
                refine PW_icmp_eq (pc' := 59) (tgt := 71) (pw_dk dc_X12_sign 30 rfl) rfl (by decide) (fun c_10 => ?_) (fun c_10 => ?_)
                · rw [if_pos c_10] at h
                  exact b_X12_sign_71 x1 σ_1 h
                · rw [if_neg c_10] at h
                  refine PW_iload_n (pc' := 60) (q := 1) (pw_dk dc_X12_sign 31 rfl) rfl rfl rfl ?_
                  refine PW_bipush (pc' := 62) (v := 61) (pw_dk dc_X12_sign 32 rfl) rfl (by decide) ?_
                  refine PW_icmp_eq (pc' := 65) (tgt := 71) (pw_dk dc_X12_sign 33 rfl) rfl (by decide) (fun c_11 => ?_) (fun c_11 => ?_)
                  · rw [if_pos c_11] at h
                    exact b_X12_sign_71 x1 σ_1 h
                  · rw [if_neg c_11] at h
                    refine PW_iload_n (pc' := 66) (q := 1) (pw_dk dc_X12_sign 34 rfl) rfl rfl rfl ?_
                    refine PW_bipush (pc' := 68) (v := 62) (pw_dk dc_X12_sign 35 rfl) rfl (by decide) ?_
                    refine PW_icmp_ne (pc' := 71) (tgt := 75) (pw_dk dc_X12_sign 36 rfl) rfl (by decide) (fun c_12 => ?_) (fun c_12 => ?_)
                    · rw [if_neg c_12] at h
                      refine PW_iconst (pc' := 76) (v := 5) (pw_dk dc_X12_sign 39 rfl) rfl (by decide) ?_
                      exact b_X12_sign_76 x1 5 σ_1 h
                    · rw [if_pos c_12] at h
                      exact b_X12_sign_71 x1 σ_1 h
def f_J0_isLatin1_aae02 (ti : Nat) (σ : zS) : Int32 := 
  if (1 : Int32) = 0 then
    0
  else
    if (0 : Int32) = 0 then
      1
    else
      0
theorem t_J0_isLatin1_aae02 (al : pAL) (ti : Nat) (hti : ti < 2) (σ : zS) (Q : Option Value → zS → Prop) (h : Q (some (.int (f_J0_isLatin1_aae02 ti σ))) σ) : PK al yJ0_isLatin1_aae02 mJ0_isLatin1_aae02 (0) [.ref (9001 + ti)] σ Q := by
  refine PC_ofF (by decide +kernel) rfl rfl (Nat.le_of_ble_eq_true rfl) ?_
  show PZ al mJ0_isLatin1_aae02 (0) Q 0 [(0, .ref (9001 + ti))] [] σ
  unfold f_J0_isLatin1_aae02 at h
  refine PW_gstat (pc' := 3) (pw_dk dc_J0_isLatin1_aae02 0 rfl) rfl tw_312 ?_
  refine PW_if_eq (pc' := 6) (tgt := 17) (pw_dk dc_J0_isLatin1_aae02 1 rfl) rfl (by decide) (fun c_1 => ?_) (fun c_1 => ?_)
  · rw [if_pos c_1] at h
    refine PW_iconst (pc' := 18) (v := 0) (pw_dk dc_J0_isLatin1_aae02 7 rfl) rfl (by decide) ?_
    exact PZ_iret (ty := .boolean) (pw_dk dc_J0_isLatin1_aae02 8 rfl) rfl (by decide) h
  · rw [if_neg c_1] at h
    refine PW_aload_n (pc' := 7) (q := 0) (pw_dk dc_J0_isLatin1_aae02 2 rfl) rfl rfl rfl ?_
    refine PW_sgetC (pc' := 10) (i := ti) hti (pw_dk dc_J0_isLatin1_aae02 3 rfl) rfl tw_2090 ?_
    refine PW_if_ne (pc' := 13) (tgt := 17) (pw_dk dc_J0_isLatin1_aae02 4 rfl) rfl (by decide) (fun c_2 => ?_) (fun c_2 => ?_)
    · rw [if_neg c_2] at h
      refine PW_iconst (pc' := 18) (v := 0) (pw_dk dc_J0_isLatin1_aae02 7 rfl) rfl (by decide) ?_
      exact PZ_iret (ty := .boolean) (pw_dk dc_J0_isLatin1_aae02 8 rfl) rfl (by decide) h
    · rw [if_pos c_2] at h
      refine PW_iconst (pc' := 14) (v := 1) (pw_dk dc_J0_isLatin1_aae02 5 rfl) rfl (by decide) ?_
      refine PW_goto (tgt := 18) (pw_dk dc_J0_isLatin1_aae02 6 rfl) (by decide) ?_
      exact PZ_iret (ty := .boolean) (pw_dk dc_J0_isLatin1_aae02 8 rfl) rfl (by decide) h
def f_J3_checkIndex_8e157_9  (x0 : Int32) (x1 : Int32) (σ : zS) : Option Int32 := 
  none
theorem b_J3_checkIndex_8e157_9 (al : pAL) {Q : Option Value → zS → Prop} (w2 : Value) (hw2 : w2 = .ref 9201 ∨ w2 = .null) (x0 : Int32) (x1 : Int32) (σ : zS) (h : wpO (f_J3_checkIndex_8e157_9 x0 x1 σ) (fun a => Q (some (.int a)) σ)) : PZ al mJ3_checkIndex_8e157 (0) Q 9 [(0, .int x0), (1, .int x1), (2, w2)] [] σ := by
  unfold f_J3_checkIndex_8e157_9 at h
  exact wp_none h
def f_J3_checkIndex_8e157 (x0 : Int32) (x1 : Int32) (σ : zS) : Option Int32 := 
  if x0 < 0 then
    f_J3_checkIndex_8e157_9 x0 x1 σ
  else
    if x0 < x1 then
      some x0
    else
      f_J3_checkIndex_8e157_9 x0 x1 σ
theorem t_J3_checkIndex_8e157 (al : pAL) (x0 : Int32) (x1 : Int32) (w2 : Value) (hw2 : w2 = .ref 9201 ∨ w2 = .null) (σ : zS) (Q : Option Value → zS → Prop) (h : wpO (f_J3_checkIndex_8e157 x0 x1 σ) (fun a => Q (some (.int a)) σ)) : PK al yJ3_checkIndex_8e157 mJ3_checkIndex_8e157 (0) [.int x0, .int x1, w2] σ Q := by
  rcases hw2 with rfl | rfl
  · refine PC_ofF (by decide +kernel) rfl rfl (Nat.le_of_ble_eq_true rfl) ?_
    show PZ al mJ3_checkIndex_8e157 (0) Q 0 [(0, .int x0), (1, .int x1), (2, (.ref 9201))] [] σ
    unfold f_J3_checkIndex_8e157 at h
    refine PW_iload_n (pc' := 1) (q := 0) (pw_dk dc_J3_checkIndex_8e157 0 rfl) rfl rfl rfl ?_
    refine PW_if_lt (pc' := 4) (tgt := 9) (pw_dk dc_J3_checkIndex_8e157 1 rfl) rfl (by decide) (fun c_1 => ?_) (fun c_1 => ?_)
    · rw [if_pos c_1] at h
      exact b_J3_checkIndex_8e157_9 al (.ref 9201) (Or.inl rfl) x0 x1 σ h
    · rw [if_neg c_1] at h
      refine PW_iload_n (pc' := 5) (q := 0) (pw_dk dc_J3_checkIndex_8e157 2 rfl) rfl rfl rfl ?_
      refine PW_iload_n (pc' := 6) (q := 1) (pw_dk dc_J3_checkIndex_8e157 3 rfl) rfl rfl rfl ?_
      refine PW_icmp_lt (pc' := 9) (tgt := 16) (pw_dk dc_J3_checkIndex_8e157 4 rfl) rfl (by decide) (fun c_2 => ?_) (fun c_2 => ?_)
      · rw [if_pos c_2] at h
        refine PW_iload_n (pc' := 17) (q := 0) (pw_dk dc_J3_checkIndex_8e157 10 rfl) rfl rfl rfl ?_
        have z := wp_some h
        exact PZ_iret (ty := .int) (pw_dk dc_J3_checkIndex_8e157 11 rfl) rfl rfl z
      · rw [if_neg c_2] at h
        exact b_J3_checkIndex_8e157_9 al (.ref 9201) (Or.inl rfl) x0 x1 σ h
  · refine PC_ofF (by decide +kernel) rfl rfl (Nat.le_of_ble_eq_true rfl) ?_
    show PZ al mJ3_checkIndex_8e157 (0) Q 0 [(0, .int x0), (1, .int x1), (2, (.null))] [] σ
    unfold f_J3_checkIndex_8e157 at h
    refine PW_iload_n (pc' := 1) (q := 0) (pw_dk dc_J3_checkIndex_8e157 0 rfl) rfl rfl rfl ?_
    refine PW_if_lt (pc' := 4) (tgt := 9) (pw_dk dc_J3_checkIndex_8e157 1 rfl) rfl (by decide) (fun c_1 => ?_) (fun c_1 => ?_)
    · rw [if_pos c_1] at h
      exact b_J3_checkIndex_8e157_9 al (.null) (Or.inr rfl) x0 x1 σ h
    · rw [if_neg c_1] at h
      refine PW_iload_n (pc' := 5) (q := 0) (pw_dk dc_J3_checkIndex_8e157 2 rfl) rfl rfl rfl ?_
      refine PW_iload_n (pc' := 6) (q := 1) (pw_dk dc_J3_checkIndex_8e157 3 rfl) rfl rfl rfl ?_
      refine PW_icmp_lt (pc' := 9) (tgt := 16) (pw_dk dc_J3_checkIndex_8e157 4 rfl) rfl (by decide) (fun c_2 => ?_) (fun c_2 => ?_)
      · rw [if_pos c_2] at h
        refine PW_iload_n (pc' := 17) (q := 0) (pw_dk dc_J3_checkIndex_8e157 10 rfl) rfl rfl rfl ?_
        have z := wp_some h
        exact PZ_iret (ty := .int) (pw_dk dc_J3_checkIndex_8e157 11 rfl) rfl rfl z
      · rw [if_neg c_2] at h
        exact b_J3_checkIndex_8e157_9 al (.null) (Or.inr rfl) x0 x1 σ h
def f_J0_checkIndex_df160 (x0 : Int32) (x1 : Int32) (σ : zS) : Option Unit := 
  (f_J3_checkIndex_8e157 x0 x1 σ).bind fun v_2 =>
  some ()
theorem t_J0_checkIndex_df160 (al : pAL) (x0 : Int32) (x1 : Int32) (σ : zS) (Q : Option Value → zS → Prop) (h : wpO (f_J0_checkIndex_df160 x0 x1 σ) (fun _ => Q none σ)) : PK al yJ0_checkIndex_df160 mJ0_checkIndex_df160 (1) [.int x0, .int x1] σ Q := by
  refine PC_ofF (by decide +kernel) rfl rfl (Nat.le_of_ble_eq_true rfl) ?_
  show PZ al mJ0_checkIndex_df160 (1) Q 0 [(0, .int x0), (1, .int x1)] [] σ
  unfold f_J0_checkIndex_df160 at h
  refine PW_iload_n (pc' := 1) (q := 0) (pw_dk dc_J0_checkIndex_df160 0 rfl) rfl rfl rfl ?_
  refine PW_iload_n (pc' := 2) (q := 1) (pw_dk dc_J0_checkIndex_df160 1 rfl) rfl rfl rfl ?_
  refine PW_gsio (pc' := 5) (pw_dk dc_J0_checkIndex_df160 2 rfl) rfl tw_328 (fun w hw => ?_)
  refine PZ_callSi (pc' := 8) (y := yJ3_checkIndex_8e157) (M' := mJ3_checkIndex_8e157) (d' := 0) (As := [.int x0, .int x1, w]) (st := []) tw_331 (pw_dk dc_J0_checkIndex_df160 3 rfl) rfl Y_J3_checkIndex_8e157 tw_330 rfl (by decide) (Nat.le_of_ble_eq_true rfl) (t_J3_checkIndex_8e157 al x0 x1 w hw σ _ ?_)
  obtain ⟨v_2, e_3, h⟩ := wp_bind h
  refine ⟨v_2, e_3, _, rfl, fun hn_1 => ?_⟩
  show PZ al mJ0_checkIndex_df160 (1) Q 8 [(0, .int x0), (1, .int x1)] [.int v_2] σ
  refine PW_pop (pc' := 9) (pw_dk dc_J0_checkIndex_df160 4 rfl) rfl rfl ?_
  have z := wp_some h
  exact PZ_vret (pw_dk dc_J0_checkIndex_df160 5 rfl) rfl z
def f_J1_charAt_3b067 (t0 : Nat) (x1 : Int32) (σ : zS) : Option Int32 := 
  (f_J0_checkIndex_df160 x1 (nI (pw_len.getD t0 0)) σ).bind fun u_2 =>
  (rdS t0 x1).bind fun v_4 =>
  some (((v_4 &&& (255 : Int32)).toUInt32 % 65536).toInt32)
theorem t_J1_charAt_3b067 (al : pAL) (t0 : Nat) (x1 : Int32) (ht0 : t0 < 2) (σ : zS) (Q : Option Value → zS → Prop) (h : wpO (f_J1_charAt_3b067 t0 x1 σ) (fun a => Q (some (.int a)) σ)) : PK al yJ1_charAt_3b067 mJ1_charAt_3b067 (2) [.ref (9101 + t0), .int x1] σ Q := by
  refine PC_ofF (by decide +kernel) rfl rfl (Nat.le_of_ble_eq_true rfl) ?_
  show PZ al mJ1_charAt_3b067 (2) Q 0 [(0, .ref (9101 + t0)), (1, .int x1)] [] σ
  unfold f_J1_charAt_3b067 at h
  refine PW_iload_n (pc' := 1) (q := 1) (pw_dk dc_J1_charAt_3b067 0 rfl) rfl rfl rfl ?_
  refine PW_aload_n (pc' := 2) (q := 0) (pw_dk dc_J1_charAt_3b067 1 rfl) rfl rfl rfl ?_
  refine PW_slen (pc' := 3) (i := t0) ht0 (pw_dk dc_J1_charAt_3b067 2 rfl) rfl ?_
  refine PZ_callSv (pc' := 6) (y := yJ0_checkIndex_df160) (M' := mJ0_checkIndex_df160) (d' := 1) (As := [.int x1, .int (nI (pw_len.getD t0 0))]) (st := []) tw_326 (pw_dk dc_J1_charAt_3b067 3 rfl) rfl Y_J0_checkIndex_df160 tw_325 rfl (by decide) (Nat.le_of_ble_eq_true rfl) (t_J0_checkIndex_df160 al x1 (nI (pw_len.getD t0 0)) σ _ ?_)
  obtain ⟨u_2, e_3, h⟩ := wp_bind h
  refine ⟨u_2, e_3, rfl, fun hn_1 => ?_⟩
  show PZ al mJ1_charAt_3b067 (2) Q 6 [(0, .ref (9101 + t0)), (1, .int x1)] [] σ
  refine PW_aload_n (pc' := 7) (q := 0) (pw_dk dc_J1_charAt_3b067 4 rfl) rfl rfl rfl ?_
  refine PW_iload_n (pc' := 8) (q := 1) (pw_dk dc_J1_charAt_3b067 5 rfl) rfl rfl rfl ?_
  obtain ⟨v_4, hi_5, e_6, h⟩ := wp_rdSx h
  refine PZ_saldx (pc' := 9) (v := v_4) (i := t0) ht0 (pw_dk dc_J1_charAt_3b067 6 rfl) rfl hi_5 e_6 ?_
  refine PW_sipush (pc' := 12) (v := 255) (pw_dk dc_J1_charAt_3b067 7 rfl) rfl (by decide) ?_
  refine PW_iand (pc' := 13) (pw_dk dc_J1_charAt_3b067 8 rfl) rfl ?_
  refine PW_i2c (pc' := 14) (pw_dk dc_J1_charAt_3b067 9 rfl) rfl ?_
  have z := wp_some h
  exact PZ_iret (ty := .char) (pw_dk dc_J1_charAt_3b067 10 rfl) rfl (pk_nc _) z
def f_J0_charAt_5068e (ti : Nat) (x1 : Int32) (σ : zS) : Option Int32 := 
  if (f_J0_isLatin1_aae02 ti σ) = 0 then
    none
  else
    (f_J1_charAt_3b067 ti x1 σ).bind fun v_4 =>
    some v_4
theorem t_J0_charAt_5068e (al : pAL) (ti : Nat) (x1 : Int32) (hti : ti < 2) (σ : zS) (Q : Option Value → zS → Prop) (h : wpO (f_J0_charAt_5068e ti x1 σ) (fun a => Q (some (.int a)) σ)) : PK al yJ0_charAt_5068e mJ0_charAt_5068e (3) [.ref (9001 + ti), .int x1] σ Q := by
  refine PC_ofF (by decide +kernel) rfl rfl (Nat.le_of_ble_eq_true rfl) ?_
  show PZ al mJ0_charAt_5068e (3) Q 0 [(0, .ref (9001 + ti)), (1, .int x1)] [] σ
  unfold f_J0_charAt_5068e at h
  refine PW_aload_n (pc' := 1) (q := 0) (pw_dk dc_J0_charAt_5068e 0 rfl) rfl rfl rfl ?_
  refine PZ_callTi (pc' := 4) (y := yJ0_isLatin1_aae02) (M' := mJ0_isLatin1_aae02) (d' := 0) (As := []) (st := []) (i := ti) hti rfl tw_319 tw_320 (pw_dk dc_J0_charAt_5068e 1 rfl) rfl Y_J0_isLatin1_aae02 tw_318 rfl (by decide) (Nat.le_of_ble_eq_true rfl) (t_J0_isLatin1_aae02 al ti hti σ _ ?_)
  refine ⟨_, rfl, fun hn_1 => ?_⟩
  show PZ al mJ0_charAt_5068e (3) Q 4 [(0, .ref (9001 + ti)), (1, .int x1)] [.int (f_J0_isLatin1_aae02 ti σ)] σ
  refine PW_if_eq (pc' := 7) (tgt := 16) (pw_dk dc_J0_charAt_5068e 2 rfl) rfl (by decide) (fun c_2 => ?_) (fun c_2 => ?_)
  · rw [if_pos c_2] at h
    exact wp_none h
  · rw [if_neg c_2] at h
    refine PW_aload_n (pc' := 8) (q := 0) (pw_dk dc_J0_charAt_5068e 3 rfl) rfl rfl rfl ?_
    refine PW_sgetV (pc' := 11) (i := ti) hti (pw_dk dc_J0_charAt_5068e 4 rfl) rfl tw_2089 ?_
    refine PW_iload_n (pc' := 12) (q := 1) (pw_dk dc_J0_charAt_5068e 5 rfl) rfl rfl rfl ?_
    refine PZ_callSi (pc' := 15) (y := yJ1_charAt_3b067) (M' := mJ1_charAt_3b067) (d' := 2) (As := [.ref (9101 + ti), .int x1]) (st := []) tw_323 (pw_dk dc_J0_charAt_5068e 6 rfl) rfl Y_J1_charAt_3b067 tw_322 rfl (by decide) (Nat.le_of_ble_eq_true rfl) (t_J1_charAt_3b067 al ti x1 hti σ _ ?_)
    obtain ⟨v_4, e_5, h⟩ := wp_bind h
    refine ⟨v_4, e_5, _, rfl, fun hn_3 => ?_⟩
    show PZ al mJ0_charAt_5068e (3) Q 15 [(0, .ref (9001 + ti)), (1, .int x1)] [.int v_4] σ
    have z := wp_some h
    exact PZ_iret (ty := .char) (pw_dk dc_J0_charAt_5068e 7 rfl) rfl (hn_3 _ _ rfl rfl) z
def f_J0_coder_7d493 (ti : Nat) (σ : zS) : Int32 := 
  if (1 : Int32) = 0 then
    1
  else
    0
theorem t_J0_coder_7d493 (al : pAL) (ti : Nat) (hti : ti < 2) (σ : zS) (Q : Option Value → zS → Prop) (h : Q (some (.int (f_J0_coder_7d493 ti σ))) σ) : PK al yJ0_coder_7d493 mJ0_coder_7d493 (0) [.ref (9001 + ti)] σ Q := by
  refine PC_ofF (by decide +kernel) rfl rfl (Nat.le_of_ble_eq_true rfl) ?_
  show PZ al mJ0_coder_7d493 (0) Q 0 [(0, .ref (9001 + ti))] [] σ
  unfold f_J0_coder_7d493 at h
  refine PW_gstat (pc' := 3) (pw_dk dc_J0_coder_7d493 0 rfl) rfl tw_312 ?_
  refine PW_if_eq (pc' := 6) (tgt := 13) (pw_dk dc_J0_coder_7d493 1 rfl) rfl (by decide) (fun c_1 => ?_) (fun c_1 => ?_)
  · rw [if_pos c_1] at h
    refine PW_iconst (pc' := 14) (v := 1) (pw_dk dc_J0_coder_7d493 5 rfl) rfl (by decide) ?_
    exact PZ_iret (ty := .byte) (pw_dk dc_J0_coder_7d493 6 rfl) rfl (by decide) h
  · rw [if_neg c_1] at h
    refine PW_aload_n (pc' := 7) (q := 0) (pw_dk dc_J0_coder_7d493 2 rfl) rfl rfl rfl ?_
    refine PW_sgetC (pc' := 10) (i := ti) hti (pw_dk dc_J0_coder_7d493 3 rfl) rfl tw_2090 ?_
    refine PW_goto (tgt := 14) (pw_dk dc_J0_coder_7d493 4 rfl) (by decide) ?_
    exact PZ_iret (ty := .byte) (pw_dk dc_J0_coder_7d493 6 rfl) rfl (by decide) h
def f_J0_length_8abf5 (ti : Nat) (σ : zS) : Int32 := 
  (nI (pw_len.getD ti 0)) >>> ((f_J0_coder_7d493 ti σ) &&& 31)
theorem t_J0_length_8abf5 (al : pAL) (ti : Nat) (hti : ti < 2) (σ : zS) (Q : Option Value → zS → Prop) (h : Q (some (.int (f_J0_length_8abf5 ti σ))) σ) : PK al yJ0_length_8abf5 mJ0_length_8abf5 (1) [.ref (9001 + ti)] σ Q := by
  refine PC_ofF (by decide +kernel) rfl rfl (Nat.le_of_ble_eq_true rfl) ?_
  show PZ al mJ0_length_8abf5 (1) Q 0 [(0, .ref (9001 + ti))] [] σ
  unfold f_J0_length_8abf5 at h
  refine PW_aload_n (pc' := 1) (q := 0) (pw_dk dc_J0_length_8abf5 0 rfl) rfl rfl rfl ?_
  refine PW_sgetV (pc' := 4) (i := ti) hti (pw_dk dc_J0_length_8abf5 1 rfl) rfl tw_2089 ?_
  refine PW_slen (pc' := 5) (i := ti) hti (pw_dk dc_J0_length_8abf5 2 rfl) rfl ?_
  refine PW_aload_n (pc' := 6) (q := 0) (pw_dk dc_J0_length_8abf5 3 rfl) rfl rfl rfl ?_
  refine PZ_callTi (pc' := 9) (y := yJ0_coder_7d493) (M' := mJ0_coder_7d493) (d' := 0) (As := []) (st := [.int (nI (pw_len.getD ti 0))]) (i := ti) hti rfl tw_309 tw_310 (pw_dk dc_J0_length_8abf5 4 rfl) rfl Y_J0_coder_7d493 tw_308 rfl (by decide) (Nat.le_of_ble_eq_true rfl) (t_J0_coder_7d493 al ti hti σ _ ?_)
  refine ⟨_, rfl, fun hn_1 => ?_⟩
  show PZ al mJ0_length_8abf5 (1) Q 9 [(0, .ref (9001 + ti))] [.int (f_J0_coder_7d493 ti σ), .int (nI (pw_len.getD ti 0))] σ
  refine PW_ishr (pc' := 10) (pw_dk dc_J0_length_8abf5 5 rfl) rfl ?_
  exact PZ_iret (ty := .int) (pw_dk dc_J0_length_8abf5 6 rfl) rfl rfl h
def f_X12_word_97 (r4 : Int32 → Int32 → zS → Option Int32) : Nat → Int32 → Int32 → zS → Option Int32
  | 0, _, _, _ => none
  | n + 1, x1, x2, σ => 
    (f_J0_charAt_5068e 1 x2 σ).bind fun v_2 =>
    if v_2 = 32 then
      r4 (x1 + 1) (x2 + 1) σ
    else
      f_X12_word_97 r4 n x1 (x2 + 1) σ
theorem b_X12_word_97 {Q : Option Value → zS → Prop} (r4 : Int32 → Int32 → zS → Option Int32) (hr4 : ∀ (x1 : Int32) (x2 : Int32) (σ : zS), wpO (r4 x1 x2 σ) (fun a => Q (some (.int a)) σ) → PZ alM mX12_word (4) Q 4 [(0, .ref 5000), (1, .int x1), (2, .int x2)] [] σ) : ∀ (n : Nat) (x1 : Int32) (x2 : Int32) (σ : zS) (h : wpO (f_X12_word_97 r4 n x1 x2 σ) (fun a => Q (some (.int a)) σ)), PZ alM mX12_word (4) Q 97 [(0, .ref 5000), (1, .int x1), (2, .int x2)] [] σ := by
  intro n
  induction n with
  | zero => intro x1 x2 σ h; exact wp_none h
  | succ n ih =>
    intro x1 x2 σ h
    rw [f_X12_word_97] at h
    refine PW_ldcS1 (pc' := 99) (pw_dk dc_X12_word 55 rfl) rfl rfl ?_
    refine PW_iload_n (pc' := 100) (q := 2) (pw_dk dc_X12_word 56 rfl) rfl rfl rfl ?_
    refine PZ_callTi (pc' := 103) (y := yJ0_charAt_5068e) (M' := mJ0_charAt_5068e) (d' := 3) (As := [.int x2]) (st := []) (i := 1) (by decide) rfl tw_315 tw_316 (pw_dk dc_X12_word 57 rfl) rfl Y_J0_charAt_5068e tw_1617 rfl (by decide) (Nat.le_of_ble_eq_true rfl) (t_J0_charAt_5068e alM 1 x2 (by decide) σ _ ?_)
    obtain ⟨v_2, e_3, h⟩ := wp_bind h
    refine ⟨v_2, e_3, _, rfl, fun hn_1 => ?_⟩
    show PZ alM mX12_word (4) Q 103 [(0, .ref 5000), (1, .int x1), (2, .int x2)] [.int v_2] σ
    refine PW_bipush (pc' := 105) (v := 32) (pw_dk dc_X12_word 58 rfl) rfl (by decide) ?_
    refine PW_icmp_eq (pc' := 108) (tgt := 114) (pw_dk dc_X12_word 59 rfl) rfl (by decide) (fun c_4 => ?_) (fun c_4 => ?_)
    · rw [if_pos c_4] at h
      refine PW_iinc (pc' := 117) (q := 2) (v := x2 + 1) (lv' := [(2, .int (x2 + 1)), (0, .ref 5000), (1, .int x1)]) (pw_dk dc_X12_word 62 rfl) rfl rfl rfl (by decide) rfl ?_
      refine PW_iinc (pc' := 120) (q := 2) (v := x1 + 1) (lv' := [(1, .int (x1 + 1)), (2, .int (x2 + 1)), (0, .ref 5000)]) (pw_dk dc_X12_word 63 rfl) rfl rfl rfl (by decide) rfl ?_
      refine PW_goto (tgt := 4) (pw_dk dc_X12_word 64 rfl) (by decide) ?_
      refine PW_sub (lv' := [(0, .ref 5000), (1, .int (x1 + 1)), (2, .int (x2 + 1))]) [2, 0, 1] rfl ?_
      exact hr4 (x1 + 1) (x2 + 1) σ h
    · rw [if_neg c_4] at h
      refine PW_iinc (pc' := 111) (q := 2) (v := x2 + 1) (lv' := [(2, .int (x2 + 1)), (0, .ref 5000), (1, .int x1)]) (pw_dk dc_X12_word 60 rfl) rfl rfl rfl (by decide) rfl ?_
      refine PW_goto (tgt := 97) (pw_dk dc_X12_word 61 rfl) (by decide) ?_
      refine PW_sub (lv' := [(0, .ref 5000), (1, .int x1), (2, .int (x2 + 1))]) [1, 2, 0] rfl ?_
      exact ih x1 (x2 + 1) σ h
def f_X12_word_69 (r4 : Int32 → Int32 → zS → Option Int32) (x1 : Int32) (x2 : Int32) (x3 : Int32) (σ : zS) : Option Int32 := 
  (f_J0_charAt_5068e 1 (x2 + x3) σ).bind fun v_2 =>
  if v_2 = 32 then
    if ((σ.1 5000 25) + x3) = (σ.1 5000 24) then
      some x1
    else
      f_X12_word_97 r4 FU x1 x2 σ
  else
    f_X12_word_97 r4 FU x1 x2 σ
theorem b_X12_word_69 {Q : Option Value → zS → Prop} (r4 : Int32 → Int32 → zS → Option Int32) (hr4 : ∀ (x1 : Int32) (x2 : Int32) (σ : zS), wpO (r4 x1 x2 σ) (fun a => Q (some (.int a)) σ) → PZ alM mX12_word (4) Q 4 [(0, .ref 5000), (1, .int x1), (2, .int x2)] [] σ) (x1 : Int32) (x2 : Int32) (x3 : Int32) (σ : zS) (h : wpO (f_X12_word_69 r4 x1 x2 x3 σ) (fun a => Q (some (.int a)) σ)) : PZ alM mX12_word (4) Q 69 [(0, .ref 5000), (1, .int x1), (2, .int x2), (3, .int x3)] [] σ := by
  unfold f_X12_word_69 at h
  refine PW_ldcS1 (pc' := 71) (pw_dk dc_X12_word 39 rfl) rfl rfl ?_
  refine PW_iload_n (pc' := 72) (q := 2) (pw_dk dc_X12_word 40 rfl) rfl rfl rfl ?_
  refine PW_iload_n (pc' := 73) (q := 3) (pw_dk dc_X12_word 41 rfl) rfl rfl rfl ?_
  refine PW_iadd (pc' := 74) (pw_dk dc_X12_word 42 rfl) rfl ?_
  refine PZ_callTi (pc' := 77) (y := yJ0_charAt_5068e) (M' := mJ0_charAt_5068e) (d' := 3) (As := [.int (x2 + x3)]) (st := []) (i := 1) (by decide) rfl tw_315 tw_316 (pw_dk dc_X12_word 43 rfl) rfl Y_J0_charAt_5068e tw_1617 rfl (by decide) (Nat.le_of_ble_eq_true rfl) (t_J0_charAt_5068e alM 1 (x2 + x3) (by decide) σ _ ?_)
  obtain ⟨v_2, e_3, h⟩ := wp_bind h
  refine ⟨v_2, e_3, _, rfl, fun hn_1 => ?_⟩
  show PZ alM mX12_word (4) Q 77 [(0, .ref 5000), (1, .int x1), (2, .int x2), (3, .int x3)] [.int v_2] σ
  refine PW_bipush (pc' := 79) (v := 32) (pw_dk dc_X12_word 44 rfl) rfl (by decide) ?_
  refine PW_icmp_ne (pc' := 82) (tgt := 97) (pw_dk dc_X12_word 45 rfl) rfl (by decide) (fun c_4 => ?_) (fun c_4 => ?_)
  · rw [if_neg c_4] at h
    refine PW_sub (lv' := [(0, .ref 5000), (1, .int x1), (2, .int x2)]) [0, 1, 2] rfl ?_
    exact b_X12_word_97 r4 hr4 FU x1 x2 σ h
  · rw [if_pos c_4] at h
    refine PW_aload_n (pc' := 83) (q := 0) (pw_dk dc_X12_word 46 rfl) rfl rfl rfl ?_
    refine PZ_getI (pc' := 86) (id := 5000) (ci := 12) (nn := 0) (C0 := RX12) (T := TX12) (N := 62) (j := 25) (pw_dk dc_X12_word 47 rfl) rfl me_5000 rfl pi_12 (by decide) fk_12_25 tw_1422 ?_
    refine PW_iload_n (pc' := 87) (q := 3) (pw_dk dc_X12_word 48 rfl) rfl rfl rfl ?_
    refine PW_iadd (pc' := 88) (pw_dk dc_X12_word 49 rfl) rfl ?_
    refine PW_aload_n (pc' := 89) (q := 0) (pw_dk dc_X12_word 50 rfl) rfl rfl rfl ?_
    refine PZ_getI (pc' := 92) (id := 5000) (ci := 12) (nn := 0) (C0 := RX12) (T := TX12) (N := 62) (j := 24) (pw_dk dc_X12_word 51 rfl) rfl me_5000 rfl pi_12 (by decide) fk_12_24 tw_1421 ?_
    refine PW_icmp_ne (pc' := 95) (tgt := 97) (pw_dk dc_X12_word 52 rfl) rfl (by decide) (fun c_5 => ?_) (fun c_5 => ?_)
    · rw [if_neg c_5] at h
      refine PW_sub (lv' := [(0, .ref 5000), (1, .int x1), (2, .int x2)]) [0, 1, 2] rfl ?_
      exact b_X12_word_97 r4 hr4 FU x1 x2 σ h
    · rw [if_pos c_5] at h
      refine PW_iload_n (pc' := 96) (q := 1) (pw_dk dc_X12_word 53 rfl) rfl rfl rfl ?_
      have z := wp_some h
      exact PZ_iret (ty := .int) (pw_dk dc_X12_word 54 rfl) rfl rfl z
def f_X12_word_15 (r4 : Int32 → Int32 → zS → Option Int32) : Nat → Int32 → Int32 → Int32 → zS → Option Int32
  | 0, _, _, _, _ => none
  | n + 1, x1, x2, x3, σ => 
    (f_J0_charAt_5068e 1 (x2 + x3) σ).bind fun v_2 =>
    if v_2 = 32 then
      f_X12_word_69 r4 x1 x2 x3 σ
    else
      if (σ.1 5000 24) ≤ ((σ.1 5000 25) + x3) then
        f_X12_word_69 r4 x1 x2 x3 σ
      else
        (rdI σ 5002 700 ((σ.1 5000 25) + x3)).bind fun v_6 =>
        (f_J0_charAt_5068e 1 (x2 + x3) σ).bind fun v_10 =>
        if v_6 = v_10 then
          f_X12_word_15 r4 n x1 x2 (x3 + 1) σ
        else
          f_X12_word_69 r4 x1 x2 x3 σ
theorem b_X12_word_15 {Q : Option Value → zS → Prop} (r4 : Int32 → Int32 → zS → Option Int32) (hr4 : ∀ (x1 : Int32) (x2 : Int32) (σ : zS), wpO (r4 x1 x2 σ) (fun a => Q (some (.int a)) σ) → PZ alM mX12_word (4) Q 4 [(0, .ref 5000), (1, .int x1), (2, .int x2)] [] σ) : ∀ (n : Nat) (x1 : Int32) (x2 : Int32) (x3 : Int32) (σ : zS) (h : wpO (f_X12_word_15 r4 n x1 x2 x3 σ) (fun a => Q (some (.int a)) σ)), PZ alM mX12_word (4) Q 15 [(0, .ref 5000), (1, .int x1), (2, .int x2), (3, .int x3)] [] σ := by
  intro n
  induction n with
  | zero => intro x1 x2 x3 σ h; exact wp_none h
  | succ n ih =>
    intro x1 x2 x3 σ h
    rw [f_X12_word_15] at h
    refine PW_ldcS1 (pc' := 17) (pw_dk dc_X12_word 10 rfl) rfl rfl ?_
    refine PW_iload_n (pc' := 18) (q := 2) (pw_dk dc_X12_word 11 rfl) rfl rfl rfl ?_
    refine PW_iload_n (pc' := 19) (q := 3) (pw_dk dc_X12_word 12 rfl) rfl rfl rfl ?_
    refine PW_iadd (pc' := 20) (pw_dk dc_X12_word 13 rfl) rfl ?_
    refine PZ_callTi (pc' := 23) (y := yJ0_charAt_5068e) (M' := mJ0_charAt_5068e) (d' := 3) (As := [.int (x2 + x3)]) (st := []) (i := 1) (by decide) rfl tw_315 tw_316 (pw_dk dc_X12_word 14 rfl) rfl Y_J0_charAt_5068e tw_1617 rfl (by decide) (Nat.le_of_ble_eq_true rfl) (t_J0_charAt_5068e alM 1 (x2 + x3) (by decide) σ _ ?_)
    obtain ⟨v_2, e_3, h⟩ := wp_bind h
    refine ⟨v_2, e_3, _, rfl, fun hn_1 => ?_⟩
    show PZ alM mX12_word (4) Q 23 [(0, .ref 5000), (1, .int x1), (2, .int x2), (3, .int x3)] [.int v_2] σ
    refine PW_bipush (pc' := 25) (v := 32) (pw_dk dc_X12_word 15 rfl) rfl (by decide) ?_
    refine PW_icmp_eq (pc' := 28) (tgt := 69) (pw_dk dc_X12_word 16 rfl) rfl (by decide) (fun c_4 => ?_) (fun c_4 => ?_)
    · rw [if_pos c_4] at h
      exact b_X12_word_69 r4 hr4 x1 x2 x3 σ h
    · rw [if_neg c_4] at h
      refine PW_aload_n (pc' := 29) (q := 0) (pw_dk dc_X12_word 17 rfl) rfl rfl rfl ?_
      refine PZ_getI (pc' := 32) (id := 5000) (ci := 12) (nn := 0) (C0 := RX12) (T := TX12) (N := 62) (j := 25) (pw_dk dc_X12_word 18 rfl) rfl me_5000 rfl pi_12 (by decide) fk_12_25 tw_1422 ?_
      refine PW_iload_n (pc' := 33) (q := 3) (pw_dk dc_X12_word 19 rfl) rfl rfl rfl ?_
      refine PW_iadd (pc' := 34) (pw_dk dc_X12_word 20 rfl) rfl ?_
      refine PW_aload_n (pc' := 35) (q := 0) (pw_dk dc_X12_word 21 rfl) rfl rfl rfl ?_
      refine PZ_getI (pc' := 38) (id := 5000) (ci := 12) (nn := 0) (C0 := RX12) (T := TX12) (N := 62) (j := 24) (pw_dk dc_X12_word 22 rfl) rfl me_5000 rfl pi_12 (by decide) fk_12_24 tw_1421 ?_
      refine PW_icmp_ge (pc' := 41) (tgt := 69) (pw_dk dc_X12_word 23 rfl) rfl (by decide) (fun c_5 => ?_) (fun c_5 => ?_)
      · rw [if_pos c_5] at h
        exact b_X12_word_69 r4 hr4 x1 x2 x3 σ h
      · rw [if_neg c_5] at h
        refine PW_aload_n (pc' := 42) (q := 0) (pw_dk dc_X12_word 24 rfl) rfl rfl rfl ?_
        refine PW_getR (pc' := 45) (id := 5000) (ci := 12) (nn := 0) (C0 := RX12) (T := TX12) (N := 62) (j := 1) (r := 5002) (pw_dk dc_X12_word 25 rfl) rfl me_5000 rfl pi_12 (by decide) fk_12_1 tw_1398 (rfl) (by decide) ?_
        refine PW_aload_n (pc' := 46) (q := 0) (pw_dk dc_X12_word 26 rfl) rfl rfl rfl ?_
        refine PZ_getI (pc' := 49) (id := 5000) (ci := 12) (nn := 0) (C0 := RX12) (T := TX12) (N := 62) (j := 25) (pw_dk dc_X12_word 27 rfl) rfl me_5000 rfl pi_12 (by decide) fk_12_25 tw_1422 ?_
        refine PW_iload_n (pc' := 50) (q := 3) (pw_dk dc_X12_word 28 rfl) rfl rfl rfl ?_
        refine PW_iadd (pc' := 51) (pw_dk dc_X12_word 29 rfl) rfl ?_
        obtain ⟨v_6, hi_7, e_8, h⟩ := wp_rdIx h
        refine PZ_ialdx (pc' := 52) (v := v_6) (id := 5002) (nn := 700) (pw_dk dc_X12_word 30 rfl) rfl me_5002 hi_7 e_8 ?_
        refine PW_ldcS1 (pc' := 54) (pw_dk dc_X12_word 31 rfl) rfl rfl ?_
        refine PW_iload_n (pc' := 55) (q := 2) (pw_dk dc_X12_word 32 rfl) rfl rfl rfl ?_
        refine PW_iload_n (pc' := 56) (q := 3) (pw_dk dc_X12_word 33 rfl) rfl rfl rfl ?_
        refine PW_iadd (pc' := 57) (pw_dk dc_X12_word 34 rfl) rfl ?_
        refine PZ_callTi (pc' := 60) (y := yJ0_charAt_5068e) (M' := mJ0_charAt_5068e) (d' := 3) (As := [.int (x2 + x3)]) (st := [.int v_6]) (i := 1) (by decide) rfl tw_315 tw_316 (pw_dk dc_X12_word 35 rfl) rfl Y_J0_charAt_5068e tw_1617 rfl (by decide) (Nat.le_of_ble_eq_true rfl) (t_J0_charAt_5068e alM 1 (x2 + x3) (by decide) σ _ ?_)
        obtain ⟨v_10, e_11, h⟩ := wp_bind h
        refine ⟨v_10, e_11, _, rfl, fun hn_9 => ?_⟩
        show PZ alM mX12_word (4) Q 60 [(0, .ref 5000), (1, .int x1), (2, .int x2), (3, .int x3)] [.int v_10, .int v_6] σ
        refine PW_icmp_ne (pc' := 63) (tgt := 69) (pw_dk dc_X12_word 36 rfl) rfl (by decide) (fun c_12 => ?_) (fun c_12 => ?_)
        · rw [if_neg c_12] at h
          exact b_X12_word_69 r4 hr4 x1 x2 x3 σ h
        · rw [if_pos c_12] at h
          refine PW_iinc (pc' := 66) (q := 3) (v := x3 + 1) (lv' := [(3, .int (x3 + 1)), (0, .ref 5000), (1, .int x1), (2, .int x2)]) (pw_dk dc_X12_word 37 rfl) rfl rfl rfl (by decide) rfl ?_
          refine PW_goto (tgt := 15) (pw_dk dc_X12_word 38 rfl) (by decide) ?_
          refine PW_sub (lv' := [(0, .ref 5000), (1, .int x1), (2, .int x2), (3, .int (x3 + 1))]) [1, 2, 3, 0] rfl ?_
          exact ih x1 x2 (x3 + 1) σ h
def f_X12_word_4  : Nat → Int32 → Int32 → zS → Option Int32
  | 0, _, _, _ => none
  | n + 1, x1, x2, σ => 
    if (f_J0_length_8abf5 1 σ) ≤ x2 then
      some (-1 : Int32)
    else
      f_X12_word_15 (f_X12_word_4 n) FU x1 x2 0 σ
theorem b_X12_word_4 {Q : Option Value → zS → Prop} : ∀ (n : Nat) (x1 : Int32) (x2 : Int32) (σ : zS) (h : wpO (f_X12_word_4 n x1 x2 σ) (fun a => Q (some (.int a)) σ)), PZ alM mX12_word (4) Q 4 [(0, .ref 5000), (1, .int x1), (2, .int x2)] [] σ := by
  intro n
  induction n with
  | zero => intro x1 x2 σ h; exact wp_none h
  | succ n ih =>
    intro x1 x2 σ h
    rw [f_X12_word_4] at h
    refine PW_iload_n (pc' := 5) (q := 2) (pw_dk dc_X12_word 4 rfl) rfl rfl rfl ?_
    refine PW_ldcS1 (pc' := 7) (pw_dk dc_X12_word 5 rfl) rfl rfl ?_
    refine PZ_callTi (pc' := 10) (y := yJ0_length_8abf5) (M' := mJ0_length_8abf5) (d' := 1) (As := []) (st := [.int x2]) (i := 1) (by decide) rfl tw_305 tw_306 (pw_dk dc_X12_word 6 rfl) rfl Y_J0_length_8abf5 tw_1616 rfl (by decide) (Nat.le_of_ble_eq_true rfl) (t_J0_length_8abf5 alM 1 (by decide) σ _ ?_)
    refine ⟨_, rfl, fun hn_1 => ?_⟩
    show PZ alM mX12_word (4) Q 10 [(0, .ref 5000), (1, .int x1), (2, .int x2)] [.int (f_J0_length_8abf5 1 σ), .int x2] σ
    refine PW_icmp_ge (pc' := 13) (tgt := 123) (pw_dk dc_X12_word 7 rfl) rfl (by decide) (fun c_2 => ?_) (fun c_2 => ?_)
    · rw [if_pos c_2] at h
      refine PW_iconst (pc' := 124) (v := (-1 : Int32)) (pw_dk dc_X12_word 65 rfl) rfl (by decide) ?_
      have z := wp_some h
      exact PZ_iret (ty := .int) (pw_dk dc_X12_word 66 rfl) rfl rfl z
    · rw [if_neg c_2] at h
      refine PW_iconst (pc' := 14) (v := 0) (pw_dk dc_X12_word 8 rfl) rfl (by decide) ?_
      refine PW_istore_n (pc' := 15) (lv' := [(3, .int 0), (0, .ref 5000), (1, .int x1), (2, .int x2)]) (pw_dk dc_X12_word 9 rfl) rfl rfl (by decide) rfl ?_
      refine PW_sub (lv' := [(0, .ref 5000), (1, .int x1), (2, .int x2), (3, .int 0)]) [1, 2, 3, 0] rfl ?_
      exact b_X12_word_15 (f_X12_word_4 n) ih FU x1 x2 0 σ h
def f_X12_word  (σ : zS) : Option Int32 := 
  f_X12_word_4 FU 0 0 σ
theorem t_X12_word (σ : zS) (Q : Option Value → zS → Prop) (h : wpO (f_X12_word σ) (fun a => Q (some (.int a)) σ)) : PK alM yX12_word mX12_word (4) [.ref 5000] σ Q := by
  refine PC_ofF (by decide +kernel) rfl rfl (Nat.le_of_ble_eq_true rfl) ?_
  show PZ alM mX12_word (4) Q 0 [(0, .ref 5000)] [] σ
  unfold f_X12_word at h
  refine PW_iconst (pc' := 1) (v := 0) (pw_dk dc_X12_word 0 rfl) rfl (by decide) ?_
  refine PW_istore_n (pc' := 2) (lv' := [(1, .int 0), (0, .ref 5000)]) (pw_dk dc_X12_word 1 rfl) rfl rfl (by decide) rfl ?_
  refine PW_iconst (pc' := 3) (v := 0) (pw_dk dc_X12_word 2 rfl) rfl (by decide) ?_
  refine PW_istore_n (pc' := 4) (lv' := [(2, .int 0), (1, .int 0), (0, .ref 5000)]) (pw_dk dc_X12_word 3 rfl) rfl rfl (by decide) rfl ?_
  refine PW_sub (lv' := [(0, .ref 5000), (1, .int 0), (2, .int 0)]) [2, 1, 0] rfl ?_
  exact b_X12_word_4 FU 0 0 σ h
def f_X12_token_18 (r0 : zS → Option zS)  (σ : zS) : Option zS := 
  lt (wI σ 5000 24 ((σ.1 5000 24) + (1 : Int32))) fun σ_1 =>
  r0 σ_1
theorem b_X12_token_18 {Q : Option Value → zS → Prop} (r0 : zS → Option zS) (hr0 : ∀  (σ : zS), wpO (r0 σ) (fun s => Q none s) → PZ alM mX12_token (5) Q 0 [(0, .ref 5000)] [] σ)  (σ : zS) (h : wpO (f_X12_token_18 r0 σ) (fun s => Q none s)) : PZ alM mX12_token (5) Q 18 [(0, .ref 5000)] [] σ := by
  unfold f_X12_token_18 at h
  refine PW_aload_n (pc' := 19) (q := 0) (pw_dk dc_X12_token 8 rfl) rfl rfl rfl ?_
  refine PW_dup (pc' := 20) (pw_dk dc_X12_token 9 rfl) rfl rfl ?_
  refine PZ_getI (pc' := 23) (id := 5000) (ci := 12) (nn := 0) (C0 := RX12) (T := TX12) (N := 62) (j := 24) (pw_dk dc_X12_token 10 rfl) rfl me_5000 rfl pi_12 (by decide) fk_12_24 tw_1421 ?_
  refine PW_iconst (pc' := 24) (v := 1) (pw_dk dc_X12_token 11 rfl) rfl (by decide) ?_
  refine PW_iadd (pc' := 25) (pw_dk dc_X12_token 12 rfl) rfl ?_
  obtain ⟨σ_1, e_2, h⟩ := lt_x h
  refine PZ_putX (pc' := 28) (σ' := σ_1) (id := 5000) (ci := 12) (nn := 0) (C0 := RX12) (T := TX12) (N := 62) (j := 24) (ty := tyX12 24) (pw_dk dc_X12_token 13 rfl) rfl me_5000 rfl pi_12 tyX12_ok nmX12 (by decide) fk_12_24 tw_1421 rfl (tyX12_ok 24 (by decide)) (by first | rfl | decide) (by first | rfl | decide) e_2 ?_
  refine PW_goto (tgt := 0) (pw_dk dc_X12_token 14 rfl) (by decide) ?_
  exact hr0  σ_1 h
def f_X12_token_127  (s1 : Int32) (σ : zS) : Option zS := 
  lt (wI σ 5000 26 s1) fun σ_1 =>
  if (σ_1.1 5000 26) = 1 then
    (f_X12_name σ_1).bind fun σ_5 =>
    some σ_5
  else
    some σ_1
theorem b_X12_token_127 {Q : Option Value → zS → Prop} (s1 : Int32) (σ : zS) (h : wpO (f_X12_token_127 s1 σ) (fun s => Q none s)) : PZ alM mX12_token (5) Q 127 [(0, .ref 5000)] [.int s1, .ref 5000] σ := by
  unfold f_X12_token_127 at h
  obtain ⟨σ_1, e_2, h⟩ := lt_x h
  refine PZ_putX (pc' := 130) (σ' := σ_1) (id := 5000) (ci := 12) (nn := 0) (C0 := RX12) (T := TX12) (N := 62) (j := 26) (ty := tyX12 26) (pw_dk dc_X12_token 64 rfl) rfl me_5000 rfl pi_12 tyX12_ok nmX12 (by decide) fk_12_26 tw_1423 rfl (tyX12_ok 26 (by decide)) (by first | rfl | decide) (by first | rfl | decide) e_2 ?_
  refine PW_aload_n (pc' := 131) (q := 0) (pw_dk dc_X12_token 65 rfl) rfl rfl rfl ?_
  refine PZ_getI (pc' := 134) (id := 5000) (ci := 12) (nn := 0) (C0 := RX12) (T := TX12) (N := 62) (j := 26) (pw_dk dc_X12_token 66 rfl) rfl me_5000 rfl pi_12 (by decide) fk_12_26 tw_1423 ?_
  refine PW_iconst (pc' := 135) (v := 1) (pw_dk dc_X12_token 67 rfl) rfl (by decide) ?_
  refine PW_icmp_ne (pc' := 138) (tgt := 225) (pw_dk dc_X12_token 68 rfl) rfl (by decide) (fun c_3 => ?_) (fun c_3 => ?_)
  · rw [if_neg c_3] at h
    have z := wp_some h
    exact PZ_vret (pw_dk dc_X12_token 113 rfl) rfl z
  · rw [if_pos c_3] at h
    refine PW_aload_n (pc' := 139) (q := 0) (pw_dk dc_X12_token 69 rfl) rfl rfl rfl ?_
    refine PZ_callVv (pc' := 142) (y := yX12_name) (M' := mX12_name) (d' := 0) (As := []) (st := []) (b := 5000) (ci := 12) (nn := 0) me_5000 rfl tw_1620 tw_52 (pw_dk dc_X12_token 70 rfl) rfl Y_X12_name tw_1618 rfl (by decide) (Nat.le_of_ble_eq_true rfl) (t_X12_name σ_1 _ ?_)
    obtain ⟨σ_5, e_6, h⟩ := wp_bind h
    refine ⟨σ_5, e_6, rfl, fun hn_4 => ?_⟩
    show PZ alM mX12_token (5) Q 142 [(0, .ref 5000)] [] σ_5
    refine PW_goto (tgt := 225) (pw_dk dc_X12_token 71 rfl) (by decide) ?_
    have z := wp_some h
    exact PZ_vret (pw_dk dc_X12_token 113 rfl) rfl z
def f_X12_token_64  : Nat → zS → Option zS
  | 0, _ => none
  | n + 1, σ => 
    (f_X12_here σ).bind fun v_2 =>
    if (f_X12_isSmall v_2 σ) = 0 then
      (f_X12_word σ).bind fun v_7 =>
      lt (wI σ 5000 27 v_7) fun σ_9 =>
      if (σ_9.1 5000 27) = (-1 : Int32) then
        if ((σ_9.1 5000 24) - (σ_9.1 5000 25)) ≤ 6 then
          f_X12_token_127 1 σ_9
        else
          f_X12_token_127 5 σ_9
      else
        f_X12_token_127 0 σ_9
    else
      lt (wI σ 5000 24 ((σ.1 5000 24) + (1 : Int32))) fun σ_13 =>
      f_X12_token_64 n σ_13
theorem b_X12_token_64 {Q : Option Value → zS → Prop} : ∀ (n : Nat)  (σ : zS) (h : wpO (f_X12_token_64 n σ) (fun s => Q none s)), PZ alM mX12_token (5) Q 64 [(0, .ref 5000)] [] σ := by
  intro n
  induction n with
  | zero => intro  σ h; exact wp_none h
  | succ n ih =>
    intro  σ h
    rw [f_X12_token_64] at h
    refine PW_aload_n (pc' := 65) (q := 0) (pw_dk dc_X12_token 32 rfl) rfl rfl rfl ?_
    refine PZ_callVi (pc' := 68) (y := yX12_here) (M' := mX12_here) (d' := 0) (As := []) (st := []) (b := 5000) (ci := 12) (nn := 0) me_5000 rfl tw_1606 tw_50 (pw_dk dc_X12_token 33 rfl) rfl Y_X12_here tw_1604 rfl (by decide) (Nat.le_of_ble_eq_true rfl) (t_X12_here σ _ ?_)
    obtain ⟨v_2, e_3, h⟩ := wp_bind h
    refine ⟨v_2, e_3, _, rfl, fun hn_1 => ?_⟩
    show PZ alM mX12_token (5) Q 68 [(0, .ref 5000)] [.int v_2] σ
    refine PZ_callSi (pc' := 71) (y := yX12_isSmall) (M' := mX12_isSmall) (d' := 0) (As := [.int v_2]) (st := []) tw_1609 (pw_dk dc_X12_token 34 rfl) rfl Y_X12_isSmall tw_1608 rfl (by decide) (Nat.le_of_ble_eq_true rfl) (t_X12_isSmall v_2 σ _ ?_)
    refine ⟨_, rfl, fun hn_4 => ?_⟩
    show PZ alM mX12_token (5) Q 71 [(0, .ref 5000)] [.int (f_X12_isSmall v_2 σ)] σ
    refine PW_if_eq (pc' := 74) (tgt := 87) (pw_dk dc_X12_token 35 rfl) rfl (by decide) (fun c_5 => ?_) (fun c_5 => ?_)
    · rw [if_pos c_5] at h
      refine PW_aload_n (pc' := 88) (q := 0) (pw_dk dc_X12_token 43 rfl) rfl rfl rfl ?_
      refine PW_aload_n (pc' := 89) (q := 0) (pw_dk dc_X12_token 44 rfl) rfl rfl rfl ?_
      refine PZ_callVi (pc' := 92) (y := yX12_word) (M' := mX12_word) (d' := 4) (As := []) (st := [.ref 5000]) (b := 5000) (ci := 12) (nn := 0) me_5000 rfl tw_1613 tw_51 (pw_dk dc_X12_token 45 rfl) rfl Y_X12_word tw_1611 rfl (by decide) (Nat.le_of_ble_eq_true rfl) (t_X12_word σ _ ?_)
      obtain ⟨v_7, e_8, h⟩ := wp_bind h
      refine ⟨v_7, e_8, _, rfl, fun hn_6 => ?_⟩
      show PZ alM mX12_token (5) Q 92 [(0, .ref 5000)] [.int v_7, .ref 5000] σ
      obtain ⟨σ_9, e_10, h⟩ := lt_x h
      refine PZ_putX (pc' := 95) (σ' := σ_9) (id := 5000) (ci := 12) (nn := 0) (C0 := RX12) (T := TX12) (N := 62) (j := 27) (ty := tyX12 27) (pw_dk dc_X12_token 46 rfl) rfl me_5000 rfl pi_12 tyX12_ok nmX12 (by decide) fk_12_27 tw_1424 rfl (tyX12_ok 27 (by decide)) (by first | rfl | decide) (by first | rfl | decide) e_10 ?_
      refine PW_aload_n (pc' := 96) (q := 0) (pw_dk dc_X12_token 47 rfl) rfl rfl rfl ?_
      refine PW_aload_n (pc' := 97) (q := 0) (pw_dk dc_X12_token 48 rfl) rfl rfl rfl ?_
      refine PZ_getI (pc' := 100) (id := 5000) (ci := 12) (nn := 0) (C0 := RX12) (T := TX12) (N := 62) (j := 27) (pw_dk dc_X12_token 49 rfl) rfl me_5000 rfl pi_12 (by decide) fk_12_27 tw_1424 ?_
      refine PW_iconst (pc' := 101) (v := (-1 : Int32)) (pw_dk dc_X12_token 50 rfl) rfl (by decide) ?_
      refine PW_icmp_eq (pc' := 104) (tgt := 108) (pw_dk dc_X12_token 51 rfl) rfl (by decide) (fun c_11 => ?_) (fun c_11 => ?_)
      · rw [if_pos c_11] at h
        refine PW_aload_n (pc' := 109) (q := 0) (pw_dk dc_X12_token 54 rfl) rfl rfl rfl ?_
        refine PZ_getI (pc' := 112) (id := 5000) (ci := 12) (nn := 0) (C0 := RX12) (T := TX12) (N := 62) (j := 24) (pw_dk dc_X12_token 55 rfl) rfl me_5000 rfl pi_12 (by decide) fk_12_24 tw_1421 ?_
        refine PW_aload_n (pc' := 113) (q := 0) (pw_dk dc_X12_token 56 rfl) rfl rfl rfl ?_
        refine PZ_getI (pc' := 116) (id := 5000) (ci := 12) (nn := 0) (C0 := RX12) (T := TX12) (N := 62) (j := 25) (pw_dk dc_X12_token 57 rfl) rfl me_5000 rfl pi_12 (by decide) fk_12_25 tw_1422 ?_
        refine PW_isub (pc' := 117) (pw_dk dc_X12_token 58 rfl) rfl ?_
        refine PW_bipush (pc' := 119) (v := 6) (pw_dk dc_X12_token 59 rfl) rfl (by decide) ?_
        refine PW_icmp_le (pc' := 122) (tgt := 126) (pw_dk dc_X12_token 60 rfl) rfl (by decide) (fun c_12 => ?_) (fun c_12 => ?_)
        · rw [if_pos c_12] at h
          refine PW_iconst (pc' := 127) (v := 1) (pw_dk dc_X12_token 63 rfl) rfl (by decide) ?_
          exact b_X12_token_127 1 σ_9 h
        · rw [if_neg c_12] at h
          refine PW_iconst (pc' := 123) (v := 5) (pw_dk dc_X12_token 61 rfl) rfl (by decide) ?_
          refine PW_goto (tgt := 127) (pw_dk dc_X12_token 62 rfl) (by decide) ?_
          exact b_X12_token_127 5 σ_9 h
      · rw [if_neg c_11] at h
        refine PW_iconst (pc' := 105) (v := 0) (pw_dk dc_X12_token 52 rfl) rfl (by decide) ?_
        refine PW_goto (tgt := 127) (pw_dk dc_X12_token 53 rfl) (by decide) ?_
        exact b_X12_token_127 0 σ_9 h
    · rw [if_neg c_5] at h
      refine PW_aload_n (pc' := 75) (q := 0) (pw_dk dc_X12_token 36 rfl) rfl rfl rfl ?_
      refine PW_dup (pc' := 76) (pw_dk dc_X12_token 37 rfl) rfl rfl ?_
      refine PZ_getI (pc' := 79) (id := 5000) (ci := 12) (nn := 0) (C0 := RX12) (T := TX12) (N := 62) (j := 24) (pw_dk dc_X12_token 38 rfl) rfl me_5000 rfl pi_12 (by decide) fk_12_24 tw_1421 ?_
      refine PW_iconst (pc' := 80) (v := 1) (pw_dk dc_X12_token 39 rfl) rfl (by decide) ?_
      refine PW_iadd (pc' := 81) (pw_dk dc_X12_token 40 rfl) rfl ?_
      obtain ⟨σ_13, e_14, h⟩ := lt_x h
      refine PZ_putX (pc' := 84) (σ' := σ_13) (id := 5000) (ci := 12) (nn := 0) (C0 := RX12) (T := TX12) (N := 62) (j := 24) (ty := tyX12 24) (pw_dk dc_X12_token 41 rfl) rfl me_5000 rfl pi_12 tyX12_ok nmX12 (by decide) fk_12_24 tw_1421 rfl (tyX12_ok 24 (by decide)) (by first | rfl | decide) (by first | rfl | decide) e_14 ?_
      refine PW_goto (tgt := 64) (pw_dk dc_X12_token 42 rfl) (by decide) ?_
      exact ih  σ_13 h
def f_X12_token_204 (r162 : zS → Option zS) (s1 : Int32) (σ : zS) : Option zS := 
  lt (wI σ 5000 27 s1) fun σ_1 =>
  lt (wI σ_1 5000 24 ((σ_1.1 5000 24) + (1 : Int32))) fun σ_3 =>
  r162 σ_3
theorem b_X12_token_204 {Q : Option Value → zS → Prop} (r162 : zS → Option zS) (hr162 : ∀  (σ : zS), wpO (r162 σ) (fun s => Q none s) → PZ alM mX12_token (5) Q 162 [(0, .ref 5000)] [] σ) (s1 : Int32) (σ : zS) (h : wpO (f_X12_token_204 r162 s1 σ) (fun s => Q none s)) : PZ alM mX12_token (5) Q 204 [(0, .ref 5000)] [.int s1, .ref 5000] σ := by
  unfold f_X12_token_204 at h
  obtain ⟨σ_1, e_2, h⟩ := lt_x h
  refine PZ_putX (pc' := 207) (σ' := σ_1) (id := 5000) (ci := 12) (nn := 0) (C0 := RX12) (T := TX12) (N := 62) (j := 27) (ty := tyX12 27) (pw_dk dc_X12_token 102 rfl) rfl me_5000 rfl pi_12 tyX12_ok nmX12 (by decide) fk_12_27 tw_1424 rfl (tyX12_ok 27 (by decide)) (by first | rfl | decide) (by first | rfl | decide) e_2 ?_
  refine PW_aload_n (pc' := 208) (q := 0) (pw_dk dc_X12_token 103 rfl) rfl rfl rfl ?_
  refine PW_dup (pc' := 209) (pw_dk dc_X12_token 104 rfl) rfl rfl ?_
  refine PZ_getI (pc' := 212) (id := 5000) (ci := 12) (nn := 0) (C0 := RX12) (T := TX12) (N := 62) (j := 24) (pw_dk dc_X12_token 105 rfl) rfl me_5000 rfl pi_12 (by decide) fk_12_24 tw_1421 ?_
  refine PW_iconst (pc' := 213) (v := 1) (pw_dk dc_X12_token 106 rfl) rfl (by decide) ?_
  refine PW_iadd (pc' := 214) (pw_dk dc_X12_token 107 rfl) rfl ?_
  obtain ⟨σ_3, e_4, h⟩ := lt_x h
  refine PZ_putX (pc' := 217) (σ' := σ_3) (id := 5000) (ci := 12) (nn := 0) (C0 := RX12) (T := TX12) (N := 62) (j := 24) (ty := tyX12 24) (pw_dk dc_X12_token 108 rfl) rfl me_5000 rfl pi_12 tyX12_ok nmX12 (by decide) fk_12_24 tw_1421 rfl (tyX12_ok 24 (by decide)) (by first | rfl | decide) (by first | rfl | decide) e_4 ?_
  refine PW_goto (tgt := 162) (pw_dk dc_X12_token 109 rfl) (by decide) ?_
  exact hr162  σ_3 h
def f_X12_token_162  : Nat → zS → Option zS
  | 0, _ => none
  | n + 1, σ => 
    (f_X12_here σ).bind fun v_2 =>
    if (f_X12_isDigit v_2 σ) = 0 then
      some σ
    else
      if (σ.1 5000 27) ≤ 99999 then
        (f_X12_here σ).bind fun v_8 =>
        f_X12_token_204 (f_X12_token_162 n) ((((10 : Int32) * (σ.1 5000 27)) + v_8) - (48 : Int32)) σ
      else
        f_X12_token_204 (f_X12_token_162 n) (σ.1 5000 27) σ
theorem b_X12_token_162 {Q : Option Value → zS → Prop} : ∀ (n : Nat)  (σ : zS) (h : wpO (f_X12_token_162 n σ) (fun s => Q none s)), PZ alM mX12_token (5) Q 162 [(0, .ref 5000)] [] σ := by
  intro n
  induction n with
  | zero => intro  σ h; exact wp_none h
  | succ n ih =>
    intro  σ h
    rw [f_X12_token_162] at h
    refine PW_aload_n (pc' := 163) (q := 0) (pw_dk dc_X12_token 81 rfl) rfl rfl rfl ?_
    refine PZ_callVi (pc' := 166) (y := yX12_here) (M' := mX12_here) (d' := 0) (As := []) (st := []) (b := 5000) (ci := 12) (nn := 0) me_5000 rfl tw_1606 tw_50 (pw_dk dc_X12_token 82 rfl) rfl Y_X12_here tw_1604 rfl (by decide) (Nat.le_of_ble_eq_true rfl) (t_X12_here σ _ ?_)
    obtain ⟨v_2, e_3, h⟩ := wp_bind h
    refine ⟨v_2, e_3, _, rfl, fun hn_1 => ?_⟩
    show PZ alM mX12_token (5) Q 166 [(0, .ref 5000)] [.int v_2] σ
    refine PZ_callSi (pc' := 169) (y := yX12_isDigit) (M' := mX12_isDigit) (d' := 0) (As := [.int v_2]) (st := []) tw_1623 (pw_dk dc_X12_token 83 rfl) rfl Y_X12_isDigit tw_1622 rfl (by decide) (Nat.le_of_ble_eq_true rfl) (t_X12_isDigit v_2 σ _ ?_)
    refine ⟨_, rfl, fun hn_4 => ?_⟩
    show PZ alM mX12_token (5) Q 169 [(0, .ref 5000)] [.int (f_X12_isDigit v_2 σ)] σ
    refine PW_if_eq (pc' := 172) (tgt := 225) (pw_dk dc_X12_token 84 rfl) rfl (by decide) (fun c_5 => ?_) (fun c_5 => ?_)
    · rw [if_pos c_5] at h
      have z := wp_some h
      exact PZ_vret (pw_dk dc_X12_token 113 rfl) rfl z
    · rw [if_neg c_5] at h
      refine PW_aload_n (pc' := 173) (q := 0) (pw_dk dc_X12_token 85 rfl) rfl rfl rfl ?_
      refine PW_aload_n (pc' := 174) (q := 0) (pw_dk dc_X12_token 86 rfl) rfl rfl rfl ?_
      refine PZ_getI (pc' := 177) (id := 5000) (ci := 12) (nn := 0) (C0 := RX12) (T := TX12) (N := 62) (j := 27) (pw_dk dc_X12_token 87 rfl) rfl me_5000 rfl pi_12 (by decide) fk_12_27 tw_1424 ?_
      refine PW_ldc (pc' := 179) (v := 99999) (pw_dk dc_X12_token 88 rfl) rfl tw_1625 ?_
      refine PW_icmp_le (pc' := 182) (tgt := 189) (pw_dk dc_X12_token 89 rfl) rfl (by decide) (fun c_6 => ?_) (fun c_6 => ?_)
      · rw [if_pos c_6] at h
        refine PW_bipush (pc' := 191) (v := 10) (pw_dk dc_X12_token 93 rfl) rfl (by decide) ?_
        refine PW_aload_n (pc' := 192) (q := 0) (pw_dk dc_X12_token 94 rfl) rfl rfl rfl ?_
        refine PZ_getI (pc' := 195) (id := 5000) (ci := 12) (nn := 0) (C0 := RX12) (T := TX12) (N := 62) (j := 27) (pw_dk dc_X12_token 95 rfl) rfl me_5000 rfl pi_12 (by decide) fk_12_27 tw_1424 ?_
        refine PW_imul (pc' := 196) (pw_dk dc_X12_token 96 rfl) rfl ?_
        refine PW_aload_n (pc' := 197) (q := 0) (pw_dk dc_X12_token 97 rfl) rfl rfl rfl ?_
        refine PZ_callVi (pc' := 200) (y := yX12_here) (M' := mX12_here) (d' := 0) (As := []) (st := [.int ((10 : Int32) * (σ.1 5000 27)), .ref 5000]) (b := 5000) (ci := 12) (nn := 0) me_5000 rfl tw_1606 tw_50 (pw_dk dc_X12_token 98 rfl) rfl Y_X12_here tw_1604 rfl (by decide) (Nat.le_of_ble_eq_true rfl) (t_X12_here σ _ ?_)
        obtain ⟨v_8, e_9, h⟩ := wp_bind h
        refine ⟨v_8, e_9, _, rfl, fun hn_7 => ?_⟩
        show PZ alM mX12_token (5) Q 200 [(0, .ref 5000)] [.int v_8, .int ((10 : Int32) * (σ.1 5000 27)), .ref 5000] σ
        refine PW_iadd (pc' := 201) (pw_dk dc_X12_token 99 rfl) rfl ?_
        refine PW_bipush (pc' := 203) (v := 48) (pw_dk dc_X12_token 100 rfl) rfl (by decide) ?_
        refine PW_isub (pc' := 204) (pw_dk dc_X12_token 101 rfl) rfl ?_
        exact b_X12_token_204 (f_X12_token_162 n) ih ((((10 : Int32) * (σ.1 5000 27)) + v_8) - (48 : Int32)) σ h
      · rw [if_neg c_6] at h
        refine PW_aload_n (pc' := 183) (q := 0) (pw_dk dc_X12_token 90 rfl) rfl rfl rfl ?_
        refine PZ_getI (pc' := 186) (id := 5000) (ci := 12) (nn := 0) (C0 := RX12) (T := TX12) (N := 62) (j := 27) (pw_dk dc_X12_token 91 rfl) rfl me_5000 rfl pi_12 (by decide) fk_12_27 tw_1424 ?_
        refine PW_goto (tgt := 204) (pw_dk dc_X12_token 92 rfl) (by decide) ?_
        exact b_X12_token_204 (f_X12_token_162 n) ih (σ.1 5000 27) σ h
def f_X12_token_0  : Nat → zS → Option zS
  | 0, _ => none
  | n + 1, σ => 
    (f_X12_here σ).bind fun v_2 =>
    if v_2 = 10 then
      f_X12_token_18 (f_X12_token_0 n) σ
    else
      (f_X12_here σ).bind fun v_6 =>
      if v_6 = 32 then
        f_X12_token_18 (f_X12_token_0 n) σ
      else
        lt (wI σ 5000 25 (σ.1 5000 24)) fun σ_9 =>
        (f_X12_here σ_9).bind fun v_12 =>
        if v_12 = (-1 : Int32) then
          lt (wI σ_9 5000 26 4) fun σ_26 =>
          some σ_26
        else
          if (f_X12_isSmall v_12 σ_9) = 0 then
            if (f_X12_isDigit v_12 σ_9) = 0 then
              (f_X12_sign v_12 σ_9).bind fun σ_20 =>
              some σ_20
            else
              lt (wI σ_9 5000 26 2) fun σ_22 =>
              lt (wI σ_22 5000 27 0) fun σ_24 =>
              f_X12_token_162 FU σ_24
          else
            f_X12_token_64 FU σ_9
theorem b_X12_token_0 {Q : Option Value → zS → Prop} : ∀ (n : Nat)  (σ : zS) (h : wpO (f_X12_token_0 n σ) (fun s => Q none s)), PZ alM mX12_token (5) Q 0 [(0, .ref 5000)] [] σ := by
  intro n
  induction n with
  | zero => intro  σ h; exact wp_none h
  | succ n ih =>
    intro  σ h
    rw [f_X12_token_0] at h
    refine PW_aload_n (pc' := 1) (q := 0) (pw_dk dc_X12_token 0 rfl) rfl rfl rfl ?_
    refine PZ_callVi (pc' := 4) (y := yX12_here) (M' := mX12_here) (d' := 0) (As := []) (st := []) (b := 5000) (ci := 12) (nn := 0) me_5000 rfl tw_1606 tw_50 (pw_dk dc_X12_token 1 rfl) rfl Y_X12_here tw_1604 rfl (by decide) (Nat.le_of_ble_eq_true rfl) (t_X12_here σ _ ?_)
    obtain ⟨v_2, e_3, h⟩ := wp_bind h
    refine ⟨v_2, e_3, _, rfl, fun hn_1 => ?_⟩
    show PZ alM mX12_token (5) Q 4 [(0, .ref 5000)] [.int v_2] σ
    refine PW_bipush (pc' := 6) (v := 10) (pw_dk dc_X12_token 2 rfl) rfl (by decide) ?_
    refine PW_icmp_eq (pc' := 9) (tgt := 18) (pw_dk dc_X12_token 3 rfl) rfl (by decide) (fun c_4 => ?_) (fun c_4 => ?_)
    · rw [if_pos c_4] at h
      exact b_X12_token_18 (f_X12_token_0 n) ih σ h
    · rw [if_neg c_4] at h
      refine PW_aload_n (pc' := 10) (q := 0) (pw_dk dc_X12_token 4 rfl) rfl rfl rfl ?_
      refine PZ_callVi (pc' := 13) (y := yX12_here) (M' := mX12_here) (d' := 0) (As := []) (st := []) (b := 5000) (ci := 12) (nn := 0) me_5000 rfl tw_1606 tw_50 (pw_dk dc_X12_token 5 rfl) rfl Y_X12_here tw_1604 rfl (by decide) (Nat.le_of_ble_eq_true rfl) (t_X12_here σ _ ?_)
      obtain ⟨v_6, e_7, h⟩ := wp_bind h
      refine ⟨v_6, e_7, _, rfl, fun hn_5 => ?_⟩
      show PZ alM mX12_token (5) Q 13 [(0, .ref 5000)] [.int v_6] σ
      refine PW_bipush (pc' := 15) (v := 32) (pw_dk dc_X12_token 6 rfl) rfl (by decide) ?_
      refine PW_icmp_ne (pc' := 18) (tgt := 31) (pw_dk dc_X12_token 7 rfl) rfl (by decide) (fun c_8 => ?_) (fun c_8 => ?_)
      · rw [if_neg c_8] at h
        refine PW_aload_n (pc' := 32) (q := 0) (pw_dk dc_X12_token 15 rfl) rfl rfl rfl ?_
        refine PW_aload_n (pc' := 33) (q := 0) (pw_dk dc_X12_token 16 rfl) rfl rfl rfl ?_
        refine PZ_getI (pc' := 36) (id := 5000) (ci := 12) (nn := 0) (C0 := RX12) (T := TX12) (N := 62) (j := 24) (pw_dk dc_X12_token 17 rfl) rfl me_5000 rfl pi_12 (by decide) fk_12_24 tw_1421 ?_
        obtain ⟨σ_9, e_10, h⟩ := lt_x h
        refine PZ_putX (pc' := 39) (σ' := σ_9) (id := 5000) (ci := 12) (nn := 0) (C0 := RX12) (T := TX12) (N := 62) (j := 25) (ty := tyX12 25) (pw_dk dc_X12_token 18 rfl) rfl me_5000 rfl pi_12 tyX12_ok nmX12 (by decide) fk_12_25 tw_1422 rfl (tyX12_ok 25 (by decide)) (by first | rfl | decide) (by first | rfl | decide) e_10 ?_
        refine PW_aload_n (pc' := 40) (q := 0) (pw_dk dc_X12_token 19 rfl) rfl rfl rfl ?_
        refine PZ_callVi (pc' := 43) (y := yX12_here) (M' := mX12_here) (d' := 0) (As := []) (st := []) (b := 5000) (ci := 12) (nn := 0) me_5000 rfl tw_1606 tw_50 (pw_dk dc_X12_token 20 rfl) rfl Y_X12_here tw_1604 rfl (by decide) (Nat.le_of_ble_eq_true rfl) (t_X12_here σ_9 _ ?_)
        obtain ⟨v_12, e_13, h⟩ := wp_bind h
        refine ⟨v_12, e_13, _, rfl, fun hn_11 => ?_⟩
        show PZ alM mX12_token (5) Q 43 [(0, .ref 5000)] [.int v_12] σ_9
        refine PW_istore_n (pc' := 44) (lv' := [(1, .int v_12), (0, .ref 5000)]) (pw_dk dc_X12_token 21 rfl) rfl rfl (by decide) rfl ?_
        refine PW_iload_n (pc' := 45) (q := 0) (pw_dk dc_X12_token 22 rfl) rfl rfl rfl ?_
        refine PW_iconst (pc' := 46) (v := (-1 : Int32)) (pw_dk dc_X12_token 23 rfl) rfl (by decide) ?_
        refine PW_icmp_ne (pc' := 49) (tgt := 57) (pw_dk dc_X12_token 24 rfl) rfl (by decide) (fun c_14 => ?_) (fun c_14 => ?_)
        · rw [if_neg c_14] at h
          refine PW_iload_n (pc' := 58) (q := 0) (pw_dk dc_X12_token 29 rfl) rfl rfl rfl ?_
          refine PZ_callSi (pc' := 61) (y := yX12_isSmall) (M' := mX12_isSmall) (d' := 0) (As := [.int v_12]) (st := []) tw_1609 (pw_dk dc_X12_token 30 rfl) rfl Y_X12_isSmall tw_1608 rfl (by decide) (Nat.le_of_ble_eq_true rfl) (t_X12_isSmall v_12 σ_9 _ ?_)
          refine ⟨_, rfl, fun hn_15 => ?_⟩
          show PZ alM mX12_token (5) Q 61 [(1, .int v_12), (0, .ref 5000)] [.int (f_X12_isSmall v_12 σ_9)] σ_9
          refine PW_if_eq (pc' := 64) (tgt := 145) (pw_dk dc_X12_token 31 rfl) rfl (by decide) (fun c_16 => ?_) (fun c_16 => ?_)
          · rw [if_pos c_16] at h
            refine PW_iload_n (pc' := 146) (q := 0) (pw_dk dc_X12_token 72 rfl) rfl rfl rfl ?_
            refine PZ_callSi (pc' := 149) (y := yX12_isDigit) (M' := mX12_isDigit) (d' := 0) (As := [.int v_12]) (st := []) tw_1623 (pw_dk dc_X12_token 73 rfl) rfl Y_X12_isDigit tw_1622 rfl (by decide) (Nat.le_of_ble_eq_true rfl) (t_X12_isDigit v_12 σ_9 _ ?_)
            refine ⟨_, rfl, fun hn_17 => ?_⟩
            show PZ alM mX12_token (5) Q 149 [(1, .int v_12), (0, .ref 5000)] [.int (f_X12_isDigit v_12 σ_9)] σ_9
            refine PW_if_eq (pc' := 152) (tgt := 220) (pw_dk dc_X12_token 74 rfl) rfl (by decide) (fun c_18 => ?_) (fun c_18 => ?_)
            · rw [if_pos c_18] at h
              refine PW_aload_n (pc' := 221) (q := 1) (pw_dk dc_X12_token 110 rfl) rfl rfl rfl ?_
              refine PW_iload_n (pc' := 222) (q := 0) (pw_dk dc_X12_token 111 rfl) rfl rfl rfl ?_
              refine PZ_callVv (pc' := 225) (y := yX12_sign) (M' := mX12_sign) (d' := 1) (As := [.int v_12]) (st := []) (b := 5000) (ci := 12) (nn := 0) me_5000 rfl tw_1628 tw_53 (pw_dk dc_X12_token 112 rfl) rfl Y_X12_sign tw_1626 rfl (by decide) (Nat.le_of_ble_eq_true rfl) (t_X12_sign v_12 σ_9 _ ?_)
              obtain ⟨σ_20, e_21, h⟩ := wp_bind h
              refine ⟨σ_20, e_21, rfl, fun hn_19 => ?_⟩
              show PZ alM mX12_token (5) Q 225 [(1, .int v_12), (0, .ref 5000)] [] σ_20
              have z := wp_some h
              exact PZ_vret (pw_dk dc_X12_token 113 rfl) rfl z
            · rw [if_neg c_18] at h
              refine PW_aload_n (pc' := 153) (q := 1) (pw_dk dc_X12_token 75 rfl) rfl rfl rfl ?_
              refine PW_iconst (pc' := 154) (v := 2) (pw_dk dc_X12_token 76 rfl) rfl (by decide) ?_
              obtain ⟨σ_22, e_23, h⟩ := lt_x h
              refine PZ_putX (pc' := 157) (σ' := σ_22) (id := 5000) (ci := 12) (nn := 0) (C0 := RX12) (T := TX12) (N := 62) (j := 26) (ty := tyX12 26) (pw_dk dc_X12_token 77 rfl) rfl me_5000 rfl pi_12 tyX12_ok nmX12 (by decide) fk_12_26 tw_1423 rfl (tyX12_ok 26 (by decide)) (by first | rfl | decide) (by first | rfl | decide) e_23 ?_
              refine PW_aload_n (pc' := 158) (q := 1) (pw_dk dc_X12_token 78 rfl) rfl rfl rfl ?_
              refine PW_iconst (pc' := 159) (v := 0) (pw_dk dc_X12_token 79 rfl) rfl (by decide) ?_
              obtain ⟨σ_24, e_25, h⟩ := lt_x h
              refine PZ_putX (pc' := 162) (σ' := σ_24) (id := 5000) (ci := 12) (nn := 0) (C0 := RX12) (T := TX12) (N := 62) (j := 27) (ty := tyX12 27) (pw_dk dc_X12_token 80 rfl) rfl me_5000 rfl pi_12 tyX12_ok nmX12 (by decide) fk_12_27 tw_1424 rfl (tyX12_ok 27 (by decide)) (by first | rfl | decide) (by first | rfl | decide) e_25 ?_
              refine PW_sub (lv' := [(0, .ref 5000)]) [1] rfl ?_
              exact b_X12_token_162 FU σ_24 h
          · rw [if_neg c_16] at h
            refine PW_sub (lv' := [(0, .ref 5000)]) [1] rfl ?_
            exact b_X12_token_64 FU σ_9 h
        · rw [if_pos c_14] at h
          refine PW_aload_n (pc' := 50) (q := 1) (pw_dk dc_X12_token 25 rfl) rfl rfl rfl ?_
          refine PW_iconst (pc' := 51) (v := 4) (pw_dk dc_X12_token 26 rfl) rfl (by decide) ?_
          obtain ⟨σ_26, e_27, h⟩ := lt_x h
          refine PZ_putX (pc' := 54) (σ' := σ_26) (id := 5000) (ci := 12) (nn := 0) (C0 := RX12) (T := TX12) (N := 62) (j := 26) (ty := tyX12 26) (pw_dk dc_X12_token 27 rfl) rfl me_5000 rfl pi_12 tyX12_ok nmX12 (by decide) fk_12_26 tw_1423 rfl (tyX12_ok 26 (by decide)) (by first | rfl | decide) (by first | rfl | decide) e_27 ?_
          refine PW_goto (tgt := 225) (pw_dk dc_X12_token 28 rfl) (by decide) ?_
          have z := wp_some h
          exact PZ_vret (pw_dk dc_X12_token 113 rfl) rfl z
      · rw [if_pos c_8] at h
        exact b_X12_token_18 (f_X12_token_0 n) ih σ h
def f_X12_token  (σ : zS) : Option zS := 
  f_X12_token_0 FU σ
theorem t_X12_token (σ : zS) (Q : Option Value → zS → Prop) (h : wpO (f_X12_token σ) (fun s => Q none s)) : PK alM yX12_token mX12_token (5) [.ref 5000] σ Q := by
  refine PC_ofF (by decide +kernel) rfl rfl (Nat.le_of_ble_eq_true rfl) ?_
  show PZ alM mX12_token (5) Q 0 [(0, .ref 5000)] [] σ
  unfold f_X12_token at h
  exact b_X12_token_0 FU σ h
def f_X12_wrong (x1 : Int32) (σ : zS) : Option zS := 
  if (σ.1 5000 28) = 0 then
    lt (wI σ 5000 28 x1) fun σ_2 =>
    lt (wI σ_2 5000 29 (σ_2.1 5000 25)) fun σ_4 =>
    some σ_4
  else
    some σ
theorem t_X12_wrong (x1 : Int32) (σ : zS) (Q : Option Value → zS → Prop) (h : wpO (f_X12_wrong x1 σ) (fun s => Q none s)) : PK alM yX12_wrong mX12_wrong (0) [.ref 5000, .int x1] σ Q := by
  refine PC_ofF (by decide +kernel) rfl rfl (Nat.le_of_ble_eq_true rfl) ?_
  show PZ alM mX12_wrong (0) Q 0 [(0, .ref 5000), (1, .int x1)] [] σ
  unfold f_X12_wrong at h
  refine PW_aload_n (pc' := 1) (q := 0) (pw_dk dc_X12_wrong 0 rfl) rfl rfl rfl ?_
  refine PZ_getI (pc' := 4) (id := 5000) (ci := 12) (nn := 0) (C0 := RX12) (T := TX12) (N := 62) (j := 28) (pw_dk dc_X12_wrong 1 rfl) rfl me_5000 rfl pi_12 (by decide) fk_12_28 tw_1425 ?_
  refine PW_if_eq (pc' := 7) (tgt := 8) (pw_dk dc_X12_wrong 2 rfl) rfl (by decide) (fun c_1 => ?_) (fun c_1 => ?_)
  · rw [if_pos c_1] at h
    refine PW_aload_n (pc' := 9) (q := 0) (pw_dk dc_X12_wrong 4 rfl) rfl rfl rfl ?_
    refine PW_iload_n (pc' := 10) (q := 1) (pw_dk dc_X12_wrong 5 rfl) rfl rfl rfl ?_
    obtain ⟨σ_2, e_3, h⟩ := lt_x h
    refine PZ_putX (pc' := 13) (σ' := σ_2) (id := 5000) (ci := 12) (nn := 0) (C0 := RX12) (T := TX12) (N := 62) (j := 28) (ty := tyX12 28) (pw_dk dc_X12_wrong 6 rfl) rfl me_5000 rfl pi_12 tyX12_ok nmX12 (by decide) fk_12_28 tw_1425 rfl (tyX12_ok 28 (by decide)) (by first | rfl | decide) (by first | rfl | decide) e_3 ?_
    refine PW_aload_n (pc' := 14) (q := 0) (pw_dk dc_X12_wrong 7 rfl) rfl rfl rfl ?_
    refine PW_aload_n (pc' := 15) (q := 0) (pw_dk dc_X12_wrong 8 rfl) rfl rfl rfl ?_
    refine PZ_getI (pc' := 18) (id := 5000) (ci := 12) (nn := 0) (C0 := RX12) (T := TX12) (N := 62) (j := 25) (pw_dk dc_X12_wrong 9 rfl) rfl me_5000 rfl pi_12 (by decide) fk_12_25 tw_1422 ?_
    obtain ⟨σ_4, e_5, h⟩ := lt_x h
    refine PZ_putX (pc' := 21) (σ' := σ_4) (id := 5000) (ci := 12) (nn := 0) (C0 := RX12) (T := TX12) (N := 62) (j := 29) (ty := tyX12 29) (pw_dk dc_X12_wrong 10 rfl) rfl me_5000 rfl pi_12 tyX12_ok nmX12 (by decide) fk_12_29 tw_1426 rfl (tyX12_ok 29 (by decide)) (by first | rfl | decide) (by first | rfl | decide) e_5 ?_
    have z := wp_some h
    exact PZ_vret (pw_dk dc_X12_wrong 11 rfl) rfl z
  · rw [if_neg c_1] at h
    have z := wp_some h
    exact PZ_vret (pw_dk dc_X12_wrong 3 rfl) rfl z
def f_X12_isWord (x1 : Int32) (σ : zS) : Int32 := 
  if (σ.1 5000 28) = 0 then
    if (σ.1 5000 26) = 0 then
      if (σ.1 5000 27) = x1 then
        1
      else
        0
    else
      0
  else
    0
theorem t_X12_isWord (x1 : Int32) (σ : zS) (Q : Option Value → zS → Prop) (h : Q (some (.int (f_X12_isWord x1 σ))) σ) : PK alM yX12_isWord mX12_isWord (0) [.ref 5000, .int x1] σ Q := by
  refine PC_ofF (by decide +kernel) rfl rfl (Nat.le_of_ble_eq_true rfl) ?_
  show PZ alM mX12_isWord (0) Q 0 [(0, .ref 5000), (1, .int x1)] [] σ
  unfold f_X12_isWord at h
  refine PW_aload_n (pc' := 1) (q := 0) (pw_dk dc_X12_isWord 0 rfl) rfl rfl rfl ?_
  refine PZ_getI (pc' := 4) (id := 5000) (ci := 12) (nn := 0) (C0 := RX12) (T := TX12) (N := 62) (j := 28) (pw_dk dc_X12_isWord 1 rfl) rfl me_5000 rfl pi_12 (by decide) fk_12_28 tw_1425 ?_
  refine PW_if_ne (pc' := 7) (tgt := 26) (pw_dk dc_X12_isWord 2 rfl) rfl (by decide) (fun c_1 => ?_) (fun c_1 => ?_)
  · rw [if_neg c_1] at h
    refine PW_iconst (pc' := 27) (v := 0) (pw_dk dc_X12_isWord 12 rfl) rfl (by decide) ?_
    exact PZ_iret (ty := .boolean) (pw_dk dc_X12_isWord 13 rfl) rfl (by decide) h
  · rw [if_pos c_1] at h
    refine PW_aload_n (pc' := 8) (q := 0) (pw_dk dc_X12_isWord 3 rfl) rfl rfl rfl ?_
    refine PZ_getI (pc' := 11) (id := 5000) (ci := 12) (nn := 0) (C0 := RX12) (T := TX12) (N := 62) (j := 26) (pw_dk dc_X12_isWord 4 rfl) rfl me_5000 rfl pi_12 (by decide) fk_12_26 tw_1423 ?_
    refine PW_if_ne (pc' := 14) (tgt := 26) (pw_dk dc_X12_isWord 5 rfl) rfl (by decide) (fun c_2 => ?_) (fun c_2 => ?_)
    · rw [if_neg c_2] at h
      refine PW_iconst (pc' := 27) (v := 0) (pw_dk dc_X12_isWord 12 rfl) rfl (by decide) ?_
      exact PZ_iret (ty := .boolean) (pw_dk dc_X12_isWord 13 rfl) rfl (by decide) h
    · rw [if_pos c_2] at h
      refine PW_aload_n (pc' := 15) (q := 0) (pw_dk dc_X12_isWord 6 rfl) rfl rfl rfl ?_
      refine PZ_getI (pc' := 18) (id := 5000) (ci := 12) (nn := 0) (C0 := RX12) (T := TX12) (N := 62) (j := 27) (pw_dk dc_X12_isWord 7 rfl) rfl me_5000 rfl pi_12 (by decide) fk_12_27 tw_1424 ?_
      refine PW_iload_n (pc' := 19) (q := 1) (pw_dk dc_X12_isWord 8 rfl) rfl rfl rfl ?_
      refine PW_icmp_ne (pc' := 22) (tgt := 26) (pw_dk dc_X12_isWord 9 rfl) rfl (by decide) (fun c_3 => ?_) (fun c_3 => ?_)
      · rw [if_neg c_3] at h
        refine PW_iconst (pc' := 27) (v := 0) (pw_dk dc_X12_isWord 12 rfl) rfl (by decide) ?_
        exact PZ_iret (ty := .boolean) (pw_dk dc_X12_isWord 13 rfl) rfl (by decide) h
      · rw [if_pos c_3] at h
        refine PW_iconst (pc' := 23) (v := 1) (pw_dk dc_X12_isWord 10 rfl) rfl (by decide) ?_
        refine PW_goto (tgt := 27) (pw_dk dc_X12_isWord 11 rfl) (by decide) ?_
        exact PZ_iret (ty := .boolean) (pw_dk dc_X12_isWord 13 rfl) rfl (by decide) h
def f_X12_isSign (x1 : Int32) (σ : zS) : Int32 := 
  if (σ.1 5000 28) = 0 then
    if (σ.1 5000 26) = 3 then
      if (σ.1 5000 27) = x1 then
        1
      else
        0
    else
      0
  else
    0
theorem t_X12_isSign (x1 : Int32) (σ : zS) (Q : Option Value → zS → Prop) (h : Q (some (.int (f_X12_isSign x1 σ))) σ) : PK alM yX12_isSign mX12_isSign (0) [.ref 5000, .int x1] σ Q := by
  refine PC_ofF (by decide +kernel) rfl rfl (Nat.le_of_ble_eq_true rfl) ?_
  show PZ alM mX12_isSign (0) Q 0 [(0, .ref 5000), (1, .int x1)] [] σ
  unfold f_X12_isSign at h
  refine PW_aload_n (pc' := 1) (q := 0) (pw_dk dc_X12_isSign 0 rfl) rfl rfl rfl ?_
  refine PZ_getI (pc' := 4) (id := 5000) (ci := 12) (nn := 0) (C0 := RX12) (T := TX12) (N := 62) (j := 28) (pw_dk dc_X12_isSign 1 rfl) rfl me_5000 rfl pi_12 (by decide) fk_12_28 tw_1425 ?_
  refine PW_if_ne (pc' := 7) (tgt := 27) (pw_dk dc_X12_isSign 2 rfl) rfl (by decide) (fun c_1 => ?_) (fun c_1 => ?_)
  · rw [if_neg c_1] at h
    refine PW_iconst (pc' := 28) (v := 0) (pw_dk dc_X12_isSign 13 rfl) rfl (by decide) ?_
    exact PZ_iret (ty := .boolean) (pw_dk dc_X12_isSign 14 rfl) rfl (by decide) h
  · rw [if_pos c_1] at h
    refine PW_aload_n (pc' := 8) (q := 0) (pw_dk dc_X12_isSign 3 rfl) rfl rfl rfl ?_
    refine PZ_getI (pc' := 11) (id := 5000) (ci := 12) (nn := 0) (C0 := RX12) (T := TX12) (N := 62) (j := 26) (pw_dk dc_X12_isSign 4 rfl) rfl me_5000 rfl pi_12 (by decide) fk_12_26 tw_1423 ?_
    refine PW_iconst (pc' := 12) (v := 3) (pw_dk dc_X12_isSign 5 rfl) rfl (by decide) ?_
    refine PW_icmp_ne (pc' := 15) (tgt := 27) (pw_dk dc_X12_isSign 6 rfl) rfl (by decide) (fun c_2 => ?_) (fun c_2 => ?_)
    · rw [if_neg c_2] at h
      refine PW_iconst (pc' := 28) (v := 0) (pw_dk dc_X12_isSign 13 rfl) rfl (by decide) ?_
      exact PZ_iret (ty := .boolean) (pw_dk dc_X12_isSign 14 rfl) rfl (by decide) h
    · rw [if_pos c_2] at h
      refine PW_aload_n (pc' := 16) (q := 0) (pw_dk dc_X12_isSign 7 rfl) rfl rfl rfl ?_
      refine PZ_getI (pc' := 19) (id := 5000) (ci := 12) (nn := 0) (C0 := RX12) (T := TX12) (N := 62) (j := 27) (pw_dk dc_X12_isSign 8 rfl) rfl me_5000 rfl pi_12 (by decide) fk_12_27 tw_1424 ?_
      refine PW_iload_n (pc' := 20) (q := 1) (pw_dk dc_X12_isSign 9 rfl) rfl rfl rfl ?_
      refine PW_icmp_ne (pc' := 23) (tgt := 27) (pw_dk dc_X12_isSign 10 rfl) rfl (by decide) (fun c_3 => ?_) (fun c_3 => ?_)
      · rw [if_neg c_3] at h
        refine PW_iconst (pc' := 28) (v := 0) (pw_dk dc_X12_isSign 13 rfl) rfl (by decide) ?_
        exact PZ_iret (ty := .boolean) (pw_dk dc_X12_isSign 14 rfl) rfl (by decide) h
      · rw [if_pos c_3] at h
        refine PW_iconst (pc' := 24) (v := 1) (pw_dk dc_X12_isSign 11 rfl) rfl (by decide) ?_
        refine PW_goto (tgt := 28) (pw_dk dc_X12_isSign 12 rfl) (by decide) ?_
        exact PZ_iret (ty := .boolean) (pw_dk dc_X12_isSign 14 rfl) rfl (by decide) h
def f_X12_goOn  (σ : zS) : Option zS := 
  if (σ.1 5000 28) = 0 then
    (f_X12_token σ).bind fun σ_3 =>
    some σ_3
  else
    some σ
theorem t_X12_goOn (σ : zS) (Q : Option Value → zS → Prop) (h : wpO (f_X12_goOn σ) (fun s => Q none s)) : PK alM yX12_goOn mX12_goOn (6) [.ref 5000] σ Q := by
  refine PC_ofF (by decide +kernel) rfl rfl (Nat.le_of_ble_eq_true rfl) ?_
  show PZ alM mX12_goOn (6) Q 0 [(0, .ref 5000)] [] σ
  unfold f_X12_goOn at h
  refine PW_aload_n (pc' := 1) (q := 0) (pw_dk dc_X12_goOn 0 rfl) rfl rfl rfl ?_
  refine PZ_getI (pc' := 4) (id := 5000) (ci := 12) (nn := 0) (C0 := RX12) (T := TX12) (N := 62) (j := 28) (pw_dk dc_X12_goOn 1 rfl) rfl me_5000 rfl pi_12 (by decide) fk_12_28 tw_1425 ?_
  refine PW_if_ne (pc' := 7) (tgt := 11) (pw_dk dc_X12_goOn 2 rfl) rfl (by decide) (fun c_1 => ?_) (fun c_1 => ?_)
  · rw [if_neg c_1] at h
    have z := wp_some h
    exact PZ_vret (pw_dk dc_X12_goOn 5 rfl) rfl z
  · rw [if_pos c_1] at h
    refine PW_aload_n (pc' := 8) (q := 0) (pw_dk dc_X12_goOn 3 rfl) rfl rfl rfl ?_
    refine PZ_callVv (pc' := 11) (y := yX12_token) (M' := mX12_token) (d' := 5) (As := []) (st := []) (b := 5000) (ci := 12) (nn := 0) me_5000 rfl tw_1602 tw_49 (pw_dk dc_X12_goOn 4 rfl) rfl Y_X12_token tw_1600 rfl (by decide) (Nat.le_of_ble_eq_true rfl) (t_X12_token σ _ ?_)
    obtain ⟨σ_3, e_4, h⟩ := wp_bind h
    refine ⟨σ_3, e_4, rfl, fun hn_2 => ?_⟩
    show PZ alM mX12_goOn (6) Q 11 [(0, .ref 5000)] [] σ_3
    have z := wp_some h
    exact PZ_vret (pw_dk dc_X12_goOn 5 rfl) rfl z
def f_X12_numeral_46  (x1 : Int32) (σ : zS) : Option (Int32 × zS) := 
  if (σ.1 5000 28) = 0 then
    lt (α := Int32) (σ.1 5000 27) fun x3_2 =>
    (f_X12_token σ).bind fun σ_4 =>
    some (x3_2, σ_4)
  else
    some (x1, σ)
theorem b_X12_numeral_46 {Q : Option Value → zS → Prop} (x1 : Int32) (σ : zS) (h : wpO (f_X12_numeral_46 x1 σ) (fun a => Q (some (.int a.1)) a.2)) : PZ alM mX12_numeral (6) Q 46 [(0, .ref 5000), (1, .int x1)] [] σ := by
  unfold f_X12_numeral_46 at h
  refine PW_aload_n (pc' := 47) (q := 0) (pw_dk dc_X12_numeral 24 rfl) rfl rfl rfl ?_
  refine PZ_getI (pc' := 50) (id := 5000) (ci := 12) (nn := 0) (C0 := RX12) (T := TX12) (N := 62) (j := 28) (pw_dk dc_X12_numeral 25 rfl) rfl me_5000 rfl pi_12 (by decide) fk_12_28 tw_1425 ?_
  refine PW_if_eq (pc' := 53) (tgt := 55) (pw_dk dc_X12_numeral 26 rfl) rfl (by decide) (fun c_1 => ?_) (fun c_1 => ?_)
  · rw [if_pos c_1] at h
    refine PW_aload_n (pc' := 56) (q := 0) (pw_dk dc_X12_numeral 29 rfl) rfl rfl rfl ?_
    refine PZ_getI (pc' := 59) (id := 5000) (ci := 12) (nn := 0) (C0 := RX12) (T := TX12) (N := 62) (j := 27) (pw_dk dc_X12_numeral 30 rfl) rfl me_5000 rfl pi_12 (by decide) fk_12_27 tw_1424 ?_
    refine PW_topi (fun x3_2 ex3_2 => ?_)
    replace h := lt_w h ex3_2
    refine PW_istore_n (pc' := 60) (lv' := [(3, .int x3_2), (0, .ref 5000), (1, .int x1)]) (pw_dk dc_X12_numeral 31 rfl) rfl rfl (by decide) rfl ?_
    refine PW_aload_n (pc' := 61) (q := 1) (pw_dk dc_X12_numeral 32 rfl) rfl rfl rfl ?_
    refine PZ_callVv (pc' := 64) (y := yX12_token) (M' := mX12_token) (d' := 5) (As := []) (st := []) (b := 5000) (ci := 12) (nn := 0) me_5000 rfl tw_1602 tw_49 (pw_dk dc_X12_numeral 33 rfl) rfl Y_X12_token tw_1600 rfl (by decide) (Nat.le_of_ble_eq_true rfl) (t_X12_token σ _ ?_)
    obtain ⟨σ_4, e_5, h⟩ := wp_bind h
    refine ⟨σ_4, e_5, rfl, fun hn_3 => ?_⟩
    show PZ alM mX12_numeral (6) Q 64 [(3, .int x3_2), (0, .ref 5000), (1, .int x1)] [] σ_4
    refine PW_iload_n (pc' := 65) (q := 0) (pw_dk dc_X12_numeral 34 rfl) rfl rfl rfl ?_
    have z := wp_some h
    exact PZ_iret (ty := .int) (pw_dk dc_X12_numeral 35 rfl) rfl rfl z
  · rw [if_neg c_1] at h
    refine PW_iload_n (pc' := 54) (q := 1) (pw_dk dc_X12_numeral 27 rfl) rfl rfl rfl ?_
    have z := wp_some h
    exact PZ_iret (ty := .int) (pw_dk dc_X12_numeral 28 rfl) rfl rfl z
def f_X12_numeral_41  (x1 : Int32) (σ : zS) : Option (Int32 × zS) := 
  (f_X12_wrong 2 σ).bind fun σ_2 =>
  f_X12_numeral_46 x1 σ_2
theorem b_X12_numeral_41 {Q : Option Value → zS → Prop} (x1 : Int32) (σ : zS) (h : wpO (f_X12_numeral_41 x1 σ) (fun a => Q (some (.int a.1)) a.2)) : PZ alM mX12_numeral (6) Q 41 [(0, .ref 5000), (1, .int x1)] [] σ := by
  unfold f_X12_numeral_41 at h
  refine PW_aload_n (pc' := 42) (q := 0) (pw_dk dc_X12_numeral 21 rfl) rfl rfl rfl ?_
  refine PW_iconst (pc' := 43) (v := 2) (pw_dk dc_X12_numeral 22 rfl) rfl (by decide) ?_
  refine PZ_callVv (pc' := 46) (y := yX12_wrong) (M' := mX12_wrong) (d' := 0) (As := [.int 2]) (st := []) (b := 5000) (ci := 12) (nn := 0) me_5000 rfl tw_1636 tw_55 (pw_dk dc_X12_numeral 23 rfl) rfl Y_X12_wrong tw_1634 rfl (by decide) (Nat.le_of_ble_eq_true rfl) (t_X12_wrong 2 σ _ ?_)
  obtain ⟨σ_2, e_3, h⟩ := wp_bind h
  refine ⟨σ_2, e_3, rfl, fun hn_1 => ?_⟩
  show PZ alM mX12_numeral (6) Q 46 [(0, .ref 5000), (1, .int x1)] [] σ_2
  exact b_X12_numeral_46 x1 σ_2 h
def f_X12_numeral (x1 : Int32) (x2 : Int32) (σ : zS) : Option (Int32 × zS) := 
  if (σ.1 5000 28) = 0 then
    if (σ.1 5000 26) = 2 then
      if (σ.1 5000 27) < x1 then
        f_X12_numeral_41 x1 σ
      else
        if (σ.1 5000 27) ≤ x2 then
          f_X12_numeral_46 x1 σ
        else
          f_X12_numeral_41 x1 σ
    else
      (f_X12_wrong 1 σ).bind fun σ_6 =>
      f_X12_numeral_46 x1 σ_6
  else
    some (x1, σ)
theorem t_X12_numeral (x1 : Int32) (x2 : Int32) (σ : zS) (Q : Option Value → zS → Prop) (h : wpO (f_X12_numeral x1 x2 σ) (fun a => Q (some (.int a.1)) a.2)) : PK alM yX12_numeral mX12_numeral (6) [.ref 5000, .int x1, .int x2] σ Q := by
  refine PC_ofF (by decide +kernel) rfl rfl (Nat.le_of_ble_eq_true rfl) ?_
  show PZ alM mX12_numeral (6) Q 0 [(0, .ref 5000), (1, .int x1), (2, .int x2)] [] σ
  unfold f_X12_numeral at h
  refine PW_aload_n (pc' := 1) (q := 0) (pw_dk dc_X12_numeral 0 rfl) rfl rfl rfl ?_
  refine PZ_getI (pc' := 4) (id := 5000) (ci := 12) (nn := 0) (C0 := RX12) (T := TX12) (N := 62) (j := 28) (pw_dk dc_X12_numeral 1 rfl) rfl me_5000 rfl pi_12 (by decide) fk_12_28 tw_1425 ?_
  refine PW_if_eq (pc' := 7) (tgt := 9) (pw_dk dc_X12_numeral 2 rfl) rfl (by decide) (fun c_1 => ?_) (fun c_1 => ?_)
  · rw [if_pos c_1] at h
    refine PW_aload_n (pc' := 10) (q := 0) (pw_dk dc_X12_numeral 5 rfl) rfl rfl rfl ?_
    refine PZ_getI (pc' := 13) (id := 5000) (ci := 12) (nn := 0) (C0 := RX12) (T := TX12) (N := 62) (j := 26) (pw_dk dc_X12_numeral 6 rfl) rfl me_5000 rfl pi_12 (by decide) fk_12_26 tw_1423 ?_
    refine PW_iconst (pc' := 14) (v := 2) (pw_dk dc_X12_numeral 7 rfl) rfl (by decide) ?_
    refine PW_icmp_eq (pc' := 17) (tgt := 25) (pw_dk dc_X12_numeral 8 rfl) rfl (by decide) (fun c_2 => ?_) (fun c_2 => ?_)
    · rw [if_pos c_2] at h
      refine PW_aload_n (pc' := 26) (q := 0) (pw_dk dc_X12_numeral 13 rfl) rfl rfl rfl ?_
      refine PZ_getI (pc' := 29) (id := 5000) (ci := 12) (nn := 0) (C0 := RX12) (T := TX12) (N := 62) (j := 27) (pw_dk dc_X12_numeral 14 rfl) rfl me_5000 rfl pi_12 (by decide) fk_12_27 tw_1424 ?_
      refine PW_iload_n (pc' := 30) (q := 1) (pw_dk dc_X12_numeral 15 rfl) rfl rfl rfl ?_
      refine PW_icmp_lt (pc' := 33) (tgt := 41) (pw_dk dc_X12_numeral 16 rfl) rfl (by decide) (fun c_3 => ?_) (fun c_3 => ?_)
      · rw [if_pos c_3] at h
        refine PW_sub (lv' := [(0, .ref 5000), (1, .int x1)]) [0, 1] rfl ?_
        exact b_X12_numeral_41 x1 σ h
      · rw [if_neg c_3] at h
        refine PW_aload_n (pc' := 34) (q := 0) (pw_dk dc_X12_numeral 17 rfl) rfl rfl rfl ?_
        refine PZ_getI (pc' := 37) (id := 5000) (ci := 12) (nn := 0) (C0 := RX12) (T := TX12) (N := 62) (j := 27) (pw_dk dc_X12_numeral 18 rfl) rfl me_5000 rfl pi_12 (by decide) fk_12_27 tw_1424 ?_
        refine PW_iload_n (pc' := 38) (q := 2) (pw_dk dc_X12_numeral 19 rfl) rfl rfl rfl ?_
        refine PW_icmp_le (pc' := 41) (tgt := 46) (pw_dk dc_X12_numeral 20 rfl) rfl (by decide) (fun c_4 => ?_) (fun c_4 => ?_)
        · rw [if_pos c_4] at h
          refine PW_sub (lv' := [(0, .ref 5000), (1, .int x1)]) [0, 1] rfl ?_
          exact b_X12_numeral_46 x1 σ h
        · rw [if_neg c_4] at h
          refine PW_sub (lv' := [(0, .ref 5000), (1, .int x1)]) [0, 1] rfl ?_
          exact b_X12_numeral_41 x1 σ h
    · rw [if_neg c_2] at h
      refine PW_aload_n (pc' := 18) (q := 0) (pw_dk dc_X12_numeral 9 rfl) rfl rfl rfl ?_
      refine PW_iconst (pc' := 19) (v := 1) (pw_dk dc_X12_numeral 10 rfl) rfl (by decide) ?_
      refine PZ_callVv (pc' := 22) (y := yX12_wrong) (M' := mX12_wrong) (d' := 0) (As := [.int 1]) (st := []) (b := 5000) (ci := 12) (nn := 0) me_5000 rfl tw_1636 tw_55 (pw_dk dc_X12_numeral 11 rfl) rfl Y_X12_wrong tw_1634 rfl (by decide) (Nat.le_of_ble_eq_true rfl) (t_X12_wrong 1 σ _ ?_)
      obtain ⟨σ_6, e_7, h⟩ := wp_bind h
      refine ⟨σ_6, e_7, rfl, fun hn_5 => ?_⟩
      show PZ alM mX12_numeral (6) Q 22 [(0, .ref 5000), (1, .int x1), (2, .int x2)] [] σ_6
      refine PW_goto (tgt := 46) (pw_dk dc_X12_numeral 12 rfl) (by decide) ?_
      refine PW_sub (lv' := [(0, .ref 5000), (1, .int x1)]) [0, 1] rfl ?_
      exact b_X12_numeral_46 x1 σ_6 h
  · rw [if_neg c_1] at h
    refine PW_iload_n (pc' := 8) (q := 1) (pw_dk dc_X12_numeral 3 rfl) rfl rfl rfl ?_
    have z := wp_some h
    exact PZ_iret (ty := .int) (pw_dk dc_X12_numeral 4 rfl) rfl rfl z
def f_X12_found_3 (a0 n0 : Nat) : Nat → Int32 → Int32 → Int32 → Int32 → zS → Option Int32
  | 0, _, _, _, _, _ => none
  | n + 1, x1, x2, x3, x4, σ => 
    if x2 ≤ x4 then
      some (-1 : Int32)
    else
      (rdI σ a0 n0 (x1 + x4)).bind fun v_2 =>
      if v_2 = x3 then
        some x4
      else
        f_X12_found_3 a0 n0 n x1 x2 x3 (x4 + 1) σ
theorem b_X12_found_3 {Q : Option Value → zS → Prop} (a0 n0 : Nat) (ha0 : (a0, 13, n0) ∈ alM) : ∀ (n : Nat) (x1 : Int32) (x2 : Int32) (x3 : Int32) (x4 : Int32) (σ : zS) (h : wpO (f_X12_found_3 a0 n0 n x1 x2 x3 x4 σ) (fun a => Q (some (.int a)) σ)), PZ alM mX12_found (0) Q 3 [(0, .ref a0), (1, .int x1), (2, .int x2), (3, .int x3), (4, .int x4)] [] σ := by
  intro n
  induction n with
  | zero => intro x1 x2 x3 x4 σ h; exact wp_none h
  | succ n ih =>
    intro x1 x2 x3 x4 σ h
    rw [f_X12_found_3] at h
    refine PW_iload (pc' := 5) (q := 4) (pw_dk dc_X12_found 2 rfl) rfl rfl ?_
    refine PW_iload_n (pc' := 6) (q := 2) (pw_dk dc_X12_found 3 rfl) rfl rfl rfl ?_
    refine PW_icmp_ge (pc' := 9) (tgt := 28) (pw_dk dc_X12_found 4 rfl) rfl (by decide) (fun c_1 => ?_) (fun c_1 => ?_)
    · rw [if_pos c_1] at h
      refine PW_iconst (pc' := 29) (v := (-1 : Int32)) (pw_dk dc_X12_found 16 rfl) rfl (by decide) ?_
      have z := wp_some h
      exact PZ_iret (ty := .int) (pw_dk dc_X12_found 17 rfl) rfl rfl z
    · rw [if_neg c_1] at h
      refine PW_aload_n (pc' := 10) (q := 0) (pw_dk dc_X12_found 5 rfl) rfl rfl rfl ?_
      refine PW_iload_n (pc' := 11) (q := 1) (pw_dk dc_X12_found 6 rfl) rfl rfl rfl ?_
      refine PW_iload (pc' := 13) (q := 4) (pw_dk dc_X12_found 7 rfl) rfl rfl ?_
      refine PW_iadd (pc' := 14) (pw_dk dc_X12_found 8 rfl) rfl ?_
      obtain ⟨v_2, hi_3, e_4, h⟩ := wp_rdIx h
      refine PZ_ialdx (pc' := 15) (v := v_2) (id := a0) (nn := n0) (pw_dk dc_X12_found 9 rfl) rfl ha0 hi_3 e_4 ?_
      refine PW_iload_n (pc' := 16) (q := 3) (pw_dk dc_X12_found 10 rfl) rfl rfl rfl ?_
      refine PW_icmp_ne (pc' := 19) (tgt := 22) (pw_dk dc_X12_found 11 rfl) rfl (by decide) (fun c_5 => ?_) (fun c_5 => ?_)
      · rw [if_neg c_5] at h
        refine PW_iinc (pc' := 25) (q := 4) (v := x4 + 1) (lv' := [(4, .int (x4 + 1)), (0, .ref a0), (1, .int x1), (2, .int x2), (3, .int x3)]) (pw_dk dc_X12_found 14 rfl) rfl rfl rfl (by decide) rfl ?_
        refine PW_goto (tgt := 3) (pw_dk dc_X12_found 15 rfl) (by decide) ?_
        refine PW_sub (lv' := [(0, .ref a0), (1, .int x1), (2, .int x2), (3, .int x3), (4, .int (x4 + 1))]) [1, 2, 3, 4, 0] rfl ?_
        exact ih x1 x2 x3 (x4 + 1) σ h
      · rw [if_pos c_5] at h
        refine PW_iload (pc' := 21) (q := 4) (pw_dk dc_X12_found 12 rfl) rfl rfl ?_
        have z := wp_some h
        exact PZ_iret (ty := .int) (pw_dk dc_X12_found 13 rfl) rfl rfl z
def f_X12_found (a0 n0 : Nat) (x1 : Int32) (x2 : Int32) (x3 : Int32) (σ : zS) : Option Int32 := 
  f_X12_found_3 a0 n0 FU x1 x2 x3 0 σ
theorem t_X12_found (a0 n0 : Nat) (x1 : Int32) (x2 : Int32) (x3 : Int32) (ha0 : (a0, 13, n0) ∈ alM) (σ : zS) (Q : Option Value → zS → Prop) (h : wpO (f_X12_found a0 n0 x1 x2 x3 σ) (fun a => Q (some (.int a)) σ)) : PK alM yX12_found mX12_found (0) [.ref a0, .int x1, .int x2, .int x3] σ Q := by
  refine PC_ofF (by decide +kernel) rfl rfl (Nat.le_of_ble_eq_true rfl) ?_
  show PZ alM mX12_found (0) Q 0 [(0, .ref a0), (1, .int x1), (2, .int x2), (3, .int x3)] [] σ
  unfold f_X12_found at h
  refine PW_iconst (pc' := 1) (v := 0) (pw_dk dc_X12_found 0 rfl) rfl (by decide) ?_
  refine PW_istore (pc' := 3) (lv' := [(4, .int 0), (0, .ref a0), (1, .int x1), (2, .int x2), (3, .int x3)]) (pw_dk dc_X12_found 1 rfl) rfl (by decide) rfl ?_
  refine PW_sub (lv' := [(0, .ref a0), (1, .int x1), (2, .int x2), (3, .int x3), (4, .int 0)]) [1, 2, 3, 4, 0] rfl ?_
  exact b_X12_found_3 a0 n0 ha0 FU x1 x2 x3 0 σ h
def f_X12_fresh_44 (a1 n1 : Nat)  (σ : zS) : Option (Int32 × zS) := 
  if (σ.1 5000 28) = 0 then
    lt (α := Int32) (σ.1 5000 27) fun x4_2 =>
    (f_X12_token σ).bind fun σ_4 =>
    some (x4_2, σ_4)
  else
    some (0, σ)
theorem b_X12_fresh_44 {Q : Option Value → zS → Prop} (a1 n1 : Nat) (ha1 : (a1, 13, n1) ∈ alM)  (σ : zS) (h : wpO (f_X12_fresh_44 a1 n1 σ) (fun a => Q (some (.int a.1)) a.2)) : PZ alM mX12_fresh (6) Q 44 [(0, .ref 5000)] [] σ := by
  unfold f_X12_fresh_44 at h
  refine PW_aload_n (pc' := 45) (q := 0) (pw_dk dc_X12_fresh 24 rfl) rfl rfl rfl ?_
  refine PZ_getI (pc' := 48) (id := 5000) (ci := 12) (nn := 0) (C0 := RX12) (T := TX12) (N := 62) (j := 28) (pw_dk dc_X12_fresh 25 rfl) rfl me_5000 rfl pi_12 (by decide) fk_12_28 tw_1425 ?_
  refine PW_if_eq (pc' := 51) (tgt := 53) (pw_dk dc_X12_fresh 26 rfl) rfl (by decide) (fun c_1 => ?_) (fun c_1 => ?_)
  · rw [if_pos c_1] at h
    refine PW_aload_n (pc' := 54) (q := 0) (pw_dk dc_X12_fresh 29 rfl) rfl rfl rfl ?_
    refine PZ_getI (pc' := 57) (id := 5000) (ci := 12) (nn := 0) (C0 := RX12) (T := TX12) (N := 62) (j := 27) (pw_dk dc_X12_fresh 30 rfl) rfl me_5000 rfl pi_12 (by decide) fk_12_27 tw_1424 ?_
    refine PW_topi (fun x4_2 ex4_2 => ?_)
    replace h := lt_w h ex4_2
    refine PW_istore (pc' := 59) (lv' := [(4, .int x4_2), (0, .ref 5000)]) (pw_dk dc_X12_fresh 31 rfl) rfl (by decide) rfl ?_
    refine PW_aload_n (pc' := 60) (q := 1) (pw_dk dc_X12_fresh 32 rfl) rfl rfl rfl ?_
    refine PZ_callVv (pc' := 63) (y := yX12_token) (M' := mX12_token) (d' := 5) (As := []) (st := []) (b := 5000) (ci := 12) (nn := 0) me_5000 rfl tw_1602 tw_49 (pw_dk dc_X12_fresh 33 rfl) rfl Y_X12_token tw_1600 rfl (by decide) (Nat.le_of_ble_eq_true rfl) (t_X12_token σ _ ?_)
    obtain ⟨σ_4, e_5, h⟩ := wp_bind h
    refine ⟨σ_4, e_5, rfl, fun hn_3 => ?_⟩
    show PZ alM mX12_fresh (6) Q 63 [(4, .int x4_2), (0, .ref 5000)] [] σ_4
    refine PW_iload (pc' := 65) (q := 0) (pw_dk dc_X12_fresh 34 rfl) rfl rfl ?_
    have z := wp_some h
    exact PZ_iret (ty := .int) (pw_dk dc_X12_fresh 35 rfl) rfl rfl z
  · rw [if_neg c_1] at h
    refine PW_iconst (pc' := 52) (v := 0) (pw_dk dc_X12_fresh 27 rfl) rfl (by decide) ?_
    have z := wp_some h
    exact PZ_iret (ty := .int) (pw_dk dc_X12_fresh 28 rfl) rfl rfl z
def f_X12_fresh (a1 n1 : Nat) (x2 : Int32) (x3 : Int32) (σ : zS) : Option (Int32 × zS) := 
  if (σ.1 5000 28) = 0 then
    if (σ.1 5000 26) = 1 then
      (f_X12_found a1 n1 x2 x3 (σ.1 5000 27) σ).bind fun v_4 =>
      if v_4 = (-1 : Int32) then
        f_X12_fresh_44 a1 n1 σ
      else
        (f_X12_wrong 3 σ).bind fun σ_8 =>
        f_X12_fresh_44 a1 n1 σ_8
    else
      (f_X12_wrong 1 σ).bind fun σ_11 =>
      f_X12_fresh_44 a1 n1 σ_11
  else
    some (0, σ)
theorem t_X12_fresh (a1 n1 : Nat) (x2 : Int32) (x3 : Int32) (ha1 : (a1, 13, n1) ∈ alM) (σ : zS) (Q : Option Value → zS → Prop) (h : wpO (f_X12_fresh a1 n1 x2 x3 σ) (fun a => Q (some (.int a.1)) a.2)) : PK alM yX12_fresh mX12_fresh (6) [.ref 5000, .ref a1, .int x2, .int x3] σ Q := by
  refine PC_ofF (by decide +kernel) rfl rfl (Nat.le_of_ble_eq_true rfl) ?_
  show PZ alM mX12_fresh (6) Q 0 [(0, .ref 5000), (1, .ref a1), (2, .int x2), (3, .int x3)] [] σ
  unfold f_X12_fresh at h
  refine PW_aload_n (pc' := 1) (q := 0) (pw_dk dc_X12_fresh 0 rfl) rfl rfl rfl ?_
  refine PZ_getI (pc' := 4) (id := 5000) (ci := 12) (nn := 0) (C0 := RX12) (T := TX12) (N := 62) (j := 28) (pw_dk dc_X12_fresh 1 rfl) rfl me_5000 rfl pi_12 (by decide) fk_12_28 tw_1425 ?_
  refine PW_if_eq (pc' := 7) (tgt := 9) (pw_dk dc_X12_fresh 2 rfl) rfl (by decide) (fun c_1 => ?_) (fun c_1 => ?_)
  · rw [if_pos c_1] at h
    refine PW_aload_n (pc' := 10) (q := 0) (pw_dk dc_X12_fresh 5 rfl) rfl rfl rfl ?_
    refine PZ_getI (pc' := 13) (id := 5000) (ci := 12) (nn := 0) (C0 := RX12) (T := TX12) (N := 62) (j := 26) (pw_dk dc_X12_fresh 6 rfl) rfl me_5000 rfl pi_12 (by decide) fk_12_26 tw_1423 ?_
    refine PW_iconst (pc' := 14) (v := 1) (pw_dk dc_X12_fresh 7 rfl) rfl (by decide) ?_
    refine PW_icmp_eq (pc' := 17) (tgt := 25) (pw_dk dc_X12_fresh 8 rfl) rfl (by decide) (fun c_2 => ?_) (fun c_2 => ?_)
    · rw [if_pos c_2] at h
      refine PW_aload_n (pc' := 26) (q := 1) (pw_dk dc_X12_fresh 13 rfl) rfl rfl rfl ?_
      refine PW_iload_n (pc' := 27) (q := 2) (pw_dk dc_X12_fresh 14 rfl) rfl rfl rfl ?_
      refine PW_iload_n (pc' := 28) (q := 3) (pw_dk dc_X12_fresh 15 rfl) rfl rfl rfl ?_
      refine PW_aload_n (pc' := 29) (q := 0) (pw_dk dc_X12_fresh 16 rfl) rfl rfl rfl ?_
      refine PZ_getI (pc' := 32) (id := 5000) (ci := 12) (nn := 0) (C0 := RX12) (T := TX12) (N := 62) (j := 27) (pw_dk dc_X12_fresh 17 rfl) rfl me_5000 rfl pi_12 (by decide) fk_12_27 tw_1424 ?_
      refine PZ_callSi (pc' := 35) (y := yX12_found) (M' := mX12_found) (d' := 0) (As := [.ref a1, .int x2, .int x3, .int (σ.1 5000 27)]) (st := []) tw_1655 (pw_dk dc_X12_fresh 18 rfl) rfl Y_X12_found tw_1654 rfl (by decide) (Nat.le_of_ble_eq_true rfl) (t_X12_found a1 n1 x2 x3 (σ.1 5000 27) ha1 σ _ ?_)
      obtain ⟨v_4, e_5, h⟩ := wp_bind h
      refine ⟨v_4, e_5, _, rfl, fun hn_3 => ?_⟩
      show PZ alM mX12_fresh (6) Q 35 [(0, .ref 5000), (1, .ref a1), (2, .int x2), (3, .int x3)] [.int v_4] σ
      refine PW_iconst (pc' := 36) (v := (-1 : Int32)) (pw_dk dc_X12_fresh 19 rfl) rfl (by decide) ?_
      refine PW_icmp_eq (pc' := 39) (tgt := 44) (pw_dk dc_X12_fresh 20 rfl) rfl (by decide) (fun c_6 => ?_) (fun c_6 => ?_)
      · rw [if_pos c_6] at h
        refine PW_sub (lv' := [(0, .ref 5000)]) [0] rfl ?_
        exact b_X12_fresh_44 a1 n1 ha1 σ h
      · rw [if_neg c_6] at h
        refine PW_aload_n (pc' := 40) (q := 0) (pw_dk dc_X12_fresh 21 rfl) rfl rfl rfl ?_
        refine PW_iconst (pc' := 41) (v := 3) (pw_dk dc_X12_fresh 22 rfl) rfl (by decide) ?_
        refine PZ_callVv (pc' := 44) (y := yX12_wrong) (M' := mX12_wrong) (d' := 0) (As := [.int 3]) (st := []) (b := 5000) (ci := 12) (nn := 0) me_5000 rfl tw_1636 tw_55 (pw_dk dc_X12_fresh 23 rfl) rfl Y_X12_wrong tw_1634 rfl (by decide) (Nat.le_of_ble_eq_true rfl) (t_X12_wrong 3 σ _ ?_)
        obtain ⟨σ_8, e_9, h⟩ := wp_bind h
        refine ⟨σ_8, e_9, rfl, fun hn_7 => ?_⟩
        show PZ alM mX12_fresh (6) Q 44 [(0, .ref 5000), (1, .ref a1), (2, .int x2), (3, .int x3)] [] σ_8
        refine PW_sub (lv' := [(0, .ref 5000)]) [0] rfl ?_
        exact b_X12_fresh_44 a1 n1 ha1 σ_8 h
    · rw [if_neg c_2] at h
      refine PW_aload_n (pc' := 18) (q := 0) (pw_dk dc_X12_fresh 9 rfl) rfl rfl rfl ?_
      refine PW_iconst (pc' := 19) (v := 1) (pw_dk dc_X12_fresh 10 rfl) rfl (by decide) ?_
      refine PZ_callVv (pc' := 22) (y := yX12_wrong) (M' := mX12_wrong) (d' := 0) (As := [.int 1]) (st := []) (b := 5000) (ci := 12) (nn := 0) me_5000 rfl tw_1636 tw_55 (pw_dk dc_X12_fresh 11 rfl) rfl Y_X12_wrong tw_1634 rfl (by decide) (Nat.le_of_ble_eq_true rfl) (t_X12_wrong 1 σ _ ?_)
      obtain ⟨σ_11, e_12, h⟩ := wp_bind h
      refine ⟨σ_11, e_12, rfl, fun hn_10 => ?_⟩
      show PZ alM mX12_fresh (6) Q 22 [(0, .ref 5000), (1, .ref a1), (2, .int x2), (3, .int x3)] [] σ_11
      refine PW_goto (tgt := 44) (pw_dk dc_X12_fresh 12 rfl) (by decide) ?_
      refine PW_sub (lv' := [(0, .ref 5000)]) [0] rfl ?_
      exact b_X12_fresh_44 a1 n1 ha1 σ_11 h
  · rw [if_neg c_1] at h
    refine PW_iconst (pc' := 8) (v := 0) (pw_dk dc_X12_fresh 3 rfl) rfl (by decide) ?_
    have z := wp_some h
    exact PZ_iret (ty := .int) (pw_dk dc_X12_fresh 4 rfl) rfl rfl z
def f_X12_fresher (x1 : Int32) (σ : zS) : Option Int32 := 
  (rdI σ 5004 16 ((8 : Int32) + x1)).bind fun v_1 =>
  some v_1
theorem t_X12_fresher (x1 : Int32) (σ : zS) (Q : Option Value → zS → Prop) (h : wpO (f_X12_fresher x1 σ) (fun a => Q (some (.int a)) σ)) : PK alM yX12_fresher mX12_fresher (0) [.ref 5000, .int x1] σ Q := by
  refine PC_ofF (by decide +kernel) rfl rfl (Nat.le_of_ble_eq_true rfl) ?_
  show PZ alM mX12_fresher (0) Q 0 [(0, .ref 5000), (1, .int x1)] [] σ
  unfold f_X12_fresher at h
  refine PW_aload_n (pc' := 1) (q := 0) (pw_dk dc_X12_fresher 0 rfl) rfl rfl rfl ?_
  refine PW_getR (pc' := 4) (id := 5000) (ci := 12) (nn := 0) (C0 := RX12) (T := TX12) (N := 62) (j := 3) (r := 5004) (pw_dk dc_X12_fresher 1 rfl) rfl me_5000 rfl pi_12 (by decide) fk_12_3 tw_1400 (rfl) (by decide) ?_
  refine PW_bipush (pc' := 6) (v := 8) (pw_dk dc_X12_fresher 2 rfl) rfl (by decide) ?_
  refine PW_iload_n (pc' := 7) (q := 1) (pw_dk dc_X12_fresher 3 rfl) rfl rfl rfl ?_
  refine PW_iadd (pc' := 8) (pw_dk dc_X12_fresher 4 rfl) rfl ?_
  obtain ⟨v_1, hi_2, e_3, h⟩ := wp_rdIx h
  refine PZ_ialdx (pc' := 9) (v := v_1) (id := 5004) (nn := 16) (pw_dk dc_X12_fresher 5 rfl) rfl me_5004 hi_2 e_3 ?_
  have z := wp_some h
  exact PZ_iret (ty := .int) (pw_dk dc_X12_fresher 6 rfl) rfl rfl z
def f_X12_reads (x1 : Int32) (x2 : Int32) (σ : zS) : Option zS := 
  (wrI σ 5004 16 ((8 : Int32) + x1) x2).bind fun σ_1 =>
  some σ_1
theorem t_X12_reads (x1 : Int32) (x2 : Int32) (σ : zS) (Q : Option Value → zS → Prop) (h : wpO (f_X12_reads x1 x2 σ) (fun s => Q none s)) : PK alM yX12_reads mX12_reads (0) [.ref 5000, .int x1, .int x2] σ Q := by
  refine PC_ofF (by decide +kernel) rfl rfl (Nat.le_of_ble_eq_true rfl) ?_
  show PZ alM mX12_reads (0) Q 0 [(0, .ref 5000), (1, .int x1), (2, .int x2)] [] σ
  unfold f_X12_reads at h
  refine PW_aload_n (pc' := 1) (q := 0) (pw_dk dc_X12_reads 0 rfl) rfl rfl rfl ?_
  refine PW_getR (pc' := 4) (id := 5000) (ci := 12) (nn := 0) (C0 := RX12) (T := TX12) (N := 62) (j := 3) (r := 5004) (pw_dk dc_X12_reads 1 rfl) rfl me_5000 rfl pi_12 (by decide) fk_12_3 tw_1400 (rfl) (by decide) ?_
  refine PW_bipush (pc' := 6) (v := 8) (pw_dk dc_X12_reads 2 rfl) rfl (by decide) ?_
  refine PW_iload_n (pc' := 7) (q := 1) (pw_dk dc_X12_reads 3 rfl) rfl rfl rfl ?_
  refine PW_iadd (pc' := 8) (pw_dk dc_X12_reads 4 rfl) rfl ?_
  refine PW_iload_n (pc' := 9) (q := 2) (pw_dk dc_X12_reads 5 rfl) rfl rfl rfl ?_
  obtain ⟨σ_1, hi_2, e_3, h⟩ := wp_wrIx h
  refine PZ_iastx (pc' := 10) (σ' := σ_1) (id := 5004) (nn := 16) (pw_dk dc_X12_reads 6 rfl) rfl me_5004 hi_2 e_3 ?_
  have z := wp_some h
  exact PZ_vret (pw_dk dc_X12_reads 7 rfl) rfl z
def f_X12_isFull_58   (σ : zS) : Option Int32 := 
  some 1
theorem b_X12_isFull_58 {Q : Option Value → zS → Prop}  (σ : zS) (h : wpO (f_X12_isFull_58 σ) (fun a => Q (some (.int a)) σ)) : PZ alM mX12_isFull (1) Q 58 [] [] σ := by
  unfold f_X12_isFull_58 at h
  refine PW_iconst (pc' := 59) (v := 1) (pw_dk dc_X12_isFull 32 rfl) rfl (by decide) ?_
  refine PW_goto (tgt := 63) (pw_dk dc_X12_isFull 33 rfl) (by decide) ?_
  have z := wp_some h
  exact PZ_iret (ty := .boolean) (pw_dk dc_X12_isFull 35 rfl) rfl (by decide) z
def f_X12_isFull_43  (x1 : Int32) (σ : zS) : Option Int32 := 
  if x1 = 4 then
    (f_X12_fresher 4 σ).bind fun v_3 =>
    if v_3 = 8 then
      f_X12_isFull_58 σ
    else
      some 0
  else
    some 0
theorem b_X12_isFull_43 {Q : Option Value → zS → Prop} (x1 : Int32) (σ : zS) (h : wpO (f_X12_isFull_43 x1 σ) (fun a => Q (some (.int a)) σ)) : PZ alM mX12_isFull (1) Q 43 [(0, .ref 5000), (1, .int x1)] [] σ := by
  unfold f_X12_isFull_43 at h
  refine PW_iload_n (pc' := 44) (q := 1) (pw_dk dc_X12_isFull 24 rfl) rfl rfl rfl ?_
  refine PW_iconst (pc' := 45) (v := 4) (pw_dk dc_X12_isFull 25 rfl) rfl (by decide) ?_
  refine PW_icmp_ne (pc' := 48) (tgt := 62) (pw_dk dc_X12_isFull 26 rfl) rfl (by decide) (fun c_1 => ?_) (fun c_1 => ?_)
  · rw [if_neg c_1] at h
    refine PW_iconst (pc' := 63) (v := 0) (pw_dk dc_X12_isFull 34 rfl) rfl (by decide) ?_
    have z := wp_some h
    exact PZ_iret (ty := .boolean) (pw_dk dc_X12_isFull 35 rfl) rfl (by decide) z
  · rw [if_pos c_1] at h
    refine PW_aload_n (pc' := 49) (q := 0) (pw_dk dc_X12_isFull 27 rfl) rfl rfl rfl ?_
    refine PW_iconst (pc' := 50) (v := 4) (pw_dk dc_X12_isFull 28 rfl) rfl (by decide) ?_
    refine PZ_callVi (pc' := 53) (y := yX12_fresher) (M' := mX12_fresher) (d' := 0) (As := [.int 4]) (st := []) (b := 5000) (ci := 12) (nn := 0) me_5000 rfl tw_1644 tw_57 (pw_dk dc_X12_isFull 29 rfl) rfl Y_X12_fresher tw_1642 rfl (by decide) (Nat.le_of_ble_eq_true rfl) (t_X12_fresher 4 σ _ ?_)
    obtain ⟨v_3, e_4, h⟩ := wp_bind h
    refine ⟨v_3, e_4, _, rfl, fun hn_2 => ?_⟩
    show PZ alM mX12_isFull (1) Q 53 [(0, .ref 5000), (1, .int x1)] [.int v_3] σ
    refine PW_bipush (pc' := 55) (v := 8) (pw_dk dc_X12_isFull 30 rfl) rfl (by decide) ?_
    refine PW_icmp_ne (pc' := 58) (tgt := 62) (pw_dk dc_X12_isFull 31 rfl) rfl (by decide) (fun c_5 => ?_) (fun c_5 => ?_)
    · rw [if_neg c_5] at h
      refine PW_iconst (pc' := 63) (v := 0) (pw_dk dc_X12_isFull 34 rfl) rfl (by decide) ?_
      have z := wp_some h
      exact PZ_iret (ty := .boolean) (pw_dk dc_X12_isFull 35 rfl) rfl (by decide) z
    · rw [if_pos c_5] at h
      refine PW_sub (lv' := []) [] rfl ?_
      exact b_X12_isFull_58 σ h
def f_X12_isFull_28  (x1 : Int32) (σ : zS) : Option Int32 := 
  if x1 = 3 then
    (f_X12_fresher 3 σ).bind fun v_3 =>
    if v_3 = 12 then
      f_X12_isFull_58 σ
    else
      f_X12_isFull_43 x1 σ
  else
    f_X12_isFull_43 x1 σ
theorem b_X12_isFull_28 {Q : Option Value → zS → Prop} (x1 : Int32) (σ : zS) (h : wpO (f_X12_isFull_28 x1 σ) (fun a => Q (some (.int a)) σ)) : PZ alM mX12_isFull (1) Q 28 [(0, .ref 5000), (1, .int x1)] [] σ := by
  unfold f_X12_isFull_28 at h
  refine PW_iload_n (pc' := 29) (q := 1) (pw_dk dc_X12_isFull 16 rfl) rfl rfl rfl ?_
  refine PW_iconst (pc' := 30) (v := 3) (pw_dk dc_X12_isFull 17 rfl) rfl (by decide) ?_
  refine PW_icmp_ne (pc' := 33) (tgt := 43) (pw_dk dc_X12_isFull 18 rfl) rfl (by decide) (fun c_1 => ?_) (fun c_1 => ?_)
  · rw [if_neg c_1] at h
    exact b_X12_isFull_43 x1 σ h
  · rw [if_pos c_1] at h
    refine PW_aload_n (pc' := 34) (q := 0) (pw_dk dc_X12_isFull 19 rfl) rfl rfl rfl ?_
    refine PW_iconst (pc' := 35) (v := 3) (pw_dk dc_X12_isFull 20 rfl) rfl (by decide) ?_
    refine PZ_callVi (pc' := 38) (y := yX12_fresher) (M' := mX12_fresher) (d' := 0) (As := [.int 3]) (st := []) (b := 5000) (ci := 12) (nn := 0) me_5000 rfl tw_1644 tw_57 (pw_dk dc_X12_isFull 21 rfl) rfl Y_X12_fresher tw_1642 rfl (by decide) (Nat.le_of_ble_eq_true rfl) (t_X12_fresher 3 σ _ ?_)
    obtain ⟨v_3, e_4, h⟩ := wp_bind h
    refine ⟨v_3, e_4, _, rfl, fun hn_2 => ?_⟩
    show PZ alM mX12_isFull (1) Q 38 [(0, .ref 5000), (1, .int x1)] [.int v_3] σ
    refine PW_bipush (pc' := 40) (v := 12) (pw_dk dc_X12_isFull 22 rfl) rfl (by decide) ?_
    refine PW_icmp_eq (pc' := 43) (tgt := 58) (pw_dk dc_X12_isFull 23 rfl) rfl (by decide) (fun c_5 => ?_) (fun c_5 => ?_)
    · rw [if_pos c_5] at h
      refine PW_sub (lv' := []) [] rfl ?_
      exact b_X12_isFull_58 σ h
    · rw [if_neg c_5] at h
      exact b_X12_isFull_43 x1 σ h
def f_X12_isFull_14  (x1 : Int32) (σ : zS) : Option Int32 := 
  if x1 = 2 then
    (f_X12_fresher 2 σ).bind fun v_3 =>
    if v_3 = 5 then
      f_X12_isFull_58 σ
    else
      f_X12_isFull_28 x1 σ
  else
    f_X12_isFull_28 x1 σ
theorem b_X12_isFull_14 {Q : Option Value → zS → Prop} (x1 : Int32) (σ : zS) (h : wpO (f_X12_isFull_14 x1 σ) (fun a => Q (some (.int a)) σ)) : PZ alM mX12_isFull (1) Q 14 [(0, .ref 5000), (1, .int x1)] [] σ := by
  unfold f_X12_isFull_14 at h
  refine PW_iload_n (pc' := 15) (q := 1) (pw_dk dc_X12_isFull 8 rfl) rfl rfl rfl ?_
  refine PW_iconst (pc' := 16) (v := 2) (pw_dk dc_X12_isFull 9 rfl) rfl (by decide) ?_
  refine PW_icmp_ne (pc' := 19) (tgt := 28) (pw_dk dc_X12_isFull 10 rfl) rfl (by decide) (fun c_1 => ?_) (fun c_1 => ?_)
  · rw [if_neg c_1] at h
    exact b_X12_isFull_28 x1 σ h
  · rw [if_pos c_1] at h
    refine PW_aload_n (pc' := 20) (q := 0) (pw_dk dc_X12_isFull 11 rfl) rfl rfl rfl ?_
    refine PW_iconst (pc' := 21) (v := 2) (pw_dk dc_X12_isFull 12 rfl) rfl (by decide) ?_
    refine PZ_callVi (pc' := 24) (y := yX12_fresher) (M' := mX12_fresher) (d' := 0) (As := [.int 2]) (st := []) (b := 5000) (ci := 12) (nn := 0) me_5000 rfl tw_1644 tw_57 (pw_dk dc_X12_isFull 13 rfl) rfl Y_X12_fresher tw_1642 rfl (by decide) (Nat.le_of_ble_eq_true rfl) (t_X12_fresher 2 σ _ ?_)
    obtain ⟨v_3, e_4, h⟩ := wp_bind h
    refine ⟨v_3, e_4, _, rfl, fun hn_2 => ?_⟩
    show PZ alM mX12_isFull (1) Q 24 [(0, .ref 5000), (1, .int x1)] [.int v_3] σ
    refine PW_iconst (pc' := 25) (v := 5) (pw_dk dc_X12_isFull 14 rfl) rfl (by decide) ?_
    refine PW_icmp_eq (pc' := 28) (tgt := 58) (pw_dk dc_X12_isFull 15 rfl) rfl (by decide) (fun c_5 => ?_) (fun c_5 => ?_)
    · rw [if_pos c_5] at h
      refine PW_sub (lv' := []) [] rfl ?_
      exact b_X12_isFull_58 σ h
    · rw [if_neg c_5] at h
      exact b_X12_isFull_28 x1 σ h
def f_X12_isFull (x1 : Int32) (σ : zS) : Option Int32 := 
  if x1 = 1 then
    (f_X12_fresher 1 σ).bind fun v_3 =>
    if v_3 = 5 then
      f_X12_isFull_58 σ
    else
      f_X12_isFull_14 x1 σ
  else
    f_X12_isFull_14 x1 σ
theorem t_X12_isFull (x1 : Int32) (σ : zS) (Q : Option Value → zS → Prop) (h : wpO (f_X12_isFull x1 σ) (fun a => Q (some (.int a)) σ)) : PK alM yX12_isFull mX12_isFull (1) [.ref 5000, .int x1] σ Q := by
  refine PC_ofF (by decide +kernel) rfl rfl (Nat.le_of_ble_eq_true rfl) ?_
  show PZ alM mX12_isFull (1) Q 0 [(0, .ref 5000), (1, .int x1)] [] σ
  unfold f_X12_isFull at h
  refine PW_iload_n (pc' := 1) (q := 1) (pw_dk dc_X12_isFull 0 rfl) rfl rfl rfl ?_
  refine PW_iconst (pc' := 2) (v := 1) (pw_dk dc_X12_isFull 1 rfl) rfl (by decide) ?_
  refine PW_icmp_ne (pc' := 5) (tgt := 14) (pw_dk dc_X12_isFull 2 rfl) rfl (by decide) (fun c_1 => ?_) (fun c_1 => ?_)
  · rw [if_neg c_1] at h
    exact b_X12_isFull_14 x1 σ h
  · rw [if_pos c_1] at h
    refine PW_aload_n (pc' := 6) (q := 0) (pw_dk dc_X12_isFull 3 rfl) rfl rfl rfl ?_
    refine PW_iconst (pc' := 7) (v := 1) (pw_dk dc_X12_isFull 4 rfl) rfl (by decide) ?_
    refine PZ_callVi (pc' := 10) (y := yX12_fresher) (M' := mX12_fresher) (d' := 0) (As := [.int 1]) (st := []) (b := 5000) (ci := 12) (nn := 0) me_5000 rfl tw_1644 tw_57 (pw_dk dc_X12_isFull 5 rfl) rfl Y_X12_fresher tw_1642 rfl (by decide) (Nat.le_of_ble_eq_true rfl) (t_X12_fresher 1 σ _ ?_)
    obtain ⟨v_3, e_4, h⟩ := wp_bind h
    refine ⟨v_3, e_4, _, rfl, fun hn_2 => ?_⟩
    show PZ alM mX12_isFull (1) Q 10 [(0, .ref 5000), (1, .int x1)] [.int v_3] σ
    refine PW_iconst (pc' := 11) (v := 5) (pw_dk dc_X12_isFull 6 rfl) rfl (by decide) ?_
    refine PW_icmp_eq (pc' := 14) (tgt := 58) (pw_dk dc_X12_isFull 7 rfl) rfl (by decide) (fun c_5 => ?_) (fun c_5 => ?_)
    · rw [if_pos c_5] at h
      refine PW_sub (lv' := []) [] rfl ?_
      exact b_X12_isFull_58 σ h
    · rw [if_neg c_5] at h
      exact b_X12_isFull_14 x1 σ h
def f_X12_toldAhead_44 (a1 n1 : Nat) (x2 : Int32) (x3 : Int32) (σ : zS) : Option (Int32 × zS) := 
  if (σ.1 5000 28) = 0 then
    (f_X12_found a1 n1 x2 x3 (σ.1 5000 27) σ).bind fun v_3 =>
    (f_X12_token σ).bind fun σ_6 =>
    some (v_3, σ_6)
  else
    some (0, σ)
theorem b_X12_toldAhead_44 {Q : Option Value → zS → Prop} (a1 n1 : Nat) (ha1 : (a1, 13, n1) ∈ alM) (x2 : Int32) (x3 : Int32) (σ : zS) (h : wpO (f_X12_toldAhead_44 a1 n1 x2 x3 σ) (fun a => Q (some (.int a.1)) a.2)) : PZ alM mX12_toldAhead (6) Q 44 [(0, .ref 5000), (1, .ref a1), (2, .int x2), (3, .int x3)] [] σ := by
  unfold f_X12_toldAhead_44 at h
  refine PW_aload_n (pc' := 45) (q := 0) (pw_dk dc_X12_toldAhead 24 rfl) rfl rfl rfl ?_
  refine PZ_getI (pc' := 48) (id := 5000) (ci := 12) (nn := 0) (C0 := RX12) (T := TX12) (N := 62) (j := 28) (pw_dk dc_X12_toldAhead 25 rfl) rfl me_5000 rfl pi_12 (by decide) fk_12_28 tw_1425 ?_
  refine PW_if_eq (pc' := 51) (tgt := 53) (pw_dk dc_X12_toldAhead 26 rfl) rfl (by decide) (fun c_1 => ?_) (fun c_1 => ?_)
  · rw [if_pos c_1] at h
    refine PW_aload_n (pc' := 54) (q := 1) (pw_dk dc_X12_toldAhead 29 rfl) rfl rfl rfl ?_
    refine PW_iload_n (pc' := 55) (q := 2) (pw_dk dc_X12_toldAhead 30 rfl) rfl rfl rfl ?_
    refine PW_iload_n (pc' := 56) (q := 3) (pw_dk dc_X12_toldAhead 31 rfl) rfl rfl rfl ?_
    refine PW_aload_n (pc' := 57) (q := 0) (pw_dk dc_X12_toldAhead 32 rfl) rfl rfl rfl ?_
    refine PZ_getI (pc' := 60) (id := 5000) (ci := 12) (nn := 0) (C0 := RX12) (T := TX12) (N := 62) (j := 27) (pw_dk dc_X12_toldAhead 33 rfl) rfl me_5000 rfl pi_12 (by decide) fk_12_27 tw_1424 ?_
    refine PZ_callSi (pc' := 63) (y := yX12_found) (M' := mX12_found) (d' := 0) (As := [.ref a1, .int x2, .int x3, .int (σ.1 5000 27)]) (st := []) tw_1655 (pw_dk dc_X12_toldAhead 34 rfl) rfl Y_X12_found tw_1654 rfl (by decide) (Nat.le_of_ble_eq_true rfl) (t_X12_found a1 n1 x2 x3 (σ.1 5000 27) ha1 σ _ ?_)
    obtain ⟨v_3, e_4, h⟩ := wp_bind h
    refine ⟨v_3, e_4, _, rfl, fun hn_2 => ?_⟩
    show PZ alM mX12_toldAhead (6) Q 63 [(0, .ref 5000), (1, .ref a1), (2, .int x2), (3, .int x3)] [.int v_3] σ
    refine PW_istore (pc' := 65) (lv' := [(4, .int v_3), (0, .ref 5000), (1, .ref a1), (2, .int x2), (3, .int x3)]) (pw_dk dc_X12_toldAhead 35 rfl) rfl (by decide) rfl ?_
    refine PW_aload_n (pc' := 66) (q := 1) (pw_dk dc_X12_toldAhead 36 rfl) rfl rfl rfl ?_
    refine PZ_callVv (pc' := 69) (y := yX12_token) (M' := mX12_token) (d' := 5) (As := []) (st := []) (b := 5000) (ci := 12) (nn := 0) me_5000 rfl tw_1602 tw_49 (pw_dk dc_X12_toldAhead 37 rfl) rfl Y_X12_token tw_1600 rfl (by decide) (Nat.le_of_ble_eq_true rfl) (t_X12_token σ _ ?_)
    obtain ⟨σ_6, e_7, h⟩ := wp_bind h
    refine ⟨σ_6, e_7, rfl, fun hn_5 => ?_⟩
    show PZ alM mX12_toldAhead (6) Q 69 [(4, .int v_3), (0, .ref 5000), (1, .ref a1), (2, .int x2), (3, .int x3)] [] σ_6
    refine PW_iload (pc' := 71) (q := 0) (pw_dk dc_X12_toldAhead 38 rfl) rfl rfl ?_
    have z := wp_some h
    exact PZ_iret (ty := .int) (pw_dk dc_X12_toldAhead 39 rfl) rfl rfl z
  · rw [if_neg c_1] at h
    refine PW_iconst (pc' := 52) (v := 0) (pw_dk dc_X12_toldAhead 27 rfl) rfl (by decide) ?_
    have z := wp_some h
    exact PZ_iret (ty := .int) (pw_dk dc_X12_toldAhead 28 rfl) rfl rfl z
def f_X12_toldAhead (a1 n1 : Nat) (x2 : Int32) (x3 : Int32) (σ : zS) : Option (Int32 × zS) := 
  if (σ.1 5000 28) = 0 then
    if (σ.1 5000 26) = 1 then
      (f_X12_found a1 n1 x2 x3 (σ.1 5000 27) σ).bind fun v_4 =>
      if v_4 = (-1 : Int32) then
        (f_X12_wrong 4 σ).bind fun σ_8 =>
        f_X12_toldAhead_44 a1 n1 x2 x3 σ_8
      else
        f_X12_toldAhead_44 a1 n1 x2 x3 σ
    else
      (f_X12_wrong 1 σ).bind fun σ_11 =>
      f_X12_toldAhead_44 a1 n1 x2 x3 σ_11
  else
    some (0, σ)
theorem t_X12_toldAhead (a1 n1 : Nat) (x2 : Int32) (x3 : Int32) (ha1 : (a1, 13, n1) ∈ alM) (σ : zS) (Q : Option Value → zS → Prop) (h : wpO (f_X12_toldAhead a1 n1 x2 x3 σ) (fun a => Q (some (.int a.1)) a.2)) : PK alM yX12_toldAhead mX12_toldAhead (6) [.ref 5000, .ref a1, .int x2, .int x3] σ Q := by
  refine PC_ofF (by decide +kernel) rfl rfl (Nat.le_of_ble_eq_true rfl) ?_
  show PZ alM mX12_toldAhead (6) Q 0 [(0, .ref 5000), (1, .ref a1), (2, .int x2), (3, .int x3)] [] σ
  unfold f_X12_toldAhead at h
  refine PW_aload_n (pc' := 1) (q := 0) (pw_dk dc_X12_toldAhead 0 rfl) rfl rfl rfl ?_
  refine PZ_getI (pc' := 4) (id := 5000) (ci := 12) (nn := 0) (C0 := RX12) (T := TX12) (N := 62) (j := 28) (pw_dk dc_X12_toldAhead 1 rfl) rfl me_5000 rfl pi_12 (by decide) fk_12_28 tw_1425 ?_
  refine PW_if_eq (pc' := 7) (tgt := 9) (pw_dk dc_X12_toldAhead 2 rfl) rfl (by decide) (fun c_1 => ?_) (fun c_1 => ?_)
  · rw [if_pos c_1] at h
    refine PW_aload_n (pc' := 10) (q := 0) (pw_dk dc_X12_toldAhead 5 rfl) rfl rfl rfl ?_
    refine PZ_getI (pc' := 13) (id := 5000) (ci := 12) (nn := 0) (C0 := RX12) (T := TX12) (N := 62) (j := 26) (pw_dk dc_X12_toldAhead 6 rfl) rfl me_5000 rfl pi_12 (by decide) fk_12_26 tw_1423 ?_
    refine PW_iconst (pc' := 14) (v := 1) (pw_dk dc_X12_toldAhead 7 rfl) rfl (by decide) ?_
    refine PW_icmp_eq (pc' := 17) (tgt := 25) (pw_dk dc_X12_toldAhead 8 rfl) rfl (by decide) (fun c_2 => ?_) (fun c_2 => ?_)
    · rw [if_pos c_2] at h
      refine PW_aload_n (pc' := 26) (q := 1) (pw_dk dc_X12_toldAhead 13 rfl) rfl rfl rfl ?_
      refine PW_iload_n (pc' := 27) (q := 2) (pw_dk dc_X12_toldAhead 14 rfl) rfl rfl rfl ?_
      refine PW_iload_n (pc' := 28) (q := 3) (pw_dk dc_X12_toldAhead 15 rfl) rfl rfl rfl ?_
      refine PW_aload_n (pc' := 29) (q := 0) (pw_dk dc_X12_toldAhead 16 rfl) rfl rfl rfl ?_
      refine PZ_getI (pc' := 32) (id := 5000) (ci := 12) (nn := 0) (C0 := RX12) (T := TX12) (N := 62) (j := 27) (pw_dk dc_X12_toldAhead 17 rfl) rfl me_5000 rfl pi_12 (by decide) fk_12_27 tw_1424 ?_
      refine PZ_callSi (pc' := 35) (y := yX12_found) (M' := mX12_found) (d' := 0) (As := [.ref a1, .int x2, .int x3, .int (σ.1 5000 27)]) (st := []) tw_1655 (pw_dk dc_X12_toldAhead 18 rfl) rfl Y_X12_found tw_1654 rfl (by decide) (Nat.le_of_ble_eq_true rfl) (t_X12_found a1 n1 x2 x3 (σ.1 5000 27) ha1 σ _ ?_)
      obtain ⟨v_4, e_5, h⟩ := wp_bind h
      refine ⟨v_4, e_5, _, rfl, fun hn_3 => ?_⟩
      show PZ alM mX12_toldAhead (6) Q 35 [(0, .ref 5000), (1, .ref a1), (2, .int x2), (3, .int x3)] [.int v_4] σ
      refine PW_iconst (pc' := 36) (v := (-1 : Int32)) (pw_dk dc_X12_toldAhead 19 rfl) rfl (by decide) ?_
      refine PW_icmp_ne (pc' := 39) (tgt := 44) (pw_dk dc_X12_toldAhead 20 rfl) rfl (by decide) (fun c_6 => ?_) (fun c_6 => ?_)
      · rw [if_neg c_6] at h
        exact b_X12_toldAhead_44 a1 n1 ha1 x2 x3 σ h
      · rw [if_pos c_6] at h
        refine PW_aload_n (pc' := 40) (q := 0) (pw_dk dc_X12_toldAhead 21 rfl) rfl rfl rfl ?_
        refine PW_iconst (pc' := 41) (v := 4) (pw_dk dc_X12_toldAhead 22 rfl) rfl (by decide) ?_
        refine PZ_callVv (pc' := 44) (y := yX12_wrong) (M' := mX12_wrong) (d' := 0) (As := [.int 4]) (st := []) (b := 5000) (ci := 12) (nn := 0) me_5000 rfl tw_1636 tw_55 (pw_dk dc_X12_toldAhead 23 rfl) rfl Y_X12_wrong tw_1634 rfl (by decide) (Nat.le_of_ble_eq_true rfl) (t_X12_wrong 4 σ _ ?_)
        obtain ⟨σ_8, e_9, h⟩ := wp_bind h
        refine ⟨σ_8, e_9, rfl, fun hn_7 => ?_⟩
        show PZ alM mX12_toldAhead (6) Q 44 [(0, .ref 5000), (1, .ref a1), (2, .int x2), (3, .int x3)] [] σ_8
        exact b_X12_toldAhead_44 a1 n1 ha1 x2 x3 σ_8 h
    · rw [if_neg c_2] at h
      refine PW_aload_n (pc' := 18) (q := 0) (pw_dk dc_X12_toldAhead 9 rfl) rfl rfl rfl ?_
      refine PW_iconst (pc' := 19) (v := 1) (pw_dk dc_X12_toldAhead 10 rfl) rfl (by decide) ?_
      refine PZ_callVv (pc' := 22) (y := yX12_wrong) (M' := mX12_wrong) (d' := 0) (As := [.int 1]) (st := []) (b := 5000) (ci := 12) (nn := 0) me_5000 rfl tw_1636 tw_55 (pw_dk dc_X12_toldAhead 11 rfl) rfl Y_X12_wrong tw_1634 rfl (by decide) (Nat.le_of_ble_eq_true rfl) (t_X12_wrong 1 σ _ ?_)
      obtain ⟨σ_11, e_12, h⟩ := wp_bind h
      refine ⟨σ_11, e_12, rfl, fun hn_10 => ?_⟩
      show PZ alM mX12_toldAhead (6) Q 22 [(0, .ref 5000), (1, .ref a1), (2, .int x2), (3, .int x3)] [] σ_11
      refine PW_goto (tgt := 44) (pw_dk dc_X12_toldAhead 12 rfl) (by decide) ?_
      exact b_X12_toldAhead_44 a1 n1 ha1 x2 x3 σ_11 h
  · rw [if_neg c_1] at h
    refine PW_iconst (pc' := 8) (v := 0) (pw_dk dc_X12_toldAhead 3 rfl) rfl (by decide) ?_
    have z := wp_some h
    exact PZ_iret (ty := .int) (pw_dk dc_X12_toldAhead 4 rfl) rfl rfl z
def f_X12_barLine_89  (x1 : Int32) (σ : zS) : Option zS := 
  if (σ.1 5000 28) = 0 then
    (rdI σ 5008 10 x1).bind fun v_2 =>
    (wrI σ 5008 10 x1 (v_2 ||| ((1 : Int32) <<< (((σ.1 5000 27) - (14 : Int32)) &&& 31)))).bind fun σ_5 =>
    (f_X12_token σ_5).bind fun σ_9 =>
    (f_X12_fresher 4 σ_9).bind fun v_12 =>
    (f_X12_reads 4 (v_12 + (1 : Int32)) σ_9).bind fun σ_15 =>
    some σ_15
  else
    some σ
theorem b_X12_barLine_89 {Q : Option Value → zS → Prop} (x1 : Int32) (σ : zS) (h : wpO (f_X12_barLine_89 x1 σ) (fun s => Q none s)) : PZ alM mX12_barLine (7) Q 89 [(0, .ref 5000), (1, .int x1)] [] σ := by
  unfold f_X12_barLine_89 at h
  refine PW_aload_n (pc' := 90) (q := 0) (pw_dk dc_X12_barLine 48 rfl) rfl rfl rfl ?_
  refine PZ_getI (pc' := 93) (id := 5000) (ci := 12) (nn := 0) (C0 := RX12) (T := TX12) (N := 62) (j := 28) (pw_dk dc_X12_barLine 49 rfl) rfl me_5000 rfl pi_12 (by decide) fk_12_28 tw_1425 ?_
  refine PW_if_eq (pc' := 96) (tgt := 97) (pw_dk dc_X12_barLine 50 rfl) rfl (by decide) (fun c_1 => ?_) (fun c_1 => ?_)
  · rw [if_pos c_1] at h
    refine PW_aload_n (pc' := 98) (q := 0) (pw_dk dc_X12_barLine 52 rfl) rfl rfl rfl ?_
    refine PW_getR (pc' := 101) (id := 5000) (ci := 12) (nn := 0) (C0 := RX12) (T := TX12) (N := 62) (j := 7) (r := 5008) (pw_dk dc_X12_barLine 53 rfl) rfl me_5000 rfl pi_12 (by decide) fk_12_7 tw_1404 (rfl) (by decide) ?_
    refine PW_iload_n (pc' := 102) (q := 1) (pw_dk dc_X12_barLine 54 rfl) rfl rfl rfl ?_
    refine PW_dup2 (pc' := 103) (pw_dk dc_X12_barLine 55 rfl) rfl rfl rfl ?_
    obtain ⟨v_2, hi_3, e_4, h⟩ := wp_rdIx h
    refine PZ_ialdx (pc' := 104) (v := v_2) (id := 5008) (nn := 10) (pw_dk dc_X12_barLine 56 rfl) rfl me_5008 hi_3 e_4 ?_
    refine PW_iconst (pc' := 105) (v := 1) (pw_dk dc_X12_barLine 57 rfl) rfl (by decide) ?_
    refine PW_aload_n (pc' := 106) (q := 0) (pw_dk dc_X12_barLine 58 rfl) rfl rfl rfl ?_
    refine PZ_getI (pc' := 109) (id := 5000) (ci := 12) (nn := 0) (C0 := RX12) (T := TX12) (N := 62) (j := 27) (pw_dk dc_X12_barLine 59 rfl) rfl me_5000 rfl pi_12 (by decide) fk_12_27 tw_1424 ?_
    refine PW_bipush (pc' := 111) (v := 14) (pw_dk dc_X12_barLine 60 rfl) rfl (by decide) ?_
    refine PW_isub (pc' := 112) (pw_dk dc_X12_barLine 61 rfl) rfl ?_
    refine PW_ishl (pc' := 113) (pw_dk dc_X12_barLine 62 rfl) rfl ?_
    refine PW_ior (pc' := 114) (pw_dk dc_X12_barLine 63 rfl) rfl ?_
    obtain ⟨σ_5, hi_6, e_7, h⟩ := wp_wrIx h
    refine PZ_iastx (pc' := 115) (σ' := σ_5) (id := 5008) (nn := 10) (pw_dk dc_X12_barLine 64 rfl) rfl me_5008 hi_6 e_7 ?_
    refine PW_aload_n (pc' := 116) (q := 0) (pw_dk dc_X12_barLine 65 rfl) rfl rfl rfl ?_
    refine PZ_callVv (pc' := 119) (y := yX12_token) (M' := mX12_token) (d' := 5) (As := []) (st := []) (b := 5000) (ci := 12) (nn := 0) me_5000 rfl tw_1602 tw_49 (pw_dk dc_X12_barLine 66 rfl) rfl Y_X12_token tw_1600 rfl (by decide) (Nat.le_of_ble_eq_true rfl) (t_X12_token σ_5 _ ?_)
    obtain ⟨σ_9, e_10, h⟩ := wp_bind h
    refine ⟨σ_9, e_10, rfl, fun hn_8 => ?_⟩
    show PZ alM mX12_barLine (7) Q 119 [(0, .ref 5000), (1, .int x1)] [] σ_9
    refine PW_aload_n (pc' := 120) (q := 0) (pw_dk dc_X12_barLine 67 rfl) rfl rfl rfl ?_
    refine PW_iconst (pc' := 121) (v := 4) (pw_dk dc_X12_barLine 68 rfl) rfl (by decide) ?_
    refine PW_aload_n (pc' := 122) (q := 0) (pw_dk dc_X12_barLine 69 rfl) rfl rfl rfl ?_
    refine PW_iconst (pc' := 123) (v := 4) (pw_dk dc_X12_barLine 70 rfl) rfl (by decide) ?_
    refine PZ_callVi (pc' := 126) (y := yX12_fresher) (M' := mX12_fresher) (d' := 0) (As := [.int 4]) (st := [.int 4, .ref 5000]) (b := 5000) (ci := 12) (nn := 0) me_5000 rfl tw_1644 tw_57 (pw_dk dc_X12_barLine 71 rfl) rfl Y_X12_fresher tw_1642 rfl (by decide) (Nat.le_of_ble_eq_true rfl) (t_X12_fresher 4 σ_9 _ ?_)
    obtain ⟨v_12, e_13, h⟩ := wp_bind h
    refine ⟨v_12, e_13, _, rfl, fun hn_11 => ?_⟩
    show PZ alM mX12_barLine (7) Q 126 [(0, .ref 5000), (1, .int x1)] [.int v_12, .int 4, .ref 5000] σ_9
    refine PW_iconst (pc' := 127) (v := 1) (pw_dk dc_X12_barLine 72 rfl) rfl (by decide) ?_
    refine PW_iadd (pc' := 128) (pw_dk dc_X12_barLine 73 rfl) rfl ?_
    refine PZ_callVv (pc' := 131) (y := yX12_reads) (M' := mX12_reads) (d' := 0) (As := [.int 4, .int (v_12 + (1 : Int32))]) (st := []) (b := 5000) (ci := 12) (nn := 0) me_5000 rfl tw_1598 tw_48 (pw_dk dc_X12_barLine 74 rfl) rfl Y_X12_reads tw_1596 rfl (by decide) (Nat.le_of_ble_eq_true rfl) (t_X12_reads 4 (v_12 + (1 : Int32)) σ_9 _ ?_)
    obtain ⟨σ_15, e_16, h⟩ := wp_bind h
    refine ⟨σ_15, e_16, rfl, fun hn_14 => ?_⟩
    show PZ alM mX12_barLine (7) Q 131 [(0, .ref 5000), (1, .int x1)] [] σ_15
    have z := wp_some h
    exact PZ_vret (pw_dk dc_X12_barLine 75 rfl) rfl z
  · rw [if_neg c_1] at h
    have z := wp_some h
    exact PZ_vret (pw_dk dc_X12_barLine 51 rfl) rfl z
def f_X12_barLine_49  (x1 : Int32) (σ : zS) : Option zS := 
  (f_X12_wrong 1 σ).bind fun σ_2 =>
  f_X12_barLine_89 x1 σ_2
theorem b_X12_barLine_49 {Q : Option Value → zS → Prop} (x1 : Int32) (σ : zS) (h : wpO (f_X12_barLine_49 x1 σ) (fun s => Q none s)) : PZ alM mX12_barLine (7) Q 49 [(0, .ref 5000), (1, .int x1)] [] σ := by
  unfold f_X12_barLine_49 at h
  refine PW_aload_n (pc' := 50) (q := 0) (pw_dk dc_X12_barLine 25 rfl) rfl rfl rfl ?_
  refine PW_iconst (pc' := 51) (v := 1) (pw_dk dc_X12_barLine 26 rfl) rfl (by decide) ?_
  refine PZ_callVv (pc' := 54) (y := yX12_wrong) (M' := mX12_wrong) (d' := 0) (As := [.int 1]) (st := []) (b := 5000) (ci := 12) (nn := 0) me_5000 rfl tw_1636 tw_55 (pw_dk dc_X12_barLine 27 rfl) rfl Y_X12_wrong tw_1634 rfl (by decide) (Nat.le_of_ble_eq_true rfl) (t_X12_wrong 1 σ _ ?_)
  obtain ⟨σ_2, e_3, h⟩ := wp_bind h
  refine ⟨σ_2, e_3, rfl, fun hn_1 => ?_⟩
  show PZ alM mX12_barLine (7) Q 54 [(0, .ref 5000), (1, .int x1)] [] σ_2
  refine PW_goto (tgt := 89) (pw_dk dc_X12_barLine 28 rfl) (by decide) ?_
  exact b_X12_barLine_89 x1 σ_2 h
def f_X12_barLine_57  (x1 : Int32) (σ : zS) : Option zS := 
  if (σ.1 5000 28) = 0 then
    (rdI σ 5008 10 x1).bind fun v_2 =>
    if ((v_2 >>> (((σ.1 5000 27) - (14 : Int32)) &&& 31)) &&& (1 : Int32)) = 1 then
      (f_X12_wrong 3 σ).bind fun σ_7 =>
      f_X12_barLine_89 x1 σ_7
    else
      f_X12_barLine_89 x1 σ
  else
    f_X12_barLine_89 x1 σ
theorem b_X12_barLine_57 {Q : Option Value → zS → Prop} (x1 : Int32) (σ : zS) (h : wpO (f_X12_barLine_57 x1 σ) (fun s => Q none s)) : PZ alM mX12_barLine (7) Q 57 [(0, .ref 5000), (1, .int x1)] [] σ := by
  unfold f_X12_barLine_57 at h
  refine PW_aload_n (pc' := 58) (q := 0) (pw_dk dc_X12_barLine 29 rfl) rfl rfl rfl ?_
  refine PZ_getI (pc' := 61) (id := 5000) (ci := 12) (nn := 0) (C0 := RX12) (T := TX12) (N := 62) (j := 28) (pw_dk dc_X12_barLine 30 rfl) rfl me_5000 rfl pi_12 (by decide) fk_12_28 tw_1425 ?_
  refine PW_if_ne (pc' := 64) (tgt := 89) (pw_dk dc_X12_barLine 31 rfl) rfl (by decide) (fun c_1 => ?_) (fun c_1 => ?_)
  · rw [if_neg c_1] at h
    exact b_X12_barLine_89 x1 σ h
  · rw [if_pos c_1] at h
    refine PW_aload_n (pc' := 65) (q := 0) (pw_dk dc_X12_barLine 32 rfl) rfl rfl rfl ?_
    refine PW_getR (pc' := 68) (id := 5000) (ci := 12) (nn := 0) (C0 := RX12) (T := TX12) (N := 62) (j := 7) (r := 5008) (pw_dk dc_X12_barLine 33 rfl) rfl me_5000 rfl pi_12 (by decide) fk_12_7 tw_1404 (rfl) (by decide) ?_
    refine PW_iload_n (pc' := 69) (q := 1) (pw_dk dc_X12_barLine 34 rfl) rfl rfl rfl ?_
    obtain ⟨v_2, hi_3, e_4, h⟩ := wp_rdIx h
    refine PZ_ialdx (pc' := 70) (v := v_2) (id := 5008) (nn := 10) (pw_dk dc_X12_barLine 35 rfl) rfl me_5008 hi_3 e_4 ?_
    refine PW_aload_n (pc' := 71) (q := 0) (pw_dk dc_X12_barLine 36 rfl) rfl rfl rfl ?_
    refine PZ_getI (pc' := 74) (id := 5000) (ci := 12) (nn := 0) (C0 := RX12) (T := TX12) (N := 62) (j := 27) (pw_dk dc_X12_barLine 37 rfl) rfl me_5000 rfl pi_12 (by decide) fk_12_27 tw_1424 ?_
    refine PW_bipush (pc' := 76) (v := 14) (pw_dk dc_X12_barLine 38 rfl) rfl (by decide) ?_
    refine PW_isub (pc' := 77) (pw_dk dc_X12_barLine 39 rfl) rfl ?_
    refine PW_ishr (pc' := 78) (pw_dk dc_X12_barLine 40 rfl) rfl ?_
    refine PW_iconst (pc' := 79) (v := 1) (pw_dk dc_X12_barLine 41 rfl) rfl (by decide) ?_
    refine PW_iand (pc' := 80) (pw_dk dc_X12_barLine 42 rfl) rfl ?_
    refine PW_iconst (pc' := 81) (v := 1) (pw_dk dc_X12_barLine 43 rfl) rfl (by decide) ?_
    refine PW_icmp_ne (pc' := 84) (tgt := 89) (pw_dk dc_X12_barLine 44 rfl) rfl (by decide) (fun c_5 => ?_) (fun c_5 => ?_)
    · rw [if_neg c_5] at h
      exact b_X12_barLine_89 x1 σ h
    · rw [if_pos c_5] at h
      refine PW_aload_n (pc' := 85) (q := 0) (pw_dk dc_X12_barLine 45 rfl) rfl rfl rfl ?_
      refine PW_iconst (pc' := 86) (v := 3) (pw_dk dc_X12_barLine 46 rfl) rfl (by decide) ?_
      refine PZ_callVv (pc' := 89) (y := yX12_wrong) (M' := mX12_wrong) (d' := 0) (As := [.int 3]) (st := []) (b := 5000) (ci := 12) (nn := 0) me_5000 rfl tw_1636 tw_55 (pw_dk dc_X12_barLine 47 rfl) rfl Y_X12_wrong tw_1634 rfl (by decide) (Nat.le_of_ble_eq_true rfl) (t_X12_wrong 3 σ _ ?_)
      obtain ⟨σ_7, e_8, h⟩ := wp_bind h
      refine ⟨σ_7, e_8, rfl, fun hn_6 => ?_⟩
      show PZ alM mX12_barLine (7) Q 89 [(0, .ref 5000), (1, .int x1)] [] σ_7
      exact b_X12_barLine_89 x1 σ_7 h
def f_X12_barLine  (σ : zS) : Option zS := 
  (f_X12_fresher 1 σ).bind fun v_2 =>
  b2 (f_X12_toldAhead 5005 10 5 v_2 σ) fun v_6 σ_5 =>
  lt (α := Int32) ((5 : Int32) + v_6) fun x1_8 =>
  if (σ_5.1 5000 28) = 0 then
    if (σ_5.1 5000 26) = 0 then
      if (σ_5.1 5000 27) < 14 then
        f_X12_barLine_49 x1_8 σ_5
      else
        if (σ_5.1 5000 27) ≤ 17 then
          f_X12_barLine_57 x1_8 σ_5
        else
          f_X12_barLine_49 x1_8 σ_5
    else
      f_X12_barLine_49 x1_8 σ_5
  else
    f_X12_barLine_57 x1_8 σ_5
theorem t_X12_barLine (σ : zS) (Q : Option Value → zS → Prop) (h : wpO (f_X12_barLine σ) (fun s => Q none s)) : PK alM yX12_barLine mX12_barLine (7) [.ref 5000] σ Q := by
  refine PC_ofF (by decide +kernel) rfl rfl (Nat.le_of_ble_eq_true rfl) ?_
  show PZ alM mX12_barLine (7) Q 0 [(0, .ref 5000)] [] σ
  unfold f_X12_barLine at h
  refine PW_iconst (pc' := 1) (v := 5) (pw_dk dc_X12_barLine 0 rfl) rfl (by decide) ?_
  refine PW_aload_n (pc' := 2) (q := 0) (pw_dk dc_X12_barLine 1 rfl) rfl rfl rfl ?_
  refine PW_aload_n (pc' := 3) (q := 0) (pw_dk dc_X12_barLine 2 rfl) rfl rfl rfl ?_
  refine PW_getR (pc' := 6) (id := 5000) (ci := 12) (nn := 0) (C0 := RX12) (T := TX12) (N := 62) (j := 4) (r := 5005) (pw_dk dc_X12_barLine 3 rfl) rfl me_5000 rfl pi_12 (by decide) fk_12_4 tw_1401 (rfl) (by decide) ?_
  refine PW_iconst (pc' := 7) (v := 5) (pw_dk dc_X12_barLine 4 rfl) rfl (by decide) ?_
  refine PW_aload_n (pc' := 8) (q := 0) (pw_dk dc_X12_barLine 5 rfl) rfl rfl rfl ?_
  refine PW_iconst (pc' := 9) (v := 1) (pw_dk dc_X12_barLine 6 rfl) rfl (by decide) ?_
  refine PZ_callVi (pc' := 12) (y := yX12_fresher) (M' := mX12_fresher) (d' := 0) (As := [.int 1]) (st := [.int 5, .ref 5005, .ref 5000, .int 5]) (b := 5000) (ci := 12) (nn := 0) me_5000 rfl tw_1644 tw_57 (pw_dk dc_X12_barLine 7 rfl) rfl Y_X12_fresher tw_1642 rfl (by decide) (Nat.le_of_ble_eq_true rfl) (t_X12_fresher 1 σ _ ?_)
  obtain ⟨v_2, e_3, h⟩ := wp_bind h
  refine ⟨v_2, e_3, _, rfl, fun hn_1 => ?_⟩
  show PZ alM mX12_barLine (7) Q 12 [(0, .ref 5000)] [.int v_2, .int 5, .ref 5005, .ref 5000, .int 5] σ
  refine PZ_callVi (pc' := 15) (y := yX12_toldAhead) (M' := mX12_toldAhead) (d' := 6) (As := [.ref 5005, .int 5, .int v_2]) (st := [.int 5]) (b := 5000) (ci := 12) (nn := 0) me_5000 rfl tw_1671 tw_63 (pw_dk dc_X12_barLine 8 rfl) rfl Y_X12_toldAhead tw_1669 rfl (by decide) (Nat.le_of_ble_eq_true rfl) (t_X12_toldAhead 5005 10 5 v_2 me_5005 σ _ ?_)
  obtain ⟨⟨v_6, σ_5⟩, e_7, h⟩ := wp_bind2 h
  refine ⟨(v_6, σ_5), e_7, _, rfl, fun hn_4 => ?_⟩
  show PZ alM mX12_barLine (7) Q 15 [(0, .ref 5000)] [.int v_6, .int 5] σ_5
  refine PW_iadd (pc' := 16) (pw_dk dc_X12_barLine 9 rfl) rfl ?_
  refine PW_topi (fun x1_8 ex1_8 => ?_)
  replace h := lt_w h ex1_8
  refine PW_istore_n (pc' := 17) (lv' := [(1, .int x1_8), (0, .ref 5000)]) (pw_dk dc_X12_barLine 10 rfl) rfl rfl (by decide) rfl ?_
  refine PW_aload_n (pc' := 18) (q := 1) (pw_dk dc_X12_barLine 11 rfl) rfl rfl rfl ?_
  refine PZ_getI (pc' := 21) (id := 5000) (ci := 12) (nn := 0) (C0 := RX12) (T := TX12) (N := 62) (j := 28) (pw_dk dc_X12_barLine 12 rfl) rfl me_5000 rfl pi_12 (by decide) fk_12_28 tw_1425 ?_
  refine PW_if_ne (pc' := 24) (tgt := 57) (pw_dk dc_X12_barLine 13 rfl) rfl (by decide) (fun c_9 => ?_) (fun c_9 => ?_)
  · rw [if_neg c_9] at h
    refine PW_sub (lv' := [(0, .ref 5000), (1, .int x1_8)]) [1, 0] rfl ?_
    exact b_X12_barLine_57 x1_8 σ_5 h
  · rw [if_pos c_9] at h
    refine PW_aload_n (pc' := 25) (q := 1) (pw_dk dc_X12_barLine 14 rfl) rfl rfl rfl ?_
    refine PZ_getI (pc' := 28) (id := 5000) (ci := 12) (nn := 0) (C0 := RX12) (T := TX12) (N := 62) (j := 26) (pw_dk dc_X12_barLine 15 rfl) rfl me_5000 rfl pi_12 (by decide) fk_12_26 tw_1423 ?_
    refine PW_if_ne (pc' := 31) (tgt := 49) (pw_dk dc_X12_barLine 16 rfl) rfl (by decide) (fun c_10 => ?_) (fun c_10 => ?_)
    · rw [if_neg c_10] at h
      refine PW_sub (lv' := [(0, .ref 5000), (1, .int x1_8)]) [1, 0] rfl ?_
      exact b_X12_barLine_49 x1_8 σ_5 h
    · rw [if_pos c_10] at h
      refine PW_aload_n (pc' := 32) (q := 1) (pw_dk dc_X12_barLine 17 rfl) rfl rfl rfl ?_
      refine PZ_getI (pc' := 35) (id := 5000) (ci := 12) (nn := 0) (C0 := RX12) (T := TX12) (N := 62) (j := 27) (pw_dk dc_X12_barLine 18 rfl) rfl me_5000 rfl pi_12 (by decide) fk_12_27 tw_1424 ?_
      refine PW_bipush (pc' := 37) (v := 14) (pw_dk dc_X12_barLine 19 rfl) rfl (by decide) ?_
      refine PW_icmp_lt (pc' := 40) (tgt := 49) (pw_dk dc_X12_barLine 20 rfl) rfl (by decide) (fun c_11 => ?_) (fun c_11 => ?_)
      · rw [if_pos c_11] at h
        refine PW_sub (lv' := [(0, .ref 5000), (1, .int x1_8)]) [1, 0] rfl ?_
        exact b_X12_barLine_49 x1_8 σ_5 h
      · rw [if_neg c_11] at h
        refine PW_aload_n (pc' := 41) (q := 1) (pw_dk dc_X12_barLine 21 rfl) rfl rfl rfl ?_
        refine PZ_getI (pc' := 44) (id := 5000) (ci := 12) (nn := 0) (C0 := RX12) (T := TX12) (N := 62) (j := 27) (pw_dk dc_X12_barLine 22 rfl) rfl me_5000 rfl pi_12 (by decide) fk_12_27 tw_1424 ?_
        refine PW_bipush (pc' := 46) (v := 17) (pw_dk dc_X12_barLine 23 rfl) rfl (by decide) ?_
        refine PW_icmp_le (pc' := 49) (tgt := 57) (pw_dk dc_X12_barLine 24 rfl) rfl (by decide) (fun c_12 => ?_) (fun c_12 => ?_)
        · rw [if_pos c_12] at h
          refine PW_sub (lv' := [(0, .ref 5000), (1, .int x1_8)]) [1, 0] rfl ?_
          exact b_X12_barLine_57 x1_8 σ_5 h
        · rw [if_neg c_12] at h
          refine PW_sub (lv' := [(0, .ref 5000), (1, .int x1_8)]) [1, 0] rfl ?_
          exact b_X12_barLine_49 x1_8 σ_5 h
