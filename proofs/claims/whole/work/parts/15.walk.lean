/-! walks (printed by wip/gen) -/
def F_X6_readInner (rc : Nat → Int32 → zS → Option (Int32 × zS)) (x1 : Int32) (σ : zS) : Option (Int32 × zS) := 
  if x1 < 8 then
    (f_X7_advance σ).bind fun σ_3 =>
    b2 (rc 0 (x1 + (1 : Int32)) σ_3) fun v_7 σ_6 =>
    if v_7 = 0 then
      some (0, σ_6)
    else
      if (f_X7_isSign 41 σ_6) = 0 then
        b2 (f_X7_refuse 1 σ_6) fun v_17 σ_16 =>
        some (v_17, σ_16)
      else
        (f_X7_advance σ_6).bind fun σ_13 =>
        some (1, σ_13)
  else
    b2 (f_X7_refuse 2 σ) fun v_21 σ_20 =>
    some (v_21, σ_20)
theorem t_X6_readInner (rc : Nat → Int32 → zS → Option (Int32 × zS)) (dd : Nat) (hdd : 4 ≤ dd) (hg : gC rc dd) (x1 : Int32) (σ : zS) (Q : Option Value → zS → Prop) (h : wpO (F_X6_readInner rc x1 σ) (fun a => Q (some (.int a.1)) a.2)) : PK alC yX6_readInner mX6_readInner (dd + 1) [.ref 600, .int x1] σ Q := by
  refine PC_ofF (by decide +kernel) rfl rfl (Nat.le_of_ble_eq_true rfl) ?_
  show PZ alC mX6_readInner (dd + 1) Q 0 [(0, .ref 600), (1, .int x1)] [] σ
  unfold F_X6_readInner at h
  refine PW_iload_n (pc' := 1) (q := 1) (pw_dk dc_X6_readInner 0 rfl) rfl rfl rfl ?_
  refine PW_bipush (pc' := 3) (v := 8) (pw_dk dc_X6_readInner 1 rfl) rfl (by decide) ?_
  refine PW_icmp_lt (pc' := 6) (tgt := 15) (pw_dk dc_X6_readInner 2 rfl) rfl (by decide) (fun c_1 => ?_) (fun c_1 => ?_)
  · rw [if_pos c_1] at h
    refine PW_aload_n (pc' := 16) (q := 0) (pw_dk dc_X6_readInner 8 rfl) rfl rfl rfl ?_
    refine PW_getR (pc' := 19) (id := 600) (ci := 6) (nn := 0) (C0 := RX6) (T := TX6) (N := 2) (j := 0) (r := 500) (pw_dk dc_X6_readInner 9 rfl) rfl me_600 rfl pi_6 (by decide) fk_6_0 tw_400 (rfl) (by decide) ?_
    refine PZ_callVv (pc' := 22) (y := yX7_advance) (M' := mX7_advance) (d' := 2) (As := []) (st := []) (b := 500) (ci := 7) (nn := 0) me_500 rfl tw_674 tw_675 (pw_dk dc_X6_readInner 10 rfl) rfl Y_X7_advance tw_813 rfl (by omega) (Nat.le_of_ble_eq_true rfl) (t_X7_advance σ _ ?_)
    obtain ⟨σ_3, e_4, h⟩ := wp_bind h
    refine ⟨σ_3, e_4, rfl, fun hn_2 => ?_⟩
    show PZ alC mX6_readInner (dd + 1) Q 22 [(0, .ref 600), (1, .int x1)] [] σ_3
    refine PW_aload_n (pc' := 23) (q := 0) (pw_dk dc_X6_readInner 11 rfl) rfl rfl rfl ?_
    refine PW_iload_n (pc' := 24) (q := 1) (pw_dk dc_X6_readInner 12 rfl) rfl rfl rfl ?_
    refine PW_iconst (pc' := 25) (v := 1) (pw_dk dc_X6_readInner 13 rfl) rfl (by decide) ?_
    refine PW_iadd (pc' := 26) (pw_dk dc_X6_readInner 14 rfl) rfl ?_
    refine PZ_callVi (pc' := 29) (y := yX6_readEither) (M' := mX6_readEither) (d' := dd) (As := [.int (x1 + (1 : Int32))]) (st := []) (b := 600) (ci := 6) (nn := 0) me_600 rfl tw_793 tw_794 (pw_dk dc_X6_readInner 15 rfl) rfl Y_X6_readEither tw_838 rfl (Nat.le_refl _) (Nat.le_of_ble_eq_true rfl) (hg.1 (x1 + (1 : Int32)) σ_3 _ ?_)
    obtain ⟨⟨v_7, σ_6⟩, e_8, h⟩ := wp_bind2 h
    refine ⟨(v_7, σ_6), e_8, _, rfl, fun hn_5 => ?_⟩
    show PZ alC mX6_readInner (dd + 1) Q 29 [(0, .ref 600), (1, .int x1)] [.int v_7] σ_6
    refine PW_if_ne (pc' := 32) (tgt := 34) (pw_dk dc_X6_readInner 16 rfl) rfl (by decide) (fun c_9 => ?_) (fun c_9 => ?_)
    · rw [if_neg c_9] at h
      refine PW_aload_n (pc' := 35) (q := 0) (pw_dk dc_X6_readInner 19 rfl) rfl rfl rfl ?_
      refine PW_getR (pc' := 38) (id := 600) (ci := 6) (nn := 0) (C0 := RX6) (T := TX6) (N := 2) (j := 0) (r := 500) (pw_dk dc_X6_readInner 20 rfl) rfl me_600 rfl pi_6 (by decide) fk_6_0 tw_400 (rfl) (by decide) ?_
      refine PW_bipush (pc' := 40) (v := 41) (pw_dk dc_X6_readInner 21 rfl) rfl (by decide) ?_
      refine PZ_callVi (pc' := 43) (y := yX7_isSign) (M' := mX7_isSign) (d' := 0) (As := [.int 41]) (st := []) (b := 500) (ci := 7) (nn := 0) me_500 rfl tw_831 tw_832 (pw_dk dc_X6_readInner 22 rfl) rfl Y_X7_isSign tw_830 rfl (by omega) (Nat.le_of_ble_eq_true rfl) (t_X7_isSign 41 σ_6 _ ?_)
      refine ⟨_, rfl, fun hn_10 => ?_⟩
      show PZ alC mX6_readInner (dd + 1) Q 43 [(0, .ref 600), (1, .int x1)] [.int (f_X7_isSign 41 σ_6)] σ_6
      refine PW_if_ne (pc' := 46) (tgt := 55) (pw_dk dc_X6_readInner 23 rfl) rfl (by decide) (fun c_11 => ?_) (fun c_11 => ?_)
      · rw [if_neg c_11] at h
        refine PW_aload_n (pc' := 56) (q := 0) (pw_dk dc_X6_readInner 29 rfl) rfl rfl rfl ?_
        refine PW_getR (pc' := 59) (id := 600) (ci := 6) (nn := 0) (C0 := RX6) (T := TX6) (N := 2) (j := 0) (r := 500) (pw_dk dc_X6_readInner 30 rfl) rfl me_600 rfl pi_6 (by decide) fk_6_0 tw_400 (rfl) (by decide) ?_
        refine PZ_callVv (pc' := 62) (y := yX7_advance) (M' := mX7_advance) (d' := 2) (As := []) (st := []) (b := 500) (ci := 7) (nn := 0) me_500 rfl tw_674 tw_675 (pw_dk dc_X6_readInner 31 rfl) rfl Y_X7_advance tw_813 rfl (by omega) (Nat.le_of_ble_eq_true rfl) (t_X7_advance σ_6 _ ?_)
        obtain ⟨σ_13, e_14, h⟩ := wp_bind h
        refine ⟨σ_13, e_14, rfl, fun hn_12 => ?_⟩
        show PZ alC mX6_readInner (dd + 1) Q 62 [(0, .ref 600), (1, .int x1)] [] σ_13
        refine PW_iconst (pc' := 63) (v := 1) (pw_dk dc_X6_readInner 32 rfl) rfl (by decide) ?_
        have z := wp_some h
        exact PZ_iret (ty := .boolean) (pw_dk dc_X6_readInner 33 rfl) rfl (by decide) z
      · rw [if_pos c_11] at h
        refine PW_aload_n (pc' := 47) (q := 0) (pw_dk dc_X6_readInner 24 rfl) rfl rfl rfl ?_
        refine PW_getR (pc' := 50) (id := 600) (ci := 6) (nn := 0) (C0 := RX6) (T := TX6) (N := 2) (j := 0) (r := 500) (pw_dk dc_X6_readInner 25 rfl) rfl me_600 rfl pi_6 (by decide) fk_6_0 tw_400 (rfl) (by decide) ?_
        refine PW_iconst (pc' := 51) (v := 1) (pw_dk dc_X6_readInner 26 rfl) rfl (by decide) ?_
        refine PZ_callVi (pc' := 54) (y := yX7_refuse) (M' := mX7_refuse) (d' := 0) (As := [.int 1]) (st := []) (b := 500) (ci := 7) (nn := 0) me_500 rfl tw_709 tw_710 (pw_dk dc_X6_readInner 27 rfl) rfl Y_X7_refuse tw_812 rfl (by omega) (Nat.le_of_ble_eq_true rfl) (t_X7_refuse 1 σ_6 _ ?_)
        obtain ⟨⟨v_17, σ_16⟩, e_18, h⟩ := wp_bind2 h
        refine ⟨(v_17, σ_16), e_18, _, rfl, fun hn_15 => ?_⟩
        show PZ alC mX6_readInner (dd + 1) Q 54 [(0, .ref 600), (1, .int x1)] [.int v_17] σ_16
        have z := wp_some h
        exact PZ_iret (ty := .boolean) (pw_dk dc_X6_readInner 28 rfl) rfl (hn_15 _ _ rfl rfl) z
    · rw [if_pos c_9] at h
      refine PW_iconst (pc' := 33) (v := 0) (pw_dk dc_X6_readInner 17 rfl) rfl (by decide) ?_
      have z := wp_some h
      exact PZ_iret (ty := .boolean) (pw_dk dc_X6_readInner 18 rfl) rfl (by decide) z
  · rw [if_neg c_1] at h
    refine PW_aload_n (pc' := 7) (q := 0) (pw_dk dc_X6_readInner 3 rfl) rfl rfl rfl ?_
    refine PW_getR (pc' := 10) (id := 600) (ci := 6) (nn := 0) (C0 := RX6) (T := TX6) (N := 2) (j := 0) (r := 500) (pw_dk dc_X6_readInner 4 rfl) rfl me_600 rfl pi_6 (by decide) fk_6_0 tw_400 (rfl) (by decide) ?_
    refine PW_iconst (pc' := 11) (v := 2) (pw_dk dc_X6_readInner 5 rfl) rfl (by decide) ?_
    refine PZ_callVi (pc' := 14) (y := yX7_refuse) (M' := mX7_refuse) (d' := 0) (As := [.int 2]) (st := []) (b := 500) (ci := 7) (nn := 0) me_500 rfl tw_709 tw_710 (pw_dk dc_X6_readInner 6 rfl) rfl Y_X7_refuse tw_812 rfl (by omega) (Nat.le_of_ble_eq_true rfl) (t_X7_refuse 2 σ _ ?_)
    obtain ⟨⟨v_21, σ_20⟩, e_22, h⟩ := wp_bind2 h
    refine ⟨(v_21, σ_20), e_22, _, rfl, fun hn_19 => ?_⟩
    show PZ alC mX6_readInner (dd + 1) Q 14 [(0, .ref 600), (1, .int x1)] [.int v_21] σ_20
    have z := wp_some h
    exact PZ_iret (ty := .boolean) (pw_dk dc_X6_readInner 7 rfl) rfl (hn_19 _ _ rfl rfl) z
def fgC : Nat → Nat → Int32 → zS → Option (Int32 × zS)
  | 0, _, _, _ => none
  | n + 1, k, x1, σ => 
    if k = 0 then F_X6_readEither (fgC n) x1 σ else
    if k = 1 then F_X6_readBoth (fgC n) x1 σ else
    if k = 2 then F_X6_readDenied (fgC n) x1 σ else
    if k = 3 then F_X6_readCompared (fgC n) x1 σ else
    if k = 4 then F_X6_readSum (fgC n) x1 σ else
    if k = 5 then F_X6_readProduct (fgC n) x1 σ else
    if k = 6 then F_X6_readPlain (fgC n) x1 σ else
    F_X6_readInner (fgC n) x1 σ
theorem gC_all : ∀ n : Nat, gC (fgC n) (4 + n) := by
  intro n
  induction n with
  | zero => exact ⟨fun x1 σ Q h => wp_none h, fun x1 σ Q h => wp_none h, fun x1 σ Q h => wp_none h, fun x1 σ Q h => wp_none h, fun x1 σ Q h => wp_none h, fun x1 σ Q h => wp_none h, fun x1 σ Q h => wp_none h, fun x1 σ Q h => wp_none h⟩
  | succ n ih => exact ⟨fun x1 σ Q h => t_X6_readEither (fgC n) (4 + n) (by omega) ih x1 σ Q (by simpa [fgC] using h), fun x1 σ Q h => t_X6_readBoth (fgC n) (4 + n) (by omega) ih x1 σ Q (by simpa [fgC] using h), fun x1 σ Q h => t_X6_readDenied (fgC n) (4 + n) (by omega) ih x1 σ Q (by simpa [fgC] using h), fun x1 σ Q h => t_X6_readCompared (fgC n) (4 + n) (by omega) ih x1 σ Q (by simpa [fgC] using h), fun x1 σ Q h => t_X6_readSum (fgC n) (4 + n) (by omega) ih x1 σ Q (by simpa [fgC] using h), fun x1 σ Q h => t_X6_readProduct (fgC n) (4 + n) (by omega) ih x1 σ Q (by simpa [fgC] using h), fun x1 σ Q h => t_X6_readPlain (fgC n) (4 + n) (by omega) ih x1 σ Q (by simpa [fgC] using h), fun x1 σ Q h => t_X6_readInner (fgC n) (4 + n) (by omega) ih x1 σ Q (by simpa [fgC] using h)⟩
def f_X4_readLaw  (σ : zS) : Option (Int32 × zS) := 
  (f_X7_advance σ).bind fun σ_2 =>
  b2 (f_X4_choiceAtHand 22 3 σ_2) fun v_6 σ_5 =>
  if v_6 = (-1 : Int32) then
    some (0, σ_5)
  else
    (f_X2_isTold (σ_5.2.2 1) v_6 σ_5).bind fun v_10 =>
    if v_10 = 0 then
      (f_X7_advance σ_5).bind fun σ_14 =>
      lt (wB σ_14 3 (σ_14.2.2 1)) fun σ_16 =>
      (f_X2_begin (σ_16.2.2 1) v_6 σ_16).bind fun σ_19 =>
      b2 (fgC 200 0 0 σ_19) fun v_23 σ_22 =>
      if v_23 = 0 then
        some (0, σ_22)
      else
        (f_X2_end (σ_22.2.2 1) v_6 σ_22).bind fun σ_27 =>
        some (1, σ_27)
    else
      b2 (f_X7_refuse 3 σ_5) fun v_31 σ_30 =>
      some (v_31, σ_30)
theorem t_X4_readLaw (σ : zS) (Q : Option Value → zS → Prop) (h : wpO (f_X4_readLaw σ) (fun a => Q (some (.int a.1)) a.2)) : PK alC yX4_readLaw mX4_readLaw (205) [.ref 200] σ Q := by
  refine PC_ofF (by decide +kernel) rfl rfl (Nat.le_of_ble_eq_true rfl) ?_
  show PZ alC mX4_readLaw (205) Q 0 [(0, .ref 200)] [] σ
  unfold f_X4_readLaw at h
  refine PW_aload_n (pc' := 1) (q := 0) (pw_dk dc_X4_readLaw 0 rfl) rfl rfl rfl ?_
  refine PW_getR (pc' := 4) (id := 200) (ci := 4) (nn := 0) (C0 := RX4) (T := TX4) (N := 6) (j := 0) (r := 500) (pw_dk dc_X4_readLaw 1 rfl) rfl me_200 rfl pi_4 (by decide) fk_4_0 tw_408 (rfl) (by decide) ?_
  refine PZ_callVv (pc' := 7) (y := yX7_advance) (M' := mX7_advance) (d' := 2) (As := []) (st := []) (b := 500) (ci := 7) (nn := 0) me_500 rfl tw_674 tw_675 (pw_dk dc_X4_readLaw 2 rfl) rfl Y_X7_advance tw_712 rfl (by decide) (Nat.le_of_ble_eq_true rfl) (t_X7_advance σ _ ?_)
  obtain ⟨σ_2, e_3, h⟩ := wp_bind h
  refine ⟨σ_2, e_3, rfl, fun hn_1 => ?_⟩
  show PZ alC mX4_readLaw (205) Q 7 [(0, .ref 200)] [] σ_2
  refine PW_aload_n (pc' := 8) (q := 0) (pw_dk dc_X4_readLaw 3 rfl) rfl rfl rfl ?_
  refine PW_bipush (pc' := 10) (v := 22) (pw_dk dc_X4_readLaw 4 rfl) rfl (by decide) ?_
  refine PW_iconst (pc' := 11) (v := 3) (pw_dk dc_X4_readLaw 5 rfl) rfl (by decide) ?_
  refine PZ_callVi (pc' := 14) (y := yX4_choiceAtHand) (M' := mX4_choiceAtHand) (d' := 1) (As := [.int 22, .int 3]) (st := []) (b := 200) (ci := 4) (nn := 0) me_200 rfl tw_753 tw_12 (pw_dk dc_X4_readLaw 6 rfl) rfl Y_X4_choiceAtHand tw_751 rfl (by decide) (Nat.le_of_ble_eq_true rfl) (t_X4_choiceAtHand 22 3 σ_2 _ ?_)
  obtain ⟨⟨v_6, σ_5⟩, e_7, h⟩ := wp_bind2 h
  refine ⟨(v_6, σ_5), e_7, _, rfl, fun hn_4 => ?_⟩
  show PZ alC mX4_readLaw (205) Q 14 [(0, .ref 200)] [.int v_6] σ_5
  refine PW_istore_n (pc' := 15) (lv' := [(1, .int v_6), (0, .ref 200)]) (pw_dk dc_X4_readLaw 7 rfl) rfl rfl (by decide) rfl ?_
  refine PW_iload_n (pc' := 16) (q := 0) (pw_dk dc_X4_readLaw 8 rfl) rfl rfl rfl ?_
  refine PW_iconst (pc' := 17) (v := (-1 : Int32)) (pw_dk dc_X4_readLaw 9 rfl) rfl (by decide) ?_
  refine PW_icmp_ne (pc' := 20) (tgt := 22) (pw_dk dc_X4_readLaw 10 rfl) rfl (by decide) (fun c_8 => ?_) (fun c_8 => ?_)
  · rw [if_neg c_8] at h
    refine PW_aload_n (pc' := 23) (q := 1) (pw_dk dc_X4_readLaw 13 rfl) rfl rfl rfl ?_
    refine PW_getR (pc' := 26) (id := 200) (ci := 4) (nn := 0) (C0 := RX4) (T := TX4) (N := 6) (j := 2) (r := tv (σ_5.2.2 1)) (pw_dk dc_X4_readLaw 14 rfl) rfl me_200 rfl pi_4 (by decide) fk_4_2 tw_411 (rf_M1 _) (tv0 _) ?_
    refine PW_getR (pc' := 29) (id := (tv (σ_5.2.2 1))) (ci := 8) (nn := 0) (C0 := RX8) (T := TX8) (N := 18) (j := 17) (r := tl (σ_5.2.2 1)) (pw_dk dc_X4_readLaw 15 rfl) rfl (me_T _) rfl pi_8 (by decide) fk_8_17 tw_248 (rf_T17 _ _) (tl0 _) ?_
    refine PW_iload_n (pc' := 30) (q := 0) (pw_dk dc_X4_readLaw 16 rfl) rfl rfl rfl ?_
    refine PZ_callVi (pc' := 33) (y := yX2_isTold) (M' := mX2_isTold) (d' := 0) (As := [.int v_6]) (st := []) (b := (tl (σ_5.2.2 1))) (ci := 2) (nn := 0) (me_L _) rfl tw_785 tw_786 (pw_dk dc_X4_readLaw 17 rfl) rfl Y_X2_isTold tw_784 rfl (by decide) (Nat.le_of_ble_eq_true rfl) (t_X2_isTold (σ_5.2.2 1) v_6 σ_5 _ ?_)
    obtain ⟨v_10, e_11, h⟩ := wp_bind h
    refine ⟨v_10, e_11, _, rfl, fun hn_9 => ?_⟩
    show PZ alC mX4_readLaw (205) Q 33 [(1, .int v_6), (0, .ref 200)] [.int v_10] σ_5
    refine PW_if_eq (pc' := 36) (tgt := 45) (pw_dk dc_X4_readLaw 18 rfl) rfl (by decide) (fun c_12 => ?_) (fun c_12 => ?_)
    · rw [if_pos c_12] at h
      refine PW_aload_n (pc' := 46) (q := 1) (pw_dk dc_X4_readLaw 24 rfl) rfl rfl rfl ?_
      refine PW_getR (pc' := 49) (id := 200) (ci := 4) (nn := 0) (C0 := RX4) (T := TX4) (N := 6) (j := 0) (r := 500) (pw_dk dc_X4_readLaw 25 rfl) rfl me_200 rfl pi_4 (by decide) fk_4_0 tw_408 (rfl) (by decide) ?_
      refine PZ_callVv (pc' := 52) (y := yX7_advance) (M' := mX7_advance) (d' := 2) (As := []) (st := []) (b := 500) (ci := 7) (nn := 0) me_500 rfl tw_674 tw_675 (pw_dk dc_X4_readLaw 26 rfl) rfl Y_X7_advance tw_712 rfl (by decide) (Nat.le_of_ble_eq_true rfl) (t_X7_advance σ_5 _ ?_)
      obtain ⟨σ_14, e_15, h⟩ := wp_bind h
      refine ⟨σ_14, e_15, rfl, fun hn_13 => ?_⟩
      show PZ alC mX4_readLaw (205) Q 52 [(1, .int v_6), (0, .ref 200)] [] σ_14
      refine PW_aload_n (pc' := 53) (q := 1) (pw_dk dc_X4_readLaw 27 rfl) rfl rfl rfl ?_
      refine PW_getR (pc' := 56) (id := 200) (ci := 4) (nn := 0) (C0 := RX4) (T := TX4) (N := 6) (j := 1) (r := 600) (pw_dk dc_X4_readLaw 28 rfl) rfl me_200 rfl pi_4 (by decide) fk_4_1 tw_410 (rfl) (by decide) ?_
      refine PW_aload_n (pc' := 57) (q := 1) (pw_dk dc_X4_readLaw 29 rfl) rfl rfl rfl ?_
      refine PW_getR (pc' := 60) (id := 200) (ci := 4) (nn := 0) (C0 := RX4) (T := TX4) (N := 6) (j := 2) (r := tv (σ_14.2.2 1)) (pw_dk dc_X4_readLaw 30 rfl) rfl me_200 rfl pi_4 (by decide) fk_4_2 tw_411 (rf_M1 _) (tv0 _) ?_
      refine PW_getR (pc' := 63) (id := (tv (σ_14.2.2 1))) (ci := 8) (nn := 0) (C0 := RX8) (T := TX8) (N := 18) (j := 17) (r := tl (σ_14.2.2 1)) (pw_dk dc_X4_readLaw 31 rfl) rfl (me_T _) rfl pi_8 (by decide) fk_8_17 tw_248 (rf_T17 _ _) (tl0 _) ?_
      obtain ⟨σ_16, e_17, h⟩ := lt_x h
      refine PZ_putB3 (pc' := 66) (nn := 0) (b := σ_14.2.2 1) (pw_dk dc_X4_readLaw 32 rfl) rfl me_600 pi_6 tw_402 ?_
      rw [← e_17]
      refine PW_aload_n (pc' := 67) (q := 1) (pw_dk dc_X4_readLaw 33 rfl) rfl rfl rfl ?_
      refine PW_getR (pc' := 70) (id := 200) (ci := 4) (nn := 0) (C0 := RX4) (T := TX4) (N := 6) (j := 2) (r := tv (σ_16.2.2 1)) (pw_dk dc_X4_readLaw 34 rfl) rfl me_200 rfl pi_4 (by decide) fk_4_2 tw_411 (rf_M1 _) (tv0 _) ?_
      refine PW_getR (pc' := 73) (id := (tv (σ_16.2.2 1))) (ci := 8) (nn := 0) (C0 := RX8) (T := TX8) (N := 18) (j := 17) (r := tl (σ_16.2.2 1)) (pw_dk dc_X4_readLaw 35 rfl) rfl (me_T _) rfl pi_8 (by decide) fk_8_17 tw_248 (rf_T17 _ _) (tl0 _) ?_
      refine PW_iload_n (pc' := 74) (q := 0) (pw_dk dc_X4_readLaw 36 rfl) rfl rfl rfl ?_
      refine PZ_callVv (pc' := 77) (y := yX2_begin) (M' := mX2_begin) (d' := 0) (As := [.int v_6]) (st := []) (b := (tl (σ_16.2.2 1))) (ci := 2) (nn := 0) (me_L _) rfl tw_789 tw_790 (pw_dk dc_X4_readLaw 37 rfl) rfl Y_X2_begin tw_788 rfl (by decide) (Nat.le_of_ble_eq_true rfl) (t_X2_begin (σ_16.2.2 1) v_6 σ_16 _ ?_)
      obtain ⟨σ_19, e_20, h⟩ := wp_bind h
      refine ⟨σ_19, e_20, rfl, fun hn_18 => ?_⟩
      show PZ alC mX4_readLaw (205) Q 77 [(1, .int v_6), (0, .ref 200)] [] σ_19
      refine PW_aload_n (pc' := 78) (q := 1) (pw_dk dc_X4_readLaw 38 rfl) rfl rfl rfl ?_
      refine PW_getR (pc' := 81) (id := 200) (ci := 4) (nn := 0) (C0 := RX4) (T := TX4) (N := 6) (j := 1) (r := 600) (pw_dk dc_X4_readLaw 39 rfl) rfl me_200 rfl pi_4 (by decide) fk_4_1 tw_410 (rfl) (by decide) ?_
      refine PW_iconst (pc' := 82) (v := 0) (pw_dk dc_X4_readLaw 40 rfl) rfl (by decide) ?_
      refine PZ_callVNi (pc' := 85) (y := yX6_readEither) (M' := mX6_readEither) (d' := 204) (As := [.int 0]) (st := []) (b := 600) (ci := 6) (nn := 0) me_600 rfl tw_793 tw_794 (pw_dk dc_X4_readLaw 41 rfl) rfl Y_X6_readEither (by decide +kernel) rfl (by decide) (Nat.le_of_ble_eq_true rfl) ((gC_all 200).1 0 σ_19 _ ?_)
      obtain ⟨⟨v_23, σ_22⟩, e_24, h⟩ := wp_bind2 h
      refine ⟨(v_23, σ_22), e_24, _, rfl, fun hn_21 => ?_⟩
      show PZ alC mX4_readLaw (205) Q 85 [(1, .int v_6), (0, .ref 200)] [.int v_23] σ_22
      refine PW_if_ne (pc' := 88) (tgt := 90) (pw_dk dc_X4_readLaw 42 rfl) rfl (by decide) (fun c_25 => ?_) (fun c_25 => ?_)
      · rw [if_neg c_25] at h
        refine PW_aload_n (pc' := 91) (q := 1) (pw_dk dc_X4_readLaw 45 rfl) rfl rfl rfl ?_
        refine PW_getR (pc' := 94) (id := 200) (ci := 4) (nn := 0) (C0 := RX4) (T := TX4) (N := 6) (j := 2) (r := tv (σ_22.2.2 1)) (pw_dk dc_X4_readLaw 46 rfl) rfl me_200 rfl pi_4 (by decide) fk_4_2 tw_411 (rf_M1 _) (tv0 _) ?_
        refine PW_getR (pc' := 97) (id := (tv (σ_22.2.2 1))) (ci := 8) (nn := 0) (C0 := RX8) (T := TX8) (N := 18) (j := 17) (r := tl (σ_22.2.2 1)) (pw_dk dc_X4_readLaw 47 rfl) rfl (me_T _) rfl pi_8 (by decide) fk_8_17 tw_248 (rf_T17 _ _) (tl0 _) ?_
        refine PW_iload_n (pc' := 98) (q := 0) (pw_dk dc_X4_readLaw 48 rfl) rfl rfl rfl ?_
        refine PZ_callVv (pc' := 101) (y := yX2_end) (M' := mX2_end) (d' := 0) (As := [.int v_6]) (st := []) (b := (tl (σ_22.2.2 1))) (ci := 2) (nn := 0) (me_L _) rfl tw_851 tw_852 (pw_dk dc_X4_readLaw 49 rfl) rfl Y_X2_end tw_850 rfl (by decide) (Nat.le_of_ble_eq_true rfl) (t_X2_end (σ_22.2.2 1) v_6 σ_22 _ ?_)
        obtain ⟨σ_27, e_28, h⟩ := wp_bind h
        refine ⟨σ_27, e_28, rfl, fun hn_26 => ?_⟩
        show PZ alC mX4_readLaw (205) Q 101 [(1, .int v_6), (0, .ref 200)] [] σ_27
        refine PW_iconst (pc' := 102) (v := 1) (pw_dk dc_X4_readLaw 50 rfl) rfl (by decide) ?_
        have z := wp_some h
        exact PZ_iret (ty := .boolean) (pw_dk dc_X4_readLaw 51 rfl) rfl (by decide) z
      · rw [if_pos c_25] at h
        refine PW_iconst (pc' := 89) (v := 0) (pw_dk dc_X4_readLaw 43 rfl) rfl (by decide) ?_
        have z := wp_some h
        exact PZ_iret (ty := .boolean) (pw_dk dc_X4_readLaw 44 rfl) rfl (by decide) z
    · rw [if_neg c_12] at h
      refine PW_aload_n (pc' := 37) (q := 1) (pw_dk dc_X4_readLaw 19 rfl) rfl rfl rfl ?_
      refine PW_getR (pc' := 40) (id := 200) (ci := 4) (nn := 0) (C0 := RX4) (T := TX4) (N := 6) (j := 0) (r := 500) (pw_dk dc_X4_readLaw 20 rfl) rfl me_200 rfl pi_4 (by decide) fk_4_0 tw_408 (rfl) (by decide) ?_
      refine PW_iconst (pc' := 41) (v := 3) (pw_dk dc_X4_readLaw 21 rfl) rfl (by decide) ?_
      refine PZ_callVi (pc' := 44) (y := yX7_refuse) (M' := mX7_refuse) (d' := 0) (As := [.int 3]) (st := []) (b := 500) (ci := 7) (nn := 0) me_500 rfl tw_709 tw_710 (pw_dk dc_X4_readLaw 22 rfl) rfl Y_X7_refuse tw_708 rfl (by decide) (Nat.le_of_ble_eq_true rfl) (t_X7_refuse 3 σ_5 _ ?_)
      obtain ⟨⟨v_31, σ_30⟩, e_32, h⟩ := wp_bind2 h
      refine ⟨(v_31, σ_30), e_32, _, rfl, fun hn_29 => ?_⟩
      show PZ alC mX4_readLaw (205) Q 44 [(1, .int v_6), (0, .ref 200)] [.int v_31] σ_30
      have z := wp_some h
      exact PZ_iret (ty := .boolean) (pw_dk dc_X4_readLaw 23 rfl) rfl (hn_29 _ _ rfl rfl) z
  · rw [if_pos c_8] at h
    refine PW_iconst (pc' := 21) (v := 0) (pw_dk dc_X4_readLaw 11 rfl) rfl (by decide) ?_
    have z := wp_some h
    exact PZ_iret (ty := .boolean) (pw_dk dc_X4_readLaw 12 rfl) rfl (by decide) z
def f_X8_addMan (b : Bool) (x1 : Int32) (x2 : Int32) (x3 : Int32) (x4 : Int32) (σ : zS) : Option zS := 
  if (σ.1 (tv b) 6) < 5 then
    (wrI σ (tv b + 8) 5 (σ.1 (tv b) 6) x1).bind fun σ_2 =>
    (wrI σ_2 (tv b + 9) 5 (σ_2.1 (tv b) 6) x2).bind fun σ_5 =>
    (wrI σ_5 (tv b + 10) 5 (σ_5.1 (tv b) 6) x3).bind fun σ_8 =>
    (wrI σ_8 (tv b + 11) 5 (σ_8.1 (tv b) 6) x4).bind fun σ_11 =>
    lt (wI σ_11 (tv b) 6 ((σ_11.1 (tv b) 6) + (1 : Int32))) fun σ_14 =>
    some σ_14
  else
    some σ
theorem t_X8_addMan (b : Bool) (x1 : Int32) (x2 : Int32) (x3 : Int32) (x4 : Int32) (σ : zS) (Q : Option Value → zS → Prop) (h : wpO (f_X8_addMan b x1 x2 x3 x4 σ) (fun s => Q none s)) : PK alC yX8_addMan mX8_addMan (0) [.ref (tv b), .int x1, .int x2, .int x3, .int x4] σ Q := by
  refine PC_ofF (by decide +kernel) rfl rfl (Nat.le_of_ble_eq_true rfl) ?_
  show PZ alC mX8_addMan (0) Q 0 [(0, .ref (tv b)), (1, .int x1), (2, .int x2), (3, .int x3), (4, .int x4)] [] σ
  unfold f_X8_addMan at h
  refine PW_aload_n (pc' := 1) (q := 0) (pw_dk dc_X8_addMan 0 rfl) rfl rfl rfl ?_
  refine PZ_getI (pc' := 4) (id := (tv b)) (ci := 8) (nn := 0) (C0 := RX8) (T := TX8) (N := 18) (j := 6) (pw_dk dc_X8_addMan 1 rfl) rfl (me_T b) rfl pi_8 (by decide) fk_8_6 tw_215 ?_
  refine PW_iconst (pc' := 5) (v := 5) (pw_dk dc_X8_addMan 2 rfl) rfl (by decide) ?_
  refine PW_icmp_lt (pc' := 8) (tgt := 9) (pw_dk dc_X8_addMan 3 rfl) rfl (by decide) (fun c_1 => ?_) (fun c_1 => ?_)
  · rw [if_pos c_1] at h
    refine PW_aload_n (pc' := 10) (q := 0) (pw_dk dc_X8_addMan 5 rfl) rfl rfl rfl ?_
    refine PW_getR (pc' := 13) (id := (tv b)) (ci := 8) (nn := 0) (C0 := RX8) (T := TX8) (N := 18) (j := 7) (r := tv b + 8) (pw_dk dc_X8_addMan 6 rfl) rfl (me_T b) rfl pi_8 (by decide) fk_8_7 tw_219 (rf_T7 _ _) (su0 _ _) ?_
    refine PW_aload_n (pc' := 14) (q := 0) (pw_dk dc_X8_addMan 7 rfl) rfl rfl rfl ?_
    refine PZ_getI (pc' := 17) (id := (tv b)) (ci := 8) (nn := 0) (C0 := RX8) (T := TX8) (N := 18) (j := 6) (pw_dk dc_X8_addMan 8 rfl) rfl (me_T b) rfl pi_8 (by decide) fk_8_6 tw_215 ?_
    refine PW_iload_n (pc' := 18) (q := 1) (pw_dk dc_X8_addMan 9 rfl) rfl rfl rfl ?_
    obtain ⟨σ_2, hi_3, e_4, h⟩ := wp_wrIx h
    refine PZ_iastx (pc' := 19) (σ' := σ_2) (id := (tv b + 8)) (nn := 5) (pw_dk dc_X8_addMan 10 rfl) rfl (me_T7 _) hi_3 e_4 ?_
    refine PW_aload_n (pc' := 20) (q := 0) (pw_dk dc_X8_addMan 11 rfl) rfl rfl rfl ?_
    refine PW_getR (pc' := 23) (id := (tv b)) (ci := 8) (nn := 0) (C0 := RX8) (T := TX8) (N := 18) (j := 8) (r := tv b + 9) (pw_dk dc_X8_addMan 12 rfl) rfl (me_T b) rfl pi_8 (by decide) fk_8_8 tw_220 (rf_T8 _ _) (su0 _ _) ?_
    refine PW_aload_n (pc' := 24) (q := 0) (pw_dk dc_X8_addMan 13 rfl) rfl rfl rfl ?_
    refine PZ_getI (pc' := 27) (id := (tv b)) (ci := 8) (nn := 0) (C0 := RX8) (T := TX8) (N := 18) (j := 6) (pw_dk dc_X8_addMan 14 rfl) rfl (me_T b) rfl pi_8 (by decide) fk_8_6 tw_215 ?_
    refine PW_iload_n (pc' := 28) (q := 2) (pw_dk dc_X8_addMan 15 rfl) rfl rfl rfl ?_
    obtain ⟨σ_5, hi_6, e_7, h⟩ := wp_wrIx h
    refine PZ_iastx (pc' := 29) (σ' := σ_5) (id := (tv b + 9)) (nn := 5) (pw_dk dc_X8_addMan 16 rfl) rfl (me_T8 _) hi_6 e_7 ?_
    refine PW_aload_n (pc' := 30) (q := 0) (pw_dk dc_X8_addMan 17 rfl) rfl rfl rfl ?_
    refine PW_getR (pc' := 33) (id := (tv b)) (ci := 8) (nn := 0) (C0 := RX8) (T := TX8) (N := 18) (j := 9) (r := tv b + 10) (pw_dk dc_X8_addMan 18 rfl) rfl (me_T b) rfl pi_8 (by decide) fk_8_9 tw_223 (rf_T9 _ _) (su0 _ _) ?_
    refine PW_aload_n (pc' := 34) (q := 0) (pw_dk dc_X8_addMan 19 rfl) rfl rfl rfl ?_
    refine PZ_getI (pc' := 37) (id := (tv b)) (ci := 8) (nn := 0) (C0 := RX8) (T := TX8) (N := 18) (j := 6) (pw_dk dc_X8_addMan 20 rfl) rfl (me_T b) rfl pi_8 (by decide) fk_8_6 tw_215 ?_
    refine PW_iload_n (pc' := 38) (q := 3) (pw_dk dc_X8_addMan 21 rfl) rfl rfl rfl ?_
    obtain ⟨σ_8, hi_9, e_10, h⟩ := wp_wrIx h
    refine PZ_iastx (pc' := 39) (σ' := σ_8) (id := (tv b + 10)) (nn := 5) (pw_dk dc_X8_addMan 22 rfl) rfl (me_T9 _) hi_9 e_10 ?_
    refine PW_aload_n (pc' := 40) (q := 0) (pw_dk dc_X8_addMan 23 rfl) rfl rfl rfl ?_
    refine PW_getR (pc' := 43) (id := (tv b)) (ci := 8) (nn := 0) (C0 := RX8) (T := TX8) (N := 18) (j := 10) (r := tv b + 11) (pw_dk dc_X8_addMan 24 rfl) rfl (me_T b) rfl pi_8 (by decide) fk_8_10 tw_226 (rf_T10 _ _) (su0 _ _) ?_
    refine PW_aload_n (pc' := 44) (q := 0) (pw_dk dc_X8_addMan 25 rfl) rfl rfl rfl ?_
    refine PZ_getI (pc' := 47) (id := (tv b)) (ci := 8) (nn := 0) (C0 := RX8) (T := TX8) (N := 18) (j := 6) (pw_dk dc_X8_addMan 26 rfl) rfl (me_T b) rfl pi_8 (by decide) fk_8_6 tw_215 ?_
    refine PW_iload (pc' := 49) (q := 4) (pw_dk dc_X8_addMan 27 rfl) rfl rfl ?_
    obtain ⟨σ_11, hi_12, e_13, h⟩ := wp_wrIx h
    refine PZ_iastx (pc' := 50) (σ' := σ_11) (id := (tv b + 11)) (nn := 5) (pw_dk dc_X8_addMan 28 rfl) rfl (me_T10 _) hi_12 e_13 ?_
    refine PW_aload_n (pc' := 51) (q := 0) (pw_dk dc_X8_addMan 29 rfl) rfl rfl rfl ?_
    refine PW_dup (pc' := 52) (pw_dk dc_X8_addMan 30 rfl) rfl rfl ?_
    refine PZ_getI (pc' := 55) (id := (tv b)) (ci := 8) (nn := 0) (C0 := RX8) (T := TX8) (N := 18) (j := 6) (pw_dk dc_X8_addMan 31 rfl) rfl (me_T b) rfl pi_8 (by decide) fk_8_6 tw_215 ?_
    refine PW_iconst (pc' := 56) (v := 1) (pw_dk dc_X8_addMan 32 rfl) rfl (by decide) ?_
    refine PW_iadd (pc' := 57) (pw_dk dc_X8_addMan 33 rfl) rfl ?_
    obtain ⟨σ_14, e_15, h⟩ := lt_x h
    refine PZ_putX (pc' := 60) (σ' := σ_14) (id := (tv b)) (ci := 8) (nn := 0) (C0 := RX8) (T := TX8) (N := 18) (j := 6) (ty := tyX8 6) (pw_dk dc_X8_addMan 34 rfl) rfl (me_T b) rfl pi_8 tyX8_ok nmX8 (by decide) fk_8_6 tw_215 rfl (tyX8_ok 6 (by decide)) (by first | rfl | decide) (by first | rfl | decide) e_15 ?_
    have z := wp_some h
    exact PZ_vret (pw_dk dc_X8_addMan 35 rfl) rfl z
  · rw [if_neg c_1] at h
    have z := wp_some h
    exact PZ_vret (pw_dk dc_X8_addMan 4 rfl) rfl z
def f_X4_readMan_134  (x1 : Int32) (x2 : Int32) (x3 : Int32) (x4 : Int32) (s0 : Int32) (σ : zS) : Option (Int32 × zS) := 
  if s0 = (-1 : Int32) then
    some (0, σ)
  else
    (f_X8_addMan (σ.2.2 1) x1 ((x2 * (16 : Int32)) + (x3 * (4 : Int32))) x4 s0 σ).bind fun σ_3 =>
    some (1, σ_3)
theorem b_X4_readMan_134 {Q : Option Value → zS → Prop} (x1 : Int32) (x2 : Int32) (x3 : Int32) (x4 : Int32) (s0 : Int32) (σ : zS) (h : wpO (f_X4_readMan_134 x1 x2 x3 x4 s0 σ) (fun a => Q (some (.int a.1)) a.2)) : PZ alC mX4_readMan (4) Q 134 [(0, .ref 200), (1, .int x1), (2, .int x2), (3, .int x3), (4, .int x4)] [.int s0] σ := by
  unfold f_X4_readMan_134 at h
  refine PW_istore (pc' := 136) (lv' := [(5, .int s0), (0, .ref 200), (1, .int x1), (2, .int x2), (3, .int x3), (4, .int x4)]) (pw_dk dc_X4_readMan 73 rfl) rfl (by decide) rfl ?_
  refine PW_iload (pc' := 138) (q := 0) (pw_dk dc_X4_readMan 74 rfl) rfl rfl ?_
  refine PW_iconst (pc' := 139) (v := (-1 : Int32)) (pw_dk dc_X4_readMan 75 rfl) rfl (by decide) ?_
  refine PW_icmp_ne (pc' := 142) (tgt := 144) (pw_dk dc_X4_readMan 76 rfl) rfl (by decide) (fun c_1 => ?_) (fun c_1 => ?_)
  · rw [if_neg c_1] at h
    refine PW_aload_n (pc' := 145) (q := 1) (pw_dk dc_X4_readMan 79 rfl) rfl rfl rfl ?_
    refine PW_getR (pc' := 148) (id := 200) (ci := 4) (nn := 0) (C0 := RX4) (T := TX4) (N := 6) (j := 2) (r := tv (σ.2.2 1)) (pw_dk dc_X4_readMan 80 rfl) rfl me_200 rfl pi_4 (by decide) fk_4_2 tw_411 (rf_M1 _) (tv0 _) ?_
    refine PW_iload_n (pc' := 149) (q := 2) (pw_dk dc_X4_readMan 81 rfl) rfl rfl rfl ?_
    refine PW_iload_n (pc' := 150) (q := 3) (pw_dk dc_X4_readMan 82 rfl) rfl rfl rfl ?_
    refine PW_bipush (pc' := 152) (v := 16) (pw_dk dc_X4_readMan 83 rfl) rfl (by decide) ?_
    refine PW_imul (pc' := 153) (pw_dk dc_X4_readMan 84 rfl) rfl ?_
    refine PW_iload_n (pc' := 154) (q := 4) (pw_dk dc_X4_readMan 85 rfl) rfl rfl rfl ?_
    refine PW_iconst (pc' := 155) (v := 4) (pw_dk dc_X4_readMan 86 rfl) rfl (by decide) ?_
    refine PW_imul (pc' := 156) (pw_dk dc_X4_readMan 87 rfl) rfl ?_
    refine PW_iadd (pc' := 157) (pw_dk dc_X4_readMan 88 rfl) rfl ?_
    refine PW_iload (pc' := 159) (q := 5) (pw_dk dc_X4_readMan 89 rfl) rfl rfl ?_
    refine PW_iload (pc' := 161) (q := 0) (pw_dk dc_X4_readMan 90 rfl) rfl rfl ?_
    refine PZ_callVv (pc' := 164) (y := yX8_addMan) (M' := mX8_addMan) (d' := 0) (As := [.int x1, .int ((x2 * (16 : Int32)) + (x3 * (4 : Int32))), .int x4, .int s0]) (st := []) (b := (tv (σ.2.2 1))) (ci := 8) (nn := 0) (me_T _) rfl tw_756 tw_757 (pw_dk dc_X4_readMan 91 rfl) rfl Y_X8_addMan tw_755 rfl (by decide) (Nat.le_of_ble_eq_true rfl) (t_X8_addMan (σ.2.2 1) x1 ((x2 * (16 : Int32)) + (x3 * (4 : Int32))) x4 s0 σ _ ?_)
    obtain ⟨σ_3, e_4, h⟩ := wp_bind h
    refine ⟨σ_3, e_4, rfl, fun hn_2 => ?_⟩
    show PZ alC mX4_readMan (4) Q 164 [(5, .int s0), (0, .ref 200), (1, .int x1), (2, .int x2), (3, .int x3), (4, .int x4)] [] σ_3
    refine PW_iconst (pc' := 165) (v := 1) (pw_dk dc_X4_readMan 92 rfl) rfl (by decide) ?_
    have z := wp_some h
    exact PZ_iret (ty := .boolean) (pw_dk dc_X4_readMan 93 rfl) rfl (by decide) z
  · rw [if_pos c_1] at h
    refine PW_iconst (pc' := 143) (v := 0) (pw_dk dc_X4_readMan 77 rfl) rfl (by decide) ?_
    have z := wp_some h
    exact PZ_iret (ty := .boolean) (pw_dk dc_X4_readMan 78 rfl) rfl (by decide) z
def f_X4_readMan_115  (x1 : Int32) (x2 : Int32) (x3 : Int32) (s0 : Int32) (σ : zS) : Option (Int32 × zS) := 
  if s0 = (-1 : Int32) then
    f_X4_readMan_134 x1 x2 x3 s0 (-1 : Int32) σ
  else
    b2 (f_X4_takeNumber 0 99 σ) fun v_4 σ_3 =>
    f_X4_readMan_134 x1 x2 x3 s0 v_4 σ_3
theorem b_X4_readMan_115 {Q : Option Value → zS → Prop} (x1 : Int32) (x2 : Int32) (x3 : Int32) (s0 : Int32) (σ : zS) (h : wpO (f_X4_readMan_115 x1 x2 x3 s0 σ) (fun a => Q (some (.int a.1)) a.2)) : PZ alC mX4_readMan (4) Q 115 [(0, .ref 200), (1, .int x1), (2, .int x2), (3, .int x3)] [.int s0] σ := by
  unfold f_X4_readMan_115 at h
  refine PW_istore (pc' := 117) (lv' := [(4, .int s0), (0, .ref 200), (1, .int x1), (2, .int x2), (3, .int x3)]) (pw_dk dc_X4_readMan 63 rfl) rfl (by decide) rfl ?_
  refine PW_iload (pc' := 119) (q := 0) (pw_dk dc_X4_readMan 64 rfl) rfl rfl ?_
  refine PW_iconst (pc' := 120) (v := (-1 : Int32)) (pw_dk dc_X4_readMan 65 rfl) rfl (by decide) ?_
  refine PW_icmp_ne (pc' := 123) (tgt := 127) (pw_dk dc_X4_readMan 66 rfl) rfl (by decide) (fun c_1 => ?_) (fun c_1 => ?_)
  · rw [if_neg c_1] at h
    refine PW_aload_n (pc' := 128) (q := 1) (pw_dk dc_X4_readMan 69 rfl) rfl rfl rfl ?_
    refine PW_iconst (pc' := 129) (v := 0) (pw_dk dc_X4_readMan 70 rfl) rfl (by decide) ?_
    refine PW_bipush (pc' := 131) (v := 99) (pw_dk dc_X4_readMan 71 rfl) rfl (by decide) ?_
    refine PZ_callVi (pc' := 134) (y := yX4_takeNumber) (M' := mX4_takeNumber) (d' := 3) (As := [.int 0, .int 99]) (st := []) (b := 200) (ci := 4) (nn := 0) me_200 rfl tw_715 tw_7 (pw_dk dc_X4_readMan 72 rfl) rfl Y_X4_takeNumber tw_713 rfl (by decide) (Nat.le_of_ble_eq_true rfl) (t_X4_takeNumber 0 99 σ _ ?_)
    obtain ⟨⟨v_4, σ_3⟩, e_5, h⟩ := wp_bind2 h
    refine ⟨(v_4, σ_3), e_5, _, rfl, fun hn_2 => ?_⟩
    show PZ alC mX4_readMan (4) Q 134 [(4, .int s0), (0, .ref 200), (1, .int x1), (2, .int x2), (3, .int x3)] [.int v_4] σ_3
    refine PW_sub (lv' := [(0, .ref 200), (1, .int x1), (2, .int x2), (3, .int x3), (4, .int s0)]) [1, 2, 3, 4, 0] rfl ?_
    exact b_X4_readMan_134 x1 x2 x3 s0 v_4 σ_3 h
  · rw [if_pos c_1] at h
    refine PW_iconst (pc' := 124) (v := (-1 : Int32)) (pw_dk dc_X4_readMan 67 rfl) rfl (by decide) ?_
    refine PW_goto (tgt := 134) (pw_dk dc_X4_readMan 68 rfl) (by decide) ?_
    refine PW_sub (lv' := [(0, .ref 200), (1, .int x1), (2, .int x2), (3, .int x3), (4, .int s0)]) [1, 2, 3, 4, 0] rfl ?_
    exact b_X4_readMan_134 x1 x2 x3 s0 (-1 : Int32) σ h
def f_X4_readMan_98  (x1 : Int32) (x2 : Int32) (s0 : Int32) (σ : zS) : Option (Int32 × zS) := 
  if s0 = (-1 : Int32) then
    f_X4_readMan_115 x1 x2 s0 (-1 : Int32) σ
  else
    b2 (f_X4_takeChoice 12 2 σ) fun v_4 σ_3 =>
    f_X4_readMan_115 x1 x2 s0 v_4 σ_3
theorem b_X4_readMan_98 {Q : Option Value → zS → Prop} (x1 : Int32) (x2 : Int32) (s0 : Int32) (σ : zS) (h : wpO (f_X4_readMan_98 x1 x2 s0 σ) (fun a => Q (some (.int a.1)) a.2)) : PZ alC mX4_readMan (4) Q 98 [(0, .ref 200), (1, .int x1), (2, .int x2)] [.int s0] σ := by
  unfold f_X4_readMan_98 at h
  refine PW_istore_n (pc' := 99) (lv' := [(3, .int s0), (0, .ref 200), (1, .int x1), (2, .int x2)]) (pw_dk dc_X4_readMan 53 rfl) rfl rfl (by decide) rfl ?_
  refine PW_iload_n (pc' := 100) (q := 0) (pw_dk dc_X4_readMan 54 rfl) rfl rfl rfl ?_
  refine PW_iconst (pc' := 101) (v := (-1 : Int32)) (pw_dk dc_X4_readMan 55 rfl) rfl (by decide) ?_
  refine PW_icmp_ne (pc' := 104) (tgt := 108) (pw_dk dc_X4_readMan 56 rfl) rfl (by decide) (fun c_1 => ?_) (fun c_1 => ?_)
  · rw [if_neg c_1] at h
    refine PW_aload_n (pc' := 109) (q := 1) (pw_dk dc_X4_readMan 59 rfl) rfl rfl rfl ?_
    refine PW_bipush (pc' := 111) (v := 12) (pw_dk dc_X4_readMan 60 rfl) rfl (by decide) ?_
    refine PW_iconst (pc' := 112) (v := 2) (pw_dk dc_X4_readMan 61 rfl) rfl (by decide) ?_
    refine PZ_callVi (pc' := 115) (y := yX4_takeChoice) (M' := mX4_takeChoice) (d' := 3) (As := [.int 12, .int 2]) (st := []) (b := 200) (ci := 4) (nn := 0) me_200 rfl tw_749 tw_11 (pw_dk dc_X4_readMan 62 rfl) rfl Y_X4_takeChoice tw_747 rfl (by decide) (Nat.le_of_ble_eq_true rfl) (t_X4_takeChoice 12 2 σ _ ?_)
    obtain ⟨⟨v_4, σ_3⟩, e_5, h⟩ := wp_bind2 h
    refine ⟨(v_4, σ_3), e_5, _, rfl, fun hn_2 => ?_⟩
    show PZ alC mX4_readMan (4) Q 115 [(3, .int s0), (0, .ref 200), (1, .int x1), (2, .int x2)] [.int v_4] σ_3
    refine PW_sub (lv' := [(0, .ref 200), (1, .int x1), (2, .int x2), (3, .int s0)]) [1, 2, 3, 0] rfl ?_
    exact b_X4_readMan_115 x1 x2 s0 v_4 σ_3 h
  · rw [if_pos c_1] at h
    refine PW_iconst (pc' := 105) (v := (-1 : Int32)) (pw_dk dc_X4_readMan 57 rfl) rfl (by decide) ?_
    refine PW_goto (tgt := 115) (pw_dk dc_X4_readMan 58 rfl) (by decide) ?_
    refine PW_sub (lv' := [(0, .ref 200), (1, .int x1), (2, .int x2), (3, .int s0)]) [1, 2, 3, 0] rfl ?_
    exact b_X4_readMan_115 x1 x2 s0 (-1 : Int32) σ h
def f_X4_readMan  (σ : zS) : Option (Int32 × zS) := 
  if (σ.1 (tv (σ.2.2 1)) 6) < 5 then
    (f_X7_advance σ).bind fun σ_3 =>
    b2 (f_X4_takeName σ_3) fun v_7 σ_6 =>
    if v_7 = (-1 : Int32) then
      some (0, σ_6)
    else
      (f_X8_manNamed (σ_6.2.2 1) v_7 σ_6).bind fun v_11 =>
      if v_11 = (-1 : Int32) then
        (f_X7_advance σ_6).bind fun σ_15 =>
        b2 (f_X4_takeNumber 0 ((σ_15.1 (tv (σ_15.2.2 1)) 0) - (1 : Int32)) σ_15) fun v_19 σ_18 =>
        if v_19 = (-1 : Int32) then
          f_X4_readMan_98 v_7 v_19 (-1 : Int32) σ_18
        else
          b2 (f_X4_takeChoice 8 4 σ_18) fun v_24 σ_23 =>
          f_X4_readMan_98 v_7 v_19 v_24 σ_23
      else
        b2 (f_X7_refuse 3 σ_6) fun v_28 σ_27 =>
        some (v_28, σ_27)
  else
    b2 (f_X7_refuse 2 σ) fun v_32 σ_31 =>
    some (v_32, σ_31)
theorem t_X4_readMan (σ : zS) (Q : Option Value → zS → Prop) (h : wpO (f_X4_readMan σ) (fun a => Q (some (.int a.1)) a.2)) : PK alC yX4_readMan mX4_readMan (4) [.ref 200] σ Q := by
  refine PC_ofF (by decide +kernel) rfl rfl (Nat.le_of_ble_eq_true rfl) ?_
  show PZ alC mX4_readMan (4) Q 0 [(0, .ref 200)] [] σ
  unfold f_X4_readMan at h
  refine PW_aload_n (pc' := 1) (q := 0) (pw_dk dc_X4_readMan 0 rfl) rfl rfl rfl ?_
  refine PW_getR (pc' := 4) (id := 200) (ci := 4) (nn := 0) (C0 := RX4) (T := TX4) (N := 6) (j := 2) (r := tv (σ.2.2 1)) (pw_dk dc_X4_readMan 1 rfl) rfl me_200 rfl pi_4 (by decide) fk_4_2 tw_411 (rf_M1 _) (tv0 _) ?_
  refine PZ_getI (pc' := 7) (id := (tv (σ.2.2 1))) (ci := 8) (nn := 0) (C0 := RX8) (T := TX8) (N := 18) (j := 6) (pw_dk dc_X4_readMan 2 rfl) rfl (me_T _) rfl pi_8 (by decide) fk_8_6 tw_216 ?_
  refine PW_iconst (pc' := 8) (v := 5) (pw_dk dc_X4_readMan 3 rfl) rfl (by decide) ?_
  refine PW_icmp_lt (pc' := 11) (tgt := 20) (pw_dk dc_X4_readMan 4 rfl) rfl (by decide) (fun c_1 => ?_) (fun c_1 => ?_)
  · rw [if_pos c_1] at h
    refine PW_aload_n (pc' := 21) (q := 0) (pw_dk dc_X4_readMan 10 rfl) rfl rfl rfl ?_
    refine PW_getR (pc' := 24) (id := 200) (ci := 4) (nn := 0) (C0 := RX4) (T := TX4) (N := 6) (j := 0) (r := 500) (pw_dk dc_X4_readMan 11 rfl) rfl me_200 rfl pi_4 (by decide) fk_4_0 tw_408 (rfl) (by decide) ?_
    refine PZ_callVv (pc' := 27) (y := yX7_advance) (M' := mX7_advance) (d' := 2) (As := []) (st := []) (b := 500) (ci := 7) (nn := 0) me_500 rfl tw_674 tw_675 (pw_dk dc_X4_readMan 12 rfl) rfl Y_X7_advance tw_712 rfl (by decide) (Nat.le_of_ble_eq_true rfl) (t_X7_advance σ _ ?_)
    obtain ⟨σ_3, e_4, h⟩ := wp_bind h
    refine ⟨σ_3, e_4, rfl, fun hn_2 => ?_⟩
    show PZ alC mX4_readMan (4) Q 27 [(0, .ref 200)] [] σ_3
    refine PW_aload_n (pc' := 28) (q := 0) (pw_dk dc_X4_readMan 13 rfl) rfl rfl rfl ?_
    refine PZ_callVi (pc' := 31) (y := yX4_takeName) (M' := mX4_takeName) (d' := 1) (As := []) (st := []) (b := 200) (ci := 4) (nn := 0) me_200 rfl tw_723 tw_9 (pw_dk dc_X4_readMan 14 rfl) rfl Y_X4_takeName tw_721 rfl (by decide) (Nat.le_of_ble_eq_true rfl) (t_X4_takeName σ_3 _ ?_)
    obtain ⟨⟨v_7, σ_6⟩, e_8, h⟩ := wp_bind2 h
    refine ⟨(v_7, σ_6), e_8, _, rfl, fun hn_5 => ?_⟩
    show PZ alC mX4_readMan (4) Q 31 [(0, .ref 200)] [.int v_7] σ_6
    refine PW_istore_n (pc' := 32) (lv' := [(1, .int v_7), (0, .ref 200)]) (pw_dk dc_X4_readMan 15 rfl) rfl rfl (by decide) rfl ?_
    refine PW_iload_n (pc' := 33) (q := 0) (pw_dk dc_X4_readMan 16 rfl) rfl rfl rfl ?_
    refine PW_iconst (pc' := 34) (v := (-1 : Int32)) (pw_dk dc_X4_readMan 17 rfl) rfl (by decide) ?_
    refine PW_icmp_ne (pc' := 37) (tgt := 39) (pw_dk dc_X4_readMan 18 rfl) rfl (by decide) (fun c_9 => ?_) (fun c_9 => ?_)
    · rw [if_neg c_9] at h
      refine PW_aload_n (pc' := 40) (q := 1) (pw_dk dc_X4_readMan 21 rfl) rfl rfl rfl ?_
      refine PW_getR (pc' := 43) (id := 200) (ci := 4) (nn := 0) (C0 := RX4) (T := TX4) (N := 6) (j := 2) (r := tv (σ_6.2.2 1)) (pw_dk dc_X4_readMan 22 rfl) rfl me_200 rfl pi_4 (by decide) fk_4_2 tw_411 (rf_M1 _) (tv0 _) ?_
      refine PW_iload_n (pc' := 44) (q := 0) (pw_dk dc_X4_readMan 23 rfl) rfl rfl rfl ?_
      refine PZ_callVi (pc' := 47) (y := yX8_manNamed) (M' := mX8_manNamed) (d' := 1) (As := [.int v_7]) (st := []) (b := (tv (σ_6.2.2 1))) (ci := 8) (nn := 0) (me_T _) rfl tw_744 tw_745 (pw_dk dc_X4_readMan 24 rfl) rfl Y_X8_manNamed tw_743 rfl (by decide) (Nat.le_of_ble_eq_true rfl) (t_X8_manNamed (σ_6.2.2 1) v_7 σ_6 _ ?_)
      obtain ⟨v_11, e_12, h⟩ := wp_bind h
      refine ⟨v_11, e_12, _, rfl, fun hn_10 => ?_⟩
      show PZ alC mX4_readMan (4) Q 47 [(1, .int v_7), (0, .ref 200)] [.int v_11] σ_6
      refine PW_iconst (pc' := 48) (v := (-1 : Int32)) (pw_dk dc_X4_readMan 25 rfl) rfl (by decide) ?_
      refine PW_icmp_eq (pc' := 51) (tgt := 60) (pw_dk dc_X4_readMan 26 rfl) rfl (by decide) (fun c_13 => ?_) (fun c_13 => ?_)
      · rw [if_pos c_13] at h
        refine PW_aload_n (pc' := 61) (q := 1) (pw_dk dc_X4_readMan 32 rfl) rfl rfl rfl ?_
        refine PW_getR (pc' := 64) (id := 200) (ci := 4) (nn := 0) (C0 := RX4) (T := TX4) (N := 6) (j := 0) (r := 500) (pw_dk dc_X4_readMan 33 rfl) rfl me_200 rfl pi_4 (by decide) fk_4_0 tw_408 (rfl) (by decide) ?_
        refine PZ_callVv (pc' := 67) (y := yX7_advance) (M' := mX7_advance) (d' := 2) (As := []) (st := []) (b := 500) (ci := 7) (nn := 0) me_500 rfl tw_674 tw_675 (pw_dk dc_X4_readMan 34 rfl) rfl Y_X7_advance tw_712 rfl (by decide) (Nat.le_of_ble_eq_true rfl) (t_X7_advance σ_6 _ ?_)
        obtain ⟨σ_15, e_16, h⟩ := wp_bind h
        refine ⟨σ_15, e_16, rfl, fun hn_14 => ?_⟩
        show PZ alC mX4_readMan (4) Q 67 [(1, .int v_7), (0, .ref 200)] [] σ_15
        refine PW_aload_n (pc' := 68) (q := 1) (pw_dk dc_X4_readMan 35 rfl) rfl rfl rfl ?_
        refine PW_iconst (pc' := 69) (v := 0) (pw_dk dc_X4_readMan 36 rfl) rfl (by decide) ?_
        refine PW_aload_n (pc' := 70) (q := 1) (pw_dk dc_X4_readMan 37 rfl) rfl rfl rfl ?_
        refine PW_getR (pc' := 73) (id := 200) (ci := 4) (nn := 0) (C0 := RX4) (T := TX4) (N := 6) (j := 2) (r := tv (σ_15.2.2 1)) (pw_dk dc_X4_readMan 38 rfl) rfl me_200 rfl pi_4 (by decide) fk_4_2 tw_411 (rf_M1 _) (tv0 _) ?_
        refine PZ_getI (pc' := 76) (id := (tv (σ_15.2.2 1))) (ci := 8) (nn := 0) (C0 := RX8) (T := TX8) (N := 18) (j := 0) (pw_dk dc_X4_readMan 39 rfl) rfl (me_T _) rfl pi_8 (by decide) fk_8_0 tw_200 ?_
        refine PW_iconst (pc' := 77) (v := 1) (pw_dk dc_X4_readMan 40 rfl) rfl (by decide) ?_
        refine PW_isub (pc' := 78) (pw_dk dc_X4_readMan 41 rfl) rfl ?_
        refine PZ_callVi (pc' := 81) (y := yX4_takeNumber) (M' := mX4_takeNumber) (d' := 3) (As := [.int 0, .int ((σ_15.1 (tv (σ_15.2.2 1)) 0) - (1 : Int32))]) (st := []) (b := 200) (ci := 4) (nn := 0) me_200 rfl tw_715 tw_7 (pw_dk dc_X4_readMan 42 rfl) rfl Y_X4_takeNumber tw_713 rfl (by decide) (Nat.le_of_ble_eq_true rfl) (t_X4_takeNumber 0 ((σ_15.1 (tv (σ_15.2.2 1)) 0) - (1 : Int32)) σ_15 _ ?_)
        obtain ⟨⟨v_19, σ_18⟩, e_20, h⟩ := wp_bind2 h
        refine ⟨(v_19, σ_18), e_20, _, rfl, fun hn_17 => ?_⟩
        show PZ alC mX4_readMan (4) Q 81 [(1, .int v_7), (0, .ref 200)] [.int v_19] σ_18
        refine PW_istore_n (pc' := 82) (lv' := [(2, .int v_19), (1, .int v_7), (0, .ref 200)]) (pw_dk dc_X4_readMan 43 rfl) rfl rfl (by decide) rfl ?_
        refine PW_iload_n (pc' := 83) (q := 0) (pw_dk dc_X4_readMan 44 rfl) rfl rfl rfl ?_
        refine PW_iconst (pc' := 84) (v := (-1 : Int32)) (pw_dk dc_X4_readMan 45 rfl) rfl (by decide) ?_
        refine PW_icmp_ne (pc' := 87) (tgt := 91) (pw_dk dc_X4_readMan 46 rfl) rfl (by decide) (fun c_21 => ?_) (fun c_21 => ?_)
        · rw [if_neg c_21] at h
          refine PW_aload_n (pc' := 92) (q := 2) (pw_dk dc_X4_readMan 49 rfl) rfl rfl rfl ?_
          refine PW_bipush (pc' := 94) (v := 8) (pw_dk dc_X4_readMan 50 rfl) rfl (by decide) ?_
          refine PW_iconst (pc' := 95) (v := 4) (pw_dk dc_X4_readMan 51 rfl) rfl (by decide) ?_
          refine PZ_callVi (pc' := 98) (y := yX4_takeChoice) (M' := mX4_takeChoice) (d' := 3) (As := [.int 8, .int 4]) (st := []) (b := 200) (ci := 4) (nn := 0) me_200 rfl tw_749 tw_11 (pw_dk dc_X4_readMan 52 rfl) rfl Y_X4_takeChoice tw_747 rfl (by decide) (Nat.le_of_ble_eq_true rfl) (t_X4_takeChoice 8 4 σ_18 _ ?_)
          obtain ⟨⟨v_24, σ_23⟩, e_25, h⟩ := wp_bind2 h
          refine ⟨(v_24, σ_23), e_25, _, rfl, fun hn_22 => ?_⟩
          show PZ alC mX4_readMan (4) Q 98 [(2, .int v_19), (1, .int v_7), (0, .ref 200)] [.int v_24] σ_23
          refine PW_sub (lv' := [(0, .ref 200), (1, .int v_7), (2, .int v_19)]) [2, 1, 0] rfl ?_
          exact b_X4_readMan_98 v_7 v_19 v_24 σ_23 h
        · rw [if_pos c_21] at h
          refine PW_iconst (pc' := 88) (v := (-1 : Int32)) (pw_dk dc_X4_readMan 47 rfl) rfl (by decide) ?_
          refine PW_goto (tgt := 98) (pw_dk dc_X4_readMan 48 rfl) (by decide) ?_
          refine PW_sub (lv' := [(0, .ref 200), (1, .int v_7), (2, .int v_19)]) [2, 1, 0] rfl ?_
          exact b_X4_readMan_98 v_7 v_19 (-1 : Int32) σ_18 h
      · rw [if_neg c_13] at h
        refine PW_aload_n (pc' := 52) (q := 1) (pw_dk dc_X4_readMan 27 rfl) rfl rfl rfl ?_
        refine PW_getR (pc' := 55) (id := 200) (ci := 4) (nn := 0) (C0 := RX4) (T := TX4) (N := 6) (j := 0) (r := 500) (pw_dk dc_X4_readMan 28 rfl) rfl me_200 rfl pi_4 (by decide) fk_4_0 tw_408 (rfl) (by decide) ?_
        refine PW_iconst (pc' := 56) (v := 3) (pw_dk dc_X4_readMan 29 rfl) rfl (by decide) ?_
        refine PZ_callVi (pc' := 59) (y := yX7_refuse) (M' := mX7_refuse) (d' := 0) (As := [.int 3]) (st := []) (b := 500) (ci := 7) (nn := 0) me_500 rfl tw_709 tw_710 (pw_dk dc_X4_readMan 30 rfl) rfl Y_X7_refuse tw_708 rfl (by decide) (Nat.le_of_ble_eq_true rfl) (t_X7_refuse 3 σ_6 _ ?_)
        obtain ⟨⟨v_28, σ_27⟩, e_29, h⟩ := wp_bind2 h
        refine ⟨(v_28, σ_27), e_29, _, rfl, fun hn_26 => ?_⟩
        show PZ alC mX4_readMan (4) Q 59 [(1, .int v_7), (0, .ref 200)] [.int v_28] σ_27
        have z := wp_some h
        exact PZ_iret (ty := .boolean) (pw_dk dc_X4_readMan 31 rfl) rfl (hn_26 _ _ rfl rfl) z
    · rw [if_pos c_9] at h
      refine PW_iconst (pc' := 38) (v := 0) (pw_dk dc_X4_readMan 19 rfl) rfl (by decide) ?_
      have z := wp_some h
      exact PZ_iret (ty := .boolean) (pw_dk dc_X4_readMan 20 rfl) rfl (by decide) z
  · rw [if_neg c_1] at h
    refine PW_aload_n (pc' := 12) (q := 0) (pw_dk dc_X4_readMan 5 rfl) rfl rfl rfl ?_
    refine PW_getR (pc' := 15) (id := 200) (ci := 4) (nn := 0) (C0 := RX4) (T := TX4) (N := 6) (j := 0) (r := 500) (pw_dk dc_X4_readMan 6 rfl) rfl me_200 rfl pi_4 (by decide) fk_4_0 tw_408 (rfl) (by decide) ?_
    refine PW_iconst (pc' := 16) (v := 2) (pw_dk dc_X4_readMan 7 rfl) rfl (by decide) ?_
    refine PZ_callVi (pc' := 19) (y := yX7_refuse) (M' := mX7_refuse) (d' := 0) (As := [.int 2]) (st := []) (b := 500) (ci := 7) (nn := 0) me_500 rfl tw_709 tw_710 (pw_dk dc_X4_readMan 8 rfl) rfl Y_X7_refuse tw_708 rfl (by decide) (Nat.le_of_ble_eq_true rfl) (t_X7_refuse 2 σ _ ?_)
    obtain ⟨⟨v_32, σ_31⟩, e_33, h⟩ := wp_bind2 h
    refine ⟨(v_32, σ_31), e_33, _, rfl, fun hn_30 => ?_⟩
    show PZ alC mX4_readMan (4) Q 19 [(0, .ref 200)] [.int v_32] σ_31
    have z := wp_some h
    exact PZ_iret (ty := .boolean) (pw_dk dc_X4_readMan 9 rfl) rfl (hn_30 _ _ rfl rfl) z
def f_X4_readSeed  (σ : zS) : Option (Int32 × zS) := 
  if (σ.1 200 5) = 0 then
    lt (wI σ 200 5 1) fun σ_2 =>
    (f_X7_advance σ_2).bind fun σ_5 =>
    b2 (f_X4_takeNumber 0 99999 σ_5) fun v_9 σ_8 =>
    if v_9 = (-1 : Int32) then
      some (0, σ_8)
    else
      some (1, σ_8)
  else
    b2 (f_X7_refuse 3 σ) fun v_14 σ_13 =>
    some (v_14, σ_13)
theorem t_X4_readSeed (σ : zS) (Q : Option Value → zS → Prop) (h : wpO (f_X4_readSeed σ) (fun a => Q (some (.int a.1)) a.2)) : PK alC yX4_readSeed mX4_readSeed (4) [.ref 200] σ Q := by
  refine PC_ofF (by decide +kernel) rfl rfl (Nat.le_of_ble_eq_true rfl) ?_
  show PZ alC mX4_readSeed (4) Q 0 [(0, .ref 200)] [] σ
  unfold f_X4_readSeed at h
  refine PW_aload_n (pc' := 1) (q := 0) (pw_dk dc_X4_readSeed 0 rfl) rfl rfl rfl ?_
  refine PZ_getI (pc' := 4) (id := 200) (ci := 4) (nn := 0) (C0 := RX4) (T := TX4) (N := 6) (j := 5) (pw_dk dc_X4_readSeed 1 rfl) rfl me_200 rfl pi_4 (by decide) fk_4_5 tw_415 ?_
  refine PW_if_eq (pc' := 7) (tgt := 16) (pw_dk dc_X4_readSeed 2 rfl) rfl (by decide) (fun c_1 => ?_) (fun c_1 => ?_)
  · rw [if_pos c_1] at h
    refine PW_aload_n (pc' := 17) (q := 0) (pw_dk dc_X4_readSeed 8 rfl) rfl rfl rfl ?_
    refine PW_iconst (pc' := 18) (v := 1) (pw_dk dc_X4_readSeed 9 rfl) rfl (by decide) ?_
    obtain ⟨σ_2, e_3, h⟩ := lt_x h
    refine PZ_putX (pc' := 21) (σ' := σ_2) (id := 200) (ci := 4) (nn := 0) (C0 := RX4) (T := TX4) (N := 6) (j := 5) (ty := tyX4 5) (pw_dk dc_X4_readSeed 10 rfl) rfl me_200 rfl pi_4 tyX4_ok nmX4 (by decide) fk_4_5 tw_415 rfl (tyX4_ok 5 (by decide)) (by first | rfl | decide) (by first | rfl | decide) e_3 ?_
    refine PW_aload_n (pc' := 22) (q := 0) (pw_dk dc_X4_readSeed 11 rfl) rfl rfl rfl ?_
    refine PW_getR (pc' := 25) (id := 200) (ci := 4) (nn := 0) (C0 := RX4) (T := TX4) (N := 6) (j := 0) (r := 500) (pw_dk dc_X4_readSeed 12 rfl) rfl me_200 rfl pi_4 (by decide) fk_4_0 tw_408 (rfl) (by decide) ?_
    refine PZ_callVv (pc' := 28) (y := yX7_advance) (M' := mX7_advance) (d' := 2) (As := []) (st := []) (b := 500) (ci := 7) (nn := 0) me_500 rfl tw_674 tw_675 (pw_dk dc_X4_readSeed 13 rfl) rfl Y_X7_advance tw_712 rfl (by decide) (Nat.le_of_ble_eq_true rfl) (t_X7_advance σ_2 _ ?_)
    obtain ⟨σ_5, e_6, h⟩ := wp_bind h
    refine ⟨σ_5, e_6, rfl, fun hn_4 => ?_⟩
    show PZ alC mX4_readSeed (4) Q 28 [(0, .ref 200)] [] σ_5
    refine PW_aload_n (pc' := 29) (q := 0) (pw_dk dc_X4_readSeed 14 rfl) rfl rfl rfl ?_
    refine PW_iconst (pc' := 30) (v := 0) (pw_dk dc_X4_readSeed 15 rfl) rfl (by decide) ?_
    refine PW_ldc (pc' := 32) (v := 99999) (pw_dk dc_X4_readSeed 16 rfl) rfl tw_779 ?_
    refine PZ_callVi (pc' := 35) (y := yX4_takeNumber) (M' := mX4_takeNumber) (d' := 3) (As := [.int 0, .int 99999]) (st := []) (b := 200) (ci := 4) (nn := 0) me_200 rfl tw_715 tw_7 (pw_dk dc_X4_readSeed 17 rfl) rfl Y_X4_takeNumber tw_713 rfl (by decide) (Nat.le_of_ble_eq_true rfl) (t_X4_takeNumber 0 99999 σ_5 _ ?_)
    obtain ⟨⟨v_9, σ_8⟩, e_10, h⟩ := wp_bind2 h
    refine ⟨(v_9, σ_8), e_10, _, rfl, fun hn_7 => ?_⟩
    show PZ alC mX4_readSeed (4) Q 35 [(0, .ref 200)] [.int v_9] σ_8
    refine PW_iconst (pc' := 36) (v := (-1 : Int32)) (pw_dk dc_X4_readSeed 18 rfl) rfl (by decide) ?_
    refine PW_icmp_eq (pc' := 39) (tgt := 43) (pw_dk dc_X4_readSeed 19 rfl) rfl (by decide) (fun c_11 => ?_) (fun c_11 => ?_)
    · rw [if_pos c_11] at h
      refine PW_iconst (pc' := 44) (v := 0) (pw_dk dc_X4_readSeed 22 rfl) rfl (by decide) ?_
      have z := wp_some h
      exact PZ_iret (ty := .boolean) (pw_dk dc_X4_readSeed 23 rfl) rfl (by decide) z
    · rw [if_neg c_11] at h
      refine PW_iconst (pc' := 40) (v := 1) (pw_dk dc_X4_readSeed 20 rfl) rfl (by decide) ?_
      refine PW_goto (tgt := 44) (pw_dk dc_X4_readSeed 21 rfl) (by decide) ?_
      have z := wp_some h
      exact PZ_iret (ty := .boolean) (pw_dk dc_X4_readSeed 23 rfl) rfl (by decide) z
  · rw [if_neg c_1] at h
    refine PW_aload_n (pc' := 8) (q := 0) (pw_dk dc_X4_readSeed 3 rfl) rfl rfl rfl ?_
    refine PW_getR (pc' := 11) (id := 200) (ci := 4) (nn := 0) (C0 := RX4) (T := TX4) (N := 6) (j := 0) (r := 500) (pw_dk dc_X4_readSeed 4 rfl) rfl me_200 rfl pi_4 (by decide) fk_4_0 tw_408 (rfl) (by decide) ?_
    refine PW_iconst (pc' := 12) (v := 3) (pw_dk dc_X4_readSeed 5 rfl) rfl (by decide) ?_
    refine PZ_callVi (pc' := 15) (y := yX7_refuse) (M' := mX7_refuse) (d' := 0) (As := [.int 3]) (st := []) (b := 500) (ci := 7) (nn := 0) me_500 rfl tw_709 tw_710 (pw_dk dc_X4_readSeed 6 rfl) rfl Y_X7_refuse tw_708 rfl (by decide) (Nat.le_of_ble_eq_true rfl) (t_X7_refuse 3 σ _ ?_)
    obtain ⟨⟨v_14, σ_13⟩, e_15, h⟩ := wp_bind2 h
    refine ⟨(v_14, σ_13), e_15, _, rfl, fun hn_12 => ?_⟩
    show PZ alC mX4_readSeed (4) Q 15 [(0, .ref 200)] [.int v_14] σ_13
    have z := wp_some h
    exact PZ_iret (ty := .boolean) (pw_dk dc_X4_readSeed 7 rfl) rfl (hn_12 _ _ rfl rfl) z
def f_X4_readStreet_36   (σ : zS) : Option (Int32 × zS) := 
  b2 (f_X7_refuse 4 σ) fun v_3 σ_2 =>
  some (v_3, σ_2)
theorem b_X4_readStreet_36 {Q : Option Value → zS → Prop}  (σ : zS) (h : wpO (f_X4_readStreet_36 σ) (fun a => Q (some (.int a.1)) a.2)) : PZ alC mX4_readStreet (4) Q 36 [(0, .ref 200)] [] σ := by
  unfold f_X4_readStreet_36 at h
  refine PW_aload_n (pc' := 37) (q := 0) (pw_dk dc_X4_readStreet 16 rfl) rfl rfl rfl ?_
  refine PW_getR (pc' := 40) (id := 200) (ci := 4) (nn := 0) (C0 := RX4) (T := TX4) (N := 6) (j := 0) (r := 500) (pw_dk dc_X4_readStreet 17 rfl) rfl me_200 rfl pi_4 (by decide) fk_4_0 tw_408 (rfl) (by decide) ?_
  refine PW_iconst (pc' := 41) (v := 4) (pw_dk dc_X4_readStreet 18 rfl) rfl (by decide) ?_
  refine PZ_callVi (pc' := 44) (y := yX7_refuse) (M' := mX7_refuse) (d' := 0) (As := [.int 4]) (st := []) (b := 500) (ci := 7) (nn := 0) me_500 rfl tw_709 tw_710 (pw_dk dc_X4_readStreet 19 rfl) rfl Y_X7_refuse tw_708 rfl (by decide) (Nat.le_of_ble_eq_true rfl) (t_X7_refuse 4 σ _ ?_)
  obtain ⟨⟨v_3, σ_2⟩, e_4, h⟩ := wp_bind2 h
  refine ⟨(v_3, σ_2), e_4, _, rfl, fun hn_1 => ?_⟩
  show PZ alC mX4_readStreet (4) Q 44 [(0, .ref 200)] [.int v_3] σ_2
  have z := wp_some h
  exact PZ_iret (ty := .boolean) (pw_dk dc_X4_readStreet 20 rfl) rfl (hn_1 _ _ rfl rfl) z
def f_X4_readStreet  (σ : zS) : Option (Int32 × zS) := 
  if (σ.1 200 3) = 0 then
    if 0 < (σ.1 (tv (σ.2.2 1)) 1) then
      f_X4_readStreet_36 σ
    else
      if (σ.1 (tv (σ.2.2 1)) 6) ≤ 0 then
        lt (wI σ 200 3 1) fun σ_4 =>
        (f_X7_advance σ_4).bind fun σ_7 =>
        b2 (f_X4_takeNumber 2 12 σ_7) fun v_11 σ_10 =>
        if v_11 = (-1 : Int32) then
          some (0, σ_10)
        else
          lt (wI σ_10 (tv (σ_10.2.2 1)) 0 v_11) fun σ_14 =>
          some (1, σ_14)
      else
        f_X4_readStreet_36 σ
  else
    b2 (f_X7_refuse 3 σ) fun v_18 σ_17 =>
    some (v_18, σ_17)
theorem t_X4_readStreet (σ : zS) (Q : Option Value → zS → Prop) (h : wpO (f_X4_readStreet σ) (fun a => Q (some (.int a.1)) a.2)) : PK alC yX4_readStreet mX4_readStreet (4) [.ref 200] σ Q := by
  refine PC_ofF (by decide +kernel) rfl rfl (Nat.le_of_ble_eq_true rfl) ?_
  show PZ alC mX4_readStreet (4) Q 0 [(0, .ref 200)] [] σ
  unfold f_X4_readStreet at h
  refine PW_aload_n (pc' := 1) (q := 0) (pw_dk dc_X4_readStreet 0 rfl) rfl rfl rfl ?_
  refine PZ_getI (pc' := 4) (id := 200) (ci := 4) (nn := 0) (C0 := RX4) (T := TX4) (N := 6) (j := 3) (pw_dk dc_X4_readStreet 1 rfl) rfl me_200 rfl pi_4 (by decide) fk_4_3 tw_413 ?_
  refine PW_if_eq (pc' := 7) (tgt := 16) (pw_dk dc_X4_readStreet 2 rfl) rfl (by decide) (fun c_1 => ?_) (fun c_1 => ?_)
  · rw [if_pos c_1] at h
    refine PW_aload_n (pc' := 17) (q := 0) (pw_dk dc_X4_readStreet 8 rfl) rfl rfl rfl ?_
    refine PW_getR (pc' := 20) (id := 200) (ci := 4) (nn := 0) (C0 := RX4) (T := TX4) (N := 6) (j := 2) (r := tv (σ.2.2 1)) (pw_dk dc_X4_readStreet 9 rfl) rfl me_200 rfl pi_4 (by decide) fk_4_2 tw_411 (rf_M1 _) (tv0 _) ?_
    refine PZ_getI (pc' := 23) (id := (tv (σ.2.2 1))) (ci := 8) (nn := 0) (C0 := RX8) (T := TX8) (N := 18) (j := 1) (pw_dk dc_X4_readStreet 10 rfl) rfl (me_T _) rfl pi_8 (by decide) fk_8_1 tw_204 ?_
    refine PW_if_gt (pc' := 26) (tgt := 36) (pw_dk dc_X4_readStreet 11 rfl) rfl (by decide) (fun c_2 => ?_) (fun c_2 => ?_)
    · rw [if_pos c_2] at h
      exact b_X4_readStreet_36 σ h
    · rw [if_neg c_2] at h
      refine PW_aload_n (pc' := 27) (q := 0) (pw_dk dc_X4_readStreet 12 rfl) rfl rfl rfl ?_
      refine PW_getR (pc' := 30) (id := 200) (ci := 4) (nn := 0) (C0 := RX4) (T := TX4) (N := 6) (j := 2) (r := tv (σ.2.2 1)) (pw_dk dc_X4_readStreet 13 rfl) rfl me_200 rfl pi_4 (by decide) fk_4_2 tw_411 (rf_M1 _) (tv0 _) ?_
      refine PZ_getI (pc' := 33) (id := (tv (σ.2.2 1))) (ci := 8) (nn := 0) (C0 := RX8) (T := TX8) (N := 18) (j := 6) (pw_dk dc_X4_readStreet 14 rfl) rfl (me_T _) rfl pi_8 (by decide) fk_8_6 tw_216 ?_
      refine PW_if_le (pc' := 36) (tgt := 45) (pw_dk dc_X4_readStreet 15 rfl) rfl (by decide) (fun c_3 => ?_) (fun c_3 => ?_)
      · rw [if_pos c_3] at h
        refine PW_aload_n (pc' := 46) (q := 0) (pw_dk dc_X4_readStreet 21 rfl) rfl rfl rfl ?_
        refine PW_iconst (pc' := 47) (v := 1) (pw_dk dc_X4_readStreet 22 rfl) rfl (by decide) ?_
        obtain ⟨σ_4, e_5, h⟩ := lt_x h
        refine PZ_putX (pc' := 50) (σ' := σ_4) (id := 200) (ci := 4) (nn := 0) (C0 := RX4) (T := TX4) (N := 6) (j := 3) (ty := tyX4 3) (pw_dk dc_X4_readStreet 23 rfl) rfl me_200 rfl pi_4 tyX4_ok nmX4 (by decide) fk_4_3 tw_413 rfl (tyX4_ok 3 (by decide)) (by first | rfl | decide) (by first | rfl | decide) e_5 ?_
        refine PW_aload_n (pc' := 51) (q := 0) (pw_dk dc_X4_readStreet 24 rfl) rfl rfl rfl ?_
        refine PW_getR (pc' := 54) (id := 200) (ci := 4) (nn := 0) (C0 := RX4) (T := TX4) (N := 6) (j := 0) (r := 500) (pw_dk dc_X4_readStreet 25 rfl) rfl me_200 rfl pi_4 (by decide) fk_4_0 tw_408 (rfl) (by decide) ?_
        refine PZ_callVv (pc' := 57) (y := yX7_advance) (M' := mX7_advance) (d' := 2) (As := []) (st := []) (b := 500) (ci := 7) (nn := 0) me_500 rfl tw_674 tw_675 (pw_dk dc_X4_readStreet 26 rfl) rfl Y_X7_advance tw_712 rfl (by decide) (Nat.le_of_ble_eq_true rfl) (t_X7_advance σ_4 _ ?_)
        obtain ⟨σ_7, e_8, h⟩ := wp_bind h
        refine ⟨σ_7, e_8, rfl, fun hn_6 => ?_⟩
        show PZ alC mX4_readStreet (4) Q 57 [(0, .ref 200)] [] σ_7
        refine PW_aload_n (pc' := 58) (q := 0) (pw_dk dc_X4_readStreet 27 rfl) rfl rfl rfl ?_
        refine PW_iconst (pc' := 59) (v := 2) (pw_dk dc_X4_readStreet 28 rfl) rfl (by decide) ?_
        refine PW_bipush (pc' := 61) (v := 12) (pw_dk dc_X4_readStreet 29 rfl) rfl (by decide) ?_
        refine PZ_callVi (pc' := 64) (y := yX4_takeNumber) (M' := mX4_takeNumber) (d' := 3) (As := [.int 2, .int 12]) (st := []) (b := 200) (ci := 4) (nn := 0) me_200 rfl tw_715 tw_7 (pw_dk dc_X4_readStreet 30 rfl) rfl Y_X4_takeNumber tw_713 rfl (by decide) (Nat.le_of_ble_eq_true rfl) (t_X4_takeNumber 2 12 σ_7 _ ?_)
        obtain ⟨⟨v_11, σ_10⟩, e_12, h⟩ := wp_bind2 h
        refine ⟨(v_11, σ_10), e_12, _, rfl, fun hn_9 => ?_⟩
        show PZ alC mX4_readStreet (4) Q 64 [(0, .ref 200)] [.int v_11] σ_10
        refine PW_istore_n (pc' := 65) (lv' := [(1, .int v_11), (0, .ref 200)]) (pw_dk dc_X4_readStreet 31 rfl) rfl rfl (by decide) rfl ?_
        refine PW_iload_n (pc' := 66) (q := 0) (pw_dk dc_X4_readStreet 32 rfl) rfl rfl rfl ?_
        refine PW_iconst (pc' := 67) (v := (-1 : Int32)) (pw_dk dc_X4_readStreet 33 rfl) rfl (by decide) ?_
        refine PW_icmp_ne (pc' := 70) (tgt := 72) (pw_dk dc_X4_readStreet 34 rfl) rfl (by decide) (fun c_13 => ?_) (fun c_13 => ?_)
        · rw [if_neg c_13] at h
          refine PW_aload_n (pc' := 73) (q := 1) (pw_dk dc_X4_readStreet 37 rfl) rfl rfl rfl ?_
          refine PW_getR (pc' := 76) (id := 200) (ci := 4) (nn := 0) (C0 := RX4) (T := TX4) (N := 6) (j := 2) (r := tv (σ_10.2.2 1)) (pw_dk dc_X4_readStreet 38 rfl) rfl me_200 rfl pi_4 (by decide) fk_4_2 tw_411 (rf_M1 _) (tv0 _) ?_
          refine PW_iload_n (pc' := 77) (q := 0) (pw_dk dc_X4_readStreet 39 rfl) rfl rfl rfl ?_
          obtain ⟨σ_14, e_15, h⟩ := lt_x h
          refine PZ_putX (pc' := 80) (σ' := σ_14) (id := (tv (σ_10.2.2 1))) (ci := 8) (nn := 0) (C0 := RX8) (T := TX8) (N := 18) (j := 0) (ty := tyX8 0) (pw_dk dc_X4_readStreet 40 rfl) rfl (me_T _) rfl pi_8 tyX8_ok nmX8 (by decide) fk_8_0 tw_200 rfl (tyX8_ok 0 (by decide)) (by first | rfl | decide) (by first | rfl | decide) e_15 ?_
          refine PW_iconst (pc' := 81) (v := 1) (pw_dk dc_X4_readStreet 41 rfl) rfl (by decide) ?_
          have z := wp_some h
          exact PZ_iret (ty := .boolean) (pw_dk dc_X4_readStreet 42 rfl) rfl (by decide) z
        · rw [if_pos c_13] at h
          refine PW_iconst (pc' := 71) (v := 0) (pw_dk dc_X4_readStreet 35 rfl) rfl (by decide) ?_
          have z := wp_some h
          exact PZ_iret (ty := .boolean) (pw_dk dc_X4_readStreet 36 rfl) rfl (by decide) z
      · rw [if_neg c_3] at h
        exact b_X4_readStreet_36 σ h
  · rw [if_neg c_1] at h
    refine PW_aload_n (pc' := 8) (q := 0) (pw_dk dc_X4_readStreet 3 rfl) rfl rfl rfl ?_
    refine PW_getR (pc' := 11) (id := 200) (ci := 4) (nn := 0) (C0 := RX4) (T := TX4) (N := 6) (j := 0) (r := 500) (pw_dk dc_X4_readStreet 4 rfl) rfl me_200 rfl pi_4 (by decide) fk_4_0 tw_408 (rfl) (by decide) ?_
    refine PW_iconst (pc' := 12) (v := 3) (pw_dk dc_X4_readStreet 5 rfl) rfl (by decide) ?_
    refine PZ_callVi (pc' := 15) (y := yX7_refuse) (M' := mX7_refuse) (d' := 0) (As := [.int 3]) (st := []) (b := 500) (ci := 7) (nn := 0) me_500 rfl tw_709 tw_710 (pw_dk dc_X4_readStreet 6 rfl) rfl Y_X7_refuse tw_708 rfl (by decide) (Nat.le_of_ble_eq_true rfl) (t_X7_refuse 3 σ _ ?_)
    obtain ⟨⟨v_18, σ_17⟩, e_19, h⟩ := wp_bind2 h
    refine ⟨(v_18, σ_17), e_19, _, rfl, fun hn_16 => ?_⟩
    show PZ alC mX4_readStreet (4) Q 15 [(0, .ref 200)] [.int v_18] σ_17
    have z := wp_some h
    exact PZ_iret (ty := .boolean) (pw_dk dc_X4_readStreet 7 rfl) rfl (hn_16 _ _ rfl rfl) z
def f_X4_readLine_141  (x1 : Int32) (σ : zS) : Option (Int32 × zS) := 
  if x1 = 0 then
    some (0, σ)
  else
    if (f_X7_isSign 59 σ) = 0 then
      b2 (f_X7_refuse 1 σ) fun v_9 σ_8 =>
      some (v_9, σ_8)
    else
      (f_X7_advance σ).bind fun σ_5 =>
      some (1, σ_5)
theorem b_X4_readLine_141 {Q : Option Value → zS → Prop} (x1 : Int32) (σ : zS) (h : wpO (f_X4_readLine_141 x1 σ) (fun a => Q (some (.int a.1)) a.2)) : PZ alC mX4_readLine (206) Q 141 [(0, .ref 200), (1, .int x1)] [] σ := by
  unfold f_X4_readLine_141 at h
  refine PW_iload_n (pc' := 142) (q := 1) (pw_dk dc_X4_readLine 48 rfl) rfl rfl rfl ?_
  refine PW_if_ne (pc' := 145) (tgt := 147) (pw_dk dc_X4_readLine 49 rfl) rfl (by decide) (fun c_1 => ?_) (fun c_1 => ?_)
  · rw [if_neg c_1] at h
    refine PW_aload_n (pc' := 148) (q := 0) (pw_dk dc_X4_readLine 52 rfl) rfl rfl rfl ?_
    refine PW_getR (pc' := 151) (id := 200) (ci := 4) (nn := 0) (C0 := RX4) (T := TX4) (N := 6) (j := 0) (r := 500) (pw_dk dc_X4_readLine 53 rfl) rfl me_200 rfl pi_4 (by decide) fk_4_0 tw_408 (rfl) (by decide) ?_
    refine PW_bipush (pc' := 153) (v := 59) (pw_dk dc_X4_readLine 54 rfl) rfl (by decide) ?_
    refine PZ_callVi (pc' := 156) (y := yX7_isSign) (M' := mX7_isSign) (d' := 0) (As := [.int 59]) (st := []) (b := 500) (ci := 7) (nn := 0) me_500 rfl tw_831 tw_832 (pw_dk dc_X4_readLine 55 rfl) rfl Y_X7_isSign tw_854 rfl (by decide) (Nat.le_of_ble_eq_true rfl) (t_X7_isSign 59 σ _ ?_)
    refine ⟨_, rfl, fun hn_2 => ?_⟩
    show PZ alC mX4_readLine (206) Q 156 [(0, .ref 200), (1, .int x1)] [.int (f_X7_isSign 59 σ)] σ
    refine PW_if_ne (pc' := 159) (tgt := 168) (pw_dk dc_X4_readLine 56 rfl) rfl (by decide) (fun c_3 => ?_) (fun c_3 => ?_)
    · rw [if_neg c_3] at h
      refine PW_aload_n (pc' := 169) (q := 0) (pw_dk dc_X4_readLine 62 rfl) rfl rfl rfl ?_
      refine PW_getR (pc' := 172) (id := 200) (ci := 4) (nn := 0) (C0 := RX4) (T := TX4) (N := 6) (j := 0) (r := 500) (pw_dk dc_X4_readLine 63 rfl) rfl me_200 rfl pi_4 (by decide) fk_4_0 tw_408 (rfl) (by decide) ?_
      refine PZ_callVv (pc' := 175) (y := yX7_advance) (M' := mX7_advance) (d' := 2) (As := []) (st := []) (b := 500) (ci := 7) (nn := 0) me_500 rfl tw_674 tw_675 (pw_dk dc_X4_readLine 64 rfl) rfl Y_X7_advance tw_712 rfl (by decide) (Nat.le_of_ble_eq_true rfl) (t_X7_advance σ _ ?_)
      obtain ⟨σ_5, e_6, h⟩ := wp_bind h
      refine ⟨σ_5, e_6, rfl, fun hn_4 => ?_⟩
      show PZ alC mX4_readLine (206) Q 175 [(0, .ref 200), (1, .int x1)] [] σ_5
      refine PW_iconst (pc' := 176) (v := 1) (pw_dk dc_X4_readLine 65 rfl) rfl (by decide) ?_
      have z := wp_some h
      exact PZ_iret (ty := .boolean) (pw_dk dc_X4_readLine 66 rfl) rfl (by decide) z
    · rw [if_pos c_3] at h
      refine PW_aload_n (pc' := 160) (q := 0) (pw_dk dc_X4_readLine 57 rfl) rfl rfl rfl ?_
      refine PW_getR (pc' := 163) (id := 200) (ci := 4) (nn := 0) (C0 := RX4) (T := TX4) (N := 6) (j := 0) (r := 500) (pw_dk dc_X4_readLine 58 rfl) rfl me_200 rfl pi_4 (by decide) fk_4_0 tw_408 (rfl) (by decide) ?_
      refine PW_iconst (pc' := 164) (v := 1) (pw_dk dc_X4_readLine 59 rfl) rfl (by decide) ?_
      refine PZ_callVi (pc' := 167) (y := yX7_refuse) (M' := mX7_refuse) (d' := 0) (As := [.int 1]) (st := []) (b := 500) (ci := 7) (nn := 0) me_500 rfl tw_709 tw_710 (pw_dk dc_X4_readLine 60 rfl) rfl Y_X7_refuse tw_708 rfl (by decide) (Nat.le_of_ble_eq_true rfl) (t_X7_refuse 1 σ _ ?_)
      obtain ⟨⟨v_9, σ_8⟩, e_10, h⟩ := wp_bind2 h
      refine ⟨(v_9, σ_8), e_10, _, rfl, fun hn_7 => ?_⟩
      show PZ alC mX4_readLine (206) Q 167 [(0, .ref 200), (1, .int x1)] [.int v_9] σ_8
      have z := wp_some h
      exact PZ_iret (ty := .boolean) (pw_dk dc_X4_readLine 61 rfl) rfl (hn_7 _ _ rfl rfl) z
  · rw [if_pos c_1] at h
    refine PW_iconst (pc' := 146) (v := 0) (pw_dk dc_X4_readLine 50 rfl) rfl (by decide) ?_
    have z := wp_some h
    exact PZ_iret (ty := .boolean) (pw_dk dc_X4_readLine 51 rfl) rfl (by decide) z
def f_X4_readLine_22  (s0 : Int32) (σ : zS) : Option (Int32 × zS) := 
  if s0 = 0 then
    b2 (f_X4_readStreet σ) fun v_4 σ_3 =>
    f_X4_readLine_141 v_4 σ_3
  else if s0 = 1 then
    b2 (f_X4_readLand σ) fun v_9 σ_8 =>
    f_X4_readLine_141 v_9 σ_8
  else if s0 = 2 then
    b2 (f_X4_readMan σ) fun v_14 σ_13 =>
    f_X4_readLine_141 v_14 σ_13
  else if s0 = 3 then
    b2 (f_X4_readDeed σ) fun v_19 σ_18 =>
    f_X4_readLine_141 v_19 σ_18
  else if s0 = 4 then
    b2 (f_X4_readBar σ) fun v_24 σ_23 =>
    f_X4_readLine_141 v_24 σ_23
  else if s0 = 5 then
    b2 (f_X4_readFine σ) fun v_29 σ_28 =>
    f_X4_readLine_141 v_29 σ_28
  else if s0 = 6 then
    b2 (f_X4_readSeed σ) fun v_34 σ_33 =>
    f_X4_readLine_141 v_34 σ_33
  else if s0 = 7 then
    b2 (f_X4_readLaw σ) fun v_39 σ_38 =>
    f_X4_readLine_141 v_39 σ_38
  else
    b2 (f_X7_refuse 1 σ) fun v_43 σ_42 =>
    f_X4_readLine_141 v_43 σ_42
theorem b_X4_readLine_22 {Q : Option Value → zS → Prop} (s0 : Int32) (σ : zS) (h : wpO (f_X4_readLine_22 s0 σ) (fun a => Q (some (.int a.1)) a.2)) : PZ alC mX4_readLine (206) Q 22 [(0, .ref 200)] [.int s0] σ := by
  unfold f_X4_readLine_22 at h
  by_cases c_1 : s0 = 0
  · rw [if_pos c_1] at h
    refine PW_tin (tgt := 68) (pw_dk dc_X4_readLine 10 rfl) (by rw [c_1]; decide) (by rw [c_1]; decide) (by rw [c_1] <;> rfl) (by decide) ?_
    refine PW_aload_n (pc' := 69) (q := 0) (pw_dk dc_X4_readLine 11 rfl) rfl rfl rfl ?_
    refine PZ_callVi (pc' := 72) (y := yX4_readStreet) (M' := mX4_readStreet) (d' := 4) (As := []) (st := []) (b := 200) (ci := 4) (nn := 0) me_200 rfl tw_706 tw_6 (pw_dk dc_X4_readLine 12 rfl) rfl Y_X4_readStreet tw_704 rfl (by decide) (Nat.le_of_ble_eq_true rfl) (t_X4_readStreet σ _ ?_)
    obtain ⟨⟨v_4, σ_3⟩, e_5, h⟩ := wp_bind2 h
    refine ⟨(v_4, σ_3), e_5, _, rfl, fun hn_2 => ?_⟩
    show PZ alC mX4_readLine (206) Q 72 [(0, .ref 200)] [.int v_4] σ_3
    refine PW_istore_n (pc' := 73) (lv' := [(1, .int v_4), (0, .ref 200)]) (pw_dk dc_X4_readLine 13 rfl) rfl rfl (by decide) rfl ?_
    refine PW_goto (tgt := 141) (pw_dk dc_X4_readLine 14 rfl) (by decide) ?_
    refine PW_sub (lv' := [(0, .ref 200), (1, .int v_4)]) [1, 0] rfl ?_
    exact b_X4_readLine_141 v_4 σ_3 h
  · rw [if_neg c_1] at h
    by_cases c_6 : s0 = 1
    · rw [if_pos c_6] at h
      refine PW_tin (tgt := 76) (pw_dk dc_X4_readLine 10 rfl) (by rw [c_6]; decide) (by rw [c_6]; decide) (by rw [c_6] <;> rfl) (by decide) ?_
      refine PW_aload_n (pc' := 77) (q := 0) (pw_dk dc_X4_readLine 15 rfl) rfl rfl rfl ?_
      refine PZ_callVi (pc' := 80) (y := yX4_readLand) (M' := mX4_readLand) (d' := 4) (As := []) (st := []) (b := 200) (ci := 4) (nn := 0) me_200 rfl tw_719 tw_8 (pw_dk dc_X4_readLine 16 rfl) rfl Y_X4_readLand tw_717 rfl (by decide) (Nat.le_of_ble_eq_true rfl) (t_X4_readLand σ _ ?_)
      obtain ⟨⟨v_9, σ_8⟩, e_10, h⟩ := wp_bind2 h
      refine ⟨(v_9, σ_8), e_10, _, rfl, fun hn_7 => ?_⟩
      show PZ alC mX4_readLine (206) Q 80 [(0, .ref 200)] [.int v_9] σ_8
      refine PW_istore_n (pc' := 81) (lv' := [(1, .int v_9), (0, .ref 200)]) (pw_dk dc_X4_readLine 17 rfl) rfl rfl (by decide) rfl ?_
      refine PW_goto (tgt := 141) (pw_dk dc_X4_readLine 18 rfl) (by decide) ?_
      refine PW_sub (lv' := [(0, .ref 200), (1, .int v_9)]) [1, 0] rfl ?_
      exact b_X4_readLine_141 v_9 σ_8 h
    · rw [if_neg c_6] at h
      by_cases c_11 : s0 = 2
      · rw [if_pos c_11] at h
        refine PW_tin (tgt := 84) (pw_dk dc_X4_readLine 10 rfl) (by rw [c_11]; decide) (by rw [c_11]; decide) (by rw [c_11] <;> rfl) (by decide) ?_
        refine PW_aload_n (pc' := 85) (q := 0) (pw_dk dc_X4_readLine 19 rfl) rfl rfl rfl ?_
        refine PZ_callVi (pc' := 88) (y := yX4_readMan) (M' := mX4_readMan) (d' := 4) (As := []) (st := []) (b := 200) (ci := 4) (nn := 0) me_200 rfl tw_741 tw_10 (pw_dk dc_X4_readLine 20 rfl) rfl Y_X4_readMan tw_739 rfl (by decide) (Nat.le_of_ble_eq_true rfl) (t_X4_readMan σ _ ?_)
        obtain ⟨⟨v_14, σ_13⟩, e_15, h⟩ := wp_bind2 h
        refine ⟨(v_14, σ_13), e_15, _, rfl, fun hn_12 => ?_⟩
        show PZ alC mX4_readLine (206) Q 88 [(0, .ref 200)] [.int v_14] σ_13
        refine PW_istore_n (pc' := 89) (lv' := [(1, .int v_14), (0, .ref 200)]) (pw_dk dc_X4_readLine 21 rfl) rfl rfl (by decide) rfl ?_
        refine PW_goto (tgt := 141) (pw_dk dc_X4_readLine 22 rfl) (by decide) ?_
        refine PW_sub (lv' := [(0, .ref 200), (1, .int v_14)]) [1, 0] rfl ?_
        exact b_X4_readLine_141 v_14 σ_13 h
      · rw [if_neg c_11] at h
        by_cases c_16 : s0 = 3
        · rw [if_pos c_16] at h
          refine PW_tin (tgt := 92) (pw_dk dc_X4_readLine 10 rfl) (by rw [c_16]; decide) (by rw [c_16]; decide) (by rw [c_16] <;> rfl) (by decide) ?_
          refine PW_aload_n (pc' := 93) (q := 0) (pw_dk dc_X4_readLine 23 rfl) rfl rfl rfl ?_
          refine PZ_callVi (pc' := 96) (y := yX4_readDeed) (M' := mX4_readDeed) (d' := 4) (As := []) (st := []) (b := 200) (ci := 4) (nn := 0) me_200 rfl tw_761 tw_13 (pw_dk dc_X4_readLine 24 rfl) rfl Y_X4_readDeed tw_759 rfl (by decide) (Nat.le_of_ble_eq_true rfl) (t_X4_readDeed σ _ ?_)
          obtain ⟨⟨v_19, σ_18⟩, e_20, h⟩ := wp_bind2 h
          refine ⟨(v_19, σ_18), e_20, _, rfl, fun hn_17 => ?_⟩
          show PZ alC mX4_readLine (206) Q 96 [(0, .ref 200)] [.int v_19] σ_18
          refine PW_istore_n (pc' := 97) (lv' := [(1, .int v_19), (0, .ref 200)]) (pw_dk dc_X4_readLine 25 rfl) rfl rfl (by decide) rfl ?_
          refine PW_goto (tgt := 141) (pw_dk dc_X4_readLine 26 rfl) (by decide) ?_
          refine PW_sub (lv' := [(0, .ref 200), (1, .int v_19)]) [1, 0] rfl ?_
          exact b_X4_readLine_141 v_19 σ_18 h
        · rw [if_neg c_16] at h
          by_cases c_21 : s0 = 4
          · rw [if_pos c_21] at h
            refine PW_tin (tgt := 100) (pw_dk dc_X4_readLine 10 rfl) (by rw [c_21]; decide) (by rw [c_21]; decide) (by rw [c_21] <;> rfl) (by decide) ?_
            refine PW_aload_n (pc' := 101) (q := 0) (pw_dk dc_X4_readLine 27 rfl) rfl rfl rfl ?_
            refine PZ_callVi (pc' := 104) (y := yX4_readBar) (M' := mX4_readBar) (d' := 3) (As := []) (st := []) (b := 200) (ci := 4) (nn := 0) me_200 rfl tw_769 tw_14 (pw_dk dc_X4_readLine 28 rfl) rfl Y_X4_readBar tw_767 rfl (by decide) (Nat.le_of_ble_eq_true rfl) (t_X4_readBar σ _ ?_)
            obtain ⟨⟨v_24, σ_23⟩, e_25, h⟩ := wp_bind2 h
            refine ⟨(v_24, σ_23), e_25, _, rfl, fun hn_22 => ?_⟩
            show PZ alC mX4_readLine (206) Q 104 [(0, .ref 200)] [.int v_24] σ_23
            refine PW_istore_n (pc' := 105) (lv' := [(1, .int v_24), (0, .ref 200)]) (pw_dk dc_X4_readLine 29 rfl) rfl rfl (by decide) rfl ?_
            refine PW_goto (tgt := 141) (pw_dk dc_X4_readLine 30 rfl) (by decide) ?_
            refine PW_sub (lv' := [(0, .ref 200), (1, .int v_24)]) [1, 0] rfl ?_
            exact b_X4_readLine_141 v_24 σ_23 h
          · rw [if_neg c_21] at h
            by_cases c_26 : s0 = 5
            · rw [if_pos c_26] at h
              refine PW_tin (tgt := 108) (pw_dk dc_X4_readLine 10 rfl) (by rw [c_26]; decide) (by rw [c_26]; decide) (by rw [c_26] <;> rfl) (by decide) ?_
              refine PW_aload_n (pc' := 109) (q := 0) (pw_dk dc_X4_readLine 31 rfl) rfl rfl rfl ?_
              refine PZ_callVi (pc' := 112) (y := yX4_readFine) (M' := mX4_readFine) (d' := 4) (As := []) (st := []) (b := 200) (ci := 4) (nn := 0) me_200 rfl tw_773 tw_15 (pw_dk dc_X4_readLine 32 rfl) rfl Y_X4_readFine tw_771 rfl (by decide) (Nat.le_of_ble_eq_true rfl) (t_X4_readFine σ _ ?_)
              obtain ⟨⟨v_29, σ_28⟩, e_30, h⟩ := wp_bind2 h
              refine ⟨(v_29, σ_28), e_30, _, rfl, fun hn_27 => ?_⟩
              show PZ alC mX4_readLine (206) Q 112 [(0, .ref 200)] [.int v_29] σ_28
              refine PW_istore_n (pc' := 113) (lv' := [(1, .int v_29), (0, .ref 200)]) (pw_dk dc_X4_readLine 33 rfl) rfl rfl (by decide) rfl ?_
              refine PW_goto (tgt := 141) (pw_dk dc_X4_readLine 34 rfl) (by decide) ?_
              refine PW_sub (lv' := [(0, .ref 200), (1, .int v_29)]) [1, 0] rfl ?_
              exact b_X4_readLine_141 v_29 σ_28 h
            · rw [if_neg c_26] at h
              by_cases c_31 : s0 = 6
              · rw [if_pos c_31] at h
                refine PW_tin (tgt := 116) (pw_dk dc_X4_readLine 10 rfl) (by rw [c_31]; decide) (by rw [c_31]; decide) (by rw [c_31] <;> rfl) (by decide) ?_
                refine PW_aload_n (pc' := 117) (q := 0) (pw_dk dc_X4_readLine 35 rfl) rfl rfl rfl ?_
                refine PZ_callVi (pc' := 120) (y := yX4_readSeed) (M' := mX4_readSeed) (d' := 4) (As := []) (st := []) (b := 200) (ci := 4) (nn := 0) me_200 rfl tw_777 tw_16 (pw_dk dc_X4_readLine 36 rfl) rfl Y_X4_readSeed tw_775 rfl (by decide) (Nat.le_of_ble_eq_true rfl) (t_X4_readSeed σ _ ?_)
                obtain ⟨⟨v_34, σ_33⟩, e_35, h⟩ := wp_bind2 h
                refine ⟨(v_34, σ_33), e_35, _, rfl, fun hn_32 => ?_⟩
                show PZ alC mX4_readLine (206) Q 120 [(0, .ref 200)] [.int v_34] σ_33
                refine PW_istore_n (pc' := 121) (lv' := [(1, .int v_34), (0, .ref 200)]) (pw_dk dc_X4_readLine 37 rfl) rfl rfl (by decide) rfl ?_
                refine PW_goto (tgt := 141) (pw_dk dc_X4_readLine 38 rfl) (by decide) ?_
                refine PW_sub (lv' := [(0, .ref 200), (1, .int v_34)]) [1, 0] rfl ?_
                exact b_X4_readLine_141 v_34 σ_33 h
              · rw [if_neg c_31] at h
                by_cases c_36 : s0 = 7
                · rw [if_pos c_36] at h
                  refine PW_tin (tgt := 124) (pw_dk dc_X4_readLine 10 rfl) (by rw [c_36]; decide) (by rw [c_36]; decide) (by rw [c_36] <;> rfl) (by decide) ?_
                  refine PW_aload_n (pc' := 125) (q := 0) (pw_dk dc_X4_readLine 39 rfl) rfl rfl rfl ?_
                  refine PZ_callVi (pc' := 128) (y := yX4_readLaw) (M' := mX4_readLaw) (d' := 205) (As := []) (st := []) (b := 200) (ci := 4) (nn := 0) me_200 rfl tw_782 tw_17 (pw_dk dc_X4_readLine 40 rfl) rfl Y_X4_readLaw tw_780 rfl (by decide) (Nat.le_of_ble_eq_true rfl) (t_X4_readLaw σ _ ?_)
                  obtain ⟨⟨v_39, σ_38⟩, e_40, h⟩ := wp_bind2 h
                  refine ⟨(v_39, σ_38), e_40, _, rfl, fun hn_37 => ?_⟩
                  show PZ alC mX4_readLine (206) Q 128 [(0, .ref 200)] [.int v_39] σ_38
                  refine PW_istore_n (pc' := 129) (lv' := [(1, .int v_39), (0, .ref 200)]) (pw_dk dc_X4_readLine 41 rfl) rfl rfl (by decide) rfl ?_
                  refine PW_goto (tgt := 141) (pw_dk dc_X4_readLine 42 rfl) (by decide) ?_
                  refine PW_sub (lv' := [(0, .ref 200), (1, .int v_39)]) [1, 0] rfl ?_
                  exact b_X4_readLine_141 v_39 σ_38 h
                · rw [if_neg c_36] at h
                  have kc_1 := pw_ne c_1 (show (0 : Int32).toInt = 0 by decide)
                  have kc_6 := pw_ne c_6 (show (1 : Int32).toInt = 1 by decide)
                  have kc_11 := pw_ne c_11 (show (2 : Int32).toInt = 2 by decide)
                  have kc_16 := pw_ne c_16 (show (3 : Int32).toInt = 3 by decide)
                  have kc_21 := pw_ne c_21 (show (4 : Int32).toInt = 4 by decide)
                  have kc_26 := pw_ne c_26 (show (5 : Int32).toInt = 5 by decide)
                  have kc_31 := pw_ne c_31 (show (6 : Int32).toInt = 6 by decide)
                  have kc_36 := pw_ne c_36 (show (7 : Int32).toInt = 7 by decide)
                  refine PW_tout (tgt := 132) (pw_dk dc_X4_readLine 10 rfl) (by omega) (by decide) ?_
                  refine PW_aload_n (pc' := 133) (q := 0) (pw_dk dc_X4_readLine 43 rfl) rfl rfl rfl ?_
                  refine PW_getR (pc' := 136) (id := 200) (ci := 4) (nn := 0) (C0 := RX4) (T := TX4) (N := 6) (j := 0) (r := 500) (pw_dk dc_X4_readLine 44 rfl) rfl me_200 rfl pi_4 (by decide) fk_4_0 tw_408 (rfl) (by decide) ?_
                  refine PW_iconst (pc' := 137) (v := 1) (pw_dk dc_X4_readLine 45 rfl) rfl (by decide) ?_
                  refine PZ_callVi (pc' := 140) (y := yX7_refuse) (M' := mX7_refuse) (d' := 0) (As := [.int 1]) (st := []) (b := 500) (ci := 7) (nn := 0) me_500 rfl tw_709 tw_710 (pw_dk dc_X4_readLine 46 rfl) rfl Y_X7_refuse tw_708 rfl (by decide) (Nat.le_of_ble_eq_true rfl) (t_X7_refuse 1 σ _ ?_)
                  obtain ⟨⟨v_43, σ_42⟩, e_44, h⟩ := wp_bind2 h
                  refine ⟨(v_43, σ_42), e_44, _, rfl, fun hn_41 => ?_⟩
                  show PZ alC mX4_readLine (206) Q 140 [(0, .ref 200)] [.int v_43] σ_42
                  refine PW_istore_n (pc' := 141) (lv' := [(1, .int v_43), (0, .ref 200)]) (pw_dk dc_X4_readLine 47 rfl) rfl rfl (by decide) rfl ?_
                  refine PW_sub (lv' := [(0, .ref 200), (1, .int v_43)]) [1, 0] rfl ?_
                  exact b_X4_readLine_141 v_43 σ_42 h
def f_X4_readLine  (σ : zS) : Option (Int32 × zS) := 
  if (σ.1 500 4) = 1 then
    f_X4_readLine_22 (σ.1 500 6) σ
  else
    f_X4_readLine_22 (-1 : Int32) σ
theorem t_X4_readLine (σ : zS) (Q : Option Value → zS → Prop) (h : wpO (f_X4_readLine σ) (fun a => Q (some (.int a.1)) a.2)) : PK alC yX4_readLine mX4_readLine (206) [.ref 200] σ Q := by
  refine PC_ofF (by decide +kernel) rfl rfl (Nat.le_of_ble_eq_true rfl) ?_
  show PZ alC mX4_readLine (206) Q 0 [(0, .ref 200)] [] σ
  unfold f_X4_readLine at h
  refine PW_aload_n (pc' := 1) (q := 0) (pw_dk dc_X4_readLine 0 rfl) rfl rfl rfl ?_
  refine PW_getR (pc' := 4) (id := 200) (ci := 4) (nn := 0) (C0 := RX4) (T := TX4) (N := 6) (j := 0) (r := 500) (pw_dk dc_X4_readLine 1 rfl) rfl me_200 rfl pi_4 (by decide) fk_4_0 tw_408 (rfl) (by decide) ?_
  refine PZ_getI (pc' := 7) (id := 500) (ci := 7) (nn := 0) (C0 := RX7) (T := TX7) (N := 10) (j := 4) (pw_dk dc_X4_readLine 2 rfl) rfl me_500 rfl pi_7 (by decide) fk_7_4 tw_360 ?_
  refine PW_iconst (pc' := 8) (v := 1) (pw_dk dc_X4_readLine 3 rfl) rfl (by decide) ?_
  refine PW_icmp_ne (pc' := 11) (tgt := 21) (pw_dk dc_X4_readLine 4 rfl) rfl (by decide) (fun c_1 => ?_) (fun c_1 => ?_)
  · rw [if_neg c_1] at h
    refine PW_iconst (pc' := 22) (v := (-1 : Int32)) (pw_dk dc_X4_readLine 9 rfl) rfl (by decide) ?_
    exact b_X4_readLine_22 (-1 : Int32) σ h
  · rw [if_pos c_1] at h
    refine PW_aload_n (pc' := 12) (q := 0) (pw_dk dc_X4_readLine 5 rfl) rfl rfl rfl ?_
    refine PW_getR (pc' := 15) (id := 200) (ci := 4) (nn := 0) (C0 := RX4) (T := TX4) (N := 6) (j := 0) (r := 500) (pw_dk dc_X4_readLine 6 rfl) rfl me_200 rfl pi_4 (by decide) fk_4_0 tw_408 (rfl) (by decide) ?_
    refine PZ_getI (pc' := 18) (id := 500) (ci := 7) (nn := 0) (C0 := RX7) (T := TX7) (N := 10) (j := 6) (pw_dk dc_X4_readLine 7 rfl) rfl me_500 rfl pi_7 (by decide) fk_7_6 tw_364 ?_
    refine PW_goto (tgt := 22) (pw_dk dc_X4_readLine 8 rfl) (by decide) ?_
    exact b_X4_readLine_22 (σ.1 500 6) σ h
def f_X7_begin (x1 : Int32) (σ : zS) : Option zS := 
  lt (wI σ 500 2 (f_J9_min_7cf53 x1 (nI 700) σ)) fun σ_2 =>
  lt (wI σ_2 500 3 0) fun σ_4 =>
  lt (wI σ_4 500 8 0) fun σ_6 =>
  lt (wI σ_6 500 9 (-1 : Int32)) fun σ_8 =>
  (f_X7_advance σ_8).bind fun σ_11 =>
  some σ_11
theorem t_X7_begin (x1 : Int32) (σ : zS) (Q : Option Value → zS → Prop) (h : wpO (f_X7_begin x1 σ) (fun s => Q none s)) : PK alC yX7_begin mX7_begin (3) [.ref 500, .int x1] σ Q := by
  refine PC_ofF (by decide +kernel) rfl rfl (Nat.le_of_ble_eq_true rfl) ?_
  show PZ alC mX7_begin (3) Q 0 [(0, .ref 500), (1, .int x1)] [] σ
  unfold f_X7_begin at h
  refine PW_aload_n (pc' := 1) (q := 0) (pw_dk dc_X7_begin 0 rfl) rfl rfl rfl ?_
  refine PW_iload_n (pc' := 2) (q := 1) (pw_dk dc_X7_begin 1 rfl) rfl rfl rfl ?_
  refine PW_aload_n (pc' := 3) (q := 0) (pw_dk dc_X7_begin 2 rfl) rfl rfl rfl ?_
  refine PW_getR (pc' := 6) (id := 500) (ci := 7) (nn := 0) (C0 := RX7) (T := TX7) (N := 10) (j := 0) (r := 101) (pw_dk dc_X7_begin 3 rfl) rfl me_500 rfl pi_7 (by decide) fk_7_0 tw_355 (rfl) (by decide) ?_
  refine PW_alen13 (pc' := 7) (nn := 700) (pw_dk dc_X7_begin 4 rfl) rfl me_101 ?_
  refine PZ_callSi (pc' := 10) (y := yJ9_min_7cf53) (M' := mJ9_min_7cf53) (d' := 0) (As := [.int x1, .int (nI 700)]) (st := [.ref 500]) tw_671 (pw_dk dc_X7_begin 5 rfl) rfl Y_J9_min_7cf53 tw_670 rfl (by decide) (Nat.le_of_ble_eq_true rfl) (t_J9_min_7cf53 alC x1 (nI 700) σ _ ?_)
  refine ⟨_, rfl, fun hn_1 => ?_⟩
  show PZ alC mX7_begin (3) Q 10 [(0, .ref 500), (1, .int x1)] [.int (f_J9_min_7cf53 x1 (nI 700) σ), .ref 500] σ
  obtain ⟨σ_2, e_3, h⟩ := lt_x h
  refine PZ_putX (pc' := 13) (σ' := σ_2) (id := 500) (ci := 7) (nn := 0) (C0 := RX7) (T := TX7) (N := 10) (j := 2) (ty := tyX7 2) (pw_dk dc_X7_begin 6 rfl) rfl me_500 rfl pi_7 tyX7_ok nmX7 (by decide) fk_7_2 tw_357 rfl (tyX7_ok 2 (by decide)) (by first | rfl | decide) (by first | rfl | decide) e_3 ?_
  refine PW_aload_n (pc' := 14) (q := 0) (pw_dk dc_X7_begin 7 rfl) rfl rfl rfl ?_
  refine PW_iconst (pc' := 15) (v := 0) (pw_dk dc_X7_begin 8 rfl) rfl (by decide) ?_
  obtain ⟨σ_4, e_5, h⟩ := lt_x h
  refine PZ_putX (pc' := 18) (σ' := σ_4) (id := 500) (ci := 7) (nn := 0) (C0 := RX7) (T := TX7) (N := 10) (j := 3) (ty := tyX7 3) (pw_dk dc_X7_begin 9 rfl) rfl me_500 rfl pi_7 tyX7_ok nmX7 (by decide) fk_7_3 tw_358 rfl (tyX7_ok 3 (by decide)) (by first | rfl | decide) (by first | rfl | decide) e_5 ?_
  refine PW_aload_n (pc' := 19) (q := 0) (pw_dk dc_X7_begin 10 rfl) rfl rfl rfl ?_
  refine PW_iconst (pc' := 20) (v := 0) (pw_dk dc_X7_begin 11 rfl) rfl (by decide) ?_
  obtain ⟨σ_6, e_7, h⟩ := lt_x h
  refine PZ_putX (pc' := 23) (σ' := σ_6) (id := 500) (ci := 7) (nn := 0) (C0 := RX7) (T := TX7) (N := 10) (j := 8) (ty := tyX7 8) (pw_dk dc_X7_begin 12 rfl) rfl me_500 rfl pi_7 tyX7_ok nmX7 (by decide) fk_7_8 tw_368 rfl (tyX7_ok 8 (by decide)) (by first | rfl | decide) (by first | rfl | decide) e_7 ?_
  refine PW_aload_n (pc' := 24) (q := 0) (pw_dk dc_X7_begin 13 rfl) rfl rfl rfl ?_
  refine PW_iconst (pc' := 25) (v := (-1 : Int32)) (pw_dk dc_X7_begin 14 rfl) rfl (by decide) ?_
  obtain ⟨σ_8, e_9, h⟩ := lt_x h
  refine PZ_putX (pc' := 28) (σ' := σ_8) (id := 500) (ci := 7) (nn := 0) (C0 := RX7) (T := TX7) (N := 10) (j := 9) (ty := tyX7 9) (pw_dk dc_X7_begin 15 rfl) rfl me_500 rfl pi_7 tyX7_ok nmX7 (by decide) fk_7_9 tw_370 rfl (tyX7_ok 9 (by decide)) (by first | rfl | decide) (by first | rfl | decide) e_9 ?_
  refine PW_aload_n (pc' := 29) (q := 0) (pw_dk dc_X7_begin 16 rfl) rfl rfl rfl ?_
  refine PZ_callVv (pc' := 32) (y := yX7_advance) (M' := mX7_advance) (d' := 2) (As := []) (st := []) (b := 500) (ci := 7) (nn := 0) me_500 rfl tw_674 tw_675 (pw_dk dc_X7_begin 17 rfl) rfl Y_X7_advance tw_673 rfl (by decide) (Nat.le_of_ble_eq_true rfl) (t_X7_advance σ_8 _ ?_)
  obtain ⟨σ_11, e_12, h⟩ := wp_bind h
  refine ⟨σ_11, e_12, rfl, fun hn_10 => ?_⟩
  show PZ alC mX7_begin (3) Q 32 [(0, .ref 500), (1, .int x1)] [] σ_11
  have z := wp_some h
  exact PZ_vret (pw_dk dc_X7_begin 18 rfl) rfl z
def f_X8_clear (b : Bool) (σ : zS) : Option zS := 
  lt (wI σ (tv b) 0 8) fun σ_1 =>
  lt (wI σ_1 (tv b) 1 0) fun σ_3 =>
  lt (wI σ_3 (tv b) 5 0) fun σ_5 =>
  lt (wI σ_5 (tv b) 6 0) fun σ_7 =>
  lt (wI σ_7 (tv b) 11 0) fun σ_9 =>
  lt (wI σ_9 (tv b) 16 5) fun σ_11 =>
  (f_J7_fill_53178 (tv b + 4) 12 9 σ_11).bind fun σ_14 =>
  (f_J7_fill_53178 (tv b + 5) 5 0 σ_14).bind fun σ_17 =>
  (f_X2_clear b σ_17).bind fun σ_20 =>
  some σ_20
theorem t_X8_clear (b : Bool) (σ : zS) (Q : Option Value → zS → Prop) (h : wpO (f_X8_clear b σ) (fun s => Q none s)) : PK alC yX8_clear mX8_clear (2) [.ref (tv b)] σ Q := by
  refine PC_ofF (by decide +kernel) rfl rfl (Nat.le_of_ble_eq_true rfl) ?_
  show PZ alC mX8_clear (2) Q 0 [(0, .ref (tv b))] [] σ
  unfold f_X8_clear at h
  refine PW_aload_n (pc' := 1) (q := 0) (pw_dk dc_X8_clear 0 rfl) rfl rfl rfl ?_
  refine PW_bipush (pc' := 3) (v := 8) (pw_dk dc_X8_clear 1 rfl) rfl (by decide) ?_
  obtain ⟨σ_1, e_2, h⟩ := lt_x h
  refine PZ_putX (pc' := 6) (σ' := σ_1) (id := (tv b)) (ci := 8) (nn := 0) (C0 := RX8) (T := TX8) (N := 18) (j := 0) (ty := tyX8 0) (pw_dk dc_X8_clear 2 rfl) rfl (me_T b) rfl pi_8 tyX8_ok nmX8 (by decide) fk_8_0 tw_199 rfl (tyX8_ok 0 (by decide)) (by first | rfl | decide) (by first | rfl | decide) e_2 ?_
  refine PW_aload_n (pc' := 7) (q := 0) (pw_dk dc_X8_clear 3 rfl) rfl rfl rfl ?_
  refine PW_iconst (pc' := 8) (v := 0) (pw_dk dc_X8_clear 4 rfl) rfl (by decide) ?_
  obtain ⟨σ_3, e_4, h⟩ := lt_x h
  refine PZ_putX (pc' := 11) (σ' := σ_3) (id := (tv b)) (ci := 8) (nn := 0) (C0 := RX8) (T := TX8) (N := 18) (j := 1) (ty := tyX8 1) (pw_dk dc_X8_clear 5 rfl) rfl (me_T b) rfl pi_8 tyX8_ok nmX8 (by decide) fk_8_1 tw_203 rfl (tyX8_ok 1 (by decide)) (by first | rfl | decide) (by first | rfl | decide) e_4 ?_
  refine PW_aload_n (pc' := 12) (q := 0) (pw_dk dc_X8_clear 6 rfl) rfl rfl rfl ?_
  refine PW_iconst (pc' := 13) (v := 0) (pw_dk dc_X8_clear 7 rfl) rfl (by decide) ?_
  obtain ⟨σ_5, e_6, h⟩ := lt_x h
  refine PZ_putX (pc' := 16) (σ' := σ_5) (id := (tv b)) (ci := 8) (nn := 0) (C0 := RX8) (T := TX8) (N := 18) (j := 5) (ty := tyX8 5) (pw_dk dc_X8_clear 8 rfl) rfl (me_T b) rfl pi_8 tyX8_ok nmX8 (by decide) fk_8_5 tw_212 rfl (tyX8_ok 5 (by decide)) (by first | rfl | decide) (by first | rfl | decide) e_6 ?_
  refine PW_aload_n (pc' := 17) (q := 0) (pw_dk dc_X8_clear 9 rfl) rfl rfl rfl ?_
  refine PW_iconst (pc' := 18) (v := 0) (pw_dk dc_X8_clear 10 rfl) rfl (by decide) ?_
  obtain ⟨σ_7, e_8, h⟩ := lt_x h
  refine PZ_putX (pc' := 21) (σ' := σ_7) (id := (tv b)) (ci := 8) (nn := 0) (C0 := RX8) (T := TX8) (N := 18) (j := 6) (ty := tyX8 6) (pw_dk dc_X8_clear 11 rfl) rfl (me_T b) rfl pi_8 tyX8_ok nmX8 (by decide) fk_8_6 tw_215 rfl (tyX8_ok 6 (by decide)) (by first | rfl | decide) (by first | rfl | decide) e_8 ?_
  refine PW_aload_n (pc' := 22) (q := 0) (pw_dk dc_X8_clear 12 rfl) rfl rfl rfl ?_
  refine PW_iconst (pc' := 23) (v := 0) (pw_dk dc_X8_clear 13 rfl) rfl (by decide) ?_
  obtain ⟨σ_9, e_10, h⟩ := lt_x h
  refine PZ_putX (pc' := 26) (σ' := σ_9) (id := (tv b)) (ci := 8) (nn := 0) (C0 := RX8) (T := TX8) (N := 18) (j := 11) (ty := tyX8 11) (pw_dk dc_X8_clear 14 rfl) rfl (me_T b) rfl pi_8 tyX8_ok nmX8 (by decide) fk_8_11 tw_228 rfl (tyX8_ok 11 (by decide)) (by first | rfl | decide) (by first | rfl | decide) e_10 ?_
  refine PW_aload_n (pc' := 27) (q := 0) (pw_dk dc_X8_clear 15 rfl) rfl rfl rfl ?_
  refine PW_iconst (pc' := 28) (v := 5) (pw_dk dc_X8_clear 16 rfl) rfl (by decide) ?_
  obtain ⟨σ_11, e_12, h⟩ := lt_x h
  refine PZ_putX (pc' := 31) (σ' := σ_11) (id := (tv b)) (ci := 8) (nn := 0) (C0 := RX8) (T := TX8) (N := 18) (j := 16) (ty := tyX8 16) (pw_dk dc_X8_clear 17 rfl) rfl (me_T b) rfl pi_8 tyX8_ok nmX8 (by decide) fk_8_16 tw_244 rfl (tyX8_ok 16 (by decide)) (by first | rfl | decide) (by first | rfl | decide) e_12 ?_
  refine PW_aload_n (pc' := 32) (q := 0) (pw_dk dc_X8_clear 18 rfl) rfl rfl rfl ?_
  refine PW_getR (pc' := 35) (id := (tv b)) (ci := 8) (nn := 0) (C0 := RX8) (T := TX8) (N := 18) (j := 3) (r := tv b + 4) (pw_dk dc_X8_clear 19 rfl) rfl (me_T b) rfl pi_8 (by decide) fk_8_3 tw_207 (rf_T3 _ _) (su0 _ _) ?_
  refine PW_bipush (pc' := 37) (v := 9) (pw_dk dc_X8_clear 20 rfl) rfl (by decide) ?_
  refine PZ_callSv (pc' := 40) (y := yJ7_fill_53178) (M' := mJ7_fill_53178) (d' := 0) (As := [.ref (tv b + 4), .int 9]) (st := []) tw_197 (pw_dk dc_X8_clear 21 rfl) rfl Y_J7_fill_53178 tw_196 rfl (by decide) (Nat.le_of_ble_eq_true rfl) (t_J7_fill_53178 alC (tv b + 4) 12 9 (me_T3 _) σ_11 _ ?_)
  obtain ⟨σ_14, e_15, h⟩ := wp_bind h
  refine ⟨σ_14, e_15, rfl, fun hn_13 => ?_⟩
  show PZ alC mX8_clear (2) Q 40 [(0, .ref (tv b))] [] σ_14
  refine PW_aload_n (pc' := 41) (q := 0) (pw_dk dc_X8_clear 22 rfl) rfl rfl rfl ?_
  refine PW_getR (pc' := 44) (id := (tv b)) (ci := 8) (nn := 0) (C0 := RX8) (T := TX8) (N := 18) (j := 4) (r := tv b + 5) (pw_dk dc_X8_clear 23 rfl) rfl (me_T b) rfl pi_8 (by decide) fk_8_4 tw_209 (rf_T4 _ _) (su0 _ _) ?_
  refine PW_iconst (pc' := 45) (v := 0) (pw_dk dc_X8_clear 24 rfl) rfl (by decide) ?_
  refine PZ_callSv (pc' := 48) (y := yJ7_fill_53178) (M' := mJ7_fill_53178) (d' := 0) (As := [.ref (tv b + 5), .int 0]) (st := []) tw_197 (pw_dk dc_X8_clear 25 rfl) rfl Y_J7_fill_53178 tw_196 rfl (by decide) (Nat.le_of_ble_eq_true rfl) (t_J7_fill_53178 alC (tv b + 5) 5 0 (me_T4 _) σ_14 _ ?_)
  obtain ⟨σ_17, e_18, h⟩ := wp_bind h
  refine ⟨σ_17, e_18, rfl, fun hn_16 => ?_⟩
  show PZ alC mX8_clear (2) Q 48 [(0, .ref (tv b))] [] σ_17
  refine PW_aload_n (pc' := 49) (q := 0) (pw_dk dc_X8_clear 26 rfl) rfl rfl rfl ?_
  refine PW_getR (pc' := 52) (id := (tv b)) (ci := 8) (nn := 0) (C0 := RX8) (T := TX8) (N := 18) (j := 17) (r := tl b) (pw_dk dc_X8_clear 27 rfl) rfl (me_T b) rfl pi_8 (by decide) fk_8_17 tw_249 (rf_T17 _ _) (tl0 _) ?_
  refine PZ_callVv (pc' := 55) (y := yX2_clear) (M' := mX2_clear) (d' := 1) (As := []) (st := []) (b := (tl b)) (ci := 2) (nn := 0) (me_L _) rfl tw_662 tw_663 (pw_dk dc_X8_clear 28 rfl) rfl Y_X2_clear tw_661 rfl (by decide) (Nat.le_of_ble_eq_true rfl) (t_X2_clear b σ_17 _ ?_)
  obtain ⟨σ_20, e_21, h⟩ := wp_bind h
  refine ⟨σ_20, e_21, rfl, fun hn_19 => ?_⟩
  show PZ alC mX8_clear (2) Q 55 [(0, .ref (tv b))] [] σ_20
  have z := wp_some h
  exact PZ_vret (pw_dk dc_X8_clear 29 rfl) rfl z
def f_X4_readTape_32  : Nat → Int32 → Int32 → zS → Option (Int32 × zS)
  | 0, _, _, _ => none
  | n + 1, x1, x2, σ => 
    if x1 < x2 then
      some (x2, σ)
    else
      if (σ.1 500 4) = 0 then
        some (x2, σ)
      else
        b2 (f_X4_readLine σ) fun v_5 σ_4 =>
        if v_5 = 0 then
          some ((-1 : Int32), σ_4)
        else
          f_X4_readTape_32 n x1 (x2 + 1) σ_4
theorem b_X4_readTape_32 {Q : Option Value → zS → Prop} : ∀ (n : Nat) (x1 : Int32) (x2 : Int32) (σ : zS) (h : wpO (f_X4_readTape_32 n x1 x2 σ) (fun a => Q (some (.int a.1)) a.2)), PZ alC mX4_readTape (207) Q 32 [(0, .ref 200), (1, .int x1), (2, .int x2)] [] σ := by
  intro n
  induction n with
  | zero => intro x1 x2 σ h; exact wp_none h
  | succ n ih =>
    intro x1 x2 σ h
    rw [f_X4_readTape_32] at h
    refine PW_iload_n (pc' := 33) (q := 2) (pw_dk dc_X4_readTape 18 rfl) rfl rfl rfl ?_
    refine PW_iload_n (pc' := 34) (q := 1) (pw_dk dc_X4_readTape 19 rfl) rfl rfl rfl ?_
    refine PW_icmp_gt (pc' := 37) (tgt := 62) (pw_dk dc_X4_readTape 20 rfl) rfl (by decide) (fun c_1 => ?_) (fun c_1 => ?_)
    · rw [if_pos c_1] at h
      refine PW_iload_n (pc' := 63) (q := 2) (pw_dk dc_X4_readTape 32 rfl) rfl rfl rfl ?_
      have z := wp_some h
      exact PZ_iret (ty := .int) (pw_dk dc_X4_readTape 33 rfl) rfl rfl z
    · rw [if_neg c_1] at h
      refine PW_aload_n (pc' := 38) (q := 0) (pw_dk dc_X4_readTape 21 rfl) rfl rfl rfl ?_
      refine PW_getR (pc' := 41) (id := 200) (ci := 4) (nn := 0) (C0 := RX4) (T := TX4) (N := 6) (j := 0) (r := 500) (pw_dk dc_X4_readTape 22 rfl) rfl me_200 rfl pi_4 (by decide) fk_4_0 tw_408 (rfl) (by decide) ?_
      refine PZ_getI (pc' := 44) (id := 500) (ci := 7) (nn := 0) (C0 := RX7) (T := TX7) (N := 10) (j := 4) (pw_dk dc_X4_readTape 23 rfl) rfl me_500 rfl pi_7 (by decide) fk_7_4 tw_360 ?_
      refine PW_if_eq (pc' := 47) (tgt := 62) (pw_dk dc_X4_readTape 24 rfl) rfl (by decide) (fun c_2 => ?_) (fun c_2 => ?_)
      · rw [if_pos c_2] at h
        refine PW_iload_n (pc' := 63) (q := 2) (pw_dk dc_X4_readTape 32 rfl) rfl rfl rfl ?_
        have z := wp_some h
        exact PZ_iret (ty := .int) (pw_dk dc_X4_readTape 33 rfl) rfl rfl z
      · rw [if_neg c_2] at h
        refine PW_aload_n (pc' := 48) (q := 0) (pw_dk dc_X4_readTape 25 rfl) rfl rfl rfl ?_
        refine PZ_callVi (pc' := 51) (y := yX4_readLine) (M' := mX4_readLine) (d' := 206) (As := []) (st := []) (b := 200) (ci := 4) (nn := 0) me_200 rfl tw_702 tw_5 (pw_dk dc_X4_readTape 26 rfl) rfl Y_X4_readLine tw_700 rfl (by decide) (Nat.le_of_ble_eq_true rfl) (t_X4_readLine σ _ ?_)
        obtain ⟨⟨v_5, σ_4⟩, e_6, h⟩ := wp_bind2 h
        refine ⟨(v_5, σ_4), e_6, _, rfl, fun hn_3 => ?_⟩
        show PZ alC mX4_readTape (207) Q 51 [(0, .ref 200), (1, .int x1), (2, .int x2)] [.int v_5] σ_4
        refine PW_if_ne (pc' := 54) (tgt := 56) (pw_dk dc_X4_readTape 27 rfl) rfl (by decide) (fun c_7 => ?_) (fun c_7 => ?_)
        · rw [if_neg c_7] at h
          refine PW_iinc (pc' := 59) (q := 2) (v := x2 + 1) (lv' := [(2, .int (x2 + 1)), (0, .ref 200), (1, .int x1)]) (pw_dk dc_X4_readTape 30 rfl) rfl rfl rfl (by decide) rfl ?_
          refine PW_goto (tgt := 32) (pw_dk dc_X4_readTape 31 rfl) (by decide) ?_
          refine PW_sub (lv' := [(0, .ref 200), (1, .int x1), (2, .int (x2 + 1))]) [1, 2, 0] rfl ?_
          exact ih x1 (x2 + 1) σ_4 h
        · rw [if_pos c_7] at h
          refine PW_iconst (pc' := 55) (v := (-1 : Int32)) (pw_dk dc_X4_readTape 28 rfl) rfl (by decide) ?_
          have z := wp_some h
          exact PZ_iret (ty := .int) (pw_dk dc_X4_readTape 29 rfl) rfl rfl z
def f_X4_readTape (x1 : Int32) (σ : zS) : Option (Int32 × zS) := 
  (f_X8_clear (σ.2.2 1) σ).bind fun σ_2 =>
  lt (wI σ_2 200 3 0) fun σ_4 =>
  lt (wI σ_4 200 4 0) fun σ_6 =>
  lt (wI σ_6 200 5 0) fun σ_8 =>
  (f_X7_begin x1 σ_8).bind fun σ_11 =>
  f_X4_readTape_32 FU x1 0 σ_11
theorem t_X4_readTape (x1 : Int32) (σ : zS) (Q : Option Value → zS → Prop) (h : wpO (f_X4_readTape x1 σ) (fun a => Q (some (.int a.1)) a.2)) : PK alC yX4_readTape mX4_readTape (207) [.ref 200, .int x1] σ Q := by
  refine PC_ofF (by decide +kernel) rfl rfl (Nat.le_of_ble_eq_true rfl) ?_
  show PZ alC mX4_readTape (207) Q 0 [(0, .ref 200), (1, .int x1)] [] σ
  unfold f_X4_readTape at h
  refine PW_aload_n (pc' := 1) (q := 0) (pw_dk dc_X4_readTape 0 rfl) rfl rfl rfl ?_
  refine PW_getR (pc' := 4) (id := 200) (ci := 4) (nn := 0) (C0 := RX4) (T := TX4) (N := 6) (j := 2) (r := tv (σ.2.2 1)) (pw_dk dc_X4_readTape 1 rfl) rfl me_200 rfl pi_4 (by decide) fk_4_2 tw_411 (rf_M1 _) (tv0 _) ?_
  refine PZ_callVv (pc' := 7) (y := yX8_clear) (M' := mX8_clear) (d' := 2) (As := []) (st := []) (b := (tv (σ.2.2 1))) (ci := 8) (nn := 0) (me_T _) rfl tw_658 tw_659 (pw_dk dc_X4_readTape 2 rfl) rfl Y_X8_clear tw_657 rfl (by decide) (Nat.le_of_ble_eq_true rfl) (t_X8_clear (σ.2.2 1) σ _ ?_)
  obtain ⟨σ_2, e_3, h⟩ := wp_bind h
  refine ⟨σ_2, e_3, rfl, fun hn_1 => ?_⟩
  show PZ alC mX4_readTape (207) Q 7 [(0, .ref 200), (1, .int x1)] [] σ_2
  refine PW_aload_n (pc' := 8) (q := 0) (pw_dk dc_X4_readTape 3 rfl) rfl rfl rfl ?_
  refine PW_iconst (pc' := 9) (v := 0) (pw_dk dc_X4_readTape 4 rfl) rfl (by decide) ?_
  obtain ⟨σ_4, e_5, h⟩ := lt_x h
  refine PZ_putX (pc' := 12) (σ' := σ_4) (id := 200) (ci := 4) (nn := 0) (C0 := RX4) (T := TX4) (N := 6) (j := 3) (ty := tyX4 3) (pw_dk dc_X4_readTape 5 rfl) rfl me_200 rfl pi_4 tyX4_ok nmX4 (by decide) fk_4_3 tw_413 rfl (tyX4_ok 3 (by decide)) (by first | rfl | decide) (by first | rfl | decide) e_5 ?_
  refine PW_aload_n (pc' := 13) (q := 0) (pw_dk dc_X4_readTape 6 rfl) rfl rfl rfl ?_
  refine PW_iconst (pc' := 14) (v := 0) (pw_dk dc_X4_readTape 7 rfl) rfl (by decide) ?_
  obtain ⟨σ_6, e_7, h⟩ := lt_x h
  refine PZ_putX (pc' := 17) (σ' := σ_6) (id := 200) (ci := 4) (nn := 0) (C0 := RX4) (T := TX4) (N := 6) (j := 4) (ty := tyX4 4) (pw_dk dc_X4_readTape 8 rfl) rfl me_200 rfl pi_4 tyX4_ok nmX4 (by decide) fk_4_4 tw_414 rfl (tyX4_ok 4 (by decide)) (by first | rfl | decide) (by first | rfl | decide) e_7 ?_
  refine PW_aload_n (pc' := 18) (q := 0) (pw_dk dc_X4_readTape 9 rfl) rfl rfl rfl ?_
  refine PW_iconst (pc' := 19) (v := 0) (pw_dk dc_X4_readTape 10 rfl) rfl (by decide) ?_
  obtain ⟨σ_8, e_9, h⟩ := lt_x h
  refine PZ_putX (pc' := 22) (σ' := σ_8) (id := 200) (ci := 4) (nn := 0) (C0 := RX4) (T := TX4) (N := 6) (j := 5) (ty := tyX4 5) (pw_dk dc_X4_readTape 11 rfl) rfl me_200 rfl pi_4 tyX4_ok nmX4 (by decide) fk_4_5 tw_415 rfl (tyX4_ok 5 (by decide)) (by first | rfl | decide) (by first | rfl | decide) e_9 ?_
  refine PW_aload_n (pc' := 23) (q := 0) (pw_dk dc_X4_readTape 12 rfl) rfl rfl rfl ?_
  refine PW_getR (pc' := 26) (id := 200) (ci := 4) (nn := 0) (C0 := RX4) (T := TX4) (N := 6) (j := 0) (r := 500) (pw_dk dc_X4_readTape 13 rfl) rfl me_200 rfl pi_4 (by decide) fk_4_0 tw_408 (rfl) (by decide) ?_
  refine PW_iload_n (pc' := 27) (q := 1) (pw_dk dc_X4_readTape 14 rfl) rfl rfl rfl ?_
  refine PZ_callVv (pc' := 30) (y := yX7_begin) (M' := mX7_begin) (d' := 3) (As := [.int x1]) (st := []) (b := 500) (ci := 7) (nn := 0) me_500 rfl tw_667 tw_668 (pw_dk dc_X4_readTape 15 rfl) rfl Y_X7_begin tw_666 rfl (by decide) (Nat.le_of_ble_eq_true rfl) (t_X7_begin x1 σ_8 _ ?_)
  obtain ⟨σ_11, e_12, h⟩ := wp_bind h
  refine ⟨σ_11, e_12, rfl, fun hn_10 => ?_⟩
  show PZ alC mX4_readTape (207) Q 30 [(0, .ref 200), (1, .int x1)] [] σ_11
  refine PW_iconst (pc' := 31) (v := 0) (pw_dk dc_X4_readTape 16 rfl) rfl (by decide) ?_
  refine PW_istore_n (pc' := 32) (lv' := [(2, .int 0), (0, .ref 200), (1, .int x1)]) (pw_dk dc_X4_readTape 17 rfl) rfl rfl (by decide) rfl ?_
  refine PW_sub (lv' := [(0, .ref 200), (1, .int x1), (2, .int 0)]) [1, 2, 0] rfl ?_
  exact b_X4_readTape_32 FU x1 0 σ_11 h
def f_X5_handsOf (x0 : Int32) (σ : zS) : Int32 := 
  (x0 >>> ((1 : Int32) &&& 31)) &&& (1 : Int32)
theorem t_X5_handsOf (x0 : Int32) (σ : zS) (Q : Option Value → zS → Prop) (h : Q (some (.int (f_X5_handsOf x0 σ))) σ) : PK alC yX5_handsOf mX5_handsOf (0) [.int x0] σ Q := by
  refine PC_ofF (by decide +kernel) rfl rfl (Nat.le_of_ble_eq_true rfl) ?_
  show PZ alC mX5_handsOf (0) Q 0 [(0, .int x0)] [] σ
  unfold f_X5_handsOf at h
  refine PW_iload_n (pc' := 1) (q := 0) (pw_dk dc_X5_handsOf 0 rfl) rfl rfl rfl ?_
  refine PW_iconst (pc' := 2) (v := 1) (pw_dk dc_X5_handsOf 1 rfl) rfl (by decide) ?_
  refine PW_ishr (pc' := 3) (pw_dk dc_X5_handsOf 2 rfl) rfl ?_
  refine PW_iconst (pc' := 4) (v := 1) (pw_dk dc_X5_handsOf 3 rfl) rfl (by decide) ?_
  refine PW_iand (pc' := 5) (pw_dk dc_X5_handsOf 4 rfl) rfl ?_
  exact PZ_iret (ty := .int) (pw_dk dc_X5_handsOf 5 rfl) rfl rfl h
def f_X5_feetOf (x0 : Int32) (σ : zS) : Int32 := 
  x0 &&& (1 : Int32)
theorem t_X5_feetOf (x0 : Int32) (σ : zS) (Q : Option Value → zS → Prop) (h : Q (some (.int (f_X5_feetOf x0 σ))) σ) : PK alC yX5_feetOf mX5_feetOf (0) [.int x0] σ Q := by
  refine PC_ofF (by decide +kernel) rfl rfl (Nat.le_of_ble_eq_true rfl) ?_
  show PZ alC mX5_feetOf (0) Q 0 [(0, .int x0)] [] σ
  unfold f_X5_feetOf at h
  refine PW_iload_n (pc' := 1) (q := 0) (pw_dk dc_X5_feetOf 0 rfl) rfl rfl rfl ?_
  refine PW_iconst (pc' := 2) (v := 1) (pw_dk dc_X5_feetOf 1 rfl) rfl (by decide) ?_
  refine PW_iand (pc' := 3) (pw_dk dc_X5_feetOf 2 rfl) rfl ?_
  exact PZ_iret (ty := .int) (pw_dk dc_X5_feetOf 3 rfl) rfl rfl h
def f_X5_movedBy (x0 : Int32) (x1 : Int32) (x2 : Int32) (σ : zS) : Int32 := 
  if x1 = 0 then
    f_X5_facing x0 ((f_X5_faceOf x0 σ) + (1 : Int32)) σ
  else if x1 = 1 then
    f_X5_facing x0 ((f_X5_faceOf x0 σ) + (3 : Int32)) σ
  else if x1 = 2 then
    x0 ^^^ (2 : Int32)
  else if x1 = 3 then
    x0 ^^^ (1 : Int32)
  else if x1 = 4 then
    if (f_X5_cellOf x0 σ) ≤ 0 then
      (-1 : Int32)
    else
      x0 - (16 : Int32)
  else if x1 = 5 then
    if x2 ≤ ((f_X5_cellOf x0 σ) + (1 : Int32)) then
      (-1 : Int32)
    else
      x0 + (16 : Int32)
  else
    (-1 : Int32)
theorem t_X5_movedBy (x0 : Int32) (x1 : Int32) (x2 : Int32) (σ : zS) (Q : Option Value → zS → Prop) (h : Q (some (.int (f_X5_movedBy x0 x1 x2 σ))) σ) : PK alC yX5_movedBy mX5_movedBy (1) [.int x0, .int x1, .int x2] σ Q := by
  refine PC_ofF (by decide +kernel) rfl rfl (Nat.le_of_ble_eq_true rfl) ?_
  show PZ alC mX5_movedBy (1) Q 0 [(0, .int x0), (1, .int x1), (2, .int x2)] [] σ
  unfold f_X5_movedBy at h
  refine PW_iload_n (pc' := 1) (q := 1) (pw_dk dc_X5_movedBy 0 rfl) rfl rfl rfl ?_
  by_cases c_1 : x1 = 0
  · rw [if_pos c_1] at h
    refine PW_tin (tgt := 40) (pw_dk dc_X5_movedBy 1 rfl) (by rw [c_1]; decide) (by rw [c_1]; decide) (by rw [c_1] <;> rfl) (by decide) ?_
    refine PW_iload_n (pc' := 41) (q := 0) (pw_dk dc_X5_movedBy 2 rfl) rfl rfl rfl ?_
    refine PW_iload_n (pc' := 42) (q := 0) (pw_dk dc_X5_movedBy 3 rfl) rfl rfl rfl ?_
    refine PZ_callSi (pc' := 45) (y := yX5_faceOf) (M' := mX5_faceOf) (d' := 0) (As := [.int x0]) (st := [.int x0]) tw_912 (pw_dk dc_X5_movedBy 4 rfl) rfl Y_X5_faceOf tw_911 rfl (by decide) (Nat.le_of_ble_eq_true rfl) (t_X5_faceOf x0 σ _ ?_)
    refine ⟨_, rfl, fun hn_2 => ?_⟩
    show PZ alC mX5_movedBy (1) Q 45 [(0, .int x0), (1, .int x1), (2, .int x2)] [.int (f_X5_faceOf x0 σ), .int x0] σ
    refine PW_iconst (pc' := 46) (v := 1) (pw_dk dc_X5_movedBy 5 rfl) rfl (by decide) ?_
    refine PW_iadd (pc' := 47) (pw_dk dc_X5_movedBy 6 rfl) rfl ?_
    refine PZ_callSi (pc' := 50) (y := yX5_facing) (M' := mX5_facing) (d' := 0) (As := [.int x0, .int ((f_X5_faceOf x0 σ) + (1 : Int32))]) (st := []) tw_1000 (pw_dk dc_X5_movedBy 7 rfl) rfl Y_X5_facing tw_999 rfl (by decide) (Nat.le_of_ble_eq_true rfl) (t_X5_facing x0 ((f_X5_faceOf x0 σ) + (1 : Int32)) σ _ ?_)
    refine ⟨_, rfl, fun hn_3 => ?_⟩
    show PZ alC mX5_movedBy (1) Q 50 [(0, .int x0), (1, .int x1), (2, .int x2)] [.int (f_X5_facing x0 ((f_X5_faceOf x0 σ) + (1 : Int32)) σ)] σ
    exact PZ_iret (ty := .int) (pw_dk dc_X5_movedBy 8 rfl) rfl rfl h
  · rw [if_neg c_1] at h
    by_cases c_4 : x1 = 1
    · rw [if_pos c_4] at h
      refine PW_tin (tgt := 51) (pw_dk dc_X5_movedBy 1 rfl) (by rw [c_4]; decide) (by rw [c_4]; decide) (by rw [c_4] <;> rfl) (by decide) ?_
      refine PW_iload_n (pc' := 52) (q := 0) (pw_dk dc_X5_movedBy 9 rfl) rfl rfl rfl ?_
      refine PW_iload_n (pc' := 53) (q := 0) (pw_dk dc_X5_movedBy 10 rfl) rfl rfl rfl ?_
      refine PZ_callSi (pc' := 56) (y := yX5_faceOf) (M' := mX5_faceOf) (d' := 0) (As := [.int x0]) (st := [.int x0]) tw_912 (pw_dk dc_X5_movedBy 11 rfl) rfl Y_X5_faceOf tw_911 rfl (by decide) (Nat.le_of_ble_eq_true rfl) (t_X5_faceOf x0 σ _ ?_)
      refine ⟨_, rfl, fun hn_5 => ?_⟩
      show PZ alC mX5_movedBy (1) Q 56 [(0, .int x0), (1, .int x1), (2, .int x2)] [.int (f_X5_faceOf x0 σ), .int x0] σ
      refine PW_iconst (pc' := 57) (v := 3) (pw_dk dc_X5_movedBy 12 rfl) rfl (by decide) ?_
      refine PW_iadd (pc' := 58) (pw_dk dc_X5_movedBy 13 rfl) rfl ?_
      refine PZ_callSi (pc' := 61) (y := yX5_facing) (M' := mX5_facing) (d' := 0) (As := [.int x0, .int ((f_X5_faceOf x0 σ) + (3 : Int32))]) (st := []) tw_1000 (pw_dk dc_X5_movedBy 14 rfl) rfl Y_X5_facing tw_999 rfl (by decide) (Nat.le_of_ble_eq_true rfl) (t_X5_facing x0 ((f_X5_faceOf x0 σ) + (3 : Int32)) σ _ ?_)
      refine ⟨_, rfl, fun hn_6 => ?_⟩
      show PZ alC mX5_movedBy (1) Q 61 [(0, .int x0), (1, .int x1), (2, .int x2)] [.int (f_X5_facing x0 ((f_X5_faceOf x0 σ) + (3 : Int32)) σ)] σ
      exact PZ_iret (ty := .int) (pw_dk dc_X5_movedBy 15 rfl) rfl rfl h
    · rw [if_neg c_4] at h
      by_cases c_7 : x1 = 2
      · rw [if_pos c_7] at h
        refine PW_tin (tgt := 62) (pw_dk dc_X5_movedBy 1 rfl) (by rw [c_7]; decide) (by rw [c_7]; decide) (by rw [c_7] <;> rfl) (by decide) ?_
        refine PW_iload_n (pc' := 63) (q := 0) (pw_dk dc_X5_movedBy 16 rfl) rfl rfl rfl ?_
        refine PW_iconst (pc' := 64) (v := 2) (pw_dk dc_X5_movedBy 17 rfl) rfl (by decide) ?_
        refine PW_ixor (pc' := 65) (pw_dk dc_X5_movedBy 18 rfl) rfl ?_
        exact PZ_iret (ty := .int) (pw_dk dc_X5_movedBy 19 rfl) rfl rfl h
      · rw [if_neg c_7] at h
        by_cases c_8 : x1 = 3
        · rw [if_pos c_8] at h
          refine PW_tin (tgt := 66) (pw_dk dc_X5_movedBy 1 rfl) (by rw [c_8]; decide) (by rw [c_8]; decide) (by rw [c_8] <;> rfl) (by decide) ?_
          refine PW_iload_n (pc' := 67) (q := 0) (pw_dk dc_X5_movedBy 20 rfl) rfl rfl rfl ?_
          refine PW_iconst (pc' := 68) (v := 1) (pw_dk dc_X5_movedBy 21 rfl) rfl (by decide) ?_
          refine PW_ixor (pc' := 69) (pw_dk dc_X5_movedBy 22 rfl) rfl ?_
          exact PZ_iret (ty := .int) (pw_dk dc_X5_movedBy 23 rfl) rfl rfl h
        · rw [if_neg c_8] at h
          by_cases c_9 : x1 = 4
          · rw [if_pos c_9] at h
            refine PW_tin (tgt := 70) (pw_dk dc_X5_movedBy 1 rfl) (by rw [c_9]; decide) (by rw [c_9]; decide) (by rw [c_9] <;> rfl) (by decide) ?_
            refine PW_iload_n (pc' := 71) (q := 0) (pw_dk dc_X5_movedBy 24 rfl) rfl rfl rfl ?_
            refine PZ_callSi (pc' := 74) (y := yX5_cellOf) (M' := mX5_cellOf) (d' := 0) (As := [.int x0]) (st := []) tw_915 (pw_dk dc_X5_movedBy 25 rfl) rfl Y_X5_cellOf tw_914 rfl (by decide) (Nat.le_of_ble_eq_true rfl) (t_X5_cellOf x0 σ _ ?_)
            refine ⟨_, rfl, fun hn_10 => ?_⟩
            show PZ alC mX5_movedBy (1) Q 74 [(0, .int x0), (1, .int x1), (2, .int x2)] [.int (f_X5_cellOf x0 σ)] σ
            refine PW_if_le (pc' := 77) (tgt := 84) (pw_dk dc_X5_movedBy 26 rfl) rfl (by decide) (fun c_11 => ?_) (fun c_11 => ?_)
            · rw [if_pos c_11] at h
              refine PW_iconst (pc' := 85) (v := (-1 : Int32)) (pw_dk dc_X5_movedBy 31 rfl) rfl (by decide) ?_
              exact PZ_iret (ty := .int) (pw_dk dc_X5_movedBy 32 rfl) rfl rfl h
            · rw [if_neg c_11] at h
              refine PW_iload_n (pc' := 78) (q := 0) (pw_dk dc_X5_movedBy 27 rfl) rfl rfl rfl ?_
              refine PW_bipush (pc' := 80) (v := 16) (pw_dk dc_X5_movedBy 28 rfl) rfl (by decide) ?_
              refine PW_isub (pc' := 81) (pw_dk dc_X5_movedBy 29 rfl) rfl ?_
              refine PW_goto (tgt := 85) (pw_dk dc_X5_movedBy 30 rfl) (by decide) ?_
              exact PZ_iret (ty := .int) (pw_dk dc_X5_movedBy 32 rfl) rfl rfl h
          · rw [if_neg c_9] at h
            by_cases c_12 : x1 = 5
            · rw [if_pos c_12] at h
              refine PW_tin (tgt := 86) (pw_dk dc_X5_movedBy 1 rfl) (by rw [c_12]; decide) (by rw [c_12]; decide) (by rw [c_12] <;> rfl) (by decide) ?_
              refine PW_iload_n (pc' := 87) (q := 0) (pw_dk dc_X5_movedBy 33 rfl) rfl rfl rfl ?_
              refine PZ_callSi (pc' := 90) (y := yX5_cellOf) (M' := mX5_cellOf) (d' := 0) (As := [.int x0]) (st := []) tw_915 (pw_dk dc_X5_movedBy 34 rfl) rfl Y_X5_cellOf tw_914 rfl (by decide) (Nat.le_of_ble_eq_true rfl) (t_X5_cellOf x0 σ _ ?_)
              refine ⟨_, rfl, fun hn_13 => ?_⟩
              show PZ alC mX5_movedBy (1) Q 90 [(0, .int x0), (1, .int x1), (2, .int x2)] [.int (f_X5_cellOf x0 σ)] σ
              refine PW_iconst (pc' := 91) (v := 1) (pw_dk dc_X5_movedBy 35 rfl) rfl (by decide) ?_
              refine PW_iadd (pc' := 92) (pw_dk dc_X5_movedBy 36 rfl) rfl ?_
              refine PW_iload_n (pc' := 93) (q := 2) (pw_dk dc_X5_movedBy 37 rfl) rfl rfl rfl ?_
              refine PW_icmp_ge (pc' := 96) (tgt := 103) (pw_dk dc_X5_movedBy 38 rfl) rfl (by decide) (fun c_14 => ?_) (fun c_14 => ?_)
              · rw [if_pos c_14] at h
                refine PW_iconst (pc' := 104) (v := (-1 : Int32)) (pw_dk dc_X5_movedBy 43 rfl) rfl (by decide) ?_
                exact PZ_iret (ty := .int) (pw_dk dc_X5_movedBy 44 rfl) rfl rfl h
              · rw [if_neg c_14] at h
                refine PW_iload_n (pc' := 97) (q := 0) (pw_dk dc_X5_movedBy 39 rfl) rfl rfl rfl ?_
                refine PW_bipush (pc' := 99) (v := 16) (pw_dk dc_X5_movedBy 40 rfl) rfl (by decide) ?_
                refine PW_iadd (pc' := 100) (pw_dk dc_X5_movedBy 41 rfl) rfl ?_
                refine PW_goto (tgt := 104) (pw_dk dc_X5_movedBy 42 rfl) (by decide) ?_
                exact PZ_iret (ty := .int) (pw_dk dc_X5_movedBy 44 rfl) rfl rfl h
            · rw [if_neg c_12] at h
              have kc_1 := pw_ne c_1 (show (0 : Int32).toInt = 0 by decide)
              have kc_4 := pw_ne c_4 (show (1 : Int32).toInt = 1 by decide)
              have kc_7 := pw_ne c_7 (show (2 : Int32).toInt = 2 by decide)
              have kc_8 := pw_ne c_8 (show (3 : Int32).toInt = 3 by decide)
              have kc_9 := pw_ne c_9 (show (4 : Int32).toInt = 4 by decide)
              have kc_12 := pw_ne c_12 (show (5 : Int32).toInt = 5 by decide)
              refine PW_tout (tgt := 105) (pw_dk dc_X5_movedBy 1 rfl) (by omega) (by decide) ?_
              refine PW_iconst (pc' := 106) (v := (-1 : Int32)) (pw_dk dc_X5_movedBy 45 rfl) rfl (by decide) ?_
              exact PZ_iret (ty := .int) (pw_dk dc_X5_movedBy 46 rfl) rfl rfl h
def f_X5_lawfulParts_35 (r6 : Int32 → Int32 → Int32 → Int32 → Int32 → Int32 → zS → Option (Int32 × zS)) (x1 : Int32) (x2 : Int32) (x3 : Int32) (x4 : Int32) (x5 : Int32) (x6 : Int32) (σ : zS) : Option (Int32 × zS) := 
  r6 x1 x2 x3 x4 x5 (x6 + 1) σ
theorem b_X5_lawfulParts_35 {Q : Option Value → zS → Prop} (r6 : Int32 → Int32 → Int32 → Int32 → Int32 → Int32 → zS → Option (Int32 × zS)) (hr6 : ∀ (x1 : Int32) (x2 : Int32) (x3 : Int32) (x4 : Int32) (x5 : Int32) (x6 : Int32) (σ : zS), wpO (r6 x1 x2 x3 x4 x5 x6 σ) (fun a => Q (some (.int a.1)) a.2) → PZ alC mX5_lawfulParts (6) Q 6 [(0, .ref 1000), (1, .int x1), (2, .int x2), (3, .int x3), (4, .int x4), (5, .int x5), (6, .int x6)] [] σ) (x1 : Int32) (x2 : Int32) (x3 : Int32) (x4 : Int32) (x5 : Int32) (x6 : Int32) (σ : zS) (h : wpO (f_X5_lawfulParts_35 r6 x1 x2 x3 x4 x5 x6 σ) (fun a => Q (some (.int a.1)) a.2)) : PZ alC mX5_lawfulParts (6) Q 35 [(0, .ref 1000), (1, .int x1), (2, .int x2), (3, .int x3), (4, .int x4), (5, .int x5), (6, .int x6)] [] σ := by
  unfold f_X5_lawfulParts_35 at h
  refine PW_iinc (pc' := 38) (q := 6) (v := x6 + 1) (lv' := [(6, .int (x6 + 1)), (0, .ref 1000), (1, .int x1), (2, .int x2), (3, .int x3), (4, .int x4), (5, .int x5)]) (pw_dk dc_X5_lawfulParts 21 rfl) rfl rfl rfl (by decide) rfl ?_
  refine PW_goto (tgt := 6) (pw_dk dc_X5_lawfulParts 22 rfl) (by decide) ?_
  refine PW_sub (lv' := [(0, .ref 1000), (1, .int x1), (2, .int x2), (3, .int x3), (4, .int x4), (5, .int x5), (6, .int (x6 + 1))]) [1, 2, 3, 4, 5, 6, 0] rfl ?_
  exact hr6 x1 x2 x3 x4 x5 (x6 + 1) σ h
def f_X5_lawfulParts_6  : Nat → Int32 → Int32 → Int32 → Int32 → Int32 → Int32 → zS → Option (Int32 × zS)
  | 0, _, _, _, _, _, _, _ => none
  | n + 1, x1, x2, x3, x4, x5, x6, σ => 
    if 4 ≤ x6 then
      some (x5, σ)
    else
      b2 (f_X5_allows x1 x2 x6 x3 x4 σ) fun v_4 σ_3 =>
      if v_4 = 0 then
        f_X5_lawfulParts_35 (f_X5_lawfulParts_6 n) x1 x2 x3 x4 x5 x6 σ_3
      else
        lt (α := Int32) (x5 ||| ((1 : Int32) <<< (x6 &&& 31))) fun x5_7 =>
        f_X5_lawfulParts_35 (f_X5_lawfulParts_6 n) x1 x2 x3 x4 x5_7 x6 σ_3
theorem b_X5_lawfulParts_6 {Q : Option Value → zS → Prop} : ∀ (n : Nat) (x1 : Int32) (x2 : Int32) (x3 : Int32) (x4 : Int32) (x5 : Int32) (x6 : Int32) (σ : zS) (h : wpO (f_X5_lawfulParts_6 n x1 x2 x3 x4 x5 x6 σ) (fun a => Q (some (.int a.1)) a.2)), PZ alC mX5_lawfulParts (6) Q 6 [(0, .ref 1000), (1, .int x1), (2, .int x2), (3, .int x3), (4, .int x4), (5, .int x5), (6, .int x6)] [] σ := by
  intro n
  induction n with
  | zero => intro x1 x2 x3 x4 x5 x6 σ h; exact wp_none h
  | succ n ih =>
    intro x1 x2 x3 x4 x5 x6 σ h
    rw [f_X5_lawfulParts_6] at h
    refine PW_iload (pc' := 8) (q := 6) (pw_dk dc_X5_lawfulParts 4 rfl) rfl rfl ?_
    refine PW_iconst (pc' := 9) (v := 4) (pw_dk dc_X5_lawfulParts 5 rfl) rfl (by decide) ?_
    refine PW_icmp_ge (pc' := 12) (tgt := 41) (pw_dk dc_X5_lawfulParts 6 rfl) rfl (by decide) (fun c_1 => ?_) (fun c_1 => ?_)
    · rw [if_pos c_1] at h
      refine PW_iload (pc' := 43) (q := 5) (pw_dk dc_X5_lawfulParts 23 rfl) rfl rfl ?_
      have z := wp_some h
      exact PZ_iret (ty := .int) (pw_dk dc_X5_lawfulParts 24 rfl) rfl rfl z
    · rw [if_neg c_1] at h
      refine PW_aload_n (pc' := 13) (q := 0) (pw_dk dc_X5_lawfulParts 7 rfl) rfl rfl rfl ?_
      refine PW_iload_n (pc' := 14) (q := 1) (pw_dk dc_X5_lawfulParts 8 rfl) rfl rfl rfl ?_
      refine PW_iload_n (pc' := 15) (q := 2) (pw_dk dc_X5_lawfulParts 9 rfl) rfl rfl rfl ?_
      refine PW_iload (pc' := 17) (q := 6) (pw_dk dc_X5_lawfulParts 10 rfl) rfl rfl ?_
      refine PW_iload_n (pc' := 18) (q := 3) (pw_dk dc_X5_lawfulParts 11 rfl) rfl rfl rfl ?_
      refine PW_iload (pc' := 20) (q := 4) (pw_dk dc_X5_lawfulParts 12 rfl) rfl rfl ?_
      refine PZ_callVi (pc' := 23) (y := yX5_allows) (M' := mX5_allows) (d' := 5) (As := [.int x1, .int x2, .int x6, .int x3, .int x4]) (st := []) (b := 1000) (ci := 5) (nn := 0) me_1000 rfl tw_969 tw_970 (pw_dk dc_X5_lawfulParts 13 rfl) rfl Y_X5_allows tw_1024 rfl (by decide) (Nat.le_of_ble_eq_true rfl) (t_X5_allows x1 x2 x6 x3 x4 σ _ ?_)
      obtain ⟨⟨v_4, σ_3⟩, e_5, h⟩ := wp_bind2 h
      refine ⟨(v_4, σ_3), e_5, _, rfl, fun hn_2 => ?_⟩
      show PZ alC mX5_lawfulParts (6) Q 23 [(0, .ref 1000), (1, .int x1), (2, .int x2), (3, .int x3), (4, .int x4), (5, .int x5), (6, .int x6)] [.int v_4] σ_3
      refine PW_if_eq (pc' := 26) (tgt := 35) (pw_dk dc_X5_lawfulParts 14 rfl) rfl (by decide) (fun c_6 => ?_) (fun c_6 => ?_)
      · rw [if_pos c_6] at h
        exact b_X5_lawfulParts_35 (f_X5_lawfulParts_6 n) ih x1 x2 x3 x4 x5 x6 σ_3 h
      · rw [if_neg c_6] at h
        refine PW_iload (pc' := 28) (q := 5) (pw_dk dc_X5_lawfulParts 15 rfl) rfl rfl ?_
        refine PW_iconst (pc' := 29) (v := 1) (pw_dk dc_X5_lawfulParts 16 rfl) rfl (by decide) ?_
        refine PW_iload (pc' := 31) (q := 6) (pw_dk dc_X5_lawfulParts 17 rfl) rfl rfl ?_
        refine PW_ishl (pc' := 32) (pw_dk dc_X5_lawfulParts 18 rfl) rfl ?_
        refine PW_ior (pc' := 33) (pw_dk dc_X5_lawfulParts 19 rfl) rfl ?_
        refine PW_topi (fun x5_7 ex5_7 => ?_)
        replace h := lt_w h ex5_7
        refine PW_istore (pc' := 35) (lv' := [(5, .int x5_7), (0, .ref 1000), (1, .int x1), (2, .int x2), (3, .int x3), (4, .int x4), (6, .int x6)]) (pw_dk dc_X5_lawfulParts 20 rfl) rfl (by decide) rfl ?_
        refine PW_sub (lv' := [(0, .ref 1000), (1, .int x1), (2, .int x2), (3, .int x3), (4, .int x4), (5, .int x5_7), (6, .int x6)]) [1, 2, 3, 4, 5, 0, 6] rfl ?_
        exact b_X5_lawfulParts_35 (f_X5_lawfulParts_6 n) ih x1 x2 x3 x4 x5_7 x6 σ_3 h
def f_X5_lawfulParts (x1 : Int32) (x2 : Int32) (x3 : Int32) (x4 : Int32) (σ : zS) : Option (Int32 × zS) := 
  f_X5_lawfulParts_6 FU x1 x2 x3 x4 0 0 σ
theorem t_X5_lawfulParts (x1 : Int32) (x2 : Int32) (x3 : Int32) (x4 : Int32) (σ : zS) (Q : Option Value → zS → Prop) (h : wpO (f_X5_lawfulParts x1 x2 x3 x4 σ) (fun a => Q (some (.int a.1)) a.2)) : PK alC yX5_lawfulParts mX5_lawfulParts (6) [.ref 1000, .int x1, .int x2, .int x3, .int x4] σ Q := by
  refine PC_ofF (by decide +kernel) rfl rfl (Nat.le_of_ble_eq_true rfl) ?_
  show PZ alC mX5_lawfulParts (6) Q 0 [(0, .ref 1000), (1, .int x1), (2, .int x2), (3, .int x3), (4, .int x4)] [] σ
  unfold f_X5_lawfulParts at h
  refine PW_iconst (pc' := 1) (v := 0) (pw_dk dc_X5_lawfulParts 0 rfl) rfl (by decide) ?_
  refine PW_istore (pc' := 3) (lv' := [(5, .int 0), (0, .ref 1000), (1, .int x1), (2, .int x2), (3, .int x3), (4, .int x4)]) (pw_dk dc_X5_lawfulParts 1 rfl) rfl (by decide) rfl ?_
  refine PW_iconst (pc' := 4) (v := 0) (pw_dk dc_X5_lawfulParts 2 rfl) rfl (by decide) ?_
  refine PW_istore (pc' := 6) (lv' := [(6, .int 0), (5, .int 0), (0, .ref 1000), (1, .int x1), (2, .int x2), (3, .int x3), (4, .int x4)]) (pw_dk dc_X5_lawfulParts 3 rfl) rfl (by decide) rfl ?_
  refine PW_sub (lv' := [(0, .ref 1000), (1, .int x1), (2, .int x2), (3, .int x3), (4, .int x4), (5, .int 0), (6, .int 0)]) [2, 3, 4, 5, 6, 1, 0] rfl ?_
  exact b_X5_lawfulParts_6 FU x1 x2 x3 x4 0 0 σ h
def f_X5_landsOf_35 (r5 : Int32 → Int32 → Int32 → Int32 → zS → Option Int32) (x1 : Int32) (x2 : Int32) (x3 : Int32) (x4 : Int32) (σ : zS) : Option Int32 := 
  r5 x1 x2 x3 (x4 + 1) σ
theorem b_X5_landsOf_35 {Q : Option Value → zS → Prop} (r5 : Int32 → Int32 → Int32 → Int32 → zS → Option Int32) (hr5 : ∀ (x1 : Int32) (x2 : Int32) (x3 : Int32) (x4 : Int32) (σ : zS), wpO (r5 x1 x2 x3 x4 σ) (fun a => Q (some (.int a)) σ) → PZ alC mX5_landsOf (3) Q 5 [(0, .ref 1000), (1, .int x1), (2, .int x2), (3, .int x3), (4, .int x4)] [] σ) (x1 : Int32) (x2 : Int32) (x3 : Int32) (x4 : Int32) (σ : zS) (h : wpO (f_X5_landsOf_35 r5 x1 x2 x3 x4 σ) (fun a => Q (some (.int a)) σ)) : PZ alC mX5_landsOf (3) Q 35 [(0, .ref 1000), (1, .int x1), (2, .int x2), (3, .int x3), (4, .int x4)] [] σ := by
  unfold f_X5_landsOf_35 at h
  refine PW_iinc (pc' := 38) (q := 4) (v := x4 + 1) (lv' := [(4, .int (x4 + 1)), (0, .ref 1000), (1, .int x1), (2, .int x2), (3, .int x3)]) (pw_dk dc_X5_landsOf 23 rfl) rfl rfl rfl (by decide) rfl ?_
  refine PW_goto (tgt := 5) (pw_dk dc_X5_landsOf 24 rfl) (by decide) ?_
  refine PW_sub (lv' := [(0, .ref 1000), (1, .int x1), (2, .int x2), (3, .int x3), (4, .int (x4 + 1))]) [1, 2, 3, 4, 0] rfl ?_
  exact hr5 x1 x2 x3 (x4 + 1) σ h
def f_X5_landsOf_5  : Nat → Int32 → Int32 → Int32 → Int32 → zS → Option Int32
  | 0, _, _, _, _, _ => none
  | n + 1, x1, x2, x3, x4, σ => 
    if 4 ≤ x4 then
      some x3
    else
      if ((x2 >>> (x4 &&& 31)) &&& (1 : Int32)) = 0 then
        f_X5_landsOf_35 (f_X5_landsOf_5 n) x1 x2 x3 x4 σ
      else
        (f_X5_landAt (f_X5_placeOf x1 x4 σ) σ).bind fun v_5 =>
        lt (α := Int32) (x3 ||| ((1 : Int32) <<< (v_5 &&& 31))) fun x3_7 =>
        f_X5_landsOf_35 (f_X5_landsOf_5 n) x1 x2 x3_7 x4 σ
theorem b_X5_landsOf_5 {Q : Option Value → zS → Prop} : ∀ (n : Nat) (x1 : Int32) (x2 : Int32) (x3 : Int32) (x4 : Int32) (σ : zS) (h : wpO (f_X5_landsOf_5 n x1 x2 x3 x4 σ) (fun a => Q (some (.int a)) σ)), PZ alC mX5_landsOf (3) Q 5 [(0, .ref 1000), (1, .int x1), (2, .int x2), (3, .int x3), (4, .int x4)] [] σ := by
  intro n
  induction n with
  | zero => intro x1 x2 x3 x4 σ h; exact wp_none h
  | succ n ih =>
    intro x1 x2 x3 x4 σ h
    rw [f_X5_landsOf_5] at h
    refine PW_iload (pc' := 7) (q := 4) (pw_dk dc_X5_landsOf 4 rfl) rfl rfl ?_
    refine PW_iconst (pc' := 8) (v := 4) (pw_dk dc_X5_landsOf 5 rfl) rfl (by decide) ?_
    refine PW_icmp_ge (pc' := 11) (tgt := 41) (pw_dk dc_X5_landsOf 6 rfl) rfl (by decide) (fun c_1 => ?_) (fun c_1 => ?_)
    · rw [if_pos c_1] at h
      refine PW_iload_n (pc' := 42) (q := 3) (pw_dk dc_X5_landsOf 25 rfl) rfl rfl rfl ?_
      have z := wp_some h
      exact PZ_iret (ty := .int) (pw_dk dc_X5_landsOf 26 rfl) rfl rfl z
    · rw [if_neg c_1] at h
      refine PW_iload_n (pc' := 12) (q := 2) (pw_dk dc_X5_landsOf 7 rfl) rfl rfl rfl ?_
      refine PW_iload (pc' := 14) (q := 4) (pw_dk dc_X5_landsOf 8 rfl) rfl rfl ?_
      refine PW_ishr (pc' := 15) (pw_dk dc_X5_landsOf 9 rfl) rfl ?_
      refine PW_iconst (pc' := 16) (v := 1) (pw_dk dc_X5_landsOf 10 rfl) rfl (by decide) ?_
      refine PW_iand (pc' := 17) (pw_dk dc_X5_landsOf 11 rfl) rfl ?_
      refine PW_if_eq (pc' := 20) (tgt := 35) (pw_dk dc_X5_landsOf 12 rfl) rfl (by decide) (fun c_2 => ?_) (fun c_2 => ?_)
      · rw [if_pos c_2] at h
        exact b_X5_landsOf_35 (f_X5_landsOf_5 n) ih x1 x2 x3 x4 σ h
      · rw [if_neg c_2] at h
        refine PW_iload_n (pc' := 21) (q := 3) (pw_dk dc_X5_landsOf 13 rfl) rfl rfl rfl ?_
        refine PW_iconst (pc' := 22) (v := 1) (pw_dk dc_X5_landsOf 14 rfl) rfl (by decide) ?_
        refine PW_aload_n (pc' := 23) (q := 0) (pw_dk dc_X5_landsOf 15 rfl) rfl rfl rfl ?_
        refine PW_iload_n (pc' := 24) (q := 1) (pw_dk dc_X5_landsOf 16 rfl) rfl rfl rfl ?_
        refine PW_iload (pc' := 26) (q := 4) (pw_dk dc_X5_landsOf 17 rfl) rfl rfl ?_
        refine PZ_callSi (pc' := 29) (y := yX5_placeOf) (M' := mX5_placeOf) (d' := 2) (As := [.int x1, .int x4]) (st := [.ref 1000, .int 1, .int x3]) tw_909 (pw_dk dc_X5_landsOf 18 rfl) rfl Y_X5_placeOf tw_939 rfl (by decide) (Nat.le_of_ble_eq_true rfl) (t_X5_placeOf x1 x4 σ _ ?_)
        refine ⟨_, rfl, fun hn_3 => ?_⟩
        show PZ alC mX5_landsOf (3) Q 29 [(0, .ref 1000), (1, .int x1), (2, .int x2), (3, .int x3), (4, .int x4)] [.int (f_X5_placeOf x1 x4 σ), .ref 1000, .int 1, .int x3] σ
        refine PZ_callVi (pc' := 32) (y := yX5_landAt) (M' := mX5_landAt) (d' := 0) (As := [.int (f_X5_placeOf x1 x4 σ)]) (st := [.int 1, .int x3]) (b := 1000) (ci := 5) (nn := 0) me_1000 rfl tw_894 tw_895 (pw_dk dc_X5_landsOf 19 rfl) rfl Y_X5_landAt tw_940 rfl (by decide) (Nat.le_of_ble_eq_true rfl) (t_X5_landAt (f_X5_placeOf x1 x4 σ) σ _ ?_)
        obtain ⟨v_5, e_6, h⟩ := wp_bind h
        refine ⟨v_5, e_6, _, rfl, fun hn_4 => ?_⟩
        show PZ alC mX5_landsOf (3) Q 32 [(0, .ref 1000), (1, .int x1), (2, .int x2), (3, .int x3), (4, .int x4)] [.int v_5, .int 1, .int x3] σ
        refine PW_ishl (pc' := 33) (pw_dk dc_X5_landsOf 20 rfl) rfl ?_
        refine PW_ior (pc' := 34) (pw_dk dc_X5_landsOf 21 rfl) rfl ?_
        refine PW_topi (fun x3_7 ex3_7 => ?_)
        replace h := lt_w h ex3_7
        refine PW_istore_n (pc' := 35) (lv' := [(3, .int x3_7), (0, .ref 1000), (1, .int x1), (2, .int x2), (4, .int x4)]) (pw_dk dc_X5_landsOf 22 rfl) rfl rfl (by decide) rfl ?_
        refine PW_sub (lv' := [(0, .ref 1000), (1, .int x1), (2, .int x2), (3, .int x3_7), (4, .int x4)]) [1, 2, 3, 0, 4] rfl ?_
        exact b_X5_landsOf_35 (f_X5_landsOf_5 n) ih x1 x2 x3_7 x4 σ h
def f_X5_landsOf (x1 : Int32) (x2 : Int32) (σ : zS) : Option Int32 := 
  f_X5_landsOf_5 FU x1 x2 0 0 σ
theorem t_X5_landsOf (x1 : Int32) (x2 : Int32) (σ : zS) (Q : Option Value → zS → Prop) (h : wpO (f_X5_landsOf x1 x2 σ) (fun a => Q (some (.int a)) σ)) : PK alC yX5_landsOf mX5_landsOf (3) [.ref 1000, .int x1, .int x2] σ Q := by
  refine PC_ofF (by decide +kernel) rfl rfl (Nat.le_of_ble_eq_true rfl) ?_
  show PZ alC mX5_landsOf (3) Q 0 [(0, .ref 1000), (1, .int x1), (2, .int x2)] [] σ
  unfold f_X5_landsOf at h
  refine PW_iconst (pc' := 1) (v := 0) (pw_dk dc_X5_landsOf 0 rfl) rfl (by decide) ?_
  refine PW_istore_n (pc' := 2) (lv' := [(3, .int 0), (0, .ref 1000), (1, .int x1), (2, .int x2)]) (pw_dk dc_X5_landsOf 1 rfl) rfl rfl (by decide) rfl ?_
  refine PW_iconst (pc' := 3) (v := 0) (pw_dk dc_X5_landsOf 2 rfl) rfl (by decide) ?_
  refine PW_istore (pc' := 5) (lv' := [(4, .int 0), (3, .int 0), (0, .ref 1000), (1, .int x1), (2, .int x2)]) (pw_dk dc_X5_landsOf 3 rfl) rfl (by decide) rfl ?_
  refine PW_sub (lv' := [(0, .ref 1000), (1, .int x1), (2, .int x2), (3, .int 0), (4, .int 0)]) [2, 3, 4, 1, 0] rfl ?_
  exact b_X5_landsOf_5 FU x1 x2 0 0 σ h
def f_X5_barsSome_2  : Nat → Int32 → Int32 → zS → Option Int32
  | 0, _, _, _ => none
  | n + 1, x1, x2, σ => 
    if 4 ≤ x2 then
      some 0
    else
      (f_X5_bars x1 x2 σ).bind fun v_3 =>
      if v_3 = 0 then
        f_X5_barsSome_2 n x1 (x2 + 1) σ
      else
        some 1
theorem b_X5_barsSome_2 {Q : Option Value → zS → Prop} : ∀ (n : Nat) (x1 : Int32) (x2 : Int32) (σ : zS) (h : wpO (f_X5_barsSome_2 n x1 x2 σ) (fun a => Q (some (.int a)) σ)), PZ alC mX5_barsSome (4) Q 2 [(0, .ref 1000), (1, .int x1), (2, .int x2)] [] σ := by
  intro n
  induction n with
  | zero => intro x1 x2 σ h; exact wp_none h
  | succ n ih =>
    intro x1 x2 σ h
    rw [f_X5_barsSome_2] at h
    refine PW_iload_n (pc' := 3) (q := 2) (pw_dk dc_X5_barsSome 2 rfl) rfl rfl rfl ?_
    refine PW_iconst (pc' := 4) (v := 4) (pw_dk dc_X5_barsSome 3 rfl) rfl (by decide) ?_
    refine PW_icmp_ge (pc' := 7) (tgt := 24) (pw_dk dc_X5_barsSome 4 rfl) rfl (by decide) (fun c_1 => ?_) (fun c_1 => ?_)
    · rw [if_pos c_1] at h
      refine PW_iconst (pc' := 25) (v := 0) (pw_dk dc_X5_barsSome 14 rfl) rfl (by decide) ?_
      have z := wp_some h
      exact PZ_iret (ty := .boolean) (pw_dk dc_X5_barsSome 15 rfl) rfl (by decide) z
    · rw [if_neg c_1] at h
      refine PW_aload_n (pc' := 8) (q := 0) (pw_dk dc_X5_barsSome 5 rfl) rfl rfl rfl ?_
      refine PW_iload_n (pc' := 9) (q := 1) (pw_dk dc_X5_barsSome 6 rfl) rfl rfl rfl ?_
      refine PW_iload_n (pc' := 10) (q := 2) (pw_dk dc_X5_barsSome 7 rfl) rfl rfl rfl ?_
      refine PZ_callVi (pc' := 13) (y := yX5_bars) (M' := mX5_bars) (d' := 3) (As := [.int x1, .int x2]) (st := []) (b := 1000) (ci := 5) (nn := 0) me_1000 rfl tw_954 tw_955 (pw_dk dc_X5_barsSome 8 rfl) rfl Y_X5_bars tw_972 rfl (by decide) (Nat.le_of_ble_eq_true rfl) (t_X5_bars x1 x2 σ _ ?_)
      obtain ⟨v_3, e_4, h⟩ := wp_bind h
      refine ⟨v_3, e_4, _, rfl, fun hn_2 => ?_⟩
      show PZ alC mX5_barsSome (4) Q 13 [(0, .ref 1000), (1, .int x1), (2, .int x2)] [.int v_3] σ
      refine PW_if_eq (pc' := 16) (tgt := 18) (pw_dk dc_X5_barsSome 9 rfl) rfl (by decide) (fun c_5 => ?_) (fun c_5 => ?_)
      · rw [if_pos c_5] at h
        refine PW_iinc (pc' := 21) (q := 2) (v := x2 + 1) (lv' := [(2, .int (x2 + 1)), (0, .ref 1000), (1, .int x1)]) (pw_dk dc_X5_barsSome 12 rfl) rfl rfl rfl (by decide) rfl ?_
        refine PW_goto (tgt := 2) (pw_dk dc_X5_barsSome 13 rfl) (by decide) ?_
        refine PW_sub (lv' := [(0, .ref 1000), (1, .int x1), (2, .int (x2 + 1))]) [1, 2, 0] rfl ?_
        exact ih x1 (x2 + 1) σ h
      · rw [if_neg c_5] at h
        refine PW_iconst (pc' := 17) (v := 1) (pw_dk dc_X5_barsSome 10 rfl) rfl (by decide) ?_
        have z := wp_some h
        exact PZ_iret (ty := .boolean) (pw_dk dc_X5_barsSome 11 rfl) rfl (by decide) z
def f_X5_barsSome (x1 : Int32) (σ : zS) : Option Int32 := 
  f_X5_barsSome_2 FU x1 0 σ
theorem t_X5_barsSome (x1 : Int32) (σ : zS) (Q : Option Value → zS → Prop) (h : wpO (f_X5_barsSome x1 σ) (fun a => Q (some (.int a)) σ)) : PK alC yX5_barsSome mX5_barsSome (4) [.ref 1000, .int x1] σ Q := by
  refine PC_ofF (by decide +kernel) rfl rfl (Nat.le_of_ble_eq_true rfl) ?_
  show PZ alC mX5_barsSome (4) Q 0 [(0, .ref 1000), (1, .int x1)] [] σ
  unfold f_X5_barsSome at h
  refine PW_iconst (pc' := 1) (v := 0) (pw_dk dc_X5_barsSome 0 rfl) rfl (by decide) ?_
  refine PW_istore_n (pc' := 2) (lv' := [(2, .int 0), (0, .ref 1000), (1, .int x1)]) (pw_dk dc_X5_barsSome 1 rfl) rfl rfl (by decide) rfl ?_
  refine PW_sub (lv' := [(0, .ref 1000), (1, .int x1), (2, .int 0)]) [1, 2, 0] rfl ?_
  exact b_X5_barsSome_2 FU x1 0 σ h
