/-! walks (printed by wip/gen) -/
def gC (rc : Nat → Int32 → zS → Option (Int32 × zS)) (dd : Nat) : Prop := (∀ (x1 : Int32) (σ : zS) (Q : Option Value → zS → Prop), wpO (rc 0 x1 σ) (fun a => Q (some (.int a.1)) a.2) → PK alC yX6_readEither mX6_readEither dd [.ref 600, .int x1] σ Q) ∧ (∀ (x1 : Int32) (σ : zS) (Q : Option Value → zS → Prop), wpO (rc 1 x1 σ) (fun a => Q (some (.int a.1)) a.2) → PK alC yX6_readBoth mX6_readBoth dd [.ref 600, .int x1] σ Q) ∧ (∀ (x1 : Int32) (σ : zS) (Q : Option Value → zS → Prop), wpO (rc 2 x1 σ) (fun a => Q (some (.int a.1)) a.2) → PK alC yX6_readDenied mX6_readDenied dd [.ref 600, .int x1] σ Q) ∧ (∀ (x1 : Int32) (σ : zS) (Q : Option Value → zS → Prop), wpO (rc 3 x1 σ) (fun a => Q (some (.int a.1)) a.2) → PK alC yX6_readCompared mX6_readCompared dd [.ref 600, .int x1] σ Q) ∧ (∀ (x1 : Int32) (σ : zS) (Q : Option Value → zS → Prop), wpO (rc 4 x1 σ) (fun a => Q (some (.int a.1)) a.2) → PK alC yX6_readSum mX6_readSum dd [.ref 600, .int x1] σ Q) ∧ (∀ (x1 : Int32) (σ : zS) (Q : Option Value → zS → Prop), wpO (rc 5 x1 σ) (fun a => Q (some (.int a.1)) a.2) → PK alC yX6_readProduct mX6_readProduct dd [.ref 600, .int x1] σ Q) ∧ (∀ (x1 : Int32) (σ : zS) (Q : Option Value → zS → Prop), wpO (rc 6 x1 σ) (fun a => Q (some (.int a.1)) a.2) → PK alC yX6_readPlain mX6_readPlain dd [.ref 600, .int x1] σ Q) ∧ (∀ (x1 : Int32) (σ : zS) (Q : Option Value → zS → Prop), wpO (rc 7 x1 σ) (fun a => Q (some (.int a.1)) a.2) → PK alC yX6_readInner mX6_readInner dd [.ref 600, .int x1] σ Q)
def gM (rc : Nat → zS → Option zS) (dd : Nat) : Prop := (∀ (σ : zS) (Q : Option Value → zS → Prop), wpO (rc 0 σ) (fun s => Q none s) → PK alM yX12_expression mX12_expression dd [.ref 5000] σ Q) ∧ (∀ (σ : zS) (Q : Option Value → zS → Prop), wpO (rc 1 σ) (fun s => Q none s) → PK alM yX12_conjunction mX12_conjunction dd [.ref 5000] σ Q) ∧ (∀ (σ : zS) (Q : Option Value → zS → Prop), wpO (rc 2 σ) (fun s => Q none s) → PK alM yX12_negation mX12_negation dd [.ref 5000] σ Q) ∧ (∀ (σ : zS) (Q : Option Value → zS → Prop), wpO (rc 3 σ) (fun s => Q none s) → PK alM yX12_sum mX12_sum dd [.ref 5000] σ Q) ∧ (∀ (σ : zS) (Q : Option Value → zS → Prop), wpO (rc 4 σ) (fun s => Q none s) → PK alM yX12_product mX12_product dd [.ref 5000] σ Q) ∧ (∀ (σ : zS) (Q : Option Value → zS → Prop), wpO (rc 5 σ) (fun s => Q none s) → PK alM yX12_primary mX12_primary dd [.ref 5000] σ Q)
def f_J7_fill_53178_5 (a0 n0 : Nat) : Nat → Int32 → Int32 → Int32 → zS → Option zS
  | 0, _, _, _, _ => none
  | n + 1, x1, x2, x3, σ => 
    if x3 ≤ x2 then
      some σ
    else
      (wrI σ a0 n0 x2 x1).bind fun σ_2 =>
      f_J7_fill_53178_5 a0 n0 n x1 (x2 + 1) x3 σ_2
theorem b_J7_fill_53178_5 (al : pAL) {Q : Option Value → zS → Prop} (a0 n0 : Nat) (ha0 : (a0, 13, n0) ∈ al) : ∀ (n : Nat) (x1 : Int32) (x2 : Int32) (x3 : Int32) (σ : zS) (h : wpO (f_J7_fill_53178_5 a0 n0 n x1 x2 x3 σ) (fun s => Q none s)), PZ al mJ7_fill_53178 (0) Q 5 [(0, .ref a0), (1, .int x1), (2, .int x2), (3, .int x3)] [] σ := by
  intro n
  induction n with
  | zero => intro x1 x2 x3 σ h; exact wp_none h
  | succ n ih =>
    intro x1 x2 x3 σ h
    rw [f_J7_fill_53178_5] at h
    refine PW_iload_n (pc' := 6) (q := 2) (pw_dk dc_J7_fill_53178 5 rfl) rfl rfl rfl ?_
    refine PW_iload_n (pc' := 7) (q := 3) (pw_dk dc_J7_fill_53178 6 rfl) rfl rfl rfl ?_
    refine PW_icmp_ge (pc' := 10) (tgt := 20) (pw_dk dc_J7_fill_53178 7 rfl) rfl (by decide) (fun c_1 => ?_) (fun c_1 => ?_)
    · rw [if_pos c_1] at h
      have z := wp_some h
      exact PZ_vret (pw_dk dc_J7_fill_53178 14 rfl) rfl z
    · rw [if_neg c_1] at h
      refine PW_aload_n (pc' := 11) (q := 0) (pw_dk dc_J7_fill_53178 8 rfl) rfl rfl rfl ?_
      refine PW_iload_n (pc' := 12) (q := 2) (pw_dk dc_J7_fill_53178 9 rfl) rfl rfl rfl ?_
      refine PW_iload_n (pc' := 13) (q := 1) (pw_dk dc_J7_fill_53178 10 rfl) rfl rfl rfl ?_
      obtain ⟨σ_2, hi_3, e_4, h⟩ := wp_wrIx h
      refine PZ_iastx (pc' := 14) (σ' := σ_2) (id := a0) (nn := n0) (pw_dk dc_J7_fill_53178 11 rfl) rfl ha0 hi_3 e_4 ?_
      refine PW_iinc (pc' := 17) (q := 2) (v := x2 + 1) (lv' := [(2, .int (x2 + 1)), (0, .ref a0), (1, .int x1), (3, .int x3)]) (pw_dk dc_J7_fill_53178 12 rfl) rfl rfl rfl (by decide) rfl ?_
      refine PW_goto (tgt := 5) (pw_dk dc_J7_fill_53178 13 rfl) (by decide) ?_
      refine PW_sub (lv' := [(0, .ref a0), (1, .int x1), (2, .int (x2 + 1)), (3, .int x3)]) [1, 2, 0, 3] rfl ?_
      exact ih x1 (x2 + 1) x3 σ_2 h
def f_J7_fill_53178 (a0 n0 : Nat) (x1 : Int32) (σ : zS) : Option zS := 
  lt (α := Int32) (nI n0) fun x3_1 =>
  f_J7_fill_53178_5 a0 n0 FU x1 0 x3_1 σ
theorem t_J7_fill_53178 (al : pAL) (a0 n0 : Nat) (x1 : Int32) (ha0 : (a0, 13, n0) ∈ al) (σ : zS) (Q : Option Value → zS → Prop) (h : wpO (f_J7_fill_53178 a0 n0 x1 σ) (fun s => Q none s)) : PK al yJ7_fill_53178 mJ7_fill_53178 (0) [.ref a0, .int x1] σ Q := by
  refine PC_ofF (by decide +kernel) rfl rfl (Nat.le_of_ble_eq_true rfl) ?_
  show PZ al mJ7_fill_53178 (0) Q 0 [(0, .ref a0), (1, .int x1)] [] σ
  unfold f_J7_fill_53178 at h
  refine PW_iconst (pc' := 1) (v := 0) (pw_dk dc_J7_fill_53178 0 rfl) rfl (by decide) ?_
  refine PW_istore_n (pc' := 2) (lv' := [(2, .int 0), (0, .ref a0), (1, .int x1)]) (pw_dk dc_J7_fill_53178 1 rfl) rfl rfl (by decide) rfl ?_
  refine PW_aload_n (pc' := 3) (q := 1) (pw_dk dc_J7_fill_53178 2 rfl) rfl rfl rfl ?_
  refine PW_alen13 (pc' := 4) (nn := n0) (pw_dk dc_J7_fill_53178 3 rfl) rfl ha0 ?_
  refine PW_topi (fun x3_1 ex3_1 => ?_)
  replace h := lt_w h ex3_1
  refine PW_istore_n (pc' := 5) (lv' := [(3, .int x3_1), (2, .int 0), (0, .ref a0), (1, .int x1)]) (pw_dk dc_J7_fill_53178 4 rfl) rfl rfl (by decide) rfl ?_
  refine PW_sub (lv' := [(0, .ref a0), (1, .int x1), (2, .int 0), (3, .int x3_1)]) [2, 3, 1, 0] rfl ?_
  exact b_J7_fill_53178_5 al a0 n0 ha0 FU x1 0 x3_1 σ h
def f_X0_begin (dy : Nat) (b1 : Bool) (σ : zS) : Option zS := 
  lt (wI σ dy 0 0) fun σ_1 =>
  lt (wI σ_1 dy 1 0) fun σ_3 =>
  (cpA σ_3 (tv b1 + 9) 5 0 (dy + 3) 5 0 5).bind fun σ_5 =>
  (cpA σ_5 (tv b1 + 11) 5 0 (dy + 4) 5 0 5).bind fun σ_8 =>
  (f_J7_fill_53178 (dy + 5) 5 0 σ_8).bind fun σ_12 =>
  (f_J7_fill_53178 (dy + 6) 12 0 σ_12).bind fun σ_15 =>
  some σ_15
theorem t_X0_begin (dy : Nat) (b1 : Bool) (hdy : isDay dy) (σ : zS) (Q : Option Value → zS → Prop) (h : wpO (f_X0_begin dy b1 σ) (fun s => Q none s)) : PK alC yX0_begin mX0_begin (1) [.ref dy, .ref (tv b1)] σ Q := by
  refine PC_ofF (by decide +kernel) rfl rfl (Nat.le_of_ble_eq_true rfl) ?_
  show PZ alC mX0_begin (1) Q 0 [(0, .ref dy), (1, .ref (tv b1))] [] σ
  unfold f_X0_begin at h
  refine PW_aload_n (pc' := 1) (q := 0) (pw_dk dc_X0_begin 0 rfl) rfl rfl rfl ?_
  refine PW_iconst (pc' := 2) (v := 0) (pw_dk dc_X0_begin 1 rfl) rfl (by decide) ?_
  obtain ⟨σ_1, e_2, h⟩ := lt_x h
  refine PZ_putX (pc' := 5) (σ' := σ_1) (id := dy) (ci := 0) (nn := 0) (C0 := RX0) (T := TX0) (N := 6) (j := 0) (ty := tyX0 0) (pw_dk dc_X0_begin 2 rfl) rfl (me_D hdy) rfl pi_0 tyX0_ok nmX0 (by decide) fk_0_0 tw_454 rfl (tyX0_ok 0 (by decide)) (by first | rfl | decide) (by first | rfl | decide) e_2 ?_
  refine PW_aload_n (pc' := 6) (q := 0) (pw_dk dc_X0_begin 3 rfl) rfl rfl rfl ?_
  refine PW_iconst (pc' := 7) (v := 0) (pw_dk dc_X0_begin 4 rfl) rfl (by decide) ?_
  obtain ⟨σ_3, e_4, h⟩ := lt_x h
  refine PZ_putX (pc' := 10) (σ' := σ_3) (id := dy) (ci := 0) (nn := 0) (C0 := RX0) (T := TX0) (N := 6) (j := 1) (ty := tyX0 1) (pw_dk dc_X0_begin 5 rfl) rfl (me_D hdy) rfl pi_0 tyX0_ok nmX0 (by decide) fk_0_1 tw_458 rfl (tyX0_ok 1 (by decide)) (by first | rfl | decide) (by first | rfl | decide) e_4 ?_
  refine PW_aload_n (pc' := 11) (q := 1) (pw_dk dc_X0_begin 6 rfl) rfl rfl rfl ?_
  refine PW_getR (pc' := 14) (id := (tv b1)) (ci := 8) (nn := 0) (C0 := RX8) (T := TX8) (N := 18) (j := 8) (r := tv b1 + 9) (pw_dk dc_X0_begin 7 rfl) rfl (me_T b1) rfl pi_8 (by decide) fk_8_8 tw_221 (rf_T8 _ _) (su0 _ _) ?_
  refine PW_iconst (pc' := 15) (v := 0) (pw_dk dc_X0_begin 8 rfl) rfl (by decide) ?_
  refine PW_aload_n (pc' := 16) (q := 0) (pw_dk dc_X0_begin 9 rfl) rfl rfl rfl ?_
  refine PW_getR (pc' := 19) (id := dy) (ci := 0) (nn := 0) (C0 := RX0) (T := TX0) (N := 6) (j := 2) (r := dy + 3) (pw_dk dc_X0_begin 10 rfl) rfl (me_D hdy) rfl pi_0 (by decide) fk_0_2 tw_461 (rf_D2 _ hdy) (su0 _ _) ?_
  refine PW_iconst (pc' := 20) (v := 0) (pw_dk dc_X0_begin 11 rfl) rfl (by decide) ?_
  refine PW_iconst (pc' := 21) (v := 5) (pw_dk dc_X0_begin 12 rfl) rfl (by decide) ?_
  obtain ⟨σ_5, hh_6, e_7, h⟩ := wp_cpAx h
  refine PZ_acopyx (pc' := 24) (σ' := σ_5) (na := 5) (nb := 5) (pw_dk dc_X0_begin 13 rfl) rfl tw_863 tw_865 tw_864 tw_139 (me_T8 _) (me_D2 hdy) (by decide) (Nat.le_of_ble_eq_true rfl) hh_6 e_7 ?_
  refine PW_aload_n (pc' := 25) (q := 1) (pw_dk dc_X0_begin 14 rfl) rfl rfl rfl ?_
  refine PW_getR (pc' := 28) (id := (tv b1)) (ci := 8) (nn := 0) (C0 := RX8) (T := TX8) (N := 18) (j := 10) (r := tv b1 + 11) (pw_dk dc_X0_begin 15 rfl) rfl (me_T b1) rfl pi_8 (by decide) fk_8_10 tw_227 (rf_T10 _ _) (su0 _ _) ?_
  refine PW_iconst (pc' := 29) (v := 0) (pw_dk dc_X0_begin 16 rfl) rfl (by decide) ?_
  refine PW_aload_n (pc' := 30) (q := 0) (pw_dk dc_X0_begin 17 rfl) rfl rfl rfl ?_
  refine PW_getR (pc' := 33) (id := dy) (ci := 0) (nn := 0) (C0 := RX0) (T := TX0) (N := 6) (j := 3) (r := dy + 4) (pw_dk dc_X0_begin 18 rfl) rfl (me_D hdy) rfl pi_0 (by decide) fk_0_3 tw_466 (rf_D3 _ hdy) (su0 _ _) ?_
  refine PW_iconst (pc' := 34) (v := 0) (pw_dk dc_X0_begin 19 rfl) rfl (by decide) ?_
  refine PW_iconst (pc' := 35) (v := 5) (pw_dk dc_X0_begin 20 rfl) rfl (by decide) ?_
  obtain ⟨σ_8, hh_9, e_10, h⟩ := wp_cpAx h
  refine PZ_acopyx (pc' := 38) (σ' := σ_8) (na := 5) (nb := 5) (pw_dk dc_X0_begin 21 rfl) rfl tw_863 tw_865 tw_864 tw_139 (me_T10 _) (me_D3 hdy) (by decide) (Nat.le_of_ble_eq_true rfl) hh_9 e_10 ?_
  refine PW_aload_n (pc' := 39) (q := 0) (pw_dk dc_X0_begin 22 rfl) rfl rfl rfl ?_
  refine PW_getR (pc' := 42) (id := dy) (ci := 0) (nn := 0) (C0 := RX0) (T := TX0) (N := 6) (j := 4) (r := dy + 5) (pw_dk dc_X0_begin 23 rfl) rfl (me_D hdy) rfl pi_0 (by decide) fk_0_4 tw_469 (rf_D4 _ hdy) (su0 _ _) ?_
  refine PW_iconst (pc' := 43) (v := 0) (pw_dk dc_X0_begin 24 rfl) rfl (by decide) ?_
  refine PZ_callSv (pc' := 46) (y := yJ7_fill_53178) (M' := mJ7_fill_53178) (d' := 0) (As := [.ref (dy + 5), .int 0]) (st := []) tw_197 (pw_dk dc_X0_begin 25 rfl) rfl Y_J7_fill_53178 tw_866 rfl (by decide) (Nat.le_of_ble_eq_true rfl) (t_J7_fill_53178 alC (dy + 5) 5 0 (me_D4 hdy) σ_8 _ ?_)
  obtain ⟨σ_12, e_13, h⟩ := wp_bind h
  refine ⟨σ_12, e_13, rfl, fun hn_11 => ?_⟩
  show PZ alC mX0_begin (1) Q 46 [(0, .ref dy), (1, .ref (tv b1))] [] σ_12
  refine PW_aload_n (pc' := 47) (q := 0) (pw_dk dc_X0_begin 26 rfl) rfl rfl rfl ?_
  refine PW_getR (pc' := 50) (id := dy) (ci := 0) (nn := 0) (C0 := RX0) (T := TX0) (N := 6) (j := 5) (r := dy + 6) (pw_dk dc_X0_begin 27 rfl) rfl (me_D hdy) rfl pi_0 (by decide) fk_0_5 tw_473 (rf_D5 _ hdy) (su0 _ _) ?_
  refine PW_iconst (pc' := 51) (v := 0) (pw_dk dc_X0_begin 28 rfl) rfl (by decide) ?_
  refine PZ_callSv (pc' := 54) (y := yJ7_fill_53178) (M' := mJ7_fill_53178) (d' := 0) (As := [.ref (dy + 6), .int 0]) (st := []) tw_197 (pw_dk dc_X0_begin 29 rfl) rfl Y_J7_fill_53178 tw_866 rfl (by decide) (Nat.le_of_ble_eq_true rfl) (t_J7_fill_53178 alC (dy + 6) 12 0 (me_D5 hdy) σ_12 _ ?_)
  obtain ⟨σ_15, e_16, h⟩ := wp_bind h
  refine ⟨σ_15, e_16, rfl, fun hn_14 => ?_⟩
  show PZ alC mX0_begin (1) Q 54 [(0, .ref dy), (1, .ref (tv b1))] [] σ_15
  have z := wp_some h
  exact PZ_vret (pw_dk dc_X0_begin 30 rfl) rfl z
def f_X0_copyFrom (dy : Nat) (d1 : Nat) (σ : zS) : Option zS := 
  lt (wI σ dy 0 (σ.1 d1 0)) fun σ_1 =>
  lt (wI σ_1 dy 1 (σ_1.1 d1 1)) fun σ_3 =>
  (cpA σ_3 (d1 + 3) 5 0 (dy + 3) 5 0 5).bind fun σ_5 =>
  (cpA σ_5 (d1 + 4) 5 0 (dy + 4) 5 0 5).bind fun σ_8 =>
  (cpA σ_8 (d1 + 5) 5 0 (dy + 5) 5 0 5).bind fun σ_11 =>
  (cpA σ_11 (d1 + 6) 12 0 (dy + 6) 12 0 12).bind fun σ_14 =>
  some σ_14
theorem t_X0_copyFrom (dy : Nat) (d1 : Nat) (hdy : isDay dy) (hd1 : isDay d1) (σ : zS) (Q : Option Value → zS → Prop) (h : wpO (f_X0_copyFrom dy d1 σ) (fun s => Q none s)) : PK alC yX0_copyFrom mX0_copyFrom (1) [.ref dy, .ref d1] σ Q := by
  refine PC_ofF (by decide +kernel) rfl rfl (Nat.le_of_ble_eq_true rfl) ?_
  show PZ alC mX0_copyFrom (1) Q 0 [(0, .ref dy), (1, .ref d1)] [] σ
  unfold f_X0_copyFrom at h
  refine PW_aload_n (pc' := 1) (q := 0) (pw_dk dc_X0_copyFrom 0 rfl) rfl rfl rfl ?_
  refine PW_aload_n (pc' := 2) (q := 1) (pw_dk dc_X0_copyFrom 1 rfl) rfl rfl rfl ?_
  refine PZ_getI (pc' := 5) (id := d1) (ci := 0) (nn := 0) (C0 := RX0) (T := TX0) (N := 6) (j := 0) (pw_dk dc_X0_copyFrom 2 rfl) rfl (me_D hd1) rfl pi_0 (by decide) fk_0_0 tw_454 ?_
  obtain ⟨σ_1, e_2, h⟩ := lt_x h
  refine PZ_putX (pc' := 8) (σ' := σ_1) (id := dy) (ci := 0) (nn := 0) (C0 := RX0) (T := TX0) (N := 6) (j := 0) (ty := tyX0 0) (pw_dk dc_X0_copyFrom 3 rfl) rfl (me_D hdy) rfl pi_0 tyX0_ok nmX0 (by decide) fk_0_0 tw_454 rfl (tyX0_ok 0 (by decide)) (by first | rfl | decide) (by first | rfl | decide) e_2 ?_
  refine PW_aload_n (pc' := 9) (q := 0) (pw_dk dc_X0_copyFrom 4 rfl) rfl rfl rfl ?_
  refine PW_aload_n (pc' := 10) (q := 1) (pw_dk dc_X0_copyFrom 5 rfl) rfl rfl rfl ?_
  refine PZ_getI (pc' := 13) (id := d1) (ci := 0) (nn := 0) (C0 := RX0) (T := TX0) (N := 6) (j := 1) (pw_dk dc_X0_copyFrom 6 rfl) rfl (me_D hd1) rfl pi_0 (by decide) fk_0_1 tw_458 ?_
  obtain ⟨σ_3, e_4, h⟩ := lt_x h
  refine PZ_putX (pc' := 16) (σ' := σ_3) (id := dy) (ci := 0) (nn := 0) (C0 := RX0) (T := TX0) (N := 6) (j := 1) (ty := tyX0 1) (pw_dk dc_X0_copyFrom 7 rfl) rfl (me_D hdy) rfl pi_0 tyX0_ok nmX0 (by decide) fk_0_1 tw_458 rfl (tyX0_ok 1 (by decide)) (by first | rfl | decide) (by first | rfl | decide) e_4 ?_
  refine PW_aload_n (pc' := 17) (q := 1) (pw_dk dc_X0_copyFrom 8 rfl) rfl rfl rfl ?_
  refine PW_getR (pc' := 20) (id := d1) (ci := 0) (nn := 0) (C0 := RX0) (T := TX0) (N := 6) (j := 2) (r := d1 + 3) (pw_dk dc_X0_copyFrom 9 rfl) rfl (me_D hd1) rfl pi_0 (by decide) fk_0_2 tw_461 (rf_D2 _ hd1) (su0 _ _) ?_
  refine PW_iconst (pc' := 21) (v := 0) (pw_dk dc_X0_copyFrom 10 rfl) rfl (by decide) ?_
  refine PW_aload_n (pc' := 22) (q := 0) (pw_dk dc_X0_copyFrom 11 rfl) rfl rfl rfl ?_
  refine PW_getR (pc' := 25) (id := dy) (ci := 0) (nn := 0) (C0 := RX0) (T := TX0) (N := 6) (j := 2) (r := dy + 3) (pw_dk dc_X0_copyFrom 12 rfl) rfl (me_D hdy) rfl pi_0 (by decide) fk_0_2 tw_461 (rf_D2 _ hdy) (su0 _ _) ?_
  refine PW_iconst (pc' := 26) (v := 0) (pw_dk dc_X0_copyFrom 13 rfl) rfl (by decide) ?_
  refine PW_iconst (pc' := 27) (v := 5) (pw_dk dc_X0_copyFrom 14 rfl) rfl (by decide) ?_
  obtain ⟨σ_5, hh_6, e_7, h⟩ := wp_cpAx h
  refine PZ_acopyx (pc' := 30) (σ' := σ_5) (na := 5) (nb := 5) (pw_dk dc_X0_copyFrom 15 rfl) rfl tw_863 tw_865 tw_864 tw_139 (me_D2 hd1) (me_D2 hdy) (by decide) (Nat.le_of_ble_eq_true rfl) hh_6 e_7 ?_
  refine PW_aload_n (pc' := 31) (q := 1) (pw_dk dc_X0_copyFrom 16 rfl) rfl rfl rfl ?_
  refine PW_getR (pc' := 34) (id := d1) (ci := 0) (nn := 0) (C0 := RX0) (T := TX0) (N := 6) (j := 3) (r := d1 + 4) (pw_dk dc_X0_copyFrom 17 rfl) rfl (me_D hd1) rfl pi_0 (by decide) fk_0_3 tw_466 (rf_D3 _ hd1) (su0 _ _) ?_
  refine PW_iconst (pc' := 35) (v := 0) (pw_dk dc_X0_copyFrom 18 rfl) rfl (by decide) ?_
  refine PW_aload_n (pc' := 36) (q := 0) (pw_dk dc_X0_copyFrom 19 rfl) rfl rfl rfl ?_
  refine PW_getR (pc' := 39) (id := dy) (ci := 0) (nn := 0) (C0 := RX0) (T := TX0) (N := 6) (j := 3) (r := dy + 4) (pw_dk dc_X0_copyFrom 20 rfl) rfl (me_D hdy) rfl pi_0 (by decide) fk_0_3 tw_466 (rf_D3 _ hdy) (su0 _ _) ?_
  refine PW_iconst (pc' := 40) (v := 0) (pw_dk dc_X0_copyFrom 21 rfl) rfl (by decide) ?_
  refine PW_iconst (pc' := 41) (v := 5) (pw_dk dc_X0_copyFrom 22 rfl) rfl (by decide) ?_
  obtain ⟨σ_8, hh_9, e_10, h⟩ := wp_cpAx h
  refine PZ_acopyx (pc' := 44) (σ' := σ_8) (na := 5) (nb := 5) (pw_dk dc_X0_copyFrom 23 rfl) rfl tw_863 tw_865 tw_864 tw_139 (me_D3 hd1) (me_D3 hdy) (by decide) (Nat.le_of_ble_eq_true rfl) hh_9 e_10 ?_
  refine PW_aload_n (pc' := 45) (q := 1) (pw_dk dc_X0_copyFrom 24 rfl) rfl rfl rfl ?_
  refine PW_getR (pc' := 48) (id := d1) (ci := 0) (nn := 0) (C0 := RX0) (T := TX0) (N := 6) (j := 4) (r := d1 + 5) (pw_dk dc_X0_copyFrom 25 rfl) rfl (me_D hd1) rfl pi_0 (by decide) fk_0_4 tw_469 (rf_D4 _ hd1) (su0 _ _) ?_
  refine PW_iconst (pc' := 49) (v := 0) (pw_dk dc_X0_copyFrom 26 rfl) rfl (by decide) ?_
  refine PW_aload_n (pc' := 50) (q := 0) (pw_dk dc_X0_copyFrom 27 rfl) rfl rfl rfl ?_
  refine PW_getR (pc' := 53) (id := dy) (ci := 0) (nn := 0) (C0 := RX0) (T := TX0) (N := 6) (j := 4) (r := dy + 5) (pw_dk dc_X0_copyFrom 28 rfl) rfl (me_D hdy) rfl pi_0 (by decide) fk_0_4 tw_469 (rf_D4 _ hdy) (su0 _ _) ?_
  refine PW_iconst (pc' := 54) (v := 0) (pw_dk dc_X0_copyFrom 29 rfl) rfl (by decide) ?_
  refine PW_iconst (pc' := 55) (v := 5) (pw_dk dc_X0_copyFrom 30 rfl) rfl (by decide) ?_
  obtain ⟨σ_11, hh_12, e_13, h⟩ := wp_cpAx h
  refine PZ_acopyx (pc' := 58) (σ' := σ_11) (na := 5) (nb := 5) (pw_dk dc_X0_copyFrom 31 rfl) rfl tw_863 tw_865 tw_864 tw_139 (me_D4 hd1) (me_D4 hdy) (by decide) (Nat.le_of_ble_eq_true rfl) hh_12 e_13 ?_
  refine PW_aload_n (pc' := 59) (q := 1) (pw_dk dc_X0_copyFrom 32 rfl) rfl rfl rfl ?_
  refine PW_getR (pc' := 62) (id := d1) (ci := 0) (nn := 0) (C0 := RX0) (T := TX0) (N := 6) (j := 5) (r := d1 + 6) (pw_dk dc_X0_copyFrom 33 rfl) rfl (me_D hd1) rfl pi_0 (by decide) fk_0_5 tw_473 (rf_D5 _ hd1) (su0 _ _) ?_
  refine PW_iconst (pc' := 63) (v := 0) (pw_dk dc_X0_copyFrom 34 rfl) rfl (by decide) ?_
  refine PW_aload_n (pc' := 64) (q := 0) (pw_dk dc_X0_copyFrom 35 rfl) rfl rfl rfl ?_
  refine PW_getR (pc' := 67) (id := dy) (ci := 0) (nn := 0) (C0 := RX0) (T := TX0) (N := 6) (j := 5) (r := dy + 6) (pw_dk dc_X0_copyFrom 36 rfl) rfl (me_D hdy) rfl pi_0 (by decide) fk_0_5 tw_473 (rf_D5 _ hdy) (su0 _ _) ?_
  refine PW_iconst (pc' := 68) (v := 0) (pw_dk dc_X0_copyFrom 37 rfl) rfl (by decide) ?_
  refine PW_bipush (pc' := 70) (v := 12) (pw_dk dc_X0_copyFrom 38 rfl) rfl (by decide) ?_
  obtain ⟨σ_14, hh_15, e_16, h⟩ := wp_cpAx h
  refine PZ_acopyx (pc' := 73) (σ' := σ_14) (na := 12) (nb := 12) (pw_dk dc_X0_copyFrom 39 rfl) rfl tw_863 tw_865 tw_864 tw_139 (me_D5 hd1) (me_D5 hdy) (by decide) (Nat.le_of_ble_eq_true rfl) hh_15 e_16 ?_
  have z := wp_some h
  exact PZ_vret (pw_dk dc_X0_copyFrom 40 rfl) rfl z
def f_X0_isSeized (dy : Nat) (x1 : Int32) (x2 : Int32) (σ : zS) : Option Int32 := 
  (rdI σ (dy + 5) 5 x1).bind fun v_1 =>
  if ((v_1 >>> (x2 &&& 31)) &&& (1 : Int32)) = 0 then
    some 0
  else
    some 1
theorem t_X0_isSeized (dy : Nat) (x1 : Int32) (x2 : Int32) (hdy : isDay dy) (σ : zS) (Q : Option Value → zS → Prop) (h : wpO (f_X0_isSeized dy x1 x2 σ) (fun a => Q (some (.int a)) σ)) : PK alC yX0_isSeized mX0_isSeized (0) [.ref dy, .int x1, .int x2] σ Q := by
  refine PC_ofF (by decide +kernel) rfl rfl (Nat.le_of_ble_eq_true rfl) ?_
  show PZ alC mX0_isSeized (0) Q 0 [(0, .ref dy), (1, .int x1), (2, .int x2)] [] σ
  unfold f_X0_isSeized at h
  refine PW_aload_n (pc' := 1) (q := 0) (pw_dk dc_X0_isSeized 0 rfl) rfl rfl rfl ?_
  refine PW_getR (pc' := 4) (id := dy) (ci := 0) (nn := 0) (C0 := RX0) (T := TX0) (N := 6) (j := 4) (r := dy + 5) (pw_dk dc_X0_isSeized 1 rfl) rfl (me_D hdy) rfl pi_0 (by decide) fk_0_4 tw_469 (rf_D4 _ hdy) (su0 _ _) ?_
  refine PW_iload_n (pc' := 5) (q := 1) (pw_dk dc_X0_isSeized 2 rfl) rfl rfl rfl ?_
  obtain ⟨v_1, hi_2, e_3, h⟩ := wp_rdIx h
  refine PZ_ialdx (pc' := 6) (v := v_1) (id := (dy + 5)) (nn := 5) (pw_dk dc_X0_isSeized 3 rfl) rfl (me_D4 hdy) hi_2 e_3 ?_
  refine PW_iload_n (pc' := 7) (q := 2) (pw_dk dc_X0_isSeized 4 rfl) rfl rfl rfl ?_
  refine PW_ishr (pc' := 8) (pw_dk dc_X0_isSeized 5 rfl) rfl ?_
  refine PW_iconst (pc' := 9) (v := 1) (pw_dk dc_X0_isSeized 6 rfl) rfl (by decide) ?_
  refine PW_iand (pc' := 10) (pw_dk dc_X0_isSeized 7 rfl) rfl ?_
  refine PW_if_eq (pc' := 13) (tgt := 17) (pw_dk dc_X0_isSeized 8 rfl) rfl (by decide) (fun c_4 => ?_) (fun c_4 => ?_)
  · rw [if_pos c_4] at h
    refine PW_iconst (pc' := 18) (v := 0) (pw_dk dc_X0_isSeized 11 rfl) rfl (by decide) ?_
    have z := wp_some h
    exact PZ_iret (ty := .boolean) (pw_dk dc_X0_isSeized 12 rfl) rfl (by decide) z
  · rw [if_neg c_4] at h
    refine PW_iconst (pc' := 14) (v := 1) (pw_dk dc_X0_isSeized 9 rfl) rfl (by decide) ?_
    refine PW_goto (tgt := 18) (pw_dk dc_X0_isSeized 10 rfl) (by decide) ?_
    have z := wp_some h
    exact PZ_iret (ty := .boolean) (pw_dk dc_X0_isSeized 12 rfl) rfl (by decide) z
def f_X5_facing (x0 : Int32) (x1 : Int32) (σ : zS) : Int32 := 
  (x0 &&& (-13 : Int32)) ||| ((x1 &&& (3 : Int32)) <<< ((2 : Int32) &&& 31))
theorem t_X5_facing (x0 : Int32) (x1 : Int32) (σ : zS) (Q : Option Value → zS → Prop) (h : Q (some (.int (f_X5_facing x0 x1 σ))) σ) : PK alC yX5_facing mX5_facing (0) [.int x0, .int x1] σ Q := by
  refine PC_ofF (by decide +kernel) rfl rfl (Nat.le_of_ble_eq_true rfl) ?_
  show PZ alC mX5_facing (0) Q 0 [(0, .int x0), (1, .int x1)] [] σ
  unfold f_X5_facing at h
  refine PW_iload_n (pc' := 1) (q := 0) (pw_dk dc_X5_facing 0 rfl) rfl rfl rfl ?_
  refine PW_bipush (pc' := 3) (v := (-13 : Int32)) (pw_dk dc_X5_facing 1 rfl) rfl (by decide) ?_
  refine PW_iand (pc' := 4) (pw_dk dc_X5_facing 2 rfl) rfl ?_
  refine PW_iload_n (pc' := 5) (q := 1) (pw_dk dc_X5_facing 3 rfl) rfl rfl rfl ?_
  refine PW_iconst (pc' := 6) (v := 3) (pw_dk dc_X5_facing 4 rfl) rfl (by decide) ?_
  refine PW_iand (pc' := 7) (pw_dk dc_X5_facing 5 rfl) rfl ?_
  refine PW_iconst (pc' := 8) (v := 2) (pw_dk dc_X5_facing 6 rfl) rfl (by decide) ?_
  refine PW_ishl (pc' := 9) (pw_dk dc_X5_facing 7 rfl) rfl ?_
  refine PW_ior (pc' := 10) (pw_dk dc_X5_facing 8 rfl) rfl ?_
  exact PZ_iret (ty := .int) (pw_dk dc_X5_facing 9 rfl) rfl rfl h
def f_X0_turnNorth_2 (dy : Nat) : Nat → Int32 → zS → Option zS
  | 0, _, _ => none
  | n + 1, x1, σ => 
    if 5 ≤ x1 then
      some σ
    else
      (rdI σ (dy + 3) 5 x1).bind fun v_2 =>
      (wrI σ (dy + 3) 5 x1 (f_X5_facing v_2 0 σ)).bind fun σ_6 =>
      f_X0_turnNorth_2 dy n (x1 + 1) σ_6
theorem b_X0_turnNorth_2 {Q : Option Value → zS → Prop} (dy : Nat) (hdy : isDay dy) : ∀ (n : Nat) (x1 : Int32) (σ : zS) (h : wpO (f_X0_turnNorth_2 dy n x1 σ) (fun s => Q none s)), PZ alC mX0_turnNorth (1) Q 2 [(0, .ref dy), (1, .int x1)] [] σ := by
  intro n
  induction n with
  | zero => intro x1 σ h; exact wp_none h
  | succ n ih =>
    intro x1 σ h
    rw [f_X0_turnNorth_2] at h
    refine PW_iload_n (pc' := 3) (q := 1) (pw_dk dc_X0_turnNorth 2 rfl) rfl rfl rfl ?_
    refine PW_iconst (pc' := 4) (v := 5) (pw_dk dc_X0_turnNorth 3 rfl) rfl (by decide) ?_
    refine PW_icmp_ge (pc' := 7) (tgt := 29) (pw_dk dc_X0_turnNorth 4 rfl) rfl (by decide) (fun c_1 => ?_) (fun c_1 => ?_)
    · rw [if_pos c_1] at h
      have z := wp_some h
      exact PZ_vret (pw_dk dc_X0_turnNorth 17 rfl) rfl z
    · rw [if_neg c_1] at h
      refine PW_aload_n (pc' := 8) (q := 0) (pw_dk dc_X0_turnNorth 5 rfl) rfl rfl rfl ?_
      refine PW_getR (pc' := 11) (id := dy) (ci := 0) (nn := 0) (C0 := RX0) (T := TX0) (N := 6) (j := 2) (r := dy + 3) (pw_dk dc_X0_turnNorth 6 rfl) rfl (me_D hdy) rfl pi_0 (by decide) fk_0_2 tw_461 (rf_D2 _ hdy) (su0 _ _) ?_
      refine PW_iload_n (pc' := 12) (q := 1) (pw_dk dc_X0_turnNorth 7 rfl) rfl rfl rfl ?_
      refine PW_aload_n (pc' := 13) (q := 0) (pw_dk dc_X0_turnNorth 8 rfl) rfl rfl rfl ?_
      refine PW_getR (pc' := 16) (id := dy) (ci := 0) (nn := 0) (C0 := RX0) (T := TX0) (N := 6) (j := 2) (r := dy + 3) (pw_dk dc_X0_turnNorth 9 rfl) rfl (me_D hdy) rfl pi_0 (by decide) fk_0_2 tw_461 (rf_D2 _ hdy) (su0 _ _) ?_
      refine PW_iload_n (pc' := 17) (q := 1) (pw_dk dc_X0_turnNorth 10 rfl) rfl rfl rfl ?_
      obtain ⟨v_2, hi_3, e_4, h⟩ := wp_rdIx h
      refine PZ_ialdx (pc' := 18) (v := v_2) (id := (dy + 3)) (nn := 5) (pw_dk dc_X0_turnNorth 11 rfl) rfl (me_D2 hdy) hi_3 e_4 ?_
      refine PW_iconst (pc' := 19) (v := 0) (pw_dk dc_X0_turnNorth 12 rfl) rfl (by decide) ?_
      refine PZ_callSi (pc' := 22) (y := yX5_facing) (M' := mX5_facing) (d' := 0) (As := [.int v_2, .int 0]) (st := [.int x1, .ref (dy + 3)]) tw_1000 (pw_dk dc_X0_turnNorth 13 rfl) rfl Y_X5_facing tw_1258 rfl (by decide) (Nat.le_of_ble_eq_true rfl) (t_X5_facing v_2 0 σ _ ?_)
      refine ⟨_, rfl, fun hn_5 => ?_⟩
      show PZ alC mX0_turnNorth (1) Q 22 [(0, .ref dy), (1, .int x1)] [.int (f_X5_facing v_2 0 σ), .int x1, .ref (dy + 3)] σ
      obtain ⟨σ_6, hi_7, e_8, h⟩ := wp_wrIx h
      refine PZ_iastx (pc' := 23) (σ' := σ_6) (id := (dy + 3)) (nn := 5) (pw_dk dc_X0_turnNorth 14 rfl) rfl (me_D2 hdy) hi_7 e_8 ?_
      refine PW_iinc (pc' := 26) (q := 1) (v := x1 + 1) (lv' := [(1, .int (x1 + 1)), (0, .ref dy)]) (pw_dk dc_X0_turnNorth 15 rfl) rfl rfl rfl (by decide) rfl ?_
      refine PW_goto (tgt := 2) (pw_dk dc_X0_turnNorth 16 rfl) (by decide) ?_
      refine PW_sub (lv' := [(0, .ref dy), (1, .int (x1 + 1))]) [1, 0] rfl ?_
      exact ih (x1 + 1) σ_6 h
def f_X0_turnNorth (dy : Nat) (σ : zS) : Option zS := 
  f_X0_turnNorth_2 dy FU 0 σ
theorem t_X0_turnNorth (dy : Nat) (hdy : isDay dy) (σ : zS) (Q : Option Value → zS → Prop) (h : wpO (f_X0_turnNorth dy σ) (fun s => Q none s)) : PK alC yX0_turnNorth mX0_turnNorth (1) [.ref dy] σ Q := by
  refine PC_ofF (by decide +kernel) rfl rfl (Nat.le_of_ble_eq_true rfl) ?_
  show PZ alC mX0_turnNorth (1) Q 0 [(0, .ref dy)] [] σ
  unfold f_X0_turnNorth at h
  refine PW_iconst (pc' := 1) (v := 0) (pw_dk dc_X0_turnNorth 0 rfl) rfl (by decide) ?_
  refine PW_istore_n (pc' := 2) (lv' := [(1, .int 0), (0, .ref dy)]) (pw_dk dc_X0_turnNorth 1 rfl) rfl rfl (by decide) rfl ?_
  refine PW_sub (lv' := [(0, .ref dy), (1, .int 0)]) [1, 0] rfl ?_
  exact b_X0_turnNorth_2 dy hdy FU 0 σ h
def f_J9_min_7cf53 (x0 : Int32) (x1 : Int32) (σ : zS) : Int32 := 
  if x1 < x0 then
    x1
  else
    x0
theorem t_J9_min_7cf53 (al : pAL) (x0 : Int32) (x1 : Int32) (σ : zS) (Q : Option Value → zS → Prop) (h : Q (some (.int (f_J9_min_7cf53 x0 x1 σ))) σ) : PK al yJ9_min_7cf53 mJ9_min_7cf53 (0) [.int x0, .int x1] σ Q := by
  refine PC_ofF (by decide +kernel) rfl rfl (Nat.le_of_ble_eq_true rfl) ?_
  show PZ al mJ9_min_7cf53 (0) Q 0 [(0, .int x0), (1, .int x1)] [] σ
  unfold f_J9_min_7cf53 at h
  refine PW_iload_n (pc' := 1) (q := 0) (pw_dk dc_J9_min_7cf53 0 rfl) rfl rfl rfl ?_
  refine PW_iload_n (pc' := 2) (q := 1) (pw_dk dc_J9_min_7cf53 1 rfl) rfl rfl rfl ?_
  refine PW_icmp_gt (pc' := 5) (tgt := 9) (pw_dk dc_J9_min_7cf53 2 rfl) rfl (by decide) (fun c_1 => ?_) (fun c_1 => ?_)
  · rw [if_pos c_1] at h
    refine PW_iload_n (pc' := 10) (q := 1) (pw_dk dc_J9_min_7cf53 5 rfl) rfl rfl rfl ?_
    exact PZ_iret (ty := .int) (pw_dk dc_J9_min_7cf53 6 rfl) rfl rfl h
  · rw [if_neg c_1] at h
    refine PW_iload_n (pc' := 6) (q := 0) (pw_dk dc_J9_min_7cf53 3 rfl) rfl rfl rfl ?_
    refine PW_goto (tgt := 10) (pw_dk dc_J9_min_7cf53 4 rfl) (by decide) ?_
    exact PZ_iret (ty := .int) (pw_dk dc_J9_min_7cf53 6 rfl) rfl rfl h
def f_X0_pay (dy : Nat) (x1 : Int32) (x2 : Int32) (σ : zS) : Option zS := 
  (rdI σ (dy + 4) 5 x1).bind fun v_1 =>
  (rdI σ (dy + 4) 5 x1).bind fun v_4 =>
  (wrI σ (dy + 4) 5 x1 (v_1 - (f_J9_min_7cf53 x2 v_4 σ))).bind fun σ_8 =>
  some σ_8
theorem t_X0_pay (dy : Nat) (x1 : Int32) (x2 : Int32) (hdy : isDay dy) (σ : zS) (Q : Option Value → zS → Prop) (h : wpO (f_X0_pay dy x1 x2 σ) (fun s => Q none s)) : PK alC yX0_pay mX0_pay (1) [.ref dy, .int x1, .int x2] σ Q := by
  refine PC_ofF (by decide +kernel) rfl rfl (Nat.le_of_ble_eq_true rfl) ?_
  show PZ alC mX0_pay (1) Q 0 [(0, .ref dy), (1, .int x1), (2, .int x2)] [] σ
  unfold f_X0_pay at h
  refine PW_aload_n (pc' := 1) (q := 0) (pw_dk dc_X0_pay 0 rfl) rfl rfl rfl ?_
  refine PW_getR (pc' := 4) (id := dy) (ci := 0) (nn := 0) (C0 := RX0) (T := TX0) (N := 6) (j := 3) (r := dy + 4) (pw_dk dc_X0_pay 1 rfl) rfl (me_D hdy) rfl pi_0 (by decide) fk_0_3 tw_466 (rf_D3 _ hdy) (su0 _ _) ?_
  refine PW_iload_n (pc' := 5) (q := 1) (pw_dk dc_X0_pay 2 rfl) rfl rfl rfl ?_
  refine PW_dup2 (pc' := 6) (pw_dk dc_X0_pay 3 rfl) rfl rfl rfl ?_
  obtain ⟨v_1, hi_2, e_3, h⟩ := wp_rdIx h
  refine PZ_ialdx (pc' := 7) (v := v_1) (id := (dy + 4)) (nn := 5) (pw_dk dc_X0_pay 4 rfl) rfl (me_D3 hdy) hi_2 e_3 ?_
  refine PW_iload_n (pc' := 8) (q := 2) (pw_dk dc_X0_pay 5 rfl) rfl rfl rfl ?_
  refine PW_aload_n (pc' := 9) (q := 0) (pw_dk dc_X0_pay 6 rfl) rfl rfl rfl ?_
  refine PW_getR (pc' := 12) (id := dy) (ci := 0) (nn := 0) (C0 := RX0) (T := TX0) (N := 6) (j := 3) (r := dy + 4) (pw_dk dc_X0_pay 7 rfl) rfl (me_D hdy) rfl pi_0 (by decide) fk_0_3 tw_466 (rf_D3 _ hdy) (su0 _ _) ?_
  refine PW_iload_n (pc' := 13) (q := 1) (pw_dk dc_X0_pay 8 rfl) rfl rfl rfl ?_
  obtain ⟨v_4, hi_5, e_6, h⟩ := wp_rdIx h
  refine PZ_ialdx (pc' := 14) (v := v_4) (id := (dy + 4)) (nn := 5) (pw_dk dc_X0_pay 9 rfl) rfl (me_D3 hdy) hi_5 e_6 ?_
  refine PZ_callSi (pc' := 17) (y := yJ9_min_7cf53) (M' := mJ9_min_7cf53) (d' := 0) (As := [.int x2, .int v_4]) (st := [.int v_1, .int x1, .ref (dy + 4)]) tw_671 (pw_dk dc_X0_pay 10 rfl) rfl Y_J9_min_7cf53 tw_1033 rfl (by decide) (Nat.le_of_ble_eq_true rfl) (t_J9_min_7cf53 alC x2 v_4 σ _ ?_)
  refine ⟨_, rfl, fun hn_7 => ?_⟩
  show PZ alC mX0_pay (1) Q 17 [(0, .ref dy), (1, .int x1), (2, .int x2)] [.int (f_J9_min_7cf53 x2 v_4 σ), .int v_1, .int x1, .ref (dy + 4)] σ
  refine PW_isub (pc' := 18) (pw_dk dc_X0_pay 11 rfl) rfl ?_
  obtain ⟨σ_8, hi_9, e_10, h⟩ := wp_wrIx h
  refine PZ_iastx (pc' := 19) (σ' := σ_8) (id := (dy + 4)) (nn := 5) (pw_dk dc_X0_pay 12 rfl) rfl (me_D3 hdy) hi_9 e_10 ?_
  have z := wp_some h
  exact PZ_vret (pw_dk dc_X0_pay 13 rfl) rfl z
def f_X0_fated_32 (dy : Nat) (r5 : Int32 → Int32 → Int32 → Int32 → zS → Option Int32) (x1 : Int32) (x2 : Int32) (x3 : Int32) (x4 : Int32) (σ : zS) : Option Int32 := 
  r5 x1 x2 x3 (x4 + 1) σ
theorem b_X0_fated_32 {Q : Option Value → zS → Prop} (dy : Nat) (hdy : isDay dy) (r5 : Int32 → Int32 → Int32 → Int32 → zS → Option Int32) (hr5 : ∀ (x1 : Int32) (x2 : Int32) (x3 : Int32) (x4 : Int32) (σ : zS), wpO (r5 x1 x2 x3 x4 σ) (fun a => Q (some (.int a)) σ) → PZ alC mX0_fated (0) Q 5 [(0, .ref dy), (1, .int x1), (2, .int x2), (3, .int x3), (4, .int x4)] [] σ) (x1 : Int32) (x2 : Int32) (x3 : Int32) (x4 : Int32) (σ : zS) (h : wpO (f_X0_fated_32 dy r5 x1 x2 x3 x4 σ) (fun a => Q (some (.int a)) σ)) : PZ alC mX0_fated (0) Q 32 [(0, .ref dy), (1, .int x1), (2, .int x2), (3, .int x3), (4, .int x4)] [] σ := by
  unfold f_X0_fated_32 at h
  refine PW_iinc (pc' := 35) (q := 4) (v := x4 + 1) (lv' := [(4, .int (x4 + 1)), (0, .ref dy), (1, .int x1), (2, .int x2), (3, .int x3)]) (pw_dk dc_X0_fated 17 rfl) rfl rfl rfl (by decide) rfl ?_
  refine PW_goto (tgt := 5) (pw_dk dc_X0_fated 18 rfl) (by decide) ?_
  refine PW_sub (lv' := [(0, .ref dy), (1, .int x1), (2, .int x2), (3, .int x3), (4, .int (x4 + 1))]) [1, 2, 3, 4, 0] rfl ?_
  exact hr5 x1 x2 x3 (x4 + 1) σ h
def f_X0_fated_5 (dy : Nat) : Nat → Int32 → Int32 → Int32 → Int32 → zS → Option Int32
  | 0, _, _, _, _, _ => none
  | n + 1, x1, x2, x3, x4, σ => 
    if x2 ≤ x4 then
      some x3
    else
      if 12 ≤ x4 then
        some x3
      else
        (rdI σ (dy + 6) 12 x4).bind fun v_3 =>
        if v_3 = x1 then
          f_X0_fated_32 dy (f_X0_fated_5 dy n) x1 x2 (x3 + 1) x4 σ
        else
          f_X0_fated_32 dy (f_X0_fated_5 dy n) x1 x2 x3 x4 σ
theorem b_X0_fated_5 {Q : Option Value → zS → Prop} (dy : Nat) (hdy : isDay dy) : ∀ (n : Nat) (x1 : Int32) (x2 : Int32) (x3 : Int32) (x4 : Int32) (σ : zS) (h : wpO (f_X0_fated_5 dy n x1 x2 x3 x4 σ) (fun a => Q (some (.int a)) σ)), PZ alC mX0_fated (0) Q 5 [(0, .ref dy), (1, .int x1), (2, .int x2), (3, .int x3), (4, .int x4)] [] σ := by
  intro n
  induction n with
  | zero => intro x1 x2 x3 x4 σ h; exact wp_none h
  | succ n ih =>
    intro x1 x2 x3 x4 σ h
    rw [f_X0_fated_5] at h
    refine PW_iload (pc' := 7) (q := 4) (pw_dk dc_X0_fated 4 rfl) rfl rfl ?_
    refine PW_iload_n (pc' := 8) (q := 2) (pw_dk dc_X0_fated 5 rfl) rfl rfl rfl ?_
    refine PW_icmp_ge (pc' := 11) (tgt := 38) (pw_dk dc_X0_fated 6 rfl) rfl (by decide) (fun c_1 => ?_) (fun c_1 => ?_)
    · rw [if_pos c_1] at h
      refine PW_iload_n (pc' := 39) (q := 3) (pw_dk dc_X0_fated 19 rfl) rfl rfl rfl ?_
      have z := wp_some h
      exact PZ_iret (ty := .int) (pw_dk dc_X0_fated 20 rfl) rfl rfl z
    · rw [if_neg c_1] at h
      refine PW_iload (pc' := 13) (q := 4) (pw_dk dc_X0_fated 7 rfl) rfl rfl ?_
      refine PW_bipush (pc' := 15) (v := 12) (pw_dk dc_X0_fated 8 rfl) rfl (by decide) ?_
      refine PW_icmp_ge (pc' := 18) (tgt := 38) (pw_dk dc_X0_fated 9 rfl) rfl (by decide) (fun c_2 => ?_) (fun c_2 => ?_)
      · rw [if_pos c_2] at h
        refine PW_iload_n (pc' := 39) (q := 3) (pw_dk dc_X0_fated 19 rfl) rfl rfl rfl ?_
        have z := wp_some h
        exact PZ_iret (ty := .int) (pw_dk dc_X0_fated 20 rfl) rfl rfl z
      · rw [if_neg c_2] at h
        refine PW_aload_n (pc' := 19) (q := 0) (pw_dk dc_X0_fated 10 rfl) rfl rfl rfl ?_
        refine PW_getR (pc' := 22) (id := dy) (ci := 0) (nn := 0) (C0 := RX0) (T := TX0) (N := 6) (j := 5) (r := dy + 6) (pw_dk dc_X0_fated 11 rfl) rfl (me_D hdy) rfl pi_0 (by decide) fk_0_5 tw_473 (rf_D5 _ hdy) (su0 _ _) ?_
        refine PW_iload (pc' := 24) (q := 4) (pw_dk dc_X0_fated 12 rfl) rfl rfl ?_
        obtain ⟨v_3, hi_4, e_5, h⟩ := wp_rdIx h
        refine PZ_ialdx (pc' := 25) (v := v_3) (id := (dy + 6)) (nn := 12) (pw_dk dc_X0_fated 13 rfl) rfl (me_D5 hdy) hi_4 e_5 ?_
        refine PW_iload_n (pc' := 26) (q := 1) (pw_dk dc_X0_fated 14 rfl) rfl rfl rfl ?_
        refine PW_icmp_ne (pc' := 29) (tgt := 32) (pw_dk dc_X0_fated 15 rfl) rfl (by decide) (fun c_6 => ?_) (fun c_6 => ?_)
        · rw [if_neg c_6] at h
          exact b_X0_fated_32 dy hdy (f_X0_fated_5 dy n) ih x1 x2 x3 x4 σ h
        · rw [if_pos c_6] at h
          refine PW_iinc (pc' := 32) (q := 3) (v := x3 + 1) (lv' := [(3, .int (x3 + 1)), (0, .ref dy), (1, .int x1), (2, .int x2), (4, .int x4)]) (pw_dk dc_X0_fated 16 rfl) rfl rfl rfl (by decide) rfl ?_
          refine PW_sub (lv' := [(0, .ref dy), (1, .int x1), (2, .int x2), (3, .int (x3 + 1)), (4, .int x4)]) [1, 2, 3, 0, 4] rfl ?_
          exact b_X0_fated_32 dy hdy (f_X0_fated_5 dy n) ih x1 x2 (x3 + 1) x4 σ h
def f_X0_fated (dy : Nat) (x1 : Int32) (x2 : Int32) (σ : zS) : Option Int32 := 
  f_X0_fated_5 dy FU x1 x2 0 0 σ
theorem t_X0_fated (dy : Nat) (x1 : Int32) (x2 : Int32) (hdy : isDay dy) (σ : zS) (Q : Option Value → zS → Prop) (h : wpO (f_X0_fated dy x1 x2 σ) (fun a => Q (some (.int a)) σ)) : PK alC yX0_fated mX0_fated (0) [.ref dy, .int x1, .int x2] σ Q := by
  refine PC_ofF (by decide +kernel) rfl rfl (Nat.le_of_ble_eq_true rfl) ?_
  show PZ alC mX0_fated (0) Q 0 [(0, .ref dy), (1, .int x1), (2, .int x2)] [] σ
  unfold f_X0_fated at h
  refine PW_iconst (pc' := 1) (v := 0) (pw_dk dc_X0_fated 0 rfl) rfl (by decide) ?_
  refine PW_istore_n (pc' := 2) (lv' := [(3, .int 0), (0, .ref dy), (1, .int x1), (2, .int x2)]) (pw_dk dc_X0_fated 1 rfl) rfl rfl (by decide) rfl ?_
  refine PW_iconst (pc' := 3) (v := 0) (pw_dk dc_X0_fated 2 rfl) rfl (by decide) ?_
  refine PW_istore (pc' := 5) (lv' := [(4, .int 0), (3, .int 0), (0, .ref dy), (1, .int x1), (2, .int x2)]) (pw_dk dc_X0_fated 3 rfl) rfl (by decide) rfl ?_
  refine PW_sub (lv' := [(0, .ref dy), (1, .int x1), (2, .int x2), (3, .int 0), (4, .int 0)]) [2, 3, 4, 1, 0] rfl ?_
  exact b_X0_fated_5 dy hdy FU x1 x2 0 0 σ h
def f_X0_allCoin_4 (dy : Nat) : Nat → Int32 → Int32 → Int32 → zS → Option Int32
  | 0, _, _, _, _ => none
  | n + 1, x1, x2, x3, σ => 
    if x1 ≤ x3 then
      some x2
    else
      if 5 ≤ x3 then
        some x2
      else
        (rdI σ (dy + 4) 5 x3).bind fun v_3 =>
        lt (α := Int32) (x2 + v_3) fun x2_6 =>
        f_X0_allCoin_4 dy n x1 x2_6 (x3 + 1) σ
theorem b_X0_allCoin_4 {Q : Option Value → zS → Prop} (dy : Nat) (hdy : isDay dy) : ∀ (n : Nat) (x1 : Int32) (x2 : Int32) (x3 : Int32) (σ : zS) (h : wpO (f_X0_allCoin_4 dy n x1 x2 x3 σ) (fun a => Q (some (.int a)) σ)), PZ alC mX0_allCoin (0) Q 4 [(0, .ref dy), (1, .int x1), (2, .int x2), (3, .int x3)] [] σ := by
  intro n
  induction n with
  | zero => intro x1 x2 x3 σ h; exact wp_none h
  | succ n ih =>
    intro x1 x2 x3 σ h
    rw [f_X0_allCoin_4] at h
    refine PW_iload_n (pc' := 5) (q := 3) (pw_dk dc_X0_allCoin 4 rfl) rfl rfl rfl ?_
    refine PW_iload_n (pc' := 6) (q := 1) (pw_dk dc_X0_allCoin 5 rfl) rfl rfl rfl ?_
    refine PW_icmp_ge (pc' := 9) (tgt := 29) (pw_dk dc_X0_allCoin 6 rfl) rfl (by decide) (fun c_1 => ?_) (fun c_1 => ?_)
    · rw [if_pos c_1] at h
      refine PW_iload_n (pc' := 30) (q := 2) (pw_dk dc_X0_allCoin 19 rfl) rfl rfl rfl ?_
      have z := wp_some h
      exact PZ_iret (ty := .int) (pw_dk dc_X0_allCoin 20 rfl) rfl rfl z
    · rw [if_neg c_1] at h
      refine PW_iload_n (pc' := 10) (q := 3) (pw_dk dc_X0_allCoin 7 rfl) rfl rfl rfl ?_
      refine PW_iconst (pc' := 11) (v := 5) (pw_dk dc_X0_allCoin 8 rfl) rfl (by decide) ?_
      refine PW_icmp_ge (pc' := 14) (tgt := 29) (pw_dk dc_X0_allCoin 9 rfl) rfl (by decide) (fun c_2 => ?_) (fun c_2 => ?_)
      · rw [if_pos c_2] at h
        refine PW_iload_n (pc' := 30) (q := 2) (pw_dk dc_X0_allCoin 19 rfl) rfl rfl rfl ?_
        have z := wp_some h
        exact PZ_iret (ty := .int) (pw_dk dc_X0_allCoin 20 rfl) rfl rfl z
      · rw [if_neg c_2] at h
        refine PW_iload_n (pc' := 15) (q := 2) (pw_dk dc_X0_allCoin 10 rfl) rfl rfl rfl ?_
        refine PW_aload_n (pc' := 16) (q := 0) (pw_dk dc_X0_allCoin 11 rfl) rfl rfl rfl ?_
        refine PW_getR (pc' := 19) (id := dy) (ci := 0) (nn := 0) (C0 := RX0) (T := TX0) (N := 6) (j := 3) (r := dy + 4) (pw_dk dc_X0_allCoin 12 rfl) rfl (me_D hdy) rfl pi_0 (by decide) fk_0_3 tw_466 (rf_D3 _ hdy) (su0 _ _) ?_
        refine PW_iload_n (pc' := 20) (q := 3) (pw_dk dc_X0_allCoin 13 rfl) rfl rfl rfl ?_
        obtain ⟨v_3, hi_4, e_5, h⟩ := wp_rdIx h
        refine PZ_ialdx (pc' := 21) (v := v_3) (id := (dy + 4)) (nn := 5) (pw_dk dc_X0_allCoin 14 rfl) rfl (me_D3 hdy) hi_4 e_5 ?_
        refine PW_iadd (pc' := 22) (pw_dk dc_X0_allCoin 15 rfl) rfl ?_
        refine PW_topi (fun x2_6 ex2_6 => ?_)
        replace h := lt_w h ex2_6
        refine PW_istore_n (pc' := 23) (lv' := [(2, .int x2_6), (0, .ref dy), (1, .int x1), (3, .int x3)]) (pw_dk dc_X0_allCoin 16 rfl) rfl rfl (by decide) rfl ?_
        refine PW_iinc (pc' := 26) (q := 3) (v := x3 + 1) (lv' := [(3, .int (x3 + 1)), (2, .int x2_6), (0, .ref dy), (1, .int x1)]) (pw_dk dc_X0_allCoin 17 rfl) rfl rfl rfl (by decide) rfl ?_
        refine PW_goto (tgt := 4) (pw_dk dc_X0_allCoin 18 rfl) (by decide) ?_
        refine PW_sub (lv' := [(0, .ref dy), (1, .int x1), (2, .int x2_6), (3, .int (x3 + 1))]) [2, 3, 1, 0] rfl ?_
        exact ih x1 x2_6 (x3 + 1) σ h
def f_X0_allCoin (dy : Nat) (x1 : Int32) (σ : zS) : Option Int32 := 
  f_X0_allCoin_4 dy FU x1 0 0 σ
theorem t_X0_allCoin (dy : Nat) (x1 : Int32) (hdy : isDay dy) (σ : zS) (Q : Option Value → zS → Prop) (h : wpO (f_X0_allCoin dy x1 σ) (fun a => Q (some (.int a)) σ)) : PK alC yX0_allCoin mX0_allCoin (0) [.ref dy, .int x1] σ Q := by
  refine PC_ofF (by decide +kernel) rfl rfl (Nat.le_of_ble_eq_true rfl) ?_
  show PZ alC mX0_allCoin (0) Q 0 [(0, .ref dy), (1, .int x1)] [] σ
  unfold f_X0_allCoin at h
  refine PW_iconst (pc' := 1) (v := 0) (pw_dk dc_X0_allCoin 0 rfl) rfl (by decide) ?_
  refine PW_istore_n (pc' := 2) (lv' := [(2, .int 0), (0, .ref dy), (1, .int x1)]) (pw_dk dc_X0_allCoin 1 rfl) rfl rfl (by decide) rfl ?_
  refine PW_iconst (pc' := 3) (v := 0) (pw_dk dc_X0_allCoin 2 rfl) rfl (by decide) ?_
  refine PW_istore_n (pc' := 4) (lv' := [(3, .int 0), (2, .int 0), (0, .ref dy), (1, .int x1)]) (pw_dk dc_X0_allCoin 3 rfl) rfl rfl (by decide) rfl ?_
  refine PW_sub (lv' := [(0, .ref dy), (1, .int x1), (2, .int 0), (3, .int 0)]) [2, 3, 1, 0] rfl ?_
  exact b_X0_allCoin_4 dy hdy FU x1 0 0 σ h
def f_X5_cellOf (x0 : Int32) (σ : zS) : Int32 := 
  x0 / (16 : Int32)
theorem t_X5_cellOf (x0 : Int32) (σ : zS) (Q : Option Value → zS → Prop) (h : Q (some (.int (f_X5_cellOf x0 σ))) σ) : PK alC yX5_cellOf mX5_cellOf (0) [.int x0] σ Q := by
  refine PC_ofF (by decide +kernel) rfl rfl (Nat.le_of_ble_eq_true rfl) ?_
  show PZ alC mX5_cellOf (0) Q 0 [(0, .int x0)] [] σ
  unfold f_X5_cellOf at h
  refine PW_iload_n (pc' := 1) (q := 0) (pw_dk dc_X5_cellOf 0 rfl) rfl rfl rfl ?_
  refine PW_bipush (pc' := 3) (v := 16) (pw_dk dc_X5_cellOf 1 rfl) rfl (by decide) ?_
  refine PW_idiv (pc' := 4) (pw_dk dc_X5_cellOf 2 rfl) rfl (by decide) ?_
  exact PZ_iret (ty := .int) (pw_dk dc_X5_cellOf 3 rfl) rfl rfl h
def f_X5_crossOf_12  (s0 : Int32) (σ : zS) : Int32 := 
  s0 &&& (1 : Int32)
theorem b_X5_crossOf_12 {Q : Option Value → zS → Prop} (s0 : Int32) (σ : zS) (h : Q (some (.int (f_X5_crossOf_12 s0 σ))) σ) : PZ alC mX5_crossOf (1) Q 12 [] [.int s0] σ := by
  unfold f_X5_crossOf_12 at h
  refine PW_iconst (pc' := 13) (v := 1) (pw_dk dc_X5_crossOf 8 rfl) rfl (by decide) ?_
  refine PW_iand (pc' := 14) (pw_dk dc_X5_crossOf 9 rfl) rfl ?_
  exact PZ_iret (ty := .int) (pw_dk dc_X5_crossOf 10 rfl) rfl rfl h
def f_X5_crossOf (x0 : Int32) (x1 : Int32) (σ : zS) : Int32 := 
  if 2 ≤ x1 then
    f_X5_crossOf_12 x0 σ
  else
    f_X5_crossOf_12 (x0 >>> ((1 : Int32) &&& 31)) σ
theorem t_X5_crossOf (x0 : Int32) (x1 : Int32) (σ : zS) (Q : Option Value → zS → Prop) (h : Q (some (.int (f_X5_crossOf x0 x1 σ))) σ) : PK alC yX5_crossOf mX5_crossOf (1) [.int x0, .int x1] σ Q := by
  refine PC_ofF (by decide +kernel) rfl rfl (Nat.le_of_ble_eq_true rfl) ?_
  show PZ alC mX5_crossOf (1) Q 0 [(0, .int x0), (1, .int x1)] [] σ
  unfold f_X5_crossOf at h
  refine PW_iload_n (pc' := 1) (q := 1) (pw_dk dc_X5_crossOf 0 rfl) rfl rfl rfl ?_
  refine PW_iconst (pc' := 2) (v := 2) (pw_dk dc_X5_crossOf 1 rfl) rfl (by decide) ?_
  refine PW_icmp_ge (pc' := 5) (tgt := 11) (pw_dk dc_X5_crossOf 2 rfl) rfl (by decide) (fun c_1 => ?_) (fun c_1 => ?_)
  · rw [if_pos c_1] at h
    refine PW_iload_n (pc' := 12) (q := 0) (pw_dk dc_X5_crossOf 7 rfl) rfl rfl rfl ?_
    refine PW_sub (lv' := []) [] rfl ?_
    exact b_X5_crossOf_12 x0 σ h
  · rw [if_neg c_1] at h
    refine PW_iload_n (pc' := 6) (q := 0) (pw_dk dc_X5_crossOf 3 rfl) rfl rfl rfl ?_
    refine PW_iconst (pc' := 7) (v := 1) (pw_dk dc_X5_crossOf 4 rfl) rfl (by decide) ?_
    refine PW_ishr (pc' := 8) (pw_dk dc_X5_crossOf 5 rfl) rfl ?_
    refine PW_goto (tgt := 12) (pw_dk dc_X5_crossOf 6 rfl) (by decide) ?_
    refine PW_sub (lv' := []) [] rfl ?_
    exact b_X5_crossOf_12 (x0 >>> ((1 : Int32) &&& 31)) σ h
def f_X5_faceOf (x0 : Int32) (σ : zS) : Int32 := 
  (x0 >>> ((2 : Int32) &&& 31)) &&& (3 : Int32)
theorem t_X5_faceOf (x0 : Int32) (σ : zS) (Q : Option Value → zS → Prop) (h : Q (some (.int (f_X5_faceOf x0 σ))) σ) : PK alC yX5_faceOf mX5_faceOf (0) [.int x0] σ Q := by
  refine PC_ofF (by decide +kernel) rfl rfl (Nat.le_of_ble_eq_true rfl) ?_
  show PZ alC mX5_faceOf (0) Q 0 [(0, .int x0)] [] σ
  unfold f_X5_faceOf at h
  refine PW_iload_n (pc' := 1) (q := 0) (pw_dk dc_X5_faceOf 0 rfl) rfl rfl rfl ?_
  refine PW_iconst (pc' := 2) (v := 2) (pw_dk dc_X5_faceOf 1 rfl) rfl (by decide) ?_
  refine PW_ishr (pc' := 3) (pw_dk dc_X5_faceOf 2 rfl) rfl ?_
  refine PW_iconst (pc' := 4) (v := 3) (pw_dk dc_X5_faceOf 3 rfl) rfl (by decide) ?_
  refine PW_iand (pc' := 5) (pw_dk dc_X5_faceOf 4 rfl) rfl ?_
  exact PZ_iret (ty := .int) (pw_dk dc_X5_faceOf 5 rfl) rfl rfl h
def f_X5_placeOf_15  (x0 : Int32) (σ : zS) : Int32 := 
  f_X5_cellOf x0 σ
theorem b_X5_placeOf_15 {Q : Option Value → zS → Prop} (x0 : Int32) (σ : zS) (h : Q (some (.int (f_X5_placeOf_15 x0 σ))) σ) : PZ alC mX5_placeOf (2) Q 15 [(0, .int x0)] [] σ := by
  unfold f_X5_placeOf_15 at h
  refine PW_iload_n (pc' := 16) (q := 0) (pw_dk dc_X5_placeOf 9 rfl) rfl rfl rfl ?_
  refine PZ_callSi (pc' := 19) (y := yX5_cellOf) (M' := mX5_cellOf) (d' := 0) (As := [.int x0]) (st := []) tw_915 (pw_dk dc_X5_placeOf 10 rfl) rfl Y_X5_cellOf tw_914 rfl (by decide) (Nat.le_of_ble_eq_true rfl) (t_X5_cellOf x0 σ _ ?_)
  refine ⟨_, rfl, fun hn_1 => ?_⟩
  show PZ alC mX5_placeOf (2) Q 19 [(0, .int x0)] [.int (f_X5_cellOf x0 σ)] σ
  exact PZ_iret (ty := .int) (pw_dk dc_X5_placeOf 11 rfl) rfl rfl h
def f_X5_placeOf_59  (s0 : Int32) (s1 : Int32) (σ : zS) : Int32 := 
  s0 + s1
theorem b_X5_placeOf_59 {Q : Option Value → zS → Prop} (s0 : Int32) (s1 : Int32) (σ : zS) (h : Q (some (.int (f_X5_placeOf_59 s0 s1 σ))) σ) : PZ alC mX5_placeOf (2) Q 59 [] [.int s1, .int s0] σ := by
  unfold f_X5_placeOf_59 at h
  refine PW_iadd (pc' := 60) (pw_dk dc_X5_placeOf 37 rfl) rfl ?_
  exact PZ_iret (ty := .int) (pw_dk dc_X5_placeOf 38 rfl) rfl rfl h
def f_X5_placeOf_30  (x0 : Int32) (x1 : Int32) (s0 : Int32) (σ : zS) : Int32 := 
  lt (α := Int32) (((x1 &&& (1 : Int32)) ^^^ (f_X5_crossOf x0 x1 σ)) ^^^ s0) fun x4_2 =>
  if x4_2 = 1 then
    f_X5_placeOf_59 (f_X5_cellOf x0 σ) 1 σ
  else
    f_X5_placeOf_59 (f_X5_cellOf x0 σ) (-1 : Int32) σ
theorem b_X5_placeOf_30 {Q : Option Value → zS → Prop} (x0 : Int32) (x1 : Int32) (s0 : Int32) (σ : zS) (h : Q (some (.int (f_X5_placeOf_30 x0 x1 s0 σ))) σ) : PZ alC mX5_placeOf (2) Q 30 [(0, .int x0), (1, .int x1)] [.int s0] σ := by
  unfold f_X5_placeOf_30 at h
  refine PW_istore_n (pc' := 31) (lv' := [(3, .int s0), (0, .int x0), (1, .int x1)]) (pw_dk dc_X5_placeOf 18 rfl) rfl rfl (by decide) rfl ?_
  refine PW_iload_n (pc' := 32) (q := 2) (pw_dk dc_X5_placeOf 19 rfl) rfl rfl rfl ?_
  refine PW_iconst (pc' := 33) (v := 1) (pw_dk dc_X5_placeOf 20 rfl) rfl (by decide) ?_
  refine PW_iand (pc' := 34) (pw_dk dc_X5_placeOf 21 rfl) rfl ?_
  refine PW_iload_n (pc' := 35) (q := 1) (pw_dk dc_X5_placeOf 22 rfl) rfl rfl rfl ?_
  refine PW_iload_n (pc' := 36) (q := 2) (pw_dk dc_X5_placeOf 23 rfl) rfl rfl rfl ?_
  refine PZ_callSi (pc' := 39) (y := yX5_crossOf) (M' := mX5_crossOf) (d' := 1) (As := [.int x0, .int x1]) (st := [.int (x1 &&& (1 : Int32))]) tw_918 (pw_dk dc_X5_placeOf 24 rfl) rfl Y_X5_crossOf tw_917 rfl (by decide) (Nat.le_of_ble_eq_true rfl) (t_X5_crossOf x0 x1 σ _ ?_)
  refine ⟨_, rfl, fun hn_1 => ?_⟩
  show PZ alC mX5_placeOf (2) Q 39 [(3, .int s0), (0, .int x0), (1, .int x1)] [.int (f_X5_crossOf x0 x1 σ), .int (x1 &&& (1 : Int32))] σ
  refine PW_ixor (pc' := 40) (pw_dk dc_X5_placeOf 25 rfl) rfl ?_
  refine PW_iload_n (pc' := 41) (q := 0) (pw_dk dc_X5_placeOf 26 rfl) rfl rfl rfl ?_
  refine PW_ixor (pc' := 42) (pw_dk dc_X5_placeOf 27 rfl) rfl ?_
  refine PW_topi (fun x4_2 ex4_2 => ?_)
  replace h := lt_q (ρ := fun z => Q (some (.int z)) σ) h ex4_2
  refine PW_istore (pc' := 44) (lv' := [(4, .int x4_2), (3, .int s0), (0, .int x0), (1, .int x1)]) (pw_dk dc_X5_placeOf 28 rfl) rfl (by decide) rfl ?_
  refine PW_iload_n (pc' := 45) (q := 2) (pw_dk dc_X5_placeOf 29 rfl) rfl rfl rfl ?_
  refine PZ_callSi (pc' := 48) (y := yX5_cellOf) (M' := mX5_cellOf) (d' := 0) (As := [.int x0]) (st := []) tw_915 (pw_dk dc_X5_placeOf 30 rfl) rfl Y_X5_cellOf tw_914 rfl (by decide) (Nat.le_of_ble_eq_true rfl) (t_X5_cellOf x0 σ _ ?_)
  refine ⟨_, rfl, fun hn_3 => ?_⟩
  show PZ alC mX5_placeOf (2) Q 48 [(4, .int x4_2), (3, .int s0), (0, .int x0), (1, .int x1)] [.int (f_X5_cellOf x0 σ)] σ
  refine PW_iload (pc' := 50) (q := 0) (pw_dk dc_X5_placeOf 31 rfl) rfl rfl ?_
  refine PW_iconst (pc' := 51) (v := 1) (pw_dk dc_X5_placeOf 32 rfl) rfl (by decide) ?_
  refine PW_icmp_ne (pc' := 54) (tgt := 58) (pw_dk dc_X5_placeOf 33 rfl) rfl (by decide) (fun c_4 => ?_) (fun c_4 => ?_)
  · rw [if_neg c_4] at h
    refine PW_iconst (pc' := 59) (v := (-1 : Int32)) (pw_dk dc_X5_placeOf 36 rfl) rfl (by decide) ?_
    refine PW_sub (lv' := []) [] rfl ?_
    exact b_X5_placeOf_59 (f_X5_cellOf x0 σ) (-1 : Int32) σ h
  · rw [if_pos c_4] at h
    refine PW_iconst (pc' := 55) (v := 1) (pw_dk dc_X5_placeOf 34 rfl) rfl (by decide) ?_
    refine PW_goto (tgt := 59) (pw_dk dc_X5_placeOf 35 rfl) (by decide) ?_
    refine PW_sub (lv' := []) [] rfl ?_
    exact b_X5_placeOf_59 (f_X5_cellOf x0 σ) 1 σ h
def f_X5_placeOf (x0 : Int32) (x1 : Int32) (σ : zS) : Int32 := 
  lt (α := Int32) (f_X5_faceOf x0 σ) fun x2_2 =>
  if x2_2 = 1 then
    f_X5_placeOf_15 x0 σ
  else
    if x2_2 = 3 then
      f_X5_placeOf_15 x0 σ
    else
      if x2_2 = 2 then
        f_X5_placeOf_30 x0 x1 1 σ
      else
        f_X5_placeOf_30 x0 x1 0 σ
theorem t_X5_placeOf (x0 : Int32) (x1 : Int32) (σ : zS) (Q : Option Value → zS → Prop) (h : Q (some (.int (f_X5_placeOf x0 x1 σ))) σ) : PK alC yX5_placeOf mX5_placeOf (2) [.int x0, .int x1] σ Q := by
  refine PC_ofF (by decide +kernel) rfl rfl (Nat.le_of_ble_eq_true rfl) ?_
  show PZ alC mX5_placeOf (2) Q 0 [(0, .int x0), (1, .int x1)] [] σ
  unfold f_X5_placeOf at h
  refine PW_iload_n (pc' := 1) (q := 0) (pw_dk dc_X5_placeOf 0 rfl) rfl rfl rfl ?_
  refine PZ_callSi (pc' := 4) (y := yX5_faceOf) (M' := mX5_faceOf) (d' := 0) (As := [.int x0]) (st := []) tw_912 (pw_dk dc_X5_placeOf 1 rfl) rfl Y_X5_faceOf tw_911 rfl (by decide) (Nat.le_of_ble_eq_true rfl) (t_X5_faceOf x0 σ _ ?_)
  refine ⟨_, rfl, fun hn_1 => ?_⟩
  show PZ alC mX5_placeOf (2) Q 4 [(0, .int x0), (1, .int x1)] [.int (f_X5_faceOf x0 σ)] σ
  refine PW_topi (fun x2_2 ex2_2 => ?_)
  replace h := lt_q (ρ := fun z => Q (some (.int z)) σ) h ex2_2
  refine PW_istore_n (pc' := 5) (lv' := [(2, .int x2_2), (0, .int x0), (1, .int x1)]) (pw_dk dc_X5_placeOf 2 rfl) rfl rfl (by decide) rfl ?_
  refine PW_iload_n (pc' := 6) (q := 0) (pw_dk dc_X5_placeOf 3 rfl) rfl rfl rfl ?_
  refine PW_iconst (pc' := 7) (v := 1) (pw_dk dc_X5_placeOf 4 rfl) rfl (by decide) ?_
  refine PW_icmp_eq (pc' := 10) (tgt := 15) (pw_dk dc_X5_placeOf 5 rfl) rfl (by decide) (fun c_3 => ?_) (fun c_3 => ?_)
  · rw [if_pos c_3] at h
    refine PW_sub (lv' := [(0, .int x0)]) [1] rfl ?_
    exact b_X5_placeOf_15 x0 σ h
  · rw [if_neg c_3] at h
    refine PW_iload_n (pc' := 11) (q := 0) (pw_dk dc_X5_placeOf 6 rfl) rfl rfl rfl ?_
    refine PW_iconst (pc' := 12) (v := 3) (pw_dk dc_X5_placeOf 7 rfl) rfl (by decide) ?_
    refine PW_icmp_ne (pc' := 15) (tgt := 20) (pw_dk dc_X5_placeOf 8 rfl) rfl (by decide) (fun c_4 => ?_) (fun c_4 => ?_)
    · rw [if_neg c_4] at h
      refine PW_iload_n (pc' := 21) (q := 0) (pw_dk dc_X5_placeOf 12 rfl) rfl rfl rfl ?_
      refine PW_iconst (pc' := 22) (v := 2) (pw_dk dc_X5_placeOf 13 rfl) rfl (by decide) ?_
      refine PW_icmp_ne (pc' := 25) (tgt := 29) (pw_dk dc_X5_placeOf 14 rfl) rfl (by decide) (fun c_5 => ?_) (fun c_5 => ?_)
      · rw [if_neg c_5] at h
        refine PW_iconst (pc' := 30) (v := 0) (pw_dk dc_X5_placeOf 17 rfl) rfl (by decide) ?_
        refine PW_sub (lv' := [(0, .int x0), (1, .int x1)]) [1, 2] rfl ?_
        exact b_X5_placeOf_30 x0 x1 0 σ h
      · rw [if_pos c_5] at h
        refine PW_iconst (pc' := 26) (v := 1) (pw_dk dc_X5_placeOf 15 rfl) rfl (by decide) ?_
        refine PW_goto (tgt := 30) (pw_dk dc_X5_placeOf 16 rfl) (by decide) ?_
        refine PW_sub (lv' := [(0, .int x0), (1, .int x1)]) [1, 2] rfl ?_
        exact b_X5_placeOf_30 x0 x1 1 σ h
    · rw [if_pos c_4] at h
      refine PW_sub (lv' := [(0, .int x0)]) [1] rfl ?_
      exact b_X5_placeOf_15 x0 σ h
def f_X1_hasPartAt_2  : Nat → Int32 → Int32 → Int32 → zS → Option Int32
  | 0, _, _, _, _ => none
  | n + 1, x0, x1, x2, σ => 
    if 4 ≤ x2 then
      some 0
    else
      if (f_X5_placeOf x0 x2 σ) = x1 then
        some 1
      else
        f_X1_hasPartAt_2 n x0 x1 (x2 + 1) σ
theorem b_X1_hasPartAt_2 {Q : Option Value → zS → Prop} : ∀ (n : Nat) (x0 : Int32) (x1 : Int32) (x2 : Int32) (σ : zS) (h : wpO (f_X1_hasPartAt_2 n x0 x1 x2 σ) (fun a => Q (some (.int a)) σ)), PZ alC mX1_hasPartAt (3) Q 2 [(0, .int x0), (1, .int x1), (2, .int x2)] [] σ := by
  intro n
  induction n with
  | zero => intro x0 x1 x2 σ h; exact wp_none h
  | succ n ih =>
    intro x0 x1 x2 σ h
    rw [f_X1_hasPartAt_2] at h
    refine PW_iload_n (pc' := 3) (q := 2) (pw_dk dc_X1_hasPartAt 2 rfl) rfl rfl rfl ?_
    refine PW_iconst (pc' := 4) (v := 4) (pw_dk dc_X1_hasPartAt 3 rfl) rfl (by decide) ?_
    refine PW_icmp_ge (pc' := 7) (tgt := 24) (pw_dk dc_X1_hasPartAt 4 rfl) rfl (by decide) (fun c_1 => ?_) (fun c_1 => ?_)
    · rw [if_pos c_1] at h
      refine PW_iconst (pc' := 25) (v := 0) (pw_dk dc_X1_hasPartAt 14 rfl) rfl (by decide) ?_
      have z := wp_some h
      exact PZ_iret (ty := .boolean) (pw_dk dc_X1_hasPartAt 15 rfl) rfl (by decide) z
    · rw [if_neg c_1] at h
      refine PW_iload_n (pc' := 8) (q := 0) (pw_dk dc_X1_hasPartAt 5 rfl) rfl rfl rfl ?_
      refine PW_iload_n (pc' := 9) (q := 2) (pw_dk dc_X1_hasPartAt 6 rfl) rfl rfl rfl ?_
      refine PZ_callSi (pc' := 12) (y := yX5_placeOf) (M' := mX5_placeOf) (d' := 2) (As := [.int x0, .int x2]) (st := []) tw_909 (pw_dk dc_X1_hasPartAt 7 rfl) rfl Y_X5_placeOf tw_1152 rfl (by decide) (Nat.le_of_ble_eq_true rfl) (t_X5_placeOf x0 x2 σ _ ?_)
      refine ⟨_, rfl, fun hn_2 => ?_⟩
      show PZ alC mX1_hasPartAt (3) Q 12 [(0, .int x0), (1, .int x1), (2, .int x2)] [.int (f_X5_placeOf x0 x2 σ)] σ
      refine PW_iload_n (pc' := 13) (q := 1) (pw_dk dc_X1_hasPartAt 8 rfl) rfl rfl rfl ?_
      refine PW_icmp_ne (pc' := 16) (tgt := 18) (pw_dk dc_X1_hasPartAt 9 rfl) rfl (by decide) (fun c_3 => ?_) (fun c_3 => ?_)
      · rw [if_neg c_3] at h
        refine PW_iinc (pc' := 21) (q := 2) (v := x2 + 1) (lv' := [(2, .int (x2 + 1)), (0, .int x0), (1, .int x1)]) (pw_dk dc_X1_hasPartAt 12 rfl) rfl rfl rfl (by decide) rfl ?_
        refine PW_goto (tgt := 2) (pw_dk dc_X1_hasPartAt 13 rfl) (by decide) ?_
        refine PW_sub (lv' := [(0, .int x0), (1, .int x1), (2, .int (x2 + 1))]) [1, 2, 0] rfl ?_
        exact ih x0 x1 (x2 + 1) σ h
      · rw [if_pos c_3] at h
        refine PW_iconst (pc' := 17) (v := 1) (pw_dk dc_X1_hasPartAt 10 rfl) rfl (by decide) ?_
        have z := wp_some h
        exact PZ_iret (ty := .boolean) (pw_dk dc_X1_hasPartAt 11 rfl) rfl (by decide) z
def f_X1_hasPartAt (x0 : Int32) (x1 : Int32) (σ : zS) : Option Int32 := 
  f_X1_hasPartAt_2 FU x0 x1 0 σ
theorem t_X1_hasPartAt (x0 : Int32) (x1 : Int32) (σ : zS) (Q : Option Value → zS → Prop) (h : wpO (f_X1_hasPartAt x0 x1 σ) (fun a => Q (some (.int a)) σ)) : PK alC yX1_hasPartAt mX1_hasPartAt (3) [.int x0, .int x1] σ Q := by
  refine PC_ofF (by decide +kernel) rfl rfl (Nat.le_of_ble_eq_true rfl) ?_
  show PZ alC mX1_hasPartAt (3) Q 0 [(0, .int x0), (1, .int x1)] [] σ
  unfold f_X1_hasPartAt at h
  refine PW_iconst (pc' := 1) (v := 0) (pw_dk dc_X1_hasPartAt 0 rfl) rfl (by decide) ?_
  refine PW_istore_n (pc' := 2) (lv' := [(2, .int 0), (0, .int x0), (1, .int x1)]) (pw_dk dc_X1_hasPartAt 1 rfl) rfl rfl (by decide) rfl ?_
  refine PW_sub (lv' := [(0, .int x0), (1, .int x1), (2, .int 0)]) [1, 2, 0] rfl ?_
  exact b_X1_hasPartAt_2 FU x0 x1 0 σ h
def f_X5_landAt_27   (σ : zS) : Option Int32 := 
  some 9
theorem b_X5_landAt_27 {Q : Option Value → zS → Prop}  (σ : zS) (h : wpO (f_X5_landAt_27 σ) (fun a => Q (some (.int a)) σ)) : PZ alC mX5_landAt (0) Q 27 [] [] σ := by
  unfold f_X5_landAt_27 at h
  refine PW_bipush (pc' := 29) (v := 9) (pw_dk dc_X5_landAt 13 rfl) rfl (by decide) ?_
  have z := wp_some h
  exact PZ_iret (ty := .int) (pw_dk dc_X5_landAt 14 rfl) rfl rfl z
def f_X5_landAt (x1 : Int32) (σ : zS) : Option Int32 := 
  if x1 < 0 then
    f_X5_landAt_27 σ
  else
    if (σ.1 (tv (σ.2.2 2)) 0) ≤ x1 then
      f_X5_landAt_27 σ
    else
      (rdI σ (tv (σ.2.2 2) + 4) 12 x1).bind fun v_3 =>
      some v_3
theorem t_X5_landAt (x1 : Int32) (σ : zS) (Q : Option Value → zS → Prop) (h : wpO (f_X5_landAt x1 σ) (fun a => Q (some (.int a)) σ)) : PK alC yX5_landAt mX5_landAt (0) [.ref 1000, .int x1] σ Q := by
  refine PC_ofF (by decide +kernel) rfl rfl (Nat.le_of_ble_eq_true rfl) ?_
  show PZ alC mX5_landAt (0) Q 0 [(0, .ref 1000), (1, .int x1)] [] σ
  unfold f_X5_landAt at h
  refine PW_iload_n (pc' := 1) (q := 1) (pw_dk dc_X5_landAt 0 rfl) rfl rfl rfl ?_
  refine PW_if_lt (pc' := 4) (tgt := 27) (pw_dk dc_X5_landAt 1 rfl) rfl (by decide) (fun c_1 => ?_) (fun c_1 => ?_)
  · rw [if_pos c_1] at h
    refine PW_sub (lv' := []) [] rfl ?_
    exact b_X5_landAt_27 σ h
  · rw [if_neg c_1] at h
    refine PW_iload_n (pc' := 5) (q := 1) (pw_dk dc_X5_landAt 2 rfl) rfl rfl rfl ?_
    refine PW_aload_n (pc' := 6) (q := 0) (pw_dk dc_X5_landAt 3 rfl) rfl rfl rfl ?_
    refine PW_getR (pc' := 9) (id := 1000) (ci := 5) (nn := 0) (C0 := RX5) (T := TX5) (N := 3) (j := 0) (r := tv (σ.2.2 2)) (pw_dk dc_X5_landAt 4 rfl) rfl me_1000 rfl pi_5 (by decide) fk_5_0 tw_435 (rf_M2 _) (tv0 _) ?_
    refine PZ_getI (pc' := 12) (id := (tv (σ.2.2 2))) (ci := 8) (nn := 0) (C0 := RX8) (T := TX8) (N := 18) (j := 0) (pw_dk dc_X5_landAt 5 rfl) rfl (me_T _) rfl pi_8 (by decide) fk_8_0 tw_201 ?_
    refine PW_icmp_ge (pc' := 15) (tgt := 27) (pw_dk dc_X5_landAt 6 rfl) rfl (by decide) (fun c_2 => ?_) (fun c_2 => ?_)
    · rw [if_pos c_2] at h
      refine PW_sub (lv' := []) [] rfl ?_
      exact b_X5_landAt_27 σ h
    · rw [if_neg c_2] at h
      refine PW_aload_n (pc' := 16) (q := 0) (pw_dk dc_X5_landAt 7 rfl) rfl rfl rfl ?_
      refine PW_getR (pc' := 19) (id := 1000) (ci := 5) (nn := 0) (C0 := RX5) (T := TX5) (N := 3) (j := 0) (r := tv (σ.2.2 2)) (pw_dk dc_X5_landAt 8 rfl) rfl me_1000 rfl pi_5 (by decide) fk_5_0 tw_435 (rf_M2 _) (tv0 _) ?_
      refine PW_getR (pc' := 22) (id := (tv (σ.2.2 2))) (ci := 8) (nn := 0) (C0 := RX8) (T := TX8) (N := 18) (j := 3) (r := tv (σ.2.2 2) + 4) (pw_dk dc_X5_landAt 9 rfl) rfl (me_T _) rfl pi_8 (by decide) fk_8_3 tw_208 (rf_T3 _ _) (su0 _ _) ?_
      refine PW_iload_n (pc' := 23) (q := 1) (pw_dk dc_X5_landAt 10 rfl) rfl rfl rfl ?_
      obtain ⟨v_3, hi_4, e_5, h⟩ := wp_rdIx h
      refine PZ_ialdx (pc' := 24) (v := v_3) (id := (tv (σ.2.2 2) + 4)) (nn := 12) (pw_dk dc_X5_landAt 11 rfl) rfl (me_T3 _) hi_4 e_5 ?_
      refine PW_goto (tgt := 29) (pw_dk dc_X5_landAt 12 rfl) (by decide) ?_
      have z := wp_some h
      exact PZ_iret (ty := .int) (pw_dk dc_X5_landAt 14 rfl) rfl rfl z
def f_X5_bars (x1 : Int32) (x2 : Int32) (σ : zS) : Option Int32 := 
  (f_X5_landAt (f_X5_placeOf x1 x2 σ) σ).bind fun v_3 =>
  if (σ.1 1000 1) = 1 then
    some 0
  else
    if v_3 = 9 then
      some 0
    else
      (rdI σ (tv (σ.2.2 2) + 5) 5 v_3).bind fun v_7 =>
      if ((v_7 >>> (x2 &&& 31)) &&& (1 : Int32)) = 0 then
        some 0
      else
        some 1
theorem t_X5_bars (x1 : Int32) (x2 : Int32) (σ : zS) (Q : Option Value → zS → Prop) (h : wpO (f_X5_bars x1 x2 σ) (fun a => Q (some (.int a)) σ)) : PK alC yX5_bars mX5_bars (3) [.ref 1000, .int x1, .int x2] σ Q := by
  refine PC_ofF (by decide +kernel) rfl rfl (Nat.le_of_ble_eq_true rfl) ?_
  show PZ alC mX5_bars (3) Q 0 [(0, .ref 1000), (1, .int x1), (2, .int x2)] [] σ
  unfold f_X5_bars at h
  refine PW_aload_n (pc' := 1) (q := 0) (pw_dk dc_X5_bars 0 rfl) rfl rfl rfl ?_
  refine PW_iload_n (pc' := 2) (q := 1) (pw_dk dc_X5_bars 1 rfl) rfl rfl rfl ?_
  refine PW_iload_n (pc' := 3) (q := 2) (pw_dk dc_X5_bars 2 rfl) rfl rfl rfl ?_
  refine PZ_callSi (pc' := 6) (y := yX5_placeOf) (M' := mX5_placeOf) (d' := 2) (As := [.int x1, .int x2]) (st := [.ref 1000]) tw_909 (pw_dk dc_X5_bars 3 rfl) rfl Y_X5_placeOf tw_939 rfl (by decide) (Nat.le_of_ble_eq_true rfl) (t_X5_placeOf x1 x2 σ _ ?_)
  refine ⟨_, rfl, fun hn_1 => ?_⟩
  show PZ alC mX5_bars (3) Q 6 [(0, .ref 1000), (1, .int x1), (2, .int x2)] [.int (f_X5_placeOf x1 x2 σ), .ref 1000] σ
  refine PZ_callVi (pc' := 9) (y := yX5_landAt) (M' := mX5_landAt) (d' := 0) (As := [.int (f_X5_placeOf x1 x2 σ)]) (st := []) (b := 1000) (ci := 5) (nn := 0) me_1000 rfl tw_894 tw_895 (pw_dk dc_X5_bars 4 rfl) rfl Y_X5_landAt tw_940 rfl (by decide) (Nat.le_of_ble_eq_true rfl) (t_X5_landAt (f_X5_placeOf x1 x2 σ) σ _ ?_)
  obtain ⟨v_3, e_4, h⟩ := wp_bind h
  refine ⟨v_3, e_4, _, rfl, fun hn_2 => ?_⟩
  show PZ alC mX5_bars (3) Q 9 [(0, .ref 1000), (1, .int x1), (2, .int x2)] [.int v_3] σ
  refine PW_istore_n (pc' := 10) (lv' := [(3, .int v_3), (0, .ref 1000), (1, .int x1), (2, .int x2)]) (pw_dk dc_X5_bars 5 rfl) rfl rfl (by decide) rfl ?_
  refine PW_aload_n (pc' := 11) (q := 1) (pw_dk dc_X5_bars 6 rfl) rfl rfl rfl ?_
  refine PZ_getI (pc' := 14) (id := 1000) (ci := 5) (nn := 0) (C0 := RX5) (T := TX5) (N := 3) (j := 1) (pw_dk dc_X5_bars 7 rfl) rfl me_1000 rfl pi_5 (by decide) fk_5_1 tw_437 ?_
  refine PW_iconst (pc' := 15) (v := 1) (pw_dk dc_X5_bars 8 rfl) rfl (by decide) ?_
  refine PW_icmp_eq (pc' := 18) (tgt := 44) (pw_dk dc_X5_bars 9 rfl) rfl (by decide) (fun c_5 => ?_) (fun c_5 => ?_)
  · rw [if_pos c_5] at h
    refine PW_iconst (pc' := 45) (v := 0) (pw_dk dc_X5_bars 25 rfl) rfl (by decide) ?_
    have z := wp_some h
    exact PZ_iret (ty := .boolean) (pw_dk dc_X5_bars 26 rfl) rfl (by decide) z
  · rw [if_neg c_5] at h
    refine PW_iload_n (pc' := 19) (q := 0) (pw_dk dc_X5_bars 10 rfl) rfl rfl rfl ?_
    refine PW_bipush (pc' := 21) (v := 9) (pw_dk dc_X5_bars 11 rfl) rfl (by decide) ?_
    refine PW_icmp_eq (pc' := 24) (tgt := 44) (pw_dk dc_X5_bars 12 rfl) rfl (by decide) (fun c_6 => ?_) (fun c_6 => ?_)
    · rw [if_pos c_6] at h
      refine PW_iconst (pc' := 45) (v := 0) (pw_dk dc_X5_bars 25 rfl) rfl (by decide) ?_
      have z := wp_some h
      exact PZ_iret (ty := .boolean) (pw_dk dc_X5_bars 26 rfl) rfl (by decide) z
    · rw [if_neg c_6] at h
      refine PW_aload_n (pc' := 25) (q := 1) (pw_dk dc_X5_bars 13 rfl) rfl rfl rfl ?_
      refine PW_getR (pc' := 28) (id := 1000) (ci := 5) (nn := 0) (C0 := RX5) (T := TX5) (N := 3) (j := 0) (r := tv (σ.2.2 2)) (pw_dk dc_X5_bars 14 rfl) rfl me_1000 rfl pi_5 (by decide) fk_5_0 tw_435 (rf_M2 _) (tv0 _) ?_
      refine PW_getR (pc' := 31) (id := (tv (σ.2.2 2))) (ci := 8) (nn := 0) (C0 := RX8) (T := TX8) (N := 18) (j := 4) (r := tv (σ.2.2 2) + 5) (pw_dk dc_X5_bars 15 rfl) rfl (me_T _) rfl pi_8 (by decide) fk_8_4 tw_211 (rf_T4 _ _) (su0 _ _) ?_
      refine PW_iload_n (pc' := 32) (q := 0) (pw_dk dc_X5_bars 16 rfl) rfl rfl rfl ?_
      obtain ⟨v_7, hi_8, e_9, h⟩ := wp_rdIx h
      refine PZ_ialdx (pc' := 33) (v := v_7) (id := (tv (σ.2.2 2) + 5)) (nn := 5) (pw_dk dc_X5_bars 17 rfl) rfl (me_T4 _) hi_8 e_9 ?_
      refine PW_iload_n (pc' := 34) (q := 3) (pw_dk dc_X5_bars 18 rfl) rfl rfl rfl ?_
      refine PW_ishr (pc' := 35) (pw_dk dc_X5_bars 19 rfl) rfl ?_
      refine PW_iconst (pc' := 36) (v := 1) (pw_dk dc_X5_bars 20 rfl) rfl (by decide) ?_
      refine PW_iand (pc' := 37) (pw_dk dc_X5_bars 21 rfl) rfl ?_
      refine PW_if_eq (pc' := 40) (tgt := 44) (pw_dk dc_X5_bars 22 rfl) rfl (by decide) (fun c_10 => ?_) (fun c_10 => ?_)
      · rw [if_pos c_10] at h
        refine PW_iconst (pc' := 45) (v := 0) (pw_dk dc_X5_bars 25 rfl) rfl (by decide) ?_
        have z := wp_some h
        exact PZ_iret (ty := .boolean) (pw_dk dc_X5_bars 26 rfl) rfl (by decide) z
      · rw [if_neg c_10] at h
        refine PW_iconst (pc' := 41) (v := 1) (pw_dk dc_X5_bars 23 rfl) rfl (by decide) ?_
        refine PW_goto (tgt := 45) (pw_dk dc_X5_bars 24 rfl) (by decide) ?_
        have z := wp_some h
        exact PZ_iret (ty := .boolean) (pw_dk dc_X5_bars 26 rfl) rfl (by decide) z
def f_X5_sideOf_31  (x2 : Int32) (s0 : Int32) (σ : zS) : Option Int32 := 
  some ((x2 &&& (1 : Int32)) ^^^ s0)
theorem b_X5_sideOf_31 {Q : Option Value → zS → Prop} (x2 : Int32) (s0 : Int32) (σ : zS) (h : wpO (f_X5_sideOf_31 x2 s0 σ) (fun a => Q (some (.int a)) σ)) : PZ alC mX5_sideOf (0) Q 31 [(2, .int x2)] [.int s0] σ := by
  unfold f_X5_sideOf_31 at h
  refine PW_istore_n (pc' := 32) (lv' := [(3, .int s0), (2, .int x2)]) (pw_dk dc_X5_sideOf 17 rfl) rfl rfl (by decide) rfl ?_
  refine PW_iload_n (pc' := 33) (q := 1) (pw_dk dc_X5_sideOf 18 rfl) rfl rfl rfl ?_
  refine PW_iconst (pc' := 34) (v := 1) (pw_dk dc_X5_sideOf 19 rfl) rfl (by decide) ?_
  refine PW_iand (pc' := 35) (pw_dk dc_X5_sideOf 20 rfl) rfl ?_
  refine PW_iload_n (pc' := 36) (q := 0) (pw_dk dc_X5_sideOf 21 rfl) rfl rfl rfl ?_
  refine PW_ixor (pc' := 37) (pw_dk dc_X5_sideOf 22 rfl) rfl ?_
  have z := wp_some h
  exact PZ_iret (ty := .int) (pw_dk dc_X5_sideOf 23 rfl) rfl rfl z
def f_X5_sideOf (x1 : Int32) (x2 : Int32) (σ : zS) : Option Int32 := 
  if (σ.1 1000 1) = 2 then
    (rdI σ (tv (σ.2.2 2) + 10) 5 x1).bind fun v_5 =>
    f_X5_sideOf_31 x2 ((1 : Int32) - v_5) σ
  else
    (rdI σ (tv (σ.2.2 2) + 10) 5 x1).bind fun v_2 =>
    f_X5_sideOf_31 x2 v_2 σ
theorem t_X5_sideOf (x1 : Int32) (x2 : Int32) (σ : zS) (Q : Option Value → zS → Prop) (h : wpO (f_X5_sideOf x1 x2 σ) (fun a => Q (some (.int a)) σ)) : PK alC yX5_sideOf mX5_sideOf (0) [.ref 1000, .int x1, .int x2] σ Q := by
  refine PC_ofF (by decide +kernel) rfl rfl (Nat.le_of_ble_eq_true rfl) ?_
  show PZ alC mX5_sideOf (0) Q 0 [(0, .ref 1000), (1, .int x1), (2, .int x2)] [] σ
  unfold f_X5_sideOf at h
  refine PW_aload_n (pc' := 1) (q := 0) (pw_dk dc_X5_sideOf 0 rfl) rfl rfl rfl ?_
  refine PZ_getI (pc' := 4) (id := 1000) (ci := 5) (nn := 0) (C0 := RX5) (T := TX5) (N := 3) (j := 1) (pw_dk dc_X5_sideOf 1 rfl) rfl me_1000 rfl pi_5 (by decide) fk_5_1 tw_437 ?_
  refine PW_iconst (pc' := 5) (v := 2) (pw_dk dc_X5_sideOf 2 rfl) rfl (by decide) ?_
  refine PW_icmp_ne (pc' := 8) (tgt := 22) (pw_dk dc_X5_sideOf 3 rfl) rfl (by decide) (fun c_1 => ?_) (fun c_1 => ?_)
  · rw [if_neg c_1] at h
    refine PW_aload_n (pc' := 23) (q := 0) (pw_dk dc_X5_sideOf 12 rfl) rfl rfl rfl ?_
    refine PW_getR (pc' := 26) (id := 1000) (ci := 5) (nn := 0) (C0 := RX5) (T := TX5) (N := 3) (j := 0) (r := tv (σ.2.2 2)) (pw_dk dc_X5_sideOf 13 rfl) rfl me_1000 rfl pi_5 (by decide) fk_5_0 tw_435 (rf_M2 _) (tv0 _) ?_
    refine PW_getR (pc' := 29) (id := (tv (σ.2.2 2))) (ci := 8) (nn := 0) (C0 := RX8) (T := TX8) (N := 18) (j := 9) (r := tv (σ.2.2 2) + 10) (pw_dk dc_X5_sideOf 14 rfl) rfl (me_T _) rfl pi_8 (by decide) fk_8_9 tw_225 (rf_T9 _ _) (su0 _ _) ?_
    refine PW_iload_n (pc' := 30) (q := 1) (pw_dk dc_X5_sideOf 15 rfl) rfl rfl rfl ?_
    obtain ⟨v_2, hi_3, e_4, h⟩ := wp_rdIx h
    refine PZ_ialdx (pc' := 31) (v := v_2) (id := (tv (σ.2.2 2) + 10)) (nn := 5) (pw_dk dc_X5_sideOf 16 rfl) rfl (me_T9 _) hi_3 e_4 ?_
    refine PW_sub (lv' := [(2, .int x2)]) [2] rfl ?_
    exact b_X5_sideOf_31 x2 v_2 σ h
  · rw [if_pos c_1] at h
    refine PW_iconst (pc' := 9) (v := 1) (pw_dk dc_X5_sideOf 4 rfl) rfl (by decide) ?_
    refine PW_aload_n (pc' := 10) (q := 0) (pw_dk dc_X5_sideOf 5 rfl) rfl rfl rfl ?_
    refine PW_getR (pc' := 13) (id := 1000) (ci := 5) (nn := 0) (C0 := RX5) (T := TX5) (N := 3) (j := 0) (r := tv (σ.2.2 2)) (pw_dk dc_X5_sideOf 6 rfl) rfl me_1000 rfl pi_5 (by decide) fk_5_0 tw_435 (rf_M2 _) (tv0 _) ?_
    refine PW_getR (pc' := 16) (id := (tv (σ.2.2 2))) (ci := 8) (nn := 0) (C0 := RX8) (T := TX8) (N := 18) (j := 9) (r := tv (σ.2.2 2) + 10) (pw_dk dc_X5_sideOf 7 rfl) rfl (me_T _) rfl pi_8 (by decide) fk_8_9 tw_225 (rf_T9 _ _) (su0 _ _) ?_
    refine PW_iload_n (pc' := 17) (q := 1) (pw_dk dc_X5_sideOf 8 rfl) rfl rfl rfl ?_
    obtain ⟨v_5, hi_6, e_7, h⟩ := wp_rdIx h
    refine PZ_ialdx (pc' := 18) (v := v_5) (id := (tv (σ.2.2 2) + 10)) (nn := 5) (pw_dk dc_X5_sideOf 9 rfl) rfl (me_T9 _) hi_6 e_7 ?_
    refine PW_isub (pc' := 19) (pw_dk dc_X5_sideOf 10 rfl) rfl ?_
    refine PW_goto (tgt := 31) (pw_dk dc_X5_sideOf 11 rfl) (by decide) ?_
    refine PW_sub (lv' := [(2, .int x2)]) [2] rfl ?_
    exact b_X5_sideOf_31 x2 ((1 : Int32) - v_5) σ h
def f_X2_isTold (b : Bool) (x1 : Int32) (σ : zS) : Option Int32 := 
  (rdI σ (tl b + 5) 3 x1).bind fun v_1 =>
  if v_1 = (-1 : Int32) then
    some 0
  else
    some 1
theorem t_X2_isTold (b : Bool) (x1 : Int32) (σ : zS) (Q : Option Value → zS → Prop) (h : wpO (f_X2_isTold b x1 σ) (fun a => Q (some (.int a)) σ)) : PK alC yX2_isTold mX2_isTold (0) [.ref (tl b), .int x1] σ Q := by
  refine PC_ofF (by decide +kernel) rfl rfl (Nat.le_of_ble_eq_true rfl) ?_
  show PZ alC mX2_isTold (0) Q 0 [(0, .ref (tl b)), (1, .int x1)] [] σ
  unfold f_X2_isTold at h
  refine PW_aload_n (pc' := 1) (q := 0) (pw_dk dc_X2_isTold 0 rfl) rfl rfl rfl ?_
  refine PW_getR (pc' := 4) (id := (tl b)) (ci := 2) (nn := 0) (C0 := RX2) (T := TX2) (N := 8) (j := 4) (r := tl b + 5) (pw_dk dc_X2_isTold 1 rfl) rfl (me_L b) rfl pi_2 (by decide) fk_2_4 tw_172 (rf_L4 _ _) (su0 _ _) ?_
  refine PW_iload_n (pc' := 5) (q := 1) (pw_dk dc_X2_isTold 2 rfl) rfl rfl rfl ?_
  obtain ⟨v_1, hi_2, e_3, h⟩ := wp_rdIx h
  refine PZ_ialdx (pc' := 6) (v := v_1) (id := (tl b + 5)) (nn := 3) (pw_dk dc_X2_isTold 3 rfl) rfl (me_L4 _) hi_2 e_3 ?_
  refine PW_iconst (pc' := 7) (v := (-1 : Int32)) (pw_dk dc_X2_isTold 4 rfl) rfl (by decide) ?_
  refine PW_icmp_eq (pc' := 10) (tgt := 14) (pw_dk dc_X2_isTold 5 rfl) rfl (by decide) (fun c_4 => ?_) (fun c_4 => ?_)
  · rw [if_pos c_4] at h
    refine PW_iconst (pc' := 15) (v := 0) (pw_dk dc_X2_isTold 8 rfl) rfl (by decide) ?_
    have z := wp_some h
    exact PZ_iret (ty := .boolean) (pw_dk dc_X2_isTold 9 rfl) rfl (by decide) z
  · rw [if_neg c_4] at h
    refine PW_iconst (pc' := 11) (v := 1) (pw_dk dc_X2_isTold 6 rfl) rfl (by decide) ?_
    refine PW_goto (tgt := 15) (pw_dk dc_X2_isTold 7 rfl) (by decide) ?_
    have z := wp_some h
    exact PZ_iret (ty := .boolean) (pw_dk dc_X2_isTold 9 rfl) rfl (by decide) z
def f_X2_join_120   (σ : zS) : Option Int64 := 
  some 1
theorem b_X2_join_120 {Q : Option Value → zS → Prop}  (σ : zS) (h : wpO (f_X2_join_120 σ) (fun a => Q (some (.long a)) σ)) : PZ alC mX2_join (0) Q 120 [] [] σ := by
  unfold f_X2_join_120 at h
  refine PW_lconst (pc' := 121) (v := 1) (pw_dk dc_X2_join 10 rfl) rfl (by decide) ?_
  refine PW_goto (tgt := 125) (pw_dk dc_X2_join 11 rfl) (by decide) ?_
  have z := wp_some h
  exact PZ_lret (pw_dk dc_X2_join 13 rfl) rfl z
def f_X2_join_142   (σ : zS) : Option Int64 := 
  some 0
theorem b_X2_join_142 {Q : Option Value → zS → Prop}  (σ : zS) (h : wpO (f_X2_join_142 σ) (fun a => Q (some (.long a)) σ)) : PZ alC mX2_join (0) Q 142 [] [] σ := by
  unfold f_X2_join_142 at h
  refine PW_lconst (pc' := 143) (v := 0) (pw_dk dc_X2_join 24 rfl) rfl (by decide) ?_
  have z := wp_some h
  exact PZ_lret (pw_dk dc_X2_join 25 rfl) rfl z
def f_X2_join_268  (x1 : Int64) (x3 : Int64) (σ : zS) : Option Int64 := 
  some (x1 * x3)
theorem b_X2_join_268 {Q : Option Value → zS → Prop} (x1 : Int64) (x3 : Int64) (σ : zS) (h : wpO (f_X2_join_268 x1 x3 σ) (fun a => Q (some (.long a)) σ)) : PZ alC mX2_join (0) Q 268 [(1, .long x1), (3, .long x3)] [] σ := by
  unfold f_X2_join_268 at h
  refine PW_lload_n (pc' := 269) (q := 0) (pw_dk dc_X2_join 108 rfl) rfl rfl rfl ?_
  refine PW_lload_n (pc' := 270) (q := 1) (pw_dk dc_X2_join 109 rfl) rfl rfl rfl ?_
  refine PW_lmul (pc' := 271) (pw_dk dc_X2_join 110 rfl) rfl ?_
  have z := wp_some h
  exact PZ_lret (pw_dk dc_X2_join 111 rfl) rfl z
def f_X2_join_257  (x1 : Int64) (x3 : Int64) (s0 : Int64) (s1 : Int64) (s2 : Int64) (σ : zS) : Option Int64 := 
  if s2 = 0 then none else
  if (lg_cmp s0 (s1 / s2)) ≤ 0 then
    f_X2_join_268 x1 x3 σ
  else
    some (-9223372036854775808 : Int64)
theorem b_X2_join_257 {Q : Option Value → zS → Prop} (x1 : Int64) (x3 : Int64) (s0 : Int64) (s1 : Int64) (s2 : Int64) (σ : zS) (h : wpO (f_X2_join_257 x1 x3 s0 s1 s2 σ) (fun a => Q (some (.long a)) σ)) : PZ alC mX2_join (0) Q 257 [(1, .long x1), (3, .long x3)] [.long s2, .long s1, .long s0] σ := by
  unfold f_X2_join_257 at h
  obtain ⟨hz257, h⟩ := wp_dv h
  refine PW_ldiv (pc' := 258) (pw_dk dc_X2_join 103 rfl) rfl hz257 ?_
  refine PW_lcmp (pc' := 259) (pw_dk dc_X2_join 104 rfl) rfl ?_
  refine PW_if_le (pc' := 262) (tgt := 268) (pw_dk dc_X2_join 105 rfl) rfl (by decide) (fun c_1 => ?_) (fun c_1 => ?_)
  · rw [if_pos c_1] at h
    exact b_X2_join_268 x1 x3 σ h
  · rw [if_neg c_1] at h
    refine PW_ldc2 (pc' := 265) (v := (-9223372036854775808 : Int64)) (pw_dk dc_X2_join 106 rfl) rfl tw_946 ?_
    refine PW_goto (tgt := 271) (pw_dk dc_X2_join 107 rfl) (by decide) ?_
    have z := wp_some h
    exact PZ_lret (pw_dk dc_X2_join 111 rfl) rfl z
def f_X2_join_242  (x1 : Int64) (x3 : Int64) (s0 : Int64) (σ : zS) : Option Int64 := 
  if 0 ≤ (lg_cmp x3 0) then
    f_X2_join_257 x1 x3 s0 1000000000000 x3 σ
  else
    f_X2_join_257 x1 x3 s0 1000000000000 (-x3) σ
theorem b_X2_join_242 {Q : Option Value → zS → Prop} (x1 : Int64) (x3 : Int64) (s0 : Int64) (σ : zS) (h : wpO (f_X2_join_242 x1 x3 s0 σ) (fun a => Q (some (.long a)) σ)) : PZ alC mX2_join (0) Q 242 [(1, .long x1), (3, .long x3)] [.long s0] σ := by
  unfold f_X2_join_242 at h
  refine PW_ldc2 (pc' := 245) (v := 1000000000000) (pw_dk dc_X2_join 94 rfl) rfl tw_950 ?_
  refine PW_lload_n (pc' := 246) (q := 1) (pw_dk dc_X2_join 95 rfl) rfl rfl rfl ?_
  refine PW_lconst (pc' := 247) (v := 0) (pw_dk dc_X2_join 96 rfl) rfl (by decide) ?_
  refine PW_lcmp (pc' := 248) (pw_dk dc_X2_join 97 rfl) rfl ?_
  refine PW_if_ge (pc' := 251) (tgt := 256) (pw_dk dc_X2_join 98 rfl) rfl (by decide) (fun c_1 => ?_) (fun c_1 => ?_)
  · rw [if_pos c_1] at h
    refine PW_lload_n (pc' := 257) (q := 1) (pw_dk dc_X2_join 102 rfl) rfl rfl rfl ?_
    exact b_X2_join_257 x1 x3 s0 1000000000000 x3 σ h
  · rw [if_neg c_1] at h
    refine PW_lload_n (pc' := 252) (q := 1) (pw_dk dc_X2_join 99 rfl) rfl rfl rfl ?_
    refine PW_lneg (pc' := 253) (pw_dk dc_X2_join 100 rfl) rfl ?_
    refine PW_goto (tgt := 257) (pw_dk dc_X2_join 101 rfl) (by decide) ?_
    exact b_X2_join_257 x1 x3 s0 1000000000000 (-x3) σ h
def f_X2_join (x0 : Int32) (x1 : Int64) (x3 : Int64) (σ : zS) : Option Int64 := 
  if x0 = 2 then
    if (lg_cmp x1 0) = 0 then
      if (lg_cmp x3 0) = 0 then
        some 0
      else
        f_X2_join_120 σ
    else
      f_X2_join_120 σ
  else if x0 = 3 then
    if (lg_cmp x1 0) = 0 then
      f_X2_join_142 σ
    else
      if (lg_cmp x3 0) = 0 then
        f_X2_join_142 σ
      else
        some 1
  else if x0 = 42 then
    if (lg_cmp x3 0) = 0 then
      f_X2_join_268 x1 x3 σ
    else
      if 0 ≤ (lg_cmp x1 0) then
        f_X2_join_242 x1 x3 x1 σ
      else
        f_X2_join_242 x1 x3 (-x1) σ
  else if x0 = 43 then
    some (x1 + x3)
  else if x0 = 45 then
    some (x1 - x3)
  else if x0 = 47 then
    if (lg_cmp x3 0) = 0 then
      some (-9223372036854775808 : Int64)
    else
      if x3 = 0 then none else
      some (x1 / x3)
  else if x0 = 60 then
    if 0 ≤ (lg_cmp x1 x3) then
      some 0
    else
      some 1
  else if x0 = 61 then
    if (lg_cmp x1 x3) = 0 then
      some 1
    else
      some 0
  else if x0 = 62 then
    if (lg_cmp x1 x3) ≤ 0 then
      some 0
    else
      some 1
  else if x0 = 15421 then
    if 0 < (lg_cmp x1 x3) then
      some 0
    else
      some 1
  else if x0 = 15422 then
    if (lg_cmp x1 x3) = 0 then
      some 0
    else
      some 1
  else if x0 = 15933 then
    if (lg_cmp x1 x3) < 0 then
      some 0
    else
      some 1
  else
    some (-9223372036854775808 : Int64)
theorem t_X2_join (x0 : Int32) (x1 : Int64) (x3 : Int64) (σ : zS) (Q : Option Value → zS → Prop) (h : wpO (f_X2_join x0 x1 x3 σ) (fun a => Q (some (.long a)) σ)) : PK alC yX2_join mX2_join (0) [.int x0, .long x1, .long x3] σ Q := by
  refine PC_ofF (by decide +kernel) rfl rfl (Nat.le_of_ble_eq_true rfl) ?_
  show PZ alC mX2_join (0) Q 0 [(0, .int x0), (1, .long x1), (3, .long x3)] [] σ
  unfold f_X2_join at h
  refine PW_iload_n (pc' := 1) (q := 0) (pw_dk dc_X2_join 0 rfl) rfl rfl rfl ?_
  by_cases c_1 : x0 = 2
  · rw [if_pos c_1] at h
    refine PW_look (tgt := 108) (off := 107) (pw_dk dc_X2_join 1 rfl) (by decide) (by rw [c_1] <;> rfl) (by decide) ?_
    refine PW_lload_n (pc' := 109) (q := 1) (pw_dk dc_X2_join 2 rfl) rfl rfl rfl ?_
    refine PW_lconst (pc' := 110) (v := 0) (pw_dk dc_X2_join 3 rfl) rfl (by decide) ?_
    refine PW_lcmp (pc' := 111) (pw_dk dc_X2_join 4 rfl) rfl ?_
    refine PW_if_ne (pc' := 114) (tgt := 120) (pw_dk dc_X2_join 5 rfl) rfl (by decide) (fun c_2 => ?_) (fun c_2 => ?_)
    · rw [if_neg c_2] at h
      refine PW_sub (lv' := []) [] rfl ?_
      exact b_X2_join_120 σ h
    · rw [if_pos c_2] at h
      refine PW_lload_n (pc' := 115) (q := 2) (pw_dk dc_X2_join 6 rfl) rfl rfl rfl ?_
      refine PW_lconst (pc' := 116) (v := 0) (pw_dk dc_X2_join 7 rfl) rfl (by decide) ?_
      refine PW_lcmp (pc' := 117) (pw_dk dc_X2_join 8 rfl) rfl ?_
      refine PW_if_eq (pc' := 120) (tgt := 124) (pw_dk dc_X2_join 9 rfl) rfl (by decide) (fun c_3 => ?_) (fun c_3 => ?_)
      · rw [if_pos c_3] at h
        refine PW_lconst (pc' := 125) (v := 0) (pw_dk dc_X2_join 12 rfl) rfl (by decide) ?_
        have z := wp_some h
        exact PZ_lret (pw_dk dc_X2_join 13 rfl) rfl z
      · rw [if_neg c_3] at h
        refine PW_sub (lv' := []) [] rfl ?_
        exact b_X2_join_120 σ h
  · rw [if_neg c_1] at h
    by_cases c_4 : x0 = 3
    · rw [if_pos c_4] at h
      refine PW_look (tgt := 126) (off := 125) (pw_dk dc_X2_join 1 rfl) (by decide) (by rw [c_4] <;> rfl) (by decide) ?_
      refine PW_lload_n (pc' := 127) (q := 1) (pw_dk dc_X2_join 14 rfl) rfl rfl rfl ?_
      refine PW_lconst (pc' := 128) (v := 0) (pw_dk dc_X2_join 15 rfl) rfl (by decide) ?_
      refine PW_lcmp (pc' := 129) (pw_dk dc_X2_join 16 rfl) rfl ?_
      refine PW_if_eq (pc' := 132) (tgt := 142) (pw_dk dc_X2_join 17 rfl) rfl (by decide) (fun c_5 => ?_) (fun c_5 => ?_)
      · rw [if_pos c_5] at h
        refine PW_sub (lv' := []) [] rfl ?_
        exact b_X2_join_142 σ h
      · rw [if_neg c_5] at h
        refine PW_lload_n (pc' := 133) (q := 2) (pw_dk dc_X2_join 18 rfl) rfl rfl rfl ?_
        refine PW_lconst (pc' := 134) (v := 0) (pw_dk dc_X2_join 19 rfl) rfl (by decide) ?_
        refine PW_lcmp (pc' := 135) (pw_dk dc_X2_join 20 rfl) rfl ?_
        refine PW_if_eq (pc' := 138) (tgt := 142) (pw_dk dc_X2_join 21 rfl) rfl (by decide) (fun c_6 => ?_) (fun c_6 => ?_)
        · rw [if_pos c_6] at h
          refine PW_sub (lv' := []) [] rfl ?_
          exact b_X2_join_142 σ h
        · rw [if_neg c_6] at h
          refine PW_lconst (pc' := 139) (v := 1) (pw_dk dc_X2_join 22 rfl) rfl (by decide) ?_
          refine PW_goto (tgt := 143) (pw_dk dc_X2_join 23 rfl) (by decide) ?_
          have z := wp_some h
          exact PZ_lret (pw_dk dc_X2_join 25 rfl) rfl z
    · rw [if_neg c_4] at h
      by_cases c_7 : x0 = 42
      · rw [if_pos c_7] at h
        refine PW_look (tgt := 224) (off := 223) (pw_dk dc_X2_join 1 rfl) (by decide) (by rw [c_7] <;> rfl) (by decide) ?_
        refine PW_lload_n (pc' := 225) (q := 2) (pw_dk dc_X2_join 82 rfl) rfl rfl rfl ?_
        refine PW_lconst (pc' := 226) (v := 0) (pw_dk dc_X2_join 83 rfl) rfl (by decide) ?_
        refine PW_lcmp (pc' := 227) (pw_dk dc_X2_join 84 rfl) rfl ?_
        refine PW_if_eq (pc' := 230) (tgt := 268) (pw_dk dc_X2_join 85 rfl) rfl (by decide) (fun c_8 => ?_) (fun c_8 => ?_)
        · rw [if_pos c_8] at h
          refine PW_sub (lv' := [(1, .long x1), (3, .long x3)]) [1, 2] rfl ?_
          exact b_X2_join_268 x1 x3 σ h
        · rw [if_neg c_8] at h
          refine PW_lload_n (pc' := 231) (q := 1) (pw_dk dc_X2_join 86 rfl) rfl rfl rfl ?_
          refine PW_lconst (pc' := 232) (v := 0) (pw_dk dc_X2_join 87 rfl) rfl (by decide) ?_
          refine PW_lcmp (pc' := 233) (pw_dk dc_X2_join 88 rfl) rfl ?_
          refine PW_if_ge (pc' := 236) (tgt := 241) (pw_dk dc_X2_join 89 rfl) rfl (by decide) (fun c_9 => ?_) (fun c_9 => ?_)
          · rw [if_pos c_9] at h
            refine PW_lload_n (pc' := 242) (q := 1) (pw_dk dc_X2_join 93 rfl) rfl rfl rfl ?_
            refine PW_sub (lv' := [(1, .long x1), (3, .long x3)]) [1, 2] rfl ?_
            exact b_X2_join_242 x1 x3 x1 σ h
          · rw [if_neg c_9] at h
            refine PW_lload_n (pc' := 237) (q := 1) (pw_dk dc_X2_join 90 rfl) rfl rfl rfl ?_
            refine PW_lneg (pc' := 238) (pw_dk dc_X2_join 91 rfl) rfl ?_
            refine PW_goto (tgt := 242) (pw_dk dc_X2_join 92 rfl) (by decide) ?_
            refine PW_sub (lv' := [(1, .long x1), (3, .long x3)]) [1, 2] rfl ?_
            exact b_X2_join_242 x1 x3 (-x1) σ h
      · rw [if_neg c_7] at h
        by_cases c_10 : x0 = 43
        · rw [if_pos c_10] at h
          refine PW_look (tgt := 216) (off := 215) (pw_dk dc_X2_join 1 rfl) (by decide) (by rw [c_10] <;> rfl) (by decide) ?_
          refine PW_lload_n (pc' := 217) (q := 1) (pw_dk dc_X2_join 74 rfl) rfl rfl rfl ?_
          refine PW_lload_n (pc' := 218) (q := 2) (pw_dk dc_X2_join 75 rfl) rfl rfl rfl ?_
          refine PW_ladd (pc' := 219) (pw_dk dc_X2_join 76 rfl) rfl ?_
          have z := wp_some h
          exact PZ_lret (pw_dk dc_X2_join 77 rfl) rfl z
        · rw [if_neg c_10] at h
          by_cases c_11 : x0 = 45
          · rw [if_pos c_11] at h
            refine PW_look (tgt := 220) (off := 219) (pw_dk dc_X2_join 1 rfl) (by decide) (by rw [c_11] <;> rfl) (by decide) ?_
            refine PW_lload_n (pc' := 221) (q := 1) (pw_dk dc_X2_join 78 rfl) rfl rfl rfl ?_
            refine PW_lload_n (pc' := 222) (q := 2) (pw_dk dc_X2_join 79 rfl) rfl rfl rfl ?_
            refine PW_lsub (pc' := 223) (pw_dk dc_X2_join 80 rfl) rfl ?_
            have z := wp_some h
            exact PZ_lret (pw_dk dc_X2_join 81 rfl) rfl z
          · rw [if_neg c_11] at h
            by_cases c_12 : x0 = 47
            · rw [if_pos c_12] at h
              refine PW_look (tgt := 272) (off := 271) (pw_dk dc_X2_join 1 rfl) (by decide) (by rw [c_12] <;> rfl) (by decide) ?_
              refine PW_lload_n (pc' := 273) (q := 2) (pw_dk dc_X2_join 112 rfl) rfl rfl rfl ?_
              refine PW_lconst (pc' := 274) (v := 0) (pw_dk dc_X2_join 113 rfl) rfl (by decide) ?_
              refine PW_lcmp (pc' := 275) (pw_dk dc_X2_join 114 rfl) rfl ?_
              refine PW_if_ne (pc' := 278) (tgt := 284) (pw_dk dc_X2_join 115 rfl) rfl (by decide) (fun c_13 => ?_) (fun c_13 => ?_)
              · rw [if_neg c_13] at h
                refine PW_lload_n (pc' := 285) (q := 1) (pw_dk dc_X2_join 118 rfl) rfl rfl rfl ?_
                refine PW_lload_n (pc' := 286) (q := 2) (pw_dk dc_X2_join 119 rfl) rfl rfl rfl ?_
                obtain ⟨hz286, h⟩ := wp_dv h
                refine PW_ldiv (pc' := 287) (pw_dk dc_X2_join 120 rfl) rfl hz286 ?_
                have z := wp_some h
                exact PZ_lret (pw_dk dc_X2_join 121 rfl) rfl z
              · rw [if_pos c_13] at h
                refine PW_ldc2 (pc' := 281) (v := (-9223372036854775808 : Int64)) (pw_dk dc_X2_join 116 rfl) rfl tw_946 ?_
                refine PW_goto (tgt := 287) (pw_dk dc_X2_join 117 rfl) (by decide) ?_
                have z := wp_some h
                exact PZ_lret (pw_dk dc_X2_join 121 rfl) rfl z
            · rw [if_neg c_12] at h
              by_cases c_14 : x0 = 60
              · rw [if_pos c_14] at h
                refine PW_look (tgt := 144) (off := 143) (pw_dk dc_X2_join 1 rfl) (by decide) (by rw [c_14] <;> rfl) (by decide) ?_
                refine PW_lload_n (pc' := 145) (q := 1) (pw_dk dc_X2_join 26 rfl) rfl rfl rfl ?_
                refine PW_lload_n (pc' := 146) (q := 2) (pw_dk dc_X2_join 27 rfl) rfl rfl rfl ?_
                refine PW_lcmp (pc' := 147) (pw_dk dc_X2_join 28 rfl) rfl ?_
                refine PW_if_ge (pc' := 150) (tgt := 154) (pw_dk dc_X2_join 29 rfl) rfl (by decide) (fun c_15 => ?_) (fun c_15 => ?_)
                · rw [if_pos c_15] at h
                  refine PW_lconst (pc' := 155) (v := 0) (pw_dk dc_X2_join 32 rfl) rfl (by decide) ?_
                  have z := wp_some h
                  exact PZ_lret (pw_dk dc_X2_join 33 rfl) rfl z
                · rw [if_neg c_15] at h
                  refine PW_lconst (pc' := 151) (v := 1) (pw_dk dc_X2_join 30 rfl) rfl (by decide) ?_
                  refine PW_goto (tgt := 155) (pw_dk dc_X2_join 31 rfl) (by decide) ?_
                  have z := wp_some h
                  exact PZ_lret (pw_dk dc_X2_join 33 rfl) rfl z
              · rw [if_neg c_14] at h
                by_cases c_16 : x0 = 61
                · rw [if_pos c_16] at h
                  refine PW_look (tgt := 168) (off := 167) (pw_dk dc_X2_join 1 rfl) (by decide) (by rw [c_16] <;> rfl) (by decide) ?_
                  refine PW_lload_n (pc' := 169) (q := 1) (pw_dk dc_X2_join 42 rfl) rfl rfl rfl ?_
                  refine PW_lload_n (pc' := 170) (q := 2) (pw_dk dc_X2_join 43 rfl) rfl rfl rfl ?_
                  refine PW_lcmp (pc' := 171) (pw_dk dc_X2_join 44 rfl) rfl ?_
                  refine PW_if_ne (pc' := 174) (tgt := 178) (pw_dk dc_X2_join 45 rfl) rfl (by decide) (fun c_17 => ?_) (fun c_17 => ?_)
                  · rw [if_neg c_17] at h
                    refine PW_lconst (pc' := 179) (v := 0) (pw_dk dc_X2_join 48 rfl) rfl (by decide) ?_
                    have z := wp_some h
                    exact PZ_lret (pw_dk dc_X2_join 49 rfl) rfl z
                  · rw [if_pos c_17] at h
                    refine PW_lconst (pc' := 175) (v := 1) (pw_dk dc_X2_join 46 rfl) rfl (by decide) ?_
                    refine PW_goto (tgt := 179) (pw_dk dc_X2_join 47 rfl) (by decide) ?_
                    have z := wp_some h
                    exact PZ_lret (pw_dk dc_X2_join 49 rfl) rfl z
                · rw [if_neg c_16] at h
                  by_cases c_18 : x0 = 62
                  · rw [if_pos c_18] at h
                    refine PW_look (tgt := 204) (off := 203) (pw_dk dc_X2_join 1 rfl) (by decide) (by rw [c_18] <;> rfl) (by decide) ?_
                    refine PW_lload_n (pc' := 205) (q := 1) (pw_dk dc_X2_join 66 rfl) rfl rfl rfl ?_
                    refine PW_lload_n (pc' := 206) (q := 2) (pw_dk dc_X2_join 67 rfl) rfl rfl rfl ?_
                    refine PW_lcmp (pc' := 207) (pw_dk dc_X2_join 68 rfl) rfl ?_
                    refine PW_if_le (pc' := 210) (tgt := 214) (pw_dk dc_X2_join 69 rfl) rfl (by decide) (fun c_19 => ?_) (fun c_19 => ?_)
                    · rw [if_pos c_19] at h
                      refine PW_lconst (pc' := 215) (v := 0) (pw_dk dc_X2_join 72 rfl) rfl (by decide) ?_
                      have z := wp_some h
                      exact PZ_lret (pw_dk dc_X2_join 73 rfl) rfl z
                    · rw [if_neg c_19] at h
                      refine PW_lconst (pc' := 211) (v := 1) (pw_dk dc_X2_join 70 rfl) rfl (by decide) ?_
                      refine PW_goto (tgt := 215) (pw_dk dc_X2_join 71 rfl) (by decide) ?_
                      have z := wp_some h
                      exact PZ_lret (pw_dk dc_X2_join 73 rfl) rfl z
                  · rw [if_neg c_18] at h
                    by_cases c_20 : x0 = 15421
                    · rw [if_pos c_20] at h
                      refine PW_look (tgt := 156) (off := 155) (pw_dk dc_X2_join 1 rfl) (by decide) (by rw [c_20] <;> rfl) (by decide) ?_
                      refine PW_lload_n (pc' := 157) (q := 1) (pw_dk dc_X2_join 34 rfl) rfl rfl rfl ?_
                      refine PW_lload_n (pc' := 158) (q := 2) (pw_dk dc_X2_join 35 rfl) rfl rfl rfl ?_
                      refine PW_lcmp (pc' := 159) (pw_dk dc_X2_join 36 rfl) rfl ?_
                      refine PW_if_gt (pc' := 162) (tgt := 166) (pw_dk dc_X2_join 37 rfl) rfl (by decide) (fun c_21 => ?_) (fun c_21 => ?_)
                      · rw [if_pos c_21] at h
                        refine PW_lconst (pc' := 167) (v := 0) (pw_dk dc_X2_join 40 rfl) rfl (by decide) ?_
                        have z := wp_some h
                        exact PZ_lret (pw_dk dc_X2_join 41 rfl) rfl z
                      · rw [if_neg c_21] at h
                        refine PW_lconst (pc' := 163) (v := 1) (pw_dk dc_X2_join 38 rfl) rfl (by decide) ?_
                        refine PW_goto (tgt := 167) (pw_dk dc_X2_join 39 rfl) (by decide) ?_
                        have z := wp_some h
                        exact PZ_lret (pw_dk dc_X2_join 41 rfl) rfl z
                    · rw [if_neg c_20] at h
                      by_cases c_22 : x0 = 15422
                      · rw [if_pos c_22] at h
                        refine PW_look (tgt := 180) (off := 179) (pw_dk dc_X2_join 1 rfl) (by decide) (by rw [c_22] <;> rfl) (by decide) ?_
                        refine PW_lload_n (pc' := 181) (q := 1) (pw_dk dc_X2_join 50 rfl) rfl rfl rfl ?_
                        refine PW_lload_n (pc' := 182) (q := 2) (pw_dk dc_X2_join 51 rfl) rfl rfl rfl ?_
                        refine PW_lcmp (pc' := 183) (pw_dk dc_X2_join 52 rfl) rfl ?_
                        refine PW_if_eq (pc' := 186) (tgt := 190) (pw_dk dc_X2_join 53 rfl) rfl (by decide) (fun c_23 => ?_) (fun c_23 => ?_)
                        · rw [if_pos c_23] at h
                          refine PW_lconst (pc' := 191) (v := 0) (pw_dk dc_X2_join 56 rfl) rfl (by decide) ?_
                          have z := wp_some h
                          exact PZ_lret (pw_dk dc_X2_join 57 rfl) rfl z
                        · rw [if_neg c_23] at h
                          refine PW_lconst (pc' := 187) (v := 1) (pw_dk dc_X2_join 54 rfl) rfl (by decide) ?_
                          refine PW_goto (tgt := 191) (pw_dk dc_X2_join 55 rfl) (by decide) ?_
                          have z := wp_some h
                          exact PZ_lret (pw_dk dc_X2_join 57 rfl) rfl z
                      · rw [if_neg c_22] at h
                        by_cases c_24 : x0 = 15933
                        · rw [if_pos c_24] at h
                          refine PW_look (tgt := 192) (off := 191) (pw_dk dc_X2_join 1 rfl) (by decide) (by rw [c_24] <;> rfl) (by decide) ?_
                          refine PW_lload_n (pc' := 193) (q := 1) (pw_dk dc_X2_join 58 rfl) rfl rfl rfl ?_
                          refine PW_lload_n (pc' := 194) (q := 2) (pw_dk dc_X2_join 59 rfl) rfl rfl rfl ?_
                          refine PW_lcmp (pc' := 195) (pw_dk dc_X2_join 60 rfl) rfl ?_
                          refine PW_if_lt (pc' := 198) (tgt := 202) (pw_dk dc_X2_join 61 rfl) rfl (by decide) (fun c_25 => ?_) (fun c_25 => ?_)
                          · rw [if_pos c_25] at h
                            refine PW_lconst (pc' := 203) (v := 0) (pw_dk dc_X2_join 64 rfl) rfl (by decide) ?_
                            have z := wp_some h
                            exact PZ_lret (pw_dk dc_X2_join 65 rfl) rfl z
                          · rw [if_neg c_25] at h
                            refine PW_lconst (pc' := 199) (v := 1) (pw_dk dc_X2_join 62 rfl) rfl (by decide) ?_
                            refine PW_goto (tgt := 203) (pw_dk dc_X2_join 63 rfl) (by decide) ?_
                            have z := wp_some h
                            exact PZ_lret (pw_dk dc_X2_join 65 rfl) rfl z
                        · rw [if_neg c_24] at h
                          have kc_1 := pw_ne c_1 (show (2 : Int32).toInt = 2 by decide)
                          have kc_4 := pw_ne c_4 (show (3 : Int32).toInt = 3 by decide)
                          have kc_7 := pw_ne c_7 (show (42 : Int32).toInt = 42 by decide)
                          have kc_10 := pw_ne c_10 (show (43 : Int32).toInt = 43 by decide)
                          have kc_11 := pw_ne c_11 (show (45 : Int32).toInt = 45 by decide)
                          have kc_12 := pw_ne c_12 (show (47 : Int32).toInt = 47 by decide)
                          have kc_14 := pw_ne c_14 (show (60 : Int32).toInt = 60 by decide)
                          have kc_16 := pw_ne c_16 (show (61 : Int32).toInt = 61 by decide)
                          have kc_18 := pw_ne c_18 (show (62 : Int32).toInt = 62 by decide)
                          have kc_20 := pw_ne c_20 (show (15421 : Int32).toInt = 15421 by decide)
                          have kc_22 := pw_ne c_22 (show (15422 : Int32).toInt = 15422 by decide)
                          have kc_24 := pw_ne c_24 (show (15933 : Int32).toInt = 15933 by decide)
                          refine PW_look (tgt := 288) (off := 287) (pw_dk dc_X2_join 1 rfl) (by decide) (by simp [Op.lookupswitch.offset, kc_1, kc_4, kc_7, kc_10, kc_11, kc_12, kc_14, kc_16, kc_18, kc_20, kc_22, kc_24, Ne.symm kc_1, Ne.symm kc_4, Ne.symm kc_7, Ne.symm kc_10, Ne.symm kc_11, Ne.symm kc_12, Ne.symm kc_14, Ne.symm kc_16, Ne.symm kc_18, Ne.symm kc_20, Ne.symm kc_22, Ne.symm kc_24]) (by decide) ?_
                          refine PW_ldc2 (pc' := 291) (v := (-9223372036854775808 : Int64)) (pw_dk dc_X2_join 122 rfl) rfl tw_946 ?_
                          have z := wp_some h
                          exact PZ_lret (pw_dk dc_X2_join 123 rfl) rfl z
def f_X2_workOut_208 (b : Bool) (r21 : Int32 → Int32 → Int32 → zS → Option (Int64 × zS)) (x1 : Int32) (x2 : Int32) (x3 : Int32) (σ : zS) : Option (Int64 × zS) := 
  r21 x1 x2 (x3 + 1) σ
theorem b_X2_workOut_208 {Q : Option Value → zS → Prop} (b : Bool) (r21 : Int32 → Int32 → Int32 → zS → Option (Int64 × zS)) (hr21 : ∀ (x1 : Int32) (x2 : Int32) (x3 : Int32) (σ : zS), wpO (r21 x1 x2 x3 σ) (fun a => Q (some (.long a.1)) a.2) → PZ alC mX2_workOut (1) Q 21 [(0, .ref (tl b)), (1, .int x1), (2, .int x2), (3, .int x3)] [] σ) (x1 : Int32) (x2 : Int32) (x3 : Int32) (σ : zS) (h : wpO (f_X2_workOut_208 b r21 x1 x2 x3 σ) (fun a => Q (some (.long a.1)) a.2)) : PZ alC mX2_workOut (1) Q 208 [(0, .ref (tl b)), (1, .int x1), (2, .int x2), (3, .int x3)] [] σ := by
  unfold f_X2_workOut_208 at h
  refine PW_iinc (pc' := 211) (q := 3) (v := x3 + 1) (lv' := [(3, .int (x3 + 1)), (0, .ref (tl b)), (1, .int x1), (2, .int x2)]) (pw_dk dc_X2_workOut 119 rfl) rfl rfl rfl (by decide) rfl ?_
  refine PW_goto (tgt := 21) (pw_dk dc_X2_workOut 120 rfl) (by decide) ?_
  refine PW_sub (lv' := [(0, .ref (tl b)), (1, .int x1), (2, .int x2), (3, .int (x3 + 1))]) [1, 2, 3, 0] rfl ?_
  exact hr21 x1 x2 (x3 + 1) σ h
def f_X2_workOut_92 (b : Bool) (r21 : Int32 → Int32 → Int32 → zS → Option (Int64 × zS)) (x1 : Int32) (x2 : Int32) (x3 : Int32) (s1 : Int32) (s2 : Int64) (σ : zS) : Option (Int64 × zS) := 
  (wrL σ (tl b + 7) 64 s1 s2).bind fun σ_1 =>
  f_X2_workOut_208 b r21 x1 (x2 + 1) x3 σ_1
theorem b_X2_workOut_92 {Q : Option Value → zS → Prop} (b : Bool) (r21 : Int32 → Int32 → Int32 → zS → Option (Int64 × zS)) (hr21 : ∀ (x1 : Int32) (x2 : Int32) (x3 : Int32) (σ : zS), wpO (r21 x1 x2 x3 σ) (fun a => Q (some (.long a.1)) a.2) → PZ alC mX2_workOut (1) Q 21 [(0, .ref (tl b)), (1, .int x1), (2, .int x2), (3, .int x3)] [] σ) (x1 : Int32) (x2 : Int32) (x3 : Int32) (s1 : Int32) (s2 : Int64) (σ : zS) (h : wpO (f_X2_workOut_92 b r21 x1 x2 x3 s1 s2 σ) (fun a => Q (some (.long a.1)) a.2)) : PZ alC mX2_workOut (1) Q 92 [(0, .ref (tl b)), (1, .int x1), (2, .int x2), (3, .int x3)] [.long s2, .int s1, .ref (tl b + 7)] σ := by
  unfold f_X2_workOut_92 at h
  obtain ⟨σ_1, hi_2, e_3, h⟩ := wp_wrLx h
  refine PZ_lastx (pc' := 93) (σ' := σ_1) (id := (tl b + 7)) (nn := 64) (pw_dk dc_X2_workOut 53 rfl) rfl (me_L6 _) hi_2 e_3 ?_
  refine PW_iinc (pc' := 96) (q := 2) (v := x2 + 1) (lv' := [(2, .int (x2 + 1)), (0, .ref (tl b)), (1, .int x1), (3, .int x3)]) (pw_dk dc_X2_workOut 54 rfl) rfl rfl rfl (by decide) rfl ?_
  refine PW_goto (tgt := 208) (pw_dk dc_X2_workOut 55 rfl) (by decide) ?_
  refine PW_sub (lv' := [(0, .ref (tl b)), (1, .int x1), (2, .int (x2 + 1)), (3, .int x3)]) [1, 2, 0, 3] rfl ?_
  exact b_X2_workOut_208 b r21 hr21 x1 (x2 + 1) x3 σ_1 h
def f_X2_workOut_50 (b : Bool) (r21 : Int32 → Int32 → Int32 → zS → Option (Int64 × zS)) (x1 : Int32) (x2 : Int32) (x3 : Int32) (x4 : Int32) (σ : zS) : Option (Int64 × zS) := 
  if x2 < 64 then
    if x4 = 0 then
      (rdI σ (tl b + 4) 64 x3).bind fun v_9 =>
      f_X2_workOut_92 b r21 x1 x2 x3 x2 v_9.toInt64 σ
    else
      (rdI σ (tl b + 4) 64 x3).bind fun v_3 =>
      (rdI σ (tl b + 8) 7 v_3).bind fun v_6 =>
      f_X2_workOut_92 b r21 x1 x2 x3 x2 v_6.toInt64 σ
  else
    some ((-9223372036854775808 : Int64), σ)
theorem b_X2_workOut_50 {Q : Option Value → zS → Prop} (b : Bool) (r21 : Int32 → Int32 → Int32 → zS → Option (Int64 × zS)) (hr21 : ∀ (x1 : Int32) (x2 : Int32) (x3 : Int32) (σ : zS), wpO (r21 x1 x2 x3 σ) (fun a => Q (some (.long a.1)) a.2) → PZ alC mX2_workOut (1) Q 21 [(0, .ref (tl b)), (1, .int x1), (2, .int x2), (3, .int x3)] [] σ) (x1 : Int32) (x2 : Int32) (x3 : Int32) (x4 : Int32) (σ : zS) (h : wpO (f_X2_workOut_50 b r21 x1 x2 x3 x4 σ) (fun a => Q (some (.long a.1)) a.2)) : PZ alC mX2_workOut (1) Q 50 [(0, .ref (tl b)), (1, .int x1), (2, .int x2), (3, .int x3), (4, .int x4)] [] σ := by
  unfold f_X2_workOut_50 at h
  refine PW_iload_n (pc' := 51) (q := 2) (pw_dk dc_X2_workOut 29 rfl) rfl rfl rfl ?_
  refine PW_bipush (pc' := 53) (v := 64) (pw_dk dc_X2_workOut 30 rfl) rfl (by decide) ?_
  refine PW_icmp_lt (pc' := 56) (tgt := 60) (pw_dk dc_X2_workOut 31 rfl) rfl (by decide) (fun c_1 => ?_) (fun c_1 => ?_)
  · rw [if_pos c_1] at h
    refine PW_aload_n (pc' := 61) (q := 0) (pw_dk dc_X2_workOut 34 rfl) rfl rfl rfl ?_
    refine PW_getR (pc' := 64) (id := (tl b)) (ci := 2) (nn := 0) (C0 := RX2) (T := TX2) (N := 8) (j := 6) (r := tl b + 7) (pw_dk dc_X2_workOut 35 rfl) rfl (me_L b) rfl pi_2 (by decide) fk_2_6 tw_174 (rf_L6 _ _) (su0 _ _) ?_
    refine PW_iload_n (pc' := 65) (q := 2) (pw_dk dc_X2_workOut 36 rfl) rfl rfl rfl ?_
    refine PW_iload (pc' := 67) (q := 4) (pw_dk dc_X2_workOut 37 rfl) rfl rfl ?_
    refine PW_if_ne (pc' := 70) (tgt := 80) (pw_dk dc_X2_workOut 38 rfl) rfl (by decide) (fun c_2 => ?_) (fun c_2 => ?_)
    · rw [if_neg c_2] at h
      refine PW_aload_n (pc' := 81) (q := 0) (pw_dk dc_X2_workOut 45 rfl) rfl rfl rfl ?_
      refine PW_getR (pc' := 84) (id := (tl b)) (ci := 2) (nn := 0) (C0 := RX2) (T := TX2) (N := 8) (j := 7) (r := tl b + 8) (pw_dk dc_X2_workOut 46 rfl) rfl (me_L b) rfl pi_2 (by decide) fk_2_7 tw_175 (rf_L7 _ _) (su0 _ _) ?_
      refine PW_aload_n (pc' := 85) (q := 0) (pw_dk dc_X2_workOut 47 rfl) rfl rfl rfl ?_
      refine PW_getR (pc' := 88) (id := (tl b)) (ci := 2) (nn := 0) (C0 := RX2) (T := TX2) (N := 8) (j := 3) (r := tl b + 4) (pw_dk dc_X2_workOut 48 rfl) rfl (me_L b) rfl pi_2 (by decide) fk_2_3 tw_171 (rf_L3 _ _) (su0 _ _) ?_
      refine PW_iload_n (pc' := 89) (q := 3) (pw_dk dc_X2_workOut 49 rfl) rfl rfl rfl ?_
      obtain ⟨v_3, hi_4, e_5, h⟩ := wp_rdIx h
      refine PZ_ialdx (pc' := 90) (v := v_3) (id := (tl b + 4)) (nn := 64) (pw_dk dc_X2_workOut 50 rfl) rfl (me_L3 _) hi_4 e_5 ?_
      obtain ⟨v_6, hi_7, e_8, h⟩ := wp_rdIx h
      refine PZ_ialdx (pc' := 91) (v := v_6) (id := (tl b + 8)) (nn := 7) (pw_dk dc_X2_workOut 51 rfl) rfl (me_L7 _) hi_7 e_8 ?_
      refine PW_i2l (pc' := 92) (pw_dk dc_X2_workOut 52 rfl) rfl ?_
      refine PW_sub (lv' := [(0, .ref (tl b)), (1, .int x1), (2, .int x2), (3, .int x3)]) [0, 1, 2, 3] rfl ?_
      exact b_X2_workOut_92 b r21 hr21 x1 x2 x3 x2 v_6.toInt64 σ h
    · rw [if_pos c_2] at h
      refine PW_aload_n (pc' := 71) (q := 0) (pw_dk dc_X2_workOut 39 rfl) rfl rfl rfl ?_
      refine PW_getR (pc' := 74) (id := (tl b)) (ci := 2) (nn := 0) (C0 := RX2) (T := TX2) (N := 8) (j := 3) (r := tl b + 4) (pw_dk dc_X2_workOut 40 rfl) rfl (me_L b) rfl pi_2 (by decide) fk_2_3 tw_171 (rf_L3 _ _) (su0 _ _) ?_
      refine PW_iload_n (pc' := 75) (q := 3) (pw_dk dc_X2_workOut 41 rfl) rfl rfl rfl ?_
      obtain ⟨v_9, hi_10, e_11, h⟩ := wp_rdIx h
      refine PZ_ialdx (pc' := 76) (v := v_9) (id := (tl b + 4)) (nn := 64) (pw_dk dc_X2_workOut 42 rfl) rfl (me_L3 _) hi_10 e_11 ?_
      refine PW_i2l (pc' := 77) (pw_dk dc_X2_workOut 43 rfl) rfl ?_
      refine PW_goto (tgt := 92) (pw_dk dc_X2_workOut 44 rfl) (by decide) ?_
      refine PW_sub (lv' := [(0, .ref (tl b)), (1, .int x1), (2, .int x2), (3, .int x3)]) [0, 1, 2, 3] rfl ?_
      exact b_X2_workOut_92 b r21 hr21 x1 x2 x3 x2 v_9.toInt64 σ h
  · rw [if_neg c_1] at h
    refine PW_ldc2 (pc' := 59) (v := (-9223372036854775808 : Int64)) (pw_dk dc_X2_workOut 32 rfl) rfl tw_946 ?_
    have z := wp_some h
    exact PZ_lret (pw_dk dc_X2_workOut 33 rfl) rfl z
def f_X2_workOut_139 (b : Bool) (r21 : Int32 → Int32 → Int32 → zS → Option (Int64 × zS)) (x1 : Int32) (x2 : Int32) (x3 : Int32) (s1 : Int32) (s2 : Int64) (σ : zS) : Option (Int64 × zS) := 
  (wrL σ (tl b + 7) 64 s1 s2).bind fun σ_1 =>
  f_X2_workOut_208 b r21 x1 x2 x3 σ_1
theorem b_X2_workOut_139 {Q : Option Value → zS → Prop} (b : Bool) (r21 : Int32 → Int32 → Int32 → zS → Option (Int64 × zS)) (hr21 : ∀ (x1 : Int32) (x2 : Int32) (x3 : Int32) (σ : zS), wpO (r21 x1 x2 x3 σ) (fun a => Q (some (.long a.1)) a.2) → PZ alC mX2_workOut (1) Q 21 [(0, .ref (tl b)), (1, .int x1), (2, .int x2), (3, .int x3)] [] σ) (x1 : Int32) (x2 : Int32) (x3 : Int32) (s1 : Int32) (s2 : Int64) (σ : zS) (h : wpO (f_X2_workOut_139 b r21 x1 x2 x3 s1 s2 σ) (fun a => Q (some (.long a.1)) a.2)) : PZ alC mX2_workOut (1) Q 139 [(0, .ref (tl b)), (1, .int x1), (2, .int x2), (3, .int x3)] [.long s2, .int s1, .ref (tl b + 7)] σ := by
  unfold f_X2_workOut_139 at h
  obtain ⟨σ_1, hi_2, e_3, h⟩ := wp_wrLx h
  refine PZ_lastx (pc' := 140) (σ' := σ_1) (id := (tl b + 7)) (nn := 64) (pw_dk dc_X2_workOut 81 rfl) rfl (me_L6 _) hi_2 e_3 ?_
  refine PW_goto (tgt := 208) (pw_dk dc_X2_workOut 82 rfl) (by decide) ?_
  exact b_X2_workOut_208 b r21 hr21 x1 x2 x3 σ_1 h
def f_X2_workOut_194 (b : Bool)  (σ : zS) : Option (Int64 × zS) := 
  some ((-9223372036854775808 : Int64), σ)
theorem b_X2_workOut_194 {Q : Option Value → zS → Prop} (b : Bool)  (σ : zS) (h : wpO (f_X2_workOut_194 b σ) (fun a => Q (some (.long a.1)) a.2)) : PZ alC mX2_workOut (1) Q 194 [] [] σ := by
  unfold f_X2_workOut_194 at h
  refine PW_ldc2 (pc' := 197) (v := (-9223372036854775808 : Int64)) (pw_dk dc_X2_workOut 110 rfl) rfl tw_946 ?_
  have z := wp_some h
  exact PZ_lret (pw_dk dc_X2_workOut 111 rfl) rfl z
def f_X2_workOut_21 (b : Bool) : Nat → Int32 → Int32 → Int32 → zS → Option (Int64 × zS)
  | 0, _, _, _, _ => none
  | n + 1, x1, x2, x3, σ => 
    (rdI σ (tl b + 6) 3 x1).bind fun v_1 =>
    if v_1 ≤ x3 then
      if x2 = 1 then
        (rdL σ (tl b + 7) 64 0).bind fun v_6 =>
        some (v_6, σ)
      else
        some ((-9223372036854775808 : Int64), σ)
    else
      (rdI σ (tl b + 3) 64 x3).bind fun v_9 =>
      if v_9 = 0 then
        f_X2_workOut_50 b (f_X2_workOut_21 b n) x1 x2 x3 v_9 σ
      else
        if v_9 = 1 then
          f_X2_workOut_50 b (f_X2_workOut_21 b n) x1 x2 x3 v_9 σ
        else
          if v_9 = 4 then
            if 1 ≤ x2 then
              (rdL σ (tl b + 7) 64 (x2 - (1 : Int32))).bind fun v_31 =>
              if (lg_cmp v_31 0) = 0 then
                f_X2_workOut_139 b (f_X2_workOut_21 b n) x1 x2 x3 (x2 - (1 : Int32)) 1 σ
              else
                f_X2_workOut_139 b (f_X2_workOut_21 b n) x1 x2 x3 (x2 - (1 : Int32)) 0 σ
            else
              some ((-9223372036854775808 : Int64), σ)
          else
            if 2 ≤ x2 then
              (rdL σ (tl b + 7) 64 ((x2 + (-1 : Int32)) - (1 : Int32))).bind fun v_16 =>
              (rdL σ (tl b + 7) 64 (x2 + (-1 : Int32))).bind fun v_19 =>
              (f_X2_join v_9 v_16 v_19 σ).bind fun v_23 =>
              if 0 < (lg_cmp v_23 1000000000000) then
                f_X2_workOut_194 b σ
              else
                if 0 ≤ (lg_cmp v_23 (-1000000000000 : Int64)) then
                  (wrL σ (tl b + 7) 64 ((x2 + (-1 : Int32)) - (1 : Int32)) v_23).bind fun σ_27 =>
                  f_X2_workOut_208 b (f_X2_workOut_21 b n) x1 (x2 + (-1 : Int32)) x3 σ_27
                else
                  f_X2_workOut_194 b σ
            else
              some ((-9223372036854775808 : Int64), σ)
theorem b_X2_workOut_21 {Q : Option Value → zS → Prop} (b : Bool) : ∀ (n : Nat) (x1 : Int32) (x2 : Int32) (x3 : Int32) (σ : zS) (h : wpO (f_X2_workOut_21 b n x1 x2 x3 σ) (fun a => Q (some (.long a.1)) a.2)), PZ alC mX2_workOut (1) Q 21 [(0, .ref (tl b)), (1, .int x1), (2, .int x2), (3, .int x3)] [] σ := by
  intro n
  induction n with
  | zero => intro x1 x2 x3 σ h; exact wp_none h
  | succ n ih =>
    intro x1 x2 x3 σ h
    rw [f_X2_workOut_21] at h
    refine PW_iload_n (pc' := 22) (q := 3) (pw_dk dc_X2_workOut 13 rfl) rfl rfl rfl ?_
    refine PW_aload_n (pc' := 23) (q := 0) (pw_dk dc_X2_workOut 14 rfl) rfl rfl rfl ?_
    refine PW_getR (pc' := 26) (id := (tl b)) (ci := 2) (nn := 0) (C0 := RX2) (T := TX2) (N := 8) (j := 5) (r := tl b + 6) (pw_dk dc_X2_workOut 15 rfl) rfl (me_L b) rfl pi_2 (by decide) fk_2_5 tw_173 (rf_L5 _ _) (su0 _ _) ?_
    refine PW_iload_n (pc' := 27) (q := 1) (pw_dk dc_X2_workOut 16 rfl) rfl rfl rfl ?_
    obtain ⟨v_1, hi_2, e_3, h⟩ := wp_rdIx h
    refine PZ_ialdx (pc' := 28) (v := v_1) (id := (tl b + 6)) (nn := 3) (pw_dk dc_X2_workOut 17 rfl) rfl (me_L5 _) hi_2 e_3 ?_
    refine PW_icmp_ge (pc' := 31) (tgt := 214) (pw_dk dc_X2_workOut 18 rfl) rfl (by decide) (fun c_4 => ?_) (fun c_4 => ?_)
    · rw [if_pos c_4] at h
      refine PW_iload_n (pc' := 215) (q := 2) (pw_dk dc_X2_workOut 121 rfl) rfl rfl rfl ?_
      refine PW_iconst (pc' := 216) (v := 1) (pw_dk dc_X2_workOut 122 rfl) rfl (by decide) ?_
      refine PW_icmp_ne (pc' := 219) (tgt := 228) (pw_dk dc_X2_workOut 123 rfl) rfl (by decide) (fun c_5 => ?_) (fun c_5 => ?_)
      · rw [if_neg c_5] at h
        refine PW_ldc2 (pc' := 231) (v := (-9223372036854775808 : Int64)) (pw_dk dc_X2_workOut 129 rfl) rfl tw_946 ?_
        have z := wp_some h
        exact PZ_lret (pw_dk dc_X2_workOut 130 rfl) rfl z
      · rw [if_pos c_5] at h
        refine PW_aload_n (pc' := 220) (q := 0) (pw_dk dc_X2_workOut 124 rfl) rfl rfl rfl ?_
        refine PW_getR (pc' := 223) (id := (tl b)) (ci := 2) (nn := 0) (C0 := RX2) (T := TX2) (N := 8) (j := 6) (r := tl b + 7) (pw_dk dc_X2_workOut 125 rfl) rfl (me_L b) rfl pi_2 (by decide) fk_2_6 tw_174 (rf_L6 _ _) (su0 _ _) ?_
        refine PW_iconst (pc' := 224) (v := 0) (pw_dk dc_X2_workOut 126 rfl) rfl (by decide) ?_
        obtain ⟨v_6, hi_7, e_8, h⟩ := wp_rdLx h
        refine PZ_laldx (pc' := 225) (v := v_6) (id := (tl b + 7)) (nn := 64) (pw_dk dc_X2_workOut 127 rfl) rfl (me_L6 _) hi_7 e_8 ?_
        refine PW_goto (tgt := 231) (pw_dk dc_X2_workOut 128 rfl) (by decide) ?_
        have z := wp_some h
        exact PZ_lret (pw_dk dc_X2_workOut 130 rfl) rfl z
    · rw [if_neg c_4] at h
      refine PW_aload_n (pc' := 32) (q := 0) (pw_dk dc_X2_workOut 19 rfl) rfl rfl rfl ?_
      refine PW_getR (pc' := 35) (id := (tl b)) (ci := 2) (nn := 0) (C0 := RX2) (T := TX2) (N := 8) (j := 2) (r := tl b + 3) (pw_dk dc_X2_workOut 20 rfl) rfl (me_L b) rfl pi_2 (by decide) fk_2_2 tw_170 (rf_L2 _ _) (su0 _ _) ?_
      refine PW_iload_n (pc' := 36) (q := 3) (pw_dk dc_X2_workOut 21 rfl) rfl rfl rfl ?_
      obtain ⟨v_9, hi_10, e_11, h⟩ := wp_rdIx h
      refine PZ_ialdx (pc' := 37) (v := v_9) (id := (tl b + 3)) (nn := 64) (pw_dk dc_X2_workOut 22 rfl) rfl (me_L2 _) hi_10 e_11 ?_
      refine PW_istore (pc' := 39) (lv' := [(4, .int v_9), (0, .ref (tl b)), (1, .int x1), (2, .int x2), (3, .int x3)]) (pw_dk dc_X2_workOut 23 rfl) rfl (by decide) rfl ?_
      refine PW_iload (pc' := 41) (q := 0) (pw_dk dc_X2_workOut 24 rfl) rfl rfl ?_
      refine PW_if_eq (pc' := 44) (tgt := 50) (pw_dk dc_X2_workOut 25 rfl) rfl (by decide) (fun c_12 => ?_) (fun c_12 => ?_)
      · rw [if_pos c_12] at h
        refine PW_sub (lv' := [(0, .ref (tl b)), (1, .int x1), (2, .int x2), (3, .int x3), (4, .int v_9)]) [1, 2, 3, 4, 0] rfl ?_
        exact b_X2_workOut_50 b (f_X2_workOut_21 b n) ih x1 x2 x3 v_9 σ h
      · rw [if_neg c_12] at h
        refine PW_iload (pc' := 46) (q := 0) (pw_dk dc_X2_workOut 26 rfl) rfl rfl ?_
        refine PW_iconst (pc' := 47) (v := 1) (pw_dk dc_X2_workOut 27 rfl) rfl (by decide) ?_
        refine PW_icmp_ne (pc' := 50) (tgt := 99) (pw_dk dc_X2_workOut 28 rfl) rfl (by decide) (fun c_13 => ?_) (fun c_13 => ?_)
        · rw [if_neg c_13] at h
          refine PW_iload (pc' := 101) (q := 0) (pw_dk dc_X2_workOut 56 rfl) rfl rfl ?_
          refine PW_iconst (pc' := 102) (v := 4) (pw_dk dc_X2_workOut 57 rfl) rfl (by decide) ?_
          refine PW_icmp_ne (pc' := 105) (tgt := 143) (pw_dk dc_X2_workOut 58 rfl) rfl (by decide) (fun c_14 => ?_) (fun c_14 => ?_)
          · rw [if_neg c_14] at h
            refine PW_iload_n (pc' := 144) (q := 3) (pw_dk dc_X2_workOut 83 rfl) rfl rfl rfl ?_
            refine PW_iconst (pc' := 145) (v := 2) (pw_dk dc_X2_workOut 84 rfl) rfl (by decide) ?_
            refine PW_icmp_ge (pc' := 148) (tgt := 152) (pw_dk dc_X2_workOut 85 rfl) rfl (by decide) (fun c_15 => ?_) (fun c_15 => ?_)
            · rw [if_pos c_15] at h
              refine PW_iinc (pc' := 155) (q := 3) (v := x2 + (-1 : Int32)) (lv' := [(2, .int (x2 + (-1 : Int32))), (4, .int v_9), (0, .ref (tl b)), (1, .int x1), (3, .int x3)]) (pw_dk dc_X2_workOut 88 rfl) rfl rfl rfl (by decide) rfl ?_
              refine PW_iload (pc' := 157) (q := 1) (pw_dk dc_X2_workOut 89 rfl) rfl rfl ?_
              refine PW_aload_n (pc' := 158) (q := 2) (pw_dk dc_X2_workOut 90 rfl) rfl rfl rfl ?_
              refine PW_getR (pc' := 161) (id := (tl b)) (ci := 2) (nn := 0) (C0 := RX2) (T := TX2) (N := 8) (j := 6) (r := tl b + 7) (pw_dk dc_X2_workOut 91 rfl) rfl (me_L b) rfl pi_2 (by decide) fk_2_6 tw_174 (rf_L6 _ _) (su0 _ _) ?_
              refine PW_iload_n (pc' := 162) (q := 0) (pw_dk dc_X2_workOut 92 rfl) rfl rfl rfl ?_
              refine PW_iconst (pc' := 163) (v := 1) (pw_dk dc_X2_workOut 93 rfl) rfl (by decide) ?_
              refine PW_isub (pc' := 164) (pw_dk dc_X2_workOut 94 rfl) rfl ?_
              obtain ⟨v_16, hi_17, e_18, h⟩ := wp_rdLx h
              refine PZ_laldx (pc' := 165) (v := v_16) (id := (tl b + 7)) (nn := 64) (pw_dk dc_X2_workOut 95 rfl) rfl (me_L6 _) hi_17 e_18 ?_
              refine PW_aload_n (pc' := 166) (q := 2) (pw_dk dc_X2_workOut 96 rfl) rfl rfl rfl ?_
              refine PW_getR (pc' := 169) (id := (tl b)) (ci := 2) (nn := 0) (C0 := RX2) (T := TX2) (N := 8) (j := 6) (r := tl b + 7) (pw_dk dc_X2_workOut 97 rfl) rfl (me_L b) rfl pi_2 (by decide) fk_2_6 tw_174 (rf_L6 _ _) (su0 _ _) ?_
              refine PW_iload_n (pc' := 170) (q := 0) (pw_dk dc_X2_workOut 98 rfl) rfl rfl rfl ?_
              obtain ⟨v_19, hi_20, e_21, h⟩ := wp_rdLx h
              refine PZ_laldx (pc' := 171) (v := v_19) (id := (tl b + 7)) (nn := 64) (pw_dk dc_X2_workOut 99 rfl) rfl (me_L6 _) hi_20 e_21 ?_
              refine PZ_callSl (pc' := 174) (y := yX2_join) (M' := mX2_join) (d' := 0) (As := [.int v_9, .long v_16, .long v_19]) (st := []) tw_948 (pw_dk dc_X2_workOut 100 rfl) rfl Y_X2_join tw_947 rfl (by decide) (Nat.le_of_ble_eq_true rfl) (t_X2_join v_9 v_16 v_19 σ _ ?_)
              obtain ⟨v_23, e_24, h⟩ := wp_bind h
              refine ⟨v_23, e_24, _, rfl, fun hn_22 => ?_⟩
              show PZ alC mX2_workOut (1) Q 174 [(2, .int (x2 + (-1 : Int32))), (4, .int v_9), (0, .ref (tl b)), (1, .int x1), (3, .int x3)] [.long v_23] σ
              refine PW_lstore (pc' := 176) (lv' := [(5, .long v_23), (2, .int (x2 + (-1 : Int32))), (4, .int v_9), (0, .ref (tl b)), (1, .int x1), (3, .int x3)]) (pw_dk dc_X2_workOut 101 rfl) rfl (by decide) rfl ?_
              refine PW_lload (pc' := 178) (q := 0) (pw_dk dc_X2_workOut 102 rfl) rfl rfl ?_
              refine PW_ldc2 (pc' := 181) (v := 1000000000000) (pw_dk dc_X2_workOut 103 rfl) rfl tw_950 ?_
              refine PW_lcmp (pc' := 182) (pw_dk dc_X2_workOut 104 rfl) rfl ?_
              refine PW_if_gt (pc' := 185) (tgt := 194) (pw_dk dc_X2_workOut 105 rfl) rfl (by decide) (fun c_25 => ?_) (fun c_25 => ?_)
              · rw [if_pos c_25] at h
                refine PW_sub (lv' := []) [] rfl ?_
                exact b_X2_workOut_194 b σ h
              · rw [if_neg c_25] at h
                refine PW_lload (pc' := 187) (q := 0) (pw_dk dc_X2_workOut 106 rfl) rfl rfl ?_
                refine PW_ldc2 (pc' := 190) (v := (-1000000000000 : Int64)) (pw_dk dc_X2_workOut 107 rfl) rfl tw_951 ?_
                refine PW_lcmp (pc' := 191) (pw_dk dc_X2_workOut 108 rfl) rfl ?_
                refine PW_if_ge (pc' := 194) (tgt := 198) (pw_dk dc_X2_workOut 109 rfl) rfl (by decide) (fun c_26 => ?_) (fun c_26 => ?_)
                · rw [if_pos c_26] at h
                  refine PW_aload_n (pc' := 199) (q := 3) (pw_dk dc_X2_workOut 112 rfl) rfl rfl rfl ?_
                  refine PW_getR (pc' := 202) (id := (tl b)) (ci := 2) (nn := 0) (C0 := RX2) (T := TX2) (N := 8) (j := 6) (r := tl b + 7) (pw_dk dc_X2_workOut 113 rfl) rfl (me_L b) rfl pi_2 (by decide) fk_2_6 tw_174 (rf_L6 _ _) (su0 _ _) ?_
                  refine PW_iload_n (pc' := 203) (q := 1) (pw_dk dc_X2_workOut 114 rfl) rfl rfl rfl ?_
                  refine PW_iconst (pc' := 204) (v := 1) (pw_dk dc_X2_workOut 115 rfl) rfl (by decide) ?_
                  refine PW_isub (pc' := 205) (pw_dk dc_X2_workOut 116 rfl) rfl ?_
                  refine PW_lload (pc' := 207) (q := 0) (pw_dk dc_X2_workOut 117 rfl) rfl rfl ?_
                  obtain ⟨σ_27, hi_28, e_29, h⟩ := wp_wrLx h
                  refine PZ_lastx (pc' := 208) (σ' := σ_27) (id := (tl b + 7)) (nn := 64) (pw_dk dc_X2_workOut 118 rfl) rfl (me_L6 _) hi_28 e_29 ?_
                  refine PW_sub (lv' := [(0, .ref (tl b)), (1, .int x1), (2, .int (x2 + (-1 : Int32))), (3, .int x3)]) [3, 4, 1, 5] rfl ?_
                  exact b_X2_workOut_208 b (f_X2_workOut_21 b n) ih x1 (x2 + (-1 : Int32)) x3 σ_27 h
                · rw [if_neg c_26] at h
                  refine PW_sub (lv' := []) [] rfl ?_
                  exact b_X2_workOut_194 b σ h
            · rw [if_neg c_15] at h
              refine PW_ldc2 (pc' := 151) (v := (-9223372036854775808 : Int64)) (pw_dk dc_X2_workOut 86 rfl) rfl tw_946 ?_
              have z := wp_some h
              exact PZ_lret (pw_dk dc_X2_workOut 87 rfl) rfl z
          · rw [if_pos c_14] at h
            refine PW_iload_n (pc' := 106) (q := 3) (pw_dk dc_X2_workOut 59 rfl) rfl rfl rfl ?_
            refine PW_iconst (pc' := 107) (v := 1) (pw_dk dc_X2_workOut 60 rfl) rfl (by decide) ?_
            refine PW_icmp_ge (pc' := 110) (tgt := 114) (pw_dk dc_X2_workOut 61 rfl) rfl (by decide) (fun c_30 => ?_) (fun c_30 => ?_)
            · rw [if_pos c_30] at h
              refine PW_aload_n (pc' := 115) (q := 1) (pw_dk dc_X2_workOut 64 rfl) rfl rfl rfl ?_
              refine PW_getR (pc' := 118) (id := (tl b)) (ci := 2) (nn := 0) (C0 := RX2) (T := TX2) (N := 8) (j := 6) (r := tl b + 7) (pw_dk dc_X2_workOut 65 rfl) rfl (me_L b) rfl pi_2 (by decide) fk_2_6 tw_174 (rf_L6 _ _) (su0 _ _) ?_
              refine PW_iload_n (pc' := 119) (q := 3) (pw_dk dc_X2_workOut 66 rfl) rfl rfl rfl ?_
              refine PW_iconst (pc' := 120) (v := 1) (pw_dk dc_X2_workOut 67 rfl) rfl (by decide) ?_
              refine PW_isub (pc' := 121) (pw_dk dc_X2_workOut 68 rfl) rfl ?_
              refine PW_aload_n (pc' := 122) (q := 1) (pw_dk dc_X2_workOut 69 rfl) rfl rfl rfl ?_
              refine PW_getR (pc' := 125) (id := (tl b)) (ci := 2) (nn := 0) (C0 := RX2) (T := TX2) (N := 8) (j := 6) (r := tl b + 7) (pw_dk dc_X2_workOut 70 rfl) rfl (me_L b) rfl pi_2 (by decide) fk_2_6 tw_174 (rf_L6 _ _) (su0 _ _) ?_
              refine PW_iload_n (pc' := 126) (q := 3) (pw_dk dc_X2_workOut 71 rfl) rfl rfl rfl ?_
              refine PW_iconst (pc' := 127) (v := 1) (pw_dk dc_X2_workOut 72 rfl) rfl (by decide) ?_
              refine PW_isub (pc' := 128) (pw_dk dc_X2_workOut 73 rfl) rfl ?_
              obtain ⟨v_31, hi_32, e_33, h⟩ := wp_rdLx h
              refine PZ_laldx (pc' := 129) (v := v_31) (id := (tl b + 7)) (nn := 64) (pw_dk dc_X2_workOut 74 rfl) rfl (me_L6 _) hi_32 e_33 ?_
              refine PW_lconst (pc' := 130) (v := 0) (pw_dk dc_X2_workOut 75 rfl) rfl (by decide) ?_
              refine PW_lcmp (pc' := 131) (pw_dk dc_X2_workOut 76 rfl) rfl ?_
              refine PW_if_ne (pc' := 134) (tgt := 138) (pw_dk dc_X2_workOut 77 rfl) rfl (by decide) (fun c_34 => ?_) (fun c_34 => ?_)
              · rw [if_neg c_34] at h
                refine PW_lconst (pc' := 139) (v := 0) (pw_dk dc_X2_workOut 80 rfl) rfl (by decide) ?_
                refine PW_sub (lv' := [(0, .ref (tl b)), (1, .int x1), (2, .int x2), (3, .int x3)]) [1, 2, 3, 4] rfl ?_
                exact b_X2_workOut_139 b (f_X2_workOut_21 b n) ih x1 x2 x3 (x2 - (1 : Int32)) 0 σ h
              · rw [if_pos c_34] at h
                refine PW_lconst (pc' := 135) (v := 1) (pw_dk dc_X2_workOut 78 rfl) rfl (by decide) ?_
                refine PW_goto (tgt := 139) (pw_dk dc_X2_workOut 79 rfl) (by decide) ?_
                refine PW_sub (lv' := [(0, .ref (tl b)), (1, .int x1), (2, .int x2), (3, .int x3)]) [1, 2, 3, 4] rfl ?_
                exact b_X2_workOut_139 b (f_X2_workOut_21 b n) ih x1 x2 x3 (x2 - (1 : Int32)) 1 σ h
            · rw [if_neg c_30] at h
              refine PW_ldc2 (pc' := 113) (v := (-9223372036854775808 : Int64)) (pw_dk dc_X2_workOut 62 rfl) rfl tw_946 ?_
              have z := wp_some h
              exact PZ_lret (pw_dk dc_X2_workOut 63 rfl) rfl z
        · rw [if_pos c_13] at h
          refine PW_sub (lv' := [(0, .ref (tl b)), (1, .int x1), (2, .int x2), (3, .int x3), (4, .int v_9)]) [1, 2, 3, 4, 0] rfl ?_
          exact b_X2_workOut_50 b (f_X2_workOut_21 b n) ih x1 x2 x3 v_9 σ h
def f_X2_workOut (b : Bool) (x1 : Int32) (σ : zS) : Option (Int64 × zS) := 
  (f_X2_isTold b x1 σ).bind fun v_2 =>
  if v_2 = 0 then
    some ((-9223372036854775808 : Int64), σ)
  else
    (rdI σ (tl b + 5) 3 x1).bind fun v_5 =>
    f_X2_workOut_21 b FU x1 0 v_5 σ
theorem t_X2_workOut (b : Bool) (x1 : Int32) (σ : zS) (Q : Option Value → zS → Prop) (h : wpO (f_X2_workOut b x1 σ) (fun a => Q (some (.long a.1)) a.2)) : PK alC yX2_workOut mX2_workOut (1) [.ref (tl b), .int x1] σ Q := by
  refine PC_ofF (by decide +kernel) rfl rfl (Nat.le_of_ble_eq_true rfl) ?_
  show PZ alC mX2_workOut (1) Q 0 [(0, .ref (tl b)), (1, .int x1)] [] σ
  unfold f_X2_workOut at h
  refine PW_aload_n (pc' := 1) (q := 0) (pw_dk dc_X2_workOut 0 rfl) rfl rfl rfl ?_
  refine PW_iload_n (pc' := 2) (q := 1) (pw_dk dc_X2_workOut 1 rfl) rfl rfl rfl ?_
  refine PZ_callVi (pc' := 5) (y := yX2_isTold) (M' := mX2_isTold) (d' := 0) (As := [.int x1]) (st := []) (b := (tl b)) (ci := 2) (nn := 0) (me_L b) rfl tw_785 tw_786 (pw_dk dc_X2_workOut 2 rfl) rfl Y_X2_isTold tw_945 rfl (by decide) (Nat.le_of_ble_eq_true rfl) (t_X2_isTold b x1 σ _ ?_)
  obtain ⟨v_2, e_3, h⟩ := wp_bind h
  refine ⟨v_2, e_3, _, rfl, fun hn_1 => ?_⟩
  show PZ alC mX2_workOut (1) Q 5 [(0, .ref (tl b)), (1, .int x1)] [.int v_2] σ
  refine PW_if_ne (pc' := 8) (tgt := 12) (pw_dk dc_X2_workOut 3 rfl) rfl (by decide) (fun c_4 => ?_) (fun c_4 => ?_)
  · rw [if_neg c_4] at h
    refine PW_iconst (pc' := 13) (v := 0) (pw_dk dc_X2_workOut 6 rfl) rfl (by decide) ?_
    refine PW_istore_n (pc' := 14) (lv' := [(2, .int 0), (0, .ref (tl b)), (1, .int x1)]) (pw_dk dc_X2_workOut 7 rfl) rfl rfl (by decide) rfl ?_
    refine PW_aload_n (pc' := 15) (q := 1) (pw_dk dc_X2_workOut 8 rfl) rfl rfl rfl ?_
    refine PW_getR (pc' := 18) (id := (tl b)) (ci := 2) (nn := 0) (C0 := RX2) (T := TX2) (N := 8) (j := 4) (r := tl b + 5) (pw_dk dc_X2_workOut 9 rfl) rfl (me_L b) rfl pi_2 (by decide) fk_2_4 tw_172 (rf_L4 _ _) (su0 _ _) ?_
    refine PW_iload_n (pc' := 19) (q := 2) (pw_dk dc_X2_workOut 10 rfl) rfl rfl rfl ?_
    obtain ⟨v_5, hi_6, e_7, h⟩ := wp_rdIx h
    refine PZ_ialdx (pc' := 20) (v := v_5) (id := (tl b + 5)) (nn := 3) (pw_dk dc_X2_workOut 11 rfl) rfl (me_L4 _) hi_6 e_7 ?_
    refine PW_istore_n (pc' := 21) (lv' := [(3, .int v_5), (2, .int 0), (0, .ref (tl b)), (1, .int x1)]) (pw_dk dc_X2_workOut 12 rfl) rfl rfl (by decide) rfl ?_
    refine PW_sub (lv' := [(0, .ref (tl b)), (1, .int x1), (2, .int 0), (3, .int v_5)]) [2, 3, 1, 0] rfl ?_
    exact b_X2_workOut_21 b FU x1 0 v_5 σ h
  · rw [if_pos c_4] at h
    refine PW_ldc2 (pc' := 11) (v := (-9223372036854775808 : Int64)) (pw_dk dc_X2_workOut 4 rfl) rfl tw_946 ?_
    have z := wp_some h
    exact PZ_lret (pw_dk dc_X2_workOut 5 rfl) rfl z
def f_X5_worth (x1 : Int32) (x2 : Int32) (x3 : Int32) (x4 : Int32) (x5 : Int32) (x6 : Int32) (σ : zS) : Option (Int64 × zS) := 
  (wrI σ (tl (σ.2.2 2) + 8) 7 0 x4).bind fun σ_1 =>
  (f_X5_sideOf x2 x4 σ_1).bind fun v_5 =>
  (wrI σ_1 (tl (σ.2.2 2) + 8) 7 1 v_5).bind fun σ_7 =>
  (f_X5_landAt (f_X5_placeOf x3 x4 σ_7) σ_7).bind fun v_12 =>
  (wrI σ_7 (tl (σ.2.2 2) + 8) 7 2 v_12).bind fun σ_14 =>
  (wrI σ_14 (tl (σ.2.2 2) + 8) 7 3 (f_X5_faceOf x3 σ_14)).bind fun σ_18 =>
  (wrI σ_18 (tl (σ.2.2 2) + 8) 7 4 (f_X5_crossOf x3 x4 σ_18)).bind fun σ_22 =>
  (wrI σ_22 (tl (σ.2.2 2) + 8) 7 5 x5).bind fun σ_25 =>
  (wrI σ_25 (tl (σ.2.2 2) + 8) 7 6 x6).bind fun σ_28 =>
  b2 (f_X2_workOut (σ_28.2.2 2) x1 σ_28) fun v_33 σ_32 =>
  some (v_33, σ_32)
theorem t_X5_worth (x1 : Int32) (x2 : Int32) (x3 : Int32) (x4 : Int32) (x5 : Int32) (x6 : Int32) (σ : zS) (Q : Option Value → zS → Prop) (h : wpO (f_X5_worth x1 x2 x3 x4 x5 x6 σ) (fun a => Q (some (.long a.1)) a.2)) : PK alC yX5_worth mX5_worth (3) [.ref 1000, .int x1, .int x2, .int x3, .int x4, .int x5, .int x6] σ Q := by
  refine PC_ofF (by decide +kernel) rfl rfl (Nat.le_of_ble_eq_true rfl) ?_
  show PZ alC mX5_worth (3) Q 0 [(0, .ref 1000), (1, .int x1), (2, .int x2), (3, .int x3), (4, .int x4), (5, .int x5), (6, .int x6)] [] σ
  unfold f_X5_worth at h
  refine PW_aload_n (pc' := 1) (q := 0) (pw_dk dc_X5_worth 0 rfl) rfl rfl rfl ?_
  refine PW_getR (pc' := 4) (id := 1000) (ci := 5) (nn := 0) (C0 := RX5) (T := TX5) (N := 3) (j := 0) (r := tv (σ.2.2 2)) (pw_dk dc_X5_worth 1 rfl) rfl me_1000 rfl pi_5 (by decide) fk_5_0 tw_435 (rf_M2 _) (tv0 _) ?_
  refine PW_getR (pc' := 7) (id := (tv (σ.2.2 2))) (ci := 8) (nn := 0) (C0 := RX8) (T := TX8) (N := 18) (j := 17) (r := tl (σ.2.2 2)) (pw_dk dc_X5_worth 2 rfl) rfl (me_T _) rfl pi_8 (by decide) fk_8_17 tw_250 (rf_T17 _ _) (tl0 _) ?_
  refine PW_getR (pc' := 10) (id := (tl (σ.2.2 2))) (ci := 2) (nn := 0) (C0 := RX2) (T := TX2) (N := 8) (j := 7) (r := tl (σ.2.2 2) + 8) (pw_dk dc_X5_worth 3 rfl) rfl (me_L _) rfl pi_2 (by decide) fk_2_7 tw_176 (rf_L7 _ _) (su0 _ _) ?_
  refine PW_astore (pc' := 12) (lv' := [(7, .ref (tl (σ.2.2 2) + 8)), (0, .ref 1000), (1, .int x1), (2, .int x2), (3, .int x3), (4, .int x4), (5, .int x5), (6, .int x6)]) (pw_dk dc_X5_worth 4 rfl) rfl (by decide) rfl ?_
  refine PW_aload (pc' := 14) (q := 0) (pw_dk dc_X5_worth 5 rfl) rfl rfl ?_
  refine PW_iconst (pc' := 15) (v := 0) (pw_dk dc_X5_worth 6 rfl) rfl (by decide) ?_
  refine PW_iload (pc' := 17) (q := 5) (pw_dk dc_X5_worth 7 rfl) rfl rfl ?_
  obtain ⟨σ_1, hi_2, e_3, h⟩ := wp_wrIx h
  refine PZ_iastx (pc' := 18) (σ' := σ_1) (id := (tl (σ.2.2 2) + 8)) (nn := 7) (pw_dk dc_X5_worth 8 rfl) rfl (me_L7 _) hi_2 e_3 ?_
  refine PW_aload (pc' := 20) (q := 0) (pw_dk dc_X5_worth 9 rfl) rfl rfl ?_
  refine PW_iconst (pc' := 21) (v := 1) (pw_dk dc_X5_worth 10 rfl) rfl (by decide) ?_
  refine PW_aload_n (pc' := 22) (q := 1) (pw_dk dc_X5_worth 11 rfl) rfl rfl rfl ?_
  refine PW_iload_n (pc' := 23) (q := 3) (pw_dk dc_X5_worth 12 rfl) rfl rfl rfl ?_
  refine PW_iload (pc' := 25) (q := 5) (pw_dk dc_X5_worth 13 rfl) rfl rfl ?_
  refine PZ_callVi (pc' := 28) (y := yX5_sideOf) (M' := mX5_sideOf) (d' := 0) (As := [.int x2, .int x4]) (st := [.int 1, .ref (tl (σ.2.2 2) + 8)]) (b := 1000) (ci := 5) (nn := 0) me_1000 rfl tw_927 tw_928 (pw_dk dc_X5_worth 14 rfl) rfl Y_X5_sideOf tw_938 rfl (by decide) (Nat.le_of_ble_eq_true rfl) (t_X5_sideOf x2 x4 σ_1 _ ?_)
  obtain ⟨v_5, e_6, h⟩ := wp_bind h
  refine ⟨v_5, e_6, _, rfl, fun hn_4 => ?_⟩
  show PZ alC mX5_worth (3) Q 28 [(7, .ref (tl (σ.2.2 2) + 8)), (0, .ref 1000), (1, .int x1), (2, .int x2), (3, .int x3), (4, .int x4), (5, .int x5), (6, .int x6)] [.int v_5, .int 1, .ref (tl (σ.2.2 2) + 8)] σ_1
  obtain ⟨σ_7, hi_8, e_9, h⟩ := wp_wrIx h
  refine PZ_iastx (pc' := 29) (σ' := σ_7) (id := (tl (σ.2.2 2) + 8)) (nn := 7) (pw_dk dc_X5_worth 15 rfl) rfl (me_L7 _) hi_8 e_9 ?_
  refine PW_aload (pc' := 31) (q := 0) (pw_dk dc_X5_worth 16 rfl) rfl rfl ?_
  refine PW_iconst (pc' := 32) (v := 2) (pw_dk dc_X5_worth 17 rfl) rfl (by decide) ?_
  refine PW_aload_n (pc' := 33) (q := 1) (pw_dk dc_X5_worth 18 rfl) rfl rfl rfl ?_
  refine PW_iload_n (pc' := 34) (q := 4) (pw_dk dc_X5_worth 19 rfl) rfl rfl rfl ?_
  refine PW_iload (pc' := 36) (q := 5) (pw_dk dc_X5_worth 20 rfl) rfl rfl ?_
  refine PZ_callSi (pc' := 39) (y := yX5_placeOf) (M' := mX5_placeOf) (d' := 2) (As := [.int x3, .int x4]) (st := [.ref 1000, .int 2, .ref (tl (σ.2.2 2) + 8)]) tw_909 (pw_dk dc_X5_worth 21 rfl) rfl Y_X5_placeOf tw_939 rfl (by decide) (Nat.le_of_ble_eq_true rfl) (t_X5_placeOf x3 x4 σ_7 _ ?_)
  refine ⟨_, rfl, fun hn_10 => ?_⟩
  show PZ alC mX5_worth (3) Q 39 [(7, .ref (tl (σ.2.2 2) + 8)), (0, .ref 1000), (1, .int x1), (2, .int x2), (3, .int x3), (4, .int x4), (5, .int x5), (6, .int x6)] [.int (f_X5_placeOf x3 x4 σ_7), .ref 1000, .int 2, .ref (tl (σ.2.2 2) + 8)] σ_7
  refine PZ_callVi (pc' := 42) (y := yX5_landAt) (M' := mX5_landAt) (d' := 0) (As := [.int (f_X5_placeOf x3 x4 σ_7)]) (st := [.int 2, .ref (tl (σ.2.2 2) + 8)]) (b := 1000) (ci := 5) (nn := 0) me_1000 rfl tw_894 tw_895 (pw_dk dc_X5_worth 22 rfl) rfl Y_X5_landAt tw_940 rfl (by decide) (Nat.le_of_ble_eq_true rfl) (t_X5_landAt (f_X5_placeOf x3 x4 σ_7) σ_7 _ ?_)
  obtain ⟨v_12, e_13, h⟩ := wp_bind h
  refine ⟨v_12, e_13, _, rfl, fun hn_11 => ?_⟩
  show PZ alC mX5_worth (3) Q 42 [(7, .ref (tl (σ.2.2 2) + 8)), (0, .ref 1000), (1, .int x1), (2, .int x2), (3, .int x3), (4, .int x4), (5, .int x5), (6, .int x6)] [.int v_12, .int 2, .ref (tl (σ.2.2 2) + 8)] σ_7
  obtain ⟨σ_14, hi_15, e_16, h⟩ := wp_wrIx h
  refine PZ_iastx (pc' := 43) (σ' := σ_14) (id := (tl (σ.2.2 2) + 8)) (nn := 7) (pw_dk dc_X5_worth 23 rfl) rfl (me_L7 _) hi_15 e_16 ?_
  refine PW_aload (pc' := 45) (q := 0) (pw_dk dc_X5_worth 24 rfl) rfl rfl ?_
  refine PW_iconst (pc' := 46) (v := 3) (pw_dk dc_X5_worth 25 rfl) rfl (by decide) ?_
  refine PW_iload_n (pc' := 47) (q := 4) (pw_dk dc_X5_worth 26 rfl) rfl rfl rfl ?_
  refine PZ_callSi (pc' := 50) (y := yX5_faceOf) (M' := mX5_faceOf) (d' := 0) (As := [.int x3]) (st := [.int 3, .ref (tl (σ.2.2 2) + 8)]) tw_912 (pw_dk dc_X5_worth 27 rfl) rfl Y_X5_faceOf tw_911 rfl (by decide) (Nat.le_of_ble_eq_true rfl) (t_X5_faceOf x3 σ_14 _ ?_)
  refine ⟨_, rfl, fun hn_17 => ?_⟩
  show PZ alC mX5_worth (3) Q 50 [(7, .ref (tl (σ.2.2 2) + 8)), (0, .ref 1000), (1, .int x1), (2, .int x2), (3, .int x3), (4, .int x4), (5, .int x5), (6, .int x6)] [.int (f_X5_faceOf x3 σ_14), .int 3, .ref (tl (σ.2.2 2) + 8)] σ_14
  obtain ⟨σ_18, hi_19, e_20, h⟩ := wp_wrIx h
  refine PZ_iastx (pc' := 51) (σ' := σ_18) (id := (tl (σ.2.2 2) + 8)) (nn := 7) (pw_dk dc_X5_worth 28 rfl) rfl (me_L7 _) hi_19 e_20 ?_
  refine PW_aload (pc' := 53) (q := 0) (pw_dk dc_X5_worth 29 rfl) rfl rfl ?_
  refine PW_iconst (pc' := 54) (v := 4) (pw_dk dc_X5_worth 30 rfl) rfl (by decide) ?_
  refine PW_iload_n (pc' := 55) (q := 4) (pw_dk dc_X5_worth 31 rfl) rfl rfl rfl ?_
  refine PW_iload (pc' := 57) (q := 5) (pw_dk dc_X5_worth 32 rfl) rfl rfl ?_
  refine PZ_callSi (pc' := 60) (y := yX5_crossOf) (M' := mX5_crossOf) (d' := 1) (As := [.int x3, .int x4]) (st := [.int 4, .ref (tl (σ.2.2 2) + 8)]) tw_918 (pw_dk dc_X5_worth 33 rfl) rfl Y_X5_crossOf tw_917 rfl (by decide) (Nat.le_of_ble_eq_true rfl) (t_X5_crossOf x3 x4 σ_18 _ ?_)
  refine ⟨_, rfl, fun hn_21 => ?_⟩
  show PZ alC mX5_worth (3) Q 60 [(7, .ref (tl (σ.2.2 2) + 8)), (0, .ref 1000), (1, .int x1), (2, .int x2), (3, .int x3), (4, .int x4), (5, .int x5), (6, .int x6)] [.int (f_X5_crossOf x3 x4 σ_18), .int 4, .ref (tl (σ.2.2 2) + 8)] σ_18
  obtain ⟨σ_22, hi_23, e_24, h⟩ := wp_wrIx h
  refine PZ_iastx (pc' := 61) (σ' := σ_22) (id := (tl (σ.2.2 2) + 8)) (nn := 7) (pw_dk dc_X5_worth 34 rfl) rfl (me_L7 _) hi_23 e_24 ?_
  refine PW_aload (pc' := 63) (q := 0) (pw_dk dc_X5_worth 35 rfl) rfl rfl ?_
  refine PW_iconst (pc' := 64) (v := 5) (pw_dk dc_X5_worth 36 rfl) rfl (by decide) ?_
  refine PW_iload (pc' := 66) (q := 6) (pw_dk dc_X5_worth 37 rfl) rfl rfl ?_
  obtain ⟨σ_25, hi_26, e_27, h⟩ := wp_wrIx h
  refine PZ_iastx (pc' := 67) (σ' := σ_25) (id := (tl (σ.2.2 2) + 8)) (nn := 7) (pw_dk dc_X5_worth 38 rfl) rfl (me_L7 _) hi_26 e_27 ?_
  refine PW_aload (pc' := 69) (q := 0) (pw_dk dc_X5_worth 39 rfl) rfl rfl ?_
  refine PW_bipush (pc' := 71) (v := 6) (pw_dk dc_X5_worth 40 rfl) rfl (by decide) ?_
  refine PW_iload (pc' := 73) (q := 7) (pw_dk dc_X5_worth 41 rfl) rfl rfl ?_
  obtain ⟨σ_28, hi_29, e_30, h⟩ := wp_wrIx h
  refine PZ_iastx (pc' := 74) (σ' := σ_28) (id := (tl (σ.2.2 2) + 8)) (nn := 7) (pw_dk dc_X5_worth 42 rfl) rfl (me_L7 _) hi_29 e_30 ?_
  refine PW_aload_n (pc' := 75) (q := 1) (pw_dk dc_X5_worth 43 rfl) rfl rfl rfl ?_
  refine PW_getR (pc' := 78) (id := 1000) (ci := 5) (nn := 0) (C0 := RX5) (T := TX5) (N := 3) (j := 0) (r := tv (σ_28.2.2 2)) (pw_dk dc_X5_worth 44 rfl) rfl me_1000 rfl pi_5 (by decide) fk_5_0 tw_435 (rf_M2 _) (tv0 _) ?_
  refine PW_getR (pc' := 81) (id := (tv (σ_28.2.2 2))) (ci := 8) (nn := 0) (C0 := RX8) (T := TX8) (N := 18) (j := 17) (r := tl (σ_28.2.2 2)) (pw_dk dc_X5_worth 45 rfl) rfl (me_T _) rfl pi_8 (by decide) fk_8_17 tw_250 (rf_T17 _ _) (tl0 _) ?_
  refine PW_iload_n (pc' := 82) (q := 2) (pw_dk dc_X5_worth 46 rfl) rfl rfl rfl ?_
  refine PZ_callVl (pc' := 85) (y := yX2_workOut) (M' := mX2_workOut) (d' := 1) (As := [.int x1]) (st := []) (b := (tl (σ_28.2.2 2))) (ci := 2) (nn := 0) (me_L _) rfl tw_942 tw_943 (pw_dk dc_X5_worth 47 rfl) rfl Y_X2_workOut tw_941 rfl (by decide) (Nat.le_of_ble_eq_true rfl) (t_X2_workOut (σ_28.2.2 2) x1 σ_28 _ ?_)
  obtain ⟨⟨v_33, σ_32⟩, e_34, h⟩ := wp_bind2 h
  refine ⟨(v_33, σ_32), e_34, _, rfl, fun hn_31 => ?_⟩
  show PZ alC mX5_worth (3) Q 85 [(7, .ref (tl (σ.2.2 2) + 8)), (0, .ref 1000), (1, .int x1), (2, .int x2), (3, .int x3), (4, .int x4), (5, .int x5), (6, .int x6)] [.long v_33] σ_32
  have z := wp_some h
  exact PZ_lret (pw_dk dc_X5_worth 48 rfl) rfl z
