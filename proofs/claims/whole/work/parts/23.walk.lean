/-! walks (printed by wip/gen) -/
def f_X12_faceOf (x0 : Int32) (σ : zS) : Int32 := 
  (x0 / (4 : Int32)) - (x0 / (4 : Int32)) / (4 : Int32) * (4 : Int32)
theorem t_X12_faceOf (x0 : Int32) (σ : zS) (Q : Option Value → zS → Prop) (h : Q (some (.int (f_X12_faceOf x0 σ))) σ) : PK alM yX12_faceOf mX12_faceOf (0) [.int x0] σ Q := by
  refine PC_ofF (by decide +kernel) rfl rfl (Nat.le_of_ble_eq_true rfl) ?_
  show PZ alM mX12_faceOf (0) Q 0 [(0, .int x0)] [] σ
  unfold f_X12_faceOf at h
  refine PW_iload_n (pc' := 1) (q := 0) (pw_dk dc_X12_faceOf 0 rfl) rfl rfl rfl ?_
  refine PW_iconst (pc' := 2) (v := 4) (pw_dk dc_X12_faceOf 1 rfl) rfl (by decide) ?_
  refine PW_idiv (pc' := 3) (pw_dk dc_X12_faceOf 2 rfl) rfl (by decide) ?_
  refine PW_iconst (pc' := 4) (v := 4) (pw_dk dc_X12_faceOf 3 rfl) rfl (by decide) ?_
  refine PW_irem (pc' := 5) (pw_dk dc_X12_faceOf 4 rfl) rfl (by decide) ?_
  exact PZ_iret (ty := .int) (pw_dk dc_X12_faceOf 5 rfl) rfl rfl h
def f_X12_isCrossed_12  (s0 : Int32) (σ : zS) : Int32 := 
  if (s0 - s0 / (2 : Int32) * (2 : Int32)) = 1 then
    1
  else
    0
theorem b_X12_isCrossed_12 {Q : Option Value → zS → Prop} (s0 : Int32) (σ : zS) (h : Q (some (.int (f_X12_isCrossed_12 s0 σ))) σ) : PZ alM mX12_isCrossed (0) Q 12 [] [.int s0] σ := by
  unfold f_X12_isCrossed_12 at h
  refine PW_iconst (pc' := 13) (v := 2) (pw_dk dc_X12_isCrossed 8 rfl) rfl (by decide) ?_
  refine PW_irem (pc' := 14) (pw_dk dc_X12_isCrossed 9 rfl) rfl (by decide) ?_
  refine PW_iconst (pc' := 15) (v := 1) (pw_dk dc_X12_isCrossed 10 rfl) rfl (by decide) ?_
  refine PW_icmp_ne (pc' := 18) (tgt := 22) (pw_dk dc_X12_isCrossed 11 rfl) rfl (by decide) (fun c_1 => ?_) (fun c_1 => ?_)
  · rw [if_neg c_1] at h
    refine PW_iconst (pc' := 23) (v := 0) (pw_dk dc_X12_isCrossed 14 rfl) rfl (by decide) ?_
    exact PZ_iret (ty := .boolean) (pw_dk dc_X12_isCrossed 15 rfl) rfl (by decide) h
  · rw [if_pos c_1] at h
    refine PW_iconst (pc' := 19) (v := 1) (pw_dk dc_X12_isCrossed 12 rfl) rfl (by decide) ?_
    refine PW_goto (tgt := 23) (pw_dk dc_X12_isCrossed 13 rfl) (by decide) ?_
    exact PZ_iret (ty := .boolean) (pw_dk dc_X12_isCrossed 15 rfl) rfl (by decide) h
def f_X12_isCrossed (x0 : Int32) (x1 : Int32) (σ : zS) : Int32 := 
  if 2 ≤ x1 then
    f_X12_isCrossed_12 x0 σ
  else
    f_X12_isCrossed_12 (x0 / (2 : Int32)) σ
theorem t_X12_isCrossed (x0 : Int32) (x1 : Int32) (σ : zS) (Q : Option Value → zS → Prop) (h : Q (some (.int (f_X12_isCrossed x0 x1 σ))) σ) : PK alM yX12_isCrossed mX12_isCrossed (0) [.int x0, .int x1] σ Q := by
  refine PC_ofF (by decide +kernel) rfl rfl (Nat.le_of_ble_eq_true rfl) ?_
  show PZ alM mX12_isCrossed (0) Q 0 [(0, .int x0), (1, .int x1)] [] σ
  unfold f_X12_isCrossed at h
  refine PW_iload_n (pc' := 1) (q := 1) (pw_dk dc_X12_isCrossed 0 rfl) rfl rfl rfl ?_
  refine PW_iconst (pc' := 2) (v := 2) (pw_dk dc_X12_isCrossed 1 rfl) rfl (by decide) ?_
  refine PW_icmp_ge (pc' := 5) (tgt := 11) (pw_dk dc_X12_isCrossed 2 rfl) rfl (by decide) (fun c_1 => ?_) (fun c_1 => ?_)
  · rw [if_pos c_1] at h
    refine PW_iload_n (pc' := 12) (q := 0) (pw_dk dc_X12_isCrossed 7 rfl) rfl rfl rfl ?_
    refine PW_sub (lv' := []) [] rfl ?_
    exact b_X12_isCrossed_12 x0 σ h
  · rw [if_neg c_1] at h
    refine PW_iload_n (pc' := 6) (q := 0) (pw_dk dc_X12_isCrossed 3 rfl) rfl rfl rfl ?_
    refine PW_iconst (pc' := 7) (v := 2) (pw_dk dc_X12_isCrossed 4 rfl) rfl (by decide) ?_
    refine PW_idiv (pc' := 8) (pw_dk dc_X12_isCrossed 5 rfl) rfl (by decide) ?_
    refine PW_goto (tgt := 12) (pw_dk dc_X12_isCrossed 6 rfl) (by decide) ?_
    refine PW_sub (lv' := []) [] rfl ?_
    exact b_X12_isCrossed_12 (x0 / (2 : Int32)) σ h
def f_X12_placeOf_70  (x3 : Int32) (x4 : Int32) (σ : zS) : Int32 := 
  if x4 = 0 then
    x3 - (1 : Int32)
  else
    x3 + (1 : Int32)
theorem b_X12_placeOf_70 {Q : Option Value → zS → Prop} (x3 : Int32) (x4 : Int32) (σ : zS) (h : Q (some (.int (f_X12_placeOf_70 x3 x4 σ))) σ) : PZ alM mX12_placeOf (1) Q 70 [(3, .int x3), (4, .int x4)] [] σ := by
  unfold f_X12_placeOf_70 at h
  refine PW_iload (pc' := 72) (q := 1) (pw_dk dc_X12_placeOf 41 rfl) rfl rfl ?_
  refine PW_if_eq (pc' := 75) (tgt := 81) (pw_dk dc_X12_placeOf 42 rfl) rfl (by decide) (fun c_1 => ?_) (fun c_1 => ?_)
  · rw [if_pos c_1] at h
    refine PW_iload_n (pc' := 82) (q := 0) (pw_dk dc_X12_placeOf 47 rfl) rfl rfl rfl ?_
    refine PW_iconst (pc' := 83) (v := 1) (pw_dk dc_X12_placeOf 48 rfl) rfl (by decide) ?_
    refine PW_isub (pc' := 84) (pw_dk dc_X12_placeOf 49 rfl) rfl ?_
    exact PZ_iret (ty := .int) (pw_dk dc_X12_placeOf 50 rfl) rfl rfl h
  · rw [if_neg c_1] at h
    refine PW_iload_n (pc' := 76) (q := 0) (pw_dk dc_X12_placeOf 43 rfl) rfl rfl rfl ?_
    refine PW_iconst (pc' := 77) (v := 1) (pw_dk dc_X12_placeOf 44 rfl) rfl (by decide) ?_
    refine PW_iadd (pc' := 78) (pw_dk dc_X12_placeOf 45 rfl) rfl ?_
    refine PW_goto (tgt := 84) (pw_dk dc_X12_placeOf 46 rfl) (by decide) ?_
    exact PZ_iret (ty := .int) (pw_dk dc_X12_placeOf 50 rfl) rfl rfl h
def f_X12_placeOf_68  (x3 : Int32) (s0 : Int32) (σ : zS) : Int32 := 
  f_X12_placeOf_70 x3 s0 σ
theorem b_X12_placeOf_68 {Q : Option Value → zS → Prop} (x3 : Int32) (s0 : Int32) (σ : zS) (h : Q (some (.int (f_X12_placeOf_68 x3 s0 σ))) σ) : PZ alM mX12_placeOf (1) Q 68 [(3, .int x3)] [.int s0] σ := by
  unfold f_X12_placeOf_68 at h
  refine PW_istore (pc' := 70) (lv' := [(4, .int s0), (3, .int x3)]) (pw_dk dc_X12_placeOf 40 rfl) rfl (by decide) rfl ?_
  refine PW_sub (lv' := [(3, .int x3), (4, .int s0)]) [1, 0] rfl ?_
  exact b_X12_placeOf_70 x3 s0 σ h
def f_X12_placeOf_53  (x2 : Int32) (x3 : Int32) (x4 : Int32) (σ : zS) : Int32 := 
  if x2 = 2 then
    if x4 = 0 then
      f_X12_placeOf_68 x3 1 σ
    else
      f_X12_placeOf_68 x3 0 σ
  else
    f_X12_placeOf_70 x3 x4 σ
theorem b_X12_placeOf_53 {Q : Option Value → zS → Prop} (x2 : Int32) (x3 : Int32) (x4 : Int32) (σ : zS) (h : Q (some (.int (f_X12_placeOf_53 x2 x3 x4 σ))) σ) : PZ alM mX12_placeOf (1) Q 53 [(2, .int x2), (3, .int x3), (4, .int x4)] [] σ := by
  unfold f_X12_placeOf_53 at h
  refine PW_iload_n (pc' := 54) (q := 0) (pw_dk dc_X12_placeOf 32 rfl) rfl rfl rfl ?_
  refine PW_iconst (pc' := 55) (v := 2) (pw_dk dc_X12_placeOf 33 rfl) rfl (by decide) ?_
  refine PW_icmp_ne (pc' := 58) (tgt := 70) (pw_dk dc_X12_placeOf 34 rfl) rfl (by decide) (fun c_1 => ?_) (fun c_1 => ?_)
  · rw [if_neg c_1] at h
    refine PW_sub (lv' := [(3, .int x3), (4, .int x4)]) [1, 2] rfl ?_
    exact b_X12_placeOf_70 x3 x4 σ h
  · rw [if_pos c_1] at h
    refine PW_iload (pc' := 60) (q := 2) (pw_dk dc_X12_placeOf 35 rfl) rfl rfl ?_
    refine PW_if_ne (pc' := 63) (tgt := 67) (pw_dk dc_X12_placeOf 36 rfl) rfl (by decide) (fun c_2 => ?_) (fun c_2 => ?_)
    · rw [if_neg c_2] at h
      refine PW_iconst (pc' := 68) (v := 0) (pw_dk dc_X12_placeOf 39 rfl) rfl (by decide) ?_
      refine PW_sub (lv' := [(3, .int x3)]) [1] rfl ?_
      exact b_X12_placeOf_68 x3 0 σ h
    · rw [if_pos c_2] at h
      refine PW_iconst (pc' := 64) (v := 1) (pw_dk dc_X12_placeOf 37 rfl) rfl (by decide) ?_
      refine PW_goto (tgt := 68) (pw_dk dc_X12_placeOf 38 rfl) (by decide) ?_
      refine PW_sub (lv' := [(3, .int x3)]) [1] rfl ?_
      exact b_X12_placeOf_68 x3 1 σ h
def f_X12_placeOf_51  (x2 : Int32) (x3 : Int32) (s0 : Int32) (σ : zS) : Int32 := 
  f_X12_placeOf_53 x2 x3 s0 σ
theorem b_X12_placeOf_51 {Q : Option Value → zS → Prop} (x2 : Int32) (x3 : Int32) (s0 : Int32) (σ : zS) (h : Q (some (.int (f_X12_placeOf_51 x2 x3 s0 σ))) σ) : PZ alM mX12_placeOf (1) Q 51 [(2, .int x2), (3, .int x3)] [.int s0] σ := by
  unfold f_X12_placeOf_51 at h
  refine PW_istore (pc' := 53) (lv' := [(4, .int s0), (2, .int x2), (3, .int x3)]) (pw_dk dc_X12_placeOf 31 rfl) rfl (by decide) rfl ?_
  refine PW_sub (lv' := [(2, .int x2), (3, .int x3), (4, .int s0)]) [1, 2, 0] rfl ?_
  exact b_X12_placeOf_53 x2 x3 s0 σ h
def f_X12_placeOf_31  (x0 : Int32) (x1 : Int32) (x2 : Int32) (x3 : Int32) (s0 : Int32) (σ : zS) : Int32 := 
  if (f_X12_isCrossed x0 x1 σ) = 0 then
    f_X12_placeOf_53 x2 x3 s0 σ
  else
    if s0 = 0 then
      f_X12_placeOf_51 x2 x3 1 σ
    else
      f_X12_placeOf_51 x2 x3 0 σ
theorem b_X12_placeOf_31 {Q : Option Value → zS → Prop} (x0 : Int32) (x1 : Int32) (x2 : Int32) (x3 : Int32) (s0 : Int32) (σ : zS) (h : Q (some (.int (f_X12_placeOf_31 x0 x1 x2 x3 s0 σ))) σ) : PZ alM mX12_placeOf (1) Q 31 [(0, .int x0), (1, .int x1), (2, .int x2), (3, .int x3)] [.int s0] σ := by
  unfold f_X12_placeOf_31 at h
  refine PW_istore (pc' := 33) (lv' := [(4, .int s0), (0, .int x0), (1, .int x1), (2, .int x2), (3, .int x3)]) (pw_dk dc_X12_placeOf 21 rfl) rfl (by decide) rfl ?_
  refine PW_iload_n (pc' := 34) (q := 1) (pw_dk dc_X12_placeOf 22 rfl) rfl rfl rfl ?_
  refine PW_iload_n (pc' := 35) (q := 2) (pw_dk dc_X12_placeOf 23 rfl) rfl rfl rfl ?_
  refine PZ_callSi (pc' := 38) (y := yX12_isCrossed) (M' := mX12_isCrossed) (d' := 0) (As := [.int x0, .int x1]) (st := []) tw_1769 (pw_dk dc_X12_placeOf 24 rfl) rfl Y_X12_isCrossed tw_1768 rfl (by decide) (Nat.le_of_ble_eq_true rfl) (t_X12_isCrossed x0 x1 σ _ ?_)
  refine ⟨_, rfl, fun hn_1 => ?_⟩
  show PZ alM mX12_placeOf (1) Q 38 [(4, .int s0), (0, .int x0), (1, .int x1), (2, .int x2), (3, .int x3)] [.int (f_X12_isCrossed x0 x1 σ)] σ
  refine PW_if_eq (pc' := 41) (tgt := 53) (pw_dk dc_X12_placeOf 25 rfl) rfl (by decide) (fun c_2 => ?_) (fun c_2 => ?_)
  · rw [if_pos c_2] at h
    refine PW_sub (lv' := [(2, .int x2), (3, .int x3), (4, .int s0)]) [3, 4, 0] rfl ?_
    exact b_X12_placeOf_53 x2 x3 s0 σ h
  · rw [if_neg c_2] at h
    refine PW_iload (pc' := 43) (q := 0) (pw_dk dc_X12_placeOf 26 rfl) rfl rfl ?_
    refine PW_if_ne (pc' := 46) (tgt := 50) (pw_dk dc_X12_placeOf 27 rfl) rfl (by decide) (fun c_3 => ?_) (fun c_3 => ?_)
    · rw [if_neg c_3] at h
      refine PW_iconst (pc' := 51) (v := 0) (pw_dk dc_X12_placeOf 30 rfl) rfl (by decide) ?_
      refine PW_sub (lv' := [(2, .int x2), (3, .int x3)]) [3, 4] rfl ?_
      exact b_X12_placeOf_51 x2 x3 0 σ h
    · rw [if_pos c_3] at h
      refine PW_iconst (pc' := 47) (v := 1) (pw_dk dc_X12_placeOf 28 rfl) rfl (by decide) ?_
      refine PW_goto (tgt := 51) (pw_dk dc_X12_placeOf 29 rfl) (by decide) ?_
      refine PW_sub (lv' := [(2, .int x2), (3, .int x3)]) [3, 4] rfl ?_
      exact b_X12_placeOf_51 x2 x3 1 σ h
def f_X12_placeOf (x0 : Int32) (x1 : Int32) (σ : zS) : Int32 := 
  lt (α := Int32) (f_X12_faceOf x0 σ) fun x2_2 =>
  lt (α := Int32) (f_X12_cellOf x0 σ) fun x3_4 =>
  if (x2_2 - x2_2 / (2 : Int32) * (2 : Int32)) = 1 then
    x3_4
  else
    if (x1 - x1 / (2 : Int32) * (2 : Int32)) = 1 then
      f_X12_placeOf_31 x0 x1 x2_2 x3_4 1 σ
    else
      f_X12_placeOf_31 x0 x1 x2_2 x3_4 0 σ
theorem t_X12_placeOf (x0 : Int32) (x1 : Int32) (σ : zS) (Q : Option Value → zS → Prop) (h : Q (some (.int (f_X12_placeOf x0 x1 σ))) σ) : PK alM yX12_placeOf mX12_placeOf (1) [.int x0, .int x1] σ Q := by
  refine PC_ofF (by decide +kernel) rfl rfl (Nat.le_of_ble_eq_true rfl) ?_
  show PZ alM mX12_placeOf (1) Q 0 [(0, .int x0), (1, .int x1)] [] σ
  unfold f_X12_placeOf at h
  refine PW_iload_n (pc' := 1) (q := 0) (pw_dk dc_X12_placeOf 0 rfl) rfl rfl rfl ?_
  refine PZ_callSi (pc' := 4) (y := yX12_faceOf) (M' := mX12_faceOf) (d' := 0) (As := [.int x0]) (st := []) tw_1748 (pw_dk dc_X12_placeOf 1 rfl) rfl Y_X12_faceOf tw_1747 rfl (by decide) (Nat.le_of_ble_eq_true rfl) (t_X12_faceOf x0 σ _ ?_)
  refine ⟨_, rfl, fun hn_1 => ?_⟩
  show PZ alM mX12_placeOf (1) Q 4 [(0, .int x0), (1, .int x1)] [.int (f_X12_faceOf x0 σ)] σ
  refine PW_topi (fun x2_2 ex2_2 => ?_)
  replace h := lt_q (ρ := fun z => Q (some (.int z)) σ) h ex2_2
  refine PW_istore_n (pc' := 5) (lv' := [(2, .int x2_2), (0, .int x0), (1, .int x1)]) (pw_dk dc_X12_placeOf 2 rfl) rfl rfl (by decide) rfl ?_
  refine PW_iload_n (pc' := 6) (q := 1) (pw_dk dc_X12_placeOf 3 rfl) rfl rfl rfl ?_
  refine PZ_callSi (pc' := 9) (y := yX12_cellOf) (M' := mX12_cellOf) (d' := 0) (As := [.int x0]) (st := []) tw_1745 (pw_dk dc_X12_placeOf 4 rfl) rfl Y_X12_cellOf tw_1744 rfl (by decide) (Nat.le_of_ble_eq_true rfl) (t_X12_cellOf x0 σ _ ?_)
  refine ⟨_, rfl, fun hn_3 => ?_⟩
  show PZ alM mX12_placeOf (1) Q 9 [(2, .int x2_2), (0, .int x0), (1, .int x1)] [.int (f_X12_cellOf x0 σ)] σ
  refine PW_topi (fun x3_4 ex3_4 => ?_)
  replace h := lt_q (ρ := fun z => Q (some (.int z)) σ) h ex3_4
  refine PW_istore_n (pc' := 10) (lv' := [(3, .int x3_4), (2, .int x2_2), (0, .int x0), (1, .int x1)]) (pw_dk dc_X12_placeOf 5 rfl) rfl rfl (by decide) rfl ?_
  refine PW_iload_n (pc' := 11) (q := 1) (pw_dk dc_X12_placeOf 6 rfl) rfl rfl rfl ?_
  refine PW_iconst (pc' := 12) (v := 2) (pw_dk dc_X12_placeOf 7 rfl) rfl (by decide) ?_
  refine PW_irem (pc' := 13) (pw_dk dc_X12_placeOf 8 rfl) rfl (by decide) ?_
  refine PW_iconst (pc' := 14) (v := 1) (pw_dk dc_X12_placeOf 9 rfl) rfl (by decide) ?_
  refine PW_icmp_ne (pc' := 17) (tgt := 19) (pw_dk dc_X12_placeOf 10 rfl) rfl (by decide) (fun c_5 => ?_) (fun c_5 => ?_)
  · rw [if_neg c_5] at h
    refine PW_iload_n (pc' := 20) (q := 3) (pw_dk dc_X12_placeOf 13 rfl) rfl rfl rfl ?_
    refine PW_iconst (pc' := 21) (v := 2) (pw_dk dc_X12_placeOf 14 rfl) rfl (by decide) ?_
    refine PW_irem (pc' := 22) (pw_dk dc_X12_placeOf 15 rfl) rfl (by decide) ?_
    refine PW_iconst (pc' := 23) (v := 1) (pw_dk dc_X12_placeOf 16 rfl) rfl (by decide) ?_
    refine PW_icmp_ne (pc' := 26) (tgt := 30) (pw_dk dc_X12_placeOf 17 rfl) rfl (by decide) (fun c_6 => ?_) (fun c_6 => ?_)
    · rw [if_neg c_6] at h
      refine PW_iconst (pc' := 31) (v := 0) (pw_dk dc_X12_placeOf 20 rfl) rfl (by decide) ?_
      refine PW_sub (lv' := [(0, .int x0), (1, .int x1), (2, .int x2_2), (3, .int x3_4)]) [2, 3, 1, 0] rfl ?_
      exact b_X12_placeOf_31 x0 x1 x2_2 x3_4 0 σ h
    · rw [if_pos c_6] at h
      refine PW_iconst (pc' := 27) (v := 1) (pw_dk dc_X12_placeOf 18 rfl) rfl (by decide) ?_
      refine PW_goto (tgt := 31) (pw_dk dc_X12_placeOf 19 rfl) (by decide) ?_
      refine PW_sub (lv' := [(0, .int x0), (1, .int x1), (2, .int x2_2), (3, .int x3_4)]) [2, 3, 1, 0] rfl ?_
      exact b_X12_placeOf_31 x0 x1 x2_2 x3_4 1 σ h
  · rw [if_pos c_5] at h
    refine PW_iload_n (pc' := 18) (q := 0) (pw_dk dc_X12_placeOf 11 rfl) rfl rfl rfl ?_
    exact PZ_iret (ty := .int) (pw_dk dc_X12_placeOf 12 rfl) rfl rfl h
def f_X12_landOf_51 (r25 : Int32 → Int32 → zS → Option Int32) (x1 : Int32) (x2 : Int32) (σ : zS) : Option Int32 := 
  r25 x1 (x2 + (-1 : Int32)) σ
theorem b_X12_landOf_51 {Q : Option Value → zS → Prop} (r25 : Int32 → Int32 → zS → Option Int32) (hr25 : ∀ (x1 : Int32) (x2 : Int32) (σ : zS), wpO (r25 x1 x2 σ) (fun a => Q (some (.int a)) σ) → PZ alM mX12_landOf (0) Q 25 [(0, .ref 5000), (1, .int x1), (2, .int x2)] [] σ) (x1 : Int32) (x2 : Int32) (σ : zS) (h : wpO (f_X12_landOf_51 r25 x1 x2 σ) (fun a => Q (some (.int a)) σ)) : PZ alM mX12_landOf (0) Q 51 [(0, .ref 5000), (1, .int x1), (2, .int x2)] [] σ := by
  unfold f_X12_landOf_51 at h
  refine PW_iinc (pc' := 54) (q := 2) (v := x2 + (-1 : Int32)) (lv' := [(2, .int (x2 + (-1 : Int32))), (0, .ref 5000), (1, .int x1)]) (pw_dk dc_X12_landOf 33 rfl) rfl rfl rfl (by decide) rfl ?_
  refine PW_goto (tgt := 25) (pw_dk dc_X12_landOf 34 rfl) (by decide) ?_
  refine PW_sub (lv' := [(0, .ref 5000), (1, .int x1), (2, .int (x2 + (-1 : Int32)))]) [1, 2, 0] rfl ?_
  exact hr25 x1 (x2 + (-1 : Int32)) σ h
def f_X12_landOf_25  : Nat → Int32 → Int32 → zS → Option Int32
  | 0, _, _, _ => none
  | n + 1, x1, x2, σ => 
    if x2 < 0 then
      some (-1 : Int32)
    else
      (rdI σ 5006 10 x2).bind fun v_2 =>
      if x1 < v_2 then
        f_X12_landOf_51 (f_X12_landOf_25 n) x1 x2 σ
      else
        (rdI σ 5007 10 x2).bind fun v_6 =>
        if v_6 < x1 then
          f_X12_landOf_51 (f_X12_landOf_25 n) x1 x2 σ
        else
          some x2
theorem b_X12_landOf_25 {Q : Option Value → zS → Prop} : ∀ (n : Nat) (x1 : Int32) (x2 : Int32) (σ : zS) (h : wpO (f_X12_landOf_25 n x1 x2 σ) (fun a => Q (some (.int a)) σ)), PZ alM mX12_landOf (0) Q 25 [(0, .ref 5000), (1, .int x1), (2, .int x2)] [] σ := by
  intro n
  induction n with
  | zero => intro x1 x2 σ h; exact wp_none h
  | succ n ih =>
    intro x1 x2 σ h
    rw [f_X12_landOf_25] at h
    refine PW_iload_n (pc' := 26) (q := 2) (pw_dk dc_X12_landOf 17 rfl) rfl rfl rfl ?_
    refine PW_if_lt (pc' := 29) (tgt := 57) (pw_dk dc_X12_landOf 18 rfl) rfl (by decide) (fun c_1 => ?_) (fun c_1 => ?_)
    · rw [if_pos c_1] at h
      refine PW_iconst (pc' := 58) (v := (-1 : Int32)) (pw_dk dc_X12_landOf 35 rfl) rfl (by decide) ?_
      have z := wp_some h
      exact PZ_iret (ty := .int) (pw_dk dc_X12_landOf 36 rfl) rfl rfl z
    · rw [if_neg c_1] at h
      refine PW_iload_n (pc' := 30) (q := 1) (pw_dk dc_X12_landOf 19 rfl) rfl rfl rfl ?_
      refine PW_aload_n (pc' := 31) (q := 0) (pw_dk dc_X12_landOf 20 rfl) rfl rfl rfl ?_
      refine PW_getR (pc' := 34) (id := 5000) (ci := 12) (nn := 0) (C0 := RX12) (T := TX12) (N := 62) (j := 5) (r := 5006) (pw_dk dc_X12_landOf 21 rfl) rfl me_5000 rfl pi_12 (by decide) fk_12_5 tw_1402 (rfl) (by decide) ?_
      refine PW_iload_n (pc' := 35) (q := 2) (pw_dk dc_X12_landOf 22 rfl) rfl rfl rfl ?_
      obtain ⟨v_2, hi_3, e_4, h⟩ := wp_rdIx h
      refine PZ_ialdx (pc' := 36) (v := v_2) (id := 5006) (nn := 10) (pw_dk dc_X12_landOf 23 rfl) rfl me_5006 hi_3 e_4 ?_
      refine PW_icmp_lt (pc' := 39) (tgt := 51) (pw_dk dc_X12_landOf 24 rfl) rfl (by decide) (fun c_5 => ?_) (fun c_5 => ?_)
      · rw [if_pos c_5] at h
        exact b_X12_landOf_51 (f_X12_landOf_25 n) ih x1 x2 σ h
      · rw [if_neg c_5] at h
        refine PW_iload_n (pc' := 40) (q := 1) (pw_dk dc_X12_landOf 25 rfl) rfl rfl rfl ?_
        refine PW_aload_n (pc' := 41) (q := 0) (pw_dk dc_X12_landOf 26 rfl) rfl rfl rfl ?_
        refine PW_getR (pc' := 44) (id := 5000) (ci := 12) (nn := 0) (C0 := RX12) (T := TX12) (N := 62) (j := 6) (r := 5007) (pw_dk dc_X12_landOf 27 rfl) rfl me_5000 rfl pi_12 (by decide) fk_12_6 tw_1403 (rfl) (by decide) ?_
        refine PW_iload_n (pc' := 45) (q := 2) (pw_dk dc_X12_landOf 28 rfl) rfl rfl rfl ?_
        obtain ⟨v_6, hi_7, e_8, h⟩ := wp_rdIx h
        refine PZ_ialdx (pc' := 46) (v := v_6) (id := 5007) (nn := 10) (pw_dk dc_X12_landOf 29 rfl) rfl me_5007 hi_7 e_8 ?_
        refine PW_icmp_gt (pc' := 49) (tgt := 51) (pw_dk dc_X12_landOf 30 rfl) rfl (by decide) (fun c_9 => ?_) (fun c_9 => ?_)
        · rw [if_pos c_9] at h
          exact b_X12_landOf_51 (f_X12_landOf_25 n) ih x1 x2 σ h
        · rw [if_neg c_9] at h
          refine PW_iload_n (pc' := 50) (q := 2) (pw_dk dc_X12_landOf 31 rfl) rfl rfl rfl ?_
          have z := wp_some h
          exact PZ_iret (ty := .int) (pw_dk dc_X12_landOf 32 rfl) rfl rfl z
def f_X12_landOf (x1 : Int32) (σ : zS) : Option Int32 := 
  if x1 < 0 then
    some (-1 : Int32)
  else
    (rdI σ 5004 16 0).bind fun v_2 =>
    if x1 < v_2 then
      (rdI σ 5004 16 1).bind fun v_6 =>
      lt (α := Int32) (v_6 - (1 : Int32)) fun x2_9 =>
      f_X12_landOf_25 FU x1 x2_9 σ
    else
      some (-1 : Int32)
theorem t_X12_landOf (x1 : Int32) (σ : zS) (Q : Option Value → zS → Prop) (h : wpO (f_X12_landOf x1 σ) (fun a => Q (some (.int a)) σ)) : PK alM yX12_landOf mX12_landOf (0) [.ref 5000, .int x1] σ Q := by
  refine PC_ofF (by decide +kernel) rfl rfl (Nat.le_of_ble_eq_true rfl) ?_
  show PZ alM mX12_landOf (0) Q 0 [(0, .ref 5000), (1, .int x1)] [] σ
  unfold f_X12_landOf at h
  refine PW_iload_n (pc' := 1) (q := 1) (pw_dk dc_X12_landOf 0 rfl) rfl rfl rfl ?_
  refine PW_if_lt (pc' := 4) (tgt := 14) (pw_dk dc_X12_landOf 1 rfl) rfl (by decide) (fun c_1 => ?_) (fun c_1 => ?_)
  · rw [if_pos c_1] at h
    refine PW_iconst (pc' := 15) (v := (-1 : Int32)) (pw_dk dc_X12_landOf 8 rfl) rfl (by decide) ?_
    have z := wp_some h
    exact PZ_iret (ty := .int) (pw_dk dc_X12_landOf 9 rfl) rfl rfl z
  · rw [if_neg c_1] at h
    refine PW_iload_n (pc' := 5) (q := 1) (pw_dk dc_X12_landOf 2 rfl) rfl rfl rfl ?_
    refine PW_aload_n (pc' := 6) (q := 0) (pw_dk dc_X12_landOf 3 rfl) rfl rfl rfl ?_
    refine PW_getR (pc' := 9) (id := 5000) (ci := 12) (nn := 0) (C0 := RX12) (T := TX12) (N := 62) (j := 3) (r := 5004) (pw_dk dc_X12_landOf 4 rfl) rfl me_5000 rfl pi_12 (by decide) fk_12_3 tw_1400 (rfl) (by decide) ?_
    refine PW_iconst (pc' := 10) (v := 0) (pw_dk dc_X12_landOf 5 rfl) rfl (by decide) ?_
    obtain ⟨v_2, hi_3, e_4, h⟩ := wp_rdIx h
    refine PZ_ialdx (pc' := 11) (v := v_2) (id := 5004) (nn := 16) (pw_dk dc_X12_landOf 6 rfl) rfl me_5004 hi_3 e_4 ?_
    refine PW_icmp_lt (pc' := 14) (tgt := 16) (pw_dk dc_X12_landOf 7 rfl) rfl (by decide) (fun c_5 => ?_) (fun c_5 => ?_)
    · rw [if_pos c_5] at h
      refine PW_aload_n (pc' := 17) (q := 0) (pw_dk dc_X12_landOf 10 rfl) rfl rfl rfl ?_
      refine PW_getR (pc' := 20) (id := 5000) (ci := 12) (nn := 0) (C0 := RX12) (T := TX12) (N := 62) (j := 3) (r := 5004) (pw_dk dc_X12_landOf 11 rfl) rfl me_5000 rfl pi_12 (by decide) fk_12_3 tw_1400 (rfl) (by decide) ?_
      refine PW_iconst (pc' := 21) (v := 1) (pw_dk dc_X12_landOf 12 rfl) rfl (by decide) ?_
      obtain ⟨v_6, hi_7, e_8, h⟩ := wp_rdIx h
      refine PZ_ialdx (pc' := 22) (v := v_6) (id := 5004) (nn := 16) (pw_dk dc_X12_landOf 13 rfl) rfl me_5004 hi_7 e_8 ?_
      refine PW_iconst (pc' := 23) (v := 1) (pw_dk dc_X12_landOf 14 rfl) rfl (by decide) ?_
      refine PW_isub (pc' := 24) (pw_dk dc_X12_landOf 15 rfl) rfl ?_
      refine PW_topi (fun x2_9 ex2_9 => ?_)
      replace h := lt_w h ex2_9
      refine PW_istore_n (pc' := 25) (lv' := [(2, .int x2_9), (0, .ref 5000), (1, .int x1)]) (pw_dk dc_X12_landOf 16 rfl) rfl rfl (by decide) rfl ?_
      refine PW_sub (lv' := [(0, .ref 5000), (1, .int x1), (2, .int x2_9)]) [1, 2, 0] rfl ?_
      exact b_X12_landOf_25 FU x1 x2_9 σ h
    · rw [if_neg c_5] at h
      refine PW_iconst (pc' := 15) (v := (-1 : Int32)) (pw_dk dc_X12_landOf 8 rfl) rfl (by decide) ?_
      have z := wp_some h
      exact PZ_iret (ty := .int) (pw_dk dc_X12_landOf 9 rfl) rfl rfl z
def f_X12_sideOf_36  (x2 : Int32) (s0 : Int32) (σ : zS) : Option Int32 := 
  if s0 = 0 then
    some (x2 - x2 / (2 : Int32) * (2 : Int32))
  else
    some ((1 : Int32) - (x2 - x2 / (2 : Int32) * (2 : Int32)))
theorem b_X12_sideOf_36 {Q : Option Value → zS → Prop} (x2 : Int32) (s0 : Int32) (σ : zS) (h : wpO (f_X12_sideOf_36 x2 s0 σ) (fun a => Q (some (.int a)) σ)) : PZ alM mX12_sideOf (0) Q 36 [(2, .int x2)] [.int s0] σ := by
  unfold f_X12_sideOf_36 at h
  refine PW_istore_n (pc' := 37) (lv' := [(3, .int s0), (2, .int x2)]) (pw_dk dc_X12_sideOf 20 rfl) rfl rfl (by decide) rfl ?_
  refine PW_iload_n (pc' := 38) (q := 0) (pw_dk dc_X12_sideOf 21 rfl) rfl rfl rfl ?_
  refine PW_if_eq (pc' := 41) (tgt := 49) (pw_dk dc_X12_sideOf 22 rfl) rfl (by decide) (fun c_1 => ?_) (fun c_1 => ?_)
  · rw [if_pos c_1] at h
    refine PW_iload_n (pc' := 50) (q := 1) (pw_dk dc_X12_sideOf 29 rfl) rfl rfl rfl ?_
    refine PW_iconst (pc' := 51) (v := 2) (pw_dk dc_X12_sideOf 30 rfl) rfl (by decide) ?_
    refine PW_irem (pc' := 52) (pw_dk dc_X12_sideOf 31 rfl) rfl (by decide) ?_
    have z := wp_some h
    exact PZ_iret (ty := .int) (pw_dk dc_X12_sideOf 32 rfl) rfl rfl z
  · rw [if_neg c_1] at h
    refine PW_iconst (pc' := 42) (v := 1) (pw_dk dc_X12_sideOf 23 rfl) rfl (by decide) ?_
    refine PW_iload_n (pc' := 43) (q := 1) (pw_dk dc_X12_sideOf 24 rfl) rfl rfl rfl ?_
    refine PW_iconst (pc' := 44) (v := 2) (pw_dk dc_X12_sideOf 25 rfl) rfl (by decide) ?_
    refine PW_irem (pc' := 45) (pw_dk dc_X12_sideOf 26 rfl) rfl (by decide) ?_
    refine PW_isub (pc' := 46) (pw_dk dc_X12_sideOf 27 rfl) rfl ?_
    refine PW_goto (tgt := 52) (pw_dk dc_X12_sideOf 28 rfl) (by decide) ?_
    have z := wp_some h
    exact PZ_iret (ty := .int) (pw_dk dc_X12_sideOf 32 rfl) rfl rfl z
def f_X12_sideOf_28  (x2 : Int32) (s0 : Int32) (s1 : Int32) (σ : zS) : Option Int32 := 
  if s0 = s1 then
    f_X12_sideOf_36 x2 0 σ
  else
    f_X12_sideOf_36 x2 1 σ
theorem b_X12_sideOf_28 {Q : Option Value → zS → Prop} (x2 : Int32) (s0 : Int32) (s1 : Int32) (σ : zS) (h : wpO (f_X12_sideOf_28 x2 s0 s1 σ) (fun a => Q (some (.int a)) σ)) : PZ alM mX12_sideOf (0) Q 28 [(2, .int x2)] [.int s1, .int s0] σ := by
  unfold f_X12_sideOf_28 at h
  refine PW_icmp_eq (pc' := 31) (tgt := 35) (pw_dk dc_X12_sideOf 16 rfl) rfl (by decide) (fun c_1 => ?_) (fun c_1 => ?_)
  · rw [if_pos c_1] at h
    refine PW_iconst (pc' := 36) (v := 0) (pw_dk dc_X12_sideOf 19 rfl) rfl (by decide) ?_
    exact b_X12_sideOf_36 x2 0 σ h
  · rw [if_neg c_1] at h
    refine PW_iconst (pc' := 32) (v := 1) (pw_dk dc_X12_sideOf 17 rfl) rfl (by decide) ?_
    refine PW_goto (tgt := 36) (pw_dk dc_X12_sideOf 18 rfl) (by decide) ?_
    exact b_X12_sideOf_36 x2 1 σ h
def f_X12_sideOf_15  (x2 : Int32) (s0 : Int32) (σ : zS) : Option Int32 := 
  if (σ.1 5000 37) = 2 then
    f_X12_sideOf_28 x2 s0 1 σ
  else
    f_X12_sideOf_28 x2 s0 0 σ
theorem b_X12_sideOf_15 {Q : Option Value → zS → Prop} (x2 : Int32) (s0 : Int32) (σ : zS) (h : wpO (f_X12_sideOf_15 x2 s0 σ) (fun a => Q (some (.int a)) σ)) : PZ alM mX12_sideOf (0) Q 15 [(0, .ref 5000), (2, .int x2)] [.int s0] σ := by
  unfold f_X12_sideOf_15 at h
  refine PW_aload_n (pc' := 16) (q := 0) (pw_dk dc_X12_sideOf 9 rfl) rfl rfl rfl ?_
  refine PZ_getI (pc' := 19) (id := 5000) (ci := 12) (nn := 0) (C0 := RX12) (T := TX12) (N := 62) (j := 37) (pw_dk dc_X12_sideOf 10 rfl) rfl me_5000 rfl pi_12 (by decide) fk_12_37 tw_1434 ?_
  refine PW_iconst (pc' := 20) (v := 2) (pw_dk dc_X12_sideOf 11 rfl) rfl (by decide) ?_
  refine PW_icmp_ne (pc' := 23) (tgt := 27) (pw_dk dc_X12_sideOf 12 rfl) rfl (by decide) (fun c_1 => ?_) (fun c_1 => ?_)
  · rw [if_neg c_1] at h
    refine PW_iconst (pc' := 28) (v := 0) (pw_dk dc_X12_sideOf 15 rfl) rfl (by decide) ?_
    refine PW_sub (lv' := [(2, .int x2)]) [1] rfl ?_
    exact b_X12_sideOf_28 x2 s0 0 σ h
  · rw [if_pos c_1] at h
    refine PW_iconst (pc' := 24) (v := 1) (pw_dk dc_X12_sideOf 13 rfl) rfl (by decide) ?_
    refine PW_goto (tgt := 28) (pw_dk dc_X12_sideOf 14 rfl) (by decide) ?_
    refine PW_sub (lv' := [(2, .int x2)]) [1] rfl ?_
    exact b_X12_sideOf_28 x2 s0 1 σ h
def f_X12_sideOf (x1 : Int32) (x2 : Int32) (σ : zS) : Option Int32 := 
  (rdI σ 5012 10 x1).bind fun v_1 =>
  if v_1 = 1 then
    f_X12_sideOf_15 x2 1 σ
  else
    f_X12_sideOf_15 x2 0 σ
theorem t_X12_sideOf (x1 : Int32) (x2 : Int32) (σ : zS) (Q : Option Value → zS → Prop) (h : wpO (f_X12_sideOf x1 x2 σ) (fun a => Q (some (.int a)) σ)) : PK alM yX12_sideOf mX12_sideOf (0) [.ref 5000, .int x1, .int x2] σ Q := by
  refine PC_ofF (by decide +kernel) rfl rfl (Nat.le_of_ble_eq_true rfl) ?_
  show PZ alM mX12_sideOf (0) Q 0 [(0, .ref 5000), (1, .int x1), (2, .int x2)] [] σ
  unfold f_X12_sideOf at h
  refine PW_aload_n (pc' := 1) (q := 0) (pw_dk dc_X12_sideOf 0 rfl) rfl rfl rfl ?_
  refine PW_getR (pc' := 4) (id := 5000) (ci := 12) (nn := 0) (C0 := RX12) (T := TX12) (N := 62) (j := 11) (r := 5012) (pw_dk dc_X12_sideOf 1 rfl) rfl me_5000 rfl pi_12 (by decide) fk_12_11 tw_1408 (rfl) (by decide) ?_
  refine PW_iload_n (pc' := 5) (q := 1) (pw_dk dc_X12_sideOf 2 rfl) rfl rfl rfl ?_
  obtain ⟨v_1, hi_2, e_3, h⟩ := wp_rdIx h
  refine PZ_ialdx (pc' := 6) (v := v_1) (id := 5012) (nn := 10) (pw_dk dc_X12_sideOf 3 rfl) rfl me_5012 hi_2 e_3 ?_
  refine PW_iconst (pc' := 7) (v := 1) (pw_dk dc_X12_sideOf 4 rfl) rfl (by decide) ?_
  refine PW_icmp_ne (pc' := 10) (tgt := 14) (pw_dk dc_X12_sideOf 5 rfl) rfl (by decide) (fun c_4 => ?_) (fun c_4 => ?_)
  · rw [if_neg c_4] at h
    refine PW_iconst (pc' := 15) (v := 0) (pw_dk dc_X12_sideOf 8 rfl) rfl (by decide) ?_
    refine PW_sub (lv' := [(0, .ref 5000), (2, .int x2)]) [0, 2] rfl ?_
    exact b_X12_sideOf_15 x2 0 σ h
  · rw [if_pos c_4] at h
    refine PW_iconst (pc' := 11) (v := 1) (pw_dk dc_X12_sideOf 6 rfl) rfl (by decide) ?_
    refine PW_goto (tgt := 15) (pw_dk dc_X12_sideOf 7 rfl) (by decide) ?_
    refine PW_sub (lv' := [(0, .ref 5000), (2, .int x2)]) [0, 2] rfl ?_
    exact b_X12_sideOf_15 x2 1 σ h
def f_X12_calls_82  (x4 : Int32) (x5 : Int32) (s1 : Int32) (s2 : Int64) (σ : zS) : Option zS := 
  (wrL σ 5035 7 s1 s2).bind fun σ_1 =>
  (wrL σ_1 5035 7 5 x4.toInt64).bind fun σ_4 =>
  (wrL σ_4 5035 7 6 x5.toInt64).bind fun σ_7 =>
  some σ_7
theorem b_X12_calls_82 {Q : Option Value → zS → Prop} (x4 : Int32) (x5 : Int32) (s1 : Int32) (s2 : Int64) (σ : zS) (h : wpO (f_X12_calls_82 x4 x5 s1 s2 σ) (fun s => Q none s)) : PZ alM mX12_calls (2) Q 82 [(0, .ref 5000), (4, .int x4), (5, .int x5)] [.long s2, .int s1, .ref 5035] σ := by
  unfold f_X12_calls_82 at h
  obtain ⟨σ_1, hi_2, e_3, h⟩ := wp_wrLx h
  refine PZ_lastx (pc' := 83) (σ' := σ_1) (id := 5035) (nn := 7) (pw_dk dc_X12_calls 49 rfl) rfl me_5035 hi_2 e_3 ?_
  refine PW_aload_n (pc' := 84) (q := 0) (pw_dk dc_X12_calls 50 rfl) rfl rfl rfl ?_
  refine PW_getR (pc' := 87) (id := 5000) (ci := 12) (nn := 0) (C0 := RX12) (T := TX12) (N := 62) (j := 34) (r := 5035) (pw_dk dc_X12_calls 51 rfl) rfl me_5000 rfl pi_12 (by decide) fk_12_34 tw_1431 (rfl) (by decide) ?_
  refine PW_iconst (pc' := 88) (v := 5) (pw_dk dc_X12_calls 52 rfl) rfl (by decide) ?_
  refine PW_iload (pc' := 90) (q := 1) (pw_dk dc_X12_calls 53 rfl) rfl rfl ?_
  refine PW_i2l (pc' := 91) (pw_dk dc_X12_calls 54 rfl) rfl ?_
  obtain ⟨σ_4, hi_5, e_6, h⟩ := wp_wrLx h
  refine PZ_lastx (pc' := 92) (σ' := σ_4) (id := 5035) (nn := 7) (pw_dk dc_X12_calls 55 rfl) rfl me_5035 hi_5 e_6 ?_
  refine PW_aload_n (pc' := 93) (q := 0) (pw_dk dc_X12_calls 56 rfl) rfl rfl rfl ?_
  refine PW_getR (pc' := 96) (id := 5000) (ci := 12) (nn := 0) (C0 := RX12) (T := TX12) (N := 62) (j := 34) (r := 5035) (pw_dk dc_X12_calls 57 rfl) rfl me_5000 rfl pi_12 (by decide) fk_12_34 tw_1431 (rfl) (by decide) ?_
  refine PW_bipush (pc' := 98) (v := 6) (pw_dk dc_X12_calls 58 rfl) rfl (by decide) ?_
  refine PW_iload (pc' := 100) (q := 2) (pw_dk dc_X12_calls 59 rfl) rfl rfl ?_
  refine PW_i2l (pc' := 101) (pw_dk dc_X12_calls 60 rfl) rfl ?_
  obtain ⟨σ_7, hi_8, e_9, h⟩ := wp_wrLx h
  refine PZ_lastx (pc' := 102) (σ' := σ_7) (id := 5035) (nn := 7) (pw_dk dc_X12_calls 61 rfl) rfl me_5035 hi_8 e_9 ?_
  have z := wp_some h
  exact PZ_vret (pw_dk dc_X12_calls 62 rfl) rfl z
def f_X12_calls_52  (x2 : Int32) (x3 : Int32) (x4 : Int32) (x5 : Int32) (s1 : Int32) (s2 : Int64) (σ : zS) : Option zS := 
  (wrL σ 5035 7 s1 s2).bind fun σ_1 =>
  (wrL σ_1 5035 7 3 ((f_X12_faceOf x2 σ_1).toInt64)).bind fun σ_5 =>
  if (f_X12_isCrossed x2 x3 σ_5) = 0 then
    f_X12_calls_82 x4 x5 4 0 σ_5
  else
    f_X12_calls_82 x4 x5 4 1 σ_5
theorem b_X12_calls_52 {Q : Option Value → zS → Prop} (x2 : Int32) (x3 : Int32) (x4 : Int32) (x5 : Int32) (s1 : Int32) (s2 : Int64) (σ : zS) (h : wpO (f_X12_calls_52 x2 x3 x4 x5 s1 s2 σ) (fun s => Q none s)) : PZ alM mX12_calls (2) Q 52 [(0, .ref 5000), (2, .int x2), (3, .int x3), (4, .int x4), (5, .int x5)] [.long s2, .int s1, .ref 5035] σ := by
  unfold f_X12_calls_52 at h
  obtain ⟨σ_1, hi_2, e_3, h⟩ := wp_wrLx h
  refine PZ_lastx (pc' := 53) (σ' := σ_1) (id := 5035) (nn := 7) (pw_dk dc_X12_calls 31 rfl) rfl me_5035 hi_2 e_3 ?_
  refine PW_aload_n (pc' := 54) (q := 0) (pw_dk dc_X12_calls 32 rfl) rfl rfl rfl ?_
  refine PW_getR (pc' := 57) (id := 5000) (ci := 12) (nn := 0) (C0 := RX12) (T := TX12) (N := 62) (j := 34) (r := 5035) (pw_dk dc_X12_calls 33 rfl) rfl me_5000 rfl pi_12 (by decide) fk_12_34 tw_1431 (rfl) (by decide) ?_
  refine PW_iconst (pc' := 58) (v := 3) (pw_dk dc_X12_calls 34 rfl) rfl (by decide) ?_
  refine PW_iload_n (pc' := 59) (q := 1) (pw_dk dc_X12_calls 35 rfl) rfl rfl rfl ?_
  refine PZ_callSi (pc' := 62) (y := yX12_faceOf) (M' := mX12_faceOf) (d' := 0) (As := [.int x2]) (st := [.int 3, .ref 5035]) tw_1748 (pw_dk dc_X12_calls 36 rfl) rfl Y_X12_faceOf tw_1747 rfl (by decide) (Nat.le_of_ble_eq_true rfl) (t_X12_faceOf x2 σ_1 _ ?_)
  refine ⟨_, rfl, fun hn_4 => ?_⟩
  show PZ alM mX12_calls (2) Q 62 [(0, .ref 5000), (2, .int x2), (3, .int x3), (4, .int x4), (5, .int x5)] [.int (f_X12_faceOf x2 σ_1), .int 3, .ref 5035] σ_1
  refine PW_i2l (pc' := 63) (pw_dk dc_X12_calls 37 rfl) rfl ?_
  obtain ⟨σ_5, hi_6, e_7, h⟩ := wp_wrLx h
  refine PZ_lastx (pc' := 64) (σ' := σ_5) (id := 5035) (nn := 7) (pw_dk dc_X12_calls 38 rfl) rfl me_5035 hi_6 e_7 ?_
  refine PW_aload_n (pc' := 65) (q := 0) (pw_dk dc_X12_calls 39 rfl) rfl rfl rfl ?_
  refine PW_getR (pc' := 68) (id := 5000) (ci := 12) (nn := 0) (C0 := RX12) (T := TX12) (N := 62) (j := 34) (r := 5035) (pw_dk dc_X12_calls 40 rfl) rfl me_5000 rfl pi_12 (by decide) fk_12_34 tw_1431 (rfl) (by decide) ?_
  refine PW_iconst (pc' := 69) (v := 4) (pw_dk dc_X12_calls 41 rfl) rfl (by decide) ?_
  refine PW_iload_n (pc' := 70) (q := 1) (pw_dk dc_X12_calls 42 rfl) rfl rfl rfl ?_
  refine PW_iload_n (pc' := 71) (q := 2) (pw_dk dc_X12_calls 43 rfl) rfl rfl rfl ?_
  refine PZ_callSi (pc' := 74) (y := yX12_isCrossed) (M' := mX12_isCrossed) (d' := 0) (As := [.int x2, .int x3]) (st := [.int 4, .ref 5035]) tw_1769 (pw_dk dc_X12_calls 44 rfl) rfl Y_X12_isCrossed tw_1768 rfl (by decide) (Nat.le_of_ble_eq_true rfl) (t_X12_isCrossed x2 x3 σ_5 _ ?_)
  refine ⟨_, rfl, fun hn_8 => ?_⟩
  show PZ alM mX12_calls (2) Q 74 [(0, .ref 5000), (2, .int x2), (3, .int x3), (4, .int x4), (5, .int x5)] [.int (f_X12_isCrossed x2 x3 σ_5), .int 4, .ref 5035] σ_5
  refine PW_if_eq (pc' := 77) (tgt := 81) (pw_dk dc_X12_calls 45 rfl) rfl (by decide) (fun c_9 => ?_) (fun c_9 => ?_)
  · rw [if_pos c_9] at h
    refine PW_lconst (pc' := 82) (v := 0) (pw_dk dc_X12_calls 48 rfl) rfl (by decide) ?_
    refine PW_sub (lv' := [(0, .ref 5000), (4, .int x4), (5, .int x5)]) [0, 3, 4] rfl ?_
    exact b_X12_calls_82 x4 x5 4 0 σ_5 h
  · rw [if_neg c_9] at h
    refine PW_lconst (pc' := 78) (v := 1) (pw_dk dc_X12_calls 46 rfl) rfl (by decide) ?_
    refine PW_goto (tgt := 82) (pw_dk dc_X12_calls 47 rfl) (by decide) ?_
    refine PW_sub (lv' := [(0, .ref 5000), (4, .int x4), (5, .int x5)]) [0, 3, 4] rfl ?_
    exact b_X12_calls_82 x4 x5 4 1 σ_5 h
def f_X12_calls (x1 : Int32) (x2 : Int32) (x3 : Int32) (x4 : Int32) (x5 : Int32) (σ : zS) : Option zS := 
  (f_X12_landOf (f_X12_placeOf x2 x3 σ) σ).bind fun v_3 =>
  (wrL σ 5035 7 0 x3.toInt64).bind fun σ_5 =>
  (f_X12_sideOf x1 x3 σ_5).bind fun v_9 =>
  (wrL σ_5 5035 7 1 v_9.toInt64).bind fun σ_11 =>
  if v_3 = (-1 : Int32) then
    f_X12_calls_52 x2 x3 x4 x5 2 9 σ_11
  else
    f_X12_calls_52 x2 x3 x4 x5 2 v_3.toInt64 σ_11
theorem t_X12_calls (x1 : Int32) (x2 : Int32) (x3 : Int32) (x4 : Int32) (x5 : Int32) (σ : zS) (Q : Option Value → zS → Prop) (h : wpO (f_X12_calls x1 x2 x3 x4 x5 σ) (fun s => Q none s)) : PK alM yX12_calls mX12_calls (2) [.ref 5000, .int x1, .int x2, .int x3, .int x4, .int x5] σ Q := by
  refine PC_ofF (by decide +kernel) rfl rfl (Nat.le_of_ble_eq_true rfl) ?_
  show PZ alM mX12_calls (2) Q 0 [(0, .ref 5000), (1, .int x1), (2, .int x2), (3, .int x3), (4, .int x4), (5, .int x5)] [] σ
  unfold f_X12_calls at h
  refine PW_aload_n (pc' := 1) (q := 0) (pw_dk dc_X12_calls 0 rfl) rfl rfl rfl ?_
  refine PW_iload_n (pc' := 2) (q := 2) (pw_dk dc_X12_calls 1 rfl) rfl rfl rfl ?_
  refine PW_iload_n (pc' := 3) (q := 3) (pw_dk dc_X12_calls 2 rfl) rfl rfl rfl ?_
  refine PZ_callSi (pc' := 6) (y := yX12_placeOf) (M' := mX12_placeOf) (d' := 1) (As := [.int x2, .int x3]) (st := [.ref 5000]) tw_1766 (pw_dk dc_X12_calls 3 rfl) rfl Y_X12_placeOf tw_1765 rfl (by decide) (Nat.le_of_ble_eq_true rfl) (t_X12_placeOf x2 x3 σ _ ?_)
  refine ⟨_, rfl, fun hn_1 => ?_⟩
  show PZ alM mX12_calls (2) Q 6 [(0, .ref 5000), (1, .int x1), (2, .int x2), (3, .int x3), (4, .int x4), (5, .int x5)] [.int (f_X12_placeOf x2 x3 σ), .ref 5000] σ
  refine PZ_callVi (pc' := 9) (y := yX12_landOf) (M' := mX12_landOf) (d' := 0) (As := [.int (f_X12_placeOf x2 x3 σ)]) (st := []) (b := 5000) (ci := 12) (nn := 0) me_5000 rfl tw_1756 tw_78 (pw_dk dc_X12_calls 4 rfl) rfl Y_X12_landOf tw_1754 rfl (by decide) (Nat.le_of_ble_eq_true rfl) (t_X12_landOf (f_X12_placeOf x2 x3 σ) σ _ ?_)
  obtain ⟨v_3, e_4, h⟩ := wp_bind h
  refine ⟨v_3, e_4, _, rfl, fun hn_2 => ?_⟩
  show PZ alM mX12_calls (2) Q 9 [(0, .ref 5000), (1, .int x1), (2, .int x2), (3, .int x3), (4, .int x4), (5, .int x5)] [.int v_3] σ
  refine PW_istore (pc' := 11) (lv' := [(6, .int v_3), (0, .ref 5000), (1, .int x1), (2, .int x2), (3, .int x3), (4, .int x4), (5, .int x5)]) (pw_dk dc_X12_calls 5 rfl) rfl (by decide) rfl ?_
  refine PW_aload_n (pc' := 12) (q := 1) (pw_dk dc_X12_calls 6 rfl) rfl rfl rfl ?_
  refine PW_getR (pc' := 15) (id := 5000) (ci := 12) (nn := 0) (C0 := RX12) (T := TX12) (N := 62) (j := 34) (r := 5035) (pw_dk dc_X12_calls 7 rfl) rfl me_5000 rfl pi_12 (by decide) fk_12_34 tw_1431 (rfl) (by decide) ?_
  refine PW_iconst (pc' := 16) (v := 0) (pw_dk dc_X12_calls 8 rfl) rfl (by decide) ?_
  refine PW_iload_n (pc' := 17) (q := 4) (pw_dk dc_X12_calls 9 rfl) rfl rfl rfl ?_
  refine PW_i2l (pc' := 18) (pw_dk dc_X12_calls 10 rfl) rfl ?_
  obtain ⟨σ_5, hi_6, e_7, h⟩ := wp_wrLx h
  refine PZ_lastx (pc' := 19) (σ' := σ_5) (id := 5035) (nn := 7) (pw_dk dc_X12_calls 11 rfl) rfl me_5035 hi_6 e_7 ?_
  refine PW_aload_n (pc' := 20) (q := 1) (pw_dk dc_X12_calls 12 rfl) rfl rfl rfl ?_
  refine PW_getR (pc' := 23) (id := 5000) (ci := 12) (nn := 0) (C0 := RX12) (T := TX12) (N := 62) (j := 34) (r := 5035) (pw_dk dc_X12_calls 13 rfl) rfl me_5000 rfl pi_12 (by decide) fk_12_34 tw_1431 (rfl) (by decide) ?_
  refine PW_iconst (pc' := 24) (v := 1) (pw_dk dc_X12_calls 14 rfl) rfl (by decide) ?_
  refine PW_aload_n (pc' := 25) (q := 1) (pw_dk dc_X12_calls 15 rfl) rfl rfl rfl ?_
  refine PW_iload_n (pc' := 26) (q := 2) (pw_dk dc_X12_calls 16 rfl) rfl rfl rfl ?_
  refine PW_iload_n (pc' := 27) (q := 4) (pw_dk dc_X12_calls 17 rfl) rfl rfl rfl ?_
  refine PZ_callVi (pc' := 30) (y := yX12_sideOf) (M' := mX12_sideOf) (d' := 0) (As := [.int x1, .int x3]) (st := [.int 1, .ref 5035]) (b := 5000) (ci := 12) (nn := 0) me_5000 rfl tw_1773 tw_79 (pw_dk dc_X12_calls 18 rfl) rfl Y_X12_sideOf tw_1771 rfl (by decide) (Nat.le_of_ble_eq_true rfl) (t_X12_sideOf x1 x3 σ_5 _ ?_)
  obtain ⟨v_9, e_10, h⟩ := wp_bind h
  refine ⟨v_9, e_10, _, rfl, fun hn_8 => ?_⟩
  show PZ alM mX12_calls (2) Q 30 [(6, .int v_3), (0, .ref 5000), (1, .int x1), (2, .int x2), (3, .int x3), (4, .int x4), (5, .int x5)] [.int v_9, .int 1, .ref 5035] σ_5
  refine PW_i2l (pc' := 31) (pw_dk dc_X12_calls 19 rfl) rfl ?_
  obtain ⟨σ_11, hi_12, e_13, h⟩ := wp_wrLx h
  refine PZ_lastx (pc' := 32) (σ' := σ_11) (id := 5035) (nn := 7) (pw_dk dc_X12_calls 20 rfl) rfl me_5035 hi_12 e_13 ?_
  refine PW_aload_n (pc' := 33) (q := 1) (pw_dk dc_X12_calls 21 rfl) rfl rfl rfl ?_
  refine PW_getR (pc' := 36) (id := 5000) (ci := 12) (nn := 0) (C0 := RX12) (T := TX12) (N := 62) (j := 34) (r := 5035) (pw_dk dc_X12_calls 22 rfl) rfl me_5000 rfl pi_12 (by decide) fk_12_34 tw_1431 (rfl) (by decide) ?_
  refine PW_iconst (pc' := 37) (v := 2) (pw_dk dc_X12_calls 23 rfl) rfl (by decide) ?_
  refine PW_iload (pc' := 39) (q := 0) (pw_dk dc_X12_calls 24 rfl) rfl rfl ?_
  refine PW_iconst (pc' := 40) (v := (-1 : Int32)) (pw_dk dc_X12_calls 25 rfl) rfl (by decide) ?_
  refine PW_icmp_ne (pc' := 43) (tgt := 49) (pw_dk dc_X12_calls 26 rfl) rfl (by decide) (fun c_14 => ?_) (fun c_14 => ?_)
  · rw [if_neg c_14] at h
    refine PW_iload (pc' := 51) (q := 0) (pw_dk dc_X12_calls 29 rfl) rfl rfl ?_
    refine PW_i2l (pc' := 52) (pw_dk dc_X12_calls 30 rfl) rfl ?_
    refine PW_sub (lv' := [(0, .ref 5000), (2, .int x2), (3, .int x3), (4, .int x4), (5, .int x5)]) [1, 3, 4, 5, 6] rfl ?_
    exact b_X12_calls_52 x2 x3 x4 x5 2 v_3.toInt64 σ_11 h
  · rw [if_pos c_14] at h
    refine PW_ldc2 (pc' := 46) (v := 9) (pw_dk dc_X12_calls 27 rfl) rfl tw_1783 ?_
    refine PW_goto (tgt := 52) (pw_dk dc_X12_calls 28 rfl) (by decide) ?_
    refine PW_sub (lv' := [(0, .ref 5000), (2, .int x2), (3, .int x3), (4, .int x4), (5, .int x5)]) [1, 3, 4, 5, 6] rfl ?_
    exact b_X12_calls_52 x2 x3 x4 x5 2 9 σ_11 h
def f_X12_isBound_54  (x1 : Int32) (x3 : Int32) (σ : zS) : Option (Int32 × zS) := 
  (f_X12_sideOf x1 x3 σ).bind fun v_2 =>
  if v_2 = 0 then
    some (1, σ)
  else
    some (0, σ)
theorem b_X12_isBound_54 {Q : Option Value → zS → Prop} (x1 : Int32) (x3 : Int32) (σ : zS) (h : wpO (f_X12_isBound_54 x1 x3 σ) (fun a => Q (some (.int a.1)) a.2)) : PZ alM mX12_isBound (3) Q 54 [(0, .ref 5000), (1, .int x1), (3, .int x3)] [] σ := by
  unfold f_X12_isBound_54 at h
  refine PW_aload_n (pc' := 55) (q := 0) (pw_dk dc_X12_isBound 31 rfl) rfl rfl rfl ?_
  refine PW_iload_n (pc' := 56) (q := 1) (pw_dk dc_X12_isBound 32 rfl) rfl rfl rfl ?_
  refine PW_iload_n (pc' := 57) (q := 2) (pw_dk dc_X12_isBound 33 rfl) rfl rfl rfl ?_
  refine PZ_callVi (pc' := 60) (y := yX12_sideOf) (M' := mX12_sideOf) (d' := 0) (As := [.int x1, .int x3]) (st := []) (b := 5000) (ci := 12) (nn := 0) me_5000 rfl tw_1773 tw_79 (pw_dk dc_X12_isBound 34 rfl) rfl Y_X12_sideOf tw_1771 rfl (by decide) (Nat.le_of_ble_eq_true rfl) (t_X12_sideOf x1 x3 σ _ ?_)
  obtain ⟨v_2, e_3, h⟩ := wp_bind h
  refine ⟨v_2, e_3, _, rfl, fun hn_1 => ?_⟩
  show PZ alM mX12_isBound (3) Q 60 [(0, .ref 5000), (1, .int x1), (3, .int x3)] [.int v_2] σ
  refine PW_if_ne (pc' := 63) (tgt := 67) (pw_dk dc_X12_isBound 35 rfl) rfl (by decide) (fun c_4 => ?_) (fun c_4 => ?_)
  · rw [if_neg c_4] at h
    refine PW_iconst (pc' := 68) (v := 0) (pw_dk dc_X12_isBound 38 rfl) rfl (by decide) ?_
    have z := wp_some h
    exact PZ_iret (ty := .boolean) (pw_dk dc_X12_isBound 39 rfl) rfl (by decide) z
  · rw [if_pos c_4] at h
    refine PW_iconst (pc' := 64) (v := 1) (pw_dk dc_X12_isBound 36 rfl) rfl (by decide) ?_
    refine PW_goto (tgt := 68) (pw_dk dc_X12_isBound 37 rfl) (by decide) ?_
    have z := wp_some h
    exact PZ_iret (ty := .boolean) (pw_dk dc_X12_isBound 39 rfl) rfl (by decide) z
def f_X12_isBound (x1 : Int32) (x2 : Int32) (x3 : Int32) (x4 : Int32) (σ : zS) : Option (Int32 × zS) := 
  if (σ.1 5000 37) = 0 then
    some (0, σ)
  else
    (f_X12_calls x1 x2 x3 0 x4 σ).bind fun σ_3 =>
    (f_X12_hasLaw 0 σ_3).bind fun v_6 =>
    if v_6 = 0 then
      f_X12_isBound_54 x1 x3 σ_3
    else
      b2 (f_X12_goes 0 σ_3) fun v_11 σ_10 =>
      if v_11 = 0 then
        f_X12_isBound_54 x1 x3 σ_10
      else
        (rdL σ_10 5036 64 0).bind fun v_14 =>
        if (lg_cmp v_14 0) = 0 then
          some (0, σ_10)
        else
          some (1, σ_10)
theorem t_X12_isBound (x1 : Int32) (x2 : Int32) (x3 : Int32) (x4 : Int32) (σ : zS) (Q : Option Value → zS → Prop) (h : wpO (f_X12_isBound x1 x2 x3 x4 σ) (fun a => Q (some (.int a.1)) a.2)) : PK alM yX12_isBound mX12_isBound (3) [.ref 5000, .int x1, .int x2, .int x3, .int x4] σ Q := by
  refine PC_ofF (by decide +kernel) rfl rfl (Nat.le_of_ble_eq_true rfl) ?_
  show PZ alM mX12_isBound (3) Q 0 [(0, .ref 5000), (1, .int x1), (2, .int x2), (3, .int x3), (4, .int x4)] [] σ
  unfold f_X12_isBound at h
  refine PW_aload_n (pc' := 1) (q := 0) (pw_dk dc_X12_isBound 0 rfl) rfl rfl rfl ?_
  refine PZ_getI (pc' := 4) (id := 5000) (ci := 12) (nn := 0) (C0 := RX12) (T := TX12) (N := 62) (j := 37) (pw_dk dc_X12_isBound 1 rfl) rfl me_5000 rfl pi_12 (by decide) fk_12_37 tw_1434 ?_
  refine PW_if_ne (pc' := 7) (tgt := 9) (pw_dk dc_X12_isBound 2 rfl) rfl (by decide) (fun c_1 => ?_) (fun c_1 => ?_)
  · rw [if_neg c_1] at h
    refine PW_aload_n (pc' := 10) (q := 0) (pw_dk dc_X12_isBound 5 rfl) rfl rfl rfl ?_
    refine PW_iload_n (pc' := 11) (q := 1) (pw_dk dc_X12_isBound 6 rfl) rfl rfl rfl ?_
    refine PW_iload_n (pc' := 12) (q := 2) (pw_dk dc_X12_isBound 7 rfl) rfl rfl rfl ?_
    refine PW_iload_n (pc' := 13) (q := 3) (pw_dk dc_X12_isBound 8 rfl) rfl rfl rfl ?_
    refine PW_iconst (pc' := 14) (v := 0) (pw_dk dc_X12_isBound 9 rfl) rfl (by decide) ?_
    refine PW_iload (pc' := 16) (q := 4) (pw_dk dc_X12_isBound 10 rfl) rfl rfl ?_
    refine PZ_callVv (pc' := 19) (y := yX12_calls) (M' := mX12_calls) (d' := 2) (As := [.int x1, .int x2, .int x3, .int 0, .int x4]) (st := []) (b := 5000) (ci := 12) (nn := 0) me_5000 rfl tw_1781 tw_81 (pw_dk dc_X12_isBound 11 rfl) rfl Y_X12_calls tw_1779 rfl (by decide) (Nat.le_of_ble_eq_true rfl) (t_X12_calls x1 x2 x3 0 x4 σ _ ?_)
    obtain ⟨σ_3, e_4, h⟩ := wp_bind h
    refine ⟨σ_3, e_4, rfl, fun hn_2 => ?_⟩
    show PZ alM mX12_isBound (3) Q 19 [(0, .ref 5000), (1, .int x1), (2, .int x2), (3, .int x3), (4, .int x4)] [] σ_3
    refine PW_aload_n (pc' := 20) (q := 0) (pw_dk dc_X12_isBound 12 rfl) rfl rfl rfl ?_
    refine PW_iconst (pc' := 21) (v := 0) (pw_dk dc_X12_isBound 13 rfl) rfl (by decide) ?_
    refine PZ_callVi (pc' := 24) (y := yX12_hasLaw) (M' := mX12_hasLaw) (d' := 0) (As := [.int 0]) (st := []) (b := 5000) (ci := 12) (nn := 0) me_5000 rfl tw_1786 tw_82 (pw_dk dc_X12_isBound 14 rfl) rfl Y_X12_hasLaw tw_1784 rfl (by decide) (Nat.le_of_ble_eq_true rfl) (t_X12_hasLaw 0 σ_3 _ ?_)
    obtain ⟨v_6, e_7, h⟩ := wp_bind h
    refine ⟨v_6, e_7, _, rfl, fun hn_5 => ?_⟩
    show PZ alM mX12_isBound (3) Q 24 [(0, .ref 5000), (1, .int x1), (2, .int x2), (3, .int x3), (4, .int x4)] [.int v_6] σ_3
    refine PW_if_eq (pc' := 27) (tgt := 54) (pw_dk dc_X12_isBound 15 rfl) rfl (by decide) (fun c_8 => ?_) (fun c_8 => ?_)
    · rw [if_pos c_8] at h
      refine PW_sub (lv' := [(0, .ref 5000), (1, .int x1), (3, .int x3)]) [0, 1, 3] rfl ?_
      exact b_X12_isBound_54 x1 x3 σ_3 h
    · rw [if_neg c_8] at h
      refine PW_aload_n (pc' := 28) (q := 0) (pw_dk dc_X12_isBound 16 rfl) rfl rfl rfl ?_
      refine PW_iconst (pc' := 29) (v := 0) (pw_dk dc_X12_isBound 17 rfl) rfl (by decide) ?_
      refine PZ_callVi (pc' := 32) (y := yX12_goes) (M' := mX12_goes) (d' := 2) (As := [.int 0]) (st := []) (b := 5000) (ci := 12) (nn := 0) me_5000 rfl tw_1790 tw_83 (pw_dk dc_X12_isBound 18 rfl) rfl Y_X12_goes tw_1788 rfl (by decide) (Nat.le_of_ble_eq_true rfl) (t_X12_goes 0 σ_3 _ ?_)
      obtain ⟨⟨v_11, σ_10⟩, e_12, h⟩ := wp_bind2 h
      refine ⟨(v_11, σ_10), e_12, _, rfl, fun hn_9 => ?_⟩
      show PZ alM mX12_isBound (3) Q 32 [(0, .ref 5000), (1, .int x1), (2, .int x2), (3, .int x3), (4, .int x4)] [.int v_11] σ_10
      refine PW_if_eq (pc' := 35) (tgt := 54) (pw_dk dc_X12_isBound 19 rfl) rfl (by decide) (fun c_13 => ?_) (fun c_13 => ?_)
      · rw [if_pos c_13] at h
        refine PW_sub (lv' := [(0, .ref 5000), (1, .int x1), (3, .int x3)]) [0, 1, 3] rfl ?_
        exact b_X12_isBound_54 x1 x3 σ_10 h
      · rw [if_neg c_13] at h
        refine PW_aload_n (pc' := 36) (q := 0) (pw_dk dc_X12_isBound 20 rfl) rfl rfl rfl ?_
        refine PW_getR (pc' := 39) (id := 5000) (ci := 12) (nn := 0) (C0 := RX12) (T := TX12) (N := 62) (j := 35) (r := 5036) (pw_dk dc_X12_isBound 21 rfl) rfl me_5000 rfl pi_12 (by decide) fk_12_35 tw_1432 (rfl) (by decide) ?_
        refine PW_iconst (pc' := 40) (v := 0) (pw_dk dc_X12_isBound 22 rfl) rfl (by decide) ?_
        obtain ⟨v_14, hi_15, e_16, h⟩ := wp_rdLx h
        refine PZ_laldx (pc' := 41) (v := v_14) (id := 5036) (nn := 64) (pw_dk dc_X12_isBound 23 rfl) rfl me_5036 hi_15 e_16 ?_
        refine PW_lconst (pc' := 42) (v := 0) (pw_dk dc_X12_isBound 24 rfl) rfl (by decide) ?_
        refine PW_lcmp (pc' := 43) (pw_dk dc_X12_isBound 25 rfl) rfl ?_
        refine PW_if_eq (pc' := 46) (tgt := 50) (pw_dk dc_X12_isBound 26 rfl) rfl (by decide) (fun c_17 => ?_) (fun c_17 => ?_)
        · rw [if_pos c_17] at h
          refine PW_iconst (pc' := 51) (v := 0) (pw_dk dc_X12_isBound 29 rfl) rfl (by decide) ?_
          refine PW_goto (tgt := 68) (pw_dk dc_X12_isBound 30 rfl) (by decide) ?_
          have z := wp_some h
          exact PZ_iret (ty := .boolean) (pw_dk dc_X12_isBound 39 rfl) rfl (by decide) z
        · rw [if_neg c_17] at h
          refine PW_iconst (pc' := 47) (v := 1) (pw_dk dc_X12_isBound 27 rfl) rfl (by decide) ?_
          refine PW_goto (tgt := 68) (pw_dk dc_X12_isBound 28 rfl) (by decide) ?_
          have z := wp_some h
          exact PZ_iret (ty := .boolean) (pw_dk dc_X12_isBound 39 rfl) rfl (by decide) z
  · rw [if_pos c_1] at h
    refine PW_iconst (pc' := 8) (v := 0) (pw_dk dc_X12_isBound 3 rfl) rfl (by decide) ?_
    have z := wp_some h
    exact PZ_iret (ty := .boolean) (pw_dk dc_X12_isBound 4 rfl) rfl (by decide) z
def f_X12_mayDo_46  (x4 : Int32) (σ : zS) : Option (Int32 × zS) := 
  if x4 = 2 then
    some (0, σ)
  else
    some (1, σ)
theorem b_X12_mayDo_46 {Q : Option Value → zS → Prop} (x4 : Int32) (σ : zS) (h : wpO (f_X12_mayDo_46 x4 σ) (fun a => Q (some (.int a.1)) a.2)) : PZ alM mX12_mayDo (3) Q 46 [(4, .int x4)] [] σ := by
  unfold f_X12_mayDo_46 at h
  refine PW_iload (pc' := 48) (q := 0) (pw_dk dc_X12_mayDo 26 rfl) rfl rfl ?_
  refine PW_iconst (pc' := 49) (v := 2) (pw_dk dc_X12_mayDo 27 rfl) rfl (by decide) ?_
  refine PW_icmp_eq (pc' := 52) (tgt := 56) (pw_dk dc_X12_mayDo 28 rfl) rfl (by decide) (fun c_1 => ?_) (fun c_1 => ?_)
  · rw [if_pos c_1] at h
    refine PW_iconst (pc' := 57) (v := 0) (pw_dk dc_X12_mayDo 31 rfl) rfl (by decide) ?_
    have z := wp_some h
    exact PZ_iret (ty := .boolean) (pw_dk dc_X12_mayDo 32 rfl) rfl (by decide) z
  · rw [if_neg c_1] at h
    refine PW_iconst (pc' := 53) (v := 1) (pw_dk dc_X12_mayDo 29 rfl) rfl (by decide) ?_
    refine PW_goto (tgt := 57) (pw_dk dc_X12_mayDo 30 rfl) (by decide) ?_
    have z := wp_some h
    exact PZ_iret (ty := .boolean) (pw_dk dc_X12_mayDo 32 rfl) rfl (by decide) z
def f_X12_mayDo (x1 : Int32) (x2 : Int32) (x3 : Int32) (x4 : Int32) (x5 : Int32) (σ : zS) : Option (Int32 × zS) := 
  (f_X12_calls x1 x2 x3 x4 x5 σ).bind fun σ_2 =>
  (f_X12_hasLaw 1 σ_2).bind fun v_5 =>
  if v_5 = 0 then
    f_X12_mayDo_46 x4 σ_2
  else
    b2 (f_X12_goes 1 σ_2) fun v_10 σ_9 =>
    if v_10 = 0 then
      f_X12_mayDo_46 x4 σ_9
    else
      (rdL σ_9 5036 64 0).bind fun v_13 =>
      if (lg_cmp v_13 0) = 0 then
        some (0, σ_9)
      else
        some (1, σ_9)
theorem t_X12_mayDo (x1 : Int32) (x2 : Int32) (x3 : Int32) (x4 : Int32) (x5 : Int32) (σ : zS) (Q : Option Value → zS → Prop) (h : wpO (f_X12_mayDo x1 x2 x3 x4 x5 σ) (fun a => Q (some (.int a.1)) a.2)) : PK alM yX12_mayDo mX12_mayDo (3) [.ref 5000, .int x1, .int x2, .int x3, .int x4, .int x5] σ Q := by
  refine PC_ofF (by decide +kernel) rfl rfl (Nat.le_of_ble_eq_true rfl) ?_
  show PZ alM mX12_mayDo (3) Q 0 [(0, .ref 5000), (1, .int x1), (2, .int x2), (3, .int x3), (4, .int x4), (5, .int x5)] [] σ
  unfold f_X12_mayDo at h
  refine PW_aload_n (pc' := 1) (q := 0) (pw_dk dc_X12_mayDo 0 rfl) rfl rfl rfl ?_
  refine PW_iload_n (pc' := 2) (q := 1) (pw_dk dc_X12_mayDo 1 rfl) rfl rfl rfl ?_
  refine PW_iload_n (pc' := 3) (q := 2) (pw_dk dc_X12_mayDo 2 rfl) rfl rfl rfl ?_
  refine PW_iload_n (pc' := 4) (q := 3) (pw_dk dc_X12_mayDo 3 rfl) rfl rfl rfl ?_
  refine PW_iload (pc' := 6) (q := 4) (pw_dk dc_X12_mayDo 4 rfl) rfl rfl ?_
  refine PW_iload (pc' := 8) (q := 5) (pw_dk dc_X12_mayDo 5 rfl) rfl rfl ?_
  refine PZ_callVv (pc' := 11) (y := yX12_calls) (M' := mX12_calls) (d' := 2) (As := [.int x1, .int x2, .int x3, .int x4, .int x5]) (st := []) (b := 5000) (ci := 12) (nn := 0) me_5000 rfl tw_1781 tw_81 (pw_dk dc_X12_mayDo 6 rfl) rfl Y_X12_calls tw_1779 rfl (by decide) (Nat.le_of_ble_eq_true rfl) (t_X12_calls x1 x2 x3 x4 x5 σ _ ?_)
  obtain ⟨σ_2, e_3, h⟩ := wp_bind h
  refine ⟨σ_2, e_3, rfl, fun hn_1 => ?_⟩
  show PZ alM mX12_mayDo (3) Q 11 [(0, .ref 5000), (1, .int x1), (2, .int x2), (3, .int x3), (4, .int x4), (5, .int x5)] [] σ_2
  refine PW_aload_n (pc' := 12) (q := 0) (pw_dk dc_X12_mayDo 7 rfl) rfl rfl rfl ?_
  refine PW_iconst (pc' := 13) (v := 1) (pw_dk dc_X12_mayDo 8 rfl) rfl (by decide) ?_
  refine PZ_callVi (pc' := 16) (y := yX12_hasLaw) (M' := mX12_hasLaw) (d' := 0) (As := [.int 1]) (st := []) (b := 5000) (ci := 12) (nn := 0) me_5000 rfl tw_1786 tw_82 (pw_dk dc_X12_mayDo 9 rfl) rfl Y_X12_hasLaw tw_1784 rfl (by decide) (Nat.le_of_ble_eq_true rfl) (t_X12_hasLaw 1 σ_2 _ ?_)
  obtain ⟨v_5, e_6, h⟩ := wp_bind h
  refine ⟨v_5, e_6, _, rfl, fun hn_4 => ?_⟩
  show PZ alM mX12_mayDo (3) Q 16 [(0, .ref 5000), (1, .int x1), (2, .int x2), (3, .int x3), (4, .int x4), (5, .int x5)] [.int v_5] σ_2
  refine PW_if_eq (pc' := 19) (tgt := 46) (pw_dk dc_X12_mayDo 10 rfl) rfl (by decide) (fun c_7 => ?_) (fun c_7 => ?_)
  · rw [if_pos c_7] at h
    refine PW_sub (lv' := [(4, .int x4)]) [4] rfl ?_
    exact b_X12_mayDo_46 x4 σ_2 h
  · rw [if_neg c_7] at h
    refine PW_aload_n (pc' := 20) (q := 0) (pw_dk dc_X12_mayDo 11 rfl) rfl rfl rfl ?_
    refine PW_iconst (pc' := 21) (v := 1) (pw_dk dc_X12_mayDo 12 rfl) rfl (by decide) ?_
    refine PZ_callVi (pc' := 24) (y := yX12_goes) (M' := mX12_goes) (d' := 2) (As := [.int 1]) (st := []) (b := 5000) (ci := 12) (nn := 0) me_5000 rfl tw_1790 tw_83 (pw_dk dc_X12_mayDo 13 rfl) rfl Y_X12_goes tw_1788 rfl (by decide) (Nat.le_of_ble_eq_true rfl) (t_X12_goes 1 σ_2 _ ?_)
    obtain ⟨⟨v_10, σ_9⟩, e_11, h⟩ := wp_bind2 h
    refine ⟨(v_10, σ_9), e_11, _, rfl, fun hn_8 => ?_⟩
    show PZ alM mX12_mayDo (3) Q 24 [(0, .ref 5000), (1, .int x1), (2, .int x2), (3, .int x3), (4, .int x4), (5, .int x5)] [.int v_10] σ_9
    refine PW_if_eq (pc' := 27) (tgt := 46) (pw_dk dc_X12_mayDo 14 rfl) rfl (by decide) (fun c_12 => ?_) (fun c_12 => ?_)
    · rw [if_pos c_12] at h
      refine PW_sub (lv' := [(4, .int x4)]) [4] rfl ?_
      exact b_X12_mayDo_46 x4 σ_9 h
    · rw [if_neg c_12] at h
      refine PW_aload_n (pc' := 28) (q := 0) (pw_dk dc_X12_mayDo 15 rfl) rfl rfl rfl ?_
      refine PW_getR (pc' := 31) (id := 5000) (ci := 12) (nn := 0) (C0 := RX12) (T := TX12) (N := 62) (j := 35) (r := 5036) (pw_dk dc_X12_mayDo 16 rfl) rfl me_5000 rfl pi_12 (by decide) fk_12_35 tw_1432 (rfl) (by decide) ?_
      refine PW_iconst (pc' := 32) (v := 0) (pw_dk dc_X12_mayDo 17 rfl) rfl (by decide) ?_
      obtain ⟨v_13, hi_14, e_15, h⟩ := wp_rdLx h
      refine PZ_laldx (pc' := 33) (v := v_13) (id := 5036) (nn := 64) (pw_dk dc_X12_mayDo 18 rfl) rfl me_5036 hi_14 e_15 ?_
      refine PW_lconst (pc' := 34) (v := 0) (pw_dk dc_X12_mayDo 19 rfl) rfl (by decide) ?_
      refine PW_lcmp (pc' := 35) (pw_dk dc_X12_mayDo 20 rfl) rfl ?_
      refine PW_if_eq (pc' := 38) (tgt := 42) (pw_dk dc_X12_mayDo 21 rfl) rfl (by decide) (fun c_16 => ?_) (fun c_16 => ?_)
      · rw [if_pos c_16] at h
        refine PW_iconst (pc' := 43) (v := 0) (pw_dk dc_X12_mayDo 24 rfl) rfl (by decide) ?_
        refine PW_goto (tgt := 57) (pw_dk dc_X12_mayDo 25 rfl) (by decide) ?_
        have z := wp_some h
        exact PZ_iret (ty := .boolean) (pw_dk dc_X12_mayDo 32 rfl) rfl (by decide) z
      · rw [if_neg c_16] at h
        refine PW_iconst (pc' := 39) (v := 1) (pw_dk dc_X12_mayDo 22 rfl) rfl (by decide) ?_
        refine PW_goto (tgt := 57) (pw_dk dc_X12_mayDo 23 rfl) (by decide) ?_
        have z := wp_some h
        exact PZ_iret (ty := .boolean) (pw_dk dc_X12_mayDo 32 rfl) rfl (by decide) z
def f_X12_isBarred (x1 : Int32) (x2 : Int32) (σ : zS) : Option Int32 := 
  (f_X12_landOf (f_X12_placeOf x1 x2 σ) σ).bind fun v_3 =>
  if (σ.1 5000 37) = 1 then
    some 0
  else
    if v_3 = (-1 : Int32) then
      some 0
    else
      (rdI σ 5008 10 v_3).bind fun v_7 =>
      if ((v_7 >>> (x2 &&& 31)) &&& (1 : Int32)) = 1 then
        some 1
      else
        some 0
theorem t_X12_isBarred (x1 : Int32) (x2 : Int32) (σ : zS) (Q : Option Value → zS → Prop) (h : wpO (f_X12_isBarred x1 x2 σ) (fun a => Q (some (.int a)) σ)) : PK alM yX12_isBarred mX12_isBarred (2) [.ref 5000, .int x1, .int x2] σ Q := by
  refine PC_ofF (by decide +kernel) rfl rfl (Nat.le_of_ble_eq_true rfl) ?_
  show PZ alM mX12_isBarred (2) Q 0 [(0, .ref 5000), (1, .int x1), (2, .int x2)] [] σ
  unfold f_X12_isBarred at h
  refine PW_aload_n (pc' := 1) (q := 0) (pw_dk dc_X12_isBarred 0 rfl) rfl rfl rfl ?_
  refine PW_iload_n (pc' := 2) (q := 1) (pw_dk dc_X12_isBarred 1 rfl) rfl rfl rfl ?_
  refine PW_iload_n (pc' := 3) (q := 2) (pw_dk dc_X12_isBarred 2 rfl) rfl rfl rfl ?_
  refine PZ_callSi (pc' := 6) (y := yX12_placeOf) (M' := mX12_placeOf) (d' := 1) (As := [.int x1, .int x2]) (st := [.ref 5000]) tw_1766 (pw_dk dc_X12_isBarred 3 rfl) rfl Y_X12_placeOf tw_1765 rfl (by decide) (Nat.le_of_ble_eq_true rfl) (t_X12_placeOf x1 x2 σ _ ?_)
  refine ⟨_, rfl, fun hn_1 => ?_⟩
  show PZ alM mX12_isBarred (2) Q 6 [(0, .ref 5000), (1, .int x1), (2, .int x2)] [.int (f_X12_placeOf x1 x2 σ), .ref 5000] σ
  refine PZ_callVi (pc' := 9) (y := yX12_landOf) (M' := mX12_landOf) (d' := 0) (As := [.int (f_X12_placeOf x1 x2 σ)]) (st := []) (b := 5000) (ci := 12) (nn := 0) me_5000 rfl tw_1756 tw_78 (pw_dk dc_X12_isBarred 4 rfl) rfl Y_X12_landOf tw_1754 rfl (by decide) (Nat.le_of_ble_eq_true rfl) (t_X12_landOf (f_X12_placeOf x1 x2 σ) σ _ ?_)
  obtain ⟨v_3, e_4, h⟩ := wp_bind h
  refine ⟨v_3, e_4, _, rfl, fun hn_2 => ?_⟩
  show PZ alM mX12_isBarred (2) Q 9 [(0, .ref 5000), (1, .int x1), (2, .int x2)] [.int v_3] σ
  refine PW_istore_n (pc' := 10) (lv' := [(3, .int v_3), (0, .ref 5000), (1, .int x1), (2, .int x2)]) (pw_dk dc_X12_isBarred 5 rfl) rfl rfl (by decide) rfl ?_
  refine PW_aload_n (pc' := 11) (q := 1) (pw_dk dc_X12_isBarred 6 rfl) rfl rfl rfl ?_
  refine PZ_getI (pc' := 14) (id := 5000) (ci := 12) (nn := 0) (C0 := RX12) (T := TX12) (N := 62) (j := 37) (pw_dk dc_X12_isBarred 7 rfl) rfl me_5000 rfl pi_12 (by decide) fk_12_37 tw_1434 ?_
  refine PW_iconst (pc' := 15) (v := 1) (pw_dk dc_X12_isBarred 8 rfl) rfl (by decide) ?_
  refine PW_icmp_eq (pc' := 18) (tgt := 41) (pw_dk dc_X12_isBarred 9 rfl) rfl (by decide) (fun c_5 => ?_) (fun c_5 => ?_)
  · rw [if_pos c_5] at h
    refine PW_iconst (pc' := 42) (v := 0) (pw_dk dc_X12_isBarred 25 rfl) rfl (by decide) ?_
    have z := wp_some h
    exact PZ_iret (ty := .boolean) (pw_dk dc_X12_isBarred 26 rfl) rfl (by decide) z
  · rw [if_neg c_5] at h
    refine PW_iload_n (pc' := 19) (q := 0) (pw_dk dc_X12_isBarred 10 rfl) rfl rfl rfl ?_
    refine PW_iconst (pc' := 20) (v := (-1 : Int32)) (pw_dk dc_X12_isBarred 11 rfl) rfl (by decide) ?_
    refine PW_icmp_eq (pc' := 23) (tgt := 41) (pw_dk dc_X12_isBarred 12 rfl) rfl (by decide) (fun c_6 => ?_) (fun c_6 => ?_)
    · rw [if_pos c_6] at h
      refine PW_iconst (pc' := 42) (v := 0) (pw_dk dc_X12_isBarred 25 rfl) rfl (by decide) ?_
      have z := wp_some h
      exact PZ_iret (ty := .boolean) (pw_dk dc_X12_isBarred 26 rfl) rfl (by decide) z
    · rw [if_neg c_6] at h
      refine PW_aload_n (pc' := 24) (q := 1) (pw_dk dc_X12_isBarred 13 rfl) rfl rfl rfl ?_
      refine PW_getR (pc' := 27) (id := 5000) (ci := 12) (nn := 0) (C0 := RX12) (T := TX12) (N := 62) (j := 7) (r := 5008) (pw_dk dc_X12_isBarred 14 rfl) rfl me_5000 rfl pi_12 (by decide) fk_12_7 tw_1404 (rfl) (by decide) ?_
      refine PW_iload_n (pc' := 28) (q := 0) (pw_dk dc_X12_isBarred 15 rfl) rfl rfl rfl ?_
      obtain ⟨v_7, hi_8, e_9, h⟩ := wp_rdIx h
      refine PZ_ialdx (pc' := 29) (v := v_7) (id := 5008) (nn := 10) (pw_dk dc_X12_isBarred 16 rfl) rfl me_5008 hi_8 e_9 ?_
      refine PW_iload_n (pc' := 30) (q := 3) (pw_dk dc_X12_isBarred 17 rfl) rfl rfl rfl ?_
      refine PW_ishr (pc' := 31) (pw_dk dc_X12_isBarred 18 rfl) rfl ?_
      refine PW_iconst (pc' := 32) (v := 1) (pw_dk dc_X12_isBarred 19 rfl) rfl (by decide) ?_
      refine PW_iand (pc' := 33) (pw_dk dc_X12_isBarred 20 rfl) rfl ?_
      refine PW_iconst (pc' := 34) (v := 1) (pw_dk dc_X12_isBarred 21 rfl) rfl (by decide) ?_
      refine PW_icmp_ne (pc' := 37) (tgt := 41) (pw_dk dc_X12_isBarred 22 rfl) rfl (by decide) (fun c_10 => ?_) (fun c_10 => ?_)
      · rw [if_neg c_10] at h
        refine PW_iconst (pc' := 42) (v := 0) (pw_dk dc_X12_isBarred 25 rfl) rfl (by decide) ?_
        have z := wp_some h
        exact PZ_iret (ty := .boolean) (pw_dk dc_X12_isBarred 26 rfl) rfl (by decide) z
      · rw [if_pos c_10] at h
        refine PW_iconst (pc' := 38) (v := 1) (pw_dk dc_X12_isBarred 23 rfl) rfl (by decide) ?_
        refine PW_goto (tgt := 42) (pw_dk dc_X12_isBarred 24 rfl) (by decide) ?_
        have z := wp_some h
        exact PZ_iret (ty := .boolean) (pw_dk dc_X12_isBarred 26 rfl) rfl (by decide) z
def f_X12_isLawful_35   (σ : zS) : Option (Int32 × zS) := 
  some (1, σ)
theorem b_X12_isLawful_35 {Q : Option Value → zS → Prop}  (σ : zS) (h : wpO (f_X12_isLawful_35 σ) (fun a => Q (some (.int a.1)) a.2)) : PZ alM mX12_isLawful (4) Q 35 [] [] σ := by
  unfold f_X12_isLawful_35 at h
  refine PW_iconst (pc' := 36) (v := 1) (pw_dk dc_X12_isLawful 20 rfl) rfl (by decide) ?_
  refine PW_goto (tgt := 40) (pw_dk dc_X12_isLawful 21 rfl) (by decide) ?_
  have z := wp_some h
  exact PZ_iret (ty := .boolean) (pw_dk dc_X12_isLawful 23 rfl) rfl (by decide) z
def f_X12_isLawful (x1 : Int32) (x2 : Int32) (x3 : Int32) (x4 : Int32) (x5 : Int32) (σ : zS) : Option (Int32 × zS) := 
  (f_X12_isBarred x2 x3 σ).bind fun v_2 =>
  if v_2 = 0 then
    b2 (f_X12_isBound x1 x2 x3 x5 σ) fun v_7 σ_6 =>
    if v_7 = 0 then
      f_X12_isLawful_35 σ_6
    else
      b2 (f_X12_mayDo x1 x2 x3 x4 x5 σ_6) fun v_12 σ_11 =>
      if v_12 = 0 then
        some (0, σ_11)
      else
        f_X12_isLawful_35 σ_11
  else
    some (0, σ)
theorem t_X12_isLawful (x1 : Int32) (x2 : Int32) (x3 : Int32) (x4 : Int32) (x5 : Int32) (σ : zS) (Q : Option Value → zS → Prop) (h : wpO (f_X12_isLawful x1 x2 x3 x4 x5 σ) (fun a => Q (some (.int a.1)) a.2)) : PK alM yX12_isLawful mX12_isLawful (4) [.ref 5000, .int x1, .int x2, .int x3, .int x4, .int x5] σ Q := by
  refine PC_ofF (by decide +kernel) rfl rfl (Nat.le_of_ble_eq_true rfl) ?_
  show PZ alM mX12_isLawful (4) Q 0 [(0, .ref 5000), (1, .int x1), (2, .int x2), (3, .int x3), (4, .int x4), (5, .int x5)] [] σ
  unfold f_X12_isLawful at h
  refine PW_aload_n (pc' := 1) (q := 0) (pw_dk dc_X12_isLawful 0 rfl) rfl rfl rfl ?_
  refine PW_iload_n (pc' := 2) (q := 2) (pw_dk dc_X12_isLawful 1 rfl) rfl rfl rfl ?_
  refine PW_iload_n (pc' := 3) (q := 3) (pw_dk dc_X12_isLawful 2 rfl) rfl rfl rfl ?_
  refine PZ_callVi (pc' := 6) (y := yX12_isBarred) (M' := mX12_isBarred) (d' := 2) (As := [.int x2, .int x3]) (st := []) (b := 5000) (ci := 12) (nn := 0) me_5000 rfl tw_1806 tw_85 (pw_dk dc_X12_isLawful 3 rfl) rfl Y_X12_isBarred tw_1804 rfl (by decide) (Nat.le_of_ble_eq_true rfl) (t_X12_isBarred x2 x3 σ _ ?_)
  obtain ⟨v_2, e_3, h⟩ := wp_bind h
  refine ⟨v_2, e_3, _, rfl, fun hn_1 => ?_⟩
  show PZ alM mX12_isLawful (4) Q 6 [(0, .ref 5000), (1, .int x1), (2, .int x2), (3, .int x3), (4, .int x4), (5, .int x5)] [.int v_2] σ
  refine PW_if_ne (pc' := 9) (tgt := 39) (pw_dk dc_X12_isLawful 4 rfl) rfl (by decide) (fun c_4 => ?_) (fun c_4 => ?_)
  · rw [if_neg c_4] at h
    refine PW_iconst (pc' := 40) (v := 0) (pw_dk dc_X12_isLawful 22 rfl) rfl (by decide) ?_
    have z := wp_some h
    exact PZ_iret (ty := .boolean) (pw_dk dc_X12_isLawful 23 rfl) rfl (by decide) z
  · rw [if_pos c_4] at h
    refine PW_aload_n (pc' := 10) (q := 0) (pw_dk dc_X12_isLawful 5 rfl) rfl rfl rfl ?_
    refine PW_iload_n (pc' := 11) (q := 1) (pw_dk dc_X12_isLawful 6 rfl) rfl rfl rfl ?_
    refine PW_iload_n (pc' := 12) (q := 2) (pw_dk dc_X12_isLawful 7 rfl) rfl rfl rfl ?_
    refine PW_iload_n (pc' := 13) (q := 3) (pw_dk dc_X12_isLawful 8 rfl) rfl rfl rfl ?_
    refine PW_iload (pc' := 15) (q := 5) (pw_dk dc_X12_isLawful 9 rfl) rfl rfl ?_
    refine PZ_callVi (pc' := 18) (y := yX12_isBound) (M' := mX12_isBound) (d' := 3) (As := [.int x1, .int x2, .int x3, .int x5]) (st := []) (b := 5000) (ci := 12) (nn := 0) me_5000 rfl tw_1777 tw_80 (pw_dk dc_X12_isLawful 10 rfl) rfl Y_X12_isBound tw_1775 rfl (by decide) (Nat.le_of_ble_eq_true rfl) (t_X12_isBound x1 x2 x3 x5 σ _ ?_)
    obtain ⟨⟨v_7, σ_6⟩, e_8, h⟩ := wp_bind2 h
    refine ⟨(v_7, σ_6), e_8, _, rfl, fun hn_5 => ?_⟩
    show PZ alM mX12_isLawful (4) Q 18 [(0, .ref 5000), (1, .int x1), (2, .int x2), (3, .int x3), (4, .int x4), (5, .int x5)] [.int v_7] σ_6
    refine PW_if_eq (pc' := 21) (tgt := 35) (pw_dk dc_X12_isLawful 11 rfl) rfl (by decide) (fun c_9 => ?_) (fun c_9 => ?_)
    · rw [if_pos c_9] at h
      refine PW_sub (lv' := []) [] rfl ?_
      exact b_X12_isLawful_35 σ_6 h
    · rw [if_neg c_9] at h
      refine PW_aload_n (pc' := 22) (q := 0) (pw_dk dc_X12_isLawful 12 rfl) rfl rfl rfl ?_
      refine PW_iload_n (pc' := 23) (q := 1) (pw_dk dc_X12_isLawful 13 rfl) rfl rfl rfl ?_
      refine PW_iload_n (pc' := 24) (q := 2) (pw_dk dc_X12_isLawful 14 rfl) rfl rfl rfl ?_
      refine PW_iload_n (pc' := 25) (q := 3) (pw_dk dc_X12_isLawful 15 rfl) rfl rfl rfl ?_
      refine PW_iload (pc' := 27) (q := 4) (pw_dk dc_X12_isLawful 16 rfl) rfl rfl ?_
      refine PW_iload (pc' := 29) (q := 5) (pw_dk dc_X12_isLawful 17 rfl) rfl rfl ?_
      refine PZ_callVi (pc' := 32) (y := yX12_mayDo) (M' := mX12_mayDo) (d' := 3) (As := [.int x1, .int x2, .int x3, .int x4, .int x5]) (st := []) (b := 5000) (ci := 12) (nn := 0) me_5000 rfl tw_1821 tw_87 (pw_dk dc_X12_isLawful 18 rfl) rfl Y_X12_mayDo tw_1819 rfl (by decide) (Nat.le_of_ble_eq_true rfl) (t_X12_mayDo x1 x2 x3 x4 x5 σ_6 _ ?_)
      obtain ⟨⟨v_12, σ_11⟩, e_13, h⟩ := wp_bind2 h
      refine ⟨(v_12, σ_11), e_13, _, rfl, fun hn_10 => ?_⟩
      show PZ alM mX12_isLawful (4) Q 32 [(0, .ref 5000), (1, .int x1), (2, .int x2), (3, .int x3), (4, .int x4), (5, .int x5)] [.int v_12] σ_11
      refine PW_if_eq (pc' := 35) (tgt := 39) (pw_dk dc_X12_isLawful 19 rfl) rfl (by decide) (fun c_14 => ?_) (fun c_14 => ?_)
      · rw [if_pos c_14] at h
        refine PW_iconst (pc' := 40) (v := 0) (pw_dk dc_X12_isLawful 22 rfl) rfl (by decide) ?_
        have z := wp_some h
        exact PZ_iret (ty := .boolean) (pw_dk dc_X12_isLawful 23 rfl) rfl (by decide) z
      · rw [if_neg c_14] at h
        refine PW_sub (lv' := []) [] rfl ?_
        exact b_X12_isLawful_35 σ_11 h
def f_X12_moved (x1 : Int32) (x2 : Int32) (σ : zS) : Option Int32 := 
  lt (α := Int32) (f_X12_faceOf x1 σ) fun x3_2 =>
  if x2 = 0 then
    some ((x1 - ((4 : Int32) * x3_2)) + ((4 : Int32) * ((x3_2 + (1 : Int32)) - (x3_2 + (1 : Int32)) / (4 : Int32) * (4 : Int32))))
  else if x2 = 1 then
    some ((x1 - ((4 : Int32) * x3_2)) + ((4 : Int32) * ((x3_2 + (3 : Int32)) - (x3_2 + (3 : Int32)) / (4 : Int32) * (4 : Int32))))
  else if x2 = 2 then
    if ((x1 / (2 : Int32)) - (x1 / (2 : Int32)) / (2 : Int32) * (2 : Int32)) = 0 then
      some (x1 + (2 : Int32))
    else
      some (x1 - (2 : Int32))
  else if x2 = 3 then
    if (x1 - x1 / (2 : Int32) * (2 : Int32)) = 0 then
      some (x1 + (1 : Int32))
    else
      some (x1 - (1 : Int32))
  else if x2 = 4 then
    if 16 ≤ x1 then
      some (x1 - (16 : Int32))
    else
      some (-1 : Int32)
  else
    (rdI σ 5004 16 0).bind fun v_12 =>
    if ((f_X12_cellOf x1 σ) + (1 : Int32)) = v_12 then
      some (-1 : Int32)
    else
      some (x1 + (16 : Int32))
theorem t_X12_moved (x1 : Int32) (x2 : Int32) (σ : zS) (Q : Option Value → zS → Prop) (h : wpO (f_X12_moved x1 x2 σ) (fun a => Q (some (.int a)) σ)) : PK alM yX12_moved mX12_moved (1) [.ref 5000, .int x1, .int x2] σ Q := by
  refine PC_ofF (by decide +kernel) rfl rfl (Nat.le_of_ble_eq_true rfl) ?_
  show PZ alM mX12_moved (1) Q 0 [(0, .ref 5000), (1, .int x1), (2, .int x2)] [] σ
  unfold f_X12_moved at h
  refine PW_iload_n (pc' := 1) (q := 1) (pw_dk dc_X12_moved 0 rfl) rfl rfl rfl ?_
  refine PZ_callSi (pc' := 4) (y := yX12_faceOf) (M' := mX12_faceOf) (d' := 0) (As := [.int x1]) (st := []) tw_1748 (pw_dk dc_X12_moved 1 rfl) rfl Y_X12_faceOf tw_1747 rfl (by decide) (Nat.le_of_ble_eq_true rfl) (t_X12_faceOf x1 σ _ ?_)
  refine ⟨_, rfl, fun hn_1 => ?_⟩
  show PZ alM mX12_moved (1) Q 4 [(0, .ref 5000), (1, .int x1), (2, .int x2)] [.int (f_X12_faceOf x1 σ)] σ
  refine PW_topi (fun x3_2 ex3_2 => ?_)
  replace h := lt_w h ex3_2
  refine PW_istore_n (pc' := 5) (lv' := [(3, .int x3_2), (0, .ref 5000), (1, .int x1), (2, .int x2)]) (pw_dk dc_X12_moved 2 rfl) rfl rfl (by decide) rfl ?_
  refine PW_iload_n (pc' := 6) (q := 3) (pw_dk dc_X12_moved 3 rfl) rfl rfl rfl ?_
  by_cases c_3 : x2 = 0
  · rw [if_pos c_3] at h
    refine PW_tin (tgt := 40) (pw_dk dc_X12_moved 4 rfl) (by rw [c_3]; decide) (by rw [c_3]; decide) (by rw [c_3] <;> rfl) (by decide) ?_
    refine PW_iload_n (pc' := 41) (q := 2) (pw_dk dc_X12_moved 5 rfl) rfl rfl rfl ?_
    refine PW_iconst (pc' := 42) (v := 4) (pw_dk dc_X12_moved 6 rfl) rfl (by decide) ?_
    refine PW_iload_n (pc' := 43) (q := 0) (pw_dk dc_X12_moved 7 rfl) rfl rfl rfl ?_
    refine PW_imul (pc' := 44) (pw_dk dc_X12_moved 8 rfl) rfl ?_
    refine PW_isub (pc' := 45) (pw_dk dc_X12_moved 9 rfl) rfl ?_
    refine PW_iconst (pc' := 46) (v := 4) (pw_dk dc_X12_moved 10 rfl) rfl (by decide) ?_
    refine PW_iload_n (pc' := 47) (q := 0) (pw_dk dc_X12_moved 11 rfl) rfl rfl rfl ?_
    refine PW_iconst (pc' := 48) (v := 1) (pw_dk dc_X12_moved 12 rfl) rfl (by decide) ?_
    refine PW_iadd (pc' := 49) (pw_dk dc_X12_moved 13 rfl) rfl ?_
    refine PW_iconst (pc' := 50) (v := 4) (pw_dk dc_X12_moved 14 rfl) rfl (by decide) ?_
    refine PW_irem (pc' := 51) (pw_dk dc_X12_moved 15 rfl) rfl (by decide) ?_
    refine PW_imul (pc' := 52) (pw_dk dc_X12_moved 16 rfl) rfl ?_
    refine PW_iadd (pc' := 53) (pw_dk dc_X12_moved 17 rfl) rfl ?_
    have z := wp_some h
    exact PZ_iret (ty := .int) (pw_dk dc_X12_moved 18 rfl) rfl rfl z
  · rw [if_neg c_3] at h
    by_cases c_4 : x2 = 1
    · rw [if_pos c_4] at h
      refine PW_tin (tgt := 54) (pw_dk dc_X12_moved 4 rfl) (by rw [c_4]; decide) (by rw [c_4]; decide) (by rw [c_4] <;> rfl) (by decide) ?_
      refine PW_iload_n (pc' := 55) (q := 2) (pw_dk dc_X12_moved 19 rfl) rfl rfl rfl ?_
      refine PW_iconst (pc' := 56) (v := 4) (pw_dk dc_X12_moved 20 rfl) rfl (by decide) ?_
      refine PW_iload_n (pc' := 57) (q := 0) (pw_dk dc_X12_moved 21 rfl) rfl rfl rfl ?_
      refine PW_imul (pc' := 58) (pw_dk dc_X12_moved 22 rfl) rfl ?_
      refine PW_isub (pc' := 59) (pw_dk dc_X12_moved 23 rfl) rfl ?_
      refine PW_iconst (pc' := 60) (v := 4) (pw_dk dc_X12_moved 24 rfl) rfl (by decide) ?_
      refine PW_iload_n (pc' := 61) (q := 0) (pw_dk dc_X12_moved 25 rfl) rfl rfl rfl ?_
      refine PW_iconst (pc' := 62) (v := 3) (pw_dk dc_X12_moved 26 rfl) rfl (by decide) ?_
      refine PW_iadd (pc' := 63) (pw_dk dc_X12_moved 27 rfl) rfl ?_
      refine PW_iconst (pc' := 64) (v := 4) (pw_dk dc_X12_moved 28 rfl) rfl (by decide) ?_
      refine PW_irem (pc' := 65) (pw_dk dc_X12_moved 29 rfl) rfl (by decide) ?_
      refine PW_imul (pc' := 66) (pw_dk dc_X12_moved 30 rfl) rfl ?_
      refine PW_iadd (pc' := 67) (pw_dk dc_X12_moved 31 rfl) rfl ?_
      have z := wp_some h
      exact PZ_iret (ty := .int) (pw_dk dc_X12_moved 32 rfl) rfl rfl z
    · rw [if_neg c_4] at h
      by_cases c_5 : x2 = 2
      · rw [if_pos c_5] at h
        refine PW_tin (tgt := 68) (pw_dk dc_X12_moved 4 rfl) (by rw [c_5]; decide) (by rw [c_5]; decide) (by rw [c_5] <;> rfl) (by decide) ?_
        refine PW_iload_n (pc' := 69) (q := 2) (pw_dk dc_X12_moved 33 rfl) rfl rfl rfl ?_
        refine PW_iconst (pc' := 70) (v := 2) (pw_dk dc_X12_moved 34 rfl) rfl (by decide) ?_
        refine PW_idiv (pc' := 71) (pw_dk dc_X12_moved 35 rfl) rfl (by decide) ?_
        refine PW_iconst (pc' := 72) (v := 2) (pw_dk dc_X12_moved 36 rfl) rfl (by decide) ?_
        refine PW_irem (pc' := 73) (pw_dk dc_X12_moved 37 rfl) rfl (by decide) ?_
        refine PW_if_ne (pc' := 76) (tgt := 82) (pw_dk dc_X12_moved 38 rfl) rfl (by decide) (fun c_6 => ?_) (fun c_6 => ?_)
        · rw [if_neg c_6] at h
          refine PW_iload_n (pc' := 83) (q := 2) (pw_dk dc_X12_moved 43 rfl) rfl rfl rfl ?_
          refine PW_iconst (pc' := 84) (v := 2) (pw_dk dc_X12_moved 44 rfl) rfl (by decide) ?_
          refine PW_isub (pc' := 85) (pw_dk dc_X12_moved 45 rfl) rfl ?_
          have z := wp_some h
          exact PZ_iret (ty := .int) (pw_dk dc_X12_moved 46 rfl) rfl rfl z
        · rw [if_pos c_6] at h
          refine PW_iload_n (pc' := 77) (q := 2) (pw_dk dc_X12_moved 39 rfl) rfl rfl rfl ?_
          refine PW_iconst (pc' := 78) (v := 2) (pw_dk dc_X12_moved 40 rfl) rfl (by decide) ?_
          refine PW_iadd (pc' := 79) (pw_dk dc_X12_moved 41 rfl) rfl ?_
          refine PW_goto (tgt := 85) (pw_dk dc_X12_moved 42 rfl) (by decide) ?_
          have z := wp_some h
          exact PZ_iret (ty := .int) (pw_dk dc_X12_moved 46 rfl) rfl rfl z
      · rw [if_neg c_5] at h
        by_cases c_7 : x2 = 3
        · rw [if_pos c_7] at h
          refine PW_tin (tgt := 86) (pw_dk dc_X12_moved 4 rfl) (by rw [c_7]; decide) (by rw [c_7]; decide) (by rw [c_7] <;> rfl) (by decide) ?_
          refine PW_iload_n (pc' := 87) (q := 2) (pw_dk dc_X12_moved 47 rfl) rfl rfl rfl ?_
          refine PW_iconst (pc' := 88) (v := 2) (pw_dk dc_X12_moved 48 rfl) rfl (by decide) ?_
          refine PW_irem (pc' := 89) (pw_dk dc_X12_moved 49 rfl) rfl (by decide) ?_
          refine PW_if_ne (pc' := 92) (tgt := 98) (pw_dk dc_X12_moved 50 rfl) rfl (by decide) (fun c_8 => ?_) (fun c_8 => ?_)
          · rw [if_neg c_8] at h
            refine PW_iload_n (pc' := 99) (q := 2) (pw_dk dc_X12_moved 55 rfl) rfl rfl rfl ?_
            refine PW_iconst (pc' := 100) (v := 1) (pw_dk dc_X12_moved 56 rfl) rfl (by decide) ?_
            refine PW_isub (pc' := 101) (pw_dk dc_X12_moved 57 rfl) rfl ?_
            have z := wp_some h
            exact PZ_iret (ty := .int) (pw_dk dc_X12_moved 58 rfl) rfl rfl z
          · rw [if_pos c_8] at h
            refine PW_iload_n (pc' := 93) (q := 2) (pw_dk dc_X12_moved 51 rfl) rfl rfl rfl ?_
            refine PW_iconst (pc' := 94) (v := 1) (pw_dk dc_X12_moved 52 rfl) rfl (by decide) ?_
            refine PW_iadd (pc' := 95) (pw_dk dc_X12_moved 53 rfl) rfl ?_
            refine PW_goto (tgt := 101) (pw_dk dc_X12_moved 54 rfl) (by decide) ?_
            have z := wp_some h
            exact PZ_iret (ty := .int) (pw_dk dc_X12_moved 58 rfl) rfl rfl z
        · rw [if_neg c_7] at h
          by_cases c_9 : x2 = 4
          · rw [if_pos c_9] at h
            refine PW_tin (tgt := 102) (pw_dk dc_X12_moved 4 rfl) (by rw [c_9]; decide) (by rw [c_9]; decide) (by rw [c_9] <;> rfl) (by decide) ?_
            refine PW_iload_n (pc' := 103) (q := 2) (pw_dk dc_X12_moved 59 rfl) rfl rfl rfl ?_
            refine PW_bipush (pc' := 105) (v := 16) (pw_dk dc_X12_moved 60 rfl) rfl (by decide) ?_
            refine PW_icmp_ge (pc' := 108) (tgt := 112) (pw_dk dc_X12_moved 61 rfl) rfl (by decide) (fun c_10 => ?_) (fun c_10 => ?_)
            · rw [if_pos c_10] at h
              refine PW_iload_n (pc' := 113) (q := 2) (pw_dk dc_X12_moved 64 rfl) rfl rfl rfl ?_
              refine PW_bipush (pc' := 115) (v := 16) (pw_dk dc_X12_moved 65 rfl) rfl (by decide) ?_
              refine PW_isub (pc' := 116) (pw_dk dc_X12_moved 66 rfl) rfl ?_
              have z := wp_some h
              exact PZ_iret (ty := .int) (pw_dk dc_X12_moved 67 rfl) rfl rfl z
            · rw [if_neg c_10] at h
              refine PW_iconst (pc' := 109) (v := (-1 : Int32)) (pw_dk dc_X12_moved 62 rfl) rfl (by decide) ?_
              refine PW_goto (tgt := 116) (pw_dk dc_X12_moved 63 rfl) (by decide) ?_
              have z := wp_some h
              exact PZ_iret (ty := .int) (pw_dk dc_X12_moved 67 rfl) rfl rfl z
          · rw [if_neg c_9] at h
            have kc_3 := pw_ne c_3 (show (0 : Int32).toInt = 0 by decide)
            have kc_4 := pw_ne c_4 (show (1 : Int32).toInt = 1 by decide)
            have kc_5 := pw_ne c_5 (show (2 : Int32).toInt = 2 by decide)
            have kc_7 := pw_ne c_7 (show (3 : Int32).toInt = 3 by decide)
            have kc_9 := pw_ne c_9 (show (4 : Int32).toInt = 4 by decide)
            refine PW_tout (tgt := 117) (pw_dk dc_X12_moved 4 rfl) (by omega) (by decide) ?_
            refine PW_iload_n (pc' := 118) (q := 2) (pw_dk dc_X12_moved 68 rfl) rfl rfl rfl ?_
            refine PZ_callSi (pc' := 121) (y := yX12_cellOf) (M' := mX12_cellOf) (d' := 0) (As := [.int x1]) (st := []) tw_1745 (pw_dk dc_X12_moved 69 rfl) rfl Y_X12_cellOf tw_1744 rfl (by decide) (Nat.le_of_ble_eq_true rfl) (t_X12_cellOf x1 σ _ ?_)
            refine ⟨_, rfl, fun hn_11 => ?_⟩
            show PZ alM mX12_moved (1) Q 121 [(3, .int x3_2), (0, .ref 5000), (1, .int x1), (2, .int x2)] [.int (f_X12_cellOf x1 σ)] σ
            refine PW_iconst (pc' := 122) (v := 1) (pw_dk dc_X12_moved 70 rfl) rfl (by decide) ?_
            refine PW_iadd (pc' := 123) (pw_dk dc_X12_moved 71 rfl) rfl ?_
            refine PW_aload_n (pc' := 124) (q := 1) (pw_dk dc_X12_moved 72 rfl) rfl rfl rfl ?_
            refine PW_getR (pc' := 127) (id := 5000) (ci := 12) (nn := 0) (C0 := RX12) (T := TX12) (N := 62) (j := 3) (r := 5004) (pw_dk dc_X12_moved 73 rfl) rfl me_5000 rfl pi_12 (by decide) fk_12_3 tw_1400 (rfl) (by decide) ?_
            refine PW_iconst (pc' := 128) (v := 0) (pw_dk dc_X12_moved 74 rfl) rfl (by decide) ?_
            obtain ⟨v_12, hi_13, e_14, h⟩ := wp_rdIx h
            refine PZ_ialdx (pc' := 129) (v := v_12) (id := 5004) (nn := 16) (pw_dk dc_X12_moved 75 rfl) rfl me_5004 hi_13 e_14 ?_
            refine PW_icmp_ne (pc' := 132) (tgt := 136) (pw_dk dc_X12_moved 76 rfl) rfl (by decide) (fun c_15 => ?_) (fun c_15 => ?_)
            · rw [if_neg c_15] at h
              refine PW_iload_n (pc' := 137) (q := 2) (pw_dk dc_X12_moved 79 rfl) rfl rfl rfl ?_
              refine PW_bipush (pc' := 139) (v := 16) (pw_dk dc_X12_moved 80 rfl) rfl (by decide) ?_
              refine PW_iadd (pc' := 140) (pw_dk dc_X12_moved 81 rfl) rfl ?_
              have z := wp_some h
              exact PZ_iret (ty := .int) (pw_dk dc_X12_moved 82 rfl) rfl rfl z
            · rw [if_pos c_15] at h
              refine PW_iconst (pc' := 133) (v := (-1 : Int32)) (pw_dk dc_X12_moved 77 rfl) rfl (by decide) ?_
              refine PW_goto (tgt := 140) (pw_dk dc_X12_moved 78 rfl) (by decide) ?_
              have z := wp_some h
              exact PZ_iret (ty := .int) (pw_dk dc_X12_moved 82 rfl) rfl rfl z
def f_X12_copies_111  : Nat → Int32 → Int32 → Int32 → zS → Option zS
  | 0, _, _, _, _ => none
  | n + 1, x1, x2, x3, σ => 
    if 12 ≤ x3 then
      some σ
    else
      (rdI σ 5045 276 (((12 : Int32) * x2) + x3)).bind fun v_2 =>
      (wrI σ 5045 276 (((12 : Int32) * x1) + x3) v_2).bind fun σ_5 =>
      f_X12_copies_111 n x1 x2 (x3 + 1) σ_5
theorem b_X12_copies_111 {Q : Option Value → zS → Prop} : ∀ (n : Nat) (x1 : Int32) (x2 : Int32) (x3 : Int32) (σ : zS) (h : wpO (f_X12_copies_111 n x1 x2 x3 σ) (fun s => Q none s)), PZ alM mX12_copies (0) Q 111 [(0, .ref 5000), (1, .int x1), (2, .int x2), (3, .int x3)] [] σ := by
  intro n
  induction n with
  | zero => intro x1 x2 x3 σ h; exact wp_none h
  | succ n ih =>
    intro x1 x2 x3 σ h
    rw [f_X12_copies_111] at h
    refine PW_iload_n (pc' := 112) (q := 3) (pw_dk dc_X12_copies 81 rfl) rfl rfl rfl ?_
    refine PW_bipush (pc' := 114) (v := 12) (pw_dk dc_X12_copies 82 rfl) rfl (by decide) ?_
    refine PW_icmp_ge (pc' := 117) (tgt := 145) (pw_dk dc_X12_copies 83 rfl) rfl (by decide) (fun c_1 => ?_) (fun c_1 => ?_)
    · rw [if_pos c_1] at h
      have z := wp_some h
      exact PZ_vret (pw_dk dc_X12_copies 102 rfl) rfl z
    · rw [if_neg c_1] at h
      refine PW_aload_n (pc' := 118) (q := 0) (pw_dk dc_X12_copies 84 rfl) rfl rfl rfl ?_
      refine PW_getR (pc' := 121) (id := 5000) (ci := 12) (nn := 0) (C0 := RX12) (T := TX12) (N := 62) (j := 44) (r := 5045) (pw_dk dc_X12_copies 85 rfl) rfl me_5000 rfl pi_12 (by decide) fk_12_44 tw_1441 (rfl) (by decide) ?_
      refine PW_bipush (pc' := 123) (v := 12) (pw_dk dc_X12_copies 86 rfl) rfl (by decide) ?_
      refine PW_iload_n (pc' := 124) (q := 1) (pw_dk dc_X12_copies 87 rfl) rfl rfl rfl ?_
      refine PW_imul (pc' := 125) (pw_dk dc_X12_copies 88 rfl) rfl ?_
      refine PW_iload_n (pc' := 126) (q := 3) (pw_dk dc_X12_copies 89 rfl) rfl rfl rfl ?_
      refine PW_iadd (pc' := 127) (pw_dk dc_X12_copies 90 rfl) rfl ?_
      refine PW_aload_n (pc' := 128) (q := 0) (pw_dk dc_X12_copies 91 rfl) rfl rfl rfl ?_
      refine PW_getR (pc' := 131) (id := 5000) (ci := 12) (nn := 0) (C0 := RX12) (T := TX12) (N := 62) (j := 44) (r := 5045) (pw_dk dc_X12_copies 92 rfl) rfl me_5000 rfl pi_12 (by decide) fk_12_44 tw_1441 (rfl) (by decide) ?_
      refine PW_bipush (pc' := 133) (v := 12) (pw_dk dc_X12_copies 93 rfl) rfl (by decide) ?_
      refine PW_iload_n (pc' := 134) (q := 2) (pw_dk dc_X12_copies 94 rfl) rfl rfl rfl ?_
      refine PW_imul (pc' := 135) (pw_dk dc_X12_copies 95 rfl) rfl ?_
      refine PW_iload_n (pc' := 136) (q := 3) (pw_dk dc_X12_copies 96 rfl) rfl rfl rfl ?_
      refine PW_iadd (pc' := 137) (pw_dk dc_X12_copies 97 rfl) rfl ?_
      obtain ⟨v_2, hi_3, e_4, h⟩ := wp_rdIx h
      refine PZ_ialdx (pc' := 138) (v := v_2) (id := 5045) (nn := 276) (pw_dk dc_X12_copies 98 rfl) rfl me_5045 hi_3 e_4 ?_
      obtain ⟨σ_5, hi_6, e_7, h⟩ := wp_wrIx h
      refine PZ_iastx (pc' := 139) (σ' := σ_5) (id := 5045) (nn := 276) (pw_dk dc_X12_copies 99 rfl) rfl me_5045 hi_6 e_7 ?_
      refine PW_iinc (pc' := 142) (q := 3) (v := x3 + 1) (lv' := [(3, .int (x3 + 1)), (0, .ref 5000), (1, .int x1), (2, .int x2)]) (pw_dk dc_X12_copies 100 rfl) rfl rfl rfl (by decide) rfl ?_
      refine PW_goto (tgt := 111) (pw_dk dc_X12_copies 101 rfl) (by decide) ?_
      refine PW_sub (lv' := [(0, .ref 5000), (1, .int x1), (2, .int x2), (3, .int (x3 + 1))]) [1, 2, 3, 0] rfl ?_
      exact ih x1 x2 (x3 + 1) σ_5 h
def f_X12_copies_38  : Nat → Int32 → Int32 → Int32 → zS → Option zS
  | 0, _, _, _, _ => none
  | n + 1, x1, x2, x3, σ => 
    if 5 ≤ x3 then
      f_X12_copies_111 FU x1 x2 0 σ
    else
      (rdI σ 5042 115 (((5 : Int32) * x2) + x3)).bind fun v_2 =>
      (wrI σ 5042 115 (((5 : Int32) * x1) + x3) v_2).bind fun σ_5 =>
      (rdI σ_5 5043 115 (((5 : Int32) * x2) + x3)).bind fun v_8 =>
      (wrI σ_5 5043 115 (((5 : Int32) * x1) + x3) v_8).bind fun σ_11 =>
      (rdI σ_11 5044 115 (((5 : Int32) * x2) + x3)).bind fun v_14 =>
      (wrI σ_11 5044 115 (((5 : Int32) * x1) + x3) v_14).bind fun σ_17 =>
      f_X12_copies_38 n x1 x2 (x3 + 1) σ_17
theorem b_X12_copies_38 {Q : Option Value → zS → Prop} : ∀ (n : Nat) (x1 : Int32) (x2 : Int32) (x3 : Int32) (σ : zS) (h : wpO (f_X12_copies_38 n x1 x2 x3 σ) (fun s => Q none s)), PZ alM mX12_copies (0) Q 38 [(0, .ref 5000), (1, .int x1), (2, .int x2), (3, .int x3)] [] σ := by
  intro n
  induction n with
  | zero => intro x1 x2 x3 σ h; exact wp_none h
  | succ n ih =>
    intro x1 x2 x3 σ h
    rw [f_X12_copies_38] at h
    refine PW_iload_n (pc' := 39) (q := 3) (pw_dk dc_X12_copies 26 rfl) rfl rfl rfl ?_
    refine PW_iconst (pc' := 40) (v := 5) (pw_dk dc_X12_copies 27 rfl) rfl (by decide) ?_
    refine PW_icmp_ge (pc' := 43) (tgt := 109) (pw_dk dc_X12_copies 28 rfl) rfl (by decide) (fun c_1 => ?_) (fun c_1 => ?_)
    · rw [if_pos c_1] at h
      refine PW_iconst (pc' := 110) (v := 0) (pw_dk dc_X12_copies 79 rfl) rfl (by decide) ?_
      refine PW_istore_n (pc' := 111) (lv' := [(3, .int 0), (0, .ref 5000), (1, .int x1), (2, .int x2)]) (pw_dk dc_X12_copies 80 rfl) rfl rfl (by decide) rfl ?_
      refine PW_sub (lv' := [(0, .ref 5000), (1, .int x1), (2, .int x2), (3, .int 0)]) [1, 2, 3, 0] rfl ?_
      exact b_X12_copies_111 FU x1 x2 0 σ h
    · rw [if_neg c_1] at h
      refine PW_aload_n (pc' := 44) (q := 0) (pw_dk dc_X12_copies 29 rfl) rfl rfl rfl ?_
      refine PW_getR (pc' := 47) (id := 5000) (ci := 12) (nn := 0) (C0 := RX12) (T := TX12) (N := 62) (j := 41) (r := 5042) (pw_dk dc_X12_copies 30 rfl) rfl me_5000 rfl pi_12 (by decide) fk_12_41 tw_1438 (rfl) (by decide) ?_
      refine PW_iconst (pc' := 48) (v := 5) (pw_dk dc_X12_copies 31 rfl) rfl (by decide) ?_
      refine PW_iload_n (pc' := 49) (q := 1) (pw_dk dc_X12_copies 32 rfl) rfl rfl rfl ?_
      refine PW_imul (pc' := 50) (pw_dk dc_X12_copies 33 rfl) rfl ?_
      refine PW_iload_n (pc' := 51) (q := 3) (pw_dk dc_X12_copies 34 rfl) rfl rfl rfl ?_
      refine PW_iadd (pc' := 52) (pw_dk dc_X12_copies 35 rfl) rfl ?_
      refine PW_aload_n (pc' := 53) (q := 0) (pw_dk dc_X12_copies 36 rfl) rfl rfl rfl ?_
      refine PW_getR (pc' := 56) (id := 5000) (ci := 12) (nn := 0) (C0 := RX12) (T := TX12) (N := 62) (j := 41) (r := 5042) (pw_dk dc_X12_copies 37 rfl) rfl me_5000 rfl pi_12 (by decide) fk_12_41 tw_1438 (rfl) (by decide) ?_
      refine PW_iconst (pc' := 57) (v := 5) (pw_dk dc_X12_copies 38 rfl) rfl (by decide) ?_
      refine PW_iload_n (pc' := 58) (q := 2) (pw_dk dc_X12_copies 39 rfl) rfl rfl rfl ?_
      refine PW_imul (pc' := 59) (pw_dk dc_X12_copies 40 rfl) rfl ?_
      refine PW_iload_n (pc' := 60) (q := 3) (pw_dk dc_X12_copies 41 rfl) rfl rfl rfl ?_
      refine PW_iadd (pc' := 61) (pw_dk dc_X12_copies 42 rfl) rfl ?_
      obtain ⟨v_2, hi_3, e_4, h⟩ := wp_rdIx h
      refine PZ_ialdx (pc' := 62) (v := v_2) (id := 5042) (nn := 115) (pw_dk dc_X12_copies 43 rfl) rfl me_5042 hi_3 e_4 ?_
      obtain ⟨σ_5, hi_6, e_7, h⟩ := wp_wrIx h
      refine PZ_iastx (pc' := 63) (σ' := σ_5) (id := 5042) (nn := 115) (pw_dk dc_X12_copies 44 rfl) rfl me_5042 hi_6 e_7 ?_
      refine PW_aload_n (pc' := 64) (q := 0) (pw_dk dc_X12_copies 45 rfl) rfl rfl rfl ?_
      refine PW_getR (pc' := 67) (id := 5000) (ci := 12) (nn := 0) (C0 := RX12) (T := TX12) (N := 62) (j := 42) (r := 5043) (pw_dk dc_X12_copies 46 rfl) rfl me_5000 rfl pi_12 (by decide) fk_12_42 tw_1439 (rfl) (by decide) ?_
      refine PW_iconst (pc' := 68) (v := 5) (pw_dk dc_X12_copies 47 rfl) rfl (by decide) ?_
      refine PW_iload_n (pc' := 69) (q := 1) (pw_dk dc_X12_copies 48 rfl) rfl rfl rfl ?_
      refine PW_imul (pc' := 70) (pw_dk dc_X12_copies 49 rfl) rfl ?_
      refine PW_iload_n (pc' := 71) (q := 3) (pw_dk dc_X12_copies 50 rfl) rfl rfl rfl ?_
      refine PW_iadd (pc' := 72) (pw_dk dc_X12_copies 51 rfl) rfl ?_
      refine PW_aload_n (pc' := 73) (q := 0) (pw_dk dc_X12_copies 52 rfl) rfl rfl rfl ?_
      refine PW_getR (pc' := 76) (id := 5000) (ci := 12) (nn := 0) (C0 := RX12) (T := TX12) (N := 62) (j := 42) (r := 5043) (pw_dk dc_X12_copies 53 rfl) rfl me_5000 rfl pi_12 (by decide) fk_12_42 tw_1439 (rfl) (by decide) ?_
      refine PW_iconst (pc' := 77) (v := 5) (pw_dk dc_X12_copies 54 rfl) rfl (by decide) ?_
      refine PW_iload_n (pc' := 78) (q := 2) (pw_dk dc_X12_copies 55 rfl) rfl rfl rfl ?_
      refine PW_imul (pc' := 79) (pw_dk dc_X12_copies 56 rfl) rfl ?_
      refine PW_iload_n (pc' := 80) (q := 3) (pw_dk dc_X12_copies 57 rfl) rfl rfl rfl ?_
      refine PW_iadd (pc' := 81) (pw_dk dc_X12_copies 58 rfl) rfl ?_
      obtain ⟨v_8, hi_9, e_10, h⟩ := wp_rdIx h
      refine PZ_ialdx (pc' := 82) (v := v_8) (id := 5043) (nn := 115) (pw_dk dc_X12_copies 59 rfl) rfl me_5043 hi_9 e_10 ?_
      obtain ⟨σ_11, hi_12, e_13, h⟩ := wp_wrIx h
      refine PZ_iastx (pc' := 83) (σ' := σ_11) (id := 5043) (nn := 115) (pw_dk dc_X12_copies 60 rfl) rfl me_5043 hi_12 e_13 ?_
      refine PW_aload_n (pc' := 84) (q := 0) (pw_dk dc_X12_copies 61 rfl) rfl rfl rfl ?_
      refine PW_getR (pc' := 87) (id := 5000) (ci := 12) (nn := 0) (C0 := RX12) (T := TX12) (N := 62) (j := 43) (r := 5044) (pw_dk dc_X12_copies 62 rfl) rfl me_5000 rfl pi_12 (by decide) fk_12_43 tw_1440 (rfl) (by decide) ?_
      refine PW_iconst (pc' := 88) (v := 5) (pw_dk dc_X12_copies 63 rfl) rfl (by decide) ?_
      refine PW_iload_n (pc' := 89) (q := 1) (pw_dk dc_X12_copies 64 rfl) rfl rfl rfl ?_
      refine PW_imul (pc' := 90) (pw_dk dc_X12_copies 65 rfl) rfl ?_
      refine PW_iload_n (pc' := 91) (q := 3) (pw_dk dc_X12_copies 66 rfl) rfl rfl rfl ?_
      refine PW_iadd (pc' := 92) (pw_dk dc_X12_copies 67 rfl) rfl ?_
      refine PW_aload_n (pc' := 93) (q := 0) (pw_dk dc_X12_copies 68 rfl) rfl rfl rfl ?_
      refine PW_getR (pc' := 96) (id := 5000) (ci := 12) (nn := 0) (C0 := RX12) (T := TX12) (N := 62) (j := 43) (r := 5044) (pw_dk dc_X12_copies 69 rfl) rfl me_5000 rfl pi_12 (by decide) fk_12_43 tw_1440 (rfl) (by decide) ?_
      refine PW_iconst (pc' := 97) (v := 5) (pw_dk dc_X12_copies 70 rfl) rfl (by decide) ?_
      refine PW_iload_n (pc' := 98) (q := 2) (pw_dk dc_X12_copies 71 rfl) rfl rfl rfl ?_
      refine PW_imul (pc' := 99) (pw_dk dc_X12_copies 72 rfl) rfl ?_
      refine PW_iload_n (pc' := 100) (q := 3) (pw_dk dc_X12_copies 73 rfl) rfl rfl rfl ?_
      refine PW_iadd (pc' := 101) (pw_dk dc_X12_copies 74 rfl) rfl ?_
      obtain ⟨v_14, hi_15, e_16, h⟩ := wp_rdIx h
      refine PZ_ialdx (pc' := 102) (v := v_14) (id := 5044) (nn := 115) (pw_dk dc_X12_copies 75 rfl) rfl me_5044 hi_15 e_16 ?_
      obtain ⟨σ_17, hi_18, e_19, h⟩ := wp_wrIx h
      refine PZ_iastx (pc' := 103) (σ' := σ_17) (id := 5044) (nn := 115) (pw_dk dc_X12_copies 76 rfl) rfl me_5044 hi_18 e_19 ?_
      refine PW_iinc (pc' := 106) (q := 3) (v := x3 + 1) (lv' := [(3, .int (x3 + 1)), (0, .ref 5000), (1, .int x1), (2, .int x2)]) (pw_dk dc_X12_copies 77 rfl) rfl rfl rfl (by decide) rfl ?_
      refine PW_goto (tgt := 38) (pw_dk dc_X12_copies 78 rfl) (by decide) ?_
      refine PW_sub (lv' := [(0, .ref 5000), (1, .int x1), (2, .int x2), (3, .int (x3 + 1))]) [1, 2, 3, 0] rfl ?_
      exact ih x1 x2 (x3 + 1) σ_17 h
def f_X12_copies (x1 : Int32) (x2 : Int32) (σ : zS) : Option zS := 
  (rdI σ 5039 23 x2).bind fun v_1 =>
  (wrI σ 5039 23 x1 v_1).bind fun σ_4 =>
  (rdI σ_4 5040 23 x2).bind fun v_7 =>
  (wrI σ_4 5040 23 x1 v_7).bind fun σ_10 =>
  (rdI σ_10 5041 23 x2).bind fun v_13 =>
  (wrI σ_10 5041 23 x1 v_13).bind fun σ_16 =>
  f_X12_copies_38 FU x1 x2 0 σ_16
theorem t_X12_copies (x1 : Int32) (x2 : Int32) (σ : zS) (Q : Option Value → zS → Prop) (h : wpO (f_X12_copies x1 x2 σ) (fun s => Q none s)) : PK alM yX12_copies mX12_copies (0) [.ref 5000, .int x1, .int x2] σ Q := by
  refine PC_ofF (by decide +kernel) rfl rfl (Nat.le_of_ble_eq_true rfl) ?_
  show PZ alM mX12_copies (0) Q 0 [(0, .ref 5000), (1, .int x1), (2, .int x2)] [] σ
  unfold f_X12_copies at h
  refine PW_aload_n (pc' := 1) (q := 0) (pw_dk dc_X12_copies 0 rfl) rfl rfl rfl ?_
  refine PW_getR (pc' := 4) (id := 5000) (ci := 12) (nn := 0) (C0 := RX12) (T := TX12) (N := 62) (j := 38) (r := 5039) (pw_dk dc_X12_copies 1 rfl) rfl me_5000 rfl pi_12 (by decide) fk_12_38 tw_1435 (rfl) (by decide) ?_
  refine PW_iload_n (pc' := 5) (q := 1) (pw_dk dc_X12_copies 2 rfl) rfl rfl rfl ?_
  refine PW_aload_n (pc' := 6) (q := 0) (pw_dk dc_X12_copies 3 rfl) rfl rfl rfl ?_
  refine PW_getR (pc' := 9) (id := 5000) (ci := 12) (nn := 0) (C0 := RX12) (T := TX12) (N := 62) (j := 38) (r := 5039) (pw_dk dc_X12_copies 4 rfl) rfl me_5000 rfl pi_12 (by decide) fk_12_38 tw_1435 (rfl) (by decide) ?_
  refine PW_iload_n (pc' := 10) (q := 2) (pw_dk dc_X12_copies 5 rfl) rfl rfl rfl ?_
  obtain ⟨v_1, hi_2, e_3, h⟩ := wp_rdIx h
  refine PZ_ialdx (pc' := 11) (v := v_1) (id := 5039) (nn := 23) (pw_dk dc_X12_copies 6 rfl) rfl me_5039 hi_2 e_3 ?_
  obtain ⟨σ_4, hi_5, e_6, h⟩ := wp_wrIx h
  refine PZ_iastx (pc' := 12) (σ' := σ_4) (id := 5039) (nn := 23) (pw_dk dc_X12_copies 7 rfl) rfl me_5039 hi_5 e_6 ?_
  refine PW_aload_n (pc' := 13) (q := 0) (pw_dk dc_X12_copies 8 rfl) rfl rfl rfl ?_
  refine PW_getR (pc' := 16) (id := 5000) (ci := 12) (nn := 0) (C0 := RX12) (T := TX12) (N := 62) (j := 39) (r := 5040) (pw_dk dc_X12_copies 9 rfl) rfl me_5000 rfl pi_12 (by decide) fk_12_39 tw_1436 (rfl) (by decide) ?_
  refine PW_iload_n (pc' := 17) (q := 1) (pw_dk dc_X12_copies 10 rfl) rfl rfl rfl ?_
  refine PW_aload_n (pc' := 18) (q := 0) (pw_dk dc_X12_copies 11 rfl) rfl rfl rfl ?_
  refine PW_getR (pc' := 21) (id := 5000) (ci := 12) (nn := 0) (C0 := RX12) (T := TX12) (N := 62) (j := 39) (r := 5040) (pw_dk dc_X12_copies 12 rfl) rfl me_5000 rfl pi_12 (by decide) fk_12_39 tw_1436 (rfl) (by decide) ?_
  refine PW_iload_n (pc' := 22) (q := 2) (pw_dk dc_X12_copies 13 rfl) rfl rfl rfl ?_
  obtain ⟨v_7, hi_8, e_9, h⟩ := wp_rdIx h
  refine PZ_ialdx (pc' := 23) (v := v_7) (id := 5040) (nn := 23) (pw_dk dc_X12_copies 14 rfl) rfl me_5040 hi_8 e_9 ?_
  obtain ⟨σ_10, hi_11, e_12, h⟩ := wp_wrIx h
  refine PZ_iastx (pc' := 24) (σ' := σ_10) (id := 5040) (nn := 23) (pw_dk dc_X12_copies 15 rfl) rfl me_5040 hi_11 e_12 ?_
  refine PW_aload_n (pc' := 25) (q := 0) (pw_dk dc_X12_copies 16 rfl) rfl rfl rfl ?_
  refine PW_getR (pc' := 28) (id := 5000) (ci := 12) (nn := 0) (C0 := RX12) (T := TX12) (N := 62) (j := 40) (r := 5041) (pw_dk dc_X12_copies 17 rfl) rfl me_5000 rfl pi_12 (by decide) fk_12_40 tw_1437 (rfl) (by decide) ?_
  refine PW_iload_n (pc' := 29) (q := 1) (pw_dk dc_X12_copies 18 rfl) rfl rfl rfl ?_
  refine PW_aload_n (pc' := 30) (q := 0) (pw_dk dc_X12_copies 19 rfl) rfl rfl rfl ?_
  refine PW_getR (pc' := 33) (id := 5000) (ci := 12) (nn := 0) (C0 := RX12) (T := TX12) (N := 62) (j := 40) (r := 5041) (pw_dk dc_X12_copies 20 rfl) rfl me_5000 rfl pi_12 (by decide) fk_12_40 tw_1437 (rfl) (by decide) ?_
  refine PW_iload_n (pc' := 34) (q := 2) (pw_dk dc_X12_copies 21 rfl) rfl rfl rfl ?_
  obtain ⟨v_13, hi_14, e_15, h⟩ := wp_rdIx h
  refine PZ_ialdx (pc' := 35) (v := v_13) (id := 5041) (nn := 23) (pw_dk dc_X12_copies 22 rfl) rfl me_5041 hi_14 e_15 ?_
  obtain ⟨σ_16, hi_17, e_18, h⟩ := wp_wrIx h
  refine PZ_iastx (pc' := 36) (σ' := σ_16) (id := 5041) (nn := 23) (pw_dk dc_X12_copies 23 rfl) rfl me_5041 hi_17 e_18 ?_
  refine PW_iconst (pc' := 37) (v := 0) (pw_dk dc_X12_copies 24 rfl) rfl (by decide) ?_
  refine PW_istore_n (pc' := 38) (lv' := [(3, .int 0), (0, .ref 5000), (1, .int x1), (2, .int x2)]) (pw_dk dc_X12_copies 25 rfl) rfl rfl (by decide) rfl ?_
  refine PW_sub (lv' := [(0, .ref 5000), (1, .int x1), (2, .int x2), (3, .int 0)]) [1, 2, 3, 0] rfl ?_
  exact b_X12_copies_38 FU x1 x2 0 σ_16 h
def f_X12_isMan (x1 : Int32) (σ : zS) : Option Int32 := 
  if x1 < 0 then
    some 0
  else
    (rdI σ 5004 16 2).bind fun v_2 =>
    if v_2 ≤ x1 then
      some 0
    else
      some 1
theorem t_X12_isMan (x1 : Int32) (σ : zS) (Q : Option Value → zS → Prop) (h : wpO (f_X12_isMan x1 σ) (fun a => Q (some (.int a)) σ)) : PK alM yX12_isMan mX12_isMan (0) [.ref 5000, .int x1] σ Q := by
  refine PC_ofF (by decide +kernel) rfl rfl (Nat.le_of_ble_eq_true rfl) ?_
  show PZ alM mX12_isMan (0) Q 0 [(0, .ref 5000), (1, .int x1)] [] σ
  unfold f_X12_isMan at h
  refine PW_iload_n (pc' := 1) (q := 1) (pw_dk dc_X12_isMan 0 rfl) rfl rfl rfl ?_
  refine PW_if_lt (pc' := 4) (tgt := 18) (pw_dk dc_X12_isMan 1 rfl) rfl (by decide) (fun c_1 => ?_) (fun c_1 => ?_)
  · rw [if_pos c_1] at h
    refine PW_iconst (pc' := 19) (v := 0) (pw_dk dc_X12_isMan 10 rfl) rfl (by decide) ?_
    have z := wp_some h
    exact PZ_iret (ty := .boolean) (pw_dk dc_X12_isMan 11 rfl) rfl (by decide) z
  · rw [if_neg c_1] at h
    refine PW_iload_n (pc' := 5) (q := 1) (pw_dk dc_X12_isMan 2 rfl) rfl rfl rfl ?_
    refine PW_aload_n (pc' := 6) (q := 0) (pw_dk dc_X12_isMan 3 rfl) rfl rfl rfl ?_
    refine PW_getR (pc' := 9) (id := 5000) (ci := 12) (nn := 0) (C0 := RX12) (T := TX12) (N := 62) (j := 3) (r := 5004) (pw_dk dc_X12_isMan 4 rfl) rfl me_5000 rfl pi_12 (by decide) fk_12_3 tw_1400 (rfl) (by decide) ?_
    refine PW_iconst (pc' := 10) (v := 2) (pw_dk dc_X12_isMan 5 rfl) rfl (by decide) ?_
    obtain ⟨v_2, hi_3, e_4, h⟩ := wp_rdIx h
    refine PZ_ialdx (pc' := 11) (v := v_2) (id := 5004) (nn := 16) (pw_dk dc_X12_isMan 6 rfl) rfl me_5004 hi_3 e_4 ?_
    refine PW_icmp_ge (pc' := 14) (tgt := 18) (pw_dk dc_X12_isMan 7 rfl) rfl (by decide) (fun c_5 => ?_) (fun c_5 => ?_)
    · rw [if_pos c_5] at h
      refine PW_iconst (pc' := 19) (v := 0) (pw_dk dc_X12_isMan 10 rfl) rfl (by decide) ?_
      have z := wp_some h
      exact PZ_iret (ty := .boolean) (pw_dk dc_X12_isMan 11 rfl) rfl (by decide) z
    · rw [if_neg c_5] at h
      refine PW_iconst (pc' := 15) (v := 1) (pw_dk dc_X12_isMan 8 rfl) rfl (by decide) ?_
      refine PW_goto (tgt := 19) (pw_dk dc_X12_isMan 9 rfl) (by decide) ?_
      have z := wp_some h
      exact PZ_iret (ty := .boolean) (pw_dk dc_X12_isMan 11 rfl) rfl (by decide) z
def f_X12_isPart (x0 : Int32) (σ : zS) : Int32 := 
  if x0 < 0 then
    0
  else
    if 4 ≤ x0 then
      0
    else
      1
theorem t_X12_isPart (x0 : Int32) (σ : zS) (Q : Option Value → zS → Prop) (h : Q (some (.int (f_X12_isPart x0 σ))) σ) : PK alM yX12_isPart mX12_isPart (0) [.int x0] σ Q := by
  refine PC_ofF (by decide +kernel) rfl rfl (Nat.le_of_ble_eq_true rfl) ?_
  show PZ alM mX12_isPart (0) Q 0 [(0, .int x0)] [] σ
  unfold f_X12_isPart at h
  refine PW_iload_n (pc' := 1) (q := 0) (pw_dk dc_X12_isPart 0 rfl) rfl rfl rfl ?_
  refine PW_if_lt (pc' := 4) (tgt := 13) (pw_dk dc_X12_isPart 1 rfl) rfl (by decide) (fun c_1 => ?_) (fun c_1 => ?_)
  · rw [if_pos c_1] at h
    refine PW_iconst (pc' := 14) (v := 0) (pw_dk dc_X12_isPart 7 rfl) rfl (by decide) ?_
    exact PZ_iret (ty := .boolean) (pw_dk dc_X12_isPart 8 rfl) rfl (by decide) h
  · rw [if_neg c_1] at h
    refine PW_iload_n (pc' := 5) (q := 0) (pw_dk dc_X12_isPart 2 rfl) rfl rfl rfl ?_
    refine PW_iconst (pc' := 6) (v := 4) (pw_dk dc_X12_isPart 3 rfl) rfl (by decide) ?_
    refine PW_icmp_ge (pc' := 9) (tgt := 13) (pw_dk dc_X12_isPart 4 rfl) rfl (by decide) (fun c_2 => ?_) (fun c_2 => ?_)
    · rw [if_pos c_2] at h
      refine PW_iconst (pc' := 14) (v := 0) (pw_dk dc_X12_isPart 7 rfl) rfl (by decide) ?_
      exact PZ_iret (ty := .boolean) (pw_dk dc_X12_isPart 8 rfl) rfl (by decide) h
    · rw [if_neg c_2] at h
      refine PW_iconst (pc' := 10) (v := 1) (pw_dk dc_X12_isPart 5 rfl) rfl (by decide) ?_
      refine PW_goto (tgt := 14) (pw_dk dc_X12_isPart 6 rfl) (by decide) ?_
      exact PZ_iret (ty := .boolean) (pw_dk dc_X12_isPart 8 rfl) rfl (by decide) h
def f_X12_isKind (x0 : Int32) (σ : zS) : Int32 := 
  if x0 < 0 then
    0
  else
    if 4 ≤ x0 then
      0
    else
      1
theorem t_X12_isKind (x0 : Int32) (σ : zS) (Q : Option Value → zS → Prop) (h : Q (some (.int (f_X12_isKind x0 σ))) σ) : PK alM yX12_isKind mX12_isKind (0) [.int x0] σ Q := by
  refine PC_ofF (by decide +kernel) rfl rfl (Nat.le_of_ble_eq_true rfl) ?_
  show PZ alM mX12_isKind (0) Q 0 [(0, .int x0)] [] σ
  unfold f_X12_isKind at h
  refine PW_iload_n (pc' := 1) (q := 0) (pw_dk dc_X12_isKind 0 rfl) rfl rfl rfl ?_
  refine PW_if_lt (pc' := 4) (tgt := 13) (pw_dk dc_X12_isKind 1 rfl) rfl (by decide) (fun c_1 => ?_) (fun c_1 => ?_)
  · rw [if_pos c_1] at h
    refine PW_iconst (pc' := 14) (v := 0) (pw_dk dc_X12_isKind 7 rfl) rfl (by decide) ?_
    exact PZ_iret (ty := .boolean) (pw_dk dc_X12_isKind 8 rfl) rfl (by decide) h
  · rw [if_neg c_1] at h
    refine PW_iload_n (pc' := 5) (q := 0) (pw_dk dc_X12_isKind 2 rfl) rfl rfl rfl ?_
    refine PW_iconst (pc' := 6) (v := 4) (pw_dk dc_X12_isKind 3 rfl) rfl (by decide) ?_
    refine PW_icmp_ge (pc' := 9) (tgt := 13) (pw_dk dc_X12_isKind 4 rfl) rfl (by decide) (fun c_2 => ?_) (fun c_2 => ?_)
    · rw [if_pos c_2] at h
      refine PW_iconst (pc' := 14) (v := 0) (pw_dk dc_X12_isKind 7 rfl) rfl (by decide) ?_
      exact PZ_iret (ty := .boolean) (pw_dk dc_X12_isKind 8 rfl) rfl (by decide) h
    · rw [if_neg c_2] at h
      refine PW_iconst (pc' := 10) (v := 1) (pw_dk dc_X12_isKind 5 rfl) rfl (by decide) ?_
      refine PW_goto (tgt := 14) (pw_dk dc_X12_isKind 6 rfl) (by decide) ?_
      exact PZ_iret (ty := .boolean) (pw_dk dc_X12_isKind 8 rfl) rfl (by decide) h
def f_X12_look_28  (x1 : Int32) (x2 : Int32) (s1 : Int32) (σ : zS) : Option (Int32 × zS) := 
  lt (wI σ 5000 0 s1) fun σ_1 =>
  if (σ_1.1 5000 0) = 0 then
    if x2 = 0 then
      (rdI σ_1 5042 115 x1).bind fun v_5 =>
      some (f_X12_cellOf v_5 σ_1, σ_1)
    else if x2 = 1 then
      (rdI σ_1 5042 115 x1).bind fun v_10 =>
      some (f_X12_faceOf v_10 σ_1, σ_1)
    else if x2 = 2 then
      (rdI σ_1 5042 115 x1).bind fun v_15 =>
      some ((v_15 / (2 : Int32)) - (v_15 / (2 : Int32)) / (2 : Int32) * (2 : Int32), σ_1)
    else if x2 = 3 then
      (rdI σ_1 5042 115 x1).bind fun v_19 =>
      some (v_19 - v_19 / (2 : Int32) * (2 : Int32), σ_1)
    else if x2 = 4 then
      (rdI σ_1 5043 115 x1).bind fun v_23 =>
      some (v_23, σ_1)
    else if x2 = 5 then
      (rdI σ_1 5012 10 x1).bind fun v_27 =>
      some (v_27, σ_1)
    else
      (rdI σ_1 5044 115 x1).bind fun v_30 =>
      some (v_30, σ_1)
  else
    some (0, σ_1)
theorem b_X12_look_28 {Q : Option Value → zS → Prop} (x1 : Int32) (x2 : Int32) (s1 : Int32) (σ : zS) (h : wpO (f_X12_look_28 x1 x2 s1 σ) (fun a => Q (some (.int a.1)) a.2)) : PZ alM mX12_look (1) Q 28 [(0, .ref 5000), (1, .int x1), (2, .int x2)] [.int s1, .ref 5000] σ := by
  unfold f_X12_look_28 at h
  obtain ⟨σ_1, e_2, h⟩ := lt_x h
  refine PZ_putX (pc' := 31) (σ' := σ_1) (id := 5000) (ci := 12) (nn := 0) (C0 := RX12) (T := TX12) (N := 62) (j := 0) (ty := tyX12 0) (pw_dk dc_X12_look 15 rfl) rfl me_5000 rfl pi_12 tyX12_ok nmX12 (by decide) fk_12_0 tw_1397 rfl (tyX12_ok 0 (by decide)) (by first | rfl | decide) (by first | rfl | decide) e_2 ?_
  refine PW_aload_n (pc' := 32) (q := 0) (pw_dk dc_X12_look 16 rfl) rfl rfl rfl ?_
  refine PZ_getI (pc' := 35) (id := 5000) (ci := 12) (nn := 0) (C0 := RX12) (T := TX12) (N := 62) (j := 0) (pw_dk dc_X12_look 17 rfl) rfl me_5000 rfl pi_12 (by decide) fk_12_0 tw_1397 ?_
  refine PW_if_eq (pc' := 38) (tgt := 40) (pw_dk dc_X12_look 18 rfl) rfl (by decide) (fun c_3 => ?_) (fun c_3 => ?_)
  · rw [if_pos c_3] at h
    refine PW_iload_n (pc' := 41) (q := 2) (pw_dk dc_X12_look 21 rfl) rfl rfl rfl ?_
    by_cases c_4 : x2 = 0
    · rw [if_pos c_4] at h
      refine PW_tin (tgt := 80) (pw_dk dc_X12_look 22 rfl) (by rw [c_4]; decide) (by rw [c_4]; decide) (by rw [c_4] <;> rfl) (by decide) ?_
      refine PW_aload_n (pc' := 81) (q := 0) (pw_dk dc_X12_look 23 rfl) rfl rfl rfl ?_
      refine PW_getR (pc' := 84) (id := 5000) (ci := 12) (nn := 0) (C0 := RX12) (T := TX12) (N := 62) (j := 41) (r := 5042) (pw_dk dc_X12_look 24 rfl) rfl me_5000 rfl pi_12 (by decide) fk_12_41 tw_1438 (rfl) (by decide) ?_
      refine PW_iload_n (pc' := 85) (q := 1) (pw_dk dc_X12_look 25 rfl) rfl rfl rfl ?_
      obtain ⟨v_5, hi_6, e_7, h⟩ := wp_rdIx h
      refine PZ_ialdx (pc' := 86) (v := v_5) (id := 5042) (nn := 115) (pw_dk dc_X12_look 26 rfl) rfl me_5042 hi_6 e_7 ?_
      refine PZ_callSi (pc' := 89) (y := yX12_cellOf) (M' := mX12_cellOf) (d' := 0) (As := [.int v_5]) (st := []) tw_1745 (pw_dk dc_X12_look 27 rfl) rfl Y_X12_cellOf tw_1744 rfl (by decide) (Nat.le_of_ble_eq_true rfl) (t_X12_cellOf v_5 σ_1 _ ?_)
      refine ⟨_, rfl, fun hn_8 => ?_⟩
      show PZ alM mX12_look (1) Q 89 [(0, .ref 5000), (1, .int x1), (2, .int x2)] [.int (f_X12_cellOf v_5 σ_1)] σ_1
      have z := wp_some h
      exact PZ_iret (ty := .int) (pw_dk dc_X12_look 28 rfl) rfl rfl z
    · rw [if_neg c_4] at h
      by_cases c_9 : x2 = 1
      · rw [if_pos c_9] at h
        refine PW_tin (tgt := 90) (pw_dk dc_X12_look 22 rfl) (by rw [c_9]; decide) (by rw [c_9]; decide) (by rw [c_9] <;> rfl) (by decide) ?_
        refine PW_aload_n (pc' := 91) (q := 0) (pw_dk dc_X12_look 29 rfl) rfl rfl rfl ?_
        refine PW_getR (pc' := 94) (id := 5000) (ci := 12) (nn := 0) (C0 := RX12) (T := TX12) (N := 62) (j := 41) (r := 5042) (pw_dk dc_X12_look 30 rfl) rfl me_5000 rfl pi_12 (by decide) fk_12_41 tw_1438 (rfl) (by decide) ?_
        refine PW_iload_n (pc' := 95) (q := 1) (pw_dk dc_X12_look 31 rfl) rfl rfl rfl ?_
        obtain ⟨v_10, hi_11, e_12, h⟩ := wp_rdIx h
        refine PZ_ialdx (pc' := 96) (v := v_10) (id := 5042) (nn := 115) (pw_dk dc_X12_look 32 rfl) rfl me_5042 hi_11 e_12 ?_
        refine PZ_callSi (pc' := 99) (y := yX12_faceOf) (M' := mX12_faceOf) (d' := 0) (As := [.int v_10]) (st := []) tw_1748 (pw_dk dc_X12_look 33 rfl) rfl Y_X12_faceOf tw_1747 rfl (by decide) (Nat.le_of_ble_eq_true rfl) (t_X12_faceOf v_10 σ_1 _ ?_)
        refine ⟨_, rfl, fun hn_13 => ?_⟩
        show PZ alM mX12_look (1) Q 99 [(0, .ref 5000), (1, .int x1), (2, .int x2)] [.int (f_X12_faceOf v_10 σ_1)] σ_1
        have z := wp_some h
        exact PZ_iret (ty := .int) (pw_dk dc_X12_look 34 rfl) rfl rfl z
      · rw [if_neg c_9] at h
        by_cases c_14 : x2 = 2
        · rw [if_pos c_14] at h
          refine PW_tin (tgt := 100) (pw_dk dc_X12_look 22 rfl) (by rw [c_14]; decide) (by rw [c_14]; decide) (by rw [c_14] <;> rfl) (by decide) ?_
          refine PW_aload_n (pc' := 101) (q := 0) (pw_dk dc_X12_look 35 rfl) rfl rfl rfl ?_
          refine PW_getR (pc' := 104) (id := 5000) (ci := 12) (nn := 0) (C0 := RX12) (T := TX12) (N := 62) (j := 41) (r := 5042) (pw_dk dc_X12_look 36 rfl) rfl me_5000 rfl pi_12 (by decide) fk_12_41 tw_1438 (rfl) (by decide) ?_
          refine PW_iload_n (pc' := 105) (q := 1) (pw_dk dc_X12_look 37 rfl) rfl rfl rfl ?_
          obtain ⟨v_15, hi_16, e_17, h⟩ := wp_rdIx h
          refine PZ_ialdx (pc' := 106) (v := v_15) (id := 5042) (nn := 115) (pw_dk dc_X12_look 38 rfl) rfl me_5042 hi_16 e_17 ?_
          refine PW_iconst (pc' := 107) (v := 2) (pw_dk dc_X12_look 39 rfl) rfl (by decide) ?_
          refine PW_idiv (pc' := 108) (pw_dk dc_X12_look 40 rfl) rfl (by decide) ?_
          refine PW_iconst (pc' := 109) (v := 2) (pw_dk dc_X12_look 41 rfl) rfl (by decide) ?_
          refine PW_irem (pc' := 110) (pw_dk dc_X12_look 42 rfl) rfl (by decide) ?_
          have z := wp_some h
          exact PZ_iret (ty := .int) (pw_dk dc_X12_look 43 rfl) rfl rfl z
        · rw [if_neg c_14] at h
          by_cases c_18 : x2 = 3
          · rw [if_pos c_18] at h
            refine PW_tin (tgt := 111) (pw_dk dc_X12_look 22 rfl) (by rw [c_18]; decide) (by rw [c_18]; decide) (by rw [c_18] <;> rfl) (by decide) ?_
            refine PW_aload_n (pc' := 112) (q := 0) (pw_dk dc_X12_look 44 rfl) rfl rfl rfl ?_
            refine PW_getR (pc' := 115) (id := 5000) (ci := 12) (nn := 0) (C0 := RX12) (T := TX12) (N := 62) (j := 41) (r := 5042) (pw_dk dc_X12_look 45 rfl) rfl me_5000 rfl pi_12 (by decide) fk_12_41 tw_1438 (rfl) (by decide) ?_
            refine PW_iload_n (pc' := 116) (q := 1) (pw_dk dc_X12_look 46 rfl) rfl rfl rfl ?_
            obtain ⟨v_19, hi_20, e_21, h⟩ := wp_rdIx h
            refine PZ_ialdx (pc' := 117) (v := v_19) (id := 5042) (nn := 115) (pw_dk dc_X12_look 47 rfl) rfl me_5042 hi_20 e_21 ?_
            refine PW_iconst (pc' := 118) (v := 2) (pw_dk dc_X12_look 48 rfl) rfl (by decide) ?_
            refine PW_irem (pc' := 119) (pw_dk dc_X12_look 49 rfl) rfl (by decide) ?_
            have z := wp_some h
            exact PZ_iret (ty := .int) (pw_dk dc_X12_look 50 rfl) rfl rfl z
          · rw [if_neg c_18] at h
            by_cases c_22 : x2 = 4
            · rw [if_pos c_22] at h
              refine PW_tin (tgt := 120) (pw_dk dc_X12_look 22 rfl) (by rw [c_22]; decide) (by rw [c_22]; decide) (by rw [c_22] <;> rfl) (by decide) ?_
              refine PW_aload_n (pc' := 121) (q := 0) (pw_dk dc_X12_look 51 rfl) rfl rfl rfl ?_
              refine PW_getR (pc' := 124) (id := 5000) (ci := 12) (nn := 0) (C0 := RX12) (T := TX12) (N := 62) (j := 42) (r := 5043) (pw_dk dc_X12_look 52 rfl) rfl me_5000 rfl pi_12 (by decide) fk_12_42 tw_1439 (rfl) (by decide) ?_
              refine PW_iload_n (pc' := 125) (q := 1) (pw_dk dc_X12_look 53 rfl) rfl rfl rfl ?_
              obtain ⟨v_23, hi_24, e_25, h⟩ := wp_rdIx h
              refine PZ_ialdx (pc' := 126) (v := v_23) (id := 5043) (nn := 115) (pw_dk dc_X12_look 54 rfl) rfl me_5043 hi_24 e_25 ?_
              have z := wp_some h
              exact PZ_iret (ty := .int) (pw_dk dc_X12_look 55 rfl) rfl rfl z
            · rw [if_neg c_22] at h
              by_cases c_26 : x2 = 5
              · rw [if_pos c_26] at h
                refine PW_tin (tgt := 127) (pw_dk dc_X12_look 22 rfl) (by rw [c_26]; decide) (by rw [c_26]; decide) (by rw [c_26] <;> rfl) (by decide) ?_
                refine PW_aload_n (pc' := 128) (q := 0) (pw_dk dc_X12_look 56 rfl) rfl rfl rfl ?_
                refine PW_getR (pc' := 131) (id := 5000) (ci := 12) (nn := 0) (C0 := RX12) (T := TX12) (N := 62) (j := 11) (r := 5012) (pw_dk dc_X12_look 57 rfl) rfl me_5000 rfl pi_12 (by decide) fk_12_11 tw_1408 (rfl) (by decide) ?_
                refine PW_iload_n (pc' := 132) (q := 1) (pw_dk dc_X12_look 58 rfl) rfl rfl rfl ?_
                obtain ⟨v_27, hi_28, e_29, h⟩ := wp_rdIx h
                refine PZ_ialdx (pc' := 133) (v := v_27) (id := 5012) (nn := 10) (pw_dk dc_X12_look 59 rfl) rfl me_5012 hi_28 e_29 ?_
                have z := wp_some h
                exact PZ_iret (ty := .int) (pw_dk dc_X12_look 60 rfl) rfl rfl z
              · rw [if_neg c_26] at h
                have kc_4 := pw_ne c_4 (show (0 : Int32).toInt = 0 by decide)
                have kc_9 := pw_ne c_9 (show (1 : Int32).toInt = 1 by decide)
                have kc_14 := pw_ne c_14 (show (2 : Int32).toInt = 2 by decide)
                have kc_18 := pw_ne c_18 (show (3 : Int32).toInt = 3 by decide)
                have kc_22 := pw_ne c_22 (show (4 : Int32).toInt = 4 by decide)
                have kc_26 := pw_ne c_26 (show (5 : Int32).toInt = 5 by decide)
                refine PW_tout (tgt := 134) (pw_dk dc_X12_look 22 rfl) (by omega) (by decide) ?_
                refine PW_aload_n (pc' := 135) (q := 0) (pw_dk dc_X12_look 61 rfl) rfl rfl rfl ?_
                refine PW_getR (pc' := 138) (id := 5000) (ci := 12) (nn := 0) (C0 := RX12) (T := TX12) (N := 62) (j := 43) (r := 5044) (pw_dk dc_X12_look 62 rfl) rfl me_5000 rfl pi_12 (by decide) fk_12_43 tw_1440 (rfl) (by decide) ?_
                refine PW_iload_n (pc' := 139) (q := 1) (pw_dk dc_X12_look 63 rfl) rfl rfl rfl ?_
                obtain ⟨v_30, hi_31, e_32, h⟩ := wp_rdIx h
                refine PZ_ialdx (pc' := 140) (v := v_30) (id := 5044) (nn := 115) (pw_dk dc_X12_look 64 rfl) rfl me_5044 hi_31 e_32 ?_
                have z := wp_some h
                exact PZ_iret (ty := .int) (pw_dk dc_X12_look 65 rfl) rfl rfl z
  · rw [if_neg c_3] at h
    refine PW_iconst (pc' := 39) (v := 0) (pw_dk dc_X12_look 19 rfl) rfl (by decide) ?_
    have z := wp_some h
    exact PZ_iret (ty := .int) (pw_dk dc_X12_look 20 rfl) rfl rfl z
def f_X12_look_23  (x1 : Int32) (x2 : Int32) (σ : zS) : Option (Int32 × zS) := 
  f_X12_look_28 x1 x2 2 σ
theorem b_X12_look_23 {Q : Option Value → zS → Prop} (x1 : Int32) (x2 : Int32) (σ : zS) (h : wpO (f_X12_look_23 x1 x2 σ) (fun a => Q (some (.int a.1)) a.2)) : PZ alM mX12_look (1) Q 23 [(0, .ref 5000), (1, .int x1), (2, .int x2)] [.ref 5000] σ := by
  unfold f_X12_look_23 at h
  refine PW_iconst (pc' := 24) (v := 2) (pw_dk dc_X12_look 12 rfl) rfl (by decide) ?_
  refine PW_goto (tgt := 28) (pw_dk dc_X12_look 13 rfl) (by decide) ?_
  exact b_X12_look_28 x1 x2 2 σ h
def f_X12_look (x1 : Int32) (x2 : Int32) (σ : zS) : Option (Int32 × zS) := 
  (f_X12_isMan x1 σ).bind fun v_2 =>
  if v_2 = 0 then
    f_X12_look_28 x1 x2 1 σ
  else
    if x2 < 0 then
      f_X12_look_23 x1 x2 σ
    else
      if x2 ≤ 6 then
        f_X12_look_28 x1 x2 0 σ
      else
        f_X12_look_23 x1 x2 σ
theorem t_X12_look (x1 : Int32) (x2 : Int32) (σ : zS) (Q : Option Value → zS → Prop) (h : wpO (f_X12_look x1 x2 σ) (fun a => Q (some (.int a.1)) a.2)) : PK alM yX12_look mX12_look (1) [.ref 5000, .int x1, .int x2] σ Q := by
  refine PC_ofF (by decide +kernel) rfl rfl (Nat.le_of_ble_eq_true rfl) ?_
  show PZ alM mX12_look (1) Q 0 [(0, .ref 5000), (1, .int x1), (2, .int x2)] [] σ
  unfold f_X12_look at h
  refine PW_aload_n (pc' := 1) (q := 0) (pw_dk dc_X12_look 0 rfl) rfl rfl rfl ?_
  refine PW_aload_n (pc' := 2) (q := 0) (pw_dk dc_X12_look 1 rfl) rfl rfl rfl ?_
  refine PW_iload_n (pc' := 3) (q := 1) (pw_dk dc_X12_look 2 rfl) rfl rfl rfl ?_
  refine PZ_callVi (pc' := 6) (y := yX12_isMan) (M' := mX12_isMan) (d' := 0) (As := [.int x1]) (st := [.ref 5000]) (b := 5000) (ci := 12) (nn := 0) me_5000 rfl tw_1742 tw_77 (pw_dk dc_X12_look 3 rfl) rfl Y_X12_isMan tw_1740 rfl (by decide) (Nat.le_of_ble_eq_true rfl) (t_X12_isMan x1 σ _ ?_)
  obtain ⟨v_2, e_3, h⟩ := wp_bind h
  refine ⟨v_2, e_3, _, rfl, fun hn_1 => ?_⟩
  show PZ alM mX12_look (1) Q 6 [(0, .ref 5000), (1, .int x1), (2, .int x2)] [.int v_2, .ref 5000] σ
  refine PW_if_ne (pc' := 9) (tgt := 13) (pw_dk dc_X12_look 4 rfl) rfl (by decide) (fun c_4 => ?_) (fun c_4 => ?_)
  · rw [if_neg c_4] at h
    refine PW_iload_n (pc' := 14) (q := 2) (pw_dk dc_X12_look 7 rfl) rfl rfl rfl ?_
    refine PW_if_lt (pc' := 17) (tgt := 23) (pw_dk dc_X12_look 8 rfl) rfl (by decide) (fun c_5 => ?_) (fun c_5 => ?_)
    · rw [if_pos c_5] at h
      exact b_X12_look_23 x1 x2 σ h
    · rw [if_neg c_5] at h
      refine PW_iload_n (pc' := 18) (q := 2) (pw_dk dc_X12_look 9 rfl) rfl rfl rfl ?_
      refine PW_bipush (pc' := 20) (v := 6) (pw_dk dc_X12_look 10 rfl) rfl (by decide) ?_
      refine PW_icmp_le (pc' := 23) (tgt := 27) (pw_dk dc_X12_look 11 rfl) rfl (by decide) (fun c_6 => ?_) (fun c_6 => ?_)
      · rw [if_pos c_6] at h
        refine PW_iconst (pc' := 28) (v := 0) (pw_dk dc_X12_look 14 rfl) rfl (by decide) ?_
        exact b_X12_look_28 x1 x2 0 σ h
      · rw [if_neg c_6] at h
        exact b_X12_look_23 x1 x2 σ h
  · rw [if_pos c_4] at h
    refine PW_iconst (pc' := 10) (v := 1) (pw_dk dc_X12_look 5 rfl) rfl (by decide) ?_
    refine PW_goto (tgt := 28) (pw_dk dc_X12_look 6 rfl) (by decide) ?_
    exact b_X12_look_28 x1 x2 1 σ h
def f_X12_land (x1 : Int32) (σ : zS) : Option (Int32 × zS) := 
  lt (wI σ 5000 0 0) fun σ_1 =>
  if x1 < 0 then
    some ((-1 : Int32), σ_1)
  else
    (rdI σ_1 5004 16 0).bind fun v_4 =>
    if x1 < v_4 then
      (f_X12_landOf x1 σ_1).bind fun v_9 =>
      if v_9 = (-1 : Int32) then
        some ((-2 : Int32), σ_1)
      else
        some (v_9, σ_1)
    else
      some ((-1 : Int32), σ_1)
theorem t_X12_land (x1 : Int32) (σ : zS) (Q : Option Value → zS → Prop) (h : wpO (f_X12_land x1 σ) (fun a => Q (some (.int a.1)) a.2)) : PK alM yX12_land mX12_land (1) [.ref 5000, .int x1] σ Q := by
  refine PC_ofF (by decide +kernel) rfl rfl (Nat.le_of_ble_eq_true rfl) ?_
  show PZ alM mX12_land (1) Q 0 [(0, .ref 5000), (1, .int x1)] [] σ
  unfold f_X12_land at h
  refine PW_aload_n (pc' := 1) (q := 0) (pw_dk dc_X12_land 0 rfl) rfl rfl rfl ?_
  refine PW_iconst (pc' := 2) (v := 0) (pw_dk dc_X12_land 1 rfl) rfl (by decide) ?_
  obtain ⟨σ_1, e_2, h⟩ := lt_x h
  refine PZ_putX (pc' := 5) (σ' := σ_1) (id := 5000) (ci := 12) (nn := 0) (C0 := RX12) (T := TX12) (N := 62) (j := 0) (ty := tyX12 0) (pw_dk dc_X12_land 2 rfl) rfl me_5000 rfl pi_12 tyX12_ok nmX12 (by decide) fk_12_0 tw_1397 rfl (tyX12_ok 0 (by decide)) (by first | rfl | decide) (by first | rfl | decide) e_2 ?_
  refine PW_iload_n (pc' := 6) (q := 1) (pw_dk dc_X12_land 3 rfl) rfl rfl rfl ?_
  refine PW_if_lt (pc' := 9) (tgt := 19) (pw_dk dc_X12_land 4 rfl) rfl (by decide) (fun c_3 => ?_) (fun c_3 => ?_)
  · rw [if_pos c_3] at h
    refine PW_iconst (pc' := 20) (v := (-1 : Int32)) (pw_dk dc_X12_land 11 rfl) rfl (by decide) ?_
    have z := wp_some h
    exact PZ_iret (ty := .int) (pw_dk dc_X12_land 12 rfl) rfl rfl z
  · rw [if_neg c_3] at h
    refine PW_iload_n (pc' := 10) (q := 1) (pw_dk dc_X12_land 5 rfl) rfl rfl rfl ?_
    refine PW_aload_n (pc' := 11) (q := 0) (pw_dk dc_X12_land 6 rfl) rfl rfl rfl ?_
    refine PW_getR (pc' := 14) (id := 5000) (ci := 12) (nn := 0) (C0 := RX12) (T := TX12) (N := 62) (j := 3) (r := 5004) (pw_dk dc_X12_land 7 rfl) rfl me_5000 rfl pi_12 (by decide) fk_12_3 tw_1400 (rfl) (by decide) ?_
    refine PW_iconst (pc' := 15) (v := 0) (pw_dk dc_X12_land 8 rfl) rfl (by decide) ?_
    obtain ⟨v_4, hi_5, e_6, h⟩ := wp_rdIx h
    refine PZ_ialdx (pc' := 16) (v := v_4) (id := 5004) (nn := 16) (pw_dk dc_X12_land 9 rfl) rfl me_5004 hi_5 e_6 ?_
    refine PW_icmp_lt (pc' := 19) (tgt := 21) (pw_dk dc_X12_land 10 rfl) rfl (by decide) (fun c_7 => ?_) (fun c_7 => ?_)
    · rw [if_pos c_7] at h
      refine PW_aload_n (pc' := 22) (q := 0) (pw_dk dc_X12_land 13 rfl) rfl rfl rfl ?_
      refine PW_iload_n (pc' := 23) (q := 1) (pw_dk dc_X12_land 14 rfl) rfl rfl rfl ?_
      refine PZ_callVi (pc' := 26) (y := yX12_landOf) (M' := mX12_landOf) (d' := 0) (As := [.int x1]) (st := []) (b := 5000) (ci := 12) (nn := 0) me_5000 rfl tw_1756 tw_78 (pw_dk dc_X12_land 15 rfl) rfl Y_X12_landOf tw_1754 rfl (by decide) (Nat.le_of_ble_eq_true rfl) (t_X12_landOf x1 σ_1 _ ?_)
      obtain ⟨v_9, e_10, h⟩ := wp_bind h
      refine ⟨v_9, e_10, _, rfl, fun hn_8 => ?_⟩
      show PZ alM mX12_land (1) Q 26 [(0, .ref 5000), (1, .int x1)] [.int v_9] σ_1
      refine PW_istore_n (pc' := 27) (lv' := [(2, .int v_9), (0, .ref 5000), (1, .int x1)]) (pw_dk dc_X12_land 16 rfl) rfl rfl (by decide) rfl ?_
      refine PW_iload_n (pc' := 28) (q := 0) (pw_dk dc_X12_land 17 rfl) rfl rfl rfl ?_
      refine PW_iconst (pc' := 29) (v := (-1 : Int32)) (pw_dk dc_X12_land 18 rfl) rfl (by decide) ?_
      refine PW_icmp_ne (pc' := 32) (tgt := 37) (pw_dk dc_X12_land 19 rfl) rfl (by decide) (fun c_11 => ?_) (fun c_11 => ?_)
      · rw [if_neg c_11] at h
        refine PW_iload_n (pc' := 38) (q := 0) (pw_dk dc_X12_land 22 rfl) rfl rfl rfl ?_
        have z := wp_some h
        exact PZ_iret (ty := .int) (pw_dk dc_X12_land 23 rfl) rfl rfl z
      · rw [if_pos c_11] at h
        refine PW_bipush (pc' := 34) (v := (-2 : Int32)) (pw_dk dc_X12_land 20 rfl) rfl (by decide) ?_
        refine PW_goto (tgt := 38) (pw_dk dc_X12_land 21 rfl) (by decide) ?_
        have z := wp_some h
        exact PZ_iret (ty := .int) (pw_dk dc_X12_land 23 rfl) rfl rfl z
    · rw [if_neg c_7] at h
      refine PW_iconst (pc' := 20) (v := (-1 : Int32)) (pw_dk dc_X12_land 11 rfl) rfl (by decide) ?_
      have z := wp_some h
      exact PZ_iret (ty := .int) (pw_dk dc_X12_land 12 rfl) rfl rfl z
def f_X12_part_20   (σ : zS) : Option (Int32 × zS) := 
  some ((-2 : Int32), σ)
theorem b_X12_part_20 {Q : Option Value → zS → Prop}  (σ : zS) (h : wpO (f_X12_part_20 σ) (fun a => Q (some (.int a.1)) a.2)) : PZ alM mX12_part (4) Q 20 [] [] σ := by
  unfold f_X12_part_20 at h
  refine PW_bipush (pc' := 22) (v := (-2 : Int32)) (pw_dk dc_X12_part 10 rfl) rfl (by decide) ?_
  have z := wp_some h
  exact PZ_iret (ty := .int) (pw_dk dc_X12_part 11 rfl) rfl rfl z
def f_X12_part (x1 : Int32) (x2 : Int32) (x3 : Int32) (σ : zS) : Option (Int32 × zS) := 
  lt (wI σ 5000 0 0) fun σ_1 =>
  (f_X12_isMan x1 σ_1).bind fun v_4 =>
  if v_4 = 0 then
    f_X12_part_20 σ_1
  else
    if (f_X12_isPart x2 σ_1) = 0 then
      f_X12_part_20 σ_1
    else
      (rdI σ_1 5042 115 x1).bind fun v_9 =>
      lt (α := Int32) (f_X12_placeOf v_9 x2 σ_1) fun x4_13 =>
      if x3 = 0 then
        some (x4_13, σ_1)
      else if x3 = 1 then
        (f_X12_landOf x4_13 σ_1).bind fun v_17 =>
        if v_17 = (-1 : Int32) then
          some (9, σ_1)
        else
          (f_X12_landOf x4_13 σ_1).bind fun v_21 =>
          some (v_21, σ_1)
      else if x3 = 2 then
        (f_X12_sideOf x1 x2 σ_1).bind fun v_25 =>
        some (v_25, σ_1)
      else if x3 = 3 then
        (rdI σ_1 5042 115 x1).bind fun v_28 =>
        (rdI σ_1 5039 23 0).bind fun v_31 =>
        b2 (f_X12_isBound x1 v_28 x2 v_31 σ_1) fun v_36 σ_35 =>
        if v_36 = 0 then
          some (0, σ_35)
        else
          some (1, σ_35)
      else if x3 = 4 then
        (rdI σ_1 5042 115 x1).bind fun v_40 =>
        (f_X12_isBarred v_40 x2 σ_1).bind fun v_44 =>
        if v_44 = 0 then
          some (0, σ_1)
        else
          some (1, σ_1)
      else if x3 = 5 then
        (rdI σ_1 5044 115 x1).bind fun v_48 =>
        some ((v_48 >>> (x2 &&& 31)) &&& (1 : Int32), σ_1)
      else
        some ((-2 : Int32), σ_1)
theorem t_X12_part (x1 : Int32) (x2 : Int32) (x3 : Int32) (σ : zS) (Q : Option Value → zS → Prop) (h : wpO (f_X12_part x1 x2 x3 σ) (fun a => Q (some (.int a.1)) a.2)) : PK alM yX12_part mX12_part (4) [.ref 5000, .int x1, .int x2, .int x3] σ Q := by
  refine PC_ofF (by decide +kernel) rfl rfl (Nat.le_of_ble_eq_true rfl) ?_
  show PZ alM mX12_part (4) Q 0 [(0, .ref 5000), (1, .int x1), (2, .int x2), (3, .int x3)] [] σ
  unfold f_X12_part at h
  refine PW_aload_n (pc' := 1) (q := 0) (pw_dk dc_X12_part 0 rfl) rfl rfl rfl ?_
  refine PW_iconst (pc' := 2) (v := 0) (pw_dk dc_X12_part 1 rfl) rfl (by decide) ?_
  obtain ⟨σ_1, e_2, h⟩ := lt_x h
  refine PZ_putX (pc' := 5) (σ' := σ_1) (id := 5000) (ci := 12) (nn := 0) (C0 := RX12) (T := TX12) (N := 62) (j := 0) (ty := tyX12 0) (pw_dk dc_X12_part 2 rfl) rfl me_5000 rfl pi_12 tyX12_ok nmX12 (by decide) fk_12_0 tw_1397 rfl (tyX12_ok 0 (by decide)) (by first | rfl | decide) (by first | rfl | decide) e_2 ?_
  refine PW_aload_n (pc' := 6) (q := 0) (pw_dk dc_X12_part 3 rfl) rfl rfl rfl ?_
  refine PW_iload_n (pc' := 7) (q := 1) (pw_dk dc_X12_part 4 rfl) rfl rfl rfl ?_
  refine PZ_callVi (pc' := 10) (y := yX12_isMan) (M' := mX12_isMan) (d' := 0) (As := [.int x1]) (st := []) (b := 5000) (ci := 12) (nn := 0) me_5000 rfl tw_1742 tw_77 (pw_dk dc_X12_part 5 rfl) rfl Y_X12_isMan tw_1740 rfl (by decide) (Nat.le_of_ble_eq_true rfl) (t_X12_isMan x1 σ_1 _ ?_)
  obtain ⟨v_4, e_5, h⟩ := wp_bind h
  refine ⟨v_4, e_5, _, rfl, fun hn_3 => ?_⟩
  show PZ alM mX12_part (4) Q 10 [(0, .ref 5000), (1, .int x1), (2, .int x2), (3, .int x3)] [.int v_4] σ_1
  refine PW_if_eq (pc' := 13) (tgt := 20) (pw_dk dc_X12_part 6 rfl) rfl (by decide) (fun c_6 => ?_) (fun c_6 => ?_)
  · rw [if_pos c_6] at h
    refine PW_sub (lv' := []) [] rfl ?_
    exact b_X12_part_20 σ_1 h
  · rw [if_neg c_6] at h
    refine PW_iload_n (pc' := 14) (q := 2) (pw_dk dc_X12_part 7 rfl) rfl rfl rfl ?_
    refine PZ_callSi (pc' := 17) (y := yX12_isPart) (M' := mX12_isPart) (d' := 0) (As := [.int x2]) (st := []) tw_1763 (pw_dk dc_X12_part 8 rfl) rfl Y_X12_isPart tw_1762 rfl (by decide) (Nat.le_of_ble_eq_true rfl) (t_X12_isPart x2 σ_1 _ ?_)
    refine ⟨_, rfl, fun hn_7 => ?_⟩
    show PZ alM mX12_part (4) Q 17 [(0, .ref 5000), (1, .int x1), (2, .int x2), (3, .int x3)] [.int (f_X12_isPart x2 σ_1)] σ_1
    refine PW_if_ne (pc' := 20) (tgt := 23) (pw_dk dc_X12_part 9 rfl) rfl (by decide) (fun c_8 => ?_) (fun c_8 => ?_)
    · rw [if_neg c_8] at h
      refine PW_aload_n (pc' := 24) (q := 0) (pw_dk dc_X12_part 12 rfl) rfl rfl rfl ?_
      refine PW_getR (pc' := 27) (id := 5000) (ci := 12) (nn := 0) (C0 := RX12) (T := TX12) (N := 62) (j := 41) (r := 5042) (pw_dk dc_X12_part 13 rfl) rfl me_5000 rfl pi_12 (by decide) fk_12_41 tw_1438 (rfl) (by decide) ?_
      refine PW_iload_n (pc' := 28) (q := 1) (pw_dk dc_X12_part 14 rfl) rfl rfl rfl ?_
      obtain ⟨v_9, hi_10, e_11, h⟩ := wp_rdIx h
      refine PZ_ialdx (pc' := 29) (v := v_9) (id := 5042) (nn := 115) (pw_dk dc_X12_part 15 rfl) rfl me_5042 hi_10 e_11 ?_
      refine PW_iload_n (pc' := 30) (q := 2) (pw_dk dc_X12_part 16 rfl) rfl rfl rfl ?_
      refine PZ_callSi (pc' := 33) (y := yX12_placeOf) (M' := mX12_placeOf) (d' := 1) (As := [.int v_9, .int x2]) (st := []) tw_1766 (pw_dk dc_X12_part 17 rfl) rfl Y_X12_placeOf tw_1765 rfl (by decide) (Nat.le_of_ble_eq_true rfl) (t_X12_placeOf v_9 x2 σ_1 _ ?_)
      refine ⟨_, rfl, fun hn_12 => ?_⟩
      show PZ alM mX12_part (4) Q 33 [(0, .ref 5000), (1, .int x1), (2, .int x2), (3, .int x3)] [.int (f_X12_placeOf v_9 x2 σ_1)] σ_1
      refine PW_topi (fun x4_13 ex4_13 => ?_)
      replace h := lt_w h ex4_13
      refine PW_istore (pc' := 35) (lv' := [(4, .int x4_13), (0, .ref 5000), (1, .int x1), (2, .int x2), (3, .int x3)]) (pw_dk dc_X12_part 18 rfl) rfl (by decide) rfl ?_
      refine PW_iload_n (pc' := 36) (q := 4) (pw_dk dc_X12_part 19 rfl) rfl rfl rfl ?_
      by_cases c_14 : x3 = 0
      · rw [if_pos c_14] at h
        refine PW_tin (tgt := 76) (pw_dk dc_X12_part 20 rfl) (by rw [c_14]; decide) (by rw [c_14]; decide) (by rw [c_14] <;> rfl) (by decide) ?_
        refine PW_iload (pc' := 78) (q := 0) (pw_dk dc_X12_part 21 rfl) rfl rfl ?_
        have z := wp_some h
        exact PZ_iret (ty := .int) (pw_dk dc_X12_part 22 rfl) rfl rfl z
      · rw [if_neg c_14] at h
        by_cases c_15 : x3 = 1
        · rw [if_pos c_15] at h
          refine PW_tin (tgt := 79) (pw_dk dc_X12_part 20 rfl) (by rw [c_15]; decide) (by rw [c_15]; decide) (by rw [c_15] <;> rfl) (by decide) ?_
          refine PW_aload_n (pc' := 80) (q := 1) (pw_dk dc_X12_part 23 rfl) rfl rfl rfl ?_
          refine PW_iload (pc' := 82) (q := 0) (pw_dk dc_X12_part 24 rfl) rfl rfl ?_
          refine PZ_callVi (pc' := 85) (y := yX12_landOf) (M' := mX12_landOf) (d' := 0) (As := [.int x4_13]) (st := []) (b := 5000) (ci := 12) (nn := 0) me_5000 rfl tw_1756 tw_78 (pw_dk dc_X12_part 25 rfl) rfl Y_X12_landOf tw_1754 rfl (by decide) (Nat.le_of_ble_eq_true rfl) (t_X12_landOf x4_13 σ_1 _ ?_)
          obtain ⟨v_17, e_18, h⟩ := wp_bind h
          refine ⟨v_17, e_18, _, rfl, fun hn_16 => ?_⟩
          show PZ alM mX12_part (4) Q 85 [(4, .int x4_13), (0, .ref 5000), (1, .int x1), (2, .int x2), (3, .int x3)] [.int v_17] σ_1
          refine PW_iconst (pc' := 86) (v := (-1 : Int32)) (pw_dk dc_X12_part 26 rfl) rfl (by decide) ?_
          refine PW_icmp_ne (pc' := 89) (tgt := 94) (pw_dk dc_X12_part 27 rfl) rfl (by decide) (fun c_19 => ?_) (fun c_19 => ?_)
          · rw [if_neg c_19] at h
            refine PW_aload_n (pc' := 95) (q := 1) (pw_dk dc_X12_part 30 rfl) rfl rfl rfl ?_
            refine PW_iload (pc' := 97) (q := 0) (pw_dk dc_X12_part 31 rfl) rfl rfl ?_
            refine PZ_callVi (pc' := 100) (y := yX12_landOf) (M' := mX12_landOf) (d' := 0) (As := [.int x4_13]) (st := []) (b := 5000) (ci := 12) (nn := 0) me_5000 rfl tw_1756 tw_78 (pw_dk dc_X12_part 32 rfl) rfl Y_X12_landOf tw_1754 rfl (by decide) (Nat.le_of_ble_eq_true rfl) (t_X12_landOf x4_13 σ_1 _ ?_)
            obtain ⟨v_21, e_22, h⟩ := wp_bind h
            refine ⟨v_21, e_22, _, rfl, fun hn_20 => ?_⟩
            show PZ alM mX12_part (4) Q 100 [(4, .int x4_13), (0, .ref 5000), (1, .int x1), (2, .int x2), (3, .int x3)] [.int v_21] σ_1
            have z := wp_some h
            exact PZ_iret (ty := .int) (pw_dk dc_X12_part 33 rfl) rfl rfl z
          · rw [if_pos c_19] at h
            refine PW_bipush (pc' := 91) (v := 9) (pw_dk dc_X12_part 28 rfl) rfl (by decide) ?_
            refine PW_goto (tgt := 100) (pw_dk dc_X12_part 29 rfl) (by decide) ?_
            have z := wp_some h
            exact PZ_iret (ty := .int) (pw_dk dc_X12_part 33 rfl) rfl rfl z
        · rw [if_neg c_15] at h
          by_cases c_23 : x3 = 2
          · rw [if_pos c_23] at h
            refine PW_tin (tgt := 101) (pw_dk dc_X12_part 20 rfl) (by rw [c_23]; decide) (by rw [c_23]; decide) (by rw [c_23] <;> rfl) (by decide) ?_
            refine PW_aload_n (pc' := 102) (q := 1) (pw_dk dc_X12_part 34 rfl) rfl rfl rfl ?_
            refine PW_iload_n (pc' := 103) (q := 2) (pw_dk dc_X12_part 35 rfl) rfl rfl rfl ?_
            refine PW_iload_n (pc' := 104) (q := 3) (pw_dk dc_X12_part 36 rfl) rfl rfl rfl ?_
            refine PZ_callVi (pc' := 107) (y := yX12_sideOf) (M' := mX12_sideOf) (d' := 0) (As := [.int x1, .int x2]) (st := []) (b := 5000) (ci := 12) (nn := 0) me_5000 rfl tw_1773 tw_79 (pw_dk dc_X12_part 37 rfl) rfl Y_X12_sideOf tw_1771 rfl (by decide) (Nat.le_of_ble_eq_true rfl) (t_X12_sideOf x1 x2 σ_1 _ ?_)
            obtain ⟨v_25, e_26, h⟩ := wp_bind h
            refine ⟨v_25, e_26, _, rfl, fun hn_24 => ?_⟩
            show PZ alM mX12_part (4) Q 107 [(4, .int x4_13), (0, .ref 5000), (1, .int x1), (2, .int x2), (3, .int x3)] [.int v_25] σ_1
            have z := wp_some h
            exact PZ_iret (ty := .int) (pw_dk dc_X12_part 38 rfl) rfl rfl z
          · rw [if_neg c_23] at h
            by_cases c_27 : x3 = 3
            · rw [if_pos c_27] at h
              refine PW_tin (tgt := 108) (pw_dk dc_X12_part 20 rfl) (by rw [c_27]; decide) (by rw [c_27]; decide) (by rw [c_27] <;> rfl) (by decide) ?_
              refine PW_aload_n (pc' := 109) (q := 1) (pw_dk dc_X12_part 39 rfl) rfl rfl rfl ?_
              refine PW_iload_n (pc' := 110) (q := 2) (pw_dk dc_X12_part 40 rfl) rfl rfl rfl ?_
              refine PW_aload_n (pc' := 111) (q := 1) (pw_dk dc_X12_part 41 rfl) rfl rfl rfl ?_
              refine PW_getR (pc' := 114) (id := 5000) (ci := 12) (nn := 0) (C0 := RX12) (T := TX12) (N := 62) (j := 41) (r := 5042) (pw_dk dc_X12_part 42 rfl) rfl me_5000 rfl pi_12 (by decide) fk_12_41 tw_1438 (rfl) (by decide) ?_
              refine PW_iload_n (pc' := 115) (q := 2) (pw_dk dc_X12_part 43 rfl) rfl rfl rfl ?_
              obtain ⟨v_28, hi_29, e_30, h⟩ := wp_rdIx h
              refine PZ_ialdx (pc' := 116) (v := v_28) (id := 5042) (nn := 115) (pw_dk dc_X12_part 44 rfl) rfl me_5042 hi_29 e_30 ?_
              refine PW_iload_n (pc' := 117) (q := 3) (pw_dk dc_X12_part 45 rfl) rfl rfl rfl ?_
              refine PW_aload_n (pc' := 118) (q := 1) (pw_dk dc_X12_part 46 rfl) rfl rfl rfl ?_
              refine PW_getR (pc' := 121) (id := 5000) (ci := 12) (nn := 0) (C0 := RX12) (T := TX12) (N := 62) (j := 38) (r := 5039) (pw_dk dc_X12_part 47 rfl) rfl me_5000 rfl pi_12 (by decide) fk_12_38 tw_1435 (rfl) (by decide) ?_
              refine PW_iconst (pc' := 122) (v := 0) (pw_dk dc_X12_part 48 rfl) rfl (by decide) ?_
              obtain ⟨v_31, hi_32, e_33, h⟩ := wp_rdIx h
              refine PZ_ialdx (pc' := 123) (v := v_31) (id := 5039) (nn := 23) (pw_dk dc_X12_part 49 rfl) rfl me_5039 hi_32 e_33 ?_
              refine PZ_callVi (pc' := 126) (y := yX12_isBound) (M' := mX12_isBound) (d' := 3) (As := [.int x1, .int v_28, .int x2, .int v_31]) (st := []) (b := 5000) (ci := 12) (nn := 0) me_5000 rfl tw_1777 tw_80 (pw_dk dc_X12_part 50 rfl) rfl Y_X12_isBound tw_1775 rfl (by decide) (Nat.le_of_ble_eq_true rfl) (t_X12_isBound x1 v_28 x2 v_31 σ_1 _ ?_)
              obtain ⟨⟨v_36, σ_35⟩, e_37, h⟩ := wp_bind2 h
              refine ⟨(v_36, σ_35), e_37, _, rfl, fun hn_34 => ?_⟩
              show PZ alM mX12_part (4) Q 126 [(4, .int x4_13), (0, .ref 5000), (1, .int x1), (2, .int x2), (3, .int x3)] [.int v_36] σ_35
              refine PW_if_eq (pc' := 129) (tgt := 133) (pw_dk dc_X12_part 51 rfl) rfl (by decide) (fun c_38 => ?_) (fun c_38 => ?_)
              · rw [if_pos c_38] at h
                refine PW_iconst (pc' := 134) (v := 0) (pw_dk dc_X12_part 54 rfl) rfl (by decide) ?_
                have z := wp_some h
                exact PZ_iret (ty := .int) (pw_dk dc_X12_part 55 rfl) rfl rfl z
              · rw [if_neg c_38] at h
                refine PW_iconst (pc' := 130) (v := 1) (pw_dk dc_X12_part 52 rfl) rfl (by decide) ?_
                refine PW_goto (tgt := 134) (pw_dk dc_X12_part 53 rfl) (by decide) ?_
                have z := wp_some h
                exact PZ_iret (ty := .int) (pw_dk dc_X12_part 55 rfl) rfl rfl z
            · rw [if_neg c_27] at h
              by_cases c_39 : x3 = 4
              · rw [if_pos c_39] at h
                refine PW_tin (tgt := 135) (pw_dk dc_X12_part 20 rfl) (by rw [c_39]; decide) (by rw [c_39]; decide) (by rw [c_39] <;> rfl) (by decide) ?_
                refine PW_aload_n (pc' := 136) (q := 1) (pw_dk dc_X12_part 56 rfl) rfl rfl rfl ?_
                refine PW_aload_n (pc' := 137) (q := 1) (pw_dk dc_X12_part 57 rfl) rfl rfl rfl ?_
                refine PW_getR (pc' := 140) (id := 5000) (ci := 12) (nn := 0) (C0 := RX12) (T := TX12) (N := 62) (j := 41) (r := 5042) (pw_dk dc_X12_part 58 rfl) rfl me_5000 rfl pi_12 (by decide) fk_12_41 tw_1438 (rfl) (by decide) ?_
                refine PW_iload_n (pc' := 141) (q := 2) (pw_dk dc_X12_part 59 rfl) rfl rfl rfl ?_
                obtain ⟨v_40, hi_41, e_42, h⟩ := wp_rdIx h
                refine PZ_ialdx (pc' := 142) (v := v_40) (id := 5042) (nn := 115) (pw_dk dc_X12_part 60 rfl) rfl me_5042 hi_41 e_42 ?_
                refine PW_iload_n (pc' := 143) (q := 3) (pw_dk dc_X12_part 61 rfl) rfl rfl rfl ?_
                refine PZ_callVi (pc' := 146) (y := yX12_isBarred) (M' := mX12_isBarred) (d' := 2) (As := [.int v_40, .int x2]) (st := []) (b := 5000) (ci := 12) (nn := 0) me_5000 rfl tw_1806 tw_85 (pw_dk dc_X12_part 62 rfl) rfl Y_X12_isBarred tw_1804 rfl (by decide) (Nat.le_of_ble_eq_true rfl) (t_X12_isBarred v_40 x2 σ_1 _ ?_)
                obtain ⟨v_44, e_45, h⟩ := wp_bind h
                refine ⟨v_44, e_45, _, rfl, fun hn_43 => ?_⟩
                show PZ alM mX12_part (4) Q 146 [(4, .int x4_13), (0, .ref 5000), (1, .int x1), (2, .int x2), (3, .int x3)] [.int v_44] σ_1
                refine PW_if_eq (pc' := 149) (tgt := 153) (pw_dk dc_X12_part 63 rfl) rfl (by decide) (fun c_46 => ?_) (fun c_46 => ?_)
                · rw [if_pos c_46] at h
                  refine PW_iconst (pc' := 154) (v := 0) (pw_dk dc_X12_part 66 rfl) rfl (by decide) ?_
                  have z := wp_some h
                  exact PZ_iret (ty := .int) (pw_dk dc_X12_part 67 rfl) rfl rfl z
                · rw [if_neg c_46] at h
                  refine PW_iconst (pc' := 150) (v := 1) (pw_dk dc_X12_part 64 rfl) rfl (by decide) ?_
                  refine PW_goto (tgt := 154) (pw_dk dc_X12_part 65 rfl) (by decide) ?_
                  have z := wp_some h
                  exact PZ_iret (ty := .int) (pw_dk dc_X12_part 67 rfl) rfl rfl z
              · rw [if_neg c_39] at h
                by_cases c_47 : x3 = 5
                · rw [if_pos c_47] at h
                  refine PW_tin (tgt := 155) (pw_dk dc_X12_part 20 rfl) (by rw [c_47]; decide) (by rw [c_47]; decide) (by rw [c_47] <;> rfl) (by decide) ?_
                  refine PW_aload_n (pc' := 156) (q := 1) (pw_dk dc_X12_part 68 rfl) rfl rfl rfl ?_
                  refine PW_getR (pc' := 159) (id := 5000) (ci := 12) (nn := 0) (C0 := RX12) (T := TX12) (N := 62) (j := 43) (r := 5044) (pw_dk dc_X12_part 69 rfl) rfl me_5000 rfl pi_12 (by decide) fk_12_43 tw_1440 (rfl) (by decide) ?_
                  refine PW_iload_n (pc' := 160) (q := 2) (pw_dk dc_X12_part 70 rfl) rfl rfl rfl ?_
                  obtain ⟨v_48, hi_49, e_50, h⟩ := wp_rdIx h
                  refine PZ_ialdx (pc' := 161) (v := v_48) (id := 5044) (nn := 115) (pw_dk dc_X12_part 71 rfl) rfl me_5044 hi_49 e_50 ?_
                  refine PW_iload_n (pc' := 162) (q := 3) (pw_dk dc_X12_part 72 rfl) rfl rfl rfl ?_
                  refine PW_ishr (pc' := 163) (pw_dk dc_X12_part 73 rfl) rfl ?_
                  refine PW_iconst (pc' := 164) (v := 1) (pw_dk dc_X12_part 74 rfl) rfl (by decide) ?_
                  refine PW_iand (pc' := 165) (pw_dk dc_X12_part 75 rfl) rfl ?_
                  have z := wp_some h
                  exact PZ_iret (ty := .int) (pw_dk dc_X12_part 76 rfl) rfl rfl z
                · rw [if_neg c_47] at h
                  have kc_14 := pw_ne c_14 (show (0 : Int32).toInt = 0 by decide)
                  have kc_15 := pw_ne c_15 (show (1 : Int32).toInt = 1 by decide)
                  have kc_23 := pw_ne c_23 (show (2 : Int32).toInt = 2 by decide)
                  have kc_27 := pw_ne c_27 (show (3 : Int32).toInt = 3 by decide)
                  have kc_39 := pw_ne c_39 (show (4 : Int32).toInt = 4 by decide)
                  have kc_47 := pw_ne c_47 (show (5 : Int32).toInt = 5 by decide)
                  refine PW_tout (tgt := 166) (pw_dk dc_X12_part 20 rfl) (by omega) (by decide) ?_
                  refine PW_bipush (pc' := 168) (v := (-2 : Int32)) (pw_dk dc_X12_part 77 rfl) rfl (by decide) ?_
                  have z := wp_some h
                  exact PZ_iret (ty := .int) (pw_dk dc_X12_part 78 rfl) rfl rfl z
    · rw [if_pos c_8] at h
      refine PW_sub (lv' := []) [] rfl ?_
      exact b_X12_part_20 σ_1 h
