theorem tw_146 : Cond.classLink R_law 8 RX11 ∈ pw_tb := pw_w 147 _ (by decide +kernel) (by decide +kernel)
theorem tw_148 : Cond.methodLink R_law 17 yX11_init ∈ pw_tb := pw_w 149 _ (by decide +kernel) (by decide +kernel)
theorem tw_149 : Cond.instanceMethod yX11_init ∈ pw_tb := pw_w 150 _ (by decide +kernel) (by decide +kernel)
theorem tw_1383 : Cond.classLink R_law 18 RX12 ∈ pw_tb := pw_w 1382 _ (by decide +kernel) (by decide +kernel)
theorem tw_1385 : Cond.methodLink R_law 20 yX12_init ∈ pw_tb := pw_w 1384 _ (by decide +kernel) (by decide +kernel)
theorem tw_1386 : Cond.instanceMethod yX12_init ∈ pw_tb := pw_w 1385 _ (by decide +kernel) (by decide +kernel)
/-! the two new objects -/
def s0_0 : pS := (fun _ _ => 0, fun _ _ => 0, fun _ _ => 0)
def s0_1 : pS := pw_nw s0_0 100
def s0_2 : pS := pw_mg alC (g_X11_init_100 s0_1) s0_1
def s0_3 : pS := pw_nw s0_2 5000
def B0 : Nat → Bool := fun k => if k = 0 then false else if k = 1 then true else if k = 2 then false else true
/-- the new HalfCitizen -/
def zC0 : zS := ((g_X11_init_100 s0_1).1, (g_X11_init_100 s0_1).2.1, B0)
/-- the new reference, before begins -/
def zM0 : zS := ((g_X12_raw s0_3).1, (g_X12_raw s0_3).2.1, B0)
def rfs (al : pAL) : List (Nat × Nat) := al.flatMap (fun c => if c.2.1 < 13 then (List.range 62).filterMap (fun j => if (pw_fk c.2.1)[j]? = some false then some (c.1, j) else none) else [])
theorem rfs_in {al : pAL} {c : Nat × Nat × Nat} {j : Nat} (hc : c ∈ al) (h : c.2.1 < 13) (hj : (pw_fk c.2.1)[j]? = some false) (h62 : j < 62) : (c.1, j) ∈ rfs al := by
  refine List.mem_flatMap.mpr ⟨c, hc, ?_⟩
  rw [if_pos h]
  exact List.mem_filterMap.mpr ⟨j, List.mem_range.mpr h62, by rw [if_pos hj]⟩
theorem fk_len : ∀ ci, ci < 13 → (pw_fk ci).length ≤ 62 := by decide +kernel
theorem s0_C : (rfs alC).all (fun q => (g_X11_init_100 s0_1).2.2 q.1 q.2 == emR B0 q.1 q.2) = true := by decide +kernel
theorem s0_M : (rfs alM).all (fun q => (g_X12_raw s0_3).2.2 q.1 q.2 == emR B0 q.1 q.2) = true := by decide +kernel
theorem s0_eq {al : pAL} {σ : pS} {B : Nat → Bool} (h : (rfs al).all (fun q => σ.2.2 q.1 q.2 == emR B q.1 q.2) = true) : pw_eq al σ (em (σ.1, σ.2.1, B)) := by
  intro c hc
  refine ⟨fun h13 j => ⟨fun _ => rfl, fun hj => ?_⟩, fun _ j _ => ⟨rfl, rfl⟩⟩
  have h62 : j < 62 := Nat.lt_of_lt_of_le (List.getElem?_eq_some_iff.mp hj).1 (fk_len _ h13)
  exact eq_of_beq (List.all_eq_true.mp h _ (rfs_in hc h13 hj h62))
theorem s0_eqC : pw_eq alC (g_X11_init_100 s0_1) (em zC0) := s0_eq s0_C
theorem s0_eqM : pw_eq alM (g_X12_raw s0_3) (em zM0) := s0_eq s0_M
/-- the law from its first instruction, once its loop is known -/
theorem law_from0 {L : Nat} {xs : Nat → Int32} {σM : zS} (hb : f_X12_begins zM0 = some σM)
    (loop : PL L xs 23 [(0, .ref 9500), (1, .ref 100), (2, .ref 5000), (3, .ref 8000), (4, .int (nI (6 * 0)))] [] alL (200 + 0) (6000 + 6 * 0) (lw_st zC0 σM 0)) : PL L xs 0 [(0, .ref 9500)] [] [] 0 0 s0_0 := by
  refine PL_new (pc' := 3) (id := 100) (ci := 11) (k' := 1) (n' := 15) (al' := aC 1) (pw_dk dc_L0 0 rfl) rfl rfl pi_11 tyX11_ok tw_146 tw_147 tw_120 (by decide +kernel) rfl rfl (by decide) (by decide) rfl (Or.inl rfl) rfl ?_
  refine PL_dup (pc' := 4) (pw_dk dc_L0 1 rfl) rfl rfl ?_
  refine PL_callI (pc' := 7) (y := yX11_init) (M' := mX11_init) (d' := 7) (As := []) (st := [.ref 100]) (b0 := 100) (mc' := 82) (ms' := 2575) (ord' := [101, 300, 303, 304, 305, 308, 309, 310, 311, 313, 314, 315, 316, 1300, 1303, 1304, 1305, 1306, 1307, 1308, 200, 400, 403, 404, 405, 408, 409, 410, 411, 413, 414, 415, 416, 1400, 1403, 1404, 1405, 1406, 1407, 1408, 500, 502, 600, 1000, 700, 703, 704, 705, 706, 800, 803, 804, 805, 806, 900, 903, 904, 905, 906, 1100, 1102, 1103, 1104, 1105, 1106, 1200, 1203, 1204, 1205, 1206, 1207, 1208, 1209, 1500, 1502, 1503, 1504, 1505, 1506, 1507, 1600, 1601]) (k' := 83) (n' := 2590) (al1 := []) (al2 := aC 1) (al' := alC) (σ2 := g_X11_init_100 s0_1) tw_149 rfl rfl (pw_dk dc_L0 2 rfl) rfl YI_X11_init tw_148 rfl (by decide) (by decide) rfl rfl ⟨by decide, by decide⟩ (pw_ord lw_ord 1 82) (Or.inr ⟨(100, 11, 0), List.mem_of_getElem? (i := 0) rfl, rfl⟩) rfl (by decide) (fun c h => by cases h) (fun Q h => k_X11_init_100 s0_1 Q h) ?_
  refine PL_astore_n (pc' := 8) (lv' := [(1, .ref 100), (0, .ref 9500)]) (pw_dk dc_L0 3 rfl) rfl rfl (by decide) rfl ?_
  refine PL_new (pc' := 11) (id := 5000) (ci := 12) (k' := 84) (n' := 2652) (al' := alC ++ aM 1) (pw_dk dc_L0 4 rfl) rfl rfl pi_12 tyX12_ok tw_1383 tw_1384 tw_137 (by decide +kernel) rfl rfl (by decide) (by decide) rfl (Or.inr ⟨(1601, 13, 16), by decide +kernel, rfl⟩) rfl ?_
  refine PL_dup (pc' := 12) (pw_dk dc_L0 5 rfl) rfl rfl ?_
  refine PL_callI (pc' := 15) (y := yX12_init) (M' := mX12_init) (d' := 2) (As := []) (st := [.ref 5000]) (b0 := 5000) (mc' := 39) (ms' := 3027) (ord' := [5002, 5004, 5005, 5006, 5007, 5008, 5009, 5010, 5011, 5012, 5013, 5014, 5015, 5016, 5017, 5018, 5019, 5020, 5021, 5035, 5036, 5039, 5040, 5041, 5042, 5043, 5044, 5045, 5049, 5050, 5051, 5053, 5056, 5057, 5058, 5059, 5060, 5061, 5062]) (k' := 123) (n' := 5679) (al1 := alC) (al2 := aM 1) (al' := alM) (σ2 := em σM) tw_1386 rfl rfl (pw_dk dc_L0 6 rfl) rfl YI_X12_init tw_1385 rfl (by decide) (by decide) rfl rfl ⟨by decide, by decide⟩ (pw_ord lw_ord 84 39) (Or.inr ⟨(5000, 12, 0), List.mem_append_right _ (List.mem_of_getElem? (i := 0) rfl), rfl⟩) rfl (by decide) (by decide +kernel) (fun Q h => k_X12_init_5000 s0_3 zM0 σM s0_eqM hb Q h) ?_
  refine PL_astore_n (pc' := 16) (lv' := [(2, .ref 5000), (1, .ref 100), (0, .ref 9500)]) (pw_dk dc_L0 7 rfl) rfl rfl (by decide) rfl ?_
  refine PL_iconst (pc' := 17) (v := 1) (pw_dk dc_L0 8 rfl) rfl (by decide) ?_
  refine PL_newaJ (pc' := 19) (id := 8000) (N0 := 1) (k' := 124) (n' := 5680) (al' := alL) (pw_dk dc_L0 9 rfl) rfl tw_195 (by decide) (by decide) (by decide) rfl rfl (by decide) (by decide) rfl (Or.inr ⟨(5062, 15, 192), by decide +kernel, rfl⟩) rfl ?_
  refine PL_astore_n (pc' := 20) (lv' := [(3, .ref 8000), (2, .ref 5000), (1, .ref 100), (0, .ref 9500)]) (pw_dk dc_L0 10 rfl) rfl rfl (by decide) rfl ?_
  refine PL_iconst (pc' := 21) (v := 0) (pw_dk dc_L0 11 rfl) rfl (by decide) ?_
  refine PL_istore (pc' := 23) (lv' := [(4, .int 0), (3, .ref 8000), (2, .ref 5000), (1, .ref 100), (0, .ref 9500)]) (pw_dk dc_L0 12 rfl) rfl (by decide) rfl ?_
  refine PL_sub (lv' := [(0, .ref 9500), (1, .ref 100), (2, .ref 5000), (3, .ref 8000), (4, .int (nI (6 * 0)))]) [4, 3, 2, 1, 0] rfl ?_
  refine PL_wide (k' := 200 + 0) (n' := 6000 + 6 * 0) (by decide) (by decide) ?_
  refine PL_cong (σ' := lw_st zC0 σM 0) ?_ loop
  show pw_eq alL (pw_nw (pw_mg alM (em σM) (pw_nw (pw_mg alC (g_X11_init_100 s0_1) s0_1) 5000)) 8000) _
  intro c hc
  rcases List.mem_append.mp hc with hc | hc
  · rcases List.mem_append.mp hc with hc | hc
    · have h := lw_c1 c hc
      have e1 : ¬ c.1 = 8000 := by omega
      have e2 : ¬ c.1 = 5000 := by omega
      have e3 : pw_has alM c.1 = false := Bool.eq_false_iff.mpr (fun z => by have := lw_hm z; omega)
      have e4 : pw_hasO alM c.1 = false := Bool.eq_false_iff.mpr (fun z => by have := lw_hm (lw_hO z); omega)
      have e5 := pw_has_in hc
      have q := s0_eqC c hc
      refine ⟨fun h13 j => ⟨fun hj => ?_, fun hj => ?_⟩, fun h13 j hj => ⟨?_, ?_⟩⟩
      · rw [show (lw_st zC0 σM 0).1 c.1 j = (em zC0).1 c.1 j by simp [lw_st, em, h], ← (q.1 h13 j).1 hj]
        simp [pw_nw, pw_mg, e1, e2, e3, e5]
      · rw [show (lw_st zC0 σM 0).2.2 c.1 j = (em zC0).2.2 c.1 j by simp [lw_st, em, h], ← (q.1 h13 j).2 hj]
        simp [pw_nw, pw_mg, e1, e2, e4, pw_hasO_in hc h13]
      · rw [show (lw_st zC0 σM 0).1 c.1 j = (em zC0).1 c.1 j by simp [lw_st, em, h], ← (q.2 h13 j hj).1]
        simp [pw_nw, pw_mg, e1, e2, e3, e5]
      · rw [show (lw_st zC0 σM 0).2.1 c.1 j = (em zC0).2.1 c.1 j by simp [lw_st, em, h], ← (q.2 h13 j hj).2]
        simp [pw_nw, pw_mg, e1, e2, e3, e5]
    · have h := lw_m1 c hc
      have h1 : ¬ c.1 < 5000 := by omega
      have e1 : ¬ c.1 = 8000 := by omega
      have e5 := pw_has_in hc
      exact ⟨fun h13 j => ⟨fun _ => by simp [pw_nw, pw_mg, lw_st, em, e1, e5, h1, h.2], fun _ => by simp [pw_nw, pw_mg, lw_st, em, e1, h1, pw_hasO_in hc h13]⟩, fun _ j _ => ⟨by simp [pw_nw, pw_mg, lw_st, em, e1, e5, h1, h.2], by simp [pw_nw, pw_mg, lw_st, em, e1, e5, h1, h.2]⟩⟩
  · have hc := List.mem_singleton.mp hc
    subst hc
    exact ⟨fun h13 => absurd h13 (by decide), fun _ j _ => ⟨by simp [pw_nw, lw_st], by simp [pw_nw, lw_st]⟩⟩
