/-! the two objects and the row 'out' as one store -/
def lw_st (σc σm : zS) (w : Int64) : pS := (fun i => if i < 5000 then σc.1 i else if i < 8000 then σm.1 i else fun _ => 0, fun i => if i < 5000 then σc.2.1 i else if i < 8000 then σm.2.1 i else fun _ => w, fun i => if i < 5000 then emR σc.2.2 i else emR σm.2.2 i)
theorem lw_c1 : ∀ c ∈ alC, c.1 < 5000 := by decide +kernel
theorem lw_m1 : ∀ c ∈ alM, 5000 ≤ c.1 ∧ c.1 < 8000 := by decide +kernel
theorem lw_hc {i : Nat} (h : pw_has alC i = true) : i < 5000 := by obtain ⟨c, hc, rfl⟩ := pw_has_ex h; exact lw_c1 c hc
theorem lw_hm {i : Nat} (h : pw_has alM i = true) : 5000 ≤ i ∧ i < 8000 := by obtain ⟨c, hc, rfl⟩ := pw_has_ex h; exact lw_m1 c hc
theorem lw_hO {al : pAL} {i : Nat} (h : pw_hasO al i = true) : pw_has al i = true := by
  by_cases z : pw_has al i = true
  · exact z
  · exact absurd h (pw_hasO_no z)
theorem lw_ndC : (alC.map (·.1)).Nodup := by decide +kernel
theorem lw_ndM : (alM.map (·.1)).Nodup := by decide +kernel
theorem lw_inC : ∀ c ∈ alC, c ∈ alL := fun c h => List.mem_append_left _ (List.mem_append_left _ h)
theorem lw_inM : ∀ c ∈ alM, c ∈ alL := fun c h => List.mem_append_left _ (List.mem_append_right _ h)
theorem lw_eqC (σc σm : zS) (w : Int64) : pw_eq alC (lw_st σc σm w) (em σc) := by
  intro c hc
  have h := lw_c1 c hc
  exact ⟨fun _ j => ⟨fun _ => by simp [lw_st, em, h], fun _ => by simp [lw_st, em, h]⟩, fun _ j _ => ⟨by simp [lw_st, em, h], by simp [lw_st, em, h]⟩⟩
theorem lw_eqM (σc σm : zS) (w : Int64) : pw_eq alM (lw_st σc σm w) (em σm) := by
  intro c hc
  have h := lw_m1 c hc
  have h1 : ¬ c.1 < 5000 := by omega
  exact ⟨fun _ j => ⟨fun _ => by simp [lw_st, em, h1, h.2], fun _ => by simp [lw_st, em, h1]⟩, fun _ j _ => ⟨by simp [lw_st, em, h1, h.2], by simp [lw_st, em, h1, h.2]⟩⟩
theorem lw_mgC (σc σm σ' : zS) (w : Int64) : pw_eq alL (pw_mg alC (em σ') (lw_st σc σm w)) (lw_st σ' σm w) := by
  intro c hc
  rcases List.mem_append.mp hc with hc | hc
  · rcases List.mem_append.mp hc with hc | hc
    · have h := lw_c1 c hc
      have h1 := pw_has_in hc
      exact ⟨fun h13 j => ⟨fun _ => by simp [pw_mg, lw_st, em, h, h1], fun _ => by simp [pw_mg, lw_st, em, h, pw_hasO_in hc h13]⟩, fun _ j _ => ⟨by simp [pw_mg, lw_st, em, h, h1], by simp [pw_mg, lw_st, em, h, h1]⟩⟩
    · have h := lw_m1 c hc
      have h1 : ¬ pw_has alC c.1 = true := fun z => by have := lw_hc z; omega
      have h2 : ¬ c.1 < 5000 := by omega
      exact ⟨fun h13 j => ⟨fun _ => by simp [pw_mg, lw_st, h1, h2], fun _ => by simp [pw_mg, lw_st, h2, pw_hasO_no h1]⟩, fun _ j _ => ⟨by simp [pw_mg, lw_st, h1, h2], by simp [pw_mg, lw_st, h1, h2]⟩⟩
  · rw [List.mem_singleton.mp hc]
    exact ⟨fun h13 => absurd h13 (by decide), fun _ j _ => ⟨rfl, rfl⟩⟩
theorem lw_mgM (σc σm σ' : zS) (w : Int64) : pw_eq alL (pw_mg alM (em σ') (lw_st σc σm w)) (lw_st σc σ' w) := by
  intro c hc
  rcases List.mem_append.mp hc with hc | hc
  · rcases List.mem_append.mp hc with hc | hc
    · have h := lw_c1 c hc
      have h1 : ¬ pw_has alM c.1 = true := fun z => by have := lw_hm z; omega
      exact ⟨fun h13 j => ⟨fun _ => by simp [pw_mg, lw_st, h, h1], fun _ => by simp [pw_mg, lw_st, h, pw_hasO_no h1]⟩, fun _ j _ => ⟨by simp [pw_mg, lw_st, h, h1], by simp [pw_mg, lw_st, h, h1]⟩⟩
    · have h := lw_m1 c hc
      have h1 := pw_has_in hc
      have h2 : ¬ c.1 < 5000 := by omega
      exact ⟨fun h13 j => ⟨fun _ => by simp [pw_mg, lw_st, em, h1, h2, h.2], fun _ => by simp [pw_mg, lw_st, em, h2, pw_hasO_in hc h13]⟩, fun _ j _ => ⟨by simp [pw_mg, lw_st, em, h1, h2, h.2], by simp [pw_mg, lw_st, em, h1, h2, h.2]⟩⟩
  · rw [List.mem_singleton.mp hc]
    exact ⟨fun h13 => absurd h13 (by decide), fun _ j _ => ⟨rfl, rfl⟩⟩
theorem lw_in100 : (100, 11, 0) ∈ alL := lw_inC _ me_100
theorem lw_in5000 : (5000, 12, 0) ∈ alL := lw_inM _ me_5000
theorem PL_cCi {L : Nat} {xs : Nat → Int32} {pc pc' : Nat} {lv : List (Nat × Value)} {st : List Value} {k n : Nat} {σc σm : zS} {w : Int64} {y : MethodName} {M' : pM} {d' nA ix : Nat} {As : List Value} {T : u_T} {N : Nat} (hci : pw_cl[11]? = some (y.cls, T, N)) (w2 : Cond.instanceMethod y ∈ pw_tb) (w3 : Cond.selects y.cls y y ∈ pw_tb) (hd : decode code pc = .ok (.invokevirtual ix, 3)) (hp : pc + 3 = pc') (hY : pw_Y y M' nA) (w1 : Cond.methodLink R_law ix y ∈ pw_tb) (hn : As.length = nA) (hdd : d' + 1 ≤ 2048) (hst : (st.map fun v => v.category).sum ≤ 8) (hkc : k ≤ 601024 ∧ n ≤ 7293034)
    (h : PK alC y M' d' (.ref 100 :: As) σc (fun r σ' => ∃ v : Int32, r = some (.int v) ∧ PL L xs pc' lv (.int v :: st) alL k n (lw_st σ' σm w))) : PL L xs pc lv (As.reverse ++ .ref 100 :: st) alL k n (lw_st σc σm w) := by
  refine PL_callV lw_in100 hci w2 w3 lw_inC lw_ndC (lw_eqC σc σm w) hd hp hY w1 hn hdd hst hkc (fun r al' σ' hz => by obtain ⟨s9, e9, -⟩ := hz; cases e9; rfl) h (fun r σ' hz => ?_)
  obtain ⟨s9, e9, v, rfl, hq⟩ := hz
  cases e9
  exact PL_cong (lw_mgC σc σm s9 w) hq
theorem PL_cCl {L : Nat} {xs : Nat → Int32} {pc pc' : Nat} {lv : List (Nat × Value)} {st : List Value} {k n : Nat} {σc σm : zS} {w : Int64} {y : MethodName} {M' : pM} {d' nA ix : Nat} {As : List Value} {T : u_T} {N : Nat} (hci : pw_cl[11]? = some (y.cls, T, N)) (w2 : Cond.instanceMethod y ∈ pw_tb) (w3 : Cond.selects y.cls y y ∈ pw_tb) (hd : decode code pc = .ok (.invokevirtual ix, 3)) (hp : pc + 3 = pc') (hY : pw_Y y M' nA) (w1 : Cond.methodLink R_law ix y ∈ pw_tb) (hn : As.length = nA) (hdd : d' + 1 ≤ 2048) (hst : (st.map fun v => v.category).sum ≤ 8) (hkc : k ≤ 601024 ∧ n ≤ 7293034)
    (h : PK alC y M' d' (.ref 100 :: As) σc (fun r σ' => ∃ v : Int64, r = some (.long v) ∧ PL L xs pc' lv (.long v :: st) alL k n (lw_st σ' σm w))) : PL L xs pc lv (As.reverse ++ .ref 100 :: st) alL k n (lw_st σc σm w) := by
  refine PL_callV lw_in100 hci w2 w3 lw_inC lw_ndC (lw_eqC σc σm w) hd hp hY w1 hn hdd hst hkc (fun r al' σ' hz => by obtain ⟨s9, e9, -⟩ := hz; cases e9; rfl) h (fun r σ' hz => ?_)
  obtain ⟨s9, e9, v, rfl, hq⟩ := hz
  cases e9
  exact PL_cong (lw_mgC σc σm s9 w) hq
theorem PL_cMi {L : Nat} {xs : Nat → Int32} {pc pc' : Nat} {lv : List (Nat × Value)} {st : List Value} {k n : Nat} {σc σm : zS} {w : Int64} {y : MethodName} {M' : pM} {d' nA ix : Nat} {As : List Value} {T : u_T} {N : Nat} (hci : pw_cl[12]? = some (y.cls, T, N)) (w2 : Cond.instanceMethod y ∈ pw_tb) (w3 : Cond.selects y.cls y y ∈ pw_tb) (hd : decode code pc = .ok (.invokevirtual ix, 3)) (hp : pc + 3 = pc') (hY : pw_Y y M' nA) (w1 : Cond.methodLink R_law ix y ∈ pw_tb) (hn : As.length = nA) (hdd : d' + 1 ≤ 2048) (hst : (st.map fun v => v.category).sum ≤ 8) (hkc : k ≤ 601024 ∧ n ≤ 7293034)
    (h : PK alM y M' d' (.ref 5000 :: As) σm (fun r σ' => ∃ v : Int32, r = some (.int v) ∧ PL L xs pc' lv (.int v :: st) alL k n (lw_st σc σ' w))) : PL L xs pc lv (As.reverse ++ .ref 5000 :: st) alL k n (lw_st σc σm w) := by
  refine PL_callV lw_in5000 hci w2 w3 lw_inM lw_ndM (lw_eqM σc σm w) hd hp hY w1 hn hdd hst hkc (fun r al' σ' hz => by obtain ⟨s9, e9, -⟩ := hz; cases e9; rfl) h (fun r σ' hz => ?_)
  obtain ⟨s9, e9, v, rfl, hq⟩ := hz
  cases e9
  exact PL_cong (lw_mgM σc σm s9 w) hq
theorem PL_cMl {L : Nat} {xs : Nat → Int32} {pc pc' : Nat} {lv : List (Nat × Value)} {st : List Value} {k n : Nat} {σc σm : zS} {w : Int64} {y : MethodName} {M' : pM} {d' nA ix : Nat} {As : List Value} {T : u_T} {N : Nat} (hci : pw_cl[12]? = some (y.cls, T, N)) (w2 : Cond.instanceMethod y ∈ pw_tb) (w3 : Cond.selects y.cls y y ∈ pw_tb) (hd : decode code pc = .ok (.invokevirtual ix, 3)) (hp : pc + 3 = pc') (hY : pw_Y y M' nA) (w1 : Cond.methodLink R_law ix y ∈ pw_tb) (hn : As.length = nA) (hdd : d' + 1 ≤ 2048) (hst : (st.map fun v => v.category).sum ≤ 8) (hkc : k ≤ 601024 ∧ n ≤ 7293034)
    (h : PK alM y M' d' (.ref 5000 :: As) σm (fun r σ' => ∃ v : Int64, r = some (.long v) ∧ PL L xs pc' lv (.long v :: st) alL k n (lw_st σc σ' w))) : PL L xs pc lv (As.reverse ++ .ref 5000 :: st) alL k n (lw_st σc σm w) := by
  refine PL_callV lw_in5000 hci w2 w3 lw_inM lw_ndM (lw_eqM σc σm w) hd hp hY w1 hn hdd hst hkc (fun r al' σ' hz => by obtain ⟨s9, e9, -⟩ := hz; cases e9; rfl) h (fun r σ' hz => ?_)
  obtain ⟨s9, e9, v, rfl, hq⟩ := hz
  cases e9
  exact PL_cong (lw_mgM σc σm s9 w) hq
def op_feed (V : zS → zS → Prop) : Prop := ∀ (a1 : Int32) (a2 : Int32) (a3 : Int32) (a4 : Int32) (a5 : Int32) (σc σm : zS), V σc σm → ∃ (r : Int32) (σc1 σm1 : zS), f_X11_feed a1 a2 a3 a4 a5 σc = some (r, σc1) ∧ f_X12_feed a1 a2 a3 a4 a5 σm = some (r, σm1) ∧ V σc1 σm1
def op_text (V : zS → zS → Prop) : Prop := ∀ (a1 : Int32) (σc σm : zS), V σc σm → ∃ (r : Int32) (σc1 σm1 : zS), f_X11_text a1 σc = some (r, σc1) ∧ f_X12_text a1 σm = some (r, σm1) ∧ V σc1 σm1
def op_fault (V : zS → zS → Prop) : Prop := ∀ (a1 : Int32) (σc σm : zS), V σc σm → ∃ (r : Int32) (σc1 σm1 : zS), (f_X11_fault a1 σc = r ∧ σc1 = σc) ∧ f_X12_fault a1 σm = some (r, σm1) ∧ V σc1 σm1
def op_named (V : zS → zS → Prop) : Prop := ∀ (a1 : Int32) (a2 : Int32) (σc σm : zS), V σc σm → ∃ (r : Int32) (σc1 σm1 : zS), (f_X11_named a1 a2 σc = some r ∧ σc1 = σc) ∧ f_X12_named a1 a2 σm = some (r, σm1) ∧ V σc1 σm1
def op_land (V : zS → zS → Prop) : Prop := ∀ (a1 : Int32) (σc σm : zS), V σc σm → ∃ (r : Int32) (σc1 σm1 : zS), (f_X11_land a1 σc = some r ∧ σc1 = σc) ∧ f_X12_land a1 σm = some (r, σm1) ∧ V σc1 σm1
def op_part (V : zS → zS → Prop) : Prop := ∀ (a1 : Int32) (a2 : Int32) (a3 : Int32) (σc σm : zS), V σc σm → ∃ (r : Int32) (σc1 σm1 : zS), f_X11_part a1 a2 a3 σc = some (r, σc1) ∧ f_X12_part a1 a2 a3 σm = some (r, σm1) ∧ V σc1 σm1
def op_lawful (V : zS → zS → Prop) : Prop := ∀ (a1 : Int32) (a2 : Int32) (a3 : Int32) (σc σm : zS), V σc σm → ∃ (r : Int32) (σc1 σm1 : zS), f_X11_lawful a1 a2 a3 σc = some (r, σc1) ∧ f_X12_lawful a1 a2 a3 σm = some (r, σm1) ∧ V σc1 σm1
def op_law (V : zS → zS → Prop) : Prop := ∀ (a1 : Int32) (a2 : Int32) (a3 : Int32) (a4 : Int32) (σc σm : zS), V σc σm → ∃ (r : Int64) (σc1 σm1 : zS), f_X11_law a1 a2 a3 a4 σc = some (r, σc1) ∧ f_X12_law a1 a2 a3 a4 σm = some (r, σm1) ∧ V σc1 σm1
def op_deed (V : zS → zS → Prop) : Prop := ∀ (a1 : Int32) (a2 : Int32) (σc σm : zS), V σc σm → ∃ (r : Int32) (σc1 σm1 : zS), (f_X11_deed a1 a2 σc = some r ∧ σc1 = σc) ∧ f_X12_deed a1 a2 σm = some (r, σm1) ∧ V σc1 σm1
def op_clash (V : zS → zS → Prop) : Prop := ∀ (σc σm : zS), V σc σm → ∃ (r : Int32) (σc1 σm1 : zS), (f_X11_clash σc = some r ∧ σc1 = σc) ∧ f_X12_clash σm = some (r, σm1) ∧ V σc1 σm1
def op_move (V : zS → zS → Prop) : Prop := ∀ (a1 : Int32) (a2 : Int32) (σc σm : zS), V σc σm → ∃ (r : Int32) (σc1 σm1 : zS), f_X11_move a1 a2 σc = some (r, σc1) ∧ f_X12_move a1 a2 σm = some (r, σm1) ∧ V σc1 σm1
def op_free (V : zS → zS → Prop) : Prop := ∀ (a1 : Int32) (a2 : Int32) (σc σm : zS), V σc σm → ∃ (r : Int32) (σc1 σm1 : zS), f_X11_free a1 a2 σc = some (r, σc1) ∧ f_X12_free a1 a2 σm = some (r, σm1) ∧ V σc1 σm1
def op_go (V : zS → zS → Prop) : Prop := ∀ (a1 : Int32) (σc σm : zS), V σc σm → ∃ (r : Int32) (σc1 σm1 : zS), f_X11_go a1 σc = some (r, σc1) ∧ f_X12_go a1 σm = some (r, σm1) ∧ V σc1 σm1
def op_fewest (V : zS → zS → Prop) : Prop := ∀ (a1 : Int32) (a2 : Int32) (a3 : Int32) (σc σm : zS), V σc σm → ∃ (r : Int32) (σc1 σm1 : zS), f_X11_fewest a1 a2 a3 σc = some (r, σc1) ∧ f_X12_fewest a1 a2 a3 σm = some (r, σm1) ∧ V σc1 σm1
def op_way (V : zS → zS → Prop) : Prop := ∀ (a1 : Int32) (a2 : Int32) (a3 : Int32) (a4 : Int32) (σc σm : zS), V σc σm → ∃ (r : Int32) (σc1 σm1 : zS), f_X11_way a1 a2 a3 a4 σc = some (r, σc1) ∧ f_X12_way a1 a2 a3 a4 σm = some (r, σm1) ∧ V σc1 σm1
def op_joint (V : zS → zS → Prop) : Prop := ∀ (a1 : Int32) (a2 : Int32) (a3 : Int32) (a4 : Int32) (a5 : Int32) (σc σm : zS), V σc σm → ∃ (r : Int32) (σc1 σm1 : zS), f_X11_joint a1 a2 a3 a4 a5 σc = some (r, σc1) ∧ f_X12_joint a1 a2 a3 a4 a5 σm = some (r, σm1) ∧ V σc1 σm1
def op_stands (V : zS → zS → Prop) : Prop := ∀ (a1 : Int32) (σc σm : zS), V σc σm → ∃ (r : Int32) (σc1 σm1 : zS), (f_X11_stands a1 σc = some r ∧ σc1 = σc) ∧ f_X12_stands a1 σm = some (r, σm1) ∧ V σc1 σm1
def op_match (V : zS → zS → Prop) : Prop := ∀ (a1 : Int32) (σc σm : zS), V σc σm → ∃ (r : Int32) (σc1 σm1 : zS), (f_X11_match a1 σc = some r ∧ σc1 = σc) ∧ f_X12_match a1 σm = some (r, σm1) ∧ V σc1 σm1
def op_loopholes (V : zS → zS → Prop) : Prop := ∀ (a1 : Int32) (a2 : Int32) (σc σm : zS), V σc σm → ∃ (r : Int32) (σc1 σm1 : zS), f_X11_loopholes a1 a2 σc = some (r, σc1) ∧ f_X12_loopholes a1 a2 σm = some (r, σm1) ∧ V σc1 σm1
def op_loophole (V : zS → zS → Prop) : Prop := ∀ (a1 : Int32) (a2 : Int32) (a3 : Int32) (σc σm : zS), V σc σm → ∃ (r : Int32) (σc1 σm1 : zS), f_X11_loophole a1 a2 a3 σc = some (r, σc1) ∧ f_X12_loophole a1 a2 a3 σm = some (r, σm1) ∧ V σc1 σm1
def op_shut (V : zS → zS → Prop) : Prop := ∀ (a1 : Int32) (a2 : Int32) (σc σm : zS), V σc σm → ∃ (r : Int32) (σc1 σm1 : zS), f_X11_shut a1 a2 σc = some (r, σc1) ∧ f_X12_shut a1 a2 σm = some (r, σm1) ∧ V σc1 σm1
def op_rests (V : zS → zS → Prop) : Prop := ∀ (a1 : Int32) (a2 : Int32) (σc σm : zS), V σc σm → ∃ (r : Int32) (σc1 σm1 : zS), f_X11_rests a1 a2 σc = some (r, σc1) ∧ f_X12_rests a1 a2 σm = some (r, σm1) ∧ V σc1 σm1
def op_rest (V : zS → zS → Prop) : Prop := ∀ (a1 : Int32) (a2 : Int32) (a3 : Int32) (σc σm : zS), V σc σm → ∃ (r : Int32) (σc1 σm1 : zS), f_X11_rest a1 a2 a3 σc = some (r, σc1) ∧ f_X12_rest a1 a2 a3 σm = some (r, σm1) ∧ V σc1 σm1
def op_freed (V : zS → zS → Prop) : Prop := ∀ (a1 : Int32) (σc σm : zS), V σc σm → ∃ (r : Int32) (σc1 σm1 : zS), (f_X11_freed a1 σc = some r ∧ σc1 = σc) ∧ f_X12_freed a1 σm = some (r, σm1) ∧ V σc1 σm1
def op_print (V : zS → zS → Prop) : Prop := ∀ (a1 : Int32) (a2 : Int32) (a3 : Int32) (σc σm : zS), V σc σm → ∃ (r : Int32) (σc1 σm1 : zS), f_X11_print a1 a2 a3 σc = some (r, σc1) ∧ f_X12_print a1 a2 a3 σm = some (r, σm1) ∧ V σc1 σm1
def op_strike (V : zS → zS → Prop) : Prop := ∀ (a1 : Int32) (σc σm : zS), V σc σm → ∃ (r : Int32) (σc1 σm1 : zS), f_X11_strike a1 σc = some (r, σc1) ∧ f_X12_strike a1 σm = some (r, σm1) ∧ V σc1 σm1
def op_known (V : zS → zS → Prop) : Prop := ∀ (a1 : Int32) (σc σm : zS), V σc σm → ∃ (r : Int32) (σc1 σm1 : zS), f_X11_known a1 σc = some (r, σc1) ∧ f_X12_known a1 σm = some (r, σm1) ∧ V σc1 σm1
def op_whose (V : zS → zS → Prop) : Prop := ∀ (σc σm : zS), V σc σm → ∃ (r : Int32) (σc1 σm1 : zS), f_X11_whose σc = some (r, σc1) ∧ f_X12_whose σm = some (r, σm1) ∧ V σc1 σm1
def op_chance (V : zS → zS → Prop) : Prop := ∀ (a1 : Int32) (a2 : Int32) (a3 : Int32) (σc σm : zS), V σc σm → ∃ (r : Int32) (σc1 σm1 : zS), f_X11_chance a1 a2 a3 σc = some (r, σc1) ∧ f_X12_chance a1 a2 a3 σm = some (r, σm1) ∧ V σc1 σm1
def op_tried (V : zS → zS → Prop) : Prop := ∀ (a1 : Int32) (a2 : Int32) (σc σm : zS), V σc σm → ∃ (r : Int32) (σc1 σm1 : zS), f_X11_tried a1 a2 σc = some (r, σc1) ∧ f_X12_tried a1 a2 σm = some (r, σm1) ∧ V σc1 σm1
def op_undo (V : zS → zS → Prop) : Prop := ∀ (σc σm : zS), V σc σm → ∃ (r : Int32) (σc1 σm1 : zS), f_X11_undo σc = some (r, σc1) ∧ f_X12_undo σm = some (r, σm1) ∧ V σc1 σm1
def op_keep (V : zS → zS → Prop) : Prop := ∀ (σc σm : zS), V σc σm → ∃ (r : Int32) (σc1 σm1 : zS), f_X11_keep σc = some (r, σc1) ∧ f_X12_keep σm = some (r, σm1) ∧ V σc1 σm1
def op_back (V : zS → zS → Prop) : Prop := ∀ (σc σm : zS), V σc σm → ∃ (r : Int32) (σc1 σm1 : zS), f_X11_back σc = some (r, σc1) ∧ f_X12_back σm = some (r, σm1) ∧ V σc1 σm1
def op_count (V : zS → zS → Prop) : Prop := ∀ (a1 : Int32) (σc σm : zS), V σc σm → ∃ (r : Int32) (σc1 σm1 : zS), (f_X11_count a1 σc = some r ∧ σc1 = σc) ∧ f_X12_count a1 σm = some (r, σm1) ∧ V σc1 σm1
theorem lw_in {j L : Nat} {q : Int32} (hj : 6 * j + 6 ≤ L) (hL : L ≤ 3072) (hq : (0 ≤ q.toInt ∧ q.toInt ≤ 5)) : vp_in (nI (6 * j) + q) L := by
  rw [vp_in_iff]
  have h1 := nI_toInt (n := 6 * j) (by omega)
  have h2 : (nI (6 * j) + q).toInt = (nI (6 * j)).toInt + q.toInt := by
    rw [Int32.toInt_add, h1]
    have : ((6 * j : Nat) : Int) ≤ 3072 := by omega
    rw [Int.bmod_eq_of_le] <;> omega
  rw [h2, h1]
  omega
theorem lg_cmp_self (x : Int64) : lg_cmp x x = 0 := by simp [lg_cmp]
theorem cs_feed {V : zS → zS → Prop} (hop : op_feed V) {L : Nat} {xs : Nat → Int32} {j k n : Nat} {w : Int64} {σc σm : zS} (hj : 6 * j + 6 ≤ L) (hL : L ≤ 3072) (hk : k ≤ 601024) (hn : n ≤ 7293034) (hI : V σc σm) (cont : ∀ σc1 σm1, V σc1 σm1 → PL L xs 1487 [(0, .ref 9500), (1, .ref 100), (2, .ref 5000), (3, .ref 8000), (4, .int (nI (6 * j)))] [] alL k n (lw_st σc1 σm1 w)) : PL L xs 196 [(0, .ref 9500), (1, .ref 100), (2, .ref 5000), (3, .ref 8000), (4, .int (nI (6 * j)))] [] alL k n (lw_st σc σm w) := by
  obtain ⟨rr, σc1, σm1, h1, h2, hI1⟩ := hop (xs (nI (6 * j) + 1).toNatClampNeg) (xs (nI (6 * j) + 2).toNatClampNeg) (xs (nI (6 * j) + 3).toNatClampNeg) (xs (nI (6 * j) + 4).toNatClampNeg) (xs (nI (6 * j) + 5).toNatClampNeg) σc σm hI
  refine PL_aload_n (pc' := 197) (q := 1) (pw_dk dc_L0 25 rfl) rfl rfl rfl ?_
  refine PL_aload_n (pc' := 198) (q := 0) (pw_dk dc_L0 26 rfl) rfl rfl rfl ?_
  refine PL_iload (pc' := 200) (q := 4) (pw_dk dc_L0 27 rfl) rfl rfl ?_
  refine PL_iconst (pc' := 201) (v := 1) (pw_dk dc_L0 28 rfl) rfl (by decide) ?_
  refine PL_iadd (pc' := 202) (pw_dk dc_L0 29 rfl) rfl ?_
  refine PL_sld (pc' := 203) (pw_dk dc_L0 30 rfl) rfl (lw_in hj hL (by decide)) ?_
  refine PL_aload_n (pc' := 204) (q := 0) (pw_dk dc_L0 31 rfl) rfl rfl rfl ?_
  refine PL_iload (pc' := 206) (q := 4) (pw_dk dc_L0 32 rfl) rfl rfl ?_
  refine PL_iconst (pc' := 207) (v := 2) (pw_dk dc_L0 33 rfl) rfl (by decide) ?_
  refine PL_iadd (pc' := 208) (pw_dk dc_L0 34 rfl) rfl ?_
  refine PL_sld (pc' := 209) (pw_dk dc_L0 35 rfl) rfl (lw_in hj hL (by decide)) ?_
  refine PL_aload_n (pc' := 210) (q := 0) (pw_dk dc_L0 36 rfl) rfl rfl rfl ?_
  refine PL_iload (pc' := 212) (q := 4) (pw_dk dc_L0 37 rfl) rfl rfl ?_
  refine PL_iconst (pc' := 213) (v := 3) (pw_dk dc_L0 38 rfl) rfl (by decide) ?_
  refine PL_iadd (pc' := 214) (pw_dk dc_L0 39 rfl) rfl ?_
  refine PL_sld (pc' := 215) (pw_dk dc_L0 40 rfl) rfl (lw_in hj hL (by decide)) ?_
  refine PL_aload_n (pc' := 216) (q := 0) (pw_dk dc_L0 41 rfl) rfl rfl rfl ?_
  refine PL_iload (pc' := 218) (q := 4) (pw_dk dc_L0 42 rfl) rfl rfl ?_
  refine PL_iconst (pc' := 219) (v := 4) (pw_dk dc_L0 43 rfl) rfl (by decide) ?_
  refine PL_iadd (pc' := 220) (pw_dk dc_L0 44 rfl) rfl ?_
  refine PL_sld (pc' := 221) (pw_dk dc_L0 45 rfl) rfl (lw_in hj hL (by decide)) ?_
  refine PL_aload_n (pc' := 222) (q := 0) (pw_dk dc_L0 46 rfl) rfl rfl rfl ?_
  refine PL_iload (pc' := 224) (q := 4) (pw_dk dc_L0 47 rfl) rfl rfl ?_
  refine PL_iconst (pc' := 225) (v := 5) (pw_dk dc_L0 48 rfl) rfl (by decide) ?_
  refine PL_iadd (pc' := 226) (pw_dk dc_L0 49 rfl) rfl ?_
  refine PL_sld (pc' := 227) (pw_dk dc_L0 50 rfl) rfl (lw_in hj hL (by decide)) ?_
  refine PL_cCi (pc' := 230) (y := yX11_feed) (M' := mX11_feed) (d' := 1) (As := [.int (xs (nI (6 * j) + 1).toNatClampNeg), .int (xs (nI (6 * j) + 2).toNatClampNeg), .int (xs (nI (6 * j) + 3).toNatClampNeg), .int (xs (nI (6 * j) + 4).toNatClampNeg), .int (xs (nI (6 * j) + 5).toNatClampNeg)]) (st := []) rfl tw_642 tw_643 (pw_dk dc_L0 51 rfl) rfl Y_X11_feed tw_641 rfl (by decide) (Nat.le_of_ble_eq_true rfl) ⟨hk, hn⟩ (t_X11_feed (xs (nI (6 * j) + 1).toNatClampNeg) (xs (nI (6 * j) + 2).toNatClampNeg) (xs (nI (6 * j) + 3).toNatClampNeg) (xs (nI (6 * j) + 4).toNatClampNeg) (xs (nI (6 * j) + 5).toNatClampNeg) σc _ ⟨(rr, σc1), h1, _, rfl, ?_⟩)
  refine PL_aload_n (pc' := 231) (q := 2) (pw_dk dc_L0 52 rfl) rfl rfl rfl ?_
  refine PL_aload_n (pc' := 232) (q := 0) (pw_dk dc_L0 53 rfl) rfl rfl rfl ?_
  refine PL_iload (pc' := 234) (q := 4) (pw_dk dc_L0 54 rfl) rfl rfl ?_
  refine PL_iconst (pc' := 235) (v := 1) (pw_dk dc_L0 55 rfl) rfl (by decide) ?_
  refine PL_iadd (pc' := 236) (pw_dk dc_L0 56 rfl) rfl ?_
  refine PL_sld (pc' := 237) (pw_dk dc_L0 57 rfl) rfl (lw_in hj hL (by decide)) ?_
  refine PL_aload_n (pc' := 238) (q := 0) (pw_dk dc_L0 58 rfl) rfl rfl rfl ?_
  refine PL_iload (pc' := 240) (q := 4) (pw_dk dc_L0 59 rfl) rfl rfl ?_
  refine PL_iconst (pc' := 241) (v := 2) (pw_dk dc_L0 60 rfl) rfl (by decide) ?_
  refine PL_iadd (pc' := 242) (pw_dk dc_L0 61 rfl) rfl ?_
  refine PL_sld (pc' := 243) (pw_dk dc_L0 62 rfl) rfl (lw_in hj hL (by decide)) ?_
  refine PL_aload_n (pc' := 244) (q := 0) (pw_dk dc_L0 63 rfl) rfl rfl rfl ?_
  refine PL_iload (pc' := 246) (q := 4) (pw_dk dc_L0 64 rfl) rfl rfl ?_
  refine PL_iconst (pc' := 247) (v := 3) (pw_dk dc_L0 65 rfl) rfl (by decide) ?_
  refine PL_iadd (pc' := 248) (pw_dk dc_L0 66 rfl) rfl ?_
  refine PL_sld (pc' := 249) (pw_dk dc_L0 67 rfl) rfl (lw_in hj hL (by decide)) ?_
  refine PL_aload_n (pc' := 250) (q := 0) (pw_dk dc_L0 68 rfl) rfl rfl rfl ?_
  refine PL_iload (pc' := 252) (q := 4) (pw_dk dc_L0 69 rfl) rfl rfl ?_
  refine PL_iconst (pc' := 253) (v := 4) (pw_dk dc_L0 70 rfl) rfl (by decide) ?_
  refine PL_iadd (pc' := 254) (pw_dk dc_L0 71 rfl) rfl ?_
  refine PL_sld (pc' := 255) (pw_dk dc_L0 72 rfl) rfl (lw_in hj hL (by decide)) ?_
  refine PL_aload_n (pc' := 256) (q := 0) (pw_dk dc_L0 73 rfl) rfl rfl rfl ?_
  refine PL_iload (pc' := 258) (q := 4) (pw_dk dc_L0 74 rfl) rfl rfl ?_
  refine PL_iconst (pc' := 259) (v := 5) (pw_dk dc_L0 75 rfl) rfl (by decide) ?_
  refine PL_iadd (pc' := 260) (pw_dk dc_L0 76 rfl) rfl ?_
  refine PL_sld (pc' := 261) (pw_dk dc_L0 77 rfl) rfl (lw_in hj hL (by decide)) ?_
  refine PL_cMi (pc' := 264) (y := yX12_feed) (M' := mX12_feed) (d' := 0) (As := [.int (xs (nI (6 * j) + 1).toNatClampNeg), .int (xs (nI (6 * j) + 2).toNatClampNeg), .int (xs (nI (6 * j) + 3).toNatClampNeg), .int (xs (nI (6 * j) + 4).toNatClampNeg), .int (xs (nI (6 * j) + 5).toNatClampNeg)]) (st := [.int rr]) rfl tw_1589 tw_1590 (pw_dk dc_L0 78 rfl) rfl Y_X12_feed tw_1588 rfl (by decide) (Nat.le_of_ble_eq_true rfl) ⟨hk, hn⟩ (t_X12_feed (xs (nI (6 * j) + 1).toNatClampNeg) (xs (nI (6 * j) + 2).toNatClampNeg) (xs (nI (6 * j) + 3).toNatClampNeg) (xs (nI (6 * j) + 4).toNatClampNeg) (xs (nI (6 * j) + 5).toNatClampNeg) σm _ ⟨(rr, σm1), h2, _, rfl, ?_⟩)
  refine PL_icmp_eq (pc' := 267) (tgt := 1487) (pw_dk dc_L0 79 rfl) rfl (by decide) (fun c1 => ?_) (fun c1 => absurd rfl c1)
  exact cont σc1 σm1 hI1
theorem cs_text {V : zS → zS → Prop} (hop : op_text V) {L : Nat} {xs : Nat → Int32} {j k n : Nat} {w : Int64} {σc σm : zS} (hj : 6 * j + 6 ≤ L) (hL : L ≤ 3072) (hk : k ≤ 601024) (hn : n ≤ 7293034) (hI : V σc σm) (cont : ∀ σc1 σm1, V σc1 σm1 → PL L xs 1487 [(0, .ref 9500), (1, .ref 100), (2, .ref 5000), (3, .ref 8000), (4, .int (nI (6 * j)))] [] alL k n (lw_st σc1 σm1 w)) : PL L xs 269 [(0, .ref 9500), (1, .ref 100), (2, .ref 5000), (3, .ref 8000), (4, .int (nI (6 * j)))] [] alL k n (lw_st σc σm w) := by
  obtain ⟨rr, σc1, σm1, h1, h2, hI1⟩ := hop (xs (nI (6 * j) + 1).toNatClampNeg) σc σm hI
  refine PL_aload_n (pc' := 270) (q := 1) (pw_dk dc_L0 82 rfl) rfl rfl rfl ?_
  refine PL_aload_n (pc' := 271) (q := 0) (pw_dk dc_L0 83 rfl) rfl rfl rfl ?_
  refine PL_iload (pc' := 273) (q := 4) (pw_dk dc_L0 84 rfl) rfl rfl ?_
  refine PL_iconst (pc' := 274) (v := 1) (pw_dk dc_L0 85 rfl) rfl (by decide) ?_
  refine PL_iadd (pc' := 275) (pw_dk dc_L0 86 rfl) rfl ?_
  refine PL_sld (pc' := 276) (pw_dk dc_L0 87 rfl) rfl (lw_in hj hL (by decide)) ?_
  refine PL_cCi (pc' := 279) (y := yX11_text) (M' := mX11_text) (d' := 208) (As := [.int (xs (nI (6 * j) + 1).toNatClampNeg)]) (st := []) rfl tw_650 tw_651 (pw_dk dc_L0 88 rfl) rfl Y_X11_text tw_649 rfl (by decide) (Nat.le_of_ble_eq_true rfl) ⟨hk, hn⟩ (t_X11_text (xs (nI (6 * j) + 1).toNatClampNeg) σc _ ⟨(rr, σc1), h1, _, rfl, ?_⟩)
  refine PL_aload_n (pc' := 280) (q := 2) (pw_dk dc_L0 89 rfl) rfl rfl rfl ?_
  refine PL_aload_n (pc' := 281) (q := 0) (pw_dk dc_L0 90 rfl) rfl rfl rfl ?_
  refine PL_iload (pc' := 283) (q := 4) (pw_dk dc_L0 91 rfl) rfl rfl ?_
  refine PL_iconst (pc' := 284) (v := 1) (pw_dk dc_L0 92 rfl) rfl (by decide) ?_
  refine PL_iadd (pc' := 285) (pw_dk dc_L0 93 rfl) rfl ?_
  refine PL_sld (pc' := 286) (pw_dk dc_L0 94 rfl) rfl (lw_in hj hL (by decide)) ?_
  refine PL_cMi (pc' := 289) (y := yX12_text) (M' := mX12_text) (d' := 210) (As := [.int (xs (nI (6 * j) + 1).toNatClampNeg)]) (st := [.int rr]) rfl tw_1593 tw_1594 (pw_dk dc_L0 95 rfl) rfl Y_X12_text tw_1592 rfl (by decide) (Nat.le_of_ble_eq_true rfl) ⟨hk, hn⟩ (t_X12_text (xs (nI (6 * j) + 1).toNatClampNeg) σm _ ⟨(rr, σm1), h2, _, rfl, ?_⟩)
  refine PL_icmp_eq (pc' := 292) (tgt := 1487) (pw_dk dc_L0 96 rfl) rfl (by decide) (fun c1 => ?_) (fun c1 => absurd rfl c1)
  exact cont σc1 σm1 hI1
theorem cs_fault {V : zS → zS → Prop} (hop : op_fault V) {L : Nat} {xs : Nat → Int32} {j k n : Nat} {w : Int64} {σc σm : zS} (hj : 6 * j + 6 ≤ L) (hL : L ≤ 3072) (hk : k ≤ 601024) (hn : n ≤ 7293034) (hI : V σc σm) (cont : ∀ σc1 σm1, V σc1 σm1 → PL L xs 1487 [(0, .ref 9500), (1, .ref 100), (2, .ref 5000), (3, .ref 8000), (4, .int (nI (6 * j)))] [] alL k n (lw_st σc1 σm1 w)) : PL L xs 294 [(0, .ref 9500), (1, .ref 100), (2, .ref 5000), (3, .ref 8000), (4, .int (nI (6 * j)))] [] alL k n (lw_st σc σm w) := by
  obtain ⟨rr, σc1, σm1, h1, h2, hI1⟩ := hop (xs (nI (6 * j) + 1).toNatClampNeg) σc σm hI
  refine PL_aload_n (pc' := 295) (q := 1) (pw_dk dc_L0 99 rfl) rfl rfl rfl ?_
  refine PL_aload_n (pc' := 296) (q := 0) (pw_dk dc_L0 100 rfl) rfl rfl rfl ?_
  refine PL_iload (pc' := 298) (q := 4) (pw_dk dc_L0 101 rfl) rfl rfl ?_
  refine PL_iconst (pc' := 299) (v := 1) (pw_dk dc_L0 102 rfl) rfl (by decide) ?_
  refine PL_iadd (pc' := 300) (pw_dk dc_L0 103 rfl) rfl ?_
  refine PL_sld (pc' := 301) (pw_dk dc_L0 104 rfl) rfl (lw_in hj hL (by decide)) ?_
  refine PL_cCi (pc' := 304) (y := yX11_fault) (M' := mX11_fault) (d' := 0) (As := [.int (xs (nI (6 * j) + 1).toNatClampNeg)]) (st := []) rfl tw_876 tw_877 (pw_dk dc_L0 105 rfl) rfl Y_X11_fault tw_875 rfl (by decide) (Nat.le_of_ble_eq_true rfl) ⟨hk, hn⟩ (t_X11_fault (xs (nI (6 * j) + 1).toNatClampNeg) σc _ ⟨rr, by rw [h1.1], ?_⟩)
  rw [← h1.2]
  refine PL_aload_n (pc' := 305) (q := 2) (pw_dk dc_L0 106 rfl) rfl rfl rfl ?_
  refine PL_aload_n (pc' := 306) (q := 0) (pw_dk dc_L0 107 rfl) rfl rfl rfl ?_
  refine PL_iload (pc' := 308) (q := 4) (pw_dk dc_L0 108 rfl) rfl rfl ?_
  refine PL_iconst (pc' := 309) (v := 1) (pw_dk dc_L0 109 rfl) rfl (by decide) ?_
  refine PL_iadd (pc' := 310) (pw_dk dc_L0 110 rfl) rfl ?_
  refine PL_sld (pc' := 311) (pw_dk dc_L0 111 rfl) rfl (lw_in hj hL (by decide)) ?_
  refine PL_cMi (pc' := 314) (y := yX12_fault) (M' := mX12_fault) (d' := 0) (As := [.int (xs (nI (6 * j) + 1).toNatClampNeg)]) (st := [.int rr]) rfl tw_1729 tw_1730 (pw_dk dc_L0 112 rfl) rfl Y_X12_fault tw_1728 rfl (by decide) (Nat.le_of_ble_eq_true rfl) ⟨hk, hn⟩ (t_X12_fault (xs (nI (6 * j) + 1).toNatClampNeg) σm _ ⟨(rr, σm1), h2, _, rfl, ?_⟩)
  refine PL_icmp_eq (pc' := 317) (tgt := 1487) (pw_dk dc_L0 113 rfl) rfl (by decide) (fun c1 => ?_) (fun c1 => absurd rfl c1)
  exact cont σc1 σm1 hI1
theorem cs_named {V : zS → zS → Prop} (hop : op_named V) {L : Nat} {xs : Nat → Int32} {j k n : Nat} {w : Int64} {σc σm : zS} (hj : 6 * j + 6 ≤ L) (hL : L ≤ 3072) (hk : k ≤ 601024) (hn : n ≤ 7293034) (hI : V σc σm) (cont : ∀ σc1 σm1, V σc1 σm1 → PL L xs 1487 [(0, .ref 9500), (1, .ref 100), (2, .ref 5000), (3, .ref 8000), (4, .int (nI (6 * j)))] [] alL k n (lw_st σc1 σm1 w)) : PL L xs 319 [(0, .ref 9500), (1, .ref 100), (2, .ref 5000), (3, .ref 8000), (4, .int (nI (6 * j)))] [] alL k n (lw_st σc σm w) := by
  obtain ⟨rr, σc1, σm1, h1, h2, hI1⟩ := hop (xs (nI (6 * j) + 1).toNatClampNeg) (xs (nI (6 * j) + 2).toNatClampNeg) σc σm hI
  refine PL_aload_n (pc' := 320) (q := 1) (pw_dk dc_L0 116 rfl) rfl rfl rfl ?_
  refine PL_aload_n (pc' := 321) (q := 0) (pw_dk dc_L0 117 rfl) rfl rfl rfl ?_
  refine PL_iload (pc' := 323) (q := 4) (pw_dk dc_L0 118 rfl) rfl rfl ?_
  refine PL_iconst (pc' := 324) (v := 1) (pw_dk dc_L0 119 rfl) rfl (by decide) ?_
  refine PL_iadd (pc' := 325) (pw_dk dc_L1 0 rfl) rfl ?_
  refine PL_sld (pc' := 326) (pw_dk dc_L1 1 rfl) rfl (lw_in hj hL (by decide)) ?_
  refine PL_aload_n (pc' := 327) (q := 0) (pw_dk dc_L1 2 rfl) rfl rfl rfl ?_
  refine PL_iload (pc' := 329) (q := 4) (pw_dk dc_L1 3 rfl) rfl rfl ?_
  refine PL_iconst (pc' := 330) (v := 2) (pw_dk dc_L1 4 rfl) rfl (by decide) ?_
  refine PL_iadd (pc' := 331) (pw_dk dc_L1 5 rfl) rfl ?_
  refine PL_sld (pc' := 332) (pw_dk dc_L1 6 rfl) rfl (lw_in hj hL (by decide)) ?_
  refine PL_cCi (pc' := 335) (y := yX11_named) (M' := mX11_named) (d' := 2) (As := [.int (xs (nI (6 * j) + 1).toNatClampNeg), .int (xs (nI (6 * j) + 2).toNatClampNeg)]) (st := []) rfl tw_880 tw_881 (pw_dk dc_L1 7 rfl) rfl Y_X11_named tw_879 rfl (by decide) (Nat.le_of_ble_eq_true rfl) ⟨hk, hn⟩ (t_X11_named (xs (nI (6 * j) + 1).toNatClampNeg) (xs (nI (6 * j) + 2).toNatClampNeg) σc _ ⟨rr, h1.1, _, rfl, ?_⟩)
  rw [← h1.2]
  refine PL_aload_n (pc' := 336) (q := 2) (pw_dk dc_L1 8 rfl) rfl rfl rfl ?_
  refine PL_aload_n (pc' := 337) (q := 0) (pw_dk dc_L1 9 rfl) rfl rfl rfl ?_
  refine PL_iload (pc' := 339) (q := 4) (pw_dk dc_L1 10 rfl) rfl rfl ?_
  refine PL_iconst (pc' := 340) (v := 1) (pw_dk dc_L1 11 rfl) rfl (by decide) ?_
  refine PL_iadd (pc' := 341) (pw_dk dc_L1 12 rfl) rfl ?_
  refine PL_sld (pc' := 342) (pw_dk dc_L1 13 rfl) rfl (lw_in hj hL (by decide)) ?_
  refine PL_aload_n (pc' := 343) (q := 0) (pw_dk dc_L1 14 rfl) rfl rfl rfl ?_
  refine PL_iload (pc' := 345) (q := 4) (pw_dk dc_L1 15 rfl) rfl rfl ?_
  refine PL_iconst (pc' := 346) (v := 2) (pw_dk dc_L1 16 rfl) rfl (by decide) ?_
  refine PL_iadd (pc' := 347) (pw_dk dc_L1 17 rfl) rfl ?_
  refine PL_sld (pc' := 348) (pw_dk dc_L1 18 rfl) rfl (lw_in hj hL (by decide)) ?_
  refine PL_cMi (pc' := 351) (y := yX12_named) (M' := mX12_named) (d' := 1) (As := [.int (xs (nI (6 * j) + 1).toNatClampNeg), .int (xs (nI (6 * j) + 2).toNatClampNeg)]) (st := [.int rr]) rfl tw_1733 tw_1734 (pw_dk dc_L1 19 rfl) rfl Y_X12_named tw_1732 rfl (by decide) (Nat.le_of_ble_eq_true rfl) ⟨hk, hn⟩ (t_X12_named (xs (nI (6 * j) + 1).toNatClampNeg) (xs (nI (6 * j) + 2).toNatClampNeg) σm _ ⟨(rr, σm1), h2, _, rfl, ?_⟩)
  refine PL_icmp_eq (pc' := 354) (tgt := 1487) (pw_dk dc_L1 20 rfl) rfl (by decide) (fun c1 => ?_) (fun c1 => absurd rfl c1)
  exact cont σc1 σm1 hI1
theorem cs_land {V : zS → zS → Prop} (hop : op_land V) {L : Nat} {xs : Nat → Int32} {j k n : Nat} {w : Int64} {σc σm : zS} (hj : 6 * j + 6 ≤ L) (hL : L ≤ 3072) (hk : k ≤ 601024) (hn : n ≤ 7293034) (hI : V σc σm) (cont : ∀ σc1 σm1, V σc1 σm1 → PL L xs 1487 [(0, .ref 9500), (1, .ref 100), (2, .ref 5000), (3, .ref 8000), (4, .int (nI (6 * j)))] [] alL k n (lw_st σc1 σm1 w)) : PL L xs 424 [(0, .ref 9500), (1, .ref 100), (2, .ref 5000), (3, .ref 8000), (4, .int (nI (6 * j)))] [] alL k n (lw_st σc σm w) := by
  obtain ⟨rr, σc1, σm1, h1, h2, hI1⟩ := hop (xs (nI (6 * j) + 1).toNatClampNeg) σc σm hI
  refine PL_aload_n (pc' := 425) (q := 1) (pw_dk dc_L1 68 rfl) rfl rfl rfl ?_
  refine PL_aload_n (pc' := 426) (q := 0) (pw_dk dc_L1 69 rfl) rfl rfl rfl ?_
  refine PL_iload (pc' := 428) (q := 4) (pw_dk dc_L1 70 rfl) rfl rfl ?_
  refine PL_iconst (pc' := 429) (v := 1) (pw_dk dc_L1 71 rfl) rfl (by decide) ?_
  refine PL_iadd (pc' := 430) (pw_dk dc_L1 72 rfl) rfl ?_
  refine PL_sld (pc' := 431) (pw_dk dc_L1 73 rfl) rfl (lw_in hj hL (by decide)) ?_
  refine PL_cCi (pc' := 434) (y := yX11_land) (M' := mX11_land) (d' := 1) (As := [.int (xs (nI (6 * j) + 1).toNatClampNeg)]) (st := []) rfl tw_886 tw_887 (pw_dk dc_L1 74 rfl) rfl Y_X11_land tw_885 rfl (by decide) (Nat.le_of_ble_eq_true rfl) ⟨hk, hn⟩ (t_X11_land (xs (nI (6 * j) + 1).toNatClampNeg) σc _ ⟨rr, h1.1, _, rfl, ?_⟩)
  rw [← h1.2]
  refine PL_aload_n (pc' := 435) (q := 2) (pw_dk dc_L1 75 rfl) rfl rfl rfl ?_
  refine PL_aload_n (pc' := 436) (q := 0) (pw_dk dc_L1 76 rfl) rfl rfl rfl ?_
  refine PL_iload (pc' := 438) (q := 4) (pw_dk dc_L1 77 rfl) rfl rfl ?_
  refine PL_iconst (pc' := 439) (v := 1) (pw_dk dc_L1 78 rfl) rfl (by decide) ?_
  refine PL_iadd (pc' := 440) (pw_dk dc_L1 79 rfl) rfl ?_
  refine PL_sld (pc' := 441) (pw_dk dc_L1 80 rfl) rfl (lw_in hj hL (by decide)) ?_
  refine PL_cMi (pc' := 444) (y := yX12_land) (M' := mX12_land) (d' := 1) (As := [.int (xs (nI (6 * j) + 1).toNatClampNeg)]) (st := [.int rr]) rfl tw_1751 tw_1752 (pw_dk dc_L1 81 rfl) rfl Y_X12_land tw_1750 rfl (by decide) (Nat.le_of_ble_eq_true rfl) ⟨hk, hn⟩ (t_X12_land (xs (nI (6 * j) + 1).toNatClampNeg) σm _ ⟨(rr, σm1), h2, _, rfl, ?_⟩)
  refine PL_icmp_eq (pc' := 447) (tgt := 1487) (pw_dk dc_L1 82 rfl) rfl (by decide) (fun c1 => ?_) (fun c1 => absurd rfl c1)
  exact cont σc1 σm1 hI1
theorem cs_part {V : zS → zS → Prop} (hop : op_part V) {L : Nat} {xs : Nat → Int32} {j k n : Nat} {w : Int64} {σc σm : zS} (hj : 6 * j + 6 ≤ L) (hL : L ≤ 3072) (hk : k ≤ 601024) (hn : n ≤ 7293034) (hI : V σc σm) (cont : ∀ σc1 σm1, V σc1 σm1 → PL L xs 1487 [(0, .ref 9500), (1, .ref 100), (2, .ref 5000), (3, .ref 8000), (4, .int (nI (6 * j)))] [] alL k n (lw_st σc1 σm1 w)) : PL L xs 449 [(0, .ref 9500), (1, .ref 100), (2, .ref 5000), (3, .ref 8000), (4, .int (nI (6 * j)))] [] alL k n (lw_st σc σm w) := by
  obtain ⟨rr, σc1, σm1, h1, h2, hI1⟩ := hop (xs (nI (6 * j) + 1).toNatClampNeg) (xs (nI (6 * j) + 2).toNatClampNeg) (xs (nI (6 * j) + 3).toNatClampNeg) σc σm hI
  refine PL_aload_n (pc' := 450) (q := 1) (pw_dk dc_L1 85 rfl) rfl rfl rfl ?_
  refine PL_aload_n (pc' := 451) (q := 0) (pw_dk dc_L1 86 rfl) rfl rfl rfl ?_
  refine PL_iload (pc' := 453) (q := 4) (pw_dk dc_L1 87 rfl) rfl rfl ?_
  refine PL_iconst (pc' := 454) (v := 1) (pw_dk dc_L1 88 rfl) rfl (by decide) ?_
  refine PL_iadd (pc' := 455) (pw_dk dc_L1 89 rfl) rfl ?_
  refine PL_sld (pc' := 456) (pw_dk dc_L1 90 rfl) rfl (lw_in hj hL (by decide)) ?_
  refine PL_aload_n (pc' := 457) (q := 0) (pw_dk dc_L1 91 rfl) rfl rfl rfl ?_
  refine PL_iload (pc' := 459) (q := 4) (pw_dk dc_L1 92 rfl) rfl rfl ?_
  refine PL_iconst (pc' := 460) (v := 2) (pw_dk dc_L1 93 rfl) rfl (by decide) ?_
  refine PL_iadd (pc' := 461) (pw_dk dc_L1 94 rfl) rfl ?_
  refine PL_sld (pc' := 462) (pw_dk dc_L1 95 rfl) rfl (lw_in hj hL (by decide)) ?_
  refine PL_aload_n (pc' := 463) (q := 0) (pw_dk dc_L1 96 rfl) rfl rfl rfl ?_
  refine PL_iload (pc' := 465) (q := 4) (pw_dk dc_L1 97 rfl) rfl rfl ?_
  refine PL_iconst (pc' := 466) (v := 3) (pw_dk dc_L1 98 rfl) rfl (by decide) ?_
  refine PL_iadd (pc' := 467) (pw_dk dc_L1 99 rfl) rfl ?_
  refine PL_sld (pc' := 468) (pw_dk dc_L1 100 rfl) rfl (lw_in hj hL (by decide)) ?_
  refine PL_cCi (pc' := 471) (y := yX11_part) (M' := mX11_part) (d' := 5) (As := [.int (xs (nI (6 * j) + 1).toNatClampNeg), .int (xs (nI (6 * j) + 2).toNatClampNeg), .int (xs (nI (6 * j) + 3).toNatClampNeg)]) (st := []) rfl tw_898 tw_899 (pw_dk dc_L1 101 rfl) rfl Y_X11_part tw_897 rfl (by decide) (Nat.le_of_ble_eq_true rfl) ⟨hk, hn⟩ (t_X11_part (xs (nI (6 * j) + 1).toNatClampNeg) (xs (nI (6 * j) + 2).toNatClampNeg) (xs (nI (6 * j) + 3).toNatClampNeg) σc _ ⟨(rr, σc1), h1, _, rfl, ?_⟩)
  refine PL_aload_n (pc' := 472) (q := 2) (pw_dk dc_L1 102 rfl) rfl rfl rfl ?_
  refine PL_aload_n (pc' := 473) (q := 0) (pw_dk dc_L1 103 rfl) rfl rfl rfl ?_
  refine PL_iload (pc' := 475) (q := 4) (pw_dk dc_L1 104 rfl) rfl rfl ?_
  refine PL_iconst (pc' := 476) (v := 1) (pw_dk dc_L1 105 rfl) rfl (by decide) ?_
  refine PL_iadd (pc' := 477) (pw_dk dc_L1 106 rfl) rfl ?_
  refine PL_sld (pc' := 478) (pw_dk dc_L1 107 rfl) rfl (lw_in hj hL (by decide)) ?_
  refine PL_aload_n (pc' := 479) (q := 0) (pw_dk dc_L1 108 rfl) rfl rfl rfl ?_
  refine PL_iload (pc' := 481) (q := 4) (pw_dk dc_L1 109 rfl) rfl rfl ?_
  refine PL_iconst (pc' := 482) (v := 2) (pw_dk dc_L1 110 rfl) rfl (by decide) ?_
  refine PL_iadd (pc' := 483) (pw_dk dc_L1 111 rfl) rfl ?_
  refine PL_sld (pc' := 484) (pw_dk dc_L1 112 rfl) rfl (lw_in hj hL (by decide)) ?_
  refine PL_aload_n (pc' := 485) (q := 0) (pw_dk dc_L1 113 rfl) rfl rfl rfl ?_
  refine PL_iload (pc' := 487) (q := 4) (pw_dk dc_L1 114 rfl) rfl rfl ?_
  refine PL_iconst (pc' := 488) (v := 3) (pw_dk dc_L1 115 rfl) rfl (by decide) ?_
  refine PL_iadd (pc' := 489) (pw_dk dc_L1 116 rfl) rfl ?_
  refine PL_sld (pc' := 490) (pw_dk dc_L1 117 rfl) rfl (lw_in hj hL (by decide)) ?_
  refine PL_cMi (pc' := 493) (y := yX12_part) (M' := mX12_part) (d' := 4) (As := [.int (xs (nI (6 * j) + 1).toNatClampNeg), .int (xs (nI (6 * j) + 2).toNatClampNeg), .int (xs (nI (6 * j) + 3).toNatClampNeg)]) (st := [.int rr]) rfl tw_1759 tw_1760 (pw_dk dc_L1 118 rfl) rfl Y_X12_part tw_1758 rfl (by decide) (Nat.le_of_ble_eq_true rfl) ⟨hk, hn⟩ (t_X12_part (xs (nI (6 * j) + 1).toNatClampNeg) (xs (nI (6 * j) + 2).toNatClampNeg) (xs (nI (6 * j) + 3).toNatClampNeg) σm _ ⟨(rr, σm1), h2, _, rfl, ?_⟩)
  refine PL_icmp_eq (pc' := 496) (tgt := 1487) (pw_dk dc_L1 119 rfl) rfl (by decide) (fun c1 => ?_) (fun c1 => absurd rfl c1)
  exact cont σc1 σm1 hI1
theorem cs_lawful {V : zS → zS → Prop} (hop : op_lawful V) {L : Nat} {xs : Nat → Int32} {j k n : Nat} {w : Int64} {σc σm : zS} (hj : 6 * j + 6 ≤ L) (hL : L ≤ 3072) (hk : k ≤ 601024) (hn : n ≤ 7293034) (hI : V σc σm) (cont : ∀ σc1 σm1, V σc1 σm1 → PL L xs 1487 [(0, .ref 9500), (1, .ref 100), (2, .ref 5000), (3, .ref 8000), (4, .int (nI (6 * j)))] [] alL k n (lw_st σc1 σm1 w)) : PL L xs 498 [(0, .ref 9500), (1, .ref 100), (2, .ref 5000), (3, .ref 8000), (4, .int (nI (6 * j)))] [] alL k n (lw_st σc σm w) := by
  obtain ⟨rr, σc1, σm1, h1, h2, hI1⟩ := hop (xs (nI (6 * j) + 1).toNatClampNeg) (xs (nI (6 * j) + 2).toNatClampNeg) (xs (nI (6 * j) + 3).toNatClampNeg) σc σm hI
  refine PL_aload_n (pc' := 499) (q := 1) (pw_dk dc_L2 2 rfl) rfl rfl rfl ?_
  refine PL_aload_n (pc' := 500) (q := 0) (pw_dk dc_L2 3 rfl) rfl rfl rfl ?_
  refine PL_iload (pc' := 502) (q := 4) (pw_dk dc_L2 4 rfl) rfl rfl ?_
  refine PL_iconst (pc' := 503) (v := 1) (pw_dk dc_L2 5 rfl) rfl (by decide) ?_
  refine PL_iadd (pc' := 504) (pw_dk dc_L2 6 rfl) rfl ?_
  refine PL_sld (pc' := 505) (pw_dk dc_L2 7 rfl) rfl (lw_in hj hL (by decide)) ?_
  refine PL_aload_n (pc' := 506) (q := 0) (pw_dk dc_L2 8 rfl) rfl rfl rfl ?_
  refine PL_iload (pc' := 508) (q := 4) (pw_dk dc_L2 9 rfl) rfl rfl ?_
  refine PL_iconst (pc' := 509) (v := 2) (pw_dk dc_L2 10 rfl) rfl (by decide) ?_
  refine PL_iadd (pc' := 510) (pw_dk dc_L2 11 rfl) rfl ?_
  refine PL_sld (pc' := 511) (pw_dk dc_L2 12 rfl) rfl (lw_in hj hL (by decide)) ?_
  refine PL_aload_n (pc' := 512) (q := 0) (pw_dk dc_L2 13 rfl) rfl rfl rfl ?_
  refine PL_iload (pc' := 514) (q := 4) (pw_dk dc_L2 14 rfl) rfl rfl ?_
  refine PL_iconst (pc' := 515) (v := 3) (pw_dk dc_L2 15 rfl) rfl (by decide) ?_
  refine PL_iadd (pc' := 516) (pw_dk dc_L2 16 rfl) rfl ?_
  refine PL_sld (pc' := 517) (pw_dk dc_L2 17 rfl) rfl (lw_in hj hL (by decide)) ?_
  refine PL_cCi (pc' := 520) (y := yX11_lawful) (M' := mX11_lawful) (d' := 6) (As := [.int (xs (nI (6 * j) + 1).toNatClampNeg), .int (xs (nI (6 * j) + 2).toNatClampNeg), .int (xs (nI (6 * j) + 3).toNatClampNeg)]) (st := []) rfl tw_962 tw_963 (pw_dk dc_L2 18 rfl) rfl Y_X11_lawful tw_961 rfl (by decide) (Nat.le_of_ble_eq_true rfl) ⟨hk, hn⟩ (t_X11_lawful (xs (nI (6 * j) + 1).toNatClampNeg) (xs (nI (6 * j) + 2).toNatClampNeg) (xs (nI (6 * j) + 3).toNatClampNeg) σc _ ⟨(rr, σc1), h1, _, rfl, ?_⟩)
  refine PL_aload_n (pc' := 521) (q := 2) (pw_dk dc_L2 19 rfl) rfl rfl rfl ?_
  refine PL_aload_n (pc' := 522) (q := 0) (pw_dk dc_L2 20 rfl) rfl rfl rfl ?_
  refine PL_iload (pc' := 524) (q := 4) (pw_dk dc_L2 21 rfl) rfl rfl ?_
  refine PL_iconst (pc' := 525) (v := 1) (pw_dk dc_L2 22 rfl) rfl (by decide) ?_
  refine PL_iadd (pc' := 526) (pw_dk dc_L2 23 rfl) rfl ?_
  refine PL_sld (pc' := 527) (pw_dk dc_L2 24 rfl) rfl (lw_in hj hL (by decide)) ?_
  refine PL_aload_n (pc' := 528) (q := 0) (pw_dk dc_L2 25 rfl) rfl rfl rfl ?_
  refine PL_iload (pc' := 530) (q := 4) (pw_dk dc_L2 26 rfl) rfl rfl ?_
  refine PL_iconst (pc' := 531) (v := 2) (pw_dk dc_L2 27 rfl) rfl (by decide) ?_
  refine PL_iadd (pc' := 532) (pw_dk dc_L2 28 rfl) rfl ?_
  refine PL_sld (pc' := 533) (pw_dk dc_L2 29 rfl) rfl (lw_in hj hL (by decide)) ?_
  refine PL_aload_n (pc' := 534) (q := 0) (pw_dk dc_L2 30 rfl) rfl rfl rfl ?_
  refine PL_iload (pc' := 536) (q := 4) (pw_dk dc_L2 31 rfl) rfl rfl ?_
  refine PL_iconst (pc' := 537) (v := 3) (pw_dk dc_L2 32 rfl) rfl (by decide) ?_
  refine PL_iadd (pc' := 538) (pw_dk dc_L2 33 rfl) rfl ?_
  refine PL_sld (pc' := 539) (pw_dk dc_L2 34 rfl) rfl (lw_in hj hL (by decide)) ?_
  refine PL_cMi (pc' := 542) (y := yX12_lawful) (M' := mX12_lawful) (d' := 5) (As := [.int (xs (nI (6 * j) + 1).toNatClampNeg), .int (xs (nI (6 * j) + 2).toNatClampNeg), .int (xs (nI (6 * j) + 3).toNatClampNeg)]) (st := [.int rr]) rfl tw_1809 tw_1810 (pw_dk dc_L2 35 rfl) rfl Y_X12_lawful tw_1808 rfl (by decide) (Nat.le_of_ble_eq_true rfl) ⟨hk, hn⟩ (t_X12_lawful (xs (nI (6 * j) + 1).toNatClampNeg) (xs (nI (6 * j) + 2).toNatClampNeg) (xs (nI (6 * j) + 3).toNatClampNeg) σm _ ⟨(rr, σm1), h2, _, rfl, ?_⟩)
  refine PL_icmp_eq (pc' := 545) (tgt := 1487) (pw_dk dc_L2 36 rfl) rfl (by decide) (fun c1 => ?_) (fun c1 => absurd rfl c1)
  exact cont σc1 σm1 hI1
theorem cs_law {V : zS → zS → Prop} (hop : op_law V) {L : Nat} {xs : Nat → Int32} {j k n : Nat} {w : Int64} {σc σm : zS} (hj : 6 * j + 6 ≤ L) (hL : L ≤ 3072) (hk : k ≤ 601024) (hn : n ≤ 7293034) (hI : V σc σm) (cont : ∀ σc1 σm1, V σc1 σm1 → PL L xs 1487 [(0, .ref 9500), (1, .ref 100), (2, .ref 5000), (3, .ref 8000), (4, .int (nI (6 * j)))] [] alL k n (lw_st σc1 σm1 w)) : PL L xs 547 [(0, .ref 9500), (1, .ref 100), (2, .ref 5000), (3, .ref 8000), (4, .int (nI (6 * j)))] [] alL k n (lw_st σc σm w) := by
  obtain ⟨rr, σc1, σm1, h1, h2, hI1⟩ := hop (xs (nI (6 * j) + 1).toNatClampNeg) (xs (nI (6 * j) + 2).toNatClampNeg) (xs (nI (6 * j) + 3).toNatClampNeg) (xs (nI (6 * j) + 4).toNatClampNeg) σc σm hI
  refine PL_aload_n (pc' := 548) (q := 1) (pw_dk dc_L2 39 rfl) rfl rfl rfl ?_
  refine PL_aload_n (pc' := 549) (q := 0) (pw_dk dc_L2 40 rfl) rfl rfl rfl ?_
  refine PL_iload (pc' := 551) (q := 4) (pw_dk dc_L2 41 rfl) rfl rfl ?_
  refine PL_iconst (pc' := 552) (v := 1) (pw_dk dc_L2 42 rfl) rfl (by decide) ?_
  refine PL_iadd (pc' := 553) (pw_dk dc_L2 43 rfl) rfl ?_
  refine PL_sld (pc' := 554) (pw_dk dc_L2 44 rfl) rfl (lw_in hj hL (by decide)) ?_
  refine PL_aload_n (pc' := 555) (q := 0) (pw_dk dc_L2 45 rfl) rfl rfl rfl ?_
  refine PL_iload (pc' := 557) (q := 4) (pw_dk dc_L2 46 rfl) rfl rfl ?_
  refine PL_iconst (pc' := 558) (v := 2) (pw_dk dc_L2 47 rfl) rfl (by decide) ?_
  refine PL_iadd (pc' := 559) (pw_dk dc_L2 48 rfl) rfl ?_
  refine PL_sld (pc' := 560) (pw_dk dc_L2 49 rfl) rfl (lw_in hj hL (by decide)) ?_
  refine PL_aload_n (pc' := 561) (q := 0) (pw_dk dc_L2 50 rfl) rfl rfl rfl ?_
  refine PL_iload (pc' := 563) (q := 4) (pw_dk dc_L2 51 rfl) rfl rfl ?_
  refine PL_iconst (pc' := 564) (v := 3) (pw_dk dc_L2 52 rfl) rfl (by decide) ?_
  refine PL_iadd (pc' := 565) (pw_dk dc_L2 53 rfl) rfl ?_
  refine PL_sld (pc' := 566) (pw_dk dc_L2 54 rfl) rfl (lw_in hj hL (by decide)) ?_
  refine PL_aload_n (pc' := 567) (q := 0) (pw_dk dc_L2 55 rfl) rfl rfl rfl ?_
  refine PL_iload (pc' := 569) (q := 4) (pw_dk dc_L2 56 rfl) rfl rfl ?_
  refine PL_iconst (pc' := 570) (v := 4) (pw_dk dc_L2 57 rfl) rfl (by decide) ?_
  refine PL_iadd (pc' := 571) (pw_dk dc_L2 58 rfl) rfl ?_
  refine PL_sld (pc' := 572) (pw_dk dc_L2 59 rfl) rfl (lw_in hj hL (by decide)) ?_
  refine PL_cCl (pc' := 575) (y := yX11_law) (M' := mX11_law) (d' := 4) (As := [.int (xs (nI (6 * j) + 1).toNatClampNeg), .int (xs (nI (6 * j) + 2).toNatClampNeg), .int (xs (nI (6 * j) + 3).toNatClampNeg), .int (xs (nI (6 * j) + 4).toNatClampNeg)]) (st := []) rfl tw_979 tw_980 (pw_dk dc_L2 60 rfl) rfl Y_X11_law tw_978 rfl (by decide) (Nat.le_of_ble_eq_true rfl) ⟨hk, hn⟩ (t_X11_law (xs (nI (6 * j) + 1).toNatClampNeg) (xs (nI (6 * j) + 2).toNatClampNeg) (xs (nI (6 * j) + 3).toNatClampNeg) (xs (nI (6 * j) + 4).toNatClampNeg) σc _ ⟨(rr, σc1), h1, _, rfl, ?_⟩)
  refine PL_aload_n (pc' := 576) (q := 2) (pw_dk dc_L2 61 rfl) rfl rfl rfl ?_
  refine PL_aload_n (pc' := 577) (q := 0) (pw_dk dc_L2 62 rfl) rfl rfl rfl ?_
  refine PL_iload (pc' := 579) (q := 4) (pw_dk dc_L2 63 rfl) rfl rfl ?_
  refine PL_iconst (pc' := 580) (v := 1) (pw_dk dc_L2 64 rfl) rfl (by decide) ?_
  refine PL_iadd (pc' := 581) (pw_dk dc_L2 65 rfl) rfl ?_
  refine PL_sld (pc' := 582) (pw_dk dc_L2 66 rfl) rfl (lw_in hj hL (by decide)) ?_
  refine PL_aload_n (pc' := 583) (q := 0) (pw_dk dc_L2 67 rfl) rfl rfl rfl ?_
  refine PL_iload (pc' := 585) (q := 4) (pw_dk dc_L2 68 rfl) rfl rfl ?_
  refine PL_iconst (pc' := 586) (v := 2) (pw_dk dc_L2 69 rfl) rfl (by decide) ?_
  refine PL_iadd (pc' := 587) (pw_dk dc_L2 70 rfl) rfl ?_
  refine PL_sld (pc' := 588) (pw_dk dc_L2 71 rfl) rfl (lw_in hj hL (by decide)) ?_
  refine PL_aload_n (pc' := 589) (q := 0) (pw_dk dc_L2 72 rfl) rfl rfl rfl ?_
  refine PL_iload (pc' := 591) (q := 4) (pw_dk dc_L2 73 rfl) rfl rfl ?_
  refine PL_iconst (pc' := 592) (v := 3) (pw_dk dc_L2 74 rfl) rfl (by decide) ?_
  refine PL_iadd (pc' := 593) (pw_dk dc_L2 75 rfl) rfl ?_
  refine PL_sld (pc' := 594) (pw_dk dc_L2 76 rfl) rfl (lw_in hj hL (by decide)) ?_
  refine PL_aload_n (pc' := 595) (q := 0) (pw_dk dc_L2 77 rfl) rfl rfl rfl ?_
  refine PL_iload (pc' := 597) (q := 4) (pw_dk dc_L2 78 rfl) rfl rfl ?_
  refine PL_iconst (pc' := 598) (v := 4) (pw_dk dc_L2 79 rfl) rfl (by decide) ?_
  refine PL_iadd (pc' := 599) (pw_dk dc_L2 80 rfl) rfl ?_
  refine PL_sld (pc' := 600) (pw_dk dc_L2 81 rfl) rfl (lw_in hj hL (by decide)) ?_
  refine PL_cMl (pc' := 603) (y := yX12_law) (M' := mX12_law) (d' := 3) (As := [.int (xs (nI (6 * j) + 1).toNatClampNeg), .int (xs (nI (6 * j) + 2).toNatClampNeg), .int (xs (nI (6 * j) + 3).toNatClampNeg), .int (xs (nI (6 * j) + 4).toNatClampNeg)]) (st := [.long rr]) rfl tw_1824 tw_1825 (pw_dk dc_L2 82 rfl) rfl Y_X12_law tw_1823 rfl (by decide) (Nat.le_of_ble_eq_true rfl) ⟨hk, hn⟩ (t_X12_law (xs (nI (6 * j) + 1).toNatClampNeg) (xs (nI (6 * j) + 2).toNatClampNeg) (xs (nI (6 * j) + 3).toNatClampNeg) (xs (nI (6 * j) + 4).toNatClampNeg) σm _ ⟨(rr, σm1), h2, _, rfl, ?_⟩)
  refine PL_lcmp (pc' := 604) (pw_dk dc_L2 83 rfl) rfl ?_
  refine PL_if_eq (pc' := 607) (tgt := 1487) (pw_dk dc_L2 84 rfl) rfl (by decide) (fun c1 => ?_) (fun c1 => absurd (lg_cmp_self rr) c1)
  exact cont σc1 σm1 hI1
theorem cs_deed {V : zS → zS → Prop} (hop : op_deed V) {L : Nat} {xs : Nat → Int32} {j k n : Nat} {w : Int64} {σc σm : zS} (hj : 6 * j + 6 ≤ L) (hL : L ≤ 3072) (hk : k ≤ 601024) (hn : n ≤ 7293034) (hI : V σc σm) (cont : ∀ σc1 σm1, V σc1 σm1 → PL L xs 1487 [(0, .ref 9500), (1, .ref 100), (2, .ref 5000), (3, .ref 8000), (4, .int (nI (6 * j)))] [] alL k n (lw_st σc1 σm1 w)) : PL L xs 609 [(0, .ref 9500), (1, .ref 100), (2, .ref 5000), (3, .ref 8000), (4, .int (nI (6 * j)))] [] alL k n (lw_st σc σm w) := by
  obtain ⟨rr, σc1, σm1, h1, h2, hI1⟩ := hop (xs (nI (6 * j) + 1).toNatClampNeg) (xs (nI (6 * j) + 2).toNatClampNeg) σc σm hI
  refine PL_aload_n (pc' := 610) (q := 1) (pw_dk dc_L2 87 rfl) rfl rfl rfl ?_
  refine PL_aload_n (pc' := 611) (q := 0) (pw_dk dc_L2 88 rfl) rfl rfl rfl ?_
  refine PL_iload (pc' := 613) (q := 4) (pw_dk dc_L2 89 rfl) rfl rfl ?_
  refine PL_iconst (pc' := 614) (v := 1) (pw_dk dc_L2 90 rfl) rfl (by decide) ?_
  refine PL_iadd (pc' := 615) (pw_dk dc_L2 91 rfl) rfl ?_
  refine PL_sld (pc' := 616) (pw_dk dc_L2 92 rfl) rfl (lw_in hj hL (by decide)) ?_
  refine PL_aload_n (pc' := 617) (q := 0) (pw_dk dc_L2 93 rfl) rfl rfl rfl ?_
  refine PL_iload (pc' := 619) (q := 4) (pw_dk dc_L2 94 rfl) rfl rfl ?_
  refine PL_iconst (pc' := 620) (v := 2) (pw_dk dc_L2 95 rfl) rfl (by decide) ?_
  refine PL_iadd (pc' := 621) (pw_dk dc_L2 96 rfl) rfl ?_
  refine PL_sld (pc' := 622) (pw_dk dc_L2 97 rfl) rfl (lw_in hj hL (by decide)) ?_
  refine PL_cCi (pc' := 625) (y := yX11_deed) (M' := mX11_deed) (d' := 0) (As := [.int (xs (nI (6 * j) + 1).toNatClampNeg), .int (xs (nI (6 * j) + 2).toNatClampNeg)]) (st := []) rfl tw_985 tw_986 (pw_dk dc_L2 98 rfl) rfl Y_X11_deed tw_984 rfl (by decide) (Nat.le_of_ble_eq_true rfl) ⟨hk, hn⟩ (t_X11_deed (xs (nI (6 * j) + 1).toNatClampNeg) (xs (nI (6 * j) + 2).toNatClampNeg) σc _ ⟨rr, h1.1, _, rfl, ?_⟩)
  rw [← h1.2]
  refine PL_aload_n (pc' := 626) (q := 2) (pw_dk dc_L2 99 rfl) rfl rfl rfl ?_
  refine PL_aload_n (pc' := 627) (q := 0) (pw_dk dc_L2 100 rfl) rfl rfl rfl ?_
  refine PL_iload (pc' := 629) (q := 4) (pw_dk dc_L2 101 rfl) rfl rfl ?_
  refine PL_iconst (pc' := 630) (v := 1) (pw_dk dc_L2 102 rfl) rfl (by decide) ?_
  refine PL_iadd (pc' := 631) (pw_dk dc_L2 103 rfl) rfl ?_
  refine PL_sld (pc' := 632) (pw_dk dc_L2 104 rfl) rfl (lw_in hj hL (by decide)) ?_
  refine PL_aload_n (pc' := 633) (q := 0) (pw_dk dc_L2 105 rfl) rfl rfl rfl ?_
  refine PL_iload (pc' := 635) (q := 4) (pw_dk dc_L2 106 rfl) rfl rfl ?_
  refine PL_iconst (pc' := 636) (v := 2) (pw_dk dc_L2 107 rfl) rfl (by decide) ?_
  refine PL_iadd (pc' := 637) (pw_dk dc_L2 108 rfl) rfl ?_
  refine PL_sld (pc' := 638) (pw_dk dc_L2 109 rfl) rfl (lw_in hj hL (by decide)) ?_
  refine PL_cMi (pc' := 641) (y := yX12_deed) (M' := mX12_deed) (d' := 0) (As := [.int (xs (nI (6 * j) + 1).toNatClampNeg), .int (xs (nI (6 * j) + 2).toNatClampNeg)]) (st := [.int rr]) rfl tw_1829 tw_1830 (pw_dk dc_L2 110 rfl) rfl Y_X12_deed tw_1828 rfl (by decide) (Nat.le_of_ble_eq_true rfl) ⟨hk, hn⟩ (t_X12_deed (xs (nI (6 * j) + 1).toNatClampNeg) (xs (nI (6 * j) + 2).toNatClampNeg) σm _ ⟨(rr, σm1), h2, _, rfl, ?_⟩)
  refine PL_icmp_eq (pc' := 644) (tgt := 1487) (pw_dk dc_L2 111 rfl) rfl (by decide) (fun c1 => ?_) (fun c1 => absurd rfl c1)
  exact cont σc1 σm1 hI1
theorem cs_clash {V : zS → zS → Prop} (hop : op_clash V) {L : Nat} {xs : Nat → Int32} {j k n : Nat} {w : Int64} {σc σm : zS} (hj : 6 * j + 6 ≤ L) (hL : L ≤ 3072) (hk : k ≤ 601024) (hn : n ≤ 7293034) (hI : V σc σm) (cont : ∀ σc1 σm1, V σc1 σm1 → PL L xs 1487 [(0, .ref 9500), (1, .ref 100), (2, .ref 5000), (3, .ref 8000), (4, .int (nI (6 * j)))] [] alL k n (lw_st σc1 σm1 w)) : PL L xs 646 [(0, .ref 9500), (1, .ref 100), (2, .ref 5000), (3, .ref 8000), (4, .int (nI (6 * j)))] [] alL k n (lw_st σc σm w) := by
  obtain ⟨rr, σc1, σm1, h1, h2, hI1⟩ := hop  σc σm hI
  refine PL_aload_n (pc' := 647) (q := 1) (pw_dk dc_L2 114 rfl) rfl rfl rfl ?_
  refine PL_cCi (pc' := 650) (y := yX11_clash) (M' := mX11_clash) (d' := 0) (As := []) (st := []) rfl tw_989 tw_990 (pw_dk dc_L2 115 rfl) rfl Y_X11_clash tw_988 rfl (by decide) (Nat.le_of_ble_eq_true rfl) ⟨hk, hn⟩ (t_X11_clash  σc _ ⟨rr, h1.1, _, rfl, ?_⟩)
  rw [← h1.2]
  refine PL_aload_n (pc' := 651) (q := 2) (pw_dk dc_L2 116 rfl) rfl rfl rfl ?_
  refine PL_cMi (pc' := 654) (y := yX12_clash) (M' := mX12_clash) (d' := 0) (As := []) (st := [.int rr]) rfl tw_1833 tw_1834 (pw_dk dc_L2 117 rfl) rfl Y_X12_clash tw_1832 rfl (by decide) (Nat.le_of_ble_eq_true rfl) ⟨hk, hn⟩ (t_X12_clash  σm _ ⟨(rr, σm1), h2, _, rfl, ?_⟩)
  refine PL_icmp_eq (pc' := 657) (tgt := 1487) (pw_dk dc_L2 118 rfl) rfl (by decide) (fun c1 => ?_) (fun c1 => absurd rfl c1)
  exact cont σc1 σm1 hI1
theorem cs_move {V : zS → zS → Prop} (hop : op_move V) {L : Nat} {xs : Nat → Int32} {j k n : Nat} {w : Int64} {σc σm : zS} (hj : 6 * j + 6 ≤ L) (hL : L ≤ 3072) (hk : k ≤ 601024) (hn : n ≤ 7293034) (hI : V σc σm) (cont : ∀ σc1 σm1, V σc1 σm1 → PL L xs 1487 [(0, .ref 9500), (1, .ref 100), (2, .ref 5000), (3, .ref 8000), (4, .int (nI (6 * j)))] [] alL k n (lw_st σc1 σm1 w)) : PL L xs 659 [(0, .ref 9500), (1, .ref 100), (2, .ref 5000), (3, .ref 8000), (4, .int (nI (6 * j)))] [] alL k n (lw_st σc σm w) := by
  obtain ⟨rr, σc1, σm1, h1, h2, hI1⟩ := hop (xs (nI (6 * j) + 1).toNatClampNeg) (xs (nI (6 * j) + 2).toNatClampNeg) σc σm hI
  refine PL_aload_n (pc' := 660) (q := 1) (pw_dk dc_L3 1 rfl) rfl rfl rfl ?_
  refine PL_aload_n (pc' := 661) (q := 0) (pw_dk dc_L3 2 rfl) rfl rfl rfl ?_
  refine PL_iload (pc' := 663) (q := 4) (pw_dk dc_L3 3 rfl) rfl rfl ?_
  refine PL_iconst (pc' := 664) (v := 1) (pw_dk dc_L3 4 rfl) rfl (by decide) ?_
  refine PL_iadd (pc' := 665) (pw_dk dc_L3 5 rfl) rfl ?_
  refine PL_sld (pc' := 666) (pw_dk dc_L3 6 rfl) rfl (lw_in hj hL (by decide)) ?_
  refine PL_aload_n (pc' := 667) (q := 0) (pw_dk dc_L3 7 rfl) rfl rfl rfl ?_
  refine PL_iload (pc' := 669) (q := 4) (pw_dk dc_L3 8 rfl) rfl rfl ?_
  refine PL_iconst (pc' := 670) (v := 2) (pw_dk dc_L3 9 rfl) rfl (by decide) ?_
  refine PL_iadd (pc' := 671) (pw_dk dc_L3 10 rfl) rfl ?_
  refine PL_sld (pc' := 672) (pw_dk dc_L3 11 rfl) rfl (lw_in hj hL (by decide)) ?_
  refine PL_cCi (pc' := 675) (y := yX11_move) (M' := mX11_move) (d' := 3) (As := [.int (xs (nI (6 * j) + 1).toNatClampNeg), .int (xs (nI (6 * j) + 2).toNatClampNeg)]) (st := []) rfl tw_993 tw_994 (pw_dk dc_L3 12 rfl) rfl Y_X11_move tw_992 rfl (by decide) (Nat.le_of_ble_eq_true rfl) ⟨hk, hn⟩ (t_X11_move (xs (nI (6 * j) + 1).toNatClampNeg) (xs (nI (6 * j) + 2).toNatClampNeg) σc _ ⟨(rr, σc1), h1, _, rfl, ?_⟩)
  refine PL_aload_n (pc' := 676) (q := 2) (pw_dk dc_L3 13 rfl) rfl rfl rfl ?_
  refine PL_aload_n (pc' := 677) (q := 0) (pw_dk dc_L3 14 rfl) rfl rfl rfl ?_
  refine PL_iload (pc' := 679) (q := 4) (pw_dk dc_L3 15 rfl) rfl rfl ?_
  refine PL_iconst (pc' := 680) (v := 1) (pw_dk dc_L3 16 rfl) rfl (by decide) ?_
  refine PL_iadd (pc' := 681) (pw_dk dc_L3 17 rfl) rfl ?_
  refine PL_sld (pc' := 682) (pw_dk dc_L3 18 rfl) rfl (lw_in hj hL (by decide)) ?_
  refine PL_aload_n (pc' := 683) (q := 0) (pw_dk dc_L3 19 rfl) rfl rfl rfl ?_
  refine PL_iload (pc' := 685) (q := 4) (pw_dk dc_L3 20 rfl) rfl rfl ?_
  refine PL_iconst (pc' := 686) (v := 2) (pw_dk dc_L3 21 rfl) rfl (by decide) ?_
  refine PL_iadd (pc' := 687) (pw_dk dc_L3 22 rfl) rfl ?_
  refine PL_sld (pc' := 688) (pw_dk dc_L3 23 rfl) rfl (lw_in hj hL (by decide)) ?_
  refine PL_cMi (pc' := 691) (y := yX12_move) (M' := mX12_move) (d' := 2) (As := [.int (xs (nI (6 * j) + 1).toNatClampNeg), .int (xs (nI (6 * j) + 2).toNatClampNeg)]) (st := [.int rr]) rfl tw_1837 tw_1838 (pw_dk dc_L3 24 rfl) rfl Y_X12_move tw_1836 rfl (by decide) (Nat.le_of_ble_eq_true rfl) ⟨hk, hn⟩ (t_X12_move (xs (nI (6 * j) + 1).toNatClampNeg) (xs (nI (6 * j) + 2).toNatClampNeg) σm _ ⟨(rr, σm1), h2, _, rfl, ?_⟩)
  refine PL_icmp_eq (pc' := 694) (tgt := 1487) (pw_dk dc_L3 25 rfl) rfl (by decide) (fun c1 => ?_) (fun c1 => absurd rfl c1)
  exact cont σc1 σm1 hI1
theorem cs_free {V : zS → zS → Prop} (hop : op_free V) {L : Nat} {xs : Nat → Int32} {j k n : Nat} {w : Int64} {σc σm : zS} (hj : 6 * j + 6 ≤ L) (hL : L ≤ 3072) (hk : k ≤ 601024) (hn : n ≤ 7293034) (hI : V σc σm) (cont : ∀ σc1 σm1, V σc1 σm1 → PL L xs 1487 [(0, .ref 9500), (1, .ref 100), (2, .ref 5000), (3, .ref 8000), (4, .int (nI (6 * j)))] [] alL k n (lw_st σc1 σm1 w)) : PL L xs 696 [(0, .ref 9500), (1, .ref 100), (2, .ref 5000), (3, .ref 8000), (4, .int (nI (6 * j)))] [] alL k n (lw_st σc σm w) := by
  obtain ⟨rr, σc1, σm1, h1, h2, hI1⟩ := hop (xs (nI (6 * j) + 1).toNatClampNeg) (xs (nI (6 * j) + 2).toNatClampNeg) σc σm hI
  refine PL_aload_n (pc' := 697) (q := 1) (pw_dk dc_L3 28 rfl) rfl rfl rfl ?_
  refine PL_aload_n (pc' := 698) (q := 0) (pw_dk dc_L3 29 rfl) rfl rfl rfl ?_
  refine PL_iload (pc' := 700) (q := 4) (pw_dk dc_L3 30 rfl) rfl rfl ?_
  refine PL_iconst (pc' := 701) (v := 1) (pw_dk dc_L3 31 rfl) rfl (by decide) ?_
  refine PL_iadd (pc' := 702) (pw_dk dc_L3 32 rfl) rfl ?_
  refine PL_sld (pc' := 703) (pw_dk dc_L3 33 rfl) rfl (lw_in hj hL (by decide)) ?_
  refine PL_aload_n (pc' := 704) (q := 0) (pw_dk dc_L3 34 rfl) rfl rfl rfl ?_
  refine PL_iload (pc' := 706) (q := 4) (pw_dk dc_L3 35 rfl) rfl rfl ?_
  refine PL_iconst (pc' := 707) (v := 2) (pw_dk dc_L3 36 rfl) rfl (by decide) ?_
  refine PL_iadd (pc' := 708) (pw_dk dc_L3 37 rfl) rfl ?_
  refine PL_sld (pc' := 709) (pw_dk dc_L3 38 rfl) rfl (lw_in hj hL (by decide)) ?_
  refine PL_cCi (pc' := 712) (y := yX11_free) (M' := mX11_free) (d' := 3) (As := [.int (xs (nI (6 * j) + 1).toNatClampNeg), .int (xs (nI (6 * j) + 2).toNatClampNeg)]) (st := []) rfl tw_1012 tw_1013 (pw_dk dc_L3 39 rfl) rfl Y_X11_free tw_1011 rfl (by decide) (Nat.le_of_ble_eq_true rfl) ⟨hk, hn⟩ (t_X11_free (xs (nI (6 * j) + 1).toNatClampNeg) (xs (nI (6 * j) + 2).toNatClampNeg) σc _ ⟨(rr, σc1), h1, _, rfl, ?_⟩)
  refine PL_aload_n (pc' := 713) (q := 2) (pw_dk dc_L3 40 rfl) rfl rfl rfl ?_
  refine PL_aload_n (pc' := 714) (q := 0) (pw_dk dc_L3 41 rfl) rfl rfl rfl ?_
  refine PL_iload (pc' := 716) (q := 4) (pw_dk dc_L3 42 rfl) rfl rfl ?_
  refine PL_iconst (pc' := 717) (v := 1) (pw_dk dc_L3 43 rfl) rfl (by decide) ?_
  refine PL_iadd (pc' := 718) (pw_dk dc_L3 44 rfl) rfl ?_
  refine PL_sld (pc' := 719) (pw_dk dc_L3 45 rfl) rfl (lw_in hj hL (by decide)) ?_
  refine PL_aload_n (pc' := 720) (q := 0) (pw_dk dc_L3 46 rfl) rfl rfl rfl ?_
  refine PL_iload (pc' := 722) (q := 4) (pw_dk dc_L3 47 rfl) rfl rfl ?_
  refine PL_iconst (pc' := 723) (v := 2) (pw_dk dc_L3 48 rfl) rfl (by decide) ?_
  refine PL_iadd (pc' := 724) (pw_dk dc_L3 49 rfl) rfl ?_
  refine PL_sld (pc' := 725) (pw_dk dc_L3 50 rfl) rfl (lw_in hj hL (by decide)) ?_
  refine PL_cMi (pc' := 728) (y := yX12_free) (M' := mX12_free) (d' := 2) (As := [.int (xs (nI (6 * j) + 1).toNatClampNeg), .int (xs (nI (6 * j) + 2).toNatClampNeg)]) (st := [.int rr]) rfl tw_1853 tw_1854 (pw_dk dc_L3 51 rfl) rfl Y_X12_free tw_1852 rfl (by decide) (Nat.le_of_ble_eq_true rfl) ⟨hk, hn⟩ (t_X12_free (xs (nI (6 * j) + 1).toNatClampNeg) (xs (nI (6 * j) + 2).toNatClampNeg) σm _ ⟨(rr, σm1), h2, _, rfl, ?_⟩)
  refine PL_icmp_eq (pc' := 731) (tgt := 1487) (pw_dk dc_L3 52 rfl) rfl (by decide) (fun c1 => ?_) (fun c1 => absurd rfl c1)
  exact cont σc1 σm1 hI1
theorem cs_go {V : zS → zS → Prop} (hop : op_go V) {L : Nat} {xs : Nat → Int32} {j k n : Nat} {w : Int64} {σc σm : zS} (hj : 6 * j + 6 ≤ L) (hL : L ≤ 3072) (hk : k ≤ 601024) (hn : n ≤ 7293034) (hI : V σc σm) (cont : ∀ σc1 σm1, V σc1 σm1 → PL L xs 1487 [(0, .ref 9500), (1, .ref 100), (2, .ref 5000), (3, .ref 8000), (4, .int (nI (6 * j)))] [] alL k n (lw_st σc1 σm1 w)) : PL L xs 733 [(0, .ref 9500), (1, .ref 100), (2, .ref 5000), (3, .ref 8000), (4, .int (nI (6 * j)))] [] alL k n (lw_st σc σm w) := by
  obtain ⟨rr, σc1, σm1, h1, h2, hI1⟩ := hop (xs (nI (6 * j) + 1).toNatClampNeg) σc σm hI
  refine PL_aload_n (pc' := 734) (q := 1) (pw_dk dc_L3 55 rfl) rfl rfl rfl ?_
  refine PL_aload_n (pc' := 735) (q := 0) (pw_dk dc_L3 56 rfl) rfl rfl rfl ?_
  refine PL_iload (pc' := 737) (q := 4) (pw_dk dc_L3 57 rfl) rfl rfl ?_
  refine PL_iconst (pc' := 738) (v := 1) (pw_dk dc_L3 58 rfl) rfl (by decide) ?_
  refine PL_iadd (pc' := 739) (pw_dk dc_L3 59 rfl) rfl ?_
  refine PL_sld (pc' := 740) (pw_dk dc_L3 60 rfl) rfl (lw_in hj hL (by decide)) ?_
  refine PL_cCi (pc' := 743) (y := yX11_go) (M' := mX11_go) (d' := 7) (As := [.int (xs (nI (6 * j) + 1).toNatClampNeg)]) (st := []) rfl tw_1016 tw_1017 (pw_dk dc_L3 61 rfl) rfl Y_X11_go tw_1015 rfl (by decide) (Nat.le_of_ble_eq_true rfl) ⟨hk, hn⟩ (t_X11_go (xs (nI (6 * j) + 1).toNatClampNeg) σc _ ⟨(rr, σc1), h1, _, rfl, ?_⟩)
  refine PL_aload_n (pc' := 744) (q := 2) (pw_dk dc_L3 62 rfl) rfl rfl rfl ?_
  refine PL_aload_n (pc' := 745) (q := 0) (pw_dk dc_L3 63 rfl) rfl rfl rfl ?_
  refine PL_iload (pc' := 747) (q := 4) (pw_dk dc_L3 64 rfl) rfl rfl ?_
  refine PL_iconst (pc' := 748) (v := 1) (pw_dk dc_L3 65 rfl) rfl (by decide) ?_
  refine PL_iadd (pc' := 749) (pw_dk dc_L3 66 rfl) rfl ?_
  refine PL_sld (pc' := 750) (pw_dk dc_L3 67 rfl) rfl (lw_in hj hL (by decide)) ?_
  refine PL_cMi (pc' := 753) (y := yX12_go) (M' := mX12_go) (d' := 7) (As := [.int (xs (nI (6 * j) + 1).toNatClampNeg)]) (st := [.int rr]) rfl tw_1857 tw_1858 (pw_dk dc_L3 68 rfl) rfl Y_X12_go tw_1856 rfl (by decide) (Nat.le_of_ble_eq_true rfl) ⟨hk, hn⟩ (t_X12_go (xs (nI (6 * j) + 1).toNatClampNeg) σm _ ⟨(rr, σm1), h2, _, rfl, ?_⟩)
  refine PL_icmp_eq (pc' := 756) (tgt := 1487) (pw_dk dc_L3 69 rfl) rfl (by decide) (fun c1 => ?_) (fun c1 => absurd rfl c1)
  exact cont σc1 σm1 hI1
theorem cs_fewest {V : zS → zS → Prop} (hop : op_fewest V) {L : Nat} {xs : Nat → Int32} {j k n : Nat} {w : Int64} {σc σm : zS} (hj : 6 * j + 6 ≤ L) (hL : L ≤ 3072) (hk : k ≤ 601024) (hn : n ≤ 7293034) (hI : V σc σm) (cont : ∀ σc1 σm1, V σc1 σm1 → PL L xs 1487 [(0, .ref 9500), (1, .ref 100), (2, .ref 5000), (3, .ref 8000), (4, .int (nI (6 * j)))] [] alL k n (lw_st σc1 σm1 w)) : PL L xs 758 [(0, .ref 9500), (1, .ref 100), (2, .ref 5000), (3, .ref 8000), (4, .int (nI (6 * j)))] [] alL k n (lw_st σc σm w) := by
  obtain ⟨rr, σc1, σm1, h1, h2, hI1⟩ := hop (xs (nI (6 * j) + 1).toNatClampNeg) (xs (nI (6 * j) + 2).toNatClampNeg) (xs (nI (6 * j) + 3).toNatClampNeg) σc σm hI
  refine PL_aload_n (pc' := 759) (q := 1) (pw_dk dc_L3 72 rfl) rfl rfl rfl ?_
  refine PL_aload_n (pc' := 760) (q := 0) (pw_dk dc_L3 73 rfl) rfl rfl rfl ?_
  refine PL_iload (pc' := 762) (q := 4) (pw_dk dc_L3 74 rfl) rfl rfl ?_
  refine PL_iconst (pc' := 763) (v := 1) (pw_dk dc_L3 75 rfl) rfl (by decide) ?_
  refine PL_iadd (pc' := 764) (pw_dk dc_L3 76 rfl) rfl ?_
  refine PL_sld (pc' := 765) (pw_dk dc_L3 77 rfl) rfl (lw_in hj hL (by decide)) ?_
  refine PL_aload_n (pc' := 766) (q := 0) (pw_dk dc_L3 78 rfl) rfl rfl rfl ?_
  refine PL_iload (pc' := 768) (q := 4) (pw_dk dc_L3 79 rfl) rfl rfl ?_
  refine PL_iconst (pc' := 769) (v := 2) (pw_dk dc_L3 80 rfl) rfl (by decide) ?_
  refine PL_iadd (pc' := 770) (pw_dk dc_L3 81 rfl) rfl ?_
  refine PL_sld (pc' := 771) (pw_dk dc_L3 82 rfl) rfl (lw_in hj hL (by decide)) ?_
  refine PL_aload_n (pc' := 772) (q := 0) (pw_dk dc_L3 83 rfl) rfl rfl rfl ?_
  refine PL_iload (pc' := 774) (q := 4) (pw_dk dc_L3 84 rfl) rfl rfl ?_
  refine PL_iconst (pc' := 775) (v := 3) (pw_dk dc_L3 85 rfl) rfl (by decide) ?_
  refine PL_iadd (pc' := 776) (pw_dk dc_L3 86 rfl) rfl ?_
  refine PL_sld (pc' := 777) (pw_dk dc_L3 87 rfl) rfl (lw_in hj hL (by decide)) ?_
  refine PL_cCi (pc' := 780) (y := yX11_fewest) (M' := mX11_fewest) (d' := 7) (As := [.int (xs (nI (6 * j) + 1).toNatClampNeg), .int (xs (nI (6 * j) + 2).toNatClampNeg), .int (xs (nI (6 * j) + 3).toNatClampNeg)]) (st := []) rfl tw_1046 tw_1047 (pw_dk dc_L3 88 rfl) rfl Y_X11_fewest tw_1045 rfl (by decide) (Nat.le_of_ble_eq_true rfl) ⟨hk, hn⟩ (t_X11_fewest (xs (nI (6 * j) + 1).toNatClampNeg) (xs (nI (6 * j) + 2).toNatClampNeg) (xs (nI (6 * j) + 3).toNatClampNeg) σc _ ⟨(rr, σc1), h1, _, rfl, ?_⟩)
  refine PL_aload_n (pc' := 781) (q := 2) (pw_dk dc_L3 89 rfl) rfl rfl rfl ?_
  refine PL_aload_n (pc' := 782) (q := 0) (pw_dk dc_L3 90 rfl) rfl rfl rfl ?_
  refine PL_iload (pc' := 784) (q := 4) (pw_dk dc_L3 91 rfl) rfl rfl ?_
  refine PL_iconst (pc' := 785) (v := 1) (pw_dk dc_L3 92 rfl) rfl (by decide) ?_
  refine PL_iadd (pc' := 786) (pw_dk dc_L3 93 rfl) rfl ?_
  refine PL_sld (pc' := 787) (pw_dk dc_L3 94 rfl) rfl (lw_in hj hL (by decide)) ?_
  refine PL_aload_n (pc' := 788) (q := 0) (pw_dk dc_L3 95 rfl) rfl rfl rfl ?_
  refine PL_iload (pc' := 790) (q := 4) (pw_dk dc_L3 96 rfl) rfl rfl ?_
  refine PL_iconst (pc' := 791) (v := 2) (pw_dk dc_L3 97 rfl) rfl (by decide) ?_
  refine PL_iadd (pc' := 792) (pw_dk dc_L3 98 rfl) rfl ?_
  refine PL_sld (pc' := 793) (pw_dk dc_L3 99 rfl) rfl (lw_in hj hL (by decide)) ?_
  refine PL_aload_n (pc' := 794) (q := 0) (pw_dk dc_L3 100 rfl) rfl rfl rfl ?_
  refine PL_iload (pc' := 796) (q := 4) (pw_dk dc_L3 101 rfl) rfl rfl ?_
  refine PL_iconst (pc' := 797) (v := 3) (pw_dk dc_L3 102 rfl) rfl (by decide) ?_
  refine PL_iadd (pc' := 798) (pw_dk dc_L3 103 rfl) rfl ?_
  refine PL_sld (pc' := 799) (pw_dk dc_L3 104 rfl) rfl (lw_in hj hL (by decide)) ?_
  refine PL_cMi (pc' := 802) (y := yX12_fewest) (M' := mX12_fewest) (d' := 6) (As := [.int (xs (nI (6 * j) + 1).toNatClampNeg), .int (xs (nI (6 * j) + 2).toNatClampNeg), .int (xs (nI (6 * j) + 3).toNatClampNeg)]) (st := [.int rr]) rfl tw_1876 tw_1877 (pw_dk dc_L3 105 rfl) rfl Y_X12_fewest tw_1875 rfl (by decide) (Nat.le_of_ble_eq_true rfl) ⟨hk, hn⟩ (t_X12_fewest (xs (nI (6 * j) + 1).toNatClampNeg) (xs (nI (6 * j) + 2).toNatClampNeg) (xs (nI (6 * j) + 3).toNatClampNeg) σm _ ⟨(rr, σm1), h2, _, rfl, ?_⟩)
  refine PL_icmp_eq (pc' := 805) (tgt := 1487) (pw_dk dc_L3 106 rfl) rfl (by decide) (fun c1 => ?_) (fun c1 => absurd rfl c1)
  exact cont σc1 σm1 hI1
theorem cs_way {V : zS → zS → Prop} (hop : op_way V) {L : Nat} {xs : Nat → Int32} {j k n : Nat} {w : Int64} {σc σm : zS} (hj : 6 * j + 6 ≤ L) (hL : L ≤ 3072) (hk : k ≤ 601024) (hn : n ≤ 7293034) (hI : V σc σm) (cont : ∀ σc1 σm1, V σc1 σm1 → PL L xs 1487 [(0, .ref 9500), (1, .ref 100), (2, .ref 5000), (3, .ref 8000), (4, .int (nI (6 * j)))] [] alL k n (lw_st σc1 σm1 w)) : PL L xs 807 [(0, .ref 9500), (1, .ref 100), (2, .ref 5000), (3, .ref 8000), (4, .int (nI (6 * j)))] [] alL k n (lw_st σc σm w) := by
  obtain ⟨rr, σc1, σm1, h1, h2, hI1⟩ := hop (xs (nI (6 * j) + 1).toNatClampNeg) (xs (nI (6 * j) + 2).toNatClampNeg) (xs (nI (6 * j) + 3).toNatClampNeg) (xs (nI (6 * j) + 4).toNatClampNeg) σc σm hI
  refine PL_aload_n (pc' := 808) (q := 1) (pw_dk dc_L3 109 rfl) rfl rfl rfl ?_
  refine PL_aload_n (pc' := 809) (q := 0) (pw_dk dc_L3 110 rfl) rfl rfl rfl ?_
  refine PL_iload (pc' := 811) (q := 4) (pw_dk dc_L3 111 rfl) rfl rfl ?_
  refine PL_iconst (pc' := 812) (v := 1) (pw_dk dc_L3 112 rfl) rfl (by decide) ?_
  refine PL_iadd (pc' := 813) (pw_dk dc_L3 113 rfl) rfl ?_
  refine PL_sld (pc' := 814) (pw_dk dc_L3 114 rfl) rfl (lw_in hj hL (by decide)) ?_
  refine PL_aload_n (pc' := 815) (q := 0) (pw_dk dc_L3 115 rfl) rfl rfl rfl ?_
  refine PL_iload (pc' := 817) (q := 4) (pw_dk dc_L3 116 rfl) rfl rfl ?_
  refine PL_iconst (pc' := 818) (v := 2) (pw_dk dc_L3 117 rfl) rfl (by decide) ?_
  refine PL_iadd (pc' := 819) (pw_dk dc_L3 118 rfl) rfl ?_
  refine PL_sld (pc' := 820) (pw_dk dc_L3 119 rfl) rfl (lw_in hj hL (by decide)) ?_
  refine PL_aload_n (pc' := 821) (q := 0) (pw_dk dc_L4 0 rfl) rfl rfl rfl ?_
  refine PL_iload (pc' := 823) (q := 4) (pw_dk dc_L4 1 rfl) rfl rfl ?_
  refine PL_iconst (pc' := 824) (v := 3) (pw_dk dc_L4 2 rfl) rfl (by decide) ?_
  refine PL_iadd (pc' := 825) (pw_dk dc_L4 3 rfl) rfl ?_
  refine PL_sld (pc' := 826) (pw_dk dc_L4 4 rfl) rfl (lw_in hj hL (by decide)) ?_
  refine PL_aload_n (pc' := 827) (q := 0) (pw_dk dc_L4 5 rfl) rfl rfl rfl ?_
  refine PL_iload (pc' := 829) (q := 4) (pw_dk dc_L4 6 rfl) rfl rfl ?_
  refine PL_iconst (pc' := 830) (v := 4) (pw_dk dc_L4 7 rfl) rfl (by decide) ?_
  refine PL_iadd (pc' := 831) (pw_dk dc_L4 8 rfl) rfl ?_
  refine PL_sld (pc' := 832) (pw_dk dc_L4 9 rfl) rfl (lw_in hj hL (by decide)) ?_
  refine PL_cCi (pc' := 835) (y := yX11_way) (M' := mX11_way) (d' := 7) (As := [.int (xs (nI (6 * j) + 1).toNatClampNeg), .int (xs (nI (6 * j) + 2).toNatClampNeg), .int (xs (nI (6 * j) + 3).toNatClampNeg), .int (xs (nI (6 * j) + 4).toNatClampNeg)]) (st := []) rfl tw_1064 tw_1065 (pw_dk dc_L4 10 rfl) rfl Y_X11_way tw_1063 rfl (by decide) (Nat.le_of_ble_eq_true rfl) ⟨hk, hn⟩ (t_X11_way (xs (nI (6 * j) + 1).toNatClampNeg) (xs (nI (6 * j) + 2).toNatClampNeg) (xs (nI (6 * j) + 3).toNatClampNeg) (xs (nI (6 * j) + 4).toNatClampNeg) σc _ ⟨(rr, σc1), h1, _, rfl, ?_⟩)
  refine PL_aload_n (pc' := 836) (q := 2) (pw_dk dc_L4 11 rfl) rfl rfl rfl ?_
  refine PL_aload_n (pc' := 837) (q := 0) (pw_dk dc_L4 12 rfl) rfl rfl rfl ?_
  refine PL_iload (pc' := 839) (q := 4) (pw_dk dc_L4 13 rfl) rfl rfl ?_
  refine PL_iconst (pc' := 840) (v := 1) (pw_dk dc_L4 14 rfl) rfl (by decide) ?_
  refine PL_iadd (pc' := 841) (pw_dk dc_L4 15 rfl) rfl ?_
  refine PL_sld (pc' := 842) (pw_dk dc_L4 16 rfl) rfl (lw_in hj hL (by decide)) ?_
  refine PL_aload_n (pc' := 843) (q := 0) (pw_dk dc_L4 17 rfl) rfl rfl rfl ?_
  refine PL_iload (pc' := 845) (q := 4) (pw_dk dc_L4 18 rfl) rfl rfl ?_
  refine PL_iconst (pc' := 846) (v := 2) (pw_dk dc_L4 19 rfl) rfl (by decide) ?_
  refine PL_iadd (pc' := 847) (pw_dk dc_L4 20 rfl) rfl ?_
  refine PL_sld (pc' := 848) (pw_dk dc_L4 21 rfl) rfl (lw_in hj hL (by decide)) ?_
  refine PL_aload_n (pc' := 849) (q := 0) (pw_dk dc_L4 22 rfl) rfl rfl rfl ?_
  refine PL_iload (pc' := 851) (q := 4) (pw_dk dc_L4 23 rfl) rfl rfl ?_
  refine PL_iconst (pc' := 852) (v := 3) (pw_dk dc_L4 24 rfl) rfl (by decide) ?_
  refine PL_iadd (pc' := 853) (pw_dk dc_L4 25 rfl) rfl ?_
  refine PL_sld (pc' := 854) (pw_dk dc_L4 26 rfl) rfl (lw_in hj hL (by decide)) ?_
  refine PL_aload_n (pc' := 855) (q := 0) (pw_dk dc_L4 27 rfl) rfl rfl rfl ?_
  refine PL_iload (pc' := 857) (q := 4) (pw_dk dc_L4 28 rfl) rfl rfl ?_
  refine PL_iconst (pc' := 858) (v := 4) (pw_dk dc_L4 29 rfl) rfl (by decide) ?_
  refine PL_iadd (pc' := 859) (pw_dk dc_L4 30 rfl) rfl ?_
  refine PL_sld (pc' := 860) (pw_dk dc_L4 31 rfl) rfl (lw_in hj hL (by decide)) ?_
  refine PL_cMi (pc' := 863) (y := yX12_way) (M' := mX12_way) (d' := 6) (As := [.int (xs (nI (6 * j) + 1).toNatClampNeg), .int (xs (nI (6 * j) + 2).toNatClampNeg), .int (xs (nI (6 * j) + 3).toNatClampNeg), .int (xs (nI (6 * j) + 4).toNatClampNeg)]) (st := [.int rr]) rfl tw_1900 tw_1901 (pw_dk dc_L4 32 rfl) rfl Y_X12_way tw_1899 rfl (by decide) (Nat.le_of_ble_eq_true rfl) ⟨hk, hn⟩ (t_X12_way (xs (nI (6 * j) + 1).toNatClampNeg) (xs (nI (6 * j) + 2).toNatClampNeg) (xs (nI (6 * j) + 3).toNatClampNeg) (xs (nI (6 * j) + 4).toNatClampNeg) σm _ ⟨(rr, σm1), h2, _, rfl, ?_⟩)
  refine PL_icmp_eq (pc' := 866) (tgt := 1487) (pw_dk dc_L4 33 rfl) rfl (by decide) (fun c1 => ?_) (fun c1 => absurd rfl c1)
  exact cont σc1 σm1 hI1
theorem cs_joint {V : zS → zS → Prop} (hop : op_joint V) {L : Nat} {xs : Nat → Int32} {j k n : Nat} {w : Int64} {σc σm : zS} (hj : 6 * j + 6 ≤ L) (hL : L ≤ 3072) (hk : k ≤ 601024) (hn : n ≤ 7293034) (hI : V σc σm) (cont : ∀ σc1 σm1, V σc1 σm1 → PL L xs 1487 [(0, .ref 9500), (1, .ref 100), (2, .ref 5000), (3, .ref 8000), (4, .int (nI (6 * j)))] [] alL k n (lw_st σc1 σm1 w)) : PL L xs 868 [(0, .ref 9500), (1, .ref 100), (2, .ref 5000), (3, .ref 8000), (4, .int (nI (6 * j)))] [] alL k n (lw_st σc σm w) := by
  obtain ⟨rr, σc1, σm1, h1, h2, hI1⟩ := hop (xs (nI (6 * j) + 1).toNatClampNeg) (xs (nI (6 * j) + 2).toNatClampNeg) (xs (nI (6 * j) + 3).toNatClampNeg) (xs (nI (6 * j) + 4).toNatClampNeg) (xs (nI (6 * j) + 5).toNatClampNeg) σc σm hI
  refine PL_aload_n (pc' := 869) (q := 1) (pw_dk dc_L4 36 rfl) rfl rfl rfl ?_
  refine PL_aload_n (pc' := 870) (q := 0) (pw_dk dc_L4 37 rfl) rfl rfl rfl ?_
  refine PL_iload (pc' := 872) (q := 4) (pw_dk dc_L4 38 rfl) rfl rfl ?_
  refine PL_iconst (pc' := 873) (v := 1) (pw_dk dc_L4 39 rfl) rfl (by decide) ?_
  refine PL_iadd (pc' := 874) (pw_dk dc_L4 40 rfl) rfl ?_
  refine PL_sld (pc' := 875) (pw_dk dc_L4 41 rfl) rfl (lw_in hj hL (by decide)) ?_
  refine PL_aload_n (pc' := 876) (q := 0) (pw_dk dc_L4 42 rfl) rfl rfl rfl ?_
  refine PL_iload (pc' := 878) (q := 4) (pw_dk dc_L4 43 rfl) rfl rfl ?_
  refine PL_iconst (pc' := 879) (v := 2) (pw_dk dc_L4 44 rfl) rfl (by decide) ?_
  refine PL_iadd (pc' := 880) (pw_dk dc_L4 45 rfl) rfl ?_
  refine PL_sld (pc' := 881) (pw_dk dc_L4 46 rfl) rfl (lw_in hj hL (by decide)) ?_
  refine PL_aload_n (pc' := 882) (q := 0) (pw_dk dc_L4 47 rfl) rfl rfl rfl ?_
  refine PL_iload (pc' := 884) (q := 4) (pw_dk dc_L4 48 rfl) rfl rfl ?_
  refine PL_iconst (pc' := 885) (v := 3) (pw_dk dc_L4 49 rfl) rfl (by decide) ?_
  refine PL_iadd (pc' := 886) (pw_dk dc_L4 50 rfl) rfl ?_
  refine PL_sld (pc' := 887) (pw_dk dc_L4 51 rfl) rfl (lw_in hj hL (by decide)) ?_
  refine PL_aload_n (pc' := 888) (q := 0) (pw_dk dc_L4 52 rfl) rfl rfl rfl ?_
  refine PL_iload (pc' := 890) (q := 4) (pw_dk dc_L4 53 rfl) rfl rfl ?_
  refine PL_iconst (pc' := 891) (v := 4) (pw_dk dc_L4 54 rfl) rfl (by decide) ?_
  refine PL_iadd (pc' := 892) (pw_dk dc_L4 55 rfl) rfl ?_
  refine PL_sld (pc' := 893) (pw_dk dc_L4 56 rfl) rfl (lw_in hj hL (by decide)) ?_
  refine PL_aload_n (pc' := 894) (q := 0) (pw_dk dc_L4 57 rfl) rfl rfl rfl ?_
  refine PL_iload (pc' := 896) (q := 4) (pw_dk dc_L4 58 rfl) rfl rfl ?_
  refine PL_iconst (pc' := 897) (v := 5) (pw_dk dc_L4 59 rfl) rfl (by decide) ?_
  refine PL_iadd (pc' := 898) (pw_dk dc_L4 60 rfl) rfl ?_
  refine PL_sld (pc' := 899) (pw_dk dc_L4 61 rfl) rfl (lw_in hj hL (by decide)) ?_
  refine PL_cCi (pc' := 902) (y := yX11_joint) (M' := mX11_joint) (d' := 7) (As := [.int (xs (nI (6 * j) + 1).toNatClampNeg), .int (xs (nI (6 * j) + 2).toNatClampNeg), .int (xs (nI (6 * j) + 3).toNatClampNeg), .int (xs (nI (6 * j) + 4).toNatClampNeg), .int (xs (nI (6 * j) + 5).toNatClampNeg)]) (st := []) rfl tw_1072 tw_1073 (pw_dk dc_L4 62 rfl) rfl Y_X11_joint tw_1071 rfl (by decide) (Nat.le_of_ble_eq_true rfl) ⟨hk, hn⟩ (t_X11_joint (xs (nI (6 * j) + 1).toNatClampNeg) (xs (nI (6 * j) + 2).toNatClampNeg) (xs (nI (6 * j) + 3).toNatClampNeg) (xs (nI (6 * j) + 4).toNatClampNeg) (xs (nI (6 * j) + 5).toNatClampNeg) σc _ ⟨(rr, σc1), h1, _, rfl, ?_⟩)
  refine PL_aload_n (pc' := 903) (q := 2) (pw_dk dc_L4 63 rfl) rfl rfl rfl ?_
  refine PL_aload_n (pc' := 904) (q := 0) (pw_dk dc_L4 64 rfl) rfl rfl rfl ?_
  refine PL_iload (pc' := 906) (q := 4) (pw_dk dc_L4 65 rfl) rfl rfl ?_
  refine PL_iconst (pc' := 907) (v := 1) (pw_dk dc_L4 66 rfl) rfl (by decide) ?_
  refine PL_iadd (pc' := 908) (pw_dk dc_L4 67 rfl) rfl ?_
  refine PL_sld (pc' := 909) (pw_dk dc_L4 68 rfl) rfl (lw_in hj hL (by decide)) ?_
  refine PL_aload_n (pc' := 910) (q := 0) (pw_dk dc_L4 69 rfl) rfl rfl rfl ?_
  refine PL_iload (pc' := 912) (q := 4) (pw_dk dc_L4 70 rfl) rfl rfl ?_
  refine PL_iconst (pc' := 913) (v := 2) (pw_dk dc_L4 71 rfl) rfl (by decide) ?_
  refine PL_iadd (pc' := 914) (pw_dk dc_L4 72 rfl) rfl ?_
  refine PL_sld (pc' := 915) (pw_dk dc_L4 73 rfl) rfl (lw_in hj hL (by decide)) ?_
  refine PL_aload_n (pc' := 916) (q := 0) (pw_dk dc_L4 74 rfl) rfl rfl rfl ?_
  refine PL_iload (pc' := 918) (q := 4) (pw_dk dc_L4 75 rfl) rfl rfl ?_
  refine PL_iconst (pc' := 919) (v := 3) (pw_dk dc_L4 76 rfl) rfl (by decide) ?_
  refine PL_iadd (pc' := 920) (pw_dk dc_L4 77 rfl) rfl ?_
  refine PL_sld (pc' := 921) (pw_dk dc_L4 78 rfl) rfl (lw_in hj hL (by decide)) ?_
  refine PL_aload_n (pc' := 922) (q := 0) (pw_dk dc_L4 79 rfl) rfl rfl rfl ?_
  refine PL_iload (pc' := 924) (q := 4) (pw_dk dc_L4 80 rfl) rfl rfl ?_
  refine PL_iconst (pc' := 925) (v := 4) (pw_dk dc_L4 81 rfl) rfl (by decide) ?_
  refine PL_iadd (pc' := 926) (pw_dk dc_L4 82 rfl) rfl ?_
  refine PL_sld (pc' := 927) (pw_dk dc_L4 83 rfl) rfl (lw_in hj hL (by decide)) ?_
  refine PL_aload_n (pc' := 928) (q := 0) (pw_dk dc_L4 84 rfl) rfl rfl rfl ?_
  refine PL_iload (pc' := 930) (q := 4) (pw_dk dc_L4 85 rfl) rfl rfl ?_
  refine PL_iconst (pc' := 931) (v := 5) (pw_dk dc_L4 86 rfl) rfl (by decide) ?_
  refine PL_iadd (pc' := 932) (pw_dk dc_L4 87 rfl) rfl ?_
  refine PL_sld (pc' := 933) (pw_dk dc_L4 88 rfl) rfl (lw_in hj hL (by decide)) ?_
  refine PL_cMi (pc' := 936) (y := yX12_joint) (M' := mX12_joint) (d' := 6) (As := [.int (xs (nI (6 * j) + 1).toNatClampNeg), .int (xs (nI (6 * j) + 2).toNatClampNeg), .int (xs (nI (6 * j) + 3).toNatClampNeg), .int (xs (nI (6 * j) + 4).toNatClampNeg), .int (xs (nI (6 * j) + 5).toNatClampNeg)]) (st := [.int rr]) rfl tw_1904 tw_1905 (pw_dk dc_L4 89 rfl) rfl Y_X12_joint tw_1903 rfl (by decide) (Nat.le_of_ble_eq_true rfl) ⟨hk, hn⟩ (t_X12_joint (xs (nI (6 * j) + 1).toNatClampNeg) (xs (nI (6 * j) + 2).toNatClampNeg) (xs (nI (6 * j) + 3).toNatClampNeg) (xs (nI (6 * j) + 4).toNatClampNeg) (xs (nI (6 * j) + 5).toNatClampNeg) σm _ ⟨(rr, σm1), h2, _, rfl, ?_⟩)
  refine PL_icmp_eq (pc' := 939) (tgt := 1487) (pw_dk dc_L4 90 rfl) rfl (by decide) (fun c1 => ?_) (fun c1 => absurd rfl c1)
  exact cont σc1 σm1 hI1
theorem cs_stands {V : zS → zS → Prop} (hop : op_stands V) {L : Nat} {xs : Nat → Int32} {j k n : Nat} {w : Int64} {σc σm : zS} (hj : 6 * j + 6 ≤ L) (hL : L ≤ 3072) (hk : k ≤ 601024) (hn : n ≤ 7293034) (hI : V σc σm) (cont : ∀ σc1 σm1, V σc1 σm1 → PL L xs 1487 [(0, .ref 9500), (1, .ref 100), (2, .ref 5000), (3, .ref 8000), (4, .int (nI (6 * j)))] [] alL k n (lw_st σc1 σm1 w)) : PL L xs 941 [(0, .ref 9500), (1, .ref 100), (2, .ref 5000), (3, .ref 8000), (4, .int (nI (6 * j)))] [] alL k n (lw_st σc σm w) := by
  obtain ⟨rr, σc1, σm1, h1, h2, hI1⟩ := hop (xs (nI (6 * j) + 1).toNatClampNeg) σc σm hI
  refine PL_aload_n (pc' := 942) (q := 1) (pw_dk dc_L4 93 rfl) rfl rfl rfl ?_
  refine PL_aload_n (pc' := 943) (q := 0) (pw_dk dc_L4 94 rfl) rfl rfl rfl ?_
  refine PL_iload (pc' := 945) (q := 4) (pw_dk dc_L4 95 rfl) rfl rfl ?_
  refine PL_iconst (pc' := 946) (v := 1) (pw_dk dc_L4 96 rfl) rfl (by decide) ?_
  refine PL_iadd (pc' := 947) (pw_dk dc_L4 97 rfl) rfl ?_
  refine PL_sld (pc' := 948) (pw_dk dc_L4 98 rfl) rfl (lw_in hj hL (by decide)) ?_
  refine PL_cCi (pc' := 951) (y := yX11_stands) (M' := mX11_stands) (d' := 6) (As := [.int (xs (nI (6 * j) + 1).toNatClampNeg)]) (st := []) rfl tw_1086 tw_1087 (pw_dk dc_L4 99 rfl) rfl Y_X11_stands tw_1085 rfl (by decide) (Nat.le_of_ble_eq_true rfl) ⟨hk, hn⟩ (t_X11_stands (xs (nI (6 * j) + 1).toNatClampNeg) σc _ ⟨rr, h1.1, _, rfl, ?_⟩)
  rw [← h1.2]
  refine PL_aload_n (pc' := 952) (q := 2) (pw_dk dc_L4 100 rfl) rfl rfl rfl ?_
  refine PL_aload_n (pc' := 953) (q := 0) (pw_dk dc_L4 101 rfl) rfl rfl rfl ?_
  refine PL_iload (pc' := 955) (q := 4) (pw_dk dc_L4 102 rfl) rfl rfl ?_
  refine PL_iconst (pc' := 956) (v := 1) (pw_dk dc_L4 103 rfl) rfl (by decide) ?_
  refine PL_iadd (pc' := 957) (pw_dk dc_L4 104 rfl) rfl ?_
  refine PL_sld (pc' := 958) (pw_dk dc_L4 105 rfl) rfl (lw_in hj hL (by decide)) ?_
  refine PL_cMi (pc' := 961) (y := yX12_stands) (M' := mX12_stands) (d' := 5) (As := [.int (xs (nI (6 * j) + 1).toNatClampNeg)]) (st := [.int rr]) rfl tw_1915 tw_1916 (pw_dk dc_L4 106 rfl) rfl Y_X12_stands tw_1914 rfl (by decide) (Nat.le_of_ble_eq_true rfl) ⟨hk, hn⟩ (t_X12_stands (xs (nI (6 * j) + 1).toNatClampNeg) σm _ ⟨(rr, σm1), h2, _, rfl, ?_⟩)
  refine PL_icmp_eq (pc' := 964) (tgt := 1487) (pw_dk dc_L4 107 rfl) rfl (by decide) (fun c1 => ?_) (fun c1 => absurd rfl c1)
  exact cont σc1 σm1 hI1
theorem cs_match {V : zS → zS → Prop} (hop : op_match V) {L : Nat} {xs : Nat → Int32} {j k n : Nat} {w : Int64} {σc σm : zS} (hj : 6 * j + 6 ≤ L) (hL : L ≤ 3072) (hk : k ≤ 601024) (hn : n ≤ 7293034) (hI : V σc σm) (cont : ∀ σc1 σm1, V σc1 σm1 → PL L xs 1487 [(0, .ref 9500), (1, .ref 100), (2, .ref 5000), (3, .ref 8000), (4, .int (nI (6 * j)))] [] alL k n (lw_st σc1 σm1 w)) : PL L xs 966 [(0, .ref 9500), (1, .ref 100), (2, .ref 5000), (3, .ref 8000), (4, .int (nI (6 * j)))] [] alL k n (lw_st σc σm w) := by
  obtain ⟨rr, σc1, σm1, h1, h2, hI1⟩ := hop (xs (nI (6 * j) + 1).toNatClampNeg) σc σm hI
  refine PL_aload_n (pc' := 967) (q := 1) (pw_dk dc_L4 110 rfl) rfl rfl rfl ?_
  refine PL_aload_n (pc' := 968) (q := 0) (pw_dk dc_L4 111 rfl) rfl rfl rfl ?_
  refine PL_iload (pc' := 970) (q := 4) (pw_dk dc_L4 112 rfl) rfl rfl ?_
  refine PL_iconst (pc' := 971) (v := 1) (pw_dk dc_L4 113 rfl) rfl (by decide) ?_
  refine PL_iadd (pc' := 972) (pw_dk dc_L4 114 rfl) rfl ?_
  refine PL_sld (pc' := 973) (pw_dk dc_L4 115 rfl) rfl (lw_in hj hL (by decide)) ?_
  refine PL_cCi (pc' := 976) (y := yX11_match) (M' := mX11_match) (d' := 6) (As := [.int (xs (nI (6 * j) + 1).toNatClampNeg)]) (st := []) rfl tw_1102 tw_1103 (pw_dk dc_L4 116 rfl) rfl Y_X11_match tw_1101 rfl (by decide) (Nat.le_of_ble_eq_true rfl) ⟨hk, hn⟩ (t_X11_match (xs (nI (6 * j) + 1).toNatClampNeg) σc _ ⟨rr, h1.1, _, rfl, ?_⟩)
  rw [← h1.2]
  refine PL_aload_n (pc' := 977) (q := 2) (pw_dk dc_L4 117 rfl) rfl rfl rfl ?_
  refine PL_aload_n (pc' := 978) (q := 0) (pw_dk dc_L4 118 rfl) rfl rfl rfl ?_
  refine PL_iload (pc' := 980) (q := 4) (pw_dk dc_L4 119 rfl) rfl rfl ?_
  refine PL_iconst (pc' := 981) (v := 1) (pw_dk dc_L5 0 rfl) rfl (by decide) ?_
  refine PL_iadd (pc' := 982) (pw_dk dc_L5 1 rfl) rfl ?_
  refine PL_sld (pc' := 983) (pw_dk dc_L5 2 rfl) rfl (lw_in hj hL (by decide)) ?_
  refine PL_cMi (pc' := 986) (y := yX12_match) (M' := mX12_match) (d' := 5) (As := [.int (xs (nI (6 * j) + 1).toNatClampNeg)]) (st := [.int rr]) rfl tw_1927 tw_1928 (pw_dk dc_L5 3 rfl) rfl Y_X12_match tw_1926 rfl (by decide) (Nat.le_of_ble_eq_true rfl) ⟨hk, hn⟩ (t_X12_match (xs (nI (6 * j) + 1).toNatClampNeg) σm _ ⟨(rr, σm1), h2, _, rfl, ?_⟩)
  refine PL_icmp_eq (pc' := 989) (tgt := 1487) (pw_dk dc_L5 4 rfl) rfl (by decide) (fun c1 => ?_) (fun c1 => absurd rfl c1)
  exact cont σc1 σm1 hI1
theorem cs_loopholes {V : zS → zS → Prop} (hop : op_loopholes V) {L : Nat} {xs : Nat → Int32} {j k n : Nat} {w : Int64} {σc σm : zS} (hj : 6 * j + 6 ≤ L) (hL : L ≤ 3072) (hk : k ≤ 601024) (hn : n ≤ 7293034) (hI : V σc σm) (cont : ∀ σc1 σm1, V σc1 σm1 → PL L xs 1487 [(0, .ref 9500), (1, .ref 100), (2, .ref 5000), (3, .ref 8000), (4, .int (nI (6 * j)))] [] alL k n (lw_st σc1 σm1 w)) : PL L xs 991 [(0, .ref 9500), (1, .ref 100), (2, .ref 5000), (3, .ref 8000), (4, .int (nI (6 * j)))] [] alL k n (lw_st σc σm w) := by
  obtain ⟨rr, σc1, σm1, h1, h2, hI1⟩ := hop (xs (nI (6 * j) + 1).toNatClampNeg) (xs (nI (6 * j) + 2).toNatClampNeg) σc σm hI
  refine PL_aload_n (pc' := 992) (q := 1) (pw_dk dc_L5 7 rfl) rfl rfl rfl ?_
  refine PL_aload_n (pc' := 993) (q := 0) (pw_dk dc_L5 8 rfl) rfl rfl rfl ?_
  refine PL_iload (pc' := 995) (q := 4) (pw_dk dc_L5 9 rfl) rfl rfl ?_
  refine PL_iconst (pc' := 996) (v := 1) (pw_dk dc_L5 10 rfl) rfl (by decide) ?_
  refine PL_iadd (pc' := 997) (pw_dk dc_L5 11 rfl) rfl ?_
  refine PL_sld (pc' := 998) (pw_dk dc_L5 12 rfl) rfl (lw_in hj hL (by decide)) ?_
  refine PL_aload_n (pc' := 999) (q := 0) (pw_dk dc_L5 13 rfl) rfl rfl rfl ?_
  refine PL_iload (pc' := 1001) (q := 4) (pw_dk dc_L5 14 rfl) rfl rfl ?_
  refine PL_iconst (pc' := 1002) (v := 2) (pw_dk dc_L5 15 rfl) rfl (by decide) ?_
  refine PL_iadd (pc' := 1003) (pw_dk dc_L5 16 rfl) rfl ?_
  refine PL_sld (pc' := 1004) (pw_dk dc_L5 17 rfl) rfl (lw_in hj hL (by decide)) ?_
  refine PL_cCi (pc' := 1007) (y := yX11_loopholes) (M' := mX11_loopholes) (d' := 8) (As := [.int (xs (nI (6 * j) + 1).toNatClampNeg), .int (xs (nI (6 * j) + 2).toNatClampNeg)]) (st := []) rfl tw_1116 tw_1117 (pw_dk dc_L5 18 rfl) rfl Y_X11_loopholes tw_1115 rfl (by decide) (Nat.le_of_ble_eq_true rfl) ⟨hk, hn⟩ (t_X11_loopholes (xs (nI (6 * j) + 1).toNatClampNeg) (xs (nI (6 * j) + 2).toNatClampNeg) σc _ ⟨(rr, σc1), h1, _, rfl, ?_⟩)
  refine PL_aload_n (pc' := 1008) (q := 2) (pw_dk dc_L5 19 rfl) rfl rfl rfl ?_
  refine PL_aload_n (pc' := 1009) (q := 0) (pw_dk dc_L5 20 rfl) rfl rfl rfl ?_
  refine PL_iload (pc' := 1011) (q := 4) (pw_dk dc_L5 21 rfl) rfl rfl ?_
  refine PL_iconst (pc' := 1012) (v := 1) (pw_dk dc_L5 22 rfl) rfl (by decide) ?_
  refine PL_iadd (pc' := 1013) (pw_dk dc_L5 23 rfl) rfl ?_
  refine PL_sld (pc' := 1014) (pw_dk dc_L5 24 rfl) rfl (lw_in hj hL (by decide)) ?_
  refine PL_aload_n (pc' := 1015) (q := 0) (pw_dk dc_L5 25 rfl) rfl rfl rfl ?_
  refine PL_iload (pc' := 1017) (q := 4) (pw_dk dc_L5 26 rfl) rfl rfl ?_
  refine PL_iconst (pc' := 1018) (v := 2) (pw_dk dc_L5 27 rfl) rfl (by decide) ?_
  refine PL_iadd (pc' := 1019) (pw_dk dc_L5 28 rfl) rfl ?_
  refine PL_sld (pc' := 1020) (pw_dk dc_L5 29 rfl) rfl (lw_in hj hL (by decide)) ?_
  refine PL_cMi (pc' := 1023) (y := yX12_loopholes) (M' := mX12_loopholes) (d' := 6) (As := [.int (xs (nI (6 * j) + 1).toNatClampNeg), .int (xs (nI (6 * j) + 2).toNatClampNeg)]) (st := [.int rr]) rfl tw_1935 tw_1936 (pw_dk dc_L5 30 rfl) rfl Y_X12_loopholes tw_1934 rfl (by decide) (Nat.le_of_ble_eq_true rfl) ⟨hk, hn⟩ (t_X12_loopholes (xs (nI (6 * j) + 1).toNatClampNeg) (xs (nI (6 * j) + 2).toNatClampNeg) σm _ ⟨(rr, σm1), h2, _, rfl, ?_⟩)
  refine PL_icmp_eq (pc' := 1026) (tgt := 1487) (pw_dk dc_L5 31 rfl) rfl (by decide) (fun c1 => ?_) (fun c1 => absurd rfl c1)
  exact cont σc1 σm1 hI1
theorem cs_loophole {V : zS → zS → Prop} (hop : op_loophole V) {L : Nat} {xs : Nat → Int32} {j k n : Nat} {w : Int64} {σc σm : zS} (hj : 6 * j + 6 ≤ L) (hL : L ≤ 3072) (hk : k ≤ 601024) (hn : n ≤ 7293034) (hI : V σc σm) (cont : ∀ σc1 σm1, V σc1 σm1 → PL L xs 1487 [(0, .ref 9500), (1, .ref 100), (2, .ref 5000), (3, .ref 8000), (4, .int (nI (6 * j)))] [] alL k n (lw_st σc1 σm1 w)) : PL L xs 1028 [(0, .ref 9500), (1, .ref 100), (2, .ref 5000), (3, .ref 8000), (4, .int (nI (6 * j)))] [] alL k n (lw_st σc σm w) := by
  obtain ⟨rr, σc1, σm1, h1, h2, hI1⟩ := hop (xs (nI (6 * j) + 1).toNatClampNeg) (xs (nI (6 * j) + 2).toNatClampNeg) (xs (nI (6 * j) + 3).toNatClampNeg) σc σm hI
  refine PL_aload_n (pc' := 1029) (q := 1) (pw_dk dc_L5 34 rfl) rfl rfl rfl ?_
  refine PL_aload_n (pc' := 1030) (q := 0) (pw_dk dc_L5 35 rfl) rfl rfl rfl ?_
  refine PL_iload (pc' := 1032) (q := 4) (pw_dk dc_L5 36 rfl) rfl rfl ?_
  refine PL_iconst (pc' := 1033) (v := 1) (pw_dk dc_L5 37 rfl) rfl (by decide) ?_
  refine PL_iadd (pc' := 1034) (pw_dk dc_L5 38 rfl) rfl ?_
  refine PL_sld (pc' := 1035) (pw_dk dc_L5 39 rfl) rfl (lw_in hj hL (by decide)) ?_
  refine PL_aload_n (pc' := 1036) (q := 0) (pw_dk dc_L5 40 rfl) rfl rfl rfl ?_
  refine PL_iload (pc' := 1038) (q := 4) (pw_dk dc_L5 41 rfl) rfl rfl ?_
  refine PL_iconst (pc' := 1039) (v := 2) (pw_dk dc_L5 42 rfl) rfl (by decide) ?_
  refine PL_iadd (pc' := 1040) (pw_dk dc_L5 43 rfl) rfl ?_
  refine PL_sld (pc' := 1041) (pw_dk dc_L5 44 rfl) rfl (lw_in hj hL (by decide)) ?_
  refine PL_aload_n (pc' := 1042) (q := 0) (pw_dk dc_L5 45 rfl) rfl rfl rfl ?_
  refine PL_iload (pc' := 1044) (q := 4) (pw_dk dc_L5 46 rfl) rfl rfl ?_
  refine PL_iconst (pc' := 1045) (v := 3) (pw_dk dc_L5 47 rfl) rfl (by decide) ?_
  refine PL_iadd (pc' := 1046) (pw_dk dc_L5 48 rfl) rfl ?_
  refine PL_sld (pc' := 1047) (pw_dk dc_L5 49 rfl) rfl (lw_in hj hL (by decide)) ?_
  refine PL_cCi (pc' := 1050) (y := yX11_loophole) (M' := mX11_loophole) (d' := 8) (As := [.int (xs (nI (6 * j) + 1).toNatClampNeg), .int (xs (nI (6 * j) + 2).toNatClampNeg), .int (xs (nI (6 * j) + 3).toNatClampNeg)]) (st := []) rfl tw_1129 tw_1130 (pw_dk dc_L5 50 rfl) rfl Y_X11_loophole tw_1128 rfl (by decide) (Nat.le_of_ble_eq_true rfl) ⟨hk, hn⟩ (t_X11_loophole (xs (nI (6 * j) + 1).toNatClampNeg) (xs (nI (6 * j) + 2).toNatClampNeg) (xs (nI (6 * j) + 3).toNatClampNeg) σc _ ⟨(rr, σc1), h1, _, rfl, ?_⟩)
  refine PL_aload_n (pc' := 1051) (q := 2) (pw_dk dc_L5 51 rfl) rfl rfl rfl ?_
  refine PL_aload_n (pc' := 1052) (q := 0) (pw_dk dc_L5 52 rfl) rfl rfl rfl ?_
  refine PL_iload (pc' := 1054) (q := 4) (pw_dk dc_L5 53 rfl) rfl rfl ?_
  refine PL_iconst (pc' := 1055) (v := 1) (pw_dk dc_L5 54 rfl) rfl (by decide) ?_
  refine PL_iadd (pc' := 1056) (pw_dk dc_L5 55 rfl) rfl ?_
  refine PL_sld (pc' := 1057) (pw_dk dc_L5 56 rfl) rfl (lw_in hj hL (by decide)) ?_
  refine PL_aload_n (pc' := 1058) (q := 0) (pw_dk dc_L5 57 rfl) rfl rfl rfl ?_
  refine PL_iload (pc' := 1060) (q := 4) (pw_dk dc_L5 58 rfl) rfl rfl ?_
  refine PL_iconst (pc' := 1061) (v := 2) (pw_dk dc_L5 59 rfl) rfl (by decide) ?_
  refine PL_iadd (pc' := 1062) (pw_dk dc_L5 60 rfl) rfl ?_
  refine PL_sld (pc' := 1063) (pw_dk dc_L5 61 rfl) rfl (lw_in hj hL (by decide)) ?_
  refine PL_aload_n (pc' := 1064) (q := 0) (pw_dk dc_L5 62 rfl) rfl rfl rfl ?_
  refine PL_iload (pc' := 1066) (q := 4) (pw_dk dc_L5 63 rfl) rfl rfl ?_
  refine PL_iconst (pc' := 1067) (v := 3) (pw_dk dc_L5 64 rfl) rfl (by decide) ?_
  refine PL_iadd (pc' := 1068) (pw_dk dc_L5 65 rfl) rfl ?_
  refine PL_sld (pc' := 1069) (pw_dk dc_L5 66 rfl) rfl (lw_in hj hL (by decide)) ?_
  refine PL_cMi (pc' := 1072) (y := yX12_loophole) (M' := mX12_loophole) (d' := 6) (As := [.int (xs (nI (6 * j) + 1).toNatClampNeg), .int (xs (nI (6 * j) + 2).toNatClampNeg), .int (xs (nI (6 * j) + 3).toNatClampNeg)]) (st := [.int rr]) rfl tw_1947 tw_1948 (pw_dk dc_L5 67 rfl) rfl Y_X12_loophole tw_1946 rfl (by decide) (Nat.le_of_ble_eq_true rfl) ⟨hk, hn⟩ (t_X12_loophole (xs (nI (6 * j) + 1).toNatClampNeg) (xs (nI (6 * j) + 2).toNatClampNeg) (xs (nI (6 * j) + 3).toNatClampNeg) σm _ ⟨(rr, σm1), h2, _, rfl, ?_⟩)
  refine PL_icmp_eq (pc' := 1075) (tgt := 1487) (pw_dk dc_L5 68 rfl) rfl (by decide) (fun c1 => ?_) (fun c1 => absurd rfl c1)
  exact cont σc1 σm1 hI1
theorem cs_shut {V : zS → zS → Prop} (hop : op_shut V) {L : Nat} {xs : Nat → Int32} {j k n : Nat} {w : Int64} {σc σm : zS} (hj : 6 * j + 6 ≤ L) (hL : L ≤ 3072) (hk : k ≤ 601024) (hn : n ≤ 7293034) (hI : V σc σm) (cont : ∀ σc1 σm1, V σc1 σm1 → PL L xs 1487 [(0, .ref 9500), (1, .ref 100), (2, .ref 5000), (3, .ref 8000), (4, .int (nI (6 * j)))] [] alL k n (lw_st σc1 σm1 w)) : PL L xs 1077 [(0, .ref 9500), (1, .ref 100), (2, .ref 5000), (3, .ref 8000), (4, .int (nI (6 * j)))] [] alL k n (lw_st σc σm w) := by
  obtain ⟨rr, σc1, σm1, h1, h2, hI1⟩ := hop (xs (nI (6 * j) + 1).toNatClampNeg) (xs (nI (6 * j) + 2).toNatClampNeg) σc σm hI
  refine PL_aload_n (pc' := 1078) (q := 1) (pw_dk dc_L5 71 rfl) rfl rfl rfl ?_
  refine PL_aload_n (pc' := 1079) (q := 0) (pw_dk dc_L5 72 rfl) rfl rfl rfl ?_
  refine PL_iload (pc' := 1081) (q := 4) (pw_dk dc_L5 73 rfl) rfl rfl ?_
  refine PL_iconst (pc' := 1082) (v := 1) (pw_dk dc_L5 74 rfl) rfl (by decide) ?_
  refine PL_iadd (pc' := 1083) (pw_dk dc_L5 75 rfl) rfl ?_
  refine PL_sld (pc' := 1084) (pw_dk dc_L5 76 rfl) rfl (lw_in hj hL (by decide)) ?_
  refine PL_aload_n (pc' := 1085) (q := 0) (pw_dk dc_L5 77 rfl) rfl rfl rfl ?_
  refine PL_iload (pc' := 1087) (q := 4) (pw_dk dc_L5 78 rfl) rfl rfl ?_
  refine PL_iconst (pc' := 1088) (v := 2) (pw_dk dc_L5 79 rfl) rfl (by decide) ?_
  refine PL_iadd (pc' := 1089) (pw_dk dc_L5 80 rfl) rfl ?_
  refine PL_sld (pc' := 1090) (pw_dk dc_L5 81 rfl) rfl (lw_in hj hL (by decide)) ?_
  refine PL_cCi (pc' := 1093) (y := yX11_shut) (M' := mX11_shut) (d' := 8) (As := [.int (xs (nI (6 * j) + 1).toNatClampNeg), .int (xs (nI (6 * j) + 2).toNatClampNeg)]) (st := []) rfl tw_1133 tw_1134 (pw_dk dc_L5 82 rfl) rfl Y_X11_shut tw_1132 rfl (by decide) (Nat.le_of_ble_eq_true rfl) ⟨hk, hn⟩ (t_X11_shut (xs (nI (6 * j) + 1).toNatClampNeg) (xs (nI (6 * j) + 2).toNatClampNeg) σc _ ⟨(rr, σc1), h1, _, rfl, ?_⟩)
  refine PL_aload_n (pc' := 1094) (q := 2) (pw_dk dc_L5 83 rfl) rfl rfl rfl ?_
  refine PL_aload_n (pc' := 1095) (q := 0) (pw_dk dc_L5 84 rfl) rfl rfl rfl ?_
  refine PL_iload (pc' := 1097) (q := 4) (pw_dk dc_L5 85 rfl) rfl rfl ?_
  refine PL_iconst (pc' := 1098) (v := 1) (pw_dk dc_L5 86 rfl) rfl (by decide) ?_
  refine PL_iadd (pc' := 1099) (pw_dk dc_L5 87 rfl) rfl ?_
  refine PL_sld (pc' := 1100) (pw_dk dc_L5 88 rfl) rfl (lw_in hj hL (by decide)) ?_
  refine PL_aload_n (pc' := 1101) (q := 0) (pw_dk dc_L5 89 rfl) rfl rfl rfl ?_
  refine PL_iload (pc' := 1103) (q := 4) (pw_dk dc_L5 90 rfl) rfl rfl ?_
  refine PL_iconst (pc' := 1104) (v := 2) (pw_dk dc_L5 91 rfl) rfl (by decide) ?_
  refine PL_iadd (pc' := 1105) (pw_dk dc_L5 92 rfl) rfl ?_
  refine PL_sld (pc' := 1106) (pw_dk dc_L5 93 rfl) rfl (lw_in hj hL (by decide)) ?_
  refine PL_cMi (pc' := 1109) (y := yX12_shut) (M' := mX12_shut) (d' := 7) (As := [.int (xs (nI (6 * j) + 1).toNatClampNeg), .int (xs (nI (6 * j) + 2).toNatClampNeg)]) (st := [.int rr]) rfl tw_1951 tw_1952 (pw_dk dc_L5 94 rfl) rfl Y_X12_shut tw_1950 rfl (by decide) (Nat.le_of_ble_eq_true rfl) ⟨hk, hn⟩ (t_X12_shut (xs (nI (6 * j) + 1).toNatClampNeg) (xs (nI (6 * j) + 2).toNatClampNeg) σm _ ⟨(rr, σm1), h2, _, rfl, ?_⟩)
  refine PL_icmp_eq (pc' := 1112) (tgt := 1487) (pw_dk dc_L5 95 rfl) rfl (by decide) (fun c1 => ?_) (fun c1 => absurd rfl c1)
  exact cont σc1 σm1 hI1
theorem cs_rests {V : zS → zS → Prop} (hop : op_rests V) {L : Nat} {xs : Nat → Int32} {j k n : Nat} {w : Int64} {σc σm : zS} (hj : 6 * j + 6 ≤ L) (hL : L ≤ 3072) (hk : k ≤ 601024) (hn : n ≤ 7293034) (hI : V σc σm) (cont : ∀ σc1 σm1, V σc1 σm1 → PL L xs 1487 [(0, .ref 9500), (1, .ref 100), (2, .ref 5000), (3, .ref 8000), (4, .int (nI (6 * j)))] [] alL k n (lw_st σc1 σm1 w)) : PL L xs 1114 [(0, .ref 9500), (1, .ref 100), (2, .ref 5000), (3, .ref 8000), (4, .int (nI (6 * j)))] [] alL k n (lw_st σc σm w) := by
  obtain ⟨rr, σc1, σm1, h1, h2, hI1⟩ := hop (xs (nI (6 * j) + 1).toNatClampNeg) (xs (nI (6 * j) + 2).toNatClampNeg) σc σm hI
  refine PL_aload_n (pc' := 1115) (q := 1) (pw_dk dc_L5 98 rfl) rfl rfl rfl ?_
  refine PL_aload_n (pc' := 1116) (q := 0) (pw_dk dc_L5 99 rfl) rfl rfl rfl ?_
  refine PL_iload (pc' := 1118) (q := 4) (pw_dk dc_L5 100 rfl) rfl rfl ?_
  refine PL_iconst (pc' := 1119) (v := 1) (pw_dk dc_L5 101 rfl) rfl (by decide) ?_
  refine PL_iadd (pc' := 1120) (pw_dk dc_L5 102 rfl) rfl ?_
  refine PL_sld (pc' := 1121) (pw_dk dc_L5 103 rfl) rfl (lw_in hj hL (by decide)) ?_
  refine PL_aload_n (pc' := 1122) (q := 0) (pw_dk dc_L5 104 rfl) rfl rfl rfl ?_
  refine PL_iload (pc' := 1124) (q := 4) (pw_dk dc_L5 105 rfl) rfl rfl ?_
  refine PL_iconst (pc' := 1125) (v := 2) (pw_dk dc_L5 106 rfl) rfl (by decide) ?_
  refine PL_iadd (pc' := 1126) (pw_dk dc_L5 107 rfl) rfl ?_
  refine PL_sld (pc' := 1127) (pw_dk dc_L5 108 rfl) rfl (lw_in hj hL (by decide)) ?_
  refine PL_cCi (pc' := 1130) (y := yX11_rests) (M' := mX11_rests) (d' := 8) (As := [.int (xs (nI (6 * j) + 1).toNatClampNeg), .int (xs (nI (6 * j) + 2).toNatClampNeg)]) (st := []) rfl tw_1141 tw_1142 (pw_dk dc_L5 109 rfl) rfl Y_X11_rests tw_1140 rfl (by decide) (Nat.le_of_ble_eq_true rfl) ⟨hk, hn⟩ (t_X11_rests (xs (nI (6 * j) + 1).toNatClampNeg) (xs (nI (6 * j) + 2).toNatClampNeg) σc _ ⟨(rr, σc1), h1, _, rfl, ?_⟩)
  refine PL_aload_n (pc' := 1131) (q := 2) (pw_dk dc_L5 110 rfl) rfl rfl rfl ?_
  refine PL_aload_n (pc' := 1132) (q := 0) (pw_dk dc_L5 111 rfl) rfl rfl rfl ?_
  refine PL_iload (pc' := 1134) (q := 4) (pw_dk dc_L5 112 rfl) rfl rfl ?_
  refine PL_iconst (pc' := 1135) (v := 1) (pw_dk dc_L5 113 rfl) rfl (by decide) ?_
  refine PL_iadd (pc' := 1136) (pw_dk dc_L5 114 rfl) rfl ?_
  refine PL_sld (pc' := 1137) (pw_dk dc_L5 115 rfl) rfl (lw_in hj hL (by decide)) ?_
  refine PL_aload_n (pc' := 1138) (q := 0) (pw_dk dc_L5 116 rfl) rfl rfl rfl ?_
  refine PL_iload (pc' := 1140) (q := 4) (pw_dk dc_L5 117 rfl) rfl rfl ?_
  refine PL_iconst (pc' := 1141) (v := 2) (pw_dk dc_L5 118 rfl) rfl (by decide) ?_
  refine PL_iadd (pc' := 1142) (pw_dk dc_L5 119 rfl) rfl ?_
  refine PL_sld (pc' := 1143) (pw_dk dc_L6 0 rfl) rfl (lw_in hj hL (by decide)) ?_
  refine PL_cMi (pc' := 1146) (y := yX12_rests) (M' := mX12_rests) (d' := 7) (As := [.int (xs (nI (6 * j) + 1).toNatClampNeg), .int (xs (nI (6 * j) + 2).toNatClampNeg)]) (st := [.int rr]) rfl tw_1962 tw_1963 (pw_dk dc_L6 1 rfl) rfl Y_X12_rests tw_1961 rfl (by decide) (Nat.le_of_ble_eq_true rfl) ⟨hk, hn⟩ (t_X12_rests (xs (nI (6 * j) + 1).toNatClampNeg) (xs (nI (6 * j) + 2).toNatClampNeg) σm _ ⟨(rr, σm1), h2, _, rfl, ?_⟩)
  refine PL_icmp_eq (pc' := 1149) (tgt := 1487) (pw_dk dc_L6 2 rfl) rfl (by decide) (fun c1 => ?_) (fun c1 => absurd rfl c1)
  exact cont σc1 σm1 hI1
theorem cs_rest {V : zS → zS → Prop} (hop : op_rest V) {L : Nat} {xs : Nat → Int32} {j k n : Nat} {w : Int64} {σc σm : zS} (hj : 6 * j + 6 ≤ L) (hL : L ≤ 3072) (hk : k ≤ 601024) (hn : n ≤ 7293034) (hI : V σc σm) (cont : ∀ σc1 σm1, V σc1 σm1 → PL L xs 1487 [(0, .ref 9500), (1, .ref 100), (2, .ref 5000), (3, .ref 8000), (4, .int (nI (6 * j)))] [] alL k n (lw_st σc1 σm1 w)) : PL L xs 1151 [(0, .ref 9500), (1, .ref 100), (2, .ref 5000), (3, .ref 8000), (4, .int (nI (6 * j)))] [] alL k n (lw_st σc σm w) := by
  obtain ⟨rr, σc1, σm1, h1, h2, hI1⟩ := hop (xs (nI (6 * j) + 1).toNatClampNeg) (xs (nI (6 * j) + 2).toNatClampNeg) (xs (nI (6 * j) + 3).toNatClampNeg) σc σm hI
  refine PL_aload_n (pc' := 1152) (q := 1) (pw_dk dc_L6 5 rfl) rfl rfl rfl ?_
  refine PL_aload_n (pc' := 1153) (q := 0) (pw_dk dc_L6 6 rfl) rfl rfl rfl ?_
  refine PL_iload (pc' := 1155) (q := 4) (pw_dk dc_L6 7 rfl) rfl rfl ?_
  refine PL_iconst (pc' := 1156) (v := 1) (pw_dk dc_L6 8 rfl) rfl (by decide) ?_
  refine PL_iadd (pc' := 1157) (pw_dk dc_L6 9 rfl) rfl ?_
  refine PL_sld (pc' := 1158) (pw_dk dc_L6 10 rfl) rfl (lw_in hj hL (by decide)) ?_
  refine PL_aload_n (pc' := 1159) (q := 0) (pw_dk dc_L6 11 rfl) rfl rfl rfl ?_
  refine PL_iload (pc' := 1161) (q := 4) (pw_dk dc_L6 12 rfl) rfl rfl ?_
  refine PL_iconst (pc' := 1162) (v := 2) (pw_dk dc_L6 13 rfl) rfl (by decide) ?_
  refine PL_iadd (pc' := 1163) (pw_dk dc_L6 14 rfl) rfl ?_
  refine PL_sld (pc' := 1164) (pw_dk dc_L6 15 rfl) rfl (lw_in hj hL (by decide)) ?_
  refine PL_aload_n (pc' := 1165) (q := 0) (pw_dk dc_L6 16 rfl) rfl rfl rfl ?_
  refine PL_iload (pc' := 1167) (q := 4) (pw_dk dc_L6 17 rfl) rfl rfl ?_
  refine PL_iconst (pc' := 1168) (v := 3) (pw_dk dc_L6 18 rfl) rfl (by decide) ?_
  refine PL_iadd (pc' := 1169) (pw_dk dc_L6 19 rfl) rfl ?_
  refine PL_sld (pc' := 1170) (pw_dk dc_L6 20 rfl) rfl (lw_in hj hL (by decide)) ?_
  refine PL_cCi (pc' := 1173) (y := yX11_rest) (M' := mX11_rest) (d' := 8) (As := [.int (xs (nI (6 * j) + 1).toNatClampNeg), .int (xs (nI (6 * j) + 2).toNatClampNeg), .int (xs (nI (6 * j) + 3).toNatClampNeg)]) (st := []) rfl tw_1162 tw_1163 (pw_dk dc_L6 21 rfl) rfl Y_X11_rest tw_1161 rfl (by decide) (Nat.le_of_ble_eq_true rfl) ⟨hk, hn⟩ (t_X11_rest (xs (nI (6 * j) + 1).toNatClampNeg) (xs (nI (6 * j) + 2).toNatClampNeg) (xs (nI (6 * j) + 3).toNatClampNeg) σc _ ⟨(rr, σc1), h1, _, rfl, ?_⟩)
  refine PL_aload_n (pc' := 1174) (q := 2) (pw_dk dc_L6 22 rfl) rfl rfl rfl ?_
  refine PL_aload_n (pc' := 1175) (q := 0) (pw_dk dc_L6 23 rfl) rfl rfl rfl ?_
  refine PL_iload (pc' := 1177) (q := 4) (pw_dk dc_L6 24 rfl) rfl rfl ?_
  refine PL_iconst (pc' := 1178) (v := 1) (pw_dk dc_L6 25 rfl) rfl (by decide) ?_
  refine PL_iadd (pc' := 1179) (pw_dk dc_L6 26 rfl) rfl ?_
  refine PL_sld (pc' := 1180) (pw_dk dc_L6 27 rfl) rfl (lw_in hj hL (by decide)) ?_
  refine PL_aload_n (pc' := 1181) (q := 0) (pw_dk dc_L6 28 rfl) rfl rfl rfl ?_
  refine PL_iload (pc' := 1183) (q := 4) (pw_dk dc_L6 29 rfl) rfl rfl ?_
  refine PL_iconst (pc' := 1184) (v := 2) (pw_dk dc_L6 30 rfl) rfl (by decide) ?_
  refine PL_iadd (pc' := 1185) (pw_dk dc_L6 31 rfl) rfl ?_
  refine PL_sld (pc' := 1186) (pw_dk dc_L6 32 rfl) rfl (lw_in hj hL (by decide)) ?_
  refine PL_aload_n (pc' := 1187) (q := 0) (pw_dk dc_L6 33 rfl) rfl rfl rfl ?_
  refine PL_iload (pc' := 1189) (q := 4) (pw_dk dc_L6 34 rfl) rfl rfl ?_
  refine PL_iconst (pc' := 1190) (v := 3) (pw_dk dc_L6 35 rfl) rfl (by decide) ?_
  refine PL_iadd (pc' := 1191) (pw_dk dc_L6 36 rfl) rfl ?_
  refine PL_sld (pc' := 1192) (pw_dk dc_L6 37 rfl) rfl (lw_in hj hL (by decide)) ?_
  refine PL_cMi (pc' := 1195) (y := yX12_rest) (M' := mX12_rest) (d' := 7) (As := [.int (xs (nI (6 * j) + 1).toNatClampNeg), .int (xs (nI (6 * j) + 2).toNatClampNeg), .int (xs (nI (6 * j) + 3).toNatClampNeg)]) (st := [.int rr]) rfl tw_1989 tw_1990 (pw_dk dc_L6 38 rfl) rfl Y_X12_rest tw_1988 rfl (by decide) (Nat.le_of_ble_eq_true rfl) ⟨hk, hn⟩ (t_X12_rest (xs (nI (6 * j) + 1).toNatClampNeg) (xs (nI (6 * j) + 2).toNatClampNeg) (xs (nI (6 * j) + 3).toNatClampNeg) σm _ ⟨(rr, σm1), h2, _, rfl, ?_⟩)
  refine PL_icmp_eq (pc' := 1198) (tgt := 1487) (pw_dk dc_L6 39 rfl) rfl (by decide) (fun c1 => ?_) (fun c1 => absurd rfl c1)
  exact cont σc1 σm1 hI1
theorem cs_freed {V : zS → zS → Prop} (hop : op_freed V) {L : Nat} {xs : Nat → Int32} {j k n : Nat} {w : Int64} {σc σm : zS} (hj : 6 * j + 6 ≤ L) (hL : L ≤ 3072) (hk : k ≤ 601024) (hn : n ≤ 7293034) (hI : V σc σm) (cont : ∀ σc1 σm1, V σc1 σm1 → PL L xs 1487 [(0, .ref 9500), (1, .ref 100), (2, .ref 5000), (3, .ref 8000), (4, .int (nI (6 * j)))] [] alL k n (lw_st σc1 σm1 w)) : PL L xs 1200 [(0, .ref 9500), (1, .ref 100), (2, .ref 5000), (3, .ref 8000), (4, .int (nI (6 * j)))] [] alL k n (lw_st σc σm w) := by
  obtain ⟨rr, σc1, σm1, h1, h2, hI1⟩ := hop (xs (nI (6 * j) + 1).toNatClampNeg) σc σm hI
  refine PL_aload_n (pc' := 1201) (q := 1) (pw_dk dc_L6 42 rfl) rfl rfl rfl ?_
  refine PL_aload_n (pc' := 1202) (q := 0) (pw_dk dc_L6 43 rfl) rfl rfl rfl ?_
  refine PL_iload (pc' := 1204) (q := 4) (pw_dk dc_L6 44 rfl) rfl rfl ?_
  refine PL_iconst (pc' := 1205) (v := 1) (pw_dk dc_L6 45 rfl) rfl (by decide) ?_
  refine PL_iadd (pc' := 1206) (pw_dk dc_L6 46 rfl) rfl ?_
  refine PL_sld (pc' := 1207) (pw_dk dc_L6 47 rfl) rfl (lw_in hj hL (by decide)) ?_
  refine PL_cCi (pc' := 1210) (y := yX11_freed) (M' := mX11_freed) (d' := 1) (As := [.int (xs (nI (6 * j) + 1).toNatClampNeg)]) (st := []) rfl tw_1166 tw_1167 (pw_dk dc_L6 48 rfl) rfl Y_X11_freed tw_1165 rfl (by decide) (Nat.le_of_ble_eq_true rfl) ⟨hk, hn⟩ (t_X11_freed (xs (nI (6 * j) + 1).toNatClampNeg) σc _ ⟨rr, h1.1, _, rfl, ?_⟩)
  rw [← h1.2]
  refine PL_aload_n (pc' := 1211) (q := 2) (pw_dk dc_L6 49 rfl) rfl rfl rfl ?_
  refine PL_aload_n (pc' := 1212) (q := 0) (pw_dk dc_L6 50 rfl) rfl rfl rfl ?_
  refine PL_iload (pc' := 1214) (q := 4) (pw_dk dc_L6 51 rfl) rfl rfl ?_
  refine PL_iconst (pc' := 1215) (v := 1) (pw_dk dc_L6 52 rfl) rfl (by decide) ?_
  refine PL_iadd (pc' := 1216) (pw_dk dc_L6 53 rfl) rfl ?_
  refine PL_sld (pc' := 1217) (pw_dk dc_L6 54 rfl) rfl (lw_in hj hL (by decide)) ?_
  refine PL_cMi (pc' := 1220) (y := yX12_freed) (M' := mX12_freed) (d' := 1) (As := [.int (xs (nI (6 * j) + 1).toNatClampNeg)]) (st := [.int rr]) rfl tw_1993 tw_1994 (pw_dk dc_L6 55 rfl) rfl Y_X12_freed tw_1992 rfl (by decide) (Nat.le_of_ble_eq_true rfl) ⟨hk, hn⟩ (t_X12_freed (xs (nI (6 * j) + 1).toNatClampNeg) σm _ ⟨(rr, σm1), h2, _, rfl, ?_⟩)
  refine PL_icmp_eq (pc' := 1223) (tgt := 1487) (pw_dk dc_L6 56 rfl) rfl (by decide) (fun c1 => ?_) (fun c1 => absurd rfl c1)
  exact cont σc1 σm1 hI1
theorem cs_print {V : zS → zS → Prop} (hop : op_print V) {L : Nat} {xs : Nat → Int32} {j k n : Nat} {w : Int64} {σc σm : zS} (hj : 6 * j + 6 ≤ L) (hL : L ≤ 3072) (hk : k ≤ 601024) (hn : n ≤ 7293034) (hI : V σc σm) (cont : ∀ σc1 σm1, V σc1 σm1 → PL L xs 1487 [(0, .ref 9500), (1, .ref 100), (2, .ref 5000), (3, .ref 8000), (4, .int (nI (6 * j)))] [] alL k n (lw_st σc1 σm1 w)) : PL L xs 1225 [(0, .ref 9500), (1, .ref 100), (2, .ref 5000), (3, .ref 8000), (4, .int (nI (6 * j)))] [] alL k n (lw_st σc σm w) := by
  obtain ⟨rr, σc1, σm1, h1, h2, hI1⟩ := hop (xs (nI (6 * j) + 1).toNatClampNeg) (xs (nI (6 * j) + 2).toNatClampNeg) (xs (nI (6 * j) + 3).toNatClampNeg) σc σm hI
  refine PL_aload_n (pc' := 1226) (q := 1) (pw_dk dc_L6 59 rfl) rfl rfl rfl ?_
  refine PL_aload_n (pc' := 1227) (q := 0) (pw_dk dc_L6 60 rfl) rfl rfl rfl ?_
  refine PL_iload (pc' := 1229) (q := 4) (pw_dk dc_L6 61 rfl) rfl rfl ?_
  refine PL_iconst (pc' := 1230) (v := 1) (pw_dk dc_L6 62 rfl) rfl (by decide) ?_
  refine PL_iadd (pc' := 1231) (pw_dk dc_L6 63 rfl) rfl ?_
  refine PL_sld (pc' := 1232) (pw_dk dc_L6 64 rfl) rfl (lw_in hj hL (by decide)) ?_
  refine PL_aload_n (pc' := 1233) (q := 0) (pw_dk dc_L6 65 rfl) rfl rfl rfl ?_
  refine PL_iload (pc' := 1235) (q := 4) (pw_dk dc_L6 66 rfl) rfl rfl ?_
  refine PL_iconst (pc' := 1236) (v := 2) (pw_dk dc_L6 67 rfl) rfl (by decide) ?_
  refine PL_iadd (pc' := 1237) (pw_dk dc_L6 68 rfl) rfl ?_
  refine PL_sld (pc' := 1238) (pw_dk dc_L6 69 rfl) rfl (lw_in hj hL (by decide)) ?_
  refine PL_aload_n (pc' := 1239) (q := 0) (pw_dk dc_L6 70 rfl) rfl rfl rfl ?_
  refine PL_iload (pc' := 1241) (q := 4) (pw_dk dc_L6 71 rfl) rfl rfl ?_
  refine PL_iconst (pc' := 1242) (v := 3) (pw_dk dc_L6 72 rfl) rfl (by decide) ?_
  refine PL_iadd (pc' := 1243) (pw_dk dc_L6 73 rfl) rfl ?_
  refine PL_sld (pc' := 1244) (pw_dk dc_L6 74 rfl) rfl (lw_in hj hL (by decide)) ?_
  refine PL_cCi (pc' := 1247) (y := yX11_print) (M' := mX11_print) (d' := 1) (As := [.int (xs (nI (6 * j) + 1).toNatClampNeg), .int (xs (nI (6 * j) + 2).toNatClampNeg), .int (xs (nI (6 * j) + 3).toNatClampNeg)]) (st := []) rfl tw_1170 tw_1171 (pw_dk dc_L6 75 rfl) rfl Y_X11_print tw_1169 rfl (by decide) (Nat.le_of_ble_eq_true rfl) ⟨hk, hn⟩ (t_X11_print (xs (nI (6 * j) + 1).toNatClampNeg) (xs (nI (6 * j) + 2).toNatClampNeg) (xs (nI (6 * j) + 3).toNatClampNeg) σc _ ⟨(rr, σc1), h1, _, rfl, ?_⟩)
  refine PL_aload_n (pc' := 1248) (q := 2) (pw_dk dc_L6 76 rfl) rfl rfl rfl ?_
  refine PL_aload_n (pc' := 1249) (q := 0) (pw_dk dc_L6 77 rfl) rfl rfl rfl ?_
  refine PL_iload (pc' := 1251) (q := 4) (pw_dk dc_L6 78 rfl) rfl rfl ?_
  refine PL_iconst (pc' := 1252) (v := 1) (pw_dk dc_L6 79 rfl) rfl (by decide) ?_
  refine PL_iadd (pc' := 1253) (pw_dk dc_L6 80 rfl) rfl ?_
  refine PL_sld (pc' := 1254) (pw_dk dc_L6 81 rfl) rfl (lw_in hj hL (by decide)) ?_
  refine PL_aload_n (pc' := 1255) (q := 0) (pw_dk dc_L6 82 rfl) rfl rfl rfl ?_
  refine PL_iload (pc' := 1257) (q := 4) (pw_dk dc_L6 83 rfl) rfl rfl ?_
  refine PL_iconst (pc' := 1258) (v := 2) (pw_dk dc_L6 84 rfl) rfl (by decide) ?_
  refine PL_iadd (pc' := 1259) (pw_dk dc_L6 85 rfl) rfl ?_
  refine PL_sld (pc' := 1260) (pw_dk dc_L6 86 rfl) rfl (lw_in hj hL (by decide)) ?_
  refine PL_aload_n (pc' := 1261) (q := 0) (pw_dk dc_L6 87 rfl) rfl rfl rfl ?_
  refine PL_iload (pc' := 1263) (q := 4) (pw_dk dc_L6 88 rfl) rfl rfl ?_
  refine PL_iconst (pc' := 1264) (v := 3) (pw_dk dc_L6 89 rfl) rfl (by decide) ?_
  refine PL_iadd (pc' := 1265) (pw_dk dc_L6 90 rfl) rfl ?_
  refine PL_sld (pc' := 1266) (pw_dk dc_L6 91 rfl) rfl (lw_in hj hL (by decide)) ?_
  refine PL_cMi (pc' := 1269) (y := yX12_print) (M' := mX12_print) (d' := 1) (As := [.int (xs (nI (6 * j) + 1).toNatClampNeg), .int (xs (nI (6 * j) + 2).toNatClampNeg), .int (xs (nI (6 * j) + 3).toNatClampNeg)]) (st := [.int rr]) rfl tw_1997 tw_1998 (pw_dk dc_L6 92 rfl) rfl Y_X12_print tw_1996 rfl (by decide) (Nat.le_of_ble_eq_true rfl) ⟨hk, hn⟩ (t_X12_print (xs (nI (6 * j) + 1).toNatClampNeg) (xs (nI (6 * j) + 2).toNatClampNeg) (xs (nI (6 * j) + 3).toNatClampNeg) σm _ ⟨(rr, σm1), h2, _, rfl, ?_⟩)
  refine PL_icmp_eq (pc' := 1272) (tgt := 1487) (pw_dk dc_L6 93 rfl) rfl (by decide) (fun c1 => ?_) (fun c1 => absurd rfl c1)
  exact cont σc1 σm1 hI1
theorem cs_strike {V : zS → zS → Prop} (hop : op_strike V) {L : Nat} {xs : Nat → Int32} {j k n : Nat} {w : Int64} {σc σm : zS} (hj : 6 * j + 6 ≤ L) (hL : L ≤ 3072) (hk : k ≤ 601024) (hn : n ≤ 7293034) (hI : V σc σm) (cont : ∀ σc1 σm1, V σc1 σm1 → PL L xs 1487 [(0, .ref 9500), (1, .ref 100), (2, .ref 5000), (3, .ref 8000), (4, .int (nI (6 * j)))] [] alL k n (lw_st σc1 σm1 w)) : PL L xs 1274 [(0, .ref 9500), (1, .ref 100), (2, .ref 5000), (3, .ref 8000), (4, .int (nI (6 * j)))] [] alL k n (lw_st σc σm w) := by
  obtain ⟨rr, σc1, σm1, h1, h2, hI1⟩ := hop (xs (nI (6 * j) + 1).toNatClampNeg) σc σm hI
  refine PL_aload_n (pc' := 1275) (q := 1) (pw_dk dc_L6 96 rfl) rfl rfl rfl ?_
  refine PL_aload_n (pc' := 1276) (q := 0) (pw_dk dc_L6 97 rfl) rfl rfl rfl ?_
  refine PL_iload (pc' := 1278) (q := 4) (pw_dk dc_L6 98 rfl) rfl rfl ?_
  refine PL_iconst (pc' := 1279) (v := 1) (pw_dk dc_L6 99 rfl) rfl (by decide) ?_
  refine PL_iadd (pc' := 1280) (pw_dk dc_L6 100 rfl) rfl ?_
  refine PL_sld (pc' := 1281) (pw_dk dc_L6 101 rfl) rfl (lw_in hj hL (by decide)) ?_
  refine PL_cCi (pc' := 1284) (y := yX11_strike) (M' := mX11_strike) (d' := 1) (As := [.int (xs (nI (6 * j) + 1).toNatClampNeg)]) (st := []) rfl tw_1178 tw_1179 (pw_dk dc_L6 102 rfl) rfl Y_X11_strike tw_1177 rfl (by decide) (Nat.le_of_ble_eq_true rfl) ⟨hk, hn⟩ (t_X11_strike (xs (nI (6 * j) + 1).toNatClampNeg) σc _ ⟨(rr, σc1), h1, _, rfl, ?_⟩)
  refine PL_aload_n (pc' := 1285) (q := 2) (pw_dk dc_L6 103 rfl) rfl rfl rfl ?_
  refine PL_aload_n (pc' := 1286) (q := 0) (pw_dk dc_L6 104 rfl) rfl rfl rfl ?_
  refine PL_iload (pc' := 1288) (q := 4) (pw_dk dc_L6 105 rfl) rfl rfl ?_
  refine PL_iconst (pc' := 1289) (v := 1) (pw_dk dc_L6 106 rfl) rfl (by decide) ?_
  refine PL_iadd (pc' := 1290) (pw_dk dc_L6 107 rfl) rfl ?_
  refine PL_sld (pc' := 1291) (pw_dk dc_L6 108 rfl) rfl (lw_in hj hL (by decide)) ?_
  refine PL_cMi (pc' := 1294) (y := yX12_strike) (M' := mX12_strike) (d' := 0) (As := [.int (xs (nI (6 * j) + 1).toNatClampNeg)]) (st := [.int rr]) rfl tw_2001 tw_2002 (pw_dk dc_L6 109 rfl) rfl Y_X12_strike tw_2000 rfl (by decide) (Nat.le_of_ble_eq_true rfl) ⟨hk, hn⟩ (t_X12_strike (xs (nI (6 * j) + 1).toNatClampNeg) σm _ ⟨(rr, σm1), h2, _, rfl, ?_⟩)
  refine PL_icmp_eq (pc' := 1297) (tgt := 1487) (pw_dk dc_L6 110 rfl) rfl (by decide) (fun c1 => ?_) (fun c1 => absurd rfl c1)
  exact cont σc1 σm1 hI1
theorem cs_known {V : zS → zS → Prop} (hop : op_known V) {L : Nat} {xs : Nat → Int32} {j k n : Nat} {w : Int64} {σc σm : zS} (hj : 6 * j + 6 ≤ L) (hL : L ≤ 3072) (hk : k ≤ 601024) (hn : n ≤ 7293034) (hI : V σc σm) (cont : ∀ σc1 σm1, V σc1 σm1 → PL L xs 1487 [(0, .ref 9500), (1, .ref 100), (2, .ref 5000), (3, .ref 8000), (4, .int (nI (6 * j)))] [] alL k n (lw_st σc1 σm1 w)) : PL L xs 1299 [(0, .ref 9500), (1, .ref 100), (2, .ref 5000), (3, .ref 8000), (4, .int (nI (6 * j)))] [] alL k n (lw_st σc σm w) := by
  obtain ⟨rr, σc1, σm1, h1, h2, hI1⟩ := hop (xs (nI (6 * j) + 1).toNatClampNeg) σc σm hI
  refine PL_aload_n (pc' := 1300) (q := 1) (pw_dk dc_L6 113 rfl) rfl rfl rfl ?_
  refine PL_aload_n (pc' := 1301) (q := 0) (pw_dk dc_L6 114 rfl) rfl rfl rfl ?_
  refine PL_iload (pc' := 1303) (q := 4) (pw_dk dc_L6 115 rfl) rfl rfl ?_
  refine PL_iconst (pc' := 1304) (v := 1) (pw_dk dc_L6 116 rfl) rfl (by decide) ?_
  refine PL_iadd (pc' := 1305) (pw_dk dc_L6 117 rfl) rfl ?_
  refine PL_sld (pc' := 1306) (pw_dk dc_L6 118 rfl) rfl (lw_in hj hL (by decide)) ?_
  refine PL_cCi (pc' := 1309) (y := yX11_known) (M' := mX11_known) (d' := 0) (As := [.int (xs (nI (6 * j) + 1).toNatClampNeg)]) (st := []) rfl tw_1182 tw_1183 (pw_dk dc_L6 119 rfl) rfl Y_X11_known tw_1181 rfl (by decide) (Nat.le_of_ble_eq_true rfl) ⟨hk, hn⟩ (t_X11_known (xs (nI (6 * j) + 1).toNatClampNeg) σc _ ⟨(rr, σc1), h1, _, rfl, ?_⟩)
  refine PL_aload_n (pc' := 1310) (q := 2) (pw_dk dc_L7 0 rfl) rfl rfl rfl ?_
  refine PL_aload_n (pc' := 1311) (q := 0) (pw_dk dc_L7 1 rfl) rfl rfl rfl ?_
  refine PL_iload (pc' := 1313) (q := 4) (pw_dk dc_L7 2 rfl) rfl rfl ?_
  refine PL_iconst (pc' := 1314) (v := 1) (pw_dk dc_L7 3 rfl) rfl (by decide) ?_
  refine PL_iadd (pc' := 1315) (pw_dk dc_L7 4 rfl) rfl ?_
  refine PL_sld (pc' := 1316) (pw_dk dc_L7 5 rfl) rfl (lw_in hj hL (by decide)) ?_
  refine PL_cMi (pc' := 1319) (y := yX12_known) (M' := mX12_known) (d' := 0) (As := [.int (xs (nI (6 * j) + 1).toNatClampNeg)]) (st := [.int rr]) rfl tw_2005 tw_2006 (pw_dk dc_L7 6 rfl) rfl Y_X12_known tw_2004 rfl (by decide) (Nat.le_of_ble_eq_true rfl) ⟨hk, hn⟩ (t_X12_known (xs (nI (6 * j) + 1).toNatClampNeg) σm _ ⟨(rr, σm1), h2, _, rfl, ?_⟩)
  refine PL_icmp_eq (pc' := 1322) (tgt := 1487) (pw_dk dc_L7 7 rfl) rfl (by decide) (fun c1 => ?_) (fun c1 => absurd rfl c1)
  exact cont σc1 σm1 hI1
theorem cs_whose {V : zS → zS → Prop} (hop : op_whose V) {L : Nat} {xs : Nat → Int32} {j k n : Nat} {w : Int64} {σc σm : zS} (hj : 6 * j + 6 ≤ L) (hL : L ≤ 3072) (hk : k ≤ 601024) (hn : n ≤ 7293034) (hI : V σc σm) (cont : ∀ σc1 σm1, V σc1 σm1 → PL L xs 1487 [(0, .ref 9500), (1, .ref 100), (2, .ref 5000), (3, .ref 8000), (4, .int (nI (6 * j)))] [] alL k n (lw_st σc1 σm1 w)) : PL L xs 1324 [(0, .ref 9500), (1, .ref 100), (2, .ref 5000), (3, .ref 8000), (4, .int (nI (6 * j)))] [] alL k n (lw_st σc σm w) := by
  obtain ⟨rr, σc1, σm1, h1, h2, hI1⟩ := hop  σc σm hI
  refine PL_aload_n (pc' := 1325) (q := 1) (pw_dk dc_L7 10 rfl) rfl rfl rfl ?_
  refine PL_cCi (pc' := 1328) (y := yX11_whose) (M' := mX11_whose) (d' := 6) (As := []) (st := []) rfl tw_1186 tw_1187 (pw_dk dc_L7 11 rfl) rfl Y_X11_whose tw_1185 rfl (by decide) (Nat.le_of_ble_eq_true rfl) ⟨hk, hn⟩ (t_X11_whose  σc _ ⟨(rr, σc1), h1, _, rfl, ?_⟩)
  refine PL_aload_n (pc' := 1329) (q := 2) (pw_dk dc_L7 12 rfl) rfl rfl rfl ?_
  refine PL_cMi (pc' := 1332) (y := yX12_whose) (M' := mX12_whose) (d' := 4) (As := []) (st := [.int rr]) rfl tw_2009 tw_2010 (pw_dk dc_L7 13 rfl) rfl Y_X12_whose tw_2008 rfl (by decide) (Nat.le_of_ble_eq_true rfl) ⟨hk, hn⟩ (t_X12_whose  σm _ ⟨(rr, σm1), h2, _, rfl, ?_⟩)
  refine PL_icmp_eq (pc' := 1335) (tgt := 1487) (pw_dk dc_L7 14 rfl) rfl (by decide) (fun c1 => ?_) (fun c1 => absurd rfl c1)
  exact cont σc1 σm1 hI1
theorem cs_chance {V : zS → zS → Prop} (hop : op_chance V) {L : Nat} {xs : Nat → Int32} {j k n : Nat} {w : Int64} {σc σm : zS} (hj : 6 * j + 6 ≤ L) (hL : L ≤ 3072) (hk : k ≤ 601024) (hn : n ≤ 7293034) (hI : V σc σm) (cont : ∀ σc1 σm1, V σc1 σm1 → PL L xs 1487 [(0, .ref 9500), (1, .ref 100), (2, .ref 5000), (3, .ref 8000), (4, .int (nI (6 * j)))] [] alL k n (lw_st σc1 σm1 w)) : PL L xs 1337 [(0, .ref 9500), (1, .ref 100), (2, .ref 5000), (3, .ref 8000), (4, .int (nI (6 * j)))] [] alL k n (lw_st σc σm w) := by
  obtain ⟨rr, σc1, σm1, h1, h2, hI1⟩ := hop (xs (nI (6 * j) + 1).toNatClampNeg) (xs (nI (6 * j) + 2).toNatClampNeg) (xs (nI (6 * j) + 3).toNatClampNeg) σc σm hI
  refine PL_aload_n (pc' := 1338) (q := 1) (pw_dk dc_L7 17 rfl) rfl rfl rfl ?_
  refine PL_aload_n (pc' := 1339) (q := 0) (pw_dk dc_L7 18 rfl) rfl rfl rfl ?_
  refine PL_iload (pc' := 1341) (q := 4) (pw_dk dc_L7 19 rfl) rfl rfl ?_
  refine PL_iconst (pc' := 1342) (v := 1) (pw_dk dc_L7 20 rfl) rfl (by decide) ?_
  refine PL_iadd (pc' := 1343) (pw_dk dc_L7 21 rfl) rfl ?_
  refine PL_sld (pc' := 1344) (pw_dk dc_L7 22 rfl) rfl (lw_in hj hL (by decide)) ?_
  refine PL_aload_n (pc' := 1345) (q := 0) (pw_dk dc_L7 23 rfl) rfl rfl rfl ?_
  refine PL_iload (pc' := 1347) (q := 4) (pw_dk dc_L7 24 rfl) rfl rfl ?_
  refine PL_iconst (pc' := 1348) (v := 2) (pw_dk dc_L7 25 rfl) rfl (by decide) ?_
  refine PL_iadd (pc' := 1349) (pw_dk dc_L7 26 rfl) rfl ?_
  refine PL_sld (pc' := 1350) (pw_dk dc_L7 27 rfl) rfl (lw_in hj hL (by decide)) ?_
  refine PL_aload_n (pc' := 1351) (q := 0) (pw_dk dc_L7 28 rfl) rfl rfl rfl ?_
  refine PL_iload (pc' := 1353) (q := 4) (pw_dk dc_L7 29 rfl) rfl rfl ?_
  refine PL_iconst (pc' := 1354) (v := 3) (pw_dk dc_L7 30 rfl) rfl (by decide) ?_
  refine PL_iadd (pc' := 1355) (pw_dk dc_L7 31 rfl) rfl ?_
  refine PL_sld (pc' := 1356) (pw_dk dc_L7 32 rfl) rfl (lw_in hj hL (by decide)) ?_
  refine PL_cCi (pc' := 1359) (y := yX11_chance) (M' := mX11_chance) (d' := 8) (As := [.int (xs (nI (6 * j) + 1).toNatClampNeg), .int (xs (nI (6 * j) + 2).toNatClampNeg), .int (xs (nI (6 * j) + 3).toNatClampNeg)]) (st := []) rfl tw_1228 tw_1229 (pw_dk dc_L7 33 rfl) rfl Y_X11_chance tw_1227 rfl (by decide) (Nat.le_of_ble_eq_true rfl) ⟨hk, hn⟩ (t_X11_chance (xs (nI (6 * j) + 1).toNatClampNeg) (xs (nI (6 * j) + 2).toNatClampNeg) (xs (nI (6 * j) + 3).toNatClampNeg) σc _ ⟨(rr, σc1), h1, _, rfl, ?_⟩)
  refine PL_aload_n (pc' := 1360) (q := 2) (pw_dk dc_L7 34 rfl) rfl rfl rfl ?_
  refine PL_aload_n (pc' := 1361) (q := 0) (pw_dk dc_L7 35 rfl) rfl rfl rfl ?_
  refine PL_iload (pc' := 1363) (q := 4) (pw_dk dc_L7 36 rfl) rfl rfl ?_
  refine PL_iconst (pc' := 1364) (v := 1) (pw_dk dc_L7 37 rfl) rfl (by decide) ?_
  refine PL_iadd (pc' := 1365) (pw_dk dc_L7 38 rfl) rfl ?_
  refine PL_sld (pc' := 1366) (pw_dk dc_L7 39 rfl) rfl (lw_in hj hL (by decide)) ?_
  refine PL_aload_n (pc' := 1367) (q := 0) (pw_dk dc_L7 40 rfl) rfl rfl rfl ?_
  refine PL_iload (pc' := 1369) (q := 4) (pw_dk dc_L7 41 rfl) rfl rfl ?_
  refine PL_iconst (pc' := 1370) (v := 2) (pw_dk dc_L7 42 rfl) rfl (by decide) ?_
  refine PL_iadd (pc' := 1371) (pw_dk dc_L7 43 rfl) rfl ?_
  refine PL_sld (pc' := 1372) (pw_dk dc_L7 44 rfl) rfl (lw_in hj hL (by decide)) ?_
  refine PL_aload_n (pc' := 1373) (q := 0) (pw_dk dc_L7 45 rfl) rfl rfl rfl ?_
  refine PL_iload (pc' := 1375) (q := 4) (pw_dk dc_L7 46 rfl) rfl rfl ?_
  refine PL_iconst (pc' := 1376) (v := 3) (pw_dk dc_L7 47 rfl) rfl (by decide) ?_
  refine PL_iadd (pc' := 1377) (pw_dk dc_L7 48 rfl) rfl ?_
  refine PL_sld (pc' := 1378) (pw_dk dc_L7 49 rfl) rfl (lw_in hj hL (by decide)) ?_
  refine PL_cMi (pc' := 1381) (y := yX12_chance) (M' := mX12_chance) (d' := 7) (As := [.int (xs (nI (6 * j) + 1).toNatClampNeg), .int (xs (nI (6 * j) + 2).toNatClampNeg), .int (xs (nI (6 * j) + 3).toNatClampNeg)]) (st := [.int rr]) rfl tw_2034 tw_2035 (pw_dk dc_L7 50 rfl) rfl Y_X12_chance tw_2033 rfl (by decide) (Nat.le_of_ble_eq_true rfl) ⟨hk, hn⟩ (t_X12_chance (xs (nI (6 * j) + 1).toNatClampNeg) (xs (nI (6 * j) + 2).toNatClampNeg) (xs (nI (6 * j) + 3).toNatClampNeg) σm _ ⟨(rr, σm1), h2, _, rfl, ?_⟩)
  refine PL_icmp_eq (pc' := 1384) (tgt := 1487) (pw_dk dc_L7 51 rfl) rfl (by decide) (fun c1 => ?_) (fun c1 => absurd rfl c1)
  exact cont σc1 σm1 hI1
theorem cs_tried {V : zS → zS → Prop} (hop : op_tried V) {L : Nat} {xs : Nat → Int32} {j k n : Nat} {w : Int64} {σc σm : zS} (hj : 6 * j + 6 ≤ L) (hL : L ≤ 3072) (hk : k ≤ 601024) (hn : n ≤ 7293034) (hI : V σc σm) (cont : ∀ σc1 σm1, V σc1 σm1 → PL L xs 1487 [(0, .ref 9500), (1, .ref 100), (2, .ref 5000), (3, .ref 8000), (4, .int (nI (6 * j)))] [] alL k n (lw_st σc1 σm1 w)) : PL L xs 1386 [(0, .ref 9500), (1, .ref 100), (2, .ref 5000), (3, .ref 8000), (4, .int (nI (6 * j)))] [] alL k n (lw_st σc σm w) := by
  obtain ⟨rr, σc1, σm1, h1, h2, hI1⟩ := hop (xs (nI (6 * j) + 1).toNatClampNeg) (xs (nI (6 * j) + 2).toNatClampNeg) σc σm hI
  refine PL_aload_n (pc' := 1387) (q := 1) (pw_dk dc_L7 54 rfl) rfl rfl rfl ?_
  refine PL_aload_n (pc' := 1388) (q := 0) (pw_dk dc_L7 55 rfl) rfl rfl rfl ?_
  refine PL_iload (pc' := 1390) (q := 4) (pw_dk dc_L7 56 rfl) rfl rfl ?_
  refine PL_iconst (pc' := 1391) (v := 1) (pw_dk dc_L7 57 rfl) rfl (by decide) ?_
  refine PL_iadd (pc' := 1392) (pw_dk dc_L7 58 rfl) rfl ?_
  refine PL_sld (pc' := 1393) (pw_dk dc_L7 59 rfl) rfl (lw_in hj hL (by decide)) ?_
  refine PL_aload_n (pc' := 1394) (q := 0) (pw_dk dc_L7 60 rfl) rfl rfl rfl ?_
  refine PL_iload (pc' := 1396) (q := 4) (pw_dk dc_L7 61 rfl) rfl rfl ?_
  refine PL_iconst (pc' := 1397) (v := 2) (pw_dk dc_L7 62 rfl) rfl (by decide) ?_
  refine PL_iadd (pc' := 1398) (pw_dk dc_L7 63 rfl) rfl ?_
  refine PL_sld (pc' := 1399) (pw_dk dc_L7 64 rfl) rfl (lw_in hj hL (by decide)) ?_
  refine PL_cCi (pc' := 1402) (y := yX11_tried) (M' := mX11_tried) (d' := 7) (As := [.int (xs (nI (6 * j) + 1).toNatClampNeg), .int (xs (nI (6 * j) + 2).toNatClampNeg)]) (st := []) rfl tw_1251 tw_1252 (pw_dk dc_L7 65 rfl) rfl Y_X11_tried tw_1250 rfl (by decide) (Nat.le_of_ble_eq_true rfl) ⟨hk, hn⟩ (t_X11_tried (xs (nI (6 * j) + 1).toNatClampNeg) (xs (nI (6 * j) + 2).toNatClampNeg) σc _ ⟨(rr, σc1), h1, _, rfl, ?_⟩)
  refine PL_aload_n (pc' := 1403) (q := 2) (pw_dk dc_L7 66 rfl) rfl rfl rfl ?_
  refine PL_aload_n (pc' := 1404) (q := 0) (pw_dk dc_L7 67 rfl) rfl rfl rfl ?_
  refine PL_iload (pc' := 1406) (q := 4) (pw_dk dc_L7 68 rfl) rfl rfl ?_
  refine PL_iconst (pc' := 1407) (v := 1) (pw_dk dc_L7 69 rfl) rfl (by decide) ?_
  refine PL_iadd (pc' := 1408) (pw_dk dc_L7 70 rfl) rfl ?_
  refine PL_sld (pc' := 1409) (pw_dk dc_L7 71 rfl) rfl (lw_in hj hL (by decide)) ?_
  refine PL_aload_n (pc' := 1410) (q := 0) (pw_dk dc_L7 72 rfl) rfl rfl rfl ?_
  refine PL_iload (pc' := 1412) (q := 4) (pw_dk dc_L7 73 rfl) rfl rfl ?_
  refine PL_iconst (pc' := 1413) (v := 2) (pw_dk dc_L7 74 rfl) rfl (by decide) ?_
  refine PL_iadd (pc' := 1414) (pw_dk dc_L7 75 rfl) rfl ?_
  refine PL_sld (pc' := 1415) (pw_dk dc_L7 76 rfl) rfl (lw_in hj hL (by decide)) ?_
  refine PL_cMi (pc' := 1418) (y := yX12_tried) (M' := mX12_tried) (d' := 7) (As := [.int (xs (nI (6 * j) + 1).toNatClampNeg), .int (xs (nI (6 * j) + 2).toNatClampNeg)]) (st := [.int rr]) rfl tw_2048 tw_2049 (pw_dk dc_L7 77 rfl) rfl Y_X12_tried tw_2047 rfl (by decide) (Nat.le_of_ble_eq_true rfl) ⟨hk, hn⟩ (t_X12_tried (xs (nI (6 * j) + 1).toNatClampNeg) (xs (nI (6 * j) + 2).toNatClampNeg) σm _ ⟨(rr, σm1), h2, _, rfl, ?_⟩)
  refine PL_icmp_eq (pc' := 1421) (tgt := 1487) (pw_dk dc_L7 78 rfl) rfl (by decide) (fun c1 => ?_) (fun c1 => absurd rfl c1)
  exact cont σc1 σm1 hI1
theorem cs_undo {V : zS → zS → Prop} (hop : op_undo V) {L : Nat} {xs : Nat → Int32} {j k n : Nat} {w : Int64} {σc σm : zS} (hj : 6 * j + 6 ≤ L) (hL : L ≤ 3072) (hk : k ≤ 601024) (hn : n ≤ 7293034) (hI : V σc σm) (cont : ∀ σc1 σm1, V σc1 σm1 → PL L xs 1487 [(0, .ref 9500), (1, .ref 100), (2, .ref 5000), (3, .ref 8000), (4, .int (nI (6 * j)))] [] alL k n (lw_st σc1 σm1 w)) : PL L xs 1423 [(0, .ref 9500), (1, .ref 100), (2, .ref 5000), (3, .ref 8000), (4, .int (nI (6 * j)))] [] alL k n (lw_st σc σm w) := by
  obtain ⟨rr, σc1, σm1, h1, h2, hI1⟩ := hop  σc σm hI
  refine PL_aload_n (pc' := 1424) (q := 1) (pw_dk dc_L7 81 rfl) rfl rfl rfl ?_
  refine PL_cCi (pc' := 1427) (y := yX11_undo) (M' := mX11_undo) (d' := 1) (As := []) (st := []) rfl tw_1264 tw_1265 (pw_dk dc_L7 82 rfl) rfl Y_X11_undo tw_1263 rfl (by decide) (Nat.le_of_ble_eq_true rfl) ⟨hk, hn⟩ (t_X11_undo  σc _ ⟨(rr, σc1), h1, _, rfl, ?_⟩)
  refine PL_aload_n (pc' := 1428) (q := 2) (pw_dk dc_L7 83 rfl) rfl rfl rfl ?_
  refine PL_cMi (pc' := 1431) (y := yX12_undo) (M' := mX12_undo) (d' := 1) (As := []) (st := [.int rr]) rfl tw_2052 tw_2053 (pw_dk dc_L7 84 rfl) rfl Y_X12_undo tw_2051 rfl (by decide) (Nat.le_of_ble_eq_true rfl) ⟨hk, hn⟩ (t_X12_undo  σm _ ⟨(rr, σm1), h2, _, rfl, ?_⟩)
  refine PL_icmp_eq (pc' := 1434) (tgt := 1487) (pw_dk dc_L7 85 rfl) rfl (by decide) (fun c1 => ?_) (fun c1 => absurd rfl c1)
  exact cont σc1 σm1 hI1
theorem cs_keep {V : zS → zS → Prop} (hop : op_keep V) {L : Nat} {xs : Nat → Int32} {j k n : Nat} {w : Int64} {σc σm : zS} (hj : 6 * j + 6 ≤ L) (hL : L ≤ 3072) (hk : k ≤ 601024) (hn : n ≤ 7293034) (hI : V σc σm) (cont : ∀ σc1 σm1, V σc1 σm1 → PL L xs 1487 [(0, .ref 9500), (1, .ref 100), (2, .ref 5000), (3, .ref 8000), (4, .int (nI (6 * j)))] [] alL k n (lw_st σc1 σm1 w)) : PL L xs 1436 [(0, .ref 9500), (1, .ref 100), (2, .ref 5000), (3, .ref 8000), (4, .int (nI (6 * j)))] [] alL k n (lw_st σc σm w) := by
  obtain ⟨rr, σc1, σm1, h1, h2, hI1⟩ := hop  σc σm hI
  refine PL_aload_n (pc' := 1437) (q := 1) (pw_dk dc_L7 88 rfl) rfl rfl rfl ?_
  refine PL_cCi (pc' := 1440) (y := yX11_keep) (M' := mX11_keep) (d' := 2) (As := []) (st := []) rfl tw_1272 tw_1273 (pw_dk dc_L7 89 rfl) rfl Y_X11_keep tw_1271 rfl (by decide) (Nat.le_of_ble_eq_true rfl) ⟨hk, hn⟩ (t_X11_keep  σc _ ⟨(rr, σc1), h1, _, rfl, ?_⟩)
  refine PL_aload_n (pc' := 1441) (q := 2) (pw_dk dc_L7 90 rfl) rfl rfl rfl ?_
  refine PL_cMi (pc' := 1444) (y := yX12_keep) (M' := mX12_keep) (d' := 1) (As := []) (st := [.int rr]) rfl tw_2056 tw_2057 (pw_dk dc_L7 91 rfl) rfl Y_X12_keep tw_2055 rfl (by decide) (Nat.le_of_ble_eq_true rfl) ⟨hk, hn⟩ (t_X12_keep  σm _ ⟨(rr, σm1), h2, _, rfl, ?_⟩)
  refine PL_icmp_eq (pc' := 1447) (tgt := 1487) (pw_dk dc_L7 92 rfl) rfl (by decide) (fun c1 => ?_) (fun c1 => absurd rfl c1)
  exact cont σc1 σm1 hI1
theorem cs_back {V : zS → zS → Prop} (hop : op_back V) {L : Nat} {xs : Nat → Int32} {j k n : Nat} {w : Int64} {σc σm : zS} (hj : 6 * j + 6 ≤ L) (hL : L ≤ 3072) (hk : k ≤ 601024) (hn : n ≤ 7293034) (hI : V σc σm) (cont : ∀ σc1 σm1, V σc1 σm1 → PL L xs 1487 [(0, .ref 9500), (1, .ref 100), (2, .ref 5000), (3, .ref 8000), (4, .int (nI (6 * j)))] [] alL k n (lw_st σc1 σm1 w)) : PL L xs 1449 [(0, .ref 9500), (1, .ref 100), (2, .ref 5000), (3, .ref 8000), (4, .int (nI (6 * j)))] [] alL k n (lw_st σc σm w) := by
  obtain ⟨rr, σc1, σm1, h1, h2, hI1⟩ := hop  σc σm hI
  refine PL_aload_n (pc' := 1450) (q := 1) (pw_dk dc_L7 95 rfl) rfl rfl rfl ?_
  refine PL_cCi (pc' := 1453) (y := yX11_back) (M' := mX11_back) (d' := 2) (As := []) (st := []) rfl tw_1276 tw_1277 (pw_dk dc_L7 96 rfl) rfl Y_X11_back tw_1275 rfl (by decide) (Nat.le_of_ble_eq_true rfl) ⟨hk, hn⟩ (t_X11_back  σc _ ⟨(rr, σc1), h1, _, rfl, ?_⟩)
  refine PL_aload_n (pc' := 1454) (q := 2) (pw_dk dc_L7 97 rfl) rfl rfl rfl ?_
  refine PL_cMi (pc' := 1457) (y := yX12_back) (M' := mX12_back) (d' := 1) (As := []) (st := [.int rr]) rfl tw_2060 tw_2061 (pw_dk dc_L7 98 rfl) rfl Y_X12_back tw_2059 rfl (by decide) (Nat.le_of_ble_eq_true rfl) ⟨hk, hn⟩ (t_X12_back  σm _ ⟨(rr, σm1), h2, _, rfl, ?_⟩)
  refine PL_icmp_eq (pc' := 1460) (tgt := 1487) (pw_dk dc_L7 99 rfl) rfl (by decide) (fun c1 => ?_) (fun c1 => absurd rfl c1)
  exact cont σc1 σm1 hI1
theorem cs_count {V : zS → zS → Prop} (hop : op_count V) {L : Nat} {xs : Nat → Int32} {j k n : Nat} {w : Int64} {σc σm : zS} (hj : 6 * j + 6 ≤ L) (hL : L ≤ 3072) (hk : k ≤ 601024) (hn : n ≤ 7293034) (hI : V σc σm) (cont : ∀ σc1 σm1, V σc1 σm1 → PL L xs 1487 [(0, .ref 9500), (1, .ref 100), (2, .ref 5000), (3, .ref 8000), (4, .int (nI (6 * j)))] [] alL k n (lw_st σc1 σm1 w)) : PL L xs 1462 [(0, .ref 9500), (1, .ref 100), (2, .ref 5000), (3, .ref 8000), (4, .int (nI (6 * j)))] [] alL k n (lw_st σc σm w) := by
  obtain ⟨rr, σc1, σm1, h1, h2, hI1⟩ := hop (xs (nI (6 * j) + 1).toNatClampNeg) σc σm hI
  refine PL_aload_n (pc' := 1463) (q := 1) (pw_dk dc_L7 102 rfl) rfl rfl rfl ?_
  refine PL_aload_n (pc' := 1464) (q := 0) (pw_dk dc_L7 103 rfl) rfl rfl rfl ?_
  refine PL_iload (pc' := 1466) (q := 4) (pw_dk dc_L7 104 rfl) rfl rfl ?_
  refine PL_iconst (pc' := 1467) (v := 1) (pw_dk dc_L7 105 rfl) rfl (by decide) ?_
  refine PL_iadd (pc' := 1468) (pw_dk dc_L7 106 rfl) rfl ?_
  refine PL_sld (pc' := 1469) (pw_dk dc_L7 107 rfl) rfl (lw_in hj hL (by decide)) ?_
  refine PL_cCi (pc' := 1472) (y := yX11_count) (M' := mX11_count) (d' := 1) (As := [.int (xs (nI (6 * j) + 1).toNatClampNeg)]) (st := []) rfl tw_1280 tw_1281 (pw_dk dc_L7 108 rfl) rfl Y_X11_count tw_1279 rfl (by decide) (Nat.le_of_ble_eq_true rfl) ⟨hk, hn⟩ (t_X11_count (xs (nI (6 * j) + 1).toNatClampNeg) σc _ ⟨rr, h1.1, _, rfl, ?_⟩)
  rw [← h1.2]
  refine PL_aload_n (pc' := 1473) (q := 2) (pw_dk dc_L7 109 rfl) rfl rfl rfl ?_
  refine PL_aload_n (pc' := 1474) (q := 0) (pw_dk dc_L7 110 rfl) rfl rfl rfl ?_
  refine PL_iload (pc' := 1476) (q := 4) (pw_dk dc_L7 111 rfl) rfl rfl ?_
  refine PL_iconst (pc' := 1477) (v := 1) (pw_dk dc_L7 112 rfl) rfl (by decide) ?_
  refine PL_iadd (pc' := 1478) (pw_dk dc_L7 113 rfl) rfl ?_
  refine PL_sld (pc' := 1479) (pw_dk dc_L7 114 rfl) rfl (lw_in hj hL (by decide)) ?_
  refine PL_cMi (pc' := 1482) (y := yX12_count) (M' := mX12_count) (d' := 1) (As := [.int (xs (nI (6 * j) + 1).toNatClampNeg)]) (st := [.int rr]) rfl tw_2064 tw_2065 (pw_dk dc_L7 115 rfl) rfl Y_X12_count tw_2063 rfl (by decide) (Nat.le_of_ble_eq_true rfl) ⟨hk, hn⟩ (t_X12_count (xs (nI (6 * j) + 1).toNatClampNeg) σm _ ⟨(rr, σm1), h2, _, rfl, ?_⟩)
  refine PL_icmp_eq (pc' := 1485) (tgt := 1487) (pw_dk dc_L7 116 rfl) rfl (by decide) (fun c1 => ?_) (fun c1 => absurd rfl c1)
  exact cont σc1 σm1 hI1
