/-! a call of a private method of a nest mate -/
theorem PW_callVN {M : pM} {d : Nat} {ord : List Nat} {mc ms : Nat} {Q : Option Value → pAL × pS → Prop} {pc pc' : Nat} {lv : List (Nat × Value)} {st : List Value} {al : pAL} {k n : Nat} {σ : pS} {y : MethodName} {M' : pM} {d' nA ix : Nat} {As : List Value} {b ci nn : Nat} {T : u_T} {N : Nat} (hin : (b, ci, nn) ∈ al) (hci : pw_cl[ci]? = some (y.cls, T, N)) (w2 : Cond.instanceMethod y ∈ pw_tb) (w3 : Cond.selects y.cls y y ∈ pw_tb) (hd : decode M.2.1 pc = .ok (.invokevirtual ix, 3)) (hp : pc + 3 = pc') (hY : pw_Y y M' nA) (w1 : (M.1, ix, y) ∈ pw_nest) (hn : As.length = nA) (hdd : d' + 1 ≤ d) (hst : (st.map fun v => v.category).sum ≤ 8) (hkc : k ≤ mc ∧ n ≤ ms)
    {Q' : Option Value → pAL × pS → Prop} (h : PC y M' d' [] 0 0 (.ref b :: As) al σ Q') (hQ : ∀ (r : Option Value) (al' : pAL) (σ' : pS), Q' r (al', σ') → pw_nr M'.2.2.2.1 r → PW M d ord mc ms Q pc' lv (r.toList ++ st) al' k n σ') : PW M d ord mc ms Q pc lv (As.reverse ++ .ref b :: st) al k n σ := by
  subst hp
  intro p l e s m args below meth c D cy ad A H locs ls C hP hD hS hl
  have C2 := C
  obtain ⟨hx, hb, hr, hml, hown, hts, hlk, hK, hA, ho, hX, hnm0⟩ := C2
  have hF : ∀ z, va_A (pw_ws ad cy al σ) H.size z → A z := by
    intro z hz
    rcases hz with ⟨q, e9, hz⟩ | hz
    · exact hD.2 q _ hz
    · exact hA z (Nat.le_trans hS.1 hz)
  obtain ⟨q, hq1, hq2⟩ := pw_ws_at (ad := ad) (cy := cy) (σ := σ) hin
  rw [pw_en_o (pw_ci hci)] at hq1
  refine pw_back (M' := M') (al := al) (σ := σ) (rest := st.map (pw_cv ad)) (mc := 0) (ms := 0) (va_runVN (host := "HalfCitizen") (As := As.map (pw_cv ad)) (g := F0 m pc ls ((As.reverse ++ .ref b :: st).map (pw_cv ad))) ⟨hx, hb, hml, hown, hts⟩ (h l D cy ad H.size) ⟨⟨⟨rfl, rfl, hdd, (by show 8 + (M'.2.2.1 + 11) + 40 * d' ≤ 40 * d; have := hY.2.2.2.2; omega), pay_in hts (pw_good hY.2.2.2.1), List.mem_cons_self⟩, hts _ hY.2.2.2.1, hts _ hY.2.2.1, hY.1, pw_len_of hY.2.1, va_Nw.use rfl (hX.2.2.2.2.2 _ w1)⟩, hts _ w2, hts _ w3⟩ ⟨pw_blind, va_recv hK hP hci hq1, fun U hU hW => ⟨rfl, by rw [hU], by rw [hU]; exact hP, va_K.moved hW.alike hK, hD.weaken (fun _ _ _ _ => trivial), fun i id h9 => (by simp at h9), hX.go hS hU hW hF⟩⟩ rfl (by rw [List.length_map]; exact hn) hl.1 (by simp [List.map_append, List.map_reverse, pw_cv]) (lv_room (by rw [pw_sum]; exact hst)) hd ⟨hkc.1, hkc.2⟩) hS hF (fun r al' σ' H1 locs1 hq hnr hP1 hD1 hS1 => ?_)
  rw [pw_stk]
  exact hQ r al' σ' hq hnr p l e s m args below meth c D cy ad A H1 locs1 ls C hP1 hD1 hS1 hl
theorem PZ_callVNi {al : pAL} {M : pM} {d : Nat} {Q : Option Value → zS → Prop} {pc pc' : Nat} {lv : List (Nat × Value)} {st : List Value} {σ : zS} {y : MethodName} {M' : pM} {d' nA ix : Nat} {As : List Value} {b ci nn : Nat} {T : u_T} {N : Nat} (hin : (b, ci, nn) ∈ al) (hci : pw_cl[ci]? = some (y.cls, T, N)) (w2 : Cond.instanceMethod y ∈ pw_tb) (w3 : Cond.selects y.cls y y ∈ pw_tb) (hd : decode M.2.1 pc = .ok (.invokevirtual ix, 3)) (hp : pc + 3 = pc') (hY : pw_Y y M' nA) (w1 : (M.1, ix, y) ∈ pw_nest) (hn : As.length = nA) (hdd : d' + 1 ≤ d) (hst : (st.map fun v => v.category).sum ≤ 8)
    (h : PK al y M' d' (.ref b :: As) σ (fun r σ' => ∃ v : Int32, r = some (.int v) ∧ (pw_nr M'.2.2.2.1 r → PZ al M d Q pc' lv (.int v :: st) σ'))) : PZ al M d Q pc lv (As.reverse ++ .ref b :: st) σ := by
  refine PW_callVN hin hci w2 w3 hd hp hY w1 hn hdd hst ⟨Nat.le_refl _, Nat.le_refl _⟩ h (fun r al' σ1 hq hnr => ?_)
  obtain ⟨σ2, e2, hq⟩ := hq
  cases e2
  obtain ⟨v, rfl, hq⟩ := hq
  exact hq hnr
