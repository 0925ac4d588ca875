/-! the law's own look: it catches -/
abbrev mL_look : pM := (RL, cL_look, 5, (some .int), "look")
def lk_hh : List (Nat × Nat × Nat × Nat) := [(0, 10, 13, 13), (0, 10, 17, 15)]
def lk_wsL : List Cond := Cond.codeWith yL_look cL_look 5 (some .int) lk_hh :: pw_tb
theorem tw_119 : Cond.initialized RL ∈ pw_tb := pw_w 120 _ (by decide +kernel) (by decide +kernel)
theorem tw_1288 : Cond.methodLink R_law 39 yL_look ∈ pw_tb := pw_w 1283 _ (by decide +kernel) (by decide +kernel)
theorem tw_1289 : Cond.static yL_look ∈ pw_tb := pw_w 1284 _ (by decide +kernel) (by decide +kernel)
theorem tw_1290 : Cond.codeWith yL_look cL_look 5 (some .int) lk_hh ∈ pw_tb := pw_w 1285 _ (by decide +kernel) (by decide +kernel)
theorem tw_1291 : Cond.classLink RL 13 lkE1 ∈ pw_tb := pw_w 1286 _ (by decide +kernel) (by decide +kernel)
theorem tw_1292 : Cond.classLink RL 15 lkE2 ∈ pw_tb := pw_w 1287 _ (by decide +kernel) (by decide +kernel)
def dl_L_look : List (Nat × Instr × Nat) := [(0, .aload_n 3, 1), (1, .iconst 0, 1), (2, .aload_n 0, 1), (3, .iload_n 1, 1), (4, .iload_n 2, 1), (5, .invokevirtual 7, 3), (8, .i2l, 1), (9, .lastore, 1), (10, .goto 11, 3), (13, .astore 4, 2), (15, .iconst 1, 1), (16, .ireturn, 1), (17, .astore 4, 2), (19, .iconst 2, 1), (20, .ireturn, 1), (21, .iconst 0, 1), (22, .ireturn, 1)]
theorem dc_L_look : pw_dec cL_look dl_L_look = true := by decide +kernel
theorem lk_wide {M : pM} {d : Nat} {ord : List Nat} {mc ms : Nat} {Q : Option Value → pAL × pS → Prop} {pc : Nat} {lv : List (Nat × Value)} {st : List Value} {al : pAL} {k n k' n' : Nat} {σ : pS} (h1 : k ≤ k') (h2 : n ≤ n') (h : PW M d ord mc ms Q pc lv st al k' n' σ) : PW M d ord mc ms Q pc lv st al k n σ :=
  fun p l e s m args below meth c D cy ad A H locs ls C hP hD hS hl => W.widen h1 h2 (h p l e s m args below meth c D cy ad A H locs ls C hP hD hS hl)
theorem lk_alL : ∀ c ∈ alL, c.1 < 8000 ∨ c = (8000, 14, 1) := by decide +kernel
theorem lk_8000 : (8000, 14, 1) ∈ alL := List.mem_append_right _ (List.mem_singleton.mpr rfl)
theorem lk_stw (σc σm : zS) (w x : Int64) : pw_eq alL (pw_wL (lw_st σc σm w) 8000 0 x) (lw_st σc σm x) := by
  intro c hc
  refine ⟨fun _ j => ⟨fun _ => rfl, fun _ => rfl⟩, fun _ j hj => ⟨rfl, ?_⟩⟩
  show (if c.1 = 8000 ∧ j = 0 then x else (lw_st σc σm w).2.1 c.1 j) = (lw_st σc σm x).2.1 c.1 j
  unfold lw_st
  rcases lk_alL c hc with h | h
  · rw [if_neg (by omega)]
    by_cases h5 : c.1 < 5000
    · simp only [if_pos h5]
    · simp only [if_neg h5, if_pos h]
  · subst h
    have : j = 0 := by have : j < 1 := hj; omega
    subst this
    rfl
theorem lk_w0 (σc σm : zS) (w : Int64) (a1 a2 v : Int32) (h0 : f_look a1 a2 σc = some (0, v)) : PW mL_look 20 [] 1 6 (fun r q => r = some (.int 0) ∧ q = (alL, lw_st σc σm v.toInt64)) 0 [(0, .ref 100), (1, .int a1), (2, .int a2), (3, .ref 8000)] [] alL 0 0 (lw_st σc σm w) := by
  refine PW_aload_n (pc' := 1) (q := 3) (pw_dk dc_L_look 0 rfl) rfl rfl rfl ?_
  refine PW_iconst (pc' := 2) (v := 0) (pw_dk dc_L_look 1 rfl) rfl (by decide) ?_
  refine PW_aload_n (pc' := 3) (q := 0) (pw_dk dc_L_look 2 rfl) rfl rfl rfl ?_
  refine PW_iload_n (pc' := 4) (q := 1) (pw_dk dc_L_look 3 rfl) rfl rfl rfl ?_
  refine PW_iload_n (pc' := 5) (q := 2) (pw_dk dc_L_look 4 rfl) rfl rfl rfl ?_
  refine PW_callVF (pc' := 8) (y := yX11_look) (M' := mX11_look) (d' := 1) (As := [.int a1, .int a2]) (st := [.int 0, .ref 8000]) (b := 100) (ci := 11) (nn := 0) (al1 := alC) (σ1 := em σc) lw_in100 rfl tw_1294 tw_1295 lw_inC lw_ndC (lw_eqC σc σm w) (pw_dk dc_L_look 5 rfl) rfl Y_X11_look tw_1293 rfl (by decide) (Nat.le_of_ble_eq_true rfl) ⟨by decide, by decide⟩ (fun r al' σ' hz => by obtain ⟨s9, e9, -⟩ := hz; cases e9; rfl) (t_X11_look0 a1 a2 v σc (fun r s => r = some (.int v) ∧ s = σc) h0 ⟨rfl, rfl⟩) (fun r σ' hz _ => ?_)
  obtain ⟨s9, e9, rfl, rfl⟩ := hz
  cases e9
  refine PW_cong (lw_mgC s9 σm s9 w) ?_
  refine PW_i2l (pc' := 9) (pw_dk dc_L_look 6 rfl) rfl ?_
  refine PW_last (pc' := 10) (id := 8000) (nn := 1) (pw_dk dc_L_look 7 rfl) rfl lk_8000 (okI_in (by decide)) ?_
  refine PW_cong (lk_stw s9 σm w v.toInt64) ?_
  refine PW_goto (tgt := 21) (pw_dk dc_L_look 8 rfl) (by decide) ?_
  refine PW_iconst (pc' := 22) (v := 0) (pw_dk dc_L_look 15 rfl) rfl (by decide) ?_
  refine lk_wide (k' := 1) (n' := 6) (by decide) (by decide) ?_
  exact PW_iret (ty := .int) (pw_dk dc_L_look 16 rfl) rfl rfl ⟨rfl, rfl⟩
def lk_PY (Q : Option Value → pAL × pS → Prop) (lv : List (Nat × Value)) (σ : pS) : Prop :=
  ∀ (p : Program) (l : Launch) (e : Env) (s : State) (m : MethodId) (args : Array Value) (below : List Frame) (meth : Method) (c : Code) (D : va_G) (cy ad : Nat → Nat) (A : Nat → Prop) (ls : Array Slot),
    l.stackTraces = false → c.exceptionTable.toList = tableOf lk_hh → lk_X A s → pw_C mL_look [] p s m args meth c D cy ad A → va_P D pw_cl (pw_ws ad cy alL σ) s.heap → va_D A (pw_ws ad cy alL σ) → lv_has ls 5 (pw_lv ad lv) →
    W p l e (pw_R 20 1 6) s m args below meth c s.heap [] 0 0 (MQ below (pw_Q mL_look Q D cy ad A) args s 1 6 A) (F0 m 0 ls [])
theorem lk_blind {av : List Value} {D : va_G} {cy ad : Nat → Nat} {al : pAL} {σ : pS} {sz : Nat} {A : Nat → Prop} : FrameBlind (va_Pc av (fun U => U.heap.size = sz ∧ va_P D pw_cl (pw_ws ad cy al σ) U.heap ∧ va_K D pw_cl (pw_tys cy) U ∧ va_D (fun _ => True) (pw_ws ad cy al σ) ∧ pw_X ad A U ∧ lk_X A U)) :=
  fun a U g mk q => by
    obtain ⟨q0, q1, qP, qK, qD, qX, qL⟩ := q
    exact ⟨q0, q1, qP, va_K.moved (u := U) (U := U.calling g mk a) (Vm.Alike.refl U.vm) qK, qD, qX.calling, qL.calling⟩
theorem lk_y0 (σc σm : zS) (w : Int64) (a1 a2 v : Int32) (h0 : f_look a1 a2 σc = some (0, v)) : lk_PY (fun r q => r = some (.int 0) ∧ q = (alL, lw_st σc σm v.toInt64)) [(0, .ref 100), (1, .int a1), (2, .int a2), (3, .ref 8000)] (lw_st σc σm w) :=
  fun p l e s m args below meth c D cy ad A ls _ _ _ C hP hD hl => lk_w0 σc σm w a1 a2 v h0 p l e s m args below meth c D cy ad A s.heap [] ls C hP hD va_S.rf hl
theorem lk_y1 (σc σm : zS) (w : Int64) (a1 a2 v : Int32) (h0 : f_look a1 a2 σc = some (1, v)) : lk_PY (fun r q => r = some (.int 1) ∧ q = (alL, lw_st σc σm w)) [(0, .ref 100), (1, .int a1), (2, .int a2), (3, .ref 8000)] (lw_st σc σm w) := by
  intro p l e s m args below meth c D cy ad A ls hst hT hLK C hP hD hl
  have C2 := C
  obtain ⟨hx, hb, hr, hml, hown, hts, hlk, hK, hA, ho, hX, hnm0⟩ := C2
  have hS : va_S A s.heap s.heap [] := va_S.rf
  have hb' : c.code = cL_look := hb
  refine lv_aload_n hx hb' (pw_dk dc_L_look 0 rfl) rfl (lv_at hl 3 rfl) ?_
  refine lv_iconst hx hb' (pw_dk dc_L_look 1 rfl) (show Int32.ofInt 0 = 0 by decide) ?_
  refine lv_aload_n hx hb' (pw_dk dc_L_look 2 rfl) rfl (lv_at hl 0 rfl) ?_
  refine lv_iload_n hx hb' (pw_dk dc_L_look 3 rfl) rfl (lv_at hl 1 rfl) ?_
  refine lv_iload_n hx hb' (pw_dk dc_L_look 4 rfl) rfl (lv_at hl 2 rfl) ?_
  obtain ⟨q, hq1, hq2⟩ := pw_ws_at (ad := ad) (cy := cy) (σ := lw_st σc σm w) lw_in100
  rw [pw_en_o (show (11 : Nat) < 13 by decide)] at hq1
  have hPC : va_P D pw_cl (pw_ws ad cy alC (em σc)) s.heap := pw_subP lw_inC (lw_eqC σc σm w) hP
  have hDC : va_D A (pw_ws ad cy alC (em σc)) := pw_subD lw_inC lw_ndC hD
  have hF : ∀ z, va_A (pw_ws ad cy alC (em σc)) s.heap.size z → A z := by
    intro z hz
    rcases hz with ⟨q, e9, hz⟩ | hz
    · exact hDC.2 q _ hz
    · exact hA z hz
  refine vx_calli (rest := [.int 0, .ref (ad 8000)]) (mc := 1) (ms := 6) (A1 := va_A (pw_ws ad cy alC (em σc)) s.heap.size) (AX := va_A (pw_ws ad cy alC (em σc)) s.heap.size) (free := va_A (pw_ws ad cy alC (em σc)) s.heap.size)
    (vx_runV (As := [.int a1, .int a2]) (g := F0 m (0 + 1 + 1 + 1 + 1 + 1) ls [.int a2, .int a1, .ref (ad 100), .int 0, .ref (ad 8000)]) ⟨hx, hb', hml, hown, hts⟩ (look_X (look_x1 a1 a2 v σc h0) hst D cy ad s.heap.size)
      ⟨pw_CB (M := mL_look) (d := 20) (mc := 1) (ms := 6) (d' := 10) (mc' := 1) (ms' := 6) hts Y_X11_look (by decide) tw_1293, hts _ tw_1294, hts _ tw_1295⟩
      ⟨lk_blind, va_recv hK hP (show pw_cl[11]? = some (RX11, TX11, 15) from rfl) hq1, fun U hU hW => ⟨rfl, by rw [hU], by rw [hU]; exact hPC, va_K.moved hW.alike hK, hDC.weaken (fun _ _ _ _ => trivial), hX.go hS hU hW hF, hLK.go hS hU hW hF⟩⟩
      rfl rfl hl.1 rfl (lv_room (Nat.le_of_ble_eq_true rfl)) (pw_dk dc_L_look 5 rfl) ⟨by decide, by decide⟩) hS (fun z _ hz => hF z hz) hF (fun z _ hz => hF z hz) ?_ ?_
  · intro E' ce q9 u t H1 locs1 ht hvm _ hBX hsz hk hS1 hce hcv hcl
    obtain ⟨rfl, hP1⟩ := hBX
    rw [ht] at hP1
    have hP2 : va_P D pw_cl (pw_ws ad cy alL (lw_st σc σm w)) H1 := pw_P_ec (lw_mgC σc σm σc w) (pw_join lw_inC hP hD hk hP1)
    refine vx_catch (own := RL) (name := lkE1) (E := lkE1) hown [] ⟨0, 10, 13, 13⟩ [⟨0, 10, 17, 15⟩] (by rw [hT]; rfl) (fun z hz => nomatch hz) rfl (by decide) (hts _ tw_1291) (va_Nw.use rfl hLK.2.2.2.2.1.1) hce hcv hcl ?_
    refine lv_astore hx hb' (pw_dk dc_L_look 9 rfl) hl (by decide) rfl (fun ls' hl' => ?_)
    refine lv_iconst hx hb' (pw_dk dc_L_look 10 rfl) (show Int32.ofInt 1 = 1 by decide) ?_
    exact W.zret hx hb' (show meth.sig.returnType = some .int from hr) (show narrow .int (.int 1) = .int 1 from rfl) (fun t ht hW => ⟨⟨some (.int 1), alL, lw_st σc σm w, rfl, ⟨rfl, rfl⟩, (fun ty2 v2 h1 h2 => by cases h1; cases h2; rfl), by rw [ht]; exact hP2, va_K.moved hW.alike hK, hD⟩, hS1.F ht⟩) hS1.2.2 (pw_dk dc_L_look 11 rfl) hlk
  · intro r u t H1 locs1 _ _ hf
    exact hf.elim
theorem lk_y2 (σc σm : zS) (w : Int64) (a1 a2 v : Int32) (h0 : f_look a1 a2 σc = some (2, v)) : lk_PY (fun r q => r = some (.int 2) ∧ q = (alL, lw_st σc σm w)) [(0, .ref 100), (1, .int a1), (2, .int a2), (3, .ref 8000)] (lw_st σc σm w) := by
  intro p l e s m args below meth c D cy ad A ls hst hT hLK C hP hD hl
  have C2 := C
  obtain ⟨hx, hb, hr, hml, hown, hts, hlk, hK, hA, ho, hX, hnm0⟩ := C2
  have hS : va_S A s.heap s.heap [] := va_S.rf
  have hb' : c.code = cL_look := hb
  refine lv_aload_n hx hb' (pw_dk dc_L_look 0 rfl) rfl (lv_at hl 3 rfl) ?_
  refine lv_iconst hx hb' (pw_dk dc_L_look 1 rfl) (show Int32.ofInt 0 = 0 by decide) ?_
  refine lv_aload_n hx hb' (pw_dk dc_L_look 2 rfl) rfl (lv_at hl 0 rfl) ?_
  refine lv_iload_n hx hb' (pw_dk dc_L_look 3 rfl) rfl (lv_at hl 1 rfl) ?_
  refine lv_iload_n hx hb' (pw_dk dc_L_look 4 rfl) rfl (lv_at hl 2 rfl) ?_
  obtain ⟨q, hq1, hq2⟩ := pw_ws_at (ad := ad) (cy := cy) (σ := lw_st σc σm w) lw_in100
  rw [pw_en_o (show (11 : Nat) < 13 by decide)] at hq1
  have hPC : va_P D pw_cl (pw_ws ad cy alC (em σc)) s.heap := pw_subP lw_inC (lw_eqC σc σm w) hP
  have hDC : va_D A (pw_ws ad cy alC (em σc)) := pw_subD lw_inC lw_ndC hD
  have hF : ∀ z, va_A (pw_ws ad cy alC (em σc)) s.heap.size z → A z := by
    intro z hz
    rcases hz with ⟨q, e9, hz⟩ | hz
    · exact hDC.2 q _ hz
    · exact hA z hz
  refine vx_calli (rest := [.int 0, .ref (ad 8000)]) (mc := 1) (ms := 6) (A1 := va_A (pw_ws ad cy alC (em σc)) s.heap.size) (AX := va_A (pw_ws ad cy alC (em σc)) s.heap.size) (free := va_A (pw_ws ad cy alC (em σc)) s.heap.size)
    (vx_runV (As := [.int a1, .int a2]) (g := F0 m (0 + 1 + 1 + 1 + 1 + 1) ls [.int a2, .int a1, .ref (ad 100), .int 0, .ref (ad 8000)]) ⟨hx, hb', hml, hown, hts⟩ (look_X (look_x2 a1 a2 v σc h0) hst D cy ad s.heap.size)
      ⟨pw_CB (M := mL_look) (d := 20) (mc := 1) (ms := 6) (d' := 10) (mc' := 1) (ms' := 6) hts Y_X11_look (by decide) tw_1293, hts _ tw_1294, hts _ tw_1295⟩
      ⟨lk_blind, va_recv hK hP (show pw_cl[11]? = some (RX11, TX11, 15) from rfl) hq1, fun U hU hW => ⟨rfl, by rw [hU], by rw [hU]; exact hPC, va_K.moved hW.alike hK, hDC.weaken (fun _ _ _ _ => trivial), hX.go hS hU hW hF, hLK.go hS hU hW hF⟩⟩
      rfl rfl hl.1 rfl (lv_room (Nat.le_of_ble_eq_true rfl)) (pw_dk dc_L_look 5 rfl) ⟨by decide, by decide⟩) hS (fun z _ hz => hF z hz) hF (fun z _ hz => hF z hz) ?_ ?_
  · intro E' ce q9 u t H1 locs1 ht hvm _ hBX hsz hk hS1 hce hcv hcl
    obtain ⟨rfl, hP1⟩ := hBX
    rw [ht] at hP1
    have hP2 : va_P D pw_cl (pw_ws ad cy alL (lw_st σc σm w)) H1 := pw_P_ec (lw_mgC σc σm σc w) (pw_join lw_inC hP hD hk hP1)
    refine vx_catch (own := RL) (name := lkE2) (E := lkE2) hown [⟨0, 10, 13, 13⟩] ⟨0, 10, 17, 15⟩ [] (by rw [hT]; rfl) (fun z hz => by rw [List.mem_singleton.mp hz]; exact Or.inr ⟨by decide, lkE1, hts _ tw_1291, hLK.2.2.2.2.2⟩) rfl (by decide) (hts _ tw_1292) (va_Nw.use rfl hLK.2.2.2.2.1.2.1) hce hcv hcl ?_
    refine lv_astore hx hb' (pw_dk dc_L_look 12 rfl) hl (by decide) rfl (fun ls' hl' => ?_)
    refine lv_iconst hx hb' (pw_dk dc_L_look 13 rfl) (show Int32.ofInt 2 = 2 by decide) ?_
    exact W.zret hx hb' (show meth.sig.returnType = some .int from hr) (show narrow .int (.int 2) = .int 2 from rfl) (fun t ht hW => ⟨⟨some (.int 2), alL, lw_st σc σm w, rfl, ⟨rfl, rfl⟩, (fun ty2 v2 h1 h2 => by cases h1; cases h2; rfl), by rw [ht]; exact hP2, va_K.moved hW.alike hK, hD⟩, hS1.F ht⟩) hS1.2.2 (pw_dk dc_L_look 14 rfl) hlk
  · intro r u t H1 locs1 _ _ hf
    exact hf.elim
theorem lk_Met {Q : Option Value → pAL × pS → Prop} {σ : pS} {a1 a2 : Int32} (h : lk_PY Q [(0, .ref 100), (1, .int a1), (2, .int a2), (3, .ref 8000)] σ) {l : Launch} (hst : l.stackTraces = false) (D : va_G) (cy ad : Nat → Nat) (sz : Nat) :
    Met l yL_look lk_wsL (pw_R 20 1 6)
      (va_Pc (([.ref 100, .int a1, .int a2, .ref 8000] : List Value).map (pw_cv ad)) (fun U => U.heap.size = sz ∧ va_P D pw_cl (pw_ws ad cy alL σ) U.heap ∧ va_K D pw_cl (pw_tys cy) U ∧ va_D (fun _ => True) (pw_ws ad cy alL σ) ∧ pw_X ad (va_A (pw_ws ad cy alL σ) sz) U ∧ lk_X (va_A (pw_ws ad cy alL σ) sz) U))
      (pw_Q mL_look Q D cy ad (va_A (pw_ws ad cy alL σ) sz)) 1 6 (va_A (pw_ws ad cy alL σ) sz) := by
  refine MetFree.of_bodyS (code := cL_look) (maxLocals := 5) (ret := some .int) (by decide +kernel) ?_ ?_
  · intro args s m h hn
    obtain ⟨m9, meth, c, hn9, h1, h2, h3, h4, -, h5, h6, -⟩ := Cond.codeWith_spec (atoms_spec (ws := lk_wsL) h _ List.mem_cons_self)
    cases hn.symm.trans hn9
    exact ⟨meth, c, h1, h2, h3, h4, h5, h6⟩
  · intro p e s m args below meth c s₁ B hml hv _
    have hh0 : s₁.heap = s.heap := by rw [B.state]; rfl
    obtain ⟨rfl, hsz, hP, hK, hD0, hX, hLK⟩ := hv
    subst hsz
    have hts0 := atoms_spec (ws := lk_wsL) B.pre
    have hts : ∀ w ∈ pw_tb, w.before (([.ref 100, .int a1, .int a2, .ref 8000] : List Value).map (pw_cv ad)).toArray s = true := fun w hw => hts0 w (List.mem_cons_of_mem _ hw)
    have hown : s.vm.findClass RL = some m.cls := findClass_of_methodNamed B.named
    have hT : c.exceptionTable.toList = tableOf lk_hh := vx_table (x := yL_look) B (hts0 _ List.mem_cons_self)
    have hD := hD0.self (sz := s.heap.size)
    have hl := lv_entry (([.ref 100, .int a1, .int a2, .ref 8000] : List Value).map (pw_cv ad)) (n := 5) (by rw [pw_lg_len]; exact Nat.le_of_ble_eq_true rfl)
    rw [pw_lv_args] at hl
    have K : W p l e (pw_R 20 1 6) s m (([.ref 100, .int a1, .int a2, .ref 8000] : List Value).map (pw_cv ad)).toArray below meth c s.heap [] 0 0 (MQ below (pw_Q mL_look Q D cy ad (va_A (pw_ws ad cy alL σ) s.heap.size)) (([.ref 100, .int a1, .int a2, .ref 8000] : List Value).map (pw_cv ad)).toArray s 1 6 (va_A (pw_ws ad cy alL σ) s.heap.size)) (entryFrame m (([.ref 100, .int a1, .int a2, .ref 8000] : List Value).map (pw_cv ad)).toArray 5) := by
      rw [lg_entry_eq]
      exact h p l e s m _ below meth c D cy ad _ _ hst hT hLK ⟨B.exec, B.bytes, B.returns, hml, hown, hts, B.notSynchronized, hK, fun q hq => Or.inr hq, (fun i id h9 => by simp at h9), hX, (name_of_methodNamed B.named B.method).1⟩ hP hD hl
    obtain ⟨t, a1, o, b1, b2, b3⟩ := K s₁ hh0 (Stand.of_body B)
    exact ⟨t, o, a1, b1, b2, ⟨b3.1, b3.2⟩⟩
