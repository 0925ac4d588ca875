/-! look's step in the law; the claim -/
theorem f_look_kd {a1 a2 kd v : Int32} {σ : zS} (h0 : f_look a1 a2 σ = some (kd, v)) : kd = 0 ∨ kd = 1 ∨ kd = 2 := by
  have h : wpO (f_look a1 a2 σ) (fun a => a = (kd, v)) := ⟨_, h0, rfl⟩
  unfold f_look at h
  have k : ∀ {x w : Int32}, wpO (some (x, w)) (fun a => a = (kd, v)) → kd = x := fun z => ((lk_s z).1).symm
  split at h
  · exact .inr (.inl (k h))
  obtain ⟨v_5, -, -, h⟩ := wp_rdIx h
  split at h
  · exact .inl (k h)
  split at h
  · exact .inl (k h)
  split at h
  · exact .inl (k h)
  split at h
  · exact .inl (k h)
  split at h
  · obtain ⟨w_5, -, -, h⟩ := wp_rdIx h
    exact .inl (k h)
  split at h
  · obtain ⟨w_5, -, -, h⟩ := wp_rdIx h
    exact .inl (k h)
  split at h
  · obtain ⟨w_5, -, -, h⟩ := wp_rdIx h
    exact .inl (k h)
  · exact .inr (.inr (k h))
theorem lk_f1 : Cond.isRef (.static Bundle.tN "UNASSIGNED_STACK" Bundle.steD) ∈ lw_fl := by decide +kernel
theorem lk_f2 : Cond.isRef (.static Bundle.tN "SUPPRESSED_SENTINEL" Bundle.listD) ∈ lw_fl := by decide +kernel
theorem lk_f3 : Cond.not (.castable lkE2 lkE1) ∈ lw_fl := by decide +kernel
theorem lk_start {b : Nat} {s : State} (htl : ∀ w ∈ lw_tbl, w.before #[Value.ref b] s = true) (hgv : (Jvm.Cond.and given_1 narrow_1).before #[Value.ref b] s = true) : lk_X (fun q => s.heap.size ≤ q) s := by
  have hs : ∀ w ∈ lw_fl, w.before #[Value.ref b] s = true := flat_of_before _ hgv
  have hA : ∀ a : Nat, a < s.heap.size → ¬ (fun q : Nat => s.heap.size ≤ q) a := fun a h => Nat.not_le.mpr h
  have t : ∀ (i : Nat) (w : Cond), lw_tbl[i]? = some w → w.before #[Value.ref b] s = true := fun i w h => htl w (List.mem_of_getElem? h)
  obtain ⟨mk, methM, hnamed, -, -, -⟩ := Cond.instanceMethod_spec (t 1289 (.instanceMethod yX11_look) (by decide +kernel))
  have hcur : s.vm.findClass RX11 = some mk.cls := findClass_of_methodNamed hnamed
  have s1 := t 1332 (.stringRef RX11 124 "no such man") (by decide +kernel)
  have s2 := t 1375 (.stringRef RX11 155 "no such what") (by decide +kernel)
  obtain ⟨-, -, -, sa1, -, -, -, -, -, e1⟩ := Cond.stringRef_spec hcur s1
  obtain ⟨-, -, -, sa2, -, -, -, -, -, e2⟩ := Cond.stringRef_spec hcur s2
  have ini := t 141 (.initialized Bundle.tN) (by decide +kernel)
  exact ⟨⟨sa1, vk_R.of s1 e1⟩, ⟨sa2, vk_R.of s2 e2⟩, vx_Zqof (t 1319 (.laysStatic Bundle.tN "UNASSIGNED_STACK" Bundle.steD) (by decide +kernel)) ini (hs _ lk_f1) hA, vx_Zqof (t 1321 (.laysStatic Bundle.tN "SUPPRESSED_SENTINEL" Bundle.listD) (by decide +kernel)) ini (hs _ lk_f2) hA,
    ⟨va_Nw.of rfl (t 1294 (.castable lkE1 lkE1) (by decide +kernel)), va_Nw.of rfl (t 1368 (.castable lkE2 lkE2) (by decide +kernel)), va_Nw.of rfl (t 1296 (.declares lk_dR) (by decide +kernel)), va_Nw.of rfl (t 1298 (.declares lk_dE) (by decide +kernel)), va_Nw.of rfl (t 1300 (.declares lk_dT) (by decide +kernel))⟩, va_Nc.of (hs _ lk_f3)⟩
theorem lk_mgL (σ σ' : pS) : pw_eq alL (pw_mg alL σ' σ) σ' := fun c hc => ⟨fun h13 j => ⟨fun _ => by simp [pw_mg, pw_has_in hc], fun _ => by simp [pw_mg, pw_hasO_in hc h13]⟩, fun _ j _ => ⟨by simp [pw_mg, pw_has_in hc], by simp [pw_mg, pw_has_in hc]⟩⟩
theorem hlook : HLook := by
  intro L xs j k n σc σm w kd v a1 a2 hk hn h0 hcont
  have hY : lk_PY (fun r q => r = some (.int kd) ∧ q = (alL, lw_st σc σm (if kd = 0 then v.toInt64 else w))) [(0, .ref 100), (1, .int a1), (2, .int a2), (3, .ref 8000)] (lw_st σc σm w) := by
    rcases f_look_kd h0 with rfl | rfl | rfl
    · rw [if_pos rfl]; exact lk_y0 σc σm w a1 a2 v h0
    · rw [if_neg (by decide)]; exact lk_y1 σc σm w a1 a2 v h0
    · rw [if_neg (by decide)]; exact lk_y2 σc σm w a1 a2 v h0
  intro p l e s m below meth c b D cy ad H locs ls C hst hP hD hS hl
  have C2 := C
  obtain ⟨⟨hx, hb, hr, hml, hown, htl, hXs, hbl, hlk, hgv⟩, hts, hK, ho, hX, hab⟩ := C2
  have hLK := lk_start htl hgv
  have hF : ∀ z, va_A (pw_ws ad cy alL (lw_st σc σm w)) H.size z → (fun q : Nat => s.heap.size ≤ q) z := by
    intro z hz
    rcases hz with ⟨q, e9, hz⟩ | hz
    · exact hD.2 q _ hz
    · exact Nat.le_trans hS.1 hz
  refine pw_backF (M' := mL_look) (al1 := alL) (σ1 := lw_st σc σm w) (rest := []) (mc := 1) (ms := 6) (fun c h => h) hP hD (fun r al' σ' hz => by cases hz.2; rfl)
    (vx_runSW (R := room_1) (hh := lk_hh) (bytes := cL_look) (maxL := 5) (ret := some .int) (As := ([.ref 100, .int a1, .int a2, .ref 8000] : List Value).map (pw_cv ad)) (g := F0 m 370 ls (([.ref 8000, .int a2, .int a1, .ref 100] : List Value).map (pw_cv ad))) (n := 4) ⟨hx, hb, hml, hown, hts⟩ (lk_Met hY hst D cy ad H.size)
      ⟨⟨rfl, rfl, by decide, by decide, pay_in hts (fun w hw => by
          have h1 : w ∈ pw_tb := by
            rcases List.mem_cons.mp hw with e | e
            · rw [e]; exact tw_1290
            · exact e
          exact ⟨h1, good_of_word (List.mem_filter.mp h1).2⟩), List.mem_cons_self⟩, hts _ tw_1290, hts _ tw_119, ⟨by decide, by decide⟩, pw_len_of (by decide +kernel), hts _ tw_1288, hts _ tw_1289⟩
      ⟨lk_blind, fun U hU hW => ⟨rfl, by rw [hU], by rw [hU]; exact hP, va_K.moved hW.alike hK, hD.weaken (fun _ _ _ _ => trivial), hX.go hS hU hW hF, hLK.go hS hU hW hF⟩⟩
      rfl rfl hl.1 rfl (lv_room (by decide)) (pw_dk dc_L1 35 rfl) ⟨hk, hn⟩) hS hF (fun r σ' H1 locs1 hq hnr hP1 hD1 hS1 => ?_)
  obtain ⟨rfl, eq⟩ := hq
  cases eq
  exact hcont p l e s m below meth c b D cy ad H1 locs1 ls C hst (pw_P_ec (lk_mgL _ _) hP1) (pw_D_cong hD1) hS1 hl
theorem whole_start {p : Program} {e : Env} {s : State} {m : MethodId} {below : List Frame} {meth : Method} {c : Code} (l : Launch) (hst : l.stackTraces = false) {b L : Nat} {xs : Nat → Int32} (hL : L ≤ 3072) (C0 : lw_At p s m meth c b L xs) : W p l e room_1 s m #[Value.ref b] below meth c s.heap [] 0 0 (lw_Z below #[Value.ref b] s) (entryFrame m ([Value.ref b] : List Value).toArray 7) :=
  whole_start_of hlook ops_V V_start l hst hL C0
