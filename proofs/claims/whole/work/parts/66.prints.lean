/-! The pure part: print, strike, known, count, feed -/
theorem Vx.pr {b : Bool} {T D : zT} {mv : Int32} {σc σm σc' σm' : zS} (h : Vx b T D mv σc σm) (F : Fc b [9] σc σc') (G : Fm [0, 9] σm σm') (hP : VP T σc' σm') : V σc' σm' := by
  obtain ⟨h1, h2, h3, h4, h5, h6⟩ := h
  have hT : okT T := h1.1.1
  exact ⟨b, T, D, mv, h1.mono F G rfl rfl rfl rfl, h2.mono hT F G rfl rfl, h3.mono F G rfl rfl, h4.mono hT F G rfl rfl, h5.mono hT F G rfl rfl, hP⟩
theorem wI_self (σ : zS) (a k : Nat) (v : Int32) : (wI σ a k v).1 a k = v := by rw [wI_at, if_pos ⟨rfl, rfl⟩]
theorem c_add {b : Bool} {P : Nat} {σ : zS} (hP : P < 24) (h : σ.1 1200 0 = nI P) (x y z t : Int32) : ∃ σ', f_X3_add x y z t σ = some (nI P, σ') ∧ Fc b [9] σ σ' ∧ σ'.1 1200 0 = nI (P + 1) ∧ σ'.1 1200 1 = σ.1 1200 1 ∧ σ'.1 1203 P = x ∧ σ'.1 1204 P = y ∧ σ'.1 1205 P = z ∧ σ'.1 1206 P = t ∧ ∀ i k, 1203 ≤ i → k ≠ P → σ'.1 i k = σ.1 i k := by
  unfold f_X3_add
  have z9 : ∀ i k, i < 7 → List.elem (zc b (1200 + i) k) [9] = true := fun i k hi => by rw [zc9 i k hi]; rfl
  have g1 : (wI σ 1203 P x).1 1200 0 = nI P := by rw [wI_at, if_neg (by omega)]; exact h
  have g2 : (wI (wI σ 1203 P x) 1204 P y).1 1200 0 = nI P := by rw [wI_at, if_neg (by omega)]; exact g1
  have g3 : (wI (wI (wI σ 1203 P x) 1204 P y) 1205 P z).1 1200 0 = nI P := by rw [wI_at, if_neg (by omega)]; exact g2
  have g4 : (wI (wI (wI (wI σ 1203 P x) 1204 P y) 1205 P z) 1206 P t).1 1200 0 = nI P := by rw [wI_at, if_neg (by omega)]; exact g3
  rw [h, if_pos (show nI P < (24 : Int32) from nI_lt (b := 24) hP (by omega)), wr_nI (by omega) (by omega), bs, g1, wr_nI (by omega) (by omega), bs, g2, wr_nI (by omega) (by omega), bs, g3, wr_nI (by omega) (by omega), bs, lts, g4, nI_1, wI_self, nI_pred]
  refine ⟨_, rfl, ?_, ?_, ?_, ?_, ?_, ?_, ?_, ?_⟩
  · exact ((((Fc.rf.wI (z9 3 _ (by omega))).wI (z9 4 _ (by omega))).wI (z9 5 _ (by omega))).wI (z9 6 _ (by omega))).wI (z9 0 _ (by omega))
  all_goals first | rfl | (intro i k h1 h2; simp only [wI_at]; rw [if_neg (by omega), if_neg (by omega), if_neg (by omega), if_neg (by omega), if_neg (by omega)]) | simp [wI_at]
theorem o_print : op_print V := by
  intro x y z σc σm ⟨b, T, D, mv, h⟩
  have h0 := h.th 0
  have hT := h.oT
  have o := hT.1
  obtain ⟨P, lm, S, p1, p2, p3⟩ := h0.2.2.2.2.2
  unfold f_X11_print f_X12_print
  simp only [lts]
  rcases ix x (n := 100) (by omega) with hx | ⟨n, hn, rfl⟩
  · refine ⟨-1, σc, _, ?_, ?_, h0.v⟩
    all_goals
      by_cases x0 : x < 0
      · rw [if_pos x0]
      · have : (99 : Int32) < x := by
          have := hx.resolve_left x0
          rw [Int32.le_iff_toInt_le] at this
          rw [Int32.lt_iff_toInt_lt]
          have e3 : (nI 100).toInt = 100 := by decide
          have e2 : (99 : Int32).toInt = 99 := by decide
          omega
        rw [if_neg x0, if_pos this]
  · have hn9 : ¬ (99 : Int32) < nI n := nI_nlt (a := 99) (by omega) (by omega)
    rw [if_neg (nI_pos (by omega)), if_neg hn9, if_neg (nI_pos (by omega)), if_neg hn9]
    rcases ix y (n := 4) (by omega) with hy | ⟨p, hp, rfl⟩
    · rw [(pt0 hy _).1, (pt0 hy _).2.1]
      exact ⟨-1, σc, _, rfl, rfl, h0.v⟩
    · rw [(pt1 hp _).1, (pt1 hp _).2.1, if_neg n10, if_neg n10]
      unfold f_X11_isCell
      rw [h.b0, h.cc.2.1.2.1.1, rd_lit (by decide) (by decide), bs, row0 h0.cm.2.1.1 (k := 0) (by decide)]
      rcases ix z (n := T 4 0) (by omega) with hz | ⟨c, hc, rfl⟩
      · refine ⟨-1, σc, _, ?_, ?_, h0.v⟩
        all_goals
          by_cases x0 : z < 0
          · rw [if_pos x0]; first | rfl | skip
          · rw [if_neg x0, if_pos (hz.resolve_left x0)]; first | rfl | skip
      · rw [if_neg (nI_pos (by omega)), if_neg (nI_ge hc (by omega)), if_neg n10, if_neg (nI_pos (by omega)), if_neg (nI_ge hc (by omega)), p3.1]
        by_cases hP : P < 24
        · obtain ⟨σ1, a1, a2, a3, a4, a5, a6, a7, a8, a9⟩ := c_add (b := b) hP p2.1 (nI n) (nI p) (nI c) (-1)
          rw [a1, b2s, if_neg (show ¬ nI P = (24 : Int32) by show ¬ _ = nI 24; rw [nI_eq (by omega) (by omega)]; omega), wr_nI (by omega) (by omega), bs]
          have g1 : (wI (wI σm 5000 0 0) 5056 P (nI n)).1 5000 53 = nI P := by rw [wI_at, if_neg (by omega)]; exact p3.1
          have g2 : (wI (wI (wI σm 5000 0 0) 5056 P (nI n)) 5057 P (nI p)).1 5000 53 = nI P := by rw [wI_at, if_neg (by omega)]; exact g1
          have g3 : (wI (wI (wI (wI σm 5000 0 0) 5056 P (nI n)) 5057 P (nI p)) 5058 P (nI c)).1 5000 53 = nI P := by rw [wI_at, if_neg (by omega)]; exact g2
          have g4 : (wI (wI (wI (wI (wI σm 5000 0 0) 5056 P (nI n)) 5057 P (nI p)) 5058 P (nI c)) 5059 P (-1)).1 5000 53 = nI P := by rw [wI_at, if_neg (by omega)]; exact g3
          rw [g1, wr_nI (by omega) (by omega), bs, g2, wr_nI (by omega) (by omega), bs, g3, wr_nI (by omega) (by omega), bs, g4, nI_1, wI_self, nI_pred]
          refine ⟨nI P, σ1, _, rfl, rfl, h0.pr a2 ?_ ⟨P + 1, lm, fun i k => if k = P then (if i = 0 then 0 else if i = 1 then n else if i = 2 then p else c) else S i k, ?_, ?_, ?_⟩⟩
          · exact ((((Fm.rf.wI rfl).wI rfl).wI rfl).wI rfl).wI rfl
          · refine ⟨by omega, ?_, fun k hk => ?_⟩
            · rcases p1.2.1 with q | ⟨j, hj, q⟩
              · exact .inl q
              · exact .inr ⟨j, by omega, q⟩
            · dsimp only
              by_cases hkP : k = P
              · rw [if_pos hkP, if_pos hkP, if_pos hkP, if_pos hkP]
                simp only [if_true, if_false]
                refine ⟨by omega, fun _ => ⟨?_, ?_, ?_⟩⟩ <;> simp <;> omega
              · rw [if_neg hkP, if_neg hkP, if_neg hkP, if_neg hkP]; exact p1.2.2 k (by omega)
          · refine ⟨a3, a4.trans p2.2.1, fun k hk => ?_⟩
            dsimp only
            by_cases hkP : k = P
            · subst hkP
              rw [a5, a6, a7, a8]
              simp; decide
            · rw [if_neg hkP, if_neg hkP, if_neg hkP, if_neg hkP, a9 _ _ (by omega) hkP, a9 _ _ (by omega) hkP, a9 _ _ (by omega) hkP, a9 _ _ (by omega) hkP]; exact p2.2.2 k (by omega)
          · refine ⟨rfl, ?_, fun k hk => ?_⟩
            · simp only [wI_at]; rw [if_neg (by omega), if_neg (by omega), if_neg (by omega), if_neg (by omega), if_neg (by omega)]; exact p3.2.1
            · dsimp only
              by_cases hkP : k = P
              · subst hkP
                simp [wI_at]; decide
              · simp only [wI_at]
                have := p3.2.2 k (by omega)
                simp only [hkP, and_false, if_false]
                simpa [wI_at] using this
        · have : P = 24 := by have := p1.1; omega
          subst this
          unfold f_X3_add
          rw [p2.1, if_neg (show ¬ nI 24 < (24 : Int32) by decide), b2s, if_pos (show nI 24 = (24 : Int32) from rfl)]
          exact ⟨-1, σc, _, rfl, rfl, h0.v⟩
theorem o_strike : op_strike V := by
  intro x σc σm ⟨b, T, D, mv, h⟩
  have h0 := h.th 0
  have hT := h.oT
  have o := hT.1
  obtain ⟨P, lm, S, p1, p2, p3⟩ := h0.2.2.2.2.2
  have oP := p1.1
  unfold f_X11_strike f_X12_strike
  simp only [lts]
  rw [p2.1, p3.1]
  rcases ix x (n := P) (by omega) with hx | ⟨n, hn, rfl⟩
  · refine ⟨-1, σc, _, ?_, ?_, h0.v⟩
    · by_cases x0 : x < 0
      · rw [if_pos x0]
      · rw [if_neg x0, if_neg (Int32.not_lt.mpr (hx.resolve_left x0))]
    · by_cases x0 : x < 0
      · rw [if_pos x0]
      · rw [if_neg x0, if_pos (hx.resolve_left x0)]
  · rw [if_neg (nI_pos (by omega)), if_pos (nI_lt hn (by omega)), if_neg (nI_pos (by omega)), if_neg (nI_ge hn (by omega))]
    by_cases hP : P < 24
    · obtain ⟨σ1, a1, a2, a3, a4, a5, a6, a7, a8, a9⟩ := c_add (b := b) hP p2.1 0 0 0 (nI n)
      rw [a1, b2s, if_neg (show ¬ nI P = (24 : Int32) by show ¬ _ = nI 24; rw [nI_eq (by omega) (by omega)]; omega), wr_nI (by omega) (by omega), bs]
      have g1 : (wI (wI σm 5000 0 0) 5059 P (nI n)).1 5000 53 = nI P := by rw [wI_at, if_neg (by omega)]; exact p3.1
      rw [g1, nI_1, wI_self, nI_pred]
      refine ⟨nI P, σ1, _, rfl, rfl, h0.pr a2 ?_ ⟨P + 1, lm, fun i k => if k = P then n + 1 else S i k, ?_, ?_, ?_⟩⟩
      · exact (Fm.rf.wI rfl).wI rfl
      · refine ⟨by omega, ?_, fun k hk => ?_⟩
        · rcases p1.2.1 with q | ⟨j, hj, q⟩
          · exact .inl q
          · exact .inr ⟨j, by omega, q⟩
        · dsimp only
          by_cases hkP : k = P
          · rw [if_pos hkP]
            refine ⟨by omega, fun z => by omega⟩
          · rw [if_neg hkP, if_neg hkP, if_neg hkP, if_neg hkP]; exact p1.2.2 k (by omega)
      · refine ⟨a3, a4.trans p2.2.1, fun k hk => ?_⟩
        dsimp only
        by_cases hkP : k = P
        · subst hkP
          rw [if_pos rfl, a8, nI_pred]
          exact ⟨rfl, fun z => by omega⟩
        · rw [if_neg hkP, if_neg hkP, if_neg hkP, if_neg hkP, a9 _ _ (by omega) hkP, a9 _ _ (by omega) hkP, a9 _ _ (by omega) hkP, a9 _ _ (by omega) hkP]; exact p2.2.2 k (by omega)
      · refine ⟨rfl, ?_, fun k hk => ?_⟩
        · simp only [wI_at]; rw [if_neg (by omega), if_neg (by omega)]; exact p3.2.1
        · dsimp only
          by_cases hkP : k = P
          · subst hkP
            rw [if_pos rfl, nI_pred]
            refine ⟨by simp [wI_at], fun z => by omega⟩
          · simp only [wI_at]
            have := p3.2.2 k (by omega)
            simp only [hkP, and_false, if_false]
            simpa [wI_at] using this
    · have : P = 24 := by omega
      subst this
      unfold f_X3_add
      rw [p2.1, if_neg (show ¬ nI 24 < (24 : Int32) by decide), b2s, if_pos (show nI 24 = (24 : Int32) from rfl)]
      exact ⟨-1, σc, _, rfl, rfl, h0.v⟩
theorem o_known : op_known V := by
  intro x σc σm ⟨b, T, D, mv, h⟩
  have h0 := h.th 0
  have hT := h.oT
  obtain ⟨P, lm, S, p1, p2, p3⟩ := h0.2.2.2.2.2
  have oP := p1.1
  unfold f_X11_known f_X12_known
  simp only [lts]
  rw [p2.1, p3.1]
  by_cases x1 : x < -1
  · rw [if_pos x1, if_pos x1]; exact ⟨0, σc, _, rfl, rfl, h0.v⟩
  · rw [if_neg x1, if_neg x1]
    by_cases xP : x ≤ nI P
    · rw [if_pos xP, if_pos xP]
      refine ⟨1, _, _, rfl, rfl, h0.pr (Fc.rf.wI (by cases b <;> rfl)) (Fm.rf.wI rfl) ⟨P, x, S, ⟨p1.1, ?_, p1.2.2⟩, ?_, ?_⟩⟩
      · by_cases x0 : x < 0
        · left
          rw [Int32.lt_iff_toInt_lt] at x0 x1
          have e1 : (-1 : Int32).toInt = -1 := by decide
          have e0 : (0 : Int32).toInt = 0 := by decide
          exact Int32.toInt_inj.mp (by omega)
        · right
          obtain ⟨j, hj, rfl⟩ := nI_of x0
          exact ⟨j, by rwa [nI_leI (by omega) (by omega)] at xP, rfl⟩
      · obtain ⟨q1, q2, q3⟩ := p2
        exact ⟨q1, rfl, q3⟩
      · obtain ⟨q1, q2, q3⟩ := p3
        exact ⟨q1, rfl, q3⟩
    · rw [if_neg xP, if_neg xP]; exact ⟨0, σc, _, rfl, rfl, h0.v⟩
