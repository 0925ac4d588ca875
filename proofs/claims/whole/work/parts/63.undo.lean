/-! The pure part: keep, back, undo -/
theorem o_keep : op_keep V := by
  intro σc σm ⟨b, T, D, mv, h⟩
  have h0 := h.th 0
  obtain ⟨h1, h2, h3, h4, h5, h6⟩ := h0
  obtain ⟨σ1, e1, d1, f1⟩ := c_copy (b := b) (dy := 800) (z := 5) (d1 := 700) (z1 := 3) (.inr (.inl ⟨rfl, rfl⟩)) (.inl ⟨rfl, rfl⟩) (by decide) h.oT h.dc
  obtain ⟨σ2, e2, f2, d2⟩ := m_copy (t := 2) (s := 0) (by decide) (by decide) (by decide) (wI σm 5000 0 0)
  replace e2 : f_X12_copies 2 0 (wI σm 5000 0 0) = _ := e2
  have F : Fc b [5] σc (wI σ1 100 10 1) := f1.wI rfl
  have G2 : Fm [0, 10, 5] (wI σm 5000 0 0) σ2 := slotF f2
  have G : Fm [0, 10, 5] (wI σm 5000 0 0) (wI σ2 5000 45 1) := G2.wI rfl
  have b2' : VB T D mv (wI σ1 100 10 1) (wI σ2 5000 45 1) := h2.mono h.oT F G rfl rfl
  have hT := h.oT
  refine ⟨nI (D 0 0), wI σ1 100 10 1, wI σ2 5000 45 1, ?_, ?_, ⟨b, T, D, mv, h1.mono F G rfl rfl rfl rfl, b2', h3.mono F G rfl rfl, ?_, h5.mono hT F G rfl rfl, h6.mono F G rfl rfl⟩⟩
  · unfold f_X11_keep
    rw [e1, bs, lts, b2'.2.1.1]
  · unfold f_X12_keep
    rw [lts, e2, bs, lts, rd_lit (by decide) (by decide), bs, b2'.2.2.1]
  · refine .inr ⟨rfl, rfl, D, mv, h2.1, ?_, ?_⟩
    · obtain ⟨a0, a1, a2, a3, a4, a5⟩ := d1
      exact ⟨a0, a1, a2, a3, a4, a5⟩
    · obtain ⟨a0, a1, a2, a3, a4, a5⟩ := d2 T D mv hT h2.2.2
      exact ⟨a0, a1, a2, a3, a4, a5⟩
theorem VU_nil {T D : zT} {mv : Int32} {σc σm : zS} (h1 : σc.1 1100 0 = 0) (h2 : σm.1 5000 46 = 0) : VU T D mv σc σm :=
  ⟨0, fun _ => D, fun _ => mv, fun _ => 0, by omega, h1, h2, rfl, rfl, fun k hk => by omega⟩
theorem o_back : op_back V := by
  intro σc σm ⟨b, T, D, mv, h⟩
  have h0 := h.th 0
  have hT := h.oT
  obtain ⟨h1, h2, h3, h4, h5, h6⟩ := h0
  unfold f_X11_back f_X12_back f_X9_forget
  rw [lts]
  rcases h4 with ⟨z1, z2⟩ | ⟨z1, z2, D', mv', oD', dc', dm'⟩
  · rw [z1, z2, if_pos rfl, if_pos rfl]
    exact ⟨-1, σc, _, rfl, rfl, (h.th 0).v⟩
  · rw [z1, z2, if_neg n10, if_neg n10]
    obtain ⟨σ1, e1, d1, f1⟩ := c_copy (b := b) (dy := 700) (z := 3) (d1 := 800) (z1 := 5) (.inl ⟨rfl, rfl⟩) (.inr (.inl ⟨rfl, rfl⟩)) (by decide) hT dc'
    obtain ⟨σ2, e2, f2, d2⟩ := m_copy (t := 0) (s := 2) (by decide) (by decide) (by decide) (wI σm 5000 0 0)
    replace e2 : f_X12_copies 0 2 (wI σm 5000 0 0) = _ := e2
    have F1 : Fc b [3, 4] σc σ1 := f1.mono rfl
    have F : Fc b [3, 4] σc (wI σ1 1100 0 0) := F1.wI (by cases b <;> rfl)
    have G1 : Fm [0, 3, 4, 10] (wI σm 5000 0 0) σ2 := (slotF f2).mono rfl
    have G : Fm [0, 3, 4, 10] (wI σm 5000 0 0) (wI σ2 5000 46 0) := G1.wI rfl
    have b2' : VB T D' mv' (wI σ1 1100 0 0) (wI σ2 5000 46 0) := by
      refine ⟨oD', ?_, ?_⟩
      · exact DC.mono (.inl ⟨rfl, rfl⟩) d1 (Fc.wI (b := b) (Z := [4]) Fc.rf (by cases b <;> rfl)) rfl
      · exact DM.mono hT (d2 T D' mv' hT dm') (Fm.wI (Z := [4]) Fm.rf rfl) rfl
    rw [e1, bs, lts, bs, e2, bs, lts, rd_lit (by decide) (by decide), bs, b2'.2.1.1, b2'.2.2.1]
    exact ⟨_, _, _, rfl, rfl, ⟨b, T, D', mv', h1.mono F G rfl rfl rfl rfl, b2', h3.mono F G rfl rfl, VI.mono hT (.inr ⟨z1, z2, D', mv', oD', dc', dm'⟩) F G rfl rfl, VU_nil rfl rfl, h6.mono F G rfl rfl⟩⟩
theorem o_undo : op_undo V := by
  intro σc σm ⟨b, T, D, mv, h⟩
  have h0 := h.th 0
  have hT := h.oT
  have o := hT.1
  obtain ⟨h1, h2, h3, h4, h5, h6⟩ := h0
  obtain ⟨U, E, M, a, u1, u2, u3, u4, u5, u6⟩ := h5
  unfold f_X11_undo f_X9_takeBack f_X12_undo
  simp only [lts]
  rw [u2, u3]
  cases U with
  | zero =>
    rw [if_neg (by decide), b2s, if_pos (show nI 0 = 0 from rfl)]
    exact ⟨-1, σc, _, rfl, rfl, (h.th 0).v⟩
  | succ U =>
    obtain ⟨p1, p2, p3, p4, p5, p6, p7, p8, p9⟩ := u6 U (by omega)
    have hU : σc.1 1100 0 = nI (U + 1) := u2
    rw [if_pos (show (0 : Int32) < nI (U + 1) from nI_lt (a := 0) (by omega) (by omega)), if_neg (show ¬ nI (U + 1) = 0 by show ¬ _ = nI 0; rw [nI_eq (by omega) (by omega)]; omega), nI_pred]
    have s1 : (wI σc 1100 0 (nI U)).1 1100 0 = nI U := rfl
    have r2 : ∀ σ : zS, σ.1 1100 0 = nI U → ∀ i, rdI σ i 20 (σ.1 1100 0) = some (σ.1 i U) := fun σ hσ i => by rw [hσ, rd_nI (by omega) (by omega)]
    have g0 : (wI σc 1100 0 (nI U)).1 1102 U = nI (a U) := by rw [wI_at, if_neg (by omega)]; exact p5
    have g1 : (wI σc 1100 0 (nI U)).1 1103 U = nI (E U 1 (a U)) := by rw [wI_at, if_neg (by omega)]; exact p6
    rw [r2 _ s1, bs, g0, r2 _ s1, bs, g1, wr_nI (by omega) (by omega), bs]
    have g2 : (wI (wI σc 1100 0 (nI U)) (700 + 3) (a U) (nI (E U 1 (a U)))).1 1104 U = nI (E U 2 (a U)) := by
      rw [wI_at, if_neg (by omega), wI_at, if_neg (by omega)]; exact p7
    rw [r2 _ (by rw [wI_at, if_neg (by omega)]; rfl), bs, g2, wr_nI (by omega) (by omega), bs]
    have g3 : (wI (wI (wI σc 1100 0 (nI U)) (700 + 3) (a U) (nI (E U 1 (a U)))) (700 + 4) (a U) (nI (E U 2 (a U)))).1 1105 U = nI (E U 3 (a U)) := by
      rw [wI_at, if_neg (by omega), wI_at, if_neg (by omega), wI_at, if_neg (by omega)]; exact p8
    rw [r2 _ (by rw [wI_at, if_neg (by omega), wI_at, if_neg (by omega)]; rfl), bs, g3, wr_nI (by omega) (by omega), bs]
    have g4 : (wI (wI (wI (wI σc 1100 0 (nI U)) (700 + 3) (a U) (nI (E U 1 (a U)))) (700 + 4) (a U) (nI (E U 2 (a U)))) (700 + 5) (a U) (nI (E U 3 (a U)))).1 1106 U = M U := by
      rw [wI_at, if_neg (by omega), wI_at, if_neg (by omega), wI_at, if_neg (by omega), wI_at, if_neg (by omega)]; exact p9
    rw [r2 _ (by rw [wI_at, if_neg (by omega), wI_at, if_neg (by omega), wI_at, if_neg (by omega)]; rfl), bs, g4, b2s]
    have gz : (wI (wI (wI (wI (wI σc 1100 0 (nI U)) (700 + 3) (a U) (nI (E U 1 (a U)))) (700 + 4) (a U) (nI (E U 2 (a U)))) (700 + 5) (a U) (nI (E U 3 (a U)))) 700 1 (M U)).1 1100 0 = nI U := by
      rw [wI_at, if_neg (by omega), wI_at, if_neg (by omega), wI_at, if_neg (by omega), wI_at, if_neg (by omega)]; rfl
    rw [gz]
    have F : Fc b [3, 4] σc (wI (wI (wI (wI (wI σc 1100 0 (nI U)) (700 + 3) (a U) (nI (E U 1 (a U)))) (700 + 4) (a U) (nI (E U 2 (a U)))) (700 + 5) (a U) (nI (E U 3 (a U)))) 700 1 (M U)) :=
      ((((Fc.rf.wI (by cases b <;> rfl)).wI (by cases b <;> rfl)).wI (by cases b <;> rfl)).wI (by cases b <;> rfl)).wI (by cases b <;> rfl)
    obtain ⟨σ2, e2, f2, d2⟩ := m_copy (t := 0) (s := 3 + U) (by decide) (by omega) (by omega) (wI (wI σm 5000 0 0) 5000 46 (nI U))
    replace e2 : f_X12_copies 0 (3 + nI U) (wI (wI σm 5000 0 0) 5000 46 (nI U)) = some σ2 := by
      rw [← e2]; show _ = f_X12_copies 0 _ _; rw [← nI_add]; rfl
    rw [show (wI (wI σm 5000 0 0) 5000 46 (nI U)).1 5000 46 = nI U from rfl, e2, bs]
    have G0 : Fm [0, 3, 4, 10] (wI σm 5000 0 0) (wI (wI σm 5000 0 0) 5000 46 (nI U)) := Fm.rf.wI rfl
    have G : Fm [0, 3, 4, 10] (wI σm 5000 0 0) σ2 := G0.tr ((slotF f2).mono rfl)
    have gm : σ2.1 5000 46 = nI U := (f2.2 5000 46 rfl).trans rfl
    rw [gm]
    have W4 : Fm [4] (wI σm 5000 0 0) (wI (wI σm 5000 0 0) 5000 46 (nI U)) := Fm.rf.wI rfl
    have keepS : ∀ k, k < U + 1 → DM T (3 + k) (E k) (M k) σ2 := by
      intro k hk
      obtain ⟨q1, q2, q3, -⟩ := u6 k hk
      have q3' : DM T (3 + k) (E k) (M k) (wI (wI σm 5000 0 0) 5000 46 (nI U)) := q3
      exact q3'.slot hT f2 (by omega)
    refine ⟨nI U, _, σ2, rfl, rfl, ⟨b, T, E U, M U, h1.mono F G rfl rfl rfl rfl, ⟨p2, ?_, ?_⟩, h3.mono F G rfl rfl, h4.mono hT F G rfl rfl, ?_, h6.mono F G rfl rfl⟩⟩
    · obtain ⟨c0, c1, c2, c3, c4, c5⟩ := h.dc
      obtain ⟨q0, q1, q2⟩ := p4
      rw [u4] at q0 q1 q2
      refine ⟨?_, ?_, ?_, ?_, ?_, ?_⟩
      · simp only [wI_at]; rw [if_neg (by omega), if_neg (by omega), if_neg (by omega), if_neg (by omega), if_neg (by omega), q0]; exact c0
      · rw [wI_at, if_pos ⟨rfl, rfl⟩]
      · intro k hk
        simp only [wI_at]
        rw [if_neg (by omega), if_neg (by omega), if_neg (by omega)]
        by_cases hka : k = a U
        · rw [if_pos (by simp [hka]), hka]
        · rw [if_neg (by omega), if_neg (by omega), (q1 k hk hka).1]; exact c2 k hk
      · intro k hk
        simp only [wI_at]
        rw [if_neg (by omega), if_neg (by omega)]
        by_cases hka : k = a U
        · rw [if_pos (by simp [hka]), hka]
        · rw [if_neg (by omega), if_neg (by omega), if_neg (by omega), (q1 k hk hka).2.1]; exact c3 k hk
      · intro k hk
        simp only [wI_at]
        rw [if_neg (by omega)]
        by_cases hka : k = a U
        · rw [if_pos (by simp [hka]), hka]
        · rw [if_neg (by omega), if_neg (by omega), if_neg (by omega), if_neg (by omega), (q1 k hk hka).2.2]; exact c4 k hk
      · intro k hk
        simp only [wI_at]
        rw [if_neg (by omega), if_neg (by omega), if_neg (by omega), if_neg (by omega), if_neg (by omega), q2 k hk]; exact c5 k hk
    · have q3' : DM T (3 + U) (E U) (M U) (wI (wI σm 5000 0 0) 5000 46 (nI U)) := p3
      exact d2 T (E U) (M U) hT q3'
    · refine ⟨U, E, M, a, by omega, gz, gm, rfl, rfl, fun k hk => ?_⟩
      obtain ⟨q1, q2, q3, q4, q5, q6, q7, q8, q9⟩ := u6 k (by omega)
      refine ⟨q1, q2, keepS k (by omega), q4, ?_, ?_, ?_, ?_, ?_⟩ <;> (simp only [wI_at]; rw [if_neg (by omega), if_neg (by omega), if_neg (by omega), if_neg (by omega), if_neg (by omega)]) <;> assumption
