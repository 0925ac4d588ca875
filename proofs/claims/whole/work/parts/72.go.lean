/-! The pure part: go, tried -/
def itD (T : zT) (w u : Int32) : Nat → zT → zT
  | 0, D => D
  | j + 1, D => itD T w u j (passD T w u D)
theorem okD_it {T : zT} (hT : okT T) {w u : Int32} : ∀ (j : Nat) (D : zT), okD T D → D 0 0 + j ≤ 24 → okD T (itD T w u j D) ∧ itD T w u j D 0 0 = D 0 0 + j
  | 0, D, h, hj => ⟨h, rfl⟩
  | j + 1, D, h, hj => by
    have p := okD.pass hT h (w := w) (u := u) (by omega)
    have := okD_it hT (w := w) (u := u) j _ p.1 (by omega)
    refine ⟨this.1, this.2.trans ?_⟩
    omega
theorem c_goL {b : Bool} {T : zT} {mv : Int32} {n : Nat} (hn : n ≤ 24) : ∀ (j k fu : Nat) (D : zT) (σ : zS), k + j = n → j < fu → CC b T (-1) (-1) σ → okD T D → D 0 0 + j ≤ 24 → DC T 700 D mv σ →
    ∃ σ', f_X11_go_33 fu (nI n) (nI k) σ = some (nI (D 0 0 + j), σ') ∧ DC T 700 (itD T (-1) (-1) j D) mv σ' ∧ Fc b [0, 3] σ σ'
  | j, k, 0, D, σ, hj, hf, hC, oD, h24, h => by omega
  | 0, k, fu + 1, D, σ, hj, hf, hC, oD, h24, h => by
    unfold f_X11_go_33
    rw [if_pos (nI_le (by omega) (by omega)), h.1]
    exact ⟨σ, rfl, h, Fc.rf⟩
  | j + 1, k, fu + 1, D, σ, hj, hf, hC, oD, h24, h => by
    unfold f_X11_go_33
    rw [if_neg (nI_ge (by omega) (by omega))]
    obtain ⟨σ1, e1, d1, f1⟩ := c_pass (z := 3) (.inl ⟨rfl, rfl⟩) hC oD h
    have p := okD.pass hC.1 oD (w := -1) (u := -1) (by omega)
    rw [e1, bs, nI_1]
    obtain ⟨σ2, e2, d2, f2⟩ := c_goL hn j (k + 1) fu _ σ1 (by omega) (by omega) (hC.mono f1 rfl rfl) p.1 (by omega) d1
    refine ⟨σ2, ?_, d2, f1.tr f2⟩
    rw [e2, p.2, show D 0 0 + 1 + j = D 0 0 + (j + 1) by omega]
theorem m_goL {T : zT} {mv : Int32} {n : Nat} (hn : n ≤ 24) : ∀ (j k fu : Nat) (D : zT) (σ : zS), k + j = n → j < fu → CM T (-1) (-1) σ → okD T D → D 0 0 + j ≤ 24 → DM T 0 D mv σ →
    ∃ σ', f_X12_go_41 fu (nI n) (nI k) σ = some (nI (D 0 0 + j), σ') ∧ DM T 0 (itD T (-1) (-1) j D) mv σ' ∧ Fm [0, 3] σ σ'
  | j, k, 0, D, σ, hj, hf, hC, oD, h24, h => by omega
  | 0, k, fu + 1, D, σ, hj, hf, hC, oD, h24, h => by
    unfold f_X12_go_41
    rw [if_pos (nI_le (by omega) (by omega)), rd_lit (by decide) (by decide), bs, h.1]
    exact ⟨σ, rfl, h, Fm.rf⟩
  | j + 1, k, fu + 1, D, σ, hj, hf, hC, oD, h24, h => by
    unfold f_X12_go_41
    rw [if_neg (nI_ge (by omega) (by omega))]
    obtain ⟨σ1, e1, d1, f1⟩ := m_pass (s := 0) (by omega) hC oD h
    replace e1 : f_X12_passes 0 σ = _ := e1
    have p := okD.pass hC.1 oD (w := -1) (u := -1) (by omega)
    rw [e1, bs, nI_1]
    obtain ⟨σ2, e2, d2, f2⟩ := m_goL hn j (k + 1) fu _ σ1 (by omega) (by omega) (hC.mono f1 rfl rfl) p.1 (by omega) d1
    refine ⟨σ2, ?_, d2, Fm.tr f1 f2⟩
    rw [e2, p.2, show D 0 0 + 1 + j = D 0 0 + (j + 1) by omega]
theorem o_go : op_go V := by
  intro x σc σm ⟨b, T, D, mv, h⟩
  have h0 := h.th 0
  have hT := h.oT
  have o := hT.1
  have oD := h.oD
  have o0 := oD.1
  unfold f_X11_go f_X12_go f_X11_go_31 f_X12_go_39 f_X9_forget
  simp only [lts, bs]
  rw [rd_lit (by decide) (by decide), bs, h.dc.1, h0.dm.1]
  by_cases x0 : x < 0
  · rw [if_pos x0, if_pos x0]; exact ⟨-1, σc, _, rfl, rfl, h0.v⟩
  · rw [if_neg x0, if_neg x0]
    obtain ⟨n, hn, rfl⟩ := nI_of x0
    have e24 : (24 : Int32) - nI (D 0 0) = nI (24 - D 0 0) := pk_sub (a := 24) o0
    rw [e24, nI_add]
    by_cases hle : n ≤ 24 - D 0 0
    · rw [if_pos (nI_le hle (by omega)), if_neg (show ¬ (24 : Int32) < nI n from nI_nlt (a := 24) (by omega) (by omega)), if_pos (show nI (D 0 0 + n) ≤ (24 : Int32) from nI_le (b := 24) (by omega) (by omega))]
      by_cases hz : n = 0
      · subst hz
        rw [if_pos (by decide), if_pos (by decide)]
        obtain ⟨σ1, e1, d1, f1⟩ := c_goL (b := b) (n := 0) (by omega) 0 0 FU D σc (by omega) (by unfold FU; omega) h.cc oD (by omega) h.dc
        obtain ⟨σ2, e2, d2, f2⟩ := m_goL (n := 0) (by omega) 0 0 FU D _ (by omega) (by unfold FU; omega) h0.cm oD (by omega) h0.dm
        have q1 : f_X11_go_33 FU (nI 0) 0 σc = some (nI (D 0 0), σc) := by
          show f_X11_go_33 (99999 + 1) (nI 0) 0 σc = _
          unfold f_X11_go_33
          rw [if_pos (by decide), h.dc.1]
        have q2 : f_X12_go_41 FU (nI 0) 0 (wI σm 5000 0 0) = some (nI (D 0 0), wI σm 5000 0 0) := by
          show f_X12_go_41 (99999 + 1) (nI 0) 0 _ = _
          unfold f_X12_go_41
          rw [if_pos (by decide), rd_lit (by decide) (by decide), bs, h0.dm.1]
        exact ⟨_, _, _, q1, q2, h0.v⟩
      · have hnz : ¬ nI n ≤ 0 := nI_nle (by omega) (by omega)
        rw [if_neg hnz, if_neg hnz]
        have F0 : Fc b [4] σc (wI σc 1100 0 0) := Fc.rf.wI (by cases b <;> rfl)
        have G0 : Fm [4] (wI σm 5000 0 0) (wI (wI σm 5000 0 0) 5000 46 0) := Fm.rf.wI rfl
        obtain ⟨σ1, e1, d1, f1⟩ := c_goL (b := b) (n := n) (by omega) n 0 FU D (wI σc 1100 0 0) (by omega) (by unfold FU; omega) (h.cc.mono F0 rfl rfl) oD (by omega) (DC.mono (.inl ⟨rfl, rfl⟩) h.dc F0 rfl)
        obtain ⟨σ2, e2, d2, f2⟩ := m_goL (n := n) (by omega) n 0 FU D (wI (wI σm 5000 0 0) 5000 46 0) (by omega) (by unfold FU; omega) (h0.cm.mono G0 rfl rfl) oD (by omega) (DM.mono hT h0.dm G0 rfl)
        refine ⟨nI (D 0 0 + n), σ1, σ2, e1, e2, h0.now (D' := itD T (-1) (-1) n D) (mv' := mv) ?_ ?_ ⟨(okD_it hT n D oD (by omega)).1, d1, d2⟩ ?_⟩
        · exact Fc.tr (F0.mono rfl) (f1.mono rfl)
        · exact Fm.tr (G0.mono rfl) (f2.mono rfl)
        · exact VU_nil ((f1.z (z := 4) (by cases b <;> rfl) rfl).trans rfl) ((f2.z (z := 4) rfl rfl).trans rfl)
    · rw [if_neg (nI_ge (by omega) (by omega))]
      refine ⟨-1, σc, _, rfl, ?_, h0.v⟩
      by_cases h24 : 24 < n
      · rw [if_pos (show (24 : Int32) < nI n from nI_lt (a := 24) h24 (by omega))]
      · rw [if_neg (show ¬ (24 : Int32) < nI n from nI_nlt (a := 24) (by omega) (by omega)), if_neg (show ¬ nI (D 0 0 + n) ≤ (24 : Int32) from nI_ge (a := 24) (by omega) (by omega))]
