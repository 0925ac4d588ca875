/-! The pure part: days by chance, of the reference -/
theorem m_chM {N : Nat → Nat} (hN : HN N) {T : zT} {mv : Int32} (r : Int32 → Int32 → Int32 → Int32 → zS → Option (Int32 × zS)) (x2 x3 x5 x6 : Int32) : ∀ (j k fu : Nat) (D : zT) (l : Nat) (σ : zS), k + j = T 4 2 → j < fu → l < 2 ^ 31 → CM T (-1) (-1) σ → okD T D → DM T 1 D mv σ → σ.1 5040 1 = nI l →
    ∃ σ', f_X12_chance_73 r fu x2 x3 x5 x6 (nI k) σ = ((f_X12_passes 1 σ').bind fun σ_6 => r x2 x3 x5 x6 σ_6) ∧ DM T 1 (chM N T j k D l).1 mv σ' ∧ σ'.1 5040 1 = nI (chM N T j k D l).2 ∧ Fm [0, 7, 10] σ σ'
  | j, k, 0, D, l, σ, hj, hf, hl, hC, oD, h, hd => by omega
  | 0, k, fu + 1, D, l, σ, hj, hf, hl, hC, oD, h, hd => by
    have o := hC.1.1
    unfold f_X12_chance_73
    rw [rd_lit (by decide) (by decide), bs, row0 hC.2.1.1 (k := 2) (by decide), if_pos (nI_le (by omega) (by omega))]
    exact ⟨σ, rfl, h, hd, Fm.rf⟩
  | j + 1, k, fu + 1, D, l, σ, hj, hf, hl, hC, oD, h, hd => by
    have o := hC.1.1
    have om := oD.2.1 k (by omega)
    have nl := (hN l hl).1
    have p := okD_mv oD (v := drw (N l)) (show k < T 4 2 by omega)
    have e3 : (((wI σ 5040 1 (nI (N l))).1 5040 1) >>> ((16 : Int32) &&& 31)) - (((wI σ 5040 1 (nI (N l))).1 5040 1) >>> ((16 : Int32) &&& 31)) / (6 : Int32) * (6 : Int32) = nI (drw (N l)) := by
      rw [wI_self]; exact m_drw nl
    have F1 : Fm [10] σ (wI σ 5040 1 (nI (N l))) := Fm.rf.wI rfl
    have C1 := hC.mono F1 rfl rfl
    have d1 := DM.mono hC.1 h F1 rfl
    unfold f_X12_chance_73 f_X12_chance_122 f_X12_draw
    rw [rd_lit (by decide) (by decide), bs, row0 hC.2.1.1 (k := 2) (by decide), if_neg (nI_ge (by omega) (by omega)), m_five, rd_nI (by omega) (by omega), bs, h.2.2.1 k (by omega), rd_lit (by decide) (by decide), bs, hd, (hN l hl).2.2, wr_lit (by decide) (by decide), bs, rd_lit (by decide) (by decide), bs, if_neg (by decide), e3, b2s, m_moved hC.1 C1.2.1 om.1 (drw_lt _), bs, nI_1]
    have key : ∀ σ', DM T 1 (mvD T D k (drw (N l))) mv σ' → σ'.1 5040 1 = nI (N l) → Fm [0, 7, 10] σ σ' → ∃ σ2, f_X12_chance_73 r fu x2 x3 x5 x6 (nI (k + 1)) σ' = ((f_X12_passes 1 σ2).bind fun σ_6 => r x2 x3 x5 x6 σ_6) ∧ DM T 1 (chM N T (j + 1) k D l).1 mv σ2 ∧ σ2.1 5040 1 = nI (chM N T (j + 1) k D l).2 ∧ Fm [0, 7, 10] σ σ2 := by
      intro σ' h' hd' F'
      obtain ⟨σ2, e2, d2, g2, f2⟩ := m_chM hN r x2 x3 x5 x6 j (k + 1) fu _ (N l) σ' (by omega) (by omega) nl (hC.mono F' rfl rfl) p.1 h' hd'
      exact ⟨σ2, e2, d2, g2, F'.tr f2⟩
    unfold mvD at key
    cases e : mvd (T 4 0) (D 1 k) (drw (N l)) with
    | none =>
      rw [e] at key
      rw [if_pos (show oI none = -1 from rfl)]
      exact key _ d1 rfl (F1.mono rfl)
    | some t =>
      rw [e] at key
      have ht := mvd_lt om.1 e
      rw [if_neg (show ¬ oI (some t) = -1 from nI_nm1 (by omega)), wr_nI (by omega) (by omega), bs]
      refine key _ (d1.up (i := 1) (by omega)) ?_ ?_
      · rw [wI_at, if_neg (by omega)]; rfl
      · exact (F1.mono rfl).wI (by rw [zmC (by omega) (by omega)]; rfl)
theorem m_chH {N : Nat → Nat} (hN : HN N) {T : zT} {mv : Int32} (r : Int32 → Int32 → Int32 → Int32 → Int32 → zS → Option (Int32 × zS)) {m n : Nat} (x5 x6 : Int32) (hm : m < T 4 2) (hn : n ≤ 12) : ∀ (j fu : Nat) (D : zT) (l : Nat) (σ : zS), D 0 0 + j = 24 → j < fu → l < 2 ^ 31 → CM T (-1) (-1) σ → okD T D → DM T 1 D mv σ → σ.1 5040 1 = nI l →
    ∃ σ', f_X12_chance_59 r fu (nI m) (nI n) x5 x6 σ = f_X12_chance_161 r (nI m) (nI n) (nI (chH N T j D l).2) x6 x5 (if dbS T ((chH N T j D l).1 4) m (T 4 3) 0 0 < n then 0 else 1) σ' ∧ Fm [0, 7, 10] σ σ' ∧ (chH N T j D l).2 < 2 ^ 31
  | j, 0, D, l, σ, hj, hf, hl, hC, oD, h, hd => by omega
  | 0, fu + 1, D, l, σ, hj, hf, hl, hC, oD, h, hd => by
    have o := hC.1.1
    have e3 := m_db hC.1 hC.2.1 hm h.2.2.2.2.2 oD.2.2 (T 4 3) 0 0 FU (by omega) (by omega) (by unfold FU; omega)
    replace e3 : f_X12_doneBy 1 (nI m) σ = _ := e3
    have dl := dbS_le T (D 4) m (T 4 3) 0 0
    unfold f_X12_chance_59
    rw [rd_lit (by decide) (by decide), bs, h.1, if_pos (show (24 : Int32) ≤ nI (D 0 0) from nI_le (a := 24) (by omega) (by omega)), rd_lit (by decide) (by decide), bs, hd, e3, bs]
    refine ⟨σ, ?_, Fm.rf, hl⟩
    show _ = f_X12_chance_161 r (nI m) (nI n) (nI l) x6 x5 (if dbS T (D 4) m (T 4 3) 0 0 < n then 0 else 1) σ
    by_cases hlt : dbS T (D 4) m (T 4 3) 0 0 < n
    · rw [if_pos (nI_lt hlt (by omega)), if_pos hlt]
    · rw [if_neg (nI_nlt (by omega) (by omega)), if_neg hlt]
  | j + 1, fu + 1, D, l, σ, hj, hf, hl, hC, oD, h, hd => by
    have o := hC.1.1
    unfold f_X12_chance_59
    rw [rd_lit (by decide) (by decide), bs, h.1, if_neg (show ¬ (24 : Int32) ≤ nI (D 0 0) from nI_ge (b := 24) (by omega) (by omega))]
    obtain ⟨σ1, e1, d1, g1, f1⟩ := m_chM hN (f_X12_chance_59 r fu) (nI m) (nI n) x5 x6 (T 4 2) 0 FU D l σ (by omega) (by unfold FU; omega) hl hC oD h hd
    replace e1 : f_X12_chance_73 (f_X12_chance_59 r fu) FU (nI m) (nI n) x5 x6 0 σ = _ := e1
    have q := okD_ch hN (T 4 2) 0 D l (by omega) oD hl
    obtain ⟨σ2, e2, d2, f2⟩ := m_pass (s := 1) (by omega) (hC.mono f1 rfl rfl) q.1 d1
    replace e2 : f_X12_passes 1 σ1 = _ := e2
    rw [e1, e2, bs]
    have p := okD.pass hC.1 q.1 (w := -1) (u := -1) (by omega)
    obtain ⟨σ3, e3, f3, l3⟩ := m_chH hN r x5 x6 hm hn j fu _ _ σ2 (by omega) (by omega) q.2.2 ((hC.mono f1 rfl rfl).mono f2 rfl rfl) p.1 d2 ((f2.z (z := 10) rfl rfl).trans g1)
    exact ⟨σ3, e3, (f1.tr (Fm.mono (Z := [0, 7]) f2 rfl)).tr f3, l3⟩
theorem m_ch {N : Nat → Nat} (hN : HN N) {T D : zT} {mv : Int32} {m n : Nat} (hm : m < T 4 2) (hn : n ≤ 12) (oD : okD T D) : ∀ (j k a l fu : Nat) (σ : zS), k + j = 10 → l < 2 ^ 31 → j < fu → CM T (-1) (-1) σ → DM T 0 D mv σ →
    ∃ σ', f_X12_chance_38 fu (nI m) (nI n) (nI l) (nI a) (nI k) σ = some (nI (chS N T D m n j a l), σ') ∧ Fm [0, 7, 10] σ σ'
  | j, k, a, l, 0, σ, hj, hl, hf, hC, h => by omega
  | 0, k, a, l, fu + 1, σ, hj, hl, hf, hC, h => by
    unfold f_X12_chance_38
    rw [if_pos (show (10 : Int32) ≤ nI k from nI_le (a := 10) (by omega) (by omega))]
    exact ⟨σ, rfl, Fm.rf⟩
  | j + 1, k, a, l, fu + 1, σ, hj, hl, hf, hC, h => by
    have o := hC.1.1
    have o0 := oD.1
    obtain ⟨σ1, e1, f1, d1⟩ := m_copy (t := 1) (s := 0) (by decide) (by decide) (by decide) σ
    replace e1 : f_X12_copies 1 0 σ = _ := e1
    have F1 : Fm [0, 7, 10] σ σ1 := (slotF f1).mono rfl
    have F2 : Fm [0, 7, 10] σ (wI σ1 5040 1 (nI l)) := F1.wI rfl
    have W : Fm [10] σ1 (wI σ1 5040 1 (nI l)) := Fm.rf.wI rfl
    have dm1 := DM.mono hC.1 (d1 T D mv hC.1 h) W rfl
    obtain ⟨σ2, e2, f2, l2⟩ := m_chH hN (f_X12_chance_38 fu) (nI a) (nI k) hm hn (24 - D 0 0) FU D l (wI σ1 5040 1 (nI l)) (by omega) (by unfold FU; omega) hl (hC.mono F2 rfl rfl) oD dm1 rfl
    unfold f_X12_chance_38
    rw [if_neg (show ¬ (10 : Int32) ≤ nI k from nI_ge (b := 10) (by omega) (by omega)), e1, bs, wr_lit (by decide) (by decide), bs, e2]
    unfold f_X12_chance_161
    rw [lts, nI_1]
    have F3 := F2.tr f2
    unfold chS
    have nx : ∀ a', ∃ σ', f_X12_chance_38 fu (nI m) (nI n) (nI (chH N T (24 - D 0 0) D l).2) (nI a') (nI (k + 1)) σ2 = some (nI (chS N T D m n j a' (chH N T (24 - D 0 0) D l).2), σ') ∧ Fm [0, 7, 10] σ σ' := by
      intro a'
      obtain ⟨σ3, e3, f3⟩ := m_ch hN hm hn oD j (k + 1) a' _ fu σ2 (by omega) l2 (by omega) (hC.mono F3 rfl rfl) (DM.mono hC.1 h F3 rfl)
      exact ⟨σ3, e3, F3.tr f3⟩
    by_cases hlt : dbS T ((chH N T (24 - D 0 0) D l).1 4) m (T 4 3) 0 0 < n
    · rw [if_pos hlt, if_pos hlt, show nI a + 0 = nI a from by show nI a + nI 0 = _; rw [nI_add]; rfl]
      exact nx a
    · rw [if_neg hlt, if_neg hlt, nI_1]
      exact nx (a + 1)
theorem o_chance : op_chance V := by
  intro x y z σc σm ⟨b, T, D, mv, h⟩
  have h0 := h.th 0
  have hT := h.oT
  have o := hT.1
  have oD := h.oD
  unfold f_X11_chance f_X12_chance
  simp only [lts]
  by_cases x0 : x < 0
  · rw [if_pos x0, if_pos x0]; exact ⟨-1, σc, _, rfl, rfl, h0.v⟩
  · obtain ⟨l, hl, rfl⟩ := nI_of x0
    rw [if_neg x0, if_neg x0]
    rcases ix y (n := T 4 2) (by omega) with hy | ⟨m, hm, rfl⟩
    · rw [c_man0 h.cc.2.1 hy, m_man0 h0.cm.2.1 hy, bs, if_pos rfl, if_pos rfl]; exact ⟨-1, σc, _, rfl, rfl, h0.v⟩
    · rw [c_man1 hT h.cc.2.1 hm, m_man1 hT h0.cm.2.1 hm, bs, if_neg n10, if_neg n10]
      rcases ix z (n := 13) (by omega) with hz | ⟨n, hn, rfl⟩
      · refine ⟨-1, σc, _, ?_, ?_, h0.v⟩
        all_goals
          by_cases zz0 : z < 0
          · rw [if_pos zz0]
          · have : ¬ z ≤ 12 := by
              have := hz.resolve_left zz0
              rw [Int32.le_iff_toInt_le] at *
              have e3 : (nI 13).toInt = 13 := by decide
              have e2 : (12 : Int32).toInt = 12 := by decide
              omega
            rw [if_neg zz0, if_neg this]
      · have h12 : nI n ≤ (12 : Int32) := nI_le (b := 12) (by omega) (by omega)
        rw [if_neg (nI_pos (by omega)), if_pos h12, if_neg (nI_pos (by omega)), if_pos h12, nI_l hl]
        obtain ⟨σ1, e1, f1⟩ := c_ch HN_nxt (b := b) hm (show n ≤ 12 by omega) oD 10 0 0 l FU σc (by omega) hl (by unfold FU; omega) h.cc h.dc
        obtain ⟨σ2, e2, f2⟩ := m_ch HN_nxt hm (show n ≤ 12 by omega) oD 10 0 0 l FU _ (by omega) hl (by unfold FU; omega) h0.cm h0.dm
        exact ⟨_, σ1, σ2, e1, e2, (h0.scr (f1.mono rfl) (f2.mono rfl)).v⟩
