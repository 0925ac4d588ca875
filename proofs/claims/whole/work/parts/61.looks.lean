/-! The pure part: look, land, part, lawful, law, deed, clash -/
theorem lm2 : ∀ s, s < 192 → (nI s / (2 : Int32)) - (nI s / (2 : Int32)) / (2 : Int32) * (2 : Int32) = nI (s / 2 % 2) ∧ nI s - nI s / (2 : Int32) * (2 : Int32) = nI (s % 2) := by decide +kernel
theorem DM.s0 {T D : zT} {mv : Int32} {σ : zS} (h : DM T 0 D mv σ) {m : Nat} (hm : m < T 4 2) : σ.1 5042 m = nI (D 1 m) ∧ σ.1 5043 m = nI (D 2 m) ∧ σ.1 5044 m = nI (D 3 m) :=
  ⟨rowS h.2.2.1 hm (by omega), rowS h.2.2.2.1 hm (by omega), rowS h.2.2.2.2.1 hm (by omega)⟩
theorem DC.s0 {T D : zT} {mv : Int32} {dy : Nat} {σ : zS} (h : DC T dy D mv σ) {m : Nat} (hm : m < T 4 2) : σ.1 (dy + 3) m = nI (D 1 m) ∧ σ.1 (dy + 4) m = nI (D 2 m) ∧ σ.1 (dy + 5) m = nI (D 3 m) :=
  ⟨row0 h.2.2.1 hm, row0 h.2.2.2.1 hm, row0 h.2.2.2.2.1 hm⟩
theorem DC.s7 {T D : zT} {mv : Int32} {σ : zS} (h : DC T 700 D mv σ) {m : Nat} (hm : m < T 4 2) : σ.1 703 m = nI (D 1 m) ∧ σ.1 704 m = nI (D 2 m) ∧ σ.1 705 m = nI (D 3 m) := h.s0 hm
theorem n10 : ¬ (1 : Int32) = 0 := by decide
theorem look7 (x : Int32) : (¬ x < 0 ∧ x ≤ 6) ↔ (x = 0 ∨ x = 1 ∨ x = 2 ∨ x = 3 ∨ x = 4 ∨ x = 5 ∨ x = 6) := by
  constructor
  · rintro ⟨h0, h1⟩
    obtain ⟨j, hj, rfl⟩ := nI_of2 (n := 6) (by decide) h0 h1
    have : j = 0 ∨ j = 1 ∨ j = 2 ∨ j = 3 ∨ j = 4 ∨ j = 5 ∨ j = 6 := by omega
    rcases this with rfl | rfl | rfl | rfl | rfl | rfl | rfl <;> simp [nI]
  · rintro (rfl | rfl | rfl | rfl | rfl | rfl | rfl) <;> decide
theorem o_look : op_look V := by
  intro x y σc σm ⟨b, T, D, mv, h⟩
  have o := h.oT.1
  have oD := h.oD
  rcases ix x (n := T 4 2) (by omega) with hx | ⟨m, hm, rfl⟩
  · refine ⟨1, 0, 0, wI σm 5000 0 1, ?_, ?_, rfl, fun _ => rfl, (h.th 1).v⟩
    · unfold f_look; rw [c_man0 h.cc.2.1 hx, if_pos rfl]
    · unfold f_X12_look f_X12_look_28
      rw [m_man0 h.cm.2.1 hx, bs, if_pos rfl, lts, if_neg (show ¬ (wI σm 5000 0 1).1 5000 0 = 0 from n10)]
  · have dc := h.dc.s7 hm
    have od := oD.2.1 m hm
    have hs : D 1 m < 192 := by omega
    have hh : σc.1 (tv b + 10) m = nI (T 12 m) := row0 h.cc.2.1.2.2.2.1.2.2.1 hm
    unfold f_look f_X12_look f_X12_look_23 f_X12_look_28
    rw [c_man1 h.oT h.cc.2.1 hm, m_man1 h.oT h.cm.2.1 hm, bs, if_neg n10, if_neg n10, rd_nI (by omega) (by omega), bs, dc.1, h.b0, rd_nI (by omega) (by omega), bs, dc.2.1, rd_nI (by omega) (by omega), bs, hh, rd_nI (by omega) (by omega), bs, dc.2.2, c_cell hs, c_face hs, c_hands hs, c_feet hs]
    by_cases hy : ¬ y < 0 ∧ y ≤ 6
    · have h0 := h.th 0
      have dm := h0.dm.s0 hm
      have hm2 : (wI σm 5000 0 0).1 5012 m = nI (T 12 m) := row0 h0.cm.2.1.2.2.1.2.2.2.1 hm
      rw [if_neg hy.1, if_pos hy.2, lts, if_pos (show (wI σm 5000 0 0).1 5000 0 = 0 from rfl), rd_nI (by omega) (by omega), rd_nI (by omega) (by omega), rd_nI (by omega) (by omega), rd_nI (by omega) (by omega)]
      simp only [bs]
      rw [dm.1, dm.2.1, dm.2.2, hm2, m_cell hs, m_face hs, (lm2 _ hs).1, (lm2 _ hs).2]
      rcases (look7 y).mp hy with rfl | rfl | rfl | rfl | rfl | rfl | rfl
      all_goals exact ⟨0, _, _, wI σm 5000 0 0, rfl, rfl, rfl, fun _ => rfl, h0.v⟩
    · have hn : ¬ (y = 0 ∨ y = 1 ∨ y = 2 ∨ y = 3 ∨ y = 4 ∨ y = 5 ∨ y = 6) := fun z => hy ((look7 y).mpr z)
      simp only [not_or] at hn
      rw [if_neg hn.1, if_neg hn.2.1, if_neg hn.2.2.1, if_neg hn.2.2.2.1, if_neg hn.2.2.2.2.1, if_neg hn.2.2.2.2.2.1, if_neg hn.2.2.2.2.2.2]
      refine ⟨2, 0, 0, wI σm 5000 0 2, rfl, ?_, rfl, fun _ => rfl, (h.th 2).v⟩
      by_cases y0 : y < 0
      · rw [if_pos y0, lts, if_neg (show ¬ (wI σm 5000 0 2).1 5000 0 = 0 from (by decide : ¬ (2 : Int32) = 0))]
      · rw [if_neg y0, if_neg (fun z => hy ⟨y0, z⟩), lts, if_neg (show ¬ (wI σm 5000 0 2).1 5000 0 = 0 from (by decide : ¬ (2 : Int32) = 0))]
theorem o_land : op_land V := by
  intro x σc σm ⟨b, T, D, mv, h⟩
  have h0 := h.th 0
  have o := h.oT.1
  have hb := h.b0
  rcases ix x (n := T 4 0) (by omega) with hx | ⟨c, hc, rfl⟩
  · refine ⟨-1, σc, wI σm 5000 0 0, ⟨?_, rfl⟩, ?_, h0.v⟩
    · unfold f_X11_land f_X11_isCell
      rw [hb, h.cc.2.1.2.1.1]
      by_cases x0 : x < 0
      · rw [if_pos x0, if_pos rfl]
      · rw [if_neg x0, if_pos (hx.resolve_left x0), if_pos rfl]
    · unfold f_X12_land
      rw [lts, rd_lit (by decide) (by decide), bs, row0 h0.cm.2.1.1 (k := 0) (by decide)]
      by_cases x0 : x < 0
      · rw [if_pos x0]
      · rw [if_neg x0, if_neg (Int32.not_lt.mpr (hx.resolve_left x0))]
  · have e : nI c = nI (c + 1) - 1 := (nI_pred c).symm
    have ec := c_landAt h.oT h.cc.2.1 (q := c + 1) (by omega)
    have em := m_landOf h.oT h0.cm.2.1 (q := c + 1) (by omega)
    rw [nI_pred] at ec em
    have lq := landQ_lt h.oT (q := c + 1)
    refine ⟨if landQ T (c + 1) = 9 then -2 else nI (landQ T (c + 1)), σc, wI σm 5000 0 0, ⟨?_, rfl⟩, ?_, h0.v⟩
    · unfold f_X11_land f_X11_isCell
      rw [hb, h.cc.2.1.2.1.1, if_neg (nI_pos (by omega)), if_neg (nI_ge (by omega) (by omega)), if_neg n10, ec, bs]
      by_cases h9 : landQ T (c + 1) = 9
      · rw [if_pos h9, h9]; rfl
      · rw [if_neg h9, if_neg]
        show ¬ _ = nI 9
        rw [nI_eq (by omega) (by omega)]; exact h9
    · unfold f_X12_land
      rw [lts, rd_lit (by decide) (by decide), bs, row0 h0.cm.2.1.1 (k := 0) (by decide), if_neg (nI_pos (by omega)), if_pos (nI_lt (by omega) (by omega)), em, bs]
      by_cases h9 : landQ T (c + 1) = 9
      · rw [if_pos h9, if_pos rfl, if_pos h9]
      · rw [if_neg h9, if_neg (nI_nm1 (by omega)), if_neg h9]
theorem o_lawful : op_lawful V := by
  intro x y z σc σm ⟨b, T, D, mv, h⟩
  have h0 := h.th 0
  have o := h.oT.1
  have oD := h.oD
  unfold f_X11_lawful f_X12_lawful
  rw [lts]
  rcases ix x (n := T 4 2) (by omega) with hx | ⟨m, hm, rfl⟩
  · rw [c_man0 h.cc.2.1 hx, m_man0 h0.cm.2.1 hx, bs]
    exact ⟨-1, σc, _, rfl, rfl, h0.v⟩
  · rw [c_man1 h.oT h.cc.2.1 hm, m_man1 h0.oT h0.cm.2.1 hm, bs, if_neg n10, if_neg n10]
    rcases ix y (n := 4) (by omega) with hy | ⟨p, hp, rfl⟩
    · rw [(pt0 hy _).1, (pt0 hy _).2.1]
      exact ⟨-1, σc, _, rfl, rfl, h0.v⟩
    · rw [(pt1 hp _).1, (pt1 hp _).2.1, if_neg n10, if_neg n10]
      rcases ix z (n := 4) (by omega) with hz | ⟨k, hk, rfl⟩
      · rw [(pt0 hz _).2.2.1, (pt0 hz _).2.2.2]
        exact ⟨-1, σc, _, rfl, rfl, h0.v⟩
      · have od := oD.2.1 m hm
        have hs : D 1 m < 192 := by omega
        rw [(pt1 hk _).2.2.1, (pt1 hk _).2.2.2, if_neg n10, if_neg n10, rd_nI (by omega) (by omega), bs, (h.dc.s7 hm).1, h.dc.1, rd_nI (by omega) (by omega), bs, rd_lit (by decide) (by decide), bs, (h0.dm.s0 hm).1, h0.dm.1]
        obtain ⟨σ1, e1, f1⟩ := c_allows h.cc hm hs hp hk oD.1
        obtain ⟨σ2, e2, f2⟩ := m_lawful h0.cm hm hs hp hk oD.1
        rw [e1, e2, b2s, b2s]
        refine ⟨bI (lawB T (-1) m (D 1 m) p k (D 0 0)), σ1, σ2, ?_, ?_, h0.q f1 f2⟩ <;> cases lawB T (-1) m (D 1 m) p k (D 0 0) <;> rfl
theorem m1n2 : ¬ (-1 : Int32) = 2 := by decide
theorem o_part : op_part V := by
  intro x y z σc σm ⟨b, T, D, mv, h⟩
  have h0 := h.th 0
  have o := h.oT.1
  have oD := h.oD
  unfold f_X11_part f_X12_part f_X11_part_15 f_X12_part_20
  rw [lts]
  rcases ix x (n := T 4 2) (by omega) with hx | ⟨m, hm, rfl⟩
  · rw [c_man0 h.cc.2.1 hx, m_man0 h0.cm.2.1 hx, bs]
    exact ⟨-2, σc, _, rfl, rfl, h0.v⟩
  · rw [c_man1 h.oT h.cc.2.1 hm, m_man1 h0.oT h0.cm.2.1 hm, bs, if_neg n10, if_neg n10]
    rcases ix y (n := 4) (by omega) with hy | ⟨p, hp, rfl⟩
    · rw [(pt0 hy _).1, (pt0 hy _).2.1]
      exact ⟨-2, σc, _, rfl, rfl, h0.v⟩
    · have od := oD.2.1 m hm
      have hs : D 1 m < 192 := by omega
      have pl := plc_le (s := D 1 m) (p := p) hs
      have lq := landQ_lt h.oT (q := plc (D 1 m) p)
      rw [(pt1 hp _).1, (pt1 hp _).2.1, if_neg n10, if_neg n10, rd_nI (by omega) (by omega), bs, (h.dc.s7 hm).1, h.dc.1, rd_nI (by omega) (by omega), bs, lts, (h0.dm.s0 hm).1, bs, rd_lit (by decide) (by decide), bs, h0.dm.1]
      rw [c_place hs hp, m_place hs hp]
      by_cases zz0 : z = 0
      · rw [if_pos zz0, if_pos zz0]; exact ⟨_, σc, _, rfl, rfl, h0.v⟩
      rw [if_neg zz0, if_neg zz0]
      by_cases z1 : z = 1
      · rw [if_pos z1, if_pos z1, c_landAt h.oT h.cc.2.1 pl, bs, m_landOf h.oT h0.cm.2.1 pl, bs, bs]
        refine ⟨nI (landQ T (plc (D 1 m) p)), σc, _, rfl, ?_, h0.v⟩
        by_cases h9 : landQ T (plc (D 1 m) p) = 9
        · rw [if_pos h9, if_pos rfl, h9]; rfl
        · rw [if_neg h9, if_neg (nI_nm1 (by omega))]
      rw [if_neg z1, if_neg z1]
      by_cases z2 : z = 2
      · rw [if_pos z2, if_pos z2, c_side h.oT h.cc.2.1 h.cc.2.2 hm hp, bs, m_side h.oT h0.cm.2.1 h0.cm.2.2 hm hp, bs]
        exact ⟨_, σc, _, rfl, rfl, h0.v⟩
      rw [if_neg z2, if_neg z2]
      by_cases z3 : z = 3
      · rw [if_pos z3, if_pos z3]
        obtain ⟨σ1, e1, f1⟩ := c_binds h.cc hm hs hp oD.1
        obtain ⟨σ2, e2, f2⟩ := m_bound h0.cm hm hs hp oD.1
        rw [e1, e2, b2s, b2s]
        refine ⟨bI (bndB T (-1) m (D 1 m) p (D 0 0)), σ1, σ2, ?_, ?_, h0.q f1 f2⟩ <;> cases bndB T (-1) m (D 1 m) p (D 0 0) <;> rfl
      rw [if_neg z3, if_neg z3]
      by_cases z4 : z = 4
      · rw [if_pos z4, if_pos z4, c_bars h.oT h.cc.2.1 h.cc.2.2 hs hp, bs, bs, m_barred h.oT h0.cm.2.1 h0.cm.2.2 hs hp, bs]
        refine ⟨bI (barB T (-1) (D 1 m) p), σc, _, ?_, ?_, h0.v⟩ <;> cases barB T (-1) (D 1 m) p <;> rfl
      rw [if_neg z4, if_neg z4]
      by_cases z5 : z = 5
      · rw [if_pos z5, if_pos z5]
        unfold f_X0_isSeized
        rw [rd_nI (by omega) (by omega), bs, (h.dc.s7 hm).2.2, rd_nI (by omega) (by omega), bs, (h0.dm.s0 hm).2.2, bit0 _ od.2.2 _ hp]
        refine ⟨nI (D 3 m / 2 ^ p % 2), σc, _, ?_, rfl, h0.v⟩
        rcases Nat.mod_two_eq_zero_or_one (D 3 m / 2 ^ p) with e | e <;> rw [e] <;> rfl
      rw [if_neg z5, if_neg z5]
      exact ⟨-2, σc, _, rfl, rfl, h0.v⟩
theorem o_deed : op_deed V := by
  intro x y σc σm ⟨b, T, D, mv, h⟩
  have h0 := h.th 0
  have o := h.oT.1
  unfold f_X11_deed f_X12_deed
  rw [lts, h.b0, h.cc.2.1.2.1.2.2.2.1, rd_lit (by decide) (by decide), bs, row0 h0.cm.2.1.1 (k := 3) (by decide)]
  rcases ix x (n := T 4 3) (by omega) with hx | ⟨d, hd, rfl⟩
  · by_cases x0 : x < 0
    · rw [if_pos x0, if_pos x0]; exact ⟨-1, σc, _, ⟨rfl, rfl⟩, rfl, h0.v⟩
    · have := Int32.not_lt.mpr (hx.resolve_left x0)
      rw [if_neg x0, if_neg x0, if_neg this, if_neg this]; exact ⟨-1, σc, _, ⟨rfl, rfl⟩, rfl, h0.v⟩
  · rw [if_neg (nI_pos (by omega)), if_neg (nI_pos (by omega)), if_pos (nI_lt (by omega) (by omega)), if_pos (nI_lt (by omega) (by omega))]
    have rc := h.cc.2.1.2.2.2.2.1
    have rm := h0.cm.2.1.2.2.2.1
    have e4 : (wI σm 5000 0 0).1 5045 d = nI (D 4 d) := rowS h0.dm.2.2.2.2.2 hd (by omega)
    rw [rd_nI (by omega) (by omega), bs, row0 rc.1 hd, rd_nI (by omega) (by omega), bs, row0 rc.2.1 hd, rd_nI (by omega) (by omega), bs, row0 rc.2.2.1 hd, rd_nI (by omega) (by omega), bs, row0 rc.2.2.2 hd, rd_nI (by omega) (by omega), bs, row0 h.dc.2.2.2.2.2 hd]
    rw [rd_nI (by omega) (by omega), bs, row0 rm.1 hd, rd_nI (by omega) (by omega), bs, row0 rm.2.1 hd, rd_nI (by omega) (by omega), bs, row0 rm.2.2.1 hd, rd_nI (by omega) (by omega), bs, row0 rm.2.2.2 hd, rd_nI (by omega) (by omega), bs, e4]
    by_cases zz0 : y = 0
    · rw [if_pos zz0, if_pos zz0]; exact ⟨_, σc, _, ⟨rfl, rfl⟩, rfl, h0.v⟩
    rw [if_neg zz0, if_neg zz0]
    by_cases z1 : y = 1
    · rw [if_pos z1, if_pos z1]; exact ⟨_, σc, _, ⟨rfl, rfl⟩, rfl, h0.v⟩
    rw [if_neg z1, if_neg z1]
    by_cases z2 : y = 2
    · rw [if_pos z2, if_pos z2]; exact ⟨_, σc, _, ⟨rfl, rfl⟩, rfl, h0.v⟩
    rw [if_neg z2, if_neg z2]
    by_cases z3 : y = 3
    · rw [if_pos z3, if_pos z3]; exact ⟨_, σc, _, ⟨rfl, rfl⟩, rfl, h0.v⟩
    rw [if_neg z3, if_neg z3]
    by_cases z4 : y = 4
    · rw [if_pos z4, if_pos z4]; exact ⟨_, σc, _, ⟨rfl, rfl⟩, rfl, h0.v⟩
    rw [if_neg z4, if_neg z4]
    exact ⟨-1, σc, _, ⟨rfl, rfl⟩, rfl, h0.v⟩

theorem o_law : op_law V := by
  intro x y z k σc σm ⟨b, T, D, mv, h⟩
  have h0 := h.th 0
  have o := h.oT.1
  have oD := h.oD
  unfold f_X11_law f_X12_law f_X11_law_24 f_X12_law_50
  rw [lts]
  rcases ix x (n := 3) (by omega) with hx | ⟨r, hr, rfl⟩
  · by_cases x0 : x < 0
    · rw [if_pos x0, if_pos x0]; exact ⟨_, σc, _, rfl, rfl, h0.v⟩
    · have x3 : (3 : Int32) ≤ x := hx.resolve_left x0
      have x2 : (2 : Int32) < x := by
        rw [Int32.le_iff_toInt_le] at x3
        rw [Int32.lt_iff_toInt_lt]
        have e3 : (3 : Int32).toInt = 3 := by decide
        have e2 : (2 : Int32).toInt = 2 := by decide
        omega
      rw [if_neg x0, if_neg x0, if_pos x3, if_pos x2]; exact ⟨_, σc, _, rfl, rfl, h0.v⟩
  · have hr2 : ¬ (2 : Int32) < nI r := nI_nlt (b := r) (a := 2) (by omega) (by omega)
    rw [if_neg (nI_pos (by omega)), if_neg (nI_pos (by omega)), if_neg (show ¬ (3 : Int32) ≤ nI r from nI_ge (b := 3) hr (by omega)), if_neg hr2, m_hasLaw h.oT h0.cm.2.1 hr, bs]
    have no : ∀ σ1 : zS, ∀ P Q : Option (Int64 × zS), P = some (ERR, σc) → Q = some (ERR, σ1) → V σc σ1 → ∃ (r : Int64) (σc1 σm1 : zS), P = some (r, σc1) ∧ Q = some (r, σm1) ∧ V σc1 σm1 := fun σ1 P Q h1 h2 h3 => ⟨_, _, _, h1, h2, h3⟩
    rcases ix y (n := T 4 2) (by omega) with hy | ⟨m, hm, rfl⟩
    · rw [c_man0 h.cc.2.1 hy, if_pos rfl, m_man0 h0.cm.2.1 hy, bs, if_pos rfl]
      refine no _ _ _ rfl ?_ h0.v
      cases decide (T 18 r < T 19 r) <;> rfl
    · rw [c_man1 h.oT h.cc.2.1 hm, if_neg n10, m_man1 h.oT h0.cm.2.1 hm, bs, if_neg n10]
      rcases ix z (n := 4) (by omega) with hz | ⟨p, hp, rfl⟩
      · rw [(pt0 hz _).1, (pt0 hz _).2.1, if_pos rfl, if_pos rfl]
        refine no _ _ _ rfl ?_ h0.v
        cases decide (T 18 r < T 19 r) <;> rfl
      · rw [(pt1 hp _).1, (pt1 hp _).2.1, if_neg n10, if_neg n10]
        have od := oD.2.1 m hm
        have hs : D 1 m < 192 := by omega
        have main : ∀ c : Nat, c < 4 → ∃ (v : Int64) (σc1 σm1 : zS), f_X11_law_72 (nI r) (nI m) (nI (D 1 m)) (nI p) (nI c) σc = some (v, σc1) ∧ (if bI (decide (T 18 r < T 19 r)) = 0 then some (ERR, wI σm 5000 0 0) else f_X12_law_74 (nI r) (nI m) (nI (D 1 m)) (nI p) (nI c) (wI σm 5000 0 0)) = some (v, σm1) ∧ V σc1 σm1 := by
          intro c hc
          unfold f_X11_law_72 f_X12_law_74
          obtain ⟨σ1, e1, f1⟩ := c_worth h.cc hr hm hs hp hc oD.1
          rw [h.dc.1, e1, b2s, rd_lit (by decide) (by decide), bs, h0.dm.1]
          obtain ⟨σ2, e2, f2, n2⟩ := m_calls h0.cm hm hs hp hc oD.1
          rw [e2, bs]
          unfold evS
          by_cases ht : T 18 r < T 19 r
          · obtain ⟨σ3, e3, f3, n3⟩ := m_goes h.oT (h0.cm.mono f2 rfl rfl).2.1 hr (nmS_le h.oT hs hp hc oD.1) ht n2
            rw [if_pos ht, decide_eq_true ht, if_neg (by decide), e3, b2s]
            refine ⟨_, σ1, σ3, rfl, ?_, h0.q f1 (f2.tr f3)⟩
            generalize evF T (nmS T (-1) m (D 1 m) p c (D 0 0)) (T 19 r - T 18 r) (T 18 r) 0 (fun _ => 0) = ev at n3
            cases ev with
            | none => rfl
            | some v => rw [if_neg (show ¬ bI (some v).isSome = 0 from (by decide : ¬ bI true = 0)), rdL_lit (by decide) (by decide), bs, n3 v rfl]; rfl
          · rw [if_neg ht, decide_eq_false ht, if_pos (by decide)]
            exact ⟨_, σ1, _, rfl, rfl, h0.q f1 Fm.rf⟩
        by_cases r1 : nI r = 1
        · rw [if_pos r1, if_pos r1]
          rcases ix k (n := 4) (by omega) with hk | ⟨c, hc, rfl⟩
          · rw [(pt0 hk _).2.2.1, (pt0 hk _).2.2.2, if_pos rfl, if_pos rfl]
            refine no _ _ _ rfl ?_ h0.v
            cases decide (T 18 r < T 19 r) <;> rfl
          · rw [(pt1 hc _).2.2.1, (pt1 hc _).2.2.2, if_neg n10, if_neg n10]
            unfold f_X11_law_45 f_X12_law_54
            rw [rd_nI (by omega) (by omega), bs, (h.dc.s7 hm).1, rd_nI (by omega) (by omega), bs, (h0.dm.s0 hm).1, if_pos r1, if_pos r1]
            exact main c hc
        · rw [if_neg r1, if_neg r1]
          unfold f_X11_law_45 f_X12_law_54
          rw [rd_nI (by omega) (by omega), bs, (h.dc.s7 hm).1, rd_nI (by omega) (by omega), bs, (h0.dm.s0 hm).1, if_neg r1, if_neg r1]
          exact main 0 (by omega)
/-- the first clash by hours -/
def clB (T : zT) (k : Nat) (o : Option Nat) : Bool := match o with | none => true | some e => decide (T 17 k < T 17 e)
def clS (T D : zT) : Nat → Nat → Option Nat → Option Nat
  | 0, _, o => o
  | j + 1, k, o => if D 4 k = 2 ∧ clB T k o = true then clS T D j (k + 1) (some k) else clS T D j (k + 1) o
def clH (T : zT) (o : Option Nat) : Int32 := match o with | none => 24 | some e => nI (T 17 e)
theorem c_clash {b : Bool} {T D : zT} {mv : Int32} {σ : zS} (hT : okT T) (oD : okD T D) (hR : RC b T σ) (hD : DC T 700 D mv σ) : ∀ (j k fu : Nat) (o : Option Nat), k + j = T 4 3 → j < fu → (∀ e, o = some e → e < T 4 3) → f_X11_clash_7 fu (oI o) (clH T o) (nI k) σ = some (oI (clS T D j k o))
  | j, k, 0, o, hj, hf, ho => by omega
  | 0, k, fu + 1, o, hj, hf, ho => by
    have o0 := hT.1
    unfold f_X11_clash_7
    rw [hR.1.1, hR.2.1.2.2.2.1, if_pos (nI_le (by omega) (by omega))]; rfl
  | j + 1, k, fu + 1, o, hj, hf, ho => by
    have o0 := hT.1
    have od := hT.2.2.2.1 k (by omega)
    have ih := fun o' => c_clash hT oD hR hD j (k + 1) fu o' (by omega) (by omega)
    unfold f_X11_clash_7 f_X11_clash_56
    have e6 : σ.1 706 k = nI (D 4 k) := row0 hD.2.2.2.2.2 (by omega)
    have ef := oD.2.2 k (by omega)
    rw [hR.1.1, hR.2.1.2.2.2.1, if_neg (nI_ge (by omega) (by omega)), rd_nI (by omega) (by omega), bs, e6, rd_nI (by omega) (by omega), bs, row0 hR.2.2.2.2.1.2.2.2 (by omega), bs, nI_1]
    unfold clS
    by_cases h2 : D 4 k = 2
    · rw [h2, if_pos (show nI 2 = (2 : Int32) from rfl)]
      cases o with
      | none =>
        rw [if_neg (show ¬ clH T none ≤ nI (T 17 k) from nI_ge (b := 24) (by omega) (by omega)), if_pos ⟨rfl, rfl⟩]
        exact ih (some k) (fun e he => by cases he; omega)
      | some e =>
        have he := ho e rfl
        have oe := hT.2.2.2.1 e he
        by_cases hl : T 17 k < T 17 e
        · rw [if_neg (show ¬ clH T (some e) ≤ nI (T 17 k) from nI_ge hl (by omega)), if_pos ⟨rfl, decide_eq_true hl⟩]
          exact ih (some k) (fun e he => by cases he; omega)
        · rw [if_pos (show clH T (some e) ≤ nI (T 17 k) from nI_le (by omega) (by omega)), if_neg (fun z => hl (of_decide_eq_true z.2))]
          exact ih (some e) (fun e' he' => by cases he'; exact he)
    · rw [if_neg (show ¬ nI (D 4 k) = (2 : Int32) by show ¬ _ = nI 2; rw [nI_eq (by omega) (by omega)]; exact h2), if_neg (fun z => h2 z.1)]
      exact ih o ho
theorem m_clash {T D : zT} {mv : Int32} {σ : zS} (hT : okT T) (oD : okD T D) (hR : RM T σ) (hD : DM T 0 D mv σ) : ∀ (j k fu : Nat) (o : Option Nat), k + j = T 4 3 → j < fu → (∀ e, o = some e → e < T 4 3) → f_X12_clash_9 fu (oI o) (nI k) σ = some (oI (clS T D j k o), σ)
  | j, k, 0, o, hj, hf, ho => by omega
  | 0, k, fu + 1, o, hj, hf, ho => by
    have o0 := hT.1
    unfold f_X12_clash_9
    rw [rd_lit (by decide) (by decide), bs, row0 hR.1 (k := 3) (by decide), if_pos (nI_le (by omega) (by omega))]; rfl
  | j + 1, k, fu + 1, o, hj, hf, ho => by
    have o0 := hT.1
    have od := hT.2.2.2.1 k (by omega)
    have ih := fun o' => m_clash hT oD hR hD j (k + 1) fu o' (by omega) (by omega)
    unfold f_X12_clash_9 f_X12_clash_49 f_X12_clash_51
    have e6 : σ.1 5045 k = nI (D 4 k) := rowS hD.2.2.2.2.2 (k := k) (by omega) (by omega)
    have ef := oD.2.2 k (by omega)
    rw [rd_lit (by decide) (by decide), bs, row0 hR.1 (k := 3) (by decide), if_neg (nI_ge (by omega) (by omega)), rd_nI (by omega) (by omega), bs, e6, nI_1]
    unfold clS
    by_cases h2 : D 4 k = 2
    · rw [h2, if_pos (show nI 2 = (2 : Int32) from rfl)]
      cases o with
      | none =>
        rw [if_pos (show oI none = -1 from rfl), if_pos ⟨rfl, rfl⟩]
        exact ih (some k) (fun e he => by cases he; omega)
      | some e =>
        have he := ho e rfl
        have oe := hT.2.2.2.1 e he
        rw [if_neg (show ¬ oI (some e) = -1 from nI_nm1 (by omega)), rd_nI (by omega) (by omega), bs, row0 hR.2.2.2.1.2.2.2 (by omega), show oI (some e) = nI e from rfl, rd_nI (by omega) (by omega), bs, row0 hR.2.2.2.1.2.2.2 (by omega)]
        by_cases hl : T 17 k < T 17 e
        · rw [if_neg (nI_ge hl (by omega)), if_pos ⟨rfl, decide_eq_true hl⟩]
          exact ih (some k) (fun e he => by cases he; omega)
        · rw [if_pos (nI_le (by omega) (by omega)), if_neg (fun z => hl (of_decide_eq_true z.2))]
          exact ih (some e) (fun e' he' => by cases he'; exact he)
    · rw [if_neg (show ¬ nI (D 4 k) = (2 : Int32) by show ¬ _ = nI 2; rw [nI_eq (by omega) (by omega)]; exact h2), if_neg (fun z => h2 z.1)]
      exact ih o ho
theorem o_clash : op_clash V := by
  intro σc σm ⟨b, T, D, mv, h⟩
  have h0 := h.th 0
  have o := h.oT.1
  refine ⟨oI (clS T D (T 4 3) 0 none), σc, _, ⟨?_, rfl⟩, ?_, h0.v⟩
  · exact c_clash h.oT h.oD h.cc.2.1 h.dc (T 4 3) 0 FU none (by omega) (by unfold FU; omega) (fun e he => by cases he)
  · exact m_clash h.oT h.oD h0.cm.2.1 h0.dm (T 4 3) 0 FU none (by omega) (by unfold FU; omega) (fun e he => by cases he)
