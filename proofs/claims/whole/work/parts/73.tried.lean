/-! The pure part: tried otherwise -/
theorem CC.mode {b : Bool} {T : zT} {w0 u0 w u : Int32} {σ σ' : zS} (h : CC b T w0 u0 σ) (F : Fc b [6] σ σ') (h1 : σ'.1 1000 1 = w) (h2 : σ'.1 1000 2 = u) : CC b T w u σ' := ⟨h.1, h.2.1.mono F rfl, h1, h2⟩
theorem CM.mode {T : zT} {w0 u0 w u : Int32} {σ σ' : zS} (h : CM T w0 u0 σ) (F : Fm [6] σ σ') (h1 : σ'.1 5000 37 = w) (h2 : if w = 3 then σ'.1 5000 47 = u else u = -1) : CM T w u σ' := ⟨h.1, h.2.1.mono h.1 F rfl, h1, h2⟩
/-- the day that is tried -/
def tryD (w : Int32) (D : zT) : zT := fun a k => if w = 4 ∧ a = 3 then 0 else if w = 5 ∧ a = 1 then fcg (D 1 k) 0 else D a k
theorem okD_try {T D : zT} {w : Int32} (h : okD T D) : okD T (tryD w D) := by
  refine ⟨?_, fun m hm => ?_, fun d hd => ?_⟩
  · simp only [tryD]; rw [if_neg (by omega), if_neg (by omega)]; exact h.1
  · have := h.2.1 m hm
    simp only [tryD]
    refine ⟨?_, ?_, ?_⟩
    · rw [if_neg (by omega)]
      split
      · exact fcg_lt this.1 (by omega)
      · exact this.1
    · rw [if_neg (by omega), if_neg (by omega)]; exact this.2.1
    · split
      · omega
      · rw [if_neg (by omega)]; exact this.2.2
  · simp only [tryD]; rw [if_neg (by omega), if_neg (by omega)]; exact h.2.2 d hd
def norD (D : zT) (k : Nat) : zT := fun a i => if a = 1 ∧ i < k then fcg (D 1 i) 0 else D a i
theorem norD_at (D : zT) (k a i : Nat) : norD D k a i = if a = 1 ∧ i < k then fcg (D 1 i) 0 else D a i := rfl
theorem tryD_at (w : Int32) (D : zT) (a k : Nat) : tryD w D a k = if w = 4 ∧ a = 3 then 0 else if w = 5 ∧ a = 1 then fcg (D 1 k) 0 else D a k := rfl
theorem tryD_o {w : Int32} {D : zT} {a k : Nat} (h1 : a ≠ 1) (h3 : a ≠ 3) : tryD w D a k = D a k := by rw [tryD_at, if_neg (fun z => h3 z.2), if_neg (fun z => h1 z.2)]
theorem n54 : ¬ (5 : Int32) = 4 := by decide
theorem n45 : ¬ (4 : Int32) = 5 := by decide
theorem c_northL {b : Bool} {T : zT} {mv : Int32} {D : zT} (hT : okT T) (oD : okD T D) : ∀ (j k fu : Nat) (σ : zS), k + j = 5 → j < fu → DC T 900 (norD D k) mv σ →
    ∃ σ', f_X0_turnNorth_2 900 fu (nI k) σ = some σ' ∧ DC T 900 (tryD 5 D) mv σ' ∧ Fc b [7] σ σ'
  | j, k, 0, σ, hj, hf, h => by omega
  | 0, k, fu + 1, σ, hj, hf, h => by
    have o := hT.1
    unfold f_X0_turnNorth_2
    rw [if_pos (show (5 : Int32) ≤ nI k from nI_le (a := 5) (by omega) (by omega))]
    refine ⟨σ, rfl, ?_, Fc.rf⟩
    obtain ⟨c0, c1, c2, c3, c4, c5⟩ := h
    refine ⟨?_, c1, fun i hi => ?_, fun i hi => ?_, fun i hi => ?_, fun i hi => ?_⟩
    · rw [c0, norD_at, if_neg (by omega), tryD_o (by omega) (by omega)]
    · rw [c2 i hi, norD_at, if_pos ⟨rfl, by omega⟩, tryD_at, if_neg (fun z => n54 z.1), if_pos ⟨rfl, rfl⟩]
    · rw [c3 i hi, norD_at, if_neg (by omega), tryD_o (by omega) (by omega)]
    · rw [c4 i hi, norD_at, if_neg (by omega), tryD_at, if_neg (fun z => n54 z.1), if_neg (by omega)]
    · rw [c5 i hi, norD_at, if_neg (by omega), tryD_o (by omega) (by omega)]
  | j + 1, k, fu + 1, σ, hj, hf, h => by
    have o := hT.1
    unfold f_X0_turnNorth_2
    rw [if_neg (show ¬ (5 : Int32) ≤ nI k from nI_ge (b := 5) (by omega) (by omega)), rd_nI (by omega) (by omega), bs, wr_nI (by omega) (by omega), bs, nI_1]
    have F : Fc b [7] σ (wI σ (900 + 3) k (f_X5_facing (σ.1 (900 + 3) k) 0 σ)) := Fc.rf.wI (by cases b <;> rfl)
    obtain ⟨σ', e1, d1, f1⟩ := c_northL (b := b) (mv := mv) hT oD j (k + 1) fu (wI σ (900 + 3) k (f_X5_facing (σ.1 (900 + 3) k) 0 σ)) (by omega) (by omega) (by
      obtain ⟨c0, c1, c2, c3, c4, c5⟩ := h
      refine ⟨?_, ?_, fun i hi => ?_, fun i hi => ?_, fun i hi => ?_, fun i hi => ?_⟩
      · rw [wI_at, if_neg (by omega), c0, norD_at, norD_at, if_neg (by omega), if_neg (by omega)]
      · rw [wI_at, if_neg (by omega)]; exact c1
      · have om := oD.2.1 i hi
        rw [wI_at, Nat.zero_add]
        by_cases hik : i = k
        · subst hik
          have := row0 c2 hi
          rw [norD_at, if_neg (by omega)] at this
          rw [if_pos ⟨rfl, rfl⟩, this, norD_at, if_pos ⟨rfl, by omega⟩]
          exact c_facing (f := 0) (by omega) (by omega) σ
        · rw [if_neg (by omega), row0 c2 hi, norD_at, norD_at]
          by_cases hl : i < k
          · rw [if_pos ⟨rfl, hl⟩, if_pos ⟨rfl, by omega⟩]
          · rw [if_neg (by omega), if_neg (by omega)]
      · rw [wI_at, if_neg (by omega), c3 i hi, norD_at, norD_at, if_neg (by omega), if_neg (by omega)]
      · rw [wI_at, if_neg (by omega), c4 i hi, norD_at, norD_at, if_neg (by omega), if_neg (by omega)]
      · rw [wI_at, if_neg (by omega), c5 i hi, norD_at, norD_at, if_neg (by omega), if_neg (by omega)])
    exact ⟨σ', e1, d1, F.tr f1⟩
theorem c_tryD {b : Bool} {T : zT} {mv : Int32} {D : zT} {w : Int32} (hT : okT T) (oD : okD T D) {σ : zS} (h : DC T 900 D mv σ) (x2 : Int32) :
    ∃ σ', (if w = 4 then (f_J7_fill_53178 905 5 0 σ).bind fun σ_6 => f_X11_tried_58 w x2 σ_6 else f_X11_tried_58 w x2 σ) = f_X11_tried_70 w x2 σ' ∧ DC T 900 (tryD w D) mv σ' ∧ Fc b [7] σ σ' := by
  have o := hT.1
  unfold f_X11_tried_58 f_X0_turnNorth
  by_cases w4 : w = 4
  · subst w4
    rw [if_pos rfl, fi_eq 905 5 0 (by omega), bs, if_neg n45]
    refine ⟨_, rfl, ?_, Fc.rf.wA (fun k => by cases b <;> rfl)⟩
    obtain ⟨c0, c1, c2, c3, c4, c5⟩ := h
    refine ⟨?_, ?_, fun i hi => ?_, fun i hi => ?_, fun i hi => ?_, fun i hi => ?_⟩
    · rw [wA_at, if_neg (by omega), tryD_o (by omega) (by omega)]; exact c0
    · rw [wA_at, if_neg (by omega)]; exact c1
    · rw [wA_at, if_neg (by omega), c2 i hi, tryD_at, if_neg (by omega), if_neg (fun z => n45 z.1)]
    · rw [wA_at, if_neg (by omega), c3 i hi, tryD_o (by omega) (by omega)]
    · rw [wA_at, if_pos rfl, if_pos (by omega), tryD_at, if_pos ⟨rfl, rfl⟩]; rfl
    · rw [wA_at, if_neg (by omega), c5 i hi, tryD_o (by omega) (by omega)]
  · rw [if_neg w4]
    by_cases w5 : w = 5
    · subst w5
      rw [if_pos rfl]
      obtain ⟨σ', e1, d1, f1⟩ := c_northL (b := b) (mv := mv) (D := D) hT oD 5 0 FU σ (by omega) (by unfold FU; omega) (by
        obtain ⟨c0, c1, c2, c3, c4, c5⟩ := h
        refine ⟨?_, c1, fun i hi => ?_, fun i hi => ?_, fun i hi => ?_, fun i hi => ?_⟩
        · rw [norD_at, if_neg (by omega)]; exact c0
        · rw [norD_at, if_neg (by omega)]; exact c2 i hi
        · rw [norD_at, if_neg (by omega)]; exact c3 i hi
        · rw [norD_at, if_neg (by omega)]; exact c4 i hi
        · rw [norD_at, if_neg (by omega)]; exact c5 i hi)
      replace e1 : f_X0_turnNorth_2 900 FU 0 σ = _ := e1
      rw [e1, bs]
      exact ⟨σ', rfl, d1, f1⟩
    · rw [if_neg w5]
      refine ⟨σ, rfl, ?_, Fc.rf⟩
      have : tryD w D = D := by
        funext a k
        rw [tryD_at, if_neg (fun z => w4 z.1), if_neg (fun z => w5 z.1)]
      rw [this]; exact h
theorem c_tryL {b : Bool} {T : zT} {w u : Int32} {mv : Int32} : ∀ (j k fu : Nat) (D : zT) (σ : zS), k + j = 24 → D 0 0 = k → j < fu → CC b T w u σ → okD T D → DC T 900 D mv σ →
    ∃ σ', f_X11_tried_103 fu (nI k) σ = some (nI (cnS (itD T w u j D 4) 1 (T 4 3) 0 0), σ') ∧ Fc b [0, 6, 7] σ σ' ∧ σ'.1 1000 1 = -1 ∧ σ'.1 1000 2 = -1
  | j, k, 0, D, σ, hj, hk, hf, hC, oD, h => by omega
  | 0, k, fu + 1, D, σ, hj, hk, hf, hC, oD, h => by
    have o := hC.1.1
    unfold f_X11_tried_103
    rw [if_pos (show (24 : Int32) ≤ nI k from nI_le (a := 24) (by omega) (by omega)), lts, lts]
    have F : Fc b [6] σ (wI (wI σ 1000 1 (-1)) 1000 2 (-1)) := (Fc.rf.wI (by cases b <;> rfl)).wI (by cases b <;> rfl)
    have R := hC.2.1.mono F rfl
    have d1 := DC.mono (z := 7) (.inr (.inr ⟨rfl, rfl⟩)) h F rfl
    rw [R.1.1, R.2.1.2.2.2.1]
    have fc := c_fated hC.1 (v := 1) (by omega) d1.2.2.2.2.2 oD.2.2 (T 4 3) 0 0 FU (by omega) (by omega) (by unfold FU; omega)
    replace fc : f_X0_fated 900 1 (nI (T 4 3)) _ = _ := fc
    rw [fc, bs]
    exact ⟨_, rfl, F.mono rfl, rfl, rfl⟩
  | j + 1, k, fu + 1, D, σ, hj, hk, hf, hC, oD, h => by
    unfold f_X11_tried_103
    rw [if_neg (show ¬ (24 : Int32) ≤ nI k from nI_ge (b := 24) (by omega) (by omega))]
    obtain ⟨σ1, e1, d1, f1⟩ := c_pass (z := 7) (.inr (.inr ⟨rfl, rfl⟩)) hC oD h
    have p := okD.pass hC.1 oD (w := w) (u := u) (by omega)
    rw [e1, bs, nI_1]
    obtain ⟨σ2, e2, f2, g1, g2⟩ := c_tryL j (k + 1) fu _ σ1 (by omega) (by omega) (by omega) (hC.mono f1 rfl rfl) p.1 d1
    exact ⟨σ2, e2, Fc.tr (f1.mono rfl) f2, g1, g2⟩
theorem m_doneL {T : zT} {f : Nat → Nat} {σ : zS} {s : Nat} (hs : s < 23) (hT : okT T) (hR : RM T σ) (h : rowN σ 5045 (12 * s) (T 4 3) f) (hf : ∀ k, k < T 4 3 → f k < 4) : ∀ (j k a fu : Nat), k + j = T 4 3 → a ≤ k → j < fu → f_X12_doneBy_5 fu (nI s) (-1) (nI a) (nI k) σ = some (nI (cnS f 1 j k a))
  | j, k, a, 0, hj, ha, hfu => by omega
  | 0, k, a, fu + 1, hj, ha, hfu => by
    have o := hT.1
    unfold f_X12_doneBy_5
    rw [rd_lit (by decide) (by decide), bs, row0 hR.1 (k := 3) (by decide), if_pos (nI_le (by omega) (by omega))]; rfl
  | j + 1, k, a, fu + 1, hj, ha, hfu => by
    have o := hT.1
    unfold f_X12_doneBy_5 f_X12_doneBy_49 f_X12_doneBy_53 f_X12_doneBy_54
    simp only [lts]
    rw [rd_lit (by decide) (by decide), bs, row0 hR.1 (k := 3) (by decide), if_neg (nI_ge (by omega) (by omega)), m12, rd_nI (by omega) (by omega), bs, h k (by omega), nI_1, nI_1]
    have hk := hf k (by omega)
    unfold cnS
    by_cases e : f k = 1
    · rw [if_pos (by rw [e]; rfl), if_pos e, if_pos (by first | trivial | rfl)]
      exact m_doneL hs hT hR h hf j (k + 1) (a + 1) fu (by omega) (by omega) (by omega)
    · rw [if_neg (show ¬ nI (f k) = (1 : Int32) by show ¬ _ = nI 1; rw [nI_eq (by omega) (by omega)]; exact e), if_neg e, show nI a + 0 = nI a from by show nI a + nI 0 = _; rw [nI_add]; rfl]
      exact m_doneL hs hT hR h hf j (k + 1) a fu (by omega) (by omega) (by omega)
theorem m_tryL {T : zT} {w u : Int32} {mv : Int32} : ∀ (j fu : Nat) (D : zT) (σ : zS), D 0 0 + j = 24 → j < fu → CM T w u σ → okD T D → DM T 1 D mv σ →
    ∃ σ', f_X12_tried_121 fu σ = some (nI (cnS (itD T w u j D 4) 1 (T 4 3) 0 0), σ') ∧ Fm [0, 6, 7] σ σ' ∧ σ'.1 5000 37 = -1
  | j, 0, D, σ, hj, hf, hC, oD, h => by omega
  | 0, fu + 1, D, σ, hj, hf, hC, oD, h => by
    have o := hC.1.1
    unfold f_X12_tried_121
    rw [rd_lit (by decide) (by decide), bs, h.1, if_pos (show (24 : Int32) ≤ nI (D 0 0) from nI_le (a := 24) (by omega) (by omega)), lts]
    have F : Fm [6] σ (wI σ 5000 37 (-1)) := Fm.rf.wI rfl
    have R := hC.2.1.mono hC.1 F rfl
    have d1 := DM.mono hC.1 h F rfl
    have fc := m_doneL (s := 1) (by omega) hC.1 R d1.2.2.2.2.2 oD.2.2 (T 4 3) 0 0 FU (by omega) (by omega) (by unfold FU; omega)
    replace fc : f_X12_doneBy 1 (-1) _ = _ := fc
    rw [fc, bs]
    exact ⟨_, rfl, F.mono rfl, rfl⟩
  | j + 1, fu + 1, D, σ, hj, hf, hC, oD, h => by
    unfold f_X12_tried_121
    rw [rd_lit (by decide) (by decide), bs, h.1, if_neg (show ¬ (24 : Int32) ≤ nI (D 0 0) from nI_ge (b := 24) (by omega) (by omega))]
    obtain ⟨σ1, e1, d1, f1⟩ := m_pass (s := 1) (by omega) hC oD h
    replace e1 : f_X12_passes 1 σ = _ := e1
    have p := okD.pass hC.1 oD (w := w) (u := u) (by omega)
    rw [e1, bs]
    obtain ⟨σ2, e2, f2, g1⟩ := m_tryL j fu _ σ1 (by omega) (by omega) (hC.mono f1 rfl rfl) p.1 d1
    exact ⟨σ2, e2, Fm.tr (Fm.mono (Z := [0, 7]) f1 rfl) f2, g1⟩
theorem m_five {k : Nat} : (5 : Int32) + nI k = nI (5 * 1 + k) := by show nI 5 + nI k = _; rw [nI_add]
def tryK (w : Int32) (D : zT) (k : Nat) : zT := fun a i => if i < k then tryD w D a i else D a i
theorem tryK_at (w : Int32) (D : zT) (k a i : Nat) : tryK w D k a i = if i < k then tryD w D a i else D a i := rfl
theorem tryK_o {w : Int32} {D : zT} {k a i : Nat} (h1 : a ≠ 1) (h3 : a ≠ 3) : tryK w D k a i = D a i := by rw [tryK_at, tryD_o h1 h3]; split <;> rfl
theorem m_tryB {T : zT} {mv : Int32} {D : zT} {w x2 : Int32} (oD : okD T D) : ∀ (j k fu : Nat) (σ : zS), k + j = T 4 2 → j < fu → CM T (-1) (-1) σ → DM T 1 (tryK w D k) mv σ →
    ∃ σ', f_X12_tried_52 fu w x2 (nI k) σ = f_X12_tried_121 FU (wI (wI σ' 5000 37 w) 5000 47 x2) ∧ DM T 1 (tryD w D) mv σ' ∧ Fm [7] σ σ'
  | j, k, 0, σ, hj, hf, hC, h => by omega
  | 0, k, fu + 1, σ, hj, hf, hC, h => by
    have o := hC.1.1
    unfold f_X12_tried_52
    rw [rd_lit (by decide) (by decide), bs, row0 hC.2.1.1 (k := 2) (by decide), if_pos (nI_le (by omega) (by omega)), lts, lts]
    refine ⟨σ, rfl, ?_, Fm.rf⟩
    obtain ⟨c0, c1, c2, c3, c4, c5⟩ := h
    refine ⟨?_, c1, fun i hi => ?_, fun i hi => ?_, fun i hi => ?_, fun i hi => ?_⟩
    · rw [c0, tryK_o (by omega) (by omega), tryD_o (by omega) (by omega)]
    · rw [c2 i hi, tryK_at, if_pos (by omega)]
    · rw [c3 i hi, tryK_at, if_pos (by omega)]
    · rw [c4 i hi, tryK_at, if_pos (by omega)]
    · rw [c5 i hi, tryK_o (by omega) (by omega), tryD_o (by omega) (by omega)]
  | j + 1, k, fu + 1, σ, hj, hf, hC, h => by
    have o := hC.1.1
    have om := oD.2.1 k (by omega)
    unfold f_X12_tried_52 f_X12_tried_78 f_X12_tried_105
    rw [rd_lit (by decide) (by decide), bs, row0 hC.2.1.1 (k := 2) (by decide), if_neg (nI_ge (by omega) (by omega)), m_five, wr_nI (by omega) (by omega), bs, nI_1]
    have zi : ∀ i, i = 5042 ∨ i = 5043 ∨ i = 5044 → List.elem (zm i (5 * 1 + k)) [7] = true := fun i hi => by rw [zmC (by omega) hi]; rfl
    have nx : ∀ σ', Fm [7] σ σ' → DM T 1 (tryK w D (k + 1)) mv σ' → ∃ σ2, f_X12_tried_52 fu w x2 (nI (k + 1)) σ' = f_X12_tried_121 FU (wI (wI σ2 5000 37 w) 5000 47 x2) ∧ DM T 1 (tryD w D) mv σ2 ∧ Fm [7] σ σ2 := by
      intro σ' F h'
      obtain ⟨σ2, e2, d2, f2⟩ := m_tryB oD j (k + 1) fu σ' (by omega) (by omega) (hC.mono F rfl rfl) h'
      exact ⟨σ2, e2, d2, F.tr f2⟩
    have nxt : ∀ (D1 : zT) σ', Fm [7] σ σ' → DM T 1 D1 mv σ' → (∀ a i, D1 a i = tryK w D (k + 1) a i) → ∃ σ2, f_X12_tried_52 fu w x2 (nI (k + 1)) σ' = f_X12_tried_121 FU (wI (wI σ2 5000 37 w) 5000 47 x2) ∧ DM T 1 (tryD w D) mv σ2 ∧ Fm [7] σ σ2 := by
      intro D1 σ' F h' he
      have : D1 = tryK w D (k + 1) := by funext a i; exact he a i
      rw [this] at h'; exact nx σ' F h'
    by_cases w4 : w = 4
    · subst w4
      rw [if_pos rfl, if_neg n45]
      refine nxt _ _ (Fm.rf.wI (zi 5044 (by omega))) (h.up (i := 3) (k := k) (v := 0) (by omega)) ?_
      intro a i
      rw [up2_at, tryK_at, tryK_at]
      by_cases e : a = 3 ∧ i = k
      · rw [if_pos e, if_pos (by omega), tryD_at, if_pos ⟨rfl, e.1⟩]
      · rw [if_neg e]
        by_cases hl : i < k
        · rw [if_pos hl, if_pos (by omega)]
        · rw [if_neg hl]
          by_cases hl2 : i < k + 1
          · rw [if_pos hl2, tryD_at, if_neg (by omega), if_neg (fun z => n45 z.1)]
          · rw [if_neg hl2]
    · rw [if_neg w4]
      by_cases w5 : w = 5
      · subst w5
        have hv : σ.1 5042 (5 * 1 + k) = nI (D 1 k) := by
          have := h.2.2.1 k (by omega)
          rw [tryK_at, if_neg (by omega)] at this; exact this
        rw [if_pos rfl, rd_nI (by omega) (by omega), bs, hv, show f_X12_facing (nI (D 1 k)) 0 σ = nI (fcg (D 1 k) 0) from m_facing (f := 0) (by omega) (by omega) σ, wr_nI (by omega) (by omega), bs]
        refine nxt _ _ (Fm.rf.wI (zi 5042 (by omega))) (h.up (i := 1) (k := k) (v := fcg (D 1 k) 0) (by omega)) ?_
        intro a i
        rw [up2_at, tryK_at, tryK_at]
        by_cases e : a = 1 ∧ i = k
        · rw [if_pos e, if_pos (by omega), tryD_at, if_neg (fun z => n54 z.1), if_pos ⟨rfl, e.1⟩, e.2]
        · rw [if_neg e]
          by_cases hl : i < k
          · rw [if_pos hl, if_pos (by omega)]
          · rw [if_neg hl]
            by_cases hl2 : i < k + 1
            · rw [if_pos hl2, tryD_at, if_neg (fun z => n54 z.1), if_neg (by omega)]
            · rw [if_neg hl2]
      · rw [if_neg w5]
        refine nxt _ _ Fm.rf h ?_
        intro a i
        have : tryD w D a i = D a i := by rw [tryD_at, if_neg (fun z => w4 z.1), if_neg (fun z => w5 z.1)]
        rw [tryK_at, tryK_at, this]; split <;> split <;> rfl
theorem Vx.mode {b : Bool} {T D : zT} {mv : Int32} {σc σm σc' σm' : zS} (h : Vx b T D mv σc σm) (F : Fc b [0, 6, 7] σc σc') (G : Fm [0, 6, 7, 10] σm σm') (c1 : σc'.1 1000 1 = -1) (c2 : σc'.1 1000 2 = -1) (m1 : σm'.1 5000 37 = -1) : V σc' σm' := by
  obtain ⟨h1, h2, h3, h4, h5, h6⟩ := h
  have hT : okT T := h1.1.1
  exact ⟨b, T, D, mv, ⟨⟨hT, h1.1.2.1.mono F rfl, c1, c2⟩, ⟨hT, h1.2.2.1.mono hT G rfl, m1, by rw [if_neg (by decide)]⟩⟩, h2.mono hT F G rfl rfl, h3.mono F G rfl rfl, h4.mono hT F G rfl rfl, h5.mono hT F G rfl rfl, h6.mono F G rfl rfl⟩
theorem o_tried : op_tried V := by
  intro x y σc σm ⟨b, T, D, mv, h⟩
  have h0 := h.th 0
  have hT := h.oT
  have o := hT.1
  have oD := h.oD
  have main : ∀ u : Int32, u = (if x = 3 then y else -1) → ∃ (r : Int32) (σc1 σm1 : zS), f_X11_tried_31 x y σc = some (r, σc1) ∧ f_X12_tried_36 x y 1 (wI σm 5000 0 0) = some (r, σm1) ∧ V σc1 σm1 := by
    intro u hu
    obtain ⟨σ1, e1, d1, f1⟩ := c_copy (b := b) (dy := 900) (z := 7) (d1 := 700) (z1 := 3) (.inr (.inr ⟨rfl, rfl⟩)) (.inl ⟨rfl, rfl⟩) (by decide) hT h.dc
    obtain ⟨σ2, e2, d2, f2⟩ := c_tryD (b := b) (w := x) hT oD d1 y
    obtain ⟨σ3, e3, f3, d3⟩ := m_copy (t := 1) (s := 0) (by decide) (by decide) (by decide) (wI σm 5000 0 0)
    replace e3 : f_X12_copies 1 0 (wI σm 5000 0 0) = _ := e3
    have G3 : Fm [0, 10, 7] (wI σm 5000 0 0) σ3 := slotF f3
    have dm3 := d3 T D mv hT h0.dm
    obtain ⟨σ4, e4, d4, f4⟩ := m_tryB (w := x) (x2 := y) oD (T 4 2) 0 FU σ3 (by omega) (by unfold FU; omega) (h0.cm.mono G3 rfl rfl) (by
      have : tryK x D 0 = D := by funext a i; rw [tryK_at, if_neg (by omega)]
      rw [this]; exact dm3)
    replace e4 : f_X12_tried_52 FU x y 0 σ3 = _ := e4
    have F2 : Fc b [7] σc σ2 := f1.tr f2
    have F6 : Fc b [6] σ2 (wI (wI σ2 1000 1 x) 1000 2 u) := (Fc.rf.wI (by cases b <;> rfl)).wI (by cases b <;> rfl)
    have G6 : Fm [6] σ4 (wI (wI σ4 5000 37 x) 5000 47 y) := (Fm.rf.wI rfl).wI rfl
    have C2 : CC b T x u (wI (wI σ2 1000 1 x) 1000 2 u) := (h.cc.mono F2 rfl rfl).mode F6 rfl rfl
    have M4 : CM T x u (wI (wI σ4 5000 37 x) 5000 47 y) := ((h0.cm.mono G3 rfl rfl).mono f4 rfl rfl).mode G6 rfl (by
      by_cases x3 : x = 3
      · rw [if_pos x3] at hu ⊢; rw [hu]; rfl
      · rw [if_neg x3] at hu ⊢; exact hu)
    have dc' := DC.mono (z := 7) (.inr (.inr ⟨rfl, rfl⟩)) d2 F6 rfl
    have dm' := DM.mono hT d4 G6 rfl
    have t0 : tryD x D 0 0 = D 0 0 := tryD_o (by omega) (by omega)
    have o0 := oD.1
    obtain ⟨σ5, e5, f5, g1, g2⟩ := c_tryL (24 - D 0 0) (D 0 0) FU (tryD x D) _ (by omega) t0 (by unfold FU; omega) C2 (okD_try oD) dc'
    obtain ⟨σ6, e6, f6, g3⟩ := m_tryL (24 - D 0 0) FU (tryD x D) _ (by rw [t0]; omega) (by unfold FU; omega) M4 (okD_try oD) dm'
    refine ⟨nI (cnS (itD T x u (24 - D 0 0) (tryD x D) 4) 1 (T 4 3) 0 0), σ5, σ6, ?_, ?_, h0.mode ((F2.mono rfl).tr ((F6.mono rfl).tr f5)) ((G3.mono rfl).tr ((f4.mono rfl).tr ((G6.mono rfl).tr (f6.mono rfl)))) g1 g2 g3⟩
    · unfold f_X11_tried_31
      rw [e1, bs, e2]
      unfold f_X11_tried_70 f_X11_tried_92
      simp only [lts]
      have g7 : ∀ s1 : Int32, (wI (wI σ2 1000 1 x) 1000 2 s1).1 700 0 = nI (D 0 0) := by
        intro s1
        rw [wI_at, if_neg (by omega), wI_at, if_neg (by omega)]
        exact (F2.z (z := 3) (by cases b <;> rfl) rfl).trans h.dc.1
      rw [g7, g7]
      by_cases x3 : x = 3
      · rw [if_pos x3]
        rw [if_pos x3] at hu
        rw [← hu]; exact e5
      · rw [if_neg x3]
        rw [if_neg x3] at hu
        rw [← hu]; exact e5
    · unfold f_X12_tried_36
      rw [if_neg n10, e3, bs, e4]; exact e6
  have none : V σc (wI σm 5000 0 0) := h0.v
  unfold f_X11_tried f_X12_tried f_X12_tried_35
  simp only [lts]
  have t36 : f_X12_tried_36 x y 0 (wI σm 5000 0 0) = some (-1, wI σm 5000 0 0) := by unfold f_X12_tried_36; rw [if_pos rfl]
  rw [t36]
  by_cases x3 : x = 3
  · rw [if_neg (show ¬ x < 0 by rw [x3]; decide), if_neg (show ¬ 5 < x by rw [x3]; decide), if_pos x3, if_pos x3]
    rcases ix y (n := T 4 2) (by omega) with hy | ⟨m, hm, rfl⟩
    · rw [c_man0 h.cc.2.1 hy, m_man0 h0.cm.2.1 hy, bs, if_pos rfl, t36]
      exact ⟨-1, σc, _, rfl, rfl, none⟩
    · rw [c_man1 hT h.cc.2.1 hm, m_man1 hT h0.cm.2.1 hm, bs, if_neg n10]
      exact main _ rfl
  · rw [if_neg x3, if_neg x3]
    by_cases x0 : x < 0
    · rw [if_pos x0, if_pos x0]; exact ⟨-1, σc, _, rfl, rfl, none⟩
    · rw [if_neg x0, if_neg x0]
      by_cases x5 : 5 < x
      · rw [if_pos x5, if_pos x5]; exact ⟨-1, σc, _, rfl, rfl, none⟩
      · rw [if_neg x5, if_neg x5]
        by_cases y0 : y = 0
        · rw [if_pos y0, if_pos y0]; exact main _ rfl
        · rw [if_neg y0, if_neg y0]; exact ⟨-1, σc, _, rfl, rfl, none⟩
