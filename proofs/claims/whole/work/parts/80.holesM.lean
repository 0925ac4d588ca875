/-! The pure part: loopholes, of the reference -/
theorem m_unlL {T D : zT} {mv : Int32} {m k : Nat} (oD : okD T D) (hm : m < T 4 2) (hk : k < 4) : ∀ (j p fu : Nat) (σ : zS), p + j = 4 → j < fu → CM T (-1) (-1) σ → DM T 0 D mv σ → σ.1 5000 51 = nI (setN (unL T m k (D 0 0)) p) →
    ∃ σ', f_X12_layUnlawful_7 fu (nI m) (nI k) (nI p) σ = some σ' ∧ Fm [0, 11] σ σ' ∧ σ'.1 5000 51 = nI (setN (unL T m k (D 0 0)) 4)
  | j, p, 0, σ, hj, hf, hC, h, hu => by omega
  | 0, p, fu + 1, σ, hj, hf, hC, h, hu => by
    unfold f_X12_layUnlawful_7
    rw [if_pos (show (4 : Int32) ≤ nI p from nI_le (a := 4) (by omega) (by omega))]
    refine ⟨σ, rfl, Fm.rf, ?_⟩
    rw [show p = 4 by omega] at hu; exact hu
  | j + 1, p, fu + 1, σ, hj, hf, hC, h, hu => by
    have o := hC.1.1
    have fl := fst_lt hC.1 hm
    have om := hC.1.2.2.1 m hm
    have efs : f_X12_firstState (nI m) σ = some (nI (fst T m)) := by
      unfold f_X12_firstState
      rw [rd_nI (by omega) (by omega), bs, rd_nI (by omega) (by omega), bs, row0 hC.2.1.2.2.1.2.1 hm, row0 hC.2.1.2.2.1.2.2.1 hm]
      show some (nI 16 * nI (T 10 m) + nI 4 * nI (T 11 m)) = _
      rw [pk_mul, pk_mul, nI_add]; rfl
    obtain ⟨σ1, e1, f1⟩ := m_lawful hC hm (show fst T m < 192 by omega) (show p < 4 by omega) hk oD.1
    have lt := setN_lt (unL T m k (D 0 0)) p
    have p4 : 2 ^ p ≤ 2 ^ 4 := Nat.pow_le_pow_right (by decide) (by omega)
    unfold f_X12_layUnlawful_7 f_X12_layUnlawful_45
    simp only [lts]
    rw [if_neg (show ¬ (4 : Int32) ≤ nI p from nI_ge (b := 4) (by omega) (by omega)), efs, bs, rd_lit (by decide) (by decide), bs, h.1, e1, b2s, hu, shl1 p (by omega), nI_1]
    have C1 := hC.mono f1 rfl rfl
    have key : ∀ v : Nat, v = setN (unL T m k (D 0 0)) (p + 1) → ∃ σ', f_X12_layUnlawful_7 fu (nI m) (nI k) (nI (p + 1)) (wI σ1 5000 51 (nI v)) = some σ' ∧ Fm [0, 11] σ σ' ∧ σ'.1 5000 51 = nI (setN (unL T m k (D 0 0)) 4) := by
      intro v hv
      have W : Fm [11] σ1 (wI σ1 5000 51 (nI v)) := Fm.rf.wI rfl
      obtain ⟨σ2, e2, f2, g2⟩ := m_unlL oD hm hk j (p + 1) fu (wI σ1 5000 51 (nI v)) (by omega) (by omega) (C1.mono W rfl rfl) (DM.mono hC.1 (DM.mono hC.1 h f1 rfl) W rfl) (by rw [wI_self, hv])
      exact ⟨σ2, e2, ((f1.mono rfl).tr (W.mono rfl)).tr f2, g2⟩
    rw [setN_s] at key
    unfold unL at key
    cases e : lawB T (-1) m (fst T m) p k (D 0 0) with
    | true =>
      rw [e] at key
      rw [if_neg (show ¬ bI true = 0 by decide)]
      show ∃ σ', f_X12_layUnlawful_7 fu (nI m) (nI k) (nI (p + 1)) (wI σ1 5000 51 (nI (setN (unL T m k (D 0 0)) p) ||| nI 0)) = some σ' ∧ _
      rw [nI_or (by omega) (by omega), Nat.or_zero]
      exact key _ rfl
    | false =>
      rw [e] at key
      rw [if_pos (show bI false = 0 from rfl), nI_or (by omega) (by omega), or_new lt]
      exact key _ rfl
theorem m_unl {T D : zT} {mv : Int32} {m k : Nat} {σ : zS} (oD : okD T D) (hm : m < T 4 2) (hk : k < 4) (hC : CM T (-1) (-1) σ) (h : DM T 0 D mv σ) :
    ∃ σ', f_X12_layUnlawful (nI m) (nI k) σ = some σ' ∧ Fm [0, 11] σ σ' ∧ σ'.1 5000 51 = nI (setN (unL T m k (D 0 0)) 4) := by
  have W : Fm [11] σ (wI σ 5000 51 0) := Fm.rf.wI rfl
  obtain ⟨σ2, e2, f2, g2⟩ := m_unlL oD hm hk 4 0 FU (wI σ 5000 51 0) (by omega) (by unfold FU; omega) (hC.mono W rfl rfl) (DM.mono hC.1 h W rfl) (wI_self _ _ _ _)
  exact ⟨σ2, e2, (W.mono rfl).tr f2, g2⟩
theorem bit5 : ∀ v, v < 32 → ∀ p, p < 10 → ((nI v >>> (nI p &&& 31)) &&& (1 : Int32) = nI (v / 2 ^ p % 2)) := by decide +kernel
theorem m_holeL {T D : zT} {mv : Int32} {m k sh s : Nat} (oD : okD T D) (hm : m < T 4 2) (hk : k < 4) (hs : s < 192) (hsh : sh < 32) : ∀ (j p fu : Nat) (σ : zS), p + j = 4 → j < fu → CM T (-1) (-1) σ → DM T 0 D mv σ → σ.1 5000 51 = nI (setN (unL T m k (D 0 0)) 4) →
    ∃ σ', f_X12_isLoophole_3 fu (nI m) (nI s) (nI k) (nI sh) (nI p) σ = some (bI (anyU (lpP T m k (D 0 0) sh s) j p), σ') ∧ Fm [0] σ σ'
  | j, p, 0, σ, hj, hf, hC, h, hu => by omega
  | 0, p, fu + 1, σ, hj, hf, hC, h, hu => by
    unfold f_X12_isLoophole_3
    rw [if_pos (show (4 : Int32) ≤ nI p from nI_le (a := 4) (by omega) (by omega))]
    exact ⟨σ, rfl, Fm.rf⟩
  | j + 1, p, fu + 1, σ, hj, hf, hC, h, hu => by
    have o := hC.1.1
    have lt := setN_lt (unL T m k (D 0 0)) 4
    have pl := plc_le (s := s) (p := p) hs
    have lq := landQ_lt hC.1 (q := plc s p)
    have b4 := set4 (unL T m k (D 0 0)) p (by omega)
    unfold f_X12_isLoophole_3 f_X12_isLoophole_76
    rw [if_neg (show ¬ (4 : Int32) ≤ nI p from nI_ge (b := 4) (by omega) (by omega)), hu, bit0 _ lt _ (show p < 4 by omega), nI_1, anyU_s]
    cases e : unL T m k (D 0 0) p with
    | false =>
      have z : setN (unL T m k (D 0 0)) 4 / 2 ^ p % 2 = 0 := by
        rcases Nat.mod_two_eq_zero_or_one (setN (unL T m k (D 0 0)) 4 / 2 ^ p) with z | z
        · exact z
        · rw [b4.mp z] at e; cases e
      rw [z, if_pos (show nI 0 = (0 : Int32) from rfl)]
      have : lpP T m k (D 0 0) sh s p = false := by unfold lpP; rw [e]; rfl
      rw [this, Bool.false_or]
      exact m_holeL oD hm hk hs hsh j (p + 1) fu σ (by omega) (by omega) hC h hu
    | true =>
      rw [b4.mpr e, if_neg (show ¬ nI 1 = (0 : Int32) by decide), m_place hs (by omega), m_landOf hC.1 hC.2.1 pl, bs]
      have law : ∀ q : Bool, lpP T m k (D 0 0) sh s p = (q && lawB T (-1) m s p k (D 0 0)) → q = true → ∃ σ', f_X12_isLoophole_56 (f_X12_isLoophole_3 fu) (nI m) (nI s) (nI k) (nI sh) (nI p) σ = some (bI (lpP T m k (D 0 0) sh s p || anyU (lpP T m k (D 0 0) sh s) j (p + 1)), σ') ∧ Fm [0] σ σ' := by
        intro q hq hqt
        obtain ⟨σ1, e1, f1⟩ := m_lawful hC hm hs (show p < 4 by omega) hk oD.1
        unfold f_X12_isLoophole_56 f_X12_isLoophole_76
        rw [rd_lit (by decide) (by decide), bs, h.1, e1, b2s, nI_1, hq, hqt, Bool.true_and]
        cases lawB T (-1) m s p k (D 0 0) with
        | true => exact ⟨σ1, rfl, f1⟩
        | false =>
          rw [if_pos (show bI false = 0 from rfl), Bool.false_or]
          obtain ⟨σ2, e2, f2⟩ := m_holeL oD hm hk hs hsh j (p + 1) fu σ1 (by omega) (by omega) (hC.mono f1 rfl rfl) (DM.mono hC.1 h f1 rfl) ((f1.z (z := 11) rfl rfl).trans hu)
          exact ⟨σ2, e2, f1.tr f2⟩
      have lp : lpP T m k (D 0 0) sh s p = (!(!(decide (landQ T (plc s p) = 9)) && decide (sh / 2 ^ landQ T (plc s p) % 2 = 1)) && lawB T (-1) m s p k (D 0 0)) := by
        unfold lpP; rw [e, Bool.true_and]
      by_cases h9 : landQ T (plc s p) = 9
      · rw [if_pos h9, if_pos rfl]
        exact law _ lp (by rw [decide_eq_true h9]; rfl)
      · have hq := lq.resolve_left h9
        rw [if_neg h9, if_neg (nI_nm1 (by omega)), bit5 sh hsh _ (by omega)]
        rcases Nat.mod_two_eq_zero_or_one (sh / 2 ^ landQ T (plc s p)) with z | z
        · rw [z, if_neg (show ¬ nI 0 = (1 : Int32) by decide)]
          exact law _ lp (by rw [z, decide_eq_false h9]; rfl)
        · rw [z, if_pos (show nI 1 = (1 : Int32) from rfl)]
          have : lpP T m k (D 0 0) sh s p = false := by rw [lp, z, decide_eq_false h9]; rfl
          rw [this, Bool.false_or]
          exact m_holeL oD hm hk hs hsh j (p + 1) fu σ (by omega) (by omega) hC h hu
theorem m_hole {T D : zT} {mv : Int32} {m k sh s : Nat} {σ : zS} (oD : okD T D) (hm : m < T 4 2) (hk : k < 4) (hs : s < 192) (hsh : sh < 32) (hC : CM T (-1) (-1) σ) (h : DM T 0 D mv σ) (hu : σ.1 5000 51 = nI (setN (unL T m k (D 0 0)) 4)) :
    ∃ σ', f_X12_isLoophole (nI m) (nI s) (nI k) (nI sh) σ = some (bI (lpH T m k (D 0 0) sh s), σ') ∧ Fm [0] σ σ' :=
  m_holeL oD hm hk hs hsh 4 0 FU σ (by omega) (by unfold FU; omega) hC h hu
theorem m_many16 {T : zT} {σ : zS} (hR : RM T σ) : f_X12_statesMany σ = some (nI (16 * T 4 0)) := by
  unfold f_X12_statesMany
  rw [rd_lit (by decide) (by decide), bs, row0 hR.1 (k := 0) (by decide)]
  show some (nI 16 * nI (T 4 0)) = _
  rw [pk_mul]
theorem m_holes {T D : zT} {mv : Int32} {m k : Nat} (oD : okD T D) (hm : m < T 4 2) (hk : k < 4) : ∀ (j s a fu : Nat) (σ : zS), s + j = 16 * T 4 0 → a ≤ s → j < fu → CM T (-1) (-1) σ → DM T 0 D mv σ → σ.1 5000 51 = nI (setN (unL T m k (D 0 0)) 4) →
    ∃ σ', f_X12_loopholes_33 fu (nI m) (nI k) (nI a) (nI s) σ = some (nI (cntH (lpH T m k (D 0 0) 0) j s a), σ') ∧ Fm [0] σ σ'
  | j, s, a, 0, σ, hj, ha, hf, hC, h, hu => by omega
  | 0, s, a, fu + 1, σ, hj, ha, hf, hC, h, hu => by
    have o := hC.1.1
    unfold f_X12_loopholes_33
    rw [m_many16 hC.2.1, bs, if_pos (nI_le (by omega) (by omega))]
    exact ⟨σ, rfl, Fm.rf⟩
  | j + 1, s, a, fu + 1, σ, hj, ha, hf, hC, h, hu => by
    have o := hC.1.1
    obtain ⟨σ1, e1, f1⟩ := m_hole oD hm hk (show s < 192 by omega) (show 0 < 32 by omega) hC h hu
    replace e1 : f_X12_isLoophole (nI m) (nI s) (nI k) 0 σ = _ := e1
    unfold f_X12_loopholes_33 f_X12_loopholes_60
    simp only [lts]
    rw [m_many16 hC.2.1, bs, if_neg (nI_ge (by omega) (by omega)), e1, b2s, nI_1, nI_1]
    have nx : ∀ a', a' ≤ s + 1 → ∃ σ', f_X12_loopholes_33 fu (nI m) (nI k) (nI a') (nI (s + 1)) σ1 = some (nI (cntH (lpH T m k (D 0 0) 0) j (s + 1) a'), σ') ∧ Fm [0] σ σ' := by
      intro a' ha'
      obtain ⟨σ2, e2, f2⟩ := m_holes oD hm hk j (s + 1) a' fu σ1 (by omega) ha' (by omega) (hC.mono f1 rfl rfl) (DM.mono hC.1 h f1 rfl) ((f1.z (z := 11) rfl rfl).trans hu)
      exact ⟨σ2, e2, f1.tr f2⟩
    unfold cntH
    cases lpH T m k (D 0 0) 0 s with
    | false =>
      rw [if_pos (show bI false = 0 from rfl), if_neg (by decide), show nI a + 0 = nI a from by show nI a + nI 0 = _; rw [nI_add]; rfl]
      exact nx a (by omega)
    | true =>
      rw [if_neg (show ¬ bI true = 0 by decide), if_pos rfl]
      exact nx (a + 1) (by omega)
theorem m_hole1 {T D : zT} {mv : Int32} {m k q : Nat} (oD : okD T D) (hm : m < T 4 2) (hk : k < 4) (hq : q < 2 ^ 31) : ∀ (j s i n fu : Nat) (σ : zS), s + j = 16 * T 4 0 → n + i = q → n ≤ s → j < fu → CM T (-1) (-1) σ → DM T 0 D mv σ → σ.1 5000 51 = nI (setN (unL T m k (D 0 0)) 4) →
    ∃ σ', f_X12_loophole_38 fu (nI m) (nI k) (nI q) (nI n) (nI s) σ = some (oI2 (kthH (lpH T m k (D 0 0) 0) j s i), σ') ∧ Fm [0] σ σ'
  | j, s, i, n, 0, σ, hj, hn, hns, hf, hC, h, hu => by omega
  | 0, s, i, n, fu + 1, σ, hj, hn, hns, hf, hC, h, hu => by
    have o := hC.1.1
    unfold f_X12_loophole_38
    rw [m_many16 hC.2.1, bs, if_pos (nI_le (by omega) (by omega))]
    exact ⟨σ, rfl, Fm.rf⟩
  | j + 1, s, i, n, fu + 1, σ, hj, hn, hns, hf, hC, h, hu => by
    have o := hC.1.1
    obtain ⟨σ1, e1, f1⟩ := m_hole oD hm hk (show s < 192 by omega) (show 0 < 32 by omega) hC h hu
    replace e1 : f_X12_isLoophole (nI m) (nI s) (nI k) 0 σ = _ := e1
    unfold f_X12_loophole_38 f_X12_loophole_74
    rw [m_many16 hC.2.1, bs, if_neg (nI_ge (by omega) (by omega)), e1, b2s, nI_1, nI_1]
    have nx : ∀ i' n', n' + i' = q → n' ≤ s + 1 → ∃ σ', f_X12_loophole_38 fu (nI m) (nI k) (nI q) (nI n') (nI (s + 1)) σ1 = some (oI2 (kthH (lpH T m k (D 0 0) 0) j (s + 1) i'), σ') ∧ Fm [0] σ σ' := by
      intro i' n' h1 h2
      obtain ⟨σ2, e2, f2⟩ := m_hole1 oD hm hk hq j (s + 1) i' n' fu σ1 (by omega) h1 h2 (by omega) (hC.mono f1 rfl rfl) (DM.mono hC.1 h f1 rfl) ((f1.z (z := 11) rfl rfl).trans hu)
      exact ⟨σ2, e2, f1.tr f2⟩
    unfold kthH
    cases lpH T m k (D 0 0) 0 s with
    | false =>
      rw [if_pos (show bI false = 0 from rfl), if_neg (by decide)]
      exact nx i n hn (by omega)
    | true =>
      rw [if_neg (show ¬ bI true = 0 by decide), if_pos rfl]
      cases i with
      | zero => rw [if_pos (by rw [show n = q by omega])]; exact ⟨σ1, rfl, f1⟩
      | succ i' =>
        rw [if_neg (show ¬ nI n = nI q by rw [nI_eq (by omega) (by omega)]; omega)]
        exact nx i' (n + 1) (by omega) (by omega)
theorem Vx.q2 {b : Bool} {T D : zT} {mv : Int32} {σc σm σc' σm' : zS} (h : Vx b T D mv σc σm) (F : Fc b [0, 12, 13, 14, 15, 16] σc σc') (G : Fm [0, 11, 12, 13, 14, 15, 16] σm σm') : V σc' σm' := (h.scr (F.mono rfl) (G.mono rfl)).v
theorem o_loopholes : op_loopholes V := by
  intro x y σc σm ⟨b, T, D, mv, h⟩
  have h0 := h.th 0
  have hT := h.oT
  have o := hT.1
  unfold f_X11_loopholes f_X12_loopholes
  rw [lts]
  rcases ix x (n := T 4 2) (by omega) with hx | ⟨m, hm, rfl⟩
  · rw [c_man0 h.cc.2.1 hx, m_man0 h0.cm.2.1 hx, bs]
    exact ⟨-1, σc, _, rfl, rfl, h0.v⟩
  · rw [c_man1 hT h.cc.2.1 hm, m_man1 hT h0.cm.2.1 hm, bs, if_neg n10, if_neg n10]
    rcases ix y (n := 4) (by omega) with hy | ⟨k, hk, rfl⟩
    · rw [(pt0 hy _).2.2.1, (pt0 hy _).2.2.2]
      exact ⟨-1, σc, _, rfl, rfl, h0.v⟩
    · rw [(pt1 hk _).2.2.1, (pt1 hk _).2.2.2, if_neg n10, if_neg n10]
      obtain ⟨σ1, c, e1, f1, hc, hp⟩ := c_closed h.cc h.oD h.dc hm hk
      obtain ⟨σ2, e2, f2, g2⟩ := m_unl h.oD hm hk h0.cm h0.dm
      obtain ⟨σ3, e3, f3⟩ := c_holes h.oD hm hk hc hp (16 * T 4 0) 0 0 FU σ1 (by omega) (by omega) (by unfold FU; omega) (h.cc.mono f1 rfl rfl) (DC.mono (z := 3) (.inl ⟨rfl, rfl⟩) h.dc f1 rfl)
      obtain ⟨σ4, e4, f4⟩ := m_holes h.oD hm hk (16 * T 4 0) 0 0 FU σ2 (by omega) (by omega) (by unfold FU; omega) (h0.cm.mono f2 rfl rfl) (DM.mono hT h0.dm f2 rfl) g2
      rw [e1, b2s, e2, bs]
      exact ⟨_, σ3, σ4, e3, e4, h0.q2 ((f1.tr f3).mono rfl) ((f2.mono rfl).tr (f4.mono rfl))⟩
theorem o_loophole : op_loophole V := by
  intro x y z σc σm ⟨b, T, D, mv, h⟩
  have h0 := h.th 0
  have hT := h.oT
  have o := hT.1
  unfold f_X11_loophole f_X12_loophole
  rw [lts]
  rcases ix x (n := T 4 2) (by omega) with hx | ⟨m, hm, rfl⟩
  · rw [c_man0 h.cc.2.1 hx, m_man0 h0.cm.2.1 hx, bs]
    exact ⟨-1, σc, _, rfl, rfl, h0.v⟩
  · rw [c_man1 hT h.cc.2.1 hm, m_man1 hT h0.cm.2.1 hm, bs, if_neg n10, if_neg n10]
    rcases ix y (n := 4) (by omega) with hy | ⟨k, hk, rfl⟩
    · rw [(pt0 hy _).2.2.1, (pt0 hy _).2.2.2]
      exact ⟨-1, σc, _, rfl, rfl, h0.v⟩
    · rw [(pt1 hk _).2.2.1, (pt1 hk _).2.2.2, if_neg n10, if_neg n10]
      by_cases zz0 : z < 0
      · rw [if_neg (Int32.not_le.mpr zz0), if_neg (Int32.not_le.mpr zz0)]; exact ⟨-1, σc, _, rfl, rfl, h0.v⟩
      · obtain ⟨q, hq, rfl⟩ := nI_of zz0
        rw [if_pos (Int32.not_lt.mp zz0), if_pos (Int32.not_lt.mp zz0)]
        obtain ⟨σ1, c, e1, f1, hc, hp⟩ := c_closed h.cc h.oD h.dc hm hk
        obtain ⟨σ2, e2, f2, g2⟩ := m_unl h.oD hm hk h0.cm h0.dm
        obtain ⟨σ3, e3, f3⟩ := c_hole1 h.oD hm hk hc hp (16 * T 4 0) 0 q FU σ1 (by omega) hq (by unfold FU; omega) (h.cc.mono f1 rfl rfl) (DC.mono (z := 3) (.inl ⟨rfl, rfl⟩) h.dc f1 rfl)
        obtain ⟨σ4, e4, f4⟩ := m_hole1 h.oD hm hk hq (16 * T 4 0) 0 q 0 FU σ2 (by omega) (by omega) (by omega) (by unfold FU; omega) (h0.cm.mono f2 rfl rfl) (DM.mono hT h0.dm f2 rfl) g2
        rw [e1, b2s, e2, bs]
        exact ⟨_, σ3, σ4, e3, e4, h0.q2 ((f1.tr f3).mono rfl) ((f2.mono rfl).tr (f4.mono rfl))⟩
