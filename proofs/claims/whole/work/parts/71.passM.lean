/-! The pure part: an hour passes, by the reference -/
theorem m5 {s m : Nat} : (5 : Int32) * nI s + nI m = nI (5 * s + m) := by show nI 5 * nI s + nI m = _; rw [pk_mul, nI_add]
theorem m12 {s m : Nat} : (12 : Int32) * nI s + nI m = nI (12 * s + m) := by show nI 12 * nI s + nI m = _; rw [pk_mul, nI_add]
theorem m_taxes {T : zT} {w u : Int32} {s m p : Nat} {mv : Int32} (hs : s < 23) (hm : m < T 4 2) (hp : p < 4) {D : zT} {σ : zS} (hC : CM T w u σ) (oD : okD T D) (h : DM T s D mv σ) :
    ∃ σ', f_X12_taxes (nI s) (nI m) (nI p) σ = some σ' ∧ DM T s (payS D m (taxN T w m (D 1 m) p (D 0 0))) mv σ' ∧ Fm [0, zsl s] σ σ' := by
  have o := hC.1.1
  have om := oD.2.1 m hm
  unfold f_X12_taxes f_X12_taxes_63
  rw [lts, m5, rd_nI (by omega) (by omega), bs, rd_nI (by omega) (by omega), bs, h.2.2.1 m hm, h.1]
  obtain ⟨σ1, e1, f1, n1⟩ := m_calls hC (k := 0) hm (show D 1 m < 192 by omega) hp (by omega) oD.1
  replace e1 : f_X12_calls (nI m) (nI (D 1 m)) (nI p) 0 (nI (D 0 0)) σ = _ := e1
  have C1 := hC.mono f1 rfl rfl
  have d1 := DM.mono hC.1 h f1 (slot0 s).1
  have hl := m_hasLaw C1.1 C1.2.1 (r := 2) (by omega)
  replace hl : f_X12_hasLaw 2 σ1 = _ := hl
  rw [e1, bs, hl, bs]
  have tt : ∀ σ2, Fm [0] σ1 σ2 → ∃ σ', f_X12_taxes_64 (nI (5 * s + m)) (nI (taxN T w m (D 1 m) p (D 0 0))) σ2 = some σ' ∧ DM T s (payS D m (taxN T w m (D 1 m) p (D 0 0))) mv σ' ∧ Fm [0, zsl s] σ σ' := by
    intro σ2 f2
    have d2 := DM.mono hC.1 d1 f2 (slot0 s).1
    have tl9 : taxN T w m (D 1 m) p (D 0 0) ≤ 9 := by rw [taxN_cl]; exact clL_le _
    obtain ⟨σ3, e3, d3, f3⟩ := m_pay hs hC.1 oD d2 hm (n := taxN T w m (D 1 m) p (D 0 0)) (by omega)
    exact ⟨σ3, e3, d3, ((Fm01 f1).tr (Fm01 f2)).tr f3⟩
  have tn : taxN T w m (D 1 m) p (D 0 0) = clL ((evS T w 2 m (D 1 m) p 0 (D 0 0)).getD ERR) := taxN_cl
  have cz : clL ERR = 0 := by decide
  unfold evS at tn
  by_cases ht : T 18 2 < T 19 2
  · rw [if_pos ht] at tn
    rw [decide_eq_true ht, if_neg (by decide)]
    obtain ⟨σ2, e2, f2, v2⟩ := m_goes C1.1 C1.2.1 (r := 2) (by omega) (nmS_le C1.1 (show D 1 m < 192 by omega) hp (by omega) oD.1) ht n1
    replace e2 : f_X12_goes 2 σ1 = _ := e2
    rw [e2, b2s]
    generalize evF T (nmS T w m (D 1 m) p 0 (D 0 0)) (T 19 2 - T 18 2) (T 18 2) 0 (fun _ => 0) = ev at v2 tn
    cases ev with
    | none =>
      rw [if_pos (show bI (none : Option Int64).isSome = 0 from rfl)]
      rw [show (none : Option Int64).getD ERR = ERR from rfl, cz] at tn
      have := tt σ2 f2
      rw [tn] at this
      rw [tn]; exact this
    | some v =>
      rw [if_neg (show ¬ bI (some v).isSome = 0 from (by decide : ¬ bI true = 0)), rdL_lit (by decide) (by decide), bs, v2 v rfl, cl_m]
      rw [show (some v).getD ERR = v from rfl] at tn
      rw [← tn]; exact tt σ2 f2
  · rw [if_neg ht] at tn
    rw [decide_eq_false ht, if_pos (by decide)]
    rw [show (none : Option Int64).getD ERR = ERR from rfl, cz] at tn
    have := tt σ1 Fm.rf
    rw [tn] at this
    rw [tn]; exact this
theorem m_taxP {T : zT} {w u : Int32} {s : Nat} {mv : Int32} (hs : s < 23) {m : Nat} (hm : m < T 4 2) (r2 : Int32 → Int32 → zS → Option zS) : ∀ (j p fu : Nat) (D : zT) (σ : zS), p + j = 4 → j < fu → CM T w u σ → okD T D → DM T s D mv σ →
    ∃ σ', f_X12_passes_64 r2 fu (nI s) (nI m) (nI p) σ = r2 (nI s) (nI (m + 1)) σ' ∧ DM T s (taxP T w m j p D) mv σ' ∧ Fm [0, zsl s] σ σ'
  | j, p, 0, D, σ, hj, hf, hC, oD, h => by omega
  | 0, p, fu + 1, D, σ, hj, hf, hC, oD, h => by
    unfold f_X12_passes_64
    rw [if_pos (show (4 : Int32) ≤ nI p from nI_le (a := 4) (by omega) (by omega)), nI_1]
    exact ⟨σ, rfl, h, Fm.rf⟩
  | j + 1, p, fu + 1, D, σ, hj, hf, hC, oD, h => by
    unfold f_X12_passes_64
    rw [if_neg (show ¬ (4 : Int32) ≤ nI p from nI_ge (b := 4) (by omega) (by omega))]
    obtain ⟨σ1, e1, d1, f1⟩ := m_taxes hs hm (show p < 4 by omega) hC oD h
    rw [e1, bs, nI_1]
    obtain ⟨σ3, e3, d3, f3⟩ := m_taxP hs hm r2 j (p + 1) fu _ σ1 (by omega) (by omega) (hC.mono f1 (slot0 s).2.1 (slot0 s).2.2) oD.pay d1
    exact ⟨σ3, e3, d3, f1.tr f3⟩
theorem m_endH {T : zT} {s : Nat} {mv : Int32} (hs : s < 23) {D : zT} {σ : zS} (h : DM T s D mv σ) :
    ∃ σ', f_X12_passes_88 (nI s) σ = some σ' ∧ DM T s (up2 D 0 0 (D 0 0 + 1)) mv σ' ∧ Fm [0, zsl s] σ σ' := by
  unfold f_X12_passes_88
  rw [rd_nI (by omega) (by omega), bs, h.1, nI_1, wr_nI (by omega) (by omega), bs]
  refine ⟨_, rfl, ?_, Fm.rf.wI (by rw [zmA]; simp)⟩
  obtain ⟨c0, c1, c2, c3, c4, c5⟩ := h
  refine ⟨?_, ?_, ?_, ?_, ?_, ?_⟩
  · rw [wI_self, up2_at, if_pos ⟨rfl, rfl⟩]
  · rw [wI_at, if_neg (by omega)]; exact c1
  · intro k hk; rw [wI_at, if_neg (by omega), up2_at, if_neg (by omega)]; exact c2 k hk
  · intro k hk; rw [wI_at, if_neg (by omega), up2_at, if_neg (by omega)]; exact c3 k hk
  · intro k hk; rw [wI_at, if_neg (by omega), up2_at, if_neg (by omega)]; exact c4 k hk
  · intro k hk; rw [wI_at, if_neg (by omega), up2_at, if_neg (by omega)]; exact c5 k hk
theorem m_taxA {T : zT} {w u : Int32} {s : Nat} {mv : Int32} (hs : s < 23) : ∀ (j m fu : Nat) (D : zT) (σ : zS), m + j = T 4 2 → j < fu → CM T w u σ → okD T D → DM T s D mv σ →
    ∃ σ', f_X12_passes_52 fu (nI s) (nI m) σ = some σ' ∧ DM T s ((fun D1 => up2 D1 0 0 (D1 0 0 + 1)) (taxA T w j m D)) mv σ' ∧ Fm [0, zsl s] σ σ'
  | j, m, 0, D, σ, hj, hf, hC, oD, h => by omega
  | 0, m, fu + 1, D, σ, hj, hf, hC, oD, h => by
    have o := hC.1.1
    unfold f_X12_passes_52
    rw [rd_lit (by decide) (by decide), bs, row0 hC.2.1.1 (k := 2) (by decide), if_pos (nI_le (by omega) (by omega))]
    exact m_endH hs h
  | j + 1, m, fu + 1, D, σ, hj, hf, hC, oD, h => by
    have o := hC.1.1
    unfold f_X12_passes_52
    rw [rd_lit (by decide) (by decide), bs, row0 hC.2.1.1 (k := 2) (by decide), if_neg (nI_ge (by omega) (by omega))]
    obtain ⟨σ1, e1, d1, f1⟩ := m_taxP hs (m := m) (by omega) (f_X12_passes_52 fu) 4 0 FU D σ (by omega) (by unfold FU; omega) hC oD h
    replace e1 : f_X12_passes_64 (f_X12_passes_52 fu) FU (nI s) (nI m) 0 σ = _ := e1
    rw [e1]
    obtain ⟨σ2, e2, d2, f2⟩ := m_taxA hs j (m + 1) fu _ σ1 (by omega) (by omega) (hC.mono f1 (slot0 s).2.1 (slot0 s).2.2) (okD_taxP 4 0 D oD).1 d1
    exact ⟨σ2, e2, d2, f1.tr f2⟩
theorem MM.idle {w u : Int32} {σ : zS} (h : MM w u σ) {m : Nat} (hm : m < 2 ^ 31) : (σ.1 5000 37 = 3 ∧ nI m = σ.1 5000 47) ↔ nI m = u := by
  obtain ⟨h1, h2⟩ := h
  rw [h1]
  by_cases hw : w = 3
  · rw [if_pos hw] at h2
    rw [h2]; exact ⟨fun z => z.2, fun z => ⟨hw, z⟩⟩
  · rw [if_neg hw] at h2
    constructor
    · intro z; exact absurd z.1 hw
    · intro z; rw [h2] at z; exact absurd z (nI_nm1 hm)
theorem m_does {T : zT} {w u : Int32} {s k : Nat} {mv : Int32} (hs : s < 23) (hk : k < T 4 3) {D : zT} {σ : zS} (hC : CM T w u σ) (oD : okD T D) (h : DM T s D mv σ) :
    ∃ σ', f_X12_does (nI s) (nI k) σ = some σ' ∧ DM T s (doD T w u D k) mv σ' ∧ Fm [0, zsl s] σ σ' := by
  have o := hC.1.1
  have o0 := oD.1
  have od := hC.1.2.2.2.1 k (by omega)
  have R := hC.2.1.2.2.2.1
  have m5' := oD.2.1 _ od.1
  have z5 : List.elem (zm 5045 (12 * s + k)) [0, zsl s] = true := by rw [zmE (by omega)]; simp
  have zi : ∀ i, i = 5042 ∨ i = 5043 ∨ i = 5044 → List.elem (zm i (5 * s + T 14 k)) [0, zsl s] = true := fun i hi => by rw [zmC (by omega) hi]; simp
  have main : ¬ nI (T 14 k) = u → ∃ σ', f_X12_does_31 (nI s) (nI k) (nI (T 14 k)) (nI (5 * s + T 14 k)) σ = some σ' ∧ DM T s (doD T w u D k) mv σ' ∧ Fm [0, zsl s] σ σ' := by
    intro hu
    unfold doD
    rw [if_neg hu]
    unfold f_X12_does_31
    rw [rd_nI (by omega) (by omega), bs, rd_nI (by omega) (by omega), bs, h.2.2.2.2.1 _ od.1, row0 R.2.1 (by omega), bit0 _ m5'.2.2 _ od.2.1, m12]
    rcases Nat.mod_two_eq_zero_or_one (D 3 (T 14 k) / 2 ^ T 15 k) with e | e
    · rw [e, if_neg (show ¬ nI 0 = (1 : Int32) by decide), if_neg (show ¬ 0 = 1 by decide), rd_nI (by omega) (by omega), bs, h.2.2.1 _ od.1, bs, rd_nI (by omega) (by omega), bs, row0 R.2.2.1 (by omega), rd_nI (by omega) (by omega), bs, h.1]
      obtain ⟨σ1, e1, f1⟩ := m_lawful hC od.1 (show D 1 (T 14 k) < 192 by omega) od.2.1 od.2.2.1 o0
      rw [e1, b2s]
      have d1 := DM.mono hC.1 h f1 (slot0 s).1
      cases el : lawB T w (T 14 k) (D 1 (T 14 k)) (T 15 k) (T 16 k) (D 0 0) with
      | true =>
        rw [if_neg (show ¬ bI true = 0 by decide), wr_nI (by omega) (by omega), bs, if_pos rfl]
        exact ⟨_, rfl, d1.up4, (Fm01 f1).wI z5⟩
      | false =>
        rw [if_pos (show bI false = 0 from rfl), wr_nI (by omega) (by omega), bs, if_neg (show ¬ false = true by decide)]
        have d2 : DM T s (up2 D 4 k 2) mv (wI σ1 5045 (12 * s + k) 2) := d1.up4 (v := 2)
        have F2 : Fm [0, zsl s] σ (wI σ1 5045 (12 * s + k) 2) := (Fm01 f1).wI z5
        have C2 := hC.mono F2 (slot0 s).2.1 (slot0 s).2.2
        have oD2 : okD T (up2 D 4 k 2) := oD.u4 (by omega)
        have pay : ∀ (D3 : zT) (σ3 : zS), CM T w u σ3 → okD T D3 → DM T s D3 mv σ3 → Fm [0, zsl s] σ σ3 → ∃ σ', f_X12_does_148 (nI (5 * s + T 14 k)) σ3 = some σ' ∧ DM T s (payS D3 (T 14 k) (T 4 5)) mv σ' ∧ Fm [0, zsl s] σ σ' := by
          intro D3 σ3 C3 oD3 d3 F3
          have q5 := oD3.2.1 _ od.1
          unfold f_X12_does_148
          rw [rd_nI (by omega) (by omega), bs, bs, d3.2.2.2.1 _ od.1, rd_lit (by decide) (by decide), bs, row0 C3.2.1.1 (k := 5) (by decide), (minI (by omega) (by omega) σ3).2, wr_nI (by omega) (by omega), bs]
          exact ⟨_, rfl, d3.up (i := 2) (by omega), F3.wI (zi _ (by omega))⟩
        rw [C2.2.2.1]
        by_cases hw4 : w = 4
        · rw [if_pos hw4, if_pos hw4]
          exact pay _ _ C2 oD2 d2 F2
        · have ba := bitAdd _ m5'.2.2 _ od.2.1 e
          have v3 : (wI σ1 5045 (12 * s + k) 2).1 5044 (5 * s + T 14 k) = nI (D 3 (T 14 k)) := d2.2.2.2.2.1 _ od.1
          rw [if_neg hw4, if_neg hw4, rd_nI (by omega) (by omega), bs, v3, rd_nI (by omega) (by omega), bs, row0 C2.2.1.2.2.2.1.2.1 (by omega), ba.2, wr_nI (by omega) (by omega), bs]
          have d3 := d2.up (i := 3) (k := T 14 k) (v := D 3 (T 14 k) + 2 ^ T 15 k) (by omega)
          have F3 := F2.wI (v := nI (D 3 (T 14 k) + 2 ^ T 15 k)) (zi 5044 (by omega))
          exact pay _ _ (hC.mono F3 (slot0 s).2.1 (slot0 s).2.2) (oD2.u3 (m := T 14 k) ba.1) d3 F3
    · rw [e, if_pos (show nI 1 = (1 : Int32) from rfl), if_pos rfl, wr_nI (by omega) (by omega), bs]
      exact ⟨_, rfl, h.up4, Fm.rf.wI z5⟩
  unfold f_X12_does
  have id := hC.2.2.idle (m := T 14 k) (by omega)
  rw [rd_nI (by omega) (by omega), bs, row0 R.1 (by omega), lts, m5]
  by_cases h3 : σ.1 5000 37 = 3
  · rw [if_pos h3]
    by_cases hm : nI (T 14 k) = σ.1 5000 47
    · rw [if_pos hm]
      have := id.mp ⟨h3, hm⟩
      unfold doD
      rw [if_pos this]
      exact ⟨σ, rfl, h, Fm.rf⟩
    · rw [if_neg hm]
      exact main (fun z => hm (id.mpr z).2)
  · rw [if_neg h3]
    exact main (fun z => h3 (id.mpr z).1)
theorem m_passL {T : zT} {w u : Int32} {s : Nat} {mv : Int32} (hs : s < 23) : ∀ (j k fu : Nat) (D : zT) (σ : zS), k + j = T 4 3 → j < fu → CM T w u σ → okD T D → DM T s D mv σ →
    ∃ σ', f_X12_passes_2 fu (nI s) (nI k) σ = some σ' ∧ DM T s ((fun D1 => up2 D1 0 0 (D1 0 0 + 1)) ((fun D1 => if D1 0 0 = 23 then taxA T w (T 4 2) 0 D1 else D1) (doA T w u j k D))) mv σ' ∧ Fm [0, zsl s] σ σ'
  | j, k, 0, D, σ, hj, hf, hC, oD, h => by omega
  | 0, k, fu + 1, D, σ, hj, hf, hC, oD, h => by
    have o := hC.1.1
    have o0 := oD.1
    unfold f_X12_passes_2
    rw [rd_lit (by decide) (by decide), bs, row0 hC.2.1.1 (k := 3) (by decide), if_pos (nI_le (by omega) (by omega)), rd_nI (by omega) (by omega), bs, h.1]
    dsimp only [doA]
    by_cases h23 : D 0 0 = 23
    · rw [if_pos h23, h23, if_pos (show nI 23 = (23 : Int32) from rfl)]
      exact m_taxA hs (T 4 2) 0 FU D σ (by omega) (by unfold FU; omega) hC oD h
    · rw [if_neg h23, if_neg (show ¬ nI (D 0 0) = (23 : Int32) by show ¬ _ = nI 23; rw [nI_eq (by omega) (by omega)]; exact h23)]
      exact m_endH hs h
  | j + 1, k, fu + 1, D, σ, hj, hf, hC, oD, h => by
    have o := hC.1.1
    have o0 := oD.1
    have od := hC.1.2.2.2.1 k (by omega)
    unfold f_X12_passes_2 f_X12_passes_33
    rw [rd_lit (by decide) (by decide), bs, row0 hC.2.1.1 (k := 3) (by decide), if_neg (nI_ge (by omega) (by omega)), rd_nI (by omega) (by omega), bs, row0 hC.2.1.2.2.2.1.2.2.2 (by omega), rd_nI (by omega) (by omega), bs, h.1, nI_1]
    unfold doA
    by_cases hh : T 17 k = D 0 0
    · rw [if_pos (by rw [hh]), if_pos hh]
      obtain ⟨σ1, e1, d1, f1⟩ := m_does hs (show k < T 4 3 by omega) hC oD h
      rw [e1, bs]
      obtain ⟨σ2, e2, d2, f2⟩ := m_passL hs j (k + 1) fu _ σ1 (by omega) (by omega) (hC.mono f1 (slot0 s).2.1 (slot0 s).2.2) (okD_doD hC.1 oD (by omega)) d1
      exact ⟨σ2, e2, d2, f1.tr f2⟩
    · rw [if_neg (by rw [nI_eq (by omega) (by omega)]; exact hh), if_neg hh]
      exact m_passL hs j (k + 1) fu _ σ (by omega) (by omega) hC oD h
theorem m_pass {T : zT} {w u : Int32} {s : Nat} {mv : Int32} (hs : s < 23) {D : zT} {σ : zS} (hC : CM T w u σ) (oD : okD T D) (h : DM T s D mv σ) :
    ∃ σ', f_X12_passes (nI s) σ = some σ' ∧ DM T s (passD T w u D) mv σ' ∧ Fm [0, zsl s] σ σ' := by
  have o := hC.1.1
  exact m_passL hs (T 4 3) 0 FU D σ (by omega) (by unfold FU; omega) hC oD h
