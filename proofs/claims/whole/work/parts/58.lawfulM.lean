/-! The pure part: what is lawful, by the reference -/
theorem m_calls {T : zT} {w u : Int32} {σ : zS} (hC : CM T w u σ) {m s p k h : Nat} (hm : m < T 4 2) (hs : s < 192) (hp : p < 4) (hk : k < 4) (hh : h ≤ 24) :
    ∃ σ', f_X12_calls (nI m) (nI s) (nI p) (nI k) (nI h) σ = some σ' ∧ Fm [0] σ σ' ∧ ∀ j, j < 7 → σ'.2.1 5035 j = lN (nmS T w m s p k h j) := by
  obtain ⟨hT, hR, hM⟩ := hC
  have o := hT.1
  have lq : landQ T (plc s p) ≤ 9 := by rcases landQ_lt hT (q := plc s p) with z | z <;> omega
  have sd : sideN T w m p < 2 := Nat.mod_lt _ (by decide)
  have cr : crs s p < 2 := Nat.mod_lt _ (by decide)
  have F1 : Fm [0] σ (wL σ 5035 0 (nI p).toInt64) := Fm.rf.wL
  unfold f_X12_calls
  rw [m_place hs hp, m_landOf hT hR (plc_le hs), bs, wrL_lit (by decide) (by decide), bs, m_side hT (hR.mono hT F1 rfl) (hM.mono F1 rfl) hm hp, bs, wrL_lit (by decide) (by decide), bs]
  have e9 : ∀ σ2 : zS, (if (if landQ T (plc s p) = 9 then (-1 : Int32) else nI (landQ T (plc s p))) = (-1 : Int32) then f_X12_calls_52 (nI s) (nI p) (nI k) (nI h) 2 9 σ2 else f_X12_calls_52 (nI s) (nI p) (nI k) (nI h) 2 (if landQ T (plc s p) = 9 then (-1 : Int32) else nI (landQ T (plc s p))).toInt64 σ2) = f_X12_calls_52 (nI s) (nI p) (nI k) (nI h) 2 (lN (landQ T (plc s p))) σ2 := by
    intro σ2
    by_cases h9 : landQ T (plc s p) = 9
    · rw [if_pos h9, if_pos rfl, h9]; rfl
    · have hne : ¬ nI (landQ T (plc s p)) = -1 := by
        intro z
        have := nI_pos (n := landQ T (plc s p)) (by omega)
        rw [z] at this; exact this (by decide)
      rw [if_neg h9, if_neg hne, nI_l (by omega)]
  rw [e9]
  unfold f_X12_calls_52
  rw [wrL_lit (by decide) (by decide), bs, m_face hs, wrL_lit (by decide) (by decide), bs, m_cross hs hp]
  have ec : ∀ σ2 : zS, (if nI (crs s p) = 0 then f_X12_calls_82 (nI k) (nI h) 4 0 σ2 else f_X12_calls_82 (nI k) (nI h) 4 1 σ2) = f_X12_calls_82 (nI k) (nI h) 4 (lN (crs s p)) σ2 := by
    intro σ2
    have : crs s p = 0 ∨ crs s p = 1 := by omega
    rcases this with z | z <;> rw [z] <;> rfl
  rw [ec]
  unfold f_X12_calls_82
  rw [wrL_lit (by decide) (by decide), bs, wrL_lit (by decide) (by decide), bs, wrL_lit (by decide) (by decide), bs]
  refine ⟨_, rfl, Fm.rf, ?_⟩
  intro j hj
  have : j = 0 ∨ j = 1 ∨ j = 2 ∨ j = 3 ∨ j = 4 ∨ j = 5 ∨ j = 6 := by omega
  rw [nI_l (by omega), nI_l (by omega), nI_l (by omega), nI_l (by omega), nI_l (by omega)]
  rcases this with rfl | rfl | rfl | rfl | rfl | rfl | rfl <;> simp [wL_at, nmS]
theorem m_hasLaw {T : zT} {σ : zS} (hT : okT T) (hR : RM T σ) {r : Nat} (hr : r < 3) : f_X12_hasLaw (nI r) σ = some (bI (decide (T 18 r < T 19 r))) := by
  have o := hT.1
  have ol := hT.2.2.2.2 r hr
  have e1 := hR.2.2.2.2.1 r hr
  have e2 := hR.2.2.2.2.2.1 r hr
  rw [Nat.zero_add] at e1 e2
  unfold f_X12_hasLaw
  rw [rd_nI (by omega) (by omega), bs, rd_nI (by omega) (by omega), bs, e1, e2]
  by_cases h : T 18 r < T 19 r
  · rw [if_neg (nI_ge h (by omega)), decide_eq_true h]; rfl
  · rw [if_pos (nI_le (by omega) (by omega)), decide_eq_false h]; rfl
theorem m_goes {T : zT} {σ : zS} {nm : Nat → Nat} {r : Nat} (hT : okT T) (hR : RM T σ) (hr : r < 3) (hn : ∀ j, j < 7 → nm j ≤ 9999) (ht : T 18 r < T 19 r) (hnm : ∀ j, j < 7 → σ.2.1 5035 j = lN (nm j)) :
    ∃ σ', f_X12_goes (nI r) σ = some (bI (evF T nm (T 19 r - T 18 r) (T 18 r) 0 (fun _ => 0)).isSome, σ') ∧ Fm [0] σ σ' ∧ (∀ v, evF T nm (T 19 r - T 18 r) (T 18 r) 0 (fun _ => 0) = some v → σ'.2.1 5036 0 = v) := by
  have o := hT.1
  have ol := hT.2.2.2.2 r hr
  have F1 : Fm [0] σ (wI σ 5000 36 0) := Fm.rf.wI rfl
  have R1 := hR.mono hT F1 rfl
  have e1 := R1.2.2.2.2.1 r hr
  rw [Nat.zero_add] at e1
  unfold f_X12_goes
  rw [lts, rd_nI (by omega) (by omega), bs, e1]
  exact m_goesL hT hR hr hn (T 19 r - T 18 r) (T 18 r) 0 (fun _ => 0) FU _ (by omega) (by unfold FU; omega) (ol.2.2 ht) (by omega) F1 rfl (fun j hj => by omega) hnm (fun _ => bnd_lN (k := 0) (by omega))
theorem bI_1 {b : Bool} : ¬ bI b = 0 ↔ b = true := by cases b <;> simp [bI]
theorem m_bound {T : zT} {w u : Int32} {σ : zS} (hC : CM T w u σ) {m s p h : Nat} (hm : m < T 4 2) (hs : s < 192) (hp : p < 4) (hh : h ≤ 24) :
    ∃ σ', f_X12_isBound (nI m) (nI s) (nI p) (nI h) σ = some (bI (bndB T w m s p h), σ') ∧ Fm [0] σ σ' := by
  unfold f_X12_isBound bndB
  rw [hC.2.2.1]
  by_cases hw : w = 0
  · rw [if_pos hw, if_pos hw]; exact ⟨σ, rfl, Fm.rf⟩
  · rw [if_neg hw, if_neg hw]
    obtain ⟨σ1, h1, f1, n1⟩ := m_calls hC (k := 0) hm hs hp (by omega) hh
    replace h1 : f_X12_calls (nI m) (nI s) (nI p) 0 (nI h) σ = _ := h1
    have C1 := hC.mono f1 rfl rfl
    have hl := m_hasLaw C1.1 C1.2.1 (r := 0) (by omega)
    replace hl : f_X12_hasLaw 0 σ1 = _ := hl
    have sid : ∀ σ2, CM T w u σ2 → f_X12_isBound_54 (nI m) (nI p) σ2 = some (bI (decide (sideN T w m p = 0)), σ2) := by
      intro σ2 C2
      unfold f_X12_isBound_54
      rw [m_side C2.1 C2.2.1 C2.2.2 hm hp, bs]
      have hs2 : sideN T w m p = 0 ∨ sideN T w m p = 1 := by unfold sideN; omega
      rcases hs2 with z | z <;> rw [z] <;> rfl
    rw [h1, bs, hl, bs]
    unfold evS
    by_cases ht : T 18 0 < T 19 0
    · rw [decide_eq_true ht, if_neg (by decide), if_pos ht]
      obtain ⟨σ2, h2, f2, v2⟩ := m_goes C1.1 C1.2.1 (r := 0) (by omega) (nmS_le C1.1 hs hp (by omega) hh) ht n1
      replace h2 : f_X12_goes 0 σ1 = _ := h2
      rw [h2, b2s]
      generalize evF T (nmS T w m s p 0 h) (T 19 0 - T 18 0) (T 18 0) 0 (fun _ => 0) = ev at v2
      cases ev with
      | none =>
        rw [if_pos (show bI (none : Option Int64).isSome = 0 from rfl), sid _ (C1.mono f2 rfl rfl)]
        exact ⟨σ2, rfl, f1.tr f2⟩
      | some v =>
        rw [if_neg (show ¬ bI (some v).isSome = 0 from (by decide : ¬ bI true = 0)), rdL_lit (by decide) (by decide), bs, v2 v rfl]
        simp only [lg_cmp_eq]
        refine ⟨σ2, ?_, f1.tr f2⟩
        by_cases hv : v = 0
        · rw [if_pos hv]; simp [hv, bI]
        · rw [if_neg hv]; simp [hv, bI]
    · rw [decide_eq_false ht, if_pos (by decide), if_neg ht, sid _ C1]
      exact ⟨σ1, rfl, f1⟩
theorem m_may {T : zT} {w u : Int32} {σ : zS} (hC : CM T w u σ) {m s p k h : Nat} (hm : m < T 4 2) (hs : s < 192) (hp : p < 4) (hk : k < 4) (hh : h ≤ 24) :
    ∃ σ', f_X12_mayDo (nI m) (nI s) (nI p) (nI k) (nI h) σ = some (bI (mayB T w m s p k h), σ') ∧ Fm [0] σ σ' := by
  unfold f_X12_mayDo mayB
  obtain ⟨σ1, h1, f1, n1⟩ := m_calls hC hm hs hp hk hh
  have C1 := hC.mono f1 rfl rfl
  have hl := m_hasLaw C1.1 C1.2.1 (r := 1) (by omega)
  replace hl : f_X12_hasLaw 1 σ1 = _ := hl
  have sid : ∀ σ2, f_X12_mayDo_46 (nI k) σ2 = some (bI (!(decide (k = 2))), σ2) := by
    intro σ2
    unfold f_X12_mayDo_46
    by_cases hk2 : k = 2
    · subst hk2; rfl
    · rw [if_neg (show ¬ nI k = (2 : Int32) by show ¬ _ = nI 2; rw [nI_eq (by omega) (by omega)]; exact hk2)]
      simp [hk2, bI]
  rw [h1, bs, hl, bs]
  unfold evS
  by_cases ht : T 18 1 < T 19 1
  · rw [decide_eq_true ht, if_neg (by decide), if_pos ht]
    obtain ⟨σ2, h2, f2, v2⟩ := m_goes C1.1 C1.2.1 (r := 1) (by omega) (nmS_le C1.1 hs hp hk hh) ht n1
    replace h2 : f_X12_goes 1 σ1 = _ := h2
    rw [h2, b2s]
    generalize evF T (nmS T w m s p k h) (T 19 1 - T 18 1) (T 18 1) 0 (fun _ => 0) = ev at v2
    cases ev with
    | none =>
      rw [if_pos (show bI (none : Option Int64).isSome = 0 from rfl), sid]
      exact ⟨σ2, rfl, f1.tr f2⟩
    | some v =>
      rw [if_neg (show ¬ bI (some v).isSome = 0 from (by decide : ¬ bI true = 0)), rdL_lit (by decide) (by decide), bs, v2 v rfl]
      simp only [lg_cmp_eq]
      refine ⟨σ2, ?_, f1.tr f2⟩
      by_cases hv : v = 0
      · rw [if_pos hv]; simp [hv, bI]
      · rw [if_neg hv]; simp [hv, bI]
  · rw [decide_eq_false ht, if_pos (by decide), if_neg ht, sid]
    exact ⟨σ1, rfl, f1⟩
theorem m_lawful {T : zT} {w u : Int32} {σ : zS} (hC : CM T w u σ) {m s p k h : Nat} (hm : m < T 4 2) (hs : s < 192) (hp : p < 4) (hk : k < 4) (hh : h ≤ 24) :
    ∃ σ', f_X12_isLawful (nI m) (nI s) (nI p) (nI k) (nI h) σ = some (bI (lawB T w m s p k h), σ') ∧ Fm [0] σ σ' := by
  unfold f_X12_isLawful lawB f_X12_isLawful_35
  rw [m_barred hC.1 hC.2.1 hC.2.2 hs hp, bs]
  cases h1 : barB T w s p with
  | true => exact ⟨σ, rfl, Fm.rf⟩
  | false =>
    rw [if_pos (show bI false = 0 from rfl)]
    obtain ⟨σ1, e1, f1⟩ := m_bound hC hm hs hp hh
    rw [e1, b2s]
    cases h2 : bndB T w m s p h with
    | false => exact ⟨σ1, rfl, f1⟩
    | true =>
      rw [if_neg (show ¬ bI true = 0 by decide)]
      obtain ⟨σ2, e2, f2⟩ := m_may (hC.mono f1 rfl rfl) hm hs hp hk hh
      rw [e2, b2s]
      cases h3 : mayB T w m s p k h <;> exact ⟨σ2, rfl, f1.tr f2⟩
