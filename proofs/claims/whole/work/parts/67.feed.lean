/-! The pure part: count, feed -/
def cnS (f : Nat → Nat) (v : Nat) : Nat → Nat → Nat → Nat
  | 0, _, a => a
  | j + 1, k, a => cnS f v j (k + 1) (if f k = v then a + 1 else a)
theorem cnS_le (f : Nat → Nat) (v : Nat) : ∀ j k a, cnS f v j k a ≤ a + j
  | 0, k, a => Nat.le_refl _
  | j + 1, k, a => by
    have := cnS_le f v j (k + 1) (if f k = v then a + 1 else a)
    unfold cnS
    split at this <;> rename_i h <;> simp only [h, if_true, if_false] at * <;> omega
theorem c_fated {T : zT} {dy : Nat} {f : Nat → Nat} {σ : zS} (hT : okT T) {v : Nat} (hv : v < 4) (h : rowN σ (dy + 6) 0 (T 4 3) f) (hf : ∀ k, k < T 4 3 → f k < 4) : ∀ (j k a fu : Nat), k + j = T 4 3 → a ≤ k → j < fu → f_X0_fated_5 dy fu (nI v) (nI (T 4 3)) (nI a) (nI k) σ = some (nI (cnS f v j k a))
  | j, k, a, 0, hj, ha, hfu => by omega
  | 0, k, a, fu + 1, hj, ha, hfu => by
    have o := hT.1
    unfold f_X0_fated_5
    rw [if_pos (nI_le (by omega) (by omega))]; rfl
  | j + 1, k, a, fu + 1, hj, ha, hfu => by
    have o := hT.1
    unfold f_X0_fated_5 f_X0_fated_32
    rw [if_neg (nI_ge (by omega) (by omega)), if_neg (show ¬ (12 : Int32) ≤ nI k from nI_ge (b := 12) (by omega) (by omega)), rd_nI (by omega) (by omega), bs, row0 h (by omega), nI_1, nI_1]
    have hk := hf k (by omega)
    unfold cnS
    by_cases e : f k = v
    · rw [if_pos (by rw [e]), if_pos e]
      exact c_fated hT hv h hf j (k + 1) (a + 1) fu (by omega) (by omega) (by omega)
    · rw [if_neg (by rw [nI_eq (by omega) (by omega)]; exact e), if_neg e]
      exact c_fated hT hv h hf j (k + 1) a fu (by omega) (by omega) (by omega)
theorem m_many {T : zT} {f : Nat → Nat} {σ : zS} (hT : okT T) (hR : RM T σ) {v : Nat} (hv : v < 4) (h : rowN σ 5045 0 (T 4 3) f) (hf : ∀ k, k < T 4 3 → f k < 4) : ∀ (j k a fu : Nat), k + j = T 4 3 → a ≤ k → j < fu → f_X12_howMany_4 fu (nI v) (nI a) (nI k) σ = some (nI (cnS f v j k a))
  | j, k, a, 0, hj, ha, hfu => by omega
  | 0, k, a, fu + 1, hj, ha, hfu => by
    have o := hT.1
    unfold f_X12_howMany_4
    rw [rd_lit (by decide) (by decide), bs, row0 hR.1 (k := 3) (by decide), if_pos (nI_le (by omega) (by omega))]; rfl
  | j + 1, k, a, fu + 1, hj, ha, hfu => by
    have o := hT.1
    unfold f_X12_howMany_4 f_X12_howMany_30
    simp only [lts]
    rw [rd_lit (by decide) (by decide), bs, row0 hR.1 (k := 3) (by decide), if_neg (nI_ge (by omega) (by omega)), rd_nI (by omega) (by omega), bs, row0 h (by omega), nI_1, nI_1]
    have hk := hf k (by omega)
    unfold cnS
    by_cases e : f k = v
    · rw [if_pos (by rw [e]), if_pos e]
      exact m_many hT hR hv h hf j (k + 1) (a + 1) fu (by omega) (by omega) (by omega)
    · rw [if_neg (by rw [nI_eq (by omega) (by omega)]; exact e), if_neg e, show nI a + 0 = nI a from by show nI a + nI 0 = _; rw [nI_add]; rfl]
      exact m_many hT hR hv h hf j (k + 1) a fu (by omega) (by omega) (by omega)
def smS (f : Nat → Nat) : Nat → Nat → Nat → Nat
  | 0, _, a => a
  | j + 1, k, a => smS f j (k + 1) (a + f k)
theorem c_coin {T : zT} {dy : Nat} {f : Nat → Nat} {σ : zS} (hT : okT T) (h : rowN σ (dy + 4) 0 (T 4 2) f) : ∀ (j k a fu : Nat), k + j = T 4 2 → j < fu → f_X0_allCoin_4 dy fu (nI (T 4 2)) (nI a) (nI k) σ = some (nI (smS f j k a))
  | j, k, a, 0, hj, hfu => by omega
  | 0, k, a, fu + 1, hj, hfu => by
    have o := hT.1
    unfold f_X0_allCoin_4
    rw [if_pos (nI_le (by omega) (by omega))]; rfl
  | j + 1, k, a, fu + 1, hj, hfu => by
    have o := hT.1
    unfold f_X0_allCoin_4
    rw [if_neg (nI_ge (by omega) (by omega)), if_neg (show ¬ (5 : Int32) ≤ nI k from nI_ge (b := 5) (by omega) (by omega)), rd_nI (by omega) (by omega), bs, row0 h (by omega), lts, nI_1, nI_add]
    exact c_coin hT h j (k + 1) (a + f k) fu (by omega) (by omega)
theorem m_coin {T : zT} {f : Nat → Nat} {σ : zS} (hT : okT T) (hR : RM T σ) (h : rowN σ 5043 0 (T 4 2) f) : ∀ (j k a fu : Nat), k + j = T 4 2 → j < fu → f_X12_count_154 fu (nI a) (nI k) σ = some (nI (smS f j k a), σ)
  | j, k, a, 0, hj, hfu => by omega
  | 0, k, a, fu + 1, hj, hfu => by
    have o := hT.1
    unfold f_X12_count_154
    rw [rd_lit (by decide) (by decide), bs, row0 hR.1 (k := 2) (by decide), if_pos (nI_le (by omega) (by omega))]; rfl
  | j + 1, k, a, fu + 1, hj, hfu => by
    have o := hT.1
    unfold f_X12_count_154
    rw [rd_lit (by decide) (by decide), bs, row0 hR.1 (k := 2) (by decide), if_neg (nI_ge (by omega) (by omega)), rd_nI (by omega) (by omega), bs, row0 h (by omega), lts, nI_1, nI_add]
    exact m_coin hT hR h j (k + 1) (a + f k) fu (by omega) (by omega)
theorem o_count : op_count V := by
  intro x σc σm ⟨b, T, D, mv, h⟩
  have h0 := h.th 0
  have hT := h.oT
  have o := hT.1
  obtain ⟨P, lm, S, p1, p2, p3⟩ := h0.2.2.2.2.2
  obtain ⟨U, E, M, a, u1, u2, u3, -⟩ := h0.2.2.2.2.1
  obtain ⟨c0, c1, c2, c3, c4, c5⟩ := h.dc
  obtain ⟨d0, d1, d2, d3, d4, d5⟩ := h0.dm
  obtain ⟨q0, q1, q2, q3, q4, q5, q6⟩ := h.cc.2.1.2.1
  have fc : ∀ v, v < 4 → f_X0_fated 700 (nI v) (nI (T 4 3)) σc = some (nI (cnS (D 4) v (T 4 3) 0 0)) := fun v hv => c_fated hT hv c5 h.oD.2.2 (T 4 3) 0 0 FU (by omega) (by omega) (by unfold FU; omega)
  have fm : ∀ v, v < 4 → f_X12_howMany (nI v) (wI σm 5000 0 0) = some (nI (cnS (D 4) v (T 4 3) 0 0)) := fun v hv => m_many hT h0.cm.2.1 hv d5 h.oD.2.2 (T 4 3) 0 0 FU (by omega) (by omega) (by unfold FU; omega)
  have gc : f_X0_allCoin 700 (nI (T 4 2)) σc = some (nI (smS (D 2) (T 4 2) 0 0)) := c_coin hT c3 (T 4 2) 0 0 FU (by omega) (by unfold FU; omega)
  have gm : f_X12_count_154 FU 0 0 (wI σm 5000 0 0) = some (nI (smS (D 2) (T 4 2) 0 0), _) := m_coin hT h0.cm.2.1 d3 (T 4 2) 0 0 FU (by omega) (by unfold FU; omega)
  have fc1 : f_X0_fated 700 1 (nI (T 4 3)) σc = some (nI (cnS (D 4) 1 (T 4 3) 0 0)) := fc 1 (by omega)
  have fm1 : f_X12_howMany 1 (wI σm 5000 0 0) = some (nI (cnS (D 4) 1 (T 4 3) 0 0)) := fm 1 (by omega)
  have fc2 : f_X0_fated 700 2 (nI (T 4 3)) σc = some (nI (cnS (D 4) 2 (T 4 3) 0 0)) := fc 2 (by omega)
  have fm2 : f_X12_howMany 2 (wI σm 5000 0 0) = some (nI (cnS (D 4) 2 (T 4 3) 0 0)) := fm 2 (by omega)
  have fc3 : f_X0_fated 700 3 (nI (T 4 3)) σc = some (nI (cnS (D 4) 3 (T 4 3) 0 0)) := fc 3 (by omega)
  have fm3 : f_X12_howMany 3 (wI σm 5000 0 0) = some (nI (cnS (D 4) 3 (T 4 3) 0 0)) := fm 3 (by omega)
  have R := h0.cm.2.1.1
  unfold f_X11_count f_X12_count f_X3_reach f_X12_knownMany
  simp only [lts]
  rw [h.b0, q0, q1, q2, q3, q4, q6, c0, fc1, fc2, fc3, gc, p2.1, p2.2.1, u2, c1]
  rw [rd_lit (by decide) (by decide), rd_lit (by decide) (by decide), rd_lit (by decide) (by decide), rd_lit (by decide) (by decide), rd_lit (by decide) (by decide), rd_lit (by decide) (by decide), rd_lit (by decide) (by decide), rd_lit (by decide) (by decide)]
  rw [row0 R (k := 0) (by decide), row0 R (k := 1) (by decide), row0 R (k := 2) (by decide), row0 R (k := 3) (by decide), row0 R (k := 4) (by decide), row0 R (k := 7) (by decide), fm1, fm2, fm3, gm, p3.1, p3.2.1, u3]
  have d0' : (wI σm 5000 0 0).1 5039 0 = nI (D 0 0) := d0
  have d1' : (wI σm 5000 0 0).1 5041 0 = mv := d1
  rw [d0', d1']
  by_cases zz0 : x = 0
  · rw [if_pos zz0, if_pos zz0]; exact ⟨_, σc, _, ⟨rfl, rfl⟩, rfl, h0.v⟩
  rw [if_neg zz0, if_neg zz0]
  by_cases z1 : x = 1
  · rw [if_pos z1, if_pos z1]; exact ⟨_, σc, _, ⟨rfl, rfl⟩, rfl, h0.v⟩
  rw [if_neg z1, if_neg z1]
  by_cases z2 : x = 2
  · rw [if_pos z2, if_pos z2]; exact ⟨_, σc, _, ⟨rfl, rfl⟩, rfl, h0.v⟩
  rw [if_neg z2, if_neg z2]
  by_cases z3 : x = 3
  · rw [if_pos z3, if_pos z3]; exact ⟨_, σc, _, ⟨rfl, rfl⟩, rfl, h0.v⟩
  rw [if_neg z3, if_neg z3]
  by_cases z4 : x = 4
  · rw [if_pos z4, if_pos z4]; exact ⟨_, σc, _, ⟨rfl, rfl⟩, rfl, h0.v⟩
  rw [if_neg z4, if_neg z4]
  by_cases z5 : x = 5
  · rw [if_pos z5, if_pos z5]; exact ⟨_, σc, _, ⟨rfl, rfl⟩, rfl, h0.v⟩
  rw [if_neg z5, if_neg z5]
  by_cases z6 : x = 6
  · rw [if_pos z6, if_pos z6]; exact ⟨_, σc, _, ⟨rfl, rfl⟩, rfl, h0.v⟩
  rw [if_neg z6, if_neg z6]
  by_cases z7 : x = 7
  · rw [if_pos z7, if_pos z7]; exact ⟨_, σc, _, ⟨rfl, rfl⟩, rfl, h0.v⟩
  rw [if_neg z7, if_neg z7]
  by_cases z8 : x = 8
  · rw [if_pos z8, if_pos z8]; exact ⟨_, σc, _, ⟨rfl, rfl⟩, rfl, h0.v⟩
  rw [if_neg z8, if_neg z8]
  by_cases z9 : x = 9
  · rw [if_pos z9, if_pos z9]; exact ⟨_, σc, _, ⟨rfl, rfl⟩, rfl, h0.v⟩
  rw [if_neg z9, if_neg z9]
  by_cases za : x = 10
  · rw [if_pos za, if_pos za]; exact ⟨_, σc, _, ⟨rfl, rfl⟩, rfl, h0.v⟩
  rw [if_neg za, if_neg za]
  by_cases zb : x = 11
  · rw [if_pos zb, if_pos zb]; exact ⟨_, σc, _, ⟨rfl, rfl⟩, rfl, h0.v⟩
  rw [if_neg zb, if_neg zb]
  by_cases zc' : x = 12
  · rw [if_pos zc', if_pos zc']; exact ⟨_, σc, _, ⟨rfl, rfl⟩, rfl, h0.v⟩
  rw [if_neg zc', if_neg zc']
  by_cases zd : x = 13
  · rw [if_pos zd, if_pos zd]; exact ⟨_, σc, _, ⟨rfl, rfl⟩, rfl, h0.v⟩
  rw [if_neg zd, if_neg zd]
  by_cases ze : x = 14
  · rw [if_pos ze, if_pos ze]; exact ⟨_, σc, _, ⟨rfl, rfl⟩, rfl, h0.v⟩
  rw [if_neg ze, if_neg ze]
  exact ⟨-1, σc, _, ⟨rfl, rfl⟩, rfl, h0.v⟩
