/-! The pure part: fewest -/
theorem nar_b (x : Bool) : vp_nar .boolean (bI x) = bI x := by cases x <;> rfl
theorem m_goalL {T D : zT} {mv : Int32} {m p k : Nat} (oD : okD T D) (hm : m < T 4 2) (hp : p < 4) (hk : k < 4) : ∀ (j s fu : Nat) (σ : zS), s + j = 16 * T 4 0 → j < fu → CM T (-1) (-1) σ → DM T 0 D mv σ → (∀ x, x < s → σ.1 5051 x = bI (lawB T (-1) m x p k (D 0 0))) →
    ∃ σ', f_X12_layGoal_3 fu (nI m) (nI p) (nI k) (nI s) σ = some σ' ∧ Fm [0, 16] σ σ' ∧ (∀ x, x < 16 * T 4 0 → σ'.1 5051 x = bI (lawB T (-1) m x p k (D 0 0)))
  | j, s, 0, σ, hj, hf, hC, h, hg => by omega
  | 0, s, fu + 1, σ, hj, hf, hC, h, hg => by
    have o := hC.1.1
    unfold f_X12_layGoal_3
    rw [m_many16 hC.2.1, bs, if_pos (nI_le (by omega) (by omega))]
    exact ⟨σ, rfl, Fm.rf, fun x hx => hg x (by omega)⟩
  | j + 1, s, fu + 1, σ, hj, hf, hC, h, hg => by
    have o := hC.1.1
    obtain ⟨σ1, e1, f1⟩ := m_lawful hC hm (show s < 192 by omega) hp hk oD.1
    unfold f_X12_layGoal_3
    rw [m_many16 hC.2.1, bs, if_neg (nI_ge (by omega) (by omega)), rd_lit (by decide) (by decide), bs, h.1, e1, b2s, wrZ_nI (by omega) (by omega), bs, nar_b, nI_1]
    have F1 : Fm [0, 16] σ (wI σ1 5051 s (bI (lawB T (-1) m s p k (D 0 0)))) := (f1.mono rfl).wI rfl
    obtain ⟨σ2, e2, f2, g2⟩ := m_goalL oD hm hp hk j (s + 1) fu (wI σ1 5051 s (bI (lawB T (-1) m s p k (D 0 0)))) (by omega) (by omega) (hC.mono F1 rfl rfl) (DM.mono hC.1 h F1 rfl) (fun x hx => by
      by_cases e : x = s
      · rw [e, wI_self]
      · rw [wI_at, if_neg (by omega), f1.z (z := 16) rfl rfl]; exact hg x (by omega))
    exact ⟨σ2, e2, F1.tr f2, g2⟩
theorem m_layGoal {T D : zT} {mv : Int32} {m p k : Nat} {σ : zS} (oD : okD T D) (hm : m < T 4 2) (hp : p < 4) (hk : k < 4) (hC : CM T (-1) (-1) σ) (h : DM T 0 D mv σ) :
    ∃ σ', f_X12_layGoal (nI m) (nI p) (nI k) σ = some σ' ∧ Fm [0, 16] σ σ' ∧ (∀ x, x < 16 * T 4 0 → σ'.1 5051 x = bI (lawB T (-1) m x p k (D 0 0))) := by
  have o := hC.1.1
  exact m_goalL oD hm hp hk (16 * T 4 0) 0 FU σ (by omega) (by unfold FU; omega) hC h (fun x hx => by omega)
/-- the first steps -/
def st0 (n : Nat) (G : Nat → Bool) (x : Nat) : Nat := if x < 16 * n ∧ G x = true then 0 else 1000
theorem m_spread {T : zT} {G : Nat → Bool} {σ : zS} (hT : okT T) (hR : RM T σ) (h : ∀ x, x < 192 → σ.1 5049 x = nI (st0 (T 4 0) G x)) :
    ∃ σ', f_X12_spreadsSteps σ = some σ' ∧ Fm [13] σ σ' ∧ (∀ x, x < 16 * T 4 0 → σ'.1 5049 x = nI (mnG G x (16 * T 4 0))) := by
  have o := hT.1
  have s1 : ∀ x, st0 (T 4 0) G x ≤ 1000 := fun x => by unfold st0; split <;> omega
  have sg : ∀ x, x < 16 * T 4 0 → G x = true → st0 (T 4 0) G x = 0 := fun x h1 h2 => if_pos ⟨h1, h2⟩
  refine m_relO (G := G) FU 0 (st0 (T 4 0) G) σ (by unfold FU; omega) (by omega) hT hR (fun x hx => ⟨h x hx, s1 x⟩) (fun x hx => ?_) sg (fun x hx hk => ?_)
  · by_cases e : G x = true
    · rw [(mn_zero (by omega) hx).mpr e]; omega
    · unfold st0
      rw [if_neg (fun z => e z.2)]
      exact (mnG_le (16 * T 4 0)).1
  · have z : mnG G x (16 * T 4 0) = 0 := by omega
    rw [z, sg x hx ((mn_zero (by omega) hx).mp z)]
theorem m_toGoalL {T : zT} {G : Nat → Bool} (hT : okT T) : ∀ (j s fu : Nat) (σ : zS), s + j = 192 → j < fu → RM T σ → (∀ x, x < 16 * T 4 0 → σ.1 5051 x = bI (G x)) → (∀ x, x < s → σ.1 5049 x = nI (st0 (T 4 0) G x)) →
    ∃ σ', f_X12_layToGoal_2 fu (nI s) σ = some σ' ∧ Fm [13] σ σ' ∧ (∀ x, x < 16 * T 4 0 → σ'.1 5049 x = nI (mnG G x (16 * T 4 0)))
  | j, s, 0, σ, hj, hf, hR, hg, hs => by omega
  | 0, s, fu + 1, σ, hj, hf, hR, hg, hs => by
    unfold f_X12_layToGoal_2
    rw [if_pos (show (192 : Int32) ≤ nI s from nI_le (a := 192) (by omega) (by omega))]
    obtain ⟨σ1, e1, f1, g1⟩ := m_spread (G := G) hT hR (fun x hx => hs x (by omega))
    rw [e1, bs]
    exact ⟨σ1, rfl, f1, g1⟩
  | j + 1, s, fu + 1, σ, hj, hf, hR, hg, hs => by
    have o := hT.1
    have key : ∀ v : Nat, v = st0 (T 4 0) G s → ∃ σ', f_X12_layToGoal_38 (f_X12_layToGoal_2 fu) (nI s) (nI s) (nI v) σ = some σ' ∧ Fm [13] σ σ' ∧ (∀ x, x < 16 * T 4 0 → σ'.1 5049 x = nI (mnG G x (16 * T 4 0))) := by
      intro v hv
      unfold f_X12_layToGoal_38
      rw [wr_nI (by omega) (by omega), bs, nI_1]
      have F1 : Fm [13] σ (wI σ 5049 s (nI v)) := Fm.rf.wI rfl
      obtain ⟨σ1, e1, f1, g1⟩ := m_toGoalL (G := G) hT j (s + 1) fu (wI σ 5049 s (nI v)) (by omega) (by omega) (hR.mono hT F1 rfl) (fun x hx => by rw [wI_at, if_neg (by omega)]; exact hg x hx) (fun x hx => by
        by_cases e : x = s
        · rw [e, wI_self, hv]
        · rw [wI_at, if_neg (by omega)]; exact hs x (by omega))
      exact ⟨σ1, e1, F1.tr f1, g1⟩
    unfold f_X12_layToGoal_2 f_X12_layToGoal_35
    rw [if_neg (show ¬ (192 : Int32) ≤ nI s from nI_ge (b := 192) (by omega) (by omega)), m_many16 hR, bs]
    unfold st0 at key
    by_cases hN : s < 16 * T 4 0
    · rw [if_neg (nI_ge hN (by omega)), rd_nI (by omega) (by omega), bs, hg s hN]
      cases e : G s with
      | true => rw [if_neg (show ¬ bI true = 0 by decide)]; exact key 0 (by rw [if_pos ⟨hN, e⟩])
      | false => rw [if_pos (show bI false = 0 from rfl)]; exact key 1000 (by rw [if_neg (fun z => by rw [e] at z; cases z.2)])
    · rw [if_pos (nI_le (by omega) (by omega))]
      exact key 1000 (by rw [if_neg (fun z => hN z.1)])
theorem m_fromL {T : zT} (hT : okT T) {a : Nat} (ha : a < 16 * T 4 0) : ∀ (j s fu : Nat) (σ : zS), s + j = 192 → j < fu → RM T σ → (∀ x, x < s → σ.1 5049 x = nI (st0 (T 4 0) (fun y => decide (y = a)) x)) →
    ∃ σ', f_X12_layFrom_2 fu (nI a) (nI s) σ = some σ' ∧ Fm [13] σ σ' ∧ (∀ x, x < 16 * T 4 0 → σ'.1 5049 x = nI (mnG (fun y => decide (y = a)) x (16 * T 4 0)))
  | j, s, 0, σ, hj, hf, hR, hs => by omega
  | 0, s, fu + 1, σ, hj, hf, hR, hs => by
    unfold f_X12_layFrom_2
    rw [if_pos (show (192 : Int32) ≤ nI s from nI_le (a := 192) (by omega) (by omega))]
    obtain ⟨σ1, e1, f1, g1⟩ := m_spread (G := fun y => decide (y = a)) hT hR (fun x hx => hs x (by omega))
    rw [e1, bs]
    exact ⟨σ1, rfl, f1, g1⟩
  | j + 1, s, fu + 1, σ, hj, hf, hR, hs => by
    have o := hT.1
    have key : ∀ v : Nat, v = st0 (T 4 0) (fun y => decide (y = a)) s → ∃ σ', f_X12_layFrom_26 (f_X12_layFrom_2 fu) (nI a) (nI s) (nI s) (nI v) σ = some σ' ∧ Fm [13] σ σ' ∧ (∀ x, x < 16 * T 4 0 → σ'.1 5049 x = nI (mnG (fun y => decide (y = a)) x (16 * T 4 0))) := by
      intro v hv
      unfold f_X12_layFrom_26
      rw [wr_nI (by omega) (by omega), bs, nI_1]
      have F1 : Fm [13] σ (wI σ 5049 s (nI v)) := Fm.rf.wI rfl
      obtain ⟨σ1, e1, f1, g1⟩ := m_fromL hT ha j (s + 1) fu (wI σ 5049 s (nI v)) (by omega) (by omega) (hR.mono hT F1 rfl) (fun x hx => by
        by_cases e : x = s
        · rw [e, wI_self, hv]
        · rw [wI_at, if_neg (by omega)]; exact hs x (by omega))
      exact ⟨σ1, e1, F1.tr f1, g1⟩
    unfold f_X12_layFrom_2
    rw [if_neg (show ¬ (192 : Int32) ≤ nI s from nI_ge (b := 192) (by omega) (by omega))]
    unfold st0 at key
    by_cases e : s = a
    · rw [if_pos (by rw [e])]
      exact key 0 (by rw [if_pos ⟨by omega, decide_eq_true e⟩])
    · rw [if_neg (by rw [nI_eq (by omega) (by omega)]; exact e)]
      exact key 1000 (by rw [if_neg (fun z => e (of_decide_eq_true z.2))])
