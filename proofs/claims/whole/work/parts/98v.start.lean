/-! The pure part: text. The draft is cleared -/
theorem c_fill {a n : Nat} {x : Int32} (hn : n < 1000) : ∀ (j i fu : Nat) (σ : zS), i + j = n → j < fu →
    ∃ σ', f_J7_fill_53178_5 a n fu x (nI i) (nI n) σ = some σ' ∧ σ'.2 = σ.2 ∧ (∀ k, σ'.1 a k = if i ≤ k ∧ k < n then x else σ.1 a k) ∧ (∀ b k, b ≠ a → σ'.1 b k = σ.1 b k)
  | j, i, 0, σ, hj, hf => by omega
  | 0, i, fu + 1, σ, hj, hf => by
    unfold f_J7_fill_53178_5
    rw [if_pos (nI_le (by omega) (by omega))]
    exact ⟨σ, rfl, rfl, fun k => by rw [if_neg (by omega)], fun _ _ _ => rfl⟩
  | j + 1, i, fu + 1, σ, hj, hf => by
    unfold f_J7_fill_53178_5
    rw [if_neg (nI_ge (by omega) (by omega)), wr_nI (by omega) (by omega), bs, nI_1]
    obtain ⟨σ', e, e2, q1, q2⟩ := c_fill hn j (i + 1) fu (wI σ a i x) (by omega) (by omega)
    refine ⟨σ', e, e2, fun k => ?_, fun b k hb => ?_⟩
    · rw [q1 k, wI_at]
      by_cases ek : k = i
      · rw [if_neg (by omega), if_pos ⟨rfl, ek⟩, if_pos (by omega)]
      · by_cases e3 : i + 1 ≤ k ∧ k < n
        · rw [if_pos e3, if_pos (by omega)]
        · rw [if_neg e3, if_neg (by omega), if_neg (by omega)]
    · rw [q2 b k hb, wI_at, if_neg (by omega)]
theorem c_fillA (σ : zS) {a n : Nat} {x : Int32} (hn : n < 1000) : ∃ σ', f_J7_fill_53178 a n x σ = some σ' ∧ σ'.2 = σ.2 ∧ (∀ k, k < n → σ'.1 a k = x) ∧ (∀ b k, b ≠ a → σ'.1 b k = σ.1 b k) := by
  unfold f_J7_fill_53178
  rw [lts]
  obtain ⟨σ', e, e2, q1, q2⟩ := c_fill (a := a) (x := x) hn n 0 FU σ (by omega) (by unfold FU; omega)
  exact ⟨σ', e, e2, fun k hk => by rw [q1 k, if_pos (by omega)], q2⟩
theorem FD.fill {d : Bool} {Z : List Nat} {σ σ' : zS} {a : Nat} (e : σ'.2 = σ.2) (q : ∀ b k, b ≠ a → σ'.1 b k = σ.1 b k) (hz : ∀ k, Z.elem (zd d a k) = true) : FD d Z σ σ' := by
  refine ⟨by rw [e], fun i p z => ?_⟩
  by_cases h : i = a
  · subst h
    have z' : Z.elem (zd d i p) = false := z
    rw [hz p] at z'; cases z'
  · exact q i p h
section
variable {d : Bool} {f : Nat → Nat} {N : Nat} {σ μ : zS}
theorem c_clear (σ : zS) : ∃ σ', f_X8_clear d σ = some σ' ∧ FD d zAll σ σ' ∧ (σ'.1 (tv d) 0 = 8 ∧ σ'.1 (tv d) 1 = 0 ∧ σ'.1 (tv d) 5 = 0 ∧ σ'.1 (tv d) 6 = 0 ∧ σ'.1 (tv d) 11 = 0 ∧ σ'.1 (tv d) 16 = 5) ∧
    (∀ k, k < 12 → σ'.1 (tv d + 4) k = 9) ∧ (∀ k, k < 5 → σ'.1 (tv d + 5) k = 0) ∧ σ'.1 (tl d) 0 = 0 ∧ σ'.1 (tl d) 1 = 0 ∧ ∀ k, k < 3 → σ'.1 (tl d + 5) k = -1 := by
  have td := tvd (d := d)
  unfold f_X8_clear f_X2_clear
  rw [lts, lts, lts, lts, lts, lts]
  have F1 : FD d zAll σ (wI (wI (wI (wI (wI (wI σ (tv d) 0 8) (tv d) 1 0) (tv d) 5 0) (tv d) 6 0) (tv d) 11 0) (tv d) 16 5) := (((((FD.rf.wI (by rw [zc3]; rfl)).wI (by rw [zc41]; rfl)).wI (by rw [zcb8]; rfl)).wI (by rw [zc56]; rfl)).wI (by rw [zc61]; rfl)).wI (by rw [zcf]; rfl)
  have q1 : (wI (wI (wI (wI (wI (wI σ (tv d) 0 8) (tv d) 1 0) (tv d) 5 0) (tv d) 6 0) (tv d) 11 0) (tv d) 16 5).1 (tv d) 0 = 8 := by
    rw [wI_at, if_neg (by omega), wI_at, if_neg (by omega), wI_at, if_neg (by omega), wI_at, if_neg (by omega), wI_at, if_neg (by omega), wI_self]
  have q2 : (wI (wI (wI (wI (wI (wI σ (tv d) 0 8) (tv d) 1 0) (tv d) 5 0) (tv d) 6 0) (tv d) 11 0) (tv d) 16 5).1 (tv d) 1 = 0 := by
    rw [wI_at, if_neg (by omega), wI_at, if_neg (by omega), wI_at, if_neg (by omega), wI_at, if_neg (by omega), wI_self]
  have q3 : (wI (wI (wI (wI (wI (wI σ (tv d) 0 8) (tv d) 1 0) (tv d) 5 0) (tv d) 6 0) (tv d) 11 0) (tv d) 16 5).1 (tv d) 5 = 0 := by
    rw [wI_at, if_neg (by omega), wI_at, if_neg (by omega), wI_at, if_neg (by omega), wI_self]
  have q4 : (wI (wI (wI (wI (wI (wI σ (tv d) 0 8) (tv d) 1 0) (tv d) 5 0) (tv d) 6 0) (tv d) 11 0) (tv d) 16 5).1 (tv d) 6 = 0 := by
    rw [wI_at, if_neg (by omega), wI_at, if_neg (by omega), wI_self]
  have q5 : (wI (wI (wI (wI (wI (wI σ (tv d) 0 8) (tv d) 1 0) (tv d) 5 0) (tv d) 6 0) (tv d) 11 0) (tv d) 16 5).1 (tv d) 11 = 0 := by
    rw [wI_at, if_neg (by omega), wI_self]
  have q6 : (wI (wI (wI (wI (wI (wI σ (tv d) 0 8) (tv d) 1 0) (tv d) 5 0) (tv d) 6 0) (tv d) 11 0) (tv d) 16 5).1 (tv d) 16 = 5 := wI_self _ _ _ _
  generalize (wI (wI (wI (wI (wI (wI σ (tv d) 0 8) (tv d) 1 0) (tv d) 5 0) (tv d) 6 0) (tv d) 11 0) (tv d) 16 5) = σ1 at *
  obtain ⟨σ2, e2, b2', v2, g2⟩ := c_fillA σ1 (a := tv d + 4) (n := 12) (x := 9) (by omega)
  obtain ⟨σ3, e3, b3, v3, g3⟩ := c_fillA σ2 (a := tv d + 5) (n := 5) (x := 0) (by omega)
  rw [e2, bs, e3, bs, lts, lts]
  obtain ⟨σ4, e4, b4, v4, g4⟩ := c_fillA (wI (wI σ3 (tl d) 0 0) (tl d) 1 0) (a := tl d + 5) (n := 3) (x := -1) (by omega)
  rw [e4, bs, bs]
  have F2 : FD d zAll σ1 σ2 := FD.fill b2' g2 (fun k => by rw [zc44]; rfl)
  have F3 : FD d zAll σ2 σ3 := FD.fill b3 g3 (fun k => by rw [zc45]; rfl)
  have F3' : FD d zAll σ3 (wI (wI σ3 (tl d) 0 0) (tl d) 1 0) := (FD.rf.wI (by rw [zd_tl0]; rfl)).wI (by rw [zd_tl0]; rfl)
  have F4 : FD d zAll (wI (wI σ3 (tl d) 0 0) (tl d) 1 0) σ4 := FD.fill b4 g4 (fun k => by rw [zd13 (by omega)]; rfl)
  have o : ∀ i k, tv d ≤ i ∧ i ≤ tv d + 17 → i ≠ tv d + 4 → i ≠ tv d + 5 → σ4.1 i k = σ1.1 i k := fun i k hi h1 h2 => by
    rw [g4 i k (by omega), wI_at, if_neg (by omega), wI_at, if_neg (by omega), g3 i k (by omega), g2 i k (by omega)]
  refine ⟨σ4, rfl, (((F1.tr F2).tr F3).tr F3').tr F4, ⟨?_, ?_, ?_, ?_, ?_, ?_⟩, fun k hk => ?_, fun k hk => ?_, ?_, ?_, v4⟩
  · rw [o _ _ (by omega) (by omega) (by omega)]; exact q1
  · rw [o _ _ (by omega) (by omega) (by omega)]; exact q2
  · rw [o _ _ (by omega) (by omega) (by omega)]; exact q3
  · rw [o _ _ (by omega) (by omega) (by omega)]; exact q4
  · rw [o _ _ (by omega) (by omega) (by omega)]; exact q5
  · rw [o _ _ (by omega) (by omega) (by omega)]; exact q6
  · rw [g4 _ k (by omega), wI_at, if_neg (by omega), wI_at, if_neg (by omega), g3 _ k (by omega), v2 k hk]
  · rw [g4 _ k (by omega), wI_at, if_neg (by omega), wI_at, if_neg (by omega), v3 k hk]
  · rw [g4 _ _ (by omega), wI_at, if_neg (by omega), wI_self]
  · rw [g4 _ _ (by omega), wI_self]
def T00 : zT := fun a k => if a = 4 ∧ k = 0 then 8 else if a = 4 ∧ k = 5 then 5 else 0
theorem m_47 : ∀ (j i fu : Nat) (μ : zS), i + j = 8 → j < fu → ∃ μ', f_X12_text_47 fu (nI i) μ = f_X12_text_85 FU 3 μ' ∧ μ'.2 = μ.2 ∧ (∀ k, k < 8 → μ'.1 5004 (8 + k) = if i ≤ k then nI (T00 4 k) else μ.1 5004 (8 + k)) ∧ (∀ a p, ¬ (a = 5004 ∧ 8 ≤ p ∧ p < 16) → μ'.1 a p = μ.1 a p)
  | j, i, 0, μ, hj, hf => by omega
  | 0, i, fu + 1, μ, hj, hf => by
    unfold f_X12_text_47
    rw [if_pos (show (8 : Int32) ≤ nI i from nI_le (a := 8) (by omega) (by omega))]
    exact ⟨μ, rfl, rfl, fun k hk => by rw [if_neg (by omega)], fun _ _ _ => rfl⟩
  | j + 1, i, fu + 1, μ, hj, hf => by
    have ev : (if nI i = 0 then f_X12_text_74 (f_X12_text_47 fu) (nI i) (nI i) 8 μ else if nI i = 5 then f_X12_text_74 (f_X12_text_47 fu) (nI i) (nI i) 5 μ else f_X12_text_74 (f_X12_text_47 fu) (nI i) (nI i) 0 μ) = f_X12_text_47 fu (nI (i + 1)) (wI μ 5004 (8 + i) (nI (T00 4 i))) := by
      have s : ∀ v : Int32, f_X12_text_74 (f_X12_text_47 fu) (nI i) (nI i) v μ = f_X12_text_47 fu (nI (i + 1)) (wI μ 5004 (8 + i) v) := fun v => by
        unfold f_X12_text_74
        rw [m_rds (k := i) (j := 8 + i) rfl (by omega), bs, nI_1]
      rw [s, s, s]
      by_cases h0 : i = 0
      · subst h0; rw [if_pos (show nI 0 = (0 : Int32) from rfl)]; rfl
      · rw [if_neg (show ¬ nI i = (0 : Int32) from nI_ne0 (by omega) (by omega))]
        by_cases h5 : i = 5
        · subst h5; rw [if_pos (show nI 5 = (5 : Int32) from rfl)]; rfl
        · rw [if_neg (show ¬ nI i = (5 : Int32) from fun z => h5 ((nI_eq (b := 5) (by omega) (by omega)).mp z))]
          have : T00 4 i = 0 := by unfold T00; rw [if_neg (by omega), if_neg (by omega)]
          rw [this]; rfl
    unfold f_X12_text_47
    rw [if_neg (show ¬ (8 : Int32) ≤ nI i from nI_ge (b := 8) (by omega) (by omega)), ev]
    obtain ⟨μ', e, e2, q1, q2⟩ := m_47 j (i + 1) fu (wI μ 5004 (8 + i) (nI (T00 4 i))) (by omega) (by omega)
    refine ⟨μ', e, e2, fun k hk => ?_, fun a p h => ?_⟩
    · rw [q1 k hk, wI_at]
      by_cases ek : k = i
      · rw [if_neg (by omega), if_pos ⟨rfl, by omega⟩, if_pos (by omega), ek]
      · by_cases e3 : i + 1 ≤ k
        · rw [if_pos e3, if_pos (by omega)]
        · rw [if_neg e3, if_neg (by omega), if_neg (by omega)]
    · rw [q2 a p h, wI_at, if_neg (by omega)]
theorem m_85 : ∀ (j i fu : Nat) (μ : zS), i + j = 6 → 3 ≤ i → j < fu → ∃ μ', f_X12_text_85 fu (nI i) μ = (f_X12_token (wI (wI (wI (wI μ' 5000 21 0) 5000 22 0) 5000 32 0) 5000 33 0)).bind (fun s => f_X12_text_135 FU s) ∧ μ'.2 = μ.2 ∧ (∀ k, i ≤ k → k < 6 → μ'.1 5018 k = 0 ∧ μ'.1 5019 k = 0) ∧ (∀ a p, ¬ ((a = 5018 ∨ a = 5019) ∧ i ≤ p) → μ'.1 a p = μ.1 a p)
  | j, i, 0, μ, hj, hi, hf => by omega
  | 0, i, fu + 1, μ, hj, hi, hf => by
    unfold f_X12_text_85
    rw [if_pos (show (6 : Int32) ≤ nI i from nI_le (a := 6) (by omega) (by omega)), lts, lts, lts, lts]
    exact ⟨μ, rfl, rfl, fun k h1 h2 => by omega, fun _ _ _ => rfl⟩
  | j + 1, i, fu + 1, μ, hj, hi, hf => by
    unfold f_X12_text_85
    rw [if_neg (show ¬ (6 : Int32) ≤ nI i from nI_ge (b := 6) (by omega) (by omega)), wr_nI (by omega) (by omega), bs, wr_nI (by omega) (by omega), bs, nI_1]
    obtain ⟨μ', e, e2, q1, q2⟩ := m_85 j (i + 1) fu (wI (wI μ 5018 i 0) 5019 i 0) (by omega) (by omega) (by omega)
    refine ⟨μ', e, e2, fun k h1 h2 => ?_, fun a p h => ?_⟩
    · by_cases ek : k = i
      · subst ek
        rw [q2 _ _ (by omega), q2 _ _ (by omega), wI_at, if_neg (by omega), wI_self, wI_self]
        exact ⟨rfl, rfl⟩
      · exact q1 k (by omega) h2
    · rw [q2 a p (by omega), wI_at, if_neg (by omega), wI_at, if_neg (by omega)]
end
