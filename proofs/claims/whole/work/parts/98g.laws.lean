/-! The pure part: text. The laws of the draft, as a list of knots -/
abbrev zK : Type := List (Nat × Nat)
def LC (d : Bool) (K : Nat) (L : zK) (σ : zS) : Prop := σ.2.2 3 = d ∧ σ.1 (tl d) 0 = nI K ∧ σ.1 (tl d) 1 = nI L.length ∧
  ∀ i, i < L.length → σ.1 (tl d + 3) i = nI (encO (L.getD i (0, 0)).1 (L.getD i (0, 0)).2) ∧ ((L.getD i (0, 0)).1 ≠ 2 → σ.1 (tl d + 4) i = nI (L.getD i (0, 0)).2)
def LM (o K : Nat) (L : zK) (μ : zS) : Prop := μ.1 5000 32 = nI o ∧ μ.1 5000 33 = nI K ∧ μ.1 5004 15 = nI L.length ∧
  ∀ i, i < L.length → μ.1 5020 (64 + i) = nI (L.getD i (0, 0)).1 ∧ μ.1 5021 (64 + i) = nI (L.getD i (0, 0)).2
theorem zd7c {d : Bool} {i p : Nat} (h : i = tl d ∨ (tl d + 3 ≤ i ∧ i ≤ tl d + 4)) : zd d i p = 7 := by
  have td : tv d = 300 ∧ tl d = 1300 ∨ tv d = 400 ∧ tl d = 1400 := by cases d <;> simp [tv, tl]
  unfold zd
  rw [if_neg (by omega), if_neg (by omega), if_neg (by omega), if_neg (by omega), if_neg (by omega), if_neg (by omega), if_neg (by omega), if_neg (by omega), if_neg (by omega), if_neg (by omega), if_neg (by omega), if_neg (by omega), if_neg (by omega), if_pos (by omega)]
theorem zd7m {d : Bool} {i p : Nat} (h : (5020 ≤ i ∧ i ≤ 5021) ∧ 64 ≤ p) : zd d i p = 7 := by
  unfold zd
  rw [if_neg (by omega), if_neg (by omega), if_neg (by omega), if_neg (by omega), if_neg (by omega), if_neg (by omega), if_neg (by omega), if_neg (by omega), if_pos h.1, if_pos h.2]
theorem LC.fr {d : Bool} {K : Nat} {L : zK} {Z : List Nat} {σ σ' : zS} (h : LC d K L σ) (F : FD d Z σ σ') (hz : Z.elem 7 = false) : LC d K L σ' := by
  have g : ∀ {i p : Nat}, (i = tl d ∨ (tl d + 3 ≤ i ∧ i ≤ tl d + 4)) → σ'.1 i p = σ.1 i p := fun hi => F.z (zd7c hi) hz
  refine ⟨by rw [F.1]; exact h.1, by rw [g (by omega)]; exact h.2.1, by rw [g (by omega)]; exact h.2.2.1, fun i hi => ?_⟩
  rw [g (by omega), g (by omega)]
  exact h.2.2.2 i hi
theorem LM.fr {d : Bool} {o K : Nat} {L : zK} {Z : List Nat} {μ μ' : zS} (h : LM o K L μ) (F : FD d Z μ μ') (hz : Z.elem 7 = false) : LM o K L μ' := by
  have g : ∀ {i p : Nat}, ((5020 ≤ i ∧ i ≤ 5021) ∧ 64 ≤ p) → μ'.1 i p = μ.1 i p := fun hi => F.z (zd7m hi) hz
  refine ⟨by rw [F.z (i := 5000) (k := 32) (z := 7) rfl hz]; exact h.1, by rw [F.z (i := 5000) (k := 33) (z := 7) rfl hz]; exact h.2.1, by rw [F.z (i := 5004) (k := 15) (z := 7) rfl hz]; exact h.2.2.1, fun i hi => ?_⟩
  rw [g (by omega), g (by omega)]
  exact h.2.2.2 i hi
theorem gd_lt {L : zK} {x : Nat × Nat} {i : Nat} (h : i < L.length) : (L ++ [x]).getD i (0, 0) = L.getD i (0, 0) := by
  simp [List.getD_eq_getElem?_getD, List.getElem?_append_left h]
theorem gd_eq {L : zK} {x : Nat × Nat} : (L ++ [x]).getD L.length (0, 0) = x := by
  simp [List.getD_eq_getElem?_getD]
theorem c_kput {d : Bool} {K s v : Nat} {L : zK} {x2 : Int32} {σ : zS} (h : LC d K L σ) (hL : L.length < 64) (hv : s ≠ 2 → x2 = nI v) :
    ∃ σ', f_X2_put d (nI (encO s v)) x2 σ = some σ' ∧ FD d [7] σ σ' ∧ LC d K (L ++ [(s, v)]) σ' := by
  unfold f_X2_put
  have td : tl d = 1300 ∨ tl d = 1400 := by cases d <;> simp [tl]
  rw [h.2.2.1, if_neg (show ¬ (64 : Int32) ≤ nI L.length from nI_ge (b := 64) hL (by omega)), wr_nI hL (by omega), bs]
  rw [show (wI σ (tl d + 3) L.length (nI (encO s v))).1 (tl d) 1 = nI L.length by rw [wI_at, if_neg (by omega)]; exact h.2.2.1, wr_nI hL (by omega), bs, lts]
  rw [show (wI (wI σ (tl d + 3) L.length (nI (encO s v))) (tl d + 4) L.length x2).1 (tl d) 1 = nI L.length by rw [wI_at, if_neg (by omega), wI_at, if_neg (by omega)]; exact h.2.2.1, nI_1]
  refine ⟨_, rfl, ((FD.rf.wI (by rw [zd7c (by omega)]; rfl)).wI (by rw [zd7c (by omega)]; rfl)).wI (by rw [zd7c (by omega)]; rfl), h.1, ?_, ?_, ?_⟩
  · rw [wI_at, if_neg (by omega), wI_at, if_neg (by omega), wI_at, if_neg (by omega)]; exact h.2.1
  · rw [wI_self, List.length_append]; rfl
  · intro i hi
    rw [List.length_append] at hi
    simp only [List.length_cons, List.length_nil] at hi
    constructor
    · rw [wI_at, if_neg (by omega), wI_at, if_neg (by omega), wI_at]
      by_cases hi' : i = L.length
      · subst hi'; rw [if_pos ⟨rfl, rfl⟩, gd_eq]
      · rw [if_neg (by omega), gd_lt (by omega)]; exact (h.2.2.2 i (by omega)).1
    · rw [wI_at, if_neg (by omega), wI_at]
      by_cases hi' : i = L.length
      · subst hi'; rw [if_pos ⟨rfl, rfl⟩, gd_eq]; exact hv
      · rw [if_neg (by omega), wI_at, if_neg (by omega), gd_lt (by omega)]; exact (h.2.2.2 i (by omega)).2
theorem m_fr {μ : zS} {k j : Nat} (hj : 8 + k = j) (hk : k < 8) : f_X12_fresher (nI k) μ = some (μ.1 5004 j) := by
  unfold f_X12_fresher
  rw [show (8 : Int32) = nI 8 from rfl, nI_add, hj, rd_nI (by omega) (by omega), bs]
theorem m_rds {μ : zS} {v : Int32} {k j : Nat} (hj : 8 + k = j) (hk : k < 8) : f_X12_reads (nI k) v μ = some (wI μ 5004 j v) := by
  unfold f_X12_reads
  rw [show (8 : Int32) = nI 8 from rfl, nI_add, hj, wr_nI (by omega) (by omega), bs]
theorem m_fr0 (μ : zS) : f_X12_fresher 0 μ = some (μ.1 5004 8) := m_fr (k := 0) rfl (by omega)
theorem m_fr1 (μ : zS) : f_X12_fresher 1 μ = some (μ.1 5004 9) := m_fr (k := 1) rfl (by omega)
theorem m_fr2 (μ : zS) : f_X12_fresher 2 μ = some (μ.1 5004 10) := m_fr (k := 2) rfl (by omega)
theorem m_fr3 (μ : zS) : f_X12_fresher 3 μ = some (μ.1 5004 11) := m_fr (k := 3) rfl (by omega)
theorem m_fr4 (μ : zS) : f_X12_fresher 4 μ = some (μ.1 5004 12) := m_fr (k := 4) rfl (by omega)
theorem m_fr7 (μ : zS) : f_X12_fresher 7 μ = some (μ.1 5004 15) := m_fr (k := 7) rfl (by omega)
theorem m_rd0 (μ : zS) (v : Int32) : f_X12_reads 0 v μ = some (wI μ 5004 8 v) := m_rds (k := 0) rfl (by omega)
theorem m_rd1 (μ : zS) (v : Int32) : f_X12_reads 1 v μ = some (wI μ 5004 9 v) := m_rds (k := 1) rfl (by omega)
theorem m_rd2 (μ : zS) (v : Int32) : f_X12_reads 2 v μ = some (wI μ 5004 10 v) := m_rds (k := 2) rfl (by omega)
theorem m_rd3 (μ : zS) (v : Int32) : f_X12_reads 3 v μ = some (wI μ 5004 11 v) := m_rds (k := 3) rfl (by omega)
theorem m_rd4 (μ : zS) (v : Int32) : f_X12_reads 4 v μ = some (wI μ 5004 12 v) := m_rds (k := 4) rfl (by omega)
theorem m_rd5 (μ : zS) (v : Int32) : f_X12_reads 5 v μ = some (wI μ 5004 13 v) := m_rds (k := 5) rfl (by omega)
theorem m_rd6 (μ : zS) (v : Int32) : f_X12_reads 6 v μ = some (wI μ 5004 14 v) := m_rds (k := 6) rfl (by omega)
theorem m_rd7 (μ : zS) (v : Int32) : f_X12_reads 7 v μ = some (wI μ 5004 15 v) := m_rds (k := 7) rfl (by omega)
theorem m_kput (d : Bool) {o K s v : Nat} {L : zK} {x1 x2 : Int32} {μ : zS} (h : LM o K L μ) (h0 : μ.1 5000 28 = 0) (hL : L.length < 64) (h1 : x1 = nI s) (h2 : x2 = nI v) :
    ∃ μ', f_X12_puts x1 x2 μ = some μ' ∧ FD d [7] μ μ' ∧ LM o K (L ++ [(s, v)]) μ' := by
  have e2 : ∀ y : Int32, (wI μ 5020 (64 + L.length) y).1 5004 15 = nI L.length := fun y => by rw [wI_at, if_neg (by omega)]; exact h.2.2.1
  have e3 : ∀ y z : Int32, (wI (wI μ 5020 (64 + L.length) y) 5021 (64 + L.length) z).1 5004 15 = nI L.length := fun y z => by rw [wI_at, if_neg (by omega)]; exact e2 y
  unfold f_X12_puts
  rw [if_pos h0, m_fr7, bs, h.2.2.1, show (64 : Int32) = nI 64 from rfl, nI_add, wr_nI (by omega) (by omega), bs, m_fr7, bs, e2, nI_add, wr_nI (by omega) (by omega), bs, m_fr7, bs, e3, nI_1, m_rd7, bs]
  refine ⟨_, rfl, ((FD.rf.wI (by rw [zd7m (by omega)]; rfl)).wI (by rw [zd7m (by omega)]; rfl)).wI rfl, ?_, ?_, ?_, ?_⟩
  · rw [wI_at, if_neg (by omega), wI_at, if_neg (by omega), wI_at, if_neg (by omega)]; exact h.1
  · rw [wI_at, if_neg (by omega), wI_at, if_neg (by omega), wI_at, if_neg (by omega)]; exact h.2.1
  · rw [wI_self, List.length_append]; rfl
  · intro i hi
    rw [List.length_append] at hi
    simp only [List.length_cons, List.length_nil] at hi
    constructor
    · rw [wI_at, if_neg (by omega), wI_at, if_neg (by omega), wI_at]
      by_cases hi' : i = L.length
      · subst hi'; rw [if_pos ⟨rfl, rfl⟩, gd_eq, h1]
      · rw [if_neg (by omega), gd_lt (by omega)]; exact (h.2.2.2 i (by omega)).1
    · rw [wI_at, if_neg (by omega), wI_at]
      by_cases hi' : i = L.length
      · subst hi'; rw [if_pos ⟨rfl, rfl⟩, gd_eq, h2]
      · rw [if_neg (by omega), wI_at, if_neg (by omega), gd_lt (by omega)]; exact (h.2.2.2 i (by omega)).2
/-- no fault yet; the same fault -/
def NF (σ μ : zS) : Prop := μ.1 5000 28 = 0 ∧ μ.1 5000 29 = -1 ∧ σ.1 500 8 = 0 ∧ σ.1 500 9 = -1
def JX (σ μ : zS) : Prop := ¬ μ.1 5000 28 = 0 ∧ σ.1 500 8 = μ.1 5000 28 ∧ σ.1 500 9 = μ.1 5000 29
theorem NF.fr {d : Bool} {Z Z' : List Nat} {σ σ' μ μ' : zS} (h : NF σ μ) (F : FD d Z σ σ') (G : FD d Z' μ μ') (hz : Z.elem 12 = false) (hz' : Z'.elem 12 = false) : NF σ' μ' :=
  ⟨by rw [G.z (i := 5000) (k := 28) (z := 12) rfl hz']; exact h.1, by rw [G.z (i := 5000) (k := 29) (z := 12) rfl hz']; exact h.2.1, by rw [F.z (i := 500) (k := 8) (z := 12) rfl hz]; exact h.2.2.1, by rw [F.z (i := 500) (k := 9) (z := 12) rfl hz]; exact h.2.2.2⟩
theorem JT.pl {f : Nat → Nat} {N r : Nat} {σ μ : zS} (h : JT f N r σ μ) : σ.1 500 5 = μ.1 5000 25 := by
  obtain ⟨_, _, _, _, e, _⟩ := h; exact e
theorem j_ref (d : Bool) {f : Nat → Nat} {N r : Nat} {σ μ : zS} (h : JT f N r σ μ) (h0 : NF σ μ) {k : Int32} (hk : ¬ k = 0) :
    ∃ σ' μ', f_X7_refuse k σ = some (0, σ') ∧ f_X12_wrong k μ = some μ' ∧ FD d [12] σ σ' ∧ FD d [12] μ μ' ∧ JX σ' μ' := by
  unfold f_X7_refuse f_X12_wrong
  rw [if_pos h0.1, lts, lts, lts, lts]
  refine ⟨_, _, rfl, rfl, (FD.rf.wI rfl).wI rfl, (FD.rf.wI rfl).wI rfl, ?_, ?_, ?_⟩
  · rw [wI_at, if_neg (by omega), wI_self]; exact hk
  · rw [wI_at, if_neg (by omega), wI_self, wI_at, if_neg (by omega), wI_self]
  · rw [wI_self, wI_self, wI_at, if_neg (by omega), wI_at, if_neg (by omega)]; exact h.pl
/-- with a fault the reference stands still -/
theorem X_put {μ : zS} (h : ¬ μ.1 5000 28 = 0) (x y : Int32) : f_X12_puts x y μ = some μ := by unfold f_X12_puts; rw [if_neg h]
theorem X_knot {μ : zS} (h : ¬ μ.1 5000 28 = 0) : f_X12_knot μ = some μ := by unfold f_X12_knot; rw [if_neg h]
theorem X_goOn {μ : zS} (h : ¬ μ.1 5000 28 = 0) : f_X12_goOn μ = some μ := by unfold f_X12_goOn; rw [if_neg h]
theorem X_wrong {μ : zS} (h : ¬ μ.1 5000 28 = 0) (x : Int32) : f_X12_wrong x μ = some μ := by unfold f_X12_wrong; rw [if_neg h]
theorem X_word {μ : zS} (h : ¬ μ.1 5000 28 = 0) (x : Int32) : f_X12_isWord x μ = 0 := by unfold f_X12_isWord; rw [if_neg h]
theorem X_sign {μ : zS} (h : ¬ μ.1 5000 28 = 0) (x : Int32) : f_X12_isSign x μ = 0 := by unfold f_X12_isSign; rw [if_neg h]
