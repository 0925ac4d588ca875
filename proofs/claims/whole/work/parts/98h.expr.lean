/-! The pure part: text. Expressions of both -/
def JE (d : Bool) (f : Nat → Nat) (N r o K : Nat) (L : zK) (σ μ : zS) : Prop := JT f N r σ μ ∧ NF σ μ ∧ LC d K L σ ∧ LM o K L μ ∧ K ≤ 64 ∧ L.length ≤ K
/-- a row of knots on a stack of n leads to one of m -/
def okE : zK → Nat → Nat → Prop
  | [], n, m => n = m
  | x :: E, n, m => if x.1 = 2 then (if x.2 = 260 then 1 ≤ n ∧ okE E n m else isMk x.2 = true ∧ 2 ≤ n ∧ okE E (n - 1) m)
      else (x.1 = 0 ∧ x.2 ≤ 9999 ∨ x.1 = 1 ∧ x.2 < 7) ∧ okE E (n + 1) m
theorem okE.app : ∀ {E F : zK} {n m l : Nat}, okE E n m → okE F m l → okE (E ++ F) n l
  | [], F, n, m, l, h, h' => by
    have : n = m := h
    subst this; exact h'
  | x :: E, F, n, m, l, h, h' => by
    rw [List.cons_append]
    unfold okE at h ⊢
    by_cases h2 : x.1 = 2
    · rw [if_pos h2] at h ⊢
      by_cases h3 : x.2 = 260
      · rw [if_pos h3] at h ⊢
        exact ⟨h.1, okE.app h.2 h'⟩
      · rw [if_neg h3] at h ⊢
        exact ⟨h.1, h.2.1, okE.app h.2.2 h'⟩
    · rw [if_neg h2] at h ⊢
      exact ⟨h.1, okE.app h.2 h'⟩
def goodE (E : zK) : Prop := ∀ n, okE E n (n + 1)
def tailE (E : zK) : Prop := ∀ n, okE E (n + 1) (n + 1)
theorem tailE.nil : tailE [] := fun _ => rfl
theorem goodE.tail {E F : zK} (h : goodE E) (h' : tailE F) : goodE (E ++ F) := fun n => (h n).app (h' n)
theorem okE_bin {v n : Nat} (hv : isMk v = true) : okE [(2, v)] (n + 2) (n + 1) := by
  unfold okE
  rw [if_pos rfl, if_neg (show ¬ v = 260 from fun z => by rw [z] at hv; cases hv)]
  exact ⟨hv, by omega, rfl⟩
theorem tailE.step {E F : zK} {v : Nat} (hv : isMk v = true) (h : goodE E) (h' : tailE F) : tailE (E ++ [(2, v)] ++ F) := fun n => ((h (n + 1)).app (okE_bin hv)).app (h' n)
theorem goodE.nots {E : zK} (h : goodE E) : ∀ t, goodE (E ++ List.replicate t (2, 260))
  | 0 => by simpa using h
  | t + 1 => by
    have e : E ++ List.replicate (t + 1) (2, 260) = E ++ List.replicate t (2, 260) ++ [(2, 260)] := by rw [List.replicate_succ', List.append_assoc]
    rw [e]
    exact fun n => (goodE.nots h t n).app (by unfold okE; rw [if_pos rfl, if_pos rfl]; exact ⟨by omega, rfl⟩)
theorem goodE.num {v : Nat} (hv : v ≤ 9999) : goodE [(0, v)] := fun n => by
  unfold okE
  rw [if_neg (show ¬ (0 : Nat) = 2 by decide)]
  exact ⟨.inl ⟨rfl, hv⟩, rfl⟩
theorem goodE.name {v : Nat} (hv : v < 7) : goodE [(1, v)] := fun n => by
  unfold okE
  rw [if_neg (show ¬ (1 : Nat) = 2 by decide)]
  exact ⟨.inr ⟨rfl, hv⟩, rfl⟩
/-- what a piece of an expression comes to: the same fault, or the same knots more -/
def RX (d : Bool) (f : Nat → Nat) (N r o K : Nat) (L : zK) (P : zK → Prop) (x : Option (Int32 × zS)) (y : Option zS) (σ μ : zS) : Prop :=
  ∃ σ' μ', y = some μ' ∧ FD d [1, 7, 12] σ σ' ∧ FD d [1, 7, 12] μ μ' ∧ ((x = some (0, σ') ∧ JX σ' μ') ∨ (x = some (1, σ') ∧ ∃ E, JE d f N r o (K + E.length) (L ++ E) σ' μ' ∧ P E))
def HX (d : Bool) (f : Nat → Nat) (N r o K0 : Nat) (gc : zS → Option (Int32 × zS)) (gm : zS → Option zS) : Prop :=
  (∀ K L σ μ, K0 ≤ K → JE d f N r o K L σ μ → RX d f N r o K L goodE (gc σ) (gm μ) σ μ) ∧ ∀ μ, ¬ μ.1 5000 28 = 0 → gm μ = some μ
section
variable {d : Bool} {f : Nat → Nat} {N r o K K0 : Nat} {L : zK} {σ μ : zS}
theorem j_put {s v : Nat} {x1 x2 y1 y2 : Int32} (h : JE d f N r o K L σ μ) (hl : L.length < K) (hx1 : x1 = nI (encO s v)) (hx2 : s ≠ 2 → x2 = nI v) (hy1 : y1 = nI s) (hy2 : y2 = nI v) :
    ∃ σ' μ', f_X2_put (σ.2.2 3) x1 x2 σ = some σ' ∧ f_X12_puts y1 y2 μ = some μ' ∧ FD d [7] σ σ' ∧ FD d [7] μ μ' ∧ JE d f N r o K (L ++ [(s, v)]) σ' μ' := by
  obtain ⟨h1, h2, h3, h4, h5, h6⟩ := h
  subst hx1
  obtain ⟨σ', e1, F1, c1⟩ := c_kput (s := s) h3 (by omega) hx2
  obtain ⟨μ', e2, F2, c2⟩ := m_kput d h4 h2.1 (by omega) hy1 hy2
  refine ⟨σ', μ', by rw [h3.1]; exact e1, e2, F1, F2, h1.fr F1 F2 rfl rfl rfl rfl, h2.fr F1 F2 rfl rfl, c1, c2, h5, ?_⟩
  rw [List.length_append]
  simp only [List.length_cons, List.length_nil]
  omega
theorem zd_tl0 {p : Nat} : zd d (tl d) p = 7 := zd7c (.inl rfl)
theorem j_adv1 (h : JT f N r σ μ) (hk : ¬ σ.1 500 4 = 0) :
    ∃ σ' μ', f_X7_advance σ = some σ' ∧ f_X12_token μ = some μ' ∧ FD d [1] σ σ' ∧ FD d [1] μ μ' ∧ JT f N (r - 1) σ' μ' := by
  obtain ⟨p, a, b, c, e, g⟩ := h
  have g' : N - p < r := g.resolve_left hk
  have := j_adv (r := r - 1) d ⟨p, a, b, c, e, .inr (show N - p < r - 1 + 1 by omega)⟩ hk
  exact this
/-- a knot is counted by both, not yet the next token -/
theorem j_cnt (h : JE d f N r o K L σ μ) (h64 : K < 64) :
    JE d f N r o (K + 1) L (wI σ (tl d) 0 (nI (K + 1))) (wI μ 5000 33 (nI (K + 1))) ∧ FD d [7] σ (wI σ (tl d) 0 (nI (K + 1))) ∧ FD d [7] μ (wI μ 5000 33 (nI (K + 1))) := by
  obtain ⟨h1, h2, h3, h4, h5, h6⟩ := h
  have F1 : FD d [7] σ (wI σ (tl d) 0 (nI (K + 1))) := FD.rf.wI (by rw [zd_tl0]; rfl)
  have F2 : FD d [7] μ (wI μ 5000 33 (nI (K + 1))) := FD.rf.wI rfl
  refine ⟨⟨h1.fr F1 F2 rfl rfl rfl rfl, h2.fr F1 F2 rfl rfl, ⟨h3.1, wI_self _ _ _ _, ?_, fun i hi => ?_⟩, ⟨?_, wI_self _ _ _ _, ?_, fun i hi => ?_⟩, by omega, by omega⟩, F1, F2⟩
  · rw [wI_at, if_neg (by omega)]; exact h3.2.2.1
  · rw [wI_at, if_neg (by omega), wI_at, if_neg (by omega)]; exact h3.2.2.2 i hi
  · rw [wI_at, if_neg (by omega)]; exact h4.1
  · rw [wI_at, if_neg (by omega)]; exact h4.2.2.1
  · rw [wI_at, if_neg (by omega), wI_at, if_neg (by omega)]; exact h4.2.2.2 i hi
theorem JE.adv (h : JE d f N r o K L σ μ) (hk : ¬ σ.1 500 4 = 0) :
    ∃ σ' μ', f_X7_advance σ = some σ' ∧ f_X12_token μ = some μ' ∧ FD d [1] σ σ' ∧ FD d [1] μ μ' ∧ JE d f N r o K L σ' μ' := by
  obtain ⟨σ', μ', e1, e2, F1, F2, J⟩ := j_adv1 (d := d) h.1 hk
  exact ⟨σ', μ', e1, e2, F1, F2, J.mono (by omega), h.2.1.fr F1 F2 rfl rfl, h.2.2.1.fr F1 rfl, h.2.2.2.1.fr F2 rfl, h.2.2.2.2⟩
theorem j_knot (h : JE d f N r o K L σ μ) (hk : ¬ σ.1 500 4 = 0) :
    ∃ σ' μ1 μ', f_X12_knot μ = some μ1 ∧ f_X12_goOn μ1 = some μ' ∧ FD d [1, 7, 12] σ σ' ∧ FD d [1, 7, 12] μ μ' ∧
      ((f_X6_takeKnot σ = some (0, σ') ∧ JX σ' μ') ∨ (f_X6_takeKnot σ = some (1, σ') ∧ K < 64 ∧ JE d f N r o (K + 1) L σ' μ')) := by
  have hK := h.2.2.2.2.1
  have e0 : σ.1 (tl (σ.2.2 3)) 0 = nI K := by rw [h.2.2.1.1]; exact h.2.2.1.2.1
  have e1 : μ.1 5000 33 = nI K := h.2.2.2.1.2.1
  have n0 := h.2.1.1
  have td : tl d = 1300 ∨ tl d = 1400 := by cases d <;> simp [tl]
  unfold f_X12_knot f_X6_takeKnot
  rw [e0, e1, if_pos n0]
  by_cases h64 : K < 64
  · obtain ⟨h', G1, G2⟩ := j_cnt h h64
    obtain ⟨σ', μ', a1, a2, F1, F2, J⟩ := h'.adv (by rw [wI_at, if_neg (by omega)]; exact hk)
    rw [if_pos (show nI K < (64 : Int32) from nI_lt (b := 64) h64 (by omega)), if_neg (show ¬ nI K = (64 : Int32) from fun z => by have := (nI_eq (b := 64) (by omega) (by omega)).mp z; omega), lts, lts, nI_1, h.2.2.1.1, a1, bs]
    refine ⟨σ', _, μ', rfl, ?_, (G1.mono rfl).tr (F1.mono rfl), (G2.mono rfl).tr (F2.mono rfl), .inr ⟨rfl, h64, J⟩⟩
    unfold f_X12_goOn
    rw [if_pos (by rw [wI_at, if_neg (by omega)]; exact n0), a2, bs]
  · have e64 : K = 64 := by omega
    obtain ⟨σ', μ', a1, a2, F1, F2, J⟩ := j_ref d h.1 h.2.1 (k := 2) (by decide)
    rw [e64, if_neg (show ¬ nI 64 < (64 : Int32) by decide), if_pos (show nI 64 = (64 : Int32) from rfl), a1, a2, b2s, bs]
    exact ⟨σ', μ', μ', rfl, X_goOn J.1, F1.mono rfl, F2.mono rfl, .inl ⟨rfl, J⟩⟩
theorem isW_k {w : Int32} (h : ¬ f_X7_isWord w σ = 0) : ¬ σ.1 500 4 = 0 := by
  unfold f_X7_isWord at h
  by_cases e : σ.1 500 4 = 1
  · rw [e]; decide
  · rw [if_neg e] at h; exact absurd rfl h
theorem isS_k {w : Int32} (h : ¬ f_X7_isSign w σ = 0) : σ.1 500 4 = 3 ∧ σ.1 500 6 = w := by
  unfold f_X7_isSign at h
  by_cases e : σ.1 500 4 = 3
  · rw [if_pos e] at h
    by_cases e2 : σ.1 500 6 = w
    · exact ⟨e, e2⟩
    · rw [if_neg e2] at h; exact absurd rfl h
  · rw [if_neg e] at h; exact absurd rfl h
theorem isS_m {w : Int32} (h : ¬ f_X12_isSign w μ = 0) : μ.1 5000 26 = 3 ∧ μ.1 5000 27 = w := by
  unfold f_X12_isSign at h
  by_cases e0 : μ.1 5000 28 = 0
  · rw [if_pos e0] at h
    by_cases e : μ.1 5000 26 = 3
    · rw [if_pos e] at h
      by_cases e2 : μ.1 5000 27 = w
      · exact ⟨e, e2⟩
      · rw [if_neg e2] at h; exact absurd rfl h
    · rw [if_neg e] at h; exact absurd rfl h
  · rw [if_neg e0] at h; exact absurd rfl h
theorem JE.cast {K' : Nat} {L' : zK} (h : JE d f N r o K L σ μ) (hK : K = K') (hL : L = L') : JE d f N r o K' L' σ μ := by subst hK; subst hL; exact h
theorem JE.nil (h : JE d f N r o K L σ μ) : JE d f N r o (K + ([] : zK).length) (L ++ []) σ μ := h.cast rfl (List.append_nil L).symm
end
