/-! The pure part: calls that only look -/
theorem row0 {σ : zS} {id n : Nat} {f : Nat → Nat} (h : rowN σ id 0 n f) {k : Nat} (hk : k < n) : σ.1 id k = nI (f k) := by
  have := h k hk
  rwa [Nat.zero_add] at this
theorem rowS {σ : zS} {id o n : Nat} {f : Nat → Nat} (h : rowN σ id o n f) {k j : Nat} (hk : k < n) (e : o + k = j) : σ.1 id j = nI (f k) := by
  subst e; exact h k hk
theorem nI_nm1 {n : Nat} (h : n < 2 ^ 31) : ¬ nI n = -1 := by
  intro z
  have := nI_pos h
  rw [z] at this; exact this (by decide)
section
variable {b : Bool} {T D : zT} {mv : Int32} {σc σm : zS}
theorem Vx.th (h : Vx b T D mv σc σm) (v : Int32) : Vx b T D mv σc (wI σm 5000 0 v) := h.scr Fc.rf (Fm.rf.wI rfl)
theorem Vx.oT (h : Vx b T D mv σc σm) : okT T := h.1.1.1
theorem Vx.cc (h : Vx b T D mv σc σm) : CC b T (-1) (-1) σc := h.1.1
theorem Vx.cm (h : Vx b T D mv σc σm) : CM T (-1) (-1) σm := h.1.2
theorem Vx.b0 (h : Vx b T D mv σc σm) : σc.2.2 0 = b := h.1.1.2.1.1.1
theorem Vx.oD (h : Vx b T D mv σc σm) : okD T D := h.2.1.1
theorem Vx.dc (h : Vx b T D mv σc σm) : DC T 700 D mv σc := h.2.1.2.1
theorem Vx.dm (h : Vx b T D mv σc σm) : DM T 0 D mv σm := h.2.1.2.2
theorem Vx.q (h : Vx b T D mv σc σm) {σc' σm' : zS} (F : Fc b [0] σc σc') (G : Fm [0] σm σm') : V σc' σm' := (h.scr (F.mono rfl) (G.mono rfl)).v
end
theorem c_man0 {b : Bool} {T : zT} {σ : zS} (h : RC b T σ) {x : Int32} (hx : x < 0 ∨ nI (T 4 2) ≤ x) : f_X11_isMan x σ = 0 := by
  unfold f_X11_isMan
  rw [h.1.1, h.2.1.2.2.1]
  by_cases h0 : x < 0
  · rw [if_pos h0]
  · rw [if_neg h0, if_pos (hx.resolve_left h0)]
theorem c_man1 {b : Bool} {T : zT} {σ : zS} (hT : okT T) (h : RC b T σ) {m : Nat} (hm : m < T 4 2) : f_X11_isMan (nI m) σ = 1 := by
  have o := hT.1
  unfold f_X11_isMan
  rw [h.1.1, h.2.1.2.2.1, if_neg (nI_pos (by omega)), if_neg (nI_ge (by omega) (by omega))]
theorem m_man0 {T : zT} {σ : zS} (h : RM T σ) {x : Int32} (hx : x < 0 ∨ nI (T 4 2) ≤ x) : f_X12_isMan x σ = some 0 := by
  unfold f_X12_isMan
  rw [rd_lit (by decide) (by decide), bs, row0 h.1 (k := 2) (by decide)]
  by_cases h0 : x < 0
  · rw [if_pos h0]
  · rw [if_neg h0, if_pos (hx.resolve_left h0)]
theorem m_man1 {T : zT} {σ : zS} (hT : okT T) (h : RM T σ) {m : Nat} (hm : m < T 4 2) : f_X12_isMan (nI m) σ = some 1 := by
  have o := hT.1
  unfold f_X12_isMan
  rw [rd_lit (by decide) (by decide), bs, row0 h.1 (k := 2) (by decide), if_neg (nI_pos (by omega)), if_neg (nI_ge (by omega) (by omega))]
theorem ix (x : Int32) {n : Nat} (hn : n < 2 ^ 31) : (x < 0 ∨ nI n ≤ x) ∨ ∃ j, j < n ∧ x = nI j := by
  rcases pk_ix x hn with h | h | h
  · exact .inl (.inl h)
  · exact .inl (.inr h)
  · exact .inr h
theorem pt0 {x : Int32} (hx : x < 0 ∨ nI 4 ≤ x) (σ : zS) : f_X11_isPart x σ = 0 ∧ f_X12_isPart x σ = 0 ∧ f_X11_isKind x σ = 0 ∧ f_X12_isKind x σ = 0 := by
  unfold f_X11_isPart f_X12_isPart f_X11_isKind f_X12_isKind
  by_cases h0 : x < 0
  · simp only [if_pos h0, and_self]
  · have h4 : (4 : Int32) ≤ x := hx.resolve_left h0
    simp only [if_neg h0, if_pos h4, and_self]
theorem pt1 {p : Nat} (hp : p < 4) (σ : zS) : f_X11_isPart (nI p) σ = 1 ∧ f_X12_isPart (nI p) σ = 1 ∧ f_X11_isKind (nI p) σ = 1 ∧ f_X12_isKind (nI p) σ = 1 := by
  unfold f_X11_isPart f_X12_isPart f_X11_isKind f_X12_isKind
  have h0 : ¬ nI p < 0 := nI_pos (by omega)
  have h4 : ¬ (4 : Int32) ≤ nI p := nI_ge (b := 4) hp (by omega)
  simp only [if_neg h0, if_neg h4, and_self]
theorem o_fault : op_fault V := by
  intro x σc σm ⟨b, T, D, mv, h⟩
  have h0 := h.th 0
  have e1 := h0.2.2.1.2.1
  have e2 := h0.2.2.1.2.2.1
  refine ⟨_, σc, wI σm 5000 0 0, ⟨rfl, rfl⟩, ?_, h0.v⟩
  unfold f_X11_fault f_X12_fault
  rw [lts]
  by_cases x0 : x = 0
  · rw [if_pos x0, if_pos x0, e1]
  · rw [if_neg x0, if_neg x0]
    by_cases x1 : x = 1
    · rw [if_pos x1, if_pos x1, e2]
    · rw [if_neg x1, if_neg x1]
/-- the first place of a name, none -/
def fnd (f : Nat → Nat) (x : Int32) : Nat → Nat → Int32
  | 0, _ => -1
  | n + 1, k => if nI (f k) = x then nI k else fnd f x n (k + 1)
theorem c_idx {σ : zS} {a l : Nat} {f : Nat → Nat} {x : Int32} {n : Nat} (hn : n ≤ l) (hl : l < 1000) (h : rowN σ a 0 n f) : ∀ (j k fu : Nat), k + j = n → j < fu → f_X8_indexOf_2 a l fu (nI n) x (nI k) σ = some (fnd f x j k)
  | j, k, 0, hj, hf => by omega
  | 0, k, fu + 1, hj, hf => by
    unfold f_X8_indexOf_2
    rw [if_pos (nI_le (by omega) (by omega))]; rfl
  | j + 1, k, fu + 1, hj, hf => by
    unfold f_X8_indexOf_2
    rw [if_neg (nI_ge (by omega) (by omega)), if_neg (nI_ge (by omega) (by omega)), rd_nI (by omega) (by omega), bs, row0 h (by omega)]
    unfold fnd
    by_cases e : nI (f k) = x
    · rw [if_pos e, if_pos e]
    · rw [if_neg e, if_neg e, nI_1]
      exact c_idx hn hl h j (k + 1) fu (by omega) (by omega)
theorem m_fnd {σ : zS} {a l o : Nat} {f : Nat → Nat} {x : Int32} {n : Nat} (hn : o + n ≤ l) (hl : l < 1000) (h : rowN σ a o n f) : ∀ (j k fu : Nat), k + j = n → j < fu → f_X12_found_3 a l fu (nI o) (nI n) x (nI k) σ = some (fnd f x j k)
  | j, k, 0, hj, hf => by omega
  | 0, k, fu + 1, hj, hf => by
    unfold f_X12_found_3
    rw [if_pos (nI_le (by omega) (by omega))]; rfl
  | j + 1, k, fu + 1, hj, hf => by
    unfold f_X12_found_3
    rw [if_neg (nI_ge (by omega) (by omega)), nI_add, rd_nI (by omega) (by omega), bs, h k (by omega)]
    unfold fnd
    by_cases e : nI (f k) = x
    · rw [if_pos e, if_pos e]
    · rw [if_neg e, if_neg e, nI_1]
      exact m_fnd hn hl h j (k + 1) fu (by omega) (by omega)
theorem o_named : op_named V := by
  intro x y σc σm ⟨b, T, D, mv, h⟩
  have h0 := h.th 0
  have o := h.oT.1
  have hb := h.b0
  have r1 := h.cc.2.1
  have r2 := h0.cm.2.1
  refine ⟨if x = 0 then fnd (T 5) y (T 4 1) 0 else if x = 1 then fnd (T 9) y (T 4 2) 0 else -1, σc, wI σm 5000 0 0, ⟨?_, rfl⟩, ?_, h0.v⟩
  · unfold f_X11_named f_X8_landNamed f_X8_manNamed f_X8_indexOf
    rw [hb, r1.2.1.2.1, r1.2.1.2.2.1]
    have e1 := c_idx (x := y) (a := tv b + 3) (l := 5) (n := T 4 1) (by omega) (by omega) r1.2.2.1.1 (T 4 1) 0 FU (by omega) (by unfold FU; omega)
    have e2 := c_idx (x := y) (a := tv b + 8) (l := 5) (n := T 4 2) (by omega) (by omega) r1.2.2.2.1.1 (T 4 2) 0 FU (by omega) (by unfold FU; omega)
    rw [show nI 0 = (0 : Int32) from rfl] at e1 e2
    rw [e1, e2]
    by_cases x0 : x = 0
    · rw [if_pos x0, if_pos x0]; rfl
    · rw [if_neg x0, if_neg x0]
      by_cases x1 : x = 1
      · rw [if_pos x1, if_pos x1]; rfl
      · rw [if_neg x1, if_neg x1]
  · unfold f_X12_named f_X12_found
    rw [lts, rd_lit (by decide) (by decide), bs, rd_lit (by decide) (by decide), bs, row0 r2.1 (k := 1) (by decide), row0 r2.1 (k := 2) (by decide)]
    have e1 := m_fnd (x := y) (a := 5005) (l := 10) (o := 0) (n := T 4 1) (by omega) (by omega) r2.2.1.1 (T 4 1) 0 FU (by omega) (by unfold FU; omega)
    have e2 := m_fnd (x := y) (a := 5009) (l := 10) (o := 0) (n := T 4 2) (by omega) (by omega) r2.2.2.1.1 (T 4 2) 0 FU (by omega) (by unfold FU; omega)
    rw [show nI 0 = (0 : Int32) from rfl] at e1 e2
    rw [e1, e2]
    by_cases x0 : x = 0
    · rw [if_pos x0, if_pos x0]; rfl
    · rw [if_neg x0, if_neg x0]
      by_cases x1 : x = 1
      · rw [if_pos x1, if_pos x1]; rfl
      · rw [if_neg x1, if_neg x1]
