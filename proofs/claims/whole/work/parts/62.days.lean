/-! The pure part: days are copied -/
theorem cp_5 (σ : zS) (a b : Nat) : cpA σ a 5 0 b 5 0 5 = some (wA σ b (va_cpy (σ.1 a) (σ.1 b) 0 0 5)) := by
  unfold cpA; rw [if_pos (by decide)]; rfl
theorem cp_12 (σ : zS) (a b : Nat) : cpA σ a 12 0 b 12 0 12 = some (wA σ b (va_cpy (σ.1 a) (σ.1 b) 0 0 12)) := by
  unfold cpA; rw [if_pos (by decide)]; rfl
theorem cpy0 {f g : Nat → Int32} {n j : Nat} (h : j < n) : va_cpy f g 0 0 n j = f j := by
  rw [pk_cpy_in (by omega) (by omega)]; congr 1; omega
theorem c_copy {b : Bool} {T : zT} {dy z d1 z1 : Nat} (hd : isDy dy z) (h1 : isDy d1 z1) (hne : dy ≠ d1) (hT : okT T) {σ : zS} {D : zT} {mv : Int32} (h : DC T d1 D mv σ) :
    ∃ σ', f_X0_copyFrom dy d1 σ = some σ' ∧ DC T dy D mv σ' ∧ Fc b [z] σ σ' := by
  have o := hT.1
  have hdd : (dy = 700 ∨ dy = 800 ∨ dy = 900) ∧ (d1 = 700 ∨ d1 = 800 ∨ d1 = 900) := by
    rcases hd with hd | hd | hd <;> rcases h1 with h1 | h1 | h1 <;> omega
  unfold f_X0_copyFrom
  rw [lts, lts, cp_5, bs, cp_5, bs, cp_5, bs, cp_12, bs]
  have ze : ∀ i k, i < 100 → List.elem (zc b (dy + i) k) [z] = true := fun i k hi => by rw [zcD hd i k hi]; simp
  refine ⟨_, rfl, ?_, ?_⟩
  · obtain ⟨e0, e1, e2, e3, e4, e5⟩ := h
    refine ⟨?_, ?_, ?_, ?_, ?_, ?_⟩
    · rw [wA_at, if_neg (by omega), wA_at, if_neg (by omega), wA_at, if_neg (by omega), wA_at, if_neg (by omega), wI_at, if_neg (by omega), wI_at, if_pos ⟨rfl, rfl⟩]; exact e0
    · rw [wA_at, if_neg (by omega), wA_at, if_neg (by omega), wA_at, if_neg (by omega), wA_at, if_neg (by omega), wI_at, if_pos ⟨rfl, rfl⟩, wI_at, if_neg (by omega)]; exact e1
    · intro k hk
      rw [wA_at, if_neg (by omega), wA_at, if_neg (by omega), wA_at, if_neg (by omega), wA_at, if_pos rfl, Nat.zero_add, cpy0 (by omega), wI_at, if_neg (by omega), wI_at, if_neg (by omega)]
      exact row0 e2 hk
    · intro k hk
      rw [wA_at, if_neg (by omega), wA_at, if_neg (by omega), wA_at, if_pos rfl, Nat.zero_add, cpy0 (by omega), wA_at, if_neg (by omega), wI_at, if_neg (by omega), wI_at, if_neg (by omega)]
      exact row0 e3 hk
    · intro k hk
      rw [wA_at, if_neg (by omega), wA_at, if_pos rfl, Nat.zero_add, cpy0 (by omega), wA_at, if_neg (by omega), wA_at, if_neg (by omega), wI_at, if_neg (by omega), wI_at, if_neg (by omega)]
      exact row0 e4 hk
    · intro k hk
      rw [wA_at, if_pos rfl, Nat.zero_add, cpy0 (by omega), wA_at, if_neg (by omega), wA_at, if_neg (by omega), wA_at, if_neg (by omega), wI_at, if_neg (by omega), wI_at, if_neg (by omega)]
      exact row0 e5 hk
  · exact (((((Fc.rf.wI (ze 0 0 (by omega))).wI (ze 0 1 (by omega))).wA (fun k => ze 3 k (by omega))).wA (fun k => ze 4 k (by omega))).wA (fun k => ze 5 k (by omega))).wA (fun k => ze 6 k (by omega))
/-- the cells of a slot -/
def inS (t i p : Nat) : Bool := decide ((i = 5039 ∨ i = 5040 ∨ i = 5041) ∧ p = t ∨ (i = 5042 ∨ i = 5043 ∨ i = 5044) ∧ p / 5 = t ∨ i = 5045 ∧ p / 12 = t)
theorem DM.slot {T : zT} {s t : Nat} {D : zT} {mv : Int32} {σ σ' : zS} (hT : okT T) (h : DM T s D mv σ) (F : fEq (inS t) σ σ') (hne : s ≠ t) : DM T s D mv σ' := by
  obtain ⟨h0, h1, h2, h3, h4, h5⟩ := h
  have o := hT.1
  have g : ∀ i p, ¬ ((i = 5039 ∨ i = 5040 ∨ i = 5041) ∧ p = t ∨ (i = 5042 ∨ i = 5043 ∨ i = 5044) ∧ p / 5 = t ∨ i = 5045 ∧ p / 12 = t) → σ'.1 i p = σ.1 i p := fun i p hn => F.2 i p (decide_eq_false hn)
  exact ⟨(g _ _ (by omega)).trans h0, (g _ _ (by omega)).trans h1, fun k hk => (g _ _ (by omega)).trans (h2 k hk), fun k hk => (g _ _ (by omega)).trans (h3 k hk), fun k hk => (g _ _ (by omega)).trans (h4 k hk), fun k hk => (g _ _ (by omega)).trans (h5 k hk)⟩
theorem slotF {t : Nat} {σ σ' : zS} (F : fEq (inS t) σ σ') : Fm [0, 10, zsl t] σ σ' := by
  refine ⟨F.1, fun i p hz => F.2 i p (decide_eq_false ?_)⟩
  intro h
  have hz : List.elem (zm i p) [0, 10, zsl t] = false := hz
  have e : zm i p = 10 ∨ zm i p = zsl t := by
    rcases h with ⟨rfl | rfl | rfl, rfl⟩ | ⟨rfl | rfl | rfl, rfl⟩ | ⟨rfl, rfl⟩
    · exact .inr rfl
    · exact .inl rfl
    · exact .inr rfl
    · exact .inr rfl
    · exact .inr rfl
    · exact .inr rfl
    · exact .inr rfl
  rcases e with e | e <;> rw [e] at hz <;> simp at hz
theorem m_copA {t s : Nat} (ht : t < 23) (hs : s < 23) (hne : t ≠ s) : ∀ (j k fu : Nat) (σ : zS), k + j = 12 → j < fu →
    ∃ σ', f_X12_copies_111 fu (nI t) (nI s) (nI k) σ = some σ' ∧ σ'.2 = σ.2 ∧ ∀ i p, σ'.1 i p = if i = 5045 ∧ 12 * t + k ≤ p ∧ p < 12 * t + 12 then σ.1 i (12 * s + (p - 12 * t)) else σ.1 i p
  | j, k, 0, σ, hj, hf => by omega
  | 0, k, fu + 1, σ, hj, hf => by
    unfold f_X12_copies_111
    rw [if_pos (show (12 : Int32) ≤ nI k from nI_le (a := 12) (by omega) (by omega))]
    exact ⟨σ, rfl, rfl, fun i p => by rw [if_neg (by omega)]⟩
  | j + 1, k, fu + 1, σ, hj, hf => by
    have e1 : (12 : Int32) * nI s + nI k = nI (12 * s + k) := by show nI 12 * nI s + nI k = _; rw [pk_mul, nI_add]
    have e2 : (12 : Int32) * nI t + nI k = nI (12 * t + k) := by show nI 12 * nI t + nI k = _; rw [pk_mul, nI_add]
    unfold f_X12_copies_111
    rw [if_neg (show ¬ (12 : Int32) ≤ nI k from nI_ge (b := 12) (by omega) (by omega)), e1, e2, rd_nI (by omega) (by omega), bs, wr_nI (by omega) (by omega), bs, nI_1]
    obtain ⟨σ', h1, h2, h3⟩ := m_copA ht hs hne j (k + 1) fu _ (by omega) (by omega)
    refine ⟨σ', h1, h2, fun i p => ?_⟩
    rw [h3]
    simp only [wI_at]
    by_cases hi : i = 5045
    · subst hi
      by_cases hp : p = 12 * t + k
      · subst hp
        rw [if_neg (by omega), if_pos ⟨rfl, rfl⟩, if_pos (by omega), show 12 * s + (12 * t + k - 12 * t) = 12 * s + k by omega]
      · by_cases hr : 12 * t + (k + 1) ≤ p ∧ p < 12 * t + 12
        · rw [if_pos ⟨rfl, hr⟩, if_neg (by omega), if_pos (by omega)]
        · rw [if_neg (by omega), if_neg (by omega), if_neg (by omega)]
    · rw [if_neg (by omega), if_neg (by omega), if_neg (by omega)]
theorem m_copB {t s : Nat} (ht : t < 23) (hs : s < 23) (hne : t ≠ s) : ∀ (j k fu : Nat) (σ : zS), k + j = 5 → j < fu →
    ∃ σ', f_X12_copies_38 fu (nI t) (nI s) (nI k) σ = f_X12_copies_111 FU (nI t) (nI s) 0 σ' ∧ σ'.2 = σ.2 ∧ ∀ i p, σ'.1 i p = if (i = 5042 ∨ i = 5043 ∨ i = 5044) ∧ 5 * t + k ≤ p ∧ p < 5 * t + 5 then σ.1 i (5 * s + (p - 5 * t)) else σ.1 i p
  | j, k, 0, σ, hj, hf => by omega
  | 0, k, fu + 1, σ, hj, hf => by
    unfold f_X12_copies_38
    rw [if_pos (show (5 : Int32) ≤ nI k from nI_le (a := 5) (by omega) (by omega))]
    exact ⟨σ, rfl, rfl, fun i p => by rw [if_neg (by omega)]⟩
  | j + 1, k, fu + 1, σ, hj, hf => by
    have e1 : (5 : Int32) * nI s + nI k = nI (5 * s + k) := by show nI 5 * nI s + nI k = _; rw [pk_mul, nI_add]
    have e2 : (5 : Int32) * nI t + nI k = nI (5 * t + k) := by show nI 5 * nI t + nI k = _; rw [pk_mul, nI_add]
    unfold f_X12_copies_38
    rw [if_neg (show ¬ (5 : Int32) ≤ nI k from nI_ge (b := 5) (by omega) (by omega)), e1, e2, rd_nI (by omega) (by omega), bs, wr_nI (by omega) (by omega), bs, rd_nI (by omega) (by omega), bs, wr_nI (by omega) (by omega), bs, rd_nI (by omega) (by omega), bs, wr_nI (by omega) (by omega), bs, nI_1]
    obtain ⟨σ', h1, h2, h3⟩ := m_copB ht hs hne j (k + 1) fu _ (by omega) (by omega)
    refine ⟨σ', h1, h2, fun i p => ?_⟩
    rw [h3]
    simp only [wI_at]
    by_cases hi : i = 5042 ∨ i = 5043 ∨ i = 5044
    · by_cases hp : p = 5 * t + k
      · subst hp
        rw [if_neg (by omega), if_pos (show (i = 5042 ∨ i = 5043 ∨ i = 5044) ∧ 5 * t + k ≤ 5 * t + k ∧ 5 * t + k < 5 * t + 5 by omega)]
        have e : 5 * s + (5 * t + k - 5 * t) = 5 * s + k := by omega
        rw [e]
        rcases hi with rfl | rfl | rfl <;> simp
      · by_cases hr : 5 * t + (k + 1) ≤ p ∧ p < 5 * t + 5
        · rw [if_pos ⟨hi, hr⟩, if_neg (by omega), if_neg (by omega), if_neg (by omega), if_pos (by omega)]
        · rw [if_neg (by omega), if_neg (by omega), if_neg (by omega), if_neg (by omega), if_neg (by omega)]
    · rw [if_neg (by omega), if_neg (by omega), if_neg (by omega), if_neg (by omega), if_neg (by omega)]
theorem m_copy {t s : Nat} (ht : t < 23) (hs : s < 23) (hne : t ≠ s) (σ : zS) :
    ∃ σ', f_X12_copies (nI t) (nI s) σ = some σ' ∧ fEq (inS t) σ σ' ∧ ∀ T D mv, okT T → DM T s D mv σ → DM T t D mv σ' := by
  unfold f_X12_copies
  rw [rd_nI hs (by omega), bs, wr_nI ht (by omega), bs, rd_nI hs (by omega), bs, wr_nI ht (by omega), bs, rd_nI hs (by omega), bs, wr_nI ht (by omega), bs]
  obtain ⟨σ1, h1, g1, k1⟩ := m_copB ht hs hne 5 0 FU (wI (wI (wI σ 5039 t (σ.1 5039 s)) 5040 t ((wI σ 5039 t (σ.1 5039 s)).1 5040 s)) 5041 t ((wI (wI σ 5039 t (σ.1 5039 s)) 5040 t ((wI σ 5039 t (σ.1 5039 s)).1 5040 s)).1 5041 s)) (by omega) (by unfold FU; omega)
  obtain ⟨σ2, h2, g2, k2⟩ := m_copA ht hs hne 12 0 FU σ1 (by omega) (by unfold FU; omega)
  refine ⟨σ2, h1.trans h2, ⟨?_, ?_⟩, ?_⟩
  · rw [g2, g1]; rfl
  · intro i p hz
    have hn := of_decide_eq_false hz
    rw [k2, if_neg (by omega), k1, if_neg (by omega)]
    simp only [wI_at]
    rw [if_neg (by omega), if_neg (by omega), if_neg (by omega)]
  · intro T D mv hT h
    have o := hT.1
    obtain ⟨e0, e1, e2, e3, e4, e5⟩ := h
    refine ⟨?_, ?_, ?_, ?_, ?_, ?_⟩
    · rw [k2, if_neg (by omega), k1, if_neg (by omega)]
      simp [wI_at, e0]
    · rw [k2, if_neg (by omega), k1, if_neg (by omega)]
      simp [wI_at, e1]
    · intro k hk
      rw [k2, if_neg (by omega), k1, if_pos (by omega)]
      have := e2 k hk
      simp [wI_at, this]
    · intro k hk
      rw [k2, if_neg (by omega), k1, if_pos (by omega)]
      have := e3 k hk
      simp [wI_at, this]
    · intro k hk
      rw [k2, if_neg (by omega), k1, if_pos (by omega)]
      have := e4 k hk
      simp [wI_at, this]
    · intro k hk
      rw [k2, if_pos (by omega), k1, if_neg (by omega)]
      have := e5 k hk
      simp [wI_at, this]
