/-! The pure part: what is remembered, move, free -/
def up2 (D : zT) (i m v : Nat) : zT := fun a k => if a = i ∧ k = m then v else D a k
theorem up2_at (D : zT) (i m v a k : Nat) : up2 D i m v a k = if a = i ∧ k = m then v else D a k := rfl
/-- the row of what can be undone, but for the last day -/
def VUr (T : zT) (U : Nat) (E : Nat → zT) (M : Nat → Int32) (a : Nat → Nat) (σc σm : zS) : Prop := U ≤ 20 ∧ σc.1 1100 0 = nI U ∧ σm.1 5000 46 = nI U ∧
  ∀ k, k < U → a k < T 4 2 ∧ okD T (E k) ∧ DM T (3 + k) (E k) (M k) σm ∧ dayBut T (E k) (E (k + 1)) (a k) ∧
    σc.1 1102 k = nI (a k) ∧ σc.1 1103 k = nI (E k 1 (a k)) ∧ σc.1 1104 k = nI (E k 2 (a k)) ∧ σc.1 1105 k = nI (E k 3 (a k)) ∧ σc.1 1106 k = M k
theorem cp_19 (σ : zS) (a : Nat) (h : σ.1 1100 0 = 19) : cpA σ a 20 1 a 20 0 (σ.1 1100 0) = some (wA σ a (va_cpy (σ.1 a) (σ.1 a) 1 0 19)) := by
  unfold cpA; rw [h, if_pos (by decide)]; rfl
theorem cpy1 {f g : Nat → Int32} {j : Nat} (h : j < 19) : va_cpy f g 1 0 19 j = f (j + 1) := by
  rw [pk_cpy_in (by omega) (by omega)]; congr 1; omega
theorem c_drop {b : Bool} (σ : zS) : ∃ σ', f_X9_dropOldest σ = some σ' ∧ Fc b [4] σ σ' ∧ σ'.1 1100 0 = 19 ∧ ∀ i k, 1102 ≤ i → i ≤ 1106 → k < 19 → σ'.1 i k = σ.1 i (k + 1) := by
  unfold f_X9_dropOldest
  have z4 : ∀ i k, i < 100 → List.elem (zc b (1100 + i) k) [4] = true := fun i k hi => by rw [zc4 i k hi]; rfl
  rw [lts, cp_19 _ _ rfl, bs, cp_19 _ _ rfl, bs, cp_19 _ _ rfl, bs, cp_19 _ _ rfl, bs, cp_19 _ _ rfl, bs]
  refine ⟨_, rfl, (((((Fc.rf.wI (z4 0 0 (by omega))).wA (fun k => z4 2 k (by omega))).wA (fun k => z4 3 k (by omega))).wA (fun k => z4 4 k (by omega))).wA (fun k => z4 5 k (by omega))).wA (fun k => z4 6 k (by omega)), rfl, ?_⟩
  intro i k h1 h2 hk
  have : i = 1102 ∨ i = 1103 ∨ i = 1104 ∨ i = 1105 ∨ i = 1106 := by omega
  rcases this with rfl | rfl | rfl | rfl | rfl <;> simp only [wA_at, wI_at] <;> simp <;> rw [cpy1 hk] <;> simp [wA_at, wI_at]
theorem m_dropL {T : zT} {E : Nat → zT} {M : Nat → Int32} (hT : okT T) : ∀ (j k fu : Nat) (σ : zS), k + j = 20 → 1 ≤ k → j < fu → (∀ i, i + 1 < k → DM T (3 + i) (E (i + 1)) (M (i + 1)) σ) → (∀ i, k ≤ i → i < 20 → DM T (3 + i) (E i) (M i) σ) →
    ∃ σ', f_X12_keepNow_11 fu (nI k) σ = f_X12_keepNow_45 (wI σ' 5000 46 ((σ'.1 5000 46) - (1 : Int32))) ∧ Fm [0, 10, 4] σ σ' ∧ σ'.1 5000 46 = σ.1 5000 46 ∧ (∀ i, i < 19 → DM T (3 + i) (E (i + 1)) (M (i + 1)) σ')
  | j, k, 0, σ, hj, hk, hf, h1, h2 => by omega
  | 0, k, fu + 1, σ, hj, hk, hf, h1, h2 => by
    unfold f_X12_keepNow_11
    rw [if_pos (show (20 : Int32) ≤ nI k from nI_le (a := 20) (by omega) (by omega)), lts]
    exact ⟨σ, rfl, Fm.rf, rfl, fun i hi => h1 i (by omega)⟩
  | j + 1, k, fu + 1, σ, hj, hk, hf, h1, h2 => by
    have e1 : (3 : Int32) + nI k = nI (3 + k) := by show nI 3 + nI k = _; rw [nI_add]
    have e2 : nI (3 + k) - 1 = nI (2 + k) := by rw [nI_m1lt (by omega) (by omega)]; congr 1; omega
    unfold f_X12_keepNow_11
    rw [if_neg (show ¬ (20 : Int32) ≤ nI k from nI_ge (b := 20) (by omega) (by omega)), e1, e2]
    obtain ⟨σ1, a1, a2, a3⟩ := m_copy (t := 2 + k) (s := 3 + k) (by omega) (by omega) (by omega) σ
    rw [a1, bs, nI_1]
    obtain ⟨σ', b1, b2, b3, b4⟩ := m_dropL hT j (k + 1) fu σ1 (by omega) (by omega) (by omega) (by
      intro i hi
      by_cases hik : i + 1 = k
      · have := a3 T (E k) (M k) hT (h2 k (by omega) (by omega))
        rw [show 3 + i = 2 + k by omega, hik]; exact this
      · exact (h1 i (by omega)).slot hT a2 (by omega)) (by
      intro i hi1 hi2
      exact (h2 i (by omega) hi2).slot hT a2 (by omega))
    refine ⟨σ', b1, Fm.tr ?_ b2, b3.trans ?_, b4⟩
    · have := slotF a2
      rw [show zsl (2 + k) = 4 by unfold zsl; rw [if_neg (by omega), if_neg (by omega), if_neg (by omega)]] at this
      exact this
    · exact a2.2 5000 46 rfl
theorem push {b : Bool} {T D : zT} {mv : Int32} {U m : Nat} {E : Nat → zT} {M : Nat → Int32} {a : Nat → Nat} {σc σm : zS} (hT : okT T) (oD : okD T D) (dc : DC T 700 D mv σc) (dm : DM T 0 D mv σm) (h : VUr T U E M a σc σm) (hU : U < 20) (e1 : E U = D) (e2 : M U = mv) (hm : m < T 4 2) :
    ∃ σc1 σm1, f_X9_remember_13 700 (nI m) σc = some σc1 ∧ f_X12_keepNow_45 σm = some σm1 ∧ Fc b [4] σc σc1 ∧ Fm [0, 10, 4] σm σm1 ∧ (∀ D' mv', dayBut T D D' m → VU T D' mv' σc1 σm1) := by
  have o := hT.1
  obtain ⟨u1, u2, u3, u4⟩ := h
  have c7 := dc.s7 hm
  unfold f_X9_remember_13 f_X12_keepNow_45
  have z4 : ∀ i k, i < 100 → List.elem (zc b (1100 + i) k) [4] = true := fun i k hi => by rw [zc4 i k hi]; rfl
  rw [u2, wr_nI (by omega) (by omega), bs]
  have A1 : (wI σc 1102 U (nI m)).1 1100 0 = nI U := by rw [wI_at, if_neg (by omega)]; exact u2
  rw [rd_nI (by omega) (by omega), bs, A1, wr_nI (by omega) (by omega), bs]
  have A2 : (wI (wI σc 1102 U (nI m)) 1103 U ((wI σc 1102 U (nI m)).1 (700 + 3) m)).1 1100 0 = nI U := by rw [wI_at, if_neg (by omega)]; exact A1
  rw [rd_nI (by omega) (by omega), bs, A2, wr_nI (by omega) (by omega), bs]
  have A3 : (wI (wI (wI σc 1102 U (nI m)) 1103 U ((wI σc 1102 U (nI m)).1 (700 + 3) m)) 1104 U ((wI (wI σc 1102 U (nI m)) 1103 U ((wI σc 1102 U (nI m)).1 (700 + 3) m)).1 (700 + 4) m)).1 1100 0 = nI U := by rw [wI_at, if_neg (by omega)]; exact A2
  rw [rd_nI (by omega) (by omega), bs, A3, wr_nI (by omega) (by omega), bs]
  have v1 : (wI σc 1102 U (nI m)).1 (700 + 3) m = nI (D 1 m) := by rw [wI_at, if_neg (by omega)]; exact c7.1
  rw [v1] at *
  have v2 : (wI (wI σc 1102 U (nI m)) 1103 U (nI (D 1 m))).1 (700 + 4) m = nI (D 2 m) := by rw [wI_at, if_neg (by omega), wI_at, if_neg (by omega)]; exact c7.2.1
  rw [v2] at *
  have v3 : (wI (wI (wI σc 1102 U (nI m)) 1103 U (nI (D 1 m))) 1104 U (nI (D 2 m))).1 (700 + 5) m = nI (D 3 m) := by rw [wI_at, if_neg (by omega), wI_at, if_neg (by omega), wI_at, if_neg (by omega)]; exact c7.2.2
  rw [v3] at *
  have A4 : (wI (wI (wI (wI σc 1102 U (nI m)) 1103 U (nI (D 1 m))) 1104 U (nI (D 2 m))) 1105 U (nI (D 3 m))).1 1100 0 = nI U := by rw [wI_at, if_neg (by omega)]; exact A3
  have v4 : (wI (wI (wI (wI σc 1102 U (nI m)) 1103 U (nI (D 1 m))) 1104 U (nI (D 2 m))) 1105 U (nI (D 3 m))).1 700 1 = mv := by rw [wI_at, if_neg (by omega), wI_at, if_neg (by omega), wI_at, if_neg (by omega), wI_at, if_neg (by omega)]; exact dc.2.1
  rw [A4, v4, wr_nI (by omega) (by omega), bs, lts]
  have A5 : (wI (wI (wI (wI (wI σc 1102 U (nI m)) 1103 U (nI (D 1 m))) 1104 U (nI (D 2 m))) 1105 U (nI (D 3 m))) 1106 U mv).1 1100 0 = nI U := by rw [wI_at, if_neg (by omega)]; exact A4
  rw [A5, nI_1]
  have e3 : (3 : Int32) + nI U = nI (3 + U) := by show nI 3 + nI U = _; rw [nI_add]
  obtain ⟨σ2, a1, a2, a3⟩ := m_copy (t := 3 + U) (s := 0) (by omega) (by omega) (by omega) σm
  replace a1 : f_X12_copies (nI (3 + U)) 0 σm = _ := a1
  have g46 : σ2.1 5000 46 = nI U := (a2.2 5000 46 rfl).trans u3
  rw [u3, e3, a1, bs, lts, g46, nI_1]
  refine ⟨_, _, rfl, rfl, (((((Fc.rf.wI (z4 2 _ (by omega))).wI (z4 3 _ (by omega))).wI (z4 4 _ (by omega))).wI (z4 5 _ (by omega))).wI (z4 6 _ (by omega))).wI (z4 0 _ (by omega)), ?_, ?_⟩
  · have := slotF a2
    rw [zsl4] at this
    exact this.wI rfl
  · intro D' mv' hb
    refine ⟨U + 1, fun k => if k ≤ U then E k else D', fun k => if k ≤ U then M k else mv', fun k => if k < U then a k else m, by omega, by rw [wI_at, if_pos ⟨rfl, rfl⟩], by rw [wI_at, if_pos ⟨rfl, rfl⟩], if_neg (by omega), if_neg (by omega), ?_⟩
    intro k hk
    dsimp only
    have W4 : Fm [4] σ2 (wI σ2 5000 46 (nI (U + 1))) := Fm.rf.wI rfl
    by_cases hkU : k < U
    · obtain ⟨q1, q2, q3, q4, q5, q6, q7, q8, q9⟩ := u4 k hkU
      have q3' : DM T (3 + k) (E k) (M k) σ2 := q3.slot hT a2 (by omega)
      rw [if_pos (show k ≤ U by omega), if_pos (show k ≤ U by omega), if_pos (show k + 1 ≤ U by omega), if_pos hkU]
      refine ⟨q1, q2, q3', q4, ?_, ?_, ?_, ?_, ?_⟩ <;> (simp only [wI_at]; rw [if_neg (by omega), if_neg (by omega), if_neg (by omega), if_neg (by omega), if_neg (by omega), if_neg (by omega)]) <;> assumption
    · have hkk : k = U := by omega
      subst hkk
      rw [if_pos (Nat.le_refl k), if_neg (show ¬ k + 1 ≤ k by omega), if_neg hkU, if_pos (Nat.le_refl k), e1, e2]
      have q3' : DM T (3 + k) D mv σ2 := a3 T D mv hT dm
      refine ⟨hm, oD, q3', hb, ?_, ?_, ?_, ?_, ?_⟩ <;> simp [wI_at]
theorem rem_keep {b : Bool} {T D : zT} {mv : Int32} {σc σm : zS} (h : Vx b T D mv σc σm) {m : Nat} (hm : m < T 4 2) :
    ∃ σc1 σm1, f_X9_remember 700 (nI m) σc = some σc1 ∧ f_X12_keepNow σm = some σm1 ∧ Fc b [4] σc σc1 ∧ Fm [0, 10, 4] σm σm1 ∧ (∀ D' mv', dayBut T D D' m → VU T D' mv' σc1 σm1) := by
  have hT := h.oT
  obtain ⟨U, E, M, a, u1, u2, u3, u4, u5, u6⟩ := h.2.2.2.2.1
  unfold f_X9_remember f_X12_keepNow
  rw [u2, u3]
  by_cases hU : U < 20
  · rw [if_pos (show nI U < (20 : Int32) from nI_lt (b := 20) hU (by omega)), if_neg (show ¬ nI U = (20 : Int32) by show ¬ _ = nI 20; rw [nI_eq (by omega) (by omega)]; omega)]
    exact push hT h.oD h.dc h.dm ⟨u1, u2, u3, u6⟩ hU u4 u5 hm
  · have : U = 20 := by omega
    subst this
    rw [if_neg (show ¬ nI 20 < (20 : Int32) by decide), if_pos (show nI 20 = (20 : Int32) from rfl)]
    obtain ⟨σ1, a1, a2, a3, a4⟩ := c_drop (b := b) σc
    obtain ⟨σ2, b1, b2, b3, b4⟩ := m_dropL (E := E) (M := M) hT 19 1 FU σm (by omega) (by omega) (by unfold FU; omega) (fun i hi => by omega) (fun i hi1 hi2 => (u6 i hi2).2.2.1)
    replace b1 : f_X12_keepNow_11 FU 1 σm = _ := b1
    rw [a1, bs, b1]
    have g46 : σ2.1 5000 46 - 1 = nI 19 := by rw [b3, u3]; rfl
    rw [g46]
    have G1 : Fm [0, 10, 4] σm (wI σ2 5000 46 (nI 19)) := b2.wI rfl
    have dc1 := DC.mono (.inl ⟨rfl, rfl⟩) h.dc a2 rfl
    have dm1 := DM.mono hT h.dm G1 rfl
    obtain ⟨σc1, σm1, c1, c2, c3, c4, c5⟩ := push (b := b) (U := 19) (E := fun k => E (k + 1)) (M := fun k => M (k + 1)) (a := fun k => a (k + 1)) hT h.oD dc1 dm1 ⟨by omega, a3, rfl, by
      intro k hk
      obtain ⟨q1, q2, q3, q4, q5, q6, q7, q8, q9⟩ := u6 (k + 1) (by omega)
      have q3' : DM T (3 + k) (E (k + 1)) (M (k + 1)) σ2 := b4 k hk
      refine ⟨q1, q2, q3', q4, ?_, ?_, ?_, ?_, ?_⟩
      · rw [a4 _ _ (by omega) (by omega) hk]; exact q5
      · rw [a4 _ _ (by omega) (by omega) hk]; exact q6
      · rw [a4 _ _ (by omega) (by omega) hk]; exact q7
      · rw [a4 _ _ (by omega) (by omega) hk]; exact q8
      · rw [a4 _ _ (by omega) (by omega) hk]; exact q9⟩ (by omega) u4 u5 hm
    exact ⟨σc1, σm1, c1, c2, a2.tr c3, G1.tr c4, c5⟩
