/-! The pure part: text. What is told is taken over; a day begins -/
def hfs : List (Nat × Nat) → Nat → Nat
  | [], _ => 0
  | x :: l, c => if c = x.1 then x.2 else hfs l c
/-- the halves of the rows in the list are copied down -/
def AH (l : List (Nat × Nat)) (μ μ' : zS) : Prop := μ'.2 = μ.2 ∧ ∀ c k, μ'.1 c k = if k < hfs l c then μ.1 c (hfs l c + k) else μ.1 c k
theorem AH.rf {μ : zS} : AH [] μ μ := ⟨rfl, fun c k => by rw [if_neg (show ¬ k < hfs [] c from Nat.not_lt_zero k)]⟩
theorem m_half7 {a n h : Nat} (hn : n = 2 * h) (hh : h < 1000) : ∀ (j i fu : Nat) (μ : zS), i + j = h → j < fu →
    ∃ μ', f_X12_half_7 a n fu (nI h) (nI i) μ = some μ' ∧ μ'.2 = μ.2 ∧ (∀ k, μ'.1 a k = if i ≤ k ∧ k < h then μ.1 a (h + k) else μ.1 a k) ∧ (∀ c k, c ≠ a → μ'.1 c k = μ.1 c k)
  | j, i, 0, μ, hj, hf => by omega
  | 0, i, fu + 1, μ, hj, hf => by
    unfold f_X12_half_7
    rw [if_pos (nI_le (by omega) (by omega))]
    exact ⟨μ, rfl, rfl, fun k => by rw [if_neg (by omega)], fun _ _ _ => rfl⟩
  | j + 1, i, fu + 1, μ, hj, hf => by
    unfold f_X12_half_7
    rw [if_neg (nI_ge (by omega) (by omega)), nI_add, rd_nI (by omega) (by omega), bs, wr_nI (by omega) (by omega), bs, nI_1]
    obtain ⟨μ', e, e2, q1, q2⟩ := m_half7 hn hh j (i + 1) fu (wI μ a i (μ.1 a (h + i))) (by omega) (by omega)
    refine ⟨μ', e, e2, fun k => ?_, fun c k hc => ?_⟩
    · rw [q1 k, wI_at, wI_at]
      by_cases ek : k = i
      · rw [if_neg (by omega), if_pos ⟨rfl, ek⟩, if_pos (by omega), ek]
      · by_cases e3 : i + 1 ≤ k ∧ k < h
        · rw [if_pos e3, if_neg (by omega), if_pos (by omega)]
        · rw [if_neg e3, if_neg (by omega), if_neg (by omega)]
    · rw [q2 c k hc, wI_at, if_neg (by omega)]
theorem AH.step {l : List (Nat × Nat)} {a n h : Nat} {μ μ1 : zS} (H : AH l μ μ1) (ha : hfs l a = 0) (hn : n = 2 * h) (hh : h < 1000) (he : nI n / (2 : Int32) = nI h) : ∃ μ2, f_X12_half a n μ1 = some μ2 ∧ AH ((a, h) :: l) μ μ2 := by
  unfold f_X12_half
  rw [lts, he]
  obtain ⟨μ', e, e2, q1, q2⟩ := m_half7 (a := a) hn hh h 0 FU μ1 (by omega) (by unfold FU; omega)
  refine ⟨μ', e, e2.trans H.1, fun c k => ?_⟩
  have H' : ∀ c k, μ1.1 c k = if k < hfs l c then μ.1 c (hfs l c + k) else μ.1 c k := H.2
  show _ = if k < (if c = a then h else hfs l c) then μ.1 c ((if c = a then h else hfs l c) + k) else μ.1 c k
  by_cases hc : c = a
  · subst hc
    rw [if_pos rfl, q1 k, H' c (h + k), H' c k, ha, if_neg (Nat.not_lt_zero _), if_neg (Nat.not_lt_zero _)]
    by_cases hk : k < h
    · rw [if_pos ⟨by omega, hk⟩, if_pos hk]
    · rw [if_neg (by omega), if_neg hk]
  · rw [if_neg hc, q2 c k hc]; exact H' c k
/-- the first day -/
def D00 (T : zT) : zT := fun a k => if a = 1 then 16 * T 10 k + 4 * T 11 k else if a = 2 then T 13 k else 0
theorem okD00 {T : zT} (hT : okT T) : okD T (D00 T) := by
  refine ⟨Nat.zero_le _, fun m hm => ?_, fun k hk => ?_⟩
  · have := hT.2.2.1 m hm
    show 16 * T 10 m + 4 * T 11 m < 16 * T 4 0 ∧ T 13 m ≤ 99 ∧ 0 < 16
    omega
  · show (0 : Nat) < 4
    omega
theorem m_beg77 : ∀ (j i fu : Nat) (μ : zS), i + j = 12 → j < fu → ∃ μ', f_X12_begins_77 fu (nI i) μ = some μ' ∧ μ'.2 = μ.2 ∧ (∀ k, i ≤ k → k < 12 → μ'.1 5045 k = 0) ∧ (∀ c k, ¬ (c = 5045 ∧ i ≤ k ∧ k < 12) → μ'.1 c k = μ.1 c k)
  | j, i, 0, μ, hj, hf => by omega
  | 0, i, fu + 1, μ, hj, hf => by
    unfold f_X12_begins_77
    rw [if_pos (show (12 : Int32) ≤ nI i from nI_le (a := 12) (by omega) (by omega))]
    exact ⟨μ, rfl, rfl, fun k h1 h2 => by omega, fun _ _ _ => rfl⟩
  | j + 1, i, fu + 1, μ, hj, hf => by
    unfold f_X12_begins_77
    rw [if_neg (show ¬ (12 : Int32) ≤ nI i from nI_ge (b := 12) (by omega) (by omega)), wr_nI (by omega) (by omega), bs, nI_1]
    obtain ⟨μ', e, e2, q1, q2⟩ := m_beg77 j (i + 1) fu (wI μ 5045 i 0) (by omega) (by omega)
    refine ⟨μ', e, e2, fun k h1 h2 => ?_, fun c k h => ?_⟩
    · by_cases ek : k = i
      · subst ek; rw [q2 _ _ (by omega), wI_self]
      · exact q1 k (by omega) h2
    · rw [q2 c k (by omega), wI_at, if_neg (by omega)]
theorem m_beg29 {T : zT} (hT : okT T) : ∀ (j i fu : Nat) (μ : zS), i + j = T 4 2 → j < fu → RM T μ → ∃ μ', f_X12_begins_29 fu (nI i) μ = some μ' ∧ Fm [3] μ μ' ∧ μ'.1 5039 0 = μ.1 5039 0 ∧ μ'.1 5041 0 = μ.1 5041 0 ∧
    (∀ k, i ≤ k → k < T 4 2 → μ'.1 5042 k = nI (D00 T 1 k) ∧ μ'.1 5043 k = nI (D00 T 2 k) ∧ μ'.1 5044 k = 0) ∧ (∀ k, k < i → μ'.1 5042 k = μ.1 5042 k ∧ μ'.1 5043 k = μ.1 5043 k ∧ μ'.1 5044 k = μ.1 5044 k) ∧ (∀ k, k < 12 → μ'.1 5045 k = 0)
  | j, i, 0, μ, hj, hf, hR => by omega
  | 0, i, fu + 1, μ, hj, hf, hR => by
    have o := hT.1
    unfold f_X12_begins_29
    rw [rd_lit (by decide) (by decide), bs, row0 hR.1 (k := 2) (by decide), if_pos (nI_le (by omega) (by omega))]
    obtain ⟨μ', e, e2, q1, q2⟩ := m_beg77 12 0 FU μ (by omega) (by unfold FU; omega)
    refine ⟨μ', e, ⟨by rw [e2], fun a p z => q2 a p ?_⟩, q2 _ _ (by omega), q2 _ _ (by omega), fun k h1 h2 => by omega, fun k hk => ⟨q2 _ _ (by omega), q2 _ _ (by omega), q2 _ _ (by omega)⟩, fun k hk => q1 k (by omega) hk⟩
    rintro ⟨rfl, h1, h2⟩
    have z' : [3].elem (zm 5045 p) = false := z
    have e := zmE (s := 0) (k := p) (by omega)
    rw [Nat.mul_zero, Nat.zero_add] at e
    rw [e] at z'; cases z'
  | j + 1, i, fu + 1, μ, hj, hf, hR => by
    have o := hT.1
    have hi : i < T 4 2 := by omega
    unfold f_X12_begins_29
    rw [rd_lit (by decide) (by decide), bs, row0 hR.1 (k := 2) (by decide), if_neg (nI_ge (by omega) (by omega)), m_fstS hT hR hi, bs, wr_nI (by omega) (by omega), bs, rd_nI (by omega) (by omega), bs, wr_nI (by omega) (by omega), bs, wr_nI (by omega) (by omega), bs, nI_1]
    have e13 : (wI μ 5042 i (nI (fst T i))).1 5013 i = nI (T 13 i) := by rw [wI_at, if_neg (by omega)]; exact row0 hR.2.2.1.2.2.2.2 hi
    rw [e13]
    have z5 : ∀ a, a = 5042 ∨ a = 5043 ∨ a = 5044 → [3].elem (zm a i) = true := fun a ha => by
      have e := zmC (s := 0) (k := i) (by omega) ha
      rw [Nat.mul_zero, Nat.zero_add] at e
      rw [e]; rfl
    have F0 : Fm [3] μ (wI (wI (wI μ 5042 i (nI (fst T i))) 5043 i (nI (T 13 i))) 5044 i 0) := ((Fm.rf.wI (z5 _ (by omega))).wI (z5 _ (by omega))).wI (z5 _ (by omega))
    obtain ⟨μ', e, F, a1, a2, q1, q2, q3⟩ := m_beg29 hT j (i + 1) fu _ (by omega) (by omega) (hR.mono hT F0 rfl)
    refine ⟨μ', e, F0.tr F, a1, a2, fun k h1 h2 => ?_, fun k hk => ?_, q3⟩
    · by_cases ek : k = i
      · subst ek
        have := q2 k (by omega)
        refine ⟨this.1.trans ?_, this.2.1.trans ?_, this.2.2.trans ?_⟩
        · rw [wI_at, if_neg (by omega), wI_at, if_neg (by omega), wI_self]; rfl
        · rw [wI_at, if_neg (by omega), wI_self]; rfl
        · rw [wI_self]
      · exact q1 k (by omega) h2
    · have := q2 k (by omega)
      refine ⟨this.1.trans ?_, this.2.1.trans ?_, this.2.2.trans ?_⟩
      · rw [wI_at, if_neg (by omega), wI_at, if_neg (by omega), wI_at, if_neg (by omega)]
      · rw [wI_at, if_neg (by omega), wI_at, if_neg (by omega), wI_at, if_neg (by omega)]
      · rw [wI_at, if_neg (by omega), wI_at, if_neg (by omega), wI_at, if_neg (by omega)]
theorem m_begins {T : zT} {μ : zS} (hT : okT T) (hR : RM T μ) : ∃ μ', f_X12_begins μ = some μ' ∧ Fm [3, 10] μ μ' ∧ DM T 0 (D00 T) 0 μ' := by
  have o := hT.1
  unfold f_X12_begins
  rw [wr_lit (by decide) (by decide), bs, rd_lit (by decide) (by decide), bs, wr_lit (by decide) (by decide), bs, wr_lit (by decide) (by decide), bs]
  have F0 : ∀ x : Int32, Fm [3, 10] μ (wI (wI (wI μ 5039 0 0) 5040 0 x) 5041 0 0) := fun x => ((Fm.rf.wI rfl).wI rfl).wI rfl
  obtain ⟨μ', e, F, a1, a2, q1, q2, q3⟩ := m_beg29 hT (T 4 2) 0 FU _ (by omega) (by unfold FU; omega) (hR.mono hT (F0 ((wI μ 5039 0 0).1 5004 6)) rfl)
  refine ⟨μ', e, (F0 _).tr (F.mono rfl), ?_⟩
  refine ⟨a1.trans rfl, a2.trans rfl, fun k hk => ?_, fun k hk => ?_, fun k hk => ?_, fun k hk => ?_⟩
  · rw [Nat.mul_zero, Nat.zero_add]; exact (q1 k (by omega) hk).1
  · rw [Nat.mul_zero, Nat.zero_add]; exact (q1 k (by omega) hk).2.1
  · rw [Nat.mul_zero, Nat.zero_add]; exact (q1 k (by omega) hk).2.2
  · rw [Nat.mul_zero, Nat.zero_add]; exact q3 k (by omega)
theorem c_begin {d : Bool} {T : zT} {σ : zS} (hT : okT T) (hR : RC d T σ) : ∃ σ', f_X0_begin 700 d σ = some σ' ∧ Fc d [3] σ σ' ∧ DC T 700 (D00 T) 0 σ' := by
  have o := hT.1
  have td := tvd (d := d)
  have ze : ∀ i k, i < 100 → List.elem (zc d (700 + i) k) [3] = true := fun i k hi => by rw [zcD (.inl ⟨rfl, rfl⟩) i k hi]; rfl
  unfold f_X0_begin
  rw [lts, lts, cp_5, bs, cp_5, bs]
  have r9 := hR.2.2.2.1.2.1
  have r11 := hR.2.2.2.1.2.2.2
  have F0 : Fc d [3] σ (wA (wA (wI (wI σ 700 0 0) 700 1 0) (700 + 3) (va_cpy ((wI (wI σ 700 0 0) 700 1 0).1 (tv d + 9)) ((wI (wI σ 700 0 0) 700 1 0).1 (700 + 3)) 0 0 5)) (700 + 4) (va_cpy ((wA (wI (wI σ 700 0 0) 700 1 0) (700 + 3) (va_cpy ((wI (wI σ 700 0 0) 700 1 0).1 (tv d + 9)) ((wI (wI σ 700 0 0) 700 1 0).1 (700 + 3)) 0 0 5)).1 (tv d + 11)) ((wA (wI (wI σ 700 0 0) 700 1 0) (700 + 3) (va_cpy ((wI (wI σ 700 0 0) 700 1 0).1 (tv d + 9)) ((wI (wI σ 700 0 0) 700 1 0).1 (700 + 3)) 0 0 5)).1 (700 + 4)) 0 0 5)) :=
    (((Fc.rf.wI (ze 0 0 (by omega))).wI (ze 0 1 (by omega))).wA (fun k => ze 3 k (by omega))).wA (fun k => ze 4 k (by omega))
  have v0 : ∀ k, k < 5 → (wA (wA (wI (wI σ 700 0 0) 700 1 0) (700 + 3) (va_cpy ((wI (wI σ 700 0 0) 700 1 0).1 (tv d + 9)) ((wI (wI σ 700 0 0) 700 1 0).1 (700 + 3)) 0 0 5)) (700 + 4) (va_cpy ((wA (wI (wI σ 700 0 0) 700 1 0) (700 + 3) (va_cpy ((wI (wI σ 700 0 0) 700 1 0).1 (tv d + 9)) ((wI (wI σ 700 0 0) 700 1 0).1 (700 + 3)) 0 0 5)).1 (tv d + 11)) ((wA (wI (wI σ 700 0 0) 700 1 0) (700 + 3) (va_cpy ((wI (wI σ 700 0 0) 700 1 0).1 (tv d + 9)) ((wI (wI σ 700 0 0) 700 1 0).1 (700 + 3)) 0 0 5)).1 (700 + 4)) 0 0 5)).1 703 k = σ.1 (tv d + 9) k ∧ (wA (wA (wI (wI σ 700 0 0) 700 1 0) (700 + 3) (va_cpy ((wI (wI σ 700 0 0) 700 1 0).1 (tv d + 9)) ((wI (wI σ 700 0 0) 700 1 0).1 (700 + 3)) 0 0 5)) (700 + 4) (va_cpy ((wA (wI (wI σ 700 0 0) 700 1 0) (700 + 3) (va_cpy ((wI (wI σ 700 0 0) 700 1 0).1 (tv d + 9)) ((wI (wI σ 700 0 0) 700 1 0).1 (700 + 3)) 0 0 5)).1 (tv d + 11)) ((wA (wI (wI σ 700 0 0) 700 1 0) (700 + 3) (va_cpy ((wI (wI σ 700 0 0) 700 1 0).1 (tv d + 9)) ((wI (wI σ 700 0 0) 700 1 0).1 (700 + 3)) 0 0 5)).1 (700 + 4)) 0 0 5)).1 704 k = σ.1 (tv d + 11) k := by
    intro k hk
    constructor
    · rw [wA_at, if_neg (by omega), wA_at, if_pos rfl, cpy0 hk, wI_at, if_neg (by omega), wI_at, if_neg (by omega)]
    · rw [wA_at, if_pos rfl, cpy0 hk, wA_at, if_neg (by omega), wI_at, if_neg (by omega), wI_at, if_neg (by omega)]
  have v1 : ∀ k, k = 0 ∨ k = 1 → (wA (wA (wI (wI σ 700 0 0) 700 1 0) (700 + 3) (va_cpy ((wI (wI σ 700 0 0) 700 1 0).1 (tv d + 9)) ((wI (wI σ 700 0 0) 700 1 0).1 (700 + 3)) 0 0 5)) (700 + 4) (va_cpy ((wA (wI (wI σ 700 0 0) 700 1 0) (700 + 3) (va_cpy ((wI (wI σ 700 0 0) 700 1 0).1 (tv d + 9)) ((wI (wI σ 700 0 0) 700 1 0).1 (700 + 3)) 0 0 5)).1 (tv d + 11)) ((wA (wI (wI σ 700 0 0) 700 1 0) (700 + 3) (va_cpy ((wI (wI σ 700 0 0) 700 1 0).1 (tv d + 9)) ((wI (wI σ 700 0 0) 700 1 0).1 (700 + 3)) 0 0 5)).1 (700 + 4)) 0 0 5)).1 700 k = 0 := by
    intro k hk
    rw [wA_at, if_neg (by omega), wA_at, if_neg (by omega)]
    rcases hk with rfl | rfl <;> rfl
  generalize (wA (wA (wI (wI σ 700 0 0) 700 1 0) (700 + 3) (va_cpy ((wI (wI σ 700 0 0) 700 1 0).1 (tv d + 9)) ((wI (wI σ 700 0 0) 700 1 0).1 (700 + 3)) 0 0 5)) (700 + 4) (va_cpy ((wA (wI (wI σ 700 0 0) 700 1 0) (700 + 3) (va_cpy ((wI (wI σ 700 0 0) 700 1 0).1 (tv d + 9)) ((wI (wI σ 700 0 0) 700 1 0).1 (700 + 3)) 0 0 5)).1 (tv d + 11)) ((wA (wI (wI σ 700 0 0) 700 1 0) (700 + 3) (va_cpy ((wI (wI σ 700 0 0) 700 1 0).1 (tv d + 9)) ((wI (wI σ 700 0 0) 700 1 0).1 (700 + 3)) 0 0 5)).1 (700 + 4)) 0 0 5)) = σ1 at *
  obtain ⟨σ2, e2, b2', w2, g2⟩ := c_fillA σ1 (a := 700 + 5) (n := 5) (x := 0) (by omega)
  obtain ⟨σ3, e3, b3, w3, g3⟩ := c_fillA σ2 (a := 700 + 6) (n := 12) (x := 0) (by omega)
  rw [e2, bs, e3, bs]
  have ff : ∀ {s s' : zS} {a : Nat}, s'.2 = s.2 → (∀ c k, c ≠ a → s'.1 c k = s.1 c k) → (∀ k, [3].elem (zc d a k) = true) → Fc d [3] s s' := fun {s s' a} h1 h2 h3 => ⟨by rw [h1], fun i p z => by
    by_cases h : i = a
    · have z' : [3].elem (zc d i p) = false := z
      rw [h, h3 p] at z'; cases z'
    · exact h2 i p h⟩
  refine ⟨σ3, rfl, (F0.tr (ff b2' g2 (fun k => ze 5 k (by omega)))).tr (ff b3 g3 (fun k => ze 6 k (by omega))), ?_, ?_, fun k hk => ?_, fun k hk => ?_, fun k hk => ?_, fun k hk => ?_⟩
  · rw [g3 _ _ (by omega), g2 _ _ (by omega)]; exact v1 0 (by omega)
  · rw [g3 _ _ (by omega), g2 _ _ (by omega)]; exact v1 1 (by omega)
  · rw [Nat.zero_add, g3 _ _ (by omega), g2 _ _ (by omega)]
    exact (v0 k (by omega)).1.trans (row0 r9 hk)
  · rw [Nat.zero_add, g3 _ _ (by omega), g2 _ _ (by omega)]
    exact (v0 k (by omega)).2.trans (row0 r11 hk)
  · rw [Nat.zero_add, g3 _ _ (by omega)]; exact w2 k (by omega)
  · rw [Nat.zero_add]; exact w3 k (by omega)
