/-! The pure part: all matched to cells -/
/-- the set from c on -/
theorem from_nb {s : Nat} : ∀ (j c : Nat), s / 2 ^ (nbN s j c) * 2 ^ (nbN s j c) = s / 2 ^ c * 2 ^ c
  | 0, c => rfl
  | j + 1, c => by
    rw [nbN_s]
    by_cases h : s / 2 ^ c % 2 = 1
    · rw [if_pos h]
    · rw [if_neg h, from_nb j (c + 1), Nat.pow_succ, ← Nat.div_div_eq_div_mul]
      have h0 : s / 2 ^ c % 2 = 0 := by omega
      have : s / 2 ^ c / 2 * 2 = s / 2 ^ c := by omega
      calc s / 2 ^ c / 2 * (2 ^ c * 2) = s / 2 ^ c / 2 * 2 * 2 ^ c := by rw [Nat.mul_comm (2 ^ c) 2, Nat.mul_assoc]
        _ = s / 2 ^ c * 2 ^ c := by rw [this]
theorem low_at {s p : Nat} (hs : s < 4096) (hp : p < 12) (hb : s / 2 ^ p % 2 = 1) : ∃ q, q < 2 ^ (11 - p) ∧ s / 2 ^ p * 2 ^ p = q * 2 ^ (p + 1) + 2 ^ p ∧ s / 2 ^ (p + 1) * 2 ^ (p + 1) = q * 2 ^ (p + 1) := by
  refine ⟨s / 2 ^ (p + 1), ?_, ?_, rfl⟩
  · apply Nat.div_lt_of_lt_mul
    rw [← Nat.pow_add, show p + 1 + (11 - p) = 12 by omega]; omega
  · rw [Nat.pow_succ, ← Nat.div_div_eq_div_mul]
    have : s / 2 ^ p = s / 2 ^ p / 2 * 2 + 1 := by omega
    calc s / 2 ^ p * 2 ^ p = (s / 2 ^ p / 2 * 2 + 1) * 2 ^ p := by rw [← this]
      _ = s / 2 ^ p / 2 * (2 ^ p * 2) + 2 ^ p := by rw [Nat.add_mul, Nat.one_mul, Nat.mul_comm (2 ^ p) 2, Nat.mul_assoc]
theorem c_kth {s n man : Nat} {σ : zS} (hs : s < 4096) (hn : n ≤ 12) (hsn : s < 2 ^ n) (hman : man < 100) : ∀ (i m c fu : Nat), m + i = man → i < fu → c ≤ n → i < pcN s (n - c) c →
    f_X11_match_37 fu (nI man) (nI (s / 2 ^ c * 2 ^ c)) (nI m) σ = some (nI (kth s n i c))
  | i, m, c, 0, hm, hf, hc, hp => by omega
  | 0, m, c, fu + 1, hm, hf, hc, hp => by
    unfold f_X11_match_37
    rw [if_pos (nI_le (by omega) (by omega))]
    rcases pc_nb s (n - c) c with ⟨a, e⟩ | ⟨a, e, f⟩
    · omega
    · obtain ⟨q, q1, q2, q3⟩ := low_at hs (p := nbN s (n - c) c) (by omega) e
      rw [← from_nb (n - c) c, q2]
      show some (f_J6_numberOfTrailingZeros_0f7a4 _ zz0) = _
      rw [(lowb _ (by omega) q q1).1]; rfl
  | i + 1, m, c, fu + 1, hm, hf, hc, hp => by
    unfold f_X11_match_37
    rw [if_neg (nI_ge (by omega) (by omega)), lts, nI_1]
    rcases pc_nb s (n - c) c with ⟨a, e⟩ | ⟨a, e, f⟩
    · omega
    · obtain ⟨q, q1, q2, q3⟩ := low_at hs (p := nbN s (n - c) c) (by omega) e
      rw [← from_nb (n - c) c, q2, (lowb _ (by omega) q q1).2, ← q3]
      have := c_kth (σ := σ) hs hn hsn hman i (m + 1) (nbN s (n - c) c + 1) fu (by omega) (by omega) (by omega) (by
        rw [f] at hp
        rw [show c + (n - c) - (nbN s (n - c) c + 1) = n - (nbN s (n - c) c + 1) by omega] at hp
        omega)
      exact this
theorem pc_hi {s n : Nat} (h : s < 2 ^ n) : ∀ j c, n ≤ c → pcN s j c = 0
  | 0, c, hc => rfl
  | j + 1, c, hc => by
    have : s / 2 ^ c = 0 := Nat.div_eq_of_lt (Nat.lt_of_lt_of_le h (Nat.pow_le_pow_right (by decide) hc))
    rw [pcN_s, this, pc_hi h j (c + 1) (by omega)]
theorem pc_add (s : Nat) : ∀ i j c, pcN s (i + j) c = pcN s i c + pcN s j (c + i)
  | 0, j, c => by rw [Nat.zero_add, Nat.add_zero]; show _ = 0 + _; rw [Nat.zero_add]
  | i + 1, j, c => by
    rw [show i + 1 + j = (i + j) + 1 by omega, pcN_s, pcN_s, pc_add s i j (c + 1), show c + 1 + i = c + (i + 1) by omega]; omega
theorem m_left {T : zT} {σ : zS} (hT : okT T) (hR : RM T σ) {s : Nat} (hs : s < 4096) : ∀ (j c a fu : Nat), c + j = T 4 0 ∨ (j = 0 ∧ T 4 0 ≤ c ∧ c < 100) → j < fu → f_X12_leftBehind_7 fu (nI s) (nI a) (nI c) σ = some (nI (a + pcN s j c))
  | j, c, a, 0, hj, hf => by omega
  | 0, c, a, fu + 1, hj, hf => by
    have o := hT.1
    unfold f_X12_leftBehind_7
    rw [rd_lit (by decide) (by decide), bs, row0 hR.1 (k := 0) (by decide), if_pos (nI_le (by omega) (by omega))]; rfl
  | j + 1, c, a, fu + 1, hj, hf => by
    have o := hT.1
    unfold f_X12_leftBehind_7
    rw [rd_lit (by decide) (by decide), bs, row0 hR.1 (k := 0) (by decide), if_neg (nI_ge (by omega) (by omega)), lts, bit12 s hs c (by omega), nI_add, nI_1, m_left hT hR hs j (c + 1) _ fu (by omega) (by omega), pcN_s, Nat.add_assoc]
/-- the reference's search for the next bit -/
theorem m_nb {T : zT} {σ : zS} (hT : okT T) (hR : RM T σ) {s : Nat} (hs : s < 4096) (r : Int32 → Int32 → Int32 → Int32 → zS → Option (Int32 × zS)) (x1 x4 : Int32) : ∀ (j c fu : Nat), c + j = T 4 0 → j < fu → f_X12_match_36 r fu x1 (nI s) (nI c - 1) x4 σ = f_X12_match_57 r x1 (nI s) (nI (nbN s j c)) x4 σ
  | j, c, 0, hj, hf => by omega
  | 0, c, fu + 1, hj, hf => by
    have o := hT.1
    unfold f_X12_match_36
    rw [rd_lit (by decide) (by decide), bs, row0 hR.1 (k := 0) (by decide), Int32.sub_add_cancel, if_pos (nI_le (by omega) (by omega))]; rfl
  | j + 1, c, fu + 1, hj, hf => by
    have o := hT.1
    unfold f_X12_match_36
    rw [rd_lit (by decide) (by decide), bs, row0 hR.1 (k := 0) (by decide), Int32.sub_add_cancel, if_neg (nI_ge (by omega) (by omega)), bit12 s hs c (by omega), nbN_s]
    by_cases h : s / 2 ^ c % 2 = 1
    · rw [h, if_neg (by decide), if_pos rfl]
    · have h0 : s / 2 ^ c % 2 = 0 := by omega
      rw [if_neg h, h0, if_pos (by decide)]
      have := m_nb hT hR hs r x1 x4 j (c + 1) fu (by omega) (by omega)
      rw [nI_pred] at this
      exact this
/-- behind the man there is no answer left -/
theorem m_past {T : zT} {σ : zS} (hT : okT T) (hR : RM T σ) {s man : Nat} (hs : s < 4096) : ∀ (j m c fu : Nat), m + j = T 4 2 → man < m → c ≤ T 4 0 → j < fu → f_X12_match_25 fu (nI man) (nI s) (nI c - 1) (nI m) σ = some (-2, σ)
  | j, m, c, 0, hj, hm, hc, hf => by omega
  | 0, m, c, fu + 1, hj, hm, hc, hf => by
    have o := hT.1
    unfold f_X12_match_25
    rw [rd_lit (by decide) (by decide), bs, row0 hR.1 (k := 2) (by decide), if_pos (nI_le (by omega) (by omega))]
  | j + 1, m, c, fu + 1, hj, hm, hc, hf => by
    have o := hT.1
    unfold f_X12_match_25
    rw [rd_lit (by decide) (by decide), bs, row0 hR.1 (k := 2) (by decide), if_neg (nI_ge (by omega) (by omega)), m_nb hT hR hs _ _ _ (T 4 0 - c) c FU (by omega) (by unfold FU; omega)]
    have rg := nbN_rng s (T 4 0 - c) c
    unfold f_X12_match_57 f_X12_match_98
    rw [rd_lit (by decide) (by decide), bs, row0 hR.1 (k := 0) (by decide)]
    by_cases hl : nbN s (T 4 0 - c) c < T 4 0
    · rw [if_pos (nI_lt hl (by omega)), if_neg (show ¬ nI m = nI man by rw [nI_eq (by omega) (by omega)]; omega), nI_1]
      have := m_past hT hR (man := man) hs j (m + 1) (nbN s (T 4 0 - c) c + 1) fu (by omega) (by omega) (by omega) (by omega)
      rw [nI_pred] at this; exact this
    · rw [if_neg (nI_nlt (by omega) (by omega))]
theorem m_match {T : zT} {σ : zS} (hT : okT T) (hR : RM T σ) {s man : Nat} (hs : s < 4096) (hman : man < T 4 2) : ∀ (i m c fu : Nat), m + i = man → c ≤ T 4 0 → T 4 2 - m < fu → f_X12_match_25 fu (nI man) (nI s) (nI c - 1) (nI m) σ = some (if pcN s (T 4 0 - c) c < T 4 2 - m then -2 else nI (kth s (T 4 0) i c), σ) := by
  have o := hT.1
  intro i
  induction i with
  | zero =>
    intro m c fu hm hc hf
    obtain ⟨fu, rfl⟩ : ∃ f, fu = f + 1 := ⟨fu - 1, by omega⟩
    have hmm : m = man := by omega
    subst hmm
    unfold f_X12_match_25
    rw [rd_lit (by decide) (by decide), bs, row0 hR.1 (k := 2) (by decide), if_neg (nI_ge (by omega) (by omega)), m_nb hT hR hs _ _ _ (T 4 0 - c) c FU (by omega) (by unfold FU; omega)]
    have rg := nbN_rng s (T 4 0 - c) c
    unfold f_X12_match_57 f_X12_match_98
    rw [rd_lit (by decide) (by decide), bs, row0 hR.1 (k := 0) (by decide), rd_lit (by decide) (by decide), row0 hR.1 (k := 2) (by decide)]
    rcases pc_nb s (T 4 0 - c) c with ⟨a, e⟩ | ⟨a, e, f⟩
    · rw [if_neg (nI_nlt (by omega) (by omega)), a, if_pos (by omega)]
    · rw [if_pos (nI_lt (by omega) (by omega)), if_pos rfl]
      have lf := m_left hT hR hs (T 4 0 - (nbN s (T 4 0 - c) c + 1)) (nbN s (T 4 0 - c) c + 1) 0 FU (by omega) (by unfold FU; omega)
      have lf2 : f_X12_leftBehind (nI s) (nI (nbN s (T 4 0 - c) c)) σ = some (nI (pcN s (T 4 0 - (nbN s (T 4 0 - c) c + 1)) (nbN s (T 4 0 - c) c + 1))) := by
        unfold f_X12_leftBehind
        rw [lts, nI_1]
        rw [Nat.zero_add] at lf
        exact lf
      rw [show c + (T 4 0 - c) - (nbN s (T 4 0 - c) c + 1) = T 4 0 - (nbN s (T 4 0 - c) c + 1) by omega] at f
      have pl := pcN_le s (T 4 0 - (nbN s (T 4 0 - c) c + 1)) (nbN s (T 4 0 - c) c + 1)
      rw [lf2, bs, bs, nI_m1lt (by omega) (by omega), pk_sub (by omega)]
      by_cases hlt : pcN s (T 4 0 - (nbN s (T 4 0 - c) c + 1)) (nbN s (T 4 0 - c) c + 1) < T 4 2 - 1 - m
      · rw [if_pos (nI_lt hlt (by omega)), if_pos (by omega), nI_1]
        have := m_past hT hR hs (man := m) (T 4 2 - (m + 1)) (m + 1) (nbN s (T 4 0 - c) c + 1) fu (by omega) (by omega) (by omega) (by omega)
        rw [nI_pred] at this; exact this
      · rw [if_neg (nI_nlt (by omega) (by omega)), if_neg (by omega)]; rfl
  | succ i ih =>
    intro m c fu hm hc hf
    obtain ⟨fu, rfl⟩ : ∃ f, fu = f + 1 := ⟨fu - 1, by omega⟩
    unfold f_X12_match_25
    rw [rd_lit (by decide) (by decide), bs, row0 hR.1 (k := 2) (by decide), if_neg (nI_ge (by omega) (by omega)), m_nb hT hR hs _ _ _ (T 4 0 - c) c FU (by omega) (by unfold FU; omega)]
    have rg := nbN_rng s (T 4 0 - c) c
    unfold f_X12_match_57 f_X12_match_98
    rw [rd_lit (by decide) (by decide), bs, row0 hR.1 (k := 0) (by decide)]
    rcases pc_nb s (T 4 0 - c) c with ⟨a, e⟩ | ⟨a, e, f⟩
    · rw [if_neg (nI_nlt (by omega) (by omega)), a, if_pos (by omega)]
    · rw [if_pos (nI_lt (by omega) (by omega)), if_neg (show ¬ nI m = nI man by rw [nI_eq (by omega) (by omega)]; omega), nI_1]
      rw [show c + (T 4 0 - c) - (nbN s (T 4 0 - c) c + 1) = T 4 0 - (nbN s (T 4 0 - c) c + 1) by omega] at f
      have := ih (m + 1) (nbN s (T 4 0 - c) c + 1) fu (by omega) (by omega) (by omega)
      rw [nI_pred] at this
      rw [this, f]
      have e2 : (1 + pcN s (T 4 0 - (nbN s (T 4 0 - c) c + 1)) (nbN s (T 4 0 - c) c + 1) < T 4 2 - m) ↔ (pcN s (T 4 0 - (nbN s (T 4 0 - c) c + 1)) (nbN s (T 4 0 - c) c + 1) < T 4 2 - (m + 1)) := by omega
      by_cases hx : pcN s (T 4 0 - (nbN s (T 4 0 - c) c + 1)) (nbN s (T 4 0 - c) c + 1) < T 4 2 - (m + 1)
      · rw [if_pos hx, if_pos (e2.mpr hx)]
      · rw [if_neg hx, if_neg (fun z => hx (e2.mp z))]; rfl
theorem o_match : op_match V := by
  intro x σc σm ⟨b, T, D, mv, h⟩
  have h0 := h.th 0
  have o := h.oT.1
  unfold f_X11_match f_X12_match
  rw [lts]
  rcases ix x (n := T 4 2) (by omega) with hx | ⟨m, hm, rfl⟩
  · rw [c_man0 h.cc.2.1 hx, m_man0 h0.cm.2.1 hx, bs]
    exact ⟨-1, σc, _, ⟨rfl, rfl⟩, rfl, h0.v⟩
  · rw [c_man1 h.oT h.cc.2.1 hm, m_man1 h0.oT h0.cm.2.1 hm, bs, if_neg n10, if_neg n10, c_stand h.cc, m_stand h0.cm, bs, bs, h.b0, h.cc.2.1.2.1.2.2.1]
    have lt := setN_lt (stF T (-1)) (T 4 0)
    generalize setN (stF T (-1)) (T 4 0) = s at lt
    have p12 : 2 ^ T 4 0 ≤ 2 ^ 12 := Nat.pow_le_pow_right (by decide) (by omega)
    have hs : s < 4096 := by omega
    have pcs : pcN s 12 0 = pcN s (T 4 0) 0 := by
      have := pc_add s (T 4 0) (12 - T 4 0) 0
      rw [show T 4 0 + (12 - T 4 0) = 12 by omega, pc_hi lt (12 - T 4 0) (0 + T 4 0) (by omega)] at this
      exact this
    have pl := pcN_le s (T 4 0) 0
    have mm := m_match h0.oT h0.cm.2.1 hs hm m 0 0 FU (by omega) (by omega) (by unfold FU; omega)
    replace mm : f_X12_match_25 FU (nI m) (nI s) (-1) 0 (wI σm 5000 0 0) = _ := mm
    rw [show f_J6_bitCount_0f7a4 (nI s) σc = nI (pcN s 12 0) from popc s hs, pcs, mm, Nat.sub_zero, Nat.sub_zero]
    by_cases hlt : pcN s (T 4 0) 0 < T 4 2
    · rw [if_neg (nI_ge hlt (by omega)), if_pos hlt]
      exact ⟨-2, σc, _, ⟨rfl, rfl⟩, rfl, h0.v⟩
    · rw [if_pos (nI_le (by omega) (by omega)), if_neg hlt]
      have ck := c_kth (σ := σc) hs (show T 4 0 ≤ 12 by omega) lt (show m < 100 by omega) m 0 0 FU (by omega) (by unfold FU; omega) (by omega) (by rw [Nat.sub_zero]; omega)
      rw [Nat.pow_zero, Nat.div_one, Nat.mul_one] at ck
      replace ck : f_X11_match_37 FU (nI m) (nI s) 0 σc = _ := ck
      rw [ck]
      exact ⟨_, σc, _, ⟨rfl, rfl⟩, rfl, h0.v⟩
