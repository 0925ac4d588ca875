/-! The pure part: text. Words of the reference -/
abbrev wMt (f : Nat → Nat) (p e n : Nat) : Prop := p + wLn n = e ∧ ∀ i, i < wLn n → f (p + i) = wCh n i
section
variable {f : Nat → Nat} {N p e : Nat} {σ : zS}
theorem m_w97 (r4 : Int32 → Int32 → zS → Option Int32) {n : Nat} (hn : n < 35) : ∀ (j i fu : Nat), i + j = wLn n → j < fu → f_X12_word_97 r4 fu (nI n) (nI (wSt n + i)) σ = r4 (nI (n + 1)) (nI (wSt (n + 1))) σ
  | j, i, 0, hj, hf => by omega
  | 0, i, fu + 1, hj, hf => by
    have t := wTab0 n hn
    have c := t.2.2.2 i (by omega) (by omega)
    unfold f_X12_word_97
    rw [chK_eq, c.1, bs, if_pos (show nI (wCh n i) = 32 by rw [c.2.1.mpr (by omega)]; rfl), nI_1, nI_1, show wSt n + i + 1 = wSt (n + 1) by show _ = wSt n + wLn n + 1; omega]
  | j + 1, i, fu + 1, hj, hf => by
    have t := wTab0 n hn
    have c := t.2.2.2 i (by omega) (by omega)
    have hb := wCh_lt n hn i (by omega)
    unfold f_X12_word_97
    rw [chK_eq, c.1, bs, if_neg (show ¬ nI (wCh n i) = 32 from fun z => by
      have := c.2.1.mp ((eq32 _ hb).mp z); omega), nI_1]
    exact m_w97 r4 hn j (i + 1) fu (by omega) (by omega)
theorem m_w15 (h : MT f N e σ) (h25 : σ.1 5000 25 = nI p) (hpe : p ≤ e) (r4 : Int32 → Int32 → zS → Option Int32) {n : Nat} (hn : n < 35) : ∀ (j i fu : Nat), i + j = wLn n → j < fu → (∀ q, q < i → p + q < e ∧ f (p + q) = wCh n q) →
    f_X12_word_15 r4 fu (nI n) (nI (wSt n)) (nI i) σ = if wMt f p e n then some (nI n) else r4 (nI (n + 1)) (nI (wSt (n + 1))) σ := by
  intro j
  have hN := h.1
  have heN := h.2.2.1
  have t := wTab0 n hn
  have skip : f_X12_word_97 r4 FU (nI n) (nI (wSt n)) σ = r4 (nI (n + 1)) (nI (wSt (n + 1))) σ := m_w97 r4 hn (wLn n) 0 FU (by omega) (by unfold FU; omega)
  induction j with
  | zero =>
    intro i fu hj hf hq
    obtain ⟨fu, rfl⟩ : ∃ k, fu = k + 1 := ⟨fu - 1, by omega⟩
    have c := t.2.2.2 i (by omega) (by omega)
    unfold f_X12_word_15
    rw [nI_add, chK_eq, c.1, bs, if_pos (show nI (wCh n i) = 32 by rw [c.2.1.mpr (by omega)]; rfl)]
    unfold f_X12_word_69
    rw [nI_add, chK_eq, c.1, bs, if_pos (show nI (wCh n i) = 32 by rw [c.2.1.mpr (by omega)]; rfl), h25, h.2.2.2.2.1, nI_add, skip]
    by_cases hm : p + i = e
    · rw [if_pos (by rw [hm]), if_pos (show wMt f p e n from ⟨by omega, fun q hq' => (hq q (by omega)).2⟩)]
    · rw [if_neg (fun z => hm ((nI_eq (by omega) (by omega)).mp z)), if_neg (show ¬ wMt f p e n from fun z => hm (by have := z.1; omega))]
  | succ j ih =>
    intro i fu hj hf hq
    obtain ⟨fu, rfl⟩ : ∃ k, fu = k + 1 := ⟨fu - 1, by omega⟩
    have c := t.2.2.2 i (by omega) (by omega)
    have hb := wCh_lt n hn i (by omega)
    have n32 : ¬ nI (wCh n i) = 32 := fun z => by
      have := c.2.1.mp ((eq32 _ hb).mp z); omega
    have no69 : (¬ wMt f p e n) → f_X12_word_69 r4 (nI n) (nI (wSt n)) (nI i) σ = if wMt f p e n then some (nI n) else r4 (nI (n + 1)) (nI (wSt (n + 1))) σ := by
      intro hm
      unfold f_X12_word_69
      rw [nI_add, chK_eq, c.1, bs, if_neg n32, skip, if_neg hm]
    unfold f_X12_word_15
    rw [nI_add, chK_eq, c.1, bs, if_neg n32, h25, h.2.2.2.2.1, nI_add]
    by_cases hpi : e ≤ p + i
    · rw [if_pos (nI_le hpi (by omega))]
      exact no69 (fun z => by have := z.1; omega)
    · rw [if_neg (nI_ge (by omega) (by omega)), h.rd (by omega), bs, bs]
      by_cases hc : f (p + i) = wCh n i
      · rw [if_pos (by rw [hc]), nI_1]
        exact ih (i + 1) fu (by omega) (by omega) (fun q hq' => by
          by_cases hqi : q = i
          · rw [hqi]; exact ⟨by omega, hc⟩
          · exact hq q (by omega))
      · have := h.2.1 (p + i)
        rw [if_neg (fun z => hc ((nI_eq (by omega) (by omega)).mp z))]
        exact no69 (fun z => hc (z.2 i (by omega)))
def fstM (f : Nat → Nat) (p e : Nat) : Nat → Nat → Int32
  | 0, _ => -1
  | j + 1, n => if wMt f p e n then nI n else fstM f p e j (n + 1)
theorem m_w4 (h : MT f N e σ) (h25 : σ.1 5000 25 = nI p) (hpe : p ≤ e) : ∀ (j n fu : Nat), n + j = 35 → j < fu → f_X12_word_4 fu (nI n) (nI (wSt n)) σ = some (fstM f p e j n)
  | j, n, 0, hj, hf => by omega
  | 0, n, fu + 1, hj, hf => by
    obtain rfl : n = 35 := by omega
    unfold f_X12_word_4
    rw [wLen0, wSt35, if_pos (nI_le (by omega) (by omega))]; rfl
  | j + 1, n, fu + 1, hj, hf => by
    have t := wTab0 n (by omega)
    unfold f_X12_word_4 fstM
    rw [wLen0, if_neg (nI_ge (by omega) (by omega))]
    have := m_w15 h h25 hpe (f_X12_word_4 fu) (n := n) (by omega) (wLn n) 0 FU (by omega) (by unfold FU; omega) (fun q hq => by omega)
    rw [show (0 : Int32) = nI 0 from rfl, this, m_w4 h h25 hpe j (n + 1) fu (by omega) (by omega)]
    split <;> rfl
theorem m_word (h : MT f N e σ) (h25 : σ.1 5000 25 = nI p) (hpe : p ≤ e) : f_X12_word σ = some (fstM f p e 35 0) := m_w4 h h25 hpe 35 0 FU (by omega) (by unfold FU; omega)
end
/-- packed words -/
def wDg (n i : Nat) : Nat := if i < wLn n then wCh n i - 96 else 0
def wPk (n : Nat) : Nat := hx (wDg n) 6
theorem hx_inj {g g' : Nat → Nat} (hg : ∀ i, g i < 32) (hg' : ∀ i, g' i < 32) : ∀ k, hx g k = hx g' k → ∀ i, i < k → g i = g' i
  | 0, h, i, hi => by omega
  | k + 1, h, i, hi => by
    have h1 := hg k
    have h2 := hg' k
    have h3 : hx g k * 32 + g k = hx g' k * 32 + g' k := h
    have h4 : hx g k = hx g' k := by omega
    by_cases e : i = k
    · rw [e]; omega
    · exact hx_inj hg hg' k h4 i (by omega)
theorem hx_ext {g g' : Nat → Nat} : ∀ k, (∀ i, i < k → g i = g' i) → hx g k = hx g' k
  | 0, h => rfl
  | k + 1, h => by
    show hx g k * 32 + g k = hx g' k * 32 + g' k
    rw [hx_ext k (fun i hi => h i (by omega)), h k (by omega)]
theorem wDg_lt {n : Nat} (hn : n < 35) (i : Nat) : wDg n i < 32 := by
  unfold wDg
  split
  · rename_i hi
    have t := wTab0 n hn
    have := let_sub ((t.2.2.2 i (by omega) (by omega)).2.2 hi)
    omega
  · omega
theorem wMt_iff {f : Nat → Nat} {p e n : Nat} (hn : n < 35) (hpe : p ≤ e) (h6 : e - p ≤ 6) (hl : ∀ q, p ≤ q → q < e → tkL (f q) = true) : wMt f p e n ↔ wPk n = hx (wdg f p e) 6 := by
  have t := wTab0 n hn
  constructor
  · intro h
    refine hx_ext 6 (fun i hi => ?_)
    unfold wDg wdg
    have := h.1
    by_cases h1 : i < wLn n
    · rw [if_pos h1, if_pos (by omega), h.2 i h1]
    · rw [if_neg h1, if_neg (by omega)]
  · intro h
    have hd := hx_inj (wDg_lt hn) (wdg_lt hl) 6 h
    have cmp : ∀ i, i < 6 → (i < wLn n ↔ p + i < e) := by
      intro i hi
      have := hd i hi
      unfold wDg wdg at this
      constructor
      · intro h1
        rw [if_pos h1] at this
        have l1 := let_sub ((t.2.2.2 i (by omega) (by omega)).2.2 h1)
        by_cases h2 : p + i < e
        · exact h2
        · rw [if_neg h2] at this; omega
      · intro h1
        rw [if_pos h1] at this
        have l1 := let_sub (hl (p + i) (by omega) h1)
        by_cases h2 : i < wLn n
        · exact h2
        · rw [if_neg h2] at this; omega
    have c5 : p + wLn n = e := by
      by_cases h1 : p + wLn n < e
      · have := (cmp (wLn n) (by omega)).mpr h1; omega
      · by_cases h2 : e < p + wLn n
        · have := (cmp (e - p) (by omega)).mp (by omega); omega
        · omega
    refine ⟨c5, fun i hi => ?_⟩
    have := hd i (by omega)
    unfold wDg wdg at this
    rw [if_pos hi, if_pos (by omega)] at this
    have l1 := let_sub ((t.2.2.2 i (by omega) (by omega)).2.2 hi)
    have l2 := let_sub (hl (p + i) (by omega) (by omega))
    omega
def fstP (X : Nat) : Nat → Nat → Int32
  | 0, _ => -1
  | j + 1, n => if wPk n = X then nI n else fstP X j (n + 1)
theorem fstM_P {f : Nat → Nat} {p e : Nat} (hpe : p ≤ e) (h6 : e - p ≤ 6) (hl : ∀ q, p ≤ q → q < e → tkL (f q) = true) : ∀ j n, n + j = 35 → fstM f p e j n = fstP (hx (wdg f p e) 6) j n
  | 0, n, h => rfl
  | j + 1, n, h => by
    unfold fstM fstP
    rw [fstM_P hpe h6 hl j (n + 1) (by omega)]
    by_cases hm : wMt f p e n
    · rw [if_pos hm, if_pos ((wMt_iff (by omega) hpe h6 hl).mp hm)]
    · rw [if_neg hm, if_neg (fun z => hm ((wMt_iff (by omega) hpe h6 hl).mpr z))]
theorem fstM_no {f : Nat → Nat} {p e : Nat} (h6 : 6 < e - p) : ∀ j n, n + j = 35 → fstM f p e j n = -1
  | 0, n, h => rfl
  | j + 1, n, h => by
    unfold fstM
    have t := wTab0 n (by omega)
    rw [if_neg (fun z => by have := z.1; omega), fstM_no h6 j (n + 1) (by omega)]
def w34 (w : Nat) : Nat := if w = 33 then 34 else w
theorem wLk0 : ∀ w, w < 34 → lkC (nI (wPk (w34 w))) 34 = nI w ∧ fstP (wPk (w34 w)) 35 0 = nI (w34 w) := by decide +kernel
theorem wLk1 : ∀ w, w < 34 → langW.getD w 0 = nI (wPk (w34 w)) ∧ wPk (w34 w) < 2 ^ 30 := by decide +kernel
theorem wLk2 : ∀ n, n < 35 → ∃ w, w < 34 ∧ wPk n = wPk (w34 w) := by decide +kernel
theorem lkC_no {X : Nat} (hX : X < 2 ^ 30) (h : ∀ w, w < 34 → wPk (w34 w) ≠ X) : ∀ j, j ≤ 34 → lkC (nI X) j = -1
  | 0, hj => rfl
  | j + 1, hj => by
    unfold lkC
    have t := wLk1 j (by omega)
    rw [t.1, if_neg (fun z => h j (by omega) ((nI_eq (by omega) (by omega)).mp z)), lkC_no hX h j (by omega)]
theorem fstP_no {X : Nat} (h : ∀ w, w < 34 → wPk (w34 w) ≠ X) : ∀ j n, n + j = 35 → fstP X j n = -1
  | 0, n, hj => rfl
  | j + 1, n, hj => by
    unfold fstP
    obtain ⟨w, hw, ew⟩ := wLk2 n (by omega)
    rw [if_neg (fun z => h w hw (ew ▸ z)), fstP_no h j (n + 1) (by omega)]
theorem wFind {X : Nat} (hX : X < 2 ^ 30) : (∃ w, w < 34 ∧ lkC (nI X) 34 = nI w ∧ fstP X 35 0 = nI (w34 w)) ∨ (lkC (nI X) 34 = -1 ∧ fstP X 35 0 = -1) := by
  by_cases h : ∃ w, w < 34 ∧ wPk (w34 w) = X
  · obtain ⟨w, hw, rfl⟩ := h
    exact .inl ⟨w, hw, wLk0 w hw⟩
  · have h' : ∀ w, w < 34 → wPk (w34 w) ≠ X := fun w hw z => h ⟨w, hw, z⟩
    exact .inr ⟨lkC_no hX h' 34 (by omega), fstP_no h' 35 0 (by omega)⟩
