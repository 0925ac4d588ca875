/-! The pure part: lands, sides, bars, of both -/
theorem bs {α β : Type} (a : α) (f : α → Option β) : (some a).bind f = f a := rfl
theorem b2s {α β : Type} (a : α) (σ : zS) (f : α → zS → Option β) : b2 (some (a, σ)) f = f a σ := rfl
theorem lts {α β : Type} (x : α) (f : α → β) : lt x f = f x := rfl
theorem rd_lit {σ : zS} {a k n : Nat} (h : k < n) (hn : n < 2 ^ 31) : rdI σ a n (OfNat.ofNat k : Int32) = some (σ.1 a k) := rd_nI h hn
theorem wr_lit {σ : zS} {a k n : Nat} {v : Int32} (h : k < n) (hn : n < 2 ^ 31) : wrI σ a n (OfNat.ofNat k : Int32) v = some (wI σ a k v) := wr_nI h hn
theorem wrL_lit {σ : zS} {a k n : Nat} {v : Int64} (h : k < n) (hn : n < 2 ^ 31) : wrL σ a n (OfNat.ofNat k : Int32) v = some (wL σ a k v) := wrL_nI h hn
theorem rdL_lit {σ : zS} {a k n : Nat} (h : k < n) (hn : n < 2 ^ 31) : rdL σ a n (OfNat.ofNat k : Int32) = some (σ.2.1 a k) := rdL_nI h hn
def bI (b : Bool) : Int32 := if b then 1 else 0
/-- the land at a place (one more), 9 for none -/
def landQ (T : zT) (q : Nat) : Nat := if q = 0 then 9 else if T 4 0 < q then 9 else landR T (q - 1) (T 4 1)
def sideN (T : zT) (w : Int32) (m p : Nat) : Nat := (p + T 12 m + (if w = 2 then 1 else 0)) % 2
def barB (T : zT) (w : Int32) (s p : Nat) : Bool := !(decide (w = 1)) && !(decide (landQ T (plc s p) = 9)) && decide (T 8 (landQ T (plc s p)) / 2 ^ p % 2 = 1)
theorem landR_lt {T : zT} {c : Nat} : ∀ {n : Nat}, landR T c n = 9 ∨ landR T c n < n
  | 0 => .inl rfl
  | n + 1 => by
    unfold landR
    split
    · right; omega
    · rcases landR_lt (T := T) (c := c) (n := n) with h | h
      · exact .inl h
      · right; omega
theorem landQ_lt {T : zT} (hT : okT T) {q : Nat} : landQ T q = 9 ∨ landQ T q < T 4 1 := by
  unfold landQ; split
  · exact .inl rfl
  · split
    · exact .inl rfl
    · exact landR_lt
/-- modes -/
def MC (w u : Int32) (σ : zS) : Prop := σ.1 1000 1 = w ∧ σ.1 1000 2 = u
def MM (w u : Int32) (σ : zS) : Prop := σ.1 5000 37 = w ∧ (if w = 3 then σ.1 5000 47 = u else u = -1)
theorem MC.mono {b : Bool} {w u : Int32} {Z : List Nat} {σ σ' : zS} (h : MC w u σ) (F : Fc b Z σ σ') (hz : Z.elem 6 = false) : MC w u σ' :=
  ⟨(F.z (by cases b <;> rfl) hz).trans h.1, (F.z (by cases b <;> rfl) hz).trans h.2⟩
theorem MM.mono {w u : Int32} {Z : List Nat} {σ σ' : zS} (h : MM w u σ) (F : Fm Z σ σ') (hz : Z.elem 6 = false) : MM w u σ' := by
  refine ⟨(F.z (z := 6) rfl hz).trans h.1, ?_⟩
  have e : σ'.1 5000 47 = σ.1 5000 47 := F.z (z := 6) rfl hz
  rw [e]; exact h.2
theorem nI_m1lt {q : Nat} (hq : q < 1000) (h : q ≠ 0) : nI q - 1 = nI (q - 1) := by
  have : q = (q - 1) + 1 := by omega
  rw [this, nI_pred]; rfl
theorem c_landAt {b : Bool} {T : zT} {σ : zS} (hT : okT T) (hR : RC b T σ) {q : Nat} (hq : q ≤ 13) : f_X5_landAt (nI q - 1) σ = some (nI (landQ T q)) := by
  obtain ⟨⟨b0, b1, b2⟩, ⟨c0, -⟩, ⟨l0, l1, l2⟩, -⟩ := hR
  have o := hT.1
  unfold f_X5_landAt f_X5_landAt_27 landQ
  by_cases h0 : q = 0
  · subst h0
    rw [if_pos (by decide), if_pos rfl]; rfl
  · rw [nI_m1lt (by omega) h0, if_neg (nI_pos (by omega)), if_neg h0, b2, c0]
    by_cases h1 : T 4 0 < q
    · rw [if_pos (nI_le (by omega) (by omega)), if_pos h1]; rfl
    · rw [if_neg (nI_ge (by omega) (by omega)), if_neg h1, rd_nI (by omega) (by omega), bs]
      have := l2 (q - 1) (by omega)
      rw [Nat.zero_add] at this
      rw [this]
theorem m_landR {T : zT} {σ : zS} (hT : okT T) (hR : RM T σ) {c : Nat} (hc : c < 12) : ∀ (l n : Nat), l ≤ T 4 1 → l < n → f_X12_landOf_25 n (nI c) (nI l - 1) σ = some (if landR T c l = 9 then -1 else nI (landR T c l))
  | 0, n + 1, hl, hn => rfl
  | l + 1, n + 1, hl, hn => by
    have o := hT.1
    have ih := m_landR hT hR hc l n (by omega) (by omega)
    obtain ⟨-, ⟨l0, l1, l2, l3⟩, -⟩ := hR
    have ol := hT.2.1 l (by omega)
    have e1 := l1 l (by omega)
    have e2 := l2 l (by omega)
    rw [Nat.zero_add] at e1 e2
    unfold f_X12_landOf_25
    rw [nI_pred, if_neg (nI_pos (by omega)), rd_nI (by omega) (by omega), bs, e1, rd_nI (by omega) (by omega), bs, e2]
    have em : nI l + -1 = nI l - 1 := by rw [Int32.sub_eq_add_neg]
    by_cases h1 : T 6 l ≤ c
    · rw [if_neg (nI_nlt h1 (by omega))]
      by_cases h2 : c ≤ T 7 l
      · rw [if_neg (nI_nlt h2 (by omega)), show landR T c (l + 1) = l from if_pos ⟨h1, h2⟩, if_neg (by omega)]
      · rw [if_pos (nI_lt (by omega) (by omega)), show landR T c (l + 1) = landR T c l from if_neg (by omega), f_X12_landOf_51, em, ih]
    · rw [if_pos (nI_lt (by omega) (by omega)), show landR T c (l + 1) = landR T c l from if_neg (by omega), f_X12_landOf_51, em, ih]
theorem m_landOf {T : zT} {σ : zS} (hT : okT T) (hR : RM T σ) {q : Nat} (hq : q ≤ 13) : f_X12_landOf (nI q - 1) σ = some (if landQ T q = 9 then -1 else nI (landQ T q)) := by
  have o := hT.1
  have c0 := hR.1 0 (by omega)
  have c1 := hR.1 1 (by omega)
  rw [Nat.zero_add] at c0 c1
  unfold f_X12_landOf landQ
  by_cases h0 : q = 0
  · subst h0
    rw [if_pos (by decide), if_pos rfl]; rfl
  · rw [nI_m1lt (by omega) h0, if_neg (nI_pos (by omega)), if_neg h0, rd_lit (by decide) (by decide), bs, c0]
    by_cases h1 : T 4 0 < q
    · rw [if_neg (nI_nlt (by omega) (by omega)), if_pos h1]; rfl
    · rw [if_pos (nI_lt (by omega) (by omega)), if_neg h1, rd_lit (by decide) (by decide), bs, c1, lts]
      exact m_landR hT hR (by omega) (T 4 1) FU (Nat.le_refl _) (by unfold FU; omega)
theorem bit0 : ∀ v, v < 16 → ∀ p, p < 4 → (((nI v >>> (nI p &&& 31)) &&& (1 : Int32)) = nI (v / 2 ^ p % 2)) := by decide +kernel
theorem c_bars {b : Bool} {T : zT} {σ : zS} {w u : Int32} (hT : okT T) (hR : RC b T σ) (hM : MC w u σ) {s p : Nat} (hs : s < 192) (hp : p < 4) : f_X5_bars (nI s) (nI p) σ = some (bI (barB T w s p)) := by
  unfold f_X5_bars barB
  have o := hT.1
  rw [c_place hs hp, c_landAt hT hR (plc_le hs), bs, hM.1]
  by_cases hw : w = 1
  · rw [if_pos hw]; simp [hw, bI]
  · rw [if_neg hw]
    by_cases h9 : landQ T (plc s p) = 9
    · rw [h9]; simp [bI, nI]
    · have hl : landQ T (plc s p) < T 4 1 := (landQ_lt hT).resolve_left h9
      have h8 : ¬ nI (landQ T (plc s p)) = 9 := by
        show ¬ _ = nI 9
        rw [nI_eq (by omega) (by omega)]; exact h9
      have e := hR.2.2.1.2.1 _ hl
      rw [Nat.zero_add] at e
      have ol := hT.2.1 _ hl
      rw [if_neg h8, hR.1.2.2, rd_nI (by omega) (by omega), bs, e, bit0 _ ol.2.2.2 _ hp]
      rcases Nat.mod_two_eq_zero_or_one (T 8 (landQ T (plc s p)) / 2 ^ p) with h | h <;> rw [h] <;> simp [bI, hw, h9, nI]
theorem m_barred {T : zT} {σ : zS} {w u : Int32} (hT : okT T) (hR : RM T σ) (hM : MM w u σ) {s p : Nat} (hs : s < 192) (hp : p < 4) : f_X12_isBarred (nI s) (nI p) σ = some (bI (barB T w s p)) := by
  unfold f_X12_isBarred barB
  have o := hT.1
  rw [m_place hs hp, m_landOf hT hR (plc_le hs), bs, hM.1]
  by_cases hw : w = 1
  · rw [if_pos hw]; simp [hw, bI]
  · rw [if_neg hw]
    by_cases h9 : landQ T (plc s p) = 9
    · rw [if_pos h9]; simp [bI, h9]
    · have hl : landQ T (plc s p) < T 4 1 := (landQ_lt hT).resolve_left h9
      have h8 : ¬ nI (landQ T (plc s p)) = -1 := by
        intro h
        have := nI_pos (n := landQ T (plc s p)) (by omega)
        rw [h] at this; exact this (by decide)
      have e := hR.2.1.2.2.2 _ hl
      rw [Nat.zero_add] at e
      have ol := hT.2.1 _ hl
      rw [if_neg h9, if_neg h8, rd_nI (by omega) (by omega), bs, e, bit0 _ ol.2.2.2 _ hp]
      rcases Nat.mod_two_eq_zero_or_one (T 8 (landQ T (plc s p)) / 2 ^ p) with h | h <;> rw [h] <;> simp [bI, hw, h9, nI]
theorem sd0 : ∀ p, p < 4 → ∀ h, h < 2 → ((nI p &&& (1 : Int32)) ^^^ nI h) = nI ((p + h) % 2) ∧ ((nI p &&& (1 : Int32)) ^^^ ((1 : Int32) - nI h)) = nI ((p + h + 1) % 2) ∧ (nI p - nI p / (2 : Int32) * (2 : Int32)) = nI (p % 2) ∧ (1 : Int32) - (nI p - nI p / (2 : Int32) * (2 : Int32)) = nI ((p + 1) % 2) := by decide +kernel
theorem c_side {b : Bool} {T : zT} {σ : zS} {w u : Int32} (hT : okT T) (hR : RC b T σ) (hM : MC w u σ) {m p : Nat} (hm : m < T 4 2) (hp : p < 4) : f_X5_sideOf (nI m) (nI p) σ = some (nI (sideN T w m p)) := by
  unfold f_X5_sideOf f_X5_sideOf_31 sideN
  have o := hT.1
  have om := hT.2.2.1 m hm
  have e := hR.2.2.2.1.2.2.1 m hm
  rw [Nat.zero_add] at e
  rw [hM.1, hR.1.2.2, rd_nI (by omega) (by omega), bs, bs, e]
  have := sd0 p hp (T 12 m) om.2.2.2.1
  by_cases hw : w = 2
  · rw [if_pos hw, if_pos hw, this.2.1]
  · rw [if_neg hw, if_neg hw, this.1]; rfl
theorem m_side {T : zT} {σ : zS} {w u : Int32} (hT : okT T) (hR : RM T σ) (hM : MM w u σ) {m p : Nat} (hm : m < T 4 2) (hp : p < 4) : f_X12_sideOf (nI m) (nI p) σ = some (nI (sideN T w m p)) := by
  unfold f_X12_sideOf f_X12_sideOf_15 f_X12_sideOf_28 f_X12_sideOf_36 sideN
  have o := hT.1
  have om := hT.2.2.1 m hm
  have e := hR.2.2.1.2.2.2.1 m hm
  rw [Nat.zero_add] at e
  rw [hM.1, rd_nI (by omega) (by omega), bs, e]
  have := sd0 p hp (T 12 m) om.2.2.2.1
  have t3 := this.2.2.1
  have t4 := this.2.2.2
  rw [t3] at t4
  rw [t3, t4]
  have h2 : T 12 m = 0 ∨ T 12 m = 1 := by omega
  rcases h2 with h2 | h2 <;> rw [h2] <;> by_cases hw : w = 2 <;> simp [hw, nI] <;> first | omega | (apply congrArg; omega) | (rw [show (p + 1 + 1) % 2 = p % 2 by omega]) | skip
