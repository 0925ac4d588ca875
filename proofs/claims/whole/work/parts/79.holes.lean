/-! The pure part: loopholes -/
theorem set4 (f : Nat → Bool) : ∀ p, p < 4 → (setN f 4 / 2 ^ p % 2 = 1 ↔ f p = true) := by
  have e : setN f 4 = (if f 0 then 1 else 0) + (if f 1 then 2 else 0) + (if f 2 then 4 else 0) + (if f 3 then 8 else 0) := by
    show 0 + (if f 0 then 2 ^ 0 else 0) + (if f 1 then 2 ^ 1 else 0) + (if f 2 then 2 ^ 2 else 0) + (if f 3 then 2 ^ 3 else 0) = _
    rw [Nat.zero_add]
  intro p hp
  rw [e]
  have : p = 0 ∨ p = 1 ∨ p = 2 ∨ p = 3 := by omega
  rcases this with rfl | rfl | rfl | rfl <;> cases f 0 <;> cases f 1 <;> cases f 2 <;> cases f 3 <;> decide
theorem and4 : ∀ a, a < 16 → ∀ c, c < 16 → (nI a &&& nI c = 0 ↔ ∀ p, p < 4 → ¬ (a / 2 ^ p % 2 = 1 ∧ c / 2 ^ p % 2 = 1)) := by decide +kernel
theorem and4n : ∀ a, a < 16 → ∀ c, c < 16 → ∃ d, d < 16 ∧ nI a &&& nI c = nI d ∧ ∀ p, p < 4 → (d / 2 ^ p % 2 = 1 ↔ (a / 2 ^ p % 2 = 1 ∧ c / 2 ^ p % 2 = 1)) := by
  intro a ha c hc
  have : ∀ a, a < 16 → ∀ c, c < 16 → (a &&& c < 16 ∧ nI a &&& nI c = nI (a &&& c) ∧ ∀ p, p < 4 → ((a &&& c) / 2 ^ p % 2 = 1 ↔ (a / 2 ^ p % 2 = 1 ∧ c / 2 ^ p % 2 = 1))) := by decide +kernel
  exact ⟨a &&& c, this a ha c hc⟩
theorem cl4 : ∀ a, a < 16 → ((nI a ^^^ (-1 : Int32)) &&& (15 : Int32)) = nI (15 - a) ∧ ∀ p, p < 4 → ((15 - a) / 2 ^ p % 2 = 1 ↔ ¬ a / 2 ^ p % 2 = 1) := by decide +kernel
theorem c_partsL {b : Bool} {T : zT} {w u : Int32} {m s k h : Nat} (hm : m < T 4 2) (hs : s < 192) (hk : k < 4) (hh : h ≤ 24) : ∀ (j p fu : Nat) (σ : zS), p + j = 4 → j < fu → CC b T w u σ →
    ∃ σ', f_X5_lawfulParts_6 fu (nI m) (nI s) (nI k) (nI h) (nI (setN (fun p => lawB T w m s p k h) p)) (nI p) σ = some (nI (setN (fun p => lawB T w m s p k h) 4), σ') ∧ Fc b [0] σ σ'
  | j, p, 0, σ, hj, hf, hC => by omega
  | 0, p, fu + 1, σ, hj, hf, hC => by
    unfold f_X5_lawfulParts_6
    rw [if_pos (show (4 : Int32) ≤ nI p from nI_le (a := 4) (by omega) (by omega)), show p = 4 by omega]
    exact ⟨σ, rfl, Fc.rf⟩
  | j + 1, p, fu + 1, σ, hj, hf, hC => by
    obtain ⟨σ1, e1, f1⟩ := c_allows hC hm hs (show p < 4 by omega) hk hh
    obtain ⟨σ2, e2, f2⟩ := c_partsL hm hs hk hh j (p + 1) fu σ1 (by omega) (by omega) (hC.mono f1 rfl rfl)
    have lt := setN_lt (fun p => lawB T w m s p k h) p
    have p4 : 2 ^ p ≤ 2 ^ 4 := Nat.pow_le_pow_right (by decide) (by omega)
    unfold f_X5_lawfulParts_6 f_X5_lawfulParts_35
    rw [if_neg (show ¬ (4 : Int32) ≤ nI p from nI_ge (b := 4) (by omega) (by omega)), e1, b2s, lts, shl1 p (by omega), nI_1]
    rw [setN_s] at e2
    refine ⟨σ2, ?_, f1.tr f2⟩
    cases e : lawB T w m s p k h with
    | true =>
      rw [e, if_pos rfl] at e2
      rw [if_neg (show ¬ bI true = 0 by decide), nI_or (by omega) (by omega), or_new lt]; exact e2
    | false =>
      rw [e, if_neg (by decide), Nat.add_zero] at e2
      rw [if_pos (show bI false = 0 from rfl)]; exact e2
theorem c_parts {b : Bool} {T : zT} {w u : Int32} {m s k h : Nat} {σ : zS} (hC : CC b T w u σ) (hm : m < T 4 2) (hs : s < 192) (hk : k < 4) (hh : h ≤ 24) :
    ∃ σ', f_X5_lawfulParts (nI m) (nI s) (nI k) (nI h) σ = some (nI (setN (fun p => lawB T w m s p k h) 4), σ') ∧ Fc b [0] σ σ' :=
  c_partsL hm hs hk hh 4 0 FU σ (by omega) (by unfold FU; omega) hC
def fst (T : zT) (m : Nat) : Nat := 16 * T 10 m + 4 * T 11 m
theorem fst_lt {T : zT} (hT : okT T) {m : Nat} (hm : m < T 4 2) : fst T m < 16 * T 4 0 := by
  have := hT.2.2.1 m hm
  unfold fst; omega
/-- the parts for which it is not lawful at first -/
def unL (T : zT) (m k h : Nat) (p : Nat) : Bool := !(lawB T (-1) m (fst T m) p k h)
theorem c_closed {b : Bool} {T : zT} {D : zT} {mv : Int32} {m k : Nat} {σ : zS} (hC : CC b T (-1) (-1) σ) (oD : okD T D) (dc : DC T 700 D mv σ) (hm : m < T 4 2) (hk : k < 4) :
    ∃ σ' c, f_X11_closedParts (nI m) (nI k) σ = some (nI c, σ') ∧ Fc b [0] σ σ' ∧ c < 16 ∧ ∀ p, p < 4 → (c / 2 ^ p % 2 = 1 ↔ unL T m k (D 0 0) p = true) := by
  have o := hC.1.1
  have fl := fst_lt hC.1 hm
  obtain ⟨σ1, e1, f1⟩ := c_parts hC hm (show fst T m < 192 by omega) hk oD.1
  have lt := setN_lt (fun p => lawB T (-1) m (fst T m) p k (D 0 0)) 4
  have c4 := cl4 _ lt
  refine ⟨σ1, 15 - setN (fun p => lawB T (-1) m (fst T m) p k (D 0 0)) 4, ?_, f1, by omega, fun p hp => ?_⟩
  · unfold f_X11_closedParts
    have e9 : σ.1 (tv b + 9) m = nI (fst T m) := row0 hC.2.1.2.2.2.1.2.1 hm
    rw [hC.2.1.1.1, rd_nI (by omega) (by omega), bs, e9, dc.1, e1, b2s, c4.1]
  · rw [c4.2 p hp, set4 _ p hp]
    unfold unL
    cases lawB T (-1) m (fst T m) p k (D 0 0) <;> simp
/-- a loophole: not shut by these lands -/
def lpP (T : zT) (m k h sh s p : Nat) : Bool := unL T m k h p && (!(!(decide (landQ T (plc s p) = 9)) && decide (sh / 2 ^ landQ T (plc s p) % 2 = 1)) && lawB T (-1) m s p k h)
def lpH (T : zT) (m k h sh s : Nat) : Bool := anyU (lpP T m k h sh s) 4 0
theorem any4 {f : Nat → Bool} : anyU f 4 0 = true ↔ ∃ p, p < 4 ∧ f p = true := by
  show (f 0 || (f 1 || (f 2 || (f 3 || false)))) = true ↔ _
  constructor
  · intro h
    cases h0 : f 0 with
    | true => exact ⟨0, by omega, h0⟩
    | false =>
      cases h1 : f 1 with
      | true => exact ⟨1, by omega, h1⟩
      | false =>
        cases h2 : f 2 with
        | true => exact ⟨2, by omega, h2⟩
        | false =>
          cases h3 : f 3 with
          | true => exact ⟨3, by omega, h3⟩
          | false => rw [h0, h1, h2, h3] at h; cases h
  · rintro ⟨p, hp, e⟩
    have : p = 0 ∨ p = 1 ∨ p = 2 ∨ p = 3 := by omega
    rcases this with rfl | rfl | rfl | rfl <;> simp [e]
/-- the class's test -/
theorem c_hole {T : zT} {m k h s c : Nat} (hc : c < 16) (hp : ∀ p, p < 4 → (c / 2 ^ p % 2 = 1 ↔ unL T m k h p = true)) :
    (nI (setN (fun p => lawB T (-1) m s p k h) 4) &&& nI c = 0) ↔ lpH T m k h 0 s = false := by
  have lt := setN_lt (fun p => lawB T (-1) m s p k h) 4
  rw [and4 _ lt c hc]
  have : lpH T m k h 0 s = true ↔ ∃ p, p < 4 ∧ (setN (fun p => lawB T (-1) m s p k h) 4 / 2 ^ p % 2 = 1 ∧ c / 2 ^ p % 2 = 1) := by
    unfold lpH
    rw [any4]
    constructor
    · rintro ⟨p, h1, h2⟩
      refine ⟨p, h1, (set4 _ p h1).mpr ?_, (hp p h1).mpr ?_⟩
      · unfold lpP at h2; simp only [Bool.and_eq_true] at h2; exact h2.2.2
      · unfold lpP at h2; simp only [Bool.and_eq_true] at h2; exact h2.1
    · rintro ⟨p, h1, h2, h3⟩
      refine ⟨p, h1, ?_⟩
      have a1 := (set4 _ p h1).mp h2
      have a2 := (hp p h1).mp h3
      unfold lpP
      rw [a1, a2]
      simp
  constructor
  · intro hn
    cases e : lpH T m k h 0 s with
    | false => rfl
    | true =>
      obtain ⟨p, h1, h2⟩ := this.mp e
      exact absurd h2 (hn p h1)
  · intro he p h1 h2
    rw [this.mpr ⟨p, h1, h2⟩] at he; cases he
def cntH (f : Nat → Bool) : Nat → Nat → Nat → Nat
  | 0, _, a => a
  | j + 1, k, a => cntH f j (k + 1) (if f k then a + 1 else a)
def kthH (f : Nat → Bool) : Nat → Nat → Nat → Option Nat
  | 0, _, _ => none
  | j + 1, k, i => if f k then (match i with | 0 => some k | i' + 1 => kthH f j (k + 1) i') else kthH f j (k + 1) i
theorem c_holes {b : Bool} {T D : zT} {mv : Int32} {m k c : Nat} (oD : okD T D) (hm : m < T 4 2) (hk : k < 4) (hc : c < 16) (hp : ∀ p, p < 4 → (c / 2 ^ p % 2 = 1 ↔ unL T m k (D 0 0) p = true)) : ∀ (j s a fu : Nat) (σ : zS), s + j = 16 * T 4 0 → a ≤ s → j < fu → CC b T (-1) (-1) σ → DC T 700 D mv σ →
    ∃ σ', f_X11_loopholes_30 fu (nI m) (nI k) (nI c) (nI a) (nI s) σ = some (nI (cntH (lpH T m k (D 0 0) 0) j s a), σ') ∧ Fc b [0] σ σ'
  | j, s, a, 0, σ, hj, ha, hf, hC, dc => by omega
  | 0, s, a, fu + 1, σ, hj, ha, hf, hC, dc => by
    have o := hC.1.1
    unfold f_X11_loopholes_30 f_X8_states
    rw [hC.2.1.1.1, hC.2.1.2.1.1, show nI (T 4 0) * 16 = nI (T 4 0 * 16) from pk_mul _ 16, if_pos (nI_le (by omega) (by omega))]
    exact ⟨σ, rfl, Fc.rf⟩
  | j + 1, s, a, fu + 1, σ, hj, ha, hf, hC, dc => by
    have o := hC.1.1
    obtain ⟨σ1, e1, f1⟩ := c_parts hC hm (show s < 192 by omega) hk oD.1
    unfold f_X11_loopholes_30 f_X8_states f_X11_loopholes_68
    rw [hC.2.1.1.1, hC.2.1.2.1.1, show nI (T 4 0) * 16 = nI (T 4 0 * 16) from pk_mul _ 16, if_neg (nI_ge (by omega) (by omega)), dc.1, e1, b2s, nI_1, nI_1]
    have C1 := hC.mono f1 rfl rfl
    have d1 := DC.mono (z := 3) (.inl ⟨rfl, rfl⟩) dc f1 rfl
    unfold cntH
    cases e : lpH T m k (D 0 0) 0 s with
    | false =>
      rw [if_pos ((c_hole hc hp).mpr e), if_neg (by decide)]
      obtain ⟨σ2, e2, f2⟩ := c_holes oD hm hk hc hp j (s + 1) a fu σ1 (by omega) (by omega) (by omega) C1 d1
      exact ⟨σ2, e2, f1.tr f2⟩
    | true =>
      rw [if_neg (fun z => by rw [(c_hole hc hp).mp z] at e; cases e), if_pos rfl]
      obtain ⟨σ2, e2, f2⟩ := c_holes oD hm hk hc hp j (s + 1) (a + 1) fu σ1 (by omega) (by omega) (by omega) C1 d1
      exact ⟨σ2, e2, f1.tr f2⟩
def oI2 (o : Option Nat) : Int32 := match o with | none => -2 | some s => nI s
theorem c_hole1 {b : Bool} {T D : zT} {mv : Int32} {m k c : Nat} (oD : okD T D) (hm : m < T 4 2) (hk : k < 4) (hc : c < 16) (hp : ∀ p, p < 4 → (c / 2 ^ p % 2 = 1 ↔ unL T m k (D 0 0) p = true)) : ∀ (j s i fu : Nat) (σ : zS), s + j = 16 * T 4 0 → i < 2 ^ 31 → j < fu → CC b T (-1) (-1) σ → DC T 700 D mv σ →
    ∃ σ', f_X11_loophole_35 fu (nI m) (nI k) (nI c) (nI i) (nI s) σ = some (oI2 (kthH (lpH T m k (D 0 0) 0) j s i), σ') ∧ Fc b [0] σ σ'
  | j, s, i, 0, σ, hj, hi, hf, hC, dc => by omega
  | 0, s, i, fu + 1, σ, hj, hi, hf, hC, dc => by
    have o := hC.1.1
    unfold f_X11_loophole_35 f_X8_states
    rw [hC.2.1.1.1, hC.2.1.2.1.1, show nI (T 4 0) * 16 = nI (T 4 0 * 16) from pk_mul _ 16, if_pos (nI_le (by omega) (by omega))]
    exact ⟨σ, rfl, Fc.rf⟩
  | j + 1, s, i, fu + 1, σ, hj, hi, hf, hC, dc => by
    have o := hC.1.1
    obtain ⟨σ1, e1, f1⟩ := c_parts hC hm (show s < 192 by omega) hk oD.1
    unfold f_X11_loophole_35 f_X8_states f_X11_loophole_82
    rw [hC.2.1.1.1, hC.2.1.2.1.1, show nI (T 4 0) * 16 = nI (T 4 0 * 16) from pk_mul _ 16, if_neg (nI_ge (by omega) (by omega)), dc.1, e1, b2s, nI_1]
    have C1 := hC.mono f1 rfl rfl
    have d1 := DC.mono (z := 3) (.inl ⟨rfl, rfl⟩) dc f1 rfl
    unfold kthH
    cases e : lpH T m k (D 0 0) 0 s with
    | false =>
      rw [if_pos ((c_hole hc hp).mpr e), if_neg (by decide)]
      obtain ⟨σ2, e2, f2⟩ := c_hole1 oD hm hk hc hp j (s + 1) i fu σ1 (by omega) hi (by omega) C1 d1
      exact ⟨σ2, e2, f1.tr f2⟩
    | true =>
      rw [if_neg (fun z => by rw [(c_hole hc hp).mp z] at e; cases e), if_pos rfl]
      cases i with
      | zero => exact ⟨σ1, rfl, f1⟩
      | succ i' =>
        rw [if_neg (show ¬ nI (i' + 1) = 0 by show ¬ _ = nI 0; rw [nI_eq (by omega) (by omega)]; omega), pk_m1]
        obtain ⟨σ2, e2, f2⟩ := c_hole1 oD hm hk hc hp j (s + 1) i' fu σ1 (by omega) (by omega) (by omega) C1 d1
        exact ⟨σ2, e2, f1.tr f2⟩
