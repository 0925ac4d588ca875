/-! The pure part: whose. What is struck, known, the last time -/
def up1 (k : Nat → Bool) (i : Nat) : Nat → Bool := fun j => if j = i then true else k j
/-- strikes from the last one down -/
def skL (S : zT) : Nat → (Nat → Bool) → (Nat → Bool)
  | 0, k => k
  | i + 1, k => skL S i (if k i = false ∧ S 0 i ≠ 0 then up1 k (S 0 i - 1) else k)
def skB (S : zT) (R : Nat) : Nat → Bool := skL S R (fun _ => false)
def knB (S : zT) (R : Nat) (i : Nat) : Bool := !(skB S R i) && decide (S 0 i = 0)
theorem reachR {T : zT} {P : Nat} {lm : Int32} {S : zT} (h : okP T P lm S) : ∃ R, R ≤ P ∧ (∀ σ, PrC P lm S σ → f_X3_reach σ = nI R) ∧ (∀ σ, PrM P lm S σ → f_X12_knownMany σ = nI R) := by
  rcases h.2.1 with e | ⟨j, hj, e⟩
  · refine ⟨P, Nat.le_refl _, fun σ q => ?_, fun σ q => ?_⟩
    · unfold f_X3_reach; rw [q.2.1, q.1, if_pos e]
    · unfold f_X12_knownMany; rw [q.2.1, q.1, if_pos e]
  · have P24 := h.1
    refine ⟨j, hj, fun σ q => ?_, fun σ q => ?_⟩
    · unfold f_X3_reach; rw [q.2.1, e, if_neg (nI_nm1 (by omega))]
    · unfold f_X12_knownMany; rw [q.2.1, e, if_neg (nI_nm1 (by omega))]
theorem zc12 {b : Bool} (i k : Nat) (hi : 7 ≤ i) (hi2 : i < 100) : zc b (1200 + i) k = 12 := by
  have ht : tv b = 300 ∨ tv b = 400 := by cases b <;> simp [tv]
  have hl : tl b = 1300 ∨ tl b = 1400 := by cases b <;> simp [tl]
  unfold zc
  rw [if_neg (by omega), if_neg (by omega), if_neg (by omega), if_neg (by omega), if_neg (by omega), if_neg (by omega), if_neg (by omega), if_neg (by omega), if_neg (by omega), if_neg (by omega), if_neg (by omega), if_neg (by omega), if_pos (by omega)]
theorem nI_m1neg {n : Nat} (hn : n < 1000) : nI n - 1 < 0 ↔ n = 0 := by
  constructor
  · intro h
    rcases Nat.eq_zero_or_pos n with z | z
    · exact z
    · rw [nI_m1lt hn (by omega)] at h
      exact absurd h (nI_pos (by omega))
  · rintro rfl; decide
theorem nI_m1e {n : Nat} (hn : n < 1000) : nI n - 1 = -1 ↔ n = 0 := by
  constructor
  · intro h
    rcases Nat.eq_zero_or_pos n with z | z
    · exact z
    · rw [nI_m1lt hn (by omega)] at h
      exact absurd h (nI_nm1 (by omega))
  · rintro rfl; rfl
theorem nar1 : vp_nar .boolean 1 = bI true := by rfl
theorem nar0 : vp_nar .boolean 0 = bI false := by rfl
theorem c_strL {b : Bool} {T : zT} {P : Nat} {lm : Int32} {S : zT} (oP : okP T P lm S) : ∀ (i fu : Nat) (k : Nat → Bool) (σ : zS), i ≤ P → i < fu → PrC P lm S σ → (∀ x, x < 24 → σ.1 1207 x = bI (k x)) →
    ∃ σ', f_X3_weigh_28 fu (nI i - 1) σ = some σ' ∧ Fc b [12] σ σ' ∧ (∀ x, x < 24 → σ'.1 1207 x = bI (skL S i k x))
  | i, 0, k, σ, hi, hf, hp, hk => by omega
  | 0, fu + 1, k, σ, hi, hf, hp, hk => by
    unfold f_X3_weigh_28
    rw [if_pos (by decide)]
    exact ⟨σ, rfl, Fc.rf, hk⟩
  | i + 1, fu + 1, k, σ, hi, hf, hp, hk => by
    have P24 := oP.1
    have oi := (oP.2.2 i (by omega)).1
    have pi := (hp.2.2 i (by omega)).1
    have em : nI i + -1 = nI i - 1 := by rw [Int32.sub_eq_add_neg]
    have stay := c_strL (b := b) oP i fu k σ (by omega) (by omega) hp hk
    unfold f_X3_weigh_28 f_X3_weigh_73
    rw [nI_pred, if_neg (nI_pos (by omega)), rd_nI (by omega) (by omega), bs, hk i (by omega), rd_nI (by omega) (by omega), bs, bs, bs, pi, em]
    unfold skL
    cases ek : k i with
    | true =>
      rw [if_neg (show ¬ bI true = 0 by decide), if_neg (fun z => by cases z.1)]
      exact stay
    | false =>
      rw [if_pos (show bI false = 0 from rfl)]
      by_cases es : S 0 i = 0
      · rw [if_pos ((nI_m1neg (by omega)).mpr es), if_neg (fun z => z.2 es)]
        exact stay
      · have e1 : nI (S 0 i) - 1 = nI (S 0 i - 1) := nI_m1lt (by omega) es
        rw [if_neg (fun z => es ((nI_m1neg (by omega)).mp z)), e1, if_neg (show ¬ (24 : Int32) ≤ nI (S 0 i - 1) from nI_ge (b := 24) (by omega) (by omega)), wrZ_nI (by omega) (by omega), bs, nar1, if_pos ⟨rfl, es⟩]
        have F1 : Fc b [12] σ (wI σ 1207 (S 0 i - 1) (bI true)) := Fc.rf.wI (by rw [zc12 7 _ (by omega) (by omega)]; rfl)
        obtain ⟨σ1, e2, f2, g2⟩ := c_strL (b := b) oP i fu (up1 k (S 0 i - 1)) (wI σ 1207 (S 0 i - 1) (bI true)) (by omega) (by omega) (hp.mono F1 rfl) (fun x hx => by
          rw [wI_at]
          unfold up1
          by_cases e : x = S 0 i - 1
          · rw [if_pos ⟨rfl, e⟩, if_pos e]
          · rw [if_neg (fun z => e z.2), if_neg e]; exact hk x hx)
        exact ⟨σ1, e2, F1.tr f2, g2⟩
theorem c_wei0 {b : Bool} : ∀ (j i fu : Nat) (σ : zS), i + j = 24 → j < fu → (∀ x, x < i → σ.1 1207 x = bI false) →
    ∃ σ', f_X3_weigh_2 fu (nI i) σ = f_X3_weigh_28 FU (f_X3_reach σ' - 1) σ' ∧ Fc b [12] σ σ' ∧ (∀ x, x < 24 → σ'.1 1207 x = bI false)
  | j, i, 0, σ, hj, hf, h => by omega
  | 0, i, fu + 1, σ, hj, hf, h => by
    unfold f_X3_weigh_2
    rw [if_pos (show (24 : Int32) ≤ nI i from nI_le (a := 24) (by omega) (by omega)), lts]
    exact ⟨σ, rfl, Fc.rf, fun x hx => h x (by omega)⟩
  | j + 1, i, fu + 1, σ, hj, hf, h => by
    unfold f_X3_weigh_2
    rw [if_neg (show ¬ (24 : Int32) ≤ nI i from nI_ge (b := 24) (by omega) (by omega)), wrZ_nI (by omega) (by omega), bs, nar0, nI_1]
    have F1 : Fc b [12] σ (wI σ 1207 i (bI false)) := Fc.rf.wI (by rw [zc12 7 _ (by omega) (by omega)]; rfl)
    obtain ⟨σ1, e1, f1, g1⟩ := c_wei0 (b := b) j (i + 1) fu (wI σ 1207 i (bI false)) (by omega) (by omega) (fun x hx => by
      by_cases e : x = i
      · rw [e, wI_self]
      · rw [wI_at, if_neg (by omega)]; exact h x (by omega))
    exact ⟨σ1, e1, F1.tr f1, g1⟩
theorem c_weigh {b : Bool} {T : zT} {P R : Nat} {lm : Int32} {S : zT} {σ : zS} (oP : okP T P lm S) (hp : PrC P lm S σ) (hR : R ≤ P) (hr : ∀ σ, PrC P lm S σ → f_X3_reach σ = nI R) :
    ∃ σ', f_X3_weigh σ = some σ' ∧ Fc b [12] σ σ' ∧ (∀ x, x < 24 → σ'.1 1207 x = bI (skB S R x)) := by
  have P24 := oP.1
  obtain ⟨σ1, e1, f1, g1⟩ := c_wei0 (b := b) 24 0 FU σ (by omega) (by unfold FU; omega) (fun x hx => by omega)
  have p1 := hp.mono f1 rfl
  obtain ⟨σ2, e2, f2, g2⟩ := c_strL (b := b) oP R FU (fun _ => false) σ1 hR (by unfold FU; omega) p1 g1
  refine ⟨σ2, ?_, f1.tr f2, g2⟩
  replace e1 : f_X3_weigh σ = _ := e1
  rw [e1, hr σ1 p1, e2]
theorem c_known {T : zT} {P R : Nat} {lm : Int32} {S : zT} {σ : zS} (oP : okP T P lm S) (hp : PrC P lm S σ) (hR : R ≤ P) (hk : ∀ x, x < 24 → σ.1 1207 x = bI (skB S R x)) {i : Nat} (hi : i < R) : f_X3_isKnown (nI i) σ = some (bI (knB S R i)) := by
  have P24 := oP.1
  have oi := (oP.2.2 i (by omega)).1
  unfold f_X3_isKnown knB
  rw [rd_nI (by omega) (by omega), bs, hk i (by omega), rd_nI (by omega) (by omega), bs, (hp.2.2 i (by omega)).1]
  cases skB S R i with
  | true => rfl
  | false =>
    rw [if_pos (show bI false = 0 from rfl)]
    by_cases e : S 0 i = 0
    · rw [if_pos ((nI_m1e (by omega)).mpr e), decide_eq_true e]; rfl
    · rw [if_neg (fun z => e ((nI_m1e (by omega)).mp z)), decide_eq_false e]; rfl
/-- one more than the last time of what is known -/
def ltN (S : zT) (R : Nat) : Nat → Nat → Nat → Nat
  | 0, _, a => a
  | j + 1, i, a => ltN S R j (i + 1) (if knB S R i then max a (S 1 i + 1) else a)
theorem mx99 {a v : Nat} (ha : a ≤ 100) (hv : v ≤ 99) (σ : zS) : f_J9_max_7cf53 (nI a - 1) (nI v) σ = nI (max a (v + 1)) - 1 := by
  unfold f_J9_max_7cf53
  rcases Nat.eq_zero_or_pos a with z | z
  · subst z
    have : nI 0 - 1 < nI v := by
      rw [Int32.lt_iff_toInt_lt, nI_toInt (by omega)]
      have : (nI 0 - 1).toInt = -1 := by decide
      omega
    rw [if_pos this, show max 0 (v + 1) = v + 1 by omega, nI_pred]
  · rw [nI_m1lt (by omega) (by omega)]
    by_cases h : a - 1 < v
    · rw [if_pos (nI_lt h (by omega)), show max a (v + 1) = v + 1 by omega, nI_pred]
    · rw [if_neg (nI_nlt (by omega) (by omega)), show max a (v + 1) = a by omega, nI_m1lt (by omega) (by omega)]
theorem c_last {T : zT} {P R : Nat} {lm : Int32} {S : zT} {σ : zS} (oP : okP T P lm S) (hp : PrC P lm S σ) (hR : R ≤ P) (hr : f_X3_reach σ = nI R) (hk : ∀ x, x < 24 → σ.1 1207 x = bI (skB S R x)) : ∀ (j i a fu : Nat), i + j = R → a ≤ 100 → j < fu → f_X3_lastTime_4 fu (nI a - 1) (nI i) σ = some (nI (ltN S R j i a) - 1) ∧ ltN S R j i a ≤ 100
  | j, i, a, 0, hj, ha, hf => by omega
  | 0, i, a, fu + 1, hj, ha, hf => by
    have P24 := oP.1
    unfold f_X3_lastTime_4
    rw [hr, if_pos (nI_le (by omega) (by omega))]
    exact ⟨rfl, ha⟩
  | j + 1, i, a, fu + 1, hj, ha, hf => by
    have P24 := oP.1
    have oi := oP.2.2 i (by omega)
    unfold f_X3_lastTime_4 f_X3_lastTime_31
    rw [hr, if_neg (nI_ge (by omega) (by omega)), c_known oP hp hR hk (by omega), bs, rd_nI (by omega) (by omega), bs, lts, nI_1]
    unfold ltN
    cases e : knB S R i with
    | false =>
      rw [if_pos (show bI false = 0 from rfl), if_neg (by decide)]
      exact c_last oP hp hR hr hk j (i + 1) a fu (by omega) ha (by omega)
    | true =>
      have s0 : S 0 i = 0 := by
        unfold knB at e
        rw [Bool.and_eq_true] at e
        exact of_decide_eq_true e.2
      have q := oi.2 s0
      rw [if_neg (show ¬ bI true = 0 by decide), if_pos rfl, ((hp.2.2 i (by omega)).2 s0).1, mx99 ha q.1]
      exact c_last oP hp hR hr hk j (i + 1) (max a (S 1 i + 1)) fu (by omega) (by omega) (by omega)
