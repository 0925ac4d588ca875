/-! The pure part: what is struck, by the reference -/
theorem m_strL {T : zT} {P R : Nat} {lm : Int32} {S : zT} (oP : okP T P lm S) (hR : R ≤ P) : ∀ (i fu : Nat) (k : Nat → Bool) (σ : zS), i ≤ R → i < fu → PrM P lm S σ → (∀ x, x < R → σ.1 5060 x = bI (k x)) →
    ∃ σ', f_X12_whose_35 fu (nI i - 1) σ = f_X12_whose_80 FU (-1) 0 σ' ∧ Fm [12] σ σ' ∧ (∀ x, x < R → σ'.1 5060 x = bI (skL S i k x))
  | i, 0, k, σ, hi, hf, hp, hk => by omega
  | 0, fu + 1, k, σ, hi, hf, hp, hk => by
    unfold f_X12_whose_35
    rw [if_pos (by decide)]
    exact ⟨σ, rfl, Fm.rf, hk⟩
  | i + 1, fu + 1, k, σ, hi, hf, hp, hk => by
    have P24 := oP.1
    have oi := (oP.2.2 i (by omega)).1
    have pi := (hp.2.2 i (by omega)).1
    have em : nI i + -1 = nI i - 1 := by rw [Int32.sub_eq_add_neg]
    have stay := m_strL oP hR i fu k σ (by omega) (by omega) hp hk
    unfold f_X12_whose_35 f_X12_whose_70
    rw [nI_pred, if_neg (nI_pos (by omega)), rd_nI (by omega) (by omega), bs, hk i (by omega), rd_nI (by omega) (by omega), bs, bs, pi, em]
    unfold skL
    cases ek : k i with
    | true =>
      rw [if_neg (show ¬ bI true = 0 by decide), if_neg (fun z => by cases z.1)]
      exact stay
    | false =>
      rw [if_pos (show bI false = 0 from rfl)]
      by_cases es : S 0 i = 0
      · rw [if_pos ((nI_m1e (by omega)).mpr es), if_neg (fun z => z.2 es)]
        exact stay
      · have e1 : nI (S 0 i) - 1 = nI (S 0 i - 1) := nI_m1lt (by omega) es
        rw [if_neg (fun z => es ((nI_m1e (by omega)).mp z)), e1, wrZ_nI (by omega) (by omega), bs, nar1, if_pos ⟨rfl, es⟩]
        have F1 : Fm [12] σ (wI σ 5060 (S 0 i - 1) (bI true)) := Fm.rf.wI rfl
        obtain ⟨σ1, e2, f2, g2⟩ := m_strL oP hR i fu (up1 k (S 0 i - 1)) (wI σ 5060 (S 0 i - 1) (bI true)) (by omega) (by omega) (hp.mono F1 rfl) (fun x hx => by
          rw [wI_at]
          unfold up1
          by_cases e : x = S 0 i - 1
          · rw [if_pos ⟨rfl, e⟩, if_pos e]
          · rw [if_neg (fun z => e z.2), if_neg e]; exact hk x hx)
        exact ⟨σ1, e2, F1.tr f2, g2⟩
theorem m_wei0 {P R : Nat} {lm : Int32} {S : zT} (hR : R ≤ 24) (hr : ∀ σ, PrM P lm S σ → f_X12_knownMany σ = nI R) : ∀ (j i fu : Nat) (σ : zS), i + j = R → j < fu → PrM P lm S σ → (∀ x, x < i → σ.1 5060 x = bI false) →
    ∃ σ', f_X12_whose_7 fu (nI i) σ = f_X12_whose_35 FU (nI R - 1) σ' ∧ Fm [12] σ σ' ∧ (∀ x, x < R → σ'.1 5060 x = bI false)
  | j, i, 0, σ, hj, hf, hp, h => by omega
  | 0, i, fu + 1, σ, hj, hf, hp, h => by
    unfold f_X12_whose_7
    rw [hr σ hp, if_pos (nI_le (by omega) (by omega)), lts]
    exact ⟨σ, rfl, Fm.rf, fun x hx => h x (by omega)⟩
  | j + 1, i, fu + 1, σ, hj, hf, hp, h => by
    unfold f_X12_whose_7
    rw [hr σ hp, if_neg (nI_ge (by omega) (by omega)), wrZ_nI (by omega) (by omega), bs, nar0, nI_1]
    have F1 : Fm [12] σ (wI σ 5060 i (bI false)) := Fm.rf.wI rfl
    obtain ⟨σ1, e1, f1, g1⟩ := m_wei0 hR hr j (i + 1) fu (wI σ 5060 i (bI false)) (by omega) (by omega) (hp.mono F1 rfl) (fun x hx => by
      by_cases e : x = i
      · rw [e, wI_self]
      · rw [wI_at, if_neg (by omega)]; exact h x (by omega))
    exact ⟨σ1, e1, F1.tr f1, g1⟩
theorem m_known {T : zT} {P R : Nat} {lm : Int32} {S : zT} {σ : zS} (oP : okP T P lm S) (hp : PrM P lm S σ) (hR : R ≤ P) (hk : ∀ x, x < R → σ.1 5060 x = bI (skB S R x)) {i : Nat} (hi : i < R) : f_X12_isKnown (nI i) σ = some (bI (knB S R i)) := by
  have P24 := oP.1
  have oi := (oP.2.2 i (by omega)).1
  unfold f_X12_isKnown knB
  rw [rd_nI (by omega) (by omega), bs, hk i hi, rd_nI (by omega) (by omega), bs, (hp.2.2 i (by omega)).1]
  cases skB S R i with
  | true => rfl
  | false =>
    rw [if_pos (show bI false = 0 from rfl)]
    by_cases e : S 0 i = 0
    · rw [if_pos ((nI_m1e (by omega)).mpr e), decide_eq_true e]; rfl
    · rw [if_neg (fun z => e ((nI_m1e (by omega)).mp z)), decide_eq_false e]; rfl
theorem m_last {T : zT} {P R : Nat} {lm : Int32} {S : zT} {σ : zS} (oP : okP T P lm S) (hp : PrM P lm S σ) (hR : R ≤ P) (hr : f_X12_knownMany σ = nI R) (hk : ∀ x, x < R → σ.1 5060 x = bI (skB S R x)) : ∀ (j i a fu : Nat), i + j = R → a ≤ 100 → j < fu → f_X12_whose_80 fu (nI a - 1) (nI i) σ = f_X12_whose_117 FU (nI (ltN S R j i a) - 1) 0 0 σ ∧ ltN S R j i a ≤ 100
  | j, i, a, 0, hj, ha, hf => by omega
  | 0, i, a, fu + 1, hj, ha, hf => by
    have P24 := oP.1
    unfold f_X12_whose_80
    rw [hr, if_pos (nI_le (by omega) (by omega))]
    exact ⟨rfl, ha⟩
  | j + 1, i, a, fu + 1, hj, ha, hf => by
    have P24 := oP.1
    have oi := oP.2.2 i (by omega)
    unfold f_X12_whose_80 f_X12_whose_107
    rw [hr, if_neg (nI_ge (by omega) (by omega)), m_known oP hp hR hk (by omega), bs, rd_nI (by omega) (by omega), bs, lts, nI_1]
    unfold ltN
    cases e : knB S R i with
    | false =>
      rw [if_pos (show bI false = 0 from rfl), if_neg (by decide)]
      exact m_last oP hp hR hr hk j (i + 1) a fu (by omega) ha (by omega)
    | true =>
      have s0 : S 0 i = 0 := by
        unfold knB at e
        rw [Bool.and_eq_true] at e
        exact of_decide_eq_true e.2
      have q := oi.2 s0
      rw [if_neg (show ¬ bI true = 0 by decide), if_pos rfl, ((hp.2.2 i (by omega)).2 s0).1, mx99 ha q.1]
      exact m_last oP hp hR hr hk j (i + 1) (max a (S 1 i + 1)) fu (by omega) (by omega) (by omega)
/-- a set of states goes on, is sifted -/
def goV (n : Nat) (M : Nat → Bool) (s v : Nat) : Bool := match mvd n s v with | none => false | some t => M t
def goS (n : Nat) (M : Nat → Bool) (s : Nat) : Bool := M s || anyU (goV n M s) 6 0
def fitP (S : zT) (R tm s i : Nat) : Bool := !(knB S R i && decide (S 1 i = tm)) || decide (plc s (S 2 i) = S 3 i + 1)
def allU (f : Nat → Bool) : Nat → Nat → Bool
  | 0, _ => true
  | j + 1, k => f k && allU f j (k + 1)
theorem allU_s (f : Nat → Bool) (j k : Nat) : allU f (j + 1) k = (f k && allU f j (k + 1)) := rfl
def sfS (S : zT) (R tm : Nat) (M : Nat → Bool) (s : Nat) : Bool := M s && allU (fitP S R tm s) R 0
def stM (σ : zS) (n : Nat) (M : Nat → Bool) : Prop := ∀ s, s < 16 * n → σ.1 5061 s = bI (M s)
theorem m_goI {T : zT} {M : Nat → Bool} {σ : zS} (r2 : Int32 → zS → Option zS) (hT : okT T) (hR : RM T σ) (hM : stM σ (T 4 0) M) {s : Nat} (hs : s < 16 * T 4 0) : ∀ (j v fu : Nat) (is : Bool), v + j = 6 → j < fu → f_X12_goesOn_19 r2 fu (nI s) (bI is) (nI v) σ = r2 (nI (s + 1)) (wI σ 5062 s (bI (is || anyU (goV (T 4 0) M s) j v)))
  | j, v, 0, is, hj, hf => by omega
  | 0, v, fu + 1, is, hj, hf => by
    have o := hT.1
    unfold f_X12_goesOn_19
    rw [if_pos (show (6 : Int32) ≤ nI v from nI_le (a := 6) (by omega) (by omega)), wrZ_nI (by omega) (by omega), bs, nar_b, nI_1]
    show _ = r2 (nI (s + 1)) (wI σ 5062 s (bI (is || false)))
    rw [Bool.or_false]
  | j + 1, v, fu + 1, is, hj, hf => by
    have o := hT.1
    unfold f_X12_goesOn_19 f_X12_goesOn_51
    rw [if_neg (show ¬ (6 : Int32) ≤ nI v from nI_ge (b := 6) (by omega) (by omega)), m_moved hT hR hs (by omega), bs, nI_1, anyU_s]
    have ih := fun is' => m_goI r2 hT hR hM hs j (v + 1) fu is' (by omega) (by omega)
    unfold goV
    cases em : mvd (T 4 0) s v with
    | none =>
      rw [if_pos (show oI none = -1 from rfl), Bool.false_or]
      exact ih is
    | some t =>
      have ht := mvd_lt hs em
      rw [if_neg (show ¬ oI (some t) = -1 from nI_nm1 (by omega)), show oI (some t) = nI t from rfl, rd_nI (by omega) (by omega), bs, hM t ht]
      show (if bI (M t) = 0 then _ else _) = r2 (nI (s + 1)) (wI σ 5062 s (bI (is || (M t || _))))
      cases M t with
      | false =>
        rw [if_pos (show bI false = 0 from rfl), Bool.false_or]
        exact ih is
      | true =>
        rw [if_neg (show ¬ bI true = 0 by decide), Bool.true_or, Bool.or_true]
        have := ih true
        rw [Bool.true_or] at this
        exact this
