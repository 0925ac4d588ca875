/-! The pure part: who could it be, by the reference, whole -/
def cbL (n : Nat) (S : zT) (R : Nat) : Nat → Nat → (Nat → Bool) → Bool
  | 0, _, _ => true
  | j + 1, tm, M => anyU (sfS S R tm (if tm = 0 then M else goS n M)) (16 * n) 0 && cbL n S R j (tm + 1) (sfS S R tm (if tm = 0 then M else goS n M))
theorem m1lt {L tm : Nat} (hL : L ≤ 100) (ht : tm ≤ 100) : nI L - 1 < nI tm ↔ L ≤ tm := by
  have e : (nI L - 1).toInt = (L : Int) - 1 := by
    have := pk_sub_toInt (a := L) (b := 1) (by omega) (by omega)
    exact this
  rw [Int32.lt_iff_toInt_lt, e, nI_toInt (by omega)]
  omega
theorem m_cbL {T : zT} {P R L : Nat} {lm : Int32} {S : zT} (hL : L ≤ 100) : ∀ (j tm fu : Nat) (M : Nat → Bool) (σ : zS), tm + j = L → j < fu → KM T P R lm S σ → stM σ (T 4 0) M →
    ∃ σ', f_X12_couldBe_38 fu (nI L - 1) (nI tm) σ = some (bI (cbL (T 4 0) S R j tm M), σ') ∧ Fm [12] σ σ' ∧ (∀ x, σ'.1 5060 x = σ.1 5060 x)
  | j, tm, 0, M, σ, hj, hf, hK, hM => by omega
  | 0, tm, fu + 1, M, σ, hj, hf, hK, hM => by
    unfold f_X12_couldBe_38
    rw [if_pos ((m1lt hL (by omega)).mpr (by omega))]
    exact ⟨σ, rfl, Fm.rf, fun x => rfl⟩
  | j + 1, tm, fu + 1, M, σ, hj, hf, hK, hM => by
    have main : ∀ (M1 : Nat → Bool) (σ1 : zS), M1 = (if tm = 0 then M else goS (T 4 0) M) → Fm [12] σ σ1 → (∀ x, σ1.1 5060 x = σ.1 5060 x) → stM σ1 (T 4 0) M1 → ∃ σ', f_X12_couldBe_51 (f_X12_couldBe_38 fu) (nI L - 1) (nI tm) σ1 = some (bI (cbL (T 4 0) S R (j + 1) tm M), σ') ∧ Fm [12] σ σ' ∧ (∀ x, σ'.1 5060 x = σ.1 5060 x) := by
      intro M1 σ1 eM F1 k1 h1
      obtain ⟨σ2, e2, f2, k2, g2⟩ := m_isLeft (hK.mono F1 k1) (show tm < 200 by omega) h1
      unfold f_X12_couldBe_51
      rw [e2, b2s, nI_1]
      unfold cbL
      rw [← eM]
      cases anyU (sfS S R tm M1) (16 * T 4 0) 0 with
      | false =>
        rw [if_pos (show bI false = 0 from rfl)]
        exact ⟨σ2, rfl, F1.tr f2, fun x => by rw [k2, k1]⟩
      | true =>
        rw [if_neg (show ¬ bI true = 0 by decide), Bool.true_and]
        obtain ⟨σ3, e3, f3, k3⟩ := m_cbL hL j (tm + 1) fu _ σ2 (by omega) (by omega) ((hK.mono F1 k1).mono f2 k2) g2
        exact ⟨σ3, e3, (F1.tr f2).tr f3, fun x => by rw [k3, k2, k1]⟩
    unfold f_X12_couldBe_38
    rw [if_neg (fun z => by have := (m1lt hL (by omega)).mp z; omega)]
    by_cases h0 : tm = 0
    · rw [if_pos (by rw [h0]; decide)]
      exact main M σ (by rw [if_pos h0]) Fm.rf (fun x => rfl) hM
    · rw [if_neg (nI_nle (by omega) (by omega))]
      obtain ⟨σ1, e1, f1, g1, k1⟩ := m_goesOn hK.1 hK.2.1 hM
      rw [e1, bs]
      exact main _ σ1 (by rw [if_neg h0]) f1 k1 g1
theorem m_fstS {T : zT} {σ : zS} (hT : okT T) (hR : RM T σ) {m : Nat} (hm : m < T 4 2) : f_X12_firstState (nI m) σ = some (nI (fst T m)) := by
  have o := hT.1
  unfold f_X12_firstState
  rw [rd_nI (by omega) (by omega), bs, rd_nI (by omega) (by omega), bs, row0 hR.2.2.1.2.1 hm, row0 hR.2.2.1.2.2.1 hm]
  show some (nI 16 * nI (T 10 m) + nI 4 * nI (T 11 m)) = _
  rw [pk_mul, pk_mul, nI_add]; rfl
theorem m_cb0 {T : zT} {P R L m : Nat} {lm : Int32} {S : zT} (hL : L ≤ 100) (hm : m < T 4 2) : ∀ (j s fu : Nat) (σ : zS), s + j = 16 * T 4 0 → j < fu → KM T P R lm S σ → (∀ x, x < s → σ.1 5061 x = bI (decide (x = fst T m))) →
    ∃ σ', f_X12_couldBe_2 fu (nI m) (nI L - 1) (nI s) σ = some (bI (cbL (T 4 0) S R L 0 (fun x => decide (x = fst T m))), σ') ∧ Fm [12] σ σ' ∧ (∀ x, σ'.1 5060 x = σ.1 5060 x)
  | j, s, 0, σ, hj, hf, hK, h => by omega
  | 0, s, fu + 1, σ, hj, hf, hK, h => by
    have o := hK.1.1
    unfold f_X12_couldBe_2
    rw [m_many16 hK.2.1, bs, if_pos (nI_le (by omega) (by omega))]
    exact m_cbL hL L 0 FU (fun x => decide (x = fst T m)) σ (by omega) (by unfold FU; omega) hK (fun x hx => h x (by omega))
  | j + 1, s, fu + 1, σ, hj, hf, hK, h => by
    have o := hK.1.1
    have fl := fst_lt hK.1 hm
    have key : ∀ v : Bool, v = decide (s = fst T m) → ∃ σ', ((wrZ σ 5061 192 (nI s) (bI v)).bind fun σ_1 => f_X12_couldBe_2 fu (nI m) (nI L - 1) (nI s + 1) σ_1) = some (bI (cbL (T 4 0) S R L 0 (fun x => decide (x = fst T m))), σ') ∧ Fm [12] σ σ' ∧ (∀ x, σ'.1 5060 x = σ.1 5060 x) := by
      intro v hv
      rw [wrZ_nI (by omega) (by omega), bs, nar_b, nI_1]
      have F1 : Fm [12] σ (wI σ 5061 s (bI v)) := Fm.rf.wI rfl
      obtain ⟨σ1, e1, f1, k1⟩ := m_cb0 hL hm j (s + 1) fu (wI σ 5061 s (bI v)) (by omega) (by omega) (hK.mono F1 (fun x => by rw [wI_at, if_neg (by omega)])) (fun x hx => by
        by_cases e : x = s
        · rw [e, wI_self, hv]
        · rw [wI_at, if_neg (by omega)]; exact h x (by omega))
      exact ⟨σ1, e1, F1.tr f1, fun x => by rw [k1, wI_at, if_neg (by omega)]⟩
    unfold f_X12_couldBe_2 f_X12_couldBe_29
    rw [m_many16 hK.2.1, bs, if_neg (nI_ge (by omega) (by omega)), m_fstS hK.1 hK.2.1 hm, bs]
    by_cases e : s = fst T m
    · rw [if_pos (by rw [e])]
      exact key true (by rw [decide_eq_true e])
    · rw [if_neg (by rw [nI_eq (by omega) (by omega)]; exact e)]
      exact key false (by rw [decide_eq_false e])
theorem m_whoL {T : zT} {P R L : Nat} {lm : Int32} {S : zT} (hL : L ≤ 100) : ∀ (j m fu : Nat) (σ : zS), m + j = T 4 2 → j < fu → KM T P R lm S σ →
    ∃ σ', f_X12_whose_117 fu (nI L - 1) (nI (setN (fun m => cbL (T 4 0) S R L 0 (fun x => decide (x = fst T m))) m)) (nI m) σ = some (nI (setN (fun m => cbL (T 4 0) S R L 0 (fun x => decide (x = fst T m))) (T 4 2)), σ') ∧ Fm [12] σ σ'
  | j, m, 0, σ, hj, hf, hK => by omega
  | 0, m, fu + 1, σ, hj, hf, hK => by
    have o := hK.1.1
    unfold f_X12_whose_117
    rw [rd_lit (by decide) (by decide), bs, row0 hK.2.1.1 (k := 2) (by decide), if_pos (nI_le (by omega) (by omega)), show m = T 4 2 by omega]
    exact ⟨σ, rfl, Fm.rf⟩
  | j + 1, m, fu + 1, σ, hj, hf, hK => by
    have o := hK.1.1
    obtain ⟨σ1, e1, f1, k1⟩ := m_cb0 (m := m) hL (by omega) (16 * T 4 0) 0 FU σ (by omega) (by unfold FU; omega) hK (fun x hx => by omega)
    replace e1 : f_X12_couldBe (nI m) (nI L - 1) σ = _ := e1
    obtain ⟨σ2, e2, f2⟩ := m_whoL hL j (m + 1) fu σ1 (by omega) (by omega) (hK.mono f1 k1)
    have lt := setN_lt (fun m => cbL (T 4 0) S R L 0 (fun x => decide (x = fst T m))) m
    have p5 : 2 ^ m ≤ 2 ^ 5 := Nat.pow_le_pow_right (by decide) (by omega)
    unfold f_X12_whose_117 f_X12_whose_144
    simp only [lts]
    rw [rd_lit (by decide) (by decide), bs, row0 hK.2.1.1 (k := 2) (by decide), if_neg (nI_ge (by omega) (by omega)), e1, b2s, shl1 m (by omega), nI_1]
    rw [setN_s] at e2
    refine ⟨σ2, ?_, f1.tr f2⟩
    cases e : cbL (T 4 0) S R L 0 (fun x => decide (x = fst T m)) with
    | true =>
      rw [e, if_pos rfl] at e2
      rw [if_neg (show ¬ bI true = 0 by decide), nI_or (by omega) (by omega), or_new lt]; exact e2
    | false =>
      rw [e, if_neg (by decide), Nat.add_zero] at e2
      rw [if_pos (show bI false = 0 from rfl)]
      show f_X12_whose_117 fu (nI L - 1) (nI (setN (fun m => cbL (T 4 0) S R L 0 (fun x => decide (x = fst T m))) m) ||| nI 0) (nI (m + 1)) σ1 = _
      rw [nI_or (by omega) (by omega), Nat.or_zero]; exact e2
theorem m_whose {T : zT} {P R : Nat} {lm : Int32} {S : zT} {σ : zS} (hT : okT T) (hR : RM T σ) (oP : okP T P lm S) (hp : PrM P lm S σ) (hRP : R ≤ P) (hr : ∀ σ, PrM P lm S σ → f_X12_knownMany σ = nI R) :
    ∃ σ', f_X12_whose_7 FU 0 σ = some (nI (setN (fun m => cbL (T 4 0) S R (ltN S R R 0 0) 0 (fun x => decide (x = fst T m))) (T 4 2)), σ') ∧ Fm [12] σ σ' ∧ ltN S R R 0 0 ≤ 100 := by
  have P24 := oP.1
  have o := hT.1
  obtain ⟨σ1, e1, f1, g1⟩ := m_wei0 (by omega) hr R 0 FU σ (by omega) (by unfold FU; omega) hp (fun x hx => by omega)
  have p1 := hp.mono f1 rfl
  obtain ⟨σ2, e2, f2, g2⟩ := m_strL oP hRP R FU (fun _ => false) σ1 (Nat.le_refl _) (by unfold FU; omega) p1 g1
  have p2 := p1.mono f2 rfl
  have R2 := (hR.mono hT f1 rfl).mono hT f2 rfl
  have ls := m_last oP p2 hRP (hr σ2 p2) g2 R 0 0 FU (by omega) (by omega) (by unfold FU; omega)
  obtain ⟨σ3, e3, f3⟩ := m_whoL (lm := lm) (P := P) ls.2 (T 4 2) 0 FU σ2 (by omega) (by unfold FU; omega) ⟨hT, R2, oP, p2, hRP, hr σ2 p2, g2⟩
  refine ⟨σ3, ?_, (f1.tr f2).tr f3, ls.2⟩
  replace e1 : f_X12_whose_7 FU 0 σ = _ := e1
  rw [e1, e2]
  exact ls.1.trans e3
