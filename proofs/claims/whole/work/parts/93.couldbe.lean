/-! The pure part: who could it be, by the reference -/
theorem m_goA {T : zT} {M : Nat → Bool} (hT : okT T) : ∀ (j s fu : Nat) (σ : zS), s + j = 16 * T 4 0 → j < fu → RM T σ → stM σ (T 4 0) M → (∀ x, x < s → σ.1 5062 x = bI (goS (T 4 0) M x)) →
    ∃ σ', f_X12_goesOn_2 fu (nI s) σ = f_X12_goesOn_72 FU 0 σ' ∧ Fm [12] σ σ' ∧ (∀ x, x < 16 * T 4 0 → σ'.1 5062 x = bI (goS (T 4 0) M x)) ∧ (∀ x, σ'.1 5060 x = σ.1 5060 x)
  | j, s, 0, σ, hj, hf, hR, hM, h => by omega
  | 0, s, fu + 1, σ, hj, hf, hR, hM, h => by
    have o := hT.1
    unfold f_X12_goesOn_2
    rw [m_many16 hR, bs, if_pos (nI_le (by omega) (by omega))]
    exact ⟨σ, rfl, Fm.rf, fun x hx => h x (by omega), fun x => rfl⟩
  | j + 1, s, fu + 1, σ, hj, hf, hR, hM, h => by
    have o := hT.1
    unfold f_X12_goesOn_2
    rw [m_many16 hR, bs, if_neg (nI_ge (by omega) (by omega)), rd_nI (by omega) (by omega), bs, hM s (by omega)]
    have e := m_goI (f_X12_goesOn_2 fu) hT hR hM (show s < 16 * T 4 0 by omega) 6 0 FU (M s) (by omega) (by unfold FU; omega)
    replace e : f_X12_goesOn_19 (f_X12_goesOn_2 fu) FU (nI s) (bI (M s)) 0 σ = f_X12_goesOn_2 fu (nI (s + 1)) (wI σ 5062 s (bI (goS (T 4 0) M s))) := e
    rw [e]
    have F1 : Fm [12] σ (wI σ 5062 s (bI (goS (T 4 0) M s))) := Fm.rf.wI rfl
    obtain ⟨σ1, e1, f1, g1, k1⟩ := m_goA hT j (s + 1) fu (wI σ 5062 s (bI (goS (T 4 0) M s))) (by omega) (by omega) (hR.mono hT F1 rfl) (fun x hx => by rw [wI_at, if_neg (by omega)]; exact hM x hx) (fun x hx => by
      by_cases e : x = s
      · rw [e, wI_self]
      · rw [wI_at, if_neg (by omega)]; exact h x (by omega))
    exact ⟨σ1, e1, F1.tr f1, g1, fun x => by rw [k1, wI_at, if_neg (by omega)]⟩
theorem m_goB {T : zT} {M : Nat → Bool} (hT : okT T) : ∀ (j s fu : Nat) (σ : zS), s + j = 16 * T 4 0 → j < fu → RM T σ → (∀ x, x < 16 * T 4 0 → σ.1 5062 x = bI (M x)) → (∀ x, x < s → σ.1 5061 x = bI (M x)) →
    ∃ σ', f_X12_goesOn_72 fu (nI s) σ = some σ' ∧ Fm [12] σ σ' ∧ stM σ' (T 4 0) M ∧ (∀ x, σ'.1 5060 x = σ.1 5060 x)
  | j, s, 0, σ, hj, hf, hR, hM, h => by omega
  | 0, s, fu + 1, σ, hj, hf, hR, hM, h => by
    have o := hT.1
    unfold f_X12_goesOn_72
    rw [m_many16 hR, bs, if_pos (nI_le (by omega) (by omega))]
    exact ⟨σ, rfl, Fm.rf, fun x hx => h x (by omega), fun x => rfl⟩
  | j + 1, s, fu + 1, σ, hj, hf, hR, hM, h => by
    have o := hT.1
    unfold f_X12_goesOn_72
    rw [m_many16 hR, bs, if_neg (nI_ge (by omega) (by omega)), rd_nI (by omega) (by omega), bs, hM s (by omega), wrZ_nI (by omega) (by omega), bs, nar_b, nI_1]
    have F1 : Fm [12] σ (wI σ 5061 s (bI (M s))) := Fm.rf.wI rfl
    obtain ⟨σ1, e1, f1, g1, k1⟩ := m_goB hT j (s + 1) fu (wI σ 5061 s (bI (M s))) (by omega) (by omega) (hR.mono hT F1 rfl) (fun x hx => by rw [wI_at, if_neg (by omega)]; exact hM x hx) (fun x hx => by
      by_cases e : x = s
      · rw [e, wI_self]
      · rw [wI_at, if_neg (by omega)]; exact h x (by omega))
    exact ⟨σ1, e1, F1.tr f1, g1, fun x => by rw [k1, wI_at, if_neg (by omega)]⟩
theorem m_goesOn {T : zT} {M : Nat → Bool} {σ : zS} (hT : okT T) (hR : RM T σ) (hM : stM σ (T 4 0) M) :
    ∃ σ', f_X12_goesOn σ = some σ' ∧ Fm [12] σ σ' ∧ stM σ' (T 4 0) (goS (T 4 0) M) ∧ (∀ x, σ'.1 5060 x = σ.1 5060 x) := by
  have o := hT.1
  obtain ⟨σ1, e1, f1, g1, k1⟩ := m_goA hT (16 * T 4 0) 0 FU σ (by omega) (by unfold FU; omega) hR hM (fun x hx => by omega)
  obtain ⟨σ2, e2, f2, g2, k2⟩ := m_goB hT (16 * T 4 0) 0 FU σ1 (by omega) (by unfold FU; omega) (hR.mono hT f1 rfl) g1 (fun x hx => by omega)
  replace e1 : f_X12_goesOn σ = _ := e1
  replace e2 : f_X12_goesOn_72 FU 0 σ1 = _ := e2
  exact ⟨σ2, e1.trans e2, f1.tr f2, g2, fun x => by rw [k2, k1]⟩
/-- what the reference knows of prints, and of what is struck -/
def KM (T : zT) (P R : Nat) (lm : Int32) (S : zT) (σ : zS) : Prop := okT T ∧ RM T σ ∧ okP T P lm S ∧ PrM P lm S σ ∧ R ≤ P ∧ f_X12_knownMany σ = nI R ∧ (∀ x, x < R → σ.1 5060 x = bI (skB S R x))
theorem KM.mono {T : zT} {P R : Nat} {lm : Int32} {S : zT} {σ σ' : zS} (h : KM T P R lm S σ) (F : Fm [12] σ σ') (hk : ∀ x, σ'.1 5060 x = σ.1 5060 x) : KM T P R lm S σ' := by
  obtain ⟨h1, h2, h3, h4, h5, h6, h7⟩ := h
  refine ⟨h1, h2.mono h1 F rfl, h3, h4.mono F rfl, h5, ?_, fun x hx => by rw [hk]; exact h7 x hx⟩
  unfold f_X12_knownMany at h6 ⊢
  have e1 : σ'.1 5000 54 = σ.1 5000 54 := F.z (z := 9) rfl rfl
  have e2 : σ'.1 5000 53 = σ.1 5000 53 := F.z (z := 9) rfl rfl
  rw [e1, e2]; exact h6
theorem plc_eq {a c : Nat} (ha : a < 1000) (hc : c < 900) : nI a - 1 = nI c ↔ a = c + 1 := by
  have h := m1_inj ha (show c + 1 < 1000 by omega)
  rwa [nI_pred] at h
theorem m_lfI {T : zT} {P R tm : Nat} {lm : Int32} {S : zT} (r4 : Int32 → Int32 → Int32 → zS → Option (Int32 × zS)) {s : Nat} (hs : s < 16 * T 4 0) (any : Bool) : ∀ (j i fu : Nat) (m : Bool) (σ : zS), i + j = R → j < fu → KM T P R lm S σ → tm < 200 → σ.1 5061 s = bI m →
    ∃ σ', f_X12_isLeft_15 r4 fu (nI tm) (bI any) (nI s) (nI i) σ = r4 (nI tm) (bI (any || (m && allU (fitP S R tm s) j i))) (nI (s + 1)) σ' ∧ Fm [12] σ σ' ∧ (∀ x, σ'.1 5060 x = σ.1 5060 x) ∧ σ'.1 5061 s = bI (m && allU (fitP S R tm s) j i) ∧ (∀ x, x ≠ s → σ'.1 5061 x = σ.1 5061 x)
  | j, i, 0, m, σ, hj, hf, hK, ht, h => by omega
  | 0, i, fu + 1, m, σ, hj, hf, hK, ht, h => by
    obtain ⟨hT, hR, oP, hp, hRP, hr, hk⟩ := hK
    have o := hT.1
    have P24 := oP.1
    unfold f_X12_isLeft_15 f_X12_isLeft_89
    rw [hr, if_pos (nI_le (by omega) (by omega)), rd_nI (by omega) (by omega), bs, h, nI_1]
    refine ⟨σ, ?_, Fm.rf, fun x => rfl, ?_, fun x _ => rfl⟩
    · show (if bI m = 0 then _ else _) = r4 (nI tm) (bI (any || (m && true))) _ σ
      cases m with
      | false => rw [if_pos (show bI false = 0 from rfl), Bool.false_and, Bool.or_false]
      | true => rw [if_neg (show ¬ bI true = 0 by decide), Bool.true_and, Bool.or_true]; rfl
    · show σ.1 5061 s = bI (m && true)
      rw [Bool.and_true]; exact h
  | j + 1, i, fu + 1, m, σ, hj, hf, hK, ht, h => by
    have hK0 := hK
    obtain ⟨hT, hR, oP, hp, hRP, hr, hk⟩ := hK
    have o := hT.1
    have P24 := oP.1
    have oi := oP.2.2 i (by omega)
    unfold f_X12_isLeft_15 f_X12_isLeft_72
    rw [hr, if_neg (nI_ge (by omega) (by omega)), m_known oP hp hRP hk (by omega), bs, nI_1, allU_s]
    have skip : fitP S R tm s i = true → ∃ σ', f_X12_isLeft_15 r4 fu (nI tm) (bI any) (nI s) (nI (i + 1)) σ = r4 (nI tm) (bI (any || (m && (fitP S R tm s i && allU (fitP S R tm s) j (i + 1))))) (nI (s + 1)) σ' ∧ Fm [12] σ σ' ∧ (∀ x, σ'.1 5060 x = σ.1 5060 x) ∧ σ'.1 5061 s = bI (m && (fitP S R tm s i && allU (fitP S R tm s) j (i + 1))) ∧ (∀ x, x ≠ s → σ'.1 5061 x = σ.1 5061 x) := by
      intro hf'
      rw [hf', Bool.true_and]
      exact m_lfI r4 hs any j (i + 1) fu m σ (by omega) (by omega) hK0 ht h
    cases e : knB S R i with
    | false =>
      rw [if_pos (show bI false = 0 from rfl)]
      exact skip (by unfold fitP; rw [e]; rfl)
    | true =>
      have s0 : S 0 i = 0 := by
        unfold knB at e
        rw [Bool.and_eq_true] at e
        exact of_decide_eq_true e.2
      have q := oi.2 s0
      have pi := (hp.2.2 i (by omega)).2 s0
      have pl := plc_le (s := s) (p := S 2 i) (show s < 192 by omega)
      rw [if_neg (show ¬ bI true = 0 by decide), rd_nI (by omega) (by omega), bs, pi.1]
      by_cases et : S 1 i = tm
      · rw [if_pos (by rw [et]), rd_nI (by omega) (by omega), bs, pi.2.1, rd_nI (by omega) (by omega), bs, pi.2.2, m_place (by omega) q.2.1]
        by_cases ep : plc s (S 2 i) = S 3 i + 1
        · rw [if_pos ((plc_eq (by omega) (by omega)).mpr ep)]
          exact skip (by unfold fitP; rw [decide_eq_true ep, Bool.or_true])
        · rw [if_neg (fun z => ep ((plc_eq (by omega) (by omega)).mp z)), wrZ_nI (by omega) (by omega), bs, nar0]
          have ff : fitP S R tm s i = false := by unfold fitP; rw [e, decide_eq_true et, decide_eq_false ep]; rfl
          have F1 : Fm [12] σ (wI σ 5061 s (bI false)) := Fm.rf.wI rfl
          obtain ⟨σ1, e1, f1, k1, g1, x1⟩ := m_lfI (tm := tm) r4 hs any j (i + 1) fu false (wI σ 5061 s (bI false)) (by omega) (by omega) (hK0.mono F1 (fun x => by rw [wI_at, if_neg (by omega)])) ht (wI_self _ _ _ _)
          rw [ff, Bool.false_and, Bool.and_false]
          rw [Bool.false_and] at e1 g1
          exact ⟨σ1, e1, F1.tr f1, fun x => by rw [k1, wI_at, if_neg (by omega)], g1, fun x hx => by rw [x1 x hx, wI_at, if_neg (fun z => hx z.2)]⟩
      · rw [if_neg (by rw [nI_eq (by omega) (by omega)]; exact et)]
        exact skip (by unfold fitP; rw [decide_eq_false et, Bool.and_false]; rfl)
theorem m_left1 {T : zT} {P R tm : Nat} {lm : Int32} {S : zT} {M : Nat → Bool} : ∀ (j s fu : Nat) (any : Bool) (σ : zS), s + j = 16 * T 4 0 → j < fu → KM T P R lm S σ → tm < 200 → (∀ x, x < s → σ.1 5061 x = bI (sfS S R tm M x)) → (∀ x, s ≤ x → x < 16 * T 4 0 → σ.1 5061 x = bI (M x)) →
    ∃ σ', f_X12_isLeft_4 fu (nI tm) (bI any) (nI s) σ = some (bI (any || anyU (sfS S R tm M) j s), σ') ∧ Fm [12] σ σ' ∧ (∀ x, σ'.1 5060 x = σ.1 5060 x) ∧ stM σ' (T 4 0) (sfS S R tm M)
  | j, s, 0, any, σ, hj, hf, hK, ht, h1, h2 => by omega
  | 0, s, fu + 1, any, σ, hj, hf, hK, ht, h1, h2 => by
    have o := hK.1.1
    unfold f_X12_isLeft_4
    rw [m_many16 hK.2.1, bs, if_pos (nI_le (by omega) (by omega))]
    refine ⟨σ, ?_, Fm.rf, fun x => rfl, fun x hx => h1 x (by omega)⟩
    show some (bI any &&& 1, σ) = some (bI (any || false), σ)
    rw [Bool.or_false]
    cases any <;> rfl
  | j + 1, s, fu + 1, any, σ, hj, hf, hK, ht, h1, h2 => by
    have o := hK.1.1
    have P24 := hK.2.2.1.1
    have RP := hK.2.2.2.2.1
    unfold f_X12_isLeft_4
    rw [m_many16 hK.2.1, bs, if_neg (nI_ge (by omega) (by omega))]
    obtain ⟨σ1, e1, f1, k1, g1, x1⟩ := m_lfI (tm := tm) (f_X12_isLeft_4 fu) (show s < 16 * T 4 0 by omega) any R 0 FU (M s) σ (by omega) (by unfold FU; omega) hK ht (h2 s (by omega) (by omega))
    replace e1 : f_X12_isLeft_15 (f_X12_isLeft_4 fu) FU (nI tm) (bI any) (nI s) 0 σ = f_X12_isLeft_4 fu (nI tm) (bI (any || sfS S R tm M s)) (nI (s + 1)) σ1 := e1
    rw [e1, anyU_s, ← Bool.or_assoc]
    obtain ⟨σ2, e2, f2, k2, g2⟩ := m_left1 (M := M) j (s + 1) fu (any || sfS S R tm M s) σ1 (by omega) (by omega) (hK.mono f1 k1) ht (fun x hx => by
      by_cases e : x = s
      · rw [e]; exact g1
      · rw [x1 x e]; exact h1 x (by omega)) (fun x hx hx2 => by rw [x1 x (by omega)]; exact h2 x (by omega) hx2)
    exact ⟨σ2, e2, f1.tr f2, fun x => by rw [k2, k1], g2⟩
theorem m_isLeft {T : zT} {P R tm : Nat} {lm : Int32} {S : zT} {M : Nat → Bool} {σ : zS} (hK : KM T P R lm S σ) (ht : tm < 200) (hM : stM σ (T 4 0) M) :
    ∃ σ', f_X12_isLeft (nI tm) σ = some (bI (anyU (sfS S R tm M) (16 * T 4 0) 0), σ') ∧ Fm [12] σ σ' ∧ (∀ x, σ'.1 5060 x = σ.1 5060 x) ∧ stM σ' (T 4 0) (sfS S R tm M) := by
  have o := hK.1.1
  obtain ⟨σ1, e1, f1, k1, g1⟩ := m_left1 (M := M) (16 * T 4 0) 0 FU false σ (by omega) (by unfold FU; omega) hK ht (fun x hx => by omega) (fun x _ hx => hM x hx)
  rw [Bool.false_or] at e1
  exact ⟨σ1, e1, f1, k1, g1⟩
