/-! The pure part: whose -/
def sfB (S : zT) (R tm k : Nat) (M : Nat → Bool) (s : Nat) : Bool := M s && allB (fitP S R tm s) k
theorem stC.cong {σ : zS} {n : Nat} {M M' : Nat → Bool} (h : stC σ n M) (e : ∀ s, s < 16 * n → M s = M' s) : stC σ n M' := by
  intro c hc
  rw [h c hc]
  apply congrArg
  apply setN_cong
  intro i hi
  exact e _ (by omega)
theorem anyU_cong {f g : Nat → Bool} : ∀ (j k : Nat), (∀ i, k ≤ i → i < k + j → f i = g i) → anyU f j k = anyU g j k
  | 0, k, h => rfl
  | j + 1, k, h => by
    rw [anyU_s, anyU_s, h k (Nat.le_refl _) (by omega), anyU_cong j (k + 1) (fun i h1 h2 => h i (by omega) (by omega))]
theorem c_sf {b : Bool} {T : zT} {P R tm : Nat} {lm : Int32} {S : zT} {M : Nat → Bool} : ∀ (j i fu : Nat) (σ : zS), i + j = R → j < fu → KC b T P R lm S σ → tm < 200 → stC σ (T 4 0) (sfB S R tm i M) →
    ∃ σ', f_X3_sift_5 fu (nI tm) (nI (T 4 0)) 0 (nI i) σ = some (bI (anyU (sfS S R tm M) (16 * T 4 0) 0), σ') ∧ Fc b [12] σ σ' ∧ (∀ x, σ'.1 1207 x = σ.1 1207 x) ∧ stC σ' (T 4 0) (sfS S R tm M)
  | j, i, 0, σ, hj, hf, hK, ht, hM => by omega
  | 0, i, fu + 1, σ, hj, hf, hK, ht, hM => by
    have o := hK.1.1
    have P24 := hK.2.2.1.1
    have RP := hK.2.2.2.2.1
    have e : ∀ s, sfB S R tm i M s = sfS S R tm M s := fun s => by unfold sfB sfS; rw [allU_0, show i = R by omega]
    have hM2 := hM.cong (fun s _ => e s)
    unfold f_X3_sift_5
    rw [hK.2.2.2.2.2.1, if_pos (nI_le (by omega) (by omega))]
    have a := c_anyL (by omega) hM2 (T 4 0) 0 0 FU (by omega) (by unfold FU; omega) (by omega) ⟨fun _ s hs => by omega, fun _ => rfl⟩
    replace a : f_X3_sift_50 FU (nI (T 4 0)) 0 0 σ = _ := a
    exact ⟨σ, a, Fc.rf, fun x => rfl, hM2⟩
  | j + 1, i, fu + 1, σ, hj, hf, hK, ht, hM => by
    have hK0 := hK
    obtain ⟨hT, hR, oP, hp, hRP, hr, hks⟩ := hK
    have o := hT.1
    have P24 := oP.1
    have oi := oP.2.2 i (by omega)
    unfold f_X3_sift_5 f_X3_sift_41
    rw [hr, if_neg (nI_ge (by omega) (by omega)), rd_nI (by omega) (by omega), bs, c_known oP hp hRP hks (show i < R by omega), bs, nI_1]
    have skip : (∀ s, fitP S R tm s i = true) → ∃ σ', f_X3_sift_5 fu (nI tm) (nI (T 4 0)) 0 (nI (i + 1)) σ = some (bI (anyU (sfS S R tm M) (16 * T 4 0) 0), σ') ∧ Fc b [12] σ σ' ∧ (∀ x, σ'.1 1207 x = σ.1 1207 x) ∧ stC σ' (T 4 0) (sfS S R tm M) := by
      intro hfit
      exact c_sf j (i + 1) fu σ (by omega) (by omega) hK0 ht (hM.cong (fun s _ => by
        show (M s && allB (fitP S R tm s) i) = (M s && (allB (fitP S R tm s) i && fitP S R tm s i))
        rw [hfit s, Bool.and_true]))
    cases e : knB S R i with
    | false =>
      have sk := skip (fun s => by unfold fitP; rw [e]; rfl)
      by_cases ev : σ.1 1203 i = nI tm
      · rw [if_pos ev, if_pos (show bI false = 0 from rfl)]; exact sk
      · rw [if_neg ev]; exact sk
    | true =>
      have s0 : S 0 i = 0 := by
        unfold knB at e
        rw [Bool.and_eq_true] at e
        exact of_decide_eq_true e.2
      have q := oi.2 s0
      rw [((hp.2.2 i (by omega)).2 s0).1]
      by_cases et : S 1 i = tm
      · rw [if_pos (by rw [et]), if_neg (show ¬ bI true = 0 by decide)]
        obtain ⟨σ1, e1, f1, k1, g1⟩ := c_sfB (b := b) (M := sfB S R tm i M) (show i < R by omega) s0 (T 4 0) 0 FU σ (by omega) (by unfold FU; omega) hK0 (fun x hx => by omega) (fun x _ hx => hM x hx)
        replace e1 : f_X3_siftBy (nI i) (nI (T 4 0)) σ = _ := e1
        rw [e1, bs]
        obtain ⟨σ2, e2, f2, k2, g2⟩ := c_sf (tm := tm) (M := M) j (i + 1) fu σ1 (by omega) (by omega) (hK0.mono f1 k1) ht (g1.cong (fun s _ => by
          show (M s && allB (fitP S R tm s) i && decide (plc s (S 2 i) = S 3 i + 1)) = (M s && (allB (fitP S R tm s) i && fitP S R tm s i))
          have : fitP S R tm s i = decide (plc s (S 2 i) = S 3 i + 1) := by unfold fitP; rw [e, decide_eq_true et]; rfl
          rw [this, Bool.and_assoc]))
        exact ⟨σ2, e2, f1.tr f2, fun x => by rw [k2, k1], g2⟩
      · rw [if_neg (by rw [nI_eq (by omega) (by omega)]; exact et)]
        exact skip (fun s => by unfold fitP; rw [decide_eq_false et, Bool.and_false]; rfl)
theorem c_sift {b : Bool} {T : zT} {P R tm : Nat} {lm : Int32} {S : zT} {M : Nat → Bool} {σ : zS} (hK : KC b T P R lm S σ) (ht : tm < 200) (hM : stC σ (T 4 0) M) :
    ∃ σ', f_X3_sift (nI tm) (nI (T 4 0)) σ = some (bI (anyU (sfS S R tm M) (16 * T 4 0) 0), σ') ∧ Fc b [12] σ σ' ∧ (∀ x, σ'.1 1207 x = σ.1 1207 x) ∧ stC σ' (T 4 0) (sfS S R tm M) := by
  have P24 := hK.2.2.1.1
  have RP := hK.2.2.2.2.1
  exact c_sf (M := M) R 0 FU σ (by omega) (by unfold FU; omega) hK ht (hM.cong (fun s _ => by show M s = (M s && true); rw [Bool.and_true]))
theorem c_spread {b : Bool} {n : Nat} {M : Nat → Bool} {σ : zS} (hn : n ≤ 12) (hn2 : 0 < n) (hM : stC σ n M) :
    ∃ σ', f_X3_spreadOut (nI n) σ = some σ' ∧ Fc b [12] σ σ' ∧ stC σ' n (goS n M) ∧ (∀ x, σ'.1 1207 x = σ.1 1207 x) :=
  c_sprL hn hn2 n 0 FU σ (by omega) (by unfold FU; omega) hM (fun x hx => by omega)
theorem c_fitL {b : Bool} {T : zT} {P R L : Nat} {lm : Int32} {S : zT} (hL : L ≤ 100) : ∀ (j tm fu : Nat) (M : Nat → Bool) (σ : zS), tm + j = L → j < fu → KC b T P R lm S σ → stC σ (T 4 0) M →
    ∃ σ', f_X3_fit_46 fu (nI (T 4 0)) (nI L - 1) (nI tm) σ = some (bI (cbL (T 4 0) S R j tm M), σ') ∧ Fc b [12] σ σ' ∧ (∀ x, σ'.1 1207 x = σ.1 1207 x)
  | j, tm, 0, M, σ, hj, hf, hK, hM => by omega
  | 0, tm, fu + 1, M, σ, hj, hf, hK, hM => by
    unfold f_X3_fit_46
    rw [if_pos ((m1lt hL (by omega)).mpr (by omega))]
    exact ⟨σ, rfl, Fc.rf, fun x => rfl⟩
  | j + 1, tm, fu + 1, M, σ, hj, hf, hK, hM => by
    have o := hK.1.1
    have main : ∀ (M1 : Nat → Bool) (σ1 : zS), M1 = (if tm = 0 then M else goS (T 4 0) M) → Fc b [12] σ σ1 → (∀ x, σ1.1 1207 x = σ.1 1207 x) → stC σ1 (T 4 0) M1 → ∃ σ', f_X3_fit_63 (f_X3_fit_46 fu) (nI (T 4 0)) (nI L - 1) (nI tm) σ1 = some (bI (cbL (T 4 0) S R (j + 1) tm M), σ') ∧ Fc b [12] σ σ' ∧ (∀ x, σ'.1 1207 x = σ.1 1207 x) := by
      intro M1 σ1 eM F1 k1 h1
      obtain ⟨σ2, e2, f2, k2, g2⟩ := c_sift (hK.mono F1 k1) (show tm < 200 by omega) h1
      unfold f_X3_fit_63
      rw [e2, b2s, nI_1]
      unfold cbL
      rw [← eM]
      cases anyU (sfS S R tm M1) (16 * T 4 0) 0 with
      | false =>
        rw [if_pos (show bI false = 0 from rfl)]
        exact ⟨σ2, rfl, F1.tr f2, fun x => by rw [k2, k1]⟩
      | true =>
        rw [if_neg (show ¬ bI true = 0 by decide), Bool.true_and]
        obtain ⟨σ3, e3, f3, k3⟩ := c_fitL hL j (tm + 1) fu _ σ2 (by omega) (by omega) ((hK.mono F1 k1).mono f2 k2) g2
        exact ⟨σ3, e3, (F1.tr f2).tr f3, fun x => by rw [k3, k2, k1]⟩
    unfold f_X3_fit_46
    rw [if_neg (fun z => by have := (m1lt hL (by omega)).mp z; omega)]
    by_cases h0 : tm = 0
    · rw [if_pos (by rw [h0]; decide)]
      exact main M σ (by rw [if_pos h0]) Fc.rf (fun x => rfl) hM
    · rw [if_neg (nI_nle (by omega) (by omega))]
      obtain ⟨σ1, e1, f1, g1, k1⟩ := c_spread (b := b) (by omega) (by omega) hM
      rw [e1, bs]
      exact main _ σ1 (by rw [if_neg h0]) f1 k1 g1
theorem s16 : ∀ s, s < 192 → nI s - nI s / (16 : Int32) * (16 : Int32) = nI (s % 16) := by decide +kernel
theorem one16 {i : Nat} (hi : i < 16) : setN (fun x => decide (x = i)) 16 = 2 ^ i := by
  have : ∀ i, i < 16 → setN (fun x => decide (x = i)) 16 = 2 ^ i := by decide +kernel
  exact this i hi
theorem c_fit {b : Bool} {T : zT} {P R L s : Nat} {lm : Int32} {S : zT} {σ : zS} (hL : L ≤ 100) (hs : s < 16 * T 4 0) (hK : KC b T P R lm S σ) (hl : ∀ σ', KC b T P R lm S σ' → f_X3_lastTime σ' = some (nI L - 1)) :
    ∃ σ', f_X3_fit (nI s) (nI (T 4 0)) σ = some (bI (cbL (T 4 0) S R L 0 (fun x => decide (x = s))), σ') ∧ Fc b [12] σ σ' ∧ (∀ x, σ'.1 1207 x = σ.1 1207 x) := by
  have o := hK.1.1
  unfold f_X3_fit
  rw [fi_eq 1208 12 0 (by omega), bs, lts, c_cell (by omega), if_neg (nI_pos (by omega)), if_pos (show nI (s / 16) < (12 : Int32) from nI_lt (b := 12) (by omega) (by omega)), wr_nI (by omega) (by omega), bs, s16 s (by omega), shl1 _ (by omega)]
  have F1 : Fc b [12] σ (wI (wA σ 1208 (fun j => if j < 12 then 0 else σ.1 1208 j)) 1208 (s / 16) (nI (2 ^ (s % 16)))) := (Fc.rf.wA (fun k => by rw [zc12 8 k (by omega) (by omega)]; rfl)).wI (by rw [zc12 8 _ (by omega) (by omega)]; rfl)
  have k1 : ∀ x, (wI (wA σ 1208 (fun j => if j < 12 then 0 else σ.1 1208 j)) 1208 (s / 16) (nI (2 ^ (s % 16)))).1 1207 x = σ.1 1207 x := fun x => by rw [wI_at, if_neg (by omega), wA_at, if_neg (by omega)]
  have K1 := hK.mono F1 k1
  have M1 : stC (wI (wA σ 1208 (fun j => if j < 12 then 0 else σ.1 1208 j)) 1208 (s / 16) (nI (2 ^ (s % 16)))) (T 4 0) (fun x => decide (x = s)) := by
    intro c hc
    by_cases e : c = s / 16
    · rw [e, wI_self, ← one16 (show s % 16 < 16 by omega)]
      apply congrArg
      apply setN_cong
      intro i hi
      by_cases ei : i = s % 16
      · rw [decide_eq_true ei]; exact (decide_eq_true (by omega)).symm
      · rw [decide_eq_false ei]; exact (decide_eq_false (by omega)).symm
    · rw [wI_at, if_neg (fun z => e z.2), wA_at, if_pos rfl, if_pos (by omega), ← set_f]
      apply congrArg
      apply setN_cong
      intro i hi
      exact (decide_eq_false (by omega)).symm
  rw [hl _ K1, bs]
  obtain ⟨σ2, e2, f2, k2⟩ := c_fitL (b := b) hL L 0 FU (fun x => decide (x = s)) _ (by omega) (by unfold FU; omega) K1 M1
  exact ⟨σ2, e2, F1.tr f2, fun x => by rw [k2, k1]⟩
theorem c_whoL {b : Bool} {T : zT} {P R L : Nat} {lm : Int32} {S : zT} (hL : L ≤ 100) (hl : ∀ σ', KC b T P R lm S σ' → f_X3_lastTime σ' = some (nI L - 1)) : ∀ (j m fu : Nat) (σ : zS), m + j = T 4 2 → j < fu → KC b T P R lm S σ →
    ∃ σ', f_X11_whose_11 fu (nI (setN (fun m => cbL (T 4 0) S R L 0 (fun x => decide (x = fst T m))) m)) (nI m) σ = some (nI (setN (fun m => cbL (T 4 0) S R L 0 (fun x => decide (x = fst T m))) (T 4 2)), σ') ∧ Fc b [12] σ σ'
  | j, m, 0, σ, hj, hf, hK => by omega
  | 0, m, fu + 1, σ, hj, hf, hK => by
    have o := hK.1.1
    unfold f_X11_whose_11
    rw [hK.2.1.1.1, hK.2.1.2.1.2.2.1, if_pos (nI_le (by omega) (by omega)), show m = T 4 2 by omega]
    exact ⟨σ, rfl, Fc.rf⟩
  | j + 1, m, fu + 1, σ, hj, hf, hK => by
    have o := hK.1.1
    have e9 : σ.1 (tv b + 9) m = nI (fst T m) := row0 hK.2.1.2.2.2.1.2.1 (by omega)
    obtain ⟨σ1, e1, f1, k1⟩ := c_fit hL (fst_lt hK.1 (show m < T 4 2 by omega)) hK hl
    obtain ⟨σ2, e2, f2⟩ := c_whoL hL hl j (m + 1) fu σ1 (by omega) (by omega) (hK.mono f1 k1)
    have lt := setN_lt (fun m => cbL (T 4 0) S R L 0 (fun x => decide (x = fst T m))) m
    have p5 : 2 ^ m ≤ 2 ^ 5 := Nat.pow_le_pow_right (by decide) (by omega)
    unfold f_X11_whose_11 f_X11_whose_54
    simp only [lts]
    rw [hK.2.1.1.1, hK.2.1.2.1.2.2.1, if_neg (nI_ge (by omega) (by omega)), rd_nI (by omega) (by omega), bs, e9, hK.2.1.2.1.1, e1, b2s, shl1 m (by omega), nI_1]
    rw [setN_s] at e2
    refine ⟨σ2, ?_, f1.tr f2⟩
    cases e : cbL (T 4 0) S R L 0 (fun x => decide (x = fst T m)) with
    | true =>
      rw [e, if_pos rfl] at e2
      rw [if_neg (show ¬ bI true = 0 by decide), nI_or (by omega) (by omega), or_new lt]; exact e2
    | false =>
      rw [e, if_neg (by decide), Nat.add_zero] at e2
      rw [if_pos (show bI false = 0 from rfl)]; exact e2
theorem o_whose : op_whose V := by
  intro σc σm ⟨b, T, D, mv, h⟩
  have h0 := h.th 0
  have hT := h.oT
  have o := hT.1
  obtain ⟨P, lm, S, p1, p2, p3⟩ := h0.2.2.2.2.2
  have P24 := p1.1
  obtain ⟨R, hRP, hrc, hrm⟩ := reachR p1
  obtain ⟨σ1, e1, f1, g1⟩ := m_whose hT h0.cm.2.1 p1 p3 hRP hrm
  obtain ⟨σ2, e2, f2, g2⟩ := c_weigh (b := b) p1 p2 hRP hrc
  have p2' := p2.mono f2 rfl
  have K2 : KC b T P R lm S σ2 := ⟨hT, h.cc.2.1.mono f2 rfl, p1, p2', hRP, hrc σ2 p2', g2⟩
  have hl : ∀ σ', KC b T P R lm S σ' → f_X3_lastTime σ' = some (nI (ltN S R R 0 0) - 1) := fun σ' K => (c_last K.2.2.1 K.2.2.2.1 K.2.2.2.2.1 K.2.2.2.2.2.1 K.2.2.2.2.2.2 R 0 0 FU (by omega) (by omega) (by unfold FU; omega)).1
  obtain ⟨σ3, e3, f3⟩ := c_whoL g1 hl (T 4 2) 0 FU σ2 (by omega) (by unfold FU; omega) K2
  replace e3 : f_X11_whose_11 FU 0 0 σ2 = _ := e3
  refine ⟨nI (setN (fun m => cbL (T 4 0) S R (ltN S R R 0 0) 0 (fun x => decide (x = fst T m))) (T 4 2)), σ3, σ1, ?_, ?_, h0.q2 ((f2.mono rfl).tr (f3.mono rfl)) (f1.mono rfl)⟩
  · unfold f_X11_whose; rw [e2, bs, e3]
  · unfold f_X12_whose; rw [lts, e1]
