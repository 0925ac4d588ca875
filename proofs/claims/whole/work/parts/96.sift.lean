/-! The pure part: sifting, by the class -/
def allB (f : Nat → Bool) : Nat → Bool
  | 0 => true
  | n + 1 => allB f n && f n
theorem allU_B (f : Nat → Bool) : ∀ j k, allB f (k + j) = (allB f k && allU f j k)
  | 0, k => by rw [Nat.add_zero]; show _ = (allB f k && true); rw [Bool.and_true]
  | j + 1, k => by
    have := allU_B f j (k + 1)
    rw [show k + (j + 1) = k + 1 + j by omega, this]
    show (allB f k && f k && allU f j (k + 1)) = (allB f k && (f k && allU f j (k + 1)))
    rw [Bool.and_assoc]
theorem allU_0 (f : Nat → Bool) (n : Nat) : allU f n 0 = allB f n := by
  have := allU_B f n 0
  rw [Nat.zero_add] at this
  rw [this]; rfl
/-- what the class knows of prints, and of what is struck -/
def KC (b : Bool) (T : zT) (P R : Nat) (lm : Int32) (S : zT) (σ : zS) : Prop := okT T ∧ RC b T σ ∧ okP T P lm S ∧ PrC P lm S σ ∧ R ≤ P ∧ f_X3_reach σ = nI R ∧ (∀ x, x < 24 → σ.1 1207 x = bI (skB S R x))
theorem KC.mono {b : Bool} {T : zT} {P R : Nat} {lm : Int32} {S : zT} {σ σ' : zS} (h : KC b T P R lm S σ) (F : Fc b [12] σ σ') (hk : ∀ x, σ'.1 1207 x = σ.1 1207 x) : KC b T P R lm S σ' := by
  obtain ⟨h1, h2, h3, h4, h5, h6, h7⟩ := h
  refine ⟨h1, h2.mono F rfl, h3, h4.mono F rfl, h5, ?_, fun x hx => by rw [hk]; exact h7 x hx⟩
  unfold f_X3_reach at h6 ⊢
  have e1 : σ'.1 1200 1 = σ.1 1200 1 := F.z (z := 9) (by cases b <;> rfl) rfl
  have e2 : σ'.1 1200 0 = σ.1 1200 0 := F.z (z := 9) (by cases b <;> rfl) rfl
  rw [e1, e2]; exact h6
theorem c_sfI {b : Bool} {T : zT} {P R : Nat} {lm : Int32} {S : zT} {k c : Nat} (r2 : Int32 → Int32 → Int32 → zS → Option zS) (hk : k < R) (s0 : S 0 k = 0) (hc : c < T 4 0) : ∀ (j i fu : Nat) (g : Nat → Bool) (σ : zS), i + j = 16 → j < fu → KC b T P R lm S σ → σ.1 1208 c = nI (setN g 16) →
    ∃ σ', f_X3_siftBy_10 r2 fu (nI k) (nI (T 4 0)) (nI c) (nI i) σ = r2 (nI k) (nI (T 4 0)) (nI (c + 1)) σ' ∧ Fc b [12] σ σ' ∧ (∀ x, σ'.1 1207 x = σ.1 1207 x) ∧ σ'.1 1208 c = nI (setN (fun x => g x && (decide (x < i) || decide (plc (16 * c + x) (S 2 k) = S 3 k + 1))) 16) ∧ (∀ x, x ≠ c → σ'.1 1208 x = σ.1 1208 x)
  | j, i, 0, g, σ, hj, hf, hK, h => by omega
  | 0, i, fu + 1, g, σ, hj, hf, hK, h => by
    unfold f_X3_siftBy_10
    rw [if_pos (show (16 : Int32) ≤ nI i from nI_le (a := 16) (by omega) (by omega)), nI_1]
    refine ⟨σ, rfl, Fc.rf, fun x => rfl, ?_, fun x _ => rfl⟩
    rw [h]
    congr 1
    apply setN_cong
    intro x hx
    rw [decide_eq_true (show x < i by omega), Bool.true_or, Bool.and_true]
  | j + 1, i, fu + 1, g, σ, hj, hf, hK, h => by
    have hK0 := hK
    obtain ⟨hT, hR, oP, hp, hRP, hr, hks⟩ := hK
    have o := hT.1
    have P24 := oP.1
    have q := (oP.2.2 k (by omega)).2 s0
    have pk := (hp.2.2 k (by omega)).2 s0
    have e16 : nI c * (16 : Int32) + nI i = nI (16 * c + i) := by show nI c * nI 16 + nI i = _; rw [pk_mul, nI_add, Nat.mul_comm]
    have pl := plc_le (s := 16 * c + i) (p := S 2 k) (by omega)
    unfold f_X3_siftBy_10 f_X3_siftBy_57
    rw [if_neg (show ¬ (16 : Int32) ≤ nI i from nI_ge (b := 16) (by omega) (by omega)), rd_nI (by omega) (by omega), bs, pk.2.1, rd_nI (by omega) (by omega), bs, pk.2.2, e16, c_place (by omega) q.2.1, nI_1]
    by_cases ep : plc (16 * c + i) (S 2 k) = S 3 k + 1
    · rw [if_pos ((plc_eq (by omega) (by omega)).mpr ep)]
      obtain ⟨σ1, e1, f1, k1, g1, x1⟩ := c_sfI (b := b) r2 hk s0 hc j (i + 1) fu g σ (by omega) (by omega) hK0 h
      refine ⟨σ1, e1, f1, k1, ?_, x1⟩
      rw [g1]
      congr 1
      apply setN_cong
      intro x hx
      by_cases e : x = i
      · subst e; rw [decide_eq_true ep, Bool.or_true, Bool.or_true]
      · by_cases hl : x < i
        · rw [decide_eq_true hl, decide_eq_true (show x < i + 1 by omega)]
        · rw [decide_eq_false hl, decide_eq_false (show ¬ x < i + 1 by omega)]
    · rw [if_neg (fun z => ep ((plc_eq (by omega) (by omega)).mp z)), rd_nI (by omega) (by omega), bs, h, clr16 (by omega), wr_nI (by omega) (by omega), bs]
      have F1 : Fc b [12] σ (wI σ 1208 c (nI (setN (fun x => g x && !(decide (x = i))) 16))) := Fc.rf.wI (by rw [zc12 8 c (by omega) (by omega)]; rfl)
      obtain ⟨σ1, e1, f1, k1, g1, x1⟩ := c_sfI (b := b) r2 hk s0 hc j (i + 1) fu (fun x => g x && !(decide (x = i))) (wI σ 1208 c (nI (setN (fun x => g x && !(decide (x = i))) 16))) (by omega) (by omega) (hK0.mono F1 (fun x => by rw [wI_at, if_neg (by omega)])) (wI_self _ _ _ _)
      refine ⟨σ1, e1, F1.tr f1, fun x => by rw [k1, wI_at, if_neg (by omega)], ?_, fun x hx => by rw [x1 x hx, wI_at, if_neg (fun z => hx z.2)]⟩
      rw [g1]
      congr 1
      apply setN_cong
      intro x hx
      try dsimp only
      by_cases e : x = i
      · subst e
        rw [decide_eq_true rfl, decide_eq_false ep, decide_eq_false (Nat.lt_irrefl _)]; simp
      · rw [decide_eq_false e]
        by_cases hl : x < i
        · rw [decide_eq_true hl, decide_eq_true (show x < i + 1 by omega)]; simp
        · rw [decide_eq_false hl, decide_eq_false (show ¬ x < i + 1 by omega)]; simp
theorem c_sfB {b : Bool} {T : zT} {P R : Nat} {lm : Int32} {S : zT} {k : Nat} {M : Nat → Bool} (hk : k < R) (s0 : S 0 k = 0) : ∀ (j c fu : Nat) (σ : zS), c + j = T 4 0 → j < fu → KC b T P R lm S σ → (∀ x, x < c → σ.1 1208 x = nI (setN (fun i => M (16 * x + i) && decide (plc (16 * x + i) (S 2 k) = S 3 k + 1)) 16)) → (∀ x, c ≤ x → x < T 4 0 → σ.1 1208 x = nI (setN (fun i => M (16 * x + i)) 16)) →
    ∃ σ', f_X3_siftBy_2 fu (nI k) (nI (T 4 0)) (nI c) σ = some σ' ∧ Fc b [12] σ σ' ∧ (∀ x, σ'.1 1207 x = σ.1 1207 x) ∧ stC σ' (T 4 0) (fun s => M s && decide (plc s (S 2 k) = S 3 k + 1))
  | j, c, 0, σ, hj, hf, hK, h1, h2 => by omega
  | 0, c, fu + 1, σ, hj, hf, hK, h1, h2 => by
    have o := hK.1.1
    unfold f_X3_siftBy_2
    rw [if_pos (nI_le (by omega) (by omega))]
    exact ⟨σ, rfl, Fc.rf, fun x => rfl, fun x hx => h1 x (by omega)⟩
  | j + 1, c, fu + 1, σ, hj, hf, hK, h1, h2 => by
    have o := hK.1.1
    unfold f_X3_siftBy_2
    rw [if_neg (nI_ge (by omega) (by omega))]
    obtain ⟨σ1, e1, f1, k1, g1, x1⟩ := c_sfI (b := b) (f_X3_siftBy_2 fu) hk s0 (show c < T 4 0 by omega) 16 0 FU (fun i => M (16 * c + i)) σ (by omega) (by unfold FU; omega) hK (h2 c (by omega) (by omega))
    replace e1 : f_X3_siftBy_10 (f_X3_siftBy_2 fu) FU (nI k) (nI (T 4 0)) (nI c) 0 σ = _ := e1
    rw [e1]
    obtain ⟨σ2, e2, f2, k2, g2⟩ := c_sfB (b := b) (M := M) hk s0 j (c + 1) fu σ1 (by omega) (by omega) (hK.mono f1 k1) (fun x hx => by
      by_cases e : x = c
      · rw [e, g1]
        apply congrArg
        apply setN_cong
        intro i hi
        try dsimp only
        try rw [decide_eq_false (Nat.not_lt_zero i), Bool.false_or]
      · rw [x1 x e]; exact h1 x (by omega)) (fun x hx hx2 => by rw [x1 x (by omega)]; exact h2 x (by omega) hx2)
    exact ⟨σ2, e2, f1.tr f2, fun x => by rw [k2, k1], g2⟩
theorem c_anyL {n : Nat} {M : Nat → Bool} {σ : zS} (hn : n ≤ 12) (hM : stC σ n M) : ∀ (j c A fu : Nat), c + j = n → j < fu → A < 2 ^ 16 → (A = 0 ↔ ∀ s, s < 16 * c → M s = false) → f_X3_sift_50 fu (nI n) (nI A) (nI c) σ = some (bI (anyU M (16 * n) 0), σ)
  | j, c, A, 0, hj, hf, hA, h => by omega
  | 0, c, A, fu + 1, hj, hf, hA, h => by
    unfold f_X3_sift_50
    rw [if_pos (nI_le (by omega) (by omega))]
    have ec : c = n := by omega
    rw [ec] at h
    cases e : anyU M (16 * n) 0 with
    | true =>
      obtain ⟨i, -, h2, h3⟩ := (any_iff _ _).mp e
      have : ¬ A = 0 := fun z => by rw [h.mp z i (by omega)] at h3; cases h3
      rw [if_neg (nI_ne0 (by omega) (by omega))]; rfl
    | false =>
      have : A = 0 := h.mpr (fun s hs => by
        cases q : M s with
        | false => rfl
        | true => rw [(any_iff _ _).mpr ⟨s, by omega, by omega, q⟩] at e; cases e)
      rw [this]; rfl
  | j + 1, c, A, fu + 1, hj, hf, hA, h => by
    have l1 := setN_lt (fun i => M (16 * c + i)) 16
    unfold f_X3_sift_50
    rw [if_neg (nI_ge (by omega) (by omega)), rd_nI (by omega) (by omega), bs, hM c (by omega), lts, nI_or (by omega) (by omega), nI_1]
    refine c_anyL hn hM j (c + 1) _ fu (by omega) (by omega) (Nat.or_lt_two_pow hA l1) ?_
    have z16 := add16 (f := fun i => M (16 * c + i))
    have zz : setN (fun i => M (16 * c + i)) 16 = 0 ↔ ∀ i, i < 16 → M (16 * c + i) = false := by
      rw [← z16]
      constructor
      · intro e; rw [e]; rfl
      · intro e; exact (nI_eq (by omega) (by omega)).mp (show _ = nI 0 from e)
    rw [Nat.or_eq_zero_iff, h, zz]
    constructor
    · rintro ⟨a1, a2⟩ s hs
      by_cases e : s < 16 * c
      · exact a1 s e
      · have := a2 (s - 16 * c) (by omega)
        rwa [show 16 * c + (s - 16 * c) = s by omega] at this
    · intro a
      exact ⟨fun s hs => a s (by omega), fun i hi => a (16 * c + i) (by omega)⟩
