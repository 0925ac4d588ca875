/-! The pure part: text. Steps of a line: numbers, choices, names; the bits of what is told -/
theorem tb_rd {v : Nat} (hv : v < 2 ^ 19) {p : Nat} (hp : p < 19) : (nI v >>> (nI p &&& 31)) &&& (1 : Int32) = nI (v / 2 ^ p % 2) := by
  have e : nI p &&& 31 = nI p := by
    have : ∀ p, p < 19 → nI p &&& 31 = nI p := by decide +kernel
    exact this p hp
  have e2 : ((nI p).toBitVec.smod 32).toNat = p := by
    have : ∀ p, p < 19 → ((nI p).toBitVec.smod 32).toNat = p := by decide +kernel
    exact this p hp
  rw [e, pk_shrN (by omega) _ p e2]
  have hl : v / 2 ^ p < 2 ^ 32 := Nat.lt_of_le_of_lt (Nat.div_le_self _ _) (by omega)
  exact pk_andN hl 1 (by decide)
theorem tb_bit (t : Nat → Bool) {p : Nat} (hp : p < 19) : setN t 19 / 2 ^ p % 2 = if t p then 1 else 0 := by
  have h := setN_tb t 19 p
  rw [decide_eq_true hp, Bool.true_and, Nat.testBit_eq_decide_div_mod_eq] at h
  cases e : t p with
  | true => rw [e] at h; simpa using h
  | false =>
    rw [e] at h
    have : ¬ setN t 19 / 2 ^ p % 2 = 1 := of_decide_eq_false h
    simp only [Bool.false_eq_true, if_false]
    omega
theorem tb_get (t : Nat → Bool) {p : Nat} (hp : p < 19) : (nI (setN t 19) >>> (nI p &&& 31)) &&& (1 : Int32) = bI (t p) := by
  rw [tb_rd (setN_lt t 19) hp, tb_bit t hp]
  cases t p <;> rfl
theorem tb_set (t : Nat → Bool) {p : Nat} (hp : p < 19) : nI (setN t 19) ||| ((1 : Int32) <<< (nI p &&& 31)) = nI (setN (fun j => t j || decide (j = p)) 19) := by
  have p19 : 2 ^ p < 2 ^ 19 := Nat.pow_lt_pow_right (by decide) hp
  have l := setN_lt t 19
  rw [shl1 p (by omega), nI_or (by omega) (by omega)]
  congr 1
  apply Nat.eq_of_testBit_eq
  intro j
  rw [Nat.testBit_or, setN_tb, setN_tb, Nat.testBit_two_pow]
  by_cases hj : j < 19
  · rw [decide_eq_true hj, Bool.true_and, Bool.true_and]
    by_cases e : j = p
    · subst e; simp
    · rw [decide_eq_false (show ¬ p = j from fun z => e z.symm), decide_eq_false e]
  · rw [decide_eq_false hj, decide_eq_false (show ¬ p = j by omega)]; rfl
theorem tb_12 (t : Nat → Bool) : (nI (setN t 19) >>> ((1 : Int32) &&& 31)) &&& (3 : Int32) = 0 ↔ t 1 = false ∧ t 2 = false := by
  have l := setN_lt t 19
  rw [show ((1 : Int32) &&& 31) = 1 from rfl, pk_shrN (by omega) 1 1 (by decide), pk_andN (Nat.lt_of_le_of_lt (Nat.div_le_self _ _) (by omega)) 2 (by decide)]
  have h1 := tb_bit t (p := 1) (by omega)
  have h2 := tb_bit t (p := 2) (by omega)
  have e : setN t 19 / 2 ^ 1 % 2 ^ 2 = setN t 19 / 2 ^ 1 % 2 + 2 * (setN t 19 / 2 ^ 2 % 2) := by omega
  rw [e, h1, h2]
  cases t 1 <;> cases t 2 <;> decide
/-- frames of a line: tokens, fault, and cells Y -/
def GD (d : Bool) (Y : Nat → Nat → Bool) (σ σ' : zS) : Prop := fEq (fun i p => [1, 12].elem (zd d i p) || Y i p) σ σ'
section
variable {d : Bool} {f : Nat → Nat} {N r : Nat} {σ σ' σ'' μ μ' : zS} {Y Y' : Nat → Nat → Bool}
theorem GD.rf : GD d Y σ σ := fEq.rf
theorem GD.tr (h : GD d Y σ σ') (h' : GD d Y σ' σ'') : GD d Y σ σ'' := fEq.tr h h'
theorem FD.gd {Z : List Nat} (h : FD d Z σ σ') (hz : Z.all (fun z => [1, 12].elem z) = true) : GD d Y σ σ' := fEq.mono h (fun _ _ z => el_sub hz (by simp only [Bool.or_eq_false_iff] at z; exact z.1))
theorem GD.wI {a k : Nat} {v : Int32} (h : GD d Y σ σ') (hs : Y a k = true) : GD d Y σ (wI σ' a k v) := fEq.wI h (by simp only [hs, Bool.or_true])
theorem GD.z {i k z : Nat} (h : GD d Y σ σ') (e : zd d i k = z) (hz : [1, 12].elem z = false) (hy : Y i k = false) : σ'.1 i k = σ.1 i k := h.2 i k (by show ([1, 12].elem (zd d i k) || Y i k) = false; rw [e, hz, hy]; rfl)
theorem GD.fd {Z : List Nat} (h : GD d Y σ σ') (h1 : [1, 12].all (fun z => Z.elem z) = true) (hY : ∀ i p, Y i p = true → Z.elem (zd d i p) = true) : FD d Z σ σ' := by
  refine fEq.mono h (fun i p z => ?_)
  have a : [1, 12].elem (zd d i p) = false := el_sub h1 z
  have b : Y i p = false := by
    cases e : Y i p with
    | false => rfl
    | true => have := hY i p e; rw [z] at this; cases this
  simp only [a, b, Bool.or_false]
theorem JX.fr {Z : List Nat} (h : JX σ μ) (G : FD d Z μ μ') (hz : Z.elem 12 = false) : JX σ μ' := by
  obtain ⟨a, b, c⟩ := h
  refine ⟨?_, ?_, ?_⟩
  · rw [G.z (i := 5000) (k := 28) (z := 12) rfl hz]; exact a
  · rw [G.z (i := 5000) (k := 28) (z := 12) rfl hz]; exact b
  · rw [G.z (i := 5000) (k := 29) (z := 12) rfl hz]; exact c
/-- with a fault the reference's steps stand still -/
theorem X_num (h : ¬ μ.1 5000 28 = 0) (x y : Int32) : f_X12_numeral x y μ = some (x, μ) := by unfold f_X12_numeral; rw [if_neg h]
theorem X_one (h : ¬ μ.1 5000 28 = 0) (x y : Int32) : f_X12_oneOf x y μ = some (0, μ) := by unfold f_X12_oneOf; rw [if_neg h]
theorem X_fresh (h : ¬ μ.1 5000 28 = 0) (a n : Nat) (x y : Int32) : f_X12_fresh a n x y μ = some (0, μ) := by unfold f_X12_fresh; rw [if_neg h]
theorem X_ahead (h : ¬ μ.1 5000 28 = 0) (a n : Nat) (x y : Int32) : f_X12_toldAhead a n x y μ = some (0, μ) := by unfold f_X12_toldAhead; rw [if_neg h]
theorem j_num (d : Bool) (h : JT f N r σ μ) (h0 : NF σ μ) {lo hi : Nat} (hlo : lo ≤ 100000) (hhi : hi ≤ 99999) :
    (∃ σ' μ', f_X4_takeNumber (nI lo) (nI hi) σ = some (-1, σ') ∧ f_X12_numeral (nI lo) (nI hi) μ = some (nI lo, μ') ∧ FD d [12] σ σ' ∧ FD d [12] μ μ' ∧ JX σ' μ') ∨
    (∃ σ' μ' v, lo ≤ v ∧ v ≤ hi ∧ f_X4_takeNumber (nI lo) (nI hi) σ = some (nI v, σ') ∧ f_X12_numeral (nI lo) (nI hi) μ = some (nI v, μ') ∧ FD d [1] σ σ' ∧ FD d [1] μ μ' ∧ JT f N r σ' μ' ∧ NF σ' μ') := by
  unfold f_X4_takeNumber f_X12_numeral
  rw [if_pos h0.1]
  have bad : ∀ k : Int32, ¬ k = 0 → ∃ σ' μ', f_X7_refuse k σ = some (0, σ') ∧ (f_X12_wrong k μ).bind (fun m => f_X12_numeral_46 (nI lo) m) = some (nI lo, μ') ∧ FD d [12] σ σ' ∧ FD d [12] μ μ' ∧ JX σ' μ' := by
    intro k hk
    obtain ⟨σ', μ', a1, a2, F, G, X⟩ := j_ref d h h0 hk
    refine ⟨σ', μ', a1, ?_, F, G, X⟩
    rw [a2, bs]; unfold f_X12_numeral_46; rw [if_neg X.1]
  have kinds : (∃ a c, a ≤ 1000000 ∧ c ≤ 1000000 ∧ (a = c ∧ a ≤ 99999 ∨ 99999 < a ∧ 99999 < c) ∧ σ.1 500 4 = 2 ∧ σ.1 500 6 = nI a ∧ μ.1 5000 26 = 2 ∧ μ.1 5000 27 = nI c) ∨ (¬ σ.1 500 4 = 2 ∧ ¬ μ.1 5000 26 = 2) := by
    obtain ⟨p, -, -, c, -⟩ := h
    rcases c with ⟨a, b⟩ | ⟨w, hw, a, b, c, e⟩ | ⟨X, hX, a, b, c, e, g⟩ | q | ⟨v, hv, a, b, c, e⟩ | ⟨a, b⟩
    · exact .inr ⟨by rw [a]; decide, by rw [b]; decide⟩
    · exact .inr ⟨by rw [a]; decide, by rw [c]; decide⟩
    · exact .inr ⟨by rw [a]; decide, by rw [e]; decide⟩
    · exact .inl q
    · exact .inr ⟨by rw [a]; decide, by rw [c]; decide⟩
    · exact .inr ⟨by rw [a]; decide, by rw [b]; decide⟩
  rcases kinds with ⟨a, c, ha, hc, hac, k1, k2, k3, k4⟩ | ⟨k1, k2⟩
  · rw [if_pos k1, if_pos k3, k2, k4, lts]
    by_cases hl : a < lo
    · left
      obtain ⟨σ', μ', a1, a2, F, G, X⟩ := bad 2 (by decide)
      refine ⟨σ', μ', ?_, ?_, F, G, X⟩
      · rw [if_pos (nI_lt hl (by omega))]; unfold f_X4_takeNumber_40; rw [a1, b2s]
      · rw [if_pos (nI_lt (show c < lo by omega) (by omega))]; exact a2
    · rw [if_neg (nI_nlt (show lo ≤ a by omega) (by omega)), if_neg (nI_nlt (show lo ≤ c by omega) (by omega))]
      by_cases hh : a ≤ hi
      · right
        have e : c = a := by omega
        subst e
        obtain ⟨σ', μ', a1, a2, F, G, J⟩ := j_adv1 (d := d) h (by rw [k1]; decide)
        refine ⟨σ', μ', c, by omega, hh, ?_, ?_, F, G, J.mono (by omega), h0.fr F G rfl rfl⟩
        · rw [if_pos (nI_le hh (by omega)), a1, bs]
        · rw [if_pos (nI_le hh (by omega))]; unfold f_X12_numeral_46; rw [if_pos h0.1, lts, a2, bs, k4]
      · left
        obtain ⟨σ', μ', a1, a2, F, G, X⟩ := bad 2 (by decide)
        refine ⟨σ', μ', ?_, ?_, F, G, X⟩
        · rw [if_neg (nI_ge (show hi < a by omega) (by omega))]; unfold f_X4_takeNumber_40; rw [a1, b2s]
        · rw [if_neg (nI_ge (show hi < c by omega) (by omega))]; exact a2
  · left
    obtain ⟨σ', μ', a1, a2, F, G, X⟩ := bad 1 (by decide)
    refine ⟨σ', μ', ?_, ?_, F, G, X⟩
    · rw [if_neg k1, a1, b2s]
    · rw [if_neg k2]; exact a2
theorem chC1 : ∀ a, a < 34 → ∀ w, w < 34 → decide (nI w - nI a < 0) = decide (w < a) := by decide +kernel
theorem chC2 : ∀ a, a < 34 → ∀ w, w < 34 → ∀ n, n < 5 → decide (a ≤ w ∧ nI w - nI a < nI n) = decide (a ≤ w ∧ w < a + n) := by decide +kernel
theorem chC3 : ∀ a, a < 34 → (-1 : Int32) - nI a < 0 := by decide +kernel
theorem chC {a n w : Nat} (ha : a < 34) (hn : n < 5) (hw : w < 34) : (nI w - nI a < 0 ↔ w < a) ∧ (a ≤ w → (nI w - nI a < nI n ↔ w < a + n)) ∧ (-1 : Int32) - nI a < 0 :=
  ⟨decide_eq_decide.mp (chC1 a ha w hw), fun h => ⟨fun z => ((decide_eq_decide.mp (chC2 a ha w hw n hn)).mp ⟨h, z⟩).2, fun z => ((decide_eq_decide.mp (chC2 a ha w hw n hn)).mpr ⟨h, z⟩).2⟩, chC3 a ha⟩
/-- the choice at hand -/
theorem j_ch (d : Bool) (h : JT f N r σ μ) (h0 : NF σ μ) {a n : Nat} (ha : a + n ≤ 33) (hn : n < 5) (hn0 : 0 < n) :
    (∃ k, k < n ∧ f_X4_choiceAtHand (nI a) (nI n) σ = some (nI k, σ) ∧ σ.1 500 4 = 1 ∧ μ.1 5000 26 = 0 ∧ μ.1 5000 27 = nI (a + k)) ∨
    (∃ σ' μ', f_X4_choiceAtHand (nI a) (nI n) σ = some (-1, σ') ∧ f_X12_wrong 1 μ = some μ' ∧ (¬ μ.1 5000 26 = 0 ∨ μ.1 5000 27 < nI a ∨ ¬ μ.1 5000 27 ≤ nI (a + n - 1)) ∧ FD d [12] σ σ' ∧ FD d [12] μ μ' ∧ JX σ' μ') := by
  obtain ⟨σ', μ', a1, a2, F, G, X⟩ := j_ref d h h0 (k := 1) (by decide)
  unfold f_X4_choiceAtHand f_X4_choiceAtHand_30
  rw [lts, a1, b2s]
  obtain ⟨p, -, -, c, -⟩ := h
  rcases c with ⟨a, b⟩ | ⟨w, hw, k1, k2, k3, k4⟩ | ⟨Z, hZ, k1, k2, k3, k4, k5⟩ | ⟨x, y, hx, hy, hr, a, b, c, e⟩ | ⟨v, hv, a, b, c, e⟩ | ⟨a, b⟩
  · right; exact ⟨σ', μ', by rw [if_neg (by rw [a]; decide)], a2, .inl (by rw [b]; decide), F, G, X⟩
  · have t := chC (a := a) (n := n) (w := w) (by omega) hn hw
    rw [if_pos k1, k2]
    by_cases hl : w < a
    · right
      refine ⟨σ', μ', by rw [if_pos (t.1.mpr hl)], a2, .inr (.inl ?_), F, G, X⟩
      rw [k4, show w34 w = w by unfold w34; split <;> omega]
      exact nI_lt hl (by omega)
    · rw [if_neg (fun z => hl (t.1.mp z))]
      by_cases hh : w < a + n
      · left
        refine ⟨w - a, by omega, ?_, k1, k3, ?_⟩
        · rw [if_pos ((t.2.1 (by omega)).mpr hh), nI_sub (by omega)]
        · rw [k4, show w34 w = a + (w - a) by unfold w34; split <;> omega]
      · right
        refine ⟨σ', μ', by rw [if_neg (fun z => hh ((t.2.1 (by omega)).mp z))], a2, .inr (.inr ?_), F, G, X⟩
        rw [k4]
        exact nI_ge (by unfold w34; split <;> omega) (by unfold w34; split <;> omega)
  · right
    refine ⟨σ', μ', ?_, a2, .inl (by rw [k4]; decide), F, G, X⟩
    rw [if_pos k1, k2, if_pos (chC (a := a) (n := n) (w := 0) (by omega) hn (by omega)).2.2]
  · right; exact ⟨σ', μ', by rw [if_neg (by rw [a]; decide)], a2, .inl (by rw [c]; decide), F, G, X⟩
  · right; exact ⟨σ', μ', by rw [if_neg (by rw [a]; decide)], a2, .inl (by rw [c]; decide), F, G, X⟩
  · right; exact ⟨σ', μ', by rw [if_neg (by rw [a]; decide)], a2, .inl (by rw [b]; decide), F, G, X⟩
theorem j_one (d : Bool) (h : JT f N r σ μ) (h0 : NF σ μ) {a n : Nat} (ha : a + n ≤ 33) (hn : n < 5) (hn0 : 0 < n) :
    (∃ σ' μ', f_X4_takeChoice (nI a) (nI n) σ = some (-1, σ') ∧ f_X12_oneOf (nI a) (nI (a + n - 1)) μ = some (0, μ') ∧ FD d [12] σ σ' ∧ FD d [12] μ μ' ∧ JX σ' μ') ∨
    (∃ σ' μ' v, v < n ∧ f_X4_takeChoice (nI a) (nI n) σ = some (nI v, σ') ∧ f_X12_oneOf (nI a) (nI (a + n - 1)) μ = some (nI v, μ') ∧ FD d [1] σ σ' ∧ FD d [1] μ μ' ∧ JT f N r σ' μ' ∧ NF σ' μ') := by
  unfold f_X4_takeChoice f_X12_oneOf f_X12_oneOf_32
  rw [if_pos h0.1]
  rcases j_ch d h h0 ha hn hn0 with ⟨k, hk, e1, k1, k3, k4⟩ | ⟨σ', μ', e1, e2, q, F, G, X⟩
  · right
    obtain ⟨σ', μ', a1, a2, F, G, J⟩ := j_adv1 (d := d) h (by rw [k1]; decide)
    refine ⟨σ', μ', k, hk, ?_, ?_, F, G, J.mono (by omega), h0.fr F G rfl rfl⟩
    · rw [e1, b2s, if_neg (nI_nm1 (by omega)), a1, bs]
    · rw [if_pos k3, k4, if_neg (nI_nlt (by omega) (by omega)), if_pos (nI_le (by omega) (by omega)), lts, a2, bs, nI_sub (by omega), show a + k - a = k by omega]
  · left
    refine ⟨σ', μ', ?_, ?_, F, G, X⟩
    · rw [e1, b2s, if_pos rfl]
    · rw [e2, bs]
      rcases q with q | q | q
      · rw [if_neg q]
      · rw [if_pos q, ite_self]
      · rw [if_neg q, ite_self, ite_self]
/-- the name at hand -/
theorem j_name (d : Bool) (h : JT f N r σ μ) (h0 : NF σ μ) :
    (∃ X, X < 2 ^ 30 ∧ f_X4_takeName σ = some (nI X, σ) ∧ σ.1 500 4 = 1 ∧ μ.1 5000 26 = 1 ∧ μ.1 5000 27 = nI X) ∨
    (∃ σ' μ', f_X4_takeName σ = some (-1, σ') ∧ f_X12_wrong 1 μ = some μ' ∧ ¬ μ.1 5000 26 = 1 ∧ FD d [12] σ σ' ∧ FD d [12] μ μ' ∧ JX σ' μ') := by
  obtain ⟨σ', μ', a1, a2, F, G, X⟩ := j_ref d h h0 (k := 1) (by decide)
  unfold f_X4_takeName f_X4_takeName_30
  rw [a1, b2s]
  obtain ⟨p, -, -, c, -⟩ := h
  rcases c with ⟨a, b⟩ | ⟨w, hw, k1, k2, k3, k4⟩ | ⟨Z, hZ, k1, k2, k3, k4, k5⟩ | ⟨x, y, hx, hy, hr, a, b, c, e⟩ | ⟨v, hv, a, b, c, e⟩ | ⟨a, b⟩
  · right; exact ⟨σ', μ', by rw [if_neg (by rw [a]; decide)], a2, by rw [b]; decide, F, G, X⟩
  · right; exact ⟨σ', μ', by rw [if_pos k1, k2, if_neg (nI_nm1 (by omega))], a2, by rw [k3]; decide, F, G, X⟩
  · left; exact ⟨Z, hZ, by rw [if_pos k1, if_pos k2, k3], k1, k4, k5⟩
  · right; exact ⟨σ', μ', by rw [if_neg (by rw [a]; decide)], a2, by rw [c]; decide, F, G, X⟩
  · right; exact ⟨σ', μ', by rw [if_neg (by rw [a]; decide)], a2, by rw [c]; decide, F, G, X⟩
  · right; exact ⟨σ', μ', by rw [if_neg (by rw [a]; decide)], a2, by rw [b]; decide, F, G, X⟩
theorem fnd_rng (g : Nat → Nat) (x : Int32) : ∀ n k, fnd g x n k = -1 ∨ ∃ j, k ≤ j ∧ j < k + n ∧ fnd g x n k = nI j
  | 0, k => .inl rfl
  | n + 1, k => by
    unfold fnd
    by_cases e : nI (g k) = x
    · rw [if_pos e]; exact .inr ⟨k, by omega, by omega, rfl⟩
    · rw [if_neg e]
      rcases fnd_rng g x n (k + 1) with h | ⟨j, h1, h2, h3⟩
      · exact .inl h
      · exact .inr ⟨j, by omega, by omega, h3⟩
/-- a new name; a name that is told: a row of n names g, of the class at i, of the reference at a from 5 -/
theorem j_fresh (d : Bool) (h : JT f N r σ μ) (h0 : NF σ μ) {i a n : Nat} {g : Nat → Nat} (hn : n ≤ 5) (hc : rowN σ i 0 n g) (hm : rowN μ a 5 n g) :
    (∃ σ' μ', (f_X4_takeName σ = some (-1, σ') ∨ ∃ X, X < 2 ^ 30 ∧ f_X4_takeName σ = some (nI X, σ) ∧ (∃ j, j < n ∧ f_X8_indexOf i 5 (nI n) (nI X) σ = some (nI j)) ∧ f_X7_refuse 3 σ = some (0, σ')) ∧
      f_X12_fresh a 10 5 (nI n) μ = some (0, μ') ∧ FD d [12] σ σ' ∧ FD d [12] μ μ' ∧ JX σ' μ') ∨
    (∃ σ' μ' X, X < 2 ^ 30 ∧ f_X4_takeName σ = some (nI X, σ) ∧ f_X8_indexOf i 5 (nI n) (nI X) σ = some (-1) ∧ f_X7_advance σ = some σ' ∧ f_X12_fresh a 10 5 (nI n) μ = some (nI X, μ') ∧ FD d [1] σ σ' ∧ FD d [1] μ μ' ∧ JT f N r σ' μ' ∧ NF σ' μ') := by
  unfold f_X12_fresh
  rw [if_pos h0.1]
  rcases j_name d h h0 with ⟨X, hX, e1, k1, k2, k3⟩ | ⟨σ', μ', e1, e2, k2, F, G, J⟩
  · have eC : f_X8_indexOf i 5 (nI n) (nI X) σ = some (fnd g (nI X) n 0) := by
      have := c_idx (x := nI X) (a := i) (l := 5) (n := n) (by omega) (by omega) hc n 0 FU (by omega) (by unfold FU; omega)
      unfold f_X8_indexOf
      exact this
    have eM : f_X12_found a 10 5 (nI n) (nI X) μ = some (fnd g (nI X) n 0) := by
      have := m_fnd (x := nI X) (a := a) (l := 10) (o := 5) (n := n) (by omega) (by omega) hm n 0 FU (by omega) (by unfold FU; omega)
      unfold f_X12_found
      exact this
    rw [if_pos k2, k3, eM, bs]
    rcases fnd_rng g (nI X) n 0 with e | ⟨j, -, hj, e⟩
    · right
      rw [e] at eC
      obtain ⟨σ', μ', a1, a2, F, G, J⟩ := j_adv1 (d := d) h (by rw [k1]; decide)
      refine ⟨σ', μ', X, hX, e1, eC, a1, ?_, F, G, J.mono (by omega), h0.fr F G rfl rfl⟩
      rw [e, if_pos rfl]; unfold f_X12_fresh_44; rw [if_pos h0.1, lts, a2, bs, k3]
    · left
      rw [e] at eC
      obtain ⟨σ', μ', a1, a2, F, G, J⟩ := j_ref d h h0 (k := 3) (by decide)
      refine ⟨σ', μ', .inr ⟨X, hX, e1, ⟨j, by omega, eC⟩, a1⟩, ?_, F, G, J⟩
      rw [e, if_neg (nI_nm1 (by omega)), a2, bs]; unfold f_X12_fresh_44; rw [if_neg J.1]
  · left
    refine ⟨σ', μ', .inl e1, ?_, F, G, J⟩
    rw [if_neg k2, e2, bs]; unfold f_X12_fresh_44; rw [if_neg J.1]
theorem j_ahead (d : Bool) (h : JT f N r σ μ) (h0 : NF σ μ) {i a n : Nat} {g : Nat → Nat} (hn : n ≤ 5) (hc : rowN σ i 0 n g) (hm : rowN μ a 5 n g) :
    (∃ σ' μ', (f_X4_takeName σ = some (-1, σ') ∨ ∃ X, X < 2 ^ 30 ∧ f_X4_takeName σ = some (nI X, σ) ∧ f_X8_indexOf i 5 (nI n) (nI X) σ = some (-1) ∧ f_X7_refuse 4 σ = some (0, σ')) ∧
      f_X12_toldAhead a 10 5 (nI n) μ = some (0, μ') ∧ FD d [12] σ σ' ∧ FD d [12] μ μ' ∧ JX σ' μ') ∨
    (∃ σ' μ' X j, X < 2 ^ 30 ∧ j < n ∧ f_X4_takeName σ = some (nI X, σ) ∧ f_X8_indexOf i 5 (nI n) (nI X) σ = some (nI j) ∧ f_X7_advance σ = some σ' ∧ f_X12_toldAhead a 10 5 (nI n) μ = some (nI j, μ') ∧ FD d [1] σ σ' ∧ FD d [1] μ μ' ∧ JT f N r σ' μ' ∧ NF σ' μ') := by
  unfold f_X12_toldAhead
  rw [if_pos h0.1]
  rcases j_name d h h0 with ⟨X, hX, e1, k1, k2, k3⟩ | ⟨σ', μ', e1, e2, k2, F, G, J⟩
  · have eC : f_X8_indexOf i 5 (nI n) (nI X) σ = some (fnd g (nI X) n 0) := by
      have := c_idx (x := nI X) (a := i) (l := 5) (n := n) (by omega) (by omega) hc n 0 FU (by omega) (by unfold FU; omega)
      unfold f_X8_indexOf
      exact this
    have eM : f_X12_found a 10 5 (nI n) (nI X) μ = some (fnd g (nI X) n 0) := by
      have := m_fnd (x := nI X) (a := a) (l := 10) (o := 5) (n := n) (by omega) (by omega) hm n 0 FU (by omega) (by unfold FU; omega)
      unfold f_X12_found
      exact this
    rw [if_pos k2, k3, eM, bs]
    rcases fnd_rng g (nI X) n 0 with e | ⟨j, -, hj, e⟩
    · left
      rw [e] at eC
      obtain ⟨σ', μ', a1, a2, F, G, J⟩ := j_ref d h h0 (k := 4) (by decide)
      refine ⟨σ', μ', .inr ⟨X, hX, e1, eC, a1⟩, ?_, F, G, J⟩
      rw [e, if_pos rfl, a2, bs]; unfold f_X12_toldAhead_44; rw [if_neg J.1]
    · right
      obtain ⟨σ', μ', a1, a2, F, G, J⟩ := j_adv1 (d := d) h (by rw [k1]; decide)
      refine ⟨σ', μ', X, j, hX, by omega, e1, by rw [eC, e], a1, ?_, F, G, J.mono (by omega), h0.fr F G rfl rfl⟩
      rw [e, if_neg (nI_nm1 (by omega))]; unfold f_X12_toldAhead_44; rw [if_pos h0.1, k3, eM, bs, a2, bs, e]
  · left
    refine ⟨σ', μ', .inl e1, ?_, F, G, J⟩
    rw [if_neg k2, e2, bs]; unfold f_X12_toldAhead_44; rw [if_neg J.1]
end
