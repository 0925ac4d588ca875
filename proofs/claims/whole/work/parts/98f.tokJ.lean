/-! The pure part: text. The token at hand of both -/
def sgL (v : Nat) : Bool := [40, 41, 42, 43, 45, 47, 59, 60, 61, 62, 256, 257, 258].elem v
def TR (σ μ : zS) : Prop :=
  (σ.1 500 4 = 0 ∧ μ.1 5000 26 = 4) ∨
  (∃ w, w < 34 ∧ σ.1 500 4 = 1 ∧ σ.1 500 6 = nI w ∧ μ.1 5000 26 = 0 ∧ μ.1 5000 27 = nI (w34 w)) ∨
  (∃ X, X < 2 ^ 30 ∧ σ.1 500 4 = 1 ∧ σ.1 500 6 = -1 ∧ σ.1 500 7 = nI X ∧ μ.1 5000 26 = 1 ∧ μ.1 5000 27 = nI X) ∨
  (∃ a c, a ≤ 1000000 ∧ c ≤ 1000000 ∧ (a = c ∧ a ≤ 99999 ∨ 99999 < a ∧ 99999 < c) ∧ σ.1 500 4 = 2 ∧ σ.1 500 6 = nI a ∧ μ.1 5000 26 = 2 ∧ μ.1 5000 27 = nI c) ∨
  (∃ v, sgL v = true ∧ σ.1 500 4 = 3 ∧ σ.1 500 6 = nI (encO 2 v) ∧ μ.1 5000 26 = 3 ∧ μ.1 5000 27 = nI v) ∨
  (σ.1 500 4 = 4 ∧ μ.1 5000 26 = 5)
theorem sgL_V {c n : Nat} (h : sgOk c = true) : sgL (sgV c n) = true := by
  have : c = 40 ∨ c = 41 ∨ c = 42 ∨ c = 43 ∨ c = 45 ∨ c = 47 ∨ c = 59 ∨ c = 60 ∨ c = 61 ∨ c = 62 := by
    unfold sgOk at h; simpa using List.mem_of_elem_eq_true h
  unfold sgV
  by_cases h1 : c = 60 ∧ n = 61
  · rw [if_pos h1]; rfl
  · rw [if_neg h1]
    by_cases h2 : c = 60 ∧ n = 62
    · rw [if_pos h2]; rfl
    · rw [if_neg h2]
      by_cases h3 : c = 62 ∧ n = 61
      · rw [if_pos h3]; rfl
      · rw [if_neg h3]
        rcases this with rfl | rfl | rfl | rfl | rfl | rfl | rfl | rfl | rfl | rfl <;> rfl
theorem tk_joint {f : Nat → Nat} {N q : Nat} {σ μ : zS} (hc : CK f N q σ) (hm : MK f N q μ) : TR σ μ := by
  unfold CK at hc
  unfold MK at hm
  unfold TR
  by_cases hq : N ≤ q
  · rw [if_pos hq] at hc hm
    exact .inl ⟨hc, hm⟩
  · rw [if_neg hq] at hc hm
    cases eL : tkL (f q) with
    | true =>
      rw [if_pos eL] at hc hm
      have sl := scn_le (fun k => tkL (f k)) (N - q) q
      have hl := scn_in (fun k => tkL (f k)) (N - q) q
      generalize scn (fun k => tkL (f k)) (N - q) q = e at hc hm sl hl
      unfold CW at hc
      unfold MW at hm
      by_cases h6 : 6 < e - q
      · rw [if_pos h6] at hc
        rw [fstM_no h6 35 0 (by omega), if_pos rfl, if_neg (by omega)] at hm
        exact .inr (.inr (.inr (.inr (.inr ⟨hc, hm⟩))))
      · rw [if_neg h6] at hc
        have hX := hx_lt (wdg_lt hl) 6
        rw [show 5 * 6 = 30 by omega] at hX
        rw [fstM_P (by omega) (by omega) hl 35 0 (by omega)] at hm
        rcases wFind hX with ⟨w, hw, e1, e2⟩ | ⟨e1, e2⟩
        · rw [e2, if_neg (nI_nm1 (by unfold w34; split <;> omega))] at hm
          rw [e1] at hc
          exact .inr (.inl ⟨w, hw, hc.1, hc.2.1, hm.1, hm.2⟩)
        · rw [e2, if_pos rfl, if_pos (by omega)] at hm
          rw [e1] at hc
          exact .inr (.inr (.inl ⟨_, hX, hc.1, hc.2.1, hc.2.2, hm.1, hm.2⟩))
    | false =>
      rw [if_neg (by rw [eL]; decide)] at hc hm
      cases eD : tkD (f q) with
      | true =>
        rw [if_pos eD] at hc hm
        exact .inr (.inr (.inr (.inl ⟨_, _, numC_le f _ _ 0 (by omega), numM_le f _ _ 0 (by omega), num_rel f (N - q) q 0 0 (by omega), hc.1, hc.2, hm.1, hm.2⟩)))
      | false =>
        rw [if_neg (by rw [eD]; decide)] at hc hm
        unfold CG at hc
        cases ho : sgOk (f q) with
        | true =>
          rw [if_pos ho] at hc hm
          exact .inr (.inr (.inr (.inr (.inl ⟨_, sgL_V ho, hc.1, hc.2, hm.2, hm.1⟩))))
        | false =>
          rw [if_neg (by rw [ho]; decide)] at hc hm
          exact .inr (.inr (.inr (.inr (.inr ⟨hc, hm.2⟩))))
theorem tkN_gt {f : Nat → Nat} {N q : Nat} (h : q < N) : q < tkN f N q := by
  unfold tkN
  rw [if_neg (by omega)]
  by_cases hL : tkL (f q) = true
  · rw [if_pos hL]
    obtain ⟨j, hj⟩ : ∃ j, N - q = j + 1 := ⟨N - q - 1, by omega⟩
    rw [hj]
    unfold scn
    rw [if_pos hL]
    have := scn_le (fun k => tkL (f k)) j (q + 1); omega
  · rw [if_neg hL]
    by_cases hD : tkD (f q) = true
    · rw [if_pos hD]
      obtain ⟨j, hj⟩ : ∃ j, N - q = j + 1 := ⟨N - q - 1, by omega⟩
      rw [hj]
      unfold scn
      rw [if_pos hD]
      have := scn_le (fun k => tkD (f k)) j (q + 1); omega
    · rw [if_neg hD]; omega
/-- both read the tape f of N bytes; at most r tokens are left, the one at hand among them -/
def JT (f : Nat → Nat) (N r : Nat) (σ μ : zS) : Prop := ∃ p, CT f N p σ ∧ MT f N p μ ∧ TR σ μ ∧ σ.1 500 5 = μ.1 5000 25 ∧ (σ.1 500 4 = 0 ∨ N - p < r)
theorem j_adv0 (d : Bool) {f : Nat → Nat} {N p : Nat} {σ μ : zS} (h : CT f N p σ) (h' : MT f N p μ) :
    ∃ σ' μ', f_X7_advance σ = some σ' ∧ f_X12_token μ = some μ' ∧ FD d [1] σ σ' ∧ FD d [1] μ μ' ∧ JT f N (N - p) σ' μ' := by
  obtain ⟨σ', e, F, C, k, a⟩ := c_adv d h
  obtain ⟨μ', e', F', C', k', a'⟩ := m_tok d h'
  have hp := h.2.2.1
  refine ⟨σ', μ', e, e', F, F', _, C, C', tk_joint k k', by rw [a, a'], ?_⟩
  have sl := scn_le (fun k => tkS (f k)) (N - p) p
  generalize scn (fun k => tkS (f k)) (N - p) p = q at k C sl
  by_cases hq : N ≤ q
  · left
    unfold CK at k
    rw [if_pos hq] at k; exact k
  · right
    have := tkN_gt (f := f) (N := N) (q := q) (by omega)
    have := C.2.2.1
    omega
theorem JT.mono {f : Nat → Nat} {N r r' : Nat} {σ μ : zS} (h : JT f N r σ μ) (hr : r ≤ r') : JT f N r' σ μ := by
  obtain ⟨p, a, b, c, e, g⟩ := h
  exact ⟨p, a, b, c, e, g.imp id (fun z => by omega)⟩
theorem j_adv (d : Bool) {f : Nat → Nat} {N r : Nat} {σ μ : zS} (h : JT f N (r + 1) σ μ) (hk : ¬ σ.1 500 4 = 0) :
    ∃ σ' μ', f_X7_advance σ = some σ' ∧ f_X12_token μ = some μ' ∧ FD d [1] σ σ' ∧ FD d [1] μ μ' ∧ JT f N r σ' μ' := by
  obtain ⟨p, a, b, c, e, g⟩ := h
  obtain ⟨σ', μ', e1, e2, F1, F2, J⟩ := j_adv0 d a b
  exact ⟨σ', μ', e1, e2, F1, F2, J.mono (by rcases g with g | g; exact absurd g hk; omega)⟩
/-- what the token at hand is read from stays -/
theorem JT.fr {d : Bool} {f : Nat → Nat} {N r : Nat} {Z Z' : List Nat} {σ σ' μ μ' : zS} (h : JT f N r σ μ) (F : FD d Z σ σ') (F' : FD d Z' μ μ') (hz : Z.elem 1 = false) (hz0 : Z.elem 0 = false) (hz' : Z'.elem 1 = false) (hz0' : Z'.elem 0 = false) : JT f N r σ' μ' := by
  have g : ∀ k, k = 3 ∨ k = 4 ∨ k = 5 ∨ k = 6 ∨ k = 7 → σ'.1 500 k = σ.1 500 k := fun k hk => F.z (z := 1) (by unfold zd; rw [if_pos rfl, if_neg (by omega), if_neg (by omega)]) hz
  have g2 : σ'.1 500 2 = σ.1 500 2 := F.z (z := 0) (by unfold zd; rfl) hz0
  have m : ∀ k, 24 ≤ k ∧ k ≤ 27 → μ'.1 5000 k = μ.1 5000 k := fun k hk => F'.z (z := 1) (by unfold zd; rw [if_neg (by omega), if_neg (by omega), if_pos rfl, if_pos hk]) hz'
  have m2 : μ'.1 5000 23 = μ.1 5000 23 := F'.z (z := 0) (by unfold zd; rfl) hz0'
  have td : tv d = 300 ∨ tv d = 400 := by cases d <;> simp [tv]
  have ld : tl d = 1300 ∨ tl d = 1400 := by cases d <;> simp [tl]
  have gz : ∀ i k, i = 101 ∨ i = 502 → σ'.1 i k = σ.1 i k := fun i k hi => F.z (z := 0) (by
    unfold zd
    rw [if_neg (by omega), if_neg (by omega), if_neg (by omega), if_neg (by omega), if_neg (by omega), if_neg (by omega), if_neg (by omega), if_neg (by omega), if_neg (by omega), if_neg (by omega), if_neg (by omega), if_neg (by omega), if_neg (by omega), if_neg (by omega), if_neg (by omega)]) hz0
  have mz : ∀ k, μ'.1 5002 k = μ.1 5002 k := fun k => F'.z (z := 0) (by
    unfold zd
    rw [if_neg (by omega), if_neg (by omega), if_neg (by omega), if_neg (by omega), if_neg (by omega), if_neg (by omega), if_neg (by omega), if_neg (by omega), if_neg (by omega), if_neg (by omega), if_neg (by omega), if_neg (by omega), if_neg (by omega), if_neg (by omega), if_neg (by omega)]) hz0'
  obtain ⟨p, a, b, c, e, q⟩ := h
  refine ⟨p, ⟨a.1, a.2.1, a.2.2.1, by rw [g2]; exact a.2.2.2.1, by rw [g 3 (by omega)]; exact a.2.2.2.2.1, fun k hk => by rw [gz 101 _ (by omega)]; exact a.2.2.2.2.2.1 k hk, fun k hk => by rw [gz 502 _ (by omega)]; exact a.2.2.2.2.2.2 k hk⟩,
    ⟨b.1, b.2.1, b.2.2.1, by rw [m2]; exact b.2.2.2.1, by rw [m 24 (by omega)]; exact b.2.2.2.2.1, fun k hk => by rw [mz]; exact b.2.2.2.2.2 k hk⟩, ?_, by rw [g 5 (by omega), m 25 (by omega)]; exact e, by rw [g 4 (by omega)]; exact q⟩
  unfold TR
  rw [g 4 (by omega), g 6 (by omega), g 7 (by omega), m 26 (by omega), m 27 (by omega)]
  exact c
/-- words and signs at hand -/
theorem JT.word {f : Nat → Nat} {N r : Nat} {σ μ : zS} (h : JT f N r σ μ) (h0 : μ.1 5000 28 = 0) {w : Nat} (hw : w < 33) : f_X12_isWord (nI w) μ = f_X7_isWord (nI w) σ := by
  obtain ⟨p, -, -, c, -⟩ := h
  unfold f_X12_isWord f_X7_isWord
  rw [if_pos h0]
  rcases c with ⟨a, b⟩ | ⟨x, hx, a, b, c, e⟩ | ⟨X, hX, a, b, c, e, g⟩ | ⟨x, y, hx, hy, hr, a, b, c, e⟩ | ⟨v, hv, a, b, c, e⟩ | ⟨a, b⟩
  · rw [a, b, if_neg (by decide), if_neg (by decide)]
  · rw [a, b, c, e, if_pos rfl, if_pos rfl]
    have : w34 x = w ↔ x = w := by unfold w34; split <;> omega
    by_cases z : x = w
    · rw [if_pos (by rw [this.mpr z]), if_pos (by rw [z])]
    · rw [if_neg (fun y => z (this.mp ((nI_eq (by unfold w34; split <;> omega) (by omega)).mp y))), if_neg (fun y => z ((nI_eq (by omega) (by omega)).mp y))]
  · rw [a, b, e, if_neg (by decide), if_pos rfl, if_neg (fun y => nI_nm1 (n := w) (by omega) y.symm)]
  · rw [a, c, if_neg (by decide), if_neg (by decide)]
  · rw [a, c, if_neg (by decide), if_neg (by decide)]
  · rw [a, b, if_neg (by decide), if_neg (by decide)]
theorem sgL_in {v : Nat} (h : sgL v = true) : v = 40 ∨ v = 41 ∨ v = 42 ∨ v = 43 ∨ v = 45 ∨ v = 47 ∨ v = 59 ∨ v = 60 ∨ v = 61 ∨ v = 62 ∨ v = 256 ∨ v = 257 ∨ v = 258 := by
  unfold sgL at h; simpa using List.mem_of_elem_eq_true h
theorem JT.sign {f : Nat → Nat} {N r : Nat} {σ μ : zS} (h : JT f N r σ μ) (h0 : μ.1 5000 28 = 0) {w : Nat} (hw : w < 256) : f_X12_isSign (nI w) μ = f_X7_isSign (nI w) σ := by
  obtain ⟨p, -, -, c, -⟩ := h
  unfold f_X12_isSign f_X7_isSign
  rw [if_pos h0]
  rcases c with ⟨a, b⟩ | ⟨x, hx, a, b, c, e⟩ | ⟨X, hX, a, b, c, e, g⟩ | ⟨x, y, hx, hy, hr, a, b, c, e⟩ | ⟨v, hv, a, b, c, e⟩ | ⟨a, b⟩
  · rw [a, b, if_neg (by decide), if_neg (by decide)]
  · rw [a, c, if_neg (by decide), if_neg (by decide)]
  · rw [a, e, if_neg (by decide), if_neg (by decide)]
  · rw [a, c, if_neg (by decide), if_neg (by decide)]
  · rw [a, b, c, e, if_pos rfl, if_pos rfl]
    have hi := sgL_in hv
    have h1 : encO 2 v < 2 ^ 31 := by rcases hi with rfl | rfl | rfl | rfl | rfl | rfl | rfl | rfl | rfl | rfl | rfl | rfl | rfl <;> decide
    have h2 : encO 2 v = w ↔ v = w := by
      rcases hi with rfl | rfl | rfl | rfl | rfl | rfl | rfl | rfl | rfl | rfl | rfl | rfl | rfl <;> simp [encO] <;> omega
    by_cases z : v = w
    · rw [if_pos (by rw [z]), if_pos (by rw [h2.mpr z])]
    · rw [if_neg (fun y => z ((nI_eq (by omega) (by omega)).mp y)), if_neg (fun y => z (h2.mp ((nI_eq h1 (by omega)).mp y)))]
  · rw [a, b, if_neg (by decide), if_neg (by decide)]
