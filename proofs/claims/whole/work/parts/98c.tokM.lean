/-! The pure part: text. The tokens of the reference -/
def MT (f : Nat → Nat) (N p : Nat) (σ : zS) : Prop := N ≤ 700 ∧ (∀ k, f k < 256) ∧ p ≤ N ∧ σ.1 5000 23 = nI N ∧ σ.1 5000 24 = nI p ∧ rowN σ 5002 0 700 f
theorem MT.next {f : Nat → Nat} {N p : Nat} {σ : zS} (h : MT f N p σ) (hp : p < N) : MT f N (p + 1) (wI σ 5000 24 (nI (p + 1))) :=
  ⟨h.1, h.2.1, hp, h.2.2.2.1, rfl, fun k hk => h.2.2.2.2.2 k hk⟩
theorem MT.wr {f : Nat → Nat} {N p k : Nat} {v : Int32} {σ : zS} (h : MT f N p σ) (hk : 25 ≤ k) : MT f N p (wI σ 5000 k v) := by
  refine ⟨h.1, h.2.1, h.2.2.1, ?_, ?_, fun j hj => h.2.2.2.2.2 j hj⟩
  · rw [wI_at, if_neg (by omega)]; exact h.2.2.2.1
  · rw [wI_at, if_neg (by omega)]; exact h.2.2.2.2.1
theorem MT.up {f : Nat → Nat} {N p : Nat} {σ : zS} (h : MT f N p σ) : σ.1 5000 24 + 1 = nI (p + 1) := by rw [h.2.2.2.2.1, nI_1]
theorem MT.rd {f : Nat → Nat} {N p q : Nat} {σ : zS} (h : MT f N p σ) (hq : q < 700) : rdI σ 5002 700 (nI q) = some (nI (f q)) := by
  rw [rd_nI (by omega) (by omega), row0 h.2.2.2.2.2 (by omega)]
def hrV (f : Nat → Nat) (N p : Nat) : Int32 := if p < N then nI (f p) else -1
theorem m_here {f : Nat → Nat} {N p : Nat} {σ : zS} (h : MT f N p σ) : f_X12_here σ = some (hrV f N p) := by
  have hN := h.1
  have hp := h.2.2.1
  unfold f_X12_here hrV
  rw [h.2.2.2.1, h.2.2.2.2.1]
  by_cases hq : p < N
  · rw [if_neg (nI_ge hq (by omega)), if_pos hq, h.rd (by omega), bs]
  · rw [if_pos (nI_le (by omega) (by omega)), if_neg hq]
theorem m_isSm {c : Nat} (h : c < 256) (σ : zS) : f_X12_isSmall (nI c) σ = bI (tkL c) := isLet0 c h
theorem m_isDg {c : Nat} (h : c < 256) (σ : zS) : f_X12_isDigit (nI c) σ = bI (tkD c) := isDig0 c h
def tokTail (σ : zS) : Option zS :=
  lt (wI σ 5000 25 (σ.1 5000 24)) fun σ_9 =>
        (f_X12_here σ_9).bind fun v_12 =>
        if v_12 = (-1 : Int32) then
          lt (wI σ_9 5000 26 4) fun σ_26 =>
          some σ_26
        else
          if (f_X12_isSmall v_12 σ_9) = 0 then
            if (f_X12_isDigit v_12 σ_9) = 0 then
              (f_X12_sign v_12 σ_9).bind fun σ_20 =>
              some σ_20
            else
              lt (wI σ_9 5000 26 2) fun σ_22 =>
              lt (wI σ_22 5000 27 0) fun σ_24 =>
              f_X12_token_162 FU σ_24
          else
            f_X12_token_64 FU σ_9
theorem token0 (n : Nat) (σ : zS) : f_X12_token_0 (n + 1) σ = (f_X12_here σ).bind fun v_2 =>
    if v_2 = 10 then
      f_X12_token_18 (f_X12_token_0 n) σ
    else
      (f_X12_here σ).bind fun v_6 =>
      if v_6 = 32 then
        f_X12_token_18 (f_X12_token_0 n) σ
      else tokTail σ := rfl
theorem m_skip (d : Bool) {f : Nat → Nat} {N : Nat} : ∀ (j p fu : Nat) (σ : zS), p + j = N → j < fu → MT f N p σ →
    ∃ σ', f_X12_token_0 fu σ = tokTail σ' ∧ FD d [1] σ σ' ∧ MT f N (scn (fun q => tkS (f q)) j p) σ'
  | j, p, 0, σ, hj, hf, h => by omega
  | 0, p, fu + 1, σ, hj, hf, h => by
    rw [token0, m_here h, bs, bs]
    unfold hrV
    rw [if_neg (show ¬ p < N by omega), if_neg (by decide), if_neg (by decide)]
    exact ⟨σ, rfl, FD.rf, h⟩
  | j + 1, p, fu + 1, σ, hj, hf, h => by
    have hp : p < N := by omega
    rw [token0, m_here h, bs, bs]
    unfold hrV
    rw [if_pos hp]
    unfold scn
    have go : ∃ σ', f_X12_token_18 (f_X12_token_0 fu) σ = tokTail σ' ∧ FD d [1] σ σ' ∧ MT f N (scn (fun q => tkS (f q)) j (p + 1)) σ' := by
      unfold f_X12_token_18
      rw [lts, h.up]
      obtain ⟨σ', e, F, C⟩ := m_skip d j (p + 1) fu _ (by omega) (by omega) (h.next hp)
      exact ⟨σ', e, (FD.rf.wI rfl).tr F, C⟩
    by_cases h1 : f p = 10
    · rw [if_pos ((eq10 _ (h.2.1 p)).mpr h1), if_pos (show tkS (f p) = true by rw [h1]; rfl)]; exact go
    · rw [if_neg (fun z => h1 ((eq10 _ (h.2.1 p)).mp z))]
      by_cases h2 : f p = 32
      · rw [if_pos ((eq32 _ (h.2.1 p)).mpr h2), if_pos (show tkS (f p) = true by rw [h2]; rfl)]; exact go
      · rw [if_neg (fun z => h2 ((eq32 _ (h.2.1 p)).mp z)), if_neg (show ¬ tkS (f p) = true by unfold tkS; rw [decide_eq_false h1, decide_eq_false h2]; decide)]
        exact ⟨σ, rfl, FD.rf, h⟩
/-- numbers -/
def numM (f : Nat → Nat) : Nat → Nat → Nat → Nat
  | 0, p, v => v
  | j + 1, p, v => if tkD (f p) then numM f j (p + 1) (if v ≤ 99999 then v * 10 + (f p - 48) else v) else v
theorem numM_le (f : Nat → Nat) : ∀ j p v, v ≤ 1000000 → numM f j p v ≤ 1000000
  | 0, p, v, h => h
  | j + 1, p, v, h => by
    unfold numM
    cases e : tkD (f p) with
    | true =>
      have := dig_sub e
      rw [if_pos rfl]
      refine numM_le f j (p + 1) _ ?_
      split <;> omega
    | false => rw [if_neg (by decide)]; exact h
theorem num_rel (f : Nat → Nat) : ∀ j p v u, (v = u ∧ v ≤ 99999 ∨ 99999 < v ∧ 99999 < u) → (numC f j p v = numM f j p u ∧ numC f j p v ≤ 99999 ∨ 99999 < numC f j p v ∧ 99999 < numM f j p u)
  | 0, p, v, u, h => h
  | j + 1, p, v, u, h => by
    unfold numC numM
    cases e : tkD (f p) with
    | true =>
      have := dig_sub e
      rw [if_pos rfl, if_pos rfl]
      apply num_rel f j (p + 1)
      by_cases h1 : u ≤ 99999
      · rw [if_pos h1]
        obtain ⟨rfl, h2⟩ : v = u ∧ v ≤ 99999 := by omega
        rw [Nat.min_eq_left (by omega)]
        omega
      · rw [if_neg h1]
        right
        refine ⟨?_, by omega⟩
        have : 99999 < v := by omega
        simp only [Nat.lt_min]; omega
    | false => rw [if_neg (by decide), if_neg (by decide)]; exact h
theorem m_num (d : Bool) {f : Nat → Nat} {N : Nat} : ∀ (j p v fu : Nat) (σ : zS), p + j = N → j < fu → v ≤ 1000000 → MT f N p σ → σ.1 5000 27 = nI v →
    ∃ σ', f_X12_token_162 fu σ = some σ' ∧ FD d [1] σ σ' ∧ MT f N (scn (fun q => tkD (f q)) j p) σ' ∧ σ'.1 5000 27 = nI (numM f j p v) ∧ σ'.1 5000 26 = σ.1 5000 26 ∧ σ'.1 5000 25 = σ.1 5000 25
  | j, p, v, 0, σ, hj, hf, hv, h, h6 => by omega
  | 0, p, v, fu + 1, σ, hj, hf, hv, h, h6 => by
    unfold f_X12_token_162
    rw [m_here h, bs]
    unfold hrV
    rw [if_neg (show ¬ p < N by omega), if_pos (show f_X12_isDigit (-1) σ = 0 by unfold f_X12_isDigit; decide)]
    exact ⟨σ, rfl, FD.rf, h, h6, rfl, rfl⟩
  | j + 1, p, v, fu + 1, σ, hj, hf, hv, h, h6 => by
    have hp : p < N := by omega
    unfold f_X12_token_162
    rw [m_here h, bs, bs]
    unfold hrV
    rw [if_pos hp, m_isDg (h.2.1 p)]
    unfold scn numM
    cases e : tkD (f p) with
    | false =>
      rw [if_pos (show bI false = 0 from rfl), if_neg (show ¬ (false = true) by decide), if_neg (show ¬ (false = true) by decide)]
      exact ⟨σ, rfl, FD.rf, h, h6, rfl, rfl⟩
    | true =>
      have hd := dig_sub e
      rw [if_neg (show ¬ bI true = 0 by decide), if_pos rfl, if_pos rfl]
      unfold f_X12_token_204
      have go : ∀ w, w ≤ 1000000 → ∃ σ', (lt (wI σ 5000 27 (nI w)) fun σ_1 => lt (wI σ_1 5000 24 (σ_1.1 5000 24 + 1)) fun σ_3 => f_X12_token_162 fu σ_3) = some σ' ∧ FD d [1] σ σ' ∧ MT f N (scn (fun q => tkD (f q)) j (p + 1)) σ' ∧ σ'.1 5000 27 = nI (numM f j (p + 1) w) ∧ σ'.1 5000 26 = σ.1 5000 26 ∧ σ'.1 5000 25 = σ.1 5000 25 := by
        intro w hw
        have h' := h.wr (k := 27) (v := nI w) (by omega)
        rw [lts, lts, h'.up]
        obtain ⟨σ', e1, F, C, a6, a4, a5⟩ := m_num d j (p + 1) w fu _ (by omega) (by omega) hw (h'.next hp) rfl
        exact ⟨σ', e1, ((FD.rf.wI rfl).wI rfl).tr F, C, a6, a4, a5⟩
      rw [h6]
      by_cases hv9 : v ≤ 99999
      · rw [if_pos (show nI v ≤ 99999 from nI_le (b := 99999) hv9 (by omega)), if_pos hv9]
        rw [show (10 : Int32) = nI 10 from rfl, show (48 : Int32) = nI 48 from rfl, nI_mul, nI_add, nI_sub (by omega), show 10 * v + f p - 48 = v * 10 + (f p - 48) by omega]
        exact go _ (by omega)
      · rw [if_neg (show ¬ nI v ≤ 99999 from nI_ge (a := 99999) (by omega) (by omega)), if_neg hv9]
        exact go v hv
/-- words: the rows of letters -/
def wWs : List (List Nat) := [[115,116,114,101,101,116],[108,97,110,100],[109,97,110],[100,101,101,100],[98,97,114],[102,105,110,101],[115,101,101,100],[108,97,119],[110,111,114,116,104],[101,97,115,116],[115,111,117,116,104],[119,101,115,116],[108,101,102,116],[114,105,103,104,116],[108,104,97,110,100],[114,104,97,110,100],[108,102,111,111,116],[114,102,111,111,116],[104,111,108,100],[115,105,103,110],[104,105,116],[112,97,115,115],[98,105,110,100],[109,97,121],[116,97,120],[111,114],[97,110,100],[110,111,116],[112,97,114,116],[115,105,100,101],[119,104,101,114,101],[102,97,99,101],[99,114,111,115,115],[100,101,101,100],[104,111,117,114]]
def wLn (n : Nat) : Nat := (wWs.getD n []).length
def wCh (n i : Nat) : Nat := (wWs.getD n []).getD i 32
def wSt : Nat → Nat
  | 0 => 0
  | n + 1 => wSt n + wLn n + 1
def chK (x : Int32) : Option Int32 := f_J0_charAt_5068e 1 x (fun _ _ => 0, fun _ _ => 0, fun _ => false)
theorem chK_eq (x : Int32) (σ : zS) : f_J0_charAt_5068e 1 x σ = chK x := rfl
theorem wTab0 : ∀ n, n < 35 → 0 < wLn n ∧ wLn n ≤ 6 ∧ wSt n + wLn n < 176 ∧ ∀ i, i < 7 → i ≤ wLn n → chK (nI (wSt n + i)) = some (nI (wCh n i)) ∧ (wCh n i = 32 ↔ i = wLn n) ∧ (i < wLn n → tkL (wCh n i) = true) := by decide +kernel
theorem wSt35 : wSt 35 = 176 := by decide +kernel
theorem wLen0 (σ : zS) : f_J0_length_8abf5 1 σ = nI 176 := by
  show (nI 176) >>> ((0 : Int32) &&& 31) = nI 176
  decide
theorem wCh_lt : ∀ n, n < 35 → ∀ i, i < 7 → wCh n i < 256 := by decide +kernel
