/-! The pure part: text. The draft's zones; the tokens of the class -/
def zd (d : Bool) (i p : Nat) : Nat :=
  if i = 500 then (if p = 8 ∨ p = 9 then 12 else if p = 2 then 0 else 1)
  else if i = 200 then 2
  else if i = 5000 then (if 24 ≤ p ∧ p ≤ 27 then 1 else if p = 21 then 2 else if p = 22 then 11 else if p = 28 ∨ p = 29 then 12 else if p = 32 ∨ p = 33 then 7 else 0)
  else if i = 5004 then (if p = 8 then 3 else if p = 9 then 4 else if p = 10 then 5 else if p = 11 then 6 else if p = 12 then 8 else if p = 13 then 9 else if p = 14 then 10 else if p = 15 then 7 else 0)
  else if 5005 ≤ i ∧ i ≤ 5008 then (if 5 ≤ p then 4 else 0)
  else if 5009 ≤ i ∧ i ≤ 5013 then (if 5 ≤ p then 5 else 0)
  else if 5014 ≤ i ∧ i ≤ 5017 then (if 12 ≤ p then 6 else 0)
  else if 5018 ≤ i ∧ i ≤ 5019 then (if 3 ≤ p then 13 else 0)
  else if 5020 ≤ i ∧ i ≤ 5021 then (if 64 ≤ p then 7 else 0)
  else if i = tv d then (if p = 0 then 3 else if p = 1 then 4 else if p = 6 then 5 else if p = 11 then 6 else if p = 5 then 8 else if p = 16 then 9 else 0)
  else if tv d + 3 ≤ i ∧ i ≤ tv d + 5 then 4
  else if tv d + 8 ≤ i ∧ i ≤ tv d + 11 then 5
  else if tv d + 13 ≤ i ∧ i ≤ tv d + 16 then 6
  else if i = tl d ∨ (tl d + 3 ≤ i ∧ i ≤ tl d + 4) then 7
  else if tl d + 5 ≤ i ∧ i ≤ tl d + 6 then 13 else 0
def FD (d : Bool) (Z : List Nat) (σ σ' : zS) : Prop := fEq (fun i p => Z.elem (zd d i p)) σ σ'
theorem FD.rf {d : Bool} {Z : List Nat} {σ : zS} : FD d Z σ σ := fEq.rf
theorem FD.tr {d : Bool} {Z : List Nat} {σ σ' σ'' : zS} (h : FD d Z σ σ') (h' : FD d Z σ' σ'') : FD d Z σ σ'' := fEq.tr h h'
theorem FD.mono {d : Bool} {Z Z' : List Nat} {σ σ' : zS} (h : FD d Z σ σ') (hs : Z.all (fun z => Z'.elem z) = true) : FD d Z' σ σ' := fEq.mono h (fun _ _ z => el_sub hs z)
theorem FD.wI {d : Bool} {Z : List Nat} {σ σ' : zS} {a k : Nat} {v : Int32} (h : FD d Z σ σ') (hs : Z.elem (zd d a k) = true) : FD d Z σ (wI σ' a k v) := fEq.wI h hs
theorem FD.wA {d : Bool} {Z : List Nat} {σ σ' : zS} {a : Nat} {f : Nat → Int32} (h : FD d Z σ σ') (hs : ∀ k, Z.elem (zd d a k) = true) : FD d Z σ (wA σ' a f) := fEq.wA h hs
theorem FD.z {d : Bool} {Z : List Nat} {σ σ' : zS} (h : FD d Z σ σ') {i k z : Nat} (e : zd d i k = z) (hz : Z.elem z = false) : σ'.1 i k = σ.1 i k := h.2 i k (by show Z.elem _ = false; rw [e]; exact hz)
def tkL (c : Nat) : Bool := decide (97 ≤ c) && decide (c ≤ 122)
def tkD (c : Nat) : Bool := decide (48 ≤ c) && decide (c ≤ 57)
def tkS (c : Nat) : Bool := decide (c = 10) || decide (c = 32)
def scn (g : Nat → Bool) : Nat → Nat → Nat
  | 0, p => p
  | j + 1, p => if g p then scn g j (p + 1) else p
theorem scn_le (g : Nat → Bool) : ∀ j p, p ≤ scn g j p ∧ scn g j p ≤ p + j
  | 0, p => ⟨Nat.le_refl _, Nat.le_refl _⟩
  | j + 1, p => by
    have := scn_le g j (p + 1)
    unfold scn
    split <;> omega
theorem scn_end (g : Nat → Bool) : ∀ j p, scn g j p < p + j → g (scn g j p) = false
  | 0, p, h => by unfold scn at h; omega
  | j + 1, p, h => by
    unfold scn at h ⊢
    cases e : g p with
    | true =>
      rw [e] at h
      exact scn_end g j (p + 1) (by simp only [if_true] at h; omega)
    | false => exact e
theorem scn_in (g : Nat → Bool) : ∀ j p q, p ≤ q → q < scn g j p → g q = true
  | 0, p, q, h0, h => by unfold scn at h; omega
  | j + 1, p, q, h0, h => by
    unfold scn at h
    cases e : g p with
    | true =>
      rw [e] at h
      by_cases hq : q = p
      · rw [hq]; exact e
      · exact scn_in g j (p + 1) q (by omega) (by simpa using h)
    | false => rw [e] at h; simp at h; omega
theorem isLet0 : ∀ c, c < 256 → (if nI c < 97 then (0 : Int32) else if (122 : Int32) < nI c then 0 else 1) = bI (tkL c) := by decide +kernel
theorem isDig0 : ∀ c, c < 256 → (if nI c < 48 then (0 : Int32) else if (57 : Int32) < nI c then 0 else 1) = bI (tkD c) := by decide +kernel
theorem bIt : bI true = 1 := rfl
theorem bIf : bI false = 0 := rfl
theorem c_isLet {c : Nat} (h : c < 256) (σ : zS) : f_X7_isLetter (nI c) σ = bI (tkL c) := isLet0 c h
theorem c_isDig {c : Nat} (h : c < 256) (σ : zS) : f_X7_isDigit (nI c) σ = bI (tkD c) := isDig0 c h
theorem bI_e0 {b : Bool} : bI b = 0 ↔ b = false := by cases b <;> decide
/-- the class's tape, with the place of reading -/
def CT (f : Nat → Nat) (N p : Nat) (σ : zS) : Prop := N ≤ 700 ∧ (∀ k, f k < 256) ∧ p ≤ N ∧ σ.1 500 2 = nI N ∧ σ.1 500 3 = nI p ∧ rowN σ 101 0 700 f ∧ ∀ k, k < 34 → σ.1 502 k = langW.getD k 0
theorem CT.next {f : Nat → Nat} {N p : Nat} {σ : zS} (h : CT f N p σ) (hp : p < N) : CT f N (p + 1) (wI σ 500 3 (nI (p + 1))) :=
  ⟨h.1, h.2.1, hp, h.2.2.2.1, rfl, fun k hk => h.2.2.2.2.2.1 k hk, fun k hk => h.2.2.2.2.2.2 k hk⟩
theorem CT.wr {f : Nat → Nat} {N p k : Nat} {v : Int32} {σ : zS} (h : CT f N p σ) (hk : 4 ≤ k) : CT f N p (wI σ 500 k v) := by
  refine ⟨h.1, h.2.1, h.2.2.1, ?_, ?_, fun j hj => h.2.2.2.2.2.1 j hj, fun j hj => h.2.2.2.2.2.2 j hj⟩
  · rw [wI_at, if_neg (by omega)]; exact h.2.2.2.1
  · rw [wI_at, if_neg (by omega)]; exact h.2.2.2.2.1
theorem CT.rd {f : Nat → Nat} {N p : Nat} {σ : zS} (h : CT f N p σ) (hp : p < N) : rdI σ 101 700 (σ.1 500 3) = some (nI (f p)) := by
  have := h.1
  rw [h.2.2.2.2.1, rd_nI (by omega) (by omega), row0 h.2.2.2.2.2.1 (by omega)]
theorem CT.lt {f : Nat → Nat} {N p : Nat} {σ : zS} (h : CT f N p σ) (hp : p < N) : ¬ σ.1 500 2 ≤ σ.1 500 3 := by
  have := h.1
  rw [h.2.2.2.1, h.2.2.2.2.1]; exact nI_ge hp (by omega)
theorem CT.ge {f : Nat → Nat} {N p : Nat} {σ : zS} (h : CT f N p σ) (hp : p = N) : σ.1 500 2 ≤ σ.1 500 3 := by
  have := h.1
  rw [h.2.2.2.1, h.2.2.2.2.1]; exact nI_le (by omega) (by omega)
theorem CT.up {f : Nat → Nat} {N p : Nat} {σ : zS} (h : CT f N p σ) : σ.1 500 3 + 1 = nI (p + 1) := by rw [h.2.2.2.2.1, nI_1]
theorem eq10 : ∀ c, c < 256 → ((nI c = 10) ↔ c = 10) := by decide +kernel
theorem eq32 : ∀ c, c < 256 → ((nI c = 32) ↔ c = 32) := by decide +kernel
theorem c_skip (d : Bool) {f : Nat → Nat} {N : Nat} : ∀ (j p fu : Nat) (σ : zS), p + j = N → j < fu → CT f N p σ →
    ∃ σ', f_X7_advance_0 fu σ = f_X7_advance_52 σ' ∧ FD d [1] σ σ' ∧ CT f N (scn (fun q => tkS (f q)) j p) σ'
  | j, p, 0, σ, hj, hf, h => by omega
  | 0, p, fu + 1, σ, hj, hf, h => by
    unfold f_X7_advance_0
    rw [if_pos (h.ge (by omega))]
    exact ⟨σ, rfl, FD.rf, h⟩
  | j + 1, p, fu + 1, σ, hj, hf, h => by
    have hp : p < N := by omega
    unfold f_X7_advance_0
    rw [if_neg (h.lt hp), h.rd hp, bs, bs]
    unfold scn
    have go : ∃ σ', f_X7_advance_39 (f_X7_advance_0 fu) σ = f_X7_advance_52 σ' ∧ FD d [1] σ σ' ∧ CT f N (scn (fun q => tkS (f q)) j (p + 1)) σ' := by
      unfold f_X7_advance_39
      rw [lts, h.up]
      obtain ⟨σ', e, F, C⟩ := c_skip d j (p + 1) fu _ (by omega) (by omega) (h.next hp)
      exact ⟨σ', e, (FD.rf.wI rfl).tr F, C⟩
    by_cases h1 : f p = 10
    · rw [if_pos ((eq10 _ (h.2.1 p)).mpr h1), if_pos (show tkS (f p) = true by rw [h1]; rfl)]; exact go
    · rw [if_neg (fun z => h1 ((eq10 _ (h.2.1 p)).mp z))]
      by_cases h2 : f p = 32
      · rw [if_pos ((eq32 _ (h.2.1 p)).mpr h2), if_pos (show tkS (f p) = true by rw [h2]; rfl)]; exact go
      · rw [if_neg (fun z => h2 ((eq32 _ (h.2.1 p)).mp z)), if_neg (show ¬ tkS (f p) = true by unfold tkS; rw [decide_eq_false h1, decide_eq_false h2]; decide)]
        exact ⟨σ, rfl, FD.rf, h⟩
/-- numbers -/
def numC (f : Nat → Nat) : Nat → Nat → Nat → Nat
  | 0, p, v => v
  | j + 1, p, v => if tkD (f p) then numC f j (p + 1) (min (v * 10 + (f p - 48)) 1000000) else v
theorem numC_le (f : Nat → Nat) : ∀ j p v, v ≤ 1000000 → numC f j p v ≤ 1000000
  | 0, p, v, h => h
  | j + 1, p, v, h => by
    unfold numC
    split
    · exact numC_le f j (p + 1) _ (Nat.min_le_right _ _)
    · exact h
theorem dig_sub {c : Nat} (h : tkD c = true) : 48 ≤ c ∧ c ≤ 57 := by
  unfold tkD at h
  simp only [Bool.and_eq_true, decide_eq_true_eq] at h; exact h
theorem let_sub {c : Nat} (h : tkL c = true) : 97 ≤ c ∧ c ≤ 122 := by
  unfold tkL at h
  simp only [Bool.and_eq_true, decide_eq_true_eq] at h; exact h
theorem nI_sub {a c : Nat} (h : c ≤ a) : nI a - nI c = nI (a - c) := by
  have e : nI a = nI (a - c) + nI c := by rw [nI_add, Nat.sub_add_cancel h]
  rw [e]
  apply Int32.toBitVec_inj.mp
  rw [Int32.toBitVec_sub, Int32.toBitVec_add, BitVec.add_sub_cancel]
theorem min_nI {a c : Nat} (ha : a < 2 ^ 31) (hc : c < 2 ^ 31) (σ : zS) : f_J9_min_7cf53 (nI a) (nI c) σ = nI (min a c) := by
  unfold f_J9_min_7cf53
  by_cases h : c < a
  · rw [if_pos (nI_lt h ha), Nat.min_eq_right (by omega)]
  · rw [if_neg (nI_nlt (by omega) hc), Nat.min_eq_left (by omega)]
theorem nI_mul (a c : Nat) : nI a * nI c = nI (a * c) := (Int32.ofNat_mul a c).symm
theorem c_num (d : Bool) {f : Nat → Nat} {N : Nat} : ∀ (j p v fu : Nat) (σ : zS), p + j = N → j < fu → v ≤ 1000000 → CT f N p σ → σ.1 500 6 = nI v →
    ∃ σ', f_X7_takeNumber_5 fu σ = some σ' ∧ FD d [1] σ σ' ∧ CT f N (scn (fun q => tkD (f q)) j p) σ' ∧ σ'.1 500 6 = nI (numC f j p v) ∧ σ'.1 500 4 = σ.1 500 4 ∧ σ'.1 500 5 = σ.1 500 5
  | j, p, v, 0, σ, hj, hf, hv, h, h6 => by omega
  | 0, p, v, fu + 1, σ, hj, hf, hv, h, h6 => by
    unfold f_X7_takeNumber_5
    rw [if_pos (h.ge (by omega))]
    exact ⟨σ, rfl, FD.rf, h, h6, rfl, rfl⟩
  | j + 1, p, v, fu + 1, σ, hj, hf, hv, h, h6 => by
    have hp : p < N := by omega
    unfold f_X7_takeNumber_5
    rw [if_neg (h.lt hp), h.rd hp, bs, c_isDig (h.2.1 p)]
    unfold scn numC
    cases e : tkD (f p) with
    | false =>
      rw [if_pos (show bI false = 0 from rfl), if_neg (show ¬ (false = true) by decide), if_neg (show ¬ (false = true) by decide)]
      exact ⟨σ, rfl, FD.rf, h, h6, rfl, rfl⟩
    | true =>
      have hd := dig_sub e
      rw [if_neg (show ¬ bI true = 0 by decide), bs, lts, lts, h6, show (10 : Int32) = nI 10 from rfl, show (48 : Int32) = nI 48 from rfl, show (1000000 : Int32) = nI 1000000 from rfl, nI_mul, nI_add, nI_sub (by omega), min_nI (by omega) (by omega), show v * 10 + f p - 48 = v * 10 + (f p - 48) by omega, if_pos rfl, if_pos rfl]
      have h' := (h.wr (k := 6) (v := nI (min (v * 10 + (f p - 48)) 1000000)) (by omega))
      rw [h'.up]
      obtain ⟨σ', e1, F, C, a6, a4, a5⟩ := c_num d j (p + 1) (min (v * 10 + (f p - 48)) 1000000) fu _ (by omega) (by omega) (Nat.min_le_right _ _) (h'.next hp) rfl
      exact ⟨σ', e1, ((FD.rf.wI rfl).wI rfl).tr F, C, a6, a4, a5⟩
