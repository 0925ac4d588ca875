/-! The pure part: text. Words and signs of the class -/
def hx (g : Nat → Nat) : Nat → Nat
  | 0 => 0
  | k + 1 => hx g k * 32 + g k
theorem hx_lt {g : Nat → Nat} (hg : ∀ i, g i < 32) : ∀ k, hx g k < 2 ^ (5 * k)
  | 0 => by show 0 < 2 ^ 0; decide
  | k + 1 => by
    have h1 := hx_lt hg k
    have h2 := hg k
    rw [show 5 * (k + 1) = 5 * k + 5 by omega, Nat.pow_add]
    show hx g k * 32 + g k < 2 ^ (5 * k) * 32
    omega
theorem or_hx {h x i : Nat} (hi : i < 6) (hx : x < 32) : h * 2 ^ (30 - 5 * i) ||| x * 2 ^ (25 - 5 * i) = (h * 32 + x) * 2 ^ (25 - 5 * i) := by
  have e : 2 ^ (30 - 5 * i) = 32 * 2 ^ (25 - 5 * i) := by rw [show 30 - 5 * i = 5 + (25 - 5 * i) by omega, Nat.pow_add]
  have hp : 0 < 2 ^ (25 - 5 * i) := Nat.two_pow_pos _
  have t := Nat.two_pow_add_eq_or_of_lt (i := 30 - 5 * i) (b := x * 2 ^ (25 - 5 * i)) (by rw [e]; exact Nat.mul_lt_mul_of_pos_right hx hp) h
  rw [Nat.mul_comm h, ← t, e, Nat.add_mul, Nat.mul_comm 32, Nat.mul_assoc, Nat.mul_comm _ (32 * h), Nat.mul_comm 32 h]
theorem lbits0 : ∀ c, c < 123 → 97 ≤ c → ∀ i, i < 6 → ((nI c - (97 : Int32)) + (1 : Int32)) <<< (((5 : Int32) * ((5 : Int32) - nI i)) &&& 31) = nI ((c - 96) * 2 ^ (25 - 5 * i)) := by decide +kernel
/-- the letters of a word as digits -/
def wdg (f : Nat → Nat) (p e i : Nat) : Nat := if p + i < e then f (p + i) - 96 else 0
def lkC (x : Int32) : Nat → Int32
  | 0 => -1
  | j + 1 => if langW.getD j 0 = x then nI j else lkC x j
theorem c_lk (d : Bool) {f : Nat → Nat} {N p : Nat} : ∀ (j i fu : Nat) (σ : zS), i + j = 34 → j < fu → CT f N p σ → σ.1 500 4 = 1 → σ.1 500 6 = lkC (σ.1 500 7) i →
    ∃ σ', f_X7_takeWord_94 fu (nI i) σ = some σ' ∧ FD d [1] σ σ' ∧ CT f N p σ' ∧ σ'.1 500 6 = lkC (σ.1 500 7) 34 ∧ σ'.1 500 4 = 1 ∧ σ'.1 500 5 = σ.1 500 5 ∧ σ'.1 500 7 = σ.1 500 7
  | j, i, 0, σ, hj, hf, h, h4, h6 => by omega
  | 0, i, fu + 1, σ, hj, hf, h, h4, h6 => by
    obtain rfl : i = 34 := by omega
    unfold f_X7_takeWord_94
    rw [if_pos (show (34 : Int32) ≤ nI 34 by decide)]
    exact ⟨σ, rfl, FD.rf, h, h6, h4, rfl, rfl⟩
  | j + 1, i, fu + 1, σ, hj, hf, h, h4, h6 => by
    unfold f_X7_takeWord_94
    rw [if_neg (show ¬ (34 : Int32) ≤ nI i from nI_ge (b := 34) (by omega) (by omega)), if_pos h4, rd_nI (by omega) (by omega), bs, h.2.2.2.2.2.2 i (by omega)]
    unfold f_X7_takeWord_126
    by_cases e : langW.getD i 0 = σ.1 500 7
    · rw [if_pos e, lts, nI_1]
      obtain ⟨σ', e1, F, C, a6, a4, a5, a7⟩ := c_lk d j (i + 1) fu (wI σ 500 6 (nI i)) (by omega) (by omega) (h.wr (by omega)) h4 (by
        show (nI i : Int32) = lkC (σ.1 500 7) (i + 1)
        unfold lkC; rw [if_pos e])
      exact ⟨σ', e1, (FD.rf.wI rfl).tr F, C, a6, a4, a5, a7⟩
    · rw [if_neg e, nI_1]
      obtain ⟨σ', e1, F, C, a6, a4, a5, a7⟩ := c_lk d j (i + 1) fu σ (by omega) (by omega) h h4 (by
        show _ = lkC (σ.1 500 7) (i + 1)
        unfold lkC; rw [if_neg e]; exact h6)
      exact ⟨σ', e1, F, C, a6, a4, a5, a7⟩
/-- the end of a word -/
def CW (f : Nat → Nat) (p e : Nat) (σ : zS) : Prop := if 6 < e - p then σ.1 500 4 = 4 else σ.1 500 4 = 1 ∧ σ.1 500 6 = lkC (nI (hx (wdg f p e) 6)) 34 ∧ σ.1 500 7 = nI (hx (wdg f p e) 6)
theorem hx_rest {g : Nat → Nat} {i : Nat} : ∀ k, (∀ q, i ≤ q → g q = 0) → hx g (i + k) = hx g i * 2 ^ (5 * k)
  | 0, h => by rw [Nat.mul_zero, Nat.pow_zero, Nat.mul_one]; rfl
  | k + 1, h => by
    show hx g (i + k) * 32 + g (i + k) = _
    rw [hx_rest k h, h _ (by omega), show 5 * (k + 1) = 5 * k + 5 by omega, Nat.pow_add, Nat.mul_assoc]; rfl
theorem c_word72 (d : Bool) {f : Nat → Nat} {N p e : Nat} {σ : zS} (he : e ≤ N) (hpe : p ≤ e) (h : CT f N e σ) (h7 : σ.1 500 7 = nI (hx (wdg f p e) (min (e - p) 6) * 2 ^ (30 - 5 * min (e - p) 6))) :
    ∃ σ', f_X7_takeWord_72 (nI (e - p)) σ = some σ' ∧ FD d [1] σ σ' ∧ CT f N e σ' ∧ CW f p e σ' ∧ σ'.1 500 5 = σ.1 500 5 := by
  have hN := h.1
  unfold f_X7_takeWord_72 CW
  by_cases h6 : 6 < e - p
  · rw [if_neg (show ¬ nI (e - p) ≤ 6 from nI_ge (a := 6) (by omega) (by omega))]
    unfold f_X7_takeWord_84
    rw [lts, lts]
    unfold FU f_X7_takeWord_94
    rw [if_neg (show ¬ (34 : Int32) ≤ 0 by decide), if_neg (show ¬ (wI (wI σ 500 4 4) 500 6 (-1)).1 500 4 = 1 by rw [wI_at, if_neg (by omega), wI_self]; decide)]
    refine ⟨_, rfl, (FD.rf.wI rfl).wI rfl, (h.wr (by omega)).wr (by omega), ?_, rfl⟩
    rw [if_pos h6]; rfl
  · rw [if_pos (show nI (e - p) ≤ 6 from nI_le (b := 6) (by omega) (by omega))]
    rw [Nat.min_eq_left (by omega)] at h7
    have e6 : hx (wdg f p e) 6 = hx (wdg f p e) (e - p) * 2 ^ (30 - 5 * (e - p)) := by
      have := hx_rest (g := wdg f p e) (i := e - p) (6 - (e - p)) (fun q hq => by unfold wdg; rw [if_neg (by omega)])
      rw [show e - p + (6 - (e - p)) = 6 by omega, show 5 * (6 - (e - p)) = 30 - 5 * (e - p) by omega] at this
      exact this
    rw [← e6] at h7
    unfold f_X7_takeWord_84
    rw [lts, lts]
    obtain ⟨σ', e1, F, C, a6, a4, a5, a7⟩ := c_lk d (N := N) (p := e) (f := f) 34 0 FU (wI (wI σ 500 4 1) 500 6 (-1)) (by omega) (by unfold FU; omega) ((h.wr (by omega)).wr (by omega)) rfl rfl
    refine ⟨σ', e1, ((FD.rf.wI rfl).wI rfl).tr F, C, ?_, a5⟩
    rw [if_neg h6]
    have k7 : (wI (wI σ 500 4 1) 500 6 (-1)).1 500 7 = nI (hx (wdg f p e) 6) := h7
    rw [k7] at a6 a7
    exact ⟨a4, a6, a7⟩
theorem wdg_lt {f : Nat → Nat} {p e : Nat} (hl : ∀ q, p ≤ q → q < e → tkL (f q) = true) (i : Nat) : wdg f p e i < 32 := by
  unfold wdg
  split
  · have := let_sub (hl (p + i) (by omega) (by omega)); omega
  · omega
theorem c_word (d : Bool) {f : Nat → Nat} {N p e : Nat} (he : e ≤ N) (hl : ∀ q, p ≤ q → q < e → tkL (f q) = true) (hE : e < N → tkL (f e) = false) : ∀ (j i fu : Nat) (σ : zS), p + i + j = e → j < fu → CT f N (p + i) σ → σ.1 500 7 = nI (hx (wdg f p e) (min i 6) * 2 ^ (30 - 5 * min i 6)) →
    ∃ σ', f_X7_takeWord_2 fu (nI i) σ = some σ' ∧ FD d [1] σ σ' ∧ CT f N e σ' ∧ CW f p e σ' ∧ σ'.1 500 5 = σ.1 500 5
  | j, i, 0, σ, hj, hf, h, h7 => by omega
  | 0, i, fu + 1, σ, hj, hf, h, h7 => by
    unfold f_X7_takeWord_2
    have ep : e - p = i := by omega
    rw [show p + i = e by omega] at h
    have fin := c_word72 d (p := p) he (by omega) h (by rw [ep]; exact h7)
    rw [ep] at fin
    by_cases eN : e = N
    · rw [if_pos (h.ge eN)]; exact fin
    · rw [if_neg (h.lt (by omega)), h.rd (by omega), bs, c_isLet (h.2.1 e), hE (by omega), if_pos (show bI false = 0 from rfl)]; exact fin
  | j + 1, i, fu + 1, σ, hj, hf, h, h7 => by
    have hp : p + i < N := by omega
    have hN := h.1
    have hL := hl (p + i) (by omega) (by omega)
    have hs := let_sub hL
    unfold f_X7_takeWord_2
    rw [if_neg (h.lt hp), h.rd hp, bs, c_isLet (h.2.1 _), hL, if_neg (show ¬ bI true = 0 by decide)]
    unfold f_X7_takeWord_56
    by_cases h6 : i < 6
    · rw [if_neg (show ¬ (6 : Int32) ≤ nI i from nI_ge (b := 6) h6 (by omega)), bs, lts, lts, h7, nI_1, Nat.min_eq_left (by omega)]
      have lb : f_X7_letterBits (nI (f (p + i))) (nI i) σ = nI ((f (p + i) - 96) * 2 ^ (25 - 5 * i)) := lbits0 _ (by omega) (by omega) i h6
      have hb := hx_lt (wdg_lt hl) i
      have hP : hx (wdg f p e) i * 2 ^ (30 - 5 * i) < 2 ^ 30 := by
        have : (2 : Nat) ^ 30 = 2 ^ (5 * i) * 2 ^ (30 - 5 * i) := by rw [← Nat.pow_add]; congr 1; omega
        rw [this]; exact Nat.mul_lt_mul_of_pos_right hb (Nat.two_pow_pos _)
      have hQ : (f (p + i) - 96) * 2 ^ (25 - 5 * i) < 2 ^ 30 := by
        have : (2 : Nat) ^ 30 = 2 ^ (5 * i + 5) * 2 ^ (25 - 5 * i) := by rw [← Nat.pow_add]; congr 1; omega
        rw [this]
        refine Nat.mul_lt_mul_of_pos_right ?_ (Nat.two_pow_pos _)
        have : 0 < 2 ^ (5 * i) := Nat.two_pow_pos _
        rw [Nat.pow_add]; omega
      rw [lb, nI_or (by omega) (by omega), or_hx h6 (by omega)]
      have h' := (h.wr (k := 7) (v := nI ((hx (wdg f p e) i * 32 + (f (p + i) - 96)) * 2 ^ (25 - 5 * i))) (by omega))
      rw [h'.up]
      obtain ⟨σ', e1, F, C, a, a5⟩ := c_word d he hl hE j (i + 1) fu _ (by omega) (by omega) (h'.next hp) (by
        rw [Nat.min_eq_left (by omega), show 30 - 5 * (i + 1) = 25 - 5 * i by omega]
        show nI _ = nI ((hx (wdg f p e) i * 32 + wdg f p e i) * _)
        unfold wdg; rw [if_pos (by omega)])
      exact ⟨σ', e1, ((FD.rf.wI rfl).wI rfl).tr F, C, a, a5⟩
    · rw [if_pos (show (6 : Int32) ≤ nI i from nI_le (a := 6) (by omega) (by omega)), lts, h.up, nI_1]
      obtain ⟨σ', e1, F, C, a, a5⟩ := c_word d he hl hE j (i + 1) fu _ (by omega) (by omega) (h.next hp) (by
        rw [Nat.min_eq_right (by omega)] at h7 ⊢
        exact h7)
      exact ⟨σ', e1, (FD.rf.wI rfl).tr F, C, a, a5⟩
/-- signs -/
def sgV (c nx : Nat) : Nat := if c = 60 ∧ nx = 61 then 256 else if c = 60 ∧ nx = 62 then 257 else if c = 62 ∧ nx = 61 then 258 else c
def sgOk (c : Nat) : Bool := [40, 41, 42, 43, 45, 47, 59, 60, 61, 62].elem c
def sgN (c nx : Nat) : Nat := if 256 ≤ sgV c nx then 1 else 0
def nxc (f : Nat → Nat) (N q : Nat) : Nat := if q + 1 < N then f (q + 1) else 256
theorem eqK {c : Nat} (hc : c < 256) (k : Nat) (hk : k < 256) : (nI c = (OfNat.ofNat k : Int32)) ↔ c = k := nI_eq (by omega) (by omega)
theorem sgn_chain {α : Type} {c : Nat} (hc : c < 256) (A B C : α) : (if nI c = 40 then A else if nI c = 41 then A else if nI c = 42 then A else if nI c = 43 then A else if nI c = 45 then A else if nI c = 47 then A else if nI c = 59 then A else if nI c = 60 then B else if nI c = 61 then A else if nI c = 62 then B else C) = if sgOk c then (if c = 60 ∨ c = 62 then B else A) else C := by
  simp only [eqK hc 40 (by omega), eqK hc 41 (by omega), eqK hc 42 (by omega), eqK hc 43 (by omega), eqK hc 45 (by omega), eqK hc 47 (by omega), eqK hc 59 (by omega), eqK hc 60 (by omega), eqK hc 61 (by omega), eqK hc 62 (by omega)]
  by_cases h : sgOk c = true
  · have : c = 40 ∨ c = 41 ∨ c = 42 ∨ c = 43 ∨ c = 45 ∨ c = 47 ∨ c = 59 ∨ c = 60 ∨ c = 61 ∨ c = 62 := by
      unfold sgOk at h; simpa using List.mem_of_elem_eq_true h
    rw [if_pos h]
    rcases this with rfl | rfl | rfl | rfl | rfl | rfl | rfl | rfl | rfl | rfl <;> rfl
  · have hn : ∀ k, sgOk k = true → c ≠ k := fun k hk z => h (z ▸ hk)
    rw [if_neg h, if_neg (hn 40 rfl), if_neg (hn 41 rfl), if_neg (hn 42 rfl), if_neg (hn 43 rfl), if_neg (hn 45 rfl), if_neg (hn 47 rfl), if_neg (hn 59 rfl), if_neg (hn 60 rfl), if_neg (hn 61 rfl), if_neg (hn 62 rfl)]
theorem bsome {α : Type} (x : Option α) : (x.bind fun a => some a) = x := by cases x <;> rfl
theorem c_mark (d : Bool) {f : Nat → Nat} {N q c : Nat} {σ : zS} (hc : c = 60 ∨ c = 62) (h : CT f N (q + 1) σ) (h6 : σ.1 500 6 = nI c) (h4 : σ.1 500 4 = 3) :
    ∃ σ', f_X7_takeSecondMark σ = some σ' ∧ FD d [1] σ σ' ∧ CT f N (q + 1 + sgN c (nxc f N q)) σ' ∧ σ'.1 500 4 = 3 ∧ σ'.1 500 6 = nI (encO 2 (sgV c (nxc f N q))) ∧ σ'.1 500 5 = σ.1 500 5 := by
  have hN := h.1
  unfold f_X7_takeSecondMark nxc
  by_cases hq : q + 1 < N
  · have hb := h.2.1 (q + 1)
    rw [if_neg (h.lt hq), h.rd hq, bs, h6, if_pos hq]
    have tk : ∀ v : Nat, f (q + 1) = v → 256 ≤ sgV c v → nI c * (256 : Int32) + nI v = nI (encO 2 (sgV c v)) → ∃ σ', f_X7_takeSecondMark_48 σ = some σ' ∧ FD d [1] σ σ' ∧ CT f N (q + 1 + sgN c v) σ' ∧ σ'.1 500 4 = 3 ∧ σ'.1 500 6 = nI (encO 2 (sgV c v)) ∧ σ'.1 500 5 = σ.1 500 5 := by
      intro v hv hg he
      unfold f_X7_takeSecondMark_48 sgN
      rw [h.rd hq, bs, lts, lts, h6, hv, he, if_pos hg]
      have h' := h.wr (k := 6) (v := nI (encO 2 (sgV c v))) (by omega)
      rw [h'.up]
      exact ⟨_, rfl, (FD.rf.wI rfl).wI rfl, h'.next hq, h4, rfl, rfl⟩
    have no : sgV c (f (q + 1)) = c → ∃ σ', some σ = some σ' ∧ FD d [1] σ σ' ∧ CT f N (q + 1 + sgN c (f (q + 1))) σ' ∧ σ'.1 500 4 = 3 ∧ σ'.1 500 6 = nI (encO 2 (sgV c (f (q + 1)))) ∧ σ'.1 500 5 = σ.1 500 5 := by
      intro hg
      unfold sgN
      rw [hg, if_neg (by omega)]
      refine ⟨σ, rfl, FD.rf, h, h4, ?_, rfl⟩
      rw [h6]; rcases hc with rfl | rfl <;> rfl
    by_cases h61 : f (q + 1) = 61
    · rw [h61, if_pos (show nI 61 = 61 from rfl)]
      exact tk 61 h61 (by rcases hc with rfl | rfl <;> decide) (by rcases hc with rfl | rfl <;> decide)
    · rw [if_neg (fun z => h61 ((eqK hb 61 (by omega)).mp z))]
      rcases hc with rfl | rfl
      · rw [if_pos (show nI 60 = 60 from rfl), bs]
        by_cases h62 : f (q + 1) = 62
        · rw [h62, if_pos (show nI 62 = 62 from rfl)]
          exact tk 62 h62 (by decide) (by decide)
        · rw [if_neg (fun z => h62 ((eqK hb 62 (by omega)).mp z))]
          exact no (by unfold sgV; rw [if_neg (by omega), if_neg (by omega), if_neg (by omega)])
      · rw [if_neg (show ¬ nI 62 = 60 by decide)]
        exact no (by unfold sgV; rw [if_neg (by omega), if_neg (by omega), if_neg (by omega)])
  · rw [if_pos (h.ge (by have := h.2.2.1; omega)), if_neg hq]
    have hg : sgV c 256 = c := by unfold sgV; rw [if_neg (by omega), if_neg (by omega), if_neg (by omega)]
    unfold sgN
    rw [hg, if_neg (by omega)]
    refine ⟨σ, rfl, FD.rf, h, h4, ?_, rfl⟩
    rw [h6]; rcases hc with rfl | rfl <;> rfl
def CG (f : Nat → Nat) (N q : Nat) (σ : zS) : Prop := if sgOk (f q) = true then σ.1 500 4 = 3 ∧ σ.1 500 6 = nI (encO 2 (sgV (f q) (nxc f N q))) else σ.1 500 4 = 4
theorem c_sign (d : Bool) {f : Nat → Nat} {N q : Nat} {σ : zS} (hq : q < N) (h : CT f N q σ) :
    ∃ σ', f_X7_takeSign σ = some σ' ∧ FD d [1] σ σ' ∧ CT f N (q + 1 + sgN (f q) (nxc f N q)) σ' ∧ CG f N q σ' ∧ σ'.1 500 5 = σ.1 500 5 := by
  have hN := h.1
  have hb := h.2.1 q
  unfold f_X7_takeSign
  have h4 := h.wr (k := 4) (v := 3) (by omega)
  have h6 := h4.wr (k := 6) (v := nI (f q)) (by omega)
  have h3 := h6.next hq
  simp only [lts]
  rw [h4.rd hq, bs]
  simp only [h6.up]
  rw [show (wI (wI (wI σ 500 4 3) 500 6 (nI (f q))) 500 3 (nI (q + 1))).1 500 6 = nI (f q) from rfl, sgn_chain hb]
  have F : FD d [1] σ (wI (wI (wI σ 500 4 3) 500 6 (nI (f q))) 500 3 (nI (q + 1))) := ((FD.rf.wI rfl).wI rfl).wI rfl
  unfold CG
  by_cases ho : sgOk (f q) = true
  · rw [if_pos ho]
    by_cases hc : f q = 60 ∨ f q = 62
    · rw [if_pos hc, bsome]
      obtain ⟨σ', e, F', C, a4, a6, a5⟩ := c_mark d hc h3 rfl rfl
      exact ⟨σ', e, F.tr F', C, by rw [if_pos ho]; exact ⟨a4, a6⟩, a5⟩
    · rw [if_neg hc]
      have hg : sgV (f q) (nxc f N q) = f q := by unfold sgV; rw [if_neg (by omega), if_neg (by omega), if_neg (by omega)]
      refine ⟨_, rfl, F, ?_, ?_, rfl⟩
      · unfold sgN; rw [hg, if_neg (by omega)]; exact h3
      · rw [if_pos ho, hg]
        refine ⟨rfl, ?_⟩
        show nI (f q) = _
        unfold encO; rw [if_pos rfl, if_neg (by omega), if_neg (by omega), if_neg (by omega), if_neg (by omega), if_neg (by omega), if_neg (by omega)]
  · rw [if_neg ho]
    have hg : sgV (f q) (nxc f N q) = f q := by
      have n60 : f q ≠ 60 := fun z => ho (by rw [z]; rfl)
      have n62 : f q ≠ 62 := fun z => ho (by rw [z]; rfl)
      unfold sgV; rw [if_neg (by omega), if_neg (by omega), if_neg (by omega)]
    refine ⟨_, rfl, F.wI rfl, ?_, ?_, rfl⟩
    · unfold sgN; rw [hg, if_neg (by omega)]; exact h3.wr (by omega)
    · rw [if_neg ho]; rfl
/-- the token at a place behind blanks -/
def CK (f : Nat → Nat) (N q : Nat) (σ : zS) : Prop :=
  if N ≤ q then σ.1 500 4 = 0 else if tkL (f q) = true then CW f q (scn (fun k => tkL (f k)) (N - q) q) σ else if tkD (f q) = true then σ.1 500 4 = 2 ∧ σ.1 500 6 = nI (numC f (N - q) q 0) else CG f N q σ
def tkN (f : Nat → Nat) (N q : Nat) : Nat :=
  if N ≤ q then q else if tkL (f q) = true then scn (fun k => tkL (f k)) (N - q) q else if tkD (f q) = true then scn (fun k => tkD (f k)) (N - q) q else q + 1 + sgN (f q) (nxc f N q)
theorem c_adv52 (d : Bool) {f : Nat → Nat} {N q : Nat} {σ : zS} (h : CT f N q σ) :
    ∃ σ', f_X7_advance_52 σ = some σ' ∧ FD d [1] σ σ' ∧ CT f N (tkN f N q) σ' ∧ CK f N q σ' ∧ σ'.1 500 5 = nI q := by
  have hN := h.1
  have hqN := h.2.2.1
  unfold f_X7_advance_52
  simp only [lts]
  have h1 := h.wr (k := 5) (v := σ.1 500 3) (by omega)
  have h2 := h1.wr (k := 6) (v := 0) (by omega)
  have h3 := h2.wr (k := 7) (v := 0) (by omega)
  have F : FD d [1] σ (wI (wI (wI σ 500 5 (σ.1 500 3)) 500 6 0) 500 7 0) := ((FD.rf.wI rfl).wI rfl).wI rfl
  have k5 : (wI (wI (wI σ 500 5 (σ.1 500 3)) 500 6 0) 500 7 0).1 500 5 = nI q := h.2.2.2.2.1
  have k6 : (wI (wI (wI σ 500 5 (σ.1 500 3)) 500 6 0) 500 7 0).1 500 6 = nI 0 := rfl
  have k7 : (wI (wI (wI σ 500 5 (σ.1 500 3)) 500 6 0) 500 7 0).1 500 7 = nI 0 := rfl
  generalize wI (wI (wI σ 500 5 (σ.1 500 3)) 500 6 0) 500 7 0 = τ at h3 F k5 k6 k7
  unfold CK tkN
  by_cases hq : N ≤ q
  · rw [if_neg (show ¬ τ.1 500 3 < τ.1 500 2 by rw [h3.2.2.2.1, h3.2.2.2.2.1]; exact nI_nlt (by omega) (by omega)), if_pos hq]
    exact ⟨_, rfl, F.wI rfl, h3.wr (by omega), by rw [if_pos hq]; rfl, k5⟩
  · have hp : q < N := by omega
    rw [if_pos (show τ.1 500 3 < τ.1 500 2 by rw [h3.2.2.2.1, h3.2.2.2.2.1]; exact nI_lt (by omega) (by omega)), h3.rd hp, bs, c_isLet (h.2.1 q), if_neg hq]
    simp only [if_neg hq]
    cases eL : tkL (f q) with
    | true =>
      rw [if_neg (show ¬ bI true = 0 by decide), bsome, if_pos rfl]
      have sl := scn_le (fun k => tkL (f k)) (N - q) q
      obtain ⟨σ', e, F', C, a, a5⟩ := c_word d (f := f) (N := N) (p := q) (e := scn (fun k => tkL (f k)) (N - q) q) (by omega) (scn_in (fun k => tkL (f k)) (N - q) q) (fun hE => scn_end (fun k => tkL (f k)) (N - q) q (by omega)) (scn (fun k => tkL (f k)) (N - q) q - q) 0 FU τ (by omega) (by unfold FU; omega) h3 (by rw [k7]; show nI 0 = nI (0 * _); rw [Nat.zero_mul])
      exact ⟨σ', e, F.tr F', C, by rw [if_pos rfl]; exact a, by rw [a5, k5]⟩
    | false =>
      rw [if_pos (show bI false = 0 from rfl), bs, c_isDig (h.2.1 q), if_neg (show ¬ (false = true) by decide)]
      simp only [if_neg (show ¬ (false = true) by decide)]
      cases eD : tkD (f q) with
      | true =>
        rw [if_neg (show ¬ bI true = 0 by decide), bsome, if_pos rfl]
        unfold f_X7_takeNumber
        rw [lts]
        obtain ⟨σ', e, F', C, a6, a4, a5⟩ := c_num d (f := f) (N := N) (N - q) q 0 FU (wI τ 500 4 2) (by omega) (by unfold FU; omega) (by omega) (h3.wr (by omega)) k6
        exact ⟨σ', e, (F.wI rfl).tr F', C, by rw [if_pos rfl]; exact ⟨a4, a6⟩, by rw [a5]; exact k5⟩
      | false =>
        rw [if_pos (show bI false = 0 from rfl), bsome, if_neg (show ¬ (false = true) by decide)]
        obtain ⟨σ', e, F', C, a, a5⟩ := c_sign d hp h3
        exact ⟨σ', e, F.tr F', C, by rw [if_neg (show ¬ (false = true) by decide)]; exact a, by rw [a5, k5]⟩
theorem c_adv (d : Bool) {f : Nat → Nat} {N p : Nat} {σ : zS} (h : CT f N p σ) :
    ∃ σ', f_X7_advance σ = some σ' ∧ FD d [1] σ σ' ∧ CT f N (tkN f N (scn (fun k => tkS (f k)) (N - p) p)) σ' ∧ CK f N (scn (fun k => tkS (f k)) (N - p) p) σ' ∧ σ'.1 500 5 = nI (scn (fun k => tkS (f k)) (N - p) p) := by
  have hN := h.1
  have hp := h.2.2.1
  unfold f_X7_advance
  obtain ⟨σ1, e1, F1, C1⟩ := c_skip d (N - p) p FU σ (by omega) (by unfold FU; omega) h
  obtain ⟨σ2, e2, F2, C2, k2, a2⟩ := c_adv52 d C1
  exact ⟨σ2, e1.trans e2, F1.tr F2, C2, k2, a2⟩
