/-! The pure part: walks. A state as seen from another, its sorted word of moves -/
def rel (a s : Nat) : Nat := 16 * (s / 16 + 12 - a / 16) + 4 * ((s / 4 % 4 + 4 - a / 4 % 4) % 4) + 2 * ((s / 2 % 2 + a / 2 % 2) % 2) + (s % 2 + a % 2) % 2
def rpt (d : Nat) : Nat → Nat → Nat
  | 0, k => k
  | j + 1, k => rpt d j (7 * k + d)
/-- the word of a state as seen from 192, digits one more, base 7 -/
def wd0 (r : Nat) : Nat :=
  rpt 6 (r / 16 - 12) (rpt 5 (12 - r / 16) (rpt 4 (r % 2) (rpt 3 (r / 2 % 2) (rpt 2 (if r / 4 % 4 = 3 then 1 else 0) (rpt 1 (if r / 4 % 4 = 3 then 0 else r / 4 % 4) 0)))))
def lm0 (r : Nat) : Nat := if 12 < r / 16 then 5 else if r / 16 < 12 then 4 else if r % 2 = 1 then 3 else if r / 2 % 2 = 1 then 2 else if r / 4 % 4 = 3 then 1 else 0
def ds0 (r : Nat) : Nat := (r / 16 - 12) + (12 - r / 16) + r % 2 + r / 2 % 2 + (if r / 4 % 4 = 3 then 1 else r / 4 % 4)
def inv (v : Nat) : Nat := if v = 0 then 1 else if v = 1 then 0 else if v = 4 then 5 else if v = 5 then 4 else v
def dec0 : Nat → Nat → Nat
  | 0, _ => 192
  | f + 1, k => if k = 0 then 192 else (mvd 25 (dec0 f (k / 7)) (k % 7 - 1)).getD 0
theorem w_dec : ∀ q, q < 368 → dec0 20 (wd0 (16 + q)) = 16 + q := by decide +kernel
theorem w_par : ∀ q, q < 368 → 16 + q ≠ 192 → ((mvd 25 (16 + q) (inv (lm0 (16 + q)))).any (fun p => decide (wd0 (16 + q) = 7 * wd0 p + lm0 (16 + q) + 1) && decide (ds0 (16 + q) = ds0 p + 1) && decide (16 ≤ p) && decide (p < 384))) = true := by decide +kernel
theorem w_edge : ∀ q, q < 368 → ∀ v, v < 6 → ((mvd 25 (16 + q) v).all (fun p => decide (wd0 p ≤ 7 * wd0 (16 + q) + v + 1) && decide (ds0 p ≤ ds0 (16 + q) + 1) && decide (ds0 (16 + q) ≤ ds0 p + 1))) = true := by decide +kernel
theorem w_len : ∀ q, q < 368 → wd0 (16 + q) < 7 ^ ds0 (16 + q) ∧ (7 ^ ds0 (16 + q) ≤ 7 * wd0 (16 + q) ∨ ds0 (16 + q) = 0) ∧ ds0 (16 + q) ≤ 15 ∧ (ds0 (16 + q) = 0 → 16 + q = 192) := by decide +kernel
theorem w_192 : wd0 192 = 0 ∧ ds0 192 = 0 := by decide +kernel
theorem mv_cmp : ∀ s, s < 192 → ∀ v, v < 4 → ((mvd 13 s v).any (fun t => decide (t / 16 = s / 16) && decide (t / 4 % 4 = if v = 0 then (s / 4 % 4 + 1) % 4 else if v = 1 then (s / 4 % 4 + 3) % 4 else s / 4 % 4) && decide (t / 2 % 2 = if v = 2 then 1 - s / 2 % 2 else s / 2 % 2) && decide (t % 2 = if v = 3 then 1 - s % 2 else s % 2))) = true := by decide +kernel
theorem mv_cmp4 : ∀ q, q < 368 → ∀ v, v < 4 → ((mvd 25 (16 + q) v).any (fun t => decide (t / 16 = (16 + q) / 16) && decide (t / 4 % 4 = if v = 0 then ((16 + q) / 4 % 4 + 1) % 4 else if v = 1 then ((16 + q) / 4 % 4 + 3) % 4 else (16 + q) / 4 % 4) && decide (t / 2 % 2 = if v = 2 then 1 - (16 + q) / 2 % 2 else (16 + q) / 2 % 2) && decide (t % 2 = if v = 3 then 1 - (16 + q) % 2 else (16 + q) % 2))) = true := by decide +kernel
theorem mvd_n {n m s v : Nat} (hv : v ≠ 5) : mvd n s v = mvd m s v := by
  unfold mvd
  split
  · rfl
  · split
    · rfl
    · split
      · rfl
      · split
        · rfl
        · split
          · rfl
          · simp [hv]
theorem num_d {C F H E : Nat} (hF : F < 4) (hH : H < 2) (hE : E < 2) : (16 * C + 4 * F + 2 * H + E) / 16 = C ∧ (16 * C + 4 * F + 2 * H + E) / 4 % 4 = F ∧ (16 * C + 4 * F + 2 * H + E) / 2 % 2 = H ∧ (16 * C + 4 * F + 2 * H + E) % 2 = E := by omega
theorem rel_d {a s : Nat} (ha : a < 192) (hs : s < 192) : rel a s / 16 = s / 16 + 12 - a / 16 ∧ rel a s / 4 % 4 = (s / 4 % 4 + 4 - a / 4 % 4) % 4 ∧ rel a s / 2 % 2 = (s / 2 % 2 + a / 2 % 2) % 2 ∧ rel a s % 2 = (s % 2 + a % 2) % 2 := num_d (Nat.mod_lt _ (by decide)) (Nat.mod_lt _ (by decide)) (Nat.mod_lt _ (by decide))
theorem rel_lt {a s : Nat} (ha : a < 192) (hs : s < 192) : 16 ≤ rel a s ∧ rel a s < 384 := by
  have d := (rel_d ha hs).1
  have h1 : s / 16 < 12 := by omega
  have h2 : a / 16 < 12 := by omega
  generalize rel a s = r at d
  omega
theorem rel_self {a : Nat} : rel a a = 192 := by
  unfold rel
  rw [show (a / 4 % 4 + 4 - a / 4 % 4) % 4 = 0 by omega, show (a / 2 % 2 + a / 2 % 2) % 2 = 0 by omega, show (a % 2 + a % 2) % 2 = 0 by omega, show a / 16 + 12 - a / 16 = 12 by omega]
theorem num16 {s : Nat} : s = 16 * (s / 16) + 4 * (s / 4 % 4) + 2 * (s / 2 % 2) + s % 2 := by omega
theorem rel_inj {a s t : Nat} (ha : a < 192) (hs : s < 192) (ht : t < 192) (h : rel a s = rel a t) : s = t := by
  have d1 := rel_d ha hs
  have d2 := rel_d ha ht
  rw [h] at d1
  have n1 := num16 (s := s)
  have n2 := num16 (s := t)
  have a1 : a / 16 < 12 := by omega
  have l1 : s / 4 % 4 < 4 := Nat.mod_lt _ (by decide)
  have l2 : t / 4 % 4 < 4 := Nat.mod_lt _ (by decide)
  have l3 : a / 4 % 4 < 4 := Nat.mod_lt _ (by decide)
  have l4 : s / 2 % 2 < 2 := Nat.mod_lt _ (by decide)
  have l5 : t / 2 % 2 < 2 := Nat.mod_lt _ (by decide)
  have l6 : s % 2 < 2 := Nat.mod_lt _ (by decide)
  have l7 : t % 2 < 2 := Nat.mod_lt _ (by decide)
  rw [d2.1, d2.2.1, d2.2.2.1, d2.2.2.2] at d1
  obtain ⟨e1, e2, e3, e4⟩ := d1
  generalize s / 16 = c1 at *
  generalize t / 16 = c2 at *
  generalize s / 4 % 4 = f1 at *
  generalize t / 4 % 4 = f2 at *
  generalize a / 4 % 4 = f3 at *
  generalize s / 2 % 2 = h1 at *
  generalize t / 2 % 2 = h2 at *
  generalize a / 2 % 2 = h3 at *
  generalize s % 2 = g1 at *
  generalize t % 2 = g2 at *
  generalize a % 2 = g3 at *
  generalize a / 16 = c3 at *
  have x1 : c1 = c2 := by omega
  have x2 : f1 = f2 := by omega
  have x3 : h1 = h2 := by omega
  have x4 : g1 = g2 := by omega
  omega
theorem cm16 {s : Nat} : (s + 16) / 16 = s / 16 + 1 ∧ (s + 16) / 4 % 4 = s / 4 % 4 ∧ (s + 16) / 2 % 2 = s / 2 % 2 ∧ (s + 16) % 2 = s % 2 := by omega
theorem rel_up {a s : Nat} (ha : a < 192) (hs : s < 192) : rel a (s + 16) = rel a s + 16 := by
  have c := cm16 (s := s)
  have h2 : a / 16 < 12 := by omega
  unfold rel
  rw [c.1, c.2.1, c.2.2.1, c.2.2.2]
  generalize s / 16 = c1
  generalize a / 16 = c2 at *
  generalize (s / 4 % 4 + 4 - a / 4 % 4) % 4 = x1
  generalize (s / 2 % 2 + a / 2 % 2) % 2 = x2
  generalize (s % 2 + a % 2) % 2 = x3
  omega
theorem rel_dn {a s : Nat} (ha : a < 192) (hs : s < 192) (h : 16 ≤ s) : rel a (s - 16) = rel a s - 16 := by
  have := rel_up ha (show s - 16 < 192 by omega)
  rw [show s - 16 + 16 = s by omega] at this
  rw [this, Nat.add_sub_cancel]
theorem tn1 : ∀ f, f < 4 → ∀ g, g < 4 → ((f + 4 - g) % 4 + 1) % 4 = ((f + 1) % 4 + 4 - g) % 4 ∧ ((f + 4 - g) % 4 + 3) % 4 = ((f + 3) % 4 + 4 - g) % 4 := by decide +kernel
theorem tn2 : ∀ x, x < 2 → ∀ y, y < 2 → 1 - (x + y) % 2 = (1 - x + y) % 2 := by decide +kernel
theorem rel_q {a s : Nat} (ha : a < 192) (hs : s < 192) : ∃ q, q < 368 ∧ 16 + q = rel a s := by
  have rl := rel_lt ha hs
  generalize rel a s = r at rl
  exact ⟨r - 16, by omega, by omega⟩
theorem mv_low {n s v t : Nat} (hs : s < 192) (hv : v < 4) (h : mvd n s v = some t) : t / 16 = s / 16 ∧ t / 4 % 4 = (if v = 0 then (s / 4 % 4 + 1) % 4 else if v = 1 then (s / 4 % 4 + 3) % 4 else s / 4 % 4) ∧ t / 2 % 2 = (if v = 2 then 1 - s / 2 % 2 else s / 2 % 2) ∧ t % 2 = (if v = 3 then 1 - s % 2 else s % 2) := by
  have h5 : v ≠ 5 := by omega
  have c := mv_cmp s hs v hv
  rw [mvd_n (m := n) h5, h] at c
  simp only [Option.any_some, Bool.and_eq_true, decide_eq_true_eq] at c
  exact ⟨c.1.1.1, c.1.1.2, c.1.2, c.2⟩
theorem mv_low4 {a s v : Nat} (ha : a < 192) (hs : s < 192) (hv : v < 4) : ∃ r, mvd 25 (rel a s) v = some r ∧ r / 16 = rel a s / 16 ∧ r / 4 % 4 = (if v = 0 then (rel a s / 4 % 4 + 1) % 4 else if v = 1 then (rel a s / 4 % 4 + 3) % 4 else rel a s / 4 % 4) ∧ r / 2 % 2 = (if v = 2 then 1 - rel a s / 2 % 2 else rel a s / 2 % 2) ∧ r % 2 = (if v = 3 then 1 - rel a s % 2 else rel a s % 2) := by
  obtain ⟨q, hq, e⟩ := rel_q ha hs
  have c := mv_cmp4 q hq v hv
  rw [e] at c
  cases e2 : mvd 25 (rel a s) v with
  | none => rw [e2] at c; cases c
  | some r =>
    rw [e2] at c
    simp only [Option.any_some, Bool.and_eq_true, decide_eq_true_eq] at c
    exact ⟨r, rfl, c.1.1.1, c.1.1.2, c.1.2, c.2⟩
theorem mv_4 {n s t : Nat} (h : mvd n s 4 = some t) : t = s - 16 ∧ 16 ≤ s := by
  replace h : (if s < 16 then none else some (s - 16)) = some t := h
  split at h
  · cases h
  · cases h; omega
theorem mv_5 {n s t : Nat} (h : mvd n s 5 = some t) : t = s + 16 ∧ s / 16 + 1 < n := by
  replace h : (if s / 16 + 1 < n then some (s + 16) else none) = some t := h
  split at h
  · cases h; rename_i q; exact ⟨rfl, q⟩
  · cases h
/-- a move seen from another state -/
theorem rel_mv {a s n v t : Nat} (ha : a < 192) (hn : n ≤ 12) (hs : s < 16 * n) (hv : v < 6) (h : mvd n s v = some t) : mvd 25 (rel a s) v = some (rel a t) := by
  have hs2 : s < 192 := by omega
  have ht := mvd_lt hs h
  have ht2 : t < 192 := by omega
  have h45 : v < 4 ∨ v = 4 ∨ v = 5 := by omega
  rcases h45 with h4 | rfl | rfl
  · obtain ⟨r, e, b1, b2, b3, b4⟩ := mv_low4 ha hs2 h4
    obtain ⟨c1, c2, c3, c4⟩ := mv_low hs2 h4 h
    have d1 := rel_d ha hs2
    have d2 := rel_d ha ht2
    have nr := num16 (s := r)
    have nt := num16 (s := rel a t)
    have x1 : r / 16 = rel a t / 16 := by rw [b1, d2.1, c1, d1.1]
    have x2 : r / 4 % 4 = rel a t / 4 % 4 := by
      have q := tn1 (s / 4 % 4) (Nat.mod_lt _ (by decide)) (a / 4 % 4) (Nat.mod_lt _ (by decide))
      rw [b2, d2.2.1, c2, d1.2.1]
      split
      · exact q.1
      · split
        · exact q.2
        · rfl
    have x3 : r / 2 % 2 = rel a t / 2 % 2 := by
      have q := tn2 (s / 2 % 2) (Nat.mod_lt _ (by decide)) (a / 2 % 2) (Nat.mod_lt _ (by decide))
      rw [b3, d2.2.2.1, c3, d1.2.2.1]
      split
      · exact q
      · rfl
    have x4 : r % 2 = rel a t % 2 := by
      have q := tn2 (s % 2) (Nat.mod_lt _ (by decide)) (a % 2) (Nat.mod_lt _ (by decide))
      rw [b4, d2.2.2.2, c4, d1.2.2.2]
      split
      · exact q
      · rfl
    rw [e, nr, nt, x1, x2, x3, x4]
  · have e := mv_4 h
    have rl := rel_lt ha hs2
    show (if rel a s < 16 then none else some (rel a s - 16)) = _
    rw [if_neg (Nat.not_lt.mpr rl.1), e.1, rel_dn ha hs2 e.2]
  · have e := mv_5 h
    have rl := (rel_lt ha hs2).2
    have h24 : rel a s / 16 + 1 < 25 := by
      generalize rel a s = r at rl
      omega
    show (if rel a s / 16 + 1 < 25 then some (rel a s + 16) else none) = _
    rw [if_pos h24, e.1, rel_up ha hs2]
theorem mv_inv0 : ∀ s, s < 192 → ∀ v, v < 4 → ((mvd 13 s (inv v)).all (fun p => decide (mvd 13 p v = some s))) = true := by decide +kernel
theorem mv_inv {n s v p : Nat} (hn : n ≤ 12) (hs : s < 16 * n) (hv : v < 6) (h : mvd n s (inv v) = some p) : mvd n p v = some s := by
  by_cases h4 : v < 4
  · have c := mv_inv0 s (by omega) v h4
    have i5 : inv v ≠ 5 := by unfold inv; (repeat' split) <;> omega
    rw [mvd_n (m := n) i5, h] at c
    simp only [Option.all_some, decide_eq_true_eq] at c
    rw [mvd_n (m := 13) (by omega)]; exact c
  · have : v = 4 ∨ v = 5 := by omega
    rcases this with rfl | rfl
    · replace h : (if s / 16 + 1 < n then some (s + 16) else none) = some p := h
      split at h
      · cases h
        show (if s + 16 < 16 then none else some (s + 16 - 16)) = _
        rw [if_neg (by omega)]; congr 1
      · cases h
    · replace h : (if s < 16 then none else some (s - 16)) = some p := h
      split at h
      · cases h
      · cases h
        show (if (s - 16) / 16 + 1 < n then some (s - 16 + 16) else none) = _
        rw [if_pos (by omega)]; congr 1; omega
/-- distance, word, last move, state before -/
def dst (a s : Nat) : Nat := ds0 (rel a s)
def wrd (a s : Nat) : Nat := wd0 (rel a s)
def lmv (a s : Nat) : Nat := lm0 (rel a s)
def prv (n a s : Nat) : Nat := (mvd n s (inv (lmv a s))).getD 0
theorem lm0_lt (r : Nat) : lm0 r < 6 := by unfold lm0; (repeat' split) <;> decide
theorem lmv_lt {a s : Nat} : lmv a s < 6 := lm0_lt _
theorem inv_lt {v : Nat} (h : v < 6) : inv v < 6 := by unfold inv; (repeat' split) <;> omega
theorem inv_lt4 {v : Nat} (h : v < 4) : inv v < 4 := by unfold inv; (repeat' split) <;> omega
theorem lm0_5 {r : Nat} (h : lm0 r = 5) : 12 < r / 16 := by
  unfold lm0 at h
  split at h
  · assumption
  · (repeat' split at h) <;> cases h
theorem lm0_4 {r : Nat} (h : lm0 r = 4) : r / 16 < 12 := by
  unfold lm0 at h
  split at h
  · cases h
  · split at h
    · assumption
    · (repeat' split at h) <;> cases h
theorem prv_some {n a s : Nat} (hn : n ≤ 12) (ha : a < 16 * n) (hs : s < 16 * n) : ∃ p, mvd n s (inv (lmv a s)) = some p := by
  have ha2 : a < 192 := by omega
  have hs2 : s < 192 := by omega
  have l6 := lmv_lt (a := a) (s := s)
  have c16 := (rel_d ha2 hs2).1
  have h3 : lmv a s = 5 ∨ lmv a s = 4 ∨ lmv a s < 4 := by omega
  rcases h3 with h5 | h4 | h4
  · have q := lm0_5 h5
    rw [c16] at q
    rw [h5]
    refine ⟨s - 16, ?_⟩
    show (if s < 16 then none else some (s - 16)) = _
    rw [if_neg (by omega)]
  · have q := lm0_4 h4
    rw [c16] at q
    rw [h4]
    refine ⟨s + 16, ?_⟩
    show (if s / 16 + 1 < n then some (s + 16) else none) = _
    rw [if_pos (by omega)]
  · have i4 := inv_lt4 h4
    have i5 : inv (lmv a s) ≠ 5 := by omega
    have c := mv_cmp s hs2 (inv (lmv a s)) i4
    rw [mvd_n (m := n) i5] at c
    cases e : mvd n s (inv (lmv a s)) with
    | none => rw [e] at c; cases c
    | some p => exact ⟨p, rfl⟩
theorem prv_is {n a s : Nat} (hn : n ≤ 12) (ha : a < 16 * n) (hs : s < 16 * n) (hne : s ≠ a) : mvd n s (inv (lmv a s)) = some (prv n a s) ∧ prv n a s < 16 * n ∧ mvd n (prv n a s) (lmv a s) = some s ∧ wrd a s = 7 * wrd a (prv n a s) + lmv a s + 1 ∧ dst a s = dst a (prv n a s) + 1 := by
  have ha2 : a < 192 := by omega
  have hs2 : s < 192 := by omega
  obtain ⟨p, hp⟩ := prv_some hn ha hs
  have r192 : rel a s ≠ 192 := fun z => hne (rel_inj ha2 hs2 ha2 (z.trans rel_self.symm))
  obtain ⟨q, hq, eq⟩ := rel_q ha2 hs2
  have wp := w_par q hq (by rw [eq]; exact r192)
  rw [eq] at wp
  have ep : prv n a s = p := by unfold prv; rw [hp]; rfl
  have rm := rel_mv ha2 hn hs (inv_lt lmv_lt) hp
  have e0 : lm0 (rel a s) = lmv a s := rfl
  rw [e0, rm] at wp
  simp only [Option.any_some, Bool.and_eq_true, decide_eq_true_eq] at wp
  rw [ep]
  exact ⟨hp, mvd_lt hs hp, mv_inv hn hs lmv_lt hp, wp.1.1.1, wp.1.1.2⟩
theorem edge {n a s v t : Nat} (hn : n ≤ 12) (ha : a < 16 * n) (hs : s < 16 * n) (hv : v < 6) (h : mvd n s v = some t) : wrd a t ≤ 7 * wrd a s + v + 1 ∧ dst a t ≤ dst a s + 1 ∧ dst a s ≤ dst a t + 1 := by
  have ha2 : a < 192 := by omega
  obtain ⟨q, hq, eq⟩ := rel_q ha2 (show s < 192 by omega)
  have we := w_edge q hq v hv
  rw [eq, rel_mv ha2 hn hs hv h] at we
  simp only [Option.all_some, Bool.and_eq_true, decide_eq_true_eq] at we
  exact ⟨we.1.1, we.1.2, we.2⟩
theorem wrd_inj {a s t : Nat} (ha : a < 192) (hs : s < 192) (ht : t < 192) (h : wrd a s = wrd a t) : s = t := by
  obtain ⟨q1, h1, e1⟩ := rel_q ha hs
  obtain ⟨q2, h2, e2⟩ := rel_q ha ht
  have d1 := w_dec q1 h1
  have d2 := w_dec q2 h2
  rw [e1] at d1
  rw [e2] at d2
  unfold wrd at h
  rw [h, d2] at d1
  exact (rel_inj ha hs ht d1.symm)
theorem dst_facts {a s : Nat} (ha : a < 192) (hs : s < 192) : wrd a s < 7 ^ dst a s ∧ (7 ^ dst a s ≤ 7 * wrd a s ∨ dst a s = 0) ∧ dst a s ≤ 15 ∧ (dst a s = 0 ↔ s = a) := by
  obtain ⟨q, hq, e⟩ := rel_q ha hs
  have w := w_len q hq
  rw [e] at w
  refine ⟨w.1, w.2.1, w.2.2.1, ?_⟩
  constructor
  · intro z; exact rel_inj ha hs ha ((w.2.2.2 z).trans rel_self.symm)
  · rintro rfl; unfold dst; rw [rel_self]; exact w_192.2
theorem wrd_self (a : Nat) : wrd a a = 0 := by unfold wrd; rw [rel_self]; exact w_192.1
theorem dst_self (a : Nat) : dst a a = 0 := by unfold dst; rw [rel_self]; exact w_192.2
theorem wrd_dst {a s t : Nat} (ha : a < 192) (hs : s < 192) (ht : t < 192) (h : wrd a s ≤ wrd a t) : dst a s ≤ dst a t := by
  have f1 := dst_facts ha hs
  have f2 := dst_facts ha ht
  rcases Nat.lt_or_ge (dst a t) (dst a s) with hl | hl
  · exfalso
    have : 7 ^ (dst a t + 1) ≤ 7 ^ dst a s := Nat.pow_le_pow_right (by decide) hl
    rw [Nat.pow_succ] at this
    rcases f1.2.1 with z | z <;> omega
  · exact hl
theorem neg0 : ∀ d, d < 25 → ∀ f, f < 4 → ∀ h, h < 2 → ∀ e, e < 2 → ds0 (16 * d + 4 * f + 2 * h + e) = ds0 (16 * (24 - d) + 4 * ((4 - f) % 4) + 2 * h + e) := by decide +kernel
theorem ng1 : ∀ f, f < 4 → ∀ g, g < 4 → (4 - (f + 4 - g) % 4) % 4 = (g + 4 - f) % 4 := by decide +kernel
theorem dst_sym {a s : Nat} (ha : a < 192) (hs : s < 192) : dst a s = dst s a := by
  have h1 : s / 16 < 12 := by omega
  have h2 : a / 16 < 12 := by omega
  unfold dst rel
  rw [neg0 _ (by omega) _ (Nat.mod_lt _ (by decide)) _ (Nat.mod_lt _ (by decide)) _ (Nat.mod_lt _ (by decide)), ng1 _ (Nat.mod_lt _ (by decide)) _ (Nat.mod_lt _ (by decide)), Nat.add_comm (s / 2 % 2), Nat.add_comm (s % 2), show 24 - (s / 16 + 12 - a / 16) = a / 16 + 12 - s / 16 by omega]
