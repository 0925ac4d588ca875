/-! The pure part: states, places, sides -/
def zz0 : zS := (fun _ _ => 0, fun _ _ => 0, fun _ => false)
/-- a part's place, one more -/
def crs (s p : Nat) : Nat := (if p < 2 then s / 2 else s) % 2
def plc (s p : Nat) : Nat :=
  if s / 4 % 4 % 2 = 1 then s / 16 + 1
  else if (p % 2 + crs s p + (if s / 4 % 4 = 2 then 1 else 0)) % 2 = 1 then s / 16 + 2 else s / 16
def fcg (s f : Nat) : Nat := s / 16 * 16 + 4 * f + s % 4
/-- a move of a state on a street of so many cells -/
def mvd (n s v : Nat) : Option Nat :=
  if v = 0 then some (fcg s ((s / 4 % 4 + 1) % 4)) else if v = 1 then some (fcg s ((s / 4 % 4 + 3) % 4))
  else if v = 2 then some (if s / 2 % 2 = 0 then s + 2 else s - 2) else if v = 3 then some (if s % 2 = 0 then s + 1 else s - 1)
  else if v = 4 then (if s < 16 then none else some (s - 16)) else if v = 5 then (if s / 16 + 1 < n then some (s + 16) else none) else none
def oI (o : Option Nat) : Int32 := match o with | none => -1 | some s => nI s
theorem plc_le {s p : Nat} (hs : s < 192) : plc s p ≤ 13 := by unfold plc; (repeat' split) <;> omega
theorem c_place0 : ∀ s, s < 192 → ∀ p, p < 4 → f_X5_placeOf (nI s) (nI p) zz0 = nI (plc s p) - 1 := by decide +kernel
theorem c_place {s p : Nat} (hs : s < 192) (hp : p < 4) (σ : zS) : f_X5_placeOf (nI s) (nI p) σ = nI (plc s p) - 1 := c_place0 s hs p hp
theorem m_place0 : ∀ s, s < 192 → ∀ p, p < 4 → f_X12_placeOf (nI s) (nI p) zz0 = nI (plc s p) - 1 := by decide +kernel
theorem m_place {s p : Nat} (hs : s < 192) (hp : p < 4) (σ : zS) : f_X12_placeOf (nI s) (nI p) σ = nI (plc s p) - 1 := m_place0 s hs p hp
theorem c_cross0 : ∀ s, s < 192 → ∀ p, p < 4 → f_X5_crossOf (nI s) (nI p) zz0 = nI (crs s p) := by decide +kernel
theorem c_cross {s p : Nat} (hs : s < 192) (hp : p < 4) (σ : zS) : f_X5_crossOf (nI s) (nI p) σ = nI (crs s p) := c_cross0 s hs p hp
theorem m_cross0 : ∀ s, s < 192 → ∀ p, p < 4 → f_X12_isCrossed (nI s) (nI p) zz0 = nI (crs s p) := by decide +kernel
theorem m_cross {s p : Nat} (hs : s < 192) (hp : p < 4) (σ : zS) : f_X12_isCrossed (nI s) (nI p) σ = nI (crs s p) := m_cross0 s hs p hp
theorem c_face0 : ∀ s, s < 192 → f_X5_faceOf (nI s) zz0 = nI (s / 4 % 4) := by decide +kernel
theorem c_face {s : Nat} (hs : s < 192) (σ : zS) : f_X5_faceOf (nI s) σ = nI (s / 4 % 4) := c_face0 s hs
theorem m_face0 : ∀ s, s < 192 → f_X12_faceOf (nI s) zz0 = nI (s / 4 % 4) := by decide +kernel
theorem m_face {s : Nat} (hs : s < 192) (σ : zS) : f_X12_faceOf (nI s) σ = nI (s / 4 % 4) := m_face0 s hs
theorem c_cell0 : ∀ s, s < 192 → f_X5_cellOf (nI s) zz0 = nI (s / 16) := by decide +kernel
theorem c_cell {s : Nat} (hs : s < 192) (σ : zS) : f_X5_cellOf (nI s) σ = nI (s / 16) := c_cell0 s hs
theorem m_cell {s : Nat} (hs : s < 192) (σ : zS) : f_X12_cellOf (nI s) σ = nI (s / 16) := c_cell0 s hs
theorem c_hands0 : ∀ s, s < 192 → f_X5_handsOf (nI s) zz0 = nI (s / 2 % 2) := by decide +kernel
theorem c_hands {s : Nat} (hs : s < 192) (σ : zS) : f_X5_handsOf (nI s) σ = nI (s / 2 % 2) := c_hands0 s hs
theorem c_feet0 : ∀ s, s < 192 → f_X5_feetOf (nI s) zz0 = nI (s % 2) := by decide +kernel
theorem c_feet {s : Nat} (hs : s < 192) (σ : zS) : f_X5_feetOf (nI s) σ = nI (s % 2) := c_feet0 s hs
theorem c_facing0 : ∀ s, s < 192 → ∀ f, f < 4 → f_X5_facing (nI s) (nI f) zz0 = nI (fcg s f) := by decide +kernel
theorem c_facing {s f : Nat} (hs : s < 192) (hf : f < 4) (σ : zS) : f_X5_facing (nI s) (nI f) σ = nI (fcg s f) := c_facing0 s hs f hf
theorem m_facing0 : ∀ s, s < 192 → ∀ f, f < 4 → f_X12_facing (nI s) (nI f) zz0 = nI (fcg s f) := by decide +kernel
theorem m_facing {s f : Nat} (hs : s < 192) (hf : f < 4) (σ : zS) : f_X12_facing (nI s) (nI f) σ = nI (fcg s f) := m_facing0 s hs f hf
theorem fcg_lt {s f n : Nat} (hs : s < 16 * n) (hf : f < 4) : fcg s f < 16 * n := by unfold fcg; omega
theorem mvd_lt {n s v t : Nat} (hs : s < 16 * n) (h : mvd n s v = some t) : t < 16 * n := by
  unfold mvd at h
  have f : ∀ f, f < 4 → fcg s f < 16 * n := fun f hf => fcg_lt hs hf
  (repeat' split at h) <;> simp only [Option.some.injEq, reduceCtorEq] at h
  · have := f _ (Nat.mod_lt (s / 4 % 4 + 1) (by decide)); omega
  · have := f _ (Nat.mod_lt (s / 4 % 4 + 3) (by decide)); omega
  all_goals omega
theorem c_moved0 : ∀ n, n < 13 → ∀ s, s < 16 * n → ∀ v, v < 6 → f_X5_movedBy (nI s) (nI v) (nI n) zz0 = oI (mvd n s v) := by decide +kernel
theorem c_moved {n s v : Nat} (hn : n < 13) (hs : s < 16 * n) (hv : v < 6) (σ : zS) : f_X5_movedBy (nI s) (nI v) (nI n) σ = oI (mvd n s v) := c_moved0 n hn s hs v hv
