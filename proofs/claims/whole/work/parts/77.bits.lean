/-! The pure part: all matched to cells -/
/-- bits set among j places from c -/
def pcN (s : Nat) : Nat → Nat → Nat
  | 0, _ => 0
  | j + 1, c => s / 2 ^ c % 2 + pcN s j (c + 1)
/-- the next place with a bit, from c, among j places -/
def nbN (s : Nat) : Nat → Nat → Nat
  | 0, c => c
  | j + 1, c => if s / 2 ^ c % 2 = 1 then c else nbN s j (c + 1)
theorem pcN_s (s j c : Nat) : pcN s (j + 1) c = s / 2 ^ c % 2 + pcN s j (c + 1) := rfl
theorem nbN_s (s j c : Nat) : nbN s (j + 1) c = if s / 2 ^ c % 2 = 1 then c else nbN s j (c + 1) := rfl
theorem pcN_le (s : Nat) : ∀ j c, pcN s j c ≤ j
  | 0, c => Nat.le_refl _
  | j + 1, c => by have := pcN_le s j (c + 1); rw [pcN_s]; omega
theorem nbN_rng (s : Nat) : ∀ j c, c ≤ nbN s j c ∧ nbN s j c ≤ c + j
  | 0, c => ⟨Nat.le_refl _, Nat.le_refl _⟩
  | j + 1, c => by
    have := nbN_rng s j (c + 1)
    rw [nbN_s]; split <;> omega
/-- behind the next bit there is one less -/
theorem pc_nb (s : Nat) : ∀ j c, (pcN s j c = 0 ∧ nbN s j c = c + j) ∨ (nbN s j c < c + j ∧ s / 2 ^ nbN s j c % 2 = 1 ∧ pcN s j c = 1 + pcN s (c + j - (nbN s j c + 1)) (nbN s j c + 1))
  | 0, c => .inl ⟨rfl, rfl⟩
  | j + 1, c => by
    rw [pcN_s, nbN_s]
    by_cases h : s / 2 ^ c % 2 = 1
    · right
      rw [if_pos h, h]
      refine ⟨by omega, rfl, ?_⟩
      rw [show c + (j + 1) - (c + 1) = j by omega]
    · have h0 : s / 2 ^ c % 2 = 0 := by omega
      rw [if_neg h, h0, Nat.zero_add]
      rcases pc_nb s j (c + 1) with ⟨a, e⟩ | ⟨a, e, f⟩
      · left; exact ⟨a, by omega⟩
      · right
        refine ⟨by omega, e, ?_⟩
        rw [f, show c + 1 + j = c + (j + 1) by omega]
/-- the i-th bit from c -/
def kth (s n : Nat) : Nat → Nat → Nat
  | 0, c => nbN s (n - c) c
  | i + 1, c => kth s n i (nbN s (n - c) c + 1)
theorem bit12 : ∀ v, v < 4096 → ∀ p, p < 12 → ((nI v >>> (nI p &&& 31)) &&& (1 : Int32) = nI (v / 2 ^ p % 2)) := by
  intro v hv p hp
  have e : nI p &&& 31 = nI p := by
    have : ∀ p, p < 12 → nI p &&& 31 = nI p := by decide +kernel
    exact this p hp
  have e2 : ((nI p).toBitVec.smod 32).toNat = p := by
    have : ∀ p, p < 12 → ((nI p).toBitVec.smod 32).toNat = p := by decide +kernel
    exact this p hp
  rw [e, pk_shrN (by omega) _ p e2]
  have hl : v / 2 ^ p < 2 ^ 32 := Nat.lt_of_le_of_lt (Nat.div_le_self _ _) (by omega)
  exact pk_andN hl 1 (by decide)
theorem popc0 : ∀ a, a < 64 → ∀ c, c < 64 → f_J6_bitCount_0f7a4 (nI (64 * a + c)) zz0 = nI (pcN (64 * a + c) 12 0) := by decide +kernel
theorem popc (v : Nat) (hv : v < 4096) : f_J6_bitCount_0f7a4 (nI v) zz0 = nI (pcN v 12 0) := by
  have := popc0 (v / 64) (by omega) (v % 64) (by omega)
  rwa [show 64 * (v / 64) + v % 64 = v by omega] at this
theorem lowb0 : ∀ p, p < 12 → ∀ a, a < 32 → ∀ c, c < 64 → 64 * a + c < 2 ^ (11 - p) → f_J6_numberOfTrailingZeros_0f7a4 (nI ((64 * a + c) * 2 ^ (p + 1) + 2 ^ p)) zz0 = nI p ∧ nI ((64 * a + c) * 2 ^ (p + 1) + 2 ^ p) &&& (nI ((64 * a + c) * 2 ^ (p + 1) + 2 ^ p) - 1) = nI ((64 * a + c) * 2 ^ (p + 1)) := by decide +kernel
theorem lowb (p : Nat) (hp : p < 12) (q : Nat) (hq : q < 2 ^ (11 - p)) : f_J6_numberOfTrailingZeros_0f7a4 (nI (q * 2 ^ (p + 1) + 2 ^ p)) zz0 = nI p ∧ nI (q * 2 ^ (p + 1) + 2 ^ p) &&& (nI (q * 2 ^ (p + 1) + 2 ^ p) - 1) = nI (q * 2 ^ (p + 1)) := by
  have p11 : 2 ^ (11 - p) ≤ 2 ^ 11 := Nat.pow_le_pow_right (by decide) (by omega)
  have e : 64 * (q / 64) + q % 64 = q := by omega
  have := lowb0 p hp (q / 64) (by omega) (q % 64) (by omega) (by rw [e]; exact hq)
  rwa [e] at this
