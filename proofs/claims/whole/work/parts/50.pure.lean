/-! THE PURE PART. Reads and writes at places that are known -/
theorem okI_nI {k n : Nat} (h : k < n) (hn : n < 2 ^ 31) : okI (nI k) n = true := by
  have h1 : ¬ nI k < 0 := nI_pos (Nat.lt_trans h hn)
  have h2 : (nI k).toNatClampNeg = k := nI_clamp (Nat.lt_trans h hn)
  simp [okI, h1, h2, h]
theorem rd_nI {σ : zS} {a k n : Nat} (h : k < n) (hn : n < 2 ^ 31) : rdI σ a n (nI k) = some (σ.1 a k) := by
  rw [rdI, if_pos (okI_nI h hn), nI_clamp (Nat.lt_trans h hn)]
theorem rdL_nI {σ : zS} {a k n : Nat} (h : k < n) (hn : n < 2 ^ 31) : rdL σ a n (nI k) = some (σ.2.1 a k) := by
  rw [rdL, if_pos (okI_nI h hn), nI_clamp (Nat.lt_trans h hn)]
theorem wr_nI {σ : zS} {a k n : Nat} {v : Int32} (h : k < n) (hn : n < 2 ^ 31) : wrI σ a n (nI k) v = some (wI σ a k v) := by
  rw [wrI, if_pos (okI_nI h hn), nI_clamp (Nat.lt_trans h hn)]
theorem wrZ_nI {σ : zS} {a k n : Nat} {v : Int32} (h : k < n) (hn : n < 2 ^ 31) : wrZ σ a n (nI k) v = some (wI σ a k (vp_nar .boolean v)) := by
  rw [wrZ, if_pos (okI_nI h hn), nI_clamp (Nat.lt_trans h hn)]
theorem wrL_nI {σ : zS} {a k n : Nat} {v : Int64} (h : k < n) (hn : n < 2 ^ 31) : wrL σ a n (nI k) v = some (wL σ a k v) := by
  rw [wrL, if_pos (okI_nI h hn), nI_clamp (Nat.lt_trans h hn)]
theorem wI_at (σ : zS) (a k : Nat) (v : Int32) (b j : Nat) : (wI σ a k v).1 b j = if b = a ∧ j = k then v else σ.1 b j := rfl
theorem wI_B (σ : zS) (a k : Nat) (v : Int32) : (wI σ a k v).2 = σ.2 := rfl
theorem wL_at (σ : zS) (a k : Nat) (v : Int64) (b j : Nat) : (wL σ a k v).2.1 b j = if b = a ∧ j = k then v else σ.2.1 b j := rfl
theorem wL_I (σ : zS) (a k : Nat) (v : Int64) : (wL σ a k v).1 = σ.1 := rfl
theorem wL_B (σ : zS) (a k : Nat) (v : Int64) : (wL σ a k v).2.2 = σ.2.2 := rfl
theorem wA_at (σ : zS) (a : Nat) (f : Nat → Int32) (b j : Nat) : (wA σ a f).1 b j = if b = a then f j else σ.1 b j := by
  show (if b = a then f else σ.1 b) j = _
  by_cases h : b = a <;> simp [h]
theorem wA_B (σ : zS) (a : Nat) (f : Nat → Int32) : (wA σ a f).2 = σ.2 := rfl
/-- a number between bounds is a natural one -/
theorem nI_rng {x : Int32} {n : Nat} (hn : n < 2 ^ 31) (h0 : ¬ x < 0) (h1 : ¬ nI n ≤ x) : ∃ k, k < n ∧ x = nI k := by
  obtain ⟨j, hj, rfl⟩ := nI_of h0
  refine ⟨j, ?_, rfl⟩
  rw [nI_leI hn hj] at h1
  omega
/-- two stores alike off a set of cells, the bits alike -/
def fEq (S : Nat → Nat → Bool) (σ σ' : zS) : Prop := σ'.2.2 = σ.2.2 ∧ ∀ a k, S a k = false → σ'.1 a k = σ.1 a k
theorem fEq.rf {S : Nat → Nat → Bool} {σ : zS} : fEq S σ σ := ⟨rfl, fun _ _ _ => rfl⟩
theorem fEq.tr {S : Nat → Nat → Bool} {σ σ' σ'' : zS} (h : fEq S σ σ') (h' : fEq S σ' σ'') : fEq S σ σ'' := ⟨h'.1.trans h.1, fun a k z => (h'.2 a k z).trans (h.2 a k z)⟩
theorem fEq.mono {S S' : Nat → Nat → Bool} {σ σ' : zS} (h : fEq S σ σ') (hs : ∀ a k, S' a k = false → S a k = false) : fEq S' σ σ' := ⟨h.1, fun a k z => h.2 a k (hs a k z)⟩
theorem fEq.wI {S : Nat → Nat → Bool} {σ σ' : zS} {a k : Nat} {v : Int32} (h : fEq S σ σ') (hs : S a k = true) : fEq S σ (wI σ' a k v) := by
  refine ⟨h.1, fun b j z => ?_⟩
  rw [wI_at, if_neg ?_]
  · exact h.2 b j z
  · rintro ⟨rfl, rfl⟩; rw [hs] at z; cases z
theorem fEq.wL {S : Nat → Nat → Bool} {σ σ' : zS} {a k : Nat} {v : Int64} (h : fEq S σ σ') : fEq S σ (wL σ' a k v) := h
theorem fEq.wA {S : Nat → Nat → Bool} {σ σ' : zS} {a : Nat} {f : Nat → Int32} (h : fEq S σ σ') (hs : ∀ k, S a k = true) : fEq S σ (wA σ' a f) := by
  refine ⟨h.1, fun b j z => ?_⟩
  rw [wA_at, if_neg ?_]
  · exact h.2 b j z
  · rintro rfl; rw [hs] at z; cases z
