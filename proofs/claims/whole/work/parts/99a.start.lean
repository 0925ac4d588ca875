/-! The pure part: the start; all calls -/
theorem okT00 : okT T00 := by
  refine ⟨⟨by decide, by decide, by decide, by decide, by decide, by decide, by decide, by decide, by decide⟩, fun k hk => absurd hk (Nat.not_lt_zero k), fun k hk => absurd hk (Nat.not_lt_zero k), fun k hk => absurd hk (Nat.not_lt_zero k), fun k hk => ⟨Nat.le_refl _, Nat.zero_le _, fun z => absurd z (Nat.lt_irrefl _)⟩⟩
def st_C (σ : zS) : Prop := (σ.2.2 0 = false ∧ σ.2.2 1 = true ∧ σ.2.2 2 = false) ∧ (σ.1 300 0 = 8 ∧ σ.1 300 1 = 0 ∧ σ.1 300 6 = 0 ∧ σ.1 300 11 = 0 ∧ σ.1 300 5 = 0 ∧ σ.1 300 16 = 5 ∧ σ.1 1300 0 = 0) ∧ (∀ k, k < 3 → σ.1 1305 k = -1) ∧ (σ.1 1000 1 = -1 ∧ σ.1 1000 2 = -1) ∧
  (σ.1 700 0 = 0 ∧ σ.1 700 1 = 0 ∧ σ.1 100 1 = 0 ∧ σ.1 100 2 = 0 ∧ σ.1 100 3 = -1 ∧ σ.1 100 10 = 0 ∧ σ.1 1100 0 = 0 ∧ σ.1 1200 0 = 0 ∧ σ.1 1200 1 = -1) ∧ (∀ k, k < 12 → σ.1 304 k = 9) ∧ (∀ k, k < 34 → σ.1 502 k = langW.getD k 0) ∧ (∀ k, k < 700 → σ.1 101 k = 0)
def st_M (μ : zS) : Prop := (μ.1 5000 37 = -1 ∧ μ.1 5000 2 = 0 ∧ μ.1 5000 30 = 0 ∧ μ.1 5000 31 = -1 ∧ μ.1 5000 45 = 0 ∧ μ.1 5000 46 = 0 ∧ μ.1 5000 53 = 0 ∧ μ.1 5000 54 = -1) ∧ (∀ k, k < 8 → μ.1 5004 k = nI (T00 4 k)) ∧ (∀ k, k < 3 → μ.1 5018 k = 0 ∧ μ.1 5019 k = 0) ∧ (∀ k, k < 700 → μ.1 5002 k = 0)
theorem zC_st : st_C zC0 := ⟨by decide +kernel, by decide +kernel, by decide +kernel, by decide +kernel, by decide +kernel, by decide +kernel, by decide +kernel, by decide +kernel⟩
theorem zM_st : st_M zM0 := ⟨by decide +kernel, by decide +kernel, by decide +kernel, by decide +kernel⟩
section
variable {σ μ : zS}
theorem st_RC (h : st_C σ) : RC false T00 σ := by
  obtain ⟨hb, hn, h5, -, -, hl, hw, -⟩ := h
  refine ⟨hb, hn, ⟨fun k hk => absurd hk (Nat.not_lt_zero k), fun k hk => absurd hk (Nat.not_lt_zero k), fun k hk => ?_⟩, ⟨fun k hk => absurd hk (Nat.not_lt_zero k), fun k hk => absurd hk (Nat.not_lt_zero k), fun k hk => absurd hk (Nat.not_lt_zero k), fun k hk => absurd hk (Nat.not_lt_zero k)⟩, ⟨fun k hk => absurd hk (Nat.not_lt_zero k), fun k hk => absurd hk (Nat.not_lt_zero k), fun k hk => absurd hk (Nat.not_lt_zero k), fun k hk => absurd hk (Nat.not_lt_zero k)⟩, ⟨fun k hk z => absurd z (Nat.lt_irrefl _), fun k hk _ => h5 k hk, fun k hk => absurd hk (Nat.not_lt_zero k), fun k hk => absurd hk (Nat.not_lt_zero k)⟩, hw⟩
  rw [Nat.zero_add]; exact hl k hk
theorem st_RM (h : st_M μ) : RM T00 μ := by
  obtain ⟨-, h4, h8, -⟩ := h
  refine ⟨fun k hk => ?_, ⟨fun k hk => absurd hk (Nat.not_lt_zero k), fun k hk => absurd hk (Nat.not_lt_zero k), fun k hk => absurd hk (Nat.not_lt_zero k), fun k hk => absurd hk (Nat.not_lt_zero k)⟩, ⟨fun k hk => absurd hk (Nat.not_lt_zero k), fun k hk => absurd hk (Nat.not_lt_zero k), fun k hk => absurd hk (Nat.not_lt_zero k), fun k hk => absurd hk (Nat.not_lt_zero k), fun k hk => absurd hk (Nat.not_lt_zero k)⟩, ⟨fun k hk => absurd hk (Nat.not_lt_zero k), fun k hk => absurd hk (Nat.not_lt_zero k), fun k hk => absurd hk (Nat.not_lt_zero k), fun k hk => absurd hk (Nat.not_lt_zero k)⟩, ⟨fun k hk => ?_, fun k hk => ?_, fun k hk => absurd hk (Nat.not_lt_zero k), fun k hk => absurd hk (Nat.not_lt_zero k)⟩⟩
  · rw [Nat.zero_add]; exact h4 k hk
  · rw [Nat.zero_add]; exact (h8 k hk).1
  · rw [Nat.zero_add]; exact (h8 k hk).2
theorem st_V (hc : st_C σ) (hm : st_M μ) : ∃ σM, f_X12_begins μ = some σM ∧ V σ σM := by
  have rm := st_RM hm
  have rc := st_RC hc
  obtain ⟨σM, e, F, dm⟩ := m_begins okT00 rm
  obtain ⟨-, -, -, mc, ⟨c1, c2, c3, c4, c5, c6, c7, c8, c9⟩, -, -, ct⟩ := hc
  obtain ⟨⟨m1, m2, m3, m4, m5, m6, m7, m8⟩, -, -, mt⟩ := hm
  have g : ∀ p, [3, 10].elem (zm 5000 p) = false → σM.1 5000 p = μ.1 5000 p := fun p z => F.z rfl z
  refine ⟨σM, e, false, T00, D00 T00, 0, ⟨⟨okT00, rc, mc⟩, okT00, rm.mono okT00 F rfl, (g 37 rfl).trans m1, by rw [if_neg (by decide)]⟩, ⟨okD00 okT00, ⟨c1, c2, fun k hk => absurd hk (Nat.not_lt_zero k), fun k hk => absurd hk (Nat.not_lt_zero k), fun k hk => absurd hk (Nat.not_lt_zero k), fun k hk => absurd hk (Nat.not_lt_zero k)⟩, dm⟩, ?_, .inl ⟨c6, (g 45 rfl).trans m5⟩, ?_, ?_⟩
  · refine ⟨⟨0, by omega, c3, (g 2 rfl).trans m2⟩, ?_, ?_, fun _ => 0, fun _ => (show (0 : Nat) < 256 by omega), fun k hk => ?_, fun k hk => ?_⟩
    · rw [g 30 rfl, m3]; exact c4
    · rw [g 31 rfl, m4]; exact c5
    · rw [Nat.zero_add]; exact ct k hk
    · rw [Nat.zero_add, F.z (z := 2) rfl rfl]; exact mt k hk
  · exact ⟨0, fun _ => D00 T00, fun _ => 0, fun _ => 0, by omega, c7, (g 46 rfl).trans m6, rfl, rfl, fun k hk => absurd hk (Nat.not_lt_zero k)⟩
  · exact ⟨0, -1, fun _ _ => 0, ⟨by omega, .inl rfl, fun k hk => absurd hk (Nat.not_lt_zero k)⟩, ⟨c8, c9, fun k hk => absurd hk (Nat.not_lt_zero k)⟩, ⟨(g 53 rfl).trans m7, (g 54 rfl).trans m8, fun k hk => absurd hk (Nat.not_lt_zero k)⟩⟩
end
theorem V_start : ∃ σM, f_X12_begins zM0 = some σM ∧ V zC0 σM := st_V zC_st zM_st
theorem ops_V : OPS V := ⟨o_feed, o_text, o_fault, o_named, o_look, o_land, o_part, o_lawful, o_law, o_deed, o_clash, o_move, o_free, o_go, o_fewest, o_way, o_joint, o_stands, o_match, o_loopholes, o_loophole, o_shut, o_rests, o_rest, o_freed, o_print, o_strike, o_known, o_whose, o_chance, o_tried, o_undo, o_keep, o_back, o_count⟩
