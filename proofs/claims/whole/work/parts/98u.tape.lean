/-! The pure part: text. A line of both; the lines of a tape -/
def LnR (d : Bool) (f : Nat → Nat) (N r n : Nat) (x : Option (Int32 × zS)) (y : Option zS) (σ μ : zS) : Prop :=
  ∃ σ' μ', y = some μ' ∧ FA d σ σ' ∧ FD d zAll μ μ' ∧ ((x = some (0, σ') ∧ JX σ' μ') ∨ (x = some (1, σ') ∧ ∃ T tb L A B, JL d f N (r - 1) T tb L A B (n + 1) σ' μ'))
section
variable {d : Bool} {f : Nat → Nat} {N r : Nat} {T : zT} {tb : Nat → Bool} {L : zK} {A B : Nat → Nat} {n : Nat} {σ μ : zS}
theorem BD.fin {x : Option (Int32 × zS)} {y : Option zS} (h : BD d f N r n x y σ μ) : LnR d f N r n (b2 x fun v s => f_X4_readLine_141 v s) y σ μ := by
  obtain ⟨σ1, μ1, e1, F1, G1, q⟩ := h
  rcases q with ⟨e2, X⟩ | ⟨e2, T, tb, L, A, B, hJL⟩
  · rw [e2, b2s, e1, X_353 X.1]
    unfold f_X4_readLine_141
    rw [if_pos rfl]
    exact ⟨σ1, μ1, rfl, F1, G1, .inl ⟨rfl, X⟩⟩
  · obtain ⟨hJ, hN, hd, hA, h2, h3, h4, h5, h6, h7, h8, h9, h10, h11⟩ := hJL
    rw [e2, b2s, e1]
    unfold f_X4_readLine_141 f_X12_line_353
    rw [if_neg (show ¬ (1 : Int32) = 0 by decide), if_pos hN.1, show f_X12_isSign 59 μ1 = f_X7_isSign 59 σ1 from hJ.sign hN.1 (w := 59) (by omega)]
    by_cases es : f_X7_isSign 59 σ1 = 0
    · obtain ⟨σ2, μ2, a1, a2, F2, G2, X⟩ := j_ref d hJ hN (k := 1) (by decide)
      rw [if_pos es, if_pos es, a1, a2, b2s, bs]
      unfold f_X12_line_382
      rw [lts]
      have G3 : ∀ x : Int32, FD d [11] μ2 (wI μ2 5000 22 x) := fun x => FD.rf.wI rfl
      exact ⟨σ2, _, rfl, F1.tr (F2.fa rfl), (G1.tr (G2.mono rfl)).tr ((G3 _).mono rfl), .inl ⟨rfl, X.fr (G3 _) rfl⟩⟩
    · obtain ⟨σ2, μ2, a1, a2, F2, G2, J2⟩ := j_adv1 (d := d) hJ (by rw [(isS_k es).1]; decide)
      rw [if_neg es, if_neg es, a1, a2, bs, bs]
      unfold f_X12_line_382
      rw [lts, show μ2.1 5000 22 = nI n from (h11.fr G2 rfl), nI_1]
      have G3 : FD d [11] μ2 (wI μ2 5000 22 (nI (n + 1))) := FD.rf.wI rfl
      have GG : FD d [1, 11] μ1 (wI μ2 5000 22 (nI (n + 1))) := (G2.mono rfl).tr (G3.mono rfl)
      refine ⟨σ2, _, rfl, F1.tr (F2.fa rfl), G1.tr (GG.mono rfl), .inr ⟨rfl, T, tb, L, A, B, (J2.mono (by omega)).fr (FD.rf (d := d) (Z := [])) G3 rfl rfl rfl rfl, (hN.fr F2 G2 rfl rfl).fr (FD.rf (d := d) (Z := [])) G3 rfl rfl, by rw [F2.1]; exact hd, hA, h2.fr F2 GG rfl rfl, h3.fr F2 GG rfl rfl, h4.fr F2 GG rfl rfl, h5.fr F2 GG rfl rfl, h6.fr F2 GG rfl rfl, h7.fr F2 GG rfl rfl rfl rfl, h8.fr F2 GG rfl rfl, h9.fr F2 GG rfl rfl, h10.fr GG rfl, wI_self _ _ _ _⟩⟩
/-- no line begins so -/
theorem LnR.bad (h : JT f N r σ μ) (h0 : NF σ μ) : LnR d f N r n (b2 (f_X7_refuse 1 σ) fun v s => f_X4_readLine_141 v s) (f_X12_line_16 μ) σ μ := by
  obtain ⟨σ', μ', a1, a2, F, G, X⟩ := j_ref d h h0 (k := 1) (by decide)
  unfold f_X12_line_16 f_X4_readLine_141
  rw [a1, a2, b2s, bs, if_pos rfl]
  exact ⟨σ', μ', rfl, F.fa rfl, G.mono rfl, .inl ⟨rfl, X⟩⟩
theorem j_line (h : JL d f N r T tb L A B n σ μ) (hk : ¬ σ.1 500 4 = 0) : LnR d f N r n (f_X4_readLine σ) (f_X12_line μ) σ μ := by
  have hJ := h.1
  have hN := h.2.1
  have other : ∀ s : Int32, s = -1 → ¬ μ.1 5000 26 = 0 → LnR d f N r n (f_X4_readLine_22 s σ) (f_X12_line μ) σ μ := by
    intro s hs hm
    rw [hs]
    unfold f_X4_readLine_22 f_X12_line
    rw [if_neg hm, if_neg (show ¬ (-1 : Int32) = 0 by decide), if_neg (show ¬ (-1 : Int32) = 1 by decide), if_neg (show ¬ (-1 : Int32) = 2 by decide), if_neg (show ¬ (-1 : Int32) = 3 by decide), if_neg (show ¬ (-1 : Int32) = 4 by decide), if_neg (show ¬ (-1 : Int32) = 5 by decide), if_neg (show ¬ (-1 : Int32) = 6 by decide), if_neg (show ¬ (-1 : Int32) = 7 by decide)]
    exact LnR.bad hJ hN
  unfold f_X4_readLine
  obtain ⟨p, -, -, c, -⟩ := hJ
  rcases c with ⟨a, b⟩ | ⟨w, hw, a, b, c, e⟩ | ⟨X, hX, a, b, c, e, g⟩ | ⟨x, y, hx, hy, hr, a, b, c, e⟩ | ⟨v, hv, a, b, c, e⟩ | ⟨a, b⟩
  · exact absurd a hk
  · rw [if_pos a, b]
    have ne : ∀ j, j < 34 → w ≠ j → ¬ nI w = nI j := fun j hj z q => z ((nI_eq (by omega) (by omega)).mp q)
    unfold f_X4_readLine_22
    by_cases w0 : w = 0
    · subst w0
      rw [if_pos (show nI 0 = (0 : Int32) from rfl)]
      exact (j_street h hk c e).fin
    rw [if_neg (show ¬ nI w = (0 : Int32) from ne 0 (by omega) w0)]
    by_cases w1 : w = 1
    · subst w1
      rw [if_pos (show nI 1 = (1 : Int32) from rfl)]
      exact (j_land h hk c e).fin
    rw [if_neg (show ¬ nI w = (1 : Int32) from ne 1 (by omega) w1)]
    by_cases w2 : w = 2
    · subst w2
      rw [if_pos (show nI 2 = (2 : Int32) from rfl)]
      exact (j_man h hk c e).fin
    rw [if_neg (show ¬ nI w = (2 : Int32) from ne 2 (by omega) w2)]
    by_cases w3 : w = 3
    · subst w3
      rw [if_pos (show nI 3 = (3 : Int32) from rfl)]
      exact (j_deed h hk c e).fin
    rw [if_neg (show ¬ nI w = (3 : Int32) from ne 3 (by omega) w3)]
    by_cases w4 : w = 4
    · subst w4
      rw [if_pos (show nI 4 = (4 : Int32) from rfl)]
      exact (j_bar h hk c e).fin
    rw [if_neg (show ¬ nI w = (4 : Int32) from ne 4 (by omega) w4)]
    by_cases w5 : w = 5
    · subst w5
      rw [if_pos (show nI 5 = (5 : Int32) from rfl)]
      exact (j_fine h hk c e).fin
    rw [if_neg (show ¬ nI w = (5 : Int32) from ne 5 (by omega) w5)]
    by_cases w6 : w = 6
    · subst w6
      rw [if_pos (show nI 6 = (6 : Int32) from rfl)]
      exact (j_seed h hk c e).fin
    rw [if_neg (show ¬ nI w = (6 : Int32) from ne 6 (by omega) w6)]
    by_cases w7 : w = 7
    · subst w7
      rw [if_pos (show nI 7 = (7 : Int32) from rfl)]
      exact (j_law h hk c e).fin
    rw [if_neg (show ¬ nI w = (7 : Int32) from ne 7 (by omega) w7)]
    unfold f_X12_line
    rw [if_pos c, e, if_neg (show ¬ nI (w34 w) ≤ (7 : Int32) from nI_ge (a := 7) (by unfold w34; split <;> omega) (by unfold w34; split <;> omega))]
    exact LnR.bad h.1 hN
  · rw [if_pos a]
    exact other _ b (by rw [e]; decide)
  · rw [if_neg (by rw [a]; decide)]
    exact other _ rfl (by rw [c]; decide)
  · rw [if_neg (by rw [a]; decide)]
    exact other _ rfl (by rw [c]; decide)
  · rw [if_neg (by rw [a]; decide)]
    exact other _ rfl (by rw [b]; decide)
theorem JT.stop (h : JT f N r σ μ) : (σ.1 500 4 = 0 ∧ μ.1 5000 26 = 4) ∨ (¬ σ.1 500 4 = 0 ∧ ¬ μ.1 5000 26 = 4 ∧ 0 < r) := by
  obtain ⟨p, -, -, c, -, q⟩ := h
  rcases c with ⟨a, b⟩ | ⟨w, hw, a, b, c, e⟩ | ⟨X, hX, a, b, c, e, g⟩ | ⟨x, y, hx, hy, hr, a, b, c, e⟩ | ⟨v, hv, a, b, c, e⟩ | ⟨a, b⟩
  · exact .inl ⟨a, b⟩
  · exact .inr ⟨by rw [a]; decide, by rw [c]; decide, by rcases q with q | q; rw [a] at q; exact absurd q (by decide); omega⟩
  · exact .inr ⟨by rw [a]; decide, by rw [e]; decide, by rcases q with q | q; rw [a] at q; exact absurd q (by decide); omega⟩
  · exact .inr ⟨by rw [a]; decide, by rw [c]; decide, by rcases q with q | q; rw [a] at q; exact absurd q (by decide); omega⟩
  · exact .inr ⟨by rw [a]; decide, by rw [c]; decide, by rcases q with q | q; rw [a] at q; exact absurd q (by decide); omega⟩
  · exact .inr ⟨by rw [a]; decide, by rw [b]; decide, by rcases q with q | q; rw [a] at q; exact absurd q (by decide); omega⟩
theorem j_tape (hN7 : N ≤ 700) : ∀ (r n fc fm : Nat) (T : zT) (tb : Nat → Bool) (L : zK) (A B : Nat → Nat) (σ μ : zS), n + r ≤ N → r < fc → r + 1 < fm → JL d f N r T tb L A B n σ μ →
    ∃ σ' μ', f_X12_text_135 fm μ = f_X12_text_157 μ' ∧ FA d σ σ' ∧ FD d zAll μ μ' ∧ ((f_X4_readTape_32 fc (nI N) (nI n) σ = some (-1, σ') ∧ JX σ' μ') ∨
      ∃ n' r' T tb L A B, f_X4_readTape_32 fc (nI N) (nI n) σ = some (nI n', σ') ∧ n' ≤ N ∧ JL d f N r' T tb L A B n' σ' μ') := by
  intro r
  induction r using Nat.strongRecOn with
  | _ r ih =>
  intro n fc fm T tb L A B σ μ hn hfc hfm h
  obtain ⟨fc, rfl⟩ : ∃ m, fc = m + 1 := ⟨fc - 1, by omega⟩
  obtain ⟨fm, rfl⟩ : ∃ m, fm = m + 1 := ⟨fm - 1, by omega⟩
  unfold f_X12_text_135 f_X4_readTape_32
  rw [if_pos h.2.1.1, if_neg (nI_nlt (show n ≤ N by omega) (by omega))]
  rcases h.1.stop with ⟨a, b⟩ | ⟨a, b, hr⟩
  · rw [if_pos a, if_pos b]
    exact ⟨σ, μ, rfl, FD.rf, FD.rf, .inr ⟨n, r, T, tb, L, A, B, rfl, by omega, h⟩⟩
  · rw [if_neg a, if_neg b]
    obtain ⟨σ1, μ1, e1, F1, G1, q⟩ := j_line h a
    rw [e1, bs]
    rcases q with ⟨e2, X⟩ | ⟨e2, T, tb, L, A, B, h1⟩
    · rw [e2, b2s, if_pos rfl]
      obtain ⟨fm, rfl⟩ : ∃ m, fm = m + 1 := ⟨fm - 1, by omega⟩
      unfold f_X12_text_135
      rw [if_neg X.1]
      exact ⟨σ1, μ1, rfl, F1, G1, .inl ⟨rfl, X⟩⟩
    · rw [e2, b2s, if_neg (show ¬ (1 : Int32) = 0 by decide), nI_1]
      obtain ⟨σ2, μ2, e3, F2, G2, q⟩ := ih (r - 1) (by omega) (n + 1) fc fm T tb L A B σ1 μ1 (by omega) (by omega) (by omega) h1
      exact ⟨σ2, μ2, e3, F1.tr F2, G1.tr G2, q⟩
end
