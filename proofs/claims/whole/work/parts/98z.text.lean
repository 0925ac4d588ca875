/-! The pure part: text, the call -/
theorem Vx.b3 {b : Bool} {T D : zT} {mv : Int32} {σc σm : zS} {x : Bool} (h : Vx b T D mv (wB σc 3 x) σm) : Vx b T D mv σc σm := h
theorem Vx.b3' {b : Bool} {T D : zT} {mv : Int32} {σc σm : zS} {x : Bool} (h : Vx b T D mv σc σm) : Vx b T D mv (wB σc 3 x) σm := h
theorem Vx.cut {b : Bool} {T D : zT} {mv : Int32} {σc μ μ' : zS} (h : Vx b T D mv σc (cutM μ μ')) : Vx b T D mv σc μ' := h
/-- a text that does not stand changes but tape and fault -/
theorem text_bad {b : Bool} {T D : zT} {mv : Int32} {σc σm σ' μ' : zS} (h : Vx b T D mv σc σm) (FX : Fc b [8, 14] (wB (wI σc 100 1 0) 3 (!b)) (wB σ' 3 (!b))) (GX : Gm (wI σm 5000 2 0) μ') (hJ : σ'.1 500 8 = μ'.1 5000 28 ∧ σ'.1 500 9 = μ'.1 5000 29) :
    V (wI (wI σ' 100 2 (σ'.1 500 8)) 100 3 ((wI σ' 100 2 (σ'.1 500 8)).1 500 9)) (wI (wI μ' 5000 30 (μ'.1 5000 28)) 5000 31 ((wI μ' 5000 30 (μ'.1 5000 28)).1 5000 29)) := by
  obtain ⟨h1, h2, h3, h4, h5, h6⟩ := h.b3' (x := !b)
  have hT : okT T := h1.1.1
  have F : Fc b [2, 8, 14] (wB σc 3 (!b)) (wB (wI (wI σ' 100 2 (σ'.1 500 8)) 100 3 ((wI σ' 100 2 (σ'.1 500 8)).1 500 9)) 3 (!b)) :=
    ((Fc.rf.wI (a := 100) (k := 1) (v := 0) rfl : Fc b [2, 8, 14] (wB σc 3 (!b)) (wI (wB σc 3 (!b)) 100 1 0)).tr (FX.mono rfl)).tr ((Fc.rf.wI rfl).wI rfl : Fc b [2, 8, 14] (wB σ' 3 (!b)) (wI (wI (wB σ' 3 (!b)) 100 2 (σ'.1 500 8)) 100 3 ((wI σ' 100 2 (σ'.1 500 8)).1 500 9)))
  have G : Fm [2, 8] σm (cutM σm (wI (wI μ' 5000 30 (μ'.1 5000 28)) 5000 31 ((wI μ' 5000 30 (μ'.1 5000 28)).1 5000 29))) := by
    refine ⟨GX.1, fun i p z => ?_⟩
    have z' : [2, 8].elem (zm i p) = false := z
    show (if 5000 ≤ i then _ else _) = _
    by_cases hi : 5000 ≤ i
    · rw [if_pos hi]
      have n2 : ¬ zm i p = 2 := fun e => by rw [e] at z'; cases z'
      have n8 : ¬ zm i p = 8 := fun e => by rw [e] at z'; cases z'
      have m2 : ∀ q, q = 2 ∨ q = 30 ∨ q = 31 → ¬ (i = 5000 ∧ p = q) := fun q hq e => n2 (by rw [e.1, e.2]; rcases hq with rfl | rfl | rfl <;> rfl)
      rw [wI_at, if_neg (m2 31 (by omega)), wI_at, if_neg (m2 30 (by omega)), GX.2 i p hi n8, wI_at, if_neg (m2 2 (by omega))]
    · rw [if_neg hi]
  have q : Vx b T D mv (wB (wI (wI σ' 100 2 (σ'.1 500 8)) 100 3 ((wI σ' 100 2 (σ'.1 500 8)).1 500 9)) 3 (!b)) (cutM σm (wI (wI μ' 5000 30 (μ'.1 5000 28)) 5000 31 ((wI μ' 5000 30 (μ'.1 5000 28)).1 5000 29))) := by
    refine ⟨h1.mono F G rfl rfl rfl rfl, h2.mono hT F G rfl rfl, ?_, h4.mono hT F G rfl rfl, h5.mono hT F G rfl rfl, h6.mono F G rfl rfl⟩
    obtain ⟨-, -, -, f, hf, hc, hm⟩ := h3
    refine ⟨⟨0, by omega, ?_, ?_⟩, hJ.1, hJ.2, f, hf, fun k hk => ?_, fun k hk => ?_⟩
    · exact FX.z (i := 100) (k := 1) (z := 2) rfl rfl
    · exact (GX.2 5000 2 (by omega) (by decide))
    · exact (FX.z (i := 101) (k := 0 + k) (z := 2) rfl rfl).trans (hc k hk)
    · exact (GX.2 5002 (0 + k) (by omega) (by show ¬ (2 : Nat) = 8; decide)).trans (hm k hk)
  exact ⟨b, T, D, mv, q.cut.b3⟩
/-- a text that stands -/
theorem text_good {b : Bool} {f : Nat → Nat} {N r n : Nat} {T0 D0 : zT} {mv : Int32} {T : zT} {tb : Nat → Bool} {L : zK} {A B : Nat → Nat} {σc σm σ' μ' : zS} (h : Vx b T0 D0 mv σc σm) (FX : Fc b [8, 14] (wB (wI σc 100 1 0) 3 (!b)) (wB σ' 3 (!b))) (GX : Gm (wI σm 5000 2 0) μ') (hn : n ≤ 700) (J : JL (!b) f N r T tb L A B n σ' μ') :
    ∃ σf μf, f_X11_takeDraft (wI (wI σ' 100 2 (σ'.1 500 8)) 100 3 ((wI σ' 100 2 (σ'.1 500 8)).1 500 9)) = some σf ∧ f_X12_text_157 μ' = some (nI n, μf) ∧ V σf μf := by
  obtain ⟨hJ, hN, hd, hA, h2, h3, h4, h5, h6, h7, h8, h9, h10, h11⟩ := J
  obtain ⟨v1, v2, v3, v4, v5, v6⟩ := h.b3' (x := !b)
  obtain ⟨-, -, -, g, hg, hc, hm⟩ := v3
  have hT := okT_fin hA h7
  have lang : ∀ k, k < 34 → σ'.1 502 k = langW.getD k 0 := fun k hk => (FX.z (i := 502) (k := k) (z := 1) rfl rfl).trans (v1.1.2.1.2.2.2.2.2.2 k hk)
  have b0 : σ'.2.2 0 = b := by
    have := congrFun FX.1 0
    exact this.trans h.b0
  have bb : ∀ x : Bool, (!(!x)) = x := fun x => by cases x <;> rfl
  -- the class
  have hRC := RC_fin hA h3 h4 h5 h6 h7 h8 h9 lang
  rw [bb] at hRC
  have F1 : Fc (!b) [2] (wB (wB (wB σ' 1 b) 0 (!b)) 2 (!b)) (wB (wB (wB (wI (wI σ' 100 2 (σ'.1 500 8)) 100 3 ((wI σ' 100 2 (σ'.1 500 8)).1 500 9)) 1 b) 0 (!b)) 2 (!b)) := ((Fc.rf.wI rfl).wI rfl : Fc (!b) [2] (wB (wB (wB σ' 1 b) 0 (!b)) 2 (!b)) (wI (wI (wB (wB (wB σ' 1 b) 0 (!b)) 2 (!b)) 100 2 (σ'.1 500 8)) 100 3 ((wI σ' 100 2 (σ'.1 500 8)).1 500 9)))
  obtain ⟨σ2, e2, F2, DC2⟩ := c_begin hT (hRC.mono F1 rfl)
  have F3 : Fc (!b) [4, 5, 9] σ2 (wI (wI (wI (wI σ2 100 10 0) 1100 0 0) 1200 0 0) 1200 1 (-1)) := (((Fc.rf.wI rfl).wI (by rw [show zc (!b) 1100 0 = 4 from zc4 0 0 (by omega)]; rfl)).wI (by rw [show zc (!b) 1200 0 = 9 from zc9 0 0 (by omega)]; rfl)).wI (by rw [show zc (!b) 1200 1 = 9 from zc9 0 1 (by omega)]; rfl)
  have eC : f_X11_takeDraft (wI (wI σ' 100 2 (σ'.1 500 8)) 100 3 ((wI σ' 100 2 (σ'.1 500 8)).1 500 9)) = some (wI (wI (wI (wI σ2 100 10 0) 1100 0 0) 1200 0 0) 1200 1 (-1)) := by
    unfold f_X11_takeDraft f_X9_forget f_X3_forget
    rw [lts, lts, lts, show (wI (wI σ' 100 2 (σ'.1 500 8)) 100 3 ((wI σ' 100 2 (σ'.1 500 8)).1 500 9)).2.2 0 = b from b0, show (wI (wI σ' 100 2 (σ'.1 500 8)) 100 3 ((wI σ' 100 2 (σ'.1 500 8)).1 500 9)).2.2 1 = !b from hd, e2, bs, lts, lts, bs, lts, lts, bs]
  -- the reference
  obtain ⟨μh, H, eM⟩ := m_157 hN.1
  have G0 : Fm [2] μ' (wI (wI μ' 5000 30 (μ'.1 5000 28)) 5000 31 ((wI μ' 5000 30 (μ'.1 5000 28)).1 5000 29)) := (Fm.rf.wI rfl).wI rfl
  have g0 : ∀ c k, hfs hAll c = 0 → μh.1 c k = (wI (wI μ' 5000 30 (μ'.1 5000 28)) 5000 31 ((wI μ' 5000 30 (μ'.1 5000 28)).1 5000 29)).1 c k := fun c k e => by rw [H.2 c k, e, if_neg (Nat.not_lt_zero k)]
  have D3' : D3 (!b) T σ' (wI (wI μ' 5000 30 (μ'.1 5000 28)) 5000 31 ((wI μ' 5000 30 (μ'.1 5000 28)).1 5000 29)) := h3
  have D4' : D4 (!b) T σ' (wI (wI μ' 5000 30 (μ'.1 5000 28)) 5000 31 ((wI μ' 5000 30 (μ'.1 5000 28)).1 5000 29)) := h4
  have D5' : D5 (!b) T σ' (wI (wI μ' 5000 30 (μ'.1 5000 28)) 5000 31 ((wI μ' 5000 30 (μ'.1 5000 28)).1 5000 29)) := h5
  have D6' : D6 (!b) T σ' (wI (wI μ' 5000 30 (μ'.1 5000 28)) 5000 31 ((wI μ' 5000 30 (μ'.1 5000 28)).1 5000 29)) := h6
  have D7' : D7 (!b) tb L A B σ' (wI (wI μ' 5000 30 (μ'.1 5000 28)) 5000 31 ((wI μ' 5000 30 (μ'.1 5000 28)).1 5000 29)) := h7
  have D8' : D8 (!b) T σ' (wI (wI μ' 5000 30 (μ'.1 5000 28)) 5000 31 ((wI μ' 5000 30 (μ'.1 5000 28)).1 5000 29)) := h8
  have D9' : D9 (!b) T σ' (wI (wI μ' 5000 30 (μ'.1 5000 28)) 5000 31 ((wI μ' 5000 30 (μ'.1 5000 28)).1 5000 29)) := h9
  have D10' : D10 T (wI (wI μ' 5000 30 (μ'.1 5000 28)) 5000 31 ((wI μ' 5000 30 (μ'.1 5000 28)).1 5000 29)) := h10
  have hRM := RM_fin hA D3' D4' D5' D6' D7' D8' D9' D10' H
  have G2 : Fm [4, 5, 9] μh (wI (wI (wI (wI μh 5000 53 0) 5000 54 (-1)) 5000 45 0) 5000 46 0) := (((Fm.rf.wI rfl).wI rfl).wI rfl).wI rfl
  obtain ⟨μf, e3, G3, DM3⟩ := m_begins hT (hRM.mono hT G2 rfl)
  have m50 : ∀ p, ¬ p = 53 → ¬ p = 54 → ¬ p = 45 → ¬ p = 46 → ¬ p = 30 → ¬ p = 31 → [3, 10].elem (zm 5000 p) = false → μf.1 5000 p = μ'.1 5000 p := fun p a1 a2 a3 a4 a5 a6 z => by
    rw [G3.z rfl z, wI_at, if_neg (by omega), wI_at, if_neg (by omega), wI_at, if_neg (by omega), wI_at, if_neg (by omega), g0 5000 p rfl, wI_at, if_neg (by omega), wI_at, if_neg (by omega)]
  have m22 : μf.1 5000 22 = nI n := (m50 22 (by omega) (by omega) (by omega) (by omega) (by omega) (by omega) rfl).trans h11
  refine ⟨_, μf, eC, by rw [eM, e3, bs, m22], !b, finT T tb L A B, D00 (finT T tb L A B), 0, ⟨⟨hT, (((hRC.mono F1 rfl).mono F2 rfl).mono F3 rfl), ?_⟩, hT, ((hRM.mono hT G2 rfl).mono hT G3 rfl), ?_⟩, ⟨okD00 hT, DC2.mono (.inl ⟨rfl, rfl⟩) F3 rfl, DM3⟩, ?_, .inl ⟨?_, ?_⟩, ?_, ?_⟩
  · have mc : MC (-1) (-1) (wB σ' 3 (!b)) := v1.1.2.2.mono ((Fc.rf.wI rfl : Fc b [2] (wB σc 3 (!b)) (wI (wB σc 3 (!b)) 100 1 0)).mono (Z' := [2, 8, 14]) rfl |>.tr (FX.mono rfl)) rfl
    have mc' : MC (-1) (-1) (wB (wB (wB σ' 1 b) 0 (!b)) 2 (!b)) := mc
    exact ((mc'.mono F1 rfl).mono F2 rfl).mono F3 rfl
  · have mm : μf.1 5000 37 = -1 := (m50 37 (by omega) (by omega) (by omega) (by omega) (by omega) (by omega) rfl).trans ((GX.2 5000 37 (by omega) (by decide)).trans v1.2.2.2.1)
    exact ⟨mm, by rw [if_neg (by decide)]⟩
  · have s100 : ∀ p, ¬ p = 10 → (wI (wI (wI (wI σ2 100 10 0) 1100 0 0) 1200 0 0) 1200 1 (-1)).1 100 p = (wI (wI σ' 100 2 (σ'.1 500 8)) 100 3 ((wI σ' 100 2 (σ'.1 500 8)).1 500 9)).1 100 p := fun p hp => by
      have z2 : zc (!b) 100 p = 2 := by unfold zc; rw [if_pos rfl, if_neg hp]
      rw [F3.z z2 rfl, F2.z z2 rfl]; rfl
    refine ⟨⟨0, by omega, ?_, ?_⟩, ?_, ?_, g, hg, fun k hk => ?_, fun k hk => ?_⟩
    · exact (s100 1 (by omega)).trans (FX.z (i := 100) (k := 1) (z := 2) rfl rfl)
    · exact (m50 2 (by omega) (by omega) (by omega) (by omega) (by omega) (by omega) rfl).trans (GX.2 5000 2 (by omega) (by decide))
    · rw [s100 2 (by omega), G3.z (i := 5000) (k := 30) rfl rfl]
      show σ'.1 500 8 = μh.1 5000 30
      rw [g0 5000 30 rfl]
      exact hN.2.2.1.trans hN.1.symm
    · rw [s100 3 (by omega), G3.z (i := 5000) (k := 31) rfl rfl]
      show σ'.1 500 9 = μh.1 5000 31
      rw [g0 5000 31 rfl]
      exact hN.2.2.2.trans hN.2.1.symm
    · have e1 : (wI (wI (wI (wI σ2 100 10 0) 1100 0 0) 1200 0 0) 1200 1 (-1)).1 101 (0 + k) = σ'.1 101 (0 + k) := by
        rw [F3.z (z := 2) rfl rfl, F2.z (z := 2) rfl rfl]; rfl
      exact e1.trans ((FX.z (i := 101) (k := 0 + k) (z := 2) rfl rfl).trans (hc k hk))
    · have e1 : μf.1 5002 (0 + k) = μ'.1 5002 (0 + k) := by
        rw [G3.z (z := 2) rfl rfl]
        show μh.1 5002 (0 + k) = _
        rw [g0 5002 _ rfl]; rfl
      exact e1.trans ((GX.2 5002 (0 + k) (by omega) (by show ¬ (2 : Nat) = 8; decide)).trans (hm k hk))
  · rfl
  · exact (G3.z (i := 5000) (k := 45) rfl rfl).trans rfl
  · refine ⟨0, fun _ => D00 (finT T tb L A B), fun _ => 0, fun _ => 0, by omega, rfl, (G3.z (i := 5000) (k := 46) rfl rfl).trans rfl, rfl, rfl, fun k hk => absurd hk (Nat.not_lt_zero k)⟩
  · refine ⟨0, -1, fun _ _ => 0, ⟨by omega, .inl rfl, fun k hk => absurd hk (Nat.not_lt_zero k)⟩, ⟨rfl, rfl, fun k hk => absurd hk (Nat.not_lt_zero k)⟩, ⟨(G3.z (i := 5000) (k := 53) rfl rfl).trans rfl, (G3.z (i := 5000) (k := 54) rfl rfl).trans rfl, fun k hk => absurd hk (Nat.not_lt_zero k)⟩⟩
theorem o_text : op_text V := by
  intro x σc σm ⟨b, T, D, mv, h⟩
  have h0 := h.th 0
  obtain ⟨⟨tp, ht, e1, e2⟩, -, -, f, hf, hc, hm⟩ := h0.2.2.1
  unfold f_X11_text f_X12_text f_X11_text_12 f_X12_text_17
  rw [lts, lts, e1, e2]
  by_cases x0 : x < 0
  · rw [if_pos x0, if_pos x0]
    exact ⟨-2, σc, _, rfl, rfl, h0.v⟩
  · rw [if_neg x0, if_neg x0]
    obtain ⟨N, hN, rfl⟩ := nI_of x0
    by_cases hle : N ≤ tp
    · rw [if_pos (nI_le hle (by omega)), if_pos (nI_le hle (by omega)), lts, lts, lts, lts, lts]
      have lang : ∀ k, k < 34 → (wI σc 100 1 0).1 502 k = langW.getD k 0 := fun k hk => h.cc.2.1.2.2.2.2.2.2 k hk
      have hd : (wI σc 100 1 0).2.2 1 = !b := h.cc.2.1.1.2.1
      obtain ⟨σ', μ', e3, FX, GX, q⟩ := j_read (b := b) (f := f) (N := N) (σ := wI σc 100 1 0) (μ := wI σm 5000 0 0) (by omega) hf hd (fun k hk => hc k hk) lang (fun k hk => hm k hk)
      rw [e3]
      rcases q with ⟨q, X⟩ | ⟨n, r, T', tb, L, A, B, q, hn, J⟩
      · rw [q, b2s, lts, lts, if_pos rfl]
        refine ⟨-1, _, _, rfl, ?_, text_bad h0 FX GX ⟨X.2.1, X.2.2⟩⟩
        unfold f_X12_text_157
        rw [lts, lts, if_neg (show ¬ (wI (wI μ' 5000 30 (μ'.1 5000 28)) 5000 31 ((wI μ' 5000 30 (μ'.1 5000 28)).1 5000 29)).1 5000 28 = 0 from X.1)]
      · obtain ⟨σf, μf, e4, e5, hV⟩ := text_good h0 FX GX (by omega) J
        rw [q, b2s, lts, lts, if_neg (nI_nm1 (by omega)), e4, bs]
        exact ⟨nI n, σf, μf, rfl, e5, hV⟩
    · rw [if_neg (nI_ge (by omega) (by omega)), if_neg (nI_ge (by omega) (by omega))]
      exact ⟨-2, σc, _, rfl, rfl, h0.v⟩
