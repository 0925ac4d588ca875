/-! The pure part: move, free -/
theorem mv01 : ∀ s, s < 192 → ((nI s - ((4 : Int32) * nI (s / 4 % 4))) + ((4 : Int32) * ((nI (s / 4 % 4) + (1 : Int32)) - (nI (s / 4 % 4) + (1 : Int32)) / (4 : Int32) * (4 : Int32)))) = nI (fcg s ((s / 4 % 4 + 1) % 4)) ∧ ((nI s - ((4 : Int32) * nI (s / 4 % 4))) + ((4 : Int32) * ((nI (s / 4 % 4) + (3 : Int32)) - (nI (s / 4 % 4) + (3 : Int32)) / (4 : Int32) * (4 : Int32)))) = nI (fcg s ((s / 4 % 4 + 3) % 4)) := by decide +kernel
theorem mv23 : ∀ s, s < 192 → (if nI (s / 2 % 2) = 0 then some (nI s + 2) else some (nI s - 2)) = some (nI (if s / 2 % 2 = 0 then s + 2 else s - 2)) ∧ (if nI (s % 2) = 0 then some (nI s + 1) else some (nI s - 1)) = some (nI (if s % 2 = 0 then s + 1 else s - 1)) ∧ (if 16 ≤ nI s then some (nI s - 16) else some (-1)) = some (oI (if s < 16 then none else some (s - 16))) := by decide +kernel
theorem m_moved {T : zT} {σ : zS} (hT : okT T) (hR : RM T σ) {s v : Nat} (hs : s < 16 * T 4 0) (hv : v < 6) : f_X12_moved (nI s) (nI v) σ = some (oI (mvd (T 4 0) s v)) := by
  have o := hT.1
  have hs2 : s < 192 := by omega
  unfold f_X12_moved
  rw [lts, m_face hs2, rd_lit (by decide) (by decide), bs, row0 hR.1 (k := 0) (by decide), m_cell hs2, (mv01 s hs2).1, (mv01 s hs2).2, (lm2 s hs2).1, (lm2 s hs2).2, (mv23 s hs2).1, (mv23 s hs2).2.1, (mv23 s hs2).2.2]
  have : v = 0 ∨ v = 1 ∨ v = 2 ∨ v = 3 ∨ v = 4 ∨ v = 5 := by omega
  rcases this with rfl | rfl | rfl | rfl | rfl | rfl
  · rfl
  · rfl
  · rfl
  · rfl
  · rfl
  · rw [if_neg (show ¬ nI 5 = (0 : Int32) by decide), if_neg (show ¬ nI 5 = (1 : Int32) by decide), if_neg (show ¬ nI 5 = (2 : Int32) by decide), if_neg (show ¬ nI 5 = (3 : Int32) by decide), if_neg (show ¬ nI 5 = (4 : Int32) by decide), nI_1]
    unfold mvd
    rw [if_neg (show ¬ 5 = 0 by decide), if_neg (show ¬ 5 = 1 by decide), if_neg (show ¬ 5 = 2 by decide), if_neg (show ¬ 5 = 3 by decide), if_neg (show ¬ 5 = 4 by decide), if_pos (show 5 = 5 from rfl)]
    by_cases h : s / 16 + 1 < T 4 0
    · rw [if_pos h, if_neg]
      · show some (nI s + nI 16) = _; rw [nI_add]; rfl
      · rw [nI_eq (by omega) (by omega)]; omega
    · rw [if_neg h, if_pos]
      · rfl
      · rw [nI_eq (by omega) (by omega)]; omega
theorem six (x : Int32) : (x < 0 ∨ 5 < x) ∨ ∃ v, v < 6 ∧ x = nI v := by
  rcases ix x (n := 6) (by omega) with (h | h) | h
  · exact .inl (.inl h)
  · refine .inl (.inr ?_)
    rw [Int32.le_iff_toInt_le] at h
    rw [Int32.lt_iff_toInt_lt]
    have e3 : (nI 6).toInt = 6 := by decide
    have e2 : (5 : Int32).toInt = 5 := by decide
    omega
  · exact .inr h
theorem c_movedX {x y z : Int32} (h : y < 0 ∨ 5 < y) (σ : zS) : f_X5_movedBy x y z σ = -1 := by
  have hn : ∀ k : Int32, ¬ (k < 0) → ¬ (5 < k) → y ≠ k := by
    rintro k h0 h5 rfl
    rcases h with h | h
    · exact h0 h
    · exact h5 h
  unfold f_X5_movedBy
  rw [if_neg (hn 0 (by decide) (by decide)), if_neg (hn 1 (by decide) (by decide)), if_neg (hn 2 (by decide) (by decide)), if_neg (hn 3 (by decide) (by decide)), if_neg (hn 4 (by decide) (by decide)), if_neg (hn 5 (by decide) (by decide))]
theorem oI_m1 {o : Option Nat} (h : ∀ s, o = some s → s < 2 ^ 31) : oI o = -1 ↔ o = none := by
  cases o with
  | none => simp [oI]
  | some s => simp only [oI, reduceCtorEq, iff_false]; exact nI_nm1 (h s rfl)
/-- a new now -/
theorem Vx.now {b : Bool} {T D D' : zT} {mv mv' : Int32} {σc σm σc' σm' : zS} (h : Vx b T D mv σc σm) (F : Fc b [0, 3, 4] σc σc') (G : Fm [0, 3, 4, 10] σm σm') (hB : VB T D' mv' σc' σm') (hU : VU T D' mv' σc' σm') : V σc' σm' := by
  obtain ⟨h1, h2, h3, h4, h5, h6⟩ := h
  have hT : okT T := h1.1.1
  exact ⟨b, T, D', mv', h1.mono F G rfl rfl rfl rfl, hB, h3.mono F G rfl rfl, h4.mono hT F G rfl rfl, hU, h6.mono F G rfl rfl⟩
theorem zc7 {b : Bool} (i k : Nat) (hi : i < 100) : List.elem (zc b (700 + i) k) [3] = true := by rw [zcD (.inl ⟨rfl, rfl⟩) i k hi]; rfl
theorem zm3 {k : Nat} (hk : k < 5) (i : Nat) (hi : i = 5042 ∨ i = 5043 ∨ i = 5044) : List.elem (zm i k) [3] = true := by
  have := zmC (s := 0) hk hi
  rw [Nat.mul_zero, Nat.zero_add] at this
  rw [this]; rfl
theorem o_move : op_move V := by
  intro x y σc σm ⟨b, T, D, mv, h⟩
  have h0 := h.th 0
  have hT := h.oT
  have o := hT.1
  unfold f_X11_move f_X12_move
  simp only [lts]
  rcases ix x (n := T 4 2) (by omega) with hx | ⟨m, hm, rfl⟩
  · rw [c_man0 h.cc.2.1 hx, m_man0 h0.cm.2.1 hx, bs]
    exact ⟨0, σc, _, rfl, rfl, h0.v⟩
  · have od := h.oD.2.1 m hm
    rw [c_man1 hT h.cc.2.1 hm, if_neg n10, m_man1 hT h0.cm.2.1 hm, bs, if_neg n10, rd_nI (by omega) (by omega), bs, (h.dc.s7 hm).1, h.b0, h.cc.2.1.2.1.1]
    rcases six y with hy | ⟨v, hv, rfl⟩
    · rw [c_movedX hy, if_pos rfl]
      refine ⟨0, σc, _, rfl, ?_, h0.v⟩
      by_cases y0 : y < 0
      · rw [if_pos y0]
      · rw [if_neg y0, if_pos (hy.resolve_left y0)]
    · rw [c_moved (by omega) od.1 hv, if_neg (nI_pos (by omega)), if_neg (show ¬ (5 : Int32) < nI v from nI_nlt (a := 5) (by omega) (by omega)), rd_nI (by omega) (by omega), bs, (h0.dm.s0 hm).1, m_moved hT h0.cm.2.1 od.1 hv, bs]
      cases e : mvd (T 4 0) (D 1 m) v with
      | none => exact ⟨0, σc, _, rfl, rfl, h0.v⟩
      | some t =>
        have ht := mvd_lt od.1 e
        have hne : ¬ oI (some t) = -1 := nI_nm1 (by omega)
        rw [if_neg hne, if_neg hne]
        obtain ⟨σ1, σ2, r1, r2, r3, r4, r5⟩ := rem_keep h0 hm
        have d1 := DC.mono (.inl ⟨rfl, rfl⟩) h.dc r3 rfl
        have d2 := DM.mono hT h0.dm r4 rfl
        have R2 := h0.cm.2.1.mono hT r4 rfl
        rw [r1, bs, wr_nI (by omega) (by omega), bs, r2, bs, rd_nI (by omega) (by omega), bs, (d2.s0 hm).1, m_moved hT R2 od.1 hv, e, bs, wr_nI (by omega) (by omega), bs, rd_lit (by decide) (by decide), bs, wr_lit (by decide) (by decide), bs]
        have g1 : (wI σ1 703 m (oI (some t))).1 700 1 = mv := by rw [wI_at, if_neg (by omega)]; exact d1.2.1
        have g2 : (wI σ2 5042 m (oI (some t))).1 5041 0 = mv := by rw [wI_at, if_neg (by omega)]; exact d2.2.1
        rw [g1, g2]
        have F3 : Fc b [3] σ1 (wI (wI σ1 703 m (oI (some t))) 700 1 (mv + 1)) := (Fc.rf.wI (zc7 3 m (by omega))).wI (zc7 0 1 (by omega))
        have G3 : Fm [3] σ2 (wI (wI σ2 5042 m (oI (some t))) 5041 0 (mv + 1)) := (Fm.rf.wI (zm3 (by omega) _ (by omega))).wI rfl
        refine ⟨1, _, _, rfl, rfl, h0.now (D' := up2 D 1 m t) (mv' := mv + 1) ((r3.mono rfl).tr (F3.mono rfl)) ((r4.mono rfl).tr (G3.mono rfl)) ⟨?_, ?_, ?_⟩ ?_⟩
        · refine ⟨h.oD.1, fun k hk => ?_, h.oD.2.2⟩
          have ok := h.oD.2.1 k hk
          simp only [up2_at]
          by_cases hkm : k = m
          · rw [if_pos (by simp [hkm]), if_neg (by omega), if_neg (by omega)]; exact ⟨ht, ok.2⟩
          · rw [if_neg (by omega), if_neg (by omega), if_neg (by omega)]; exact ok
        · obtain ⟨c0, c1, c2, c3, c4, c5⟩ := d1
          refine ⟨?_, ?_, ?_, ?_, ?_, ?_⟩
          · simp only [wI_at, up2_at]; rw [if_neg (by omega), if_neg (by omega), if_neg (by omega)]; exact c0
          · rw [wI_at, if_pos ⟨rfl, rfl⟩]
          · intro k hk
            simp only [wI_at, up2_at]
            rw [if_neg (by omega)]
            by_cases hkm : k = m
            · rw [if_pos (by simp [hkm]), if_pos (by simp [hkm])]; rfl
            · rw [if_neg (by omega), if_neg (by omega)]; exact c2 k hk
          · intro k hk
            simp only [wI_at, up2_at]
            rw [if_neg (by omega), if_neg (by omega), if_neg (by omega)]; exact c3 k hk
          · intro k hk
            simp only [wI_at, up2_at]
            rw [if_neg (by omega), if_neg (by omega), if_neg (by omega)]; exact c4 k hk
          · intro k hk
            simp only [wI_at, up2_at]
            rw [if_neg (by omega), if_neg (by omega), if_neg (by omega)]; exact c5 k hk
        · obtain ⟨c0, c1, c2, c3, c4, c5⟩ := d2
          refine ⟨?_, ?_, ?_, ?_, ?_, ?_⟩
          · simp only [wI_at, up2_at]; rw [if_neg (by omega), if_neg (by omega), if_neg (by omega)]; exact c0
          · rw [wI_at, if_pos ⟨rfl, rfl⟩]
          · intro k hk
            simp only [wI_at, up2_at]
            rw [if_neg (by omega)]
            by_cases hkm : k = m
            · rw [if_pos (by simp [hkm]), if_pos (by simp [hkm])]; rfl
            · rw [if_neg (by omega), if_neg (by omega)]; exact c2 k hk
          · intro k hk
            simp only [wI_at, up2_at]
            rw [if_neg (by omega), if_neg (by omega), if_neg (by omega)]; exact c3 k hk
          · intro k hk
            simp only [wI_at, up2_at]
            rw [if_neg (by omega), if_neg (by omega), if_neg (by omega)]; exact c4 k hk
          · intro k hk
            simp only [wI_at, up2_at]
            rw [if_neg (by omega), if_neg (by omega), if_neg (by omega)]; exact c5 k hk
        · refine VU.mono hT (r5 (up2 D 1 m t) (mv + 1) ⟨rfl, fun i hi hne => ?_, fun d hd => rfl⟩) F3 G3 rfl rfl
          simp only [up2_at]
          rw [if_neg (by omega), if_neg (by omega), if_neg (by omega)]
          exact ⟨rfl, rfl, rfl⟩
theorem fr0 : ∀ v, v < 16 → ∀ p, p < 4 → v / 2 ^ p % 2 = 1 → nI v &&& (((1 : Int32) <<< (nI p &&& 31)) ^^^ (-1 : Int32)) = nI (v - 2 ^ p) := by decide +kernel
theorem o_free : op_free V := by
  intro x y σc σm ⟨b, T, D, mv, h⟩
  have h0 := h.th 0
  have hT := h.oT
  have o := hT.1
  unfold f_X11_free f_X12_free
  simp only [lts]
  rcases ix x (n := T 4 2) (by omega) with hx | ⟨m, hm, rfl⟩
  · rw [c_man0 h.cc.2.1 hx, m_man0 h0.cm.2.1 hx, bs]
    exact ⟨0, σc, _, rfl, rfl, h0.v⟩
  · have od := h.oD.2.1 m hm
    rw [c_man1 hT h.cc.2.1 hm, if_neg n10, m_man1 hT h0.cm.2.1 hm, bs, if_neg n10]
    rcases ix y (n := 4) (by omega) with hy | ⟨p, hp, rfl⟩
    · rw [(pt0 hy _).1, (pt0 hy _).2.1]
      exact ⟨0, σc, _, rfl, rfl, h0.v⟩
    · rw [(pt1 hp _).1, (pt1 hp _).2.1, if_neg n10, if_neg n10]
      unfold f_X0_isSeized
      rw [rd_nI (by omega) (by omega), bs, (h.dc.s7 hm).2.2, rd_nI (by omega) (by omega), bs, (h.dc.s7 hm).2.1, rd_nI (by omega) (by omega), bs, (h0.dm.s0 hm).2.2, bit0 _ od.2.2 _ hp]
      rcases Nat.mod_two_eq_zero_or_one (D 3 m / 2 ^ p) with e | e
      · rw [e]; exact ⟨0, σc, _, rfl, rfl, h0.v⟩
      · have n1 : ¬ nI 1 = 0 := by decide
        rw [e, if_neg n1, bs, if_neg n10, if_neg n1, h.b0, h.cc.2.1.2.1.2.2.2.2.2.1, rd_nI (by omega) (by omega), bs, (h0.dm.s0 hm).2.1, rd_lit (by decide) (by decide), bs, row0 h0.cm.2.1.1 (k := 5) (by decide)]
        by_cases hf : T 4 5 ≤ D 2 m
        · have hl : nI (T 4 5) ≤ nI (D 2 m) := nI_le hf (by omega)
          rw [if_pos hl, if_pos hl]
          obtain ⟨σ1, σ2, r1, r2, r3, r4, r5⟩ := rem_keep h0 hm
          have d1 := DC.mono (.inl ⟨rfl, rfl⟩) h.dc r3 rfl
          have d2 := DM.mono hT h0.dm r4 rfl
          have R1 := h.cc.2.1.mono r3 rfl
          have R2 := h0.cm.2.1.mono hT r4 rfl
          have R3 : RM T (wI σ2 5044 m (nI (D 3 m - 2 ^ p))) := R2.mono hT (Fm.wI (Z := [3]) Fm.rf (zm3 (by omega) _ (by omega))) rfl
          have R4 : RC b T (wI σ1 705 m (nI (D 3 m - 2 ^ p))) := R1.mono (Fc.wI (b := b) (Z := [3]) Fc.rf (zc7 5 m (by omega))) rfl
          have p8 : 2 ^ p ≤ 8 ∧ 1 ≤ 2 ^ p := by
            have : p = 0 ∨ p = 1 ∨ p = 2 ∨ p = 3 := by omega
            rcases this with rfl | rfl | rfl | rfl <;> decide
          rw [r1, bs, rd_nI (by omega) (by omega), bs, (d1.s7 hm).2.2, fr0 _ od.2.2 _ hp e, wr_nI (by omega) (by omega), bs, rd_nI (by omega) (by omega), bs, r2, bs, rd_nI (by omega) (by omega), bs, (d2.s0 hm).2.2, fr0 _ od.2.2 _ hp e, wr_nI (by omega) (by omega), bs, wr_nI (by omega) (by omega), bs, rd_nI (by omega) (by omega), bs, rd_lit (by decide) (by decide), bs, row0 R3.1 (k := 5) (by decide), R4.1.1, R4.2.1.2.2.2.2.2.1]
          have g1 : (wI σ1 705 m (nI (D 3 m - 2 ^ p))).1 704 m = nI (D 2 m) := by rw [wI_at, if_neg (by omega)]; exact (d1.s7 hm).2.1
          have g2 : (wI σ2 5044 m (nI (D 3 m - 2 ^ p))).1 5043 m = nI (D 2 m) := by rw [wI_at, if_neg (by omega)]; exact (d2.s0 hm).2.1
          rw [g1, g2, pk_sub hf, wr_nI (by omega) (by omega), bs]
          have F3 : Fc b [3] σ1 (wI (wI σ1 705 m (nI (D 3 m - 2 ^ p))) 704 m (nI (D 2 m - T 4 5))) := (Fc.rf.wI (zc7 5 m (by omega))).wI (zc7 4 m (by omega))
          have G3 : Fm [3] σ2 (wI (wI σ2 5044 m (nI (D 3 m - 2 ^ p))) 5043 m (nI (D 2 m - T 4 5))) := (Fm.rf.wI (zm3 (by omega) _ (by omega))).wI (zm3 (by omega) _ (by omega))
          refine ⟨1, _, _, rfl, rfl, h0.now (D' := up2 (up2 D 3 m (D 3 m - 2 ^ p)) 2 m (D 2 m - T 4 5)) (mv' := mv) ((r3.mono rfl).tr (F3.mono rfl)) ((r4.mono rfl).tr (G3.mono rfl)) ⟨?_, ?_, ?_⟩ ?_⟩
          · refine ⟨h.oD.1, fun k hk => ?_, h.oD.2.2⟩
            have ok := h.oD.2.1 k hk
            simp only [up2_at]
            by_cases hkm : k = m
            · subst hkm
              rw [if_neg (by omega), if_neg (by omega), if_pos (by simp), if_neg (by omega), if_pos (by simp)]; omega
            · rw [if_neg (by omega), if_neg (by omega), if_neg (by omega), if_neg (by omega), if_neg (by omega), if_neg (by omega)]; exact ok
          · obtain ⟨c0, c1, c2, c3, c4, c5⟩ := d1
            refine ⟨?_, ?_, ?_, ?_, ?_, ?_⟩
            · simp only [wI_at, up2_at]; rw [if_neg (by omega), if_neg (by omega), if_neg (by omega), if_neg (by omega)]; exact c0
            · simp only [wI_at]; rw [if_neg (by omega), if_neg (by omega)]; exact c1
            · intro k hk
              simp only [wI_at, up2_at]
              rw [if_neg (by omega), if_neg (by omega), if_neg (by omega), if_neg (by omega)]; exact c2 k hk
            · intro k hk
              simp only [wI_at, up2_at]
              by_cases hkm : k = m
              · rw [if_pos (by simp [hkm]), if_pos (by simp [hkm])]
              · rw [if_neg (by omega), if_neg (by omega), if_neg (by omega), if_neg (by omega)]; exact c3 k hk
            · intro k hk
              simp only [wI_at, up2_at]
              rw [if_neg (by omega)]
              by_cases hkm : k = m
              · rw [if_pos (by simp [hkm]), if_neg (by omega), if_pos (by simp [hkm])]
              · rw [if_neg (by omega), if_neg (by omega), if_neg (by omega)]; exact c4 k hk
            · intro k hk
              simp only [wI_at, up2_at]
              rw [if_neg (by omega), if_neg (by omega), if_neg (by omega), if_neg (by omega)]; exact c5 k hk
          · obtain ⟨c0, c1, c2, c3, c4, c5⟩ := d2
            refine ⟨?_, ?_, ?_, ?_, ?_, ?_⟩
            · simp only [wI_at, up2_at]; rw [if_neg (by omega), if_neg (by omega), if_neg (by omega), if_neg (by omega)]; exact c0
            · simp only [wI_at]; rw [if_neg (by omega), if_neg (by omega)]; exact c1
            · intro k hk
              simp only [wI_at, up2_at]
              rw [if_neg (by omega), if_neg (by omega), if_neg (by omega), if_neg (by omega)]; exact c2 k hk
            · intro k hk
              simp only [wI_at, up2_at]
              by_cases hkm : k = m
              · rw [if_pos (by simp [hkm]), if_pos (by simp [hkm])]
              · rw [if_neg (by omega), if_neg (by omega), if_neg (by omega), if_neg (by omega)]; exact c3 k hk
            · intro k hk
              simp only [wI_at, up2_at]
              rw [if_neg (by omega)]
              by_cases hkm : k = m
              · rw [if_pos (by simp [hkm]), if_neg (by omega), if_pos (by simp [hkm])]
              · rw [if_neg (by omega), if_neg (by omega), if_neg (by omega)]; exact c4 k hk
            · intro k hk
              simp only [wI_at, up2_at]
              rw [if_neg (by omega), if_neg (by omega), if_neg (by omega), if_neg (by omega)]; exact c5 k hk
          · refine VU.mono hT (r5 _ mv ⟨rfl, fun i hi hne => ?_, fun d hd => rfl⟩) F3 G3 rfl rfl
            simp only [up2_at]
            rw [if_neg (by omega), if_neg (by omega), if_neg (by omega), if_neg (by omega), if_neg (by omega), if_neg (by omega)]
            exact ⟨rfl, rfl, rfl⟩
        · have hl : ¬ nI (T 4 5) ≤ nI (D 2 m) := nI_ge (by omega) (by omega)
          rw [if_neg hl, if_neg hl]
          exact ⟨0, σc, _, rfl, rfl, h0.v⟩
