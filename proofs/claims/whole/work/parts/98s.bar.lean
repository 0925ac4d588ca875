/-! The pure part: text. A bar's line of both -/
section
variable {d : Bool} {f : Nat → Nat} {N r : Nat} {T : zT} {tb : Nat → Bool} {L : zK} {A B : Nat → Nat} {n : Nat} {σ μ : zS} {m : Nat}
theorem X_89 (h : ¬ μ.1 5000 28 = 0) (x : Int32) : f_X12_barLine_89 x μ = some μ := by unfold f_X12_barLine_89; rw [if_neg h]
theorem X_57 (h : ¬ μ.1 5000 28 = 0) (x : Int32) : f_X12_barLine_57 x μ = some μ := by unfold f_X12_barLine_57; rw [if_neg h, X_89 h]
theorem D4.bar {j v c : Nat} {σ' μ' : zS} (h : D4 d T σ μ) (hj : j < T 4 1)
    (s1 : ∀ i k, (i = tv d ∧ k = 1) ∨ i = tv d + 3 ∨ i = tv d + 4 → σ'.1 i k = σ.1 i k) (s2 : ∀ k, σ'.1 (tv d + 5) k = if k = j then nI v else σ.1 (tv d + 5) k)
    (t1 : ∀ i k, (i = 5004 ∧ k = 9) ∨ (5005 ≤ i ∧ i ≤ 5007 ∧ 5 ≤ k) → μ'.1 i k = μ.1 i k) (t2 : ∀ k, 5 ≤ k → μ'.1 5008 k = if k = 5 + j then nI v else μ.1 5008 k) :
    D4 d (setT (setT T 4 4 c) 8 j v) σ' μ' := by
  obtain ⟨⟨a1, a2⟩, ⟨b1, b2, b3⟩, ⟨c1, c2, c3, c4⟩, e8⟩ := h
  have e : ∀ k, setT (setT T 4 4 c) 8 j v 8 k = if k = j then v else T 8 k := fun k => set_row _ 8 j v k
  refine ⟨⟨(s1 _ _ (by omega)).trans a1, (t1 _ _ (by omega)).trans a2⟩, ⟨fun k hk => (s1 _ _ (by omega)).trans (b1 k hk), fun k hk => ?_, fun k hk => (s1 _ _ (by omega)).trans (b3 k hk)⟩, ⟨fun k hk => (t1 _ _ (by omega)).trans (c1 k hk), fun k hk => (t1 _ _ (by omega)).trans (c2 k hk), fun k hk => (t1 _ _ (by omega)).trans (c3 k hk), fun k hk => ?_⟩, fun k hk => ?_⟩
  · rw [s2, e]
    by_cases z : k = j
    · rw [if_pos (by omega), if_pos z]
    · rw [if_neg (by omega), if_neg z]; exact b2 k hk
  · rw [t2 _ (by omega), e]
    by_cases z : k = j
    · rw [if_pos (by omega), if_pos z]
    · rw [if_neg (by omega), if_neg z]; exact c4 k hk
  · have hk' : T 4 1 ≤ k := hk
    rw [e, if_neg (by omega)]; exact e8 k hk'
theorem okA.bar {j v c : Nat} (h : okA T tb) (hc : c ≤ 8) (hv : v < 16) : okA (setT (setT T 4 4 c) 8 j v) (fun j => tb j || decide (j = 4)) := by
  obtain ⟨⟨a1, a2, a3, a4, a5, a6, a7, a8⟩, b, c', e, g1, g2⟩ := h
  refine ⟨⟨a1, a2, a3, a4, a5, hc, a7, a8⟩, fun k hk => ?_, c', e, (tb_ne (by omega)).trans g1, (tb_ne (by omega)).trans g2⟩
  have hk' : k < T 4 1 := hk
  have := b k hk'
  refine ⟨this.1, this.2.1, this.2.2.1, ?_⟩
  have e : setT (setT T 4 4 c) 8 j v 8 k = if k = j then v else T 8 k := set_row _ 8 j v k
  rw [e]
  by_cases z : k = j
  · rw [if_pos z]; exact hv
  · rw [if_neg z]; exact this.2.2.2
theorem j_bar (h : JL d f N r T tb L A B n σ μ) (k1 : ¬ σ.1 500 4 = 0) (k3 : μ.1 5000 26 = 0) (k4 : μ.1 5000 27 = 4) : BD d f N r n (f_X4_readBar σ) (f_X12_line μ) σ μ := by
  obtain ⟨hJ, hN, hd, hA, h2, h3, h4, h5, h6, h7, h8, h9, h10, h11⟩ := h
  have hl5 := hA.1
  have td := tvd (d := d)
  have eM : f_X12_line μ = f_X12_line_47 4 0 μ := by
    unfold f_X12_line
    rw [if_pos k3, k4, if_pos (by decide), lts, if_neg (by decide), if_neg (by decide), if_neg (by decide)]
  rw [eM]
  unfold f_X12_line_47 f_X12_isFull f_X12_isFull_14 f_X12_isFull_28 f_X12_isFull_43 f_X4_readBar
  rw [if_neg (show ¬ (4 : Int32) = 1 by decide), if_neg (show ¬ (4 : Int32) = 2 by decide), if_neg (show ¬ (4 : Int32) = 3 by decide), if_pos (show (4 : Int32) = 4 from rfl), m_fr4, bs, h8.2, hd, h8.1]
  by_cases hm5 : T 4 4 < 8
  · rw [if_neg (show ¬ nI (T 4 4) = (8 : Int32) from fun z => by have := (nI_eq (b := 8) (by omega) (by omega)).mp z; omega), bs, if_pos rfl, if_pos rfl, if_pos (show nI (T 4 4) < (8 : Int32) from nI_lt (b := 8) hm5 (by omega))]
    unfold f_X12_line_88
    rw [if_neg (show ¬ (4 : Int32) = 0 by decide)]
    have D2a := h2.told (p := 4) (by omega)
    have Ga : FD d [2] μ (wI μ 5000 21 (nI (setN (fun j => tb j || decide (j = 4)) 19))) := FD.rf.wI rfl
    obtain ⟨σ1, μ1, a1, a2, F1, G1, J1, N1, F1', G1'⟩ := j_begin hJ hN k1 (FD.rf (d := d) (Z := [2])) Ga
    rw [a1, bs, m_108 (w := (4 : Int32)) hN.1 (tb_told (p := 4) (by omega) h2) a2 _ (by rw [if_neg (show ¬ (4 : Int32) = 0 by decide), if_neg (show ¬ (4 : Int32) = 1 by decide), if_neg (show ¬ (4 : Int32) = 2 by decide), if_neg (show ¬ (4 : Int32) = 3 by decide), if_pos rfl])]
    have h4a := h4.fr F1 G1 rfl rfl
    have h8a := h8.fr F1 G1 rfl rfl
    have hd1 : σ1.2.2 1 = d := by rw [F1.1]; exact hd
    have r1 := h4a.2.1.1
    have r2 := h4a.2.2.1.1
    have q1 := h4a.1.1
    have q2 := h4a.1.2
    unfold f_X12_barLine
    rw [m_fr1, bs, q2]
    rcases j_ahead d J1 N1 (i := tv d + 3) (a := 5005) (n := T 4 1) (g := T 5) (by omega) r1 r2 with ⟨σ2, μ2, cl, b2', F2, G2, X⟩ | ⟨σ2, μ2, X, j, hX, hj, b1, b1i, b1a, b2', F2, G2, J2, N2⟩
    · rw [b2', b2s, lts, if_neg X.1, X_57 X.1, bs]
      refine ⟨σ2, μ2, rfl, (F1.fa rfl).tr (F2.fa rfl), (G1.mono rfl).tr (G2.mono rfl), .inl ⟨?_, X⟩⟩
      rcases cl with cl | ⟨Y, hY, c1, c2, c3⟩
      · rw [cl, b2s, if_pos rfl]
      · rw [c1, b2s, if_neg (nI_nm1 (by omega)), hd1]
        unfold f_X8_landNamed
        rw [q1, c2, bs, bs, if_pos rfl, c3, b2s]
    · rw [b2', b2s, lts, show (5 : Int32) + nI j = nI (5 + j) from nI_add 5 j, if_pos N2.1, b1, b2s, if_neg (nI_nm1 (by omega)), hd1]
      unfold f_X8_landNamed
      rw [q1, b1i, bs, bs, if_neg (nI_nm1 (by omega)), b1a, bs]
      have hd2 : σ2.2.2 1 = d := by rw [F2.1]; exact hd1
      have h4b := h4a.fr F2 G2 rfl rfl
      have h8b := h8a.fr F2 G2 rfl rfl
      rcases j_ch d J2 N2 (a := 14) (n := 4) (by omega) (by omega) (by omega) with ⟨k, hk, b1, b4, b5, b6⟩ | ⟨σ3, μ3, b1, b3, b4, F3, G3, X'⟩
      · rw [show f_X4_choiceAtHand 14 4 σ2 = some (nI k, σ2) from b1, b2s, if_neg (nI_nm1 (by omega)), if_pos b5, b6, if_neg (show ¬ nI (14 + k) < (14 : Int32) from nI_nlt (b := 14) (by omega) (by omega)), if_pos (show nI (14 + k) ≤ (17 : Int32) from nI_le (b := 17) (by omega) (by omega)), hd2, rd_nI (by omega) (by omega), bs]
        unfold f_X12_barLine_57
        have e14 : nI (14 + k) - (14 : Int32) = nI k := by rw [show (14 : Int32) = nI 14 from rfl, nI_sub (by omega), show 14 + k - 14 = k by omega]
        have v16 : T 8 j < 16 := (hA.2.1 j hj).2.2.2
        have c5 : σ2.1 (tv d + 5) j = nI (T 8 j) := row0 h4b.2.1.2.1 (by omega)
        have m8 : μ2.1 5008 (5 + j) = nI (T 8 j) := h4b.2.2.1.2.2.2 j hj
        rw [if_pos N2.1, rd_nI (by omega) (by omega), bs, b6, e14, c5, m8, bit0 (T 8 j) v16 k hk]
        by_cases hb : T 8 j / 2 ^ k % 2 = 0
        · rw [hb, if_pos (show nI 0 = (0 : Int32) from rfl), if_neg (show ¬ nI 0 = (1 : Int32) by decide)]
          unfold f_X12_barLine_89
          rw [if_pos N2.1, rd_nI (by omega) (by omega), bs, b6, e14, m8, shl1 k (by omega), nI_or (by omega) (Nat.lt_of_lt_of_le (Nat.pow_lt_pow_right (by decide) (show k < 4 by omega)) (by decide)), wr_nI (by omega) (by omega), bs]
          have v16' : T 8 j ||| 2 ^ k < 16 := Nat.or_lt_two_pow (n := 4) v16 (Nat.pow_lt_pow_right (by decide) hk)
          generalize hv' : T 8 j ||| 2 ^ k = v' at v16'
          have G2a : FD d [4] μ2 (wI μ2 5008 (5 + j) (nI v')) := FD.rf.wI (by rw [zdm4 (by omega) (by omega)]; rfl)
          have J2a := J2.fr (FD.rf (d := d) (Z := [])) G2a rfl rfl rfl rfl
          have N2a := N2.fr (FD.rf (d := d) (Z := [])) G2a rfl rfl
          obtain ⟨σ3, μ3, a3, a4, F3, G3, J3⟩ := j_adv1 (d := d) J2a (by rw [b4]; decide)
          have N3 := N2a.fr F3 G3 rfl rfl
          have hd3 : σ3.2.2 1 = d := by rw [F3.1]; exact hd2
          have c5' : σ3.1 (tv d + 5) j = nI (T 8 j) := by rw [F3.z zc45 rfl]; exact c5
          have m12 : μ3.1 5004 12 = nI (T 4 4) := by rw [G3.z (z := 8) rfl rfl, wI_at, if_neg (by omega)]; exact h8b.2
          have c55 : (wI σ3 (tv d + 5) j (nI v')).1 (tv d) 5 = nI (T 4 4) := by rw [wI_at, if_neg (by omega), F3.z zcb8 rfl]; exact h8b.1
          rw [a3, bs, a4, bs, m_fr4, bs, m12, nI_1, m_rd4, bs, bs, hd3, rd_nI (by omega) (by omega), bs, c5', nI_or (by omega) (Nat.lt_of_lt_of_le (Nat.pow_lt_pow_right (by decide) (show k < 4 by omega)) (by decide)), hv', wr_nI (by omega) (by omega), bs, lts, show (wI σ3 (tv d + 5) j (nI v')).2.2 1 = d from hd3, c55, nI_1]
          have F4 : FD d [4, 8] σ3 (wI (wI σ3 (tv d + 5) j (nI v')) (tv d) 5 (nI (T 4 4 + 1))) := (FD.rf.wI (by rw [zc45]; rfl)).wI (by rw [zcb8]; rfl)
          have G4 : FD d [8] μ3 (wI μ3 5004 12 (nI (T 4 4 + 1))) := FD.rf.wI rfl
          have FS : FD d [1, 4, 8] σ (wI (wI σ3 (tv d + 5) j (nI v')) (tv d) 5 (nI (T 4 4 + 1))) := (((FD.mono F1' rfl).tr (F2.mono rfl)).tr (F3.mono rfl)).tr (F4.mono rfl)
          have GS : FD d [1, 4, 8] (wI μ 5000 21 (nI (setN (fun j => tb j || decide (j = 4)) 19))) (wI μ3 5004 12 (nI (T 4 4 + 1))) := ((((G1'.mono rfl).tr (G2.mono rfl)).tr (G2a.mono rfl)).tr (G3.mono rfl)).tr (G4.mono rfl)
          have GG : FD d [1, 2, 4, 8] μ (wI μ3 5004 12 (nI (T 4 4 + 1))) := (Ga.mono rfl).tr (GS.mono rfl)
          refine ⟨_, _, rfl, FS.fa rfl, GG.mono rfl, .inr ⟨rfl, setT (setT T 4 4 (T 4 4 + 1)) 8 j v', fun j => tb j || decide (j = 4), L, A, B, (J3.mono (by omega)).fr F4 G4 rfl rfl rfl rfl, N3.fr F4 G4 rfl rfl, hd3, hA.bar (by omega) v16', D2a.fr FS GS rfl rfl, h3.fr FS GG rfl rfl, ?_, h5.fr FS GG rfl rfl, h6.fr FS GG rfl rfl, (h7.fr FS GG rfl rfl rfl rfl).told (by omega), ⟨wI_self _ _ _ _, wI_self _ _ _ _⟩, h9.fr FS GG rfl rfl, h10.fr GG rfl, h11.fr GG rfl⟩⟩
          refine h4b.bar hj (fun i k hi => ?_) (fun k => ?_) (fun i k hi => ?_) (fun k hk => ?_)
          · rw [wI_at, if_neg (by omega), wI_at, if_neg (by omega)]
            rcases hi with ⟨rfl, rfl⟩ | rfl | rfl
            · exact F3.z zc41 rfl
            · exact F3.z zc43 rfl
            · exact F3.z zc44 rfl
          · rw [wI_at, if_neg (by omega), wI_at]
            by_cases z : k = j
            · rw [if_pos ⟨rfl, z⟩, if_pos z]
            · rw [if_neg (by omega), if_neg z]; exact F3.z zc45 rfl
          · rw [wI_at, if_neg (by omega)]
            have z4 : zd d i k = 4 := by
              rcases hi with ⟨rfl, rfl⟩ | hi
              · rfl
              · exact zdm4 (by omega) (by omega)
            rw [G3.z z4 rfl, wI_at, if_neg (by omega)]
          · rw [wI_at, if_neg (by omega), G3.z (zdm4 (by omega) hk) rfl, wI_at]
            by_cases z : k = 5 + j
            · rw [if_pos ⟨rfl, z⟩, if_pos z]
            · rw [if_neg (by omega), if_neg z]
        · have hb1 : T 8 j / 2 ^ k % 2 = 1 := by omega
          obtain ⟨σ3, μ3, a3, a4, F3, G3, X'⟩ := j_ref d J2 N2 (k := 3) (by decide)
          rw [hb1, if_neg (show ¬ nI 1 = (0 : Int32) by decide), if_pos (show nI 1 = (1 : Int32) from rfl), a3, a4, b2s, bs, X_89 X'.1, bs]
          exact ⟨σ3, μ3, rfl, ((F1.fa rfl).tr (F2.fa rfl)).tr (F3.fa rfl), ((G1.mono rfl).tr (G2.mono rfl)).tr (G3.mono rfl), .inl ⟨rfl, X'⟩⟩
      · rw [show f_X4_choiceAtHand 14 4 σ2 = some (-1, σ3) from b1, b2s, if_pos rfl]
        have e49 : f_X12_barLine_49 (nI (5 + j)) μ2 = some μ3 := by unfold f_X12_barLine_49; rw [b3, bs, X_89 X'.1]
        have eM : (if μ2.1 5000 26 = 0 then if μ2.1 5000 27 < 14 then f_X12_barLine_49 (nI (5 + j)) μ2 else if μ2.1 5000 27 ≤ 17 then f_X12_barLine_57 (nI (5 + j)) μ2 else f_X12_barLine_49 (nI (5 + j)) μ2 else f_X12_barLine_49 (nI (5 + j)) μ2) = some μ3 := by
          rcases b4 with b4 | b4 | b4
          · rw [if_neg b4, e49]
          · rw [if_pos (show μ2.1 5000 27 < (14 : Int32) from b4), e49, ite_self]
          · rw [if_neg (show ¬ μ2.1 5000 27 ≤ (17 : Int32) from b4), e49, ite_self, ite_self]
        rw [eM, bs]
        exact ⟨σ3, μ3, rfl, ((F1.fa rfl).tr (F2.fa rfl)).tr (F3.fa rfl), ((G1.mono rfl).tr (G2.mono rfl)).tr (G3.mono rfl), .inl ⟨rfl, X'⟩⟩
  · have e5 : T 4 4 = 8 := by omega
    rw [e5, if_pos (show nI 8 = (8 : Int32) from rfl), if_neg (show ¬ nI 8 < (8 : Int32) by decide)]
    unfold f_X12_isFull_58
    rw [bs, if_neg (show ¬ (1 : Int32) = 0 by decide)]
    exact BD.bad hJ hN (by decide) 4
end
