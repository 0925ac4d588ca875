/-! The pure part: text. A man's line of both -/
section
variable {d : Bool} {f : Nat → Nat} {N r : Nat} {T : zT} {tb : Nat → Bool} {L : zK} {A B : Nat → Nat} {n : Nat} {σ μ : zS}
theorem D2.told (h2 : D2 tb σ μ) {p : Nat} (hp : p ≠ 0 ∧ p ≠ 5 ∧ p ≠ 6) : D2 (fun j => tb j || decide (j = p)) σ (wI μ 5000 21 (nI (setN (fun j => tb j || decide (j = p)) 19))) := by
  refine ⟨wI_self _ _ _ _, ?_, ?_, ?_⟩
  · show _ = bI (tb 0 || decide (0 = p)); rw [tb_ne (by omega)]; exact h2.2.1
  · show _ = bI (tb 5 || decide (5 = p)); rw [tb_ne (by omega)]; exact h2.2.2.1
  · show _ = bI (tb 6 || decide (6 = p)); rw [tb_ne (by omega)]; exact h2.2.2.2
theorem j_man (h : JL d f N r T tb L A B n σ μ) (k1 : ¬ σ.1 500 4 = 0) (k3 : μ.1 5000 26 = 0) (k4 : μ.1 5000 27 = 2) : BD d f N r n (f_X4_readMan σ) (f_X12_line μ) σ μ := by
  obtain ⟨hJ, hN, hd, hA, h2, h3, h4, h5, h6, h7, h8, h9, h10, h11⟩ := h
  have hl5 := hA.1
  have eM : f_X12_line μ = f_X12_line_47 2 0 μ := by
    unfold f_X12_line
    rw [if_pos k3, k4, if_pos (by decide), lts, if_neg (by decide), if_neg (by decide), if_neg (by decide)]
  rw [eM]
  unfold f_X12_line_47 f_X12_isFull f_X12_isFull_14 f_X12_isFull_28 f_X12_isFull_43 f_X4_readMan
  rw [if_neg (show ¬ (2 : Int32) = 1 by decide), if_pos (show (2 : Int32) = 2 from rfl), m_fr2, bs, if_neg (show ¬ (2 : Int32) = 3 by decide), if_neg (show ¬ (2 : Int32) = 4 by decide), h5.1.2, hd, h5.1.1]
  by_cases hm5 : T 4 2 < 5
  · rw [if_neg (show ¬ nI (T 4 2) = (5 : Int32) from fun z => by have := (nI_eq (b := 5) (by omega) (by omega)).mp z; omega), bs, if_pos rfl, if_pos rfl, if_pos (show nI (T 4 2) < (5 : Int32) from nI_lt (b := 5) hm5 (by omega))]
    unfold f_X12_line_88
    rw [if_neg (show ¬ (2 : Int32) = 0 by decide)]
    have D2a := h2.told (p := 2) (by omega)
    have Ga : FD d [2] μ (wI μ 5000 21 (nI (setN (fun j => tb j || decide (j = 2)) 19))) := FD.rf.wI rfl
    obtain ⟨σ1, μ1, a1, a2, F1, G1, J1, N1, F1', G1'⟩ := j_begin hJ hN k1 (FD.rf (d := d) (Z := [2])) Ga
    rw [a1, bs, m_108 (w := (2 : Int32)) hN.1 (tb_told (p := 2) (by omega) h2) a2 _ (by rw [if_neg (show ¬ (2 : Int32) = 0 by decide), if_neg (show ¬ (2 : Int32) = 1 by decide), if_pos rfl])]
    have h5a := h5.fr F1 G1 rfl rfl
    have h3a := h3.fr F1 G1 rfl rfl
    have hd1 : σ1.2.2 1 = d := by rw [F1.1]; exact hd
    generalize hm : T 4 2 = m at *
    have hm' : m = T 4 2 := hm.symm
    have r1 := h5a.2.1.1
    have r2 := h5a.2.2.1
    have q1 := h5a.1.1
    have q2 := h5a.1.2
    rw [hm] at r1 r2 q1 q2
    rw [m_fr2, bs, q2, show (5 : Int32) = nI 5 from rfl, nI_add, mn0, m_fr2, bs, q2]
    rcases j_fresh d J1 N1 (i := tv d + 8) (a := 5009) (n := m) (g := T 9) (by omega) r1 r2 with ⟨σ2, μ2, cl, b2', F2, G2, X⟩ | ⟨σ2, μ2, X, hX, b1, b1i, b1a, b2', F2, G2, J2, N2⟩
    · rw [b2', b2s, wr_nI (by omega) (by omega), bs]
      obtain ⟨μ3, e3, G3⟩ := X_mn1 (d := d) hm5 (X_wI (a := 5009) (k := 5 + m) (v := 0) (by decide) X.1)
      have G3' : FD d [5] μ2 μ3 := (FD.rf.wI (by rw [zdm5 (by omega) (by omega)]; rfl)).tr G3
      rw [e3, bs]
      refine ⟨σ2, μ3, rfl, (F1.fa rfl).tr (F2.fa rfl), ((G1.mono rfl).tr (G2.mono rfl)).tr (G3'.mono rfl), .inl ⟨?_, X.fr G3' rfl⟩⟩
      rcases cl with cl | ⟨Y, hY, c1, ⟨j, hj, c2⟩, c3⟩
      · rw [cl, b2s, if_pos rfl]
      · rw [c1, b2s, if_neg (nI_nm1 (by omega)), hd1]
        unfold f_X8_manNamed
        rw [q1, c2, bs, bs, if_neg (nI_nm1 (by omega)), c3, b2s]
    · rw [b2', b2s, wr_nI (by omega) (by omega), bs, b1, b2s, if_neg (nI_nm1 (by omega)), hd1]
      unfold f_X8_manNamed
      rw [q1, b1i, bs, bs, if_pos rfl, b1a, bs]
      have hd2 : σ2.2.2 1 = d := by rw [F2.1]; exact hd1
      have G2a : FD d [5] μ2 (wI μ2 5009 (5 + m) (nI X)) := FD.rf.wI (by rw [zdm5 (by omega) (by omega)]; rfl)
      have J2a := J2.fr (FD.rf (d := d) (Z := [])) G2a rfl rfl rfl rfl
      have N2a := N2.fr (FD.rf (d := d) (Z := [])) G2a rfl rfl
      have h3b := (h3a.fr F2 G2 rfl rfl).fr (FD.rf (d := d) (Z := [])) G2a rfl rfl
      unfold mn1
      rw [hd2, h3b.1, m_fr0, bs, h3b.2, nI_m1lt (by omega) (by omega)]
      have GY2 : GD d (YM5 m) μ1 (wI μ2 5009 (5 + m) (nI X)) := (G2.gd rfl).wI (YM5_r (by omega))
      rcases j_num d J2a N2a (lo := 0) (hi := T 4 0 - 1) (by omega) (by omega) with ⟨σ3, μ3, b1, b2', F3, G3, X'⟩ | ⟨σ3, μ3, c, hc1, hc2, b1, b2', F3, G3, J3, N3⟩
      · rw [show f_X4_takeNumber 0 (nI (T 4 0 - 1)) σ2 = some (-1, σ3) from b1, show f_X12_numeral 0 (nI (T 4 0 - 1)) _ = some (nI 0, μ3) from b2', b2s, b2s, if_pos rfl, wr_nI (by omega) (by omega), bs]
        obtain ⟨μ4, e4, G4⟩ := X_mn2 (d := d) hm5 (X_wI (a := 5010) (k := 5 + m) (v := nI 0) (by decide) X'.1)
        have G4' : FD d [5] μ3 μ4 := (FD.rf.wI (by rw [zdm5 (by omega) (by omega)]; rfl)).tr G4
        rw [e4, bs]
        refine ⟨σ3, μ4, rfl, ((F1.fa rfl).tr (F2.fa rfl)).tr (F3.fa rfl), ((((G1.mono rfl).tr (G2.mono rfl)).tr (G2a.mono rfl)).tr (G3.mono rfl)).tr (G4'.mono rfl), .inl ⟨?_, X'.fr G4' rfl⟩⟩
        unfold f_X4_readMan_98 f_X4_readMan_115 f_X4_readMan_134
        rw [if_pos rfl, if_pos rfl, if_pos rfl]
      · rw [show f_X4_takeNumber 0 (nI (T 4 0 - 1)) σ2 = some (nI c, σ3) from b1, show f_X12_numeral 0 (nI (T 4 0 - 1)) _ = some (nI c, μ3) from b2', b2s, b2s, if_neg (nI_nm1 (by omega)), wr_nI (by omega) (by omega), bs]
        have G3a : FD d [5] μ3 (wI μ3 5010 (5 + m) (nI c)) := FD.rf.wI (by rw [zdm5 (by omega) (by omega)]; rfl)
        have J3a := J3.fr (FD.rf (d := d) (Z := [])) G3a rfl rfl rfl rfl
        have N3a := N3.fr (FD.rf (d := d) (Z := [])) G3a rfl rfl
        have GY3 : GD d (YM5 m) μ1 (wI μ3 5010 (5 + m) (nI c)) := (GY2.tr (G3.gd rfl)).wI (YM5_r (by omega))
        unfold mn2
        rcases j_one d J3a N3a (a := 8) (n := 4) (by omega) (by omega) (by omega) with ⟨σ4, μ4, b1, b2', F4, G4, X'⟩ | ⟨σ4, μ4, fa, hfa, b1, b2', F4, G4, J4, N4⟩
        · rw [show f_X4_takeChoice 8 4 σ3 = some (-1, σ4) from b1, show f_X12_oneOf 8 11 _ = some (0, μ4) from b2', b2s, b2s, wr_nI (by omega) (by omega), bs]
          obtain ⟨μ5, e5, G5⟩ := X_mn3 (d := d) hm5 (X_wI (a := 5011) (k := 5 + m) (v := 0) (by decide) X'.1)
          have G5' : FD d [5] μ4 μ5 := (FD.rf.wI (by rw [zdm5 (by omega) (by omega)]; rfl)).tr G5
          rw [e5, bs]
          refine ⟨σ4, μ5, rfl, (((F1.fa rfl).tr (F2.fa rfl)).tr (F3.fa rfl)).tr (F4.fa rfl), ((((((G1.mono rfl).tr (G2.mono rfl)).tr (G2a.mono rfl)).tr (G3.mono rfl)).tr (G3a.mono rfl)).tr (G4.mono rfl)).tr (G5'.mono rfl), .inl ⟨?_, X'.fr G5' rfl⟩⟩
          unfold f_X4_readMan_98 f_X4_readMan_115 f_X4_readMan_134
          rw [if_pos rfl, if_pos rfl, if_pos rfl]
        · rw [show f_X4_takeChoice 8 4 σ3 = some (nI fa, σ4) from b1, show f_X12_oneOf 8 11 _ = some (nI fa, μ4) from b2', b2s, b2s, wr_nI (by omega) (by omega), bs]
          have G4a : FD d [5] μ4 (wI μ4 5011 (5 + m) (nI fa)) := FD.rf.wI (by rw [zdm5 (by omega) (by omega)]; rfl)
          have J4a := J4.fr (FD.rf (d := d) (Z := [])) G4a rfl rfl rfl rfl
          have N4a := N4.fr (FD.rf (d := d) (Z := [])) G4a rfl rfl
          have GY4 : GD d (YM5 m) μ1 (wI μ4 5011 (5 + m) (nI fa)) := (GY3.tr (G4.gd rfl)).wI (YM5_r (by omega))
          unfold mn3 f_X4_readMan_98
          rw [if_neg (nI_nm1 (by omega))]
          rcases j_one d J4a N4a (a := 12) (n := 2) (by omega) (by omega) (by omega) with ⟨σ5, μ5, b1, b2', F5, G5, X'⟩ | ⟨σ5, μ5, ht, hht, b1, b2', F5, G5, J5, N5⟩
          · rw [show f_X4_takeChoice 12 2 σ4 = some (-1, σ5) from b1, show f_X12_oneOf 12 13 _ = some (0, μ5) from b2', b2s, b2s, wr_nI (by omega) (by omega), bs]
            obtain ⟨μ6, e6, G6⟩ := X_mn4 (d := d) hm5 (X_wI (a := 5012) (k := 5 + m) (v := 0) (by decide) X'.1)
            have G6' : FD d [5] μ5 μ6 := (FD.rf.wI (by rw [zdm5 (by omega) (by omega)]; rfl)).tr G6
            rw [e6, bs]
            refine ⟨σ5, μ6, rfl, ((((F1.fa rfl).tr (F2.fa rfl)).tr (F3.fa rfl)).tr (F4.fa rfl)).tr (F5.fa rfl), ((((((((G1.mono rfl).tr (G2.mono rfl)).tr (G2a.mono rfl)).tr (G3.mono rfl)).tr (G3a.mono rfl)).tr (G4.mono rfl)).tr (G4a.mono rfl)).tr (G5.mono rfl)).tr (G6'.mono rfl), .inl ⟨?_, X'.fr G6' rfl⟩⟩
            unfold f_X4_readMan_115 f_X4_readMan_134
            rw [if_pos rfl, if_pos rfl]
          · rw [show f_X4_takeChoice 12 2 σ4 = some (nI ht, σ5) from b1, show f_X12_oneOf 12 13 _ = some (nI ht, μ5) from b2', b2s, b2s, wr_nI (by omega) (by omega), bs]
            have G5a : FD d [5] μ5 (wI μ5 5012 (5 + m) (nI ht)) := FD.rf.wI (by rw [zdm5 (by omega) (by omega)]; rfl)
            have J5a := J5.fr (FD.rf (d := d) (Z := [])) G5a rfl rfl rfl rfl
            have N5a := N5.fr (FD.rf (d := d) (Z := [])) G5a rfl rfl
            have GY5 : GD d (YM5 m) μ1 (wI μ5 5012 (5 + m) (nI ht)) := (GY4.tr (G5.gd rfl)).wI (YM5_r (by omega))
            have FF5 : FD d [1] σ1 σ5 := ((F2.tr F3).tr F4).tr F5
            have GG5 : FD d [1, 2, 5] μ (wI μ5 5012 (5 + m) (nI ht)) := (((((((G1.mono rfl).tr (G2.mono rfl)).tr (G2a.mono rfl)).tr (G3.mono rfl)).tr (G3a.mono rfl)).tr (G4.mono rfl)).tr (G4a.mono rfl)).tr ((G5.mono rfl).tr (G5a.mono rfl))
            unfold mn4 f_X4_readMan_115
            rw [if_neg (nI_nm1 (by omega))]
            rcases j_num d J5a N5a (lo := 0) (hi := 99) (by omega) (by omega) with ⟨σ6, μ6, b1, b2', F6, G6, X'⟩ | ⟨σ6, μ6, co, hco1, hco, b1, b2', F6, G6, J6, N6⟩
            · rw [show f_X4_takeNumber 0 99 σ5 = some (-1, σ6) from b1, show f_X12_numeral 0 99 _ = some (nI 0, μ6) from b2', b2s, b2s, wr_nI (by omega) (by omega), bs, m_fr2, bs, m_rd2, bs, bs]
              have G7 : ∀ x : Int32, FD d [5] μ6 (wI (wI μ6 5013 (5 + m) (nI 0)) 5004 10 x) := fun x => (FD.rf.wI (by rw [zdm5 (by omega) (by omega)]; rfl)).wI rfl
              refine ⟨σ6, _, rfl, ((F1.fa rfl).tr (FF5.fa rfl)).tr (F6.fa rfl), ((GG5.mono rfl).tr (G6.mono rfl)).tr ((G7 _).mono rfl), .inl ⟨?_, X'.fr (G7 _) rfl⟩⟩
              unfold f_X4_readMan_134
              rw [if_pos rfl]
            · rw [show f_X4_takeNumber 0 99 σ5 = some (nI co, σ6) from b1, show f_X12_numeral 0 99 _ = some (nI co, μ6) from b2', b2s, b2s, wr_nI (by omega) (by omega), bs, m_fr2, bs]
              have GY6 : GD d (YM5 m) μ1 (wI μ6 5013 (5 + m) (nI co)) := (GY5.tr (G6.gd rfl)).wI (YM5_r (by omega))
              have GG6 : FD d [1] (wI μ5 5012 (5 + m) (nI ht)) μ6 := G6
              have e10 : (wI μ6 5013 (5 + m) (nI co)).1 5004 10 = nI m := by
                rw [wI_at, if_neg (by omega), G6.z (z := 5) rfl rfl, wI_at, if_neg (by omega), G5.z (z := 5) rfl rfl, wI_at, if_neg (by omega), G4.z (z := 5) rfl rfl, wI_at, if_neg (by omega), G3.z (z := 5) rfl rfl, wI_at, if_neg (by omega), G2.z (z := 5) rfl rfl]
                exact q2
              rw [e10, nI_1, m_rd2, bs, bs]
              have hd6 : σ6.2.2 1 = d := by rw [F6.1, FF5.1]; exact hd1
              have q6 : σ6.1 (tv d) 6 = nI m := by rw [F6.z zc56 rfl, FF5.z zc56 rfl]; exact q1
              unfold f_X4_readMan_134
              rw [if_neg (nI_nm1 (by omega)), hd6, show nI c * (16 : Int32) + nI fa * (4 : Int32) = nI (16 * c + 4 * fa) by rw [show (16 : Int32) = nI 16 from rfl, show (4 : Int32) = nI 4 from rfl, nI_mul, nI_mul, nI_add, Nat.mul_comm c, Nat.mul_comm fa]]
              obtain ⟨σ7, e7, F7e, F7, s0, s1, s2, s3, s4⟩ := c_addMan (d := d) (x1 := nI X) (x2 := nI (16 * c + 4 * fa)) (x3 := nI ht) (x4 := nI co) hm5 q6
              rw [e7, bs]
              have GYf : GD d (YM5 m) μ1 (wI (wI μ6 5013 (5 + m) (nI co)) 5004 10 (nI (m + 1))) := GY6.wI YM5_c
              have FYf : GD d (YC5 d m) σ1 σ7 := ((FF5.gd rfl).tr (F6.gd rfl)).tr F7
              have G7 : FD d [5] μ6 (wI (wI μ6 5013 (5 + m) (nI co)) 5004 10 (nI (m + 1))) := (FD.rf.wI (by rw [zdm5 (by omega) (by omega)]; rfl)).wI rfl
              have FS : FD d [1, 5, 12] σ σ7 := (((FD.mono F1' rfl).tr (FF5.mono rfl)).tr (F6.mono rfl)).tr (F7e.mono rfl)
              have GS : FD d [1, 5, 12] (wI μ 5000 21 (nI (setN (fun j => tb j || decide (j = 2)) 19))) (wI (wI μ6 5013 (5 + m) (nI co)) 5004 10 (nI (m + 1))) := (G1'.mono rfl).tr (GYf.fd rfl (fun i p z => YM5_z z))
              have GG : FD d [1, 2, 5, 12] μ (wI (wI μ6 5013 (5 + m) (nI co)) 5004 10 (nI (m + 1))) := (Ga.mono rfl).tr (GS.mono rfl)
              have t1 : (wI (wI μ6 5013 (5 + m) (nI co)) 5004 10 (nI (m + 1))).1 5009 (5 + m) = nI X := by
                rw [wI_at, if_neg (by omega), wI_at, if_neg (by omega), G6.z (zdm5 (by omega) (by omega)) rfl, wI_at, if_neg (by omega), G5.z (zdm5 (by omega) (by omega)) rfl, wI_at, if_neg (by omega), G4.z (zdm5 (by omega) (by omega)) rfl, wI_at, if_neg (by omega), G3.z (zdm5 (by omega) (by omega)) rfl, wI_self]
              have t2 : (wI (wI μ6 5013 (5 + m) (nI co)) 5004 10 (nI (m + 1))).1 5010 (5 + m) = nI c := by
                rw [wI_at, if_neg (by omega), wI_at, if_neg (by omega), G6.z (zdm5 (by omega) (by omega)) rfl, wI_at, if_neg (by omega), G5.z (zdm5 (by omega) (by omega)) rfl, wI_at, if_neg (by omega), G4.z (zdm5 (by omega) (by omega)) rfl, wI_self]
              have t3 : (wI (wI μ6 5013 (5 + m) (nI co)) 5004 10 (nI (m + 1))).1 5011 (5 + m) = nI fa := by
                rw [wI_at, if_neg (by omega), wI_at, if_neg (by omega), G6.z (zdm5 (by omega) (by omega)) rfl, wI_at, if_neg (by omega), G5.z (zdm5 (by omega) (by omega)) rfl, wI_self]
              have t4 : (wI (wI μ6 5013 (5 + m) (nI co)) 5004 10 (nI (m + 1))).1 5012 (5 + m) = nI ht := by
                rw [wI_at, if_neg (by omega), wI_at, if_neg (by omega), G6.z (zdm5 (by omega) (by omega)) rfl, wI_self]
              have t5 : (wI (wI μ6 5013 (5 + m) (nI co)) 5004 10 (nI (m + 1))).1 5013 (5 + m) = nI co := by
                rw [wI_at, if_neg (by omega), wI_self]
              exact ⟨σ7, _, rfl, FS.fa rfl, GG.mono rfl, .inr ⟨rfl, _, fun j => tb j || decide (j = 2), L, A, B, J6.fr F7e G7 rfl rfl rfl rfl, N6.fr F7e G7 rfl rfl, by rw [F7e.1]; exact hd6, hA.man hm' hm5 hX (by omega) hfa hht hco, D2a.fr FS GS rfl rfl, h3.fr FS GG rfl rfl, h4.fr FS GG rfl rfl,
                h5a.push hm' FYf GYf s0 s1 s2 s3 s4 (wI_self _ _ _ _) t1 t2 t3 t4 t5, h6.fr FS GG rfl rfl, (h7.fr FS GG rfl rfl rfl rfl).told (by omega), h8.fr FS GG rfl rfl, h9.fr FS GG rfl rfl, h10.fr GG rfl, h11.fr GG rfl⟩⟩
  · have e5 : T 4 2 = 5 := by omega
    rw [e5, if_pos (show nI 5 = (5 : Int32) from rfl), if_neg (show ¬ nI 5 < (5 : Int32) by decide)]
    unfold f_X12_isFull_58
    rw [bs, if_neg (show ¬ (1 : Int32) = 0 by decide)]
    exact BD.bad hJ hN (by decide) 2
end
