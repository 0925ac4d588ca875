/-! The pure part: text. Lines that tell one number: street, fine, seed -/
section
variable {d : Bool} {f : Nat → Nat} {N r : Nat} {T : zT} {tb : Nat → Bool} {L : zK} {A B : Nat → Nat} {n : Nat} {σ μ : zS}
/-- the bits of another word do not change -/
theorem tb_ne {p j : Nat} (h : j ≠ p) : (tb j || decide (j = p)) = tb j := by rw [decide_eq_false h, Bool.or_false]
theorem tb_eq {p : Nat} : (tb p || decide (p = p)) = true := by rw [decide_eq_true rfl, Bool.or_true]
theorem D7.told (h : D7 d tb L A B σ μ) {p : Nat} (hp : p < 16) : D7 d (fun j => tb j || decide (j = p)) L A B σ μ := by
  obtain ⟨h1, h2, h3, h4⟩ := h
  refine ⟨h1, h2, h3, fun k hk => ?_⟩
  show ((tb (16 + k) || decide (16 + k = p)) = false → _) ∧ ((tb (16 + k) || decide (16 + k = p)) = true → _)
  rw [tb_ne (by omega)]
  exact h4 k hk
theorem tb_told {p : Nat} (hp : p < 19) (h2 : D2 tb σ μ) : (μ.1 5000 21 ||| ((1 : Int32) <<< (nI p &&& 31))) = nI (setN (fun j => tb j || decide (j = p)) 19) := by rw [h2.1, tb_set tb hp]
theorem m_108 {w : Int32} (h0 : μ.1 5000 28 = 0) {x : Int32} (hx : (μ.1 5000 21 ||| ((1 : Int32) <<< (w &&& 31))) = x) {μ1 : zS} (e : f_X12_token (wI μ 5000 21 x) = some μ1) (y : Option zS)
    (hy : (if w = 0 then b2 (f_X12_numeral 2 12 μ1) fun v_10 σ_9 => (f_X12_reads 0 v_10 σ_9).bind fun σ_13 => f_X12_line_353 σ_13
      else if w = 1 then (f_X12_fresher 1 μ1).bind fun v_17 => lt (α := Int32) ((5 : Int32) + v_17) fun x3_19 => (f_X12_fresher 1 μ1).bind fun v_21 => b2 (f_X12_fresh 5005 10 5 v_21 μ1) fun v_25 σ_24 => (wrI σ_24 5005 10 x3_19 v_25).bind fun σ_27 => (f_X12_fresher 0 σ_27).bind fun v_31 => b2 (f_X12_numeral 0 (v_31 - (1 : Int32)) σ_27) fun v_35 σ_34 => (wrI σ_34 5006 10 x3_19 v_35).bind fun σ_37 => (rdI σ_37 5006 10 x3_19).bind fun v_40 => (f_X12_fresher 0 σ_37).bind fun v_44 => b2 (f_X12_numeral v_40 (v_44 - (1 : Int32)) σ_37) fun v_48 σ_47 => (wrI σ_47 5007 10 x3_19 v_48).bind fun σ_50 => (wrI σ_50 5008 10 x3_19 0).bind fun σ_53 => (f_X12_fresher 1 σ_53).bind fun v_57 => (f_X12_reads 1 (v_57 + (1 : Int32)) σ_53).bind fun σ_60 => f_X12_line_353 σ_60
      else if w = 2 then (f_X12_fresher 2 μ1).bind fun v_64 => (f_X12_manLine ((5 : Int32) + v_64) μ1).bind fun σ_67 => f_X12_line_353 σ_67
      else if w = 3 then (f_X12_fresher 3 μ1).bind fun v_71 => (f_X12_deedLine ((12 : Int32) + v_71) μ1).bind fun σ_74 => f_X12_line_353 σ_74
      else if w = 4 then (f_X12_barLine μ1).bind fun σ_78 => f_X12_line_353 σ_78
      else if w = 5 then b2 (f_X12_numeral 0 99 μ1) fun v_83 σ_82 => (f_X12_reads 5 v_83 σ_82).bind fun σ_86 => f_X12_line_353 σ_86
      else if w = 6 then b2 (f_X12_numeral 0 99999 μ1) fun v_91 σ_90 => (f_X12_reads 6 v_91 σ_90).bind fun σ_94 => f_X12_line_353 σ_94
      else (f_X12_lawLine μ1).bind fun σ_97 => f_X12_line_353 σ_97) = y) : f_X12_line_108 w μ = y := by
  unfold f_X12_line_108
  rw [if_pos h0, lts, hx, e, bs]
  exact hy
theorem j_street (h : JL d f N r T tb L A B n σ μ) (k1 : ¬ σ.1 500 4 = 0) (k3 : μ.1 5000 26 = 0) (k4 : μ.1 5000 27 = 0) : BD d f N r n (f_X4_readStreet σ) (f_X12_line μ) σ μ := by
  obtain ⟨hJ, hN, hd, hA, h2, h3, h4, h5, h6, h7, h8, h9, h10, h11⟩ := h
  have eM : f_X12_line μ = f_X12_line_47 0 1 μ := by
    unfold f_X12_line
    rw [if_pos k3, k4, if_pos (by decide), lts, if_pos rfl]; rfl
  have eF : f_X12_isFull 0 μ = some 0 := by
    unfold f_X12_isFull f_X12_isFull_14 f_X12_isFull_28 f_X12_isFull_43
    rw [if_neg (by decide), if_neg (by decide), if_neg (by decide), if_neg (by decide)]
  have eB : ((μ.1 5000 21) >>> ((0 : Int32) &&& 31)) &&& (1 : Int32) = bI (tb 0) := by rw [h2.1]; exact tb_get tb (p := 0) (by omega)
  rw [eM]
  unfold f_X12_line_47 f_X4_readStreet
  rw [eF, bs, if_pos rfl, if_neg (show ¬ (1 : Int32) = 0 by decide), eB, h2.2.1, hd, h4.1.1, h5.1.1]
  cases e0 : tb 0 with
  | true =>
    rw [if_neg (show ¬ bI true = 0 by decide), if_pos (show bI true = 1 from rfl)]
    exact BD.bad hJ hN (by decide) 0
  | false =>
    rw [if_pos (show bI false = 0 from rfl), if_neg (show ¬ bI false = 1 by decide)]
    unfold f_X12_line_88
    rw [if_pos rfl, h2.1]
    have hlm := hA.2.2.2.2
    have hl5 := hA.1
    by_cases hb : tb 1 = false ∧ tb 2 = false
    · rw [if_pos ((tb_12 tb).mpr hb)]
      have l0 : T 4 1 = 0 := by have := hlm.1; rw [hb.1] at this; have := of_decide_eq_false this.symm; omega
      have m0 : T 4 2 = 0 := by have := hlm.2; rw [hb.2] at this; have := of_decide_eq_false this.symm; omega
      rw [l0, m0, if_neg (show ¬ (0 : Int32) < nI 0 by decide), if_pos (show nI 0 ≤ (0 : Int32) by decide), lts]
      have Fa : FD d [2] σ (wI σ 200 3 1) := FD.rf.wI rfl
      have Ga : FD d [2] μ (wI μ 5000 21 (nI (setN (fun j => tb j || decide (j = 0)) 19))) := FD.rf.wI rfl
      obtain ⟨σ1, μ1, a1, a2, F1, G1, J1, N1, F1', G1'⟩ := j_begin hJ hN k1 Fa Ga
      rw [a1, bs, m_108 (w := (0 : Int32)) hN.1 (tb_told (p := 0) (by omega) h2) a2 _ (if_pos rfl)]
      rcases j_num d J1 N1 (lo := 2) (hi := 12) (by omega) (by omega) with ⟨σ2, μ2, b1, b2', F2, G2, X⟩ | ⟨σ2, μ2, v, hv1, hv2, b1, b2', F2, G2, J2, N2⟩
      · rw [show f_X4_takeNumber 2 12 σ1 = some (-1, σ2) from b1, show f_X12_numeral 2 12 μ1 = some (nI 2, μ2) from b2', b2s, b2s, if_pos rfl, m_rd0, bs]
        have G3 : FD d [3] μ2 (wI μ2 5004 8 (nI 2)) := FD.rf.wI rfl
        exact ⟨σ2, _, rfl, (F1.fa rfl).tr (F2.fa rfl), ((G1.mono rfl).tr (G2.mono rfl)).tr (G3.mono rfl), .inl ⟨rfl, X.fr G3 rfl⟩⟩
      · rw [show f_X4_takeNumber 2 12 σ1 = some (nI v, σ2) from b1, show f_X12_numeral 2 12 μ1 = some (nI v, μ2) from b2', b2s, b2s, if_neg (nI_nm1 (by omega)), m_rd0, bs, lts]
        have hd2 : σ2.2.2 1 = d := by rw [F2.1, F1.1]; exact hd
        rw [hd2]
        have F3 : FD d [3] σ2 (wI σ2 (tv d) 0 (nI v)) := FD.rf.wI (by rw [zc3]; rfl)
        have G3 : FD d [3] μ2 (wI μ2 5004 8 (nI v)) := FD.rf.wI rfl
        have FF : FD d [1, 2, 3] σ (wI σ2 (tv d) 0 (nI v)) := ((F1.mono rfl).tr (F2.mono rfl)).tr (F3.mono rfl)
        have GG : FD d [1, 2, 3] μ (wI μ2 5004 8 (nI v)) := ((G1.mono rfl).tr (G2.mono rfl)).tr (G3.mono rfl)
        refine ⟨_, _, rfl, FF.fa rfl, GG.mono rfl, .inr ⟨rfl, setT T 4 0 v, fun j => tb j || decide (j = 0), L, A, B, J2.fr F3 G3 rfl rfl rfl rfl, N2.fr F3 G3 rfl rfl, hd2, ?_, ?_, ?_, h4.fr FF GG rfl rfl, h5.fr FF GG rfl rfl, h6.fr FF GG rfl rfl, (h7.fr FF GG rfl rfl rfl rfl).told (by omega), h8.fr FF GG rfl rfl, h9.fr FF GG rfl rfl, h10.fr GG rfl, h11.fr GG rfl⟩⟩
        · refine ⟨⟨hv1, hv2, hl5.2.2⟩, fun k hk => ?_, fun k hk => ?_, hA.2.2.2.1, ?_, ?_⟩
          · exact absurd (show k < T 4 1 from hk) (by omega)
          · exact absurd (show k < T 4 2 from hk) (by omega)
          · exact (tb_ne (by omega)).trans hlm.1
          · exact (tb_ne (by omega)).trans hlm.2
        · have q1 : ∀ i k, zd d i k = 2 → (wI σ2 (tv d) 0 (nI v)).1 i k = (wI σ 200 3 1).1 i k := fun i k z => (F3.z z rfl).trans ((F2.z z rfl).trans (F1'.z z rfl))
          have q2 : ∀ i k, zd d i k = 2 → (wI μ2 5004 8 (nI v)).1 i k = (wI μ 5000 21 (nI (setN (fun j => tb j || decide (j = 0)) 19))).1 i k := fun i k z => (G3.z z rfl).trans ((G2.z z rfl).trans (G1'.z z rfl))
          refine ⟨(q2 _ _ rfl).trans (wI_self _ _ _ _), (q1 _ _ rfl).trans ((wI_self _ _ _ _).trans ?_), (q1 _ _ rfl).trans ((show (wI σ 200 3 1).1 200 4 = σ.1 200 4 from rfl).trans (h2.2.2.1.trans ?_)), (q1 _ _ rfl).trans ((show (wI σ 200 3 1).1 200 5 = σ.1 200 5 from rfl).trans (h2.2.2.2.trans ?_))⟩
          · show (1 : Int32) = bI (tb 0 || decide (0 = 0)); rw [tb_eq]; rfl
          · show bI (tb 5) = bI (tb 5 || decide (5 = 0)); rw [tb_ne (by omega)]
          · show bI (tb 6) = bI (tb 6 || decide (6 = 0)); rw [tb_ne (by omega)]
        · exact ⟨wI_self _ _ _ _, wI_self _ _ _ _⟩
    · rw [if_neg (fun z => hb ((tb_12 tb).mp z))]
      by_cases l0 : 0 < T 4 1
      · rw [if_pos (show (0 : Int32) < nI (T 4 1) from nI_lt (a := 0) l0 (by omega))]
        exact BD.bad hJ hN (by decide) 0
      · have m0 : 0 < T 4 2 := by
          cases e2 : tb 2 with
          | true => have := hlm.2; rw [e2] at this; exact of_decide_eq_true this.symm
          | false => exact absurd ⟨by rw [hlm.1]; exact decide_eq_false l0, e2⟩ hb
        rw [if_neg (show ¬ (0 : Int32) < nI (T 4 1) from nI_nlt (a := 0) (by omega) (by omega)), if_neg (nI_nle m0 (by omega))]
        exact BD.bad hJ hN (by decide) 0
theorem j_fine (h : JL d f N r T tb L A B n σ μ) (k1 : ¬ σ.1 500 4 = 0) (k3 : μ.1 5000 26 = 0) (k4 : μ.1 5000 27 = 5) : BD d f N r n (f_X4_readFine σ) (f_X12_line μ) σ μ := by
  obtain ⟨hJ, hN, hd, hA, h2, h3, h4, h5, h6, h7, h8, h9, h10, h11⟩ := h
  have eM : f_X12_line μ = f_X12_line_47 5 1 μ := by
    unfold f_X12_line
    rw [if_pos k3, k4, if_pos (by decide), lts, if_neg (by decide), if_pos rfl]; rfl
  have eF : f_X12_isFull 5 μ = some 0 := by
    unfold f_X12_isFull f_X12_isFull_14 f_X12_isFull_28 f_X12_isFull_43
    rw [if_neg (by decide), if_neg (by decide), if_neg (by decide), if_neg (by decide)]
  have eB : ((μ.1 5000 21) >>> ((5 : Int32) &&& 31)) &&& (1 : Int32) = bI (tb 5) := by rw [h2.1]; exact tb_get tb (p := 5) (by omega)
  rw [eM]
  unfold f_X12_line_47 f_X4_readFine
  rw [eF, bs, if_pos rfl, if_neg (show ¬ (1 : Int32) = 0 by decide), eB, h2.2.2.1]
  cases e0 : tb 5 with
  | true =>
    rw [if_neg (show ¬ bI true = 0 by decide), if_pos (show bI true = 1 from rfl)]
    exact BD.bad hJ hN (by decide) 5
  | false =>
    rw [if_pos (show bI false = 0 from rfl), if_neg (show ¬ bI false = 1 by decide)]
    unfold f_X12_line_88
    rw [if_neg (show ¬ (5 : Int32) = 0 by decide), lts]
    have hlm := hA.2.2.2.2
    have hl5 := hA.1
    have Fa : FD d [2] σ (wI σ 200 4 1) := FD.rf.wI rfl
    have Ga : FD d [2] μ (wI μ 5000 21 (nI (setN (fun j => tb j || decide (j = 5)) 19))) := FD.rf.wI rfl
    obtain ⟨σ1, μ1, a1, a2, F1, G1, J1, N1, F1', G1'⟩ := j_begin hJ hN k1 Fa Ga
    rw [a1, bs, m_108 (w := (5 : Int32)) hN.1 (tb_told (p := 5) (by omega) h2) a2 _ (by rw [if_neg (show ¬ (5 : Int32) = 0 by decide), if_neg (show ¬ (5 : Int32) = 1 by decide), if_neg (show ¬ (5 : Int32) = 2 by decide), if_neg (show ¬ (5 : Int32) = 3 by decide), if_neg (show ¬ (5 : Int32) = 4 by decide), if_pos rfl])]
    rcases j_num d J1 N1 (lo := 0) (hi := 99) (by omega) (by omega) with ⟨σ2, μ2, b1, b2', F2, G2, X⟩ | ⟨σ2, μ2, v, hv1, hv2, b1, b2', F2, G2, J2, N2⟩
    · rw [show f_X4_takeNumber 0 99 σ1 = some (-1, σ2) from b1, show f_X12_numeral 0 99 μ1 = some (nI 0, μ2) from b2', b2s, b2s, if_pos rfl, m_rd5, bs]
      have G3 : FD d [9] μ2 (wI μ2 5004 13 (nI 0)) := FD.rf.wI rfl
      exact ⟨σ2, _, rfl, (F1.fa rfl).tr (F2.fa rfl), ((G1.mono rfl).tr (G2.mono rfl)).tr (G3.mono rfl), .inl ⟨rfl, X.fr G3 rfl⟩⟩
    · rw [show f_X4_takeNumber 0 99 σ1 = some (nI v, σ2) from b1, show f_X12_numeral 0 99 μ1 = some (nI v, μ2) from b2', b2s, b2s, if_neg (nI_nm1 (by omega)), m_rd5, bs, lts]
      have hd2 : σ2.2.2 1 = d := by rw [F2.1, F1.1]; exact hd
      rw [hd2]
      have F3 : FD d [9] σ2 (wI σ2 (tv d) 16 (nI v)) := FD.rf.wI (by rw [zcf]; rfl)
      have G3 : FD d [9] μ2 (wI μ2 5004 13 (nI v)) := FD.rf.wI rfl
      have FF : FD d [1, 2, 9] σ (wI σ2 (tv d) 16 (nI v)) := ((F1.mono rfl).tr (F2.mono rfl)).tr (F3.mono rfl)
      have GG : FD d [1, 2, 9] μ (wI μ2 5004 13 (nI v)) := ((G1.mono rfl).tr (G2.mono rfl)).tr (G3.mono rfl)
      refine ⟨_, _, rfl, FF.fa rfl, GG.mono rfl, .inr ⟨rfl, setT T 4 5 v, fun j => tb j || decide (j = 5), L, A, B, J2.fr F3 G3 rfl rfl rfl rfl, N2.fr F3 G3 rfl rfl, hd2, ?_, ?_, h3.fr FF GG rfl rfl, h4.fr FF GG rfl rfl, h5.fr FF GG rfl rfl, h6.fr FF GG rfl rfl, (h7.fr FF GG rfl rfl rfl rfl).told (by omega), h8.fr FF GG rfl rfl, ⟨wI_self _ _ _ _, wI_self _ _ _ _⟩, h10.fr GG rfl, h11.fr GG rfl⟩⟩
      · refine ⟨⟨hl5.1, hl5.2.1, hl5.2.2.1, hl5.2.2.2.1, hl5.2.2.2.2.1, hl5.2.2.2.2.2.1, hv2, hl5.2.2.2.2.2.2.2⟩, hA.2.1, hA.2.2.1, hA.2.2.2.1, ?_, ?_⟩
        · exact (tb_ne (by omega)).trans hlm.1
        · exact (tb_ne (by omega)).trans hlm.2
      · have q1 : ∀ i k, zd d i k = 2 → (wI σ2 (tv d) 16 (nI v)).1 i k = (wI σ 200 4 1).1 i k := fun i k z => (F3.z z rfl).trans ((F2.z z rfl).trans (F1'.z z rfl))
        have q2 : ∀ i k, zd d i k = 2 → (wI μ2 5004 13 (nI v)).1 i k = (wI μ 5000 21 (nI (setN (fun j => tb j || decide (j = 5)) 19))).1 i k := fun i k z => (G3.z z rfl).trans ((G2.z z rfl).trans (G1'.z z rfl))
        refine ⟨(q2 _ _ rfl).trans (wI_self _ _ _ _), (q1 _ _ rfl).trans ?_, (q1 _ _ rfl).trans ?_, (q1 _ _ rfl).trans ?_⟩
        · exact h2.2.1.trans (by show bI (tb 0) = bI (tb 0 || decide (0 = 5)); rw [tb_ne (by omega)])
        · exact (wI_self _ _ _ _).trans (by show (1 : Int32) = bI (tb 5 || decide (5 = 5)); rw [tb_eq]; rfl)
        · exact h2.2.2.2.trans (by show bI (tb 6) = bI (tb 6 || decide (6 = 5)); rw [tb_ne (by omega)])
theorem j_seed (h : JL d f N r T tb L A B n σ μ) (k1 : ¬ σ.1 500 4 = 0) (k3 : μ.1 5000 26 = 0) (k4 : μ.1 5000 27 = 6) : BD d f N r n (f_X4_readSeed σ) (f_X12_line μ) σ μ := by
  obtain ⟨hJ, hN, hd, hA, h2, h3, h4, h5, h6, h7, h8, h9, h10, h11⟩ := h
  have eM : f_X12_line μ = f_X12_line_47 6 1 μ := by
    unfold f_X12_line
    rw [if_pos k3, k4, if_pos (by decide), lts, if_neg (by decide), if_neg (by decide), if_pos rfl]; rfl
  have eF : f_X12_isFull 6 μ = some 0 := by
    unfold f_X12_isFull f_X12_isFull_14 f_X12_isFull_28 f_X12_isFull_43
    rw [if_neg (by decide), if_neg (by decide), if_neg (by decide), if_neg (by decide)]
  have eB : ((μ.1 5000 21) >>> ((6 : Int32) &&& 31)) &&& (1 : Int32) = bI (tb 6) := by rw [h2.1]; exact tb_get tb (p := 6) (by omega)
  rw [eM]
  unfold f_X12_line_47 f_X4_readSeed
  rw [eF, bs, if_pos rfl, if_neg (show ¬ (1 : Int32) = 0 by decide), eB, h2.2.2.2]
  cases e0 : tb 6 with
  | true =>
    rw [if_neg (show ¬ bI true = 0 by decide), if_pos (show bI true = 1 from rfl)]
    exact BD.bad hJ hN (by decide) 6
  | false =>
    rw [if_pos (show bI false = 0 from rfl), if_neg (show ¬ bI false = 1 by decide)]
    unfold f_X12_line_88
    rw [if_neg (show ¬ (6 : Int32) = 0 by decide), lts]
    have hlm := hA.2.2.2.2
    have hl5 := hA.1
    have Fa : FD d [2] σ (wI σ 200 5 1) := FD.rf.wI rfl
    have Ga : FD d [2] μ (wI μ 5000 21 (nI (setN (fun j => tb j || decide (j = 6)) 19))) := FD.rf.wI rfl
    obtain ⟨σ1, μ1, a1, a2, F1, G1, J1, N1, F1', G1'⟩ := j_begin hJ hN k1 Fa Ga
    rw [a1, bs, m_108 (w := (6 : Int32)) hN.1 (tb_told (p := 6) (by omega) h2) a2 _ (by rw [if_neg (show ¬ (6 : Int32) = 0 by decide), if_neg (show ¬ (6 : Int32) = 1 by decide), if_neg (show ¬ (6 : Int32) = 2 by decide), if_neg (show ¬ (6 : Int32) = 3 by decide), if_neg (show ¬ (6 : Int32) = 4 by decide), if_neg (show ¬ (6 : Int32) = 5 by decide), if_pos rfl])]
    rcases j_num d J1 N1 (lo := 0) (hi := 99999) (by omega) (by omega) with ⟨σ2, μ2, b1, b2', F2, G2, X⟩ | ⟨σ2, μ2, v, hv1, hv2, b1, b2', F2, G2, J2, N2⟩
    · rw [show f_X4_takeNumber 0 99999 σ1 = some (-1, σ2) from b1, show f_X12_numeral 0 99999 μ1 = some (nI 0, μ2) from b2', b2s, b2s, if_pos rfl, m_rd6, bs]
      have G3 : FD d [10] μ2 (wI μ2 5004 14 (nI 0)) := FD.rf.wI rfl
      exact ⟨σ2, _, rfl, (F1.fa rfl).tr (F2.fa rfl), ((G1.mono rfl).tr (G2.mono rfl)).tr (G3.mono rfl), .inl ⟨rfl, X.fr G3 rfl⟩⟩
    · rw [show f_X4_takeNumber 0 99999 σ1 = some (nI v, σ2) from b1, show f_X12_numeral 0 99999 μ1 = some (nI v, μ2) from b2', b2s, b2s, if_neg (nI_nm1 (by omega)), m_rd6, bs]
      have hd2 : σ2.2.2 1 = d := by rw [F2.1, F1.1]; exact hd
      have F3 : FD d [10] σ2 σ2 := FD.rf
      have G3 : FD d [10] μ2 (wI μ2 5004 14 (nI v)) := FD.rf.wI rfl
      have FF : FD d [1, 2, 10] σ σ2 := ((F1.mono rfl).tr (F2.mono rfl)).tr (F3.mono rfl)
      have GG : FD d [1, 2, 10] μ (wI μ2 5004 14 (nI v)) := ((G1.mono rfl).tr (G2.mono rfl)).tr (G3.mono rfl)
      refine ⟨_, _, rfl, FF.fa rfl, GG.mono rfl, .inr ⟨rfl, setT T 4 6 v, fun j => tb j || decide (j = 6), L, A, B, J2.fr F3 G3 rfl rfl rfl rfl, N2.fr F3 G3 rfl rfl, hd2, ?_, ?_, h3.fr FF GG rfl rfl, h4.fr FF GG rfl rfl, h5.fr FF GG rfl rfl, h6.fr FF GG rfl rfl, (h7.fr FF GG rfl rfl rfl rfl).told (by omega), h8.fr FF GG rfl rfl, h9.fr FF GG rfl rfl, wI_self _ _ _ _, h11.fr GG rfl⟩⟩
      · refine ⟨⟨hl5.1, hl5.2.1, hl5.2.2.1, hl5.2.2.2.1, hl5.2.2.2.2.1, hl5.2.2.2.2.2.1, hl5.2.2.2.2.2.2.1, hv2⟩, hA.2.1, hA.2.2.1, hA.2.2.2.1, ?_, ?_⟩
        · exact (tb_ne (by omega)).trans hlm.1
        · exact (tb_ne (by omega)).trans hlm.2
      · have q1 : ∀ i k, zd d i k = 2 → σ2.1 i k = (wI σ 200 5 1).1 i k := fun i k z => (F3.z z rfl).trans ((F2.z z rfl).trans (F1'.z z rfl))
        have q2 : ∀ i k, zd d i k = 2 → (wI μ2 5004 14 (nI v)).1 i k = (wI μ 5000 21 (nI (setN (fun j => tb j || decide (j = 6)) 19))).1 i k := fun i k z => (G3.z z rfl).trans ((G2.z z rfl).trans (G1'.z z rfl))
        refine ⟨(q2 _ _ rfl).trans (wI_self _ _ _ _), (q1 _ _ rfl).trans ?_, (q1 _ _ rfl).trans ?_, (q1 _ _ rfl).trans ?_⟩
        · exact h2.2.1.trans (by show bI (tb 0) = bI (tb 0 || decide (0 = 6)); rw [tb_ne (by omega)])
        · exact h2.2.2.1.trans (by show bI (tb 5) = bI (tb 5 || decide (5 = 6)); rw [tb_ne (by omega)])
        · exact (wI_self _ _ _ _).trans (by show (1 : Int32) = bI (tb 6 || decide (6 = 6)); rw [tb_eq]; rfl)
end
