/-! The pure part: text. A deed's line of both -/
def dl3 (x1 : Int32) (μ : zS) : Option zS := b2 (f_X12_numeral 0 23 μ) fun v s => (wrI s 5017 24 x1 v).bind fun s => (f_X12_fresher 3 s).bind fun w => (f_X12_reads 3 (w + (1 : Int32)) s).bind fun s => some s
def dl2 (x1 : Int32) (μ : zS) : Option zS := b2 (f_X12_oneOf 18 21 μ) fun v s => (wrI s 5016 24 x1 v).bind fun s => dl3 x1 s
def dl1 (x1 : Int32) (μ : zS) : Option zS := b2 (f_X12_oneOf 14 17 μ) fun v s => (wrI s 5015 24 x1 v).bind fun s => dl2 x1 s
theorem dl0 (x1 : Int32) (μ : zS) : f_X12_deedLine x1 μ = (f_X12_fresher 2 μ).bind fun w => b2 (f_X12_toldAhead 5009 10 5 w μ) fun v s => (wrI s 5014 24 x1 v).bind fun s => dl1 x1 s := rfl
section
variable {d : Bool} {f : Nat → Nat} {N r : Nat} {T : zT} {tb : Nat → Bool} {L : zK} {A B : Nat → Nat} {n : Nat} {σ μ : zS} {m : Nat}
theorem X_dl3 (hm : m < 12) (h : ¬ μ.1 5000 28 = 0) : ∃ μ', dl3 (nI (12 + m)) μ = some μ' ∧ FD d [6] μ μ' := by
  unfold dl3
  rw [X_num h, b2s, wr_nI (by omega) (by omega), bs, m_fr3, bs, m_rd3, bs]
  exact ⟨_, rfl, (FD.rf.wI (by rw [zdm6 (by omega) (by omega)]; rfl)).wI rfl⟩
theorem X_dl2 (hm : m < 12) (h : ¬ μ.1 5000 28 = 0) : ∃ μ', dl2 (nI (12 + m)) μ = some μ' ∧ FD d [6] μ μ' := by
  unfold dl2
  rw [X_one h, b2s, wr_nI (by omega) (by omega), bs]
  obtain ⟨μ', e, F⟩ := X_dl3 (d := d) hm (X_wI (a := 5016) (k := 12 + m) (v := 0) (by decide) h)
  exact ⟨μ', e, (FD.rf.wI (by rw [zdm6 (by omega) (by omega)]; rfl)).tr F⟩
theorem X_dl1 (hm : m < 12) (h : ¬ μ.1 5000 28 = 0) : ∃ μ', dl1 (nI (12 + m)) μ = some μ' ∧ FD d [6] μ μ' := by
  unfold dl1
  rw [X_one h, b2s, wr_nI (by omega) (by omega), bs]
  obtain ⟨μ', e, F⟩ := X_dl2 (d := d) hm (X_wI (a := 5015) (k := 12 + m) (v := 0) (by decide) h)
  exact ⟨μ', e, (FD.rf.wI (by rw [zdm6 (by omega) (by omega)]; rfl)).tr F⟩
def YM6 (m : Nat) : Nat → Nat → Bool := fun i p => decide (5014 ≤ i ∧ i ≤ 5017 ∧ p = 12 + m) || decide (i = 5004 ∧ p = 11)
def YC6 (d : Bool) (m : Nat) : Nat → Nat → Bool := fun i p => decide (tv d + 13 ≤ i ∧ i ≤ tv d + 16 ∧ p = m) || decide (i = tv d ∧ p = 11)
theorem YM6_z {i p : Nat} (h : YM6 m i p = true) : [1, 6, 12].elem (zd d i p) = true := by
  unfold YM6 at h
  rcases Bool.or_eq_true_iff.mp h with h | h
  · have := of_decide_eq_true h
    rw [zdm6 (by omega) (by omega)]; rfl
  · have := of_decide_eq_true h
    rw [this.1, this.2]; rfl
theorem YM6_no {i p : Nat} (h1 : ¬ (5014 ≤ i ∧ i ≤ 5017 ∧ p = 12 + m)) (h2 : ¬ (i = 5004 ∧ p = 11)) : YM6 m i p = false := by unfold YM6; rw [decide_eq_false h1, decide_eq_false h2]; rfl
theorem YC6_no {i p : Nat} (h1 : ¬ (tv d + 13 ≤ i ∧ i ≤ tv d + 16 ∧ p = m)) (h2 : ¬ (i = tv d ∧ p = 11)) : YC6 d m i p = false := by unfold YC6; rw [decide_eq_false h1, decide_eq_false h2]; rfl
theorem YM6_r {i : Nat} (h : 5014 ≤ i ∧ i ≤ 5017) : YM6 m i (12 + m) = true := by unfold YM6; rw [decide_eq_true (show 5014 ≤ i ∧ i ≤ 5017 ∧ 12 + m = 12 + m by omega)]; rfl
theorem YM6_c : YM6 m 5004 11 = true := by unfold YM6; rw [decide_eq_true (show (5004 : Nat) = 5004 ∧ 11 = 11 by omega), Bool.or_true]
theorem YC6_r {i : Nat} (h : tv d + 13 ≤ i ∧ i ≤ tv d + 16) : YC6 d m i m = true := by unfold YC6; rw [decide_eq_true (show tv d + 13 ≤ i ∧ i ≤ tv d + 16 ∧ m = m by omega)]; rfl
theorem YC6_c : YC6 d m (tv d) 11 = true := by unfold YC6; rw [decide_eq_true (show tv d = tv d ∧ 11 = 11 by omega), Bool.or_true]
theorem c_addDeed {x1 x2 x3 x4 : Int32} (hm : m < 12) (h : σ.1 (tv d) 11 = nI m) : ∃ σ', f_X8_addDeed d x1 x2 x3 x4 σ = some σ' ∧ FD d [6] σ σ' ∧ GD d (YC6 d m) σ σ' ∧ σ'.1 (tv d) 11 = nI (m + 1) ∧ σ'.1 (tv d + 13) m = x1 ∧ σ'.1 (tv d + 14) m = x2 ∧ σ'.1 (tv d + 15) m = x3 ∧ σ'.1 (tv d + 16) m = x4 := by
  have td := tvd (d := d)
  unfold f_X8_addDeed
  rw [h, if_pos (show nI m < (12 : Int32) from nI_lt (b := 12) hm (by omega)), wr_nI hm (by omega), bs]
  have e1 : (wI σ (tv d + 13) m x1).1 (tv d) 11 = nI m := by rw [wI_at, if_neg (by omega)]; exact h
  rw [e1, wr_nI hm (by omega), bs]
  have e2 : (wI (wI σ (tv d + 13) m x1) (tv d + 14) m x2).1 (tv d) 11 = nI m := by rw [wI_at, if_neg (by omega)]; exact e1
  rw [e2, wr_nI hm (by omega), bs]
  have e3 : (wI (wI (wI σ (tv d + 13) m x1) (tv d + 14) m x2) (tv d + 15) m x3).1 (tv d) 11 = nI m := by rw [wI_at, if_neg (by omega)]; exact e2
  rw [e3, wr_nI hm (by omega), bs]
  have e4 : (wI (wI (wI (wI σ (tv d + 13) m x1) (tv d + 14) m x2) (tv d + 15) m x3) (tv d + 16) m x4).1 (tv d) 11 = nI m := by rw [wI_at, if_neg (by omega)]; exact e3
  rw [e4, lts, nI_1]
  refine ⟨_, rfl, ((((FD.rf.wI (by rw [zc613]; rfl)).wI (by rw [zc614]; rfl)).wI (by rw [zc615]; rfl)).wI (by rw [zc616]; rfl)).wI (by rw [zc61]; rfl), ((((GD.rf.wI (YC6_r (by omega))).wI (YC6_r (by omega))).wI (YC6_r (by omega))).wI (YC6_r (by omega))).wI YC6_c, wI_self _ _ _ _, ?_, ?_, ?_, ?_⟩
  · rw [wI_at, if_neg (by omega), wI_at, if_neg (by omega), wI_at, if_neg (by omega), wI_at, if_neg (by omega), wI_self]
  · rw [wI_at, if_neg (by omega), wI_at, if_neg (by omega), wI_at, if_neg (by omega), wI_self]
  · rw [wI_at, if_neg (by omega), wI_at, if_neg (by omega), wI_self]
  · rw [wI_at, if_neg (by omega), wI_self]
theorem D6.push {mn pt kd hr : Nat} {σ' μ' : zS} (h : D6 d T σ μ) (hm : m = T 4 3) (F : GD d (YC6 d m) σ σ') (G : GD d (YM6 m) μ μ')
    (s0 : σ'.1 (tv d) 11 = nI (m + 1)) (s1 : σ'.1 (tv d + 13) m = nI mn) (s2 : σ'.1 (tv d + 14) m = nI pt) (s3 : σ'.1 (tv d + 15) m = nI kd) (s4 : σ'.1 (tv d + 16) m = nI hr)
    (t0 : μ'.1 5004 11 = nI (m + 1)) (t1 : μ'.1 5014 (12 + m) = nI mn) (t2 : μ'.1 5015 (12 + m) = nI pt) (t3 : μ'.1 5016 (12 + m) = nI kd) (t4 : μ'.1 5017 (12 + m) = nI hr) :
    D6 d (setT (setT (setT (setT (setT T 4 3 (m + 1)) 14 m mn) 15 m pt) 16 m kd) 17 m hr) σ' μ' := by
  obtain ⟨⟨a1, a2⟩, ⟨b1, b2, b3, b4⟩, ⟨c1, c2, c3, c4⟩⟩ := h
  have td := tvd (d := d)
  rw [← hm] at b1 b2 b3 b4 c1 c2 c3 c4
  have gs : ∀ i k, tv d + 13 ≤ i ∧ i ≤ tv d + 16 → k < m → σ'.1 i (0 + k) = σ.1 i (0 + k) := by
    intro i k hi hk
    have e : zd d i (0 + k) = 6 := by
      have e : i = tv d + 13 ∨ i = tv d + 14 ∨ i = tv d + 15 ∨ i = tv d + 16 := by omega
      rcases e with rfl | rfl | rfl | rfl
      · exact zc613
      · exact zc614
      · exact zc615
      · exact zc616
    exact F.z e rfl (YC6_no (by omega) (by omega))
  have gm : ∀ i k, 5014 ≤ i ∧ i ≤ 5017 → k < m → μ'.1 i (12 + k) = μ.1 i (12 + k) := fun i k hi hk => G.z (zdm6 hi (by omega)) rfl (YM6_no (by omega) (by omega))
  refine ⟨⟨s0, t0⟩, ⟨?_, ?_, ?_, ?_⟩, ⟨?_, ?_, ?_, ?_⟩⟩
  · exact b1.push (fun k hk => gs _ k (by omega) hk) (by rw [Nat.zero_add]; exact s1) (fun k => set_row _ 14 m mn k)
  · exact b2.push (fun k hk => gs _ k (by omega) hk) (by rw [Nat.zero_add]; exact s2) (fun k => set_row _ 15 m pt k)
  · exact b3.push (fun k hk => gs _ k (by omega) hk) (by rw [Nat.zero_add]; exact s3) (fun k => set_row _ 16 m kd k)
  · exact b4.push (fun k hk => gs _ k (by omega) hk) (by rw [Nat.zero_add]; exact s4) (fun k => set_row _ 17 m hr k)
  · exact c1.push (fun k hk => gm _ k (by omega) hk) t1 (fun k => set_row _ 14 m mn k)
  · exact c2.push (fun k hk => gm _ k (by omega) hk) t2 (fun k => set_row _ 15 m pt k)
  · exact c3.push (fun k hk => gm _ k (by omega) hk) t3 (fun k => set_row _ 16 m kd k)
  · exact c4.push (fun k hk => gm _ k (by omega) hk) t4 (fun k => set_row _ 17 m hr k)
theorem okA.deed {mn pt kd hr : Nat} (h : okA T tb) (hm : m = T 4 3) (h12 : m < 12) (hmn : mn < T 4 2) (hpt : pt < 4) (hkd : kd < 4) (hhr : hr < 24) :
    okA (setT (setT (setT (setT (setT T 4 3 (m + 1)) 14 m mn) 15 m pt) 16 m kd) 17 m hr) (fun j => tb j || decide (j = 3)) := by
  obtain ⟨⟨a1, a2, a3, a4, a5, a6, a7, a8⟩, b, c', e, g1, g2⟩ := h
  refine ⟨⟨a1, a2, a3, a4, (show m + 1 ≤ 12 by omega), a6, a7, a8⟩, b, c', fun k hk => ?_, ?_, ?_⟩
  · have hk' : k < m + 1 := hk
    have e14 : (setT (setT (setT (setT (setT T 4 3 (m + 1)) 14 m mn) 15 m pt) 16 m kd) 17 m hr) 14 k = if k = m then mn else T 14 k := set_row _ 14 m mn k
    have e15 : (setT (setT (setT (setT (setT T 4 3 (m + 1)) 14 m mn) 15 m pt) 16 m kd) 17 m hr) 15 k = if k = m then pt else T 15 k := set_row _ 15 m pt k
    have e16 : (setT (setT (setT (setT (setT T 4 3 (m + 1)) 14 m mn) 15 m pt) 16 m kd) 17 m hr) 16 k = if k = m then kd else T 16 k := set_row _ 16 m kd k
    have e17 : (setT (setT (setT (setT (setT T 4 3 (m + 1)) 14 m mn) 15 m pt) 16 m kd) 17 m hr) 17 k = if k = m then hr else T 17 k := set_row _ 17 m hr k
    have e42 : (setT (setT (setT (setT (setT T 4 3 (m + 1)) 14 m mn) 15 m pt) 16 m kd) 17 m hr) 4 2 = T 4 2 := rfl
    rw [e14, e15, e16, e17, e42]
    by_cases ek : k = m
    · rw [if_pos ek, if_pos ek, if_pos ek, if_pos ek]
      exact ⟨hmn, hpt, hkd, hhr⟩
    · rw [if_neg ek, if_neg ek, if_neg ek, if_neg ek]
      exact e k (by omega)
  · exact (tb_ne (by omega)).trans g1
  · exact (tb_ne (by omega)).trans g2
theorem j_deed (h : JL d f N r T tb L A B n σ μ) (k1 : ¬ σ.1 500 4 = 0) (k3 : μ.1 5000 26 = 0) (k4 : μ.1 5000 27 = 3) : BD d f N r n (f_X4_readDeed σ) (f_X12_line μ) σ μ := by
  obtain ⟨hJ, hN, hd, hA, h2, h3, h4, h5, h6, h7, h8, h9, h10, h11⟩ := h
  have hl5 := hA.1
  have eM : f_X12_line μ = f_X12_line_47 3 0 μ := by
    unfold f_X12_line
    rw [if_pos k3, k4, if_pos (by decide), lts, if_neg (by decide), if_neg (by decide), if_neg (by decide)]
  rw [eM]
  unfold f_X12_line_47 f_X12_isFull f_X12_isFull_14 f_X12_isFull_28 f_X12_isFull_43 f_X4_readDeed
  rw [if_neg (show ¬ (3 : Int32) = 1 by decide), if_neg (show ¬ (3 : Int32) = 2 by decide), if_pos (show (3 : Int32) = 3 from rfl), m_fr3, bs, if_neg (show ¬ (3 : Int32) = 4 by decide), h6.1.2, hd, h6.1.1]
  by_cases hm5 : T 4 3 < 12
  · rw [if_neg (show ¬ nI (T 4 3) = (12 : Int32) from fun z => by have := (nI_eq (b := 12) (by omega) (by omega)).mp z; omega), bs, if_pos rfl, if_pos rfl, if_pos (show nI (T 4 3) < (12 : Int32) from nI_lt (b := 12) hm5 (by omega))]
    unfold f_X12_line_88
    rw [if_neg (show ¬ (3 : Int32) = 0 by decide)]
    have D2a := h2.told (p := 3) (by omega)
    have Ga : FD d [2] μ (wI μ 5000 21 (nI (setN (fun j => tb j || decide (j = 3)) 19))) := FD.rf.wI rfl
    obtain ⟨σ1, μ1, a1, a2, F1, G1, J1, N1, F1', G1'⟩ := j_begin hJ hN k1 (FD.rf (d := d) (Z := [2])) Ga
    rw [a1, bs, m_108 (w := (3 : Int32)) hN.1 (tb_told (p := 3) (by omega) h2) a2 _ (by rw [if_neg (show ¬ (3 : Int32) = 0 by decide), if_neg (show ¬ (3 : Int32) = 1 by decide), if_neg (show ¬ (3 : Int32) = 2 by decide), if_pos rfl])]
    have h5a := h5.fr F1 G1 rfl rfl
    have h6a := h6.fr F1 G1 rfl rfl
    have hd1 : σ1.2.2 1 = d := by rw [F1.1]; exact hd
    have r1 := h5a.2.1.1
    have r2 := h5a.2.2.1
    have q1 := h5a.1.1
    have q2 := h5a.1.2
    have p1 := h6a.1.1
    have p2 := h6a.1.2
    generalize hm : T 4 3 = m at *
    have hm' : m = T 4 3 := hm.symm
    rw [m_fr3, bs, p2, show (12 : Int32) = nI 12 from rfl, nI_add, dl0, m_fr2, bs, q2]
    rcases j_ahead d J1 N1 (i := tv d + 8) (a := 5009) (n := T 4 2) (g := T 9) (by omega) r1 r2 with ⟨σ2, μ2, cl, b2', F2, G2, X⟩ | ⟨σ2, μ2, X, j, hX, hj, b1, b1i, b1a, b2', F2, G2, J2, N2⟩
    · rw [b2', b2s, wr_nI (by omega) (by omega), bs]
      obtain ⟨μ3, e3, G3⟩ := X_dl1 (d := d) hm5 (X_wI (a := 5014) (k := 12 + m) (v := 0) (by decide) X.1)
      have G3' : FD d [6] μ2 μ3 := (FD.rf.wI (by rw [zdm6 (by omega) (by omega)]; rfl)).tr G3
      rw [e3, bs]
      refine ⟨σ2, μ3, rfl, (F1.fa rfl).tr (F2.fa rfl), ((G1.mono rfl).tr (G2.mono rfl)).tr (G3'.mono rfl), .inl ⟨?_, X.fr G3' rfl⟩⟩
      rcases cl with cl | ⟨Y, hY, c1, c2, c3⟩
      · rw [cl, b2s, if_pos rfl]
      · rw [c1, b2s, if_neg (nI_nm1 (by omega)), hd1]
        unfold f_X8_manNamed
        rw [q1, c2, bs, bs, if_pos rfl, c3, b2s]
    · rw [b2', b2s, wr_nI (by omega) (by omega), bs, b1, b2s, if_neg (nI_nm1 (by omega)), hd1]
      unfold f_X8_manNamed
      rw [q1, b1i, bs, bs, if_neg (nI_nm1 (by omega)), b1a, bs]
      have G2a : FD d [6] μ2 (wI μ2 5014 (12 + m) (nI j)) := FD.rf.wI (by rw [zdm6 (by omega) (by omega)]; rfl)
      have J2a := J2.fr (FD.rf (d := d) (Z := [])) G2a rfl rfl rfl rfl
      have N2a := N2.fr (FD.rf (d := d) (Z := [])) G2a rfl rfl
      unfold dl1
      have GY2 : GD d (YM6 m) μ1 (wI μ2 5014 (12 + m) (nI j)) := (G2.gd rfl).wI (YM6_r (by omega))
      rcases j_one d J2a N2a (a := 14) (n := 4) (by omega) (by omega) (by omega) with ⟨σ4, μ4, b1, b2', F4, G4, X'⟩ | ⟨σ4, μ4, pt, hpt, b1, b2', F4, G4, J4, N4⟩
      · rw [show f_X4_takeChoice 14 4 σ2 = some (-1, σ4) from b1, show f_X12_oneOf 14 17 _ = some (0, μ4) from b2', b2s, b2s, if_pos rfl, wr_nI (by omega) (by omega), bs]
        obtain ⟨μ5, e5, G5⟩ := X_dl2 (d := d) hm5 (X_wI (a := 5015) (k := 12 + m) (v := 0) (by decide) X'.1)
        have G5' : FD d [6] μ4 μ5 := (FD.rf.wI (by rw [zdm6 (by omega) (by omega)]; rfl)).tr G5
        rw [e5, bs]
        refine ⟨σ4, μ5, rfl, ((F1.fa rfl).tr (F2.fa rfl)).tr (F4.fa rfl), ((((G1.mono rfl).tr (G2.mono rfl)).tr (G2a.mono rfl)).tr (G4.mono rfl)).tr (G5'.mono rfl), .inl ⟨?_, X'.fr G5' rfl⟩⟩
        unfold f_X4_readDeed_94 f_X4_readDeed_113
        rw [if_pos rfl, if_pos rfl]
      · rw [show f_X4_takeChoice 14 4 σ2 = some (nI pt, σ4) from b1, show f_X12_oneOf 14 17 _ = some (nI pt, μ4) from b2', b2s, b2s, if_neg (nI_nm1 (by omega)), wr_nI (by omega) (by omega), bs]
        have G4a : FD d [6] μ4 (wI μ4 5015 (12 + m) (nI pt)) := FD.rf.wI (by rw [zdm6 (by omega) (by omega)]; rfl)
        have J4a := J4.fr (FD.rf (d := d) (Z := [])) G4a rfl rfl rfl rfl
        have N4a := N4.fr (FD.rf (d := d) (Z := [])) G4a rfl rfl
        have GY4 : GD d (YM6 m) μ1 (wI μ4 5015 (12 + m) (nI pt)) := (GY2.tr (G4.gd rfl)).wI (YM6_r (by omega))
        unfold dl2
        rcases j_one d J4a N4a (a := 18) (n := 4) (by omega) (by omega) (by omega) with ⟨σ5, μ5, b1, b2', F5, G5, X'⟩ | ⟨σ5, μ5, kd, hkd, b1, b2', F5, G5, J5, N5⟩
        · rw [show f_X4_takeChoice 18 4 σ4 = some (-1, σ5) from b1, show f_X12_oneOf 18 21 _ = some (0, μ5) from b2', b2s, b2s, wr_nI (by omega) (by omega), bs]
          obtain ⟨μ6, e6, G6⟩ := X_dl3 (d := d) hm5 (X_wI (a := 5016) (k := 12 + m) (v := 0) (by decide) X'.1)
          have G6' : FD d [6] μ5 μ6 := (FD.rf.wI (by rw [zdm6 (by omega) (by omega)]; rfl)).tr G6
          rw [e6, bs]
          refine ⟨σ5, μ6, rfl, (((F1.fa rfl).tr (F2.fa rfl)).tr (F4.fa rfl)).tr (F5.fa rfl), ((((((G1.mono rfl).tr (G2.mono rfl)).tr (G2a.mono rfl)).tr (G4.mono rfl)).tr (G4a.mono rfl)).tr (G5.mono rfl)).tr (G6'.mono rfl), .inl ⟨?_, X'.fr G6' rfl⟩⟩
          unfold f_X4_readDeed_94 f_X4_readDeed_113
          rw [if_pos rfl, if_pos rfl]
        · rw [show f_X4_takeChoice 18 4 σ4 = some (nI kd, σ5) from b1, show f_X12_oneOf 18 21 _ = some (nI kd, μ5) from b2', b2s, b2s, wr_nI (by omega) (by omega), bs]
          have G5a : FD d [6] μ5 (wI μ5 5016 (12 + m) (nI kd)) := FD.rf.wI (by rw [zdm6 (by omega) (by omega)]; rfl)
          have J5a := J5.fr (FD.rf (d := d) (Z := [])) G5a rfl rfl rfl rfl
          have N5a := N5.fr (FD.rf (d := d) (Z := [])) G5a rfl rfl
          have GY5 : GD d (YM6 m) μ1 (wI μ5 5016 (12 + m) (nI kd)) := (GY4.tr (G5.gd rfl)).wI (YM6_r (by omega))
          have FF5 : FD d [1] σ1 σ5 := (F2.tr F4).tr F5
          have GG5 : FD d [1, 2, 6] μ (wI μ5 5016 (12 + m) (nI kd)) := (((((G1.mono rfl).tr (G2.mono rfl)).tr (G2a.mono rfl)).tr (G4.mono rfl)).tr (G4a.mono rfl)).tr ((G5.mono rfl).tr (G5a.mono rfl))
          unfold dl3 f_X4_readDeed_94
          rw [if_neg (nI_nm1 (by omega))]
          rcases j_num d J5a N5a (lo := 0) (hi := 23) (by omega) (by omega) with ⟨σ6, μ6, b1, b2', F6, G6, X'⟩ | ⟨σ6, μ6, hr, hhr1, hhr, b1, b2', F6, G6, J6, N6⟩
          · rw [show f_X4_takeNumber 0 23 σ5 = some (-1, σ6) from b1, show f_X12_numeral 0 23 _ = some (nI 0, μ6) from b2', b2s, b2s, wr_nI (by omega) (by omega), bs, m_fr3, bs, m_rd3, bs, bs]
            have G7 : ∀ x : Int32, FD d [6] μ6 (wI (wI μ6 5017 (12 + m) (nI 0)) 5004 11 x) := fun x => (FD.rf.wI (by rw [zdm6 (by omega) (by omega)]; rfl)).wI rfl
            refine ⟨σ6, _, rfl, ((F1.fa rfl).tr (FF5.fa rfl)).tr (F6.fa rfl), ((GG5.mono rfl).tr (G6.mono rfl)).tr ((G7 _).mono rfl), .inl ⟨?_, X'.fr (G7 _) rfl⟩⟩
            unfold f_X4_readDeed_113
            rw [if_pos rfl]
          · rw [show f_X4_takeNumber 0 23 σ5 = some (nI hr, σ6) from b1, show f_X12_numeral 0 23 _ = some (nI hr, μ6) from b2', b2s, b2s, wr_nI (by omega) (by omega), bs, m_fr3, bs]
            have GY6 : GD d (YM6 m) μ1 (wI μ6 5017 (12 + m) (nI hr)) := (GY5.tr (G6.gd rfl)).wI (YM6_r (by omega))
            have e11 : (wI μ6 5017 (12 + m) (nI hr)).1 5004 11 = nI m := by
              rw [wI_at, if_neg (by omega), G6.z (z := 6) rfl rfl, wI_at, if_neg (by omega), G5.z (z := 6) rfl rfl, wI_at, if_neg (by omega), G4.z (z := 6) rfl rfl, wI_at, if_neg (by omega), G2.z (z := 6) rfl rfl]
              exact p2
            rw [e11, nI_1, m_rd3, bs, bs]
            have hd6 : σ6.2.2 1 = d := by rw [F6.1, FF5.1]; exact hd1
            have q6 : σ6.1 (tv d) 11 = nI m := by rw [F6.z zc61 rfl, FF5.z zc61 rfl]; exact p1
            unfold f_X4_readDeed_113
            rw [if_neg (nI_nm1 (by omega)), hd6]
            obtain ⟨σ7, e7, F7e, F7, s0, s1, s2, s3, s4⟩ := c_addDeed (d := d) (x1 := nI j) (x2 := nI pt) (x3 := nI kd) (x4 := nI hr) hm5 q6
            rw [e7, bs]
            have GYf : GD d (YM6 m) μ1 (wI (wI μ6 5017 (12 + m) (nI hr)) 5004 11 (nI (m + 1))) := GY6.wI YM6_c
            have FYf : GD d (YC6 d m) σ1 σ7 := ((FF5.gd rfl).tr (F6.gd rfl)).tr F7
            have G7 : FD d [6] μ6 (wI (wI μ6 5017 (12 + m) (nI hr)) 5004 11 (nI (m + 1))) := (FD.rf.wI (by rw [zdm6 (by omega) (by omega)]; rfl)).wI rfl
            have FS : FD d [1, 6, 12] σ σ7 := (((FD.mono F1' rfl).tr (FF5.mono rfl)).tr (F6.mono rfl)).tr (F7e.mono rfl)
            have GS : FD d [1, 6, 12] (wI μ 5000 21 (nI (setN (fun j => tb j || decide (j = 3)) 19))) (wI (wI μ6 5017 (12 + m) (nI hr)) 5004 11 (nI (m + 1))) := (G1'.mono rfl).tr (GYf.fd rfl (fun i p z => YM6_z z))
            have GG : FD d [1, 2, 6, 12] μ (wI (wI μ6 5017 (12 + m) (nI hr)) 5004 11 (nI (m + 1))) := (Ga.mono rfl).tr (GS.mono rfl)
            have t1 : (wI (wI μ6 5017 (12 + m) (nI hr)) 5004 11 (nI (m + 1))).1 5014 (12 + m) = nI j := by
              rw [wI_at, if_neg (by omega), wI_at, if_neg (by omega), G6.z (zdm6 (by omega) (by omega)) rfl, wI_at, if_neg (by omega), G5.z (zdm6 (by omega) (by omega)) rfl, wI_at, if_neg (by omega), G4.z (zdm6 (by omega) (by omega)) rfl, wI_self]
            have t2 : (wI (wI μ6 5017 (12 + m) (nI hr)) 5004 11 (nI (m + 1))).1 5015 (12 + m) = nI pt := by
              rw [wI_at, if_neg (by omega), wI_at, if_neg (by omega), G6.z (zdm6 (by omega) (by omega)) rfl, wI_at, if_neg (by omega), G5.z (zdm6 (by omega) (by omega)) rfl, wI_self]
            have t3 : (wI (wI μ6 5017 (12 + m) (nI hr)) 5004 11 (nI (m + 1))).1 5016 (12 + m) = nI kd := by
              rw [wI_at, if_neg (by omega), wI_at, if_neg (by omega), G6.z (zdm6 (by omega) (by omega)) rfl, wI_self]
            have t4 : (wI (wI μ6 5017 (12 + m) (nI hr)) 5004 11 (nI (m + 1))).1 5017 (12 + m) = nI hr := by
              rw [wI_at, if_neg (by omega), wI_self]
            exact ⟨σ7, _, rfl, FS.fa rfl, GG.mono rfl, .inr ⟨rfl, _, fun j => tb j || decide (j = 3), L, A, B, J6.fr F7e G7 rfl rfl rfl rfl, N6.fr F7e G7 rfl rfl, by rw [F7e.1]; exact hd6, hA.deed hm' hm5 hj hpt hkd (by omega), D2a.fr FS GS rfl rfl, h3.fr FS GG rfl rfl, h4.fr FS GG rfl rfl, h5.fr FS GG rfl rfl,
              h6a.push hm' FYf GYf s0 s1 s2 s3 s4 (wI_self _ _ _ _) t1 t2 t3 t4, (h7.fr FS GG rfl rfl rfl rfl).told (by omega), h8.fr FS GG rfl rfl, h9.fr FS GG rfl rfl, h10.fr GG rfl, h11.fr GG rfl⟩⟩
  · have e5 : T 4 3 = 12 := by omega
    rw [e5, if_pos (show nI 12 = (12 : Int32) from rfl), if_neg (show ¬ nI 12 < (12 : Int32) by decide)]
    unfold f_X12_isFull_58
    rw [bs, if_neg (show ¬ (1 : Int32) = 0 by decide)]
    exact BD.bad hJ hN (by decide) 3
end
