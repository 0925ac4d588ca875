/-! The pure part: text. A land's line of both -/
def ll2 (x3 : Int32) (μ : zS) : Option zS := (rdI μ 5006 10 x3).bind fun v_40 => (f_X12_fresher 0 μ).bind fun v_44 => b2 (f_X12_numeral v_40 (v_44 - (1 : Int32)) μ) fun v_48 σ_47 => (wrI σ_47 5007 10 x3 v_48).bind fun σ_50 => (wrI σ_50 5008 10 x3 0).bind fun σ_53 => (f_X12_fresher 1 σ_53).bind fun v_57 => (f_X12_reads 1 (v_57 + (1 : Int32)) σ_53).bind fun σ_60 => f_X12_line_353 σ_60
def ll1 (x3 : Int32) (μ : zS) : Option zS := (f_X12_fresher 0 μ).bind fun v_31 => b2 (f_X12_numeral 0 (v_31 - (1 : Int32)) μ) fun v_35 σ_34 => (wrI σ_34 5006 10 x3 v_35).bind fun σ_37 => ll2 x3 σ_37
section
variable {d : Bool} {f : Nat → Nat} {N r : Nat} {T : zT} {tb : Nat → Bool} {L : zK} {A B : Nat → Nat} {n : Nat} {σ μ : zS} {m : Nat}
theorem X_ll2 (hm : m < 5) (h : ¬ μ.1 5000 28 = 0) : ∃ μ', ll2 (nI (5 + m)) μ = f_X12_line_353 μ' ∧ FD d [4] μ μ' := by
  unfold ll2
  rw [rd_nI (by omega) (by omega), bs, m_fr0, bs, X_num h, b2s, wr_nI (by omega) (by omega), bs, wr_nI (by omega) (by omega), bs, m_fr1, bs, m_rd1, bs]
  exact ⟨_, rfl, ((FD.rf.wI (by rw [zdm4 (by omega) (by omega)]; rfl)).wI (by rw [zdm4 (by omega) (by omega)]; rfl)).wI rfl⟩
theorem X_ll1 (hm : m < 5) (h : ¬ μ.1 5000 28 = 0) : ∃ μ', ll1 (nI (5 + m)) μ = f_X12_line_353 μ' ∧ FD d [4] μ μ' := by
  unfold ll1
  rw [m_fr0, bs, X_num h, b2s, wr_nI (by omega) (by omega), bs]
  obtain ⟨μ', e, F⟩ := X_ll2 (d := d) hm (X_wI (a := 5006) (k := 5 + m) (v := 0) (by decide) h)
  exact ⟨μ', e, (FD.rf.wI (by rw [zdm4 (by omega) (by omega)]; rfl)).tr F⟩
def YM4 (m : Nat) : Nat → Nat → Bool := fun i p => decide (5005 ≤ i ∧ i ≤ 5008 ∧ p = 5 + m) || decide (i = 5004 ∧ p = 9)
theorem YM4_z {i p : Nat} (h : YM4 m i p = true) : [1, 4, 12].elem (zd d i p) = true := by
  unfold YM4 at h
  rcases Bool.or_eq_true_iff.mp h with h | h
  · have := of_decide_eq_true h
    rw [zdm4 (by omega) (by omega)]; rfl
  · have := of_decide_eq_true h
    rw [this.1, this.2]; rfl
theorem YM4_no {i p : Nat} (h1 : ¬ (5005 ≤ i ∧ i ≤ 5008 ∧ p = 5 + m)) (h2 : ¬ (i = 5004 ∧ p = 9)) : YM4 m i p = false := by unfold YM4; rw [decide_eq_false h1, decide_eq_false h2]; rfl
theorem YM4_r {i : Nat} (h : 5005 ≤ i ∧ i ≤ 5008) : YM4 m i (5 + m) = true := by unfold YM4; rw [decide_eq_true (show 5005 ≤ i ∧ i ≤ 5008 ∧ 5 + m = 5 + m by omega)]; rfl
theorem YM4_c : YM4 m 5004 9 = true := by unfold YM4; rw [decide_eq_true (show (5004 : Nat) = 5004 ∧ 9 = 9 by omega), Bool.or_true]
theorem c_land26 {to : Nat} (ht : to < 12) : ∀ (j c fu : Nat) (σ : zS), c + j = to + 1 → j < fu → σ.1 (tv d) 1 = nI m →
    ∃ σ', f_X8_addLand_26 d fu (nI to) (nI c) σ = some σ' ∧ FD d [4] σ σ' ∧ σ'.1 (tv d) 1 = nI (m + 1) ∧ (∀ k, σ'.1 (tv d + 4) k = if c ≤ k ∧ k ≤ to then nI m else σ.1 (tv d + 4) k) ∧ (∀ i k, i = tv d + 3 ∨ i = tv d + 5 → σ'.1 i k = σ.1 i k)
  | j, c, 0, σ, hj, hf, h => by omega
  | 0, c, fu + 1, σ, hj, hf, h => by
    have td := tvd (d := d)
    unfold f_X8_addLand_26 f_X8_addLand_56
    rw [if_pos (nI_lt (show to < c by omega) (by omega)), lts, h, nI_1]
    refine ⟨_, rfl, FD.rf.wI (by rw [zc41]; rfl), wI_self _ _ _ _, fun k => ?_, fun i k hi => ?_⟩
    · rw [if_neg (by omega), wI_at, if_neg (by omega)]
    · rw [wI_at, if_neg (by omega)]
  | j + 1, c, fu + 1, σ, hj, hf, h => by
    have td := tvd (d := d)
    unfold f_X8_addLand_26
    rw [if_neg (nI_nlt (show c ≤ to by omega) (by omega)), if_neg (show ¬ (12 : Int32) ≤ nI c from nI_ge (b := 12) (by omega) (by omega)), wr_nI (by omega) (by omega), bs, nI_1, h]
    obtain ⟨σ', e, F, q1, q2, q3⟩ := c_land26 ht j (c + 1) fu (wI σ (tv d + 4) c (nI m)) (by omega) (by omega) (by rw [wI_at, if_neg (by omega)]; exact h)
    refine ⟨σ', e, (FD.rf.wI (by rw [zc44]; rfl)).tr F, q1, fun k => ?_, fun i k hi => ?_⟩
    · rw [q2 k, wI_at]
      by_cases ek : k = c
      · rw [if_neg (by omega), if_pos ⟨rfl, ek⟩, if_pos (by omega)]
      · by_cases e2 : c + 1 ≤ k ∧ k ≤ to
        · rw [if_pos e2, if_pos (by omega)]
        · rw [if_neg e2, if_neg (by omega), if_neg (by omega)]
    · rw [q3 i k hi, wI_at, if_neg (by omega)]
theorem c_addLand {X fr to : Nat} (ht : to < 12) (hft : fr ≤ to) (hm : m < 5) (h : σ.1 (tv d) 1 = nI m) :
    ∃ σ', f_X8_addLand d (nI X) (nI fr) (nI to) σ = some σ' ∧ FD d [4] σ σ' ∧ σ'.1 (tv d) 1 = nI (m + 1) ∧ σ'.1 (tv d + 3) m = nI X ∧ (∀ k, k ≠ m → σ'.1 (tv d + 3) k = σ.1 (tv d + 3) k) ∧ (∀ k, σ'.1 (tv d + 5) k = σ.1 (tv d + 5) k) ∧ (∀ k, σ'.1 (tv d + 4) k = if fr ≤ k ∧ k ≤ to then nI m else σ.1 (tv d + 4) k) := by
  have td := tvd (d := d)
  have emax : ∀ s : zS, f_J9_max_7cf53 (nI fr) 0 s = nI fr := by
    intro s
    unfold f_J9_max_7cf53
    by_cases z : nI fr < 0
    · exact absurd z (nI_pos (by omega))
    · first
        | rw [if_neg z]
        | rw [if_pos (nI_pos' (n := fr) (by omega))]
  unfold f_X8_addLand
  rw [h, if_pos (show nI m < (5 : Int32) from nI_lt (b := 5) hm (by omega)), wr_nI hm (by omega), bs, lts, emax]
  obtain ⟨σ', e, F, q1, q2, q3⟩ := c_land26 (d := d) (m := m) ht (to + 1 - fr) fr FU (wI σ (tv d + 3) m (nI X)) (by omega) (by unfold FU; omega) (by rw [wI_at, if_neg (by omega)]; exact h)
  refine ⟨σ', e, (FD.rf.wI (by rw [zc43]; rfl)).tr F, q1, ?_, fun k hk => ?_, fun k => ?_, fun k => ?_⟩
  · rw [q3 _ _ (.inl rfl), wI_self]
  · rw [q3 _ _ (.inl rfl), wI_at, if_neg (by omega)]
  · rw [q3 _ _ (.inr rfl), wI_at, if_neg (by omega)]
  · have e' : (wI σ (tv d + 3) m (nI X)).1 (tv d + 4) k = σ.1 (tv d + 4) k := by rw [wI_at, if_neg (by omega)]
    rw [q2 k, e']
theorem D4.push {X fr to : Nat} {σ' μ' : zS} (h : D4 d T σ μ) (hm : m = T 4 1) (G : GD d (YM4 m) μ μ')
    (s0 : σ'.1 (tv d) 1 = nI (m + 1)) (s1 : σ'.1 (tv d + 3) m = nI X) (s2 : ∀ k, k ≠ m → σ'.1 (tv d + 3) k = σ.1 (tv d + 3) k) (s3 : ∀ k, σ'.1 (tv d + 5) k = σ.1 (tv d + 5) k) (s4 : ∀ k, σ'.1 (tv d + 4) k = if fr ≤ k ∧ k ≤ to then nI m else σ.1 (tv d + 4) k)
    (t0 : μ'.1 5004 9 = nI (m + 1)) (t1 : μ'.1 5005 (5 + m) = nI X) (t2 : μ'.1 5006 (5 + m) = nI fr) (t3 : μ'.1 5007 (5 + m) = nI to) (t4 : μ'.1 5008 (5 + m) = 0) :
    D4 d (setT (setT (setT (setT T 4 1 (m + 1)) 5 m X) 6 m fr) 7 m to) σ' μ' := by
  obtain ⟨⟨a1, a2⟩, ⟨b1, b2, b3⟩, ⟨c1, c2, c3, c4⟩, e8⟩ := h
  rw [← hm] at b1 c1 c2 c3 c4
  have gm : ∀ i k, 5005 ≤ i ∧ i ≤ 5008 → k < m → μ'.1 i (5 + k) = μ.1 i (5 + k) := fun i k hi hk => G.z (zdm4 hi (by omega)) rfl (YM4_no (by omega) (by omega))
  refine ⟨⟨s0, t0⟩, ⟨?_, ?_, ?_⟩, ⟨?_, ?_, ?_, ?_⟩, fun k hk => ?_⟩
  · exact b1.push (fun k hk => by rw [Nat.zero_add]; exact s2 k (by omega)) (by rw [Nat.zero_add]; exact s1) (fun k => set_row _ 5 m X k)
  · intro k hk
    rw [Nat.zero_add, s3 k]
    have := b2 k hk
    rw [Nat.zero_add] at this; exact this
  · intro c hc
    have := b3 c hc
    rw [Nat.zero_add] at this ⊢
    rw [s4 c]
    have e6 : ∀ k, (setT (setT (setT (setT T 4 1 (m + 1)) 5 m X) 6 m fr) 7 m to) 6 k = if k = m then fr else T 6 k := fun k => set_row _ 6 m fr k
    have e7 : ∀ k, (setT (setT (setT (setT T 4 1 (m + 1)) 5 m X) 6 m fr) 7 m to) 7 k = if k = m then to else T 7 k := fun k => set_row _ 7 m to k
    show _ = nI (landS ((setT (setT (setT (setT T 4 1 (m + 1)) 5 m X) 6 m fr) 7 m to) 6) ((setT (setT (setT (setT T 4 1 (m + 1)) 5 m X) 6 m fr) 7 m to) 7) c (m + 1))
    unfold landS
    rw [e6 m, e7 m, if_pos rfl, if_pos rfl]
    by_cases z : fr ≤ c ∧ c ≤ to
    · rw [if_pos z, if_pos z]
    · rw [if_neg z, if_neg z, this, ← hm, landS_cong (g := T 6) (h := T 7) (fun k hk => ⟨by rw [e6 k, if_neg (by omega)], by rw [e7 k, if_neg (by omega)]⟩)]
  · exact c1.push (fun k hk => gm _ k (by omega) hk) t1 (fun k => set_row _ 5 m X k)
  · exact c2.push (fun k hk => gm _ k (by omega) hk) t2 (fun k => set_row _ 6 m fr k)
  · exact c3.push (fun k hk => gm _ k (by omega) hk) t3 (fun k => set_row _ 7 m to k)
  · refine c4.push (v := 0) (fun k hk => gm _ k (by omega) hk) t4 (fun k => ?_)
    show T 8 k = _
    by_cases z : k = m
    · rw [if_pos z]; exact e8 k (by omega)
    · rw [if_neg z]
  · have hk' : m + 1 ≤ k := hk
    exact e8 k (by omega)
theorem okA.land {X fr to : Nat} (h : okA T tb) (hm : m = T 4 1) (h5 : m < 5) (hX : X < 2 ^ 30) (hft : fr ≤ to) (hto : to < T 4 0) (h8 : T 8 m = 0) :
    okA (setT (setT (setT (setT T 4 1 (m + 1)) 5 m X) 6 m fr) 7 m to) (fun j => tb j || decide (j = 1)) := by
  obtain ⟨⟨a1, a2, a3, a4, a5, a6, a7, a8⟩, b, c', e, g1, g2⟩ := h
  refine ⟨⟨a1, a2, (show m + 1 ≤ 5 by omega), a4, a5, a6, a7, a8⟩, fun k hk => ?_, c', e, ?_, ?_⟩
  · have hk' : k < m + 1 := hk
    have e5 : (setT (setT (setT (setT T 4 1 (m + 1)) 5 m X) 6 m fr) 7 m to) 5 k = if k = m then X else T 5 k := set_row _ 5 m X k
    have e6 : (setT (setT (setT (setT T 4 1 (m + 1)) 5 m X) 6 m fr) 7 m to) 6 k = if k = m then fr else T 6 k := set_row _ 6 m fr k
    have e7 : (setT (setT (setT (setT T 4 1 (m + 1)) 5 m X) 6 m fr) 7 m to) 7 k = if k = m then to else T 7 k := set_row _ 7 m to k
    have e8 : (setT (setT (setT (setT T 4 1 (m + 1)) 5 m X) 6 m fr) 7 m to) 8 k = T 8 k := rfl
    have e40 : (setT (setT (setT (setT T 4 1 (m + 1)) 5 m X) 6 m fr) 7 m to) 4 0 = T 4 0 := rfl
    rw [e5, e6, e7, e8, e40]
    by_cases ek : k = m
    · rw [if_pos ek, if_pos ek, if_pos ek]
      exact ⟨hX, hft, hto, by rw [ek, h8]; omega⟩
    · rw [if_neg ek, if_neg ek, if_neg ek]
      exact b k (by omega)
  · show (tb 1 || decide (1 = 1)) = decide (0 < m + 1)
    rw [tb_eq]; exact (decide_eq_true (by omega)).symm
  · exact (tb_ne (by omega)).trans g2
theorem j_land (h : JL d f N r T tb L A B n σ μ) (k1 : ¬ σ.1 500 4 = 0) (k3 : μ.1 5000 26 = 0) (k4 : μ.1 5000 27 = 1) : BD d f N r n (f_X4_readLand σ) (f_X12_line μ) σ μ := by
  obtain ⟨hJ, hN, hd, hA, h2, h3, h4, h5, h6, h7, h8, h9, h10, h11⟩ := h
  have hl5 := hA.1
  have eM : f_X12_line μ = f_X12_line_47 1 0 μ := by
    unfold f_X12_line
    rw [if_pos k3, k4, if_pos (by decide), lts, if_neg (by decide), if_neg (by decide), if_neg (by decide)]
  rw [eM]
  unfold f_X12_line_47 f_X12_isFull f_X12_isFull_14 f_X12_isFull_28 f_X12_isFull_43 f_X4_readLand
  rw [if_pos (show (1 : Int32) = 1 from rfl), m_fr1, bs, if_neg (show ¬ (1 : Int32) = 2 by decide), if_neg (show ¬ (1 : Int32) = 3 by decide), if_neg (show ¬ (1 : Int32) = 4 by decide), h4.1.2, hd, h4.1.1]
  by_cases hm5 : T 4 1 < 5
  · rw [if_neg (show ¬ nI (T 4 1) = (5 : Int32) from fun z => by have := (nI_eq (b := 5) (by omega) (by omega)).mp z; omega), bs, if_pos rfl, if_pos rfl, if_pos (show nI (T 4 1) < (5 : Int32) from nI_lt (b := 5) hm5 (by omega))]
    unfold f_X12_line_88
    rw [if_neg (show ¬ (1 : Int32) = 0 by decide)]
    have D2a := h2.told (p := 1) (by omega)
    have Ga : FD d [2] μ (wI μ 5000 21 (nI (setN (fun j => tb j || decide (j = 1)) 19))) := FD.rf.wI rfl
    obtain ⟨σ1, μ1, a1, a2, F1, G1, J1, N1, F1', G1'⟩ := j_begin hJ hN k1 (FD.rf (d := d) (Z := [2])) Ga
    rw [a1, bs, m_108 (w := (1 : Int32)) hN.1 (tb_told (p := 1) (by omega) h2) a2 _ (by rw [if_neg (show ¬ (1 : Int32) = 0 by decide), if_pos rfl])]
    have h4a := h4.fr F1 G1 rfl rfl
    have h3a := h3.fr F1 G1 rfl rfl
    have hd1 : σ1.2.2 1 = d := by rw [F1.1]; exact hd
    have e8 := h4.2.2.2 (T 4 1) (Nat.le_refl _)
    generalize hm : T 4 1 = m at *
    have hm' : m = T 4 1 := hm.symm
    have r1 := h4a.2.1.1
    have r2 := h4a.2.2.1.1
    have q1 := h4a.1.1
    have q2 := h4a.1.2
    rw [hm] at r1 r2 q1 q2
    rw [m_fr1, bs, lts, bs, q2, show (5 : Int32) + nI m = nI (5 + m) from nI_add 5 m]
    show BD d f N r n _ (b2 (f_X12_fresh 5005 10 5 (nI m) μ1) fun v_25 σ_24 => (wrI σ_24 5005 10 (nI (5 + m)) v_25).bind fun σ_27 => ll1 (nI (5 + m)) σ_27) σ μ
    rcases j_fresh d J1 N1 (i := tv d + 3) (a := 5005) (n := m) (g := T 5) (by omega) r1 r2 with ⟨σ2, μ2, cl, b2', F2, G2, X⟩ | ⟨σ2, μ2, X, hX, b1, b1i, b1a, b2', F2, G2, J2, N2⟩
    · rw [b2', b2s, wr_nI (by omega) (by omega), bs]
      obtain ⟨μ3, e3, G3⟩ := X_ll1 (d := d) hm5 (X_wI (a := 5005) (k := 5 + m) (v := 0) (by decide) X.1)
      have G3' : FD d [4] μ2 μ3 := (FD.rf.wI (by rw [zdm4 (by omega) (by omega)]; rfl)).tr G3
      rw [e3]
      refine ⟨σ2, μ3, rfl, (F1.fa rfl).tr (F2.fa rfl), ((G1.mono rfl).tr (G2.mono rfl)).tr (G3'.mono rfl), .inl ⟨?_, X.fr G3' rfl⟩⟩
      rcases cl with cl | ⟨Y, hY, c1, ⟨j, hj, c2⟩, c3⟩
      · rw [cl, b2s, if_pos rfl]
      · rw [c1, b2s, if_neg (nI_nm1 (by omega)), hd1]
        unfold f_X8_landNamed
        rw [q1, c2, bs, bs, if_neg (nI_nm1 (by omega)), c3, b2s]
    · rw [b2', b2s, wr_nI (by omega) (by omega), bs, b1, b2s, if_neg (nI_nm1 (by omega)), hd1]
      unfold f_X8_landNamed
      rw [q1, b1i, bs, bs, if_pos rfl, b1a, bs]
      have hd2 : σ2.2.2 1 = d := by rw [F2.1]; exact hd1
      have G2a : FD d [4] μ2 (wI μ2 5005 (5 + m) (nI X)) := FD.rf.wI (by rw [zdm4 (by omega) (by omega)]; rfl)
      have J2a := J2.fr (FD.rf (d := d) (Z := [])) G2a rfl rfl rfl rfl
      have N2a := N2.fr (FD.rf (d := d) (Z := [])) G2a rfl rfl
      have h3b := (h3a.fr F2 G2 rfl rfl).fr (FD.rf (d := d) (Z := [])) G2a rfl rfl
      unfold ll1
      rw [hd2, h3b.1, m_fr0, bs, h3b.2, nI_m1lt (by omega) (by omega)]
      have GY2 : GD d (YM4 m) μ1 (wI μ2 5005 (5 + m) (nI X)) := (G2.gd rfl).wI (YM4_r (by omega))
      rcases j_num d J2a N2a (lo := 0) (hi := T 4 0 - 1) (by omega) (by omega) with ⟨σ3, μ3, b1, b2', F3, G3, X'⟩ | ⟨σ3, μ3, fr, hc1, hc2, b1, b2', F3, G3, J3, N3⟩
      · rw [show f_X4_takeNumber 0 (nI (T 4 0 - 1)) σ2 = some (-1, σ3) from b1, show f_X12_numeral 0 (nI (T 4 0 - 1)) _ = some (nI 0, μ3) from b2', b2s, b2s, if_pos rfl, wr_nI (by omega) (by omega), bs]
        obtain ⟨μ4, e4, G4⟩ := X_ll2 (d := d) hm5 (X_wI (a := 5006) (k := 5 + m) (v := nI 0) (by decide) X'.1)
        have G4' : FD d [4] μ3 μ4 := (FD.rf.wI (by rw [zdm4 (by omega) (by omega)]; rfl)).tr G4
        rw [e4]
        refine ⟨σ3, μ4, rfl, ((F1.fa rfl).tr (F2.fa rfl)).tr (F3.fa rfl), ((((G1.mono rfl).tr (G2.mono rfl)).tr (G2a.mono rfl)).tr (G3.mono rfl)).tr (G4'.mono rfl), .inl ⟨?_, X'.fr G4' rfl⟩⟩
        unfold f_X4_readLand_105
        rw [if_pos rfl]
      · rw [show f_X4_takeNumber 0 (nI (T 4 0 - 1)) σ2 = some (nI fr, σ3) from b1, show f_X12_numeral 0 (nI (T 4 0 - 1)) _ = some (nI fr, μ3) from b2', b2s, b2s, if_neg (nI_nm1 (by omega)), wr_nI (by omega) (by omega), bs]
        have G3a : FD d [4] μ3 (wI μ3 5006 (5 + m) (nI fr)) := FD.rf.wI (by rw [zdm4 (by omega) (by omega)]; rfl)
        have J3a := J3.fr (FD.rf (d := d) (Z := [])) G3a rfl rfl rfl rfl
        have N3a := N3.fr (FD.rf (d := d) (Z := [])) G3a rfl rfl
        have h3c := (h3b.fr F3 G3 rfl rfl).fr (FD.rf (d := d) (Z := [])) G3a rfl rfl
        have GY3 : GD d (YM4 m) μ1 (wI μ3 5006 (5 + m) (nI fr)) := (GY2.tr (G3.gd rfl)).wI (YM4_r (by omega))
        have hd3 : σ3.2.2 1 = d := by rw [F3.1]; exact hd2
        unfold ll2
        rw [rd_nI (by omega) (by omega), bs, wI_self, m_fr0, bs, h3c.2, hd3, h3c.1, nI_m1lt (by omega) (by omega)]
        rcases j_num d J3a N3a (lo := fr) (hi := T 4 0 - 1) (by omega) (by omega) with ⟨σ4, μ4, b1, b2', F4, G4, X'⟩ | ⟨σ4, μ4, to, ht1, ht2, b1, b2', F4, G4, J4, N4⟩
        · rw [b1, b2', b2s, b2s, wr_nI (by omega) (by omega), bs, wr_nI (by omega) (by omega), bs, m_fr1, bs, m_rd1, bs]
          have G5 : ∀ x : Int32, FD d [4] μ4 (wI (wI (wI μ4 5007 (5 + m) (nI fr)) 5008 (5 + m) 0) 5004 9 x) := fun x => ((FD.rf.wI (by rw [zdm4 (by omega) (by omega)]; rfl)).wI (by rw [zdm4 (by omega) (by omega)]; rfl)).wI rfl
          refine ⟨σ4, _, rfl, (((F1.fa rfl).tr (F2.fa rfl)).tr (F3.fa rfl)).tr (F4.fa rfl), ((((((G1.mono rfl).tr (G2.mono rfl)).tr (G2a.mono rfl)).tr (G3.mono rfl)).tr (G3a.mono rfl)).tr (G4.mono rfl)).tr ((G5 _).mono rfl), .inl ⟨?_, X'.fr (G5 _) rfl⟩⟩
          unfold f_X4_readLand_105
          rw [if_pos rfl]
        · rw [b1, b2', b2s, b2s, wr_nI (by omega) (by omega), bs, wr_nI (by omega) (by omega), bs, m_fr1, bs]
          have FF4 : FD d [1] σ1 σ4 := (F2.tr F3).tr F4
          have GY4 : GD d (YM4 m) μ1 (wI (wI μ4 5007 (5 + m) (nI to)) 5008 (5 + m) 0) := ((GY3.tr (G4.gd rfl)).wI (YM4_r (by omega))).wI (YM4_r (by omega))
          have e9 : (wI (wI μ4 5007 (5 + m) (nI to)) 5008 (5 + m) 0).1 5004 9 = nI m := by
            rw [wI_at, if_neg (by omega), wI_at, if_neg (by omega), G4.z (z := 4) rfl rfl, wI_at, if_neg (by omega), G3.z (z := 4) rfl rfl, wI_at, if_neg (by omega), G2.z (z := 4) rfl rfl]
            exact q2
          rw [e9, nI_1, m_rd1, bs]
          have hd4 : σ4.2.2 1 = d := by rw [FF4.1]; exact hd1
          have q4 : σ4.1 (tv d) 1 = nI m := by rw [FF4.z zc41 rfl]; exact q1
          unfold f_X4_readLand_105
          rw [if_neg (nI_nm1 (by omega)), hd4]
          obtain ⟨σ5, e5, F5, s0, s1, s2, s3, s4⟩ := c_addLand (d := d) (X := X) (fr := fr) (to := to) (by omega) ht1 hm5 q4
          rw [e5, bs]
          have GYf : GD d (YM4 m) μ1 (wI (wI (wI μ4 5007 (5 + m) (nI to)) 5008 (5 + m) 0) 5004 9 (nI (m + 1))) := GY4.wI YM4_c
          have G5 : FD d [4] μ4 (wI (wI (wI μ4 5007 (5 + m) (nI to)) 5008 (5 + m) 0) 5004 9 (nI (m + 1))) := ((FD.rf.wI (by rw [zdm4 (by omega) (by omega)]; rfl)).wI (by rw [zdm4 (by omega) (by omega)]; rfl)).wI rfl
          have FS : FD d [1, 4, 12] σ σ5 := ((FD.mono F1' rfl).tr (FF4.mono rfl)).tr (F5.mono rfl)
          have GS : FD d [1, 4, 12] (wI μ 5000 21 (nI (setN (fun j => tb j || decide (j = 1)) 19))) (wI (wI (wI μ4 5007 (5 + m) (nI to)) 5008 (5 + m) 0) 5004 9 (nI (m + 1))) := (G1'.mono rfl).tr (GYf.fd rfl (fun i p z => YM4_z z))
          have GG : FD d [1, 2, 4, 12] μ (wI (wI (wI μ4 5007 (5 + m) (nI to)) 5008 (5 + m) 0) 5004 9 (nI (m + 1))) := (Ga.mono rfl).tr (GS.mono rfl)
          have t1 : (wI (wI (wI μ4 5007 (5 + m) (nI to)) 5008 (5 + m) 0) 5004 9 (nI (m + 1))).1 5005 (5 + m) = nI X := by
            rw [wI_at, if_neg (by omega), wI_at, if_neg (by omega), wI_at, if_neg (by omega), G4.z (zdm4 (by omega) (by omega)) rfl, wI_at, if_neg (by omega), G3.z (zdm4 (by omega) (by omega)) rfl, wI_self]
          have t2 : (wI (wI (wI μ4 5007 (5 + m) (nI to)) 5008 (5 + m) 0) 5004 9 (nI (m + 1))).1 5006 (5 + m) = nI fr := by
            rw [wI_at, if_neg (by omega), wI_at, if_neg (by omega), wI_at, if_neg (by omega), G4.z (zdm4 (by omega) (by omega)) rfl, wI_self]
          have t3 : (wI (wI (wI μ4 5007 (5 + m) (nI to)) 5008 (5 + m) 0) 5004 9 (nI (m + 1))).1 5007 (5 + m) = nI to := by
            rw [wI_at, if_neg (by omega), wI_at, if_neg (by omega), wI_self]
          have t4 : (wI (wI (wI μ4 5007 (5 + m) (nI to)) 5008 (5 + m) 0) 5004 9 (nI (m + 1))).1 5008 (5 + m) = 0 := by
            rw [wI_at, if_neg (by omega), wI_self]
          have s2' : ∀ k, k ≠ m → σ5.1 (tv d + 3) k = σ1.1 (tv d + 3) k := fun k hk => (s2 k hk).trans (FF4.z zc43 rfl)
          have s3' : ∀ k, σ5.1 (tv d + 5) k = σ1.1 (tv d + 5) k := fun k => (s3 k).trans (FF4.z zc45 rfl)
          have s4' : ∀ k, σ5.1 (tv d + 4) k = if fr ≤ k ∧ k ≤ to then nI m else σ1.1 (tv d + 4) k := fun k => by rw [s4 k, FF4.z zc44 rfl]
          exact ⟨σ5, _, rfl, FS.fa rfl, GG.mono rfl, .inr ⟨rfl, _, fun j => tb j || decide (j = 1), L, A, B, J4.fr F5 G5 rfl rfl rfl rfl, N4.fr F5 G5 rfl rfl, by rw [F5.1]; exact hd4, hA.land hm' hm5 hX ht1 (by omega) e8, D2a.fr FS GS rfl rfl, h3.fr FS GG rfl rfl,
            h4a.push hm' GYf s0 s1 s2' s3' s4' (wI_self _ _ _ _) t1 t2 t3 t4, h5.fr FS GG rfl rfl, h6.fr FS GG rfl rfl, (h7.fr FS GG rfl rfl rfl rfl).told (by omega), h8.fr FS GG rfl rfl, h9.fr FS GG rfl rfl, h10.fr GG rfl, h11.fr GG rfl⟩⟩
  · have e5 : T 4 1 = 5 := by omega
    rw [e5, if_pos (show nI 5 = (5 : Int32) from rfl), if_neg (show ¬ nI 5 < (5 : Int32) by decide)]
    unfold f_X12_isFull_58
    rw [bs, if_neg (show ¬ (1 : Int32) = 0 by decide)]
    exact BD.bad hJ hN (by decide) 1
end
