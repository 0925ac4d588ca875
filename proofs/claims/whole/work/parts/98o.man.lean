/-! The pure part: text. A man's line -/
def mn4 (x1 : Int32) (μ : zS) : Option zS := b2 (f_X12_numeral 0 99 μ) fun v s => (wrI s 5013 10 x1 v).bind fun s => (f_X12_fresher 2 s).bind fun w => (f_X12_reads 2 (w + (1 : Int32)) s).bind fun s => some s
def mn3 (x1 : Int32) (μ : zS) : Option zS := b2 (f_X12_oneOf 12 13 μ) fun v s => (wrI s 5012 10 x1 v).bind fun s => mn4 x1 s
def mn2 (x1 : Int32) (μ : zS) : Option zS := b2 (f_X12_oneOf 8 11 μ) fun v s => (wrI s 5011 10 x1 v).bind fun s => mn3 x1 s
def mn1 (x1 : Int32) (μ : zS) : Option zS := (f_X12_fresher 0 μ).bind fun w => b2 (f_X12_numeral 0 (w - (1 : Int32)) μ) fun v s => (wrI s 5010 10 x1 v).bind fun s => mn2 x1 s
theorem mn0 (x1 : Int32) (μ : zS) : f_X12_manLine x1 μ = (f_X12_fresher 2 μ).bind fun w => b2 (f_X12_fresh 5009 10 5 w μ) fun v s => (wrI s 5009 10 x1 v).bind fun s => mn1 x1 s := rfl
section
variable {d : Bool} {f : Nat → Nat} {N r : Nat} {T : zT} {tb : Nat → Bool} {L : zK} {A B : Nat → Nat} {n : Nat} {σ μ : zS} {m : Nat}
theorem X_wI {a k : Nat} {v : Int32} (ha : a ≠ 5000) (h : ¬ μ.1 5000 28 = 0) : ¬ (wI μ a k v).1 5000 28 = 0 := by rw [wI_at, if_neg (by omega)]; exact h
theorem X_mn4 (hm : m < 5) (h : ¬ μ.1 5000 28 = 0) : ∃ μ', mn4 (nI (5 + m)) μ = some μ' ∧ FD d [5] μ μ' := by
  unfold mn4
  rw [X_num h, b2s, wr_nI (by omega) (by omega), bs, m_fr2, bs, m_rd2, bs]
  exact ⟨_, rfl, (FD.rf.wI (by rw [zdm5 (by omega) (by omega)]; rfl)).wI rfl⟩
theorem X_mn3 (hm : m < 5) (h : ¬ μ.1 5000 28 = 0) : ∃ μ', mn3 (nI (5 + m)) μ = some μ' ∧ FD d [5] μ μ' := by
  unfold mn3
  rw [X_one h, b2s, wr_nI (by omega) (by omega), bs]
  obtain ⟨μ', e, F⟩ := X_mn4 (d := d) hm (X_wI (a := 5012) (k := 5 + m) (v := 0) (by decide) h)
  exact ⟨μ', e, (FD.rf.wI (by rw [zdm5 (by omega) (by omega)]; rfl)).tr F⟩
theorem X_mn2 (hm : m < 5) (h : ¬ μ.1 5000 28 = 0) : ∃ μ', mn2 (nI (5 + m)) μ = some μ' ∧ FD d [5] μ μ' := by
  unfold mn2
  rw [X_one h, b2s, wr_nI (by omega) (by omega), bs]
  obtain ⟨μ', e, F⟩ := X_mn3 (d := d) hm (X_wI (a := 5011) (k := 5 + m) (v := 0) (by decide) h)
  exact ⟨μ', e, (FD.rf.wI (by rw [zdm5 (by omega) (by omega)]; rfl)).tr F⟩
theorem X_mn1 (hm : m < 5) (h : ¬ μ.1 5000 28 = 0) : ∃ μ', mn1 (nI (5 + m)) μ = some μ' ∧ FD d [5] μ μ' := by
  unfold mn1
  rw [m_fr0, bs, X_num h, b2s, wr_nI (by omega) (by omega), bs]
  obtain ⟨μ', e, F⟩ := X_mn2 (d := d) hm (X_wI (a := 5010) (k := 5 + m) (v := 0) (by decide) h)
  exact ⟨μ', e, (FD.rf.wI (by rw [zdm5 (by omega) (by omega)]; rfl)).tr F⟩
def YM5 (m : Nat) : Nat → Nat → Bool := fun i p => decide (5009 ≤ i ∧ i ≤ 5013 ∧ p = 5 + m) || decide (i = 5004 ∧ p = 10)
def YC5 (d : Bool) (m : Nat) : Nat → Nat → Bool := fun i p => decide (tv d + 8 ≤ i ∧ i ≤ tv d + 11 ∧ p = m) || decide (i = tv d ∧ p = 6)
theorem YM5_z {i p : Nat} (h : YM5 m i p = true) : [1, 5, 12].elem (zd d i p) = true := by
  unfold YM5 at h
  rcases Bool.or_eq_true_iff.mp h with h | h
  · have := of_decide_eq_true h
    rw [zdm5 (by omega) (by omega)]; rfl
  · have := of_decide_eq_true h
    rw [this.1, this.2]; rfl
theorem YC5_z {i p : Nat} (h : YC5 d m i p = true) : [1, 5, 12].elem (zd d i p) = true := by
  unfold YC5 at h
  rcases Bool.or_eq_true_iff.mp h with h | h
  · have := of_decide_eq_true h
    have e : i = tv d + 8 ∨ i = tv d + 9 ∨ i = tv d + 10 ∨ i = tv d + 11 := by omega
    rcases e with rfl | rfl | rfl | rfl
    · rw [zc58]; rfl
    · rw [zc59]; rfl
    · rw [zc510]; rfl
    · rw [zc511]; rfl
  · have := of_decide_eq_true h
    rw [this.1, this.2, zc56]; rfl
theorem YM5_no {i p : Nat} (h1 : ¬ (5009 ≤ i ∧ i ≤ 5013 ∧ p = 5 + m)) (h2 : ¬ (i = 5004 ∧ p = 10)) : YM5 m i p = false := by unfold YM5; rw [decide_eq_false h1, decide_eq_false h2]; rfl
theorem YC5_no {i p : Nat} (h1 : ¬ (tv d + 8 ≤ i ∧ i ≤ tv d + 11 ∧ p = m)) (h2 : ¬ (i = tv d ∧ p = 6)) : YC5 d m i p = false := by unfold YC5; rw [decide_eq_false h1, decide_eq_false h2]; rfl
theorem YM5_r {i : Nat} (h : 5009 ≤ i ∧ i ≤ 5013) : YM5 m i (5 + m) = true := by unfold YM5; rw [decide_eq_true (show 5009 ≤ i ∧ i ≤ 5013 ∧ 5 + m = 5 + m by omega)]; rfl
theorem YM5_c : YM5 m 5004 10 = true := by unfold YM5; rw [decide_eq_true (show (5004 : Nat) = 5004 ∧ 10 = 10 by omega), Bool.or_true]
theorem YC5_r {i : Nat} (h : tv d + 8 ≤ i ∧ i ≤ tv d + 11) : YC5 d m i m = true := by unfold YC5; rw [decide_eq_true (show tv d + 8 ≤ i ∧ i ≤ tv d + 11 ∧ m = m by omega)]; rfl
theorem YC5_c : YC5 d m (tv d) 6 = true := by unfold YC5; rw [decide_eq_true (show tv d = tv d ∧ 6 = 6 by omega), Bool.or_true]
/-- the class puts the man down -/
theorem c_addMan {x1 x2 x3 x4 : Int32} (hm : m < 5) (h : σ.1 (tv d) 6 = nI m) : ∃ σ', f_X8_addMan d x1 x2 x3 x4 σ = some σ' ∧ FD d [5] σ σ' ∧ GD d (YC5 d m) σ σ' ∧ σ'.1 (tv d) 6 = nI (m + 1) ∧ σ'.1 (tv d + 8) m = x1 ∧ σ'.1 (tv d + 9) m = x2 ∧ σ'.1 (tv d + 10) m = x3 ∧ σ'.1 (tv d + 11) m = x4 := by
  have td := tvd (d := d)
  unfold f_X8_addMan
  rw [h, if_pos (show nI m < (5 : Int32) from nI_lt (b := 5) hm (by omega)), wr_nI hm (by omega), bs]
  have e1 : (wI σ (tv d + 8) m x1).1 (tv d) 6 = nI m := by rw [wI_at, if_neg (by omega)]; exact h
  rw [e1, wr_nI hm (by omega), bs]
  have e2 : (wI (wI σ (tv d + 8) m x1) (tv d + 9) m x2).1 (tv d) 6 = nI m := by rw [wI_at, if_neg (by omega)]; exact e1
  rw [e2, wr_nI hm (by omega), bs]
  have e3 : (wI (wI (wI σ (tv d + 8) m x1) (tv d + 9) m x2) (tv d + 10) m x3).1 (tv d) 6 = nI m := by rw [wI_at, if_neg (by omega)]; exact e2
  rw [e3, wr_nI hm (by omega), bs]
  have e4 : (wI (wI (wI (wI σ (tv d + 8) m x1) (tv d + 9) m x2) (tv d + 10) m x3) (tv d + 11) m x4).1 (tv d) 6 = nI m := by rw [wI_at, if_neg (by omega)]; exact e3
  rw [e4, lts, nI_1]
  refine ⟨_, rfl, ((((FD.rf.wI (by rw [zc58]; rfl)).wI (by rw [zc59]; rfl)).wI (by rw [zc510]; rfl)).wI (by rw [zc511]; rfl)).wI (by rw [zc56]; rfl), ((((GD.rf.wI (YC5_r (by omega))).wI (YC5_r (by omega))).wI (YC5_r (by omega))).wI (YC5_r (by omega))).wI YC5_c, wI_self _ _ _ _, ?_, ?_, ?_, ?_⟩
  · rw [wI_at, if_neg (by omega), wI_at, if_neg (by omega), wI_at, if_neg (by omega), wI_at, if_neg (by omega), wI_self]
  · rw [wI_at, if_neg (by omega), wI_at, if_neg (by omega), wI_at, if_neg (by omega), wI_self]
  · rw [wI_at, if_neg (by omega), wI_at, if_neg (by omega), wI_self]
  · rw [wI_at, if_neg (by omega), wI_self]
/-- the zone of the men with one man more -/
theorem D5.push {X c fa ht co : Nat} {σ' μ' : zS} (h : D5 d T σ μ) (hm : m = T 4 2) (F : GD d (YC5 d m) σ σ') (G : GD d (YM5 m) μ μ')
    (s0 : σ'.1 (tv d) 6 = nI (m + 1)) (s1 : σ'.1 (tv d + 8) m = nI X) (s2 : σ'.1 (tv d + 9) m = nI (16 * c + 4 * fa)) (s3 : σ'.1 (tv d + 10) m = nI ht) (s4 : σ'.1 (tv d + 11) m = nI co)
    (t0 : μ'.1 5004 10 = nI (m + 1)) (t1 : μ'.1 5009 (5 + m) = nI X) (t2 : μ'.1 5010 (5 + m) = nI c) (t3 : μ'.1 5011 (5 + m) = nI fa) (t4 : μ'.1 5012 (5 + m) = nI ht) (t5 : μ'.1 5013 (5 + m) = nI co) :
    D5 d (setT (setT (setT (setT (setT (setT T 4 2 (m + 1)) 9 m X) 10 m c) 11 m fa) 12 m ht) 13 m co) σ' μ' := by
  obtain ⟨⟨a1, a2⟩, ⟨b1, b2, b3, b4⟩, ⟨c1, c2, c3, c4, c5⟩⟩ := h
  have td := tvd (d := d)
  rw [← hm] at b1 b2 b3 b4 c1 c2 c3 c4 c5
  have gs : ∀ i k, tv d + 8 ≤ i ∧ i ≤ tv d + 11 → k < m → σ'.1 i (0 + k) = σ.1 i (0 + k) := by
    intro i k hi hk
    have e : zd d i (0 + k) = 5 := by
      have e : i = tv d + 8 ∨ i = tv d + 9 ∨ i = tv d + 10 ∨ i = tv d + 11 := by omega
      rcases e with rfl | rfl | rfl | rfl
      · exact zc58
      · exact zc59
      · exact zc510
      · exact zc511
    exact F.z e rfl (YC5_no (by omega) (by omega))
  have gm : ∀ i k, 5009 ≤ i ∧ i ≤ 5013 → k < m → μ'.1 i (5 + k) = μ.1 i (5 + k) := fun i k hi hk => G.z (zdm5 hi (by omega)) rfl (YM5_no (by omega) (by omega))
  refine ⟨⟨s0, t0⟩, ⟨?_, ?_, ?_, ?_⟩, ⟨?_, ?_, ?_, ?_, ?_⟩⟩
  · exact b1.push (fun k hk => gs _ k (by omega) hk) (by rw [Nat.zero_add]; exact s1) (fun k => set_row _ 9 m X k)
  · refine b2.push (v := 16 * c + 4 * fa) (fun k hk => gs _ k (by omega) hk) (by rw [Nat.zero_add]; exact s2) (fun k => ?_)
    have e10 : (setT (setT (setT (setT (setT (setT T 4 2 (m + 1)) 9 m X) 10 m c) 11 m fa) 12 m ht) 13 m co) 10 k = if k = m then c else T 10 k := set_row _ 10 m c k
    have e11 : (setT (setT (setT (setT (setT (setT T 4 2 (m + 1)) 9 m X) 10 m c) 11 m fa) 12 m ht) 13 m co) 11 k = if k = m then fa else T 11 k := set_row _ 11 m fa k
    show 16 * (setT (setT (setT (setT (setT (setT T 4 2 (m + 1)) 9 m X) 10 m c) 11 m fa) 12 m ht) 13 m co) 10 k + 4 * (setT (setT (setT (setT (setT (setT T 4 2 (m + 1)) 9 m X) 10 m c) 11 m fa) 12 m ht) 13 m co) 11 k = _
    rw [e10, e11]
    by_cases e : k = m
    · rw [if_pos e, if_pos e, if_pos e]
    · rw [if_neg e, if_neg e, if_neg e]
  · exact b3.push (fun k hk => gs _ k (by omega) hk) (by rw [Nat.zero_add]; exact s3) (fun k => set_row _ 12 m ht k)
  · exact b4.push (fun k hk => gs _ k (by omega) hk) (by rw [Nat.zero_add]; exact s4) (fun k => set_row _ 13 m co k)
  · exact c1.push (fun k hk => gm _ k (by omega) hk) t1 (fun k => set_row _ 9 m X k)
  · exact c2.push (fun k hk => gm _ k (by omega) hk) t2 (fun k => set_row _ 10 m c k)
  · exact c3.push (fun k hk => gm _ k (by omega) hk) t3 (fun k => set_row _ 11 m fa k)
  · exact c4.push (fun k hk => gm _ k (by omega) hk) t4 (fun k => set_row _ 12 m ht k)
  · exact c5.push (fun k hk => gm _ k (by omega) hk) t5 (fun k => set_row _ 13 m co k)
theorem okA.man {X c fa ht co : Nat} (h : okA T tb) (hm : m = T 4 2) (h5 : m < 5) (hX : X < 2 ^ 30) (hc : c < T 4 0) (hfa : fa < 4) (hht : ht < 2) (hco : co ≤ 99) :
    okA (setT (setT (setT (setT (setT (setT T 4 2 (m + 1)) 9 m X) 10 m c) 11 m fa) 12 m ht) 13 m co) (fun j => tb j || decide (j = 2)) := by
  obtain ⟨⟨a1, a2, a3, a4, a5, a6, a7, a8⟩, b, c', e, g1, g2⟩ := h
  refine ⟨⟨a1, a2, a3, (show m + 1 ≤ 5 by omega), a5, a6, a7, a8⟩, b, fun k hk => ?_, fun k hk => ?_, ?_, ?_⟩
  · have hk' : k < m + 1 := hk
    have e9 : (setT (setT (setT (setT (setT (setT T 4 2 (m + 1)) 9 m X) 10 m c) 11 m fa) 12 m ht) 13 m co) 9 k = if k = m then X else T 9 k := set_row _ 9 m X k
    have e10 : (setT (setT (setT (setT (setT (setT T 4 2 (m + 1)) 9 m X) 10 m c) 11 m fa) 12 m ht) 13 m co) 10 k = if k = m then c else T 10 k := set_row _ 10 m c k
    have e11 : (setT (setT (setT (setT (setT (setT T 4 2 (m + 1)) 9 m X) 10 m c) 11 m fa) 12 m ht) 13 m co) 11 k = if k = m then fa else T 11 k := set_row _ 11 m fa k
    have e12 : (setT (setT (setT (setT (setT (setT T 4 2 (m + 1)) 9 m X) 10 m c) 11 m fa) 12 m ht) 13 m co) 12 k = if k = m then ht else T 12 k := set_row _ 12 m ht k
    have e13 : (setT (setT (setT (setT (setT (setT T 4 2 (m + 1)) 9 m X) 10 m c) 11 m fa) 12 m ht) 13 m co) 13 k = if k = m then co else T 13 k := set_row _ 13 m co k
    rw [e9, e10, e11, e12, e13]
    by_cases ek : k = m
    · rw [if_pos ek, if_pos ek, if_pos ek, if_pos ek, if_pos ek]
      exact ⟨hX, hc, hfa, hht, hco⟩
    · rw [if_neg ek, if_neg ek, if_neg ek, if_neg ek, if_neg ek]
      exact c' k (by omega)
  · have := e k hk
    exact ⟨(show T 14 k < m + 1 by omega), this.2⟩
  · exact (tb_ne (by omega)).trans g1
  · show (tb 2 || decide (2 = 2)) = decide (0 < m + 1)
    rw [tb_eq]; exact (decide_eq_true (by omega)).symm
end
