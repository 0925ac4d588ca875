/-! The pure part: way -/
def upP (n a : Nat) : Nat → Nat → Nat
  | 0, s => s
  | j + 1, s => prv n a (upP n a j s)
theorem upP_s (n a j s : Nat) : upP n a (j + 1) s = prv n a (upP n a j s) := rfl
theorem upP_shift (n a : Nat) : ∀ j s, upP n a j (prv n a s) = upP n a (j + 1) s
  | 0, s => rfl
  | j + 1, s => by rw [upP_s, upP_shift n a j s]; rfl
theorem c_moveTo {b : Bool} {n a sz kk : Nat} {q : Nat → Nat} {σ : zS} (hn : n ≤ 12) (ha : a < 16 * n) (hB : BA n a σ sz q) (hk : kk < 2 ^ 30) : ∀ (j s fu : Nat), s < 16 * n → dst a s = kk + 1 + j → j < fu →
    f_X10_moveTo_10 fu (nI kk) (nI s) (nI (kk + 1 + j)) σ = some (nI (lmv a (upP n a j s)))
  | j, s, 0, hs, hd, hf => by omega
  | 0, s, fu + 1, hs, hd, hf => by
    obtain ⟨l, l1, l2⟩ := hB.2.1 s hs
    have sa : s ≠ a := fun z => by rw [z, dst_self] at hd; omega
    have r := (hB.1.2.2.2.1 l l1).2.2.2
    rw [l2] at r
    unfold f_X10_moveTo_10
    rw [nI_1, if_pos (nI_le (by omega) (by omega)), rd_nI (by omega) (by omega), bs, (r sa).2]; rfl
  | j + 1, s, fu + 1, hs, hd, hf => by
    obtain ⟨l, l1, l2⟩ := hB.2.1 s hs
    have sa : s ≠ a := fun z => by rw [z, dst_self] at hd; omega
    have r := (hB.1.2.2.2.1 l l1).2.2.2
    rw [l2] at r
    have df := (dst_facts (a := a) (s := s) (by omega) (by omega)).2.2.1
    obtain ⟨p1, p2, p3, p4, p5⟩ := prv_is hn ha hs sa
    unfold f_X10_moveTo_10
    rw [nI_1, if_neg (nI_ge (by omega) (by omega)), rd_nI (by omega) (by omega), bs, (r sa).1, show kk + 1 + (j + 1) = (kk + 1 + j) + 1 by omega, pk_m1, c_moveTo (b := b) hn ha hB hk j (prv n a s) fu p2 (by omega) (by omega), upP_shift]
section
variable {n a g : Nat} {G : Nat → Bool}
theorem path1 (hn : n ≤ 12) (ha : a < 16 * n) (hg : g < 16 * n) (hG : G g = true) : ∀ j, j ≤ dst a g → upP n a j g < 16 * n ∧ dst a (upP n a j g) + j = dst a g ∧ 7 ^ j * wrd a (upP n a j g) ≤ wrd a g ∧ mnG G (upP n a j g) (16 * n) ≤ j
  | 0, hj => ⟨hg, rfl, by rw [Nat.pow_zero, Nat.one_mul]; exact Nat.le_refl _, Nat.le_of_eq ((mn_zero hn hg).mpr hG)⟩
  | j + 1, hj => by
    obtain ⟨h1, h2, h3, h4⟩ := path1 hn ha hg hG j (by omega)
    have sa : upP n a j g ≠ a := fun z => by rw [z, dst_self] at h2; omega
    obtain ⟨p1, p2, p3, p4, p5⟩ := prv_is hn ha h1 sa
    have e := mn_edge (G := G) hn p2 lmv_lt p3
    rw [upP_s]
    refine ⟨p2, by omega, ?_, by omega⟩
    have : 7 ^ (j + 1) * wrd a (prv n a (upP n a j g)) ≤ 7 ^ j * wrd a (upP n a j g) := by
      rw [Nat.pow_succ, Nat.mul_assoc]
      exact Nat.mul_le_mul_left _ (by omega)
    omega
theorem path_end (hn : n ≤ 12) (ha : a < 16 * n) (hg : g < 16 * n) (hG : G g = true) : upP n a (dst a g) g = a := by
  obtain ⟨h1, h2, -, -⟩ := path1 hn ha hg hG (dst a g) (Nat.le_refl _)
  exact (dst_facts (a := a) (s := upP n a (dst a g) g) (by omega) (by omega)).2.2.2.mp (by omega)
theorem path2 (hn : n ≤ 12) (ha : a < 16 * n) (hg : g < 16 * n) (hG : G g = true) (hm : mnG G a (16 * n) = dst a g) : ∀ i, i ≤ dst a g → mnG G (upP n a (dst a g - i) g) (16 * n) = dst a g - i
  | 0, hi => by rw [Nat.sub_zero, path_end hn ha hg hG]; exact hm
  | i + 1, hi => by
    have ih := path2 hn ha hg hG hm i (by omega)
    obtain ⟨h1, h2, h3, h4⟩ := path1 hn ha hg hG (dst a g - (i + 1)) (by omega)
    have sa : upP n a (dst a g - (i + 1)) g ≠ a := fun z => by rw [z, dst_self] at h2; omega
    obtain ⟨p1, p2, p3, p4, p5⟩ := prv_is hn ha h1 sa
    have e := mn_edge (G := G) hn p2 lmv_lt p3
    have es : prv n a (upP n a (dst a g - (i + 1)) g) = upP n a (dst a g - i) g := by
      rw [← upP_s, show dst a g - (i + 1) + 1 = dst a g - i by omega]
    rw [es] at e
    omega
theorem reachG (hn : n ≤ 12) (ha : a < 16 * n) : ∀ r t, t < 16 * n → mnG G t (16 * n) = r → r < 1000 → ∃ g', g' < 16 * n ∧ G g' = true ∧ wrd a g' + 1 ≤ 7 ^ r * (wrd a t + 1)
  | 0, t, ht, hr, h1 => ⟨t, ht, (mn_zero hn ht).mp hr, by rw [Nat.pow_zero, Nat.one_mul]; exact Nat.le_refl _⟩
  | r + 1, t, ht, hr, h1 => by
    obtain ⟨v, t', v1, v2, v3, v4⟩ := mn_next (G := G) hn ht (by omega) (by omega)
    obtain ⟨g', g1, g2, g3⟩ := reachG hn ha r t' v3 (by omega) (by omega)
    have e := (edge hn ha ht v1 v2).1
    refine ⟨g', g1, g2, Nat.le_trans g3 ?_⟩
    rw [Nat.pow_succ, Nat.mul_assoc]
    exact Nat.mul_le_mul_left _ (by omega)
/-- no smaller move leads nearer -/
theorem greedy (hn : n ≤ 12) (ha : a < 16 * n) (hg : g < 16 * n) (hG : G g = true) (hleast : ∀ g', g' < 16 * n → G g' = true → wrd a g ≤ wrd a g') {j v t : Nat} (hj : j < dst a g) (hv : v < lmv a (upP n a j g)) (hm : mvd n (upP n a (j + 1) g) v = some t) : mnG G t (16 * n) ≠ j := by
  intro hr
  obtain ⟨h1, h2, h3, h4⟩ := path1 hn ha hg hG j (by omega)
  obtain ⟨k1, k2, k3, k4⟩ := path1 hn ha hg hG (j + 1) (by omega)
  have sa : upP n a j g ≠ a := fun z => by rw [z, dst_self] at h2; omega
  obtain ⟨p1, p2, p3, p4, p5⟩ := prv_is hn ha h1 sa
  have l6 := lmv_lt (a := a) (s := upP n a j g)
  have ht := mvd_lt k1 hm
  have df := (dst_facts (a := a) (s := g) (by omega) (by omega)).2.2.1
  obtain ⟨g', g1, g2, g3⟩ := reachG (G := G) hn ha j t ht hr (by omega)
  have e := (edge hn ha k1 (show v < 6 by omega) hm).1
  rw [← upP_s] at p4
  have le : wrd a t + 1 ≤ wrd a (upP n a j g) := by omega
  have := Nat.mul_le_mul_left (7 ^ j) le
  have := hleast g' g1 g2
  omega
end
theorem m_wayI {T : zT} {G : Nat → Bool} {a g kk : Nat} {σ : zS} (r75 : Int32 → Int32 → Int32 → Int32 → zS → Option (Int32 × zS)) (hT : okT T) (hR : RM T σ) (ha : a < 16 * T 4 0) (hg : g < 16 * T 4 0) (hG : G g = true) (hleast : ∀ g', g' < 16 * T 4 0 → G g' = true → wrd a g ≤ wrd a g') (hst : ∀ x, x < 16 * T 4 0 → σ.1 5049 x = nI (mnG G x (16 * T 4 0))) (hm : mnG G a (16 * T 4 0) = dst a g) {i : Nat} (hi : i < dst a g) : ∀ (j v fu : Nat), v + j = lmv a (upP (T 4 0) a (dst a g - (i + 1)) g) → j < fu →
    f_X12_way_85 r75 fu (nI kk) (nI (upP (T 4 0) a (dst a g - i) g)) (nI v) (nI i) σ = r75 (nI kk) (nI (upP (T 4 0) a (dst a g - (i + 1)) g)) (nI (lmv a (upP (T 4 0) a (dst a g - (i + 1)) g))) (nI (i + 1)) σ
  | j, v, 0, hj, hf => by omega
  | j, v, fu + 1, hj, hf => by
    have o := hT.1
    have n12 : T 4 0 ≤ 12 := by omega
    have df := (dst_facts (a := a) (s := g) (by omega) (by omega)).2.2.1
    obtain ⟨h1, h2, h3, h4⟩ := path1 n12 ha hg hG (dst a g - i) (by omega)
    obtain ⟨k1, k2, k3, k4⟩ := path1 n12 ha hg hG (dst a g - (i + 1)) (by omega)
    have m1 := path2 n12 ha hg hG hm i (by omega)
    have m2 := path2 n12 ha hg hG hm (i + 1) (by omega)
    have l6 := lmv_lt (a := a) (s := upP (T 4 0) a (dst a g - (i + 1)) g)
    have es : prv (T 4 0) a (upP (T 4 0) a (dst a g - (i + 1)) g) = upP (T 4 0) a (dst a g - i) g := by
      rw [← upP_s, show dst a g - (i + 1) + 1 = dst a g - i by omega]
    have sa : upP (T 4 0) a (dst a g - (i + 1)) g ≠ a := fun z => by rw [z, dst_self] at k2; omega
    obtain ⟨p1, p2, p3, p4, p5⟩ := prv_is n12 ha k1 sa
    rw [es] at p3
    unfold f_X12_way_85 f_X12_way_122
    rw [m_moved hT hR h1 (by omega), bs, bs, nI_1, nI_1]
    cases j with
    | zero =>
      have ev : v = lmv a (upP (T 4 0) a (dst a g - (i + 1)) g) := by omega
      rw [ev, p3, if_neg (show ¬ oI (some (upP (T 4 0) a (dst a g - (i + 1)) g)) = -1 from nI_nm1 (by omega)), show oI (some (upP (T 4 0) a (dst a g - (i + 1)) g)) = nI (upP (T 4 0) a (dst a g - (i + 1)) g) from rfl, rd_nI (by omega) (by omega), bs, rd_nI (by omega) (by omega), bs, hst _ k1, hst _ h1, m1, m2, nI_m1lt (by omega) (by omega), if_pos (by rw [show dst a g - i - 1 = dst a g - (i + 1) by omega]), bs]
    | succ j =>
      have ih := m_wayI (kk := kk) r75 hT hR ha hg hG hleast hst hm hi j (v + 1) fu (by omega) (by omega)
      cases em : mvd (T 4 0) (upP (T 4 0) a (dst a g - i) g) v with
      | none => rw [if_pos (show oI none = -1 from rfl)]; exact ih
      | some t =>
        have ht := mvd_lt h1 em
        have em' := em
        rw [show dst a g - i = (dst a g - (i + 1)) + 1 by omega] at em'
        have gr := greedy n12 ha hg hG hleast (j := dst a g - (i + 1)) (by omega) (by omega) em'
        have mt := (mnG_le (G := G) (s := t) (16 * T 4 0)).1
        rw [if_neg (show ¬ oI (some t) = -1 from nI_nm1 (by omega)), show oI (some t) = nI t from rfl, rd_nI (by omega) (by omega), bs, rd_nI (by omega) (by omega), bs, hst _ ht, hst _ h1, m1, nI_m1lt (by omega) (by omega), if_neg (by rw [nI_eq (by omega) (by omega)]; omega)]
        exact ih
theorem m_wayO {T : zT} {G : Nat → Bool} {a g kk : Nat} {σ : zS} (hT : okT T) (hR : RM T σ) (ha : a < 16 * T 4 0) (hg : g < 16 * T 4 0) (hG : G g = true) (hleast : ∀ g', g' < 16 * T 4 0 → G g' = true → wrd a g ≤ wrd a g') (hst : ∀ x, x < 16 * T 4 0 → σ.1 5049 x = nI (mnG G x (16 * T 4 0))) (hm : mnG G a (16 * T 4 0) = dst a g) (hk : kk < dst a g) : ∀ (j i fu v : Nat), i + j = kk + 1 → (i = kk + 1 → v = lmv a (upP (T 4 0) a (dst a g - (kk + 1)) g)) → j < fu →
    f_X12_way_75 fu (nI kk) (nI (upP (T 4 0) a (dst a g - i) g)) (nI v) (nI i) σ = some (nI (lmv a (upP (T 4 0) a (dst a g - (kk + 1)) g)), σ)
  | j, i, 0, v, hj, hv, hf => by omega
  | 0, i, fu + 1, v, hj, hv, hf => by
    have df := (dst_facts (a := a) (s := g) (by have := hT.1; omega) (by have := hT.1; omega)).2.2.1
    unfold f_X12_way_75
    rw [if_pos (nI_lt (by omega) (by omega)), hv (by omega)]
  | j + 1, i, fu + 1, v, hj, hv, hf => by
    have df := (dst_facts (a := a) (s := g) (by have := hT.1; omega) (by have := hT.1; omega)).2.2.1
    unfold f_X12_way_75
    rw [if_neg (nI_nlt (by omega) (by omega))]
    have e := m_wayI (kk := kk) (f_X12_way_75 fu) hT hR ha hg hG hleast hst hm (show i < dst a g by omega) (lmv a (upP (T 4 0) a (dst a g - (i + 1)) g)) 0 FU (by omega) (by have := lmv_lt (a := a) (s := upP (T 4 0) a (dst a g - (i + 1)) g); unfold FU; omega)
    replace e : f_X12_way_85 (f_X12_way_75 fu) FU (nI kk) (nI (upP (T 4 0) a (dst a g - i) g)) 0 (nI i) σ = _ := e
    rw [e]
    exact m_wayO hT hR ha hg hG hleast hst hm hk j (i + 1) fu _ (by omega) (fun z => by rw [show i = kk by omega]) (by omega)
theorem o_way : op_way V := by
  intro x y z w σc σm ⟨b, T, D, mv, h⟩
  have h0 := h.th 0
  have hT := h.oT
  have o := hT.1
  unfold f_X11_way f_X12_way
  rw [lts]
  rcases asked hT h.cc.2.1 h0.cm.2.1 x y z with ⟨e0, hc⟩ | ⟨m, p, k, hm, hp, hk, rfl, rfl, rfl⟩
  · rw [e0, bs, if_pos rfl, hc]
    exact ⟨-1, σc, _, rfl, rfl, h0.v⟩
  · rw [m_asked hT h0.cm.2.1 hm hp hk, bs, if_neg n10, c_man1 hT h.cc.2.1 hm, if_neg n10, (pt1 hp _).1, if_neg n10, (pt1 hk _).2.2.1, if_neg n10]
    by_cases w0 : w < 0
    · rw [if_neg (Int32.not_le.mpr w0), if_neg (Int32.not_le.mpr w0)]
      exact ⟨-1, σc, _, rfl, rfl, h0.v⟩
    · obtain ⟨kk, hkk, rfl⟩ := nI_of w0
      rw [if_pos (Int32.not_lt.mp w0), if_pos (Int32.not_lt.mp w0)]
      have om := h.oD.2.1 m hm
      obtain ⟨σ1, sz, q, e1, f1, b1⟩ := c_near h.cc h.dc h.oD hm hp hk
      obtain ⟨σ2, σ3, e2, e3, f3, g3⟩ := m_steps h0.cm h0.dm h.oD hm hp hk
      have dm3 := DM.mono hT h0.dm f3 rfl
      have fin := h0.q2 (f1.mono rfl) (f3.mono rfl)
      unfold f_X11_way_59 f_X12_way_66
      rw [e1, b2s, e2, bs, e3, bs, rd_nI (by omega) (by omega), bs, (dm3.s0 hm).1, rd_nI (by omega) (by omega), bs, g3 _ om.1, bs]
      rcases near_G (G := fun s => lawB T (-1) m s p k (D 0 0)) (by omega) om.1 b1 with ⟨z1, z2⟩ | ⟨l, z1, z2, z3, z4, z5, z6⟩
      · rw [z1, z2]
        exact ⟨-2, σ1, σ3, rfl, rfl, fin⟩
      · have df := (dst_facts (a := D 1 m) (s := q l) (by omega) (by omega)).2.2.1
        rw [z1, z5, if_neg (show ¬ (1000 : Int32) ≤ nI (dst (D 1 m) (q l)) from nI_ge (b := 1000) (by omega) (by omega))]
        show ∃ r σc1 σm1, (if nI (q l) = -1 then some (-2, σ1) else (rdI σ1 1503 192 (nI (q l))).bind fun v_13 => if nI kk < v_13 then (f_X10_moveTo (nI (q l)) (nI kk) σ1).bind fun v_18 => some (v_18, σ1) else some (-2, σ1)) = some (r, σc1) ∧ _
        rw [if_neg (nI_nm1 (by omega)), rd_nI (by omega) (by omega), bs, (b1.1.2.2.2.1 l z2).2.2.1]
        by_cases hlt : kk < dst (D 1 m) (q l)
        · rw [if_pos (nI_lt hlt (by omega)), if_pos (nI_lt hlt (by omega))]
          have cm := c_moveTo (b := b) (kk := kk) (by omega) om.1 b1 (by omega) (dst (D 1 m) (q l) - (kk + 1)) (q l) FU z3 (by omega) (by unfold FU; omega)
          have cm2 : f_X10_moveTo (nI (q l)) (nI kk) σ1 = some (nI (lmv (D 1 m) (upP (T 4 0) (D 1 m) (dst (D 1 m) (q l) - (kk + 1)) (q l)))) := by
            unfold f_X10_moveTo
            rw [rd_nI (by omega) (by omega), bs, (b1.1.2.2.2.1 l z2).2.2.1]
            rw [show kk + 1 + (dst (D 1 m) (q l) - (kk + 1)) = dst (D 1 m) (q l) by omega] at cm
            exact cm
          have R3 := h0.cm.2.1.mono hT f3 rfl
          have mw := m_wayO (G := fun s => lawB T (-1) m s p k (D 0 0)) hT R3 om.1 z3 z4 z6 g3 z5 hlt (kk + 1) 0 FU 0 (by omega) (fun z => by omega) (by unfold FU; omega)
          rw [Nat.sub_zero, path_end (G := fun s => lawB T (-1) m s p k (D 0 0)) (by omega) om.1 z3 z4] at mw
          replace mw : f_X12_way_75 FU (nI kk) (nI (D 1 m)) 0 0 σ3 = _ := mw
          rw [cm2, bs, mw]
          exact ⟨_, σ1, σ3, rfl, rfl, fin⟩
        · rw [if_neg (nI_nlt (by omega) (by omega)), if_neg (nI_nlt (by omega) (by omega))]
          exact ⟨-2, σ1, σ3, rfl, rfl, fin⟩
