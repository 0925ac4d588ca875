/-! The pure part: the reference's steps -/
def mnG (G : Nat → Bool) (s : Nat) : Nat → Nat
  | 0 => 1000
  | k + 1 => if G k = true ∧ dst k s < mnG G s k then dst k s else mnG G s k
theorem mnG_s (G : Nat → Bool) (s k : Nat) : mnG G s (k + 1) = if G k = true ∧ dst k s < mnG G s k then dst k s else mnG G s k := rfl
theorem mnG_le {G : Nat → Bool} {s : Nat} : ∀ k, mnG G s k ≤ 1000 ∧ (∀ g, g < k → G g = true → mnG G s k ≤ dst g s) ∧ (mnG G s k = 1000 ∨ ∃ g, g < k ∧ G g = true ∧ mnG G s k = dst g s)
  | 0 => ⟨Nat.le_refl _, fun g hg => by omega, .inl rfl⟩
  | k + 1 => by
    obtain ⟨h1, h2, h3⟩ := mnG_le (G := G) (s := s) k
    rw [mnG_s]
    by_cases h : G k = true ∧ dst k s < mnG G s k
    · rw [if_pos h]
      refine ⟨by omega, fun g hg hG => ?_, .inr ⟨k, by omega, h.1, rfl⟩⟩
      by_cases e : g = k
      · rw [e]; exact Nat.le_refl _
      · have := h2 g (by omega) hG; omega
    · rw [if_neg h]
      refine ⟨h1, fun g hg hG => ?_, ?_⟩
      · by_cases e : g = k
        · subst e
          rcases Nat.lt_or_ge (dst g s) (mnG G s g) with z | z
          · exact absurd ⟨hG, z⟩ h
          · exact z
        · exact h2 g (by omega) hG
      · rcases h3 with z | ⟨g, g1, g2, g3⟩
        · exact .inl z
        · exact .inr ⟨g, by omega, g2, g3⟩
section
variable {n : Nat} {G : Nat → Bool}
theorem mn_edge (hn : n ≤ 12) {s v t : Nat} (hs : s < 16 * n) (hv : v < 6) (h : mvd n s v = some t) : mnG G s (16 * n) ≤ mnG G t (16 * n) + 1 := by
  obtain ⟨a1, a2, a3⟩ := mnG_le (G := G) (s := s) (16 * n)
  obtain ⟨b1, b2, b3⟩ := mnG_le (G := G) (s := t) (16 * n)
  rcases b3 with z | ⟨g, g1, g2, g3⟩
  · omega
  · have e := (edge hn g1 hs hv h).2.2
    have := a2 g g1 g2
    omega
theorem mn_next (hn : n ≤ 12) {s : Nat} (hs : s < 16 * n) (h0 : 0 < mnG G s (16 * n)) (h1 : mnG G s (16 * n) < 1000) : ∃ v t, v < 6 ∧ mvd n s v = some t ∧ t < 16 * n ∧ mnG G t (16 * n) + 1 = mnG G s (16 * n) := by
  obtain ⟨a1, a2, a3⟩ := mnG_le (G := G) (s := s) (16 * n)
  rcases a3 with z | ⟨g, g1, g2, g3⟩
  · omega
  · have sg : s ≠ g := fun z => by rw [z, dst_self] at g3; rw [z] at h0; omega
    obtain ⟨p1, p2, p3, p4, p5⟩ := prv_is hn g1 hs sg
    have i6 := inv_lt (lmv_lt (a := g) (s := s))
    have := (mnG_le (G := G) (s := prv n g s) (16 * n)).2.1 g g1 g2
    have e := mn_edge (G := G) hn hs i6 p1
    exact ⟨_, _, i6, p1, p2, by omega⟩
theorem mn_zero (hn : n ≤ 12) {s : Nat} (hs : s < 16 * n) : mnG G s (16 * n) = 0 ↔ G s = true := by
  obtain ⟨a1, a2, a3⟩ := mnG_le (G := G) (s := s) (16 * n)
  constructor
  · intro z
    rcases a3 with y | ⟨g, g1, g2, g3⟩
    · omega
    · have := (dst_facts (a := g) (s := s) (by omega) (by omega)).2.2.2.mp (by omega)
      rw [this]; exact g2
  · intro hG
    have := a2 s hs hG
    rw [dst_self] at this; omega
theorem mn_15 (hn : n ≤ 12) {s : Nat} (hs : s < 16 * n) : mnG G s (16 * n) = 1000 ∨ mnG G s (16 * n) ≤ 15 := by
  obtain ⟨a1, a2, a3⟩ := mnG_le (G := G) (s := s) (16 * n)
  rcases a3 with y | ⟨g, g1, g2, g3⟩
  · exact .inl y
  · right
    have := (dst_facts (a := g) (s := s) (by omega) (by omega)).2.2.1
    omega
/-- the row of steps -/
def stR (σ : zS) (st : Nat → Nat) : Prop := ∀ x, x < 192 → σ.1 5049 x = nI (st x) ∧ st x ≤ 1000
def lbS (n : Nat) (G : Nat → Bool) (st : Nat → Nat) : Prop := ∀ x, x < 16 * n → mnG G x (16 * n) ≤ st x
end
theorem m_relI {T : zT} {G : Nat → Bool} (r10 : Int32 → Int32 → zS → Option zS) {s : Nat} (hs : s < 16 * T 4 0) : ∀ (j v fu : Nat) (mr : Bool) (st : Nat → Nat) (σ : zS), v + j = 6 → j < fu → okT T → RM T σ → stR σ st → lbS (T 4 0) G st →
    ∃ σ' st' mr', f_X12_spreadsSteps_20 r10 fu (bI mr) (nI s) (nI v) σ = r10 (bI mr') (nI (s + 1)) σ' ∧ Fm [13] σ σ' ∧ stR σ' st' ∧ lbS (T 4 0) G st' ∧ (∀ x, x ≠ s → st' x = st x) ∧ st' s ≤ st s ∧ (∀ u t, v ≤ u → u < 6 → mvd (T 4 0) s u = some t → st' s ≤ st' t + 1) ∧ mr' = (mr || decide (st' s < st s))
  | j, v, 0, mr, st, σ, hj, hf, hT, hR, hr, hl => by omega
  | 0, v, fu + 1, mr, st, σ, hj, hf, hT, hR, hr, hl => by
    unfold f_X12_spreadsSteps_20
    rw [if_pos (show (6 : Int32) ≤ nI v from nI_le (a := 6) (by omega) (by omega)), nI_1]
    refine ⟨σ, st, mr, rfl, Fm.rf, hr, hl, fun x _ => rfl, Nat.le_refl _, fun u t h1 h2 => by omega, ?_⟩
    rw [decide_eq_false (Nat.lt_irrefl _), Bool.or_false]
  | j + 1, v, fu + 1, mr, st, σ, hj, hf, hT, hR, hr, hl => by
    have o := hT.1
    unfold f_X12_spreadsSteps_20 f_X12_spreadsSteps_78
    rw [if_neg (show ¬ (6 : Int32) ≤ nI v from nI_ge (b := 6) (by omega) (by omega)), m_moved hT hR hs (by omega), bs, nI_1]
    have skip : (∀ t, mvd (T 4 0) s v = some t → st s ≤ st t + 1) → ∃ σ' st' mr', f_X12_spreadsSteps_20 r10 fu (bI mr) (nI s) (nI (v + 1)) σ = r10 (bI mr') (nI (s + 1)) σ' ∧ Fm [13] σ σ' ∧ stR σ' st' ∧ lbS (T 4 0) G st' ∧ (∀ x, x ≠ s → st' x = st x) ∧ st' s ≤ st s ∧ (∀ u t, v ≤ u → u < 6 → mvd (T 4 0) s u = some t → st' s ≤ st' t + 1) ∧ mr' = (mr || decide (st' s < st s)) := by
      intro hv
      obtain ⟨σ1, st1, mr1, e1, f1, r1, l1, x1, s1, u1, m1⟩ := m_relI r10 hs j (v + 1) fu mr st σ (by omega) (by omega) hT hR hr hl
      refine ⟨σ1, st1, mr1, e1, f1, r1, l1, x1, s1, fun u t h1 h2 h3 => ?_, m1⟩
      by_cases e : u = v
      · subst e
        have := hv t h3
        by_cases ts : t = s
        · rw [ts]; omega
        · rw [x1 t ts]; omega
      · exact u1 u t (by omega) h2 h3
    cases em : mvd (T 4 0) s v with
    | none =>
      rw [if_pos (show oI none = -1 from rfl)]
      exact skip (fun t ht => by rw [em] at ht; cases ht)
    | some t =>
      have ht := mvd_lt hs em
      have rt := hr t (by omega)
      have rs := hr s (by omega)
      rw [if_neg (show ¬ oI (some t) = -1 from nI_nm1 (by omega)), show oI (some t) = nI t from rfl, rd_nI (by omega) (by omega), bs, rd_nI (by omega) (by omega), bs, rt.1, rs.1, nI_1, bs]
      by_cases hlt : st t + 1 < st s
      · rw [if_pos (nI_lt hlt (by omega)), nI_1, wr_nI (by omega) (by omega), bs]
        have F1 : Fm [13] σ (wI σ 5049 s (nI (st t + 1))) := Fm.rf.wI rfl
        have lt' := hl t ht
        have ed := mn_edge (G := G) (by omega) hs (show v < 6 by omega) em
        obtain ⟨σ1, st1, mr1, e1, f1, r1, l1, x1, s1, u1, m1⟩ := m_relI (G := G) r10 hs j (v + 1) fu true (fun x => if x = s then st t + 1 else st x) (wI σ 5049 s (nI (st t + 1))) (by omega) (by omega) hT (hR.mono hT F1 rfl) (fun x hx => by
          try dsimp only
          rw [wI_at]
          by_cases e : x = s
          · rw [if_pos ⟨rfl, e⟩, if_pos e]; exact ⟨rfl, by omega⟩
          · rw [if_neg (by omega), if_neg e]; exact hr x hx) (fun x hx => by
          try dsimp only
          by_cases e : x = s
          · rw [if_pos e, e]; omega
          · rw [if_neg e]; exact hl x hx)
        try dsimp only at x1 s1
        rw [if_pos rfl] at s1
        have x1' : ∀ x, x ≠ s → st1 x = st x := fun x hx => by rw [x1 x hx, if_neg hx]
        have ts : t ≠ s := fun z => by rw [z] at hlt; omega
        refine ⟨σ1, st1, mr1, e1, F1.tr f1, r1, l1, x1', by omega, fun u y h1 h2 h3 => ?_, ?_⟩
        · by_cases e : u = v
          · subst e
            rw [em] at h3; cases h3
            rw [x1' _ ts]; omega
          · exact u1 u y (by omega) h2 h3
        · rw [m1, Bool.true_or, decide_eq_true (show st1 s < st s by omega), Bool.or_true]
      · rw [if_neg (nI_nlt (by omega) (by omega))]
        exact skip (fun y hy => by rw [em] at hy; cases hy; omega)
theorem m_relP {T : zT} {G : Nat → Bool} (r2 : Int32 → zS → Option zS) : ∀ (j s fu : Nat) (mr : Bool) (st : Nat → Nat) (σ : zS), s + j = 16 * T 4 0 → j < fu → okT T → RM T σ → stR σ st → lbS (T 4 0) G st →
    ∃ σ' st' mr', f_X12_spreadsSteps_10 r2 fu (bI mr) (nI s) σ = r2 (bI mr') σ' ∧ Fm [13] σ σ' ∧ stR σ' st' ∧ lbS (T 4 0) G st' ∧ (∀ x, st' x ≤ st x) ∧ (∀ x, x < s → st' x = st x) ∧
      (∀ k, (∀ x, x < 16 * T 4 0 → mnG G x (16 * T 4 0) ≤ k → st x = mnG G x (16 * T 4 0)) → ∀ x, s ≤ x → x < 16 * T 4 0 → mnG G x (16 * T 4 0) ≤ k + 1 → mnG G x (16 * T 4 0) < 1000 → (0 < mnG G x (16 * T 4 0) ∨ st x = 0) → st' x = mnG G x (16 * T 4 0)) ∧
      (mr' = false → mr = false ∧ (∀ x, st' x = st x) ∧ (∀ x u t, s ≤ x → x < 16 * T 4 0 → u < 6 → mvd (T 4 0) x u = some t → st x ≤ st t + 1)) ∧ (mr' = true → mr = true ∨ ∃ x, x < 16 * T 4 0 ∧ st' x < st x)
  | j, s, 0, mr, st, σ, hj, hf, hT, hR, hr, hl => by omega
  | 0, s, fu + 1, mr, st, σ, hj, hf, hT, hR, hr, hl => by
    have o := hT.1
    unfold f_X12_spreadsSteps_10
    rw [m_many16 hR, bs, if_pos (nI_le (by omega) (by omega))]
    exact ⟨σ, st, mr, rfl, Fm.rf, hr, hl, fun x => Nat.le_refl _, fun x _ => rfl, fun k _ x h1 h2 => by omega, fun z => ⟨z, fun x => rfl, fun x u t h1 h2 => by omega⟩, fun z => .inl z⟩
  | j + 1, s, fu + 1, mr, st, σ, hj, hf, hT, hR, hr, hl => by
    have o := hT.1
    have hs : s < 16 * T 4 0 := by omega
    unfold f_X12_spreadsSteps_10
    rw [m_many16 hR, bs, if_neg (nI_ge (by omega) (by omega))]
    obtain ⟨σ1, st1, mr1, e1, f1, r1, l1, x1, s1, u1, m1⟩ := m_relI (G := G) (f_X12_spreadsSteps_10 r2 fu) hs 6 0 FU mr st σ (by omega) (by unfold FU; omega) hT hR hr hl
    replace e1 : f_X12_spreadsSteps_20 (f_X12_spreadsSteps_10 r2 fu) FU (bI mr) (nI s) 0 σ = _ := e1
    rw [e1]
    obtain ⟨σ2, st2, mr2, e2, f2, r2', l2, le2, x2, p2, z2, o2⟩ := m_relP (G := G) r2 j (s + 1) fu mr1 st1 σ1 (by omega) (by omega) hT (hR.mono hT f1 rfl) r1 l1
    have le1 : ∀ x, st1 x ≤ st x := fun x => by
      by_cases e : x = s
      · rw [e]; exact s1
      · rw [x1 x e]; exact Nat.le_refl _
    refine ⟨σ2, st2, mr2, e2, f1.tr f2, r2', l2, fun x => Nat.le_trans (le2 x) (le1 x), fun x hx => ?_, fun k hk x h1 h2 h3 h4 h5 => ?_, fun z => ?_, fun z => ?_⟩
    · rw [x2 x (by omega), x1 x (by omega)]
    · have lk1 : ∀ y, y < 16 * T 4 0 → mnG G y (16 * T 4 0) ≤ k → st1 y = mnG G y (16 * T 4 0) := by
        intro y hy hyk
        have a := hk y hy hyk
        have b := l1 y hy
        have c := le1 y
        omega
      by_cases e : x = s
      · subst e
        rw [x2 x (by omega)]
        have lb := l1 x h2
        rcases Nat.eq_zero_or_pos (mnG G x (16 * T 4 0)) with z | z
        · have := le1 x
          rcases h5 with y | y <;> omega
        · obtain ⟨v, t, v1, v2, v3, v4⟩ := mn_next (G := G) (by omega) h2 z h4
          have a := u1 v t (by omega) v1 v2
          have b := lk1 t v3 (by omega)
          omega
      · refine p2 k lk1 x (by omega) h2 h3 h4 ?_
        rcases h5 with y | y
        · exact .inl y
        · right; have := le1 x; omega
    · obtain ⟨z1, z3, z4⟩ := z2 z
      rw [m1, Bool.or_eq_false_iff] at z1
      have same : ∀ x, st1 x = st x := fun x => by
        by_cases e : x = s
        · rw [e]
          have := of_decide_eq_false z1.2
          omega
        · exact x1 x e
      refine ⟨z1.1, fun x => by rw [z3, same], fun x u t h1 h2 h3 h4 => ?_⟩
      by_cases e : x = s
      · subst e
        have := u1 u t (by omega) h3 h4
        rw [same, same] at this; exact this
      · have := z4 x u t (by omega) h2 h3 h4
        rw [same, same] at this; exact this
    · rcases o2 z with y | ⟨x, y1, y2⟩
      · rw [m1, Bool.or_eq_true] at y
        rcases y with y | y
        · exact .inl y
        · right
          refine ⟨s, hs, ?_⟩
          rw [x2 s (by omega)]; exact of_decide_eq_true y
      · right
        exact ⟨x, y1, by have := le1 x; omega⟩
/-- the steps are right when nothing more changes -/
theorem relx {n : Nat} {G : Nat → Bool} {st : Nat → Nat} (hn : n ≤ 12) (hl : lbS n G st) (h1 : ∀ x, x < 16 * n → st x ≤ 1000) (h0 : ∀ x, x < 16 * n → G x = true → st x = 0) (hf : ∀ x u t, x < 16 * n → u < 6 → mvd n x u = some t → st x ≤ st t + 1) : ∀ (m x : Nat), x < 16 * n → mnG G x (16 * n) = m → st x = m
  | m, x, hx, hm => by
    have lb := hl x hx
    have u := h1 x hx
    rcases mn_15 (G := G) hn hx with z | z
    · omega
    · cases m with
      | zero => exact h0 x hx ((mn_zero hn hx).mp hm)
      | succ m =>
        obtain ⟨v, t, v1, v2, v3, v4⟩ := mn_next (G := G) hn hx (by omega) (by omega)
        have a := relx hn hl h1 h0 hf m t v3 (by omega)
        have b := hf x v t hx v1 v2
        omega
theorem m_relO {T : zT} {G : Nat → Bool} : ∀ (fu k : Nat) (st : Nat → Nat) (σ : zS), 20 < k + fu → k ≤ 17 → okT T → RM T σ → stR σ st → lbS (T 4 0) G st → (∀ x, x < 16 * T 4 0 → G x = true → st x = 0) → (∀ x, x < 16 * T 4 0 → mnG G x (16 * T 4 0) ≤ k → st x = mnG G x (16 * T 4 0)) →
    ∃ σ', f_X12_spreadsSteps_2 fu 1 σ = some σ' ∧ Fm [13] σ σ' ∧ (∀ x, x < 16 * T 4 0 → σ'.1 5049 x = nI (mnG G x (16 * T 4 0)))
  | 0, k, st, σ, hf, hk, hT, hR, hr, hl, h0, hp => by omega
  | fu + 1, k, st, σ, hf, hk, hT, hR, hr, hl, h0, hp => by
    have o := hT.1
    unfold f_X12_spreadsSteps_2
    rw [if_neg n10]
    obtain ⟨σ1, st1, mr1, e1, f1, r1, l1, le1, x1, p1, z1, o1⟩ := m_relP (G := G) (f_X12_spreadsSteps_2 fu) (16 * T 4 0) 0 FU false st σ (by omega) (by unfold FU; omega) hT hR hr hl
    replace e1 : f_X12_spreadsSteps_10 (f_X12_spreadsSteps_2 fu) FU 0 0 σ = _ := e1
    rw [e1]
    cases mr1 with
    | false =>
      obtain ⟨-, same, fx⟩ := z1 rfl
      refine ⟨σ1, ?_, f1, fun x hx => ?_⟩
      · obtain ⟨fu, rfl⟩ : ∃ f, fu = f + 1 := ⟨fu - 1, by omega⟩
        unfold f_X12_spreadsSteps_2
        rw [if_pos (show bI false = 0 from rfl)]
      · rw [(r1 x (by omega)).1, same, relx (by omega) hl (fun x hx => (hr x (by omega)).2) h0 (fun x u t h1 h2 h3 => fx x u t (by omega) h1 h2 h3) _ x hx rfl]
    | true =>
      rcases o1 rfl with z | ⟨x, y1, y2⟩
      · cases z
      · by_cases hk15 : 15 ≤ k
        · exfalso
          have lb := l1 x y1
          have ub := (hr x (by omega)).2
          rcases mn_15 (G := G) (by omega) y1 with q | q
          · omega
          · have := hp x y1 (by omega); omega
        · have nz : ∀ x, x < 16 * T 4 0 → G x = true → st1 x = 0 := fun x hx hG => by
            have := le1 x
            have := h0 x hx hG
            omega
          obtain ⟨σ2, e2, f2, g2⟩ := m_relO (G := G) fu (k + 1) st1 σ1 (by omega) (by omega) hT (hR.mono hT f1 rfl) r1 l1 nz (fun x hx hxk => by
            refine p1 k hp x (by omega) hx hxk (by omega) ?_
            rcases Nat.eq_zero_or_pos (mnG G x (16 * T 4 0)) with q | q
            · exact .inr (h0 x hx ((mn_zero (by omega) hx).mp q))
            · exact .inl q)
          exact ⟨σ2, e2, f1.tr f2, g2⟩
