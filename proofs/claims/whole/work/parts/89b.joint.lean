/-! The pure part: joint, of both -/
def mnO (o : Option Nat) (v : Nat) : Option Nat := match o with | none => some v | some w => if v < w then some v else some w
/-- sums of places next to each other -/
def lsI (f g : Nat → Nat) (r : Nat) : Nat → Nat → Option Nat → Option Nat
  | 0, _, o => o
  | j + 1, t, o => lsI f g r j (t + 1) (if f r < 1000 ∧ g t < 1000 then mnO o (f r + g t) else o)
def lsO (f g : Nat → Nat) : Nat → Nat → Option Nat → Option Nat
  | 0, _, o => o
  | j + 1, r, o => lsO f g j (r + 1) (lsI f g r (min (r + 2) 14 - (r - 1)) (r - 1) o)
def plRow (σ : zS) (A : Nat) (f : Nat → Nat) : Prop := ∀ r, r < 14 → (σ.1 A r = if f r = 1000 then -1 else nI (f r)) ∧ (f r = 1000 ∨ f r ≤ 15)
theorem c_lsI {n : Nat} {f g : Nat → Nat} {σ : zS} (r5 : Int32 → Int32 → Int32 → zS → Option Int32) (hf : plRow σ 1506 f) (hg : plRow σ 1507 g) {r : Nat} (hr : r < 14) : ∀ (j t fu : Nat) (o : Option Nat), t + j = min (r + 2) 14 → (∀ v, o = some v → v ≤ 30) → j < fu →
    f_X10_leastSum_27 r5 fu (nI n) (oI2 o) (nI r) (nI t) σ = r5 (nI n) (oI2 (lsI f g r j t o)) (nI (r + 1)) σ ∧ (∀ v, lsI f g r j t o = some v → v ≤ 30)
  | j, t, 0, o, hj, ho, hfu => by omega
  | 0, t, fu + 1, o, hj, ho, hfu => by
    unfold f_X10_leastSum_27 f_X10_leastSum_112
    rw [nI_1]
    refine ⟨?_, ho⟩
    by_cases h1 : r + 1 < t
    · rw [if_pos (nI_lt h1 (by omega))]; rfl
    · rw [if_neg (nI_nlt (by omega) (by omega)), if_pos (show (14 : Int32) ≤ nI t from nI_le (a := 14) (by omega) (by omega))]; rfl
  | j + 1, t, fu + 1, o, hj, ho, hfu => by
    have fr := hf r hr
    have gt := hg t (by omega)
    unfold f_X10_leastSum_27 f_X10_leastSum_83 f_X10_leastSum_84 f_X10_leastSum_103 f_X10_leastSum_106 f_X10_leastSum_112
    simp only [lts]
    rw [nI_1, if_neg (nI_nlt (by omega) (by omega)), if_neg (show ¬ (14 : Int32) ≤ nI t from nI_ge (b := 14) (by omega) (by omega)), rd_nI hr (by omega), bs, rd_nI (by omega) (by omega), bs, bs, bs, fr.1, gt.1, nI_1]
    have same := c_lsI (n := n) r5 hf hg hr j (t + 1) fu o (by omega) ho (by omega)
    unfold lsI
    by_cases h1 : f r = 1000
    · rw [if_pos h1, if_pos rfl, if_pos (by first | trivial | rfl), if_neg (by omega)]; exact same
    · rw [if_neg h1, if_neg (nI_nm1 (by omega))]
      by_cases h2 : g t = 1000
      · rw [if_pos h2, if_pos rfl, if_pos (by first | trivial | rfl), if_neg (by omega)]; exact same
      · rw [if_neg h2, if_neg (nI_nm1 (by omega)), if_pos (show f r < 1000 ∧ g t < 1000 by omega), nI_add, if_neg n10]
        have nx := c_lsI (n := n) r5 hf hg hr j (t + 1) fu (some (f r + g t)) (by omega) (fun v hv => by cases hv; omega) (by omega)
        cases o with
        | none =>
          rw [if_pos (show oI2 none = -2 from rfl)]
          exact nx
        | some w =>
          have hw := ho w rfl
          have ne : ¬ oI2 (some w) = -2 := by
            intro z
            have := nI_pos (n := w) (by omega)
            rw [show nI w = -2 from z] at this; exact this (by decide)
          rw [if_neg ne, show oI2 (some w) = nI w from rfl, show mnO (some w) (f r + g t) = if f r + g t < w then some (f r + g t) else some w from rfl]
          by_cases hlt : f r + g t < w
          · rw [if_neg (nI_ge hlt (by omega)), if_pos hlt]; exact nx
          · rw [if_pos (nI_le (by omega) (by omega)), if_neg hlt]; exact same
theorem mx14 : ∀ r, r < 14 → f_J9_max_7cf53 (nI r - 1) 0 zz0 = nI (r - 1) := by decide +kernel
theorem c_lsO {n : Nat} {f g : Nat → Nat} {σ : zS} (hn : n ≤ 12) (hf : plRow σ 1506 f) (hg : plRow σ 1507 g) : ∀ (j r fu : Nat) (o : Option Nat), r + j = n + 2 → (∀ v, o = some v → v ≤ 30) → j < fu →
    f_X10_leastSum_5 fu (nI n) (oI2 o) (nI r) σ = some (oI2 (lsO f g j r o))
  | j, r, 0, o, hj, ho, hfu => by omega
  | 0, r, fu + 1, o, hj, ho, hfu => by
    unfold f_X10_leastSum_5
    rw [show nI n + 2 = nI (n + 2) from nI_add n 2, if_pos (nI_le (by omega) (by omega))]; rfl
  | j + 1, r, fu + 1, o, hj, ho, hfu => by
    unfold f_X10_leastSum_5
    rw [show nI n + 2 = nI (n + 2) from nI_add n 2, if_neg (nI_ge (by omega) (by omega)), if_neg (show ¬ (14 : Int32) ≤ nI r from nI_ge (b := 14) (by omega) (by omega)), lts, show f_J9_max_7cf53 (nI r - 1) 0 σ = nI (r - 1) from mx14 r (by omega)]
    have e := c_lsI (n := n) (f_X10_leastSum_5 fu) hf hg (show r < 14 by omega) (min (r + 2) 14 - (r - 1)) (r - 1) FU o (by omega) ho (by unfold FU; omega)
    rw [e.1]
    exact c_lsO hn hf hg j (r + 1) fu _ (by omega) e.2 (by omega)
/-- what the least sum is -/
def isLs (P : Nat → Prop) (o : Option Nat) : Prop := (∀ v, o = some v → P v) ∧ (∀ v, P v → ∃ w, o = some w ∧ w ≤ v)
theorem lsI_is {f g : Nat → Nat} {r : Nat} : ∀ (j t : Nat) (o : Option Nat) (P : Nat → Prop), isLs P o → isLs (fun v => P v ∨ ∃ t', t ≤ t' ∧ t' < t + j ∧ f r < 1000 ∧ g t' < 1000 ∧ v = f r + g t') (lsI f g r j t o)
  | 0, t, o, P, h => by
    refine ⟨fun v hv => .inl (h.1 v hv), fun v hv => ?_⟩
    rcases hv with hv | ⟨t', h1, h2, -⟩
    · exact h.2 v hv
    · omega
  | j + 1, t, o, P, h => by
    unfold lsI
    have step : isLs (fun v => P v ∨ (f r < 1000 ∧ g t < 1000 ∧ v = f r + g t)) (if f r < 1000 ∧ g t < 1000 then mnO o (f r + g t) else o) := by
      by_cases hc : f r < 1000 ∧ g t < 1000
      · rw [if_pos hc]
        unfold mnO
        cases o with
        | none =>
          refine ⟨fun v hv => by cases hv; exact .inr ⟨hc.1, hc.2, rfl⟩, fun v hv => ?_⟩
          rcases hv with hv | ⟨-, -, rfl⟩
          · obtain ⟨w, hw, -⟩ := h.2 v hv; cases hw
          · exact ⟨_, rfl, Nat.le_refl _⟩
        | some w =>
          have pw := h.1 w rfl
          by_cases hlt : f r + g t < w
          · show isLs _ (if f r + g t < w then some (f r + g t) else some w)
            rw [if_pos hlt]
            refine ⟨fun v hv => by cases hv; exact .inr ⟨hc.1, hc.2, rfl⟩, fun v hv => ?_⟩
            rcases hv with hv | ⟨-, -, rfl⟩
            · obtain ⟨w', hw, hle⟩ := h.2 v hv
              cases hw
              exact ⟨_, rfl, by omega⟩
            · exact ⟨_, rfl, Nat.le_refl _⟩
          · show isLs _ (if f r + g t < w then some (f r + g t) else some w)
            rw [if_neg hlt]
            refine ⟨fun v hv => by cases hv; exact .inl pw, fun v hv => ?_⟩
            rcases hv with hv | ⟨-, -, rfl⟩
            · exact h.2 v hv
            · exact ⟨w, rfl, by omega⟩
      · rw [if_neg hc]
        refine ⟨fun v hv => .inl (h.1 v hv), fun v hv => ?_⟩
        rcases hv with hv | ⟨h1, h2, -⟩
        · exact h.2 v hv
        · exact absurd ⟨h1, h2⟩ hc
    have ih := lsI_is (f := f) (g := g) (r := r) j (t + 1) _ _ step
    refine ⟨fun v hv => ?_, fun v hv => ?_⟩
    · rcases ih.1 v hv with (q | ⟨h1, h2, h3⟩) | ⟨t', h1, h2, h3⟩
      · exact .inl q
      · exact .inr ⟨t, Nat.le_refl _, by omega, h1, h2, h3⟩
      · exact .inr ⟨t', by omega, by omega, h3⟩
    · refine ih.2 v ?_
      rcases hv with q | ⟨t', h1, h2, h3⟩
      · exact .inl (.inl q)
      · by_cases e : t' = t
        · subst e; exact .inl (.inr h3)
        · exact .inr ⟨t', by omega, by omega, h3⟩
theorem lsO_is {f g : Nat → Nat} : ∀ (j r : Nat) (o : Option Nat) (P : Nat → Prop), r + j ≤ 14 → isLs P o → isLs (fun v => P v ∨ ∃ r' t', r ≤ r' ∧ r' < r + j ∧ t' < 14 ∧ r' ≤ t' + 1 ∧ t' ≤ r' + 1 ∧ f r' < 1000 ∧ g t' < 1000 ∧ v = f r' + g t') (lsO f g j r o)
  | 0, r, o, P, hr, h => by
    refine ⟨fun v hv => .inl (h.1 v hv), fun v hv => ?_⟩
    rcases hv with hv | ⟨r', t', h1, h2, -⟩
    · exact h.2 v hv
    · omega
  | j + 1, r, o, P, hr, h => by
    have s1 := lsI_is (f := f) (g := g) (r := r) (min (r + 2) 14 - (r - 1)) (r - 1) o P h
    have ih := lsO_is (f := f) (g := g) j (r + 1) _ _ (by omega) s1
    refine ⟨fun v hv => ?_, fun v hv => ?_⟩
    · rcases ih.1 v hv with (q | ⟨t', h1, h2, h3⟩) | ⟨r', t', h1, h2, h3⟩
      · exact .inl q
      · exact .inr ⟨r, t', by omega, by omega, by omega, by omega, by omega, h3⟩
      · exact .inr ⟨r', t', by omega, by omega, h3⟩
    · refine ih.2 v ?_
      rcases hv with q | ⟨r', t', h1, h2, h3, h4, h5, h6⟩
      · exact .inl (.inl q)
      · by_cases e : r' = r
        · subst e; exact .inl (.inr ⟨t', by omega, by omega, h6⟩)
        · exact .inr ⟨r', t', by omega, by omega, h3, h4, h5, h6⟩
/-- the reference's least -/
def isMn (P : Nat → Prop) (B : Nat) : Prop := (B = 1000 ∨ P B) ∧ B ≤ 1000 ∧ (∀ v, P v → B ≤ v)
theorem absN {a c : Nat} (ha : a ≤ 13) (hc : c ≤ 13) (σ : zS) : (1 < f_J9_abs_0f7a4 ((nI a - 1) - (nI c - 1)) σ) ↔ ¬ (a ≤ c + 1 ∧ c ≤ a + 1) := by
  have : ∀ a, a < 14 → ∀ c, c < 14 → ((1 < f_J9_abs_0f7a4 ((nI a - 1) - (nI c - 1)) zz0) ↔ ¬ (a ≤ c + 1 ∧ c ≤ a + 1)) := by decide +kernel
  exact this a (by omega) c (by omega)
theorem minN {a c : Nat} (ha : a < 2 ^ 30) (hc : c < 2 ^ 30) (σ : zS) : f_J9_min_7cf53 (nI a) (nI c) σ = nI (min a c) := by
  unfold f_J9_min_7cf53
  by_cases h : c < a
  · rw [if_pos (nI_lt h (by omega)), show min a c = c by omega]
  · rw [if_neg (nI_nlt (by omega) (by omega)), show min a c = a by omega]
/-- sums of states whose parts are next to each other -/
def jnP (n p p' : Nat) (G : Nat → Bool) (f g : Nat → Nat) (s t v : Nat) : Prop := G s = true ∧ plc s p ≤ plc t p' + 1 ∧ plc t p' ≤ plc s p + 1 ∧ v = f s + g t
theorem m_jnI {T : zT} {p p' : Nat} {G : Nat → Bool} {f g : Nat → Nat} {σ : zS} (r129 : Int32 → Int32 → Int32 → Int32 → zS → Option (Int32 × zS)) (hT : okT T) (hR : RM T σ) (hp : p < 4) (hp' : p' < 4) (h1 : ∀ x, x < 16 * T 4 0 → σ.1 5051 x = bI (G x) ∧ σ.1 5049 x = nI (f x) ∧ σ.1 5050 x = nI (g x) ∧ f x ≤ 1000 ∧ g x ≤ 1000) {s : Nat} (hs : s < 16 * T 4 0) : ∀ (j t fu B : Nat) (P : Nat → Prop), t + j = 16 * T 4 0 → j < fu → isMn P B →
    ∃ B', f_X12_joint_141 r129 fu (nI p) (nI p') (nI B) (nI s) (nI t) σ = r129 (nI p) (nI p') (nI B') (nI (s + 1)) σ ∧ isMn (fun v => P v ∨ ∃ t', t ≤ t' ∧ t' < 16 * T 4 0 ∧ jnP (T 4 0) p p' G f g s t' v) B'
  | j, t, 0, B, P, hj, hf, hB => by omega
  | 0, t, fu + 1, B, P, hj, hf, hB => by
    have o := hT.1
    unfold f_X12_joint_141 f_X12_joint_209
    rw [m_many16 hR, bs, if_pos (nI_le (by omega) (by omega)), nI_1]
    refine ⟨B, rfl, ?_, hB.2.1, fun v hv => ?_⟩
    · rcases hB.1 with z | z
      · exact .inl z
      · exact .inr (.inl z)
    · rcases hv with hv | ⟨t', q1, q2, -⟩
      · exact hB.2.2 v hv
      · omega
  | j + 1, t, fu + 1, B, P, hj, hf, hB => by
    have o := hT.1
    have a1 := h1 s hs
    have a2 := h1 t (by omega)
    have l1 := plc_le (s := s) (p := p) (show s < 192 by omega)
    have l2 := plc_le (s := t) (p := p') (show t < 192 by omega)
    have fwd : ∀ (Q : Nat → Prop) (B' : Nat), (∀ v, Q v → P v ∨ ∃ t', t ≤ t' ∧ t' < 16 * T 4 0 ∧ jnP (T 4 0) p p' G f g s t' v) → (∀ v, (P v ∨ jnP (T 4 0) p p' G f g s t v) → Q v) → isMn (fun v => Q v ∨ ∃ t', t + 1 ≤ t' ∧ t' < 16 * T 4 0 ∧ jnP (T 4 0) p p' G f g s t' v) B' → isMn (fun v => P v ∨ ∃ t', t ≤ t' ∧ t' < 16 * T 4 0 ∧ jnP (T 4 0) p p' G f g s t' v) B' := by
      intro Q B' q1 q2 hm
      refine ⟨?_, hm.2.1, fun v hv => ?_⟩
      · rcases hm.1 with z | (z | ⟨t', y1, y2, y3⟩)
        · exact .inl z
        · exact .inr (q1 _ z)
        · exact .inr (.inr ⟨t', by omega, y2, y3⟩)
      · refine hm.2.2 v ?_
        rcases hv with z | ⟨t', y1, y2, y3⟩
        · exact .inl (q2 v (.inl z))
        · by_cases e : t' = t
          · subst e; exact .inl (q2 v (.inr y3))
          · exact .inr ⟨t', by omega, y2, y3⟩
    unfold f_X12_joint_141 f_X12_joint_209 f_X12_joint_203
    simp only [lts]
    rw [m_many16 hR, bs, if_neg (nI_ge (by omega) (by omega)), rd_nI (by omega) (by omega), bs, a1.1, m_place (by omega) hp, m_place (by omega) hp', rd_nI (by omega) (by omega), bs, rd_nI (by omega) (by omega), bs, a1.2.1, a2.2.2.1, nI_add, minN (by have := hB.2.1; omega) (by omega), nI_1, nI_1]
    cases eg : G s with
    | false =>
      rw [if_pos (show bI false = 0 from rfl)]
      refine ⟨B, rfl, ?_, hB.2.1, fun v hv => ?_⟩
      · rcases hB.1 with z | z
        · exact .inl z
        · exact .inr (.inl z)
      · rcases hv with hv | ⟨t', -, -, q3⟩
        · exact hB.2.2 v hv
        · have q4 := q3.1; rw [eg] at q4; cases q4
    | true =>
      rw [if_neg (show ¬ bI true = 0 by decide)]
      by_cases hadj : plc s p ≤ plc t p' + 1 ∧ plc t p' ≤ plc s p + 1
      · rw [if_neg (fun z => (absN l1 l2 σ).mp z hadj)]
        have hB2 : isMn (fun v => P v ∨ jnP (T 4 0) p p' G f g s t v) (min B (f s + g t)) := by
          refine ⟨?_, by have := hB.2.1; omega, fun v hv => ?_⟩
          · rcases Nat.lt_or_ge (f s + g t) B with z | z
            · right; right; exact ⟨eg, hadj.1, hadj.2, by omega⟩
            · rw [show min B (f s + g t) = B by omega]
              rcases hB.1 with y | y
              · exact .inl y
              · exact .inr (.inl y)
          · rcases hv with hv | hv
            · have := hB.2.2 v hv; omega
            · have := hv.2.2.2; omega
        obtain ⟨B', e', m'⟩ := m_jnI r129 hT hR hp hp' h1 hs j (t + 1) fu (min B (f s + g t)) (fun v => P v ∨ jnP (T 4 0) p p' G f g s t v) (by omega) (by omega) hB2
        exact ⟨B', e', fwd _ B' (fun v hv => by
          rcases hv with z | z
          · exact .inl z
          · exact .inr ⟨t, Nat.le_refl _, by omega, z⟩) (fun v hv => hv) m'⟩
      · rw [if_pos ((absN l1 l2 σ).mpr hadj)]
        obtain ⟨B', e', m'⟩ := m_jnI r129 hT hR hp hp' h1 hs j (t + 1) fu B P (by omega) (by omega) hB
        exact ⟨B', e', fwd _ B' (fun v hv => .inl hv) (fun v hv => by
          rcases hv with z | z
          · exact z
          · exact absurd ⟨z.2.1, z.2.2.1⟩ hadj) m'⟩
