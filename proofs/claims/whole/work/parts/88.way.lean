/-! The pure part: fewest, way -/
theorem BF.mono {b : Bool} {n a sz : Nat} {q : Nat → Nat} {Z : List Nat} {σ σ' : zS} (hn : n ≤ 12) (h : BF n a σ sz q) (F : Fc b Z σ σ') (hz : Z.elem 13 = false) : BF n a σ' sz q := by
  obtain ⟨b1, b0, bq, b2, b3, b4⟩ := h
  have g : ∀ i k, i = 1500 ∨ i = 1502 ∨ i = 1503 ∨ i = 1504 ∨ i = 1505 → σ'.1 i k = σ.1 i k := by
    rintro i k (rfl | rfl | rfl | rfl | rfl) <;> exact F.z (z := 13) (by cases b <;> rfl) hz
  refine ⟨(g _ _ (by omega)).trans b1, b0, bq, fun k hk => ?_, b3, fun s hs hq => (g _ _ (by omega)).trans (b4 s hs hq)⟩
  have o := b2 k hk
  exact ⟨o.1, (g _ _ (by omega)).trans o.2.1, (g _ _ (by omega)).trans o.2.2.1, fun z => ⟨(g _ _ (by omega)).trans (o.2.2.2 z).1, (g _ _ (by omega)).trans (o.2.2.2 z).2⟩⟩
/-- the first goal of the queue -/
def fstG (G : Nat → Bool) (q : Nat → Nat) : Nat → Nat → Option Nat
  | 0, _ => none
  | j + 1, i => if G (q i) then some i else fstG G q j (i + 1)
theorem fstG_some {G : Nat → Bool} {q : Nat → Nat} : ∀ {j i k : Nat}, fstG G q j i = some k → i ≤ k ∧ k < i + j ∧ G (q k) = true ∧ ∀ l, i ≤ l → l < k → G (q l) = false
  | 0, i, k, h => by cases h
  | j + 1, i, k, h => by
    unfold fstG at h
    cases e : G (q i) with
    | true =>
      rw [e, if_pos rfl] at h; cases h
      exact ⟨Nat.le_refl _, by omega, e, fun l h1 h2 => by omega⟩
    | false =>
      rw [e, if_neg (by decide)] at h
      obtain ⟨h1, h2, h3, h4⟩ := fstG_some h
      refine ⟨by omega, by omega, h3, fun l l1 l2 => ?_⟩
      by_cases el : l = i
      · rw [el]; exact e
      · exact h4 l (by omega) l2
theorem fstG_none {G : Nat → Bool} {q : Nat → Nat} : ∀ {j i : Nat}, fstG G q j i = none → ∀ l, i ≤ l → l < i + j → G (q l) = false
  | 0, i, h => fun l h1 h2 => by omega
  | j + 1, i, h => by
    unfold fstG at h
    cases e : G (q i) with
    | true => rw [e, if_pos rfl] at h; cases h
    | false =>
      rw [e, if_neg (by decide)] at h
      intro l h1 h2
      by_cases el : l = i
      · rw [el]; exact e
      · exact fstG_none h l (by omega) (by omega)
theorem c_nearL {b : Bool} {T D : zT} {mv : Int32} {m p k a sz : Nat} {q : Nat → Nat} (oD : okD T D) (hm : m < T 4 2) (hp : p < 4) (hk : k < 4) (hsz : sz ≤ 16 * T 4 0) : ∀ (j i fu : Nat) (σ : zS), i + j = sz → j < fu → CC b T (-1) (-1) σ → DC T 700 D mv σ → BF (T 4 0) a σ sz q →
    ∃ σ', f_X11_nearestLawful_26 fu (nI m) (nI p) (nI k) (nI i) σ = some (match fstG (fun s => lawB T (-1) m s p k (D 0 0)) q j i with | none => -1 | some l => nI (q l), σ') ∧ Fc b [0] σ σ'
  | j, i, 0, σ, hj, hf, hC, h, hb => by omega
  | 0, i, fu + 1, σ, hj, hf, hC, h, hb => by
    have o := hC.1.1
    unfold f_X11_nearestLawful_26
    rw [hb.1, if_pos (nI_le (by omega) (by omega))]
    exact ⟨σ, rfl, Fc.rf⟩
  | j + 1, i, fu + 1, σ, hj, hf, hC, h, hb => by
    have o := hC.1.1
    have qi := hb.2.2.2.1 i (by omega)
    obtain ⟨σ1, e1, f1⟩ := c_allows hC hm (show q i < 192 by omega) hp hk oD.1
    unfold f_X11_nearestLawful_26
    rw [hb.1, if_neg (nI_ge (by omega) (by omega)), rd_nI (by omega) (by omega), bs, qi.2.1, h.1, e1, b2s, nI_1]
    unfold fstG
    cases lawB T (-1) m (q i) p k (D 0 0) with
    | true =>
      rw [if_neg (show ¬ bI true = 0 by decide), if_pos rfl]
      exact ⟨σ1, rfl, f1⟩
    | false =>
      rw [if_pos (show bI false = 0 from rfl), if_neg (show ¬ false = true by decide)]
      obtain ⟨σ2, e2, f2⟩ := c_nearL oD hm hp hk hsz j (i + 1) fu σ1 (by omega) (by omega) (hC.mono f1 rfl rfl) (DC.mono (z := 3) (.inl ⟨rfl, rfl⟩) h f1 rfl) (hb.mono (b := b) (by omega) f1 rfl)
      exact ⟨σ2, e2, f1.tr f2⟩
/-- the goal that the class finds: nearest, of the least word -/
theorem near_G {n a sz : Nat} {q : Nat → Nat} {σ : zS} {G : Nat → Bool} (hn : n ≤ 12) (ha : a < 16 * n) (hB : BA n a σ sz q) :
    (fstG G q sz 0 = none ∧ mnG G a (16 * n) = 1000) ∨ (∃ l, fstG G q sz 0 = some l ∧ l < sz ∧ q l < 16 * n ∧ G (q l) = true ∧ mnG G a (16 * n) = dst a (q l) ∧ ∀ g, g < 16 * n → G g = true → wrd a (q l) ≤ wrd a g) := by
  obtain ⟨m1, m2, m3⟩ := mnG_le (G := G) (s := a) (16 * n)
  cases e : fstG G q sz 0 with
  | none =>
    left
    refine ⟨rfl, ?_⟩
    rcases m3 with z | ⟨g, g1, g2, g3⟩
    · exact z
    · obtain ⟨l, l1, l2⟩ := hB.2.1 g g1
      have := fstG_none e l (by omega) (by omega)
      rw [l2, g2] at this; cases this
  | some l =>
    right
    obtain ⟨h1, h2, h3, h4⟩ := fstG_some e
    have ql := (hB.1.2.2.2.1 l (by omega)).1
    have least : ∀ g, g < 16 * n → G g = true → wrd a (q l) ≤ wrd a g := by
      intro g g1 g2
      obtain ⟨l', l1, l2⟩ := hB.2.1 g g1
      rw [← l2]
      rcases Nat.lt_or_ge l l' with z | z
      · exact Nat.le_of_lt (hB.1.2.2.2.2.1 l l' z l1)
      · rcases Nat.lt_or_ge l' l with y | y
        · have := h4 l' (by omega) y
          rw [l2, g2] at this; cases this
        · rw [show l' = l by omega]; exact Nat.le_refl _
    refine ⟨l, rfl, by omega, ql, h3, ?_, least⟩
    have u := m2 (q l) ql h3
    rw [dst_sym (by omega) (by omega)] at u
    rcases m3 with z | ⟨g, g1, g2, g3⟩
    · have := (dst_facts (a := a) (s := q l) (by omega) (by omega)).2.2.1
      omega
    · rw [dst_sym (by omega) (by omega)] at g3
      have := wrd_dst (a := a) (by omega) (by omega) (by omega) (least g g1 g2)
      omega
theorem m_asked {T : zT} {σ : zS} (hT : okT T) (hR : RM T σ) {m p k : Nat} (hm : m < T 4 2) (hp : p < 4) (hk : k < 4) : f_X12_isAsked (nI m) (nI p) (nI k) σ = some 1 := by
  unfold f_X12_isAsked
  rw [m_man1 hT hR hm, bs, if_neg n10, (pt1 hp _).2.1, if_neg n10, (pt1 hk _).2.2.2, if_neg n10]
/-- what is asked: a man, a part, a kind, or none of it -/
theorem asked {b : Bool} {T : zT} {σc σm : zS} (hT : okT T) (hC : RC b T σc) (hM : RM T σm) (x y z : Int32) : (f_X12_isAsked x y z σm = some 0 ∧ ∀ (Q : Option (Int32 × zS)) (r : Int32 × zS), (if f_X11_isMan x σc = 0 then some r else if f_X11_isPart y σc = 0 then some r else if f_X11_isKind z σc = 0 then some r else Q) = some r) ∨ (∃ m p k, m < T 4 2 ∧ p < 4 ∧ k < 4 ∧ x = nI m ∧ y = nI p ∧ z = nI k) := by
  have o := hT.1
  unfold f_X12_isAsked
  rcases ix x (n := T 4 2) (by omega) with hx | ⟨m, hm, rfl⟩
  · left
    refine ⟨by rw [m_man0 hM hx, bs, if_pos rfl], fun Q r => by rw [c_man0 hC hx, if_pos rfl]⟩
  · rcases ix y (n := 4) (by omega) with hy | ⟨p, hp, rfl⟩
    · left
      refine ⟨by rw [m_man1 hT hM hm, bs, if_neg n10, (pt0 hy _).2.1, if_pos rfl], fun Q r => by rw [c_man1 hT hC hm, if_neg n10, (pt0 hy _).1, if_pos rfl]⟩
    · rcases ix z (n := 4) (by omega) with hz | ⟨k, hk, rfl⟩
      · left
        refine ⟨by rw [m_man1 hT hM hm, bs, if_neg n10, (pt1 hp _).2.1, if_neg n10, (pt0 hz _).2.2.2, if_pos rfl], fun Q r => by rw [c_man1 hT hC hm, if_neg n10, (pt1 hp _).1, if_neg n10, (pt0 hz _).2.2.1, if_pos rfl]⟩
      · exact .inr ⟨m, p, k, hm, hp, hk, rfl, rfl, rfl⟩
/-- the class's search, whole -/
theorem c_near {b : Bool} {T D : zT} {mv : Int32} {m p k : Nat} {σ : zS} (hC : CC b T (-1) (-1) σ) (h : DC T 700 D mv σ) (oD : okD T D) (hm : m < T 4 2) (hp : p < 4) (hk : k < 4) :
    ∃ σ' sz q, f_X11_nearestLawful (nI m) (nI p) (nI k) σ = some (match fstG (fun s => lawB T (-1) m s p k (D 0 0)) q sz 0 with | none => -1 | some l => nI (q l), σ') ∧ Fc b [0, 13] σ σ' ∧ BA (T 4 0) (D 1 m) σ' sz q := by
  have o := hC.1.1
  have om := oD.2.1 m hm
  obtain ⟨σ1, sz, q, e1, f1, b1⟩ := c_explore (b := b) (n := T 4 0) (a := D 1 m) (σ := σ) (by omega) om.1
  obtain ⟨σ2, e2, f2⟩ := c_nearL oD hm hp hk b1.2.2 sz 0 FU σ1 (by omega) (by unfold FU; have := b1.2.2; omega) (hC.mono f1 rfl rfl) (DC.mono (z := 3) (.inl ⟨rfl, rfl⟩) h f1 rfl) b1.1
  replace e2 : f_X11_nearestLawful_26 FU (nI m) (nI p) (nI k) 0 σ1 = _ := e2
  refine ⟨σ2, sz, q, ?_, (f1.mono rfl).tr (f2.mono rfl), b1.1.mono (b := b) (by omega) f2 rfl, b1.2⟩
  unfold f_X11_nearestLawful
  rw [rd_nI (by omega) (by omega), bs, (h.s7 hm).1, hC.2.1.1.1, hC.2.1.2.1.1, e1, bs, e2]
/-- the reference's steps to a goal, whole -/
theorem m_steps {T D : zT} {mv : Int32} {m p k : Nat} {σ : zS} (hC : CM T (-1) (-1) σ) (h : DM T 0 D mv σ) (oD : okD T D) (hm : m < T 4 2) (hp : p < 4) (hk : k < 4) :
    ∃ σ1 σ2, f_X12_layGoal (nI m) (nI p) (nI k) σ = some σ1 ∧ f_X12_layToGoal σ1 = some σ2 ∧ Fm [0, 13, 16] σ σ2 ∧ (∀ x, x < 16 * T 4 0 → σ2.1 5049 x = nI (mnG (fun s => lawB T (-1) m s p k (D 0 0)) x (16 * T 4 0))) := by
  have o := hC.1.1
  obtain ⟨σ1, e1, f1, g1⟩ := m_layGoal oD hm hp hk hC h
  obtain ⟨σ2, e2, f2, g2⟩ := m_toGoalL (G := fun s => lawB T (-1) m s p k (D 0 0)) hC.1 192 0 FU σ1 (by omega) (by unfold FU; omega) (hC.mono f1 rfl rfl).2.1 g1 (fun x hx => by omega)
  exact ⟨σ1, σ2, e1, e2, (f1.mono rfl).tr (f2.mono rfl), g2⟩
theorem o_fewest : op_fewest V := by
  intro x y z σc σm ⟨b, T, D, mv, h⟩
  have h0 := h.th 0
  have hT := h.oT
  have o := hT.1
  unfold f_X11_fewest f_X12_fewest
  rw [lts]
  rcases asked hT h.cc.2.1 h0.cm.2.1 x y z with ⟨e0, hc⟩ | ⟨m, p, k, hm, hp, hk, rfl, rfl, rfl⟩
  · rw [e0, bs, if_pos rfl, hc]
    exact ⟨-1, σc, _, rfl, rfl, h0.v⟩
  · rw [m_asked hT h0.cm.2.1 hm hp hk, bs, if_neg n10, c_man1 hT h.cc.2.1 hm, if_neg n10, (pt1 hp _).1, if_neg n10, (pt1 hk _).2.2.1, if_neg n10]
    have om := h.oD.2.1 m hm
    obtain ⟨σ1, sz, q, e1, f1, b1⟩ := c_near h.cc h.dc h.oD hm hp hk
    obtain ⟨σ2, σ3, e2, e3, f3, g3⟩ := m_steps h0.cm h0.dm h.oD hm hp hk
    have dm3 := DM.mono hT h0.dm f3 rfl
    rw [e1, b2s, e2, bs, e3, bs, rd_nI (by omega) (by omega), bs, (dm3.s0 hm).1, rd_nI (by omega) (by omega), bs, g3 _ om.1, bs, rd_nI (by omega) (by omega), bs, g3 _ om.1]
    have fin := h0.q2 (f1.mono rfl) (f3.mono rfl)
    rcases near_G (G := fun s => lawB T (-1) m s p k (D 0 0)) (by omega) om.1 b1 with ⟨z1, z2⟩ | ⟨l, z1, z2, z3, z4, z5, z6⟩
    · rw [z1, z2]
      exact ⟨-2, σ1, σ3, rfl, rfl, fin⟩
    · have df := (dst_facts (a := D 1 m) (s := q l) (by omega) (by omega)).2.2.1
      rw [z1, z5, if_pos (show nI (dst (D 1 m) (q l)) < (1000 : Int32) from nI_lt (b := 1000) (by omega) (by omega))]
      refine ⟨nI (dst (D 1 m) (q l)), σ1, σ3, ?_, rfl, fin⟩
      show (if nI (q l) = -1 then some (-2, σ1) else (rdI σ1 1503 192 (nI (q l))).bind fun v_12 => some (v_12, σ1)) = _
      rw [if_neg (nI_nm1 (by omega)), rd_nI (by omega) (by omega), bs, (b1.1.2.2.2.1 l z2).2.2.1]
