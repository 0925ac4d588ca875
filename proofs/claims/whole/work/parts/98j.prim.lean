/-! The pure part: text. Plain pieces of both, brackets -/
section
variable {d : Bool} {f : Nat → Nat} {N r o K K0 : Nat} {L : zK} {σ μ : zS}
theorem X_228 {rm : Nat → zS → Option zS} (h : ¬ μ.1 5000 28 = 0) (x y : Int32) : f_X12_primary_228 rm x y μ = some μ := by
  unfold f_X12_primary_228
  rw [X_put h, bs, X_goOn h, bs]
theorem X_170 {rm : Nat → zS → Option zS} (h : ¬ μ.1 5000 28 = 0) (x : Int32) : f_X12_primary_170 rm x μ = some μ := by
  have e : ∀ y : Int32, f_X12_primary_184 rm x y μ = some μ := fun y => by
    unfold f_X12_primary_184
    by_cases h1 : x = 0
    · rw [if_pos h1]
      by_cases h2 : μ.1 5000 27 = 3
      · rw [if_pos h2, X_228 h]
      · rw [if_neg h2]
        by_cases h3 : μ.1 5000 27 = 34
        · rw [if_pos h3, X_228 h]
        · rw [if_neg h3, X_228 h]
    · rw [if_neg h1, X_228 h]
  unfold f_X12_primary_170
  rw [X_knot h, bs, e, e]
  split <;> rfl
theorem X_31 {rm : Nat → zS → Option zS} (h : ¬ μ.1 5000 28 = 0) : f_X12_primary_31 rm μ = some μ := by
  unfold f_X12_primary_31
  rw [if_neg h]
theorem X_78 {rm : Nat → zS → Option zS} (h : ¬ μ.1 5000 28 = 0) : f_X12_primary_78 rm μ = some μ := by
  unfold f_X12_primary_78
  rw [if_neg h]
theorem m_knot27 (μ : zS) : ∃ m, f_X12_knot μ = some m ∧ m.1 5000 27 = μ.1 5000 27 := by
  unfold f_X12_knot
  by_cases h0 : μ.1 5000 28 = 0
  · rw [if_pos h0]
    by_cases h1 : μ.1 5000 33 = 64
    · rw [if_pos h1]
      unfold f_X12_wrong
      rw [if_pos h0, lts, lts, bs]
      exact ⟨_, rfl, by rw [wI_at, if_neg (by omega), wI_at, if_neg (by omega)]⟩
    · rw [if_neg h1, lts]
      exact ⟨_, rfl, by rw [wI_at, if_neg (by omega)]⟩
  · rw [if_neg h0]; exact ⟨μ, rfl, rfl⟩
theorem j_push {rc : Nat → Int32 → zS → Option (Int32 × zS)} {rm : Nat → zS → Option zS} {s v : Nat} {x1 x2 y1 y2 : Int32} (h : JE d f N r o K L σ μ) (hk : ¬ σ.1 500 4 = 0) (hs : s ≠ 2) (hx1 : x1 = nI s) (hx2 : x2 = nI v) (hy1 : y1 = nI s) (hy2 : y2 = nI v) :
    RX d f N r o K L (fun E => E = [(s, v)]) (f_X6_readPlain_108 rc x2 x1 σ) ((f_X12_knot μ).bind fun m => f_X12_primary_228 rm y1 y2 m) σ μ := by
  have hK := h.2.2.2.2.1
  have hl := h.2.2.2.2.2
  have e0 : σ.1 (tl (σ.2.2 3)) 0 = nI K := by rw [h.2.2.1.1]; exact h.2.2.1.2.1
  have e1 : μ.1 5000 33 = nI K := h.2.2.2.1.2.1
  have n0 := h.2.1.1
  have td : tl d = 1300 ∨ tl d = 1400 := by cases d <;> simp [tl]
  unfold f_X12_knot f_X6_readPlain_108 f_X6_takeKnot
  rw [e0, e1, if_pos n0]
  by_cases h64 : K < 64
  · obtain ⟨h', G1, G2⟩ := j_cnt h h64
    rw [if_pos (show nI K < (64 : Int32) from nI_lt (b := 64) h64 (by omega)), if_neg (show ¬ nI K = (64 : Int32) from fun z => by have := (nI_eq (b := 64) (by omega) (by omega)).mp z; omega), lts, lts, nI_1, h.2.2.1.1, bs]
    obtain ⟨i1, i2, i3, i4, i5, i6⟩ := h'
    obtain ⟨μ2, e2, F2, c2⟩ := m_kput (s := s) (v := v) d i4 i2.1 (by omega) hy1 hy2
    have i1' : JT f N r (wI σ (tl d) 0 (nI (K + 1))) μ2 := i1.fr (FD.rf (d := d) (Z := [])) F2 rfl rfl rfl rfl
    have i2' : NF (wI σ (tl d) 0 (nI (K + 1))) μ2 := i2.fr (FD.rf (d := d) (Z := [])) F2 rfl rfl
    obtain ⟨σ3, μ3, a1, a2, F3, G3, J⟩ := j_adv1 (d := d) i1' (by rw [wI_at, if_neg (by omega)]; exact hk)
    obtain ⟨σ4, e4, F4, c4⟩ := c_kput (s := s) (v := v) (x2 := x2) (i3.fr F3 rfl) (by omega) (fun _ => hx2)
    have hen : encO s v = s := by unfold encO; rw [if_neg hs]
    rw [hen, ← hx1] at e4
    unfold f_X12_primary_228 f_X12_goOn
    rw [a1, bs, b2s, if_neg (by decide), e2, bs, if_pos i2'.1, a2, bs, bs, (i3.fr F3 rfl).1, e4, bs]
    refine ⟨σ4, μ3, rfl, ((G1.mono rfl).tr (F3.mono rfl)).tr (F4.mono rfl), ((G2.mono rfl).tr (F2.mono rfl)).tr (G3.mono rfl), .inr ⟨rfl, [(s, v)], ⟨(J.mono (by omega)).fr F4 (FD.rf (d := d) (Z := [])) rfl rfl rfl rfl, (i2'.fr F3 G3 rfl rfl).fr F4 (FD.rf (d := d) (Z := [])) rfl rfl, c4, c2.fr G3 rfl, by simp only [List.length_cons, List.length_nil]; omega, by simp only [List.length_append, List.length_cons, List.length_nil]; omega⟩, rfl⟩⟩
  · have e64 : K = 64 := by omega
    obtain ⟨σ', μ', a1, a2, F1, F2, J⟩ := j_ref d h.1 h.2.1 (k := 2) (by decide)
    rw [e64, if_neg (show ¬ nI 64 < (64 : Int32) by decide), if_pos (show nI 64 = (64 : Int32) from rfl), a1, a2, b2s, b2s, bs, if_pos rfl, bs, X_228 J.1]
    exact ⟨σ', μ', rfl, F1.mono rfl, F2.mono rfl, .inl ⟨rfl, J⟩⟩
def nmW (w : Nat) : Nat := if w = 3 then 5 else if w = 33 then 6 else w - 28
theorem nmC : ∀ w, w < 34 → (if nI w < 28 then (if nI w = 3 then (5 : Int32) else if nI w = 33 then 6 else -1) else if (32 : Int32) < nI w then (if nI w = 3 then (5 : Int32) else if nI w = 33 then 6 else -1) else nI w - 28) = if w = 3 ∨ 28 ≤ w then nI (nmW w) else -1 := by decide +kernel
theorem nmM : ∀ w, w < 34 → w = 3 ∨ 28 ≤ w → (if nI (w34 w) = 3 then (5 : Int32) else if nI (w34 w) = 34 then 6 else nI (w34 w) - 28) = nI (nmW w) := by decide +kernel
theorem nmL : ∀ w, w < 34 → w = 3 ∨ 28 ≤ w → nmW w < 7 := by decide +kernel
theorem c_name {x : Int32} (h6 : σ.1 500 6 = x) : f_X6_nameAtHand σ = (if x < 28 then (if x = 3 then (5 : Int32) else if x = 33 then 6 else -1) else if (32 : Int32) < x then (if x = 3 then (5 : Int32) else if x = 33 then 6 else -1) else x - 28) := by
  unfold f_X6_nameAtHand f_X6_nameAtHand_25
  rw [lts, h6]
/-- neither number nor name: the same fault -/
theorem j_bad {rm : Nat → zS → Option zS} (h : JE d f N r o K L σ μ) (x : Int32) (P : zK → Prop) : RX d f N r o K L P (b2 (f_X7_refuse 1 σ) fun v s => some (v, s)) (f_X12_primary_165 rm x μ) σ μ := by
  obtain ⟨σ', μ', a1, a2, F1, F2, J⟩ := j_ref d h.1 h.2.1 (k := 1) (by decide)
  unfold f_X12_primary_165
  rw [a1, a2, b2s, bs, X_170 J.1]
  exact ⟨σ', μ', rfl, F1.mono rfl, F2.mono rfl, .inl ⟨rfl, J⟩⟩
theorem RX.imp {P Q : zK → Prop} {x : Option (Int32 × zS)} {y : Option zS} (h : RX d f N r o K L P x y σ μ) (i : ∀ E, P E → Q E) : RX d f N r o K L Q x y σ μ := by
  obtain ⟨σ', μ', a, b, c, e⟩ := h
  exact ⟨σ', μ', a, b, c, e.imp id (fun ⟨p, E, q, s⟩ => ⟨p, E, q, i E s⟩)⟩
theorem j_plain0 {rc : Nat → Int32 → zS → Option (Int32 × zS)} {rm : Nat → zS → Option zS} (h : JE d f N r o K L σ μ) (hs : f_X7_isSign 40 σ = 0) : RX d f N r o K L goodE (F_X6_readPlain rc (nI o) σ) (F_X12_primary rm μ) σ μ := by
  have n0 := h.2.1.1
  unfold F_X6_readPlain F_X12_primary
  rw [if_pos n0, show f_X12_isSign 40 μ = f_X7_isSign 40 σ from h.1.sign n0 (w := 40) (by omega), if_pos hs, if_pos hs, lts]
  obtain ⟨p, -, -, c, -⟩ := h.1
  rcases c with ⟨a, b⟩ | ⟨w, hw, a, b, c, e⟩ | ⟨X, hX, a, b, c, e, g⟩ | ⟨x, y, hx, hy, hr, a, b, c, e⟩ | ⟨v, hv, a, b, c, e⟩ | ⟨a, b⟩
  · unfold f_X6_readPlain_46 f_X6_readPlain_71 f_X6_readPlain_72 f_X12_primary_114 f_X12_primary_137
    rw [a, b, if_neg (by decide), if_neg (by decide), if_neg (by decide), if_pos rfl, if_neg (by decide), if_pos rfl, if_pos rfl, if_neg (by decide)]
    exact j_bad h 0 goodE
  · rw [a, if_pos rfl, lts, c_name b, nmC w hw, c, if_neg (show ¬ (0 : Int32) = 2 by decide)]
    unfold f_X6_readPlain_46 f_X12_primary_114 f_X12_primary_137
    rw [a, c, e, if_neg (by decide), if_pos rfl, if_pos rfl, if_pos rfl, if_pos rfl]
    by_cases hn : w = 3 ∨ 28 ≤ w
    · have e27 : (if (28 : Int32) ≤ nI (w34 w) then f_X12_primary_170 rm 0 μ else if nI (w34 w) = 3 then f_X12_primary_170 rm 0 μ else f_X12_primary_165 rm 0 μ) = f_X12_primary_170 rm 0 μ := by
        by_cases h28 : 28 ≤ w
        · rw [if_pos (show (28 : Int32) ≤ nI (w34 w) from nI_le (a := 28) (by unfold w34; split <;> omega) (by unfold w34; split <;> omega))]
        · have : w = 3 := by omega
          subst this
          rw [if_neg (by decide), if_pos (by decide)]
      have hl := nmL w hw hn
      rw [if_pos hn, e27, if_neg (nI_nm1 (by omega))]
      unfold f_X6_readPlain_67 f_X6_readPlain_72
      rw [if_neg (by decide), if_neg (by decide)]
      obtain ⟨m, hm, h27⟩ := m_knot27 μ
      have e170 : f_X12_primary_170 rm 0 μ = (f_X12_knot μ).bind fun m => f_X12_primary_228 rm 1 (nI (nmW w)) m := by
        unfold f_X12_primary_170 f_X12_primary_184
        rw [hm, bs, bs, if_pos rfl, if_pos rfl, h27, e, ← nmM w hw hn]
        split
        · rfl
        · split <;> rfl
      rw [e170]
      exact (j_push (s := 1) (v := nmW w) h (by rw [a]; decide) (by decide) rfl rfl rfl rfl).imp (fun E z => by rw [z]; exact goodE.name hl)
    · have e27 : (if (28 : Int32) ≤ nI (w34 w) then f_X12_primary_170 rm 0 μ else if nI (w34 w) = 3 then f_X12_primary_170 rm 0 μ else f_X12_primary_165 rm 0 μ) = f_X12_primary_165 rm 0 μ := by
        have e34 : w34 w = w := by unfold w34; split <;> omega
        rw [e34, if_neg (show ¬ (28 : Int32) ≤ nI w from nI_ge (b := 28) (by omega) (by omega)), if_neg (show ¬ nI w = (3 : Int32) from fun z => by have := (nI_eq (b := 3) (by omega) (by omega)).mp z; omega)]
      rw [if_neg hn, e27, if_pos rfl]
      unfold f_X6_readPlain_71 f_X6_readPlain_72
      rw [if_pos rfl]
      exact j_bad h 0 goodE
  · have en : f_X6_nameAtHand σ = -1 := by rw [c_name b]; decide
    rw [a, if_pos rfl, lts, en, e, if_neg (show ¬ (1 : Int32) = 2 by decide)]
    unfold f_X6_readPlain_46 f_X6_readPlain_71 f_X6_readPlain_72 f_X12_primary_114 f_X12_primary_137
    rw [a, e, if_neg (show ¬ (1 : Int32) = 2 by decide), if_pos rfl, if_pos rfl, if_pos rfl, if_pos rfl, if_pos rfl, if_neg (show ¬ (1 : Int32) = 0 by decide)]
    exact j_bad h 0 goodE
  · rw [a, if_neg (by decide), b, c, if_pos rfl]
    unfold f_X6_readPlain_46 f_X6_readPlain_67 f_X6_readPlain_72 f_X12_primary_114 f_X12_primary_137
    have n10 : ¬ (1 : Int32) = 0 := by decide
    rw [a, if_pos rfl, if_neg n10, if_pos rfl, if_neg n10, if_neg n10, e]
    by_cases h9 : x ≤ 9999
    · have hxy : x = y := by omega
      subst hxy
      rw [if_pos (show nI x ≤ (9999 : Int32) from nI_le (b := 9999) h9 (by omega)), if_pos (show nI x ≤ (9999 : Int32) from nI_le (b := 9999) h9 (by omega))]
      obtain ⟨m, hm, h27⟩ := m_knot27 μ
      have e170 : f_X12_primary_170 rm 1 μ = (f_X12_knot μ).bind fun m => f_X12_primary_228 rm 0 (nI x) m := by
        unfold f_X12_primary_170 f_X12_primary_184
        rw [hm, bs, bs, if_neg (by decide), if_neg (by decide), h27, e]
      rw [e170]
      exact (j_push (s := 0) (v := x) h (by rw [a]; decide) (by decide) rfl rfl rfl rfl).imp (fun E z => by rw [z]; exact goodE.num h9)
    · rw [if_neg (show ¬ nI x ≤ (9999 : Int32) from nI_ge (a := 9999) (by omega) (by omega)), if_neg (show ¬ nI y ≤ (9999 : Int32) from nI_ge (a := 9999) (by omega) (by omega))]
      obtain ⟨σ', μ', a1, a2, F1, F2, J⟩ := j_ref d h.1 h.2.1 (k := 2) (by decide)
      rw [a1, a2, b2s, bs, X_170 J.1]
      exact ⟨σ', μ', rfl, F1.mono rfl, F2.mono rfl, .inl ⟨rfl, J⟩⟩
  · unfold f_X6_readPlain_46 f_X6_readPlain_71 f_X6_readPlain_72 f_X12_primary_114 f_X12_primary_137
    rw [a, c, if_neg (by decide), if_neg (by decide), if_neg (by decide), if_pos rfl, if_neg (by decide), if_pos rfl, if_pos rfl, if_neg (by decide)]
    exact j_bad h 0 goodE
  · unfold f_X6_readPlain_46 f_X6_readPlain_71 f_X6_readPlain_72 f_X12_primary_114 f_X12_primary_137
    rw [a, b, if_neg (by decide), if_neg (by decide), if_neg (by decide), if_pos rfl, if_neg (by decide), if_pos rfl, if_pos rfl, if_neg (by decide)]
    exact j_bad h 0 goodE
theorem JE.opn {o' : Nat} (h : JE d f N r o K L σ μ) : JE d f N r o' K L σ (wI μ 5000 32 (nI o')) ∧ FD d [7] μ (wI μ 5000 32 (nI o')) := by
  have F2 : FD d [7] μ (wI μ 5000 32 (nI o')) := FD.rf.wI rfl
  obtain ⟨h1, h2, h3, h4, h5⟩ := h
  refine ⟨⟨h1.fr (FD.rf (d := d) (Z := [])) F2 rfl rfl rfl rfl, h2.fr (FD.rf (d := d) (Z := [])) F2 rfl rfl, h3, ⟨wI_self _ _ _ _, ?_, ?_, fun i hi => ?_⟩, h5⟩, F2⟩
  · rw [wI_at, if_neg (by omega)]; exact h4.2.1
  · rw [wI_at, if_neg (by omega)]; exact h4.2.2.1
  · rw [wI_at, if_neg (by omega), wI_at, if_neg (by omega)]; exact h4.2.2.2 i hi
theorem j_inner {rc : Nat → Int32 → zS → Option (Int32 × zS)} {rm : Nat → zS → Option zS} (H : o < 8 → HX d f N r (o + 1) K0 (rc 0 (nI (o + 1))) (rm 0)) (ho : o ≤ 8) (hK : K0 ≤ K) (h : JE d f N r o K L σ μ) (hs : ¬ f_X7_isSign 40 σ = 0) :
    RX d f N r o K L goodE (F_X6_readInner rc (nI o) σ) (if μ.1 5000 32 = 8 then (f_X12_wrong 2 μ).bind fun m => f_X12_primary_31 rm m else f_X12_primary_31 rm μ) σ μ := by
  have e32 : μ.1 5000 32 = nI o := h.2.2.2.1.1
  unfold F_X6_readInner
  rw [e32]
  by_cases h8 : o < 8
  · rw [if_pos (show nI o < (8 : Int32) from nI_lt (b := 8) h8 (by omega)), if_neg (show ¬ nI o = (8 : Int32) from fun z => by have := (nI_eq (b := 8) (by omega) (by omega)).mp z; omega)]
    obtain ⟨h', G0⟩ := h.opn (o' := o + 1)
    obtain ⟨σ1, μ1, e1, e2, F1, G1, h1⟩ := h'.adv (by rw [(isS_k hs).1]; decide)
    unfold f_X12_primary_31
    rw [if_pos h.2.1.1, e32, nI_1, e1, bs, lts, e2, bs]
    obtain ⟨σ2, μ2, e3, F2, G2, q⟩ := (H h8).1 K L σ1 μ1 hK h1
    rw [e3, bs]
    rcases q with ⟨e4, X⟩ | ⟨e4, E, h2, gE⟩
    · rw [e4, b2s, if_pos rfl, if_neg X.1, X_78 X.1]
      exact ⟨σ2, μ2, rfl, (F1.mono rfl).tr F2, ((G0.mono rfl).tr (G1.mono rfl)).tr G2, .inl ⟨rfl, X⟩⟩
    · rw [e4, b2s, if_neg (by decide), if_pos h2.2.1.1, show f_X12_isSign 41 μ2 = f_X7_isSign 41 σ2 from h2.1.sign h2.2.1.1 (w := 41) (by omega)]
      by_cases es : f_X7_isSign 41 σ2 = 0
      · obtain ⟨σ3, μ3, a1, a2, F3, G3, J⟩ := j_ref d h2.1 h2.2.1 (k := 1) (by decide)
        rw [if_pos es, if_pos es, a1, a2, b2s, bs, X_78 J.1]
        exact ⟨σ3, μ3, rfl, ((F1.mono rfl).tr F2).tr (F3.mono rfl), (((G0.mono rfl).tr (G1.mono rfl)).tr G2).tr (G3.mono rfl), .inl ⟨rfl, J⟩⟩
      · rw [if_neg es, if_neg es]
        obtain ⟨h2', G0'⟩ := h2.opn (o' := o)
        obtain ⟨σ3, μ3, a1, a2, F3, G3, h3⟩ := h2'.adv (by rw [(isS_k es).1]; decide)
        unfold f_X12_primary_78
        rw [if_pos h2.2.1.1, h2.2.2.2.1.1, nI_pred, lts, a1, a2, bs, bs]
        exact ⟨σ3, μ3, rfl, ((F1.mono rfl).tr F2).tr (F3.mono rfl), ((((G0.mono rfl).tr (G1.mono rfl)).tr G2).tr (G0'.mono rfl)).tr (G3.mono rfl), .inr ⟨rfl, E, h3, gE⟩⟩
  · have e8 : o = 8 := by omega
    obtain ⟨σ', μ', a1, a2, F1, F2, J⟩ := j_ref d h.1 h.2.1 (k := 2) (by decide)
    rw [e8, if_neg (show ¬ nI 8 < (8 : Int32) by decide), if_pos (show nI 8 = (8 : Int32) from rfl), a1, a2, b2s, bs, X_31 J.1]
    exact ⟨σ', μ', rfl, F1.mono rfl, F2.mono rfl, .inl ⟨rfl, J⟩⟩
theorem j_plain {rc rc' : Nat → Int32 → zS → Option (Int32 × zS)} {rm : Nat → zS → Option zS} (hr : ∀ σ, rc 7 (nI o) σ = F_X6_readInner rc' (nI o) σ) (H : o < 8 → HX d f N r (o + 1) K0 (rc' 0 (nI (o + 1))) (rm 0)) (ho : o ≤ 8) : HX d f N r o K0 (F_X6_readPlain rc (nI o)) (F_X12_primary rm) := by
  refine ⟨fun K L σ μ hK h => ?_, fun μ h => by unfold F_X12_primary; rw [if_neg h]⟩
  by_cases hs : f_X7_isSign 40 σ = 0
  · exact j_plain0 h hs
  · have n0 := h.2.1.1
    have q := j_inner H ho hK h hs
    unfold F_X6_readPlain F_X12_primary
    rw [if_pos n0, show f_X12_isSign 40 μ = f_X7_isSign 40 σ from h.1.sign n0 (w := 40) (by omega), if_neg hs, if_neg hs, hr]
    have eb : ∀ y : Option (Int32 × zS), b2 y (fun v s => some (v, s)) = y := fun y => by cases y <;> rfl
    rw [eb]
    exact q
end
