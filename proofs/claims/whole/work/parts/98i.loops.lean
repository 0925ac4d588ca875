/-! The pure part: text. The loops of the expressions (written by wip/gen/genx.py) -/
section
variable {d : Bool} {f : Nat → Nat} {N r o K K0 : Nat} {L : zK} {σ μ : zS}
theorem X_expression4 {rm : Nat → zS → Option zS} (h : ¬ μ.1 5000 28 = 0) : ∀ n, 0 < n → f_X12_expression_4 rm n μ = some μ
  | 0, z => absurd z (by decide)
  | n + 1, _ => by unfold f_X12_expression_4; rw [if_pos (X_word h _)]
theorem j_expression4 {rc : Nat → Int32 → zS → Option (Int32 × zS)} {rm : Nat → zS → Option zS} (H : HX d f N r o K0 (rc 1 (nI o)) (rm 1)) (j : Nat) : ∀ (i K : Nat) (L : zK) (σ μ : zS) (fc fm : Nat), 64 ≤ K + j → i ≤ K → K0 ≤ K → j < fc → j + 1 < fm →
    JE d f N r o K L σ μ → RX d f N r o K L tailE (f_X6_readEither_12 rc fc (nI o) (nI i) σ) (f_X12_expression_4 rm fm μ) σ μ := by
  induction j using Nat.strongRecOn with
  | _ j ih =>
  intro i K L σ μ fc fm hj hi hK hfc hfm h
  obtain ⟨fc, rfl⟩ : ∃ n, fc = n + 1 := ⟨fc - 1, by omega⟩
  obtain ⟨fm, rfl⟩ : ∃ n, fm = n + 1 := ⟨fm - 1, by omega⟩
  have hK64 := h.2.2.2.2.1
  have hlen := h.2.2.2.2.2
  unfold f_X6_readEither_12 f_X12_expression_4
  rw [if_neg (show ¬ (64 : Int32) < nI i from nI_nlt (a := 64) (by omega) (by omega))]
  rw [show f_X12_isWord 25 μ = f_X7_isWord 25 σ from h.1.word h.2.1.1 (w := 25) (by omega)]
  by_cases e : f_X7_isWord 25 σ = 0
  · rw [if_pos e, if_pos e]
    exact ⟨σ, μ, rfl, FD.rf, FD.rf, .inr ⟨rfl, [], h.nil, tailE.nil⟩⟩
  · rw [if_neg e, if_neg e]
    obtain ⟨σ1, μ0, μ1, e1, e2, F1, G1, q⟩ := j_knot h (isW_k e)
    rw [e1, bs, e2, bs]
    rcases q with ⟨e3, X⟩ | ⟨e3, h64, h1⟩
    · rw [e3, b2s, if_pos rfl, H.2 _ X.1, bs, X_put X.1, bs, X_expression4 X.1 fm (by omega)]
      exact ⟨σ1, μ1, rfl, F1, G1, .inl ⟨rfl, X⟩⟩
    · rw [e3, b2s, if_neg (by decide)]
      obtain ⟨σ2, μ2, e4, F2, G2, q⟩ := H.1 (K + 1) L σ1 μ1 (by omega) h1
      rw [e4, bs]
      rcases q with ⟨e5, X⟩ | ⟨e5, E, h2, gE⟩
      · rw [e5, b2s, if_pos rfl, X_put X.1, bs, X_expression4 X.1 fm (by omega)]
        exact ⟨σ2, μ2, rfl, F1.tr F2, G1.tr G2, .inl ⟨rfl, X⟩⟩
      · rw [e5, b2s, if_neg (by decide)]
        obtain ⟨σ3, μ3, e6, e7, F3, G3, h3⟩ := j_put (s := 2) (v := 262) (x1 := 2) (x2 := 0) (y1 := 2) (y2 := 262) h2 (by rw [List.length_append]; omega) rfl (fun z => absurd rfl z) rfl rfl
        rw [e6, bs, e7, bs, nI_1]
        obtain ⟨σ4, μ4, e8, F4, G4, q⟩ := ih (j - 1) (by omega) (i + 1) (K + 1 + E.length) _ σ3 μ3 fc fm (by omega) (by omega) (by omega) (by omega) (by omega) h3
        refine ⟨σ4, μ4, e8, ((F1.tr F2).tr (F3.mono rfl)).tr F4, ((G1.tr G2).tr (G3.mono rfl)).tr G4, q.imp id ?_⟩
        rintro ⟨a, E', h4, t⟩
        exact ⟨a, E ++ [(2, 262)] ++ E', h4.cast (by simp only [List.length_append, List.length_cons, List.length_nil]; omega) (by simp only [List.append_assoc]), tailE.step rfl gE t⟩
theorem j_expression {rc : Nat → Int32 → zS → Option (Int32 × zS)} {rm : Nat → zS → Option zS} (H : HX d f N r o K0 (rc 1 (nI o)) (rm 1)) : HX d f N r o K0 (F_X6_readEither rc (nI o)) (F_X12_expression rm) := by
  refine ⟨fun K L σ μ hK h => ?_, fun μ h => ?_⟩
  · unfold F_X6_readEither F_X12_expression
    obtain ⟨σ1, μ1, e1, F1, G1, q⟩ := H.1 K L σ μ hK h
    rw [e1, bs]
    rcases q with ⟨e2, X⟩ | ⟨e2, E, h1, gE⟩
    · rw [e2, b2s, if_pos rfl, X_expression4 X.1 FU (by decide)]
      exact ⟨σ1, μ1, rfl, F1, G1, .inl ⟨rfl, X⟩⟩
    · rw [e2, b2s, if_neg (by decide)]
      obtain ⟨σ2, μ2, e3, F2, G2, q⟩ := j_expression4 H 64 0 (K + E.length) (L ++ E) σ1 μ1 FU FU (by omega) (by omega) (by omega) (by decide) (by decide) h1
      rw [show (0 : Int32) = nI 0 from rfl]
      refine ⟨σ2, μ2, e3, F1.tr F2, G1.tr G2, q.imp id ?_⟩
      rintro ⟨a, E', h4, t⟩
      exact ⟨a, E ++ E', h4.cast (by rw [List.length_append]; omega) (by rw [List.append_assoc]), gE.tail t⟩
  · unfold F_X12_expression
    rw [H.2 μ h, bs, X_expression4 h FU (by decide)]
theorem X_conjunction4 {rm : Nat → zS → Option zS} (h : ¬ μ.1 5000 28 = 0) : ∀ n, 0 < n → f_X12_conjunction_4 rm n μ = some μ
  | 0, z => absurd z (by decide)
  | n + 1, _ => by unfold f_X12_conjunction_4; rw [if_pos (X_word h _)]
theorem j_conjunction4 {rc : Nat → Int32 → zS → Option (Int32 × zS)} {rm : Nat → zS → Option zS} (H : HX d f N r o K0 (rc 2 (nI o)) (rm 2)) (j : Nat) : ∀ (i K : Nat) (L : zK) (σ μ : zS) (fc fm : Nat), 64 ≤ K + j → i ≤ K → K0 ≤ K → j < fc → j + 1 < fm →
    JE d f N r o K L σ μ → RX d f N r o K L tailE (f_X6_readBoth_12 rc fc (nI o) (nI i) σ) (f_X12_conjunction_4 rm fm μ) σ μ := by
  induction j using Nat.strongRecOn with
  | _ j ih =>
  intro i K L σ μ fc fm hj hi hK hfc hfm h
  obtain ⟨fc, rfl⟩ : ∃ n, fc = n + 1 := ⟨fc - 1, by omega⟩
  obtain ⟨fm, rfl⟩ : ∃ n, fm = n + 1 := ⟨fm - 1, by omega⟩
  have hK64 := h.2.2.2.2.1
  have hlen := h.2.2.2.2.2
  unfold f_X6_readBoth_12 f_X12_conjunction_4
  rw [if_neg (show ¬ (64 : Int32) < nI i from nI_nlt (a := 64) (by omega) (by omega))]
  rw [show f_X12_isWord 26 μ = f_X7_isWord 26 σ from h.1.word h.2.1.1 (w := 26) (by omega)]
  by_cases e : f_X7_isWord 26 σ = 0
  · rw [if_pos e, if_pos e]
    exact ⟨σ, μ, rfl, FD.rf, FD.rf, .inr ⟨rfl, [], h.nil, tailE.nil⟩⟩
  · rw [if_neg e, if_neg e]
    obtain ⟨σ1, μ0, μ1, e1, e2, F1, G1, q⟩ := j_knot h (isW_k e)
    rw [e1, bs, e2, bs]
    rcases q with ⟨e3, X⟩ | ⟨e3, h64, h1⟩
    · rw [e3, b2s, if_pos rfl, H.2 _ X.1, bs, X_put X.1, bs, X_conjunction4 X.1 fm (by omega)]
      exact ⟨σ1, μ1, rfl, F1, G1, .inl ⟨rfl, X⟩⟩
    · rw [e3, b2s, if_neg (by decide)]
      obtain ⟨σ2, μ2, e4, F2, G2, q⟩ := H.1 (K + 1) L σ1 μ1 (by omega) h1
      rw [e4, bs]
      rcases q with ⟨e5, X⟩ | ⟨e5, E, h2, gE⟩
      · rw [e5, b2s, if_pos rfl, X_put X.1, bs, X_conjunction4 X.1 fm (by omega)]
        exact ⟨σ2, μ2, rfl, F1.tr F2, G1.tr G2, .inl ⟨rfl, X⟩⟩
      · rw [e5, b2s, if_neg (by decide)]
        obtain ⟨σ3, μ3, e6, e7, F3, G3, h3⟩ := j_put (s := 2) (v := 261) (x1 := 3) (x2 := 0) (y1 := 2) (y2 := 261) h2 (by rw [List.length_append]; omega) rfl (fun z => absurd rfl z) rfl rfl
        rw [e6, bs, e7, bs, nI_1]
        obtain ⟨σ4, μ4, e8, F4, G4, q⟩ := ih (j - 1) (by omega) (i + 1) (K + 1 + E.length) _ σ3 μ3 fc fm (by omega) (by omega) (by omega) (by omega) (by omega) h3
        refine ⟨σ4, μ4, e8, ((F1.tr F2).tr (F3.mono rfl)).tr F4, ((G1.tr G2).tr (G3.mono rfl)).tr G4, q.imp id ?_⟩
        rintro ⟨a, E', h4, t⟩
        exact ⟨a, E ++ [(2, 261)] ++ E', h4.cast (by simp only [List.length_append, List.length_cons, List.length_nil]; omega) (by simp only [List.append_assoc]), tailE.step rfl gE t⟩
theorem j_conjunction {rc : Nat → Int32 → zS → Option (Int32 × zS)} {rm : Nat → zS → Option zS} (H : HX d f N r o K0 (rc 2 (nI o)) (rm 2)) : HX d f N r o K0 (F_X6_readBoth rc (nI o)) (F_X12_conjunction rm) := by
  refine ⟨fun K L σ μ hK h => ?_, fun μ h => ?_⟩
  · unfold F_X6_readBoth F_X12_conjunction
    obtain ⟨σ1, μ1, e1, F1, G1, q⟩ := H.1 K L σ μ hK h
    rw [e1, bs]
    rcases q with ⟨e2, X⟩ | ⟨e2, E, h1, gE⟩
    · rw [e2, b2s, if_pos rfl, X_conjunction4 X.1 FU (by decide)]
      exact ⟨σ1, μ1, rfl, F1, G1, .inl ⟨rfl, X⟩⟩
    · rw [e2, b2s, if_neg (by decide)]
      obtain ⟨σ2, μ2, e3, F2, G2, q⟩ := j_conjunction4 H 64 0 (K + E.length) (L ++ E) σ1 μ1 FU FU (by omega) (by omega) (by omega) (by decide) (by decide) h1
      rw [show (0 : Int32) = nI 0 from rfl]
      refine ⟨σ2, μ2, e3, F1.tr F2, G1.tr G2, q.imp id ?_⟩
      rintro ⟨a, E', h4, t⟩
      exact ⟨a, E ++ E', h4.cast (by rw [List.length_append]; omega) (by rw [List.append_assoc]), gE.tail t⟩
  · unfold F_X12_conjunction
    rw [H.2 μ h, bs, X_conjunction4 h FU (by decide)]
theorem X_sum4 {rm : Nat → zS → Option zS} (h : ¬ μ.1 5000 28 = 0) : ∀ n, 0 < n → f_X12_sum_4 rm n μ = some μ
  | 0, z => absurd z (by decide)
  | n + 1, _ => by unfold f_X12_sum_4; rw [if_pos (X_sign h _), if_pos (X_sign h _)]
theorem j_sum4 {rc : Nat → Int32 → zS → Option (Int32 × zS)} {rm : Nat → zS → Option zS} (H : HX d f N r o K0 (rc 5 (nI o)) (rm 4)) (j : Nat) : ∀ (i K : Nat) (L : zK) (σ μ : zS) (fc fm : Nat), 64 ≤ K + j → i ≤ K → K0 ≤ K → j < fc → j + 1 < fm →
    JE d f N r o K L σ μ → RX d f N r o K L tailE (f_X6_readSum_12 rc fc (nI o) (nI i) σ) (f_X12_sum_4 rm fm μ) σ μ := by
  induction j using Nat.strongRecOn with
  | _ j ih =>
  intro i K L σ μ fc fm hj hi hK hfc hfm h
  obtain ⟨fc, rfl⟩ : ∃ n, fc = n + 1 := ⟨fc - 1, by omega⟩
  obtain ⟨fm, rfl⟩ : ∃ n, fm = n + 1 := ⟨fm - 1, by omega⟩
  have hK64 := h.2.2.2.2.1
  have hlen := h.2.2.2.2.2
  unfold f_X6_readSum_12 f_X12_sum_4
  rw [if_neg (show ¬ (64 : Int32) < nI i from nI_nlt (a := 64) (by omega) (by omega))]
  have go : ∀ w : Nat, w = 43 ∨ w = 45 → ¬ f_X7_isSign (nI w) σ = 0 → RX d f N r o K L tailE (f_X6_readSum_42 rc (f_X6_readSum_12 rc fc) (nI o) (nI i) σ) (f_X12_sum_22 rm (f_X12_sum_4 rm fm) μ) σ μ := by
    intro w hw e
    have hw2 : w < 256 := by omega
    have hE : encO 2 w = w := by rcases hw with rfl | rfl <;> rfl
    have hM : isMk w = true := by rcases hw with rfl | rfl <;> rfl
    have k1 := isS_k e
    have k2 := isS_m (by rw [h.1.sign h.2.1.1 hw2]; exact e)
    unfold f_X6_readSum_42 f_X12_sum_22
    rw [lts, lts, k1.2, k2.2]
    obtain ⟨σ1, μ0, μ1, e1, e2, F1, G1, q⟩ := j_knot h (by rw [k1.1]; decide)
    rw [e1, bs, e2, bs]
    rcases q with ⟨e3, X⟩ | ⟨e3, h64, h1⟩
    · rw [e3, b2s, if_pos rfl, H.2 _ X.1, bs, X_put X.1, bs, X_sum4 X.1 fm (by omega)]
      exact ⟨σ1, μ1, rfl, F1, G1, .inl ⟨rfl, X⟩⟩
    · rw [e3, b2s, if_neg (by decide)]
      obtain ⟨σ2, μ2, e4, F2, G2, q⟩ := H.1 (K + 1) L σ1 μ1 (by omega) h1
      rw [e4, bs]
      rcases q with ⟨e5, X⟩ | ⟨e5, E, h2, gE⟩
      · rw [e5, b2s, if_pos rfl, X_put X.1, bs, X_sum4 X.1 fm (by omega)]
        exact ⟨σ2, μ2, rfl, F1.tr F2, G1.tr G2, .inl ⟨rfl, X⟩⟩
      · rw [e5, b2s, if_neg (by decide)]
        obtain ⟨σ3, μ3, e6, e7, F3, G3, h3⟩ := j_put (s := 2) (v := w) (x1 := nI w) (x2 := 0) (y1 := 2) (y2 := nI w) h2 (by rw [List.length_append]; omega) (by rw [hE]) (fun z => absurd rfl z) rfl rfl
        rw [e6, bs, e7, bs, nI_1]
        obtain ⟨σ4, μ4, e8, F4, G4, q⟩ := ih (j - 1) (by omega) (i + 1) (K + 1 + E.length) _ σ3 μ3 fc fm (by omega) (by omega) (by omega) (by omega) (by omega) h3
        refine ⟨σ4, μ4, e8, ((F1.tr F2).tr (F3.mono rfl)).tr F4, ((G1.tr G2).tr (G3.mono rfl)).tr G4, q.imp id ?_⟩
        rintro ⟨a, E', h4, t⟩
        exact ⟨a, E ++ [(2, w)] ++ E', h4.cast (by simp only [List.length_append, List.length_cons, List.length_nil]; omega) (by simp only [List.append_assoc]), tailE.step hM gE t⟩
  rw [show f_X12_isSign 43 μ = f_X7_isSign 43 σ from h.1.sign h.2.1.1 (w := 43) (by omega), show f_X12_isSign 45 μ = f_X7_isSign 45 σ from h.1.sign h.2.1.1 (w := 45) (by omega)]
  by_cases e : f_X7_isSign 43 σ = 0
  · rw [if_pos e, if_pos e]
    by_cases e' : f_X7_isSign 45 σ = 0
    · rw [if_pos e', if_pos e']
      exact ⟨σ, μ, rfl, FD.rf, FD.rf, .inr ⟨rfl, [], h.nil, tailE.nil⟩⟩
    · rw [if_neg e', if_neg e']
      exact go 45 (.inr rfl) e'
  · rw [if_neg e, if_neg e]
    exact go 43 (.inl rfl) e
theorem j_sum {rc : Nat → Int32 → zS → Option (Int32 × zS)} {rm : Nat → zS → Option zS} (H : HX d f N r o K0 (rc 5 (nI o)) (rm 4)) : HX d f N r o K0 (F_X6_readSum rc (nI o)) (F_X12_sum rm) := by
  refine ⟨fun K L σ μ hK h => ?_, fun μ h => ?_⟩
  · unfold F_X6_readSum F_X12_sum
    obtain ⟨σ1, μ1, e1, F1, G1, q⟩ := H.1 K L σ μ hK h
    rw [e1, bs]
    rcases q with ⟨e2, X⟩ | ⟨e2, E, h1, gE⟩
    · rw [e2, b2s, if_pos rfl, X_sum4 X.1 FU (by decide)]
      exact ⟨σ1, μ1, rfl, F1, G1, .inl ⟨rfl, X⟩⟩
    · rw [e2, b2s, if_neg (by decide)]
      obtain ⟨σ2, μ2, e3, F2, G2, q⟩ := j_sum4 H 64 0 (K + E.length) (L ++ E) σ1 μ1 FU FU (by omega) (by omega) (by omega) (by decide) (by decide) h1
      rw [show (0 : Int32) = nI 0 from rfl]
      refine ⟨σ2, μ2, e3, F1.tr F2, G1.tr G2, q.imp id ?_⟩
      rintro ⟨a, E', h4, t⟩
      exact ⟨a, E ++ E', h4.cast (by rw [List.length_append]; omega) (by rw [List.append_assoc]), gE.tail t⟩
  · unfold F_X12_sum
    rw [H.2 μ h, bs, X_sum4 h FU (by decide)]
theorem X_product4 {rm : Nat → zS → Option zS} (h : ¬ μ.1 5000 28 = 0) : ∀ n, 0 < n → f_X12_product_4 rm n μ = some μ
  | 0, z => absurd z (by decide)
  | n + 1, _ => by unfold f_X12_product_4; rw [if_pos (X_sign h _), if_pos (X_sign h _)]
theorem j_product4 {rc : Nat → Int32 → zS → Option (Int32 × zS)} {rm : Nat → zS → Option zS} (H : HX d f N r o K0 (rc 6 (nI o)) (rm 5)) (j : Nat) : ∀ (i K : Nat) (L : zK) (σ μ : zS) (fc fm : Nat), 64 ≤ K + j → i ≤ K → K0 ≤ K → j < fc → j + 1 < fm →
    JE d f N r o K L σ μ → RX d f N r o K L tailE (f_X6_readProduct_12 rc fc (nI o) (nI i) σ) (f_X12_product_4 rm fm μ) σ μ := by
  induction j using Nat.strongRecOn with
  | _ j ih =>
  intro i K L σ μ fc fm hj hi hK hfc hfm h
  obtain ⟨fc, rfl⟩ : ∃ n, fc = n + 1 := ⟨fc - 1, by omega⟩
  obtain ⟨fm, rfl⟩ : ∃ n, fm = n + 1 := ⟨fm - 1, by omega⟩
  have hK64 := h.2.2.2.2.1
  have hlen := h.2.2.2.2.2
  unfold f_X6_readProduct_12 f_X12_product_4
  rw [if_neg (show ¬ (64 : Int32) < nI i from nI_nlt (a := 64) (by omega) (by omega))]
  have go : ∀ w : Nat, w = 42 ∨ w = 47 → ¬ f_X7_isSign (nI w) σ = 0 → RX d f N r o K L tailE (f_X6_readProduct_42 rc (f_X6_readProduct_12 rc fc) (nI o) (nI i) σ) (f_X12_product_22 rm (f_X12_product_4 rm fm) μ) σ μ := by
    intro w hw e
    have hw2 : w < 256 := by omega
    have hE : encO 2 w = w := by rcases hw with rfl | rfl <;> rfl
    have hM : isMk w = true := by rcases hw with rfl | rfl <;> rfl
    have k1 := isS_k e
    have k2 := isS_m (by rw [h.1.sign h.2.1.1 hw2]; exact e)
    unfold f_X6_readProduct_42 f_X12_product_22
    rw [lts, lts, k1.2, k2.2]
    obtain ⟨σ1, μ0, μ1, e1, e2, F1, G1, q⟩ := j_knot h (by rw [k1.1]; decide)
    rw [e1, bs, e2, bs]
    rcases q with ⟨e3, X⟩ | ⟨e3, h64, h1⟩
    · rw [e3, b2s, if_pos rfl, H.2 _ X.1, bs, X_put X.1, bs, X_product4 X.1 fm (by omega)]
      exact ⟨σ1, μ1, rfl, F1, G1, .inl ⟨rfl, X⟩⟩
    · rw [e3, b2s, if_neg (by decide)]
      obtain ⟨σ2, μ2, e4, F2, G2, q⟩ := H.1 (K + 1) L σ1 μ1 (by omega) h1
      rw [e4, bs]
      rcases q with ⟨e5, X⟩ | ⟨e5, E, h2, gE⟩
      · rw [e5, b2s, if_pos rfl, X_put X.1, bs, X_product4 X.1 fm (by omega)]
        exact ⟨σ2, μ2, rfl, F1.tr F2, G1.tr G2, .inl ⟨rfl, X⟩⟩
      · rw [e5, b2s, if_neg (by decide)]
        obtain ⟨σ3, μ3, e6, e7, F3, G3, h3⟩ := j_put (s := 2) (v := w) (x1 := nI w) (x2 := 0) (y1 := 2) (y2 := nI w) h2 (by rw [List.length_append]; omega) (by rw [hE]) (fun z => absurd rfl z) rfl rfl
        rw [e6, bs, e7, bs, nI_1]
        obtain ⟨σ4, μ4, e8, F4, G4, q⟩ := ih (j - 1) (by omega) (i + 1) (K + 1 + E.length) _ σ3 μ3 fc fm (by omega) (by omega) (by omega) (by omega) (by omega) h3
        refine ⟨σ4, μ4, e8, ((F1.tr F2).tr (F3.mono rfl)).tr F4, ((G1.tr G2).tr (G3.mono rfl)).tr G4, q.imp id ?_⟩
        rintro ⟨a, E', h4, t⟩
        exact ⟨a, E ++ [(2, w)] ++ E', h4.cast (by simp only [List.length_append, List.length_cons, List.length_nil]; omega) (by simp only [List.append_assoc]), tailE.step hM gE t⟩
  rw [show f_X12_isSign 42 μ = f_X7_isSign 42 σ from h.1.sign h.2.1.1 (w := 42) (by omega), show f_X12_isSign 47 μ = f_X7_isSign 47 σ from h.1.sign h.2.1.1 (w := 47) (by omega)]
  by_cases e : f_X7_isSign 42 σ = 0
  · rw [if_pos e, if_pos e]
    by_cases e' : f_X7_isSign 47 σ = 0
    · rw [if_pos e', if_pos e']
      exact ⟨σ, μ, rfl, FD.rf, FD.rf, .inr ⟨rfl, [], h.nil, tailE.nil⟩⟩
    · rw [if_neg e', if_neg e']
      exact go 47 (.inr rfl) e'
  · rw [if_neg e, if_neg e]
    exact go 42 (.inl rfl) e
theorem j_product {rc : Nat → Int32 → zS → Option (Int32 × zS)} {rm : Nat → zS → Option zS} (H : HX d f N r o K0 (rc 6 (nI o)) (rm 5)) : HX d f N r o K0 (F_X6_readProduct rc (nI o)) (F_X12_product rm) := by
  refine ⟨fun K L σ μ hK h => ?_, fun μ h => ?_⟩
  · unfold F_X6_readProduct F_X12_product
    obtain ⟨σ1, μ1, e1, F1, G1, q⟩ := H.1 K L σ μ hK h
    rw [e1, bs]
    rcases q with ⟨e2, X⟩ | ⟨e2, E, h1, gE⟩
    · rw [e2, b2s, if_pos rfl, X_product4 X.1 FU (by decide)]
      exact ⟨σ1, μ1, rfl, F1, G1, .inl ⟨rfl, X⟩⟩
    · rw [e2, b2s, if_neg (by decide)]
      obtain ⟨σ2, μ2, e3, F2, G2, q⟩ := j_product4 H 64 0 (K + E.length) (L ++ E) σ1 μ1 FU FU (by omega) (by omega) (by omega) (by decide) (by decide) h1
      rw [show (0 : Int32) = nI 0 from rfl]
      refine ⟨σ2, μ2, e3, F1.tr F2, G1.tr G2, q.imp id ?_⟩
      rintro ⟨a, E', h4, t⟩
      exact ⟨a, E ++ E', h4.cast (by rw [List.length_append]; omega) (by rw [List.append_assoc]), gE.tail t⟩
  · unfold F_X12_product
    rw [H.2 μ h, bs, X_product4 h FU (by decide)]
end
