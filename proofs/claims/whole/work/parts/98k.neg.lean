/-! The pure part: text. Comparisons, denials, whole expressions of both -/
def cmpV (v : Nat) : Bool := [60, 61, 62, 256, 257, 258].elem v
theorem cmp_ch {α : Type} (A B : α) {v : Nat} (hv : sgL v = true) : (if nI v = 60 then A else if nI v = 62 then A else if nI v = 61 then A else if (256 : Int32) ≤ nI v then A else B) = if cmpV v = true then A else B := by
  rcases sgL_in hv with rfl | rfl | rfl | rfl | rfl | rfl | rfl | rfl | rfl | rfl | rfl | rfl | rfl <;> repeat (first | rw [if_pos (by decide)] | rw [if_neg (by decide)])
theorem cmp_C {v : Nat} (hv : sgL v = true) (σ : zS) : f_X6_isComparison (nI (encO 2 v)) σ = bI (cmpV v) := by
  rcases sgL_in hv with rfl | rfl | rfl | rfl | rfl | rfl | rfl | rfl | rfl | rfl | rfl | rfl | rfl <;> rfl
theorem cmp_mk {v : Nat} (h : cmpV v = true) : isMk v = true := by
  have : v = 60 ∨ v = 61 ∨ v = 62 ∨ v = 256 ∨ v = 257 ∨ v = 258 := by unfold cmpV at h; simpa using List.mem_of_elem_eq_true h
  rcases this with rfl | rfl | rfl | rfl | rfl | rfl <;> rfl
def putN : Nat → zS → Option zS
  | 0, μ => some μ
  | t + 1, μ => (f_X12_puts 2 260 μ).bind (putN t)
theorem X_putN {μ : zS} (h : ¬ μ.1 5000 28 = 0) : ∀ t, putN t μ = some μ
  | 0 => rfl
  | t + 1 => by unfold putN; rw [X_put h, bs]; exact X_putN h t
theorem putN_b (x : Option zS) (t : Nat) : ((x.bind fun a => (f_X12_puts 2 260 a).bind fun b => some b).bind (putN t)) = x.bind (putN (t + 1)) := by
  cases x with
  | none => rfl
  | some a => rw [bs, bs, bsome]; rfl
theorem JT.sg {f : Nat → Nat} {N r : Nat} {σ μ : zS} (h : JT f N r σ μ) : (σ.1 500 4 = 3 ∧ μ.1 5000 26 = 3 ∧ ∃ v, sgL v = true ∧ σ.1 500 6 = nI (encO 2 v) ∧ μ.1 5000 27 = nI v) ∨ (¬ σ.1 500 4 = 3 ∧ ¬ μ.1 5000 26 = 3) := by
  obtain ⟨p, -, -, c, -⟩ := h
  rcases c with ⟨a, b⟩ | ⟨w, hw, a, b, c, e⟩ | ⟨X, hX, a, b, c, e, g⟩ | ⟨x, y, hx, hy, hr, a, b, c, e⟩ | ⟨v, hv, a, b, c, e⟩ | ⟨a, b⟩
  · exact .inr ⟨by rw [a]; decide, by rw [b]; decide⟩
  · exact .inr ⟨by rw [a]; decide, by rw [c]; decide⟩
  · exact .inr ⟨by rw [a]; decide, by rw [e]; decide⟩
  · exact .inr ⟨by rw [a]; decide, by rw [c]; decide⟩
  · exact .inl ⟨a, c, v, hv, b, e⟩
  · exact .inr ⟨by rw [a]; decide, by rw [b]; decide⟩
section
variable {d : Bool} {f : Nat → Nat} {N r o K K0 : Nat} {L : zK} {σ μ : zS}
theorem j_cmp {rc : Nat → Int32 → zS → Option (Int32 × zS)} {rm : Nat → zS → Option zS} (H : HX d f N r o K0 (rc 4 (nI o)) (rm 3)) (hK : K0 ≤ K) (h : JE d f N r o K L σ μ) (hw : f_X7_isWord 27 σ = 0) :
    RX d f N r o K L goodE (F_X6_readCompared rc (nI o) σ) (F_X12_negation rm μ) σ μ := by
  unfold F_X6_readCompared F_X12_negation
  rw [show f_X12_isWord 27 μ = f_X7_isWord 27 σ from h.1.word h.2.1.1 (w := 27) (by omega), if_pos hw]
  obtain ⟨σ1, μ1, e1, F1, G1, q⟩ := H.1 K L σ μ hK h
  rw [e1, bs]
  rcases q with ⟨e2, X⟩ | ⟨e2, E, h1, gE⟩
  · rw [e2, b2s, if_pos rfl, if_neg X.1]
    exact ⟨σ1, μ1, rfl, F1, G1, .inl ⟨rfl, X⟩⟩
  · rw [e2, b2s, if_neg (by decide), if_pos h1.2.1.1, lts]
    have hlen := h1.2.2.2.2.2
    rcases h1.1.sg with ⟨a, b, v, hv, c, e⟩ | ⟨a, b⟩
    · rw [if_pos a, if_pos b, c, e, cmp_C hv, cmp_ch _ _ hv]
      cases hc : cmpV v with
      | false =>
        rw [if_pos (show bI false = 0 from rfl), if_neg (show ¬ (false = true) by decide)]
        exact ⟨σ1, μ1, rfl, F1, G1, .inr ⟨rfl, E, h1, gE⟩⟩
      | true =>
        rw [if_neg (show ¬ bI true = 0 by decide), if_pos rfl]
        unfold f_X12_negation_87
        rw [lts, e]
        obtain ⟨σ2, μ0, μ2, e3, e4, F2, G2, q⟩ := j_knot h1 (by rw [a]; decide)
        rw [e3, bs, e4, bs]
        rcases q with ⟨e5, X⟩ | ⟨e5, h64, h2⟩
        · rw [e5, b2s, if_pos rfl, H.2 _ X.1, bs, X_put X.1, bs]
          exact ⟨σ2, μ2, rfl, F1.tr F2, G1.tr G2, .inl ⟨rfl, X⟩⟩
        · rw [e5, b2s, if_neg (by decide)]
          obtain ⟨σ3, μ3, e6, F3, G3, q⟩ := H.1 _ _ σ2 μ2 (by omega) h2
          rw [e6, bs]
          rcases q with ⟨e7, X⟩ | ⟨e7, E', h3, gE'⟩
          · rw [e7, b2s, if_pos rfl, X_put X.1, bs]
            exact ⟨σ3, μ3, rfl, (F1.tr F2).tr F3, (G1.tr G2).tr G3, .inl ⟨rfl, X⟩⟩
          · rw [e7, b2s, if_neg (by decide)]
            obtain ⟨σ4, μ4, e8, e9, F4, G4, h4⟩ := j_put (s := 2) (v := v) (x1 := nI (encO 2 v)) (x2 := 0) (y1 := 2) (y2 := nI v) h3 (by rw [List.length_append]; omega) rfl (fun z => absurd rfl z) rfl rfl
            rw [e8, bs, e9, bs]
            exact ⟨σ4, μ4, rfl, ((F1.tr F2).tr F3).tr (F4.mono rfl), ((G1.tr G2).tr G3).tr (G4.mono rfl), .inr ⟨rfl, E ++ (E' ++ [(2, v)] ++ []), h4.cast (by simp only [List.length_append, List.length_cons, List.length_nil]; omega) (by simp only [List.append_assoc, List.append_nil]), gE.tail (tailE.step (cmp_mk hc) gE' tailE.nil)⟩⟩
    · rw [if_neg a, if_neg b]
      exact ⟨σ1, μ1, rfl, F1, G1, .inr ⟨rfl, E, h1, gE⟩⟩
theorem j_nots {rc : Nat → Int32 → zS → Option (Int32 × zS)} {t : Nat} (ht : t ≤ 64) : ∀ (j i fc K : Nat) (L : zK) (σ μ : zS), i + j = t → j < fc → L.length + j ≤ K → JE d f N r o K L σ μ →
    ∃ σ' μ', f_X6_readDenied_52 rc fc (nI t) (nI i) σ = some (1, σ') ∧ putN j μ = some μ' ∧ FD d [7] σ σ' ∧ FD d [7] μ μ' ∧ JE d f N r o K (L ++ List.replicate j (2, 260)) σ' μ'
  | j, i, 0, K, L, σ, μ, hi, hf, hl, h => by omega
  | 0, i, fc + 1, K, L, σ, μ, hi, hf, hl, h => by
    unfold f_X6_readDenied_52
    rw [if_pos (nI_le (by omega) (by omega))]
    exact ⟨σ, μ, rfl, rfl, FD.rf, FD.rf, h.cast rfl (by simp)⟩
  | j + 1, i, fc + 1, K, L, σ, μ, hi, hf, hl, h => by
    unfold f_X6_readDenied_52 putN
    rw [if_neg (nI_ge (by omega) (by omega)), nI_1]
    obtain ⟨σ1, μ1, e1, e2, F1, G1, h1⟩ := j_put (s := 2) (v := 260) (x1 := 4) (x2 := 0) (y1 := 2) (y2 := 260) h (by omega) rfl (fun z => absurd rfl z) rfl rfl
    rw [e1, bs, e2, bs]
    obtain ⟨σ2, μ2, e3, e4, F2, G2, h2⟩ := j_nots ht j (i + 1) fc K _ σ1 μ1 (by omega) (by omega) (by simp only [List.length_append, List.length_cons, List.length_nil]; omega) h1
    exact ⟨σ2, μ2, e3, e4, F1.tr F2, G1.tr G2, h2.cast rfl (by rw [List.append_assoc, List.replicate_succ]; rfl)⟩
theorem fgC0 (n : Nat) (x : Int32) : fgC (n + 1) 0 x = F_X6_readEither (fgC n) x := funext fun _ => rfl
theorem fgC1 (n : Nat) (x : Int32) : fgC (n + 1) 1 x = F_X6_readBoth (fgC n) x := funext fun _ => rfl
theorem fgC2 (n : Nat) (x : Int32) : fgC (n + 1) 2 x = F_X6_readDenied (fgC n) x := funext fun _ => by rw [fgC, if_neg (by decide), if_neg (by decide), if_pos rfl]
theorem fgC3 (n : Nat) (x : Int32) : fgC (n + 1) 3 x = F_X6_readCompared (fgC n) x := funext fun _ => rfl
theorem fgC4 (n : Nat) (x : Int32) : fgC (n + 1) 4 x = F_X6_readSum (fgC n) x := funext fun _ => rfl
theorem fgC5 (n : Nat) (x : Int32) : fgC (n + 1) 5 x = F_X6_readProduct (fgC n) x := funext fun _ => rfl
theorem fgC6 (n : Nat) (x : Int32) : fgC (n + 1) 6 x = F_X6_readPlain (fgC n) x := funext fun _ => rfl
theorem fgM0 (n : Nat) : fgM (n + 1) 0 = F_X12_expression (fgM n) := funext fun _ => rfl
theorem fgM1 (n : Nat) : fgM (n + 1) 1 = F_X12_conjunction (fgM n) := funext fun _ => rfl
theorem fgM2 (n : Nat) : fgM (n + 1) 2 = F_X12_negation (fgM n) := funext fun _ => rfl
theorem fgM3 (n : Nat) : fgM (n + 1) 3 = F_X12_sum (fgM n) := funext fun _ => rfl
theorem fgM4 (n : Nat) : fgM (n + 1) 4 = F_X12_product (fgM n) := funext fun _ => rfl
theorem fgM5 (n : Nat) : fgM (n + 1) 5 = F_X12_primary (fgM n) := funext fun _ => rfl
theorem X_fg2 (h : ¬ μ.1 5000 28 = 0) (n : Nat) : fgM (n + 4) 2 μ = some μ := by
  have e5 : fgM (n + 1) 5 μ = some μ := by rw [fgM5]; unfold F_X12_primary; rw [if_neg h]
  have e4 : fgM (n + 2) 4 μ = some μ := by rw [fgM4]; unfold F_X12_product; rw [e5, bs, X_product4 h FU (by decide)]
  have e3 : fgM (n + 3) 3 μ = some μ := by rw [fgM3]; unfold F_X12_sum; rw [e4, bs, X_sum4 h FU (by decide)]
  rw [fgM2]; unfold F_X12_negation
  rw [if_pos (X_word h _), e3, bs, if_neg h]
theorem j_den {nc c : Nat} (hc : 69 ≤ c) (H : ∀ n K0, K0 ≤ 64 → c ≤ n + K0 → HX d f N r o K0 (fgC nc 4 (nI o)) (fgM n 3)) : ∀ (j t Kb : Nat) (L : zK) (σ μ : zS) (n fc : Nat), 64 ≤ Kb + t + j → c + 1 ≤ n + (Kb + t) → j < fc → L.length ≤ Kb → JE d f N r o (Kb + t) L σ μ →
    RX d f N r o Kb L goodE (f_X6_readDenied_4 (fgC (nc + 1)) fc (nI o) (nI t) (nI t) σ) ((fgM n 2 μ).bind (putN t)) σ μ := by
  intro j
  induction j using Nat.strongRecOn with
  | _ j ih =>
  intro t Kb L σ μ n fc hj hn hfc hL h
  have hK64 := h.2.2.2.2.1
  obtain ⟨fc, rfl⟩ : ∃ n, fc = n + 1 := ⟨fc - 1, by omega⟩
  obtain ⟨n, rfl⟩ : ∃ m, n = m + 5 := ⟨n - 5, by omega⟩
  rw [show n + 5 = n + 4 + 1 by omega, fgM2]
  unfold f_X6_readDenied_4
  rw [if_neg (show ¬ (64 : Int32) < nI t from nI_nlt (a := 64) (by omega) (by omega))]
  by_cases e : f_X7_isWord 27 σ = 0
  · rw [if_pos e]
    obtain ⟨σ1, μ1, e1, F1, G1, q⟩ := j_cmp (H (n + 4) (Kb + t) hK64 (by omega)) (Nat.le_refl _) h e
    rw [e1, bs]
    unfold f_X6_readDenied_40
    rw [fgC3]
    rcases q with ⟨e2, X⟩ | ⟨e2, E, h1, gE⟩
    · rw [e2, b2s, if_pos rfl, X_putN X.1]
      exact ⟨σ1, μ1, rfl, F1, G1, .inl ⟨rfl, X⟩⟩
    · rw [e2, b2s, if_neg (by decide)]
      obtain ⟨σ2, μ2, e3, e4, F2, G2, h2⟩ := j_nots (rc := fgC (nc + 1)) (t := t) (by omega) t 0 FU _ _ σ1 μ1 (by omega) (by unfold FU; omega) (by rw [List.length_append]; omega) h1
      rw [show (0 : Int32) = nI 0 from rfl, e3, e4]
      exact ⟨σ2, μ2, rfl, F1.tr (F2.mono rfl), G1.tr (G2.mono rfl), .inr ⟨rfl, E ++ List.replicate t (2, 260), h2.cast (by rw [List.length_append, List.length_replicate]; omega) (by rw [List.append_assoc]), gE.nots t⟩⟩
  · rw [if_neg e]
    unfold F_X12_negation
    rw [show f_X12_isWord 27 μ = f_X7_isWord 27 σ from h.1.word h.2.1.1 (w := 27) (by omega), if_neg e]
    obtain ⟨σ1, μ0, μ1, e1, e2, F1, G1, q⟩ := j_knot h (isW_k e)
    rw [e1, bs, e2, bs, putN_b]
    rcases q with ⟨e3, X⟩ | ⟨e3, h64, h1⟩
    · rw [e3, b2s, if_pos rfl, X_fg2 X.1, bs, X_putN X.1]
      exact ⟨σ1, μ1, rfl, F1, G1, .inl ⟨rfl, X⟩⟩
    · rw [e3, b2s, if_neg (by decide), nI_1]
      obtain ⟨σ2, μ2, e4, F2, G2, q⟩ := ih (j - 1) (by omega) (t + 1) Kb L σ1 μ1 (n + 4) fc (by omega) (by omega) (by omega) hL h1
      exact ⟨σ2, μ2, e4, F1.tr F2, G1.tr G2, q⟩
/-- THE EXPRESSIONS of both, o brackets open -/
theorem j_expr : ∀ (q o n n1 K0 : Nat), o + q = 8 → 8 * (q + 1) ≤ n → K0 ≤ 64 → 6 * (q + 1) + 70 ≤ n1 + K0 → HX d f N r o K0 (fgC n 0 (nI o)) (fgM n1 0) := by
  intro q
  induction q with
  | zero | succ q ih =>
  all_goals
    intro o n n1 K0 ho hn hK hn1
    obtain ⟨m, rfl⟩ : ∃ m, n = m + 8 := ⟨n - 8, by omega⟩
    have B6 : ∀ n2 K1, K1 ≤ 64 → 6 * (8 - o) + 71 ≤ n2 + K1 → HX d f N r o K1 (fgC (m + 2) 6 (nI o)) (fgM n2 5) := by
      intro n2 K1 hK1 h2
      obtain ⟨n2, rfl⟩ : ∃ m, n2 = m + 1 := ⟨n2 - 1, by omega⟩
      rw [show m + 2 = m + 1 + 1 by omega, fgC6, fgM5]
      refine j_plain (rc' := fgC m) (fun _ => rfl) (fun h8 => ?_) (by omega)
      first
        | exact absurd h8 (by omega)
        | exact ih (o + 1) m n2 K1 (by omega) (by omega) hK1 (by omega)
    have B5 : ∀ n2 K1, K1 ≤ 64 → 6 * (8 - o) + 72 ≤ n2 + K1 → HX d f N r o K1 (fgC (m + 3) 5 (nI o)) (fgM n2 4) := by
      intro n2 K1 hK1 h2
      obtain ⟨n2, rfl⟩ : ∃ m, n2 = m + 1 := ⟨n2 - 1, by omega⟩
      rw [show m + 3 = m + 2 + 1 by omega, fgC5, fgM4]
      exact j_product (B6 n2 K1 hK1 (by omega))
    have B4 : ∀ n2 K1, K1 ≤ 64 → 6 * (8 - o) + 73 ≤ n2 + K1 → HX d f N r o K1 (fgC (m + 4) 4 (nI o)) (fgM n2 3) := by
      intro n2 K1 hK1 h2
      obtain ⟨n2, rfl⟩ : ∃ m, n2 = m + 1 := ⟨n2 - 1, by omega⟩
      rw [show m + 4 = m + 3 + 1 by omega, fgC4, fgM3]
      exact j_sum (B5 n2 K1 hK1 (by omega))
    have B2 : ∀ n2 K1, K1 ≤ 64 → 6 * (8 - o) + 74 ≤ n2 + K1 → HX d f N r o K1 (fgC (m + 6) 2 (nI o)) (fgM n2 2) := by
      intro n2 K1 hK1 h2
      obtain ⟨n3, rfl⟩ : ∃ m, n2 = m + 4 := ⟨n2 - 4, by omega⟩
      refine ⟨fun K L σ μ hK' h => ?_, fun μ h => X_fg2 h n3⟩
      have := j_den (nc := m + 4) (c := 6 * (8 - o) + 73) (by omega) B4 64 0 K L σ μ (n3 + 4) FU (by omega) (by omega) (by decide) h.2.2.2.2.2 h
      rw [show m + 6 = m + 5 + 1 by omega, fgC2]
      unfold F_X6_readDenied
      rw [show (fgM (n3 + 4) 2 μ).bind (putN 0) = fgM (n3 + 4) 2 μ from bsome _] at this
      exact this
    have B1 : ∀ n2 K1, K1 ≤ 64 → 6 * (8 - o) + 75 ≤ n2 + K1 → HX d f N r o K1 (fgC (m + 7) 1 (nI o)) (fgM n2 1) := by
      intro n2 K1 hK1 h2
      obtain ⟨n2, rfl⟩ : ∃ m, n2 = m + 1 := ⟨n2 - 1, by omega⟩
      rw [show m + 7 = m + 6 + 1 by omega, fgC1, fgM1]
      exact j_conjunction (B2 n2 K1 hK1 (by omega))
    obtain ⟨n1, rfl⟩ : ∃ m, n1 = m + 1 := ⟨n1 - 1, by omega⟩
    rw [show m + 8 = m + 7 + 1 by omega, fgC0, fgM0]
    exact j_expression (B1 n1 K0 hK (by omega))
end
