/-! The pure part: freed, duels -/
def wrt (s : Nat) : Nat := 3 * bt6 (s % 4) + 2 * bt6 (s / 4)
theorem bc16 : ∀ s, s < 16 → f_J6_bitCount_0f7a4 (nI s) zz0 = nI (bt6 s) ∧ (f_J6_bitCount_0f7a4 (nI s &&& (3 : Int32)) zz0 * (3 : Int32)) + (f_J6_bitCount_0f7a4 (nI s >>> ((2 : Int32) &&& 31)) zz0 * (2 : Int32)) = nI (wrt s) ∧ nI s &&& (3 : Int32) = nI (s % 4) ∧ nI s >>> ((2 : Int32) &&& 31) = nI (s / 4) := by decide +kernel
def hdB (s z : Nat) : Bool := decide ((nI s &&& (nI z ^^^ (-1 : Int32))) = 0)
def frL (z c f : Nat) : Nat → Nat → Nat → Nat → Nat
  | 0, _, b, _ => b
  | j + 1, s, b, w => if hdB s z = true ∧ bt6 s * f ≤ c ∧ w < wrt s then frL z c f j (s + 1) s (wrt s) else frL z c f j (s + 1) b w
theorem bt6_le {s : Nat} : bt6 s ≤ 6 := by unfold bt6; omega
theorem wrt_le {s : Nat} : wrt s ≤ 30 := by
  have := bt6_le (s := s % 4)
  have := bt6_le (s := s / 4)
  unfold wrt; omega
theorem c_freed {b : Bool} {T D : zT} {mv : Int32} {m : Nat} {σ : zS} (hT : okT T) (oD : okD T D) (hR : RC b T σ) (hD : DC T 700 D mv σ) (hm : m < T 4 2) : ∀ (j s bb w fu : Nat), s + j = 16 → bb < 16 → w ≤ 30 → j < fu → f_X11_freed_17 fu (nI m) (nI bb) (nI w) (nI s) σ = some (nI (frL (D 3 m) (D 2 m) (T 4 5) j s bb w))
  | j, s, bb, w, 0, hj, hb, hw, hf => by omega
  | 0, s, bb, w, fu + 1, hj, hb, hw, hf => by
    unfold f_X11_freed_17
    rw [if_pos (show (16 : Int32) ≤ nI s from nI_le (a := 16) (by omega) (by omega))]; rfl
  | j + 1, s, bb, w, fu + 1, hj, hb, hw, hf => by
    have o := hT.1
    have om := oD.2.1 m hm
    have q := bc16 s (by omega)
    have bl := bt6_le (s := s)
    have wl := wrt_le (s := s)
    have mul : bt6 s * T 4 5 ≤ 6 * 99 := Nat.mul_le_mul bl (by omega)
    have nx : ∀ b' w', b' < 16 → w' ≤ 30 → f_X11_freed_17 fu (nI m) (nI b') (nI w') (nI (s + 1)) σ = some (nI (frL (D 3 m) (D 2 m) (T 4 5) j (s + 1) b' w')) := fun b' w' h1 h2 => c_freed hT oD hR hD hm j (s + 1) b' w' fu (by omega) h1 h2 (by omega)
    unfold f_X11_freed_17 f_X11_freed_46 f_X11_freed_111
    simp only [lts]
    rw [if_neg (show ¬ (16 : Int32) ≤ nI s from nI_ge (b := 16) (by omega) (by omega)), rd_nI (by omega) (by omega), bs, (hD.s7 hm).2.2, rd_nI (by omega) (by omega), bs, (hD.s7 hm).2.1, hR.1.1, hR.2.1.2.2.2.2.2.1, show f_J6_bitCount_0f7a4 (nI s) σ = nI (bt6 s) from q.1, pk_mul, nI_1]
    have ew : (f_J6_bitCount_0f7a4 (nI s &&& (3 : Int32)) σ * (3 : Int32)) + (f_J6_bitCount_0f7a4 (nI s >>> ((2 : Int32) &&& 31)) σ * (2 : Int32)) = nI (wrt s) := q.2.1
    rw [ew]
    unfold frL
    by_cases hh : (nI s &&& (nI (D 3 m) ^^^ (-1 : Int32))) = 0
    · rw [if_pos hh, if_neg n10]
      have hd : hdB s (D 3 m) = true := decide_eq_true hh
      by_cases ha : bt6 s * T 4 5 ≤ D 2 m
      · rw [if_neg (nI_nlt ha (by omega))]
        by_cases hw2 : w < wrt s
        · rw [if_neg (nI_ge hw2 (by omega)), if_pos ⟨hd, ha, hw2⟩]
          exact nx s (wrt s) (by omega) wl
        · rw [if_pos (nI_le (by omega) (by omega)), if_neg (fun z => hw2 z.2.2)]
          exact nx bb w hb hw
      · rw [if_pos (nI_lt (by omega) (by omega)), if_neg (fun z => ha z.2.1)]
        exact nx bb w hb hw
    · rw [if_neg hh, if_pos (by first | trivial | rfl), if_neg (fun z => hh (of_decide_eq_true z.1))]
      exact nx bb w hb hw
theorem m_freed {T D : zT} {mv : Int32} {m : Nat} {σ : zS} (hT : okT T) (oD : okD T D) (hR : RM T σ) (hD : DM T 0 D mv σ) (hm : m < T 4 2) : ∀ (j s bb w fu : Nat), s + j = 16 → bb < 16 → w ≤ 30 → j < fu → f_X12_freed_22 fu (nI m) (nI bb) (nI w) (nI s) σ = some (nI (frL (D 3 m) (D 2 m) (T 4 5) j s bb w), σ)
  | j, s, bb, w, 0, hj, hb, hw, hf => by omega
  | 0, s, bb, w, fu + 1, hj, hb, hw, hf => by
    unfold f_X12_freed_22
    rw [if_pos (show (16 : Int32) ≤ nI s from nI_le (a := 16) (by omega) (by omega))]; rfl
  | j + 1, s, bb, w, fu + 1, hj, hb, hw, hf => by
    have o := hT.1
    have om := oD.2.1 m hm
    have q := bc16 s (by omega)
    have bl := bt6_le (s := s)
    have wl := wrt_le (s := s)
    have mul : bt6 s * T 4 5 ≤ 6 * 99 := Nat.mul_le_mul bl (by omega)
    have nx : ∀ b' w', b' < 16 → w' ≤ 30 → f_X12_freed_22 fu (nI m) (nI b') (nI w') (nI (s + 1)) σ = some (nI (frL (D 3 m) (D 2 m) (T 4 5) j (s + 1) b' w'), σ) := fun b' w' h1 h2 => m_freed hT oD hR hD hm j (s + 1) b' w' fu (by omega) h1 h2 (by omega)
    unfold f_X12_freed_22 f_X12_freed_103
    simp only [lts]
    rw [if_neg (show ¬ (16 : Int32) ≤ nI s from nI_ge (b := 16) (by omega) (by omega)), rd_nI (by omega) (by omega), bs, (hD.s0 hm).2.2, m_bits (by omega), bs, rd_lit (by decide) (by decide), bs, row0 hR.1 (k := 5) (by decide), rd_nI (by omega) (by omega), bs, (hD.s0 hm).2.1, q.2.2.1, q.2.2.2, m_bits (by omega), bs, m_bits (by omega), bs, pk_mul, nI_1]
    have ew : (3 : Int32) * nI (bt6 (s % 4)) + (2 : Int32) * nI (bt6 (s / 4)) = nI (wrt s) := by
      show nI 3 * nI (bt6 (s % 4)) + nI 2 * nI (bt6 (s / 4)) = _
      rw [pk_mul, pk_mul, nI_add]; rfl
    rw [ew]
    unfold frL
    by_cases hh : (nI s &&& (nI (D 3 m) ^^^ (-1 : Int32))) = 0
    · rw [if_pos hh]
      have hd : hdB s (D 3 m) = true := decide_eq_true hh
      by_cases ha : bt6 s * T 4 5 ≤ D 2 m
      · rw [if_pos (nI_le ha (by omega))]
        by_cases hw2 : w < wrt s
        · rw [if_pos (nI_lt hw2 (by omega)), if_pos ⟨hd, ha, hw2⟩]
          exact nx s (wrt s) (by omega) wl
        · rw [if_neg (nI_nlt (by omega) (by omega)), if_neg (fun z => hw2 z.2.2)]
          exact nx bb w hb hw
      · rw [if_neg (nI_ge (by omega) (by omega)), if_neg (fun z => ha z.2.1)]
        exact nx bb w hb hw
    · rw [if_neg hh, if_neg (fun z => hh (of_decide_eq_true z.1))]
      exact nx bb w hb hw
theorem o_freed : op_freed V := by
  intro x σc σm ⟨b, T, D, mv, h⟩
  have h0 := h.th 0
  have hT := h.oT
  have o := hT.1
  unfold f_X11_freed f_X12_freed
  rw [lts]
  rcases ix x (n := T 4 2) (by omega) with hx | ⟨m, hm, rfl⟩
  · rw [c_man0 h.cc.2.1 hx, m_man0 h0.cm.2.1 hx, bs]
    exact ⟨-1, σc, _, ⟨rfl, rfl⟩, rfl, h0.v⟩
  · rw [c_man1 hT h.cc.2.1 hm, m_man1 hT h0.cm.2.1 hm, bs, if_neg n10, if_neg n10]
    have e1 := c_freed hT h.oD h.cc.2.1 h.dc hm 15 1 0 0 FU (by omega) (by omega) (by omega) (by unfold FU; omega)
    have e2 := m_freed hT h.oD h0.cm.2.1 h0.dm hm 16 0 0 0 FU (by omega) (by omega) (by omega) (by unfold FU; omega)
    have e3 : frL (D 3 m) (D 2 m) (T 4 5) 16 0 0 0 = frL (D 3 m) (D 2 m) (T 4 5) 15 1 0 0 := by
      show (if _ ∧ _ ∧ 0 < wrt 0 then _ else frL (D 3 m) (D 2 m) (T 4 5) 15 1 0 0) = _
      rw [if_neg (fun z => absurd z.2.2 (by decide))]
    rw [e3] at e2
    exact ⟨_, σc, _, ⟨e1, rfl⟩, e2, h0.v⟩
/-- hits -/
def mtB (s t p : Nat) : Bool := anyU (fun q => decide (plc t q = plc s p)) 4 0
def htB (T : zT) (m s t p h : Nat) : Bool := mtB s t p && lawB T (-1) m s p 2 h
def htN (T : zT) (m s t h : Nat) : Nat → Nat → Nat → Nat
  | 0, _, a => a
  | j + 1, p, a => htN T m s t h j (p + 1) (if htB T m s t p h then a + 1 else a)
theorem m1_inj {a c : Nat} (ha : a < 1000) (hc : c < 1000) : nI a - 1 = nI c - 1 ↔ a = c := by
  constructor
  · intro h
    have : nI a - 1 + 1 = nI c - 1 + 1 := by rw [h]
    rw [Int32.sub_add_cancel, Int32.sub_add_cancel] at this
    exact (nI_eq (by omega) (by omega)).mp this
  · rintro rfl; rfl
theorem c_hasL {s t p : Nat} {σ : zS} (hs : s < 192) (ht : t < 192) (hp : p < 4) : ∀ (j q fu : Nat), q + j = 4 → j < fu → f_X1_hasPartAt_2 fu (nI t) (nI (plc s p) - 1) (nI q) σ = some (bI (anyU (fun q => decide (plc t q = plc s p)) j q))
  | j, q, 0, hj, hf => by omega
  | 0, q, fu + 1, hj, hf => by
    unfold f_X1_hasPartAt_2
    rw [if_pos (show (4 : Int32) ≤ nI q from nI_le (a := 4) (by omega) (by omega))]; rfl
  | j + 1, q, fu + 1, hj, hf => by
    have l1 := plc_le (s := s) (p := p) hs
    have l2 := plc_le (s := t) (p := q) ht
    unfold f_X1_hasPartAt_2
    rw [if_neg (show ¬ (4 : Int32) ≤ nI q from nI_ge (b := 4) (by omega) (by omega)), c_place ht (by omega), nI_1, anyU_s]
    by_cases e : plc t q = plc s p
    · rw [if_pos (by rw [e]), decide_eq_true e]; rfl
    · rw [if_neg (fun z => e ((m1_inj (by omega) (by omega)).mp z)), decide_eq_false e, Bool.false_or]
      exact c_hasL hs ht hp j (q + 1) fu (by omega) (by omega)
theorem c_hitsL {b : Bool} {T : zT} {m s t h : Nat} (hm : m < T 4 2) (hs : s < 192) (ht : t < 192) (hh : h ≤ 24) : ∀ (j p a fu : Nat) (σ : zS), p + j = 2 → j < fu → CC b T (-1) (-1) σ →
    ∃ σ', f_X1_hits_6 fu (nI m) (nI s) (nI t) (nI h) (nI a) (nI p) σ = some (nI (htN T m s t h j p a), σ') ∧ Fc b [0] σ σ'
  | j, p, a, 0, σ, hj, hf, hC => by omega
  | 0, p, a, fu + 1, σ, hj, hf, hC => by
    unfold f_X1_hits_6
    rw [if_pos (show (2 : Int32) ≤ nI p from nI_le (a := 2) (by omega) (by omega))]
    exact ⟨σ, rfl, Fc.rf⟩
  | j + 1, p, a, fu + 1, σ, hj, hf, hC => by
    have e0 := c_hasL (σ := σ) hs ht (show p < 4 by omega) 4 0 FU (by omega) (by unfold FU; omega)
    replace e0 : f_X1_hasPartAt (nI t) (nI (plc s p) - 1) σ = _ := e0
    obtain ⟨σ1, e1, f1⟩ := c_allows hC hm hs (show p < 4 by omega) (show 2 < 4 by omega) hh
    replace e1 : f_X5_allows (nI m) (nI s) (nI p) 2 (nI h) σ = _ := e1
    unfold f_X1_hits_6 f_X1_hits_46
    rw [if_neg (show ¬ (2 : Int32) ≤ nI p from nI_ge (b := 2) (by omega) (by omega)), c_place hs (by omega), e0, bs, nI_1, nI_1]
    unfold htN htB mtB
    cases anyU (fun q => decide (plc t q = plc s p)) 4 0 with
    | false =>
      rw [if_pos (show bI false = 0 from rfl), Bool.false_and, if_neg (by decide)]
      exact c_hitsL hm hs ht hh j (p + 1) a fu σ (by omega) (by omega) hC
    | true =>
      rw [if_neg (show ¬ bI true = 0 by decide), e1, b2s, Bool.true_and]
      cases lawB T (-1) m s p 2 h with
      | false =>
        rw [if_pos (show bI false = 0 from rfl), if_neg (by decide)]
        obtain ⟨σ2, e2, f2⟩ := c_hitsL hm hs ht hh j (p + 1) a fu σ1 (by omega) (by omega) (hC.mono f1 rfl rfl)
        exact ⟨σ2, e2, f1.tr f2⟩
      | true =>
        rw [if_neg (show ¬ bI true = 0 by decide), if_pos rfl]
        obtain ⟨σ2, e2, f2⟩ := c_hitsL hm hs ht hh j (p + 1) (a + 1) fu σ1 (by omega) (by omega) (hC.mono f1 rfl rfl)
        exact ⟨σ2, e2, f1.tr f2⟩
theorem m_meets {T D : zT} {mv : Int32} {m s t : Nat} (r6 : Int32 → Int32 → Int32 → Int32 → Int32 → zS → Option (Int32 × zS)) (hs : s < 192) (ht : t < 192) {p a : Nat} (hp : p < 2) : ∀ (j q fu : Nat) (is : Bool) (σ : zS), q + j = 4 → j < fu →
    f_X12_hits_18 r6 fu (nI m) (nI s) (nI t) (nI a) (nI p) (bI is) (nI q) σ = f_X12_hits_18 r6 1 (nI m) (nI s) (nI t) (nI a) (nI p) (bI (is || anyU (fun q => decide (plc t q = plc s p)) j q)) (nI 4) σ
  | j, q, 0, is, σ, hj, hf => by omega
  | 0, q, fu + 1, is, σ, hj, hf => by
    rw [show q = 4 by omega]
    show _ = f_X12_hits_18 r6 (0 + 1) _ _ _ _ _ (bI (is || false)) _ _
    rw [Bool.or_false]
    conv => lhs; unfold f_X12_hits_18
    conv => rhs; unfold f_X12_hits_18
    rw [if_pos (show (4 : Int32) ≤ nI 4 by decide), if_pos (show (4 : Int32) ≤ nI 4 by decide)]
  | j + 1, q, fu + 1, is, σ, hj, hf => by
    have l1 := plc_le (s := s) (p := p) hs
    have l2 := plc_le (s := t) (p := q) ht
    conv => lhs; unfold f_X12_hits_18
    unfold f_X12_hits_42
    rw [if_neg (show ¬ (4 : Int32) ≤ nI q from nI_ge (b := 4) (by omega) (by omega)), m_place ht (by omega), m_place hs (by omega), nI_1, anyU_s]
    by_cases e : plc t q = plc s p
    · rw [if_pos (by rw [e]), decide_eq_true e, Bool.true_or, Bool.or_true]
      have := m_meets (T := T) (D := D) (mv := mv) (m := m) r6 hs ht (a := a) hp j (q + 1) fu true σ (by omega) (by omega)
      rw [Bool.true_or] at this
      exact this
    · rw [if_neg (fun z => e ((m1_inj (by omega) (by omega)).mp z)), decide_eq_false e, Bool.false_or]
      exact m_meets (T := T) (D := D) (mv := mv) r6 hs ht hp j (q + 1) fu is σ (by omega) (by omega)
theorem m_hitsL {T D : zT} {mv : Int32} {m s t : Nat} (oD : okD T D) (hm : m < T 4 2) (hs : s < 192) (ht : t < 192) : ∀ (j p a fu : Nat) (σ : zS), p + j = 2 → j < fu → CM T (-1) (-1) σ → DM T 0 D mv σ →
    ∃ σ', f_X12_hits_6 fu (nI m) (nI s) (nI t) (nI a) (nI p) σ = some (nI (htN T m s t (D 0 0) j p a), σ') ∧ Fm [0] σ σ'
  | j, p, a, 0, σ, hj, hf, hC, h => by omega
  | 0, p, a, fu + 1, σ, hj, hf, hC, h => by
    unfold f_X12_hits_6
    rw [if_pos (show (2 : Int32) ≤ nI p from nI_le (a := 2) (by omega) (by omega))]
    exact ⟨σ, rfl, Fm.rf⟩
  | j + 1, p, a, fu + 1, σ, hj, hf, hC, h => by
    have e0 := m_meets (T := T) (D := D) (mv := mv) (m := m) (a := a) (f_X12_hits_6 fu) hs ht (show p < 2 by omega) 4 0 FU false σ (by omega) (by unfold FU; omega)
    replace e0 : f_X12_hits_18 (f_X12_hits_6 fu) FU (nI m) (nI s) (nI t) (nI a) (nI p) 0 0 σ = _ := e0
    obtain ⟨σ1, e1, f1⟩ := m_lawful hC hm hs (show p < 4 by omega) (show 2 < 4 by omega) oD.1
    replace e1 : f_X12_isLawful (nI m) (nI s) (nI p) 2 (nI (D 0 0)) σ = _ := e1
    have nx : ∀ a' σ', Fm [0] σ σ' → ∃ σ2, f_X12_hits_6 fu (nI m) (nI s) (nI t) (nI a') (nI (p + 1)) σ' = some (nI (htN T m s t (D 0 0) j (p + 1) a'), σ2) ∧ Fm [0] σ σ2 := by
      intro a' σ' F'
      obtain ⟨σ2, e2, f2⟩ := m_hitsL oD hm hs ht j (p + 1) a' fu σ' (by omega) (by omega) (hC.mono F' rfl rfl) (DM.mono hC.1 h F' rfl)
      exact ⟨σ2, e2, F'.tr f2⟩
    unfold f_X12_hits_6
    rw [if_neg (show ¬ (2 : Int32) ≤ nI p from nI_ge (b := 2) (by omega) (by omega)), e0, Bool.false_or]
    show ∃ σ', f_X12_hits_18 (f_X12_hits_6 fu) (0 + 1) _ _ _ _ _ _ _ _ = _ ∧ _
    unfold f_X12_hits_18 f_X12_hits_77 f_X12_hits_78
    simp only [lts]
    rw [if_pos (show (4 : Int32) ≤ nI 4 by decide), rd_lit (by decide) (by decide), bs, h.1, e1, b2s, nI_1, nI_1, show nI a + 0 = nI a from by show nI a + nI 0 = _; rw [nI_add]; rfl]
    unfold htN htB mtB
    cases anyU (fun q => decide (plc t q = plc s p)) 4 0 with
    | false =>
      rw [if_pos (show bI false = 0 from rfl), Bool.false_and, if_neg (by decide)]
      exact nx a σ Fm.rf
    | true =>
      rw [if_neg (show ¬ bI true = 0 by decide), Bool.true_and]
      cases lawB T (-1) m s p 2 (D 0 0) with
      | false =>
        rw [if_pos (show bI false = 0 from rfl), if_neg (by decide)]
        exact nx a σ1 f1
      | true =>
        rw [if_neg (show ¬ bI true = 0 by decide), if_pos rfl]
        exact nx (a + 1) σ1 f1
