/-! The pure part: the fewest lands that shut the loopholes -/
def hlB (T : zT) (m k h s p : Nat) : Bool := lawB T (-1) m s p k h && unL T m k h p
/-- what is gathered before a state and a part -/
def ndB (T : zT) (m k h s p l : Nat) : Prop := ∃ s' p', (s' < s ∧ p' < 4 ∨ s' = s ∧ p' < p) ∧ hlB T m k h s' p' = true ∧ landQ T (plc s' p') = l
theorem ndB_next {T : zT} {m k h s p l : Nat} (hp : p < 4) : ndB T m k h s (p + 1) l ↔ (ndB T m k h s p l ∨ (hlB T m k h s p = true ∧ landQ T (plc s p) = l)) := by
  constructor
  · rintro ⟨s', p', h1, h2, h3⟩
    by_cases e : s' = s ∧ p' = p
    · obtain ⟨rfl, rfl⟩ := e; exact .inr ⟨h2, h3⟩
    · exact .inl ⟨s', p', by omega, h2, h3⟩
  · rintro (⟨s', p', h1, h2, h3⟩ | ⟨h2, h3⟩)
    · exact ⟨s', p', by omega, h2, h3⟩
    · exact ⟨s, p, by omega, h2, h3⟩
theorem ndB_row {T : zT} {m k h s l : Nat} : ndB T m k h s 4 l ↔ ndB T m k h (s + 1) 0 l := by
  constructor
  · rintro ⟨s', p', h1, h2⟩; exact ⟨s', p', by omega, h2⟩
  · rintro ⟨s', p', h1, h2⟩; exact ⟨s', p', by omega, h2⟩
theorem tb {x i : Nat} : x.testBit i = true ↔ x / 2 ^ i % 2 = 1 := by rw [Nat.testBit_eq_decide_div_mod_eq]; exact decide_eq_true_iff
theorem tb_or {x l i : Nat} : (x ||| 2 ^ l).testBit i = true ↔ (x.testBit i = true ∨ l = i) := by
  rw [Nat.testBit_or, Nat.testBit_two_pow, Bool.or_eq_true, decide_eq_true_iff]
theorem c_lands {b : Bool} {T : zT} {m k h s d : Nat} {σ : zS} (hC : CC b T (-1) (-1) σ) (hs : s < 192) (hd : d < 16) (hdp : ∀ p, p < 4 → (d / 2 ^ p % 2 = 1 ↔ hlB T m k h s p = true)) : ∀ (j p N0 N fu : Nat), p + j = 4 → j < fu → N < 1024 → (∀ l, (N0 ||| N).testBit l = true ↔ ndB T m k h s p l) →
    ∃ N', f_X5_landsOf_5 fu (nI s) (nI d) (nI N) (nI p) σ = some (nI N') ∧ N' < 1024 ∧ (∀ l, (N0 ||| N').testBit l = true ↔ ndB T m k h s 4 l)
  | j, p, N0, N, 0, hj, hf, hN, hi => by omega
  | 0, p, N0, N, fu + 1, hj, hf, hN, hi => by
    unfold f_X5_landsOf_5
    rw [if_pos (show (4 : Int32) ≤ nI p from nI_le (a := 4) (by omega) (by omega))]
    rw [show p = 4 by omega] at hi
    exact ⟨N, rfl, hN, hi⟩
  | j + 1, p, N0, N, fu + 1, hj, hf, hN, hi => by
    have o := hC.1.1
    have pl := plc_le (s := s) (p := p) hs
    have lq : landQ T (plc s p) < 10 := by rcases landQ_lt hC.1 (q := plc s p) with z | z <;> omega
    have p10 : 2 ^ landQ T (plc s p) < 2 ^ 10 := Nat.pow_lt_pow_right (by decide) lq
    unfold f_X5_landsOf_5 f_X5_landsOf_35
    simp only [lts]
    rw [if_neg (show ¬ (4 : Int32) ≤ nI p from nI_ge (b := 4) (by omega) (by omega)), bit0 d hd p (by omega), c_place hs (by omega), c_landAt hC.1 hC.2.1 pl, bs, shl1 _ (by omega), nI_or (by omega) (by omega), nI_1]
    rcases Nat.mod_two_eq_zero_or_one (d / 2 ^ p) with z | z
    · rw [z, if_pos (show nI 0 = (0 : Int32) from rfl)]
      refine c_lands hC hs hd hdp j (p + 1) N0 N fu (by omega) (by omega) hN (fun l => ?_)
      rw [hi, ndB_next (by omega)]
      constructor
      · exact fun z => .inl z
      · rintro (q | ⟨q, -⟩)
        · exact q
        · have := (hdp p (by omega)).mpr q
          omega
    · rw [z, if_neg (show ¬ nI 1 = (0 : Int32) by decide)]
      refine c_lands hC hs hd hdp j (p + 1) N0 (N ||| 2 ^ landQ T (plc s p)) fu (by omega) (by omega) (Nat.or_lt_two_pow (n := 10) hN p10) (fun l => ?_)
      rw [← Nat.or_assoc, tb_or, hi, ndB_next (by omega)]
      have := (hdp p (by omega)).mp z
      constructor
      · rintro (q | q)
        · exact .inl q
        · exact .inr ⟨this, q⟩
      · rintro (q | ⟨-, q⟩)
        · exact .inl q
        · exact .inr q
theorem c_shutL {b : Bool} {T D : zT} {mv : Int32} {m k c : Nat} (oD : okD T D) (hm : m < T 4 2) (hk : k < 4) (hc : c < 16) (hp : ∀ p, p < 4 → (c / 2 ^ p % 2 = 1 ↔ unL T m k (D 0 0) p = true)) : ∀ (j s N fu : Nat) (σ : zS), s + j = 16 * T 4 0 → N < 1024 → (∀ l, N.testBit l = true ↔ ndB T m k (D 0 0) s 0 l) → j < fu → CC b T (-1) (-1) σ → DC T 700 D mv σ →
    ∃ σ' N', f_X11_shut_30 fu (nI m) (nI k) (nI c) (nI N) (nI s) σ = some (if N'.testBit 9 then -2 else nI N', σ') ∧ Fc b [0] σ σ' ∧ N' < 1024 ∧ (∀ l, N'.testBit l = true ↔ ndB T m k (D 0 0) (16 * T 4 0) 0 l)
  | j, s, N, 0, σ, hj, hN, hi, hf, hC, dc => by omega
  | 0, s, N, fu + 1, σ, hj, hN, hi, hf, hC, dc => by
    have o := hC.1.1
    have b9 := bit12 N (by omega) 9 (by omega)
    replace b9 : (nI N >>> ((9 : Int32) &&& 31)) &&& (1 : Int32) = nI (N / 2 ^ 9 % 2) := b9
    unfold f_X11_shut_30 f_X8_states
    rw [hC.2.1.1.1, hC.2.1.2.1.1, show nI (T 4 0) * 16 = nI (T 4 0 * 16) from pk_mul _ 16, if_pos (nI_le (by omega) (by omega)), b9]
    rw [show s = 16 * T 4 0 by omega] at hi
    refine ⟨σ, N, ?_, Fc.rf, hN, hi⟩
    rcases Nat.mod_two_eq_zero_or_one (N / 2 ^ 9) with z | z
    · have : N.testBit 9 = false := by
        cases e : N.testBit 9 with
        | false => rfl
        | true => have := tb.mp e; omega
      rw [z, if_pos (show nI 0 = (0 : Int32) from rfl), this, if_neg (by decide)]
    · rw [z, if_neg (show ¬ nI 1 = (0 : Int32) by decide), tb.mpr z, if_pos rfl]
  | j + 1, s, N, fu + 1, σ, hj, hN, hi, hf, hC, dc => by
    have o := hC.1.1
    obtain ⟨σ1, e1, f1⟩ := c_parts hC hm (show s < 192 by omega) hk oD.1
    have lt := setN_lt (fun p => lawB T (-1) m s p k (D 0 0)) 4
    obtain ⟨d, d1, d2, d3⟩ := and4n _ lt c hc
    have C1 := hC.mono f1 rfl rfl
    obtain ⟨N', n1, n2, n3⟩ := c_lands (m := m) (k := k) (h := D 0 0) C1 (show s < 192 by omega) d1 (fun p hp' => by
      rw [d3 p hp', set4 _ p hp', hp p hp']; unfold hlB; rw [Bool.and_eq_true]) 4 0 N 0 FU (by omega) (by unfold FU; omega) (by omega) (fun l => by rw [Nat.or_zero]; exact hi l)
    replace n1 : f_X5_landsOf (nI s) (nI d) σ1 = _ := n1
    unfold f_X11_shut_30 f_X8_states
    rw [hC.2.1.1.1, hC.2.1.2.1.1, show nI (T 4 0) * 16 = nI (T 4 0 * 16) from pk_mul _ 16, if_neg (nI_ge (by omega) (by omega)), dc.1, e1, b2s, d2, n1, bs, lts, nI_or (by omega) (by omega), nI_1]
    obtain ⟨σ2, N2, e2, f2, l2, i2⟩ := c_shutL oD hm hk hc hp j (s + 1) (N ||| N') fu σ1 (by omega) (Nat.or_lt_two_pow (n := 10) hN n2) (fun l => by rw [n3, ndB_row]) (by omega) C1 (DC.mono (z := 3) (.inl ⟨rfl, rfl⟩) dc f1 rfl)
    exact ⟨σ2, N2, e2, f1.tr f2, l2, i2⟩
/-- bits of a set of lands -/
def bt6 (s : Nat) : Nat := s % 2 + s / 2 % 2 + s / 4 % 2 + s / 8 % 2 + s / 16 % 2 + s / 32 % 2
theorem m_bits {s : Nat} (hs : s < 32) (σ : zS) : f_X12_bitsOf (nI s) σ = some (nI (bt6 s)) := by
  have : ∀ s, s < 32 → f_X12_bitsOf_4 7 (nI s) 0 0 zz0 = some (nI (bt6 s)) := by decide +kernel
  have big : ∀ (n k a : Nat), k ≤ 6 → f_X12_bitsOf_4 (n + (7 - k)) (nI s) (nI a) (nI k) σ = f_X12_bitsOf_4 (7 - k) (nI s) (nI a) (nI k) zz0 := by
    intro n k
    have aux : ∀ j k a, k + j = 6 → f_X12_bitsOf_4 (n + (j + 1)) (nI s) (nI a) (nI k) σ = f_X12_bitsOf_4 (j + 1) (nI s) (nI a) (nI k) zz0 := by
      intro j
      induction j with
      | zero =>
        intro k a hk
        have : k = 6 := by omega
        subst this; rfl
      | succ j ih =>
        intro k a hk
        show f_X12_bitsOf_4 ((n + (j + 1)) + 1) _ _ _ _ = f_X12_bitsOf_4 ((j + 1) + 1) _ _ _ _
        conv => lhs; unfold f_X12_bitsOf_4
        conv => rhs; unfold f_X12_bitsOf_4
        rw [if_neg (show ¬ (6 : Int32) ≤ nI k from nI_ge (b := 6) (by omega) (by omega)), if_neg (show ¬ (6 : Int32) ≤ nI k from nI_ge (b := 6) (by omega) (by omega)), lts, lts, bit5 s hs k (by omega), nI_add, nI_1]
        exact ih (k + 1) _ (by omega)
    intro a hk
    have := aux (6 - k) k a (by omega)
    rw [show 6 - k + 1 = 7 - k by omega] at this
    exact this
  have b0 := big (99993) 0 0 (by omega)
  exact b0.trans (this s hs)
def shL (ok : Nat → Bool) : Nat → Nat → Option Nat → Option Nat
  | 0, _, o => o
  | j + 1, s, o => shL ok j (s + 1) (if (match o with | none => true | some e => decide (bt6 s < bt6 e)) && ok s then some s else o)
theorem m_isShut {T D : zT} {mv : Int32} {m k sh : Nat} (oD : okD T D) (hm : m < T 4 2) (hk : k < 4) (hsh : sh < 32) : ∀ (j s fu : Nat) (σ : zS), s + j = 16 * T 4 0 → j < fu → CM T (-1) (-1) σ → DM T 0 D mv σ → σ.1 5000 51 = nI (setN (unL T m k (D 0 0)) 4) →
    ∃ σ', f_X12_isShut_3 fu (nI m) (nI k) (nI sh) (nI s) σ = some (bI (!(anyU (lpH T m k (D 0 0) sh) j s)), σ') ∧ Fm [0] σ σ'
  | j, s, 0, σ, hj, hf, hC, h, hu => by omega
  | 0, s, fu + 1, σ, hj, hf, hC, h, hu => by
    have o := hC.1.1
    unfold f_X12_isShut_3
    rw [m_many16 hC.2.1, bs, if_pos (nI_le (by omega) (by omega))]
    exact ⟨σ, rfl, Fm.rf⟩
  | j + 1, s, fu + 1, σ, hj, hf, hC, h, hu => by
    have o := hC.1.1
    obtain ⟨σ1, e1, f1⟩ := m_hole oD hm hk (show s < 192 by omega) hsh hC h hu
    unfold f_X12_isShut_3
    rw [m_many16 hC.2.1, bs, if_neg (nI_ge (by omega) (by omega)), e1, b2s, nI_1, anyU_s (lpH T m k (D 0 0) sh) j s]
    cases lpH T m k (D 0 0) sh s with
    | true => exact ⟨σ1, rfl, f1⟩
    | false =>
      rw [if_pos (show bI false = 0 from rfl), Bool.false_or]
      obtain ⟨σ2, e2, f2⟩ := m_isShut oD hm hk hsh j (s + 1) fu σ1 (by omega) (by omega) (hC.mono f1 rfl rfl) (DM.mono hC.1 h f1 rfl) ((f1.z (z := 11) rfl rfl).trans hu)
      exact ⟨σ2, e2, f1.tr f2⟩
theorem m_shutL {T D : zT} {mv : Int32} {m k : Nat} (oD : okD T D) (hm : m < T 4 2) (hk : k < 4) : ∀ (j sh fu : Nat) (o : Option Nat) (σ : zS), sh + j = 2 ^ T 4 1 → (∀ e, o = some e → e < 32) → j < fu → CM T (-1) (-1) σ → DM T 0 D mv σ → σ.1 5000 51 = nI (setN (unL T m k (D 0 0)) 4) →
    ∃ σ', f_X12_shut_34 fu (nI m) (nI k) (oI2 o) (nI sh) σ = some (oI2 (shL (fun sh => !(anyU (lpH T m k (D 0 0) sh) (16 * T 4 0) 0)) j sh o), σ') ∧ Fm [0] σ σ'
  | j, sh, 0, o, σ, hj, ho, hf, hC, h, hu => by omega
  | 0, sh, fu + 1, o, σ, hj, ho, hf, hC, h, hu => by
    have o1 := hC.1.1
    have p5 : 2 ^ T 4 1 ≤ 2 ^ 5 := Nat.pow_le_pow_right (by decide) (by omega)
    unfold f_X12_shut_34
    rw [rd_lit (by decide) (by decide), bs, row0 hC.2.1.1 (k := 1) (by decide), shl1 _ (by omega), if_pos (nI_le (by omega) (by omega))]
    exact ⟨σ, rfl, Fm.rf⟩
  | j + 1, sh, fu + 1, o, σ, hj, ho, hf, hC, h, hu => by
    have o1 := hC.1.1
    have p5 : 2 ^ T 4 1 ≤ 2 ^ 5 := Nat.pow_le_pow_right (by decide) (by omega)
    have hsh : sh < 32 := by omega
    unfold f_X12_shut_34 f_X12_shut_66 f_X12_shut_80
    rw [rd_lit (by decide) (by decide), bs, row0 hC.2.1.1 (k := 1) (by decide), shl1 _ (by omega), if_neg (nI_ge (by omega) (by omega)), nI_1]
    obtain ⟨σ1, e1, f1⟩ := m_isShut oD hm hk hsh (16 * T 4 0) 0 FU σ (by omega) (by unfold FU; omega) hC h hu
    replace e1 : f_X12_isShut (nI m) (nI k) (nI sh) σ = _ := e1
    have nx : ∀ (o' : Option Nat) (σ' : zS), (∀ e, o' = some e → e < 32) → Fm [0] σ σ' → ∃ σ2, f_X12_shut_34 fu (nI m) (nI k) (oI2 o') (nI (sh + 1)) σ' = some (oI2 (shL (fun sh => !(anyU (lpH T m k (D 0 0) sh) (16 * T 4 0) 0)) j (sh + 1) o'), σ2) ∧ Fm [0] σ σ2 := by
      intro o' σ' ho' F'
      obtain ⟨σ2, e2, f2⟩ := m_shutL oD hm hk j (sh + 1) fu o' σ' (by omega) ho' (by omega) (hC.mono F' rfl rfl) (DM.mono hC.1 h F' rfl) ((F'.z (z := 11) rfl rfl).trans hu)
      exact ⟨σ2, e2, F'.tr f2⟩
    rw [e1, b2s]
    have cell : ∀ o0 : Option Nat, o0 = o → ∃ σ', (if bI (!anyU (lpH T m k (D 0 0) sh) (16 * T 4 0) 0) = 0 then f_X12_shut_34 fu (nI m) (nI k) (oI2 o) (nI (sh + 1)) σ1 else f_X12_shut_34 fu (nI m) (nI k) (nI sh) (nI (sh + 1)) σ1) = some (oI2 (shL (fun sh => !(anyU (lpH T m k (D 0 0) sh) (16 * T 4 0) 0)) j (sh + 1) (if !(anyU (lpH T m k (D 0 0) sh) (16 * T 4 0) 0) then some sh else o)), σ') ∧ Fm [0] σ σ' := by
      intro o0 _
      cases anyU (lpH T m k (D 0 0) sh) (16 * T 4 0) 0 with
      | true => exact nx o σ1 ho f1
      | false => exact nx (some sh) σ1 (fun e he => by cases he; exact hsh) f1
    unfold shL
    cases o with
    | none =>
      rw [if_pos (show oI2 none < 0 by decide)]
      obtain ⟨σ2, e2, f2⟩ := cell none rfl
      refine ⟨σ2, ?_, f2⟩
      rw [e2, Bool.true_and]
    | some e =>
      have he := ho e rfl
      have be : bt6 e < 2 ^ 31 := by unfold bt6; omega
      have bsh : bt6 sh < 2 ^ 31 := by unfold bt6; omega
      rw [if_neg (show ¬ oI2 (some e) < 0 from nI_pos (by omega)), m_bits hsh, bs, show f_X12_bitsOf (oI2 (some e)) σ = some (nI (bt6 e)) from m_bits he σ, bs]
      by_cases hl : bt6 sh < bt6 e
      · rw [if_pos (nI_lt hl be)]
        obtain ⟨σ2, e2, f2⟩ := cell (some e) rfl
        refine ⟨σ2, ?_, f2⟩
        rw [e2]
        show _ = some (oI2 (shL _ j (sh + 1) (if (decide (bt6 sh < bt6 e) && _) = true then _ else _)), σ2)
        rw [decide_eq_true hl, Bool.true_and]
      · rw [if_neg (nI_nlt (by omega) bsh)]
        obtain ⟨σ2, e2, f2⟩ := nx (some e) σ ho Fm.rf
        refine ⟨σ2, ?_, f2⟩
        rw [e2]
        show _ = some (oI2 (shL _ j (sh + 1) (if (decide (bt6 sh < bt6 e) && _) = true then _ else _)), σ2)
        rw [decide_eq_false hl, Bool.false_and, if_neg (show ¬ false = true by decide)]
theorem any_iff {f : Nat → Bool} : ∀ (j k : Nat), anyU f j k = true ↔ ∃ i, k ≤ i ∧ i < k + j ∧ f i = true
  | 0, k => by
    constructor
    · intro h; cases h
    · rintro ⟨i, h1, h2, -⟩; omega
  | j + 1, k => by
    rw [anyU_s, Bool.or_eq_true, any_iff j (k + 1)]
    constructor
    · rintro (h | ⟨i, h1, h2, h3⟩)
      · exact ⟨k, Nat.le_refl _, by omega, h⟩
      · exact ⟨i, by omega, by omega, h3⟩
    · rintro ⟨i, h1, h2, h3⟩
      by_cases e : i = k
      · subst e; exact .inl h3
      · exact .inr ⟨i, by omega, by omega, h3⟩
def subB (N s : Nat) : Bool := (List.range 9).all (fun l => !(N.testBit l) || s.testBit l)
theorem subB_iff {N s : Nat} : subB N s = true ↔ ∀ l, l < 9 → N.testBit l = true → s.testBit l = true := by
  unfold subB
  rw [List.all_eq_true]
  constructor
  · intro h l hl hb
    have := h l (List.mem_range.mpr hl)
    rw [hb] at this; exact this
  · intro h l hl
    cases e : N.testBit l with
    | false => rfl
    | true => rw [h l (List.mem_range.mp hl) e]; rfl
theorem shutB {T : zT} {m k h N sh : Nat} (hN : ∀ l, N.testBit l = true ↔ ndB T m k h (16 * T 4 0) 0 l) : (!(anyU (lpH T m k h sh) (16 * T 4 0) 0)) = (!(N.testBit 9) && subB N sh) ∨ ∃ l, 9 < l ∧ N.testBit l = true := by
  by_cases hx : ∃ l, 9 < l ∧ N.testBit l = true
  · exact .inr hx
  left
  have key : anyU (lpH T m k h sh) (16 * T 4 0) 0 = true ↔ (N.testBit 9 = true ∨ ∃ l, l < 9 ∧ N.testBit l = true ∧ ¬ sh.testBit l = true) := by
    rw [any_iff]
    constructor
    · rintro ⟨s, -, h2, h3⟩
      unfold lpH at h3
      obtain ⟨p, hp, e⟩ := any4.mp h3
      unfold lpP at e
      simp only [Bool.and_eq_true] at e
      obtain ⟨e1, e2, e3⟩ := e
      have nb : N.testBit (landQ T (plc s p)) = true := (hN _).mpr ⟨s, p, by omega, by unfold hlB; rw [e1, e3]; rfl, rfl⟩
      by_cases h9 : landQ T (plc s p) = 9
      · rw [h9] at nb; exact .inl nb
      · right
        refine ⟨landQ T (plc s p), ?_, nb, ?_⟩
        · rcases Nat.lt_or_ge (landQ T (plc s p)) 9 with z | z
          · exact z
          · exact absurd ⟨_, by omega, nb⟩ hx
        · rw [decide_eq_false h9] at e2
          intro z
          rw [decide_eq_true (tb.mp z)] at e2; cases e2
    · intro hh
      have mk : ∀ l, N.testBit l = true → (l = 9 ∨ ¬ sh.testBit l = true) → ∃ i, 0 ≤ i ∧ i < 0 + 16 * T 4 0 ∧ lpH T m k h sh i = true := by
        intro l hl hc
        obtain ⟨s, p, h1, h2, h3⟩ := (hN l).mp hl
        refine ⟨s, by omega, by omega, ?_⟩
        unfold lpH
        rw [any4]
        refine ⟨p, by omega, ?_⟩
        unfold hlB at h2
        rw [Bool.and_eq_true] at h2
        unfold lpP
        rw [h2.1, h2.2, h3]
        rcases hc with rfl | hc
        · rfl
        · have : ¬ sh / 2 ^ l % 2 = 1 := fun z => hc (tb.mpr z)
          rw [decide_eq_false this]; simp
      rcases hh with hh | ⟨l, l1, l2, l3⟩
      · exact mk 9 hh (.inl rfl)
      · exact mk l l2 (.inr l3)
  cases e : anyU (lpH T m k h sh) (16 * T 4 0) 0 with
  | true =>
    rcases key.mp e with z | ⟨l, l1, l2, l3⟩
    · rw [z]; rfl
    · have : subB N sh = false := by
        cases q : subB N sh with
        | false => rfl
        | true => exact absurd (subB_iff.mp q l l1 l2) l3
      rw [this, Bool.and_false]; rfl
  | false =>
    have n9 : N.testBit 9 = false := by
      cases z : N.testBit 9 with
      | false => rfl
      | true => rw [key.mpr (.inl z)] at e; cases e
    have al : ∀ l, l < 9 → N.testBit l = true → sh.testBit l = true := by
      intro l l1 l2
      cases z : sh.testBit l with
      | true => rfl
      | false =>
        rw [key.mpr (.inr ⟨l, l1, l2, by rw [z]; decide⟩)] at e; cases e
    rw [n9, subB_iff.mpr al]; rfl
theorem shL_no : ∀ (j s : Nat), shL (fun _ => false) j s none = none
  | 0, s => rfl
  | j + 1, s => by
    show shL _ j (s + 1) (if (true && false) = true then some s else none) = none
    exact shL_no j (s + 1)
theorem shL_cong {f g : Nat → Bool} (h : ∀ s, s < 32 → f s = g s) : ∀ (j s : Nat) (o : Option Nat), s + j ≤ 32 → shL f j s o = shL g j s o
  | 0, s, o, hs => rfl
  | j + 1, s, o, hs => by
    show shL f j (s + 1) (if (_ && f s) = true then some s else o) = shL g j (s + 1) (if (_ && g s) = true then some s else o)
    rw [h s (by omega)]
    exact shL_cong h j (s + 1) _ (by omega)
theorem shL_yes : ∀ n, n < 6 → ∀ N, N < 2 ^ n → shL (subB N) (2 ^ n) 0 none = some N := by decide +kernel
theorem o_shut : op_shut V := by
  intro x y σc σm ⟨b, T, D, mv, h⟩
  have h0 := h.th 0
  have hT := h.oT
  have o := hT.1
  unfold f_X11_shut f_X12_shut
  rw [lts]
  rcases ix x (n := T 4 2) (by omega) with hx | ⟨m, hm, rfl⟩
  · rw [c_man0 h.cc.2.1 hx, m_man0 h0.cm.2.1 hx, bs]
    exact ⟨-1, σc, _, rfl, rfl, h0.v⟩
  · rw [c_man1 hT h.cc.2.1 hm, m_man1 hT h0.cm.2.1 hm, bs, if_neg n10, if_neg n10]
    rcases ix y (n := 4) (by omega) with hy | ⟨k, hk, rfl⟩
    · rw [(pt0 hy _).2.2.1, (pt0 hy _).2.2.2]
      exact ⟨-1, σc, _, rfl, rfl, h0.v⟩
    · rw [(pt1 hk _).2.2.1, (pt1 hk _).2.2.2, if_neg n10, if_neg n10]
      obtain ⟨σ1, c, e1, f1, hc, hp⟩ := c_closed h.cc h.oD h.dc hm hk
      obtain ⟨σ2, e2, f2, g2⟩ := m_unl h.oD hm hk h0.cm h0.dm
      obtain ⟨σ3, N, e3, f3, hN, hI⟩ := c_shutL h.oD hm hk hc hp (16 * T 4 0) 0 0 FU σ1 (by omega) (by omega) (fun l => by
        rw [Nat.zero_testBit]
        constructor
        · intro z; cases z
        · rintro ⟨s', p', h1, -⟩; omega) (by unfold FU; omega) (h.cc.mono f1 rfl rfl) (DC.mono (z := 3) (.inl ⟨rfl, rfl⟩) h.dc f1 rfl)
      have p5 : 2 ^ T 4 1 ≤ 2 ^ 5 := Nat.pow_le_pow_right (by decide) (by omega)
      obtain ⟨σ4, e4, f4⟩ := m_shutL h.oD hm hk (2 ^ T 4 1) 0 FU none σ2 (by omega) (fun e he => by cases he) (by unfold FU; omega) (h0.cm.mono f2 rfl rfl) (DM.mono hT h0.dm f2 rfl) g2
      have lq : ∀ l, N.testBit l = true → l = 9 ∨ l < T 4 1 := by
        intro l hl
        obtain ⟨s, p, -, -, rfl⟩ := (hI l).mp hl
        exact landQ_lt hT
      have no9 : ¬ ∃ l, 9 < l ∧ N.testBit l = true := by
        rintro ⟨l, h1, h2⟩
        have := lq l h2
        omega
      have shb : ∀ sh, (!(anyU (lpH T m k (D 0 0) sh) (16 * T 4 0) 0)) = (!(N.testBit 9) && subB N sh) := fun sh => (shutB hI).resolve_right no9
      rw [e1, b2s, e2, bs]
      refine ⟨if N.testBit 9 then -2 else nI N, σ3, σ4, e3, ?_, h0.q2 ((f1.tr f3).mono rfl) ((f2.mono rfl).tr (f4.mono rfl))⟩
      refine Eq.trans e4 ?_
      cases e9 : N.testBit 9 with
      | true =>
        rw [shL_cong (g := fun _ => false) (fun s _ => by rw [shb, e9]; rfl) _ _ _ (by omega), shL_no]
        rfl
      | false =>
        have lt : N < 2 ^ T 4 1 := by
          apply Nat.lt_pow_two_of_testBit
          intro i hi
          cases z : N.testBit i with
          | false => rfl
          | true =>
            rcases lq i z with q | q
            · rw [q, e9] at z; cases z
            · omega
        rw [shL_cong (g := subB N) (fun s _ => by rw [shb, e9]; rfl) _ _ _ (by omega), shL_yes _ (by omega) N lt]
        rfl
