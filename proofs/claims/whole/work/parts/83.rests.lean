/-! The pure part: rests -/
def gnI (T D : zT) (m n : Nat) (q : Nat) : Int32 := nI (htN T m (fcg (D 1 m) (q / 4)) (fcg (D 1 n) (q % 4)) (D 0 0) 2 0 0) - nI (htN T n (fcg (D 1 n) (q % 4)) (fcg (D 1 m) (q / 4)) (D 0 0) 2 0 0)
theorem qdiv : ∀ q, q < 16 → nI q / (4 : Int32) = nI (q / 4) ∧ nI q - nI q / (4 : Int32) * (4 : Int32) = nI (q % 4) := by decide +kernel
theorem c_weighL {b : Bool} {T D : zT} {mv : Int32} {m n : Nat} (oD : okD T D) (hm : m < T 4 2) (hn : n < T 4 2) : ∀ (j q fu : Nat) (σ : zS), q + j = 16 → j < fu → CC b T (-1) (-1) σ → DC T 700 D mv σ → (∀ i, i < q → σ.1 1601 i = gnI T D m n i) →
    ∃ σ', f_X1_weigh_3 700 fu (nI m) (nI n) (nI q) σ = some σ' ∧ Fc b [0, 14] σ σ' ∧ (∀ i, i < 16 → σ'.1 1601 i = gnI T D m n i)
  | j, q, 0, σ, hj, hf, hC, h, hg => by omega
  | 0, q, fu + 1, σ, hj, hf, hC, h, hg => by
    unfold f_X1_weigh_3
    rw [if_pos (show (16 : Int32) ≤ nI q from nI_le (a := 16) (by omega) (by omega))]
    exact ⟨σ, rfl, Fc.rf, fun i hi => hg i (by omega)⟩
  | j + 1, q, fu + 1, σ, hj, hf, hC, h, hg => by
    have o := hC.1.1
    have om := oD.2.1 m hm
    have on := oD.2.1 n hn
    have d := qdiv q (by omega)
    have s1 := fcg_lt (f := q / 4) om.1 (by omega)
    have s2 := fcg_lt (f := q % 4) on.1 (by omega)
    obtain ⟨σ1, e1, f1⟩ := c_hitsL (b := b) (s := fcg (D 1 m) (q / 4)) (t := fcg (D 1 n) (q % 4)) hm (by omega) (by omega) oD.1 2 0 0 FU σ (by omega) (by unfold FU; omega) hC
    replace e1 : f_X1_hits (nI m) (nI (fcg (D 1 m) (q / 4))) (nI (fcg (D 1 n) (q % 4))) (nI (D 0 0)) σ = _ := e1
    obtain ⟨σ2, e2, f2⟩ := c_hitsL (b := b) (s := fcg (D 1 n) (q % 4)) (t := fcg (D 1 m) (q / 4)) hn (by omega) (by omega) oD.1 2 0 0 FU σ1 (by omega) (by unfold FU; omega) (hC.mono f1 rfl rfl)
    replace e2 : f_X1_hits (nI n) (nI (fcg (D 1 n) (q % 4))) (nI (fcg (D 1 m) (q / 4))) (nI (D 0 0)) σ1 = _ := e2
    have h1 := DC.mono (z := 3) (.inl ⟨rfl, rfl⟩) h f1 rfl
    unfold f_X1_weigh_3
    simp only [lts]
    rw [if_neg (show ¬ (16 : Int32) ≤ nI q from nI_ge (b := 16) (by omega) (by omega)), rd_nI (by omega) (by omega), bs, (h.s0 hm).1, d.2, d.1, c_facing (by omega) (by omega), rd_nI (by omega) (by omega), bs, (h.s0 hn).1, c_facing (by omega) (by omega), h.1, e1, b2s, h1.1, e2, b2s, wr_nI (by omega) (by omega), bs, nI_1]
    have F2 : Fc b [0, 14] σ σ2 := (f1.tr f2).mono rfl
    have F3 : Fc b [0, 14] σ (wI σ2 1601 q (gnI T D m n q)) := F2.wI (by cases b <;> rfl)
    obtain ⟨σ3, e3, f3, g3⟩ := c_weighL oD hm hn j (q + 1) fu (wI σ2 1601 q (gnI T D m n q)) (by omega) (by omega) (hC.mono F3 rfl rfl) (DC.mono (z := 3) (.inl ⟨rfl, rfl⟩) h F3 rfl) (by
      intro i hi
      by_cases e : i = q
      · subst e; rw [wI_self]
      · rw [wI_at, if_neg (by omega), ((f1.tr f2).z (z := 14) (by cases b <;> rfl) rfl)]
        exact hg i (by omega))
    exact ⟨σ3, e3, F3.tr f3, g3⟩
theorem m_duelI {T D : zT} {mv : Int32} {m n : Nat} (r2 : Int32 → Int32 → Int32 → zS → Option zS) (oD : okD T D) (hm : m < T 4 2) (hn : n < T 4 2) {a : Nat} (ha : a < 4) : ∀ (j q fu : Nat) (σ : zS), q + j = 4 → j < fu → CM T (-1) (-1) σ → DM T 0 D mv σ → (∀ i, i < 4 * a + q → σ.1 5053 i = gnI T D m n i) →
    ∃ σ', f_X12_layDuel_10 r2 fu (nI m) (nI n) (nI a) (nI q) σ = r2 (nI m) (nI n) (nI (a + 1)) σ' ∧ Fm [0, 14] σ σ' ∧ (∀ i, i < 4 * a + 4 → σ'.1 5053 i = gnI T D m n i)
  | j, q, 0, σ, hj, hf, hC, h, hg => by omega
  | 0, q, fu + 1, σ, hj, hf, hC, h, hg => by
    unfold f_X12_layDuel_10
    rw [if_pos (show (4 : Int32) ≤ nI q from nI_le (a := 4) (by omega) (by omega)), nI_1]
    exact ⟨σ, rfl, Fm.rf, fun i hi => hg i (by omega)⟩
  | j + 1, q, fu + 1, σ, hj, hf, hC, h, hg => by
    have o := hC.1.1
    have om := oD.2.1 m hm
    have on := oD.2.1 n hn
    have s1 := fcg_lt (f := a) om.1 ha
    have s2 := fcg_lt (f := q) on.1 (by omega)
    obtain ⟨σ1, e1, f1⟩ := m_hitsL (s := fcg (D 1 m) a) (t := fcg (D 1 n) q) oD hm (by omega) (by omega) 2 0 0 FU σ (by omega) (by unfold FU; omega) hC h
    replace e1 : f_X12_hits (nI m) (nI (fcg (D 1 m) a)) (nI (fcg (D 1 n) q)) σ = _ := e1
    obtain ⟨σ2, e2, f2⟩ := m_hitsL (s := fcg (D 1 n) q) (t := fcg (D 1 m) a) oD hn (by omega) (by omega) 2 0 0 FU σ1 (by omega) (by unfold FU; omega) (hC.mono f1 rfl rfl) (DM.mono hC.1 h f1 rfl)
    replace e2 : f_X12_hits (nI n) (nI (fcg (D 1 n) q)) (nI (fcg (D 1 m) a)) σ1 = _ := e2
    have eq4 : (4 : Int32) * nI a + nI q = nI (4 * a + q) := by show nI 4 * nI a + nI q = _; rw [pk_mul, nI_add]
    unfold f_X12_layDuel_10
    simp only [lts]
    rw [if_neg (show ¬ (4 : Int32) ≤ nI q from nI_ge (b := 4) (by omega) (by omega)), rd_nI (by omega) (by omega), bs, (h.s0 hm).1, m_facing (by omega) ha, rd_nI (by omega) (by omega), bs, (h.s0 hn).1, m_facing (by omega) (by omega), e1, b2s, e2, b2s, eq4, wr_nI (by omega) (by omega), bs, nI_1]
    have eg : nI (htN T m (fcg (D 1 m) a) (fcg (D 1 n) q) (D 0 0) 2 0 0) - nI (htN T n (fcg (D 1 n) q) (fcg (D 1 m) a) (D 0 0) 2 0 0) = gnI T D m n (4 * a + q) := by
      unfold gnI
      rw [show (4 * a + q) / 4 = a by omega, show (4 * a + q) % 4 = q by omega]
    rw [eg]
    have F2 : Fm [0, 14] σ σ2 := (f1.tr f2).mono rfl
    have F3 : Fm [0, 14] σ (wI σ2 5053 (4 * a + q) (gnI T D m n (4 * a + q))) := F2.wI rfl
    obtain ⟨σ3, e3, f3, g3⟩ := m_duelI r2 oD hm hn ha j (q + 1) fu (wI σ2 5053 (4 * a + q) (gnI T D m n (4 * a + q))) (by omega) (by omega) (hC.mono F3 rfl rfl) (DM.mono hC.1 h F3 rfl) (by
      intro i hi
      by_cases e : i = 4 * a + q
      · subst e; rw [wI_self]
      · rw [wI_at, if_neg (by omega), ((f1.tr f2).z (z := 14) rfl rfl)]
        exact hg i (by omega))
    exact ⟨σ3, e3, F3.tr f3, g3⟩
theorem m_duelO {T D : zT} {mv : Int32} {m n : Nat} (oD : okD T D) (hm : m < T 4 2) (hn : n < T 4 2) : ∀ (j a fu : Nat) (σ : zS), a + j = 4 → j < fu → CM T (-1) (-1) σ → DM T 0 D mv σ → (∀ i, i < 4 * a → σ.1 5053 i = gnI T D m n i) →
    ∃ σ', f_X12_layDuel_2 fu (nI m) (nI n) (nI a) σ = some σ' ∧ Fm [0, 14] σ σ' ∧ (∀ i, i < 16 → σ'.1 5053 i = gnI T D m n i)
  | j, a, 0, σ, hj, hf, hC, h, hg => by omega
  | 0, a, fu + 1, σ, hj, hf, hC, h, hg => by
    unfold f_X12_layDuel_2
    rw [if_pos (show (4 : Int32) ≤ nI a from nI_le (a := 4) (by omega) (by omega))]
    exact ⟨σ, rfl, Fm.rf, fun i hi => hg i (by omega)⟩
  | j + 1, a, fu + 1, σ, hj, hf, hC, h, hg => by
    unfold f_X12_layDuel_2
    rw [if_neg (show ¬ (4 : Int32) ≤ nI a from nI_ge (b := 4) (by omega) (by omega))]
    obtain ⟨σ1, e1, f1, g1⟩ := m_duelI (f_X12_layDuel_2 fu) oD hm hn (show a < 4 by omega) 4 0 FU σ (by omega) (by unfold FU; omega) hC h hg
    replace e1 : f_X12_layDuel_10 (f_X12_layDuel_2 fu) FU (nI m) (nI n) (nI a) 0 σ = _ := e1
    rw [e1]
    obtain ⟨σ2, e2, f2, g2⟩ := m_duelO oD hm hn j (a + 1) fu σ1 (by omega) (by omega) (hC.mono f1 rfl rfl) (DM.mono hC.1 h f1 rfl) (fun i hi => g1 i (by omega))
    exact ⟨σ2, e2, f1.tr f2, g2⟩
/-- neither would turn -/
def wdB (g : Nat → Int32) (q f : Nat) : Bool := decide (g q < g (4 * f + q % 4)) || decide (g (4 * (q / 4) + f) < g q)
def rsB (g : Nat → Int32) (q : Nat) : Bool := !(anyU (wdB g q) 4 0)
theorem c_isRestL {g : Nat → Int32} {σ : zS} (hg : ∀ i, i < 16 → σ.1 1601 i = g i) {q : Nat} (hq : q < 16) : ∀ (j f fu : Nat), f + j = 4 → j < fu → f_X1_isRest_11 fu (nI q) (nI (q / 4)) (nI (q % 4)) (nI f) σ = some (bI (!(anyU (wdB g q) j f)))
  | j, f, 0, hj, hf => by omega
  | 0, f, fu + 1, hj, hf => by
    unfold f_X1_isRest_11
    rw [if_pos (show (4 : Int32) ≤ nI f from nI_le (a := 4) (by omega) (by omega))]; rfl
  | j + 1, f, fu + 1, hj, hf => by
    have e1 : nI f * (4 : Int32) + nI (q % 4) = nI (4 * f + q % 4) := by show nI f * nI 4 + nI (q % 4) = _; rw [pk_mul, nI_add, Nat.mul_comm]
    have e2 : nI (q / 4) * (4 : Int32) + nI f = nI (4 * (q / 4) + f) := by show nI (q / 4) * nI 4 + nI f = _; rw [pk_mul, nI_add, Nat.mul_comm]
    have ih := c_isRestL hg hq j (f + 1) fu (by omega) (by omega)
    unfold f_X1_isRest_11 f_X1_isRest_42 f_X1_isRest_69
    rw [if_neg (show ¬ (4 : Int32) ≤ nI f from nI_ge (b := 4) (by omega) (by omega)), e1, e2, rd_nI (by omega) (by omega), bs, rd_nI hq (by omega), rd_nI (by omega) (by omega), hg q hq, hg (4 * f + q % 4) (by omega), hg (4 * (q / 4) + f) (by omega), nI_1, ih, anyU_s]
    rw [show wdB g q f = (decide (g q < g (4 * f + q % 4)) || decide (g (4 * (q / 4) + f) < g q)) from rfl]
    simp only [bs]
    by_cases h1 : g (4 * f + q % 4) ≤ g q
    · rw [if_pos h1, decide_eq_false (Int32.not_lt.mpr h1), Bool.false_or]
      by_cases h2 : g q ≤ g (4 * (q / 4) + f)
      · rw [if_pos h2, decide_eq_false (Int32.not_lt.mpr h2), Bool.false_or]; rfl
      · rw [if_neg h2, decide_eq_true (Int32.not_le.mp h2), Bool.true_or]; rfl
    · rw [if_neg h1, decide_eq_true (Int32.not_le.mp h1), Bool.true_or, Bool.true_or]
      by_cases h2 : g q ≤ g (4 * (q / 4) + f)
      · rw [if_pos h2]; rfl
      · rw [if_neg h2]; rfl
theorem c_isRest {g : Nat → Int32} {σ : zS} (hg : ∀ i, i < 16 → σ.1 1601 i = g i) {q : Nat} (hq : q < 16) : f_X1_isRest (nI q) σ = some (bI (rsB g q)) := by
  have d := qdiv q hq
  unfold f_X1_isRest
  simp only [lts]
  rw [d.2, d.1]
  exact c_isRestL hg hq 4 0 FU (by omega) (by unfold FU; omega)
theorem m_isRestL {g : Nat → Int32} {σ : zS} (hg : ∀ i, i < 16 → σ.1 5053 i = g i) {q : Nat} (hq : q < 16) : ∀ (j f fu : Nat), f + j = 4 → j < fu → f_X12_isRest_2 fu (nI (q / 4)) (nI (q % 4)) (nI f) σ = some (bI (!(anyU (wdB g q) j f)))
  | j, f, 0, hj, hf => by omega
  | 0, f, fu + 1, hj, hf => by
    unfold f_X12_isRest_2
    rw [if_pos (show (4 : Int32) ≤ nI f from nI_le (a := 4) (by omega) (by omega))]; rfl
  | j + 1, f, fu + 1, hj, hf => by
    have e1 : (4 : Int32) * nI f + nI (q % 4) = nI (4 * f + q % 4) := by show nI 4 * nI f + nI (q % 4) = _; rw [pk_mul, nI_add]
    have e2 : (4 : Int32) * nI (q / 4) + nI f = nI (4 * (q / 4) + f) := by show nI 4 * nI (q / 4) + nI f = _; rw [pk_mul, nI_add]
    have e3 : (4 : Int32) * nI (q / 4) + nI (q % 4) = nI q := by
      show nI 4 * nI (q / 4) + nI (q % 4) = _; rw [pk_mul, nI_add, show 4 * (q / 4) + q % 4 = q by omega]
    have ih := m_isRestL hg hq j (f + 1) fu (by omega) (by omega)
    unfold f_X12_isRest_2
    rw [if_neg (show ¬ (4 : Int32) ≤ nI f from nI_ge (b := 4) (by omega) (by omega)), e1, e2, e3, rd_nI (by omega) (by omega), bs, rd_nI hq (by omega), bs, rd_nI (by omega) (by omega), bs, bs, hg q hq, hg (4 * f + q % 4) (by omega), hg (4 * (q / 4) + f) (by omega), nI_1, ih, anyU_s, show wdB g q f = (decide (g q < g (4 * f + q % 4)) || decide (g (4 * (q / 4) + f) < g q)) from rfl]
    by_cases h1 : g q < g (4 * f + q % 4)
    · rw [if_pos h1, decide_eq_true h1]; rfl
    · rw [if_neg h1, decide_eq_false h1, Bool.false_or]
      by_cases h2 : g q ≤ g (4 * (q / 4) + f)
      · rw [if_pos h2, decide_eq_false (Int32.not_lt.mpr h2), Bool.false_or]
      · rw [if_neg h2, decide_eq_true (Int32.not_le.mp h2)]; rfl
theorem m_isRest {g : Nat → Int32} {σ : zS} (hg : ∀ i, i < 16 → σ.1 5053 i = g i) {q : Nat} (hq : q < 16) : f_X12_isRest (nI (q / 4)) (nI (q % 4)) σ = some (bI (rsB g q)) := m_isRestL hg hq 4 0 FU (by omega) (by unfold FU; omega)
def rsS (f : Nat → Bool) (t : Option Nat) : Nat → Nat → Nat → Int32
  | 0, _, n => match t with | none => nI n | some _ => -2
  | j + 1, q, n => if f q then (if t = some n then nI (10 * (q / 4) + q % 4) else rsS f t j (q + 1) (n + 1)) else rsS f t j (q + 1) n
theorem c_rests {g : Nat → Int32} {σ : zS} (hg : ∀ i, i < 16 → σ.1 1601 i = g i) : ∀ (j q n fu : Nat), q + j = 16 → j < fu → f_X11_rests_45 fu (nI n) (nI q) σ = some (rsS (rsB g) none j q n, σ)
  | j, q, n, 0, hj, hf => by omega
  | 0, q, n, fu + 1, hj, hf => by
    unfold f_X11_rests_45
    rw [if_pos (show (16 : Int32) ≤ nI q from nI_le (a := 16) (by omega) (by omega))]; rfl
  | j + 1, q, n, fu + 1, hj, hf => by
    unfold f_X11_rests_45 f_X11_rests_67
    rw [if_neg (show ¬ (16 : Int32) ≤ nI q from nI_ge (b := 16) (by omega) (by omega)), c_isRest hg (by omega), bs, nI_1, nI_1]
    unfold rsS
    cases rsB g q with
    | false =>
      rw [if_pos (show bI false = 0 from rfl), if_neg (by decide)]
      exact c_rests hg j (q + 1) n fu (by omega) (by omega)
    | true =>
      rw [if_neg (show ¬ bI true = 0 by decide), if_pos rfl, if_neg (by simp)]
      exact c_rests hg j (q + 1) (n + 1) fu (by omega) (by omega)
theorem q10 : ∀ q, q < 16 → (nI q / (4 : Int32)) * (10 : Int32) + (nI q - nI q / (4 : Int32) * (4 : Int32)) = nI (10 * (q / 4) + q % 4) := by decide +kernel
theorem c_rest {g : Nat → Int32} {σ : zS} (hg : ∀ i, i < 16 → σ.1 1601 i = g i) {t : Nat} (ht : t < 2 ^ 31) : ∀ (j q n i fu : Nat), q + j = 16 → n + i = t → j < fu → f_X11_rest_50 fu (nI i) (nI q) σ = some (rsS (rsB g) (some t) j q n, σ)
  | j, q, n, i, 0, hj, hi, hf => by omega
  | 0, q, n, i, fu + 1, hj, hi, hf => by
    unfold f_X11_rest_50
    rw [if_pos (show (16 : Int32) ≤ nI q from nI_le (a := 16) (by omega) (by omega))]; rfl
  | j + 1, q, n, i, fu + 1, hj, hi, hf => by
    unfold f_X11_rest_50 f_X11_rest_90
    rw [if_neg (show ¬ (16 : Int32) ≤ nI q from nI_ge (b := 16) (by omega) (by omega)), c_isRest hg (by omega), bs, nI_1, q10 q (by omega)]
    unfold rsS
    cases rsB g q with
    | false =>
      rw [if_pos (show bI false = 0 from rfl), if_neg (by decide)]
      exact c_rest hg ht j (q + 1) n i fu (by omega) hi (by omega)
    | true =>
      rw [if_neg (show ¬ bI true = 0 by decide), if_pos rfl]
      cases i with
      | zero => rw [if_pos (show nI 0 = (0 : Int32) from rfl), if_pos (by rw [← hi]; rfl)]
      | succ i' =>
        rw [if_neg (show ¬ nI (i' + 1) = 0 by show ¬ _ = nI 0; rw [nI_eq (by omega) (by omega)]; omega), pk_m1, if_neg (by simp; omega)]
        exact c_rest hg ht j (q + 1) (n + 1) i' fu (by omega) (by omega) (by omega)
theorem m_restI {g : Nat → Int32} {σ : zS} (hg : ∀ i, i < 16 → σ.1 5053 i = g i) {t : Option Nat} (ht : ∀ v, t = some v → v < 2 ^ 31) (r4 : Int32 → Int32 → Int32 → zS → Option Int32) {a : Nat} (ha : a < 4) (hr : ∀ n, n ≤ 4 * a + 4 → r4 (oI t) (nI n) (nI (a + 1)) σ = some (rsS (rsB g) t (16 - 4 * (a + 1)) (4 * (a + 1)) n)) : ∀ (j b n fu : Nat), b + j = 4 → n ≤ 4 * a + b → j < fu →
    f_X12_restOf_12 r4 fu (oI t) (nI n) (nI a) (nI b) σ = some (rsS (rsB g) t (16 - (4 * a + b)) (4 * a + b) n)
  | j, b, n, 0, hj, hn, hf => by omega
  | 0, b, n, fu + 1, hj, hn, hf => by
    unfold f_X12_restOf_12
    rw [if_pos (show (4 : Int32) ≤ nI b from nI_le (a := 4) (by omega) (by omega)), nI_1, hr n (by omega), show 4 * (a + 1) = 4 * a + b by omega]
  | j + 1, b, n, fu + 1, hj, hn, hf => by
    have mr := m_isRest hg (q := 4 * a + b) (by omega)
    rw [show (4 * a + b) / 4 = a by omega, show (4 * a + b) % 4 = b by omega] at mr
    have e10 : (10 : Int32) * nI a + nI b = nI (10 * a + b) := by show nI 10 * nI a + nI b = _; rw [pk_mul, nI_add]
    unfold f_X12_restOf_12 f_X12_restOf_47
    rw [if_neg (show ¬ (4 : Int32) ≤ nI b from nI_ge (b := 4) (by omega) (by omega)), mr, bs, nI_1, nI_1, e10]
    rw [show 16 - (4 * a + b) = (16 - (4 * a + (b + 1))) + 1 by omega]
    unfold rsS
    rw [show (4 * a + b) / 4 = a by omega, show (4 * a + b) % 4 = b by omega]
    cases rsB g (4 * a + b) with
    | false =>
      rw [if_pos (show bI false = 0 from rfl), if_neg (by decide)]
      exact m_restI hg ht r4 ha hr j (b + 1) n fu (by omega) (by omega) (by omega)
    | true =>
      rw [if_neg (show ¬ bI true = 0 by decide), if_pos rfl]
      cases t with
      | none =>
        rw [if_neg (show ¬ nI n = oI none from nI_nm1 (by omega)), if_neg (by simp)]
        exact m_restI hg ht r4 ha hr j (b + 1) (n + 1) fu (by omega) (by omega) (by omega)
      | some v =>
        have hv := ht v rfl
        by_cases e : n = v
        · subst e; rw [if_pos (show nI n = oI (some n) from rfl), if_pos rfl]
        · rw [if_neg (show ¬ nI n = oI (some v) by show ¬ nI n = nI v; rw [nI_eq (by omega) hv]; exact e), if_neg (by simp; omega)]
          exact m_restI hg ht r4 ha hr j (b + 1) (n + 1) fu (by omega) (by omega) (by omega)
theorem m_restO {g : Nat → Int32} {σ : zS} (hg : ∀ i, i < 16 → σ.1 5053 i = g i) {t : Option Nat} (ht : ∀ v, t = some v → v < 2 ^ 31) : ∀ (j a n fu : Nat), a + j = 4 → n ≤ 4 * a → j < fu → f_X12_restOf_4 fu (oI t) (nI n) (nI a) σ = some (rsS (rsB g) t (16 - 4 * a) (4 * a) n)
  | j, a, n, 0, hj, hn, hf => by omega
  | 0, a, n, fu + 1, hj, hn, hf => by
    unfold f_X12_restOf_4
    rw [if_pos (show (4 : Int32) ≤ nI a from nI_le (a := 4) (by omega) (by omega)), show 16 - 4 * a = 0 by omega]
    cases t with
    | none => rw [if_pos (show oI none = -1 from rfl)]; rfl
    | some v => rw [if_neg (show ¬ oI (some v) = -1 from nI_nm1 (ht v rfl))]; rfl
  | j + 1, a, n, fu + 1, hj, hn, hf => by
    unfold f_X12_restOf_4
    rw [if_neg (show ¬ (4 : Int32) ≤ nI a from nI_ge (b := 4) (by omega) (by omega))]
    exact m_restI hg ht (f_X12_restOf_4 fu) (show a < 4 by omega) (fun n' hn' => m_restO hg ht j (a + 1) n' fu (by omega) (by omega) (by omega)) 4 0 n FU (by omega) (by omega) (by unfold FU; omega)
theorem two {b : Bool} {T : zT} {σc σm : zS} (hT : okT T) (hC : RC b T σc) (hM : RM T σm) (x y : Int32) : (∃ P, (P ∨ ¬ P) ∧ f_X12_areTwo x y σm = some 0 ∧ (f_X11_isMan x σc = 0 ∨ f_X11_isMan y σc = 0 ∨ x = y)) ∨ (∃ m n, m < T 4 2 ∧ n < T 4 2 ∧ m ≠ n ∧ x = nI m ∧ y = nI n ∧ f_X12_areTwo x y σm = some 1) := by
  have o := hT.1
  unfold f_X12_areTwo
  rcases ix x (n := T 4 2) (by omega) with hx | ⟨m, hm, rfl⟩
  · left
    refine ⟨True, .inl trivial, ?_, .inl (c_man0 hC hx)⟩
    rw [m_man0 hM hx, bs, if_pos rfl]
  · rcases ix y (n := T 4 2) (by omega) with hy | ⟨n, hn, rfl⟩
    · left
      refine ⟨True, .inl trivial, ?_, .inr (.inl (c_man0 hC hy))⟩
      rw [m_man1 hT hM hm, bs, if_neg n10, m_man0 hM hy, bs, if_pos rfl]
    · by_cases e : m = n
      · subst e
        left
        refine ⟨True, .inl trivial, ?_, .inr (.inr rfl)⟩
        rw [m_man1 hT hM hm, bs, if_neg n10, bs, if_neg n10, if_pos rfl]
      · right
        refine ⟨m, n, hm, hn, e, rfl, rfl, ?_⟩
        rw [m_man1 hT hM hm, bs, if_neg n10, m_man1 hT hM hn, bs, if_neg n10, if_neg]
        rw [nI_eq (by omega) (by omega)]; exact e
theorem o_rests : op_rests V := by
  intro x y σc σm ⟨b, T, D, mv, h⟩
  have h0 := h.th 0
  have hT := h.oT
  have o := hT.1
  unfold f_X11_rests f_X12_rests
  rw [lts]
  rcases two hT h.cc.2.1 h0.cm.2.1 x y with ⟨P, -, e0, hor⟩ | ⟨m, n, hm, hn, hne, rfl, rfl, e1⟩
  · rw [e0, bs, if_pos rfl]
    refine ⟨-1, σc, _, ?_, rfl, h0.v⟩
    by_cases a1 : f_X11_isMan x σc = 0
    · rw [if_pos a1]
    · rw [if_neg a1]
      by_cases a2 : f_X11_isMan y σc = 0
      · rw [if_pos a2]
      · rw [if_neg a2, if_pos ((hor.resolve_left a1).resolve_left a2)]
  · obtain ⟨σ1, w1, f1, g1⟩ := c_weighL (b := b) h.oD hm hn 16 0 FU σc (by omega) (by unfold FU; omega) h.cc h.dc (fun i hi => by omega)
    replace w1 : f_X1_weigh 700 (nI m) (nI n) σc = _ := w1
    obtain ⟨σ2, w2, f2, g2⟩ := m_duelO h.oD hm hn 4 0 FU _ (by omega) (by unfold FU; omega) h0.cm h0.dm (fun i hi => by omega)
    replace w2 : f_X12_layDuel (nI m) (nI n) (wI σm 5000 0 0) = _ := w2
    have c1 := c_rests g1 16 0 0 FU (by omega) (by unfold FU; omega)
    have m1 := m_restO g2 (t := none) (fun v hv => by cases hv) 4 0 0 FU (by omega) (by omega) (by unfold FU; omega)
    replace m1 : f_X12_restOf (-1) σ2 = _ := m1
    rw [c_man1 hT h.cc.2.1 hm, if_neg n10, c_man1 hT h.cc.2.1 hn, if_neg n10, if_neg (by rw [nI_eq (by omega) (by omega)]; exact hne), e1, bs, if_neg n10, w1, bs, w2, bs, m1, bs]
    exact ⟨_, σ1, σ2, c1, rfl, h0.q2 (f1.mono rfl) (f2.mono rfl)⟩
theorem o_rest : op_rest V := by
  intro x y z σc σm ⟨b, T, D, mv, h⟩
  have h0 := h.th 0
  have hT := h.oT
  have o := hT.1
  unfold f_X11_rest f_X12_rest
  rw [lts]
  rcases two hT h.cc.2.1 h0.cm.2.1 x y with ⟨P, -, e0, hor⟩ | ⟨m, n, hm, hn, hne, rfl, rfl, e1⟩
  · rw [e0, bs, if_pos rfl]
    refine ⟨-1, σc, _, ?_, rfl, h0.v⟩
    by_cases a1 : f_X11_isMan x σc = 0
    · rw [if_pos a1]
    · rw [if_neg a1]
      by_cases a2 : f_X11_isMan y σc = 0
      · rw [if_pos a2]
      · rw [if_neg a2, if_pos ((hor.resolve_left a1).resolve_left a2)]
  · rw [c_man1 hT h.cc.2.1 hm, if_neg n10, c_man1 hT h.cc.2.1 hn, if_neg n10, if_neg (by rw [nI_eq (by omega) (by omega)]; exact hne), e1, bs, if_neg n10]
    by_cases z0 : z < 0
    · rw [if_neg (Int32.not_le.mpr z0), if_neg (Int32.not_le.mpr z0)]; exact ⟨-1, σc, _, rfl, rfl, h0.v⟩
    · obtain ⟨t, ht, rfl⟩ := nI_of z0
      rw [if_pos (Int32.not_lt.mp z0), if_pos (Int32.not_lt.mp z0)]
      obtain ⟨σ1, w1, f1, g1⟩ := c_weighL (b := b) h.oD hm hn 16 0 FU σc (by omega) (by unfold FU; omega) h.cc h.dc (fun i hi => by omega)
      replace w1 : f_X1_weigh 700 (nI m) (nI n) σc = _ := w1
      obtain ⟨σ2, w2, f2, g2⟩ := m_duelO h.oD hm hn 4 0 FU _ (by omega) (by unfold FU; omega) h0.cm h0.dm (fun i hi => by omega)
      replace w2 : f_X12_layDuel (nI m) (nI n) (wI σm 5000 0 0) = _ := w2
      have c1 := c_rest g1 ht 16 0 0 t FU (by omega) (by omega) (by unfold FU; omega)
      have m1 := m_restO g2 (t := some t) (fun v hv => by cases hv; exact ht) 4 0 0 FU (by omega) (by omega) (by unfold FU; omega)
      replace m1 : f_X12_restOf (nI t) σ2 = _ := m1
      rw [w1, bs, w2, bs, m1, bs]
      exact ⟨_, σ1, σ2, c1, rfl, h0.q2 (f1.mono rfl) (f2.mono rfl)⟩
