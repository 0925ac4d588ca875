/-! The pure part: bits; where one may stand; match -/
theorem nI_or {a c : Nat} (ha : a < 2 ^ 32) (hc : c < 2 ^ 32) : nI a ||| nI c = nI (a ||| c) := by
  apply Int32.toBitVec_inj.mp
  apply BitVec.eq_of_toNat_eq
  rw [Int32.toBitVec_or, BitVec.toNat_or, bv_nI, bv_nI, bv_nI, Nat.mod_eq_of_lt ha, Nat.mod_eq_of_lt hc, Nat.mod_eq_of_lt (Nat.or_lt_two_pow ha hc)]
theorem nI_and {a c : Nat} (ha : a < 2 ^ 32) (hc : c < 2 ^ 32) : nI a &&& nI c = nI (a &&& c) := by
  apply Int32.toBitVec_inj.mp
  apply BitVec.eq_of_toNat_eq
  rw [Int32.toBitVec_and, BitVec.toNat_and, bv_nI, bv_nI, bv_nI, Nat.mod_eq_of_lt ha, Nat.mod_eq_of_lt hc, Nat.mod_eq_of_lt (Nat.lt_of_le_of_lt Nat.and_le_left ha)]
theorem shl1 : ∀ c, c < 24 → (1 : Int32) <<< (nI c &&& 31) = nI (2 ^ c) := by decide +kernel
theorem or_new {a c : Nat} (h : a < 2 ^ c) : a ||| 2 ^ c = a + 2 ^ c := by
  have := Nat.two_pow_add_eq_or_of_lt h 1
  rw [Nat.mul_one] at this
  rw [Nat.or_comm, ← this, Nat.add_comm]
theorem or_old {a c : Nat} (h : a < 2 ^ c) : (a + 2 ^ c) ||| 2 ^ c = a + 2 ^ c := by
  rw [← or_new h, Nat.or_assoc, Nat.or_self]
def setN (f : Nat → Bool) : Nat → Nat
  | 0 => 0
  | n + 1 => setN f n + (if f n then 2 ^ n else 0)
theorem setN_s (f : Nat → Bool) (n : Nat) : setN f (n + 1) = setN f n + (if f n then 2 ^ n else 0) := rfl
theorem setN_lt (f : Nat → Bool) : ∀ n, setN f n < 2 ^ n
  | 0 => Nat.one_pos
  | n + 1 => by
    have := setN_lt f n
    rw [setN_s]
    rw [Nat.pow_succ]
    split <;> omega
def anyB (f : Nat → Bool) : Nat → Bool
  | 0 => false
  | n + 1 => anyB f n || f n
def anyU (f : Nat → Bool) : Nat → Nat → Bool
  | 0, _ => false
  | j + 1, k => f k || anyU f j (k + 1)
theorem anyU_s (f : Nat → Bool) (j k : Nat) : anyU f (j + 1) k = (f k || anyU f j (k + 1)) := rfl
theorem anyU_B (f : Nat → Bool) : ∀ j k, anyB f (k + j) = (anyB f k || anyU f j k)
  | 0, k => by simp [anyU]
  | j + 1, k => by
    have := anyU_B f j (k + 1)
    rw [show k + (j + 1) = k + 1 + j by omega, this]
    show (anyB f k || f k || anyU f j (k + 1)) = (anyB f k || (f k || anyU f j (k + 1)))
    rw [Bool.or_assoc]
theorem anyU_0 (f : Nat → Bool) (n : Nat) : anyU f n 0 = anyB f n := by
  have := anyU_B f n 0
  rw [Nat.zero_add] at this
  rw [this]; rfl
/-- no part of the state is barred -/
def okS (T : zT) (w : Int32) (s : Nat) : Bool := !(anyU (fun p => barB T w s p) 4 0)
def stF (T : zT) (w : Int32) (c : Nat) : Bool := anyB (fun k => okS T w (16 * c + k)) 16
theorem c_barsS {b : Bool} {T : zT} {σ : zS} {w u : Int32} (hC : CC b T w u σ) {s : Nat} (hs : s < 192) : ∀ (j p fu : Nat), p + j = 4 → j < fu → f_X5_barsSome_2 fu (nI s) (nI p) σ = some (bI (anyU (fun p => barB T w s p) j p))
  | j, p, 0, hj, hf => by omega
  | 0, p, fu + 1, hj, hf => by
    unfold f_X5_barsSome_2
    rw [if_pos (show (4 : Int32) ≤ nI p from nI_le (a := 4) (by omega) (by omega))]; rfl
  | j + 1, p, fu + 1, hj, hf => by
    unfold f_X5_barsSome_2
    rw [if_neg (show ¬ (4 : Int32) ≤ nI p from nI_ge (b := 4) (by omega) (by omega)), c_bars hC.1 hC.2.1 hC.2.2 hs (show p < 4 by omega), bs, nI_1]
    rw [anyU_s]
    cases barB T w s p with
    | true => rfl
    | false =>
      rw [if_pos (show bI false = 0 from rfl), Bool.false_or]
      exact c_barsS hC hs j (p + 1) fu (by omega) (by omega)
theorem m_okS {T : zT} {σ : zS} {w u : Int32} (hC : CM T w u σ) (r2 : Int32 → Int32 → zS → Option Int32) {c k : Nat} (hc : c < 12) (hk : k < 16) : ∀ (j p fu : Nat) (is : Bool), p + j = 4 → j < fu →
    f_X12_standsAt_13 r2 fu (nI c) (nI k) (bI is) (nI p) σ = (if (is && !(anyU (fun p => barB T w (16 * c + k) p) j p)) then some 1 else r2 (nI c) (nI (k + 1)) σ)
  | j, p, 0, is, hj, hf => by omega
  | 0, p, fu + 1, is, hj, hf => by
    unfold f_X12_standsAt_13
    rw [if_pos (show (4 : Int32) ≤ nI p from nI_le (a := 4) (by omega) (by omega)), nI_1]
    cases is <;> rfl
  | j + 1, p, fu + 1, is, hj, hf => by
    unfold f_X12_standsAt_13 f_X12_standsAt_36
    have e16 : (16 : Int32) * nI c + nI k = nI (16 * c + k) := by show nI 16 * nI c + nI k = _; rw [pk_mul, nI_add]
    rw [if_neg (show ¬ (4 : Int32) ≤ nI p from nI_ge (b := 4) (by omega) (by omega)), e16, m_barred hC.1 hC.2.1 hC.2.2 (show 16 * c + k < 192 by omega) (show p < 4 by omega), bs, nI_1]
    rw [anyU_s]
    cases barB T w (16 * c + k) p with
    | true =>
      rw [if_neg (show ¬ bI true = 0 by decide)]
      have := m_okS hC r2 hc hk j (p + 1) fu false (by omega) (by omega)
      rw [show bI false = (0 : Int32) from rfl] at this
      rw [this]; simp
    | false =>
      rw [if_pos (show bI false = 0 from rfl), Bool.false_or]
      exact m_okS hC r2 hc hk j (p + 1) fu is (by omega) (by omega)
theorem m_stAt {T : zT} {σ : zS} {w u : Int32} (hC : CM T w u σ) {c : Nat} (hc : c < 12) : ∀ (j k fu : Nat), k + j = 16 → j < fu → f_X12_standsAt_2 fu (nI c) (nI k) σ = some (bI (anyU (fun k => okS T w (16 * c + k)) j k))
  | j, k, 0, hj, hf => by omega
  | 0, k, fu + 1, hj, hf => by
    unfold f_X12_standsAt_2
    rw [if_pos (show (16 : Int32) ≤ nI k from nI_le (a := 16) (by omega) (by omega))]; rfl
  | j + 1, k, fu + 1, hj, hf => by
    unfold f_X12_standsAt_2
    rw [if_neg (show ¬ (16 : Int32) ≤ nI k from nI_ge (b := 16) (by omega) (by omega))]
    have := m_okS hC (f_X12_standsAt_2 fu) hc (show k < 16 by omega) 4 0 FU true (by omega) (by unfold FU; omega)
    replace this : f_X12_standsAt_13 (f_X12_standsAt_2 fu) FU (nI c) (nI k) 1 0 σ = _ := this
    rw [this, m_stAt hC hc j (k + 1) fu (by omega) (by omega)]
    rw [anyU_s (fun k => okS T w (16 * c + k)) j k]
    show (if (true && okS T w (16 * c + k)) = true then _ else _) = _
    cases okS T w (16 * c + k) <;> rfl
theorem m_stOf {T : zT} {σ : zS} {w u : Int32} (hC : CM T w u σ) : ∀ (j c fu : Nat), c + j = T 4 0 → j < fu → f_X12_standsOf_4 fu (nI (setN (stF T w) c)) (nI c) σ = some (nI (setN (stF T w) (T 4 0)))
  | j, c, 0, hj, hf => by omega
  | 0, c, fu + 1, hj, hf => by
    have o := hC.1.1
    unfold f_X12_standsOf_4
    rw [rd_lit (by decide) (by decide), bs, row0 hC.2.1.1 (k := 0) (by decide), if_pos (nI_le (by omega) (by omega)), show c = T 4 0 by omega]
  | j + 1, c, fu + 1, hj, hf => by
    have o := hC.1.1
    have lt := setN_lt (stF T w) c
    have p12 : 2 ^ c ≤ 2 ^ 12 := Nat.pow_le_pow_right (by decide) (by omega)
    have at' := m_stAt hC (c := c) (by omega) 16 0 FU (by omega) (by unfold FU; omega)
    replace at' : f_X12_standsAt (nI c) σ = _ := at'
    unfold f_X12_standsOf_4 f_X12_standsOf_30
    simp only [lts]
    rw [rd_lit (by decide) (by decide), bs, row0 hC.2.1.1 (k := 0) (by decide), if_neg (nI_ge (by omega) (by omega)), at', bs, anyU_0, shl1 c (by omega), nI_1]
    have ih := m_stOf hC j (c + 1) fu (by omega) (by omega)
    show (if bI (stF T w c) = 0 then _ else _) = _
    rw [setN_s] at ih
    cases e : stF T w c with
    | true =>
      rw [e, if_pos rfl] at ih
      rw [if_neg (show ¬ bI true = 0 by decide), nI_or (by omega) (by omega), or_new lt]; exact ih
    | false =>
      rw [e, if_neg (by decide), Nat.add_zero] at ih
      rw [if_pos (show bI false = 0 from rfl)]
      show f_X12_standsOf_4 fu (nI (setN (stF T w) c) ||| nI 0) (nI (c + 1)) σ = _
      rw [nI_or (by omega) (by omega), Nat.or_zero]; exact ih
theorem c_stL {b : Bool} {T : zT} {σ : zS} {w u : Int32} (hC : CC b T w u σ) : ∀ (j s fu : Nat), s + j = 16 * T 4 0 → j < fu →
    f_X5_standing_4 fu (nI (setN (stF T w) (s / 16) + (if anyB (fun k => okS T w (16 * (s / 16) + k)) (s % 16) then 2 ^ (s / 16) else 0))) (nI s) σ = some (nI (setN (stF T w) (T 4 0)))
  | j, s, 0, hj, hf => by omega
  | 0, s, fu + 1, hj, hf => by
    have o := hC.1.1
    unfold f_X5_standing_4 f_X8_states
    rw [hC.2.1.1.2.2, hC.2.1.2.1.1, show nI (T 4 0) * 16 = nI (T 4 0 * 16) from pk_mul _ 16, if_pos (nI_le (by omega) (by omega)), show s / 16 = T 4 0 by omega, show s % 16 = 0 by omega]
    rfl
  | j + 1, s, fu + 1, hj, hf => by
    have o := hC.1.1
    have hs : s < 192 := by omega
    have lt := setN_lt (stF T w) (s / 16)
    have p12 : 2 ^ (s / 16) ≤ 2 ^ 12 := Nat.pow_le_pow_right (by decide) (by omega)
    have bsm := c_barsS hC hs 4 0 FU (by omega) (by unfold FU; omega)
    replace bsm : f_X5_barsSome (nI s) σ = _ := bsm
    have ih := c_stL hC j (s + 1) fu (by omega) (by omega)
    unfold f_X5_standing_4 f_X8_states f_X5_standing_32
    simp only [lts]
    rw [hC.2.1.1.2.2, hC.2.1.2.1.1, show nI (T 4 0) * 16 = nI (T 4 0 * 16) from pk_mul _ 16, if_neg (nI_ge (by omega) (by omega)), bsm, bs, c_cell hs, shl1 _ (by omega), nI_1]
    have ok : okS T w s = !(anyU (fun p => barB T w s p) 4 0) := rfl
    have es : 16 * (s / 16) + s % 16 = s := by omega
    -- what stands behind this state
    have step : setN (stF T w) ((s + 1) / 16) + (if anyB (fun k => okS T w (16 * ((s + 1) / 16) + k)) ((s + 1) % 16) then 2 ^ ((s + 1) / 16) else 0) = setN (stF T w) (s / 16) + (if (anyB (fun k => okS T w (16 * (s / 16) + k)) (s % 16) || okS T w s) then 2 ^ (s / 16) else 0) := by
      by_cases h15 : s % 16 = 15
      · rw [show (s + 1) / 16 = s / 16 + 1 by omega, show (s + 1) % 16 = 0 by omega]
        have : stF T w (s / 16) = (anyB (fun k => okS T w (16 * (s / 16) + k)) (s % 16) || okS T w s) := by
          unfold stF
          rw [h15]
          show (anyB (fun k => okS T w (16 * (s / 16) + k)) 15 || okS T w (16 * (s / 16) + 15)) = _
          rw [show 16 * (s / 16) + 15 = s by omega]
        show setN (stF T w) (s / 16) + (if stF T w (s / 16) then 2 ^ (s / 16) else 0) + 0 = _
        rw [this, Nat.add_zero]
      · rw [show (s + 1) / 16 = s / 16 by omega, show (s + 1) % 16 = s % 16 + 1 by omega]
        show setN (stF T w) (s / 16) + (if (anyB (fun k => okS T w (16 * (s / 16) + k)) (s % 16) || okS T w (16 * (s / 16) + s % 16)) then 2 ^ (s / 16) else 0) = _
        rw [es]
    rw [step] at ih
    cases e : anyU (fun p => barB T w s p) 4 0 with
    | true =>
      rw [if_neg (show ¬ bI true = 0 by decide)]
      rw [ok, e, Bool.not_true, Bool.or_false] at ih
      exact ih
    | false =>
      rw [if_pos (show bI false = 0 from rfl)]
      rw [ok, e, Bool.not_false, Bool.or_true, if_pos rfl] at ih
      cases e2 : anyB (fun k => okS T w (16 * (s / 16) + k)) (s % 16) with
      | true => rw [if_pos rfl, nI_or (by omega) (by omega), or_old lt]; exact ih
      | false => rw [if_neg (by decide), Nat.add_zero, nI_or (by omega) (by omega), or_new lt]; exact ih
theorem c_stand {b : Bool} {T : zT} {σ : zS} {w u : Int32} (hC : CC b T w u σ) : f_X5_standing σ = some (nI (setN (stF T w) (T 4 0))) := by
  have o := hC.1.1
  exact c_stL hC (16 * T 4 0) 0 FU (by omega) (by unfold FU; omega)
theorem m_stand {T : zT} {σ : zS} {w u : Int32} (hC : CM T w u σ) : f_X12_standsOf σ = some (nI (setN (stF T w) (T 4 0))) := by
  have o := hC.1.1
  exact m_stOf hC (T 4 0) 0 FU (by omega) (by unfold FU; omega)
theorem o_stands : op_stands V := by
  intro x σc σm ⟨b, T, D, mv, h⟩
  have h0 := h.th 0
  have o := h.oT.1
  unfold f_X11_stands f_X12_stands
  rw [lts]
  rcases ix x (n := T 4 2) (by omega) with hx | ⟨m, hm, rfl⟩
  · rw [c_man0 h.cc.2.1 hx, m_man0 h0.cm.2.1 hx, bs]
    exact ⟨-1, σc, _, ⟨rfl, rfl⟩, rfl, h0.v⟩
  · rw [c_man1 h.oT h.cc.2.1 hm, m_man1 h0.oT h0.cm.2.1 hm, bs, if_neg n10, if_neg n10, c_stand h.cc, m_stand h0.cm]
    exact ⟨_, σc, _, ⟨rfl, rfl⟩, rfl, h0.v⟩
