/-! The pure part: feed -/
def byt (x : Int32) (i : Nat) : Nat := x.toBitVec.toNat / 2 ^ (24 - 8 * i) % 256
theorem byt_lt (x : Int32) (i : Nat) : byt x i < 256 := Nat.mod_lt _ (by decide)
def sh (i : Nat) : Int32 := if i = 0 then 24 else if i = 1 then 16 else if i = 2 then 8 else if i = 3 then 0 else -8
theorem c_byt (x : Int32) {i : Nat} (hi : i < 4) : ((x.toUInt32 >>> ((sh i).toUInt32 &&& Int32.toUInt32 31)).toInt32) &&& (255 : Int32) = nI (byt x i) := by
  have : i = 0 ∨ i = 1 ∨ i = 2 ∨ i = 3 := by omega
  rcases this with rfl | rfl | rfl | rfl
  · rw [pk_and _ 8 (by decide), pk_ushr x (sh 0) 24 (by decide)]; rfl
  · rw [pk_and _ 8 (by decide), pk_ushr x (sh 1) 16 (by decide)]; rfl
  · rw [pk_and _ 8 (by decide), pk_ushr x (sh 2) 8 (by decide)]; rfl
  · rw [pk_and _ 8 (by decide), pk_ushr x (sh 3) 0 (by decide)]; rfl
theorem bv_int (x : Int32) : x.toInt = if 2 * x.toBitVec.toNat < 2 ^ 32 then (x.toBitVec.toNat : Int) else (x.toBitVec.toNat : Int) - 2 ^ 32 := by
  show x.toBitVec.toInt = _
  rw [BitVec.toInt_eq_toNat_cond]; rfl
theorem sh_byt {x y : Int32} {k : Nat} (hk : k = 0 ∨ k = 8 ∨ k = 16 ∨ k = 24) (h : y.toInt = x.toInt >>> k) : y.toBitVec.toNat % 256 = x.toBitVec.toNat / 2 ^ k % 256 := by
  have hx := bv_int x
  have hy := bv_int y
  have lx : x.toBitVec.toNat < 2 ^ 32 := x.toBitVec.isLt
  have ly : y.toBitVec.toNat < 2 ^ 32 := y.toBitVec.isLt
  rw [Int.shiftRight_eq_div_pow] at h
  rcases hk with rfl | rfl | rfl | rfl <;> (split at hx <;> split at hy) <;> omega
theorem m_byt (x : Int32) {k : Nat} (hk : k < 20) : ((x >>> (((24 : Int32) - ((8 : Int32) * (nI k - nI k / (4 : Int32) * (4 : Int32)))) &&& 31)) &&& (255 : Int32)) = nI (byt x (k % 4)) := by
  have e4 : nI k - nI k / (4 : Int32) * (4 : Int32) = nI (k % 4) := pk_rem (d := 4) (by omega) (by omega) (by omega)
  rw [e4, pk_and _ 8 (by decide)]
  unfold byt
  have : k % 4 = 0 ∨ k % 4 = 1 ∨ k % 4 = 2 ∨ k % 4 = 3 := by omega
  rcases this with e | e | e | e <;> rw [e]
  · rw [sh_byt (k := 24) (by omega) (pk_shr x _ 24 (by decide))]
  · rw [sh_byt (k := 16) (by omega) (pk_shr x _ 16 (by decide))]
  · rw [sh_byt (k := 8) (by omega) (pk_shr x _ 8 (by decide))]
  · rw [sh_byt (k := 0) (by omega) (pk_shr x _ 0 (by decide))]
theorem sh_next {i : Nat} (hi : i < 4) : sh i + (-8) = sh (i + 1) := by
  have : i = 0 ∨ i = 1 ∨ i = 2 ∨ i = 3 := by omega
  rcases this with rfl | rfl | rfl | rfl <;> decide
theorem c_putL {b : Bool} {tp : Nat} (htp : tp + 4 ≤ 700) (x : Int32) : ∀ (j i fu : Nat) (σ : zS), i + j = 4 → j < fu → σ.1 100 1 = nI (tp + i) →
    ∃ σ', f_X11_putBytes_3 fu x (sh i) σ = some σ' ∧ Fc b [2] σ σ' ∧ σ'.1 100 1 = nI (tp + 4) ∧ (∀ p, σ'.1 101 p = if tp + i ≤ p ∧ p < tp + 4 then nI (byt x (p - tp)) else σ.1 101 p) ∧ (∀ p, p ≠ 1 → σ'.1 100 p = σ.1 100 p)
  | j, i, 0, σ, hj, hf, h => by omega
  | 0, i, fu + 1, σ, hj, hf, h => by
    have : i = 4 := by omega
    subst this
    unfold f_X11_putBytes_3
    rw [if_pos (by decide)]
    exact ⟨σ, rfl, Fc.rf, h, fun p => by rw [if_neg (by omega)], fun p _ => rfl⟩
  | j + 1, i, fu + 1, σ, hj, hf, h => by
    have hs : ¬ sh i < 0 := by
      have : i = 0 ∨ i = 1 ∨ i = 2 ∨ i = 3 := by omega
      rcases this with rfl | rfl | rfl | rfl <;> decide
    unfold f_X11_putBytes_3 f_X11_putBytes_43
    rw [if_neg hs, h, if_neg (show ¬ (700 : Int32) ≤ nI (tp + i) from nI_ge (b := 700) (by omega) (by omega)), wr_nI (by omega) (by omega), bs, lts, c_byt x (by omega)]
    have g : (wI σ 101 (tp + i) (nI (byt x i))).1 100 1 = nI (tp + i) := by rw [wI_at, if_neg (by omega)]; exact h
    rw [g, nI_1, sh_next (by omega)]
    obtain ⟨σ', h1, h2, h3, h4, h5⟩ := c_putL (b := b) htp x j (i + 1) fu (wI (wI σ 101 (tp + i) (nI (byt x i))) 100 1 (nI (tp + i + 1))) (by omega) (by omega) (by rw [wI_self, Nat.add_assoc])
    refine ⟨σ', h1, Fc.tr ((Fc.rf.wI rfl).wI rfl) h2, h3, fun p => ?_, fun p hp => ?_⟩
    · rw [h4]
      simp only [wI_at]
      by_cases hp : p = tp + i
      · subst hp
        rw [if_neg (by omega), if_neg (by omega), if_pos (by simp), if_pos (by omega), show tp + i - tp = i by omega]
      · by_cases hr : tp + (i + 1) ≤ p ∧ p < tp + 4
        · rw [if_pos hr, if_pos (by omega)]
        · rw [if_neg hr, if_neg (by omega), if_neg (by omega), if_neg (by omega)]
    · rw [h5 p hp]
      simp only [wI_at]
      rw [if_neg (by omega), if_neg (by omega)]
theorem c_put {b : Bool} {tp : Nat} (htp : tp + 4 ≤ 700) (x : Int32) {σ : zS} (h : σ.1 100 1 = nI tp) :
    ∃ σ', f_X11_putBytes x σ = some σ' ∧ Fc b [2] σ σ' ∧ σ'.1 100 1 = nI (tp + 4) ∧ (∀ p, σ'.1 101 p = if tp ≤ p ∧ p < tp + 4 then nI (byt x (p - tp)) else σ.1 101 p) ∧ (∀ p, p ≠ 1 → σ'.1 100 p = σ.1 100 p) := 
  c_putL htp x 4 0 FU σ (by omega) (by unfold FU; omega) h
def ar (a b c d e : Int32) (i : Nat) : Int32 := if i = 0 then a else if i = 1 then b else if i = 2 then c else if i = 3 then d else e
theorem m_feedL {tp : Nat} (htp : tp + 20 ≤ 700) (a b c d e : Int32) : ∀ (j k fu : Nat) (σ : zS), k + j = 20 → j < fu → σ.1 5000 2 = nI tp →
    ∃ σ', f_X12_feed_20 fu a b c d e (nI k) σ = some (nI (tp + 20), σ') ∧ Fm [2] σ σ' ∧ σ'.1 5000 2 = nI (tp + 20) ∧ (∀ p, σ'.1 5002 p = if tp + k ≤ p ∧ p < tp + 20 then nI (byt (ar a b c d e ((p - tp) / 4)) ((p - tp) % 4)) else σ.1 5002 p) ∧ (∀ p, p ≠ 2 → σ'.1 5000 p = σ.1 5000 p)
  | j, k, 0, σ, hj, hf, h => by omega
  | 0, k, fu + 1, σ, hj, hf, h => by
    unfold f_X12_feed_20
    rw [if_pos (show (20 : Int32) ≤ nI k from nI_le (a := 20) (by omega) (by omega)), lts, h, show nI tp + 20 = nI (tp + 20) from nI_add tp 20, wI_self]
    exact ⟨_, rfl, Fm.rf.wI rfl, wI_self _ _ _ _, fun p => by rw [if_neg (by omega), wI_at, if_neg (by omega)], fun p hp => by rw [wI_at, if_neg (by omega)]⟩
  | j + 1, k, fu + 1, σ, hj, hf, h => by
    have key : f_X12_feed_20 (fu + 1) a b c d e (nI k) σ = f_X12_feed_73 (f_X12_feed_20 fu) a b c d e (nI k) (ar a b c d e (k / 4)) σ := by
      conv => lhs; unfold f_X12_feed_20
      rw [if_neg (show ¬ (20 : Int32) ≤ nI k from nI_ge (b := 20) (by omega) (by omega))]
      unfold ar
      by_cases h4 : 4 ≤ k
      · rw [if_pos (show (4 : Int32) ≤ nI k from nI_le (a := 4) h4 (by omega)), if_neg (show ¬ k / 4 = 0 by omega)]
        by_cases h8 : 8 ≤ k
        · rw [if_pos (show (8 : Int32) ≤ nI k from nI_le (a := 8) h8 (by omega)), if_neg (show ¬ k / 4 = 1 by omega)]
          by_cases h12 : 12 ≤ k
          · rw [if_pos (show (12 : Int32) ≤ nI k from nI_le (a := 12) h12 (by omega)), if_neg (show ¬ k / 4 = 2 by omega)]
            by_cases h16 : 16 ≤ k
            · rw [if_pos (show (16 : Int32) ≤ nI k from nI_le (a := 16) h16 (by omega)), if_neg (show ¬ k / 4 = 3 by omega)]
            · rw [if_neg (show ¬ (16 : Int32) ≤ nI k from nI_ge (b := 16) (by omega) (by omega)), if_pos (show k / 4 = 3 by omega)]
          · rw [if_neg (show ¬ (12 : Int32) ≤ nI k from nI_ge (b := 12) (by omega) (by omega)), if_pos (show k / 4 = 2 by omega)]
        · rw [if_neg (show ¬ (8 : Int32) ≤ nI k from nI_ge (b := 8) (by omega) (by omega)), if_pos (show k / 4 = 1 by omega)]
      · rw [if_neg (show ¬ (4 : Int32) ≤ nI k from nI_ge (b := 4) (by omega) (by omega)), if_pos (show k / 4 = 0 by omega)]
    rw [key]
    unfold f_X12_feed_73
    rw [m_byt _ (by omega), h, nI_add, wr_nI (by omega) (by omega), bs, nI_1]
    obtain ⟨σ', h1, h2, h3, h4, h5⟩ := m_feedL htp a b c d e j (k + 1) fu (wI σ 5002 (tp + k) (nI (byt (ar a b c d e (k / 4)) (k % 4)))) (by omega) (by omega) (by rw [wI_at, if_neg (by omega)]; exact h)
    refine ⟨σ', h1, Fm.tr (Fm.rf.wI rfl) h2, h3, fun p => ?_, fun p hp => ?_⟩
    · rw [h4]
      simp only [wI_at]
      by_cases hp : p = tp + k
      · subst hp
        rw [if_neg (by omega), if_pos (by simp), if_pos (by omega), show tp + k - tp = k by omega]
      · by_cases hr : tp + (k + 1) ≤ p ∧ p < tp + 20
        · rw [if_pos hr, if_pos (by omega)]
        · rw [if_neg hr, if_neg (by omega), if_neg (by omega)]
    · rw [h5 p hp, wI_at, if_neg (by omega)]
theorem o_feed : op_feed V := by
  intro a c d e g σc σm ⟨b, T, D, mv, h⟩
  have h0 := h.th 0
  obtain ⟨h1, h2, h3, h4, h5, h6⟩ := h0
  have hT : okT T := h1.1.1
  obtain ⟨⟨tp, t1, t2, t3⟩, t4, t5, f, t6, t7, t8⟩ := h3
  unfold f_X11_feed f_X12_feed
  rw [lts, t2, t3, show nI tp + 20 = nI (tp + 20) from nI_add tp 20]
  by_cases htp : tp + 20 ≤ 700
  · rw [if_pos (show nI (tp + 20) ≤ (700 : Int32) from nI_le (b := 700) htp (by omega)), if_pos (show nI tp ≤ (680 : Int32) from nI_le (b := 680) (by omega) (by omega))]
    obtain ⟨σ1, a1, a2, a3, a4, a5⟩ := c_put (b := b) (tp := tp) (by omega) a t2
    obtain ⟨σ2, b1, b2, b3, b4, b5⟩ := c_put (b := b) (tp := tp + 4) (by omega) c a3
    obtain ⟨σ3, c1, c2, c3, c4, c5⟩ := c_put (b := b) (tp := tp + 4 + 4) (by omega) d b3
    obtain ⟨σ4, d1, d2, d3, d4, d5⟩ := c_put (b := b) (tp := tp + 4 + 4 + 4) (by omega) e c3
    obtain ⟨σ5, e1, e2, e3, e4, e5⟩ := c_put (b := b) (tp := tp + 4 + 4 + 4 + 4) (by omega) g d3
    obtain ⟨σ6, m1, m2, m3, m4, m5⟩ := m_feedL htp a c d e g 20 0 FU (wI σm 5000 0 0) (by omega) (by unfold FU; omega) t3
    replace m1 : f_X12_feed_20 FU a c d e g 0 (wI σm 5000 0 0) = _ := m1
    rw [a1, bs, b1, bs, c1, bs, d1, bs, e1, bs, e3, m1]
    have F : Fc b [2] σc σ5 := (((a2.tr b2).tr c2).tr d2).tr e2
    have k5 : ∀ p, p ≠ 1 → σ5.1 100 p = σc.1 100 p := fun p hp => (e5 p hp).trans ((d5 p hp).trans ((c5 p hp).trans ((b5 p hp).trans (a5 p hp))))
    refine ⟨nI (tp + 20), σ5, σ6, by rw [show tp + 4 + 4 + 4 + 4 + 4 = tp + 20 by omega], rfl, ⟨b, T, D, mv, h1.mono F m2 rfl rfl rfl rfl, h2.mono hT F m2 rfl rfl, ?_, h4.mono hT F m2 rfl rfl, h5.mono hT F m2 rfl rfl, h6.mono F m2 rfl rfl⟩⟩
    refine ⟨⟨tp + 20, htp, by rw [e3, show tp + 4 + 4 + 4 + 4 + 4 = tp + 20 by omega], m3⟩, by rw [k5 2 (by decide), m5 30 (by decide)]; exact t4, by rw [k5 3 (by decide), m5 31 (by decide)]; exact t5, fun p => if tp ≤ p ∧ p < tp + 20 then byt (ar a c d e g ((p - tp) / 4)) ((p - tp) % 4) else f p, fun p => ?_, fun p hp => ?_, fun p hp => ?_⟩
    · dsimp only
      split
      · exact byt_lt _ _
      · exact t6 p
    · dsimp only
      rw [Nat.zero_add, e4, d4, c4, b4, a4]
      by_cases g5 : tp + 4 + 4 + 4 + 4 ≤ p ∧ p < tp + 4 + 4 + 4 + 4 + 4
      · rw [if_pos g5, if_pos (by omega), show (p - tp) / 4 = 4 by omega, show (p - tp) % 4 = p - (tp + 4 + 4 + 4 + 4) by omega]; rfl
      rw [if_neg g5]
      by_cases g4 : tp + 4 + 4 + 4 ≤ p ∧ p < tp + 4 + 4 + 4 + 4
      · rw [if_pos g4, if_pos (by omega), show (p - tp) / 4 = 3 by omega, show (p - tp) % 4 = p - (tp + 4 + 4 + 4) by omega]; rfl
      rw [if_neg g4]
      by_cases g3 : tp + 4 + 4 ≤ p ∧ p < tp + 4 + 4 + 4
      · rw [if_pos g3, if_pos (by omega), show (p - tp) / 4 = 2 by omega, show (p - tp) % 4 = p - (tp + 4 + 4) by omega]; rfl
      rw [if_neg g3]
      by_cases g2 : tp + 4 ≤ p ∧ p < tp + 4 + 4
      · rw [if_pos g2, if_pos (by omega), show (p - tp) / 4 = 1 by omega, show (p - tp) % 4 = p - (tp + 4) by omega]; rfl
      rw [if_neg g2]
      by_cases g1 : tp ≤ p ∧ p < tp + 4
      · rw [if_pos g1, if_pos (by omega), show (p - tp) / 4 = 0 by omega, show (p - tp) % 4 = p - tp by omega]; rfl
      rw [if_neg g1, if_neg (by omega)]
      exact row0 t7 hp
    · dsimp only
      rw [Nat.zero_add, m4]
      by_cases g1 : tp + 0 ≤ p ∧ p < tp + 20
      · rw [if_pos g1, if_pos (by omega)]
      · rw [if_neg g1, if_neg (by omega)]; exact row0 t8 hp
  · rw [if_neg (show ¬ nI (tp + 20) ≤ (700 : Int32) from nI_ge (a := 700) (by omega) (by omega)), if_neg (show ¬ nI tp ≤ (680 : Int32) from nI_ge (a := 680) (by omega) (by omega))]
    exact ⟨-1, σc, _, rfl, rfl, (h.th 0).v⟩
