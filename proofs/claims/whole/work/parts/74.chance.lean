/-! The pure part: days by chance -/
def nxt (l : Nat) : Nat := (l * 1103515245 + 12345) % 2 ^ 31
theorem nxt_lt (l : Nat) : nxt l < 2 ^ 31 := Nat.mod_lt _ (by decide)
theorem lN_mask {n : Nat} (h : n < 2 ^ 63) : lN n &&& 2147483647 = lN (n % 2 ^ 31) := by
  apply Int64.toBitVec_inj.mp
  apply BitVec.eq_of_toNat_eq
  rw [Int64.toBitVec_and, BitVec.toNat_and]
  have e1 : (lN n).toBitVec.toNat = n := by
    show (BitVec.ofNat 64 n).toNat = n
    rw [BitVec.toNat_ofNat]; exact Nat.mod_eq_of_lt (by omega)
  have e2 : (lN (n % 2 ^ 31)).toBitVec.toNat = n % 2 ^ 31 := by
    show (BitVec.ofNat 64 (n % 2 ^ 31)).toNat = _
    rw [BitVec.toNat_ofNat]; exact Nat.mod_eq_of_lt (by omega)
  have e3 : (2147483647 : Int64).toBitVec.toNat = 2 ^ 31 - 1 := by decide
  rw [e1, e2, e3, Nat.and_two_pow_sub_one_eq_mod]
theorem c_nxt {l a c : Nat} {A C : Int64} (ea : A = lN a) (ec : C = lN c) (h : l * a + c < 2 ^ 63) : ((lN l * A) + C) &&& (2147483647 : Int64) = lN ((l * a + c) % 2 ^ 31) := by
  rw [ea, ec, lN_mul, lN_add, lN_mask h]
theorem bv_nI (n : Nat) : (nI n).toBitVec.toNat = n % 2 ^ 32 := by
  show (BitVec.ofNat 32 n).toNat = _
  rw [BitVec.toNat_ofNat]
theorem m_nxt {l a c : Nat} {A C : Int32} (ea : A = nI a) (ec : C = nI c) : ((nI l * A) + C) &&& (2147483647 : Int32) = nI ((l * a + c) % 2 ^ 31) := by
  rw [ea, ec, pk_mul, nI_add, pk_and _ 31 (by decide), bv_nI, Nat.mod_mod_of_dvd _ (by decide)]
/-- what the next number must be -/
def HN (N : Nat → Nat) : Prop := ∀ l, l < 2 ^ 31 → N l < 2 ^ 31 ∧ ((lN l * (1103515245 : Int64)) + (12345 : Int64)) &&& (2147483647 : Int64) = lN (N l) ∧ ((nI l * (1103515245 : Int32)) + (12345 : Int32)) &&& (2147483647 : Int32) = nI (N l)
theorem HN_nxt : HN nxt := by
  intro l hl
  have e : nxt l = (l * 1103515245 + 12345) % 2 ^ 31 := rfl
  refine ⟨nxt_lt l, ?_, ?_⟩
  · rw [e]
    refine c_nxt rfl rfl ?_
    omega
  · rw [e]
    exact m_nxt rfl rfl
def drw (l : Nat) : Nat := l / 65536 % 6
theorem c_drw {l : Nat} (h : l < 2 ^ 31) : ((lN l / (65536 : Int64)) - (lN l / (65536 : Int64)) / (6 : Int64) * (6 : Int64)).toInt32 = nI (drw l) := by
  show ((lN l / lN 65536) - (lN l / lN 65536) / lN 6 * lN 6).toInt32 = nI (drw l)
  rw [pk_lDiv (by omega) (by omega) (by omega), pk_lRem (by omega) (by omega) (by omega), lN_i]; rfl
theorem m_drw {l : Nat} (h : l < 2 ^ 31) : (nI l >>> ((16 : Int32) &&& 31)) - (nI l >>> ((16 : Int32) &&& 31)) / (6 : Int32) * (6 : Int32) = nI (drw l) := by
  rw [pk_shrN h _ 16 (by decide)]
  show nI (l / 2 ^ 16) - nI (l / 2 ^ 16) / nI 6 * nI 6 = _
  rw [pk_rem (by omega) (by omega) (by omega)]; rfl
theorem drw_lt (l : Nat) : drw l < 6 := Nat.mod_lt _ (by decide)
def mvD (T D : zT) (m v : Nat) : zT := match mvd (T 4 0) (D 1 m) v with | none => D | some t => up2 D 1 m t
def chM (N : Nat → Nat) (T : zT) : Nat → Nat → zT → Nat → zT × Nat
  | 0, _, D, l => (D, l)
  | j + 1, k, D, l => chM N T j (k + 1) (mvD T D k (drw (N l))) (N l)
def chH (N : Nat → Nat) (T : zT) : Nat → zT → Nat → zT × Nat
  | 0, D, l => (D, l)
  | j + 1, D, l => chH N T j (passD T (-1) (-1) (chM N T (T 4 2) 0 D l).1) (chM N T (T 4 2) 0 D l).2
theorem okD_mv {T D : zT} (h : okD T D) {m v : Nat} (hm : m < T 4 2) : okD T (mvD T D m v) ∧ mvD T D m v 0 0 = D 0 0 := by
  unfold mvD
  cases e : mvd (T 4 0) (D 1 m) v with
  | none => exact ⟨h, rfl⟩
  | some t =>
    refine ⟨⟨h.1, fun k hk => ?_, h.2.2⟩, rfl⟩
    have := h.2.1 k hk
    simp only [up2_at]
    rw [if_neg (show ¬ (2 = 1 ∧ k = m) by omega), if_neg (show ¬ (3 = 1 ∧ k = m) by omega)]
    by_cases hkm : k = m
    · subst hkm
      rw [if_pos (by simp)]
      exact ⟨mvd_lt this.1 e, this.2⟩
    · rw [if_neg (by omega)]; exact this
theorem okD_ch {N : Nat → Nat} (hN : HN N) {T : zT} : ∀ (j k : Nat) (D : zT) (l : Nat), k + j = T 4 2 → okD T D → l < 2 ^ 31 → okD T (chM N T j k D l).1 ∧ (chM N T j k D l).1 0 0 = D 0 0 ∧ (chM N T j k D l).2 < 2 ^ 31
  | 0, k, D, l, hj, h, hl => ⟨h, rfl, hl⟩
  | j + 1, k, D, l, hj, h, hl => by
    have p := okD_mv h (v := drw (N l)) (show k < T 4 2 by omega)
    have := okD_ch hN j (k + 1) _ (N l) (by omega) p.1 (hN l hl).1
    exact ⟨this.1, this.2.1.trans p.2, this.2.2⟩
theorem c_chM {N : Nat → Nat} (hN : HN N) {b : Bool} {T : zT} {mv : Int32} (r9 : Int64 → Int32 → zS → Option (Int64 × zS)) {hh : Nat} : ∀ (j k fu : Nat) (D : zT) (l : Nat) (σ : zS), k + j = T 4 2 → j < fu → l < 2 ^ 31 → CC b T (-1) (-1) σ → okD T D → DC T 900 D mv σ →
    ∃ σ', f_X5_passByChance_19 900 r9 fu (lN l) (nI hh) (nI k) σ = ((f_X5_passHour 900 σ').bind fun σ_3 => r9 (lN (chM N T j k D l).2) (nI (hh + 1)) σ_3) ∧ DC T 900 (chM N T j k D l).1 mv σ' ∧ Fc b [0, 7] σ σ'
  | j, k, 0, D, l, σ, hj, hf, hl, hC, oD, h => by omega
  | 0, k, fu + 1, D, l, σ, hj, hf, hl, hC, oD, h => by
    have o := hC.1.1
    unfold f_X5_passByChance_19
    rw [hC.2.1.1.2.2, hC.2.1.2.1.2.2.1, if_pos (nI_le (by omega) (by omega)), nI_1]
    exact ⟨σ, rfl, h, Fc.rf⟩
  | j + 1, k, fu + 1, D, l, σ, hj, hf, hl, hC, oD, h => by
    have o := hC.1.1
    have om := oD.2.1 k (by omega)
    unfold f_X5_passByChance_19 f_X5_passByChance_92
    rw [hC.2.1.1.2.2, hC.2.1.2.1.2.2.1, if_neg (nI_ge (by omega) (by omega)), lts, (hN l hl).2.1, rd_nI (by omega) (by omega), bs, (h.s0 (show k < T 4 2 by omega)).1, lts, hC.2.1.2.1.1, c_drw (hN l hl).1, c_moved (by omega) om.1 (drw_lt _), nI_1]
    have p := okD_mv oD (v := drw (N l)) (show k < T 4 2 by omega)
    have key : ∀ σ', DC T 900 (mvD T D k (drw (N l))) mv σ' → Fc b [0, 7] σ σ' → ∃ σ2, f_X5_passByChance_19 900 r9 fu (lN (N l)) (nI hh) (nI (k + 1)) σ' = ((f_X5_passHour 900 σ2).bind fun σ_3 => r9 (lN (chM N T (j + 1) k D l).2) (nI (hh + 1)) σ_3) ∧ DC T 900 (chM N T (j + 1) k D l).1 mv σ2 ∧ Fc b [0, 7] σ σ2 := by
      intro σ' h' F'
      obtain ⟨σ2, e2, d2, f2⟩ := c_chM hN (b := b) r9 (hh := hh) j (k + 1) fu _ (N l) σ' (by omega) (by omega) (hN l hl).1 (hC.mono F' rfl rfl) p.1 h'
      exact ⟨σ2, e2, d2, F'.tr f2⟩
    unfold mvD at key
    cases e : mvd (T 4 0) (D 1 k) (drw (N l)) with
    | none =>
      rw [e] at key
      rw [if_pos (show oI none = -1 from rfl)]
      exact key σ h Fc.rf
    | some t =>
      rw [e] at key
      have ht := mvd_lt om.1 e
      rw [if_neg (show ¬ oI (some t) = -1 from nI_nm1 (by omega)), wr_nI (by omega) (by omega), bs]
      exact key _ (h.up (i := 1) (by omega)) (Fc.rf.wI (by cases b <;> rfl))
theorem c_chH {N : Nat → Nat} (hN : HN N) {b : Bool} {T : zT} {mv : Int32} : ∀ (j k fu : Nat) (D : zT) (l : Nat) (σ : zS), k + j = 24 → D 0 0 = k → j < fu → l < 2 ^ 31 → CC b T (-1) (-1) σ → okD T D → DC T 900 D mv σ →
    ∃ σ', f_X5_passByChance_9 900 fu (lN l) (nI k) σ = some (lN (chH N T j D l).2, σ') ∧ DC T 900 (chH N T j D l).1 mv σ' ∧ Fc b [0, 7] σ σ' ∧ (chH N T j D l).2 < 2 ^ 31 ∧ okD T (chH N T j D l).1
  | j, k, 0, D, l, σ, hj, hk, hf, hl, hC, oD, h => by omega
  | 0, k, fu + 1, D, l, σ, hj, hk, hf, hl, hC, oD, h => by
    unfold f_X5_passByChance_9
    rw [if_pos (show (24 : Int32) ≤ nI k from nI_le (a := 24) (by omega) (by omega))]
    exact ⟨σ, rfl, h, Fc.rf, hl, oD⟩
  | j + 1, k, fu + 1, D, l, σ, hj, hk, hf, hl, hC, oD, h => by
    unfold f_X5_passByChance_9
    rw [if_neg (show ¬ (24 : Int32) ≤ nI k from nI_ge (b := 24) (by omega) (by omega))]
    have o := hC.1.1
    obtain ⟨σ1, e1, d1, f1⟩ := c_chM hN (b := b) (f_X5_passByChance_9 900 fu) (hh := k) (T 4 2) 0 FU D l σ (by omega) (by unfold FU; omega) hl hC oD h
    replace e1 : f_X5_passByChance_19 900 (f_X5_passByChance_9 900 fu) FU (lN l) (nI k) 0 σ = _ := e1
    have q := okD_ch hN (T 4 2) 0 D l (by omega) oD hl
    obtain ⟨σ2, e2, d2, f2⟩ := c_pass (z := 7) (.inr (.inr ⟨rfl, rfl⟩)) (hC.mono f1 rfl rfl) q.1 d1
    rw [e1, e2, bs]
    have p := okD.pass hC.1 q.1 (w := -1) (u := -1) (by omega)
    obtain ⟨σ3, e3, d3, f3, l3, o3⟩ := c_chH hN j (k + 1) fu _ _ σ2 (by omega) (by rw [p.2, q.2.1, hk]) (by omega) q.2.2 ((hC.mono f1 rfl rfl).mono f2 rfl rfl) p.1 d2
    exact ⟨σ3, e3, d3, (f1.tr f2).tr f3, l3, o3⟩
def dbS (T : zT) (f : Nat → Nat) (m : Nat) : Nat → Nat → Nat → Nat
  | 0, _, a => a
  | j + 1, k, a => dbS T f m j (k + 1) (if T 14 k = m ∧ f k = 1 then a + 1 else a)
theorem c_db {b : Bool} {T : zT} {f : Nat → Nat} {σ : zS} (hT : okT T) (hR : RC b T σ) {m : Nat} (hm : m < T 4 2) (h : rowN σ (900 + 6) 0 (T 4 3) f) (hf : ∀ k, k < T 4 3 → f k < 4) : ∀ (j k a fu : Nat), k + j = T 4 3 → a ≤ k → j < fu → f_X11_doneBy_5 900 fu (nI m) (nI a) (nI k) σ = some (nI (dbS T f m j k a))
  | j, k, a, 0, hj, ha, hfu => by omega
  | 0, k, a, fu + 1, hj, ha, hfu => by
    have o := hT.1
    unfold f_X11_doneBy_5
    rw [hR.1.1, hR.2.1.2.2.2.1, if_pos (nI_le (by omega) (by omega))]; rfl
  | j + 1, k, a, fu + 1, hj, ha, hfu => by
    have o := hT.1
    have od := hT.2.2.2.1 k (by omega)
    have hk := hf k (by omega)
    unfold f_X11_doneBy_5 f_X11_doneBy_45
    rw [hR.1.1, hR.2.1.2.2.2.1, if_neg (nI_ge (by omega) (by omega)), rd_nI (by omega) (by omega), bs, row0 hR.2.2.2.2.1.1 (by omega), rd_nI (by omega) (by omega), bs, row0 h (by omega), nI_1, nI_1]
    unfold dbS
    by_cases e1 : T 14 k = m
    · rw [if_pos (by rw [e1])]
      by_cases e2 : f k = 1
      · rw [if_pos (by rw [e2]; rfl), if_pos ⟨e1, e2⟩]
        exact c_db hT hR hm h hf j (k + 1) (a + 1) fu (by omega) (by omega) (by omega)
      · rw [if_neg (show ¬ nI (f k) = (1 : Int32) by show ¬ _ = nI 1; rw [nI_eq (by omega) (by omega)]; exact e2), if_neg (fun z => e2 z.2)]
        exact c_db hT hR hm h hf j (k + 1) a fu (by omega) (by omega) (by omega)
    · rw [if_neg (by rw [nI_eq (by omega) (by omega)]; exact e1), if_neg (fun z => e1 z.1)]
      exact c_db hT hR hm h hf j (k + 1) a fu (by omega) (by omega) (by omega)
theorem m_db {T : zT} {f : Nat → Nat} {σ : zS} (hT : okT T) (hR : RM T σ) {m : Nat} (hm : m < T 4 2) (h : rowN σ 5045 (12 * 1) (T 4 3) f) (hf : ∀ k, k < T 4 3 → f k < 4) : ∀ (j k a fu : Nat), k + j = T 4 3 → a ≤ k → j < fu → f_X12_doneBy_5 fu (nI 1) (nI m) (nI a) (nI k) σ = some (nI (dbS T f m j k a))
  | j, k, a, 0, hj, ha, hfu => by omega
  | 0, k, a, fu + 1, hj, ha, hfu => by
    have o := hT.1
    unfold f_X12_doneBy_5
    rw [rd_lit (by decide) (by decide), bs, row0 hR.1 (k := 3) (by decide), if_pos (nI_le (by omega) (by omega))]; rfl
  | j + 1, k, a, fu + 1, hj, ha, hfu => by
    have o := hT.1
    have od := hT.2.2.2.1 k (by omega)
    have hk := hf k (by omega)
    unfold f_X12_doneBy_5 f_X12_doneBy_49 f_X12_doneBy_53 f_X12_doneBy_54
    simp only [lts]
    rw [rd_lit (by decide) (by decide), bs, row0 hR.1 (k := 3) (by decide), if_neg (nI_ge (by omega) (by omega)), m12, rd_nI (by omega) (by omega), bs, h k (by omega), if_neg (nI_nm1 (by omega)), rd_nI (by omega) (by omega), bs, row0 hR.2.2.2.1.1 (by omega), nI_1, nI_1, show nI a + 0 = nI a from by show nI a + nI 0 = _; rw [nI_add]; rfl]
    unfold dbS
    by_cases e2 : f k = 1
    · rw [if_pos (by rw [e2]; rfl)]
      by_cases e1 : T 14 k = m
      · rw [if_pos (by rw [e1]), if_pos ⟨e1, e2⟩]
        exact m_db hT hR hm h hf j (k + 1) (a + 1) fu (by omega) (by omega) (by omega)
      · rw [if_neg (by rw [nI_eq (by omega) (by omega)]; exact e1), if_neg (fun z => e1 z.1)]
        exact m_db hT hR hm h hf j (k + 1) a fu (by omega) (by omega) (by omega)
    · rw [if_neg (show ¬ nI (f k) = (1 : Int32) by show ¬ _ = nI 1; rw [nI_eq (by omega) (by omega)]; exact e2), if_neg (fun z => e2 z.2)]
      exact m_db hT hR hm h hf j (k + 1) a fu (by omega) (by omega) (by omega)
theorem dbS_le (T : zT) (f : Nat → Nat) (m : Nat) : ∀ j k a, dbS T f m j k a ≤ a + j
  | 0, k, a => Nat.le_refl _
  | j + 1, k, a => by
    unfold dbS
    by_cases hx : T 14 k = m ∧ f k = 1
    · rw [if_pos hx]; have := dbS_le T f m j (k + 1) (a + 1); omega
    · rw [if_neg hx]; have := dbS_le T f m j (k + 1) a; omega
/-- the days by chance in which enough is done -/
def chS (N : Nat → Nat) (T D : zT) (m n : Nat) : Nat → Nat → Nat → Nat
  | 0, a, _ => a
  | j + 1, a, l => chS N T D m n j (if dbS T ((chH N T (24 - D 0 0) D l).1 4) m (T 4 3) 0 0 < n then a else a + 1) (chH N T (24 - D 0 0) D l).2
theorem c_ch {N : Nat → Nat} (hN : HN N) {b : Bool} {T D : zT} {mv : Int32} {m n : Nat} (hm : m < T 4 2) (hn : n ≤ 12) (oD : okD T D) : ∀ (j k a l fu : Nat) (σ : zS), k + j = 10 → l < 2 ^ 31 → j < fu → CC b T (-1) (-1) σ → DC T 700 D mv σ →
    ∃ σ', f_X11_chance_34 fu (nI m) (nI n) (nI a) (lN l) (nI k) σ = some (nI (chS N T D m n j a l), σ') ∧ Fc b [0, 7] σ σ'
  | j, k, a, l, 0, σ, hj, hl, hf, hC, h => by omega
  | 0, k, a, l, fu + 1, σ, hj, hl, hf, hC, h => by
    unfold f_X11_chance_34
    rw [if_pos (show (10 : Int32) ≤ nI k from nI_le (a := 10) (by omega) (by omega))]
    exact ⟨σ, rfl, Fc.rf⟩
  | j + 1, k, a, l, fu + 1, σ, hj, hl, hf, hC, h => by
    have o := hC.1.1
    have o0 := oD.1
    obtain ⟨σ1, e1, d1, f1⟩ := c_copy (b := b) (dy := 900) (z := 7) (d1 := 700) (z1 := 3) (.inr (.inr ⟨rfl, rfl⟩)) (.inl ⟨rfl, rfl⟩) (by decide) hC.1 h
    obtain ⟨σ2, e2, d2, f2, l2, o2⟩ := c_chH hN (b := b) (24 - D 0 0) (D 0 0) FU D l σ1 (by omega) rfl (by unfold FU; omega) hl (hC.mono f1 rfl rfl) oD d1
    have F2 : Fc b [0, 7] σ σ2 := (f1.mono rfl).tr f2
    have C2 := hC.mono F2 rfl rfl
    have e3 := c_db hC.1 C2.2.1 hm d2.2.2.2.2.2 o2.2.2 (T 4 3) 0 0 FU (by omega) (by omega) (by unfold FU; omega)
    replace e3 : f_X11_doneBy 900 (nI m) σ2 = _ := e3
    have dl := dbS_le T ((chH N T (24 - D 0 0) D l).1 4) m (T 4 3) 0 0
    unfold f_X11_chance_34 f_X11_chance_83 f_X5_passByChance
    rw [if_neg (show ¬ (10 : Int32) ≤ nI k from nI_ge (b := 10) (by omega) (by omega)), e1, bs, lts, d1.1, e2, b2s, e3, bs, nI_1, nI_1]
    have dc2 := DC.mono (z := 3) (.inl ⟨rfl, rfl⟩) h F2 rfl
    unfold chS
    by_cases hlt : dbS T ((chH N T (24 - D 0 0) D l).1 4) m (T 4 3) 0 0 < n
    · rw [if_pos (nI_lt hlt (by omega)), if_pos hlt]
      obtain ⟨σ3, e3, f3⟩ := c_ch hN hm hn oD j (k + 1) a _ fu σ2 (by omega) l2 (by omega) C2 dc2
      exact ⟨σ3, e3, F2.tr f3⟩
    · rw [if_neg (nI_nlt (by omega) (by omega)), if_neg hlt]
      obtain ⟨σ3, e3, f3⟩ := c_ch hN hm hn oD j (k + 1) (a + 1) _ fu σ2 (by omega) l2 (by omega) C2 dc2
      exact ⟨σ3, e3, F2.tr f3⟩
