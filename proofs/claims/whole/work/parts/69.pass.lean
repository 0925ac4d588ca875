/-! The pure part: an hour passes -/
theorem DC.up {T : zT} {dy : Nat} {D : zT} {mv : Int32} {σ : zS} (h : DC T dy D mv σ) {i k v : Nat} (hi : i = 1 ∨ i = 2 ∨ i = 3 ∨ i = 4) : DC T dy (up2 D i k v) mv (wI σ (dy + 2 + i) k (nI v)) := by
  obtain ⟨c0, c1, c2, c3, c4, c5⟩ := h
  have g : ∀ a n, rowN σ (dy + 2 + a) 0 n (D a) → rowN (wI σ (dy + 2 + i) k (nI v)) (dy + 2 + a) 0 n (up2 D i k v a) := by
    intro a n hr j hj
    simp only [wI_at, up2_at]
    rw [Nat.zero_add]
    by_cases e : a = i ∧ j = k
    · rw [if_pos (by omega), if_pos e]
    · rw [if_neg (by omega), if_neg e]; exact row0 hr hj
  refine ⟨?_, ?_, g 1 _ c2, g 2 _ c3, g 3 _ c4, g 4 _ c5⟩
  · simp only [wI_at, up2_at]; rw [if_neg (by omega), if_neg (by omega)]; exact c0
  · simp only [wI_at]; rw [if_neg (by omega)]; exact c1
theorem DM.up {T : zT} {s : Nat} {D : zT} {mv : Int32} {σ : zS} (h : DM T s D mv σ) {i k v : Nat} (hi : i = 1 ∨ i = 2 ∨ i = 3) : DM T s (up2 D i k v) mv (wI σ (5041 + i) (5 * s + k) (nI v)) := by
  obtain ⟨c0, c1, c2, c3, c4, c5⟩ := h
  have g : ∀ a n, rowN σ (5041 + a) (5 * s) n (D a) → rowN (wI σ (5041 + i) (5 * s + k) (nI v)) (5041 + a) (5 * s) n (up2 D i k v a) := by
    intro a n hr j hj
    simp only [wI_at, up2_at]
    by_cases e : a = i ∧ j = k
    · rw [if_pos (by omega), if_pos e]
    · rw [if_neg (by omega), if_neg e]; exact hr j hj
  refine ⟨?_, ?_, g 1 _ c2, g 2 _ c3, g 3 _ c4, ?_⟩
  · simp only [wI_at, up2_at]; rw [if_neg (by omega), if_neg (by omega)]; exact c0
  · simp only [wI_at]; rw [if_neg (by omega)]; exact c1
  · intro j hj
    simp only [wI_at, up2_at]; rw [if_neg (by omega), if_neg (by omega)]; exact c5 j hj
theorem DM.up4 {T : zT} {s : Nat} {D : zT} {mv : Int32} {σ : zS} (h : DM T s D mv σ) {k v : Nat} : DM T s (up2 D 4 k v) mv (wI σ 5045 (12 * s + k) (nI v)) := by
  obtain ⟨c0, c1, c2, c3, c4, c5⟩ := h
  refine ⟨?_, ?_, ?_, ?_, ?_, ?_⟩
  · simp only [wI_at, up2_at]; rw [if_neg (by omega), if_neg (by omega)]; exact c0
  · simp only [wI_at]; rw [if_neg (by omega)]; exact c1
  · intro j hj
    simp only [wI_at, up2_at]; rw [if_neg (by omega), if_neg (by omega)]; exact c2 j hj
  · intro j hj
    simp only [wI_at, up2_at]; rw [if_neg (by omega), if_neg (by omega)]; exact c3 j hj
  · intro j hj
    simp only [wI_at, up2_at]; rw [if_neg (by omega), if_neg (by omega)]; exact c4 j hj
  · intro j hj
    simp only [wI_at, up2_at]
    by_cases e : j = k
    · rw [if_pos (by simp [e]), if_pos (by simp [e])]
    · rw [if_neg (by omega), if_neg (by omega)]; exact c5 j hj
def payS (D : zT) (m n : Nat) : zT := up2 D 2 m (D 2 m - n)
def doD (T : zT) (w u : Int32) (D : zT) (d : Nat) : zT :=
  if nI (T 14 d) = u then D
  else if D 3 (T 14 d) / 2 ^ T 15 d % 2 = 1 then up2 D 4 d 3
  else if lawB T w (T 14 d) (D 1 (T 14 d)) (T 15 d) (T 16 d) (D 0 0) then up2 D 4 d 1
  else payS (if w = 4 then up2 D 4 d 2 else up2 (up2 D 4 d 2) 3 (T 14 d) (D 3 (T 14 d) + 2 ^ T 15 d)) (T 14 d) (T 4 5)
def doA (T : zT) (w u : Int32) : Nat → Nat → zT → zT
  | 0, _, D => D
  | j + 1, k, D => doA T w u j (k + 1) (if T 17 k = D 0 0 then doD T w u D k else D)
def taxN (T : zT) (w : Int32) (m s p h : Nat) : Nat := match evS T w 2 m s p 0 h with
  | none => 0
  | some v => if v < 0 then 0 else if 9 < v then 9 else v.toInt.toNat
def taxP (T : zT) (w : Int32) (m : Nat) : Nat → Nat → zT → zT
  | 0, _, D => D
  | j + 1, p, D => taxP T w m j (p + 1) (payS D m (taxN T w m (D 1 m) p (D 0 0)))
def taxA (T : zT) (w : Int32) : Nat → Nat → zT → zT
  | 0, _, D => D
  | j + 1, m, D => taxA T w j (m + 1) (taxP T w m 4 0 D)
def passD (T : zT) (w u : Int32) (D : zT) : zT :=
  (fun D1 => up2 D1 0 0 (D1 0 0 + 1)) ((fun D1 => if D1 0 0 = 23 then taxA T w (T 4 2) 0 D1 else D1) (doA T w u (T 4 3) 0 D))
theorem okD.pay {T D : zT} (h : okD T D) {m n : Nat} : okD T (payS D m n) := by
  refine ⟨h.1, fun k hk => ?_, h.2.2⟩
  have := h.2.1 k hk
  simp only [payS, up2_at]
  by_cases e : k = m
  · subst e
    rw [if_neg (by omega), if_pos (by simp), if_neg (by omega)]; omega
  · rw [if_neg (by omega), if_neg (by omega), if_neg (by omega)]; exact this
theorem okD.u4 {T D : zT} (h : okD T D) {d v : Nat} (hv : v < 4) : okD T (up2 D 4 d v) := by
  refine ⟨h.1, fun k hk => ?_, fun k hk => ?_⟩
  · have := h.2.1 k hk
    simp only [up2_at]
    rw [if_neg (by omega), if_neg (by omega), if_neg (by omega)]; exact this
  · have := h.2.2 k hk
    simp only [up2_at]
    split
    · exact hv
    · exact this
theorem bitAdd : ∀ v, v < 16 → ∀ p, p < 4 → v / 2 ^ p % 2 = 0 → v + 2 ^ p < 16 ∧ nI v ||| ((1 : Int32) <<< (nI p &&& 31)) = nI (v + 2 ^ p) := by decide +kernel
theorem okD.u3 {T D : zT} (h : okD T D) {m v : Nat} (hv : v < 16) : okD T (up2 D 3 m v) := by
  refine ⟨h.1, fun k hk => ?_, h.2.2⟩
  have := h.2.1 k hk
  simp only [up2_at]
  rw [if_neg (by omega), if_neg (by omega)]
  split
  · exact ⟨this.1, this.2.1, hv⟩
  · exact this
theorem mod2 {n : Nat} (h : ¬ n % 2 = 1) : n % 2 = 0 := by omega
theorem okD_doD {T D : zT} (hT : okT T) (h : okD T D) {w u : Int32} {d : Nat} (hd : d < T 4 3) : okD T (doD T w u D d) := by
  have od := hT.2.2.2.1 d hd
  have om := h.2.1 _ od.1
  unfold doD
  split
  · exact h
  · split
    · exact h.u4 (by omega)
    · rename_i hb
      split
      · exact h.u4 (by omega)
      · split
        · exact (h.u4 (by omega)).pay
        · exact ((h.u4 (by omega)).u3 (bitAdd _ om.2.2 _ od.2.1 (mod2 hb)).1).pay
theorem doD_0 {T D : zT} {w u : Int32} {d : Nat} : doD T w u D d 0 0 = D 0 0 := by
  unfold doD
  (repeat' split) <;> rfl
theorem okD_doA {T : zT} (hT : okT T) {w u : Int32} : ∀ (j k : Nat) (D : zT), k + j = T 4 3 → okD T D → okD T (doA T w u j k D) ∧ doA T w u j k D 0 0 = D 0 0
  | 0, k, D, hj, h => ⟨h, rfl⟩
  | j + 1, k, D, hj, h => by
    unfold doA
    split
    · have := okD_doA hT (w := w) (u := u) j (k + 1) (doD T w u D k) (by omega) (okD_doD hT h (by omega))
      exact ⟨this.1, this.2.trans doD_0⟩
    · exact okD_doA hT j (k + 1) D (by omega) h
theorem okD_taxP {T : zT} {w : Int32} {m : Nat} : ∀ (j p : Nat) (D : zT), okD T D → okD T (taxP T w m j p D) ∧ taxP T w m j p D 0 0 = D 0 0
  | 0, p, D, h => ⟨h, rfl⟩
  | j + 1, p, D, h => by
    have := okD_taxP (w := w) (m := m) j (p + 1) (payS D m (taxN T w m (D 1 m) p (D 0 0))) h.pay
    exact ⟨this.1, this.2⟩
theorem okD_taxA {T : zT} {w : Int32} : ∀ (j m : Nat) (D : zT), okD T D → okD T (taxA T w j m D) ∧ taxA T w j m D 0 0 = D 0 0
  | 0, m, D, h => ⟨h, rfl⟩
  | j + 1, m, D, h => by
    have h1 := okD_taxP (w := w) (m := m) 4 0 D h
    have := okD_taxA (w := w) j (m + 1) _ h1.1
    exact ⟨this.1, this.2.trans h1.2⟩
theorem okD.pass {T D : zT} (hT : okT T) (h : okD T D) {w u : Int32} (h23 : D 0 0 ≤ 23) : okD T (passD T w u D) ∧ passD T w u D 0 0 = D 0 0 + 1 := by
  have h1 := okD_doA hT (w := w) (u := u) (T 4 3) 0 D (by omega) h
  unfold passD
  generalize doA T w u (T 4 3) 0 D = D1 at h1
  dsimp only
  have h2 : okD T (if D1 0 0 = 23 then taxA T w (T 4 2) 0 D1 else D1) ∧ (if D1 0 0 = 23 then taxA T w (T 4 2) 0 D1 else D1) 0 0 = D1 0 0 := by
    split
    · exact okD_taxA (T 4 2) 0 D1 h1.1
    · exact ⟨h1.1, rfl⟩
  generalize (if D1 0 0 = 23 then taxA T w (T 4 2) 0 D1 else D1) = D2 at h2
  refine ⟨⟨?_, fun k hk => ?_, fun k hk => ?_⟩, ?_⟩
  · rw [up2_at, if_pos ⟨rfl, rfl⟩, h2.2, h1.2]; omega
  · simp only [up2_at]
    rw [if_neg (by omega), if_neg (by omega), if_neg (by omega)]; exact h2.1.2.1 k hk
  · simp only [up2_at]
    rw [if_neg (by omega)]; exact h2.1.2.2 k hk
  · rw [up2_at, if_pos ⟨rfl, rfl⟩, h2.2, h1.2]
theorem minI {a n : Nat} (ha : a < 2 ^ 30) (hn : n < 2 ^ 30) (σ : zS) : nI a - f_J9_min_7cf53 (nI n) (nI a) σ = nI (a - n) ∧ nI a - f_J9_min_7cf53 (nI a) (nI n) σ = nI (a - n) := by
  unfold f_J9_min_7cf53
  by_cases h : a < n
  · rw [if_pos (nI_lt h (by omega)), if_neg (nI_nlt (by omega) (by omega)), pk_sub (Nat.le_refl a), show a - n = 0 by omega, Nat.sub_self]; exact ⟨rfl, rfl⟩
  · rw [if_neg (nI_nlt (by omega) (by omega)), pk_sub (by omega)]
    refine ⟨rfl, ?_⟩
    by_cases h2 : n < a
    · rw [if_pos (nI_lt h2 (by omega)), pk_sub (by omega)]
    · have : a = n := by omega
      subst this
      rw [if_neg (nI_nlt (by omega) (by omega)), pk_sub (by omega)]
theorem c_pay {b : Bool} {T D : zT} {dy z : Nat} {mv : Int32} {σ : zS} (hd : isDy dy z) (hT : okT T) (oD : okD T D) (h : DC T dy D mv σ) {m n : Nat} (hm : m < T 4 2) (hn : n < 2 ^ 30) :
    ∃ σ', f_X0_pay dy (nI m) (nI n) σ = some σ' ∧ DC T dy (payS D m n) mv σ' ∧ Fc b [0, z] σ σ' := by
  have o := hT.1
  have om := oD.2.1 m hm
  unfold f_X0_pay
  rw [rd_nI (by omega) (by omega), bs, bs, (h.s0 hm).2.1, (minI (by omega) hn σ).1, wr_nI (by omega) (by omega), bs]
  refine ⟨_, rfl, h.up (by omega), Fc.rf.wI ?_⟩
  have := zcD (b := b) hd 4 m (by omega)
  rw [this]; simp
theorem m_pay {T D : zT} {s : Nat} {mv : Int32} {σ : zS} (hs : s < 23) (hT : okT T) (oD : okD T D) (h : DM T s D mv σ) {m n : Nat} (hm : m < T 4 2) (hn : n < 2 ^ 30) :
    ∃ σ', f_X12_taxes_64 (nI (5 * s + m)) (nI n) σ = some σ' ∧ DM T s (payS D m n) mv σ' ∧ Fm [0, zsl s] σ σ' := by
  have o := hT.1
  have om := oD.2.1 m hm
  unfold f_X12_taxes_64
  rw [rd_nI (by omega) (by omega), bs, bs, h.2.2.2.1 m hm, (minI (by omega) hn σ).2, wr_nI (by omega) (by omega), bs]
  refine ⟨_, rfl, h.up (by omega), Fm.rf.wI ?_⟩
  have := zmC (s := s) (k := m) (i := 5043) (by omega) (by omega)
  rw [this]; simp
