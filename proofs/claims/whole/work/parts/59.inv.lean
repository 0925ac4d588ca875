/-! The pure part: the invariant between class and reference -/
def okD (T D : zT) : Prop := D 0 0 ≤ 24 ∧ (∀ m, m < T 4 2 → D 1 m < 16 * T 4 0 ∧ D 2 m ≤ 99 ∧ D 3 m < 16) ∧ (∀ d, d < T 4 3 → D 4 d < 4)
def DC (T : zT) (dy : Nat) (D : zT) (mv : Int32) (σ : zS) : Prop :=
  σ.1 dy 0 = nI (D 0 0) ∧ σ.1 dy 1 = mv ∧ rowN σ (dy + 3) 0 (T 4 2) (D 1) ∧ rowN σ (dy + 4) 0 (T 4 2) (D 2) ∧ rowN σ (dy + 5) 0 (T 4 2) (D 3) ∧ rowN σ (dy + 6) 0 (T 4 3) (D 4)
def DM (T : zT) (s : Nat) (D : zT) (mv : Int32) (σ : zS) : Prop :=
  σ.1 5039 s = nI (D 0 0) ∧ σ.1 5041 s = mv ∧ rowN σ 5042 (5 * s) (T 4 2) (D 1) ∧ rowN σ 5043 (5 * s) (T 4 2) (D 2) ∧ rowN σ 5044 (5 * s) (T 4 2) (D 3) ∧ rowN σ 5045 (12 * s) (T 4 3) (D 4)
def isDy (dy z : Nat) : Prop := dy = 700 ∧ z = 3 ∨ dy = 800 ∧ z = 5 ∨ dy = 900 ∧ z = 7
theorem zcD {b : Bool} {dy z : Nat} (h : isDy dy z) (i k : Nat) (hi : i < 100) : zc b (dy + i) k = z := by
  have ht : tv b = 300 ∨ tv b = 400 := by cases b <;> simp [tv]
  have hl : tl b = 1300 ∨ tl b = 1400 := by cases b <;> simp [tl]
  rcases h with ⟨rfl, rfl⟩ | ⟨rfl, rfl⟩ | ⟨rfl, rfl⟩ <;> unfold zc <;> rw [if_neg (by omega), if_neg (by omega), if_neg (by omega), if_neg (by omega), if_neg (by omega), if_neg (by omega)]
  · rw [if_pos (by omega)]
  · rw [if_neg (by omega), if_pos (by omega)]
  · rw [if_neg (by omega), if_neg (by omega), if_pos (by omega)]
theorem DC.mono {b : Bool} {T : zT} {dy z : Nat} {D : zT} {mv : Int32} {Z : List Nat} {σ σ' : zS} (hd : isDy dy z) (h : DC T dy D mv σ) (F : Fc b Z σ σ') (hz : Z.elem z = false) : DC T dy D mv σ' := by
  obtain ⟨h0, h1, h2, h3, h4, h5⟩ := h
  have g : ∀ {i k : Nat}, i < 100 → σ'.1 (dy + i) k = σ.1 (dy + i) k := fun hi => F.z (zcD hd _ _ hi) hz
  exact ⟨(g (i := 0) (by omega)).trans h0, (g (i := 0) (by omega)).trans h1, fun k hk => (g (by omega)).trans (h2 k hk), fun k hk => (g (by omega)).trans (h3 k hk), fun k hk => (g (by omega)).trans (h4 k hk), fun k hk => (g (by omega)).trans (h5 k hk)⟩
theorem zmA {s : Nat} : zm 5039 s = zsl s := rfl
theorem zmB {s : Nat} : zm 5041 s = zsl s := rfl
theorem zmC {s k i : Nat} (hk : k < 5) (hi : i = 5042 ∨ i = 5043 ∨ i = 5044) : zm i (5 * s + k) = zsl s := by
  have e : (5 * s + k) / 5 = s := by omega
  rcases hi with rfl | rfl | rfl <;> (show zsl ((5 * s + k) / 5) = _; rw [e])
theorem zmE {s k : Nat} (hk : k < 12) : zm 5045 (12 * s + k) = zsl s := by
  have e : (12 * s + k) / 12 = s := by omega
  show zsl ((12 * s + k) / 12) = _; rw [e]
theorem DM.mono {T : zT} {s : Nat} {D : zT} {mv : Int32} {Z : List Nat} {σ σ' : zS} (hT : okT T) (h : DM T s D mv σ) (F : Fm Z σ σ') (hz : Z.elem (zsl s) = false) : DM T s D mv σ' := by
  obtain ⟨h0, h1, h2, h3, h4, h5⟩ := h
  have o := hT.1
  exact ⟨(F.z zmA hz).trans h0, (F.z zmB hz).trans h1, fun k hk => (F.z (zmC (by omega) (by omega)) hz).trans (h2 k hk), fun k hk => (F.z (zmC (by omega) (by omega)) hz).trans (h3 k hk), fun k hk => (F.z (zmC (by omega) (by omega)) hz).trans (h4 k hk), fun k hk => (F.z (zmE (by omega)) hz).trans (h5 k hk)⟩
/-- the pieces -/
def VA (b : Bool) (T : zT) (σc σm : zS) : Prop := CC b T (-1) (-1) σc ∧ CM T (-1) (-1) σm
def VB (T D : zT) (mv : Int32) (σc σm : zS) : Prop := okD T D ∧ DC T 700 D mv σc ∧ DM T 0 D mv σm
def VF (σc σm : zS) : Prop := (∃ tp, tp ≤ 700 ∧ σc.1 100 1 = nI tp ∧ σm.1 5000 2 = nI tp) ∧ σc.1 100 2 = σm.1 5000 30 ∧ σc.1 100 3 = σm.1 5000 31 ∧ ∃ f : Nat → Nat, (∀ k, f k < 256) ∧ rowN σc 101 0 700 f ∧ rowN σm 5002 0 700 f
def VI (T : zT) (σc σm : zS) : Prop := (σc.1 100 10 = 0 ∧ σm.1 5000 45 = 0) ∨ (σc.1 100 10 = 1 ∧ σm.1 5000 45 = 1 ∧ ∃ D mv, okD T D ∧ DC T 800 D mv σc ∧ DM T 2 D mv σm)
/-- a day but for one man -/
def dayBut (T D E : zT) (m : Nat) : Prop := D 0 0 = E 0 0 ∧ (∀ i, i < T 4 2 → i ≠ m → D 1 i = E 1 i ∧ D 2 i = E 2 i ∧ D 3 i = E 3 i) ∧ (∀ d, d < T 4 3 → D 4 d = E 4 d)
def VU (T D : zT) (mv : Int32) (σc σm : zS) : Prop := ∃ (U : Nat) (E : Nat → zT) (M : Nat → Int32) (a : Nat → Nat), U ≤ 20 ∧ σc.1 1100 0 = nI U ∧ σm.1 5000 46 = nI U ∧ E U = D ∧ M U = mv ∧
  ∀ k, k < U → a k < T 4 2 ∧ okD T (E k) ∧ DM T (3 + k) (E k) (M k) σm ∧ dayBut T (E k) (E (k + 1)) (a k) ∧
    σc.1 1102 k = nI (a k) ∧ σc.1 1103 k = nI (E k 1 (a k)) ∧ σc.1 1104 k = nI (E k 2 (a k)) ∧ σc.1 1105 k = nI (E k 3 (a k)) ∧ σc.1 1106 k = M k
/-- prints: S 0 is 0 for a print, one more than what it strikes for a strike -/
def okP (T : zT) (P : Nat) (lm : Int32) (S : zT) : Prop := P ≤ 24 ∧ (lm = -1 ∨ ∃ j, j ≤ P ∧ lm = nI j) ∧ ∀ k, k < P → S 0 k ≤ k ∧ (S 0 k = 0 → S 1 k ≤ 99 ∧ S 2 k < 4 ∧ S 3 k < T 4 0)
def PrC (P : Nat) (lm : Int32) (S : zT) (σ : zS) : Prop := σ.1 1200 0 = nI P ∧ σ.1 1200 1 = lm ∧ ∀ k, k < P → σ.1 1206 k = nI (S 0 k) - 1 ∧ (S 0 k = 0 → σ.1 1203 k = nI (S 1 k) ∧ σ.1 1204 k = nI (S 2 k) ∧ σ.1 1205 k = nI (S 3 k))
def PrM (P : Nat) (lm : Int32) (S : zT) (σ : zS) : Prop := σ.1 5000 53 = nI P ∧ σ.1 5000 54 = lm ∧ ∀ k, k < P → σ.1 5059 k = nI (S 0 k) - 1 ∧ (S 0 k = 0 → σ.1 5056 k = nI (S 1 k) ∧ σ.1 5057 k = nI (S 2 k) ∧ σ.1 5058 k = nI (S 3 k))
def VP (T : zT) (σc σm : zS) : Prop := ∃ P lm S, okP T P lm S ∧ PrC P lm S σc ∧ PrM P lm S σm
def Vx (b : Bool) (T D : zT) (mv : Int32) (σc σm : zS) : Prop := VA b T σc σm ∧ VB T D mv σc σm ∧ VF σc σm ∧ VI T σc σm ∧ VU T D mv σc σm ∧ VP T σc σm
def V (σc σm : zS) : Prop := ∃ b T D mv, Vx b T D mv σc σm
section
variable {b : Bool} {T D : zT} {mv : Int32} {Z Y : List Nat} {σc σc' σm σm' : zS}
theorem VA.mono (h : VA b T σc σm) (F : Fc b Z σc σc') (G : Fm Y σm σm') (z1 : Z.elem 1 = false) (z6 : Z.elem 6 = false) (y1 : Y.elem 1 = false) (y6 : Y.elem 6 = false) : VA b T σc' σm' := ⟨h.1.mono F z1 z6, h.2.mono G y1 y6⟩
theorem VB.mono (hT : okT T) (h : VB T D mv σc σm) (F : Fc b Z σc σc') (G : Fm Y σm σm') (z : Z.elem 3 = false) (y : Y.elem 3 = false) : VB T D mv σc' σm' := ⟨h.1, DC.mono (.inl ⟨rfl, rfl⟩) h.2.1 F z, DM.mono hT h.2.2 G y⟩
theorem VF.mono (h : VF σc σm) (F : Fc b Z σc σc') (G : Fm Y σm σm') (z : Z.elem 2 = false) (y : Y.elem 2 = false) : VF σc' σm' := by
  obtain ⟨⟨tp, h1, h2, h3⟩, h4, h5, f, h6, h7, h8⟩ := h
  have c1 : ∀ k, k ≠ 10 → σc'.1 100 k = σc.1 100 k := fun k hk => F.z (z := 2) (by unfold zc; rw [if_pos rfl, if_neg hk]) z
  have c2 : ∀ k, σc'.1 101 k = σc.1 101 k := fun k => F.z (z := 2) rfl z
  have m1 : σm'.1 5000 2 = σm.1 5000 2 := G.z (z := 2) rfl y
  have m2 : σm'.1 5000 30 = σm.1 5000 30 := G.z (z := 2) rfl y
  have m3 : σm'.1 5000 31 = σm.1 5000 31 := G.z (z := 2) rfl y
  have m4 : ∀ k, σm'.1 5002 k = σm.1 5002 k := fun k => G.z (z := 2) rfl y
  exact ⟨⟨tp, h1, (c1 1 (by decide)).trans h2, m1.trans h3⟩, by rw [c1 2 (by decide), m2]; exact h4, by rw [c1 3 (by decide), m3]; exact h5, f, h6, fun k hk => (c2 _).trans (h7 k hk), fun k hk => (m4 _).trans (h8 k hk)⟩
theorem VI.mono (hT : okT T) (h : VI T σc σm) (F : Fc b Z σc σc') (G : Fm Y σm σm') (z : Z.elem 5 = false) (y : Y.elem 5 = false) : VI T σc' σm' := by
  have c1 : σc'.1 100 10 = σc.1 100 10 := F.z (z := 5) rfl z
  have m1 : σm'.1 5000 45 = σm.1 5000 45 := G.z (z := 5) rfl y
  unfold VI
  rw [c1, m1]
  rcases h with h | ⟨h1, h2, D', mv', h3, h4, h5⟩
  · exact .inl h
  · exact .inr ⟨h1, h2, D', mv', h3, DC.mono (.inr (.inl ⟨rfl, rfl⟩)) h4 F z, DM.mono hT h5 G y⟩
theorem zsl4 (k : Nat) : zsl (3 + k) = 4 := by unfold zsl; rw [if_neg (by omega), if_neg (by omega), if_neg (by omega)]
theorem zc4 (i k : Nat) (hi : i < 100) : zc b (1100 + i) k = 4 := by
  have ht : tv b = 300 ∨ tv b = 400 := by cases b <;> simp [tv]
  have hl : tl b = 1300 ∨ tl b = 1400 := by cases b <;> simp [tl]
  unfold zc
  rw [if_neg (by omega), if_neg (by omega), if_neg (by omega), if_neg (by omega), if_neg (by omega), if_neg (by omega), if_neg (by omega), if_neg (by omega), if_neg (by omega), if_neg (by omega), if_pos (by omega)]
theorem zc9 (i k : Nat) (hi : i < 7) : zc b (1200 + i) k = 9 := by
  have ht : tv b = 300 ∨ tv b = 400 := by cases b <;> simp [tv]
  have hl : tl b = 1300 ∨ tl b = 1400 := by cases b <;> simp [tl]
  unfold zc
  rw [if_neg (by omega), if_neg (by omega), if_neg (by omega), if_neg (by omega), if_neg (by omega), if_neg (by omega), if_neg (by omega), if_neg (by omega), if_neg (by omega), if_neg (by omega), if_neg (by omega), if_pos (by omega)]
theorem VU.mono (hT : okT T) (h : VU T D mv σc σm) (F : Fc b Z σc σc') (G : Fm Y σm σm') (z : Z.elem 4 = false) (y : Y.elem 4 = false) : VU T D mv σc' σm' := by
  obtain ⟨U, E, M, a, h1, h2, h3, h4, h5, h6⟩ := h
  have c : ∀ i k, i < 100 → σc'.1 (1100 + i) k = σc.1 (1100 + i) k := fun i k hi => F.z (zc4 i k hi) z
  have m1 : σm'.1 5000 46 = σm.1 5000 46 := G.z (z := 4) rfl y
  refine ⟨U, E, M, a, h1, (c 0 0 (by omega)).trans h2, m1.trans h3, h4, h5, fun k hk => ?_⟩
  obtain ⟨p1, p2, p3, p4, p5, p6, p7, p8, p9⟩ := h6 k hk
  exact ⟨p1, p2, p3.mono hT G (by rw [zsl4]; exact y), p4, (c 2 k (by omega)).trans p5, (c 3 k (by omega)).trans p6, (c 4 k (by omega)).trans p7, (c 5 k (by omega)).trans p8, (c 6 k (by omega)).trans p9⟩
theorem PrC.mono {P : Nat} {lm : Int32} {S : zT} (h : PrC P lm S σc) (F : Fc b Z σc σc') (z : Z.elem 9 = false) : PrC P lm S σc' := by
  have c : ∀ i k, i < 7 → σc'.1 (1200 + i) k = σc.1 (1200 + i) k := fun i k hi => F.z (zc9 i k hi) z
  exact ⟨(c 0 0 (by omega)).trans h.1, (c 0 1 (by omega)).trans h.2.1, fun k hk => ⟨(c 6 k (by omega)).trans (h.2.2 k hk).1, fun h0 => ⟨(c 3 k (by omega)).trans ((h.2.2 k hk).2 h0).1, (c 4 k (by omega)).trans ((h.2.2 k hk).2 h0).2.1, (c 5 k (by omega)).trans ((h.2.2 k hk).2 h0).2.2⟩⟩⟩
theorem PrM.mono {P : Nat} {lm : Int32} {S : zT} (h : PrM P lm S σm) (G : Fm Y σm σm') (y : Y.elem 9 = false) : PrM P lm S σm' := by
  have m1 : ∀ i k, 5056 ≤ i → i ≤ 5059 → σm'.1 i k = σm.1 i k := fun i k h1 h2 => G.z (z := 9) (by
    unfold zm
    rw [if_neg (by omega), if_neg (by omega), if_neg (by omega), if_neg (by omega), if_neg (by omega), if_neg (by omega), if_neg (by omega), if_neg (by omega), if_neg (by omega), if_neg (by omega), if_neg (by omega), if_pos (by omega)]) y
  exact ⟨(G.z (z := 9) rfl y).trans h.1, (G.z (z := 9) rfl y).trans h.2.1, fun k hk => ⟨(m1 _ _ (by omega) (by omega)).trans (h.2.2 k hk).1, fun h0 => ⟨(m1 _ _ (by omega) (by omega)).trans ((h.2.2 k hk).2 h0).1, (m1 _ _ (by omega) (by omega)).trans ((h.2.2 k hk).2 h0).2.1, (m1 _ _ (by omega) (by omega)).trans ((h.2.2 k hk).2 h0).2.2⟩⟩⟩
theorem VP.mono (h : VP T σc σm) (F : Fc b Z σc σc') (G : Fm Y σm σm') (z : Z.elem 9 = false) (y : Y.elem 9 = false) : VP T σc' σm' := by
  obtain ⟨P, lm, S, h1, h2, h3⟩ := h
  exact ⟨P, lm, S, h1, h2.mono F z, h3.mono G y⟩
/-- scratch may change -/
theorem Vx.scr (h : Vx b T D mv σc σm) (F : Fc b [0, 7, 8, 12, 13, 14, 15, 16] σc σc') (G : Fm [0, 7, 8, 10, 11, 12, 13, 14, 15, 16] σm σm') : Vx b T D mv σc' σm' := by
  obtain ⟨h1, h2, h3, h4, h5, h6⟩ := h
  have hT : okT T := h1.1.1
  exact ⟨h1.mono F G rfl rfl rfl rfl, h2.mono hT F G rfl rfl, h3.mono F G rfl rfl, h4.mono hT F G rfl rfl, h5.mono hT F G rfl rfl, h6.mono F G rfl rfl⟩
theorem Vx.v (h : Vx b T D mv σc σm) : V σc σm := ⟨b, T, D, mv, h⟩
end
