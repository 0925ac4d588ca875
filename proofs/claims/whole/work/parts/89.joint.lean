/-! The pure part: joint -/
theorem fst_ext {G : Nat → Bool} {q : Nat → Nat} : ∀ (j i : Nat), fstG G q (j + 1) i = (match fstG G q j i with | some l => some l | none => if G (q (i + j)) then some (i + j) else none)
  | 0, i => by
    show (if G (q i) then some i else none) = (if G (q (i + 0)) then some (i + 0) else none)
    rfl
  | j + 1, i => by
    have ih := fst_ext (G := G) (q := q) j (i + 1)
    show (if G (q i) then some i else fstG G q (j + 1) (i + 1)) = (match (if G (q i) then some i else fstG G q j (i + 1)) with | some l => some l | none => if G (q (i + (j + 1))) then some (i + (j + 1)) else none)
    rw [ih, show i + 1 + j = i + (j + 1) by omega]
    cases G (q i) <;> rfl
/-- lawful with the part at a place -/
def plG (T D : zT) (m p k r : Nat) (s : Nat) : Bool := decide (plc s p = r) && lawB T (-1) m s p k (D 0 0)
def plV (a : Nat) (q : Nat → Nat) (o : Option Nat) : Int32 := match o with | none => -1 | some l => nI (dst a (q l))
theorem c_measL {b : Bool} {T D : zT} {mv : Int32} {m p k a sz z A : Nat} {q : Nat → Nat} (hA : A = 1506 ∧ z = 15 ∨ A = 1507 ∧ z = 16) (oD : okD T D) (hm : m < T 4 2) (hp : p < 4) (hk : k < 4) (ha : a < 16 * T 4 0) (hsz : sz ≤ 16 * T 4 0) : ∀ (j i fu : Nat) (σ : zS), i + j = sz → j < fu → CC b T (-1) (-1) σ → DC T 700 D mv σ → BF (T 4 0) a σ sz q → (∀ r, r < 14 → σ.1 A r = plV a q (fstG (plG T D m p k r) q i 0)) →
    ∃ σ', f_X11_measurePlaces_32 A 14 fu (nI m) (nI p) (nI k) (nI i) σ = some σ' ∧ Fc b [0, z] σ σ' ∧ (∀ r, r < 14 → σ'.1 A r = plV a q (fstG (plG T D m p k r) q sz 0))
  | j, i, 0, σ, hj, hf, hC, h, hb, hr => by omega
  | 0, i, fu + 1, σ, hj, hf, hC, h, hb, hr => by
    have o := hC.1.1
    unfold f_X11_measurePlaces_32
    rw [hb.1, if_pos (nI_le (by omega) (by omega))]
    refine ⟨σ, rfl, Fc.rf, fun r h1 => ?_⟩
    rw [show sz = i by omega]; exact hr r h1
  | j + 1, i, fu + 1, σ, hj, hf, hC, h, hb, hr => by
    have o := hC.1.1
    have qi := hb.2.2.2.1 i (by omega)
    have q192 : q i < 192 := by omega
    have pl := plc_le (s := q i) (p := p) q192
    have dfa : ∀ l, l < sz → dst a (q l) < 1000 := fun l hl => by
      have := (dst_facts (a := a) (s := q l) (by omega) (by have := (hb.2.2.2.1 l hl).1; omega)).2.2.1
      omega
    have zA : ∀ r, List.elem (zc b A r) [0, z] = true := by
      intro r
      rcases hA with ⟨rfl, rfl⟩ | ⟨rfl, rfl⟩ <;> cases b <;> rfl
    have zN : List.elem 1 [0, z] = false ∧ List.elem 6 [0, z] = false ∧ List.elem 3 [0, z] = false ∧ List.elem 13 [0, z] = false := by
      rcases hA with ⟨-, rfl⟩ | ⟨-, rfl⟩ <;> exact ⟨rfl, rfl, rfl, rfl⟩
    have A2 : A ≠ 1503 := by omega
    unfold f_X11_measurePlaces_32 f_X11_measurePlaces_83 f_X11_measurePlaces_84 f_X11_measurePlaces_137
    simp only [lts]
    rw [hb.1, if_neg (nI_ge (by omega) (by omega)), rd_nI (by omega) (by omega), bs, qi.2.1, c_place q192 hp, Int32.sub_add_cancel, if_neg (nI_pos (by omega)), if_neg (show ¬ nI 14 ≤ nI (plc (q i) p) from nI_ge (by omega) (by omega)), rd_nI (by omega) (by omega), bs, hr _ (by omega), nI_1]
    rw [if_neg (show ¬ (1 : Int32) = 0 by decide)]
    have nx : ∀ σ', Fc b [0, z] σ σ' → (∀ r, r < 14 → σ'.1 A r = plV a q (fstG (plG T D m p k r) q (i + 1) 0)) → ∃ σ2, f_X11_measurePlaces_32 A 14 fu (nI m) (nI p) (nI k) (nI (i + 1)) σ' = some σ2 ∧ Fc b [0, z] σ σ2 ∧ (∀ r, r < 14 → σ2.1 A r = plV a q (fstG (plG T D m p k r) q sz 0)) := by
      intro σ' F' hr'
      obtain ⟨σ2, e2, f2, g2⟩ := c_measL (b := b) hA oD hm hp hk ha hsz j (i + 1) fu σ' (by omega) (by omega) (hC.mono F' zN.1 zN.2.1) (DC.mono (z := 3) (.inl ⟨rfl, rfl⟩) h F' zN.2.2.1) (hb.mono (b := b) (by omega) F' zN.2.2.2) hr'
      exact ⟨σ2, e2, F'.tr f2, g2⟩
    have ext : ∀ r, fstG (plG T D m p k r) q (i + 1) 0 = (match fstG (plG T D m p k r) q i 0 with | some l => some l | none => if plG T D m p k r (q i) then some i else none) := fun r => by
      have := fst_ext (G := plG T D m p k r) (q := q) i 0
      rw [Nat.zero_add] at this; exact this
    have other : ∀ r, r ≠ plc (q i) p → fstG (plG T D m p k r) q (i + 1) 0 = fstG (plG T D m p k r) q i 0 := fun r hne => by
      rw [ext]
      have : plG T D m p k r (q i) = false := by unfold plG; rw [decide_eq_false (fun e => hne e.symm)]; rfl
      rw [this]
      cases fstG (plG T D m p k r) q i 0 <;> rfl
    cases ef : fstG (plG T D m p k (plc (q i) p)) q i 0 with
    | some l =>
      obtain ⟨-, h2, -, -⟩ := fstG_some ef
      rw [if_neg (show ¬ plV a q (some l) = -1 from nI_nm1 (by have := dfa l (by omega); omega))]
      refine nx σ Fc.rf (fun r h1 => ?_)
      by_cases e : r = plc (q i) p
      · rw [hr r h1, ext, e, ef]
      · rw [hr r h1, other r e]
    | none =>
      rw [if_pos (show plV a q none = -1 from rfl), h.1]
      obtain ⟨σ1, e1, f1⟩ := c_allows hC hm q192 hp hk oD.1
      rw [e1, b2s]
      have b1 := hb.mono (b := b) (by omega) f1 rfl
      have rowA : ∀ r, σ1.1 A r = σ.1 A r := fun r => by
        rcases hA with ⟨rfl, rfl⟩ | ⟨rfl, rfl⟩
        · exact f1.z (z := 15) (by cases b <;> rfl) rfl
        · exact f1.z (z := 16) (by cases b <;> rfl) rfl
      have pg : plG T D m p k (plc (q i) p) (q i) = lawB T (-1) m (q i) p k (D 0 0) := by unfold plG; rw [decide_eq_true rfl]; rfl
      cases el : lawB T (-1) m (q i) p k (D 0 0) with
      | false =>
        rw [if_pos (show bI false = 0 from rfl)]
        refine nx σ1 (Fc01 f1) (fun r h1 => ?_)
        by_cases e : r = plc (q i) p
        · rw [rowA, hr r h1, ext, e, ef, pg, el]; rfl
        · rw [rowA, hr r h1, other r e]
      | true =>
        rw [if_neg (show ¬ bI true = 0 by decide), rd_nI (by omega) (by omega), bs, (b1.2.2.2.1 i (by omega)).2.2.1, wr_nI (by omega) (by omega), bs]
        refine nx _ ((Fc01 f1).wI (zA _)) (fun r h1 => ?_)
        rw [wI_at]
        by_cases e : r = plc (q i) p
        · rw [if_pos ⟨rfl, e⟩, ext, e, ef, pg, el]; rfl
        · rw [if_neg (fun y => e y.2), rowA, hr r h1, other r e]
/-- the least way to a place, none -/
def plN (T D : zT) (m p k r : Nat) : Nat := mnG (plG T D m p k r) (D 1 m) (16 * T 4 0)
theorem c_meas {b : Bool} {T D : zT} {mv : Int32} {m p k z A : Nat} {σ : zS} (hA : A = 1506 ∧ z = 15 ∨ A = 1507 ∧ z = 16) (oD : okD T D) (hm : m < T 4 2) (hp : p < 4) (hk : k < 4) (hC : CC b T (-1) (-1) σ) (h : DC T 700 D mv σ) :
    ∃ σ', f_X11_measurePlaces (nI m) (nI p) (nI k) A 14 σ = some σ' ∧ Fc b [0, 13, z] σ σ' ∧ (∀ r, r < 14 → σ'.1 A r = if plN T D m p k r = 1000 then -1 else nI (plN T D m p k r)) := by
  have o := hC.1.1
  have om := oD.2.1 m hm
  have zA : ∀ r, List.elem (zc b A r) [z] = true := by
    intro r
    rcases hA with ⟨rfl, rfl⟩ | ⟨rfl, rfl⟩ <;> cases b <;> rfl
  have zN : List.elem 1 [z] = false ∧ List.elem 6 [z] = false ∧ List.elem 3 [z] = false := by
    rcases hA with ⟨-, rfl⟩ | ⟨-, rfl⟩ <;> exact ⟨rfl, rfl, rfl⟩
  have F0 : Fc b [z] σ (wA σ A (fun j => if j < 14 then -1 else σ.1 A j)) := Fc.rf.wA zA
  have C0 := hC.mono F0 zN.1 zN.2.1
  have h0 := DC.mono (z := 3) (.inl ⟨rfl, rfl⟩) h F0 zN.2.2
  obtain ⟨σ1, sz, q, e1, f1, b1⟩ := c_explore (b := b) (n := T 4 0) (a := D 1 m) (σ := wA σ A (fun j => if j < 14 then -1 else σ.1 A j)) (by omega) om.1
  have s192 := b1.2.2
  have rowA : ∀ r, σ1.1 A r = (wA σ A (fun j => if j < 14 then -1 else σ.1 A j)).1 A r := fun r => by
    rcases hA with ⟨rfl, rfl⟩ | ⟨rfl, rfl⟩
    · exact f1.z (z := 15) (by cases b <;> rfl) rfl
    · exact f1.z (z := 16) (by cases b <;> rfl) rfl
  obtain ⟨σ2, e2, f2, g2⟩ := c_measL (b := b) hA oD hm hp hk om.1 b1.2.2 sz 0 FU σ1 (by omega) (by unfold FU; omega) (C0.mono f1 rfl rfl) (DC.mono (z := 3) (.inl ⟨rfl, rfl⟩) h0 f1 rfl) b1.1 (fun r h1 => by
    rw [rowA, wA_at, if_pos rfl, if_pos h1]; rfl)
  replace e2 : f_X11_measurePlaces_32 A 14 FU (nI m) (nI p) (nI k) 0 σ1 = _ := e2
  refine ⟨σ2, ?_, ?_, fun r h1 => ?_⟩
  · unfold f_X11_measurePlaces
    rw [fi_eq A 14 (-1) (by omega), bs, rd_nI (by omega) (by omega), bs, (h0.s7 hm).1, C0.2.1.1.1, C0.2.1.2.1.1, e1, bs, e2]
  · exact ((F0.mono (by simp)).tr (f1.mono (by simp))).tr (f2.mono (by simp))
  · rw [g2 r h1]
    unfold plN
    rcases near_G (G := plG T D m p k r) (by omega) om.1 b1 with ⟨z1, z2⟩ | ⟨l, z1, z2, z3, z4, z5, z6⟩
    · rw [z1, z2, if_pos rfl]; rfl
    · have df := (dst_facts (a := D 1 m) (s := q l) (by omega) (by omega)).2.2.1
      rw [z1, z5, if_neg (by omega)]; rfl
