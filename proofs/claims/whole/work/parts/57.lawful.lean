/-! The pure part: what is lawful, of both -/
def nmS (T : zT) (w : Int32) (m s p k h : Nat) : Nat → Nat := fun j =>
  if j = 0 then p else if j = 1 then sideN T w m p else if j = 2 then landQ T (plc s p) else if j = 3 then s / 4 % 4 else if j = 4 then crs s p else if j = 5 then k else h
def evS (T : zT) (w : Int32) (r m s p k h : Nat) : Option Int64 :=
  if T 18 r < T 19 r then evF T (nmS T w m s p k h) (T 19 r - T 18 r) (T 18 r) 0 (fun _ => 0) else none
def bndB (T : zT) (w : Int32) (m s p h : Nat) : Bool := if w = 0 then false else match evS T w 0 m s p 0 h with
  | none => decide (sideN T w m p = 0)
  | some v => !(decide (v = 0))
def mayB (T : zT) (w : Int32) (m s p k h : Nat) : Bool := match evS T w 1 m s p k h with
  | none => !(decide (k = 2))
  | some v => !(decide (v = 0))
def lawB (T : zT) (w : Int32) (m s p k h : Nat) : Bool := !(barB T w s p) && (!(bndB T w m s p h) || mayB T w m s p k h)
theorem nmS_le {T : zT} {w : Int32} {m s p k h : Nat} (hT : okT T) (hs : s < 192) (hp : p < 4) (hk : k < 4) (hh : h ≤ 24) : ∀ j, j < 7 → nmS T w m s p k h j ≤ 9999 := by
  intro j _
  have o := hT.1
  have l : landQ T (plc s p) ≤ 9 := by rcases landQ_lt hT (q := plc s p) with z | z <;> omega
  unfold nmS sideN crs
  (repeat' split) <;> omega
/-- the contexts -/
def CC (b : Bool) (T : zT) (w u : Int32) (σ : zS) : Prop := okT T ∧ RC b T σ ∧ MC w u σ
def CM (T : zT) (w u : Int32) (σ : zS) : Prop := okT T ∧ RM T σ ∧ MM w u σ
theorem CC.mono {b : Bool} {T : zT} {w u : Int32} {Z : List Nat} {σ σ' : zS} (h : CC b T w u σ) (F : Fc b Z σ σ') (h1 : Z.elem 1 = false) (h6 : Z.elem 6 = false) : CC b T w u σ' := ⟨h.1, h.2.1.mono F h1, h.2.2.mono F h6⟩
theorem CM.mono {T : zT} {w u : Int32} {Z : List Nat} {σ σ' : zS} (h : CM T w u σ) (F : Fm Z σ σ') (h1 : Z.elem 1 = false) (h6 : Z.elem 6 = false) : CM T w u σ' := ⟨h.1, h.2.1.mono h.1 F h1, h.2.2.mono F h6⟩
theorem zc8 {b : Bool} {k : Nat} : zc b (tl b + 8) k = 0 := by cases b <;> rfl
/-- the reference's loop -/
theorem m_goesL {T : zT} {σ0 : zS} {nm : Nat → Nat} {r : Nat} (hT : okT T) (hR : RM T σ0) (hr : r < 3) (hn : ∀ j, j < 7 → nm j ≤ 9999) :
    ∀ (n i d : Nat) (st : Nat → Int64) (fu : Nat) (σ : zS), i + n = T 19 r → n < fu → okL T n i d → d ≤ 64 → Fm [0] σ0 σ → σ.1 5000 36 = nI d → (∀ j, j < d → σ.2.1 5036 j = st j) → (∀ j, j < 7 → σ.2.1 5035 j = lN (nm j)) → (∀ j, bnd (st j)) →
    ∃ σ', f_X12_goes_12 fu (nI r) (nI i) σ = some (bI (evF T nm n i d st).isSome, σ') ∧ Fm [0] σ0 σ' ∧ (∀ v, evF T nm n i d st = some v → σ'.2.1 5036 0 = v)
  | n, i, d, st, 0, σ, hi, hf, ho, hd, hF, hc, hs, hnm, hb => by omega
  | 0, i, d, st, fu + 1, σ, hi, hf, ho, hd, hF, hc, hs, hnm, hb => by
    have hd1 : d = 1 := ho
    subst hd1
    have R := hR.mono hT hF rfl
    have o := hT.1
    have ol := hT.2.2.2.2 r hr
    have e6 := R.2.2.2.2.2.1 r hr
    rw [Nat.zero_add] at e6
    refine ⟨σ, ?_, hF, ?_⟩
    · unfold f_X12_goes_12
      rw [rd_nI (by omega) (by omega), bs, e6, if_pos (nI_le (by omega) (by omega))]
      rfl
    · intro v h; cases h; exact hs 0 (by omega)
  | n + 1, i, d, st, fu + 1, σ, hi, hf, ho, hd, hF, hc, hs, hnm, hb => by
    have R := hR.mono hT hF rfl
    have o := hT.1
    have ol := hT.2.2.2.2 r hr
    have e6 := R.2.2.2.2.2.1 r hr
    have eo := R.2.2.2.2.2.2.1 i (by omega)
    have ev := R.2.2.2.2.2.2.2 i (by omega)
    rw [Nat.zero_add] at e6 eo ev
    have ih := fun d' st' σ' => m_goesL hT hR hr hn n (i + 1) d' st' fu σ' (by omega) (by omega)
    unfold f_X12_goes_12
    rw [rd_nI (by omega) (by omega), bs, e6, if_neg (nI_ge (by omega) (by omega)), rd_nI (by omega) (by omega), bs, eo, rd_nI (by omega) (by omega), bs, ev]
    unfold okL at ho
    unfold evF
    by_cases h2 : T 20 i = 2
    · rw [if_pos h2] at ho ⊢
      rw [h2, if_pos (by decide)]
      by_cases h6 : T 21 i = 260
      · rw [if_pos h6] at ho ⊢
        have key : ∀ v : Int64, bnd v → ∃ σ', f_X12_goes_96 (f_X12_goes_12 fu) (nI r) (nI i) (wL σ 5036 (d - 1) v) = some (bI (evF T nm n (i + 1) d (upL st (d - 1) v)).isSome, σ') ∧ Fm [0] σ0 σ' ∧ (∀ v', evF T nm n (i + 1) d (upL st (d - 1) v) = some v' → σ'.2.1 5036 0 = v') := by
          intro v hv
          unfold f_X12_goes_96
          rw [nI_1]
          refine ih d (upL st (d - 1) v) _ ho.2 hd hF.wL hc ?_ ?_ (bnd_up hb hv)
          · intro j hj
            rw [wL_at]
            unfold upL
            by_cases hj1 : j = d - 1
            · rw [if_pos ⟨rfl, hj1⟩, if_pos hj1]
            · rw [if_neg (fun z => hj1 z.2), if_neg hj1]; exact hs j hj
          · intro j hj
            rw [wL_at, if_neg (by omega)]; exact hnm j hj
        unfold f_X12_works
        rw [h6, hc, nI_m1lt (by omega) (by omega), rdL_nI (by omega) (by omega), bs, if_pos (by decide), hs (d - 1) (by omega)]
        simp only [lg_cmp_eq, f_X12_works_40, fis0, fis1]
        by_cases hz : st (d - 1) = 0
        · rw [if_pos hz, if_pos hz, wrL_nI (by omega) (by omega), bs, b2s, if_neg (by decide)]; exact key 1 (bnd_lN (k := 1) (by omega))
        · rw [if_neg hz, if_neg hz, wrL_nI (by omega) (by omega), bs, b2s, if_neg (by decide)]; exact key 0 (bnd_lN (k := 0) (by omega))
      · rw [if_neg h6] at ho ⊢
        obtain ⟨hm, hd2, ho⟩ := ho
        have W := m_works hm hd2 hd hc (by rw [hs (d - 2) (by omega)]; exact hb _)
        rw [hs (d - 2) (by omega), hs (d - 1) (by omega)] at W
        cases e : jn (T 21 i) (st (d - 2)) (st (d - 1)) with
        | none =>
          obtain ⟨σ', h1, h2'⟩ := W.1 e
          rw [h1, b2s, if_pos rfl]
          exact ⟨σ', rfl, hF.tr h2', fun v h => by cases h⟩
        | some v =>
          rw [W.2 v e, b2s, if_neg (by decide)]
          unfold f_X12_goes_96
          rw [nI_1]
          refine ih (d - 1) (upL st (d - 2) v) _ ho (by omega) (hF.wI rfl).wL ?_ ?_ ?_ (bnd_up hb (jn_bnd e))
          · rw [wL_I, wI_at, if_pos ⟨rfl, rfl⟩]
          · intro j hj
            rw [wL_at]
            unfold upL
            by_cases hj1 : j = d - 2
            · rw [if_pos ⟨rfl, hj1⟩, if_pos hj1]
            · rw [if_neg (fun z => hj1 z.2), if_neg hj1]; exact hs j (by omega)
          · intro j hj
            rw [wL_at, if_neg (by omega)]; exact hnm j hj
    · rw [if_neg h2] at ho ⊢
      obtain ⟨hk, hd6, ho⟩ := ho
      have key : ∀ v : Nat, v ≤ 9999 → ∃ σ', f_X12_goes_85 (f_X12_goes_12 fu) (nI r) (nI i) (nI d) (lN v) σ = some (bI (evF T nm n (i + 1) (d + 1) (upL st d (lN v))).isSome, σ') ∧ Fm [0] σ0 σ' ∧ (∀ v', evF T nm n (i + 1) (d + 1) (upL st d (lN v)) = some v' → σ'.2.1 5036 0 = v') := by
        intro v hv
        unfold f_X12_goes_85 f_X12_goes_96
        rw [wrL_nI (by omega) (by omega), bs, lts, wL_I, hc, nI_1, nI_1]
        refine ih (d + 1) (upL st d (lN v)) _ ho (by omega) (hF.wL.wI rfl) ?_ ?_ ?_ (bnd_up hb (bnd_lN hv))
        · rw [wI_at, if_pos ⟨rfl, rfl⟩]
        · intro j hj
          rw [wI_B, wL_at]
          unfold upL
          by_cases hj1 : j = d
          · rw [if_pos ⟨rfl, hj1⟩, if_pos hj1]
          · rw [if_neg (fun z => hj1 z.2), if_neg hj1]; exact hs j (by omega)
        · intro j hj
          rw [wI_B, wL_at, if_neg (by omega)]; exact hnm j hj
      have en : ¬ nI (T 20 i) = (2 : Int32) := by
        show ¬ _ = nI 2
        rw [nI_eq (by omega) (by omega)]; exact h2
      rw [if_neg en, bs, hc]
      rcases hk with ⟨z, zv⟩ | ⟨z, zv⟩
      · rw [z, if_pos (by decide), bs, nI_l (by omega), if_pos rfl]
        exact key _ zv
      · rw [z, if_neg (by decide), bs, rdL_nI (by omega) (by omega), bs, hnm _ zv, if_neg (by decide)]
        exact key _ (hn _ zv)
/-- the class: what a law is worth -/
theorem c_worth {b : Bool} {T : zT} {w u : Int32} {σ : zS} (hC : CC b T w u σ) {r m s p k h : Nat} (hr : r < 3) (hm : m < T 4 2) (hs : s < 192) (hp : p < 4) (hk : k < 4) (hh : h ≤ 24) :
    ∃ σ', f_X5_worth (nI r) (nI m) (nI s) (nI p) (nI k) (nI h) σ = some ((evS T w r m s p k h).getD ERR, σ') ∧ Fc b [0] σ σ' := by
  obtain ⟨hT, hR, hM⟩ := hC
  have hb : σ.2.2 2 = b := hR.1.2.2
  have F1 : Fc b [0] σ (wI σ (tl b + 8) 0 (nI p)) := Fc.rf.wI (by rw [zc8]; rfl)
  have F2 : Fc b [0] σ (wI (wI σ (tl b + 8) 0 (nI p)) (tl b + 8) 1 (nI (sideN T w m p))) := F1.wI (by rw [zc8]; rfl)
  unfold f_X5_worth
  rw [hb, wr_lit (by decide) (by decide), bs, c_side hT (hR.mono F1 rfl) (hM.mono F1 rfl) hm hp, bs, wr_lit (by decide) (by decide), bs, c_place hs hp, c_landAt hT (hR.mono F2 rfl) (plc_le hs), bs, wr_lit (by decide) (by decide), bs, c_face hs, wr_lit (by decide) (by decide), bs, c_cross hs hp, wr_lit (by decide) (by decide), bs, wr_lit (by decide) (by decide), bs, wr_lit (by decide) (by decide), bs]
  have F7 := ((((F2.wI (a := tl b + 8) (k := 2) (v := nI (landQ T (plc s p))) (by rw [zc8]; rfl)).wI (a := tl b + 8) (k := 3) (v := nI (s / 4 % 4)) (by rw [zc8]; rfl)).wI (a := tl b + 8) (k := 4) (v := nI (crs s p)) (by rw [zc8]; rfl)).wI (a := tl b + 8) (k := 5) (v := nI k) (by rw [zc8]; rfl)).wI (a := tl b + 8) (k := 6) (v := nI h) (by rw [zc8]; rfl)
  have hnm : ∀ j, j < 7 → (wI (wI (wI (wI (wI (wI (wI σ (tl b + 8) 0 (nI p)) (tl b + 8) 1 (nI (sideN T w m p))) (tl b + 8) 2 (nI (landQ T (plc s p)))) (tl b + 8) 3 (nI (s / 4 % 4))) (tl b + 8) 4 (nI (crs s p))) (tl b + 8) 5 (nI k)) (tl b + 8) 6 (nI h)).1 (tl b + 8) j = nI (nmS T w m s p k h j) := by
    intro j hj
    have : j = 0 ∨ j = 1 ∨ j = 2 ∨ j = 3 ∨ j = 4 ∨ j = 5 ∨ j = 6 := by omega
    rcases this with rfl | rfl | rfl | rfl | rfl | rfl | rfl <;> simp [wI_at, nmS]
  generalize wI (wI (wI (wI (wI (wI (wI σ (tl b + 8) 0 (nI p)) (tl b + 8) 1 (nI (sideN T w m p))) (tl b + 8) 2 (nI (landQ T (plc s p)))) (tl b + 8) 3 (nI (s / 4 % 4))) (tl b + 8) 4 (nI (crs s p))) (tl b + 8) 5 (nI k)) (tl b + 8) 6 (nI h) = σ7 at F7 hnm
  have R7 := hR.mono F7 rfl
  have hb7 : σ7.2.2 2 = b := R7.1.2.2
  rw [hb7]
  have o := hT.1
  have ol := hT.2.2.2.2 r hr
  obtain ⟨I, L, B⟩ := σ7
  unfold f_X2_workOut f_X2_isTold evS
  by_cases ht : T 18 r < T 19 r
  · have e5 : I (tl b + 5) r = nI (T 18 r) := (R7.2.2.2.2.2.1.1 r hr ht).1
    have hne : ¬ nI (T 18 r) = -1 := by
      intro z
      have := nI_pos (n := T 18 r) (by omega)
      rw [z] at this; exact this (by decide)
    rw [rd_nI (by omega) (by omega), bs, show ((I, L, B) : zS).1 (tl b + 5) r = nI (T 18 r) from e5, if_neg hne, bs, if_neg (by decide), bs, if_pos ht]
    obtain ⟨L', hL⟩ := c_work (b := b) (B := B) hT (fun _ => R7) hr ht hnm (nmS_le hT hs hp hk hh) (T 19 r - T 18 r) (T 18 r) 0 (fun _ => 0) FU L (by omega) (by unfold FU; omega) (ol.2.2 ht) (by omega) (fun j hj => by omega) (fun _ => bnd_lN (k := 0) (by omega))
    rw [show (0 : Int32) = nI 0 from rfl, hL, b2s]
    exact ⟨_, rfl, F7⟩
  · have e5 : I (tl b + 5) r = -1 := R7.2.2.2.2.2.1.2.1 r hr ht
    rw [rd_nI (by omega) (by omega), bs, show ((I, L, B) : zS).1 (tl b + 5) r = -1 from e5, if_pos rfl, bs, if_pos rfl, b2s, if_neg ht]
    exact ⟨_, rfl, F7⟩
theorem evS_ne {T : zT} {w : Int32} {r m s p k h : Nat} (hT : okT T) (hr : r < 3) (hs : s < 192) (hp : p < 4) (hk : k < 4) (hh : h ≤ 24) {v : Int64} (e : evS T w r m s p k h = some v) : bnd v := by
  unfold evS at e
  split at e
  · rename_i ht
    exact evF_bnd (nmS_le hT hs hp hk hh) _ _ _ _ (fun _ => bnd_lN (k := 0) (by omega)) ((hT.2.2.2.2 r hr).2.2 ht) e
  · cases e
theorem bnd_ERR {v : Int64} (h : bnd v) : ¬ v = ERR := by
  rintro rfl; exact absurd h.1 (by decide)
theorem c_binds {b : Bool} {T : zT} {w u : Int32} {σ : zS} (hC : CC b T w u σ) {m s p h : Nat} (hm : m < T 4 2) (hs : s < 192) (hp : p < 4) (hh : h ≤ 24) :
    ∃ σ', f_X5_binds (nI m) (nI s) (nI p) (nI h) σ = some (bI (bndB T w m s p h), σ') ∧ Fc b [0] σ σ' := by
  unfold f_X5_binds bndB
  rw [hC.2.2.1]
  by_cases hw : w = 0
  · rw [if_pos hw, if_pos hw]; exact ⟨σ, rfl, Fc.rf⟩
  · rw [if_neg hw, if_neg hw]
    obtain ⟨σ', h1, h2⟩ := c_worth hC (r := 0) (k := 0) (by omega) hm hs hp (by omega) hh
    replace h1 : f_X5_worth 0 (nI m) (nI s) (nI p) 0 (nI h) σ = _ := h1
    rw [h1, b2s]
    refine ⟨σ', ?_, h2⟩
    simp only [lg_cmp_eq]
    have C' := hC.mono h2 rfl rfl
    cases e : evS T w 0 m s p 0 h with
    | none =>
      rw [show (none : Option Int64).getD ERR = -9223372036854775808 from rfl, if_pos rfl, c_side hC.1 C'.2.1 C'.2.2 hm hp, bs]
      have hs2 : sideN T w m p = 0 ∨ sideN T w m p = 1 := by unfold sideN; omega
      rcases hs2 with z | z <;> rw [z] <;> rfl
    | some v =>
      have := bnd_ERR (evS_ne hC.1 (by omega) hs hp (by omega) hh e)
      rw [show (some v).getD ERR = v from rfl, if_neg (show ¬ v = -9223372036854775808 from this)]
      by_cases hv : v = 0
      · rw [if_pos (show v = 0 from hv)]; simp [hv, bI, nI]
      · rw [if_neg (show ¬ v = 0 from hv)]; simp [hv, bI]
theorem c_permits {b : Bool} {T : zT} {w u : Int32} {σ : zS} (hC : CC b T w u σ) {m s p k h : Nat} (hm : m < T 4 2) (hs : s < 192) (hp : p < 4) (hk : k < 4) (hh : h ≤ 24) :
    ∃ σ', f_X5_permits (nI m) (nI s) (nI p) (nI k) (nI h) σ = some (bI (mayB T w m s p k h), σ') ∧ Fc b [0] σ σ' := by
  unfold f_X5_permits mayB
  obtain ⟨σ', h1, h2⟩ := c_worth hC (r := 1) (by omega) hm hs hp hk hh
  replace h1 : f_X5_worth 1 (nI m) (nI s) (nI p) (nI k) (nI h) σ = _ := h1
  rw [h1, b2s]
  refine ⟨σ', ?_, h2⟩
  simp only [lg_cmp_eq]
  cases e : evS T w 1 m s p k h with
  | none =>
    rw [show (none : Option Int64).getD ERR = -9223372036854775808 from rfl, if_pos rfl]
    by_cases hk2 : k = 2
    · subst hk2; rfl
    · rw [if_neg (show ¬ nI k = (2 : Int32) by show ¬ _ = nI 2; rw [nI_eq (by omega) (by omega)]; exact hk2)]
      simp [hk2, bI, nI]
  | some v =>
    have := bnd_ERR (evS_ne hC.1 (by omega) hs hp hk hh e)
    rw [show (some v).getD ERR = v from rfl, if_neg (show ¬ v = -9223372036854775808 from this)]
    by_cases hv : v = 0
    · rw [if_pos (show v = 0 from hv)]; simp [hv, bI]
    · rw [if_neg (show ¬ v = 0 from hv)]; simp [hv, bI, nI]
theorem bI_0 {b : Bool} : bI b = 0 ↔ b = false := by cases b <;> simp [bI]
theorem c_allows {b : Bool} {T : zT} {w u : Int32} {σ : zS} (hC : CC b T w u σ) {m s p k h : Nat} (hm : m < T 4 2) (hs : s < 192) (hp : p < 4) (hk : k < 4) (hh : h ≤ 24) :
    ∃ σ', f_X5_allows (nI m) (nI s) (nI p) (nI k) (nI h) σ = some (bI (lawB T w m s p k h), σ') ∧ Fc b [0] σ σ' := by
  unfold f_X5_allows lawB f_X5_allows_35
  rw [c_bars hC.1 hC.2.1 hC.2.2 hs hp, bs]
  cases h1 : barB T w s p with
  | true => exact ⟨σ, rfl, Fc.rf⟩
  | false =>
    rw [if_pos (show bI false = 0 from rfl)]
    obtain ⟨σ1, e1, f1⟩ := c_binds hC hm hs hp hh
    rw [e1, b2s]
    cases h2 : bndB T w m s p h with
    | false => exact ⟨σ1, rfl, f1⟩
    | true =>
      rw [if_neg (show ¬ bI true = 0 by decide)]
      obtain ⟨σ2, e2, f2⟩ := c_permits (hC.mono f1 rfl rfl) hm hs hp hk hh
      rw [e2, b2s]
      cases h3 : mayB T w m s p k h <;> exact ⟨σ2, rfl, f1.tr f2⟩
