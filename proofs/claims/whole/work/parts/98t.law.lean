/-! The pure part: text. A law's line of both -/
theorem okL_congr {T T' : zT} : ∀ (n i e : Nat), (∀ j, i ≤ j → j < i + n → T' 20 j = T 20 j ∧ T' 21 j = T 21 j) → okL T n i e → okL T' n i e
  | 0, i, e, _, h => h
  | n + 1, i, e, c, h => by
    have c0 := c i (by omega) (by omega)
    have r := fun e' => okL_congr (T := T) (T' := T') n (i + 1) e' (fun j h1 h2 => c j (by omega) (by omega))
    unfold okL at h ⊢
    rw [c0.1, c0.2]
    by_cases h2 : T 20 i = 2
    · rw [if_pos h2] at h ⊢
      by_cases h3 : T 21 i = 260
      · rw [if_pos h3] at h ⊢
        exact ⟨h.1, r _ h.2⟩
      · rw [if_neg h3] at h ⊢
        exact ⟨h.1, h.2.1, r _ h.2.2⟩
    · rw [if_neg h2] at h ⊢
      exact ⟨h.1, h.2.1, r _ h.2.2⟩
theorem okL_of {T : zT} : ∀ (E : zK) (i e : Nat), okE E e 1 → e + E.length ≤ 64 → (∀ j, j < E.length → T 20 (i + j) = (E.getD j (0, 0)).1 ∧ T 21 (i + j) = (E.getD j (0, 0)).2) → okL T E.length i e
  | [], i, e, h, _, _ => h
  | x :: E, i, e, h, hl, c => by
    have c0 := c 0 (by rw [List.length_cons]; omega)
    rw [Nat.add_zero] at c0
    have c0' : T 20 i = x.1 ∧ T 21 i = x.2 := c0
    rw [List.length_cons] at hl
    have cr : ∀ j, j < E.length → T 20 (i + 1 + j) = (E.getD j (0, 0)).1 ∧ T 21 (i + 1 + j) = (E.getD j (0, 0)).2 := fun j hj => by
      have := c (j + 1) (by rw [List.length_cons]; omega)
      rw [show i + (j + 1) = i + 1 + j by omega] at this
      exact this
    have r := fun e' a b => okL_of (T := T) E (i + 1) e' a b cr
    rw [List.length_cons]
    unfold okE at h
    unfold okL
    rw [c0'.1, c0'.2]
    by_cases h2 : x.1 = 2
    · rw [if_pos h2] at h ⊢
      by_cases h3 : x.2 = 260
      · rw [if_pos h3] at h ⊢
        exact ⟨h.1, r _ h.2 (by omega)⟩
      · rw [if_neg h3] at h ⊢
        exact ⟨h.1, h.2.1, r _ h.2.2 (by omega)⟩
    · rw [if_neg h2] at h ⊢
      exact ⟨h.1, by omega, r _ h.2 (by omega)⟩
theorem gd_l {L E : zK} {i : Nat} (h : i < L.length) : (L ++ E).getD i (0, 0) = L.getD i (0, 0) := by
  simp [List.getD_eq_getElem?_getD, List.getElem?_append_left h]
theorem gd_r {L E : zK} {i : Nat} : (L ++ E).getD (L.length + i) (0, 0) = E.getD i (0, 0) := by
  simp [List.getD_eq_getElem?_getD, List.getElem?_append_right]
theorem goodE.pos {E : zK} (h : goodE E) : 0 < E.length := by
  cases E with
  | nil => exact absurd (show (0 : Nat) = 0 + 1 from h 0) (by omega)
  | cons x E => rw [List.length_cons]; omega
section
variable {d : Bool} {f : Nat → Nat} {N r : Nat} {T : zT} {tb : Nat → Bool} {L : zK} {A B : Nat → Nat} {n : Nat} {σ μ : zS}
theorem okA.told (h : okA T tb) {p : Nat} (hp : 3 ≤ p) : okA T (fun j => tb j || decide (j = p)) :=
  ⟨h.1, h.2.1, h.2.2.1, h.2.2.2.1, (tb_ne (by omega)).trans h.2.2.2.2.1, (tb_ne (by omega)).trans h.2.2.2.2.2⟩
theorem X_65 (h : ¬ μ.1 5000 28 = 0) (x : Int32) : f_X12_lawLine_65 x μ = some μ := by unfold f_X12_lawLine_65; rw [if_neg h]
theorem X_30 (h : ¬ μ.1 5000 28 = 0) : f_X12_lawLine_30 μ = some μ := by unfold f_X12_lawLine_30; rw [lts, if_neg h, X_65 h]
theorem j_law (h : JL d f N r T tb L A B n σ μ) (k1 : ¬ σ.1 500 4 = 0) (k3 : μ.1 5000 26 = 0) (k4 : μ.1 5000 27 = 7) : BD d f N r n (f_X4_readLaw σ) (f_X12_line μ) σ μ := by
  obtain ⟨hJ, hN, hd, hA, h2, h3, h4, h5, h6, h7, h8, h9, h10, h11⟩ := h
  have td := tvd (d := d)
  have eM : f_X12_line μ = f_X12_line_47 7 0 μ := by
    unfold f_X12_line
    rw [if_pos k3, k4, if_pos (by decide), lts, if_neg (by decide), if_neg (by decide), if_neg (by decide)]
  have eF : f_X12_isFull 7 μ = some 0 := by
    unfold f_X12_isFull f_X12_isFull_14 f_X12_isFull_28 f_X12_isFull_43
    rw [if_neg (by decide), if_neg (by decide), if_neg (by decide), if_neg (by decide)]
  rw [eM]
  unfold f_X12_line_47 f_X4_readLaw f_X12_line_88
  rw [eF, bs, if_pos rfl, if_pos rfl, if_neg (show ¬ (7 : Int32) = 0 by decide)]
  have D2a := h2.told (p := 7) (by omega)
  have Ga : FD d [2] μ (wI μ 5000 21 (nI (setN (fun j => tb j || decide (j = 7)) 19))) := FD.rf.wI rfl
  obtain ⟨σ1, μ1, a1, a2, F1, G1, J1, N1, F1', G1'⟩ := j_begin hJ hN k1 (FD.rf (d := d) (Z := [2])) Ga
  rw [a1, bs, m_108 (w := (7 : Int32)) hN.1 (tb_told (p := 7) (by omega) h2) a2 _ (by rw [if_neg (show ¬ (7 : Int32) = 0 by decide), if_neg (show ¬ (7 : Int32) = 1 by decide), if_neg (show ¬ (7 : Int32) = 2 by decide), if_neg (show ¬ (7 : Int32) = 3 by decide), if_neg (show ¬ (7 : Int32) = 4 by decide), if_neg (show ¬ (7 : Int32) = 5 by decide), if_neg (show ¬ (7 : Int32) = 6 by decide)])]
  have D2b := D2a.fr F1' G1' rfl rfl
  have h7a := (h7.fr F1 G1 rfl rfl rfl rfl).told (p := 7) (by omega)
  have hd1 : σ1.2.2 1 = d := by rw [F1.1]; exact hd
  have hA1 := hA.told (p := 7) (by omega)
  generalize (fun j => tb j || decide (j = 7)) = tc at *
  unfold f_X12_lawLine
  rcases j_ch d J1 N1 (a := 22) (n := 3) (by omega) (by omega) (by omega) with ⟨k, hk, b1, b4, b5, b6⟩ | ⟨σ2, μ2, b1, b3, b4, F2, G2, X⟩
  · rw [show f_X4_choiceAtHand 22 3 σ1 = some (nI k, σ1) from b1, b2s, if_neg (nI_nm1 (by omega)), if_pos b5, b6, if_neg (show ¬ nI (22 + k) < (22 : Int32) from nI_nlt (b := 22) (by omega) (by omega)), if_pos (show nI (22 + k) ≤ (24 : Int32) from nI_le (b := 24) (by omega) (by omega)), hd1]
    unfold f_X12_lawLine_30 f_X2_isTold
    have e22 : nI (22 + k) - (22 : Int32) = nI k := by rw [show (22 : Int32) = nI 22 from rfl, nI_sub (by omega), show 22 + k - 22 = k by omega]
    have e16 : (16 : Int32) + nI k = nI (16 + k) := nI_add 16 k
    have eB : ((μ1.1 5000 21) >>> (nI (16 + k) &&& 31)) &&& (1 : Int32) = bI (tc (16 + k)) := by rw [D2b.1]; exact tb_get tc (by omega)
    rw [lts, if_pos N1.1, b6, e22, e16, eB, rd_nI (by omega) (by omega), bs]
    cases ht : tc (16 + k) with
    | true =>
      have t := (h7a.2.2.2 k hk).2 ht
      obtain ⟨σ2, μ2, a3, a4, F2, G2, X⟩ := j_ref d J1 N1 (k := 3) (by decide)
      rw [if_pos (show bI true = 1 from rfl), t.1, if_neg (nI_nm1 (by have := h7a.2.2.1; omega)), bs, if_neg (show ¬ (1 : Int32) = 0 by decide), a3, a4, b2s, bs, X_65 X.1, bs]
      exact ⟨σ2, μ2, rfl, (F1.fa rfl).tr (F2.fa rfl), (G1.mono rfl).tr (G2.mono rfl), .inl ⟨rfl, X⟩⟩
    | false =>
      have t := (h7a.2.2.2 k hk).1 ht
      rw [if_neg (show ¬ bI false = 1 by decide), t.1, if_pos rfl, bs, if_pos rfl]
      unfold f_X12_lawLine_65
      rw [if_pos N1.1, e16, tb_told (p := 16 + k) (by omega) D2b, lts]
      have D2c := D2b.told (p := 16 + k) (by omega)
      have Gb : FD d [2] μ1 (wI μ1 5000 21 (nI (setN (fun j => tc j || decide (j = 16 + k)) 19))) := FD.rf.wI rfl
      obtain ⟨σ2, μ2, a3, a4, F2, G2, J2, N2, F2', G2'⟩ := j_begin J1 N1 (by rw [b4]; decide) (FD.rf (d := d) (Z := [2])) Gb
      have h7b := h7a.fr F2 G2 rfl rfl rfl rfl
      have hd2 : σ2.2.2 1 = d := by rw [F2.1]; exact hd1
      obtain ⟨hLC, hLM, hL64, hlw⟩ := h7b
      rw [a3, bs, a4, bs, m_fr7, bs, hLM.2.2.1, show (3 : Int32) + nI k = nI (3 + k) from nI_add 3 k, wr_nI (by omega) (by omega), bs, lts, hd2]
      unfold f_X2_begin
      rw [show (wB σ2 3 d).2.2 1 = d from hd2, wr_nI (by omega) (by omega), bs, bs, show (wB σ2 3 d).1 (tl d) 1 = nI L.length from hLC.2.2.1]
      have F3 : FD d [13] (wB σ2 3 d) (wI (wB σ2 3 d) (tl d + 5) k (nI L.length)) := FD.rf.wI (by rw [zd13 (by omega)]; rfl)
      have G3 : FD d [13] μ2 (wI μ2 5018 (3 + k) (nI L.length)) := FD.rf.wI (by rw [zdm7 (by omega) (by omega)]; rfl)
      have J2b : JT f N (r - 1 - 1) (wB σ2 3 d) μ2 := J2
      have N2b : NF (wB σ2 3 d) μ2 := N2
      have hE : JE d f N (r - 1) 0 L.length L (wI (wB σ2 3 d) (tl d + 5) k (nI L.length)) (wI μ2 5018 (3 + k) (nI L.length)) := ⟨(J2b.fr F3 G3 rfl rfl rfl rfl).mono (by omega), N2b.fr F3 G3 rfl rfl, hLC.fr F3 rfl, hLM.fr G3 rfl, hL64, Nat.le_refl _⟩
      obtain ⟨σ4, μ4, e4, F4, G4, q⟩ := (j_expr (d := d) (f := f) (N := N) (r := r - 1) 8 0 200 200 L.length (by omega) (by omega) hL64 (by omega)).1 L.length L _ _ (Nat.le_refl _) hE
      have F04 : FD d [1, 7, 12, 13] (wB σ 3 d) σ4 := (((FD.mono (FD.n3 F1') rfl).tr (FD.mono (FD.n3 F2') rfl)).tr (F3.mono rfl)).tr (F4.mono rfl)
      have G14 : FD d [1, 7, 12, 13] (wI μ1 5000 21 (nI (setN (fun j => tc j || decide (j = 16 + k)) 19))) μ4 := ((G2'.mono rfl).tr (G3.mono rfl)).tr (G4.mono rfl)
      have G04 : FD d [1, 2, 7, 12, 13] μ μ4 := ((G1.mono rfl).tr (Gb.mono rfl)).tr (G14.mono rfl)
      have w4 : wB σ4 3 d = σ4 := by
        have hb : σ4.2.2 3 = d := by rw [F04.1]; rfl
        show (σ4.1, σ4.2.1, fun j => if j = 3 then d else σ4.2.2 j) = σ4
        have : (fun j => if j = 3 then d else σ4.2.2 j) = σ4.2.2 := by
          funext j
          by_cases z : j = 3
          · rw [if_pos z, z, hb]
          · rw [if_neg z]
        rw [this]
      have FA4 : FA d σ σ4 := by unfold FA; rw [w4]; exact F04.mono rfl
      rw [e4, bs, m_fr7, bs, wr_nI (by omega) (by omega), bs, bs]
      rcases q with ⟨e5, X⟩ | ⟨e5, E, h5', gE⟩
      · rw [show fgC 200 0 0 (wI (wB σ2 3 d) (tl d + 5) k (nI L.length)) = some (0, σ4) from e5, b2s, if_pos rfl]
        have G5 : ∀ x : Int32, FD d [13] μ4 (wI μ4 5019 (3 + k) x) := fun x => FD.rf.wI (by rw [zdm7 (by omega) (by omega)]; rfl)
        exact ⟨σ4, _, rfl, FA4, (G04.mono rfl).tr ((G5 _).mono rfl), .inl ⟨rfl, X.fr (G5 _) rfl⟩⟩
      · obtain ⟨J5, N5, c5, m5, K5, l5⟩ := h5'
        have hd4 : σ4.2.2 1 = d := by rw [F04.1]; exact hd
        rw [show fgC 200 0 0 (wI (wB σ2 3 d) (tl d + 5) k (nI L.length)) = some (1, σ4) from e5, b2s, if_neg (show ¬ (1 : Int32) = 0 by decide), hd4, m5.2.2.1]
        unfold f_X2_end
        rw [wr_nI (by omega) (by omega), bs, bs, c5.2.2.1]
        have hlen : (L ++ E).length = L.length + E.length := List.length_append
        have hpos := gE.pos
        have F5 : FD d [13] σ4 (wI σ4 (tl d + 6) k (nI (L ++ E).length)) := FD.rf.wI (by rw [zd13 (by omega)]; rfl)
        have G5 : FD d [13] μ4 (wI μ4 5019 (3 + k) (nI (L ++ E).length)) := FD.rf.wI (by rw [zdm7 (by omega) (by omega)]; rfl)
        have FS : FD d [1, 7, 12, 13] (wB σ 3 d) (wI σ4 (tl d + 6) k (nI (L ++ E).length)) := F04.tr (F5.mono rfl)
        have GS : FD d [1, 7, 12, 13] (wI μ1 5000 21 (nI (setN (fun j => tc j || decide (j = 16 + k)) 19))) (wI μ4 5019 (3 + k) (nI (L ++ E).length)) := G14.tr (G5.mono rfl)
        have GG : FD d [1, 2, 7, 12, 13] μ (wI μ4 5019 (3 + k) (nI (L ++ E).length)) := G04.tr (G5.mono rfl)
        have F1s : FD d [1, 7, 12, 13] σ1 (wI σ4 (tl d + 6) k (nI (L ++ E).length)) → True := fun _ => trivial
        have FS1 : FD d [1, 7, 12, 13] (wB σ1 3 d) (wI σ4 (tl d + 6) k (nI (L ++ E).length)) := (((FD.mono (FD.n3 F2') rfl).tr (F3.mono rfl)).tr (F4.mono rfl)).tr (F5.mono rfl)
        have D2d : D2 (fun j => tc j || decide (j = 16 + k)) (wB σ1 3 d) (wI μ1 5000 21 (nI (setN (fun j => tc j || decide (j = 16 + k)) 19))) := D2c
        have h3' : D3 d T (wB σ 3 d) μ := h3
        have h4' : D4 d T (wB σ 3 d) μ := h4
        have h5'' : D5 d T (wB σ 3 d) μ := h5
        have h6' : D6 d T (wB σ 3 d) μ := h6
        have h8' : D8 d T (wB σ 3 d) μ := h8
        have h9' : D9 d T (wB σ 3 d) μ := h9
        have hA2 := hA1.told (p := 16 + k) (by omega)
        have cs5 : ∀ i, σ4.1 (tl d + 5) i = if i = k then nI L.length else σ2.1 (tl d + 5) i := fun i => by
          rw [F4.z (zd13 (by omega)) rfl, wI_at]
          by_cases z : i = k
          · rw [if_pos ⟨rfl, z⟩, if_pos z]
          · rw [if_neg (by omega), if_neg z]; rfl
        have cs6 : ∀ i, σ4.1 (tl d + 6) i = σ2.1 (tl d + 6) i := fun i => by
          rw [F4.z (zd13 (by omega)) rfl, wI_at, if_neg (by omega)]; rfl
        have ms8 : ∀ i, μ4.1 5018 (3 + i) = if i = k then nI L.length else μ2.1 5018 (3 + i) := fun i => by
          rw [G4.z (zdm7 (by omega) (by omega)) rfl, wI_at]
          by_cases z : i = k
          · rw [if_pos ⟨rfl, by omega⟩, if_pos z]
          · rw [if_neg (by omega), if_neg z]
        have ms9 : ∀ i, μ4.1 5019 (3 + i) = μ2.1 5019 (3 + i) := fun i => by
          rw [G4.z (zdm7 (by omega) (by omega)) rfl, wI_at, if_neg (by omega)]
        refine ⟨_, _, rfl, FA4.tr (F5.fa rfl), GG.mono rfl, .inr ⟨rfl, T, fun j => tc j || decide (j = 16 + k), L ++ E, fun i => if i = k then L.length else A i, fun i => if i = k then (L ++ E).length else B i, J5.fr F5 G5 rfl rfl rfl rfl, N5.fr F5 G5 rfl rfl, hd4, hA2, D2d.fr FS1 GS rfl rfl, h3'.fr FS GG rfl rfl, h4'.fr FS GG rfl rfl, h5''.fr FS GG rfl rfl, h6'.fr FS GG rfl rfl, ?_, h8'.fr FS GG rfl rfl, h9'.fr FS GG rfl rfl, h10.fr GG rfl, h11.fr GG rfl⟩⟩
        have c6 : LC d (L.length + E.length) (L ++ E) (wI σ4 (tl d + 6) k (nI (L ++ E).length)) := c5.fr F5 rfl
        have m6 : LM 0 (L.length + E.length) (L ++ E) (wI μ4 5019 (3 + k) (nI (L ++ E).length)) := m5.fr G5 rfl
        rw [← hlen] at c6 m6
        refine ⟨⟨rfl, c6.2.1, c6.2.2.1, c6.2.2.2⟩, m6, by omega, fun i hi => ?_⟩
        have x5 : (wI σ4 (tl d + 6) k (nI (L ++ E).length)).1 (tl d + 5) i = if i = k then nI L.length else σ2.1 (tl d + 5) i := by rw [wI_at, if_neg (by omega)]; exact cs5 i
        have x6 : (wI σ4 (tl d + 6) k (nI (L ++ E).length)).1 (tl d + 6) i = if i = k then nI (L ++ E).length else σ2.1 (tl d + 6) i := by
          rw [wI_at]
          by_cases z : i = k
          · rw [if_pos ⟨rfl, z⟩, if_pos z]
          · rw [if_neg (by omega), if_neg z]; exact cs6 i
        have x8 : (wI μ4 5019 (3 + k) (nI (L ++ E).length)).1 5018 (3 + i) = if i = k then nI L.length else μ2.1 5018 (3 + i) := by rw [wI_at, if_neg (by omega)]; exact ms8 i
        have x9 : (wI μ4 5019 (3 + k) (nI (L ++ E).length)).1 5019 (3 + i) = if i = k then nI (L ++ E).length else μ2.1 5019 (3 + i) := by
          rw [wI_at]
          by_cases z : i = k
          · rw [if_pos ⟨rfl, by omega⟩, if_pos z]
          · rw [if_neg (by omega), if_neg z]; exact ms9 i
        rw [x5, x6, x8, x9]
        by_cases z : i = k
        · subst z
          have et : (tc (16 + i) || decide (16 + i = 16 + i)) = true := tb_eq
          refine ⟨fun q => absurd (et.symm.trans q) (by decide), fun _ => ?_⟩
          simp only [if_true]
          refine ⟨trivial, trivial, trivial, trivial, by omega, Nat.le_refl _, ?_⟩
          rw [hlen, Nat.add_sub_cancel_left]
          refine okL_of E L.length 0 (gE 0) (by omega) (fun j hj => ?_)
          unfold TL
          rw [if_pos rfl, if_neg (show ¬ (21 : Nat) = 20 by decide), gd_r]
          exact ⟨rfl, rfl⟩
        · have et : (tc (16 + i) || decide (16 + i = 16 + k)) = tc (16 + i) := tb_ne (by omega)
          show ((tc (16 + i) || decide (16 + i = 16 + k)) = false → _) ∧ ((tc (16 + i) || decide (16 + i = 16 + k)) = true → _)
          rw [et]
          simp only [if_neg z]
          have old := hlw i hi
          refine ⟨old.1, fun q => ?_⟩
          obtain ⟨o1, o2, o3, o4, o5, o6, o7⟩ := old.2 q
          refine ⟨o1, o2, o3, o4, o5, by omega, okL_congr _ _ _ (fun j j1 j2 => ?_) o7⟩
          unfold TL
          rw [if_pos rfl, if_pos rfl, if_neg (show ¬ (21 : Nat) = 20 by decide), if_neg (show ¬ (21 : Nat) = 20 by decide), gd_l (by omega)]
          exact ⟨rfl, rfl⟩
  · rw [show f_X4_choiceAtHand 22 3 σ1 = some (-1, σ2) from b1, b2s, if_pos rfl]
    have e25 : f_X12_lawLine_25 μ1 = some μ2 := by unfold f_X12_lawLine_25; rw [b3, bs, X_30 X.1]
    have eL : (if μ1.1 5000 26 = 0 then if μ1.1 5000 27 < 22 then f_X12_lawLine_25 μ1 else if μ1.1 5000 27 ≤ 24 then f_X12_lawLine_30 μ1 else f_X12_lawLine_25 μ1 else f_X12_lawLine_25 μ1) = some μ2 := by
      rcases b4 with b4 | b4 | b4
      · rw [if_neg b4, e25]
      · rw [if_pos (show μ1.1 5000 27 < (22 : Int32) from b4), e25, ite_self]
      · rw [if_neg (show ¬ μ1.1 5000 27 ≤ (24 : Int32) from b4), e25, ite_self, ite_self]
    rw [eL, bs]
    exact ⟨σ2, μ2, rfl, (F1.fa rfl).tr (F2.fa rfl), (G1.mono rfl).tr (G2.mono rfl), .inl ⟨rfl, X⟩⟩
end
