/-! The pure part: an hour passes, of both -/
def clL (v : Int64) : Nat := if v < 0 then 0 else if 9 < v then 9 else v.toInt.toNat
theorem clL_le (v : Int64) : clL v ≤ 9 := by
  unfold clL
  split
  · omega
  · split
    · omega
    · rename_i h1 h2
      have h2 := Int64.not_lt.mp h2
      rw [Int64.le_iff_toInt_le] at h2
      have : (9 : Int64).toInt = 9 := by decide
      omega
theorem cl_max (v y : Int64) (σ : zS) (hy : v < 0 ∧ y = v ∨ ¬ v < 0 ∧ 9 < v ∧ y = 9 ∨ ¬ v < 0 ∧ ¬ 9 < v ∧ y = v) : (f_J9_max_f86c9 0 y σ).toInt32 = nI (clL v) := by
  unfold f_J9_max_f86c9 clL
  simp only [lg_cmp_lt]
  rcases hy with ⟨h1, rfl⟩ | ⟨h1, h2, rfl⟩ | ⟨h1, h2, rfl⟩
  · have : ¬ (0 : Int64) < y := by
      rw [Int64.lt_iff_toInt_lt] at *
      have : (0 : Int64).toInt = 0 := by decide
      omega
    rw [if_neg this, if_pos h1]; rfl
  · rw [if_pos (by decide), if_neg h1, if_pos h2]; rfl
  · rw [if_neg h1, if_neg h2]
    obtain ⟨k, hk, rfl⟩ := pk_lOf h1
    rw [pk_lT hk]
    by_cases h0 : (0 : Int64) < lN k
    · rw [if_pos h0, lN_i]; rfl
    · rw [if_neg h0]
      have : k = 0 := by
        rcases Nat.eq_zero_or_pos k with h | h
        · exact h
        · exfalso; apply h0
          show lN 0 < lN k
          rw [pk_lLT (by omega) hk]; exact h
      subst this; rfl
theorem cl_c (v : Int64) (σ : zS) : (f_J9_max_f86c9 0 (f_J9_min_f86c9 v 9 σ) σ).toInt32 = nI (clL v) := by
  apply cl_max
  unfold f_J9_min_f86c9
  simp only [lg_cmp_gt]
  by_cases h1 : v < 0
  · left
    refine ⟨h1, if_neg ?_⟩
    rw [Int64.lt_iff_toInt_lt] at *
    have : (0 : Int64).toInt = 0 := by decide
    have : (9 : Int64).toInt = 9 := by decide
    omega
  · right
    by_cases h2 : 9 < v
    · exact .inl ⟨h1, h2, if_pos h2⟩
    · exact .inr ⟨h1, h2, if_neg h2⟩
theorem cl_m (v : Int64) (σ : zS) : (f_J9_max_f86c9 0 (f_J9_min_f86c9 9 v σ) σ).toInt32 = nI (clL v) := by
  apply cl_max
  unfold f_J9_min_f86c9
  simp only [lg_cmp_gt]
  have e0 : (0 : Int64).toInt = 0 := by decide
  have e9 : (9 : Int64).toInt = 9 := by decide
  by_cases h1 : v < 0
  · left
    refine ⟨h1, if_pos ?_⟩
    rw [Int64.lt_iff_toInt_lt] at *
    omega
  · right
    by_cases h2 : 9 < v
    · refine .inl ⟨h1, h2, if_neg ?_⟩
      rw [Int64.lt_iff_toInt_lt] at *
      omega
    · refine .inr ⟨h1, h2, ?_⟩
      by_cases h3 : v < 9
      · rw [if_pos h3]
      · rw [if_neg h3]
        rw [Int64.lt_iff_toInt_lt] at *
        exact Int64.toInt_inj.mp (by omega)
theorem taxN_cl {T : zT} {w : Int32} {m s p h : Nat} : taxN T w m s p h = clL ((evS T w 2 m s p 0 h).getD ERR) := by
  unfold taxN
  cases evS T w 2 m s p 0 h with
  | none => rfl
  | some v => rfl
theorem Fc01 {b : Bool} {z : Nat} {σ σ' : zS} (h : Fc b [0] σ σ') : Fc b [0, z] σ σ' := h.mono (by simp)
theorem Fm01 {z : Nat} {σ σ' : zS} (h : Fm [0] σ σ') : Fm [0, z] σ σ' := h.mono (by simp)
theorem day0 {z dy : Nat} (hd : isDy dy z) : List.elem z [0] = false ∧ List.elem 1 [0, z] = false ∧ List.elem 6 [0, z] = false := by
  rcases hd with ⟨-, rfl⟩ | ⟨-, rfl⟩ | ⟨-, rfl⟩ <;> exact ⟨rfl, rfl, rfl⟩
theorem slot0 (s : Nat) : List.elem (zsl s) [0] = false ∧ List.elem 1 [0, zsl s] = false ∧ List.elem 6 [0, zsl s] = false := by
  unfold zsl
  (repeat' split) <;> exact ⟨rfl, rfl, rfl⟩
theorem c_taxP {b : Bool} {T : zT} {w u : Int32} {dy z : Nat} {mv : Int32} (hd : isDy dy z) {m : Nat} (hm : m < T 4 2) (r2 : Int32 → zS → Option zS) : ∀ (j p fu : Nat) (D : zT) (σ : zS), p + j = 4 → j < fu → CC b T w u σ → okD T D → DC T dy D mv σ →
    ∃ σ', f_X5_collectTax_15 dy r2 fu (nI m) (nI p) σ = r2 (nI (m + 1)) σ' ∧ DC T dy (taxP T w m j p D) mv σ' ∧ Fc b [0, z] σ σ'
  | j, p, 0, D, σ, hj, hf, hC, oD, h => by omega
  | 0, p, fu + 1, D, σ, hj, hf, hC, oD, h => by
    unfold f_X5_collectTax_15
    rw [if_pos (show (4 : Int32) ≤ nI p from nI_le (a := 4) (by omega) (by omega)), nI_1]
    exact ⟨σ, rfl, h, Fc.rf⟩
  | j + 1, p, fu + 1, D, σ, hj, hf, hC, oD, h => by
    have o := hC.1.1
    have om := oD.2.1 m hm
    unfold f_X5_collectTax_15
    rw [if_neg (show ¬ (4 : Int32) ≤ nI p from nI_ge (b := 4) (by omega) (by omega)), rd_nI (by omega) (by omega), bs, (h.s0 hm).1, h.1]
    obtain ⟨σ1, e1, f1⟩ := c_worth hC (r := 2) (k := 0) (by omega) hm (show D 1 m < 192 by omega) (show p < 4 by omega) (by omega) oD.1
    replace e1 : f_X5_worth 2 (nI m) (nI (D 1 m)) (nI p) 0 (nI (D 0 0)) σ = _ := e1
    rw [e1, b2s, cl_c, ← taxN_cl]
    have d1 := DC.mono hd h f1 (day0 hd).1
    have tl9 : taxN T w m (D 1 m) p (D 0 0) ≤ 9 := by rw [taxN_cl]; exact clL_le _
    obtain ⟨σ2, e2, d2, f2⟩ := c_pay (b := b) hd hC.1 oD d1 hm (n := taxN T w m (D 1 m) p (D 0 0)) (by omega)
    rw [e2, bs, nI_1]
    obtain ⟨σ3, e3, d3, f3⟩ := c_taxP hd hm r2 j (p + 1) fu _ σ2 (by omega) (by omega) ((hC.mono f1 rfl rfl).mono f2 (day0 hd).2.1 (day0 hd).2.2) oD.pay d2
    exact ⟨σ3, e3, d3, ((Fc01 f1).tr f2).tr f3⟩
theorem c_taxA {b : Bool} {T : zT} {w u : Int32} {dy z : Nat} {mv : Int32} (hd : isDy dy z) : ∀ (j m fu : Nat) (D : zT) (σ : zS), m + j = T 4 2 → j < fu → CC b T w u σ → okD T D → DC T dy D mv σ →
    ∃ σ', f_X5_collectTax_2 dy fu (nI m) σ = some σ' ∧ DC T dy (taxA T w j m D) mv σ' ∧ Fc b [0, z] σ σ'
  | j, m, 0, D, σ, hj, hf, hC, oD, h => by omega
  | 0, m, fu + 1, D, σ, hj, hf, hC, oD, h => by
    have o := hC.1.1
    unfold f_X5_collectTax_2
    rw [hC.2.1.1.2.2, hC.2.1.2.1.2.2.1, if_pos (nI_le (by omega) (by omega))]
    exact ⟨σ, rfl, h, Fc.rf⟩
  | j + 1, m, fu + 1, D, σ, hj, hf, hC, oD, h => by
    have o := hC.1.1
    unfold f_X5_collectTax_2
    rw [hC.2.1.1.2.2, hC.2.1.2.1.2.2.1, if_neg (nI_ge (by omega) (by omega))]
    obtain ⟨σ1, e1, d1, f1⟩ := c_taxP hd (m := m) (by omega) (f_X5_collectTax_2 dy fu) 4 0 FU D σ (by omega) (by unfold FU; omega) hC oD h
    replace e1 : f_X5_collectTax_15 dy (f_X5_collectTax_2 dy fu) FU (nI m) 0 σ = _ := e1
    rw [e1]
    obtain ⟨σ2, e2, d2, f2⟩ := c_taxA hd j (m + 1) fu _ σ1 (by omega) (by omega) (hC.mono f1 (day0 hd).2.1 (day0 hd).2.2) (okD_taxP 4 0 D oD).1 d1
    exact ⟨σ2, e2, d2, f1.tr f2⟩
theorem c_end {b : Bool} {T : zT} {dy z : Nat} {mv : Int32} (hd : isDy dy z) {D : zT} {σ : zS} (h : DC T dy D mv σ) :
    ∃ σ', f_X5_passHour_160 dy σ = some σ' ∧ DC T dy (up2 D 0 0 (D 0 0 + 1)) mv σ' ∧ Fc b [0, z] σ σ' := by
  unfold f_X5_passHour_160
  rw [lts, h.1, nI_1]
  refine ⟨_, rfl, ?_, Fc.rf.wI (by rw [show dy = dy + 0 from rfl, zcD hd 0 0 (by omega)]; simp)⟩
  obtain ⟨c0, c1, c2, c3, c4, c5⟩ := h
  refine ⟨?_, ?_, ?_, ?_, ?_, ?_⟩
  · rw [wI_self, up2_at, if_pos ⟨rfl, rfl⟩]
  · rw [wI_at, if_neg (by omega)]; exact c1
  · intro k hk; rw [wI_at, if_neg (by omega), up2_at, if_neg (by omega)]; exact c2 k hk
  · intro k hk; rw [wI_at, if_neg (by omega), up2_at, if_neg (by omega)]; exact c3 k hk
  · intro k hk; rw [wI_at, if_neg (by omega), up2_at, if_neg (by omega)]; exact c4 k hk
  · intro k hk; rw [wI_at, if_neg (by omega), up2_at, if_neg (by omega)]; exact c5 k hk
theorem c_passL {b : Bool} {T : zT} {w u : Int32} {dy z : Nat} {mv : Int32} (hd : isDy dy z) : ∀ (j k fu : Nat) (D : zT) (σ : zS), k + j = T 4 3 → j < fu → CC b T w u σ → okD T D → DC T dy D mv σ →
    ∃ σ', f_X5_passHour_2 dy fu (nI k) σ = some σ' ∧ DC T dy ((fun D1 => up2 D1 0 0 (D1 0 0 + 1)) ((fun D1 => if D1 0 0 = 23 then taxA T w (T 4 2) 0 D1 else D1) (doA T w u j k D))) mv σ' ∧ Fc b [0, z] σ σ'
  | j, k, 0, D, σ, hj, hf, hC, oD, h => by omega
  | 0, k, fu + 1, D, σ, hj, hf, hC, oD, h => by
    have o := hC.1.1
    have o0 := oD.1
    unfold f_X5_passHour_2
    rw [hC.2.1.1.2.2, hC.2.1.2.1.2.2.2.1, if_pos (nI_le (by omega) (by omega)), h.1]
    dsimp only [doA]
    by_cases h23 : D 0 0 = 23
    · rw [if_pos h23, h23, if_pos (show nI 23 = (23 : Int32) from rfl)]
      obtain ⟨σ1, e1, d1, f1⟩ := c_taxA hd (T 4 2) 0 FU D σ (by omega) (by unfold FU; omega) hC oD h
      replace e1 : f_X5_collectTax dy σ = _ := e1
      rw [e1, bs]
      obtain ⟨σ2, e2, d2, f2⟩ := c_end (b := b) hd d1
      exact ⟨σ2, e2, d2, f1.tr f2⟩
    · rw [if_neg h23, if_neg (show ¬ nI (D 0 0) = (23 : Int32) by show ¬ _ = nI 23; rw [nI_eq (by omega) (by omega)]; exact h23)]
      exact c_end hd h
  | j + 1, k, fu + 1, D, σ, hj, hf, hC, oD, h => by
    have o := hC.1.1
    have o0 := oD.1
    have od := hC.1.2.2.2.1 k (by omega)
    have R := hC.2.1.2.2.2.2.1
    have m5 := oD.2.1 _ od.1
    have zd : ∀ i k', i < 100 → List.elem (zc b (dy + i) k') [0, z] = true := fun i k' hi => by rw [zcD hd i k' hi]; simp
    have go : ∀ (D' : zT) (σ' : zS), okD T D' → DC T dy D' mv σ' → Fc b [0, z] σ σ' → (if T 17 k = D 0 0 then doD T w u D k else D) = D' → ∃ σ2, f_X5_passHour_140 dy (f_X5_passHour_2 dy fu) (nI k) σ' = some σ2 ∧ DC T dy ((fun D1 => up2 D1 0 0 (D1 0 0 + 1)) ((fun D1 => if D1 0 0 = 23 then taxA T w (T 4 2) 0 D1 else D1) (doA T w u (j + 1) k D))) mv σ2 ∧ Fc b [0, z] σ σ2 := by
      intro D' σ' oD' h' F' e'
      unfold f_X5_passHour_140
      rw [nI_1]
      obtain ⟨σ2, e2, d2, f2⟩ := c_passL hd j (k + 1) fu D' σ' (by omega) (by omega) (hC.mono F' (day0 hd).2.1 (day0 hd).2.2) oD' h'
      refine ⟨σ2, e2, ?_, F'.tr f2⟩
      conv => enter [3]; unfold doA
      rw [e']; exact d2
    unfold f_X5_passHour_2
    rw [hC.2.1.1.2.2, hC.2.1.2.1.2.2.2.1, if_neg (nI_ge (by omega) (by omega)), rd_nI (by omega) (by omega), bs, row0 R.2.2.2 (by omega), h.1]
    by_cases hh : T 17 k = D 0 0
    · rw [if_pos (by rw [hh]), rd_nI (by omega) (by omega), bs, row0 R.1 (by omega), hC.2.2.2]
      rw [if_pos hh] at go
      unfold doD at go
      by_cases hu : nI (T 14 k) = u
      · rw [if_pos hu]
        exact go D σ oD h Fc.rf (if_pos hu)
      · rw [if_neg hu, bs, rd_nI (by omega) (by omega), bs, row0 R.2.1 (by omega)]
        rw [if_neg hu] at go
        unfold f_X0_isSeized
        rw [rd_nI (by omega) (by omega), bs, (h.s0 od.1).2.2, bit0 _ m5.2.2 _ od.2.1]
        rcases Nat.mod_two_eq_zero_or_one (D 3 (T 14 k) / 2 ^ T 15 k) with e | e
        · rw [e, if_pos (show nI 0 = (0 : Int32) from rfl), bs, if_pos rfl, rd_nI (by omega) (by omega), bs, (h.s0 od.1).1, rd_nI (by omega) (by omega), bs, row0 R.2.2.1 (by omega)]
          rw [e, if_neg (show ¬ 0 = 1 by decide)] at go
          obtain ⟨σ1, e1, f1⟩ := c_allows hC od.1 (show D 1 (T 14 k) < 192 by omega) od.2.1 od.2.2.1 o0
          rw [e1, b2s]
          have d1 := DC.mono hd h f1 (day0 hd).1
          have C1 := hC.mono f1 rfl rfl
          cases el : lawB T w (T 14 k) (D 1 (T 14 k)) (T 15 k) (T 16 k) (D 0 0) with
          | true =>
            rw [if_neg (show ¬ bI true = 0 by decide), wr_nI (by omega) (by omega), bs]
            rw [el] at go
            exact go _ _ (oD.u4 (v := 1) (by omega)) (d1.up (i := 4) (by omega)) ((Fc01 f1).wI (zd 6 k (by omega))) (if_pos rfl)
          | false =>
            rw [if_pos (show bI false = 0 from rfl), wr_nI (by omega) (by omega), bs]
            rw [el] at go
            have d2 : DC T dy (up2 D 4 k 2) mv (wI σ1 (dy + 6) k 2) := d1.up (i := 4) (v := 2) (by omega)
            have F2 : Fc b [0, z] σ (wI σ1 (dy + 6) k 2) := (Fc01 f1).wI (zd 6 k (by omega))
            have C2 := hC.mono F2 (day0 hd).2.1 (day0 hd).2.2
            have oD2 : okD T (up2 D 4 k 2) := oD.u4 (by omega)
            unfold f_X5_punish f_X5_punish_20
            rw [C2.2.2.1]
            by_cases hw4 : w = 4
            · rw [if_pos hw4, C2.2.1.1.2.2, C2.2.1.2.1.2.2.2.2.2.1]
              obtain ⟨σ3, e3, d3, f3⟩ := c_pay (b := b) hd hC.1 oD2 d2 od.1 (n := T 4 5) (by omega)
              rw [e3, bs, bs]
              refine go _ _ oD2.pay d3 (F2.tr f3) ?_
              rw [if_neg (by decide), if_pos hw4]
            · have ba := bitAdd _ m5.2.2 _ od.2.1 e
              have v3 : (wI σ1 (dy + 6) k 2).1 (dy + 5) (T 14 k) = nI (D 3 (T 14 k)) := (d2.s0 od.1).2.2
              rw [if_neg hw4, rd_nI (by omega) (by omega), bs, v3, ba.2, wr_nI (by omega) (by omega), bs]
              have d3 : DC T dy (up2 (up2 D 4 k 2) 3 (T 14 k) (D 3 (T 14 k) + 2 ^ T 15 k)) mv (wI (wI σ1 (dy + 6) k 2) (dy + 5) (T 14 k) (nI (D 3 (T 14 k) + 2 ^ T 15 k))) := d2.up (i := 3) (by omega)
              have F3 := F2.wI (a := dy + 5) (k := T 14 k) (v := nI (D 3 (T 14 k) + 2 ^ T 15 k)) (zd 5 _ (by omega))
              have C3 := hC.mono F3 (day0 hd).2.1 (day0 hd).2.2
              have oD3 := oD2.u3 (m := T 14 k) ba.1
              rw [C3.2.1.1.2.2, C3.2.1.2.1.2.2.2.2.2.1]
              obtain ⟨σ4, e4, d4, f4⟩ := c_pay (b := b) hd hC.1 oD3 d3 od.1 (n := T 4 5) (by omega)
              rw [e4, bs, bs]
              refine go _ _ oD3.pay d4 (F3.tr f4) ?_
              rw [if_neg (by decide), if_neg hw4]
        · rw [e, if_neg (show ¬ nI 1 = (0 : Int32) by decide), bs, if_neg n10, wr_nI (by omega) (by omega), bs]
          rw [e, if_pos rfl] at go
          exact go _ _ (oD.u4 (v := 3) (by omega)) (h.up (i := 4) (by omega)) (Fc.rf.wI (zd 6 k (by omega))) rfl
    · rw [if_neg (by rw [nI_eq (by omega) (by omega)]; exact hh)]
      exact go D σ oD h Fc.rf (if_neg hh)
theorem c_pass {b : Bool} {T : zT} {w u : Int32} {dy z : Nat} {mv : Int32} (hd : isDy dy z) {D : zT} {σ : zS} (hC : CC b T w u σ) (oD : okD T D) (h : DC T dy D mv σ) :
    ∃ σ', f_X5_passHour dy σ = some σ' ∧ DC T dy (passD T w u D) mv σ' ∧ Fc b [0, z] σ σ' := by
  have o := hC.1.1
  exact c_passL hd (T 4 3) 0 FU D σ (by omega) (by unfold FU; omega) hC oD h
