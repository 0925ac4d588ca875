/-! The pure part: the reference works a mark out -/
def wkR (σ : zS) (d : Nat) (o : Option Int64) (res : Option (Int32 × zS)) : Prop :=
  (o = none → ∃ σ', res = some (0, σ') ∧ Fm [0] σ σ') ∧ (∀ r, o = some r → res = some (1, wL (wI σ 5000 36 (nI (d - 1))) 5036 (d - 2) r))
theorem zm36 : zm 5000 36 = 0 := rfl
theorem w407 {σ : zS} {d : Nat} (h2 : 2 ≤ d) (h64 : d ≤ 64) (u : Int64) : wkR σ d (cut (some u)) (f_X12_works_407 u (wI σ 5000 36 (nI (d - 1)))) := by
  have e : (wI σ 5000 36 (nI (d - 1))).1 5000 36 - 1 = nI (d - 2) := by
    rw [wI_at, if_pos ⟨rfl, rfl⟩, nI_m1lt (by omega) (by omega)]; rfl
  have F : Fm [0] σ (wI σ 5000 36 (nI (d - 1))) := Fm.rf.wI rfl
  unfold f_X12_works_407
  rw [e, wrL_nI (by omega) (by omega), bs]
  simp only [lg_cmp_gt, lg_cmp_lt]
  unfold cut LIM
  rw [bs]
  by_cases h1 : (1000000000000 : Int64) < u
  · rw [if_pos h1, if_pos h1]
    exact ⟨fun _ => ⟨_, rfl, F.wL⟩, fun r h => by cases h⟩
  · rw [if_neg h1, if_neg h1]
    by_cases h3 : u < -1000000000000
    · rw [if_pos h3, if_neg (Int64.not_le.mpr h3)]
      exact ⟨fun _ => ⟨_, rfl, F.wL⟩, fun r h => by cases h⟩
    · rw [if_neg h3, if_pos (Int64.not_lt.mp h3)]
      exact ⟨fun h => (by cases h), fun r h => by cases h; rfl⟩
theorem fis0 (σ : zS) : f_X12_is 0 σ = 0 := rfl
theorem fis1 (σ : zS) : f_X12_is 1 σ = 1 := rfl
theorem fabs (x : Int64) (σ : zS) : f_J9_abs_067f4 x σ = abL x := by
  unfold f_J9_abs_067f4 abL; simp only [lg_cmp_ge]
theorem m_works {v : Nat} (hv : isMk v = true) {σ : zS} {d : Nat} (h2 : 2 ≤ d) (h64 : d ≤ 64) (hd : σ.1 5000 36 = nI d) (hx : bnd (σ.2.1 5036 (d - 2))) : wkR σ d (jn v (σ.2.1 5036 (d - 2)) (σ.2.1 5036 (d - 1))) (f_X12_works (nI v) σ) := by
  have e1 : nI d - 1 = nI (d - 1) := nI_m1lt (by omega) (by omega)
  have e2 : nI d - 2 = nI (d - 2) := by
    rw [show d = (d - 2) + 2 by omega, ← nI_add]
    show nI (d - 2) + nI 2 - nI 2 = _
    rw [nI_add, pk_sub (by omega)]
  unfold f_X12_works
  rw [hd, e1, e2, rdL_nI (by omega) (by omega), bs, rdL_nI (by omega) (by omega), bs, lts]
  generalize σ.2.1 5036 (d - 2) = x at hx ⊢
  generalize σ.2.1 5036 (d - 1) = y
  have W := w407 (σ := σ) h2 h64
  have F : Fm [0] σ (wI σ 5000 36 (nI (d - 1))) := Fm.rf.wI rfl
  have N : ∀ o : Option Int64, o = none → wkR σ d (cut o) (some (0, wI σ 5000 36 (nI (d - 1)))) := fun o ho => by
    subst ho; exact ⟨fun _ => ⟨_, rfl, F⟩, fun r h => by cases h⟩
  rcases mk_cases hv with rfl | rfl | rfl | rfl | rfl | rfl | rfl | rfl | rfl | rfl | rfl | rfl
  · rw [if_neg (show ¬ nI 42 = (260 : Int32) by decide), if_pos (show nI 42 = (42 : Int32) by decide)]
    simp only [lg_cmp_eq, lg_cmp_le, fabs, f_X12_works_212, lts]
    by_cases nx : x = 0
    · rw [if_pos nx]
      have := W (x * y)
      unfold jn jn0
      rw [if_pos rfl, if_pos nx]; exact this
    · rw [if_neg nx, if_neg (ab_ne hx nx)]
      unfold jn jn0
      rw [if_pos rfl, if_neg nx]
      by_cases hl : abL y ≤ LIM / abL x
      · rw [if_pos hl, if_pos (show abL y ≤ 1000000000000 / abL x from hl)]; exact W (x * y)
      · rw [if_neg hl, if_neg (show ¬ abL y ≤ 1000000000000 / abL x from hl)]; exact N none rfl
  · rw [if_neg (show ¬ nI 43 = (260 : Int32) by decide), if_neg (show ¬ nI 43 = (42 : Int32) by decide), if_pos (show nI 43 = (43 : Int32) by decide)]
    exact W (x + y)
  · rw [if_neg (show ¬ nI 45 = (260 : Int32) by decide), if_neg (show ¬ nI 45 = (42 : Int32) by decide), if_neg (show ¬ nI 45 = (43 : Int32) by decide), if_pos (show nI 45 = (45 : Int32) by decide)]
    exact W (x - y)
  · rw [if_neg (show ¬ nI 47 = (260 : Int32) by decide), if_neg (show ¬ nI 47 = (42 : Int32) by decide), if_neg (show ¬ nI 47 = (43 : Int32) by decide), if_neg (show ¬ nI 47 = (45 : Int32) by decide), if_pos (show nI 47 = (47 : Int32) by decide)]
    simp only [lg_cmp_eq]
    unfold jn jn0
    rw [if_neg (by decide), if_neg (by decide), if_neg (by decide), if_pos rfl]
    by_cases ny : y = 0
    · rw [if_pos ny, if_pos ny]; exact N none rfl
    · rw [if_neg ny, if_neg ny, if_neg ny]; exact W (x / y)
  · rw [if_neg (show ¬ nI 60 = (260 : Int32) by decide), if_neg (show ¬ nI 60 = (42 : Int32) by decide), if_neg (show ¬ nI 60 = (43 : Int32) by decide), if_neg (show ¬ nI 60 = (45 : Int32) by decide), if_neg (show ¬ nI 60 = (47 : Int32) by decide), if_pos (show nI 60 = (60 : Int32) by decide)]
    simp only [lg_cmp_eq, lg_cmp_ge, lg_cmp_le, lg_cmp_lt, lg_cmp_gt, f_X12_works_250, fis0, fis1, lts]
    by_cases h : y ≤ x
    · rw [if_pos h, show jn 60 x y = cut (some 0) by simp only [jn, jn0]; simp [h]]; exact W 0
    · rw [if_neg h, show jn 60 x y = cut (some 1) by simp only [jn, jn0]; simp [h]]; exact W 1
  · rw [if_neg (show ¬ nI 61 = (260 : Int32) by decide), if_neg (show ¬ nI 61 = (42 : Int32) by decide), if_neg (show ¬ nI 61 = (43 : Int32) by decide), if_neg (show ¬ nI 61 = (45 : Int32) by decide), if_neg (show ¬ nI 61 = (47 : Int32) by decide), if_neg (show ¬ nI 61 = (60 : Int32) by decide), if_pos (show nI 61 = (61 : Int32) by decide)]
    simp only [lg_cmp_eq, lg_cmp_ge, lg_cmp_le, lg_cmp_lt, lg_cmp_gt, f_X12_works_290, fis0, fis1, lts]
    by_cases h : x = y
    · rw [if_pos h, show jn 61 x y = cut (some 1) by simp only [jn, jn0]; simp [h]]; exact W 1
    · rw [if_neg h, show jn 61 x y = cut (some 0) by simp only [jn, jn0]; simp [h]]; exact W 0
  · rw [if_neg (show ¬ nI 62 = (260 : Int32) by decide), if_neg (show ¬ nI 62 = (42 : Int32) by decide), if_neg (show ¬ nI 62 = (43 : Int32) by decide), if_neg (show ¬ nI 62 = (45 : Int32) by decide), if_neg (show ¬ nI 62 = (47 : Int32) by decide), if_neg (show ¬ nI 62 = (60 : Int32) by decide), if_neg (show ¬ nI 62 = (61 : Int32) by decide), if_pos (show nI 62 = (62 : Int32) by decide)]
    simp only [lg_cmp_eq, lg_cmp_ge, lg_cmp_le, lg_cmp_lt, lg_cmp_gt, f_X12_works_270, fis0, fis1, lts]
    by_cases h : x ≤ y
    · rw [if_pos h, show jn 62 x y = cut (some 0) by simp only [jn, jn0]; simp [h]]; exact W 0
    · rw [if_neg h, show jn 62 x y = cut (some 1) by simp only [jn, jn0]; simp [h]]; exact W 1
  · rw [if_neg (show ¬ nI 256 = (260 : Int32) by decide), if_neg (show ¬ nI 256 = (42 : Int32) by decide), if_neg (show ¬ nI 256 = (43 : Int32) by decide), if_neg (show ¬ nI 256 = (45 : Int32) by decide), if_neg (show ¬ nI 256 = (47 : Int32) by decide), if_neg (show ¬ nI 256 = (60 : Int32) by decide), if_neg (show ¬ nI 256 = (61 : Int32) by decide), if_neg (show ¬ nI 256 = (62 : Int32) by decide), if_pos (show nI 256 = (256 : Int32) by decide)]
    simp only [lg_cmp_eq, lg_cmp_ge, lg_cmp_le, lg_cmp_lt, lg_cmp_gt, f_X12_works_310, fis0, fis1, lts]
    by_cases h : y < x
    · rw [if_pos h, show jn 256 x y = cut (some 0) by simp only [jn, jn0]; simp [h]]; exact W 0
    · rw [if_neg h, show jn 256 x y = cut (some 1) by simp only [jn, jn0]; simp [h]]; exact W 1
  · rw [if_neg (show ¬ nI 257 = (260 : Int32) by decide), if_neg (show ¬ nI 257 = (42 : Int32) by decide), if_neg (show ¬ nI 257 = (43 : Int32) by decide), if_neg (show ¬ nI 257 = (45 : Int32) by decide), if_neg (show ¬ nI 257 = (47 : Int32) by decide), if_neg (show ¬ nI 257 = (60 : Int32) by decide), if_neg (show ¬ nI 257 = (61 : Int32) by decide), if_neg (show ¬ nI 257 = (62 : Int32) by decide), if_neg (show ¬ nI 257 = (256 : Int32) by decide), if_pos (show nI 257 = (257 : Int32) by decide)]
    simp only [lg_cmp_eq, lg_cmp_ge, lg_cmp_le, lg_cmp_lt, lg_cmp_gt, f_X12_works_350, fis0, fis1, lts]
    by_cases h : x = y
    · rw [if_pos h, show jn 257 x y = cut (some 0) by simp only [jn, jn0]; simp [h]]; exact W 0
    · rw [if_neg h, show jn 257 x y = cut (some 1) by simp only [jn, jn0]; simp [h]]; exact W 1
  · rw [if_neg (show ¬ nI 258 = (260 : Int32) by decide), if_neg (show ¬ nI 258 = (42 : Int32) by decide), if_neg (show ¬ nI 258 = (43 : Int32) by decide), if_neg (show ¬ nI 258 = (45 : Int32) by decide), if_neg (show ¬ nI 258 = (47 : Int32) by decide), if_neg (show ¬ nI 258 = (60 : Int32) by decide), if_neg (show ¬ nI 258 = (61 : Int32) by decide), if_neg (show ¬ nI 258 = (62 : Int32) by decide), if_neg (show ¬ nI 258 = (256 : Int32) by decide), if_neg (show ¬ nI 258 = (257 : Int32) by decide), if_pos (show nI 258 = (258 : Int32) by decide)]
    simp only [lg_cmp_eq, lg_cmp_ge, lg_cmp_le, lg_cmp_lt, lg_cmp_gt, f_X12_works_330, fis0, fis1, lts]
    by_cases h : x < y
    · rw [if_pos h, show jn 258 x y = cut (some 0) by simp only [jn, jn0]; simp [h]]; exact W 0
    · rw [if_neg h, show jn 258 x y = cut (some 1) by simp only [jn, jn0]; simp [h]]; exact W 1
  · rw [if_neg (show ¬ nI 261 = (260 : Int32) by decide), if_neg (show ¬ nI 261 = (42 : Int32) by decide), if_neg (show ¬ nI 261 = (43 : Int32) by decide), if_neg (show ¬ nI 261 = (45 : Int32) by decide), if_neg (show ¬ nI 261 = (47 : Int32) by decide), if_neg (show ¬ nI 261 = (60 : Int32) by decide), if_neg (show ¬ nI 261 = (61 : Int32) by decide), if_neg (show ¬ nI 261 = (62 : Int32) by decide), if_neg (show ¬ nI 261 = (256 : Int32) by decide), if_neg (show ¬ nI 261 = (257 : Int32) by decide), if_neg (show ¬ nI 261 = (258 : Int32) by decide), if_pos (show nI 261 = (261 : Int32) by decide)]
    simp only [lg_cmp_eq, f_X12_works_375, f_X12_works_376, f_X12_works_397, f_X12_works_402, fis0, fis1, lts]
    by_cases nx : x = 0 <;> by_cases ny : y = 0 <;> simp only [nx, ny, if_true, if_false]
    · exact W 0
    · have := W 0; simp only [jn, jn0, if_true]; exact this
    · have := W 0; simp only [jn, jn0, nx, if_true, if_false]; exact this
    · have := W 1; simp only [jn, jn0, nx, ny, if_true, if_false]; exact this
  · rw [if_neg (show ¬ nI 262 = (260 : Int32) by decide), if_neg (show ¬ nI 262 = (42 : Int32) by decide), if_neg (show ¬ nI 262 = (43 : Int32) by decide), if_neg (show ¬ nI 262 = (45 : Int32) by decide), if_neg (show ¬ nI 262 = (47 : Int32) by decide), if_neg (show ¬ nI 262 = (60 : Int32) by decide), if_neg (show ¬ nI 262 = (61 : Int32) by decide), if_neg (show ¬ nI 262 = (62 : Int32) by decide), if_neg (show ¬ nI 262 = (256 : Int32) by decide), if_neg (show ¬ nI 262 = (257 : Int32) by decide), if_neg (show ¬ nI 262 = (258 : Int32) by decide), if_neg (show ¬ nI 262 = (261 : Int32) by decide)]
    simp only [lg_cmp_eq, f_X12_works_375, f_X12_works_376, f_X12_works_397, f_X12_works_402, fis0, fis1, lts]
    by_cases nx : x = 0 <;> by_cases ny : y = 0 <;> simp only [nx, ny, if_true, if_false]
    · exact W 0
    · have := W 1; simp only [jn, jn0, ny, if_true, if_false]; exact this
    · have := W 1; simp only [jn, jn0, nx, if_true, if_false]; exact this
    · have := W 1; simp only [jn, jn0, nx, ny, if_true, if_false]; exact this
