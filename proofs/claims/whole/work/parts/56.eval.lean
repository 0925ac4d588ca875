/-! The pure part: a law's row of knots worked out -/
def upL (st : Nat → Int64) (k : Nat) (v : Int64) : Nat → Int64 := fun j => if j = k then v else st j
def evF (T : zT) (nm : Nat → Nat) : Nat → Nat → Nat → (Nat → Int64) → Option Int64
  | 0, _, _, st => some (st 0)
  | n + 1, i, d, st =>
    if T 20 i = 2 then
      if T 21 i = 260 then evF T nm n (i + 1) d (upL st (d - 1) (if st (d - 1) = 0 then 1 else 0))
      else match jn (T 21 i) (st (d - 2)) (st (d - 1)) with
        | none => none
        | some v => evF T nm n (i + 1) (d - 1) (upL st (d - 2) v)
    else evF T nm n (i + 1) (d + 1) (upL st d (lN (if T 20 i = 0 then T 21 i else nm (T 21 i))))
theorem bnd_lN {k : Nat} (h : k ≤ 9999) : bnd (lN k) := by
  constructor
  · rw [Int64.le_iff_toInt_le, pk_lT (by omega)]
    have e2 : (-LIM).toInt = -1000000000000 := by decide
    rw [e2]; omega
  · rw [Int64.le_iff_toInt_le, pk_lT (by omega)]
    have e2 : LIM.toInt = 1000000000000 := by decide
    rw [e2]; omega
theorem bnd_up {st : Nat → Int64} {k : Nat} {v : Int64} (h : ∀ j, bnd (st j)) (hv : bnd v) : ∀ j, bnd (upL st k v j) := by
  intro j; unfold upL; split
  · exact hv
  · exact h j
theorem evF_bnd {T : zT} {nm : Nat → Nat} (hn : ∀ j, j < 7 → nm j ≤ 9999) : ∀ (n i d : Nat) (st : Nat → Int64) {v : Int64}, (∀ j, bnd (st j)) → okL T n i d → evF T nm n i d st = some v → bnd v
  | 0, i, d, st, v, hb, ho, h => by cases h; exact hb 0
  | n + 1, i, d, st, v, hb, ho, h => by
    unfold evF at h; unfold okL at ho
    by_cases h2 : T 20 i = 2
    · rw [if_pos h2] at h ho
      by_cases h6 : T 21 i = 260
      · rw [if_pos h6] at h ho
        refine evF_bnd hn n _ _ _ (bnd_up hb ?_) ho.2 h
        split
        · exact bnd_lN (k := 1) (by omega)
        · exact bnd_lN (k := 0) (by omega)
      · rw [if_neg h6] at h ho
        cases e : jn (T 21 i) (st (d - 2)) (st (d - 1)) with
        | none => rw [e] at h; cases h
        | some r => rw [e] at h; exact evF_bnd hn n _ _ _ (bnd_up hb (jn_bnd e)) ho.2.2 h
    · rw [if_neg h2] at h ho
      refine evF_bnd hn n _ _ _ (bnd_up hb ?_) ho.2.2 h
      rcases ho.1 with z | z
      · rw [if_pos z.1]; exact bnd_lN z.2
      · rw [if_neg (by omega)]; exact bnd_lN (hn _ z.2)
theorem encO_num {s v : Nat} (h : s ≠ 2) : encO s v = s := by unfold encO; rw [if_neg h]
theorem encO_not : encO 2 260 = 4 := rfl
theorem encO_mk : ∀ v, isMk v = true → encO 2 v < 20000 ∧ encO 2 v ≠ 0 ∧ encO 2 v ≠ 1 ∧ encO 2 v ≠ 4 := by
  intro v hv
  rcases mk_cases hv with rfl | rfl | rfl | rfl | rfl | rfl | rfl | rfl | rfl | rfl | rfl | rfl <;> decide
/-- the class's loop -/
theorem c_work {b : Bool} {T : zT} {I : Nat → Nat → Int32} {B : Nat → Bool} {nm : Nat → Nat} {r : Nat} (hT : okT T) (hR : ∀ L, RC b T (I, L, B)) (hr : r < 3) (ht : T 18 r < T 19 r) (hnm : ∀ j, j < 7 → I (tl b + 8) j = nI (nm j)) (hn : ∀ j, j < 7 → nm j ≤ 9999) :
    ∀ (n i d : Nat) (st : Nat → Int64) (fu : Nat) (L : Nat → Nat → Int64), i + n = T 19 r → n < fu → okL T n i d → d ≤ 64 → (∀ j, j < d → L (tl b + 7) j = st j) → (∀ j, bnd (st j)) →
    ∃ L', f_X2_workOut_21 b fu (nI r) (nI d) (nI i) (I, L, B) = some ((evF T nm n i d st).getD ERR, (I, L', B))
  | n, i, d, st, 0, L, hi, hf, ho, hd, hs, hb => by omega
  | 0, i, d, st, fu + 1, L, hi, hf, ho, hd, hs, hb => by
    have hd1 : d = 1 := ho
    subst hd1
    have e6 : I (tl b + 6) r = nI (T 19 r) := ((hR L).2.2.2.2.2.1.1 r hr ht).2
    have o := hT.1
    have ol := hT.2.2.2.2 r hr
    refine ⟨L, ?_⟩
    unfold f_X2_workOut_21
    rw [rd_nI (by omega) (by omega), bs, show ((I, L, B) : zS).1 (tl b + 6) r = nI (T 19 r) from e6, if_pos (nI_le (by omega) (by omega)), if_pos (by decide), rdL_lit (by decide) (by decide), bs]
    rw [show ((I, L, B) : zS).2.1 (tl b + 7) 0 = st 0 from hs 0 (by omega)]
    rfl
  | n + 1, i, d, st, fu + 1, L, hi, hf, ho, hd, hs, hb => by
    have e6 : I (tl b + 6) r = nI (T 19 r) := ((hR L).2.2.2.2.2.1.1 r hr ht).2
    have o := hT.1
    have ol := hT.2.2.2.2 r hr
    have eo : I (tl b + 3) i = nI (encO (T 20 i) (T 21 i)) := by
      have := (hR L).2.2.2.2.2.1.2.2.1 i (by omega)
      rwa [Nat.zero_add] at this
    have ev : T 20 i ≠ 2 → I (tl b + 4) i = nI (T 21 i) := (hR L).2.2.2.2.2.1.2.2.2 i (by omega)
    have ih := fun d' st' L' => c_work hT hR hr ht hnm hn n (i + 1) d' st' fu L' (by omega) (by omega)
    unfold f_X2_workOut_21
    rw [rd_nI (by omega) (by omega), bs, show ((I, L, B) : zS).1 (tl b + 6) r = nI (T 19 r) from e6, if_neg (nI_ge (by omega) (by omega)), rd_nI (by omega) (by omega), bs, show ((I, L, B) : zS).1 (tl b + 3) i = nI (encO (T 20 i) (T 21 i)) from eo]
    unfold okL at ho
    unfold evF
    by_cases h2 : T 20 i = 2
    · rw [if_pos h2] at ho ⊢
      by_cases h6 : T 21 i = 260
      · rw [if_pos h6] at ho ⊢
        rw [h2, h6, encO_not, if_neg (by decide), if_neg (by decide), if_pos (by decide), if_pos (show (1 : Int32) ≤ nI d from nI_le (a := 1) ho.1 (by omega))]
        rw [nI_m1lt (by omega) (by omega), rdL_nI (by omega) (by omega), bs]
        rw [show ((I, L, B) : zS).2.1 (tl b + 7) (d - 1) = st (d - 1) from hs (d - 1) (by omega)]
        simp only [lg_cmp_eq, f_X2_workOut_139, f_X2_workOut_208]
        have key : ∀ v : Int64, bnd v → ∃ L', ((wrL (I, L, B) (tl b + 7) 64 (nI (d - 1)) v).bind fun σ_1 => f_X2_workOut_21 b fu (nI r) (nI d) (nI i + 1) σ_1) = some ((evF T nm n (i + 1) d (upL st (d - 1) v)).getD ERR, (I, L', B)) := by
          intro v hv
          rw [wrL_nI (by omega) (by omega), bs, nI_1]
          refine ih d (upL st (d - 1) v) _ ho.2 hd ?_ (bnd_up hb hv)
          intro j hj
          show (if tl b + 7 = tl b + 7 ∧ j = d - 1 then v else L (tl b + 7) j) = upL st (d - 1) v j
          unfold upL
          by_cases hj1 : j = d - 1
          · rw [if_pos ⟨rfl, hj1⟩, if_pos hj1]
          · rw [if_neg (fun z => hj1 z.2), if_neg hj1]; exact hs j hj
        by_cases hz : st (d - 1) = 0
        · rw [if_pos hz, if_pos hz]; exact key 1 (bnd_lN (k := 1) (by omega))
        · rw [if_neg hz, if_neg hz]; exact key 0 (bnd_lN (k := 0) (by omega))
      · rw [if_neg h6] at ho ⊢
        obtain ⟨hm, hd2, ho⟩ := ho
        have oe := encO_mk _ hm
        rw [h2, if_neg (show ¬ nI _ = (0 : Int32) by show ¬ _ = nI 0; rw [nI_eq (by omega) (by omega)]; exact oe.2.1), if_neg (show ¬ nI _ = (1 : Int32) by show ¬ _ = nI 1; rw [nI_eq (by omega) (by omega)]; exact oe.2.2.1), if_neg (show ¬ nI _ = (4 : Int32) by show ¬ _ = nI 4; rw [nI_eq (by omega) (by omega)]; exact oe.2.2.2), if_pos (show (2 : Int32) ≤ nI d from nI_le (a := 2) hd2 (by omega))]
        have e1 : nI d + -1 = nI (d - 1) := sb_m1 (by omega)
        have e2 : nI (d - 1) - 1 = nI (d - 2) := nI_m1lt (by omega) (by omega)
        rw [e1, e2, rdL_nI (by omega) (by omega), bs, rdL_nI (by omega) (by omega), bs]
        rw [show ((I, L, B) : zS).2.1 (tl b + 7) (d - 1) = st (d - 1) from hs (d - 1) (by omega), show ((I, L, B) : zS).2.1 (tl b + 7) (d - 2) = st (d - 2) from hs (d - 2) (by omega)]
        obtain ⟨j, hj, hc⟩ := c_join hm (hb (d - 2)) (hb (d - 1)) (I, L, B)
        rw [hj, bs, hc]
        simp only [lg_cmp_gt, lg_cmp_ge, f_X2_workOut_194, f_X2_workOut_208]
        unfold cut
        rw [bs]
        unfold LIM
        by_cases h1 : (1000000000000 : Int64) < j
        · rw [if_pos h1, if_pos h1]; exact ⟨L, rfl⟩
        · rw [if_neg h1, if_neg h1]
          by_cases h3 : (-1000000000000 : Int64) ≤ j
          · rw [if_pos h3, if_pos h3, wrL_nI (by omega) (by omega), bs, nI_1]
            refine ih (d - 1) (upL st (d - 2) j) _ ho (by omega) ?_ (bnd_up hb ⟨h3, Int64.not_lt.mp h1⟩)
            intro k hk
            show (if tl b + 7 = tl b + 7 ∧ k = d - 2 then j else L (tl b + 7) k) = upL st (d - 2) j k
            unfold upL
            by_cases hj1 : k = d - 2
            · rw [if_pos ⟨rfl, hj1⟩, if_pos hj1]
            · rw [if_neg (fun z => hj1 z.2), if_neg hj1]; exact hs k (by omega)
          · rw [if_neg h3, if_neg h3]; exact ⟨L, rfl⟩
    · rw [if_neg h2] at ho ⊢
      obtain ⟨hk, hd6, ho⟩ := ho
      rw [encO_num h2]
      have key : ∀ v : Nat, v ≤ 9999 → ∃ L', f_X2_workOut_92 b (f_X2_workOut_21 b fu) (nI r) (nI d) (nI i) (nI d) (nI v).toInt64 (I, L, B) = some ((evF T nm n (i + 1) (d + 1) (upL st d (lN v))).getD ERR, (I, L', B)) := by
        intro v hv
        unfold f_X2_workOut_92 f_X2_workOut_208
        rw [wrL_nI (by omega) (by omega), bs, nI_1, nI_1, nI_l (by omega)]
        refine ih (d + 1) (upL st d (lN v)) _ ho (by omega) ?_ (bnd_up hb (bnd_lN hv))
        intro j hj
        show (if tl b + 7 = tl b + 7 ∧ j = d then lN v else L (tl b + 7) j) = upL st d (lN v) j
        unfold upL
        by_cases hj1 : j = d
        · rw [if_pos ⟨rfl, hj1⟩, if_pos hj1]
        · rw [if_neg (fun z => hj1 z.2), if_neg hj1]; exact hs j (by omega)
      rcases hk with ⟨z, zv⟩ | ⟨z, zv⟩
      · rw [z, if_pos (by decide)]
        unfold f_X2_workOut_50
        rw [if_pos (show nI d < (64 : Int32) from nI_lt (b := 64) (by omega) (by omega)), if_pos (by decide), rd_nI (by omega) (by omega), bs, show ((I, L, B) : zS).1 (tl b + 4) i = nI (T 21 i) from ev h2, if_pos rfl]
        exact key _ zv
      · rw [z, if_neg (by decide), if_pos (by decide)]
        unfold f_X2_workOut_50
        rw [if_pos (show nI d < (64 : Int32) from nI_lt (b := 64) (by omega) (by omega)), if_neg (by decide), rd_nI (by omega) (by omega), bs, show ((I, L, B) : zS).1 (tl b + 4) i = nI (T 21 i) from ev h2, rd_nI (by omega) (by omega), bs, show ((I, L, B) : zS).1 (tl b + 8) (T 21 i) = nI (nm (T 21 i)) from hnm _ zv, if_neg (by decide)]
        exact key _ (hn _ zv)
