/-! The pure part: laws worked out -/
def LIM : Int64 := 1000000000000
def ERR : Int64 := -9223372036854775808
def bnd (x : Int64) : Prop := -LIM ≤ x ∧ x ≤ LIM
def abL (x : Int64) : Int64 := if 0 ≤ x then x else -x
def jn0 (op : Nat) (x y : Int64) : Option Int64 :=
  if op = 42 then (if x = 0 then some (x * y) else if abL y ≤ LIM / abL x then some (x * y) else none)
  else if op = 43 then some (x + y) else if op = 45 then some (x - y)
  else if op = 47 then (if y = 0 then none else some (x / y))
  else if op = 60 then some (if y ≤ x then 0 else 1) else if op = 61 then some (if x = y then 1 else 0) else if op = 62 then some (if x ≤ y then 0 else 1)
  else if op = 256 then some (if y < x then 0 else 1) else if op = 257 then some (if x = y then 0 else 1) else if op = 258 then some (if x < y then 0 else 1)
  else if op = 261 then some (if x = 0 then 0 else if y = 0 then 0 else 1) else some (if x = 0 then (if y = 0 then 0 else 1) else 1)
def cut (o : Option Int64) : Option Int64 := o.bind fun v => if LIM < v then none else if -LIM ≤ v then some v else none
def jn (op : Nat) (x y : Int64) : Option Int64 := cut (jn0 op x y)
theorem ab_of {x : Int64} (h : bnd x) : ∃ a, a ≤ 1000000000000 ∧ abL x = lN a ∧ (x = 0 ↔ a = 0) := by
  obtain ⟨h1, h2⟩ := h
  rw [Int64.le_iff_toInt_le] at h1 h2
  have e1 : LIM.toInt = 1000000000000 := by decide
  have e2 : (-LIM).toInt = -1000000000000 := by decide
  rw [e1] at h2; rw [e2] at h1
  have hx0 : x = 0 ↔ x.toInt = 0 := by
    constructor
    · rintro rfl; rfl
    · intro h; exact Int64.toInt_inj.mp (h.trans (by decide))
  unfold abL
  by_cases hp : (0 : Int64) ≤ x
  · rw [if_pos hp]
    rw [Int64.le_iff_toInt_le] at hp
    have e0 : (0 : Int64).toInt = 0 := by decide
    rw [e0] at hp
    refine ⟨x.toInt.toNat, by omega, ?_, by rw [hx0]; omega⟩
    apply Int64.toInt_inj.mp
    rw [pk_lT (by omega)]; omega
  · rw [if_neg hp]
    rw [Int64.le_iff_toInt_le] at hp
    have e0 : (0 : Int64).toInt = 0 := by decide
    rw [e0] at hp
    refine ⟨(-x.toInt).toNat, by omega, ?_, by rw [hx0]; omega⟩
    apply Int64.toInt_inj.mp
    rw [pk_lT (by omega), Int64.toInt_neg, Int.bmod_eq_of_le (by omega) (by omega)]; omega
theorem mul_alike {x y : Int64} (hx : bnd x) (hy : bnd y) (nx : ¬ x = 0) (ny : ¬ y = 0) : abL y ≤ LIM / abL x ↔ abL x ≤ LIM / abL y := by
  obtain ⟨a, ha, ea, za⟩ := ab_of hx
  obtain ⟨c, hc, ec, zc⟩ := ab_of hy
  have a0 : 0 < a := by rcases Nat.eq_zero_or_pos a with h | h; exact absurd (za.mpr h) nx; exact h
  have c0 : 0 < c := by rcases Nat.eq_zero_or_pos c with h | h; exact absurd (zc.mpr h) ny; exact h
  have eL : LIM = lN 1000000000000 := by decide
  have l1 : 1000000000000 / a ≤ 1000000000000 := Nat.div_le_self _ _
  have l2 : 1000000000000 / c ≤ 1000000000000 := Nat.div_le_self _ _
  rw [ea, ec, eL, pk_lDiv (by omega) a0 (by omega), pk_lDiv (by omega) c0 (by omega), pk_lLE (by omega) (by omega), pk_lLE (by omega) (by omega), Nat.le_div_iff_mul_le a0, Nat.le_div_iff_mul_le c0, Nat.mul_comm]
theorem ab_zero : abL 0 = 0 := by decide
theorem ab_le0 {x : Int64} (hx : bnd x) (nx : ¬ x = 0) : abL 0 ≤ LIM / abL x := by
  obtain ⟨a, ha, ea, za⟩ := ab_of hx
  have a0 : 0 < a := by rcases Nat.eq_zero_or_pos a with h | h; exact absurd (za.mpr h) nx; exact h
  have eL : LIM = lN 1000000000000 := by decide
  have l1 : 1000000000000 / a ≤ 1000000000000 := Nat.div_le_self _ _
  have e0 : abL 0 = lN 0 := by decide
  rw [e0, ea, eL, pk_lDiv (by omega) a0 (by omega), pk_lLE (by omega) (by omega)]
  exact Nat.zero_le _
theorem ab_ne {x : Int64} (hx : bnd x) (nx : ¬ x = 0) : ¬ abL x = 0 := by
  obtain ⟨a, ha, ea, za⟩ := ab_of hx
  have e0 : (0 : Int64) = lN 0 := by decide
  rw [ea, e0, pk_lEQ (by omega) (by omega)]
  exact fun h => nx (za.mpr h)
theorem jn_bnd {op : Nat} {x y v : Int64} (h : jn op x y = some v) : bnd v := by
  unfold jn cut at h
  cases e : jn0 op x y with
  | none => rw [e] at h; cases h
  | some u =>
    rw [e, bs] at h
    split at h
    · cases h
    · split at h
      · cases h
        exact ⟨by assumption, Int64.not_lt.mp (by assumption)⟩
      · cases h
theorem mk_cases {v : Nat} (h : isMk v = true) : v = 42 ∨ v = 43 ∨ v = 45 ∨ v = 47 ∨ v = 60 ∨ v = 61 ∨ v = 62 ∨ v = 256 ∨ v = 257 ∨ v = 258 ∨ v = 261 ∨ v = 262 := by
  have := List.mem_of_elem_eq_true h
  simpa only [List.mem_cons, List.not_mem_nil, or_false] using this
theorem c_mul1 {x y : Int64} (hx : bnd x) (hy : bnd y) : ∃ j, (if y = 0 then some (x * y) else if (if y = 0 then false else decide (abL x ≤ LIM / abL y)) then some (x * y) else some ERR) = some j ∧ jn 42 x y = cut (some j) := by
  have eE : cut (some ERR) = none := by decide
  by_cases ny : y = 0
  · refine ⟨x * y, by rw [if_pos ny], ?_⟩
    unfold jn jn0
    rw [if_pos rfl]
    by_cases nx : x = 0
    · rw [if_pos nx]
    · rw [if_neg nx, ny, if_pos (ab_le0 hx nx)]
  · rw [if_neg ny, if_neg ny]
    by_cases nx : x = 0
    · refine ⟨x * y, ?_, ?_⟩
      · rw [nx, decide_eq_true (ab_le0 hy ny)]; rfl
      · unfold jn jn0
        rw [if_pos rfl, if_pos nx]
    · by_cases hl : abL x ≤ LIM / abL y
      · refine ⟨x * y, by rw [decide_eq_true hl]; rfl, ?_⟩
        unfold jn jn0
        rw [if_pos rfl, if_neg nx, if_pos ((mul_alike hx hy nx ny).mpr hl)]
      · refine ⟨ERR, by rw [decide_eq_false hl]; rfl, ?_⟩
        rw [eE]
        unfold jn jn0
        rw [if_pos rfl, if_neg nx, if_neg (fun h => hl ((mul_alike hx hy nx ny).mp h))]; rfl

theorem c_join {v : Nat} (hv : isMk v = true) {x y : Int64} (hx : bnd x) (hy : bnd y) (σ : zS) : ∃ j, f_X2_join (nI (encO 2 v)) x y σ = some j ∧ jn v x y = cut (some j) := by
  rcases mk_cases hv with rfl | rfl | rfl | rfl | rfl | rfl | rfl | rfl | rfl | rfl | rfl | rfl
  · rw [show encO 2 42 = 42 from rfl]; unfold f_X2_join; rw [if_neg (show ¬ nI 42 = (2 : Int32) by decide), if_neg (show ¬ nI 42 = (3 : Int32) by decide), if_pos (show nI 42 = (42 : Int32) by decide)]
    obtain ⟨j, h1, h2⟩ := c_mul1 hx hy
    refine ⟨j, ?_, h2⟩
    rw [← h1]
    simp only [f_X2_join_242, f_X2_join_257, f_X2_join_268, lg_cmp_eq, lg_cmp_ge, lg_cmp_le]
    by_cases ny : y = 0
    · rw [if_pos ny, if_pos ny]
    · have ha := ab_ne hy ny
      have e : ∀ z : Int64, (if 0 ≤ y then (if z ≤ 1000000000000 / y then some (x * y) else some ERR) else (if -y = 0 then none else if z ≤ 1000000000000 / -y then some (x * y) else some ERR)) = if z ≤ LIM / abL y then some (x * y) else some ERR := by
        intro z
        unfold abL at ha ⊢
        by_cases h0 : 0 ≤ y
        · rw [if_pos h0, if_pos h0]; rfl
        · rw [if_neg h0] at ha; rw [if_neg h0, if_neg ha, if_neg h0]; rfl
      simp only [ny, if_false]
      have e2 : (if (0 : Int64) ≤ x then (if x ≤ LIM / abL y then some (x * y) else some ERR) else (if -x ≤ LIM / abL y then some (x * y) else some ERR)) = if abL x ≤ LIM / abL y then some (x * y) else some ERR := by
        unfold abL
        by_cases h0 : 0 ≤ x
        · rw [if_pos h0, if_pos h0]
        · rw [if_neg h0, if_neg h0]
      have ex := e x
      have en := e (-x)
      unfold ERR at ex en e2 ⊢
      rw [ex, en, e2]
      simp only [decide_eq_true_eq]
  · rw [show encO 2 43 = 43 from rfl]; unfold f_X2_join; rw [if_neg (show ¬ nI 43 = (2 : Int32) by decide), if_neg (show ¬ nI 43 = (3 : Int32) by decide), if_neg (show ¬ nI 43 = (42 : Int32) by decide), if_pos (show nI 43 = (43 : Int32) by decide)]
    exact ⟨_, rfl, rfl⟩
  · rw [show encO 2 45 = 45 from rfl]; unfold f_X2_join; rw [if_neg (show ¬ nI 45 = (2 : Int32) by decide), if_neg (show ¬ nI 45 = (3 : Int32) by decide), if_neg (show ¬ nI 45 = (42 : Int32) by decide), if_neg (show ¬ nI 45 = (43 : Int32) by decide), if_pos (show nI 45 = (45 : Int32) by decide)]
    exact ⟨_, rfl, rfl⟩
  · rw [show encO 2 47 = 47 from rfl]; unfold f_X2_join; rw [if_neg (show ¬ nI 47 = (2 : Int32) by decide), if_neg (show ¬ nI 47 = (3 : Int32) by decide), if_neg (show ¬ nI 47 = (42 : Int32) by decide), if_neg (show ¬ nI 47 = (43 : Int32) by decide), if_neg (show ¬ nI 47 = (45 : Int32) by decide), if_pos (show nI 47 = (47 : Int32) by decide)]
    simp only [lg_cmp_eq]
    by_cases ny : y = 0
    · rw [if_pos ny]
      refine ⟨_, rfl, ?_⟩
      unfold jn jn0
      rw [if_neg (by decide), if_neg (by decide), if_neg (by decide), if_pos rfl, if_pos ny]; decide
    · rw [if_neg ny, if_neg ny]
      refine ⟨_, rfl, ?_⟩
      unfold jn jn0
      rw [if_neg (by decide), if_neg (by decide), if_neg (by decide), if_pos rfl, if_neg ny]
  · rw [show encO 2 60 = 60 from rfl]; unfold f_X2_join; rw [if_neg (show ¬ nI 60 = (2 : Int32) by decide), if_neg (show ¬ nI 60 = (3 : Int32) by decide), if_neg (show ¬ nI 60 = (42 : Int32) by decide), if_neg (show ¬ nI 60 = (43 : Int32) by decide), if_neg (show ¬ nI 60 = (45 : Int32) by decide), if_neg (show ¬ nI 60 = (47 : Int32) by decide), if_pos (show nI 60 = (60 : Int32) by decide)]
    simp only [f_X2_join_120, f_X2_join_142, lg_cmp_eq, lg_cmp_ge, lg_cmp_le, lg_cmp_lt, lg_cmp_gt]
    by_cases h : y ≤ x
    · rw [if_pos h]; refine ⟨_, rfl, ?_⟩; unfold jn jn0; simp [h]
    · rw [if_neg h]; refine ⟨_, rfl, ?_⟩; unfold jn jn0; simp [h]
  · rw [show encO 2 61 = 61 from rfl]; unfold f_X2_join; rw [if_neg (show ¬ nI 61 = (2 : Int32) by decide), if_neg (show ¬ nI 61 = (3 : Int32) by decide), if_neg (show ¬ nI 61 = (42 : Int32) by decide), if_neg (show ¬ nI 61 = (43 : Int32) by decide), if_neg (show ¬ nI 61 = (45 : Int32) by decide), if_neg (show ¬ nI 61 = (47 : Int32) by decide), if_neg (show ¬ nI 61 = (60 : Int32) by decide), if_pos (show nI 61 = (61 : Int32) by decide)]
    simp only [f_X2_join_120, f_X2_join_142, lg_cmp_eq, lg_cmp_ge, lg_cmp_le, lg_cmp_lt, lg_cmp_gt]
    by_cases h : x = y
    · rw [if_pos h]; refine ⟨_, rfl, ?_⟩; unfold jn jn0; simp [h]
    · rw [if_neg h]; refine ⟨_, rfl, ?_⟩; unfold jn jn0; simp [h]
  · rw [show encO 2 62 = 62 from rfl]; unfold f_X2_join; rw [if_neg (show ¬ nI 62 = (2 : Int32) by decide), if_neg (show ¬ nI 62 = (3 : Int32) by decide), if_neg (show ¬ nI 62 = (42 : Int32) by decide), if_neg (show ¬ nI 62 = (43 : Int32) by decide), if_neg (show ¬ nI 62 = (45 : Int32) by decide), if_neg (show ¬ nI 62 = (47 : Int32) by decide), if_neg (show ¬ nI 62 = (60 : Int32) by decide), if_neg (show ¬ nI 62 = (61 : Int32) by decide), if_pos (show nI 62 = (62 : Int32) by decide)]
    simp only [f_X2_join_120, f_X2_join_142, lg_cmp_eq, lg_cmp_ge, lg_cmp_le, lg_cmp_lt, lg_cmp_gt]
    by_cases h : x ≤ y
    · rw [if_pos h]; refine ⟨_, rfl, ?_⟩; unfold jn jn0; simp [h]
    · rw [if_neg h]; refine ⟨_, rfl, ?_⟩; unfold jn jn0; simp [h]
  · rw [show encO 2 256 = 15421 from rfl]; unfold f_X2_join; rw [if_neg (show ¬ nI 15421 = (2 : Int32) by decide), if_neg (show ¬ nI 15421 = (3 : Int32) by decide), if_neg (show ¬ nI 15421 = (42 : Int32) by decide), if_neg (show ¬ nI 15421 = (43 : Int32) by decide), if_neg (show ¬ nI 15421 = (45 : Int32) by decide), if_neg (show ¬ nI 15421 = (47 : Int32) by decide), if_neg (show ¬ nI 15421 = (60 : Int32) by decide), if_neg (show ¬ nI 15421 = (61 : Int32) by decide), if_neg (show ¬ nI 15421 = (62 : Int32) by decide), if_pos (show nI 15421 = (15421 : Int32) by decide)]
    simp only [f_X2_join_120, f_X2_join_142, lg_cmp_eq, lg_cmp_ge, lg_cmp_le, lg_cmp_lt, lg_cmp_gt]
    by_cases h : y < x
    · rw [if_pos h]; refine ⟨_, rfl, ?_⟩; unfold jn jn0; simp [h]
    · rw [if_neg h]; refine ⟨_, rfl, ?_⟩; unfold jn jn0; simp [h]
  · rw [show encO 2 257 = 15422 from rfl]; unfold f_X2_join; rw [if_neg (show ¬ nI 15422 = (2 : Int32) by decide), if_neg (show ¬ nI 15422 = (3 : Int32) by decide), if_neg (show ¬ nI 15422 = (42 : Int32) by decide), if_neg (show ¬ nI 15422 = (43 : Int32) by decide), if_neg (show ¬ nI 15422 = (45 : Int32) by decide), if_neg (show ¬ nI 15422 = (47 : Int32) by decide), if_neg (show ¬ nI 15422 = (60 : Int32) by decide), if_neg (show ¬ nI 15422 = (61 : Int32) by decide), if_neg (show ¬ nI 15422 = (62 : Int32) by decide), if_neg (show ¬ nI 15422 = (15421 : Int32) by decide), if_pos (show nI 15422 = (15422 : Int32) by decide)]
    simp only [f_X2_join_120, f_X2_join_142, lg_cmp_eq, lg_cmp_ge, lg_cmp_le, lg_cmp_lt, lg_cmp_gt]
    by_cases h : x = y
    · rw [if_pos h]; refine ⟨_, rfl, ?_⟩; unfold jn jn0; simp [h]
    · rw [if_neg h]; refine ⟨_, rfl, ?_⟩; unfold jn jn0; simp [h]
  · rw [show encO 2 258 = 15933 from rfl]; unfold f_X2_join; rw [if_neg (show ¬ nI 15933 = (2 : Int32) by decide), if_neg (show ¬ nI 15933 = (3 : Int32) by decide), if_neg (show ¬ nI 15933 = (42 : Int32) by decide), if_neg (show ¬ nI 15933 = (43 : Int32) by decide), if_neg (show ¬ nI 15933 = (45 : Int32) by decide), if_neg (show ¬ nI 15933 = (47 : Int32) by decide), if_neg (show ¬ nI 15933 = (60 : Int32) by decide), if_neg (show ¬ nI 15933 = (61 : Int32) by decide), if_neg (show ¬ nI 15933 = (62 : Int32) by decide), if_neg (show ¬ nI 15933 = (15421 : Int32) by decide), if_neg (show ¬ nI 15933 = (15422 : Int32) by decide), if_pos (show nI 15933 = (15933 : Int32) by decide)]
    simp only [f_X2_join_120, f_X2_join_142, lg_cmp_eq, lg_cmp_ge, lg_cmp_le, lg_cmp_lt, lg_cmp_gt]
    by_cases h : x < y
    · rw [if_pos h]; refine ⟨_, rfl, ?_⟩; unfold jn jn0; simp [h]
    · rw [if_neg h]; refine ⟨_, rfl, ?_⟩; unfold jn jn0; simp [h]
  · rw [show encO 2 261 = 3 from rfl]; unfold f_X2_join; rw [if_neg (show ¬ nI 3 = (2 : Int32) by decide), if_pos (show nI 3 = (3 : Int32) by decide)]
    simp only [f_X2_join_120, f_X2_join_142, lg_cmp_eq, lg_cmp_ge, lg_cmp_le, lg_cmp_lt, lg_cmp_gt]
    by_cases nx : x = 0 <;> by_cases ny : y = 0 <;> simp only [nx, ny, if_true, if_false] <;> exact ⟨_, rfl, by simp [jn, jn0, nx, ny]⟩
  · rw [show encO 2 262 = 2 from rfl]; unfold f_X2_join; rw [if_pos (show nI 2 = (2 : Int32) by decide)]
    simp only [f_X2_join_120, f_X2_join_142, lg_cmp_eq, lg_cmp_ge, lg_cmp_le, lg_cmp_lt, lg_cmp_gt]
    by_cases nx : x = 0 <;> by_cases ny : y = 0 <;> simp only [nx, ny, if_true, if_false] <;> exact ⟨_, rfl, by simp [jn, jn0, nx, ny]⟩
