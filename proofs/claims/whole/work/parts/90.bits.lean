/-! The pure part: sets of sixteen states as bits -/
theorem setN_tb (f : Nat → Bool) : ∀ (n i : Nat), (setN f n).testBit i = (decide (i < n) && f i)
  | 0, i => by
    show (0 : Nat).testBit i = _
    rw [Nat.zero_testBit]; simp
  | n + 1, i => by
    have lt := setN_lt f n
    rw [setN_s]
    cases e : f n with
    | true =>
      rw [if_pos rfl, ← or_new lt, Nat.testBit_or, setN_tb f n i, Nat.testBit_two_pow]
      by_cases h : i = n
      · subst h; rw [e]; simp
      · rw [decide_eq_false (show ¬ n = i from fun z => h z.symm), Bool.or_false]
        by_cases h2 : i < n
        · rw [decide_eq_true h2, decide_eq_true (show i < n + 1 by omega)]
        · rw [decide_eq_false h2, decide_eq_false (show ¬ i < n + 1 by omega)]
    | false =>
      rw [if_neg (by decide), Nat.add_zero, setN_tb f n i]
      by_cases h : i = n
      · subst h; rw [e]; simp
      · by_cases h2 : i < n
        · rw [decide_eq_true h2, decide_eq_true (show i < n + 1 by omega)]
        · rw [decide_eq_false h2, decide_eq_false (show ¬ i < n + 1 by omega)]
theorem setN_cong {f g : Nat → Bool} {n : Nat} (h : ∀ i, i < n → f i = g i) : setN f n = setN g n := by
  apply Nat.eq_of_testBit_eq
  intro i
  rw [setN_tb, setN_tb]
  by_cases hi : i < n
  · rw [h i hi]
  · rw [decide_eq_false hi]; rfl
/-- a bit is taken away -/
theorem clr16 {f : Nat → Bool} {i : Nat} (hi : i < 16) : nI (setN f 16) &&& (((1 : Int32) <<< (nI i &&& 31)) ^^^ (-1 : Int32)) = nI (setN (fun j => f j && !(decide (j = i))) 16) := by
  have l1 := setN_lt f 16
  have l2 := setN_lt (fun j => f j && !(decide (j = i))) 16
  rw [shl1 i (by omega)]
  apply Int32.toBitVec_inj.mp
  apply BitVec.eq_of_getLsbD_eq
  intro j hj
  have p16 : 2 ^ i < 2 ^ 16 := Nat.pow_lt_pow_right (by decide) hi
  have g : ∀ a, a < 2 ^ 16 → (nI a).toBitVec.getLsbD j = a.testBit j := by
    intro a ha
    show (nI a).toBitVec.toNat.testBit j = _
    rw [bv_nI, Nat.mod_eq_of_lt (by omega)]
  rw [Int32.toBitVec_and, Int32.toBitVec_xor, BitVec.getLsbD_and, BitVec.getLsbD_xor, g _ l1, g _ l2, g _ p16, Nat.testBit_two_pow, setN_tb, setN_tb]
  have m1 : (-1 : Int32).toBitVec.getLsbD j = true := by
    have : (-1 : Int32).toBitVec = BitVec.allOnes 32 := by decide
    rw [this, BitVec.getLsbD_allOnes]; exact decide_eq_true hj
  rw [m1]
  by_cases e : j = i
  · subst e; simp
  · rw [decide_eq_false (show ¬ i = j from fun z => e z.symm), decide_eq_false e]; simp
theorem add16 {f : Nat → Bool} : nI (setN f 16) = 0 ↔ ∀ i, i < 16 → f i = false := by
  have l1 := setN_lt f 16
  constructor
  · intro h i hi
    have h0 : setN f 16 = 0 := (nI_eq (by omega) (by omega)).mp (show nI (setN f 16) = nI 0 from h)
    have := setN_tb f 16 i
    rw [h0, Nat.zero_testBit, decide_eq_true hi, Bool.true_and] at this
    exact this.symm
  · intro h
    have : setN f 16 = 0 := by
      apply Nat.eq_of_testBit_eq
      intro i
      rw [setN_tb, Nat.zero_testBit]
      by_cases hi : i < 16
      · rw [h i hi]; simp
      · rw [decide_eq_false hi]; rfl
    rw [this]; rfl
/-- the neighbours of sixteen states as bits -/
theorem spr16 {f d u : Nat → Bool} : ((((((nI (setN f 16) ||| ((((nI (setN f 16) <<< ((4 : Int32) &&& 31)) ||| (nI (setN f 16) >>> ((12 : Int32) &&& 31))) ||| (nI (setN f 16) >>> ((4 : Int32) &&& 31))) ||| (nI (setN f 16) <<< ((12 : Int32) &&& 31)))) ||| (((nI (setN f 16) &&& (13107 : Int32)) <<< ((2 : Int32) &&& 31)) ||| ((nI (setN f 16) >>> ((2 : Int32) &&& 31)) &&& (13107 : Int32)))) ||| (((nI (setN f 16) &&& (21845 : Int32)) <<< ((1 : Int32) &&& 31)) ||| ((nI (setN f 16) >>> ((1 : Int32) &&& 31)) &&& (21845 : Int32)))) ||| nI (setN d 16)) ||| nI (setN u 16)) &&& (65535 : Int32))
    = nI (setN (fun i => f i || (f ((i + 4) % 16) || f ((i + 12) % 16)) || f (if i % 4 < 2 then i + 2 else i - 2) || f (if i % 2 < 1 then i + 1 else i - 1) || d i || u i) 16) := by
  have l1 := setN_lt f 16
  have l2 := setN_lt d 16
  have l3 := setN_lt u 16
  generalize hA : setN f 16 = A at l1
  generalize hB : setN d 16 = B at l2
  generalize hC : setN u 16 = C at l3
  have tA : ∀ i, A.testBit i = (decide (i < 16) && f i) := fun i => by rw [← hA]; exact setN_tb f 16 i
  have tB : ∀ i, B.testBit i = (decide (i < 16) && d i) := fun i => by rw [← hB]; exact setN_tb d 16 i
  have tC : ∀ i, C.testBit i = (decide (i < 16) && u i) := fun i => by rw [← hC]; exact setN_tb u 16 i
  have a1 : A &&& 13107 < 2 ^ 16 := Nat.lt_of_le_of_lt Nat.and_le_left l1
  have a2 : A &&& 21845 < 2 ^ 16 := Nat.lt_of_le_of_lt Nat.and_le_left l1
  have d12 : A / 2 ^ 12 < 2 ^ 16 := Nat.lt_of_le_of_lt (Nat.div_le_self _ _) l1
  have d4 : A / 2 ^ 4 < 2 ^ 16 := Nat.lt_of_le_of_lt (Nat.div_le_self _ _) l1
  have d2 : A / 2 ^ 2 < 2 ^ 16 := Nat.lt_of_le_of_lt (Nat.div_le_self _ _) l1
  have d1 : A / 2 ^ 1 < 2 ^ 16 := Nat.lt_of_le_of_lt (Nat.div_le_self _ _) l1
  have a3 : A / 2 ^ 2 &&& 13107 < 2 ^ 16 := Nat.lt_of_le_of_lt Nat.and_le_left d2
  have a4 : A / 2 ^ 1 &&& 21845 < 2 ^ 16 := Nat.lt_of_le_of_lt Nat.and_le_left d1
  rw [pk_shlN _ 4 (by decide) (by omega), pk_shrN (by omega) _ 12 (by decide), pk_shrN (by omega) _ 4 (by decide), pk_shlN _ 12 (by decide) (by omega), pk_shrN (by omega) _ 2 (by decide), pk_shrN (by omega) _ 1 (by decide), show (13107 : Int32) = nI 13107 from rfl, show (21845 : Int32) = nI 21845 from rfl, nI_and (by omega) (by omega), nI_and (by omega) (by omega), nI_and (by omega) (by omega), nI_and (by omega) (by omega), pk_shlN _ 2 (by decide) (by omega), pk_shlN _ 1 (by decide) (by omega)]
  have b28 : ∀ x y : Nat, x < 2 ^ 30 → y < 2 ^ 30 → nI x ||| nI y = nI (x ||| y) ∧ x ||| y < 2 ^ 30 := fun x y hx hy => ⟨nI_or (by omega) (by omega), Nat.or_lt_two_pow hx hy⟩
  have o1 := b28 (A * 2 ^ 4) (A / 2 ^ 12) (by omega) (by omega)
  have o2 := b28 _ (A / 2 ^ 4) o1.2 (by omega)
  have o3 := b28 _ (A * 2 ^ 12) o2.2 (by omega)
  have o4 := b28 A _ (by omega) o3.2
  have o5 := b28 ((A &&& 13107) * 2 ^ 2) (A / 2 ^ 2 &&& 13107) (by omega) (by omega)
  have o6 := b28 _ _ o4.2 o5.2
  have o7 := b28 ((A &&& 21845) * 2 ^ 1) (A / 2 ^ 1 &&& 21845) (by omega) (by omega)
  have o8 := b28 _ _ o6.2 o7.2
  have o9 := b28 _ B o8.2 (by omega)
  have o10 := b28 _ C o9.2 (by omega)
  rw [o1.1, o2.1, o3.1, o4.1, o5.1, o6.1, o7.1, o8.1, o9.1, o10.1, pk_andN (by omega) 16 (by decide)]
  congr 1
  apply Nat.eq_of_testBit_eq
  intro i
  rw [setN_tb, Nat.testBit_mod_two_pow]
  by_cases hi : i < 16
  · rw [decide_eq_true hi, Bool.true_and, Bool.true_and]
    simp only [Nat.testBit_or, Nat.testBit_and, Nat.testBit_mul_two_pow, Nat.testBit_div_two_pow, tA, tB, tC]
    have : i = 0 ∨ i = 1 ∨ i = 2 ∨ i = 3 ∨ i = 4 ∨ i = 5 ∨ i = 6 ∨ i = 7 ∨ i = 8 ∨ i = 9 ∨ i = 10 ∨ i = 11 ∨ i = 12 ∨ i = 13 ∨ i = 14 ∨ i = 15 := by omega
    rcases this with rfl | rfl | rfl | rfl | rfl | rfl | rfl | rfl | rfl | rfl | rfl | rfl | rfl | rfl | rfl | rfl <;> simp [Nat.testBit] <;> simp only [Bool.or_comm, Bool.or_left_comm, Bool.or_assoc]
  · rw [decide_eq_false hi]; rfl
