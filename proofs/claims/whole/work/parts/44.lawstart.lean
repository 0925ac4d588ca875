theorem tw_147 : Cond.instantiable RX11 15 ∈ pw_tb := pw_w 148 _ (by decide +kernel) (by decide +kernel)
theorem tw_1384 : Cond.instantiable RX12 62 ∈ pw_tb := pw_w 1383 _ (by decide +kernel) (by decide +kernel)
theorem lw_nest {b : Nat} {s : State} (htl : ∀ w ∈ lw_tbl, w.before #[Value.ref b] s = true) : ∀ q ∈ pw_nest, va_Nw (.methodLinkNest q.1 q.2.1 q.2.2 "HalfCitizen") s := by
  have h0 : ∀ q ∈ pw_nest, Cond.methodLinkNest q.1 q.2.1 q.2.2 "HalfCitizen" ∈ lw_tbl := by decide +kernel
  intro q hq
  exact va_Nw.of rfl (htl _ (h0 q hq))
theorem lw_arr {ty : FieldType} {b : Nat} {s : State} (h : (Cond.arrayClass ty).before #[Value.ref b] s = true) (hty : ∀ C, ty ≠ .object C) : ∃ cA : ClassId, ArrOfT s cA ty ∧ va_RA s cA ty := by
  obtain ⟨cA, kA, comp, h1, h2, h3⟩ := Cond.arrayClass_spec (args := #[Value.ref b]) (first := s) (o := none) (s := s) (idx := []) h
  refine ⟨cA, fun n z => ⟨fun k h => (by cases h), kA, h2, comp, h3⟩, ?_⟩
  cases ty <;> first | exact h1 | exact absurd rfl (hty _)
theorem lw_known {b : Nat} {s : State} (hts : ∀ w ∈ pw_tb, w.before #[Value.ref b] s = true) : ∃ D : va_G, ∀ (k : Nat) (q : vw_C), pw_cl[k]? = some q → u_Kn s q.1 q.2.1 q.2.2 (D.1 k) (D.2 k) := by
  obtain ⟨c0, i0, h0⟩ := u_known (C := RX0) (T := TX0) (N := 6) (n := 6) hts pi_0 (hts _ tw_449)
  obtain ⟨c1, i1, h1⟩ := u_known (C := RX1) (T := TX1) (N := 1) (n := 1) hts pi_1 (hts _ tw_586)
  obtain ⟨c2, i2, h2⟩ := u_known (C := RX2) (T := TX2) (N := 8) (n := 8) hts pi_2 (hts _ tw_161)
  obtain ⟨c3, i3, h3⟩ := u_known (C := RX3) (T := TX3) (N := 9) (n := 9) hts pi_3 (hts _ tw_516)
  obtain ⟨c4, i4, h4⟩ := u_known (C := RX4) (T := TX4) (N := 6) (n := 6) hts pi_4 (hts _ tw_290)
  obtain ⟨c5, i5, h5⟩ := u_known (C := RX5) (T := TX5) (N := 3) (n := 3) hts pi_5 (hts _ tw_430)
  obtain ⟨c6, i6, h6⟩ := u_known (C := RX6) (T := TX6) (N := 2) (n := 2) hts pi_6 (hts _ tw_395)
  obtain ⟨c7, i7, h7⟩ := u_known (C := RX7) (T := TX7) (N := 10) (n := 10) hts pi_7 (hts _ tw_298)
  obtain ⟨c8, i8, h8⟩ := u_known (C := RX8) (T := TX8) (N := 18) (n := 18) hts pi_8 (hts _ tw_155)
  obtain ⟨c9, i9, h9⟩ := u_known (C := RX9) (T := TX9) (N := 6) (n := 6) hts pi_9 (hts _ tw_490)
  obtain ⟨c10, i10, h10⟩ := u_known (C := RX10) (T := TX10) (N := 7) (n := 7) hts pi_10 (hts _ tw_553)
  obtain ⟨c11, i11, h11⟩ := u_known (C := RX11) (T := TX11) (N := 15) (n := 15) hts pi_11 (hts _ tw_147)
  obtain ⟨c12, i12, h12⟩ := u_known (C := RX12) (T := TX12) (N := 62) (n := 62) hts pi_12 (hts _ tw_1384)
  refine ⟨(fun k => (if k = 0 then c0 else if k = 1 then c1 else if k = 2 then c2 else if k = 3 then c3 else if k = 4 then c4 else if k = 5 then c5 else if k = 6 then c6 else if k = 7 then c7 else if k = 8 then c8 else if k = 9 then c9 else if k = 10 then c10 else if k = 11 then c11 else c12), fun k => (if k = 0 then i0 else if k = 1 then i1 else if k = 2 then i2 else if k = 3 then i3 else if k = 4 then i4 else if k = 5 then i5 else if k = 6 then i6 else if k = 7 then i7 else if k = 8 then i8 else if k = 9 then i9 else if k = 10 then i10 else if k = 11 then i11 else i12)), ?_⟩
  intro k q hq
  match k, hq with
  | 0, hq => cases hq; exact h0
  | 1, hq => cases hq; exact h1
  | 2, hq => cases hq; exact h2
  | 3, hq => cases hq; exact h3
  | 4, hq => cases hq; exact h4
  | 5, hq => cases hq; exact h5
  | 6, hq => cases hq; exact h6
  | 7, hq => cases hq; exact h7
  | 8, hq => cases hq; exact h8
  | 9, hq => cases hq; exact h9
  | 10, hq => cases hq; exact h10
  | 11, hq => cases hq; exact h11
  | 12, hq => cases hq; exact h12
  | k + 13, hq => simp [pw_cl] at hq
def lw_fl : List Cond := flatC (Cond.and given_1 narrow_1)
def lw_tm (i : Nat) : Term := if i = 0 then .string RX7 43 else .string RX12 188
def lw_el (i j : Nat) : Cond := .eq (.elem (.field (lw_tm i) "java/lang/String" "value" "[B") (.int (Int32.ofNat j))) (.int ((pw_byt.getD i []).getD j 0))
theorem lw_f0 : (lw_fl.drop 43).take 171 = (List.range 171).map (lw_el 0) := by decide +kernel
theorem lw_f1 : (lw_fl.drop 252).take 176 = (List.range 176).map (lw_el 1) := by decide +kernel
theorem lw_ix {i : Nat} {w : Cond} (h : lw_fl[i]? = some w) : w ∈ lw_fl := List.mem_of_getElem? h
theorem lw_ex : ∀ i : Nat, i < 2 → Cond.exactly (lw_tm i) "java/lang/String" ∈ lw_fl := fun i h => match i, h with
  | 0, _ => lw_ix (i := 39) (by decide +kernel)
  | 1, _ => lw_ix (i := 248) (by decide +kernel)
theorem lw_co : ∀ i : Nat, i < 2 → Cond.eq (.field (lw_tm i) "java/lang/String" "coder" "B") (.int 0) ∈ lw_fl := fun i h => match i, h with
  | 0, _ => lw_ix (i := 40) (by decide +kernel)
  | 1, _ => lw_ix (i := 249) (by decide +kernel)
theorem lw_ar : ∀ i : Nat, i < 2 → Cond.arrayOf (.field (lw_tm i) "java/lang/String" "value" "[B") .byte ∈ lw_fl := fun i h => match i, h with
  | 0, _ => lw_ix (i := 41) (by decide +kernel)
  | 1, _ => lw_ix (i := 250) (by decide +kernel)
theorem lw_le : ∀ i : Nat, i < 2 → Cond.eq (.length (.field (lw_tm i) "java/lang/String" "value" "[B")) (.int (Int32.ofNat (pw_len.getD i 0))) ∈ lw_fl := fun i h => match i, h with
  | 0, _ => lw_ix (i := 42) (by decide +kernel)
  | 1, _ => lw_ix (i := 251) (by decide +kernel)
theorem lw_el0 {j : Nat} (h : j < 171) : lw_el 0 j ∈ lw_fl := by
  have h1 : lw_el 0 j ∈ (List.range 171).map (lw_el 0) := List.mem_map.mpr ⟨j, List.mem_range.mpr h, rfl⟩
  rw [← lw_f0] at h1
  exact List.mem_of_mem_drop (List.mem_of_mem_take h1)
theorem lw_el1 {j : Nat} (h : j < 176) : lw_el 1 j ∈ lw_fl := by
  have h1 : lw_el 1 j ∈ (List.range 176).map (lw_el 1) := List.mem_map.mpr ⟨j, List.mem_range.mpr h, rfl⟩
  rw [← lw_f1] at h1
  exact List.mem_of_mem_drop (List.mem_of_mem_take h1)
theorem lw_ne : Cond.not (Cond.eq (lw_tm 0) (lw_tm 1)) ∈ lw_fl := lw_ix (i := 428) (by decide +kernel)
theorem lw_strs {b : Nat} {s : State} {A : Nat → Prop} (hg : (Cond.and given_1 narrow_1).before #[Value.ref b] s = true) (hA : ∀ a : Nat, a < s.heap.size → ¬ A a) : ∃ adK adV : Nat → Nat, vk_S 2 pw_len pw_byt adK adV A s s.heap ∧ ∀ i : Nat, i < 2 → (lw_tm i).eval #[Value.ref b] s none [] s = some (.ref (adK i)) := by
  have hs : ∀ w ∈ lw_fl, w.before #[Value.ref b] s = true := flat_of_before _ hg
  refine vk_Sof (args := #[Value.ref b]) (tm := lw_tm) (fun i h => match i, h with | 0, _ => by decide | 1, _ => by decide) (fun i h => hs _ (lw_ex i h)) (fun i h => hs _ (lw_co i h)) (fun i h => hs _ (lw_ar i h)) (fun i h => hs _ (lw_le i h)) (fun i h j hj => ?_) (fun i j h1 h2 h3 => ?_) hA
  · match i, h with
    | 0, _ => exact hs _ (lw_el0 hj)
    | 1, _ => exact hs _ (lw_el1 hj)
  · rcases (show (i = 0 ∧ j = 1) ∨ (i = 1 ∧ j = 0) by omega) with ⟨rfl, rfl⟩ | ⟨rfl, rfl⟩
    · exact .inl (hs _ lw_ne)
    · exact .inr (hs _ lw_ne)
theorem lw_ord1 : ∀ i : Nat, i < 124 → lw_ord.idxOf (lw_ord.getD i 0) = i ∧ lw_ord.getD i 0 < 9000 := by decide +kernel
theorem lw_ordL : lw_ord.length = 124 := by decide +kernel
theorem lw_Cof {p : Program} {l : Launch} {s : State} {m : MethodId} {meth : Method} {c : Code} {b L : Nat} {xs : Nat → Int32} (C0 : lw_At p s m meth c b L xs) : ∃ (D : va_G) (cy ad : Nat → Nat), lw_C p l s m meth c b L xs D cy ad := by
  obtain ⟨hx, hb, hr, hml, hown, htl, hXs, hbl, hlk, hgv⟩ := id C0
  have hts : ∀ w ∈ pw_tb, w.before #[Value.ref b] s = true := fun w hw => htl w (List.mem_filter.mp hw).1
  have hs : ∀ w ∈ lw_fl, w.before #[Value.ref b] s = true := flat_of_before _ hgv
  have hA : ∀ a : Nat, a < s.heap.size → ¬ (fun q : Nat => s.heap.size ≤ q) a := fun a h => Nat.not_le.mpr h
  obtain ⟨D, hD⟩ := lw_known hts
  obtain ⟨y0, hy0⟩ := lw_arr (hts _ tw_194) (fun C h => by cases h)
  obtain ⟨y1, hy1⟩ := lw_arr (hts _ tw_195) (fun C h => by cases h)
  obtain ⟨y2, hy2⟩ := lw_arr (hts _ tw_551) (fun C h => by cases h)
  obtain ⟨adK, adV, hS, hE⟩ := lw_strs hgv hA
  have hz : va_Z "java/lang/String" "COMPACT_STRINGS" "Z" (.int 1) (fun q : Nat => s.heap.size ≤ q) s s.heap := va_Zof (htl _ (List.mem_of_getElem? (i := 314) (by decide +kernel))) (htl _ (List.mem_of_getElem? (i := 127) (by decide +kernel))) (va_eqt (hs _ (lw_ix (i := 4) (by decide +kernel)))) hA
  have hq : va_Zq "jdk/internal/util/Preconditions" "SIOOBE_FORMATTER" "Ljava/util/function/BiFunction;" (fun q : Nat => s.heap.size ≤ q) s s.heap := va_Zqof (htl _ (List.mem_of_getElem? (i := 330) (by decide +kernel))) (htl _ (List.mem_of_getElem? (i := 129) (by decide +kernel))) (hs _ (lw_ix (i := 5) (by decide +kernel))) hA
  obtain ⟨t0, ht0⟩ : ∃ t0 : Nat, va_Z "jdk/internal/util/Preconditions" "SIOOBE_FORMATTER" "Ljava/util/function/BiFunction;" (.ref t0) (fun q : Nat => s.heap.size ≤ q) s s.heap ∨ va_Z "jdk/internal/util/Preconditions" "SIOOBE_FORMATTER" "Ljava/util/function/BiFunction;" .null (fun q : Nat => s.heap.size ≤ q) s s.heap := by
    rcases hq with h | ⟨t, h⟩
    · exact ⟨0, .inr h⟩
    · exact ⟨t, .inl h⟩
  refine ⟨D, fun k => if k = 0 then y0 else if k = 1 then y1 else y2, fun id => if id < 9000 then s.heap.size + lw_ord.idxOf id else if id = 9500 then b else if id = 9201 then t0 else if id < 9100 then adK (id - 9001) else adV (id - 9101), C0, hts, ⟨hD, ?_⟩, ?_, ⟨?_, ?_, ?_, hz, ht0, lw_nest htl⟩, rfl⟩
  · intro k q hk
    match k, hk with
    | 0, hk => cases hk; exact hy0
    | 1, hk => cases hk; exact hy1
    | 2, hk => cases hk; exact hy2
    | k + 3, hk => simp [pw_tys] at hk
  · intro i id hi
    have h1 : i < 124 := by rw [← lw_ordL]; exact (List.getElem?_eq_some_iff.mp hi).1
    have h2 := lw_ord1 i h1
    have h3 : lw_ord.getD i 0 = id := by rw [List.getD_eq_getElem?_getD, hi]; rfl
    rw [h3] at h2
    show (if id < 9000 then s.heap.size + lw_ord.idxOf id else _) = _
    rw [if_pos h2.2, h2.1]
  · have e1 : (fun i : Nat => if 9001 + i < 9000 then s.heap.size + lw_ord.idxOf (9001 + i) else if 9001 + i = 9500 then b else if 9001 + i = 9201 then t0 else if 9001 + i < 9100 then adK (9001 + i - 9001) else adV (9001 + i - 9101)) 0 = adK 0 := rfl
    refine ⟨fun i hi => ?_, fun i j hi hj h => ?_⟩
    · match i, hi with
      | 0, _ => exact hS.1 0 (by decide)
      | 1, _ => exact hS.1 1 (by decide)
    · match i, hi, j, hj, h with
      | 0, _, 0, _, _ => rfl
      | 1, _, 1, _, _ => rfl
      | 0, hi, 1, hj, h => exact absurd (hS.2 0 1 hi hj h) (by decide)
      | 1, hi, 0, hj, h => exact absurd (hS.2 1 0 hi hj h) (by decide)
  · exact vk_R.of (htl _ (List.mem_of_getElem? (i := 304) (by decide +kernel))) (hE 0 (by decide))
  · exact vk_R.of (htl _ (List.mem_of_getElem? (i := 1614) (by decide +kernel))) (hE 1 (by decide))
