/-! THE LAW'S WALK. Its world: the class's cells, the reference's, the row 'out' (8000); the script is 9500 -/
def R_law : String := "HalfCitizenLaw"
def lw_P (b : Addr) (xs : List Int32) (args : Array Value) (s : State) : Prop := args = #[.ref b] ∧ s.IntsAt b xs ∧ xs.length ≤ 3072 ∧ (Jvm.Cond.and given_1 narrow_1).before args s = true
def lw_Q (_ : Array Value) (s : State) (o : Outcome) (t : State) : Prop := o = .returned (some (.int 1)) ∧ Framed s o t [] 601024 7293034
def lw_Z (below : List Frame) (a : Array Value) (s : State) : State → Prop := fun t => ∃ o, t.status = .running ∧ Ended t below o ∧ lw_Q a s o t
/-- the law's own end, with 1 on the stack, nothing written that was there before, its room as the claim has it -/
theorem lw_ret {p : Program} {l : Launch} {e : Env} {s : State} {m : MethodId} {below : List Frame} {meth : Method} {c : Code} {b : Nat} (hx : p.tables.exec = Jvm.exec) (hb : c.code = code) (hr : meth.sig.returnType = ret) (hlocks : meth.locks = false) {pc : Nat} {H : Heap} {ls : Array Slot} (hdg : decode code pc = .ok (.ireturn, 1)) : W p l e room_1 s m #[Value.ref b] below meth c H [] 601024 7293034 (lw_Z below #[Value.ref b] s) (F0 m pc ls [.int 1]) := by
  intro T hT X
  obtain ⟨fs, hret, hrun, hended, hW, hframe⟩ := X.leave (v := some (.int 1)) (hlocks := hlocks) (fun h => by rw [hr] at h; cases h)
  have hmeth' : T.vm.method? m = some meth := X.method'
  refine ⟨T.setFrames fs, ?_, .returned (some (.int 1)), hrun, hended, rfl, ⟨_, rfl⟩, hW, hframe⟩
  jvm_step X.here [X.here.top, hx, hb, hdg, hmeth', hr, ret, narrow_b1]
  (try refine ⟨rfl, ?_⟩); (try refine ⟨rfl, ?_⟩)
  first | (intro acts; rw [hret _ acts rfl rfl rfl]) | rw [hret _ _ rfl rfl rfl]
  exact Steps.refl _
/-- what holds at the law's entry: the machine, the code, the tables' words (any of lw_tbl by 'hts w (by decide +kernel)'), the script of L ints xs at the cell b, what the Statement gives of the start (any of its parts by flat_of_before) -/
def lw_At (p : Program) (s : State) (m : MethodId) (meth : Method) (c : Code) (b L : Nat) (xs : Nat → Int32) : Prop :=
  p.tables.exec = Jvm.exec ∧ c.code = code ∧ meth.sig.returnType = ret ∧ c.maxLocals = 7 ∧ s.vm.findClass R_law = some m.cls ∧ (∀ w ∈ lw_tbl, w.before #[Value.ref b] s = true) ∧ va_X b L xs s s.heap ∧ b < s.heap.size ∧ meth.locks = false ∧ (Jvm.Cond.and given_1 narrow_1).before #[Value.ref b] s = true
def alL : pAL := alC ++ alM ++ [(8000, 14, 1)]
def lw_ord : List Nat := [100, 101, 300, 303, 304, 305, 308, 309, 310, 311, 313, 314, 315, 316, 1300, 1303, 1304, 1305, 1306, 1307, 1308, 200, 400, 403, 404, 405, 408, 409, 410, 411, 413, 414, 415, 416, 1400, 1403, 1404, 1405, 1406, 1407, 1408, 500, 502, 600, 1000, 700, 703, 704, 705, 706, 800, 803, 804, 805, 806, 900, 903, 904, 905, 906, 1100, 1102, 1103, 1104, 1105, 1106, 1200, 1203, 1204, 1205, 1206, 1207, 1208, 1209, 1500, 1502, 1503, 1504, 1505, 1506, 1507, 1600, 1601, 5000, 5002, 5004, 5005, 5006, 5007, 5008, 5009, 5010, 5011, 5012, 5013, 5014, 5015, 5016, 5017, 5018, 5019, 5020, 5021, 5035, 5036, 5039, 5040, 5041, 5042, 5043, 5044, 5045, 5049, 5050, 5051, 5053, 5056, 5057, 5058, 5059, 5060, 5061, 5062, 8000]
def lw_C (p : Program) (l : Launch) (s : State) (m : MethodId) (meth : Method) (c : Code) (b L : Nat) (xs : Nat → Int32) (D : va_G) (cy ad : Nat → Nat) : Prop :=
  lw_At p s m meth c b L xs ∧ (∀ w ∈ pw_tb, w.before #[Value.ref b] s = true) ∧ va_K D pw_cl (pw_tys cy) s ∧ (∀ i id, lw_ord[i]? = some id → ad id = s.heap.size + i) ∧ pw_X ad (fun q => s.heap.size ≤ q) s ∧ ad 9500 = b
def PL (L : Nat) (xs : Nat → Int32) (pc : Nat) (lv : List (Nat × Value)) (st : List Value) (al : pAL) (k n : Nat) (σ : pS) : Prop :=
  ∀ (p : Program) (l : Launch) (e : Env) (s : State) (m : MethodId) (below : List Frame) (meth : Method) (c : Code) (b : Nat) (D : va_G) (cy ad : Nat → Nat) (H : Heap) (locs : List Loc) (ls : Array Slot),
    lw_C p l s m meth c b L xs D cy ad → l.stackTraces = false → va_P D pw_cl (pw_ws ad cy al σ) H → va_D (fun q => s.heap.size ≤ q) (pw_ws ad cy al σ) → va_S (fun q => s.heap.size ≤ q) s.heap H locs → lv_has ls 7 (pw_lv ad lv) →
    W p l e room_1 s m #[Value.ref b] below meth c H locs k n (lw_Z below #[Value.ref b] s) (F0 m pc ls (st.map (pw_cv ad)))
theorem PL_iconst {L : Nat} {xs : Nat → Int32} {pc pc' : Nat} {lv : List (Nat × Value)} {st : List Value} {al : pAL} {k n : Nat} {σ : pS} {z : Int} {v : Int32} (hd : decode code pc = .ok (.iconst z, 1)) (hp : pc + 1 = pc') (hv : Int32.ofInt z = v) (h : PL L xs pc' lv (.int v :: st) al k n σ) : PL L xs pc lv (st) al k n σ := by
  subst hp
  intro p l e s m below meth c b D cy ad H locs ls C hst0 hP hD hS hl
  have C2 := C
  obtain ⟨⟨hx, hb, hr, hml, hown, htl, hXs, hbl, hlk, hgv⟩, hts, hK, ho, hX, hab⟩ := C2
  exact lv_iconst hx hb hd hv (h p l e s m below meth c b D cy ad H locs ls C hst0 hP hD hS hl)
theorem PL_bipush {L : Nat} {xs : Nat → Int32} {pc pc' : Nat} {lv : List (Nat × Value)} {st : List Value} {al : pAL} {k n : Nat} {σ : pS} {z : Int} {v : Int32} (hd : decode code pc = .ok (.bipush z, 2)) (hp : pc + 2 = pc') (hv : (Int8.ofInt z).toInt32 = v) (h : PL L xs pc' lv (.int v :: st) al k n σ) : PL L xs pc lv (st) al k n σ := by
  subst hp
  intro p l e s m below meth c b D cy ad H locs ls C hst0 hP hD hS hl
  have C2 := C
  obtain ⟨⟨hx, hb, hr, hml, hown, htl, hXs, hbl, hlk, hgv⟩, hts, hK, ho, hX, hab⟩ := C2
  exact lv_bipush hx hb hd hv (h p l e s m below meth c b D cy ad H locs ls C hst0 hP hD hS hl)
theorem PL_iload_n {L : Nat} {xs : Nat → Int32} {pc pc' : Nat} {lv : List (Nat × Value)} {st : List Value} {al : pAL} {k n : Nat} {σ : pS} {j : Fin 4} {i q : Nat} {x : Int32} (hd : decode code pc = .ok (.iload_n j, 1)) (hp : pc + 1 = pc') (hi : (j : Nat) = i) (hq : lv[q]? = some (i, .int x)) (h : PL L xs pc' lv (.int x :: st) al k n σ) : PL L xs pc lv st al k n σ := by
  subst hp
  intro p l e s m below meth c b D cy ad H locs ls C hst0 hP hD hS hl
  have C2 := C
  obtain ⟨⟨hx, hb, hr, hml, hown, htl, hXs, hbl, hlk, hgv⟩, hts, hK, ho, hX, hab⟩ := C2
  exact lv_iload_n hx hb hd hi (lv_at hl q (pw_lv_at hq)) (h p l e s m below meth c b D cy ad H locs ls C hst0 hP hD hS hl)
theorem PL_iload {L : Nat} {xs : Nat → Int32} {pc pc' : Nat} {lv : List (Nat × Value)} {st : List Value} {al : pAL} {k n : Nat} {σ : pS} {i q : Nat} {x : Int32} (hd : decode code pc = .ok (.iload i, 2)) (hp : pc + 2 = pc') (hq : lv[q]? = some (i, .int x)) (h : PL L xs pc' lv (.int x :: st) al k n σ) : PL L xs pc lv st al k n σ := by
  subst hp
  intro p l e s m below meth c b D cy ad H locs ls C hst0 hP hD hS hl
  have C2 := C
  obtain ⟨⟨hx, hb, hr, hml, hown, htl, hXs, hbl, hlk, hgv⟩, hts, hK, ho, hX, hab⟩ := C2
  exact lv_iload hx hb hd (lv_at hl q (pw_lv_at hq)) (h p l e s m below meth c b D cy ad H locs ls C hst0 hP hD hS hl)
theorem PL_istore_n {L : Nat} {xs : Nat → Int32} {pc pc' : Nat} {lv : List (Nat × Value)} {st : List Value} {al : pAL} {k n : Nat} {σ : pS} {j : Fin 4} {i : Nat} {x : Int32} {lv' : List (Nat × Value)} (hd : decode code pc = .ok (.istore_n j, 1)) (hp : pc + 1 = pc') (hi : (j : Nat) = i) (hn : i < 7) (hv : (i, .int x) :: lv.filter (pw_f1 i) = lv') (h : PL L xs pc' lv' st al k n σ) : PL L xs pc lv (.int x :: st) al k n σ := by
  subst hp
  subst hv
  intro p l e s m below meth c b D cy ad H locs ls C hst0 hP hD hS hl
  have C2 := C
  obtain ⟨⟨hx, hb, hr, hml, hown, htl, hXs, hbl, hlk, hgv⟩, hts, hK, ho, hX, hab⟩ := C2
  exact lv_istore_n hx hb hd hi hl hn (by rw [pw_lv_f1]; rfl) (fun ls hl => h p l e s m below meth c b D cy ad H locs ls C hst0 hP hD hS hl)
theorem PL_istore {L : Nat} {xs : Nat → Int32} {pc pc' : Nat} {lv : List (Nat × Value)} {st : List Value} {al : pAL} {k n : Nat} {σ : pS} {i : Nat} {x : Int32} {lv' : List (Nat × Value)} (hd : decode code pc = .ok (.istore i, 2)) (hp : pc + 2 = pc') (hn : i < 7) (hv : (i, .int x) :: lv.filter (pw_f1 i) = lv') (h : PL L xs pc' lv' st al k n σ) : PL L xs pc lv (.int x :: st) al k n σ := by
  subst hp
  subst hv
  intro p l e s m below meth c b D cy ad H locs ls C hst0 hP hD hS hl
  have C2 := C
  obtain ⟨⟨hx, hb, hr, hml, hown, htl, hXs, hbl, hlk, hgv⟩, hts, hK, ho, hX, hab⟩ := C2
  exact lv_istore hx hb hd hl hn (by rw [pw_lv_f1]; rfl) (fun ls hl => h p l e s m below meth c b D cy ad H locs ls C hst0 hP hD hS hl)
theorem PL_aload_n {L : Nat} {xs : Nat → Int32} {pc pc' : Nat} {lv : List (Nat × Value)} {st : List Value} {al : pAL} {k n : Nat} {σ : pS} {j : Fin 4} {i q : Nat} {x : Nat} (hd : decode code pc = .ok (.aload_n j, 1)) (hp : pc + 1 = pc') (hi : (j : Nat) = i) (hq : lv[q]? = some (i, .ref x)) (h : PL L xs pc' lv (.ref x :: st) al k n σ) : PL L xs pc lv st al k n σ := by
  subst hp
  intro p l e s m below meth c b D cy ad H locs ls C hst0 hP hD hS hl
  have C2 := C
  obtain ⟨⟨hx, hb, hr, hml, hown, htl, hXs, hbl, hlk, hgv⟩, hts, hK, ho, hX, hab⟩ := C2
  exact lv_aload_n hx hb hd hi (lv_at hl q (pw_lv_at hq)) (h p l e s m below meth c b D cy ad H locs ls C hst0 hP hD hS hl)
theorem PL_aload {L : Nat} {xs : Nat → Int32} {pc pc' : Nat} {lv : List (Nat × Value)} {st : List Value} {al : pAL} {k n : Nat} {σ : pS} {i q : Nat} {x : Nat} (hd : decode code pc = .ok (.aload i, 2)) (hp : pc + 2 = pc') (hq : lv[q]? = some (i, .ref x)) (h : PL L xs pc' lv (.ref x :: st) al k n σ) : PL L xs pc lv st al k n σ := by
  subst hp
  intro p l e s m below meth c b D cy ad H locs ls C hst0 hP hD hS hl
  have C2 := C
  obtain ⟨⟨hx, hb, hr, hml, hown, htl, hXs, hbl, hlk, hgv⟩, hts, hK, ho, hX, hab⟩ := C2
  exact lv_aload hx hb hd (lv_at hl q (pw_lv_at hq)) (h p l e s m below meth c b D cy ad H locs ls C hst0 hP hD hS hl)
theorem PL_astore_n {L : Nat} {xs : Nat → Int32} {pc pc' : Nat} {lv : List (Nat × Value)} {st : List Value} {al : pAL} {k n : Nat} {σ : pS} {j : Fin 4} {i : Nat} {x : Nat} {lv' : List (Nat × Value)} (hd : decode code pc = .ok (.astore_n j, 1)) (hp : pc + 1 = pc') (hi : (j : Nat) = i) (hn : i < 7) (hv : (i, .ref x) :: lv.filter (pw_f1 i) = lv') (h : PL L xs pc' lv' st al k n σ) : PL L xs pc lv (.ref x :: st) al k n σ := by
  subst hp
  subst hv
  intro p l e s m below meth c b D cy ad H locs ls C hst0 hP hD hS hl
  have C2 := C
  obtain ⟨⟨hx, hb, hr, hml, hown, htl, hXs, hbl, hlk, hgv⟩, hts, hK, ho, hX, hab⟩ := C2
  exact lv_astore_n hx hb hd hi hl hn (by rw [pw_lv_f1]; rfl) (fun ls hl => h p l e s m below meth c b D cy ad H locs ls C hst0 hP hD hS hl)
theorem PL_astore {L : Nat} {xs : Nat → Int32} {pc pc' : Nat} {lv : List (Nat × Value)} {st : List Value} {al : pAL} {k n : Nat} {σ : pS} {i : Nat} {x : Nat} {lv' : List (Nat × Value)} (hd : decode code pc = .ok (.astore i, 2)) (hp : pc + 2 = pc') (hn : i < 7) (hv : (i, .ref x) :: lv.filter (pw_f1 i) = lv') (h : PL L xs pc' lv' st al k n σ) : PL L xs pc lv (.ref x :: st) al k n σ := by
  subst hp
  subst hv
  intro p l e s m below meth c b D cy ad H locs ls C hst0 hP hD hS hl
  have C2 := C
  obtain ⟨⟨hx, hb, hr, hml, hown, htl, hXs, hbl, hlk, hgv⟩, hts, hK, ho, hX, hab⟩ := C2
  exact lv_astore hx hb hd hl hn (by rw [pw_lv_f1]; rfl) (fun ls hl => h p l e s m below meth c b D cy ad H locs ls C hst0 hP hD hS hl)
theorem PL_iinc {L : Nat} {xs : Nat → Int32} {pc pc' : Nat} {lv : List (Nat × Value)} {st : List Value} {al : pAL} {k n : Nat} {σ : pS} {i q : Nat} {z : Int} {x v : Int32} {lv' : List (Nat × Value)} (hd : decode code pc = .ok (.iinc i z, 3)) (hp : pc + 3 = pc') (hq : lv[q]? = some (i, .int x)) (hxv : x + Int32.ofInt z = v) (hn : i < 7) (hv : (i, .int v) :: lv.filter (pw_f1 i) = lv') (h : PL L xs pc' lv' st al k n σ) : PL L xs pc lv st al k n σ := by
  subst hp
  subst hv
  intro p l e s m below meth c b D cy ad H locs ls C hst0 hP hD hS hl
  have C2 := C
  obtain ⟨⟨hx, hb, hr, hml, hown, htl, hXs, hbl, hlk, hgv⟩, hts, hK, ho, hX, hab⟩ := C2
  exact lv_iinc hx hb hd hl (pw_lv_at hq) hxv hn (by rw [pw_lv_f1]; rfl) (fun ls hl => h p l e s m below meth c b D cy ad H locs ls C hst0 hP hD hS hl)
theorem PL_iadd {L : Nat} {xs : Nat → Int32} {pc pc' : Nat} {lv : List (Nat × Value)} {st : List Value} {al : pAL} {k n : Nat} {σ : pS} {x y : Int32} (hd : decode code pc = .ok (.iadd, 1)) (hp : pc + 1 = pc') (h : PL L xs pc' lv (.int (x + y) :: st) al k n σ) : PL L xs pc lv (.int y :: .int x :: st) al k n σ := by
  subst hp
  intro p l e s m below meth c b D cy ad H locs ls C hst0 hP hD hS hl
  have C2 := C
  obtain ⟨⟨hx, hb, hr, hml, hown, htl, hXs, hbl, hlk, hgv⟩, hts, hK, ho, hX, hab⟩ := C2
  exact lv_iadd hx hb hd (h p l e s m below meth c b D cy ad H locs ls C hst0 hP hD hS hl)
theorem PL_isub {L : Nat} {xs : Nat → Int32} {pc pc' : Nat} {lv : List (Nat × Value)} {st : List Value} {al : pAL} {k n : Nat} {σ : pS} {x y : Int32} (hd : decode code pc = .ok (.isub, 1)) (hp : pc + 1 = pc') (h : PL L xs pc' lv (.int (x - y) :: st) al k n σ) : PL L xs pc lv (.int y :: .int x :: st) al k n σ := by
  subst hp
  intro p l e s m below meth c b D cy ad H locs ls C hst0 hP hD hS hl
  have C2 := C
  obtain ⟨⟨hx, hb, hr, hml, hown, htl, hXs, hbl, hlk, hgv⟩, hts, hK, ho, hX, hab⟩ := C2
  exact lv_isub hx hb hd (h p l e s m below meth c b D cy ad H locs ls C hst0 hP hD hS hl)
theorem PL_iand {L : Nat} {xs : Nat → Int32} {pc pc' : Nat} {lv : List (Nat × Value)} {st : List Value} {al : pAL} {k n : Nat} {σ : pS} {x y : Int32} (hd : decode code pc = .ok (.iand, 1)) (hp : pc + 1 = pc') (h : PL L xs pc' lv (.int (x &&& y) :: st) al k n σ) : PL L xs pc lv (.int y :: .int x :: st) al k n σ := by
  subst hp
  intro p l e s m below meth c b D cy ad H locs ls C hst0 hP hD hS hl
  have C2 := C
  obtain ⟨⟨hx, hb, hr, hml, hown, htl, hXs, hbl, hlk, hgv⟩, hts, hK, ho, hX, hab⟩ := C2
  exact lv_iand hx hb hd (h p l e s m below meth c b D cy ad H locs ls C hst0 hP hD hS hl)
theorem PL_lcmp {L : Nat} {xs : Nat → Int32} {pc pc' : Nat} {lv : List (Nat × Value)} {st : List Value} {al : pAL} {k n : Nat} {σ : pS} {x y : Int64} (hd : decode code pc = .ok (.lcmp, 1)) (hp : pc + 1 = pc') (h : PL L xs pc' lv (.int (lg_cmp x y) :: st) al k n σ) : PL L xs pc lv (.long y :: .long x :: st) al k n σ := by
  subst hp
  intro p l e s m below meth c b D cy ad H locs ls C hst0 hP hD hS hl
  have C2 := C
  obtain ⟨⟨hx, hb, hr, hml, hown, htl, hXs, hbl, hlk, hgv⟩, hts, hK, ho, hX, hab⟩ := C2
  exact W.lcmp hx hb hd (h p l e s m below meth c b D cy ad H locs ls C hst0 hP hD hS hl)
theorem PL_i2l {L : Nat} {xs : Nat → Int32} {pc pc' : Nat} {lv : List (Nat × Value)} {st : List Value} {al : pAL} {k n : Nat} {σ : pS} {x : Int32} (hd : decode code pc = .ok (.i2l, 1)) (hp : pc + 1 = pc') (h : PL L xs pc' lv (.long x.toInt64 :: st) al k n σ) : PL L xs pc lv (.int x :: st) al k n σ := by
  subst hp
  intro p l e s m below meth c b D cy ad H locs ls C hst0 hP hD hS hl
  have C2 := C
  obtain ⟨⟨hx, hb, hr, hml, hown, htl, hXs, hbl, hlk, hgv⟩, hts, hK, ho, hX, hab⟩ := C2
  exact lv_i2l hx hb hd rfl (h p l e s m below meth c b D cy ad H locs ls C hst0 hP hD hS hl)
theorem PL_dup {L : Nat} {xs : Nat → Int32} {pc pc' : Nat} {lv : List (Nat × Value)} {st : List Value} {al : pAL} {k n : Nat} {σ : pS} {v : Value} (hd : decode code pc = .ok (.dup, 1)) (hp : pc + 1 = pc') (hc : v.category = 1) (h : PL L xs pc' lv (v :: v :: st) al k n σ) : PL L xs pc lv (v :: st) al k n σ := by
  subst hp
  intro p l e s m below meth c b D cy ad H locs ls C hst0 hP hD hS hl
  have C2 := C
  obtain ⟨⟨hx, hb, hr, hml, hown, htl, hXs, hbl, hlk, hgv⟩, hts, hK, ho, hX, hab⟩ := C2
  exact lv_dup hx hb hd (by rw [pw_cv_cat]; exact hc) (h p l e s m below meth c b D cy ad H locs ls C hst0 hP hD hS hl)
theorem PL_if_eq {L : Nat} {xs : Nat → Int32} {pc pc' : Nat} {lv : List (Nat × Value)} {st : List Value} {al : pAL} {k n : Nat} {σ : pS} {x : Int32} {off : Int} {tgt : Nat} (hd : decode code pc = .ok (.ifCond .eq off, 3)) (hp : pc + 3 = pc') (ht : (pc : Int) + off = (tgt : Int)) (h1 : x = 0 → PL L xs tgt lv st al k n σ) (h2 : ¬ x = 0 → PL L xs pc' lv st al k n σ) : PL L xs pc lv (.int x :: st) al k n σ := by
  subst hp
  intro p l e s m below meth c b D cy ad H locs ls C hst0 hP hD hS hl
  have C2 := C
  obtain ⟨⟨hx, hb, hr, hml, hown, htl, hXs, hbl, hlk, hgv⟩, hts, hK, ho, hX, hab⟩ := C2
  exact lv_if_eq hx hb hd ht (fun z => h1 z p l e s m below meth c b D cy ad H locs ls C hst0 hP hD hS hl) (fun z => h2 z p l e s m below meth c b D cy ad H locs ls C hst0 hP hD hS hl)
theorem PL_icmp_eq {L : Nat} {xs : Nat → Int32} {pc pc' : Nat} {lv : List (Nat × Value)} {st : List Value} {al : pAL} {k n : Nat} {σ : pS} {x y : Int32} {off : Int} {tgt : Nat} (hd : decode code pc = .ok (.if_icmp .eq off, 3)) (hp : pc + 3 = pc') (ht : (pc : Int) + off = (tgt : Int)) (h1 : x = y → PL L xs tgt lv st al k n σ) (h2 : ¬ x = y → PL L xs pc' lv st al k n σ) : PL L xs pc lv (.int y :: .int x :: st) al k n σ := by
  subst hp
  intro p l e s m below meth c b D cy ad H locs ls C hst0 hP hD hS hl
  have C2 := C
  obtain ⟨⟨hx, hb, hr, hml, hown, htl, hXs, hbl, hlk, hgv⟩, hts, hK, ho, hX, hab⟩ := C2
  exact lv_icmp_eq hx hb hd ht (fun z => h1 z p l e s m below meth c b D cy ad H locs ls C hst0 hP hD hS hl) (fun z => h2 z p l e s m below meth c b D cy ad H locs ls C hst0 hP hD hS hl)
theorem PL_if_ne {L : Nat} {xs : Nat → Int32} {pc pc' : Nat} {lv : List (Nat × Value)} {st : List Value} {al : pAL} {k n : Nat} {σ : pS} {x : Int32} {off : Int} {tgt : Nat} (hd : decode code pc = .ok (.ifCond .ne off, 3)) (hp : pc + 3 = pc') (ht : (pc : Int) + off = (tgt : Int)) (h1 : ¬ x = 0 → PL L xs tgt lv st al k n σ) (h2 : x = 0 → PL L xs pc' lv st al k n σ) : PL L xs pc lv (.int x :: st) al k n σ := by
  subst hp
  intro p l e s m below meth c b D cy ad H locs ls C hst0 hP hD hS hl
  have C2 := C
  obtain ⟨⟨hx, hb, hr, hml, hown, htl, hXs, hbl, hlk, hgv⟩, hts, hK, ho, hX, hab⟩ := C2
  exact lv_if_ne hx hb hd ht (fun z => h1 z p l e s m below meth c b D cy ad H locs ls C hst0 hP hD hS hl) (fun z => h2 z p l e s m below meth c b D cy ad H locs ls C hst0 hP hD hS hl)
theorem PL_icmp_ne {L : Nat} {xs : Nat → Int32} {pc pc' : Nat} {lv : List (Nat × Value)} {st : List Value} {al : pAL} {k n : Nat} {σ : pS} {x y : Int32} {off : Int} {tgt : Nat} (hd : decode code pc = .ok (.if_icmp .ne off, 3)) (hp : pc + 3 = pc') (ht : (pc : Int) + off = (tgt : Int)) (h1 : ¬ x = y → PL L xs tgt lv st al k n σ) (h2 : x = y → PL L xs pc' lv st al k n σ) : PL L xs pc lv (.int y :: .int x :: st) al k n σ := by
  subst hp
  intro p l e s m below meth c b D cy ad H locs ls C hst0 hP hD hS hl
  have C2 := C
  obtain ⟨⟨hx, hb, hr, hml, hown, htl, hXs, hbl, hlk, hgv⟩, hts, hK, ho, hX, hab⟩ := C2
  exact lv_icmp_ne hx hb hd ht (fun z => h1 z p l e s m below meth c b D cy ad H locs ls C hst0 hP hD hS hl) (fun z => h2 z p l e s m below meth c b D cy ad H locs ls C hst0 hP hD hS hl)
theorem PL_if_gt {L : Nat} {xs : Nat → Int32} {pc pc' : Nat} {lv : List (Nat × Value)} {st : List Value} {al : pAL} {k n : Nat} {σ : pS} {x : Int32} {off : Int} {tgt : Nat} (hd : decode code pc = .ok (.ifCond .gt off, 3)) (hp : pc + 3 = pc') (ht : (pc : Int) + off = (tgt : Int)) (h1 : 0 < x → PL L xs tgt lv st al k n σ) (h2 : ¬ 0 < x → PL L xs pc' lv st al k n σ) : PL L xs pc lv (.int x :: st) al k n σ := by
  subst hp
  intro p l e s m below meth c b D cy ad H locs ls C hst0 hP hD hS hl
  have C2 := C
  obtain ⟨⟨hx, hb, hr, hml, hown, htl, hXs, hbl, hlk, hgv⟩, hts, hK, ho, hX, hab⟩ := C2
  exact lv_if_gt hx hb hd ht (fun z => h1 z p l e s m below meth c b D cy ad H locs ls C hst0 hP hD hS hl) (fun z => h2 z p l e s m below meth c b D cy ad H locs ls C hst0 hP hD hS hl)
theorem PL_icmp_gt {L : Nat} {xs : Nat → Int32} {pc pc' : Nat} {lv : List (Nat × Value)} {st : List Value} {al : pAL} {k n : Nat} {σ : pS} {x y : Int32} {off : Int} {tgt : Nat} (hd : decode code pc = .ok (.if_icmp .gt off, 3)) (hp : pc + 3 = pc') (ht : (pc : Int) + off = (tgt : Int)) (h1 : y < x → PL L xs tgt lv st al k n σ) (h2 : ¬ y < x → PL L xs pc' lv st al k n σ) : PL L xs pc lv (.int y :: .int x :: st) al k n σ := by
  subst hp
  intro p l e s m below meth c b D cy ad H locs ls C hst0 hP hD hS hl
  have C2 := C
  obtain ⟨⟨hx, hb, hr, hml, hown, htl, hXs, hbl, hlk, hgv⟩, hts, hK, ho, hX, hab⟩ := C2
  exact lv_icmp_gt hx hb hd ht (fun z => h1 z p l e s m below meth c b D cy ad H locs ls C hst0 hP hD hS hl) (fun z => h2 z p l e s m below meth c b D cy ad H locs ls C hst0 hP hD hS hl)
theorem PL_goto {L : Nat} {xs : Nat → Int32} {pc : Nat} {lv : List (Nat × Value)} {st : List Value} {al : pAL} {k n : Nat} {σ : pS} {off : Int} {tgt : Nat} (hd : decode code pc = .ok (.goto off, 3)) (ht : (pc : Int) + off = (tgt : Int)) (h : PL L xs tgt lv st al k n σ) : PL L xs pc lv st al k n σ := by
  intro p l e s m below meth c b D cy ad H locs ls C hst0 hP hD hS hl
  have C2 := C
  obtain ⟨⟨hx, hb, hr, hml, hown, htl, hXs, hbl, hlk, hgv⟩, hts, hK, ho, hX, hab⟩ := C2
  exact lv_goto hx hb hd ht (h p l e s m below meth c b D cy ad H locs ls C hst0 hP hD hS hl)
theorem PL_tin {L : Nat} {xs : Nat → Int32} {pc : Nat} {lv : List (Nat × Value)} {st : List Value} {al : pAL} {k n : Nat} {σ : pS} {dflt lo hi : Int} {offs : Array Int} {len : Nat} {x : Int32} {off : Int} {tgt : Nat} (hd : decode code pc = .ok (.tableswitch dflt lo hi offs, len)) (h1 : ¬ x.toInt < lo) (h2 : ¬ hi < x.toInt) (ho1 : offs[(x.toInt - lo).toNat]? = some off) (ht : (pc : Int) + off = (tgt : Int)) (h : PL L xs tgt lv st al k n σ) : PL L xs pc lv (.int x :: st) al k n σ := by
  intro p l e s m below meth c b D cy ad H locs ls C hst0 hP hD hS hl
  have C2 := C
  obtain ⟨⟨hx, hb, hr, hml, hown, htl, hXs, hbl, hlk, hgv⟩, hts, hK, ho, hX, hab⟩ := C2
  exact lv_tableIn hx hb hd h1 h2 ho1 ht (h p l e s m below meth c b D cy ad H locs ls C hst0 hP hD hS hl)
theorem PL_tout {L : Nat} {xs : Nat → Int32} {pc : Nat} {lv : List (Nat × Value)} {st : List Value} {al : pAL} {k n : Nat} {σ : pS} {dflt lo hi : Int} {offs : Array Int} {len : Nat} {x : Int32} {tgt : Nat} (hd : decode code pc = .ok (.tableswitch dflt lo hi offs, len)) (h1 : x.toInt < lo ∨ hi < x.toInt) (ht : (pc : Int) + dflt = (tgt : Int)) (h : PL L xs tgt lv st al k n σ) : PL L xs pc lv (.int x :: st) al k n σ := by
  intro p l e s m below meth c b D cy ad H locs ls C hst0 hP hD hS hl
  have C2 := C
  obtain ⟨⟨hx, hb, hr, hml, hown, htl, hXs, hbl, hlk, hgv⟩, hts, hK, ho, hX, hab⟩ := C2
  exact lv_tableOut hx hb hd h1 ht (h p l e s m below meth c b D cy ad H locs ls C hst0 hP hD hS hl)
theorem PL_sld {L : Nat} {xs : Nat → Int32} {pc pc' : Nat} {lv : List (Nat × Value)} {st : List Value} {al : pAL} {k n : Nat} {σ : pS} {i : Int32} (hd : decode code pc = .ok (.iaload, 1)) (hp : pc + 1 = pc') (hi : vp_in i L) (h : PL L xs pc' lv (.int (xs i.toNatClampNeg) :: st) al k n σ) : PL L xs pc lv (.int i :: .ref 9500 :: st) al k n σ := by
  subst hp
  intro p l e s m below meth c b D cy ad H locs ls C hst0 hP hD hS hl
  have C2 := C
  obtain ⟨⟨hx, hb, hr, hml, hown, htl, hXs, hbl, hlk, hgv⟩, hts, hK, ho, hX, hab⟩ := C2
  have hbA : ¬ (fun q : Nat => s.heap.size ≤ q) b := Nat.not_le.mpr hbl
  show W p l e room_1 s m #[Value.ref b] below meth c H locs k n _ (F0 m pc ls (.int i :: .ref (ad 9500) :: st.map (pw_cv ad)))
  rw [hab]
  exact va_sld hx hb hXs hbl hbA hS hi hd (h p l e s m below meth c b D cy ad H locs ls C hst0 hP hD hS hl)
theorem PL_slen {L : Nat} {xs : Nat → Int32} {pc pc' : Nat} {lv : List (Nat × Value)} {st : List Value} {al : pAL} {k n : Nat} {σ : pS} (hd : decode code pc = .ok (.arraylength, 1)) (hp : pc + 1 = pc') (h : PL L xs pc' lv (.int (nI L) :: st) al k n σ) : PL L xs pc lv (.ref 9500 :: st) al k n σ := by
  subst hp
  intro p l e s m below meth c b D cy ad H locs ls C hst0 hP hD hS hl
  have C2 := C
  obtain ⟨⟨hx, hb, hr, hml, hown, htl, hXs, hbl, hlk, hgv⟩, hts, hK, ho, hX, hab⟩ := C2
  have hbA : ¬ (fun q : Nat => s.heap.size ≤ q) b := Nat.not_le.mpr hbl
  show W p l e room_1 s m #[Value.ref b] below meth c H locs k n _ (F0 m pc ls (.ref (ad 9500) :: st.map (pw_cv ad)))
  rw [hab]
  exact va_slen hx hb hXs hbl hbA hS hd (h p l e s m below meth c b D cy ad H locs ls C hst0 hP hD hS hl)
theorem PL_lald {L : Nat} {xs : Nat → Int32} {pc pc' : Nat} {lv : List (Nat × Value)} {st : List Value} {al : pAL} {k n : Nat} {σ : pS} {id nn : Nat} {i : Int32} (hd : decode code pc = .ok (.laload, 1)) (hp : pc + 1 = pc') (hin : (id, 14, nn) ∈ al) (hi : vp_in i nn) (h : PL L xs pc' lv (.long (σ.2.1 id i.toNatClampNeg) :: st) al k n σ) : PL L xs pc lv (.int i :: .ref id :: st) al k n σ := by
  subst hp
  intro p l e s m below meth c b D cy ad H locs ls C hst0 hP hD hS hl
  have C2 := C
  obtain ⟨⟨hx, hb, hr, hml, hown, htl, hXs, hbl, hlk, hgv⟩, hts, hK, ho, hX, hab⟩ := C2
  obtain ⟨q, hq1, hq2⟩ := pw_ws_at (ad := ad) (cy := cy) (σ := σ) hin
  exact va_lald (D := D) hx hb hK hP q 1 hq1 rfl hi hd (h p l e s m below meth c b D cy ad H locs ls C hst0 hP hD hS hl)
theorem PL_sub {L : Nat} {xs : Nat → Int32} {pc : Nat} {lv : List (Nat × Value)} {st : List Value} {al : pAL} {k n : Nat} {σ : pS} {lv' : List (Nat × Value)} (ks : List Nat) (hv : lv_pick lv ks = lv') (h : PL L xs pc lv' st al k n σ) : PL L xs pc lv st al k n σ := by
  subst hv
  intro p l e s m below meth c b D cy ad H locs ls C hst0 hP hD hS hl
  refine h p l e s m below meth c b D cy ad H locs ls C hst0 hP hD hS (lv_sub hl ks ?_)
  clear h
  simp only [lv_pick, pw_lv, List.getElem?_map]
  induction ks with
  | nil => rfl
  | cons a t ih =>
    cases h9 : lv[a]? <;> simp [h9, ih]
theorem PL_cong {L : Nat} {xs : Nat → Int32} {pc : Nat} {lv : List (Nat × Value)} {st : List Value} {al : pAL} {k n : Nat} {σ : pS} {σ' : pS} (he : pw_eq al σ σ') (h : PL L xs pc lv st al k n σ') : PL L xs pc lv st al k n σ := by
  intro p l e s m below meth c b D cy ad H locs ls C hst0 hP hD hS hl
  replace hP := pw_P_ec he hP
  replace hD := pw_D_cong (σ' := σ') hD
  exact h p l e s m below meth c b D cy ad H locs ls C hst0 hP hD hS hl
theorem PL_wide {L : Nat} {xs : Nat → Int32} {pc : Nat} {lv : List (Nat × Value)} {st : List Value} {al : pAL} {k n : Nat} {σ : pS} {k' n' : Nat} (h1 : k ≤ k') (h2 : n ≤ n') (h : PL L xs pc lv st al k' n' σ) : PL L xs pc lv st al k n σ := by
  intro p l e s m below meth c b D cy ad H locs ls C hst0 hP hD hS hl
  exact W.widen h1 h2 (h p l e s m below meth c b D cy ad H locs ls C hst0 hP hD hS hl)
theorem PL_ret1 {L : Nat} {xs : Nat → Int32} {pc : Nat} {lv : List (Nat × Value)} {al : pAL} {k n : Nat} {σ : pS} (hd : decode code pc = .ok (.ireturn, 1)) (hk : k ≤ 601024) (hn : n ≤ 7293034) : PL L xs pc lv [.int 1] al k n σ := by
  intro p l e s m below meth c b D cy ad H locs ls C hst0 hP hD hS hl
  have C2 := C
  obtain ⟨⟨hx, hb, hr, hml, hown, htl, hXs, hbl, hlk, hgv⟩, hts, hK, ho, hX, hab⟩ := C2
  refine va_forget (fun q hq => hS.2.2 q hq) ?_
  refine W.widen hk hn ?_
  exact lw_ret hx hb hr hlk hd
theorem PL_szW {L : Nat} {xs : Nat → Int32} {pc : Nat} {lv : List (Nat × Value)} {st : List Value} {al : pAL} {k n : Nat} {σ : pS} (hlast : k = 0 ∨ ∃ c ∈ al, lw_ord[k - 1]? = some c.1) (kk : ∀ (p : Program) (l : Launch) (e : Env) (s : State) (m : MethodId) (below : List Frame) (meth : Method) (c : Code) (b : Nat) (D : va_G) (cy ad : Nat → Nat) (H : Heap) (locs : List Loc) (ls : Array Slot),
    lw_C p l s m meth c b L xs D cy ad → l.stackTraces = false → va_P D pw_cl (pw_ws ad cy al σ) H → va_D (fun q => s.heap.size ≤ q) (pw_ws ad cy al σ) → va_S (fun q => s.heap.size ≤ q) s.heap H locs → lv_has ls 7 (pw_lv ad lv) → H.size = s.heap.size + k →
    W p l e room_1 s m #[Value.ref b] below meth c H locs k n (lw_Z below #[Value.ref b] s) (F0 m pc ls (st.map (pw_cv ad)))) : PL L xs pc lv st al k n σ := by
  intro p l e s m below meth c b D cy ad H locs ls C hst0 hP hD hS hl
  have C2 := C
  obtain ⟨⟨hx, hb, hr, hml, hown, htl, hXs, hbl, hlk, hgv⟩, hts, hK, ho, hX, hab⟩ := C2
  exact pw_szW hS hP ho hlast (fun hsz => kk p l e s m below meth c b D cy ad H locs ls C hst0 hP hD hS hl hsz)
theorem PL_newaJ {L : Nat} {xs : Nat → Int32} {pc pc' : Nat} {lv : List (Nat × Value)} {st : List Value} {al : pAL} {k n : Nat} {σ : pS} {al' : pAL} {k' n' : Nat} {id N0 : Nat} {z : Int32} (hd : decode code pc = .ok (.newarray .long, 2)) (hp : pc + 2 = pc') (hw : Cond.arrayClass .long ∈ pw_tb) (hz : ¬ z < 0) (hN : z.toNatClampNeg = N0) (hbt : N0 * componentBytes .long ≤ 536870912) (hk0 : k + 1 = k') (hn0 : n + N0 = n') (hkc : k' ≤ 601024) (hkn : n' ≤ 7293034) (hord : lw_ord[k]? = some id) (hlast : k = 0 ∨ ∃ c ∈ al, lw_ord[k - 1]? = some c.1) (hal : al ++ [(id, 14, N0)] = al') (h : PL L xs pc' lv (.ref id :: st) al' k' n' (pw_nw σ id)) : PL L xs pc lv (.int z :: st) al k n σ := by
  subst hp; subst hk0; subst hn0; subst hal
  refine PL_szW hlast ?_
  intro p l e s m below meth c b D cy ad H locs ls C hst0 hP hD hS hl hsz
  have C2 := C
  obtain ⟨⟨hx, hb, hr, hml, hown, htl, hXs, hbl, hlk, hgv⟩, hts, hK, ho, hX, hab⟩ := C2
  have hid : ad id = H.size := by rw [hsz]; exact ho _ _ hord
  refine va_newaK (atype := .long) hx hb (hts _ hw) rfl hd rfl hz hN hbt hkc hkn rfl (fun H1 cA e1 z1 o1 hAr hNm => ?_)
  have hcy : cA = cy 1 := by
    have e := (hK.2 1 _ rfl).2
    exact Option.some.inj (hNm.symm.trans e)
  subst hcy
  have hk : ∀ (i : Nat) (x : Nat × va_E), (pw_ws ad cy al σ)[i]? = some x → H1[x.1]? = H[x.1]? := fun i x hx => o1 x.1 ((hP i x hx).lt)
  have e2 := pw_ws_nw (ci := 14) (nn := N0) hP hid
  have hv : (Value.ref H.size :: st.map (pw_cv ad)) = (Value.ref id :: st).map (pw_cv ad) := by rw [← hid]; rfl
  show W p l e _ s m #[Value.ref b] below meth c H1 locs (k + 1) (n + N0) _ (F0 m (pc + 2) ls (.ref H.size :: st.map (pw_cv ad)))
  rw [hv]
  refine h p l e s m below meth c b D cy ad H1 locs ls C hst0 ?_ ?_ ⟨Nat.le_trans hS.1 (by omega), fun x h1 h2 => (o1 x (Nat.lt_of_lt_of_le h1 hS.1)).trans (hS.2.1 x h1 h2), hS.2.2⟩ hl
  · rw [e2]
    refine (hP.kept hk).app (fun i x hx => ?_)
    have hz : i < 1 := (List.getElem?_eq_some_iff.mp hx).1
    rw [show i = 0 by omega] at hx
    cases hx
    show H1[H.size]? = some (vp_cell _ _)
    rw [e1]
    simp [pw_nw, vp_cell, defaultValue, arrV]
    try rfl
  · rw [e2]
    exact hD.push hP rfl hS.1
theorem PL_new {L : Nat} {xs : Nat → Int32} {pc pc' : Nat} {lv : List (Nat × Value)} {st : List Value} {al : pAL} {k n : Nat} {σ : pS} {al' : pAL} {k' n' : Nat} {id ci ix : Nat} {C0 : String} {T : u_T} {N : Nat} {ty0 : Nat → FieldType} (hd : decode code pc = .ok (.new ix, 3)) (hp : pc + 3 = pc') (hc : pw_cl[ci]? = some (C0, T, N)) (hws : ∀ w ∈ u_ws C0 T N, w ∈ pw_tb) (hty : ∀ k, k < N → parseFieldDescriptor (T k).2.2.1 = some (ty0 k)) (w1 : Cond.classLink R_law ix C0 ∈ pw_tb) (w2 : Cond.instantiable C0 N ∈ pw_tb) (w3 : Cond.initialized C0 ∈ pw_tb) (hfs : ∀ j, j < N → defaultValue (ty0 j) = if (pw_fk ci)[j]? = some true then .int 0 else .null) (hk0 : k + 1 = k') (hn0 : n + N = n') (hkc : k' ≤ 601024) (hkn : n' ≤ 7293034) (hord : lw_ord[k]? = some id) (hlast : k = 0 ∨ ∃ c ∈ al, lw_ord[k - 1]? = some c.1) (hal : al ++ [(id, ci, 0)] = al') (h : PL L xs pc' lv (.ref id :: st) al' k' n' (pw_nw σ id)) : PL L xs pc lv st al k n σ := by
  subst hp; subst hk0; subst hn0; subst hal
  refine PL_szW hlast ?_
  intro p l e s m below meth c b D cy ad H locs ls C hst0 hP hD hS hl hsz
  have C2 := C
  obtain ⟨⟨hx, hb, hr, hml, hown, htl, hXs, hbl, hlk, hgv⟩, hts, hK, ho, hX, hab⟩ := C2
  have hid : ad id = H.size := by rw [hsz]; exact ho _ _ hord
  have hKn := hK.1 ci _ hc
  refine W.newcK hx hb hown (hts _ w1) (hts _ w2) (hts _ w3) rfl hd hkc hkn hKn.2.1 rfl (fun H1 kC hkC e1 z1 o1 => ?_)
  have hk : ∀ (i : Nat) (x : Nat × va_E), (pw_ws ad cy al σ)[i]? = some x → H1[x.1]? = H[x.1]? := fun i x hx => o1 x.1 ((hP i x hx).lt)
  have e2 := pw_ws_nw (ci := ci) (nn := 0) hP hid
  have hv : (Value.ref H.size :: st.map (pw_cv ad)) = (Value.ref id :: st).map (pw_cv ad) := by rw [← hid]; rfl
  show W p l e _ s m #[Value.ref b] below meth c H1 locs (k + 1) (n + N) _ (F0 m (pc + 3) ls (.ref H.size :: st.map (pw_cv ad)))
  rw [hv]
  refine h p l e s m below meth c b D cy ad H1 locs ls C hst0 ?_ ?_ ⟨Nat.le_trans hS.1 (by omega), fun x h1 h2 => (o1 x (Nat.lt_of_lt_of_le h1 hS.1)).trans (hS.2.1 x h1 h2), hS.2.2⟩ hl
  · rw [e2, pw_en_o (pw_ci hc)]
    refine (hP.kept hk).app (fun i x hx => ?_)
    have hz : i < 1 := (List.getElem?_eq_some_iff.mp hx).1
    rw [show i = 0 by omega] at hx
    cases hx
    exact ⟨_, hc, (u_born ty0 hts hws hKn hkC e1 hty).to (fun j hj => by rw [pw_fl_nw]; exact hfs j hj)⟩
  · rw [e2]
    exact hD.push hP rfl hS.1
theorem PL_callV {L : Nat} {xs : Nat → Int32} {pc pc' : Nat} {lv : List (Nat × Value)} {st : List Value} {al : pAL} {k n : Nat} {σ : pS} {y : MethodName} {M' : pM} {d' nA ix : Nat} {As : List Value} {b0 ci nn : Nat} {T : u_T} {N : Nat} (hin : (b0, ci, nn) ∈ al) (hci : pw_cl[ci]? = some (y.cls, T, N)) (w2 : Cond.instanceMethod y ∈ pw_tb) (w3 : Cond.selects y.cls y y ∈ pw_tb) {al1 : pAL} {σ1 : pS} (hsub : ∀ c ∈ al1, c ∈ al) (hnd : (al1.map (·.1)).Nodup) (he : pw_eq al1 σ σ1) (hd : decode code pc = .ok (.invokevirtual ix, 3)) (hp : pc + 3 = pc') (hY : pw_Y y M' nA) (w1 : Cond.methodLink R_law ix y ∈ pw_tb) (hn : As.length = nA) (hdd : d' + 1 ≤ 2048) (hst : (st.map fun v => v.category).sum ≤ 8) (hkc : k ≤ 601024 ∧ n ≤ 7293034)
    {Q' : Option Value → pAL × pS → Prop} (hQ1 : ∀ r al' σ', Q' r (al', σ') → al' = al1) (h : PC y M' d' [] 0 0 (.ref b0 :: As) al1 σ1 Q') (hQ : ∀ (r : Option Value) (σ' : pS), Q' r (al1, σ') → PL L xs pc' lv (r.toList ++ st) al k n (pw_mg al1 σ' σ)) : PL L xs pc lv (As.reverse ++ .ref b0 :: st) al k n σ := by
  subst hp
  intro p l e s m below meth c b D cy ad H locs ls C hst0 hP hD hS hl
  have C2 := C
  obtain ⟨⟨hx, hb, hr, hml, hown, htl, hXs, hbl, hlk, hgv⟩, hts, hK, ho, hX, hab⟩ := C2
  obtain ⟨q, hq1, hq2⟩ := pw_ws_at (ad := ad) (cy := cy) (σ := σ) hin
  rw [pw_en_o (pw_ci hci)] at hq1
  have hF : ∀ z, va_A (pw_ws ad cy al1 σ1) H.size z → (fun q : Nat => s.heap.size ≤ q) z := by
    intro z hz
    rcases hz with ⟨q, e9, hz⟩ | hz
    · exact (pw_subD (σ1 := σ1) hsub hnd hD).2 q _ hz
    · exact Nat.le_trans hS.1 hz
  refine pw_backF (M' := M') (al1 := al1) (σ1 := σ1) (rest := st.map (pw_cv ad)) (mc := 0) (ms := 0) hsub hP hD hQ1 (va_runV (R := room_1) (As := As.map (pw_cv ad)) (g := F0 m pc ls ((As.reverse ++ .ref b0 :: st).map (pw_cv ad))) ⟨hx, hb, hml, hown, hts⟩ (h l D cy ad H.size) ⟨⟨rfl, rfl, hdd, (by show 8 + (M'.2.2.1 + 11) + 40 * d' ≤ 84000; have := hY.2.2.2.2; have := (show d' + 1 ≤ 2048 from hdd); omega), pay_in hts (pw_good hY.2.2.2.1), List.mem_cons_self, hts _ hY.2.2.2.1, hts _ hY.2.2.1, hY.1, pw_len_of hY.2.1, hts _ w1⟩, hts _ w2, hts _ w3⟩ ⟨pw_blind, va_recv hK hP hci hq1, fun U hU hW => ⟨rfl, by rw [hU], by rw [hU]; exact pw_subP hsub he hP, va_K.moved hW.alike hK, (pw_subD hsub hnd hD).weaken (fun _ _ _ _ => trivial), fun i id h9 => (by simp at h9), hX.go hS hU hW hF⟩⟩ rfl (by rw [List.length_map]; exact hn) hl.1 (by simp [List.map_append, List.map_reverse, pw_cv]) (lv_room (by rw [pw_sum]; exact hst)) hd ⟨hkc.1, hkc.2⟩) hS hF (fun r σ' H1 locs1 hq hnr hP1 hD1 hS1 => ?_)
  rw [pw_stk]
  exact hQ r σ' hq p l e s m below meth c b D cy ad H1 locs1 ls C hst0 hP1 hD1 hS1 hl
theorem pw_backI {p : Program} {l : Launch} {e : Env} {R : Room} {s : State} {m : MethodId} {args : Array Value} {below : List Frame} {meth : Method} {c : Code} {H : Heap} {locs : List Loc} {k n mc ms pc : Nat} {Z : State → Prop} {ls : Array Slot} {st0 rest : List Value} {M' : pM} {D : va_G} {cy ad : Nat → Nat} {al1 al2 al' : pAL} {σ σ2 : pS} {A : Nat → Prop} {a : Array Value}
    (hP : va_P D pw_cl (pw_ws ad cy (al1 ++ al2) σ) H) (hD : va_D A (pw_ws ad cy (al1 ++ al2) σ)) (hdis : ∀ c ∈ al1, ¬ pw_has al' c.1 = true)
    (hr : va_Run p l e R s m args below meth c H locs k n mc ms (F0 m pc ls st0) rest (pw_Q M' (fun r τ => r = none ∧ τ = (al', σ2)) D cy ad (va_A (pw_ws ad cy al2 σ) H.size) a) (va_A (pw_ws ad cy al2 σ) H.size)) (hS : va_S A s.heap H locs) (hF : ∀ z, va_A (pw_ws ad cy al2 σ) H.size z → A z)
    (kk : ∀ (H1 : Heap) (locs1 : List Loc), va_P D pw_cl (pw_ws ad cy (al1 ++ al') (pw_mg al' σ2 σ)) H1 → va_D A (pw_ws ad cy (al1 ++ al') (pw_mg al' σ2 σ)) → va_S A s.heap H1 locs1 → W p l e R s m args below meth c H1 locs1 (k + mc) (n + ms) Z (F0 m (pc + 3) ls rest)) : W p l e R s m args below meth c H locs k n Z (F0 m pc ls st0) := by
  intro T hT X
  obtain ⟨v, st₀, t, T', L, h0, X', hL, e1, e2, ⟨⟨r, al9, σ9, hv, ⟨hr0, hτ⟩, hnr, hP1, -, hD1⟩, hz, hk⟩, st⟩ := hr T hT X
  subst hr0
  cases hτ
  cases hv
  rw [h0] at hz hk
  have app : ∀ (b1 b2 : pAL) (τ : pS), pw_ws ad cy (b1 ++ b2) τ = pw_ws ad cy b1 τ ++ pw_ws ad cy b2 τ := fun b1 b2 τ => by simp [pw_ws]
  have apart : ∀ c ∈ al1, ad c.1 < H.size ∧ ¬ va_A (pw_ws ad cy al2 σ) H.size (ad c.1) := by
    intro c hc
    obtain ⟨i, h1, h2⟩ := pw_ws_at (ad := ad) (cy := cy) (σ := σ) hc
    have hil := (List.getElem?_eq_some_iff.mp h1).1
    have h1' : (pw_ws ad cy (al1 ++ al2) σ)[i]? = some (ad c.1, pw_en ad cy σ c) := by rw [app, List.getElem?_append_left hil]; exact h1
    have hlt := (hP i _ h1').lt
    refine ⟨hlt, fun z => ?_⟩
    rcases z with ⟨j, e9, hz⟩ | hz
    · have h3 : (pw_ws ad cy (al1 ++ al2) σ)[(pw_ws ad cy al1 σ).length + j]? = some (ad c.1, e9) := by
        rw [app, List.getElem?_append_right (by omega), show (pw_ws ad cy al1 σ).length + j - (pw_ws ad cy al1 σ).length = j by omega]; exact hz
      have ij := hD.1 _ _ _ _ h1' h3 rfl
      omega
    · dsimp only at hlt; omega
  have hPn : va_P D pw_cl (pw_ws ad cy (al1 ++ al') (pw_mg al' σ2 σ)) T'.heap := by
    rw [app]
    refine va_P.app (fun q x hx => ?_) (fun q x hx => ?_)
    · rw [pw_ws, List.getElem?_map] at hx
      cases hc : al1[q]? with
      | none => rw [hc] at hx; cases hx
      | some c =>
        rw [hc] at hx
        cases hx
        have hcm := List.mem_of_getElem? hc
        obtain ⟨i, h1, -⟩ := pw_ws_at (ad := ad) (cy := cy) (σ := σ) (al := al1 ++ al2) (List.mem_append_left _ hcm)
        have h3 := (hP i _ h1).kept (H1 := T'.heap) (by rw [e1]; exact hk _ (apart c hcm).1 (apart c hcm).2)
        have hh := hdis c hcm
        rw [pw_en_cong (σ' := pw_mg al' σ2 σ) (by simp [pw_mg, hh]) (by simp [pw_mg, hh]) (by simp [pw_mg, pw_hasO_no hh])] at h3
        exact h3
    · rw [pw_ws, List.getElem?_map] at hx
      cases hc : al'[q]? with
      | none => rw [hc] at hx; cases hx
      | some c =>
        rw [hc] at hx
        cases hx
        have hcm := List.mem_of_getElem? hc
        have hh := pw_has_in hcm
        refine pw_at_ec (σ := σ2) ⟨fun h13 j => ⟨fun _ => by simp [pw_mg, hh], fun _ => by simp [pw_mg, pw_hasO_in hcm h13]⟩, fun _ j _ => ⟨by simp [pw_mg, hh], by simp [pw_mg, hh]⟩⟩ ?_
        rw [e1]
        exact hP1 q _ (by rw [pw_ws, List.getElem?_map, hc]; rfl)
  have hDn : va_D A (pw_ws ad cy (al1 ++ al') (pw_mg al' σ2 σ)) := by
    rw [app]
    have hD1' : va_D A (pw_ws ad cy al1 (pw_mg al' σ2 σ)) := by
      refine pw_D_cong (σ := σ) ?_
      rw [app] at hD
      refine ⟨fun i j x y hx hy he => ?_, fun i x hx => ?_⟩
      · have hil := (List.getElem?_eq_some_iff.mp hx).1
        have hjl := (List.getElem?_eq_some_iff.mp hy).1
        exact hD.1 i j x y (by rw [List.getElem?_append_left hil]; exact hx) (by rw [List.getElem?_append_left hjl]; exact hy) he
      · have hil := (List.getElem?_eq_some_iff.mp hx).1
        exact hD.2 i x (by rw [List.getElem?_append_left hil]; exact hx)
    refine va_D.app hD1' (pw_D_cong (σ := σ2) (hD1.weaken (fun _ _ _ h => hF _ h))) (fun i j x y hx hy he => ?_)
    rw [pw_ws, List.getElem?_map] at hx
    cases hc : al1[i]? with
    | none => rw [hc] at hx; cases hx
    | some c =>
      rw [hc] at hx
      cases hx
      have hcm := List.mem_of_getElem? hc
      have h5 := (pw_D_cong (σ' := pw_mg al' σ2 σ) hD1).2 j y hy
      rw [← he] at h5
      exact (apart c hcm).2 h5
  obtain ⟨t2, a1, b1⟩ := kk T'.heap (locs ++ L) hPn hDn
    ⟨Nat.le_trans hS.1 (by rw [e1]; exact hz), fun q h1 h2 => by rw [e1, hk q (Nat.lt_of_lt_of_le h1 hS.1) (fun z => h2 (hF q z))]; exact hS.2.1 q h1 h2, fun q hq => by
      rcases List.mem_append.mp hq with h | h
      · exact hS.2.2 q h
      · exact hF _ (hL q h)⟩ T' rfl X'
  exact ⟨t2, st t2 a1, b1⟩
theorem PL_callI {L : Nat} {xs : Nat → Int32} {pc pc' : Nat} {lv : List (Nat × Value)} {st : List Value} {al : pAL} {k n : Nat} {σ : pS} {y : MethodName} {M' : pM} {d' nA ix : Nat} {As : List Value} {b0 mc' ms' k' n' : Nat} {ord' : List Nat} {al1 al2 al' : pAL} {σ2 : pS} (w2 : Cond.instanceMethod y ∈ pw_tb) (hin0 : y.name = "<init>") (hrt : M'.2.2.2.1 = none) (hd : decode code pc = .ok (.invokespecial ix, 3)) (hp : pc + 3 = pc') (hY : pw_Y y M' nA) (w1 : Cond.methodLink R_law ix y ∈ pw_tb) (hn : As.length = nA) (hdd : d' + 1 ≤ 2048) (hst : (st.map fun v => v.category).sum ≤ 8) (hk0 : k + mc' = k') (hn0 : n + ms' = n') (hkc : k' ≤ 601024 ∧ n' ≤ 7293034) (hord : ∀ (i : Nat) (id : Nat), ord'[i]? = some id → lw_ord[k + i]? = some id) (hlast : k = 0 ∨ ∃ c ∈ al, lw_ord[k - 1]? = some c.1)
    (hal : al = al1 ++ al2) (hnd : (al2.map (·.1)).Nodup) (hdis : ∀ c ∈ al1, ¬ pw_has al' c.1 = true) (h : ∀ Q' : Option Value → pAL × pS → Prop, Q' none (al', σ2) → PC y M' d' ord' mc' ms' (.ref b0 :: As) al2 σ Q') (hq : PL L xs pc' lv st (al1 ++ al') k' n' (pw_mg al' σ2 σ)) : PL L xs pc lv (As.reverse ++ .ref b0 :: st) al k n σ := by
  subst hp; subst hk0; subst hn0; subst hal
  refine PL_szW hlast ?_
  intro p l e s m below meth c b D cy ad H locs ls C hst0 hP hD hS hl hsz
  have C2 := C
  obtain ⟨⟨hx, hb, hr, hml, hown, htl, hXs, hbl, hlk, hgv⟩, hts, hK, ho, hX, hab⟩ := C2
  have hsub : ∀ c ∈ al2, c ∈ al1 ++ al2 := fun c hc => List.mem_append_right _ hc
  have hF : ∀ z, va_A (pw_ws ad cy al2 σ) H.size z → (fun q : Nat => s.heap.size ≤ q) z := by
    intro z hz
    rcases hz with ⟨q, e9, hz⟩ | hz
    · exact (pw_subD (σ1 := σ) hsub hnd hD).2 q _ hz
    · exact Nat.le_trans hS.1 hz
  have hY4 := hY.2.2.2.1
  have hM := h (fun r τ => r = none ∧ τ = (al', σ2)) ⟨rfl, rfl⟩ l D cy ad H.size
  have hg := pw_good hY4
  unfold pw_wsM at hg hM
  rw [hrt] at hY4 hM hg
  refine pw_backI (M' := M') (al1 := al1) (al2 := al2) (al' := al') (σ2 := σ2) (rest := st.map (pw_cv ad)) (mc := mc') (ms := ms') hP hD hdis (va_runI (R := room_1) (As := As.map (pw_cv ad)) (bytes := M'.2.1) (maxL := M'.2.2.1) (g := F0 m pc ls ((As.reverse ++ .ref b0 :: st).map (pw_cv ad))) ⟨hx, hb, hml, hown, hts⟩ hM ⟨⟨rfl, rfl, hdd, (by show 8 + (M'.2.2.1 + 11) + 40 * d' ≤ 84000; have := hY.2.2.2.2; have := (show d' + 1 ≤ 2048 from hdd); omega), pay_in hts hg, List.mem_cons_self, hts _ hY4, hts _ hY.2.2.1, hY.1, pw_len_of hY.2.1, hts _ w1⟩, hin0, hts _ w2⟩ ⟨pw_blind, fun U hU hW => ⟨rfl, by rw [hU], by rw [hU]; exact pw_subP hsub (fun c _ => ⟨fun _ _ => ⟨fun _ => rfl, fun _ => rfl⟩, fun _ _ _ => ⟨rfl, rfl⟩⟩) hP, va_K.moved hW.alike hK, (pw_subD hsub hnd hD).weaken (fun _ _ _ _ => trivial), fun i id h9 => (by have e := ho _ _ (hord i id h9); omega), hX.go hS hU hW hF⟩⟩ rfl (by rw [List.length_map]; exact hn) hl.1 (by simp [List.map_append, List.map_reverse, pw_cv]) (lv_room (by rw [pw_sum]; exact hst)) hd ⟨hkc.1, hkc.2⟩) hS hF (fun H1 locs1 hP1 hD1 hS1 => ?_)
  exact hq p l e s m below meth c b D cy ad H1 locs1 ls C hst0 hP1 hD1 hS1 hl
