theorem PW_iconst {M : pM} {d : Nat} {ord : List Nat} {mc ms : Nat} {Q : Option Value → pAL × pS → Prop} {pc pc' : Nat} {lv : List (Nat × Value)} {st : List Value} {al : pAL} {k n : Nat} {σ : pS} {z : Int} {v : Int32} (hd : decode M.2.1 pc = .ok (.iconst z, 1)) (hp : pc + 1 = pc') (hv : Int32.ofInt z = v) (h : PW M d ord mc ms Q pc' lv (.int v :: st) al k n σ) : PW M d ord mc ms Q pc lv (st) al k n σ := by
  subst hp
  intro p l e s m args below meth c D cy ad A H locs ls C hP hD hS hl
  exact lv_iconst C.1 C.2.1 hd hv (h p l e s m args below meth c D cy ad A H locs ls C hP hD hS hl)
theorem PW_bipush {M : pM} {d : Nat} {ord : List Nat} {mc ms : Nat} {Q : Option Value → pAL × pS → Prop} {pc pc' : Nat} {lv : List (Nat × Value)} {st : List Value} {al : pAL} {k n : Nat} {σ : pS} {z : Int} {v : Int32} (hd : decode M.2.1 pc = .ok (.bipush z, 2)) (hp : pc + 2 = pc') (hv : (Int8.ofInt z).toInt32 = v) (h : PW M d ord mc ms Q pc' lv (.int v :: st) al k n σ) : PW M d ord mc ms Q pc lv (st) al k n σ := by
  subst hp
  intro p l e s m args below meth c D cy ad A H locs ls C hP hD hS hl
  exact lv_bipush C.1 C.2.1 hd hv (h p l e s m args below meth c D cy ad A H locs ls C hP hD hS hl)
theorem PW_sipush {M : pM} {d : Nat} {ord : List Nat} {mc ms : Nat} {Q : Option Value → pAL × pS → Prop} {pc pc' : Nat} {lv : List (Nat × Value)} {st : List Value} {al : pAL} {k n : Nat} {σ : pS} {z : Int} {v : Int32} (hd : decode M.2.1 pc = .ok (.sipush z, 3)) (hp : pc + 3 = pc') (hv : (Int16.ofInt z).toInt32 = v) (h : PW M d ord mc ms Q pc' lv (.int v :: st) al k n σ) : PW M d ord mc ms Q pc lv (st) al k n σ := by
  subst hp
  intro p l e s m args below meth c D cy ad A H locs ls C hP hD hS hl
  exact lv_sipush C.1 C.2.1 hd hv (h p l e s m args below meth c D cy ad A H locs ls C hP hD hS hl)
theorem PW_lconst {M : pM} {d : Nat} {ord : List Nat} {mc ms : Nat} {Q : Option Value → pAL × pS → Prop} {pc pc' : Nat} {lv : List (Nat × Value)} {st : List Value} {al : pAL} {k n : Nat} {σ : pS} {z : Fin 2} {v : Int64} (hd : decode M.2.1 pc = .ok (.lconst z, 1)) (hp : pc + 1 = pc') (hv : Int64.ofNat (z : Nat) = v) (h : PW M d ord mc ms Q pc' lv (.long v :: st) al k n σ) : PW M d ord mc ms Q pc lv (st) al k n σ := by
  subst hp
  intro p l e s m args below meth c D cy ad A H locs ls C hP hD hS hl
  exact lv_lconst C.1 C.2.1 hd hv (h p l e s m args below meth c D cy ad A H locs ls C hP hD hS hl)
theorem PW_ldc {M : pM} {d : Nat} {ord : List Nat} {mc ms : Nat} {Q : Option Value → pAL × pS → Prop} {pc pc' : Nat} {lv : List (Nat × Value)} {st : List Value} {al : pAL} {k n : Nat} {σ : pS} {ix : Nat} {v : Int32} (hd : decode M.2.1 pc = .ok (.ldc ix, 2)) (hp : pc + 2 = pc') (hw : Cond.constant M.1 ix v ∈ pw_tb) (h : PW M d ord mc ms Q pc' lv (.int v :: st) al k n σ) : PW M d ord mc ms Q pc lv st al k n σ := by
  subst hp
  intro p l e s m args below meth c D cy ad A H locs ls C hP hD hS hl
  exact lv_ldc C.1 C.2.1 C.2.2.2.2.1 (C.2.2.2.2.2.1 _ hw) hd (h p l e s m args below meth c D cy ad A H locs ls C hP hD hS hl)
theorem PW_ldcw {M : pM} {d : Nat} {ord : List Nat} {mc ms : Nat} {Q : Option Value → pAL × pS → Prop} {pc pc' : Nat} {lv : List (Nat × Value)} {st : List Value} {al : pAL} {k n : Nat} {σ : pS} {ix : Nat} {v : Int32} (hd : decode M.2.1 pc = .ok (.ldc_w ix, 3)) (hp : pc + 3 = pc') (hw : Cond.constant M.1 ix v ∈ pw_tb) (h : PW M d ord mc ms Q pc' lv (.int v :: st) al k n σ) : PW M d ord mc ms Q pc lv st al k n σ := by
  subst hp
  intro p l e s m args below meth c D cy ad A H locs ls C hP hD hS hl
  exact lv_ldcw C.1 C.2.1 C.2.2.2.2.1 (C.2.2.2.2.2.1 _ hw) hd (h p l e s m args below meth c D cy ad A H locs ls C hP hD hS hl)
theorem PW_ldc2 {M : pM} {d : Nat} {ord : List Nat} {mc ms : Nat} {Q : Option Value → pAL × pS → Prop} {pc pc' : Nat} {lv : List (Nat × Value)} {st : List Value} {al : pAL} {k n : Nat} {σ : pS} {ix : Nat} {v : Int64} (hd : decode M.2.1 pc = .ok (.ldc2_w ix, 3)) (hp : pc + 3 = pc') (hw : Cond.constantLong M.1 ix v ∈ pw_tb) (h : PW M d ord mc ms Q pc' lv (.long v :: st) al k n σ) : PW M d ord mc ms Q pc lv st al k n σ := by
  subst hp
  intro p l e s m args below meth c D cy ad A H locs ls C hP hD hS hl
  exact lv_ldc2 C.1 C.2.1 C.2.2.2.2.1 (C.2.2.2.2.2.1 _ hw) hd (h p l e s m args below meth c D cy ad A H locs ls C hP hD hS hl)
theorem PW_iload_n {M : pM} {d : Nat} {ord : List Nat} {mc ms : Nat} {Q : Option Value → pAL × pS → Prop} {pc pc' : Nat} {lv : List (Nat × Value)} {st : List Value} {al : pAL} {k n : Nat} {σ : pS} {j : Fin 4} {i q : Nat} {x : Int32} (hd : decode M.2.1 pc = .ok (.iload_n j, 1)) (hp : pc + 1 = pc') (hi : (j : Nat) = i) (hq : lv[q]? = some (i, .int x)) (h : PW M d ord mc ms Q pc' lv (.int x :: st) al k n σ) : PW M d ord mc ms Q pc lv st al k n σ := by
  subst hp
  intro p l e s m args below meth c D cy ad A H locs ls C hP hD hS hl
  exact lv_iload_n C.1 C.2.1 hd hi (lv_at hl q (pw_lv_at hq)) (h p l e s m args below meth c D cy ad A H locs ls C hP hD hS hl)
theorem PW_iload {M : pM} {d : Nat} {ord : List Nat} {mc ms : Nat} {Q : Option Value → pAL × pS → Prop} {pc pc' : Nat} {lv : List (Nat × Value)} {st : List Value} {al : pAL} {k n : Nat} {σ : pS} {i q : Nat} {x : Int32} (hd : decode M.2.1 pc = .ok (.iload i, 2)) (hp : pc + 2 = pc') (hq : lv[q]? = some (i, .int x)) (h : PW M d ord mc ms Q pc' lv (.int x :: st) al k n σ) : PW M d ord mc ms Q pc lv st al k n σ := by
  subst hp
  intro p l e s m args below meth c D cy ad A H locs ls C hP hD hS hl
  exact lv_iload C.1 C.2.1 hd (lv_at hl q (pw_lv_at hq)) (h p l e s m args below meth c D cy ad A H locs ls C hP hD hS hl)
theorem PW_istore_n {M : pM} {d : Nat} {ord : List Nat} {mc ms : Nat} {Q : Option Value → pAL × pS → Prop} {pc pc' : Nat} {lv : List (Nat × Value)} {st : List Value} {al : pAL} {k n : Nat} {σ : pS} {j : Fin 4} {i : Nat} {x : Int32} {lv' : List (Nat × Value)} (hd : decode M.2.1 pc = .ok (.istore_n j, 1)) (hp : pc + 1 = pc') (hi : (j : Nat) = i) (hn : i < M.2.2.1) (hv : (i, .int x) :: lv.filter (pw_f1 i) = lv') (h : PW M d ord mc ms Q pc' lv' st al k n σ) : PW M d ord mc ms Q pc lv (.int x :: st) al k n σ := by
  subst hp
  subst hv
  intro p l e s m args below meth c D cy ad A H locs ls C hP hD hS hl
  exact lv_istore_n C.1 C.2.1 hd hi hl hn (by rw [pw_lv_f1]; rfl) (fun ls hl => h p l e s m args below meth c D cy ad A H locs ls C hP hD hS hl)
theorem PW_istore {M : pM} {d : Nat} {ord : List Nat} {mc ms : Nat} {Q : Option Value → pAL × pS → Prop} {pc pc' : Nat} {lv : List (Nat × Value)} {st : List Value} {al : pAL} {k n : Nat} {σ : pS} {i : Nat} {x : Int32} {lv' : List (Nat × Value)} (hd : decode M.2.1 pc = .ok (.istore i, 2)) (hp : pc + 2 = pc') (hn : i < M.2.2.1) (hv : (i, .int x) :: lv.filter (pw_f1 i) = lv') (h : PW M d ord mc ms Q pc' lv' st al k n σ) : PW M d ord mc ms Q pc lv (.int x :: st) al k n σ := by
  subst hp
  subst hv
  intro p l e s m args below meth c D cy ad A H locs ls C hP hD hS hl
  exact lv_istore C.1 C.2.1 hd hl hn (by rw [pw_lv_f1]; rfl) (fun ls hl => h p l e s m args below meth c D cy ad A H locs ls C hP hD hS hl)
theorem PW_lload_n {M : pM} {d : Nat} {ord : List Nat} {mc ms : Nat} {Q : Option Value → pAL × pS → Prop} {pc pc' : Nat} {lv : List (Nat × Value)} {st : List Value} {al : pAL} {k n : Nat} {σ : pS} {j : Fin 4} {i q : Nat} {x : Int64} (hd : decode M.2.1 pc = .ok (.lload_n j, 1)) (hp : pc + 1 = pc') (hi : (j : Nat) = i) (hq : lv[q]? = some (i, .long x)) (h : PW M d ord mc ms Q pc' lv (.long x :: st) al k n σ) : PW M d ord mc ms Q pc lv st al k n σ := by
  subst hp
  intro p l e s m args below meth c D cy ad A H locs ls C hP hD hS hl
  exact lv_lload_n C.1 C.2.1 hd hi (lv_at hl q (pw_lv_at hq)) (h p l e s m args below meth c D cy ad A H locs ls C hP hD hS hl)
theorem PW_lload {M : pM} {d : Nat} {ord : List Nat} {mc ms : Nat} {Q : Option Value → pAL × pS → Prop} {pc pc' : Nat} {lv : List (Nat × Value)} {st : List Value} {al : pAL} {k n : Nat} {σ : pS} {i q : Nat} {x : Int64} (hd : decode M.2.1 pc = .ok (.lload i, 2)) (hp : pc + 2 = pc') (hq : lv[q]? = some (i, .long x)) (h : PW M d ord mc ms Q pc' lv (.long x :: st) al k n σ) : PW M d ord mc ms Q pc lv st al k n σ := by
  subst hp
  intro p l e s m args below meth c D cy ad A H locs ls C hP hD hS hl
  exact lv_lload C.1 C.2.1 hd (lv_at hl q (pw_lv_at hq)) (h p l e s m args below meth c D cy ad A H locs ls C hP hD hS hl)
theorem PW_lstore_n {M : pM} {d : Nat} {ord : List Nat} {mc ms : Nat} {Q : Option Value → pAL × pS → Prop} {pc pc' : Nat} {lv : List (Nat × Value)} {st : List Value} {al : pAL} {k n : Nat} {σ : pS} {j : Fin 4} {i : Nat} {x : Int64} {lv' : List (Nat × Value)} (hd : decode M.2.1 pc = .ok (.lstore_n j, 1)) (hp : pc + 1 = pc') (hi : (j : Nat) = i) (hn : i + 1 < M.2.2.1) (hv : (i, .long x) :: lv.filter (pw_f2 i) = lv') (h : PW M d ord mc ms Q pc' lv' st al k n σ) : PW M d ord mc ms Q pc lv (.long x :: st) al k n σ := by
  subst hp
  subst hv
  intro p l e s m args below meth c D cy ad A H locs ls C hP hD hS hl
  exact lv_lstore_n C.1 C.2.1 hd hi hl hn (by rw [pw_lv_f2]; rfl) (fun ls hl => h p l e s m args below meth c D cy ad A H locs ls C hP hD hS hl)
theorem PW_lstore {M : pM} {d : Nat} {ord : List Nat} {mc ms : Nat} {Q : Option Value → pAL × pS → Prop} {pc pc' : Nat} {lv : List (Nat × Value)} {st : List Value} {al : pAL} {k n : Nat} {σ : pS} {i : Nat} {x : Int64} {lv' : List (Nat × Value)} (hd : decode M.2.1 pc = .ok (.lstore i, 2)) (hp : pc + 2 = pc') (hn : i + 1 < M.2.2.1) (hv : (i, .long x) :: lv.filter (pw_f2 i) = lv') (h : PW M d ord mc ms Q pc' lv' st al k n σ) : PW M d ord mc ms Q pc lv (.long x :: st) al k n σ := by
  subst hp
  subst hv
  intro p l e s m args below meth c D cy ad A H locs ls C hP hD hS hl
  exact lv_lstore C.1 C.2.1 hd hl hn (by rw [pw_lv_f2]; rfl) (fun ls hl => h p l e s m args below meth c D cy ad A H locs ls C hP hD hS hl)
theorem PW_aload_n {M : pM} {d : Nat} {ord : List Nat} {mc ms : Nat} {Q : Option Value → pAL × pS → Prop} {pc pc' : Nat} {lv : List (Nat × Value)} {st : List Value} {al : pAL} {k n : Nat} {σ : pS} {j : Fin 4} {i q : Nat} {x : Nat} (hd : decode M.2.1 pc = .ok (.aload_n j, 1)) (hp : pc + 1 = pc') (hi : (j : Nat) = i) (hq : lv[q]? = some (i, .ref x)) (h : PW M d ord mc ms Q pc' lv (.ref x :: st) al k n σ) : PW M d ord mc ms Q pc lv st al k n σ := by
  subst hp
  intro p l e s m args below meth c D cy ad A H locs ls C hP hD hS hl
  exact lv_aload_n C.1 C.2.1 hd hi (lv_at hl q (pw_lv_at hq)) (h p l e s m args below meth c D cy ad A H locs ls C hP hD hS hl)
theorem PW_aload {M : pM} {d : Nat} {ord : List Nat} {mc ms : Nat} {Q : Option Value → pAL × pS → Prop} {pc pc' : Nat} {lv : List (Nat × Value)} {st : List Value} {al : pAL} {k n : Nat} {σ : pS} {i q : Nat} {x : Nat} (hd : decode M.2.1 pc = .ok (.aload i, 2)) (hp : pc + 2 = pc') (hq : lv[q]? = some (i, .ref x)) (h : PW M d ord mc ms Q pc' lv (.ref x :: st) al k n σ) : PW M d ord mc ms Q pc lv st al k n σ := by
  subst hp
  intro p l e s m args below meth c D cy ad A H locs ls C hP hD hS hl
  exact lv_aload C.1 C.2.1 hd (lv_at hl q (pw_lv_at hq)) (h p l e s m args below meth c D cy ad A H locs ls C hP hD hS hl)
theorem PW_astore_n {M : pM} {d : Nat} {ord : List Nat} {mc ms : Nat} {Q : Option Value → pAL × pS → Prop} {pc pc' : Nat} {lv : List (Nat × Value)} {st : List Value} {al : pAL} {k n : Nat} {σ : pS} {j : Fin 4} {i : Nat} {x : Nat} {lv' : List (Nat × Value)} (hd : decode M.2.1 pc = .ok (.astore_n j, 1)) (hp : pc + 1 = pc') (hi : (j : Nat) = i) (hn : i < M.2.2.1) (hv : (i, .ref x) :: lv.filter (pw_f1 i) = lv') (h : PW M d ord mc ms Q pc' lv' st al k n σ) : PW M d ord mc ms Q pc lv (.ref x :: st) al k n σ := by
  subst hp
  subst hv
  intro p l e s m args below meth c D cy ad A H locs ls C hP hD hS hl
  exact lv_astore_n C.1 C.2.1 hd hi hl hn (by rw [pw_lv_f1]; rfl) (fun ls hl => h p l e s m args below meth c D cy ad A H locs ls C hP hD hS hl)
theorem PW_astore {M : pM} {d : Nat} {ord : List Nat} {mc ms : Nat} {Q : Option Value → pAL × pS → Prop} {pc pc' : Nat} {lv : List (Nat × Value)} {st : List Value} {al : pAL} {k n : Nat} {σ : pS} {i : Nat} {x : Nat} {lv' : List (Nat × Value)} (hd : decode M.2.1 pc = .ok (.astore i, 2)) (hp : pc + 2 = pc') (hn : i < M.2.2.1) (hv : (i, .ref x) :: lv.filter (pw_f1 i) = lv') (h : PW M d ord mc ms Q pc' lv' st al k n σ) : PW M d ord mc ms Q pc lv (.ref x :: st) al k n σ := by
  subst hp
  subst hv
  intro p l e s m args below meth c D cy ad A H locs ls C hP hD hS hl
  exact lv_astore C.1 C.2.1 hd hl hn (by rw [pw_lv_f1]; rfl) (fun ls hl => h p l e s m args below meth c D cy ad A H locs ls C hP hD hS hl)
theorem PW_iinc {M : pM} {d : Nat} {ord : List Nat} {mc ms : Nat} {Q : Option Value → pAL × pS → Prop} {pc pc' : Nat} {lv : List (Nat × Value)} {st : List Value} {al : pAL} {k n : Nat} {σ : pS} {i q : Nat} {z : Int} {x v : Int32} {lv' : List (Nat × Value)} (hd : decode M.2.1 pc = .ok (.iinc i z, 3)) (hp : pc + 3 = pc') (hq : lv[q]? = some (i, .int x)) (hx : x + Int32.ofInt z = v) (hn : i < M.2.2.1) (hv : (i, .int v) :: lv.filter (pw_f1 i) = lv') (h : PW M d ord mc ms Q pc' lv' st al k n σ) : PW M d ord mc ms Q pc lv st al k n σ := by
  subst hp
  subst hv
  intro p l e s m args below meth c D cy ad A H locs ls C hP hD hS hl
  exact lv_iinc C.1 C.2.1 hd hl (pw_lv_at hq) hx hn (by rw [pw_lv_f1]; rfl) (fun ls hl => h p l e s m args below meth c D cy ad A H locs ls C hP hD hS hl)
theorem PW_iadd {M : pM} {d : Nat} {ord : List Nat} {mc ms : Nat} {Q : Option Value → pAL × pS → Prop} {pc pc' : Nat} {lv : List (Nat × Value)} {st : List Value} {al : pAL} {k n : Nat} {σ : pS} {x y : Int32} (hd : decode M.2.1 pc = .ok (.iadd, 1)) (hp : pc + 1 = pc') (h : PW M d ord mc ms Q pc' lv (.int (x + y) :: st) al k n σ) : PW M d ord mc ms Q pc lv (.int y :: .int x :: st) al k n σ := by
  subst hp
  intro p l e s m args below meth c D cy ad A H locs ls C hP hD hS hl
  exact lv_iadd C.1 C.2.1 hd (h p l e s m args below meth c D cy ad A H locs ls C hP hD hS hl)
theorem PW_isub {M : pM} {d : Nat} {ord : List Nat} {mc ms : Nat} {Q : Option Value → pAL × pS → Prop} {pc pc' : Nat} {lv : List (Nat × Value)} {st : List Value} {al : pAL} {k n : Nat} {σ : pS} {x y : Int32} (hd : decode M.2.1 pc = .ok (.isub, 1)) (hp : pc + 1 = pc') (h : PW M d ord mc ms Q pc' lv (.int (x - y) :: st) al k n σ) : PW M d ord mc ms Q pc lv (.int y :: .int x :: st) al k n σ := by
  subst hp
  intro p l e s m args below meth c D cy ad A H locs ls C hP hD hS hl
  exact lv_isub C.1 C.2.1 hd (h p l e s m args below meth c D cy ad A H locs ls C hP hD hS hl)
theorem PW_imul {M : pM} {d : Nat} {ord : List Nat} {mc ms : Nat} {Q : Option Value → pAL × pS → Prop} {pc pc' : Nat} {lv : List (Nat × Value)} {st : List Value} {al : pAL} {k n : Nat} {σ : pS} {x y : Int32} (hd : decode M.2.1 pc = .ok (.imul, 1)) (hp : pc + 1 = pc') (h : PW M d ord mc ms Q pc' lv (.int (x * y) :: st) al k n σ) : PW M d ord mc ms Q pc lv (.int y :: .int x :: st) al k n σ := by
  subst hp
  intro p l e s m args below meth c D cy ad A H locs ls C hP hD hS hl
  exact lv_imul C.1 C.2.1 hd (h p l e s m args below meth c D cy ad A H locs ls C hP hD hS hl)
theorem PW_iand {M : pM} {d : Nat} {ord : List Nat} {mc ms : Nat} {Q : Option Value → pAL × pS → Prop} {pc pc' : Nat} {lv : List (Nat × Value)} {st : List Value} {al : pAL} {k n : Nat} {σ : pS} {x y : Int32} (hd : decode M.2.1 pc = .ok (.iand, 1)) (hp : pc + 1 = pc') (h : PW M d ord mc ms Q pc' lv (.int (x &&& y) :: st) al k n σ) : PW M d ord mc ms Q pc lv (.int y :: .int x :: st) al k n σ := by
  subst hp
  intro p l e s m args below meth c D cy ad A H locs ls C hP hD hS hl
  exact lv_iand C.1 C.2.1 hd (h p l e s m args below meth c D cy ad A H locs ls C hP hD hS hl)
theorem PW_ior {M : pM} {d : Nat} {ord : List Nat} {mc ms : Nat} {Q : Option Value → pAL × pS → Prop} {pc pc' : Nat} {lv : List (Nat × Value)} {st : List Value} {al : pAL} {k n : Nat} {σ : pS} {x y : Int32} (hd : decode M.2.1 pc = .ok (.ior, 1)) (hp : pc + 1 = pc') (h : PW M d ord mc ms Q pc' lv (.int (x ||| y) :: st) al k n σ) : PW M d ord mc ms Q pc lv (.int y :: .int x :: st) al k n σ := by
  subst hp
  intro p l e s m args below meth c D cy ad A H locs ls C hP hD hS hl
  exact lv_ior C.1 C.2.1 hd (h p l e s m args below meth c D cy ad A H locs ls C hP hD hS hl)
theorem PW_ixor {M : pM} {d : Nat} {ord : List Nat} {mc ms : Nat} {Q : Option Value → pAL × pS → Prop} {pc pc' : Nat} {lv : List (Nat × Value)} {st : List Value} {al : pAL} {k n : Nat} {σ : pS} {x y : Int32} (hd : decode M.2.1 pc = .ok (.ixor, 1)) (hp : pc + 1 = pc') (h : PW M d ord mc ms Q pc' lv (.int (x ^^^ y) :: st) al k n σ) : PW M d ord mc ms Q pc lv (.int y :: .int x :: st) al k n σ := by
  subst hp
  intro p l e s m args below meth c D cy ad A H locs ls C hP hD hS hl
  exact lv_ixor C.1 C.2.1 hd (h p l e s m args below meth c D cy ad A H locs ls C hP hD hS hl)
theorem PW_ishl {M : pM} {d : Nat} {ord : List Nat} {mc ms : Nat} {Q : Option Value → pAL × pS → Prop} {pc pc' : Nat} {lv : List (Nat × Value)} {st : List Value} {al : pAL} {k n : Nat} {σ : pS} {x y : Int32} (hd : decode M.2.1 pc = .ok (.ishl, 1)) (hp : pc + 1 = pc') (h : PW M d ord mc ms Q pc' lv (.int (x <<< (y &&& 31)) :: st) al k n σ) : PW M d ord mc ms Q pc lv (.int y :: .int x :: st) al k n σ := by
  subst hp
  intro p l e s m args below meth c D cy ad A H locs ls C hP hD hS hl
  exact lv_ishl C.1 C.2.1 hd (h p l e s m args below meth c D cy ad A H locs ls C hP hD hS hl)
theorem PW_ishr {M : pM} {d : Nat} {ord : List Nat} {mc ms : Nat} {Q : Option Value → pAL × pS → Prop} {pc pc' : Nat} {lv : List (Nat × Value)} {st : List Value} {al : pAL} {k n : Nat} {σ : pS} {x y : Int32} (hd : decode M.2.1 pc = .ok (.ishr, 1)) (hp : pc + 1 = pc') (h : PW M d ord mc ms Q pc' lv (.int (x >>> (y &&& 31)) :: st) al k n σ) : PW M d ord mc ms Q pc lv (.int y :: .int x :: st) al k n σ := by
  subst hp
  intro p l e s m args below meth c D cy ad A H locs ls C hP hD hS hl
  exact lv_ishr C.1 C.2.1 hd (h p l e s m args below meth c D cy ad A H locs ls C hP hD hS hl)
theorem PW_iushr {M : pM} {d : Nat} {ord : List Nat} {mc ms : Nat} {Q : Option Value → pAL × pS → Prop} {pc pc' : Nat} {lv : List (Nat × Value)} {st : List Value} {al : pAL} {k n : Nat} {σ : pS} {x y : Int32} (hd : decode M.2.1 pc = .ok (.iushr, 1)) (hp : pc + 1 = pc') (h : PW M d ord mc ms Q pc' lv (.int ((x.toUInt32 >>> (y.toUInt32 &&& Int32.toUInt32 31)).toInt32) :: st) al k n σ) : PW M d ord mc ms Q pc lv (.int y :: .int x :: st) al k n σ := by
  subst hp
  intro p l e s m args below meth c D cy ad A H locs ls C hP hD hS hl
  exact lv_iushr C.1 C.2.1 hd rfl (h p l e s m args below meth c D cy ad A H locs ls C hP hD hS hl)
theorem PW_idiv {M : pM} {d : Nat} {ord : List Nat} {mc ms : Nat} {Q : Option Value → pAL × pS → Prop} {pc pc' : Nat} {lv : List (Nat × Value)} {st : List Value} {al : pAL} {k n : Nat} {σ : pS} {x y : Int32} (hd : decode M.2.1 pc = .ok (.idiv, 1)) (hp : pc + 1 = pc') (hne : ¬ y = 0) (h : PW M d ord mc ms Q pc' lv (.int (x / y) :: st) al k n σ) : PW M d ord mc ms Q pc lv (.int y :: .int x :: st) al k n σ := by
  subst hp
  intro p l e s m args below meth c D cy ad A H locs ls C hP hD hS hl
  exact lv_idiv C.1 C.2.1 hd hne (h p l e s m args below meth c D cy ad A H locs ls C hP hD hS hl)
theorem PW_irem {M : pM} {d : Nat} {ord : List Nat} {mc ms : Nat} {Q : Option Value → pAL × pS → Prop} {pc pc' : Nat} {lv : List (Nat × Value)} {st : List Value} {al : pAL} {k n : Nat} {σ : pS} {x y : Int32} (hd : decode M.2.1 pc = .ok (.irem, 1)) (hp : pc + 1 = pc') (hne : ¬ y = 0) (h : PW M d ord mc ms Q pc' lv (.int (x - x / y * y) :: st) al k n σ) : PW M d ord mc ms Q pc lv (.int y :: .int x :: st) al k n σ := by
  subst hp
  intro p l e s m args below meth c D cy ad A H locs ls C hP hD hS hl
  exact lv_irem C.1 C.2.1 hd hne (h p l e s m args below meth c D cy ad A H locs ls C hP hD hS hl)
theorem PW_ineg {M : pM} {d : Nat} {ord : List Nat} {mc ms : Nat} {Q : Option Value → pAL × pS → Prop} {pc pc' : Nat} {lv : List (Nat × Value)} {st : List Value} {al : pAL} {k n : Nat} {σ : pS} {x : Int32} (hd : decode M.2.1 pc = .ok (.ineg, 1)) (hp : pc + 1 = pc') (h : PW M d ord mc ms Q pc' lv (.int (-x) :: st) al k n σ) : PW M d ord mc ms Q pc lv (.int x :: st) al k n σ := by
  subst hp
  intro p l e s m args below meth c D cy ad A H locs ls C hP hD hS hl
  exact lv_ineg C.1 C.2.1 hd (h p l e s m args below meth c D cy ad A H locs ls C hP hD hS hl)
theorem PW_ladd {M : pM} {d : Nat} {ord : List Nat} {mc ms : Nat} {Q : Option Value → pAL × pS → Prop} {pc pc' : Nat} {lv : List (Nat × Value)} {st : List Value} {al : pAL} {k n : Nat} {σ : pS} {x y : Int64} (hd : decode M.2.1 pc = .ok (.ladd, 1)) (hp : pc + 1 = pc') (h : PW M d ord mc ms Q pc' lv (.long (x + y) :: st) al k n σ) : PW M d ord mc ms Q pc lv (.long y :: .long x :: st) al k n σ := by
  subst hp
  intro p l e s m args below meth c D cy ad A H locs ls C hP hD hS hl
  exact lv_ladd C.1 C.2.1 hd (h p l e s m args below meth c D cy ad A H locs ls C hP hD hS hl)
theorem PW_lsub {M : pM} {d : Nat} {ord : List Nat} {mc ms : Nat} {Q : Option Value → pAL × pS → Prop} {pc pc' : Nat} {lv : List (Nat × Value)} {st : List Value} {al : pAL} {k n : Nat} {σ : pS} {x y : Int64} (hd : decode M.2.1 pc = .ok (.lsub, 1)) (hp : pc + 1 = pc') (h : PW M d ord mc ms Q pc' lv (.long (x - y) :: st) al k n σ) : PW M d ord mc ms Q pc lv (.long y :: .long x :: st) al k n σ := by
  subst hp
  intro p l e s m args below meth c D cy ad A H locs ls C hP hD hS hl
  exact lv_lsub C.1 C.2.1 hd (h p l e s m args below meth c D cy ad A H locs ls C hP hD hS hl)
theorem PW_lmul {M : pM} {d : Nat} {ord : List Nat} {mc ms : Nat} {Q : Option Value → pAL × pS → Prop} {pc pc' : Nat} {lv : List (Nat × Value)} {st : List Value} {al : pAL} {k n : Nat} {σ : pS} {x y : Int64} (hd : decode M.2.1 pc = .ok (.lmul, 1)) (hp : pc + 1 = pc') (h : PW M d ord mc ms Q pc' lv (.long (x * y) :: st) al k n σ) : PW M d ord mc ms Q pc lv (.long y :: .long x :: st) al k n σ := by
  subst hp
  intro p l e s m args below meth c D cy ad A H locs ls C hP hD hS hl
  exact lv_lmul C.1 C.2.1 hd (h p l e s m args below meth c D cy ad A H locs ls C hP hD hS hl)
theorem PW_land {M : pM} {d : Nat} {ord : List Nat} {mc ms : Nat} {Q : Option Value → pAL × pS → Prop} {pc pc' : Nat} {lv : List (Nat × Value)} {st : List Value} {al : pAL} {k n : Nat} {σ : pS} {x y : Int64} (hd : decode M.2.1 pc = .ok (.land, 1)) (hp : pc + 1 = pc') (h : PW M d ord mc ms Q pc' lv (.long (x &&& y) :: st) al k n σ) : PW M d ord mc ms Q pc lv (.long y :: .long x :: st) al k n σ := by
  subst hp
  intro p l e s m args below meth c D cy ad A H locs ls C hP hD hS hl
  exact lv_land C.1 C.2.1 hd (h p l e s m args below meth c D cy ad A H locs ls C hP hD hS hl)
theorem PW_ldiv {M : pM} {d : Nat} {ord : List Nat} {mc ms : Nat} {Q : Option Value → pAL × pS → Prop} {pc pc' : Nat} {lv : List (Nat × Value)} {st : List Value} {al : pAL} {k n : Nat} {σ : pS} {x y : Int64} (hd : decode M.2.1 pc = .ok (.ldiv, 1)) (hp : pc + 1 = pc') (hne : ¬ y = 0) (h : PW M d ord mc ms Q pc' lv (.long (x / y) :: st) al k n σ) : PW M d ord mc ms Q pc lv (.long y :: .long x :: st) al k n σ := by
  subst hp
  intro p l e s m args below meth c D cy ad A H locs ls C hP hD hS hl
  exact lv_ldiv C.1 C.2.1 hd hne (h p l e s m args below meth c D cy ad A H locs ls C hP hD hS hl)
theorem PW_lrem {M : pM} {d : Nat} {ord : List Nat} {mc ms : Nat} {Q : Option Value → pAL × pS → Prop} {pc pc' : Nat} {lv : List (Nat × Value)} {st : List Value} {al : pAL} {k n : Nat} {σ : pS} {x y : Int64} (hd : decode M.2.1 pc = .ok (.lrem, 1)) (hp : pc + 1 = pc') (hne : ¬ y = 0) (h : PW M d ord mc ms Q pc' lv (.long (x - x / y * y) :: st) al k n σ) : PW M d ord mc ms Q pc lv (.long y :: .long x :: st) al k n σ := by
  subst hp
  intro p l e s m args below meth c D cy ad A H locs ls C hP hD hS hl
  exact lv_lrem C.1 C.2.1 hd hne (h p l e s m args below meth c D cy ad A H locs ls C hP hD hS hl)
theorem PW_lneg {M : pM} {d : Nat} {ord : List Nat} {mc ms : Nat} {Q : Option Value → pAL × pS → Prop} {pc pc' : Nat} {lv : List (Nat × Value)} {st : List Value} {al : pAL} {k n : Nat} {σ : pS} {x : Int64} (hd : decode M.2.1 pc = .ok (.lneg, 1)) (hp : pc + 1 = pc') (h : PW M d ord mc ms Q pc' lv (.long (-x) :: st) al k n σ) : PW M d ord mc ms Q pc lv (.long x :: st) al k n σ := by
  subst hp
  intro p l e s m args below meth c D cy ad A H locs ls C hP hD hS hl
  exact lv_lneg C.1 C.2.1 hd (h p l e s m args below meth c D cy ad A H locs ls C hP hD hS hl)
theorem PW_lcmp {M : pM} {d : Nat} {ord : List Nat} {mc ms : Nat} {Q : Option Value → pAL × pS → Prop} {pc pc' : Nat} {lv : List (Nat × Value)} {st : List Value} {al : pAL} {k n : Nat} {σ : pS} {x y : Int64} (hd : decode M.2.1 pc = .ok (.lcmp, 1)) (hp : pc + 1 = pc') (h : PW M d ord mc ms Q pc' lv (.int (lg_cmp x y) :: st) al k n σ) : PW M d ord mc ms Q pc lv (.long y :: .long x :: st) al k n σ := by
  subst hp
  intro p l e s m args below meth c D cy ad A H locs ls C hP hD hS hl
  exact W.lcmp C.1 C.2.1 hd (h p l e s m args below meth c D cy ad A H locs ls C hP hD hS hl)
theorem PW_i2l {M : pM} {d : Nat} {ord : List Nat} {mc ms : Nat} {Q : Option Value → pAL × pS → Prop} {pc pc' : Nat} {lv : List (Nat × Value)} {st : List Value} {al : pAL} {k n : Nat} {σ : pS} {x : Int32} (hd : decode M.2.1 pc = .ok (.i2l, 1)) (hp : pc + 1 = pc') (h : PW M d ord mc ms Q pc' lv (.long x.toInt64 :: st) al k n σ) : PW M d ord mc ms Q pc lv (.int x :: st) al k n σ := by
  subst hp
  intro p l e s m args below meth c D cy ad A H locs ls C hP hD hS hl
  exact lv_i2l C.1 C.2.1 hd rfl (h p l e s m args below meth c D cy ad A H locs ls C hP hD hS hl)
theorem PW_l2i {M : pM} {d : Nat} {ord : List Nat} {mc ms : Nat} {Q : Option Value → pAL × pS → Prop} {pc pc' : Nat} {lv : List (Nat × Value)} {st : List Value} {al : pAL} {k n : Nat} {σ : pS} {x : Int64} (hd : decode M.2.1 pc = .ok (.l2i, 1)) (hp : pc + 1 = pc') (h : PW M d ord mc ms Q pc' lv (.int x.toInt32 :: st) al k n σ) : PW M d ord mc ms Q pc lv (.long x :: st) al k n σ := by
  subst hp
  intro p l e s m args below meth c D cy ad A H locs ls C hP hD hS hl
  exact lv_l2i C.1 C.2.1 hd rfl (h p l e s m args below meth c D cy ad A H locs ls C hP hD hS hl)
theorem PW_i2c {M : pM} {d : Nat} {ord : List Nat} {mc ms : Nat} {Q : Option Value → pAL × pS → Prop} {pc pc' : Nat} {lv : List (Nat × Value)} {st : List Value} {al : pAL} {k n : Nat} {σ : pS} {x : Int32} (hd : decode M.2.1 pc = .ok (.i2c, 1)) (hp : pc + 1 = pc') (h : PW M d ord mc ms Q pc' lv (.int (x.toUInt32 % 65536).toInt32 :: st) al k n σ) : PW M d ord mc ms Q pc lv (.int x :: st) al k n σ := by
  subst hp
  intro p l e s m args below meth c D cy ad A H locs ls C hP hD hS hl
  exact lv_i2c C.1 C.2.1 hd rfl (h p l e s m args below meth c D cy ad A H locs ls C hP hD hS hl)
theorem PW_pop {M : pM} {d : Nat} {ord : List Nat} {mc ms : Nat} {Q : Option Value → pAL × pS → Prop} {pc pc' : Nat} {lv : List (Nat × Value)} {st : List Value} {al : pAL} {k n : Nat} {σ : pS} {v : Value} (hd : decode M.2.1 pc = .ok (.pop, 1)) (hp : pc + 1 = pc') (hc : v.category = 1) (h : PW M d ord mc ms Q pc' lv (st) al k n σ) : PW M d ord mc ms Q pc lv (v :: st) al k n σ := by
  subst hp
  intro p l e s m args below meth c D cy ad A H locs ls C hP hD hS hl
  exact lv_pop C.1 C.2.1 hd (by rw [pw_cv_cat]; exact hc) (h p l e s m args below meth c D cy ad A H locs ls C hP hD hS hl)
theorem PW_dup {M : pM} {d : Nat} {ord : List Nat} {mc ms : Nat} {Q : Option Value → pAL × pS → Prop} {pc pc' : Nat} {lv : List (Nat × Value)} {st : List Value} {al : pAL} {k n : Nat} {σ : pS} {v : Value} (hd : decode M.2.1 pc = .ok (.dup, 1)) (hp : pc + 1 = pc') (hc : v.category = 1) (h : PW M d ord mc ms Q pc' lv (v :: v :: st) al k n σ) : PW M d ord mc ms Q pc lv (v :: st) al k n σ := by
  subst hp
  intro p l e s m args below meth c D cy ad A H locs ls C hP hD hS hl
  exact lv_dup C.1 C.2.1 hd (by rw [pw_cv_cat]; exact hc) (h p l e s m args below meth c D cy ad A H locs ls C hP hD hS hl)
theorem PW_dup2 {M : pM} {d : Nat} {ord : List Nat} {mc ms : Nat} {Q : Option Value → pAL × pS → Prop} {pc pc' : Nat} {lv : List (Nat × Value)} {st : List Value} {al : pAL} {k n : Nat} {σ : pS} {v w : Value} (hd : decode M.2.1 pc = .ok (.dup2, 1)) (hp : pc + 1 = pc') (hc : v.category = 1) (hc2 : w.category = 1) (h : PW M d ord mc ms Q pc' lv (v :: w :: v :: w :: st) al k n σ) : PW M d ord mc ms Q pc lv (v :: w :: st) al k n σ := by
  subst hp
  intro p l e s m args below meth c D cy ad A H locs ls C hP hD hS hl
  exact lv_dup2_11 C.1 C.2.1 hd (by rw [pw_cv_cat]; exact hc) (by rw [pw_cv_cat]; exact hc2) (h p l e s m args below meth c D cy ad A H locs ls C hP hD hS hl)
theorem PW_dup_x1 {M : pM} {d : Nat} {ord : List Nat} {mc ms : Nat} {Q : Option Value → pAL × pS → Prop} {pc pc' : Nat} {lv : List (Nat × Value)} {st : List Value} {al : pAL} {k n : Nat} {σ : pS} {v w : Value} (hd : decode M.2.1 pc = .ok (.dup_x1, 1)) (hp : pc + 1 = pc') (hc : v.category = 1) (hc2 : w.category = 1) (h : PW M d ord mc ms Q pc' lv (v :: w :: v :: st) al k n σ) : PW M d ord mc ms Q pc lv (v :: w :: st) al k n σ := by
  subst hp
  intro p l e s m args below meth c D cy ad A H locs ls C hP hD hS hl
  exact lv_dup_x1 C.1 C.2.1 hd (by rw [pw_cv_cat]; exact hc) (by rw [pw_cv_cat]; exact hc2) (h p l e s m args below meth c D cy ad A H locs ls C hP hD hS hl)
theorem PW_if_eq {M : pM} {d : Nat} {ord : List Nat} {mc ms : Nat} {Q : Option Value → pAL × pS → Prop} {pc pc' : Nat} {lv : List (Nat × Value)} {st : List Value} {al : pAL} {k n : Nat} {σ : pS} {x : Int32} {off : Int} {tgt : Nat} (hd : decode M.2.1 pc = .ok (.ifCond .eq off, 3)) (hp : pc + 3 = pc') (ht : (pc : Int) + off = (tgt : Int)) (h1 : x = 0 → PW M d ord mc ms Q tgt lv st al k n σ) (h2 : ¬ x = 0 → PW M d ord mc ms Q pc' lv st al k n σ) : PW M d ord mc ms Q pc lv (.int x :: st) al k n σ := by
  subst hp
  intro p l e s m args below meth c D cy ad A H locs ls C hP hD hS hl
  exact lv_if_eq C.1 C.2.1 hd ht (fun z => h1 z p l e s m args below meth c D cy ad A H locs ls C hP hD hS hl) (fun z => h2 z p l e s m args below meth c D cy ad A H locs ls C hP hD hS hl)
theorem PW_icmp_eq {M : pM} {d : Nat} {ord : List Nat} {mc ms : Nat} {Q : Option Value → pAL × pS → Prop} {pc pc' : Nat} {lv : List (Nat × Value)} {st : List Value} {al : pAL} {k n : Nat} {σ : pS} {x y : Int32} {off : Int} {tgt : Nat} (hd : decode M.2.1 pc = .ok (.if_icmp .eq off, 3)) (hp : pc + 3 = pc') (ht : (pc : Int) + off = (tgt : Int)) (h1 : x = y → PW M d ord mc ms Q tgt lv st al k n σ) (h2 : ¬ x = y → PW M d ord mc ms Q pc' lv st al k n σ) : PW M d ord mc ms Q pc lv (.int y :: .int x :: st) al k n σ := by
  subst hp
  intro p l e s m args below meth c D cy ad A H locs ls C hP hD hS hl
  exact lv_icmp_eq C.1 C.2.1 hd ht (fun z => h1 z p l e s m args below meth c D cy ad A H locs ls C hP hD hS hl) (fun z => h2 z p l e s m args below meth c D cy ad A H locs ls C hP hD hS hl)
theorem PW_if_ne {M : pM} {d : Nat} {ord : List Nat} {mc ms : Nat} {Q : Option Value → pAL × pS → Prop} {pc pc' : Nat} {lv : List (Nat × Value)} {st : List Value} {al : pAL} {k n : Nat} {σ : pS} {x : Int32} {off : Int} {tgt : Nat} (hd : decode M.2.1 pc = .ok (.ifCond .ne off, 3)) (hp : pc + 3 = pc') (ht : (pc : Int) + off = (tgt : Int)) (h1 : ¬ x = 0 → PW M d ord mc ms Q tgt lv st al k n σ) (h2 : x = 0 → PW M d ord mc ms Q pc' lv st al k n σ) : PW M d ord mc ms Q pc lv (.int x :: st) al k n σ := by
  subst hp
  intro p l e s m args below meth c D cy ad A H locs ls C hP hD hS hl
  exact lv_if_ne C.1 C.2.1 hd ht (fun z => h1 z p l e s m args below meth c D cy ad A H locs ls C hP hD hS hl) (fun z => h2 z p l e s m args below meth c D cy ad A H locs ls C hP hD hS hl)
theorem PW_icmp_ne {M : pM} {d : Nat} {ord : List Nat} {mc ms : Nat} {Q : Option Value → pAL × pS → Prop} {pc pc' : Nat} {lv : List (Nat × Value)} {st : List Value} {al : pAL} {k n : Nat} {σ : pS} {x y : Int32} {off : Int} {tgt : Nat} (hd : decode M.2.1 pc = .ok (.if_icmp .ne off, 3)) (hp : pc + 3 = pc') (ht : (pc : Int) + off = (tgt : Int)) (h1 : ¬ x = y → PW M d ord mc ms Q tgt lv st al k n σ) (h2 : x = y → PW M d ord mc ms Q pc' lv st al k n σ) : PW M d ord mc ms Q pc lv (.int y :: .int x :: st) al k n σ := by
  subst hp
  intro p l e s m args below meth c D cy ad A H locs ls C hP hD hS hl
  exact lv_icmp_ne C.1 C.2.1 hd ht (fun z => h1 z p l e s m args below meth c D cy ad A H locs ls C hP hD hS hl) (fun z => h2 z p l e s m args below meth c D cy ad A H locs ls C hP hD hS hl)
theorem PW_if_lt {M : pM} {d : Nat} {ord : List Nat} {mc ms : Nat} {Q : Option Value → pAL × pS → Prop} {pc pc' : Nat} {lv : List (Nat × Value)} {st : List Value} {al : pAL} {k n : Nat} {σ : pS} {x : Int32} {off : Int} {tgt : Nat} (hd : decode M.2.1 pc = .ok (.ifCond .lt off, 3)) (hp : pc + 3 = pc') (ht : (pc : Int) + off = (tgt : Int)) (h1 : x < 0 → PW M d ord mc ms Q tgt lv st al k n σ) (h2 : ¬ x < 0 → PW M d ord mc ms Q pc' lv st al k n σ) : PW M d ord mc ms Q pc lv (.int x :: st) al k n σ := by
  subst hp
  intro p l e s m args below meth c D cy ad A H locs ls C hP hD hS hl
  exact lv_if_lt C.1 C.2.1 hd ht (fun z => h1 z p l e s m args below meth c D cy ad A H locs ls C hP hD hS hl) (fun z => h2 z p l e s m args below meth c D cy ad A H locs ls C hP hD hS hl)
theorem PW_icmp_lt {M : pM} {d : Nat} {ord : List Nat} {mc ms : Nat} {Q : Option Value → pAL × pS → Prop} {pc pc' : Nat} {lv : List (Nat × Value)} {st : List Value} {al : pAL} {k n : Nat} {σ : pS} {x y : Int32} {off : Int} {tgt : Nat} (hd : decode M.2.1 pc = .ok (.if_icmp .lt off, 3)) (hp : pc + 3 = pc') (ht : (pc : Int) + off = (tgt : Int)) (h1 : x < y → PW M d ord mc ms Q tgt lv st al k n σ) (h2 : ¬ x < y → PW M d ord mc ms Q pc' lv st al k n σ) : PW M d ord mc ms Q pc lv (.int y :: .int x :: st) al k n σ := by
  subst hp
  intro p l e s m args below meth c D cy ad A H locs ls C hP hD hS hl
  exact lv_icmp_lt C.1 C.2.1 hd ht (fun z => h1 z p l e s m args below meth c D cy ad A H locs ls C hP hD hS hl) (fun z => h2 z p l e s m args below meth c D cy ad A H locs ls C hP hD hS hl)
theorem PW_if_ge {M : pM} {d : Nat} {ord : List Nat} {mc ms : Nat} {Q : Option Value → pAL × pS → Prop} {pc pc' : Nat} {lv : List (Nat × Value)} {st : List Value} {al : pAL} {k n : Nat} {σ : pS} {x : Int32} {off : Int} {tgt : Nat} (hd : decode M.2.1 pc = .ok (.ifCond .ge off, 3)) (hp : pc + 3 = pc') (ht : (pc : Int) + off = (tgt : Int)) (h1 : 0 ≤ x → PW M d ord mc ms Q tgt lv st al k n σ) (h2 : ¬ 0 ≤ x → PW M d ord mc ms Q pc' lv st al k n σ) : PW M d ord mc ms Q pc lv (.int x :: st) al k n σ := by
  subst hp
  intro p l e s m args below meth c D cy ad A H locs ls C hP hD hS hl
  exact lv_if_ge C.1 C.2.1 hd ht (fun z => h1 z p l e s m args below meth c D cy ad A H locs ls C hP hD hS hl) (fun z => h2 z p l e s m args below meth c D cy ad A H locs ls C hP hD hS hl)
theorem PW_icmp_ge {M : pM} {d : Nat} {ord : List Nat} {mc ms : Nat} {Q : Option Value → pAL × pS → Prop} {pc pc' : Nat} {lv : List (Nat × Value)} {st : List Value} {al : pAL} {k n : Nat} {σ : pS} {x y : Int32} {off : Int} {tgt : Nat} (hd : decode M.2.1 pc = .ok (.if_icmp .ge off, 3)) (hp : pc + 3 = pc') (ht : (pc : Int) + off = (tgt : Int)) (h1 : y ≤ x → PW M d ord mc ms Q tgt lv st al k n σ) (h2 : ¬ y ≤ x → PW M d ord mc ms Q pc' lv st al k n σ) : PW M d ord mc ms Q pc lv (.int y :: .int x :: st) al k n σ := by
  subst hp
  intro p l e s m args below meth c D cy ad A H locs ls C hP hD hS hl
  exact lv_icmp_ge C.1 C.2.1 hd ht (fun z => h1 z p l e s m args below meth c D cy ad A H locs ls C hP hD hS hl) (fun z => h2 z p l e s m args below meth c D cy ad A H locs ls C hP hD hS hl)
theorem PW_if_gt {M : pM} {d : Nat} {ord : List Nat} {mc ms : Nat} {Q : Option Value → pAL × pS → Prop} {pc pc' : Nat} {lv : List (Nat × Value)} {st : List Value} {al : pAL} {k n : Nat} {σ : pS} {x : Int32} {off : Int} {tgt : Nat} (hd : decode M.2.1 pc = .ok (.ifCond .gt off, 3)) (hp : pc + 3 = pc') (ht : (pc : Int) + off = (tgt : Int)) (h1 : 0 < x → PW M d ord mc ms Q tgt lv st al k n σ) (h2 : ¬ 0 < x → PW M d ord mc ms Q pc' lv st al k n σ) : PW M d ord mc ms Q pc lv (.int x :: st) al k n σ := by
  subst hp
  intro p l e s m args below meth c D cy ad A H locs ls C hP hD hS hl
  exact lv_if_gt C.1 C.2.1 hd ht (fun z => h1 z p l e s m args below meth c D cy ad A H locs ls C hP hD hS hl) (fun z => h2 z p l e s m args below meth c D cy ad A H locs ls C hP hD hS hl)
theorem PW_icmp_gt {M : pM} {d : Nat} {ord : List Nat} {mc ms : Nat} {Q : Option Value → pAL × pS → Prop} {pc pc' : Nat} {lv : List (Nat × Value)} {st : List Value} {al : pAL} {k n : Nat} {σ : pS} {x y : Int32} {off : Int} {tgt : Nat} (hd : decode M.2.1 pc = .ok (.if_icmp .gt off, 3)) (hp : pc + 3 = pc') (ht : (pc : Int) + off = (tgt : Int)) (h1 : y < x → PW M d ord mc ms Q tgt lv st al k n σ) (h2 : ¬ y < x → PW M d ord mc ms Q pc' lv st al k n σ) : PW M d ord mc ms Q pc lv (.int y :: .int x :: st) al k n σ := by
  subst hp
  intro p l e s m args below meth c D cy ad A H locs ls C hP hD hS hl
  exact lv_icmp_gt C.1 C.2.1 hd ht (fun z => h1 z p l e s m args below meth c D cy ad A H locs ls C hP hD hS hl) (fun z => h2 z p l e s m args below meth c D cy ad A H locs ls C hP hD hS hl)
theorem PW_if_le {M : pM} {d : Nat} {ord : List Nat} {mc ms : Nat} {Q : Option Value → pAL × pS → Prop} {pc pc' : Nat} {lv : List (Nat × Value)} {st : List Value} {al : pAL} {k n : Nat} {σ : pS} {x : Int32} {off : Int} {tgt : Nat} (hd : decode M.2.1 pc = .ok (.ifCond .le off, 3)) (hp : pc + 3 = pc') (ht : (pc : Int) + off = (tgt : Int)) (h1 : x ≤ 0 → PW M d ord mc ms Q tgt lv st al k n σ) (h2 : ¬ x ≤ 0 → PW M d ord mc ms Q pc' lv st al k n σ) : PW M d ord mc ms Q pc lv (.int x :: st) al k n σ := by
  subst hp
  intro p l e s m args below meth c D cy ad A H locs ls C hP hD hS hl
  exact lv_if_le C.1 C.2.1 hd ht (fun z => h1 z p l e s m args below meth c D cy ad A H locs ls C hP hD hS hl) (fun z => h2 z p l e s m args below meth c D cy ad A H locs ls C hP hD hS hl)
theorem PW_icmp_le {M : pM} {d : Nat} {ord : List Nat} {mc ms : Nat} {Q : Option Value → pAL × pS → Prop} {pc pc' : Nat} {lv : List (Nat × Value)} {st : List Value} {al : pAL} {k n : Nat} {σ : pS} {x y : Int32} {off : Int} {tgt : Nat} (hd : decode M.2.1 pc = .ok (.if_icmp .le off, 3)) (hp : pc + 3 = pc') (ht : (pc : Int) + off = (tgt : Int)) (h1 : x ≤ y → PW M d ord mc ms Q tgt lv st al k n σ) (h2 : ¬ x ≤ y → PW M d ord mc ms Q pc' lv st al k n σ) : PW M d ord mc ms Q pc lv (.int y :: .int x :: st) al k n σ := by
  subst hp
  intro p l e s m args below meth c D cy ad A H locs ls C hP hD hS hl
  exact lv_icmp_le C.1 C.2.1 hd ht (fun z => h1 z p l e s m args below meth c D cy ad A H locs ls C hP hD hS hl) (fun z => h2 z p l e s m args below meth c D cy ad A H locs ls C hP hD hS hl)
theorem PW_goto {M : pM} {d : Nat} {ord : List Nat} {mc ms : Nat} {Q : Option Value → pAL × pS → Prop} {pc : Nat} {lv : List (Nat × Value)} {st : List Value} {al : pAL} {k n : Nat} {σ : pS} {off : Int} {tgt : Nat} (hd : decode M.2.1 pc = .ok (.goto off, 3)) (ht : (pc : Int) + off = (tgt : Int)) (h : PW M d ord mc ms Q tgt lv st al k n σ) : PW M d ord mc ms Q pc lv st al k n σ := by
  intro p l e s m args below meth c D cy ad A H locs ls C hP hD hS hl
  exact lv_goto C.1 C.2.1 hd ht (h p l e s m args below meth c D cy ad A H locs ls C hP hD hS hl)
theorem PW_tin {M : pM} {d : Nat} {ord : List Nat} {mc ms : Nat} {Q : Option Value → pAL × pS → Prop} {pc : Nat} {lv : List (Nat × Value)} {st : List Value} {al : pAL} {k n : Nat} {σ : pS} {dflt lo hi : Int} {offs : Array Int} {len : Nat} {x : Int32} {off : Int} {tgt : Nat} (hd : decode M.2.1 pc = .ok (.tableswitch dflt lo hi offs, len)) (h1 : ¬ x.toInt < lo) (h2 : ¬ hi < x.toInt) (ho : offs[(x.toInt - lo).toNat]? = some off) (ht : (pc : Int) + off = (tgt : Int)) (h : PW M d ord mc ms Q tgt lv st al k n σ) : PW M d ord mc ms Q pc lv (.int x :: st) al k n σ := by
  intro p l e s m args below meth c D cy ad A H locs ls C hP hD hS hl
  exact lv_tableIn C.1 C.2.1 hd h1 h2 ho ht (h p l e s m args below meth c D cy ad A H locs ls C hP hD hS hl)
theorem PW_tout {M : pM} {d : Nat} {ord : List Nat} {mc ms : Nat} {Q : Option Value → pAL × pS → Prop} {pc : Nat} {lv : List (Nat × Value)} {st : List Value} {al : pAL} {k n : Nat} {σ : pS} {dflt lo hi : Int} {offs : Array Int} {len : Nat} {x : Int32} {tgt : Nat} (hd : decode M.2.1 pc = .ok (.tableswitch dflt lo hi offs, len)) (h1 : x.toInt < lo ∨ hi < x.toInt) (ht : (pc : Int) + dflt = (tgt : Int)) (h : PW M d ord mc ms Q tgt lv st al k n σ) : PW M d ord mc ms Q pc lv (.int x :: st) al k n σ := by
  intro p l e s m args below meth c D cy ad A H locs ls C hP hD hS hl
  exact lv_tableOut C.1 C.2.1 hd h1 ht (h p l e s m args below meth c D cy ad A H locs ls C hP hD hS hl)
theorem PW_look {M : pM} {d : Nat} {ord : List Nat} {mc ms : Nat} {Q : Option Value → pAL × pS → Prop} {pc : Nat} {lv : List (Nat × Value)} {st : List Value} {al : pAL} {k n : Nat} {σ : pS} {dflt : Int} {ps : Array (Int × Int)} {len : Nat} {x : Int32} {off : Int} {tgt : Nat} (hd : decode M.2.1 pc = .ok (.lookupswitch dflt ps, len)) (hz : (ps.toList.zip (ps.toList.drop 1)).all (fun (a, next) => a.1 < next.1) = true) (ho : Op.lookupswitch.offset ps.toList dflt x.toInt = off) (ht : (pc : Int) + off = (tgt : Int)) (h : PW M d ord mc ms Q tgt lv st al k n σ) : PW M d ord mc ms Q pc lv (.int x :: st) al k n σ := by
  intro p l e s m args below meth c D cy ad A H locs ls C hP hD hS hl
  exact lv_lookup C.1 C.2.1 hd hz ho ht (h p l e s m args below meth c D cy ad A H locs ls C hP hD hS hl)
theorem pw_en_o {ad cy : Nat → Nat} {σ : pS} {id ci nn : Nat} (h : ci < 13) : pw_en ad cy σ (id, ci, nn) = .inr (ci, pw_fl ad σ id 0 (pw_fk ci)) := by unfold pw_en; rw [if_pos h]
theorem pw_en_i {ad cy : Nat → Nat} {σ : pS} {id nn : Nat} : pw_en ad cy σ (id, 13, nn) = .inl (cy 0, nn, .inl (σ.1 id)) := rfl
theorem pw_en_l {ad cy : Nat → Nat} {σ : pS} {id nn : Nat} : pw_en ad cy σ (id, 14, nn) = .inl (cy 1, nn, .inr (.inl (σ.2.1 id))) := rfl
theorem pw_en_z {ad cy : Nat → Nat} {σ : pS} {id nn : Nat} : pw_en ad cy σ (id, 15, nn) = .inl (cy 2, nn, .inl (σ.1 id)) := rfl
theorem pw_ci {ci : Nat} {q : vw_C} (h : pw_cl[ci]? = some q) : ci < 13 := (List.getElem?_eq_some_iff.mp h).1
theorem PW_getI {M : pM} {d : Nat} {ord : List Nat} {mc ms : Nat} {Q : Option Value → pAL × pS → Prop} {pc pc' : Nat} {lv : List (Nat × Value)} {st : List Value} {al : pAL} {k n : Nat} {σ : pS} {id ci nn ix j : Nat} {C0 : String} {T : u_T} {N : Nat} (hd : decode M.2.1 pc = .ok (.getfield ix, 3)) (hp : pc + 3 = pc') (hin : (id, ci, nn) ∈ al) (hc : pw_cl[ci]? = some (C0, T, N)) (hws : ∀ w ∈ u_ws C0 T N, w ∈ pw_tb) (hj : j < N) (hk : (pw_fk ci)[j]? = some true) (hw : Cond.fieldLink M.1 ix (T j).1 (T j).2.1 (T j).2.2.1 ∈ pw_tb) (h : PW M d ord mc ms Q pc' lv (.int (σ.1 id j) :: st) al k n σ) : PW M d ord mc ms Q pc lv (.ref id :: st) al k n σ := by
  subst hp
  intro p l e s m args below meth c D cy ad A H locs ls C hP hD hS hl
  have C2 := C
  obtain ⟨hx, hb, hr, hml, hown, hts, hlk, hK, hA, ho, hX, hnm0⟩ := C2
  obtain ⟨q, hq1, hq2⟩ := pw_ws_at (ad := ad) (cy := cy) (σ := σ) hin
  rw [pw_en_o (pw_ci hc)] at hq1
  refine va_get (D := D) (ci := ci) (v := .int (σ.1 id j)) (C := C0) (T := T) (N := N) hx hb hts hws hown hK hP q hq1 hc j hj (hts _ hw) (fun _ h9 => h9) ?_ hd (h p l e s m args below meth c D cy ad A H locs ls C hP hD hS hl)
  have e := pw_fl_i ad σ id (pw_fk ci) 0 j hk
  rwa [Nat.zero_add] at e
theorem PW_getR {M : pM} {d : Nat} {ord : List Nat} {mc ms : Nat} {Q : Option Value → pAL × pS → Prop} {pc pc' : Nat} {lv : List (Nat × Value)} {st : List Value} {al : pAL} {k n : Nat} {σ : pS} {id ci nn ix j : Nat} {C0 : String} {T : u_T} {N : Nat} {r : Nat} (hd : decode M.2.1 pc = .ok (.getfield ix, 3)) (hp : pc + 3 = pc') (hin : (id, ci, nn) ∈ al) (hc : pw_cl[ci]? = some (C0, T, N)) (hws : ∀ w ∈ u_ws C0 T N, w ∈ pw_tb) (hj : j < N) (hk : (pw_fk ci)[j]? = some false) (hw : Cond.fieldLink M.1 ix (T j).1 (T j).2.1 (T j).2.2.1 ∈ pw_tb) (hr : σ.2.2 id j = r) (hr0 : ¬ r = 0) (h : PW M d ord mc ms Q pc' lv (.ref r :: st) al k n σ) : PW M d ord mc ms Q pc lv (.ref id :: st) al k n σ := by
  subst hp
  intro p l e s m args below meth c D cy ad A H locs ls C hP hD hS hl
  have C2 := C
  obtain ⟨hx, hb, -, hml, hown, hts, hlk, hK, hA, ho, hX, hnm0⟩ := C2
  obtain ⟨q, hq1, hq2⟩ := pw_ws_at (ad := ad) (cy := cy) (σ := σ) hin
  rw [pw_en_o (pw_ci hc)] at hq1
  refine va_get (D := D) (ci := ci) (v := .ref (ad r)) (C := C0) (T := T) (N := N) hx hb hts hws hown hK hP q hq1 hc j hj (hts _ hw) (fun _ h9 => h9) ?_ hd (h p l e s m args below meth c D cy ad A H locs ls C hP hD hS hl)
  have e := pw_fl_r ad σ id (pw_fk ci) 0 j hk
  rw [Nat.zero_add, hr, pw_rv, if_neg hr0] at e
  exact e
theorem PW_putI {M : pM} {d : Nat} {ord : List Nat} {mc ms : Nat} {Q : Option Value → pAL × pS → Prop} {pc pc' : Nat} {lv : List (Nat × Value)} {st : List Value} {al : pAL} {k n : Nat} {σ : pS} {id ci nn ix j : Nat} {C0 : String} {T : u_T} {N : Nat} {v : Int32} {ty : FieldType} {ty0 : Nat → FieldType} (hd : decode M.2.1 pc = .ok (.putfield ix, 3)) (hp : pc + 3 = pc') (hin : (id, ci, nn) ∈ al) (hc : pw_cl[ci]? = some (C0, T, N)) (hws : ∀ w ∈ u_ws C0 T N, w ∈ pw_tb) (hty : ∀ k, k < N → parseFieldDescriptor (T k).2.2.1 = some (ty0 k)) (hnm : ∀ a, a < N → ∀ b, b < N → a ≠ b → (T a).2.1 ≠ (T b).2.1) (hj : j < N) (hk : (pw_fk ci)[j]? = some true) (hw : Cond.fieldLink M.1 ix (T j).1 (T j).2.1 (T j).2.2.1 ∈ pw_tb) (hfin : (T j).2.2.2 = false) (hpt : parseFieldDescriptor (T j).2.2.1 = some ty) (hnr : ∀ ad : Nat → Nat, narrow ty (pw_cv ad (.int v)) = pw_cv ad (.int v)) (hft : ∀ ad : Nat → Nat, fits ty (pw_cv ad (.int v)) = true) (h : PW M d ord mc ms Q pc' lv st al k n (pw_wI σ id j v)) : PW M d ord mc ms Q pc lv (.int v :: .ref id :: st) al k n σ := by
  subst hp
  intro p l e s m args below meth c D cy ad A H locs ls C hP hD hS hl
  have C2 := C
  obtain ⟨hx, hb, hr, hml, hown, hts, hlk, hK, hA, ho, hX, hnm0⟩ := C2
  obtain ⟨q, hq1, hq2⟩ := pw_ws_at (ad := ad) (cy := cy) (σ := σ) hin
  rw [pw_en_o (pw_ci hc)] at hq1
  have es : (pw_fl ad σ id 0 (pw_fk ci)).set j (.int v) = pw_fl ad (pw_wI σ id j v) id 0 (pw_fk ci) := by
    have e := pw_fl_wI ad σ id j v (pw_fk ci) 0 (by rw [Nat.sub_zero]; exact hk) (Nat.zero_le j)
    rw [Nat.sub_zero] at e
    exact e
  refine va_put (D := D) (ci := ci) (v := .int v) (C := C0) (T := T) (N := N) hx hb hts hws ty0 hty hnm hown hK hP hD hS q hq1 hc j hj (hts _ hw) (fun _ h9 => h9) hfin hpt (hnr ad) (hft ad) (by rw [pw_fl_len]; exact (List.getElem?_eq_some_iff.mp hk).1) hd (fun H1 locs1 hP1 hD1 hS1 => ?_)
  rw [es] at hP1 hD1
  have e2 := pw_ws_set (σ' := pw_wI σ id j v) hD hq2 (fun i hi => ⟨?_, ?_, ?_⟩)
  · rw [pw_en_o (pw_ci hc)] at e2
    rw [e2] at hP1 hD1
    exact h p l e s m args below meth c D cy ad A H1 locs1 ls C hP1 hD1 hS1 hl
  all_goals (first | rfl | (funext z; simp [pw_wI, pw_wR]; intro h1; exact absurd h1 hi))
theorem PW_putFI {M : pM} {d : Nat} {ord : List Nat} {mc ms : Nat} {Q : Option Value → pAL × pS → Prop} {pc pc' : Nat} {lv : List (Nat × Value)} {st : List Value} {al : pAL} {k n : Nat} {σ : pS} {id ci nn ix j : Nat} {C0 : String} {T : u_T} {N : Nat} {v : Int32} {ty : FieldType} {ty0 : Nat → FieldType} (hd : decode M.2.1 pc = .ok (.putfield ix, 3)) (hp : pc + 3 = pc') (hin : (id, ci, nn) ∈ al) (hc : pw_cl[ci]? = some (C0, T, N)) (hws : ∀ w ∈ u_ws C0 T N, w ∈ pw_tb) (hty : ∀ k, k < N → parseFieldDescriptor (T k).2.2.1 = some (ty0 k)) (hnm : ∀ a, a < N → ∀ b, b < N → a ≠ b → (T a).2.1 ≠ (T b).2.1) (hj : j < N) (hk : (pw_fk ci)[j]? = some true) (hw : Cond.fieldLink M.1 ix (T j).1 (T j).2.1 (T j).2.2.1 ∈ pw_tb) (hfin : (T j).2.2.2 = true) (hown0 : (T j).1 = M.1) (hpt : parseFieldDescriptor (T j).2.2.1 = some ty) (hnr : ∀ ad : Nat → Nat, narrow ty (pw_cv ad (.int v)) = pw_cv ad (.int v)) (hft : ∀ ad : Nat → Nat, fits ty (pw_cv ad (.int v)) = true) (hinit : M.2.2.2.2 = "<init>") (h : PW M d ord mc ms Q pc' lv st al k n (pw_wI σ id j v)) : PW M d ord mc ms Q pc lv (.int v :: .ref id :: st) al k n σ := by
  subst hp
  intro p l e s m args below meth c D cy ad A H locs ls C hP hD hS hl
  have C2 := C
  obtain ⟨hx, hb, hr, hml, hown, hts, hlk, hK, hA, ho, hX, hnm0⟩ := C2
  have hin2 : meth.name = "<init>" := hnm0.trans hinit
  obtain ⟨q, hq1, hq2⟩ := pw_ws_at (ad := ad) (cy := cy) (σ := σ) hin
  rw [pw_en_o (pw_ci hc)] at hq1
  have es : (pw_fl ad σ id 0 (pw_fk ci)).set j (.int v) = pw_fl ad (pw_wI σ id j v) id 0 (pw_fk ci) := by
    have e := pw_fl_wI ad σ id j v (pw_fk ci) 0 (by rw [Nat.sub_zero]; exact hk) (Nat.zero_le j)
    rw [Nat.sub_zero] at e
    exact e
  refine va_putF (D := D) (ci := ci) (v := .int v) (C := C0) (T := T) (N := N) hx hb hts hws ty0 hty hnm hown hK hP hD hS q hq1 hc j hj (hts _ hw) (fun _ h9 => h9) hfin hin2 hown0 hpt (hnr ad) (hft ad) (by rw [pw_fl_len]; exact (List.getElem?_eq_some_iff.mp hk).1) hd (fun H1 locs1 hP1 hD1 hS1 => ?_)
  rw [es] at hP1 hD1
  have e2 := pw_ws_set (σ' := pw_wI σ id j v) hD hq2 (fun i hi => ⟨?_, ?_, ?_⟩)
  · rw [pw_en_o (pw_ci hc)] at e2
    rw [e2] at hP1 hD1
    exact h p l e s m args below meth c D cy ad A H1 locs1 ls C hP1 hD1 hS1 hl
  all_goals (first | rfl | (funext z; simp [pw_wI, pw_wR]; intro h1; exact absurd h1 hi))
theorem PW_putR {M : pM} {d : Nat} {ord : List Nat} {mc ms : Nat} {Q : Option Value → pAL × pS → Prop} {pc pc' : Nat} {lv : List (Nat × Value)} {st : List Value} {al : pAL} {k n : Nat} {σ : pS} {id ci nn ix j : Nat} {C0 : String} {T : u_T} {N : Nat} {v : Nat} {ty : FieldType} {ty0 : Nat → FieldType} (hd : decode M.2.1 pc = .ok (.putfield ix, 3)) (hp : pc + 3 = pc') (hin : (id, ci, nn) ∈ al) (hc : pw_cl[ci]? = some (C0, T, N)) (hws : ∀ w ∈ u_ws C0 T N, w ∈ pw_tb) (hty : ∀ k, k < N → parseFieldDescriptor (T k).2.2.1 = some (ty0 k)) (hnm : ∀ a, a < N → ∀ b, b < N → a ≠ b → (T a).2.1 ≠ (T b).2.1) (hj : j < N) (hk : (pw_fk ci)[j]? = some false) (hw : Cond.fieldLink M.1 ix (T j).1 (T j).2.1 (T j).2.2.1 ∈ pw_tb) (hv0 : ¬ v = 0) (hfin : (T j).2.2.2 = false) (hpt : parseFieldDescriptor (T j).2.2.1 = some ty) (hnr : ∀ ad : Nat → Nat, narrow ty (pw_cv ad (.ref v)) = pw_cv ad (.ref v)) (hft : ∀ ad : Nat → Nat, fits ty (pw_cv ad (.ref v)) = true) (h : PW M d ord mc ms Q pc' lv st al k n (pw_wR σ id j v)) : PW M d ord mc ms Q pc lv (.ref v :: .ref id :: st) al k n σ := by
  subst hp
  intro p l e s m args below meth c D cy ad A H locs ls C hP hD hS hl
  have C2 := C
  obtain ⟨hx, hb, hr, hml, hown, hts, hlk, hK, hA, ho, hX, hnm0⟩ := C2
  obtain ⟨q, hq1, hq2⟩ := pw_ws_at (ad := ad) (cy := cy) (σ := σ) hin
  rw [pw_en_o (pw_ci hc)] at hq1
  have es : (pw_fl ad σ id 0 (pw_fk ci)).set j (.ref (ad v)) = pw_fl ad (pw_wR σ id j v) id 0 (pw_fk ci) := by
    have e := pw_fl_wR ad σ id j v (pw_fk ci) 0 (by rw [Nat.sub_zero]; exact hk) (Nat.zero_le j)
    rw [Nat.sub_zero] at e
    rw [pw_rv, if_neg hv0] at e; exact e
  refine va_put (D := D) (ci := ci) (v := .ref (ad v)) (C := C0) (T := T) (N := N) hx hb hts hws ty0 hty hnm hown hK hP hD hS q hq1 hc j hj (hts _ hw) (fun _ h9 => h9) hfin hpt (hnr ad) (hft ad) (by rw [pw_fl_len]; exact (List.getElem?_eq_some_iff.mp hk).1) hd (fun H1 locs1 hP1 hD1 hS1 => ?_)
  rw [es] at hP1 hD1
  have e2 := pw_ws_set (σ' := pw_wR σ id j v) hD hq2 (fun i hi => ⟨?_, ?_, ?_⟩)
  · rw [pw_en_o (pw_ci hc)] at e2
    rw [e2] at hP1 hD1
    exact h p l e s m args below meth c D cy ad A H1 locs1 ls C hP1 hD1 hS1 hl
  all_goals (first | rfl | (funext z; simp [pw_wI, pw_wR]; intro h1; exact absurd h1 hi))
theorem PW_putFR {M : pM} {d : Nat} {ord : List Nat} {mc ms : Nat} {Q : Option Value → pAL × pS → Prop} {pc pc' : Nat} {lv : List (Nat × Value)} {st : List Value} {al : pAL} {k n : Nat} {σ : pS} {id ci nn ix j : Nat} {C0 : String} {T : u_T} {N : Nat} {v : Nat} {ty : FieldType} {ty0 : Nat → FieldType} (hd : decode M.2.1 pc = .ok (.putfield ix, 3)) (hp : pc + 3 = pc') (hin : (id, ci, nn) ∈ al) (hc : pw_cl[ci]? = some (C0, T, N)) (hws : ∀ w ∈ u_ws C0 T N, w ∈ pw_tb) (hty : ∀ k, k < N → parseFieldDescriptor (T k).2.2.1 = some (ty0 k)) (hnm : ∀ a, a < N → ∀ b, b < N → a ≠ b → (T a).2.1 ≠ (T b).2.1) (hj : j < N) (hk : (pw_fk ci)[j]? = some false) (hw : Cond.fieldLink M.1 ix (T j).1 (T j).2.1 (T j).2.2.1 ∈ pw_tb) (hv0 : ¬ v = 0) (hfin : (T j).2.2.2 = true) (hown0 : (T j).1 = M.1) (hpt : parseFieldDescriptor (T j).2.2.1 = some ty) (hnr : ∀ ad : Nat → Nat, narrow ty (pw_cv ad (.ref v)) = pw_cv ad (.ref v)) (hft : ∀ ad : Nat → Nat, fits ty (pw_cv ad (.ref v)) = true) (hinit : M.2.2.2.2 = "<init>") (h : PW M d ord mc ms Q pc' lv st al k n (pw_wR σ id j v)) : PW M d ord mc ms Q pc lv (.ref v :: .ref id :: st) al k n σ := by
  subst hp
  intro p l e s m args below meth c D cy ad A H locs ls C hP hD hS hl
  have C2 := C
  obtain ⟨hx, hb, hr, hml, hown, hts, hlk, hK, hA, ho, hX, hnm0⟩ := C2
  have hin2 : meth.name = "<init>" := hnm0.trans hinit
  obtain ⟨q, hq1, hq2⟩ := pw_ws_at (ad := ad) (cy := cy) (σ := σ) hin
  rw [pw_en_o (pw_ci hc)] at hq1
  have es : (pw_fl ad σ id 0 (pw_fk ci)).set j (.ref (ad v)) = pw_fl ad (pw_wR σ id j v) id 0 (pw_fk ci) := by
    have e := pw_fl_wR ad σ id j v (pw_fk ci) 0 (by rw [Nat.sub_zero]; exact hk) (Nat.zero_le j)
    rw [Nat.sub_zero] at e
    rw [pw_rv, if_neg hv0] at e; exact e
  refine va_putF (D := D) (ci := ci) (v := .ref (ad v)) (C := C0) (T := T) (N := N) hx hb hts hws ty0 hty hnm hown hK hP hD hS q hq1 hc j hj (hts _ hw) (fun _ h9 => h9) hfin hin2 hown0 hpt (hnr ad) (hft ad) (by rw [pw_fl_len]; exact (List.getElem?_eq_some_iff.mp hk).1) hd (fun H1 locs1 hP1 hD1 hS1 => ?_)
  rw [es] at hP1 hD1
  have e2 := pw_ws_set (σ' := pw_wR σ id j v) hD hq2 (fun i hi => ⟨?_, ?_, ?_⟩)
  · rw [pw_en_o (pw_ci hc)] at e2
    rw [e2] at hP1 hD1
    exact h p l e s m args below meth c D cy ad A H1 locs1 ls C hP1 hD1 hS1 hl
  all_goals (first | rfl | (funext z; simp [pw_wI, pw_wR]; intro h1; exact absurd h1 hi))
theorem PW_iald {M : pM} {d : Nat} {ord : List Nat} {mc ms : Nat} {Q : Option Value → pAL × pS → Prop} {pc pc' : Nat} {lv : List (Nat × Value)} {st : List Value} {al : pAL} {k n : Nat} {σ : pS} {id nn : Nat} {i : Int32} (hd : decode M.2.1 pc = .ok (.iaload, 1)) (hp : pc + 1 = pc') (hin : (id, 13, nn) ∈ al) (hi : vp_in i nn) (h : PW M d ord mc ms Q pc' lv (.int (σ.1 id i.toNatClampNeg) :: st) al k n σ) : PW M d ord mc ms Q pc lv (.int i :: .ref id :: st) al k n σ := by
  subst hp
  intro p l e s m args below meth c D cy ad A H locs ls C hP hD hS hl
  have C2 := C
  obtain ⟨hx, hb, hr, hml, hown, hts, hlk, hK, hA, ho, hX, hnm0⟩ := C2
  obtain ⟨q, hq1, hq2⟩ := pw_ws_at (ad := ad) (cy := cy) (σ := σ) hin
  exact va_iald (D := D) hx hb hK hP q 0 hq1 rfl hi hd (h p l e s m args below meth c D cy ad A H locs ls C hP hD hS hl)
theorem PW_zald {M : pM} {d : Nat} {ord : List Nat} {mc ms : Nat} {Q : Option Value → pAL × pS → Prop} {pc pc' : Nat} {lv : List (Nat × Value)} {st : List Value} {al : pAL} {k n : Nat} {σ : pS} {id nn : Nat} {i : Int32} (hd : decode M.2.1 pc = .ok (.baload, 1)) (hp : pc + 1 = pc') (hin : (id, 15, nn) ∈ al) (hi : vp_in i nn) (h : PW M d ord mc ms Q pc' lv (.int (σ.1 id i.toNatClampNeg) :: st) al k n σ) : PW M d ord mc ms Q pc lv (.int i :: .ref id :: st) al k n σ := by
  subst hp
  intro p l e s m args below meth c D cy ad A H locs ls C hP hD hS hl
  have C2 := C
  obtain ⟨hx, hb, hr, hml, hown, hts, hlk, hK, hA, ho, hX, hnm0⟩ := C2
  obtain ⟨q, hq1, hq2⟩ := pw_ws_at (ad := ad) (cy := cy) (σ := σ) hin
  exact va_zald (D := D) hx hb hK hP q 2 hq1 rfl hi hd (h p l e s m args below meth c D cy ad A H locs ls C hP hD hS hl)
theorem PW_lald {M : pM} {d : Nat} {ord : List Nat} {mc ms : Nat} {Q : Option Value → pAL × pS → Prop} {pc pc' : Nat} {lv : List (Nat × Value)} {st : List Value} {al : pAL} {k n : Nat} {σ : pS} {id nn : Nat} {i : Int32} (hd : decode M.2.1 pc = .ok (.laload, 1)) (hp : pc + 1 = pc') (hin : (id, 14, nn) ∈ al) (hi : vp_in i nn) (h : PW M d ord mc ms Q pc' lv (.long (σ.2.1 id i.toNatClampNeg) :: st) al k n σ) : PW M d ord mc ms Q pc lv (.int i :: .ref id :: st) al k n σ := by
  subst hp
  intro p l e s m args below meth c D cy ad A H locs ls C hP hD hS hl
  have C2 := C
  obtain ⟨hx, hb, hr, hml, hown, hts, hlk, hK, hA, ho, hX, hnm0⟩ := C2
  obtain ⟨q, hq1, hq2⟩ := pw_ws_at (ad := ad) (cy := cy) (σ := σ) hin
  exact va_lald (D := D) hx hb hK hP q 1 hq1 rfl hi hd (h p l e s m args below meth c D cy ad A H locs ls C hP hD hS hl)
theorem PW_iast {M : pM} {d : Nat} {ord : List Nat} {mc ms : Nat} {Q : Option Value → pAL × pS → Prop} {pc pc' : Nat} {lv : List (Nat × Value)} {st : List Value} {al : pAL} {k n : Nat} {σ : pS} {id nn : Nat} {i : Int32} {v : Int32} (hd : decode M.2.1 pc = .ok (.iastore, 1)) (hp : pc + 1 = pc') (hin : (id, 13, nn) ∈ al) (hi : vp_in i nn) (h : PW M d ord mc ms Q pc' lv st al k n (pw_wI σ id i.toNatClampNeg v)) : PW M d ord mc ms Q pc lv (.int v :: .int i :: .ref id :: st) al k n σ := by
  subst hp
  intro p l e s m args below meth c D cy ad A H locs ls C hP hD hS hl
  have C2 := C
  obtain ⟨hx, hb, hr, hml, hown, hts, hlk, hK, hA, ho, hX, hnm0⟩ := C2
  obtain ⟨q, hq1, hq2⟩ := pw_ws_at (ad := ad) (cy := cy) (σ := σ) hin
  refine va_iast (D := D) hx hb hK hP hD hS q 0 hq1 rfl hi hd (fun H1 locs1 hP1 hD1 hS1 => ?_)
  have e2 := pw_ws_set (σ' := pw_wI σ id i.toNatClampNeg v) hD hq2 (fun i hi => ⟨?_, ?_, ?_⟩)
  · rw [pw_en_i] at e2
    have e3 : (pw_wI σ id i.toNatClampNeg v).1 id = upd (σ.1 id) i.toNatClampNeg v := by funext z; simp [pw_wI, upd, vp_updL]
    rw [e3] at e2
    rw [e2] at hP1 hD1
    exact h p l e s m args below meth c D cy ad A H1 locs1 ls C hP1 hD1 hS1 hl
  all_goals (first | rfl | (funext z; simp [pw_wI, pw_wL]; intro h1; exact absurd h1 hi))
theorem PW_zast {M : pM} {d : Nat} {ord : List Nat} {mc ms : Nat} {Q : Option Value → pAL × pS → Prop} {pc pc' : Nat} {lv : List (Nat × Value)} {st : List Value} {al : pAL} {k n : Nat} {σ : pS} {id nn : Nat} {i : Int32} {v : Int32} (hd : decode M.2.1 pc = .ok (.bastore, 1)) (hp : pc + 1 = pc') (hin : (id, 15, nn) ∈ al) (hi : vp_in i nn) (h : PW M d ord mc ms Q pc' lv st al k n (pw_wI σ id i.toNatClampNeg (vp_nar .boolean v))) : PW M d ord mc ms Q pc lv (.int v :: .int i :: .ref id :: st) al k n σ := by
  subst hp
  intro p l e s m args below meth c D cy ad A H locs ls C hP hD hS hl
  have C2 := C
  obtain ⟨hx, hb, hr, hml, hown, hts, hlk, hK, hA, ho, hX, hnm0⟩ := C2
  obtain ⟨q, hq1, hq2⟩ := pw_ws_at (ad := ad) (cy := cy) (σ := σ) hin
  refine va_zast (D := D) hx hb hK hP hD hS q 2 hq1 rfl hi hd (fun H1 locs1 hP1 hD1 hS1 => ?_)
  have e2 := pw_ws_set (σ' := pw_wI σ id i.toNatClampNeg (vp_nar .boolean v)) hD hq2 (fun i hi => ⟨?_, ?_, ?_⟩)
  · rw [pw_en_z] at e2
    have e3 : (pw_wI σ id i.toNatClampNeg (vp_nar .boolean v)).1 id = upd (σ.1 id) i.toNatClampNeg (vp_nar .boolean v) := by funext z; simp [pw_wI, upd, vp_updL]
    rw [e3] at e2
    rw [e2] at hP1 hD1
    exact h p l e s m args below meth c D cy ad A H1 locs1 ls C hP1 hD1 hS1 hl
  all_goals (first | rfl | (funext z; simp [pw_wI, pw_wL]; intro h1; exact absurd h1 hi))
theorem PW_last {M : pM} {d : Nat} {ord : List Nat} {mc ms : Nat} {Q : Option Value → pAL × pS → Prop} {pc pc' : Nat} {lv : List (Nat × Value)} {st : List Value} {al : pAL} {k n : Nat} {σ : pS} {id nn : Nat} {i : Int32} {v : Int64} (hd : decode M.2.1 pc = .ok (.lastore, 1)) (hp : pc + 1 = pc') (hin : (id, 14, nn) ∈ al) (hi : vp_in i nn) (h : PW M d ord mc ms Q pc' lv st al k n (pw_wL σ id i.toNatClampNeg v)) : PW M d ord mc ms Q pc lv (.long v :: .int i :: .ref id :: st) al k n σ := by
  subst hp
  intro p l e s m args below meth c D cy ad A H locs ls C hP hD hS hl
  have C2 := C
  obtain ⟨hx, hb, hr, hml, hown, hts, hlk, hK, hA, ho, hX, hnm0⟩ := C2
  obtain ⟨q, hq1, hq2⟩ := pw_ws_at (ad := ad) (cy := cy) (σ := σ) hin
  refine va_last (D := D) hx hb hK hP hD hS q 1 hq1 rfl hi hd (fun H1 locs1 hP1 hD1 hS1 => ?_)
  have e2 := pw_ws_set (σ' := pw_wL σ id i.toNatClampNeg v) hD hq2 (fun i hi => ⟨?_, ?_, ?_⟩)
  · rw [pw_en_l] at e2
    have e3 : (pw_wL σ id i.toNatClampNeg v).2.1 id = vp_updL (σ.2.1 id) i.toNatClampNeg v := by funext z; simp [pw_wL, upd, vp_updL]
    rw [e3] at e2
    rw [e2] at hP1 hD1
    exact h p l e s m args below meth c D cy ad A H1 locs1 ls C hP1 hD1 hS1 hl
  all_goals (first | rfl | (funext z; simp [pw_wI, pw_wL]; intro h1; exact absurd h1 hi))
theorem PW_alen13 {M : pM} {d : Nat} {ord : List Nat} {mc ms : Nat} {Q : Option Value → pAL × pS → Prop} {pc pc' : Nat} {lv : List (Nat × Value)} {st : List Value} {al : pAL} {k n : Nat} {σ : pS} {id nn : Nat} (hd : decode M.2.1 pc = .ok (.arraylength, 1)) (hp : pc + 1 = pc') (hin : (id, 13, nn) ∈ al) (h : PW M d ord mc ms Q pc' lv (.int (nI nn) :: st) al k n σ) : PW M d ord mc ms Q pc lv (.ref id :: st) al k n σ := by
  subst hp
  intro p l e s m args below meth c D cy ad A H locs ls C hP hD hS hl
  have C2 := C
  obtain ⟨hx, hb, hr, hml, hown, hts, hlk, hK, hA, ho, hX, hnm0⟩ := C2
  obtain ⟨q, hq1, hq2⟩ := pw_ws_at (ad := ad) (cy := cy) (σ := σ) hin
  exact va_alen (D := D) hx hb hK hP q 0 hq1 rfl rfl hd (h p l e s m args below meth c D cy ad A H locs ls C hP hD hS hl)
theorem PW_alen14 {M : pM} {d : Nat} {ord : List Nat} {mc ms : Nat} {Q : Option Value → pAL × pS → Prop} {pc pc' : Nat} {lv : List (Nat × Value)} {st : List Value} {al : pAL} {k n : Nat} {σ : pS} {id nn : Nat} (hd : decode M.2.1 pc = .ok (.arraylength, 1)) (hp : pc + 1 = pc') (hin : (id, 14, nn) ∈ al) (h : PW M d ord mc ms Q pc' lv (.int (nI nn) :: st) al k n σ) : PW M d ord mc ms Q pc lv (.ref id :: st) al k n σ := by
  subst hp
  intro p l e s m args below meth c D cy ad A H locs ls C hP hD hS hl
  have C2 := C
  obtain ⟨hx, hb, hr, hml, hown, hts, hlk, hK, hA, ho, hX, hnm0⟩ := C2
  obtain ⟨q, hq1, hq2⟩ := pw_ws_at (ad := ad) (cy := cy) (σ := σ) hin
  exact va_alen (D := D) hx hb hK hP q 1 hq1 rfl rfl hd (h p l e s m args below meth c D cy ad A H locs ls C hP hD hS hl)
theorem PW_alen15 {M : pM} {d : Nat} {ord : List Nat} {mc ms : Nat} {Q : Option Value → pAL × pS → Prop} {pc pc' : Nat} {lv : List (Nat × Value)} {st : List Value} {al : pAL} {k n : Nat} {σ : pS} {id nn : Nat} (hd : decode M.2.1 pc = .ok (.arraylength, 1)) (hp : pc + 1 = pc') (hin : (id, 15, nn) ∈ al) (h : PW M d ord mc ms Q pc' lv (.int (nI nn) :: st) al k n σ) : PW M d ord mc ms Q pc lv (.ref id :: st) al k n σ := by
  subst hp
  intro p l e s m args below meth c D cy ad A H locs ls C hP hD hS hl
  have C2 := C
  obtain ⟨hx, hb, hr, hml, hown, hts, hlk, hK, hA, ho, hX, hnm0⟩ := C2
  obtain ⟨q, hq1, hq2⟩ := pw_ws_at (ad := ad) (cy := cy) (σ := σ) hin
  exact va_alen (D := D) hx hb hK hP q 2 hq1 rfl rfl hd (h p l e s m args below meth c D cy ad A H locs ls C hP hD hS hl)
theorem PW_iret {M : pM} {d : Nat} {ord : List Nat} {mc ms : Nat} {Q : Option Value → pAL × pS → Prop} {pc : Nat} {lv : List (Nat × Value)} {al : pAL} {σ : pS} {v : Int32} {ty : FieldType} (hd : decode M.2.1 pc = .ok (.ireturn, 1)) (ht0 : M.2.2.2.1 = some ty) (hn : narrow ty (.int v) = .int v) (hq : Q (some (.int v)) (al, σ)) : PW M d ord mc ms Q pc lv [.int v] al mc ms σ := by
  intro p l e s m args below meth c D cy ad A H locs ls C hP hD hS hl
  have C2 := C
  obtain ⟨hx, hb, hr, hml, hown, hts, hlk, hK, hA, ho, hX, hnm0⟩ := C2
  exact W.zret hx hb (hr.trans ht0) hn (fun t ht hW => ⟨⟨some (.int v), al, σ, rfl, hq, (fun ty2 v2 h1 h2 => by cases ht0.symm.trans h1; cases h2; exact hn), by rw [ht]; exact hP, va_K.moved hW.alike hK, hD⟩, hS.F ht⟩) hS.2.2 hd hlk
theorem PW_lret {M : pM} {d : Nat} {ord : List Nat} {mc ms : Nat} {Q : Option Value → pAL × pS → Prop} {pc : Nat} {lv : List (Nat × Value)} {al : pAL} {σ : pS} {v : Int64} (hd : decode M.2.1 pc = .ok (.lreturn, 1)) (ht0 : M.2.2.2.1 = some .long) (hq : Q (some (.long v)) (al, σ)) : PW M d ord mc ms Q pc lv [.long v] al mc ms σ := by
  intro p l e s m args below meth c D cy ad A H locs ls C hP hD hS hl
  have C2 := C
  obtain ⟨hx, hb, hr, hml, hown, hts, hlk, hK, hA, ho, hX, hnm0⟩ := C2
  exact W.lret hx hb (hr.trans ht0) (fun t ht hW => ⟨⟨some (.long v), al, σ, rfl, hq, (fun ty2 v2 h1 h2 => by cases ht0.symm.trans h1; cases h2; rfl), by rw [ht]; exact hP, va_K.moved hW.alike hK, hD⟩, hS.F ht⟩) hS.2.2 hd hlk
theorem PW_vret {M : pM} {d : Nat} {ord : List Nat} {mc ms : Nat} {Q : Option Value → pAL × pS → Prop} {pc : Nat} {lv : List (Nat × Value)} {al : pAL} {σ : pS} (hd : decode M.2.1 pc = .ok (.return_, 1)) (ht0 : M.2.2.2.1 = none) (hq : Q none (al, σ)) : PW M d ord mc ms Q pc lv [] al mc ms σ := by
  intro p l e s m args below meth c D cy ad A H locs ls C hP hD hS hl
  have C2 := C
  obtain ⟨hx, hb, hr, hml, hown, hts, hlk, hK, hA, ho, hX, hnm0⟩ := C2
  exact W.vret hx hb (hr.trans ht0) (fun t ht hW => ⟨⟨none, al, σ, rfl, hq, (fun ty2 v2 h1 h2 => by cases h2), by rw [ht]; exact hP, va_K.moved hW.alike hK, hD⟩, hS.F ht⟩) hS.2.2 hd hlk
theorem pw_back {p : Program} {l : Launch} {e : Env} {R : Room} {s : State} {m : MethodId} {args : Array Value} {below : List Frame} {meth : Method} {c : Code} {H : Heap} {locs : List Loc} {k n mc ms pc : Nat} {Z : State → Prop} {ls : Array Slot} {st0 rest : List Value} {M' : pM} {Q' : Option Value → pAL × pS → Prop} {D : va_G} {cy ad : Nat → Nat} {al : pAL} {σ : pS} {A : Nat → Prop} {a : Array Value}
    (hr : va_Run p l e R s m args below meth c H locs k n mc ms (F0 m pc ls st0) rest (pw_Q M' Q' D cy ad (va_A (pw_ws ad cy al σ) H.size) a) (va_A (pw_ws ad cy al σ) H.size)) (hS : va_S A s.heap H locs) (hF : ∀ z, va_A (pw_ws ad cy al σ) H.size z → A z)
    (kk : ∀ (r : Option Value) (al' : pAL) (σ' : pS) (H1 : Heap) (locs1 : List Loc), Q' r (al', σ') → pw_nr M'.2.2.2.1 r → va_P D pw_cl (pw_ws ad cy al' σ') H1 → va_D A (pw_ws ad cy al' σ') → va_S A s.heap H1 locs1 → W p l e R s m args below meth c H1 locs1 (k + mc) (n + ms) Z (F0 m (pc + 3) ls ((r.map (pw_cv ad)).toList ++ rest))) : W p l e R s m args below meth c H locs k n Z (F0 m pc ls st0) := by
  intro T hT X
  obtain ⟨v, st₀, t, T', L, h0, X', hL, e1, e2, ⟨⟨r, al', σ', hv, hq, hnr, hP1, -, hD1⟩, hz, hk⟩, st⟩ := hr T hT X
  cases hv
  rw [h0] at hz hk
  obtain ⟨t2, a1, b1⟩ := kk r al' σ' T'.heap (locs ++ L) hq hnr (by rw [e1]; exact hP1) (hD1.weaken (fun _ _ _ h => hF _ h))
    ⟨Nat.le_trans hS.1 (by rw [e1]; exact hz), fun q h1 h2 => by rw [e1, hk q (Nat.lt_of_lt_of_le h1 hS.1) (fun z => h2 (hF q z))]; exact hS.2.1 q h1 h2, fun q hq => by
      rcases List.mem_append.mp hq with h | h
      · exact hS.2.2 q h
      · exact hF _ (hL q h)⟩ T' rfl X'
  exact ⟨t2, st t2 a1, b1⟩
theorem pw_blind {av : List Value} {D : va_G} {cy ad : Nat → Nat} {al : pAL} {σ : pS} {sz : Nat} {ord : List Nat} {A : Nat → Prop} : FrameBlind (va_Pc av (fun U => U.heap.size = sz ∧ va_P D pw_cl (pw_ws ad cy al σ) U.heap ∧ va_K D pw_cl (pw_tys cy) U ∧ va_D (fun _ => True) (pw_ws ad cy al σ) ∧ (∀ i id, ord[i]? = some id → ad id = sz + i) ∧ pw_X ad A U)) :=
  fun a U g mk q => by
    obtain ⟨q0, q1, qP, qK, qD, qo, qX⟩ := q
    exact ⟨q0, q1, qP, va_K.moved (u := U) (U := U.calling g mk a) (Vm.Alike.refl U.vm) qK, qD, qo, qX.calling⟩
theorem pw_stk (ad : Nat → Nat) (r : Option Value) (st : List Value) : (r.map (pw_cv ad)).toList ++ st.map (pw_cv ad) = (r.toList ++ st).map (pw_cv ad) := by cases r <;> rfl
theorem pw_len_of {y : MethodName} {n : Nat} (h : (parseMethodDescriptor y.desc).map (fun d => d.parameters.length) = some n) : ∀ sig, parseMethodDescriptor y.desc = some sig → n = sig.parameters.length := by
  intro sig h2
  rw [h2] at h
  exact (Option.some.inj h).symm
/-- what a call of y wants of the tables -/
def pw_Y (y : MethodName) (M' : pM) (nA : Nat) : Prop := (y.cls ≠ "java/lang/invoke/MethodHandle" ∧ y.cls ≠ "java/lang/invoke/VarHandle") ∧ (parseMethodDescriptor y.desc).map (fun d => d.parameters.length) = some nA ∧ Cond.initialized y.cls ∈ pw_tb ∧ Cond.code y M'.2.1 M'.2.2.1 M'.2.2.2.1 ∈ pw_tb ∧ M'.2.2.1 ≤ 21
theorem pw_CB {M : pM} {d : Nat} {mc ms : Nat} {s : State} {args : Array Value} {y : MethodName} {M' : pM} {nA d' mc' ms' ix : Nat} (hts : ∀ w ∈ pw_tb, w.before args s = true) (hY : pw_Y y M' nA) (hdd : d' + 1 ≤ d) (hl : Cond.methodLink M.1 ix y ∈ pw_tb) : CallB (pw_R d mc ms) s args M.1 ix y M'.2.1 M'.2.2.1 M'.2.2.2.1 (pw_wsM y M') (pw_R d' mc' ms') mc' ms' nA := by
  obtain ⟨h1, h2, h3, h4, h5⟩ := hY
  refine ⟨rfl, rfl, hdd, ?_, pay_in hts (pw_good h4), List.mem_cons_self, hts _ h4, hts _ h3, h1, pw_len_of h2, hts _ hl⟩
  show 8 + (M'.2.2.1 + 11) + 40 * d' ≤ 40 * d
  omega
theorem PW_callV {M : pM} {d : Nat} {ord : List Nat} {mc ms : Nat} {Q : Option Value → pAL × pS → Prop} {pc pc' : Nat} {lv : List (Nat × Value)} {st : List Value} {al : pAL} {k n : Nat} {σ : pS} {y : MethodName} {M' : pM} {d' nA ix : Nat} {As : List Value} {b ci nn : Nat} {T : u_T} {N : Nat} (hin : (b, ci, nn) ∈ al) (hci : pw_cl[ci]? = some (y.cls, T, N)) (w2 : Cond.instanceMethod y ∈ pw_tb) (w3 : Cond.selects y.cls y y ∈ pw_tb) (hd : decode M.2.1 pc = .ok (.invokevirtual ix, 3)) (hp : pc + 3 = pc') (hY : pw_Y y M' nA) (w1 : Cond.methodLink M.1 ix y ∈ pw_tb) (hn : As.length = nA) (hdd : d' + 1 ≤ d) (hst : (st.map fun v => v.category).sum ≤ 8) (hkc : k ≤ mc ∧ n ≤ ms)
    {Q' : Option Value → pAL × pS → Prop} (h : PC y M' d' [] 0 0 (.ref b :: As) al σ Q') (hQ : ∀ (r : Option Value) (al' : pAL) (σ' : pS), Q' r (al', σ') → pw_nr M'.2.2.2.1 r → PW M d ord mc ms Q pc' lv (r.toList ++ st) al' k n σ') : PW M d ord mc ms Q pc lv (As.reverse ++ .ref b :: st) al k n σ := by
  subst hp
  intro p l e s m args below meth c D cy ad A H locs ls C hP hD hS hl
  have C2 := C
  obtain ⟨hx, hb, hr, hml, hown, hts, hlk, hK, hA, ho, hX, hnm0⟩ := C2
  have hF : ∀ z, va_A (pw_ws ad cy al σ) H.size z → A z := by
    intro z hz
    rcases hz with ⟨q, e9, hz⟩ | hz
    · exact hD.2 q _ hz
    · exact hA z (Nat.le_trans hS.1 hz)
  obtain ⟨q, hq1, hq2⟩ := pw_ws_at (ad := ad) (cy := cy) (σ := σ) hin
  rw [pw_en_o (pw_ci hci)] at hq1
  refine pw_back (M' := M') (al := al) (σ := σ) (rest := st.map (pw_cv ad)) (mc := 0) (ms := 0) (va_runV (As := As.map (pw_cv ad)) (g := F0 m pc ls ((As.reverse ++ .ref b :: st).map (pw_cv ad))) ⟨hx, hb, hml, hown, hts⟩ (h l D cy ad H.size) ⟨pw_CB hts hY hdd w1, hts _ w2, hts _ w3⟩ ⟨pw_blind, va_recv hK hP hci hq1, fun U hU hW => ⟨rfl, by rw [hU], by rw [hU]; exact hP, va_K.moved hW.alike hK, hD.weaken (fun _ _ _ _ => trivial), fun i id h9 => (by simp at h9), hX.go hS hU hW hF⟩⟩ rfl (by rw [List.length_map]; exact hn) hl.1 (by simp [List.map_append, List.map_reverse, pw_cv]) (lv_room (by rw [pw_sum]; exact hst)) hd ⟨hkc.1, hkc.2⟩) hS hF (fun r al' σ' H1 locs1 hq hnr hP1 hD1 hS1 => ?_)
  rw [pw_stk]
  exact hQ r al' σ' hq hnr p l e s m args below meth c D cy ad A H1 locs1 ls C hP1 hD1 hS1 hl
theorem PW_callS {M : pM} {d : Nat} {ord : List Nat} {mc ms : Nat} {Q : Option Value → pAL × pS → Prop} {pc pc' : Nat} {lv : List (Nat × Value)} {st : List Value} {al : pAL} {k n : Nat} {σ : pS} {y : MethodName} {M' : pM} {d' nA ix : Nat} {As : List Value} (w2 : Cond.static y ∈ pw_tb) (hd : decode M.2.1 pc = .ok (.invokestatic ix, 3)) (hp : pc + 3 = pc') (hY : pw_Y y M' nA) (w1 : Cond.methodLink M.1 ix y ∈ pw_tb) (hn : As.length = nA) (hdd : d' + 1 ≤ d) (hst : (st.map fun v => v.category).sum ≤ 8) (hkc : k ≤ mc ∧ n ≤ ms)
    {Q' : Option Value → pAL × pS → Prop} (h : PC y M' d' [] 0 0 As al σ Q') (hQ : ∀ (r : Option Value) (al' : pAL) (σ' : pS), Q' r (al', σ') → pw_nr M'.2.2.2.1 r → PW M d ord mc ms Q pc' lv (r.toList ++ st) al' k n σ') : PW M d ord mc ms Q pc lv (As.reverse ++ st) al k n σ := by
  subst hp
  intro p l e s m args below meth c D cy ad A H locs ls C hP hD hS hl
  have C2 := C
  obtain ⟨hx, hb, hr, hml, hown, hts, hlk, hK, hA, ho, hX, hnm0⟩ := C2
  have hF : ∀ z, va_A (pw_ws ad cy al σ) H.size z → A z := by
    intro z hz
    rcases hz with ⟨q, e9, hz⟩ | hz
    · exact hD.2 q _ hz
    · exact hA z (Nat.le_trans hS.1 hz)
  refine pw_back (M' := M') (al := al) (σ := σ) (rest := st.map (pw_cv ad)) (mc := 0) (ms := 0) (va_runS (As := As.map (pw_cv ad)) (g := F0 m pc ls ((As.reverse ++ st).map (pw_cv ad))) ⟨hx, hb, hml, hown, hts⟩ (h l D cy ad H.size) ⟨pw_CB hts hY hdd w1, hts _ w2⟩ ⟨pw_blind, fun U hU hW => ⟨rfl, by rw [hU], by rw [hU]; exact hP, va_K.moved hW.alike hK, hD.weaken (fun _ _ _ _ => trivial), fun i id h9 => (by simp at h9), hX.go hS hU hW hF⟩⟩ rfl (by rw [List.length_map]; exact hn) hl.1 (by simp [List.map_append, List.map_reverse]) (lv_room (by rw [pw_sum]; exact hst)) hd ⟨hkc.1, hkc.2⟩) hS hF (fun r al' σ' H1 locs1 hq hnr hP1 hD1 hS1 => ?_)
  rw [pw_stk]
  exact hQ r al' σ' hq hnr p l e s m args below meth c D cy ad A H1 locs1 ls C hP1 hD1 hS1 hl
theorem PW_acopy {M : pM} {d : Nat} {ord : List Nat} {mc ms : Nat} {Q : Option Value → pAL × pS → Prop} {pc pc' : Nat} {lv : List (Nat × Value)} {st : List Value} {al : pAL} {k n : Nat} {σ : pS} {a b na nb ix : Nat} {sp dp z : Int32} (hd : decode M.2.1 pc = .ok (.invokestatic ix, 3)) (hp : pc + 3 = pc') (w1 : Cond.methodLink M.1 ix arraycopyName ∈ pw_tb) (w2 : Cond.native arraycopyName ∈ pw_tb) (w3 : Cond.static arraycopyName ∈ pw_tb) (w4 : Cond.initialized "java/lang/System" ∈ pw_tb)
    (hina : (a, 13, na) ∈ al) (hinb : (b, 13, nb) ∈ al) (h1 : ¬ sp < 0) (h2 : ¬ dp < 0) (h3 : ¬ z < 0) (h4 : sp.toNatClampNeg + z.toNatClampNeg ≤ na) (h5 : dp.toNatClampNeg + z.toNatClampNeg ≤ nb) (hdd : 1 ≤ d) (hst : (st.map fun v => v.category).sum ≤ 8)
    (h : PW M d ord mc ms Q pc' lv st al k n (pw_wA σ b (va_cpy (σ.1 a) (σ.1 b) sp.toNatClampNeg dp.toNatClampNeg z.toNatClampNeg))) : PW M d ord mc ms Q pc lv (.int z :: .int dp :: .ref b :: .int sp :: .ref a :: st) al k n σ := by
  subst hp
  intro p l e s m args below meth c D cy ad A H locs ls C hP hD hS hl
  have C2 := C
  obtain ⟨hx, hb, hr, hml, hown, hts, hlk, hK, hA, ho, hX, hnm0⟩ := C2
  obtain ⟨q, hq1, hq2⟩ := pw_ws_at (ad := ad) (cy := cy) (σ := σ) hina
  obtain ⟨r, hr1, hr2⟩ := pw_ws_at (ad := ad) (cy := cy) (σ := σ) hinb
  refine va_copyi (D := D) (rest := st.map (pw_cv ad)) hx hb (by rw [hl.1]; exact hml) hown (hts _ w1) (hts _ w2) (hts _ w3) (hts _ w4) hK hP hD hS q r 0 0 hq1 hr1 rfl rfl rfl h1 h2 h3 h4 h5 (fun i _ => rfl) hdd ?_ hd (fun H1 locs1 hP1 hD1 hS1 => ?_)
  · rw [pw_sum]
    show _ + (nativeFrameWords "java/lang/System" "arraycopy" 5 + 11) ≤ 40 * d
    have e : nativeFrameWords "java/lang/System" "arraycopy" 5 ≤ 20 := by decide +kernel
    omega
  · have e2 := pw_ws_set (σ' := pw_wA σ b (va_cpy (σ.1 a) (σ.1 b) sp.toNatClampNeg dp.toNatClampNeg z.toNatClampNeg)) hD hr2 (fun i hi => ⟨by simp [pw_wA, if_neg hi], rfl, rfl⟩)
    rw [pw_en_i] at e2
    have e3 : (pw_wA σ b (va_cpy (σ.1 a) (σ.1 b) sp.toNatClampNeg dp.toNatClampNeg z.toNatClampNeg)).1 b = va_cpy (σ.1 a) (σ.1 b) sp.toNatClampNeg dp.toNatClampNeg z.toNatClampNeg := by simp [pw_wA]
    rw [e3] at e2
    rw [e2] at hP1 hD1
    exact h p l e s m args below meth c D cy ad A H1 locs1 ls C hP1 hD1 hS1 hl
theorem PW_ldcS0 {M : pM} {d : Nat} {ord : List Nat} {mc ms : Nat} {Q : Option Value → pAL × pS → Prop} {pc pc' : Nat} {lv : List (Nat × Value)} {st : List Value} {al : pAL} {k n : Nat} {σ : pS} (hd : decode M.2.1 pc = .ok (.ldc 43, 2)) (hp : pc + 2 = pc') (hM : M.1 = RX7) (h : PW M d ord mc ms Q pc' lv (.ref 9001 :: st) al k n σ) : PW M d ord mc ms Q pc lv st al k n σ := by
  subst hp
  intro p l e s m args below meth c D cy ad A H locs ls C hP hD hS hl
  have C2 := C
  obtain ⟨hx, hb, hr, hml, hown, hts, hlk, hK, hA, ho, hX, hnm0⟩ := C2
  exact va_ldcS hx hb (by rw [← hM]; exact hown) hX.2.1 hd (h p l e s m args below meth c D cy ad A H locs ls C hP hD hS hl)
theorem PW_ldcS1 {M : pM} {d : Nat} {ord : List Nat} {mc ms : Nat} {Q : Option Value → pAL × pS → Prop} {pc pc' : Nat} {lv : List (Nat × Value)} {st : List Value} {al : pAL} {k n : Nat} {σ : pS} (hd : decode M.2.1 pc = .ok (.ldc 188, 2)) (hp : pc + 2 = pc') (hM : M.1 = RX12) (h : PW M d ord mc ms Q pc' lv (.ref 9002 :: st) al k n σ) : PW M d ord mc ms Q pc lv st al k n σ := by
  subst hp
  intro p l e s m args below meth c D cy ad A H locs ls C hP hD hS hl
  have C2 := C
  obtain ⟨hx, hb, hr, hml, hown, hts, hlk, hK, hA, ho, hX, hnm0⟩ := C2
  exact va_ldcS hx hb (by rw [← hM]; exact hown) hX.2.2.1 hd (h p l e s m args below meth c D cy ad A H locs ls C hP hD hS hl)
theorem PW_gstat {M : pM} {d : Nat} {ord : List Nat} {mc ms : Nat} {Q : Option Value → pAL × pS → Prop} {pc pc' : Nat} {lv : List (Nat × Value)} {st : List Value} {al : pAL} {k n : Nat} {σ : pS} {ix : Nat} (hd : decode M.2.1 pc = .ok (.getstatic ix, 3)) (hp : pc + 3 = pc') (hw : Cond.fieldLink M.1 ix "java/lang/String" "COMPACT_STRINGS" "Z" ∈ pw_tb) (h : PW M d ord mc ms Q pc' lv (.int 1 :: st) al k n σ) : PW M d ord mc ms Q pc lv st al k n σ := by
  subst hp
  intro p l e s m args below meth c D cy ad A H locs ls C hP hD hS hl
  have C2 := C
  obtain ⟨hx, hb, hr, hml, hown, hts, hlk, hK, hA, ho, hX, hnm0⟩ := C2
  exact va_gets hx hb hX.2.2.2.1 hS hown (hts _ hw) (fun _ h9 => h9) hd (h p l e s m args below meth c D cy ad A H locs ls C hP hD hS hl)
theorem PW_gsio {M : pM} {d : Nat} {ord : List Nat} {mc ms : Nat} {Q : Option Value → pAL × pS → Prop} {pc pc' : Nat} {lv : List (Nat × Value)} {st : List Value} {al : pAL} {k n : Nat} {σ : pS} {ix : Nat} (hd : decode M.2.1 pc = .ok (.getstatic ix, 3)) (hp : pc + 3 = pc') (hw : Cond.fieldLink M.1 ix "jdk/internal/util/Preconditions" "SIOOBE_FORMATTER" "Ljava/util/function/BiFunction;" ∈ pw_tb) (h1 : ∀ v : Value, v = .ref 9201 ∨ v = .null → PW M d ord mc ms Q pc' lv (v :: st) al k n σ) : PW M d ord mc ms Q pc lv st al k n σ := by
  subst hp
  intro p l e s m args below meth c D cy ad A H locs ls C hP hD hS hl
  have C2 := C
  obtain ⟨hx, hb, hr, hml, hown, hts, hlk, hK, hA, ho, hX, hnm0⟩ := C2
  rcases hX.2.2.2.2.1 with z | z
  · exact va_gets hx hb z hS hown (hts _ hw) (fun _ h9 => h9) hd (h1 (.ref 9201) (Or.inl rfl) p l e s m args below meth c D cy ad A H locs ls C hP hD hS hl)
  · exact va_gets hx hb z hS hown (hts _ hw) (fun _ h9 => h9) hd (h1 .null (Or.inr rfl) p l e s m args below meth c D cy ad A H locs ls C hP hD hS hl)
theorem PW_sgetC {M : pM} {d : Nat} {ord : List Nat} {mc ms : Nat} {Q : Option Value → pAL × pS → Prop} {pc pc' : Nat} {lv : List (Nat × Value)} {st : List Value} {al : pAL} {k n : Nat} {σ : pS} {ix i : Nat} (hi : i < 2) (hd : decode M.2.1 pc = .ok (.getfield ix, 3)) (hp : pc + 3 = pc') (hw : Cond.fieldLink M.1 ix "java/lang/String" "coder" "B" ∈ pw_tb) (h : PW M d ord mc ms Q pc' lv (.int 0 :: st) al k n σ) : PW M d ord mc ms Q pc lv (.ref (9001 + i) :: st) al k n σ := by
  subst hp
  intro p l e s m args below meth c D cy ad A H locs ls C hP hD hS hl
  have C2 := C
  obtain ⟨hx, hb, hr, hml, hown, hts, hlk, hK, hA, ho, hX, hnm0⟩ := C2
  exact vk_getf hx hb (hX.1.1 i hi).2.1 hS hown (hts _ hw) (fun _ h9 => h9) hd (h p l e s m args below meth c D cy ad A H locs ls C hP hD hS hl)
theorem PW_sgetV {M : pM} {d : Nat} {ord : List Nat} {mc ms : Nat} {Q : Option Value → pAL × pS → Prop} {pc pc' : Nat} {lv : List (Nat × Value)} {st : List Value} {al : pAL} {k n : Nat} {σ : pS} {ix i : Nat} (hi : i < 2) (hd : decode M.2.1 pc = .ok (.getfield ix, 3)) (hp : pc + 3 = pc') (hw : Cond.fieldLink M.1 ix "java/lang/String" "value" "[B" ∈ pw_tb) (h : PW M d ord mc ms Q pc' lv (.ref (9101 + i) :: st) al k n σ) : PW M d ord mc ms Q pc lv (.ref (9001 + i) :: st) al k n σ := by
  subst hp
  intro p l e s m args below meth c D cy ad A H locs ls C hP hD hS hl
  have C2 := C
  obtain ⟨hx, hb, hr, hml, hown, hts, hlk, hK, hA, ho, hX, hnm0⟩ := C2
  exact vk_getf hx hb (hX.1.1 i hi).2.2.1 hS hown (hts _ hw) (fun _ h9 => h9) hd (h p l e s m args below meth c D cy ad A H locs ls C hP hD hS hl)
theorem PW_sald {M : pM} {d : Nat} {ord : List Nat} {mc ms : Nat} {Q : Option Value → pAL × pS → Prop} {pc pc' : Nat} {lv : List (Nat × Value)} {st : List Value} {al : pAL} {k n : Nat} {σ : pS} {i : Nat} {x : Int32} (hi : i < 2) (hd : decode M.2.1 pc = .ok (.baload, 1)) (hp : pc + 1 = pc') (hx0 : vp_in x (pw_len.getD i 0)) (h : PW M d ord mc ms Q pc' lv (.int ((pw_byt.getD i []).getD x.toNatClampNeg 0) :: st) al k n σ) : PW M d ord mc ms Q pc lv (.int x :: .ref (9101 + i) :: st) al k n σ := by
  subst hp
  intro p l e s m args below meth c D cy ad A H locs ls C hP hD hS hl
  have C2 := C
  obtain ⟨hx, hb, hr, hml, hown, hts, hlk, hK, hA, ho, hX, hnm0⟩ := C2
  exact va_tb hx hb (hX.1.1 i hi).2.2.2 hS hx0 rfl hd (h p l e s m args below meth c D cy ad A H locs ls C hP hD hS hl)
theorem PW_slen {M : pM} {d : Nat} {ord : List Nat} {mc ms : Nat} {Q : Option Value → pAL × pS → Prop} {pc pc' : Nat} {lv : List (Nat × Value)} {st : List Value} {al : pAL} {k n : Nat} {σ : pS} {i : Nat} (hi : i < 2) (hd : decode M.2.1 pc = .ok (.arraylength, 1)) (hp : pc + 1 = pc') (h : PW M d ord mc ms Q pc' lv (.int (nI (pw_len.getD i 0)) :: st) al k n σ) : PW M d ord mc ms Q pc lv (.ref (9101 + i) :: st) al k n σ := by
  subst hp
  intro p l e s m args below meth c D cy ad A H locs ls C hP hD hS hl
  have C2 := C
  obtain ⟨hx, hb, hr, hml, hown, hts, hlk, hK, hA, ho, hX, hnm0⟩ := C2
  exact va_tlen hx hb (hX.1.1 i hi).2.2.2 hS rfl hd (h p l e s m args below meth c D cy ad A H locs ls C hP hD hS hl)
theorem PW_callT {M : pM} {d : Nat} {ord : List Nat} {mc ms : Nat} {Q : Option Value → pAL × pS → Prop} {pc pc' : Nat} {lv : List (Nat × Value)} {st : List Value} {al : pAL} {k n : Nat} {σ : pS} {y : MethodName} {M' : pM} {d' nA ix : Nat} {As : List Value} {i : Nat} (hi : i < 2) (hcls : y.cls = "java/lang/String") (w2 : Cond.instanceMethod y ∈ pw_tb) (w3 : Cond.selects y.cls y y ∈ pw_tb) (hd : decode M.2.1 pc = .ok (.invokevirtual ix, 3)) (hp : pc + 3 = pc') (hY : pw_Y y M' nA) (w1 : Cond.methodLink M.1 ix y ∈ pw_tb) (hn : As.length = nA) (hdd : d' + 1 ≤ d) (hst : (st.map fun v => v.category).sum ≤ 8) (hkc : k ≤ mc ∧ n ≤ ms)
    {Q' : Option Value → pAL × pS → Prop} (h : PC y M' d' [] 0 0 (.ref (9001 + i) :: As) al σ Q') (hQ : ∀ (r : Option Value) (al' : pAL) (σ' : pS), Q' r (al', σ') → pw_nr M'.2.2.2.1 r → PW M d ord mc ms Q pc' lv (r.toList ++ st) al' k n σ') : PW M d ord mc ms Q pc lv (As.reverse ++ .ref (9001 + i) :: st) al k n σ := by
  subst hp
  intro p l e s m args below meth c D cy ad A H locs ls C hP hD hS hl
  have C2 := C
  obtain ⟨hx, hb, hr, hml, hown, hts, hlk, hK, hA, ho, hX, hnm0⟩ := C2
  have hF : ∀ z, va_A (pw_ws ad cy al σ) H.size z → A z := by
    intro z hz
    rcases hz with ⟨q, e9, hz⟩ | hz
    · exact hD.2 q _ hz
    · exact hA z (Nat.le_trans hS.1 hz)
  refine pw_back (M' := M') (al := al) (σ := σ) (rest := st.map (pw_cv ad)) (mc := 0) (ms := 0) (va_runV (C := y.cls) (As := As.map (pw_cv ad)) (g := F0 m pc ls ((As.reverse ++ .ref (9001 + i) :: st).map (pw_cv ad))) ⟨hx, hb, hml, hown, hts⟩ (h l D cy ad H.size) ⟨pw_CB hts hY hdd w1, hts _ w2, hts _ w3⟩ ⟨pw_blind, (by rw [hcls]; exact vk_recv (adK := fun i => ad (9001 + i)) (i := i) hX.1 hi hS), fun U hU hW => ⟨rfl, by rw [hU], by rw [hU]; exact hP, va_K.moved hW.alike hK, hD.weaken (fun _ _ _ _ => trivial), fun i id h9 => (by simp at h9), hX.go hS hU hW hF⟩⟩ rfl (by rw [List.length_map]; exact hn) hl.1 (by simp [List.map_append, List.map_reverse, pw_cv]) (lv_room (by rw [pw_sum]; exact hst)) hd ⟨hkc.1, hkc.2⟩) hS hF (fun r al' σ' H1 locs1 hq hnr hP1 hD1 hS1 => ?_)
  rw [pw_stk]
  exact hQ r al' σ' hq hnr p l e s m args below meth c D cy ad A H1 locs1 ls C hP1 hD1 hS1 hl
theorem PW_sub {M : pM} {d : Nat} {ord : List Nat} {mc ms : Nat} {Q : Option Value → pAL × pS → Prop} {pc : Nat} {lv : List (Nat × Value)} {st : List Value} {al : pAL} {k n : Nat} {σ : pS} {lv' : List (Nat × Value)} (ks : List Nat) (hv : lv_pick lv ks = lv') (h : PW M d ord mc ms Q pc lv' st al k n σ) : PW M d ord mc ms Q pc lv st al k n σ := by
  subst hv
  intro p l e s m args below meth c D cy ad A H locs ls C hP hD hS hl
  refine h p l e s m args below meth c D cy ad A H locs ls C hP hD hS (lv_sub hl ks ?_)
  clear h
  simp only [lv_pick, pw_lv, List.getElem?_map]
  induction ks with
  | nil => rfl
  | cons a t ih =>
    cases h9 : lv[a]? <;> simp [h9, ih]
theorem PW_topi {M : pM} {d : Nat} {ord : List Nat} {mc ms : Nat} {Q : Option Value → pAL × pS → Prop} {pc : Nat} {lv : List (Nat × Value)} {st : List Value} {al : pAL} {k n : Nat} {σ : pS} {x : Int32} (h : ∀ v : Int32, v = x → PW M d ord mc ms Q pc lv (.int v :: st) al k n σ) : PW M d ord mc ms Q pc lv (.int x :: st) al k n σ := h x rfl
theorem PW_topl {M : pM} {d : Nat} {ord : List Nat} {mc ms : Nat} {Q : Option Value → pAL × pS → Prop} {pc : Nat} {lv : List (Nat × Value)} {st : List Value} {al : pAL} {k n : Nat} {σ : pS} {x : Int64} (h : ∀ v : Int64, v = x → PW M d ord mc ms Q pc lv (.long v :: st) al k n σ) : PW M d ord mc ms Q pc lv (.long x :: st) al k n σ := h x rfl
