theorem pw_size {p : Program} {l : Launch} {e : Env} {R : Room} {s : State} {m : MethodId} {args : Array Value} {below : List Frame} {meth : Method} {c : Code} {T : State} {locs : List Loc} {k n : Nat} {H : Heap} {A : Nat → Prop} {D : va_G} {cy ad : Nat → Nat} {al : pAL} {σ : pS} {ord : List Nat}
    (hT : T.heap = H) (X : Stand p l e R s m args below meth c T locs k n) (hS : va_S A s.heap H locs) (hP : va_P D pw_cl (pw_ws ad cy al σ) H) (ho : ∀ (i : Nat) (id : Nat), ord[i]? = some id → ad id = s.heap.size + i) (hlast : k = 0 ∨ ∃ c ∈ al, ord[k - 1]? = some c.1) : H.size = s.heap.size + k := by
  have h1 := X.heapSize
  rw [hT] at h1
  have h2 := hS.1
  rcases hlast with h | ⟨c, hc, h⟩
  · omega
  · obtain ⟨q, hq1, -⟩ := pw_ws_at (ad := ad) (cy := cy) (σ := σ) hc
    have h3 := (hP q _ hq1).lt
    have h4 := ho _ _ h
    dsimp only at h3
    omega
theorem pw_szW {p : Program} {l : Launch} {e : Env} {R : Room} {s : State} {m : MethodId} {args : Array Value} {below : List Frame} {meth : Method} {c : Code} {locs : List Loc} {k n : Nat} {H : Heap} {A : Nat → Prop} {D : va_G} {cy ad : Nat → Nat} {al : pAL} {σ : pS} {ord : List Nat} {Z : State → Prop} {g : JFrame}
    (hS : va_S A s.heap H locs) (hP : va_P D pw_cl (pw_ws ad cy al σ) H) (ho : ∀ (i : Nat) (id : Nat), ord[i]? = some id → ad id = s.heap.size + i) (hlast : k = 0 ∨ ∃ c ∈ al, ord[k - 1]? = some c.1) (kk : H.size = s.heap.size + k → W p l e R s m args below meth c H locs k n Z g) : W p l e R s m args below meth c H locs k n Z g :=
  fun T hT X => kk (pw_size hT X hS hP ho hlast) T hT X
theorem pw_ws_nw {H : Heap} {D : va_G} {cy ad : Nat → Nat} {al : pAL} {σ : pS} {id ci nn : Nat} (hP : va_P D pw_cl (pw_ws ad cy al σ) H) (hid : ad id = H.size) : pw_ws ad cy (al ++ [(id, ci, nn)]) (pw_nw σ id) = pw_ws ad cy al σ ++ [(H.size, pw_en ad cy (pw_nw σ id) (id, ci, nn))] := by
  have e : pw_ws ad cy al (pw_nw σ id) = pw_ws ad cy al σ := by
    refine pw_ws_cong (fun c hc => ?_)
    have hne : c.1 ≠ id := by
      intro e
      obtain ⟨q, hq1, -⟩ := pw_ws_at (ad := ad) (cy := cy) (σ := σ) hc
      have h3 := (hP q _ hq1).lt
      dsimp only at h3
      rw [e, hid] at h3
      omega
    exact ⟨by funext j; simp [pw_nw, hne], by funext j; simp [pw_nw, hne], by funext j; simp [pw_nw, hne]⟩
  rw [← e, ← hid]
  simp [pw_ws]
theorem pw_fl_nw (ad : Nat → Nat) (σ : pS) (id : Nat) (ks : List Bool) (j : Nat) : vp_V (pw_fl ad (pw_nw σ id) id 0 ks) j = if ks[j]? = some true then .int 0 else .null := by
  unfold vp_V
  rw [List.getD_eq_getElem?_getD]
  cases h : ks[j]? with
  | none =>
    have h2 : (pw_fl ad (pw_nw σ id) id 0 ks)[j]? = none := by
      rw [List.getElem?_eq_none_iff] at h ⊢
      rw [pw_fl_len]
      exact h
    rw [h2]; simp
  | some b =>
    cases b
    · rw [pw_fl_r ad _ id ks 0 j h]; simp [pw_nw, pw_rv]
    · rw [pw_fl_i ad _ id ks 0 j h]; simp [pw_nw]
theorem PW_newaI {M : pM} {d : Nat} {ord : List Nat} {mc ms : Nat} {Q : Option Value → pAL × pS → Prop} {pc pc' : Nat} {lv : List (Nat × Value)} {st : List Value} {al : pAL} {k n : Nat} {σ : pS} {id N0 : Nat} {z : Int32} (hd : decode M.2.1 pc = .ok (.newarray .int, 2)) (hp : pc + 2 = pc') (hw : Cond.arrayClass .int ∈ pw_tb) (hz : ¬ z < 0) (hN : z.toNatClampNeg = N0) (hbt : N0 * componentBytes .int ≤ 536870912) (hkc : k + 1 ≤ mc) (hkn : n + N0 ≤ ms) (hord : ord[k]? = some id) (hlast : k = 0 ∨ ∃ c ∈ al, ord[k - 1]? = some c.1) (h : PW M d ord mc ms Q pc' lv (.ref id :: st) (al ++ [(id, 13, N0)]) (k + 1) (n + N0) (pw_nw σ id)) : PW M d ord mc ms Q pc lv (.int z :: st) al k n σ := by
  subst hp
  intro p l e s m args below meth c D cy ad A H locs ls C hP hD hS hl
  have C2 := C
  obtain ⟨hx, hb, hr, hml, hown, hts, hlk, hK, hA, ho, hX, hnm0⟩ := C2
  refine pw_szW hS hP ho hlast (fun hsz => ?_)
  have hid : ad id = H.size := by rw [hsz]; exact ho _ _ hord
  refine va_newaK (atype := .int) hx hb (hts _ hw) rfl hd rfl hz hN hbt hkc hkn rfl (fun H1 cA e1 z1 o1 hAr hNm => ?_)
  have hcy : cA = cy 0 := by
    have e := (hK.2 0 _ rfl).2
    exact Option.some.inj (hNm.symm.trans e)
  subst hcy
  have hk : ∀ (i : Nat) (x : Nat × va_E), (pw_ws ad cy al σ)[i]? = some x → H1[x.1]? = H[x.1]? := fun i x hx => o1 x.1 ((hP i x hx).lt)
  have e2 := pw_ws_nw (ci := 13) (nn := N0) hP hid
  have hv : (Value.ref H.size :: st.map (pw_cv ad)) = (Value.ref id :: st).map (pw_cv ad) := by rw [← hid]; rfl
  show W p l e _ s m args below meth c H1 locs (k + 1) (n + N0) _ (F0 m (pc + 2) ls (.ref H.size :: st.map (pw_cv ad)))
  rw [hv]
  refine h p l e s m args below meth c D cy ad A H1 locs ls C ?_ ?_ ⟨Nat.le_trans hS.1 (by omega), fun x h1 h2 => (o1 x (Nat.lt_of_lt_of_le h1 hS.1)).trans (hS.2.1 x h1 h2), hS.2.2⟩ hl
  · rw [e2]
    refine (hP.kept hk).app (fun i x hx => ?_)
    have hz : i < 1 := (List.getElem?_eq_some_iff.mp hx).1
    rw [show i = 0 by omega] at hx
    cases hx
    show H1[H.size]? = some (vp_cell _ _)
    rw [e1]
    simp [pw_nw, vp_cell, defaultValue, arrV]
    try rfl
  · rw [e2]
    exact hD.push hP rfl (hA _ hS.1)
theorem PW_newaJ {M : pM} {d : Nat} {ord : List Nat} {mc ms : Nat} {Q : Option Value → pAL × pS → Prop} {pc pc' : Nat} {lv : List (Nat × Value)} {st : List Value} {al : pAL} {k n : Nat} {σ : pS} {id N0 : Nat} {z : Int32} (hd : decode M.2.1 pc = .ok (.newarray .long, 2)) (hp : pc + 2 = pc') (hw : Cond.arrayClass .long ∈ pw_tb) (hz : ¬ z < 0) (hN : z.toNatClampNeg = N0) (hbt : N0 * componentBytes .long ≤ 536870912) (hkc : k + 1 ≤ mc) (hkn : n + N0 ≤ ms) (hord : ord[k]? = some id) (hlast : k = 0 ∨ ∃ c ∈ al, ord[k - 1]? = some c.1) (h : PW M d ord mc ms Q pc' lv (.ref id :: st) (al ++ [(id, 14, N0)]) (k + 1) (n + N0) (pw_nw σ id)) : PW M d ord mc ms Q pc lv (.int z :: st) al k n σ := by
  subst hp
  intro p l e s m args below meth c D cy ad A H locs ls C hP hD hS hl
  have C2 := C
  obtain ⟨hx, hb, hr, hml, hown, hts, hlk, hK, hA, ho, hX, hnm0⟩ := C2
  refine pw_szW hS hP ho hlast (fun hsz => ?_)
  have hid : ad id = H.size := by rw [hsz]; exact ho _ _ hord
  refine va_newaK (atype := .long) hx hb (hts _ hw) rfl hd rfl hz hN hbt hkc hkn rfl (fun H1 cA e1 z1 o1 hAr hNm => ?_)
  have hcy : cA = cy 1 := by
    have e := (hK.2 1 _ rfl).2
    exact Option.some.inj (hNm.symm.trans e)
  subst hcy
  have hk : ∀ (i : Nat) (x : Nat × va_E), (pw_ws ad cy al σ)[i]? = some x → H1[x.1]? = H[x.1]? := fun i x hx => o1 x.1 ((hP i x hx).lt)
  have e2 := pw_ws_nw (ci := 14) (nn := N0) hP hid
  have hv : (Value.ref H.size :: st.map (pw_cv ad)) = (Value.ref id :: st).map (pw_cv ad) := by rw [← hid]; rfl
  show W p l e _ s m args below meth c H1 locs (k + 1) (n + N0) _ (F0 m (pc + 2) ls (.ref H.size :: st.map (pw_cv ad)))
  rw [hv]
  refine h p l e s m args below meth c D cy ad A H1 locs ls C ?_ ?_ ⟨Nat.le_trans hS.1 (by omega), fun x h1 h2 => (o1 x (Nat.lt_of_lt_of_le h1 hS.1)).trans (hS.2.1 x h1 h2), hS.2.2⟩ hl
  · rw [e2]
    refine (hP.kept hk).app (fun i x hx => ?_)
    have hz : i < 1 := (List.getElem?_eq_some_iff.mp hx).1
    rw [show i = 0 by omega] at hx
    cases hx
    show H1[H.size]? = some (vp_cell _ _)
    rw [e1]
    simp [pw_nw, vp_cell, defaultValue, arrV]
    try rfl
  · rw [e2]
    exact hD.push hP rfl (hA _ hS.1)
theorem PW_newaZ {M : pM} {d : Nat} {ord : List Nat} {mc ms : Nat} {Q : Option Value → pAL × pS → Prop} {pc pc' : Nat} {lv : List (Nat × Value)} {st : List Value} {al : pAL} {k n : Nat} {σ : pS} {id N0 : Nat} {z : Int32} (hd : decode M.2.1 pc = .ok (.newarray .boolean, 2)) (hp : pc + 2 = pc') (hw : Cond.arrayClass .boolean ∈ pw_tb) (hz : ¬ z < 0) (hN : z.toNatClampNeg = N0) (hbt : N0 * componentBytes .boolean ≤ 536870912) (hkc : k + 1 ≤ mc) (hkn : n + N0 ≤ ms) (hord : ord[k]? = some id) (hlast : k = 0 ∨ ∃ c ∈ al, ord[k - 1]? = some c.1) (h : PW M d ord mc ms Q pc' lv (.ref id :: st) (al ++ [(id, 15, N0)]) (k + 1) (n + N0) (pw_nw σ id)) : PW M d ord mc ms Q pc lv (.int z :: st) al k n σ := by
  subst hp
  intro p l e s m args below meth c D cy ad A H locs ls C hP hD hS hl
  have C2 := C
  obtain ⟨hx, hb, hr, hml, hown, hts, hlk, hK, hA, ho, hX, hnm0⟩ := C2
  refine pw_szW hS hP ho hlast (fun hsz => ?_)
  have hid : ad id = H.size := by rw [hsz]; exact ho _ _ hord
  refine va_newaK (atype := .boolean) hx hb (hts _ hw) rfl hd rfl hz hN hbt hkc hkn rfl (fun H1 cA e1 z1 o1 hAr hNm => ?_)
  have hcy : cA = cy 2 := by
    have e := (hK.2 2 _ rfl).2
    exact Option.some.inj (hNm.symm.trans e)
  subst hcy
  have hk : ∀ (i : Nat) (x : Nat × va_E), (pw_ws ad cy al σ)[i]? = some x → H1[x.1]? = H[x.1]? := fun i x hx => o1 x.1 ((hP i x hx).lt)
  have e2 := pw_ws_nw (ci := 15) (nn := N0) hP hid
  have hv : (Value.ref H.size :: st.map (pw_cv ad)) = (Value.ref id :: st).map (pw_cv ad) := by rw [← hid]; rfl
  show W p l e _ s m args below meth c H1 locs (k + 1) (n + N0) _ (F0 m (pc + 2) ls (.ref H.size :: st.map (pw_cv ad)))
  rw [hv]
  refine h p l e s m args below meth c D cy ad A H1 locs ls C ?_ ?_ ⟨Nat.le_trans hS.1 (by omega), fun x h1 h2 => (o1 x (Nat.lt_of_lt_of_le h1 hS.1)).trans (hS.2.1 x h1 h2), hS.2.2⟩ hl
  · rw [e2]
    refine (hP.kept hk).app (fun i x hx => ?_)
    have hz : i < 1 := (List.getElem?_eq_some_iff.mp hx).1
    rw [show i = 0 by omega] at hx
    cases hx
    show H1[H.size]? = some (vp_cell _ _)
    rw [e1]
    simp [pw_nw, vp_cell, defaultValue, arrV]
    try rfl
  · rw [e2]
    exact hD.push hP rfl (hA _ hS.1)
theorem PW_new {M : pM} {d : Nat} {ord : List Nat} {mc ms : Nat} {Q : Option Value → pAL × pS → Prop} {pc pc' : Nat} {lv : List (Nat × Value)} {st : List Value} {al : pAL} {k n : Nat} {σ : pS} {id ci ix : Nat} {C0 : String} {T : u_T} {N : Nat} {ty0 : Nat → FieldType} (hd : decode M.2.1 pc = .ok (.new ix, 3)) (hp : pc + 3 = pc') (hc : pw_cl[ci]? = some (C0, T, N)) (hws : ∀ w ∈ u_ws C0 T N, w ∈ pw_tb) (hty : ∀ k, k < N → parseFieldDescriptor (T k).2.2.1 = some (ty0 k)) (w1 : Cond.classLink M.1 ix C0 ∈ pw_tb) (w2 : Cond.instantiable C0 N ∈ pw_tb) (w3 : Cond.initialized C0 ∈ pw_tb) (hfs : ∀ j, j < N → defaultValue (ty0 j) = if (pw_fk ci)[j]? = some true then .int 0 else .null) (hkc : k + 1 ≤ mc) (hkn : n + N ≤ ms) (hord : ord[k]? = some id) (hlast : k = 0 ∨ ∃ c ∈ al, ord[k - 1]? = some c.1) (h : PW M d ord mc ms Q pc' lv (.ref id :: st) (al ++ [(id, ci, 0)]) (k + 1) (n + N) (pw_nw σ id)) : PW M d ord mc ms Q pc lv st al k n σ := by
  subst hp
  intro p l e s m args below meth c D cy ad A H locs ls C hP hD hS hl
  have C2 := C
  obtain ⟨hx, hb, hr, hml, hown, hts, hlk, hK, hA, ho, hX, hnm0⟩ := C2
  refine pw_szW hS hP ho hlast (fun hsz => ?_)
  have hid : ad id = H.size := by rw [hsz]; exact ho _ _ hord
  have hKn := hK.1 ci _ hc
  refine W.newcK hx hb hown (hts _ w1) (hts _ w2) (hts _ w3) rfl hd hkc hkn hKn.2.1 rfl (fun H1 kC hkC e1 z1 o1 => ?_)
  have hk : ∀ (i : Nat) (x : Nat × va_E), (pw_ws ad cy al σ)[i]? = some x → H1[x.1]? = H[x.1]? := fun i x hx => o1 x.1 ((hP i x hx).lt)
  have e2 := pw_ws_nw (ci := ci) (nn := 0) hP hid
  have hv : (Value.ref H.size :: st.map (pw_cv ad)) = (Value.ref id :: st).map (pw_cv ad) := by rw [← hid]; rfl
  show W p l e _ s m args below meth c H1 locs (k + 1) (n + N) _ (F0 m (pc + 3) ls (.ref H.size :: st.map (pw_cv ad)))
  rw [hv]
  refine h p l e s m args below meth c D cy ad A H1 locs ls C ?_ ?_ ⟨Nat.le_trans hS.1 (by omega), fun x h1 h2 => (o1 x (Nat.lt_of_lt_of_le h1 hS.1)).trans (hS.2.1 x h1 h2), hS.2.2⟩ hl
  · rw [e2, pw_en_o (pw_ci hc)]
    refine (hP.kept hk).app (fun i x hx => ?_)
    have hz : i < 1 := (List.getElem?_eq_some_iff.mp hx).1
    rw [show i = 0 by omega] at hx
    cases hx
    exact ⟨_, hc, (u_born ty0 hts hws hKn hkC e1 hty).to (fun j hj => by rw [pw_fl_nw]; exact hfs j hj)⟩
  · rw [e2]
    exact hD.push hP rfl (hA _ hS.1)
theorem PW_obj {M : pM} {d : Nat} {ord : List Nat} {mc ms : Nat} {Q : Option Value → pAL × pS → Prop} {pc pc' : Nat} {lv : List (Nat × Value)} {st : List Value} {al : pAL} {k n : Nat} {σ : pS} {ix b : Nat} (hd : decode M.2.1 pc = .ok (.invokespecial ix, 3)) (hp : pc + 3 = pc') (w1 : Cond.methodLink M.1 ix Lib.objectInit ∈ pw_tb) (w2 : Cond.instanceMethod Lib.objectInit ∈ pw_tb) (w3 : Cond.code Lib.objectInit ⟨#[0xb1]⟩ 1 none ∈ pw_tb) (hdd : 1 ≤ d) (hst : (st.map fun v => v.category).sum ≤ 8) (h : PW M d ord mc ms Q pc' lv st al k n σ) : PW M d ord mc ms Q pc lv (.ref b :: st) al k n σ := by
  subst hp
  intro p l e s m args below meth c D cy ad A H locs ls C hP hD hS hl
  have C2 := C
  obtain ⟨hx, hb, hr, hml, hown, hts, hlk, hK, hA, ho, hX, hnm0⟩ := C2
  refine W.objInit (a := ad b) (rest := st.map (pw_cv ad)) hx hb hown (hts _ w1) (hts _ w2) (hts _ w3) rfl (by rw [hml]; exact hl.1) rfl hd hdd ?_ (h p l e s m args below meth c D cy ad A H locs ls C hP hD hS hl)
  show 2 * 0 + ((st.map (pw_cv ad)).map fun v => v.category).sum + 12 ≤ 40 * d
  rw [pw_sum]
  omega
theorem PW_callI {M : pM} {d : Nat} {ord : List Nat} {mc ms : Nat} {Q : Option Value → pAL × pS → Prop} {pc pc' : Nat} {lv : List (Nat × Value)} {st : List Value} {al : pAL} {k n : Nat} {σ : pS} {y : MethodName} {M' : pM} {d' nA ix : Nat} {As : List Value} {b mc' ms' : Nat} {ord' : List Nat} (w2 : Cond.instanceMethod y ∈ pw_tb) (hin0 : y.name = "<init>") (hrt : M'.2.2.2.1 = none) (hd : decode M.2.1 pc = .ok (.invokespecial ix, 3)) (hp : pc + 3 = pc') (hY : pw_Y y M' nA) (w1 : Cond.methodLink M.1 ix y ∈ pw_tb) (hn : As.length = nA) (hdd : d' + 1 ≤ d) (hst : (st.map fun v => v.category).sum ≤ 8) (hkc : k + mc' ≤ mc ∧ n + ms' ≤ ms) (hord : ∀ (i : Nat) (id : Nat), ord'[i]? = some id → ord[k + i]? = some id) (hlast : k = 0 ∨ ∃ c ∈ al, ord[k - 1]? = some c.1)
    {Q' : Option Value → pAL × pS → Prop} (h : PC y M' d' ord' mc' ms' (.ref b :: As) al σ Q') (hQ : ∀ (r : Option Value) (al' : pAL) (σ' : pS), Q' r (al', σ') → pw_nr M'.2.2.2.1 r → PW M d ord mc ms Q pc' lv (r.toList ++ st) al' (k + mc') (n + ms') σ') : PW M d ord mc ms Q pc lv (As.reverse ++ .ref b :: st) al k n σ := by
  subst hp
  intro p l e s m args below meth c D cy ad A H locs ls C hP hD hS hl
  have C2 := C
  obtain ⟨hx, hb, hr, hml, hown, hts, hlk, hK, hA, ho, hX, hnm0⟩ := C2
  have hF : ∀ z, va_A (pw_ws ad cy al σ) H.size z → A z := by
    intro z hz
    rcases hz with ⟨q, e9, hz⟩ | hz
    · exact hD.2 q _ hz
    · exact hA z (Nat.le_trans hS.1 hz)
  have hY4 := hY.2.2.2.1
  have hM := h l D cy ad H.size
  have hg := pw_good hY4
  unfold pw_wsM at hg
  unfold pw_wsM at hM
  rw [hrt] at hY4 hM hg
  refine pw_szW hS hP ho hlast (fun hsz => ?_)
  refine pw_back (M' := M') (al := al) (σ := σ) (rest := st.map (pw_cv ad)) (mc := mc') (ms := ms') (va_runI (R := pw_R d mc ms) (As := As.map (pw_cv ad)) (bytes := M'.2.1) (maxL := M'.2.2.1) (g := F0 m pc ls ((As.reverse ++ .ref b :: st).map (pw_cv ad))) ⟨hx, hb, hml, hown, hts⟩ hM ⟨(by have e := pw_CB (M := M) (d := d) (mc := mc) (ms := ms) (d' := d') (mc' := mc') (ms' := ms') hts hY hdd w1; unfold pw_wsM at e; rw [hrt] at e; exact e), hin0, hts _ w2⟩ ⟨pw_blind, fun U hU hW => ⟨rfl, by rw [hU], by rw [hU]; exact hP, va_K.moved hW.alike hK, hD.weaken (fun _ _ _ _ => trivial), fun i id h9 => (by have e := ho _ _ (hord i id h9); omega), hX.go hS hU hW hF⟩⟩ rfl (by rw [List.length_map]; exact hn) hl.1 (by simp [List.map_append, List.map_reverse, pw_cv]) (lv_room (by rw [pw_sum]; exact hst)) hd ⟨hkc.1, hkc.2⟩) hS hF (fun r al' σ' H1 locs1 hq hnr hP1 hD1 hS1 => ?_)
  rw [pw_stk]
  exact hQ r al' σ' hq hnr p l e s m args below meth c D cy ad A H1 locs1 ls C hP1 hD1 hS1 hl
theorem PW_callIN {M : pM} {d : Nat} {ord : List Nat} {mc ms : Nat} {Q : Option Value → pAL × pS → Prop} {pc pc' : Nat} {lv : List (Nat × Value)} {st : List Value} {al : pAL} {k n : Nat} {σ : pS} {y : MethodName} {M' : pM} {d' nA ix : Nat} {As : List Value} {b mc' ms' : Nat} {ord' : List Nat} (w2 : Cond.instanceMethod y ∈ pw_tb) (hin0 : y.name = "<init>") (hrt : M'.2.2.2.1 = none) (hd : decode M.2.1 pc = .ok (.invokespecial ix, 3)) (hp : pc + 3 = pc') (hY : pw_Y y M' nA) (w1 : (M.1, ix, y) ∈ pw_nest) (hn : As.length = nA) (hdd : d' + 1 ≤ d) (hst : (st.map fun v => v.category).sum ≤ 8) (hkc : k + mc' ≤ mc ∧ n + ms' ≤ ms) (hord : ∀ (i : Nat) (id : Nat), ord'[i]? = some id → ord[k + i]? = some id) (hlast : k = 0 ∨ ∃ c ∈ al, ord[k - 1]? = some c.1)
    {Q' : Option Value → pAL × pS → Prop} (h : PC y M' d' ord' mc' ms' (.ref b :: As) al σ Q') (hQ : ∀ (r : Option Value) (al' : pAL) (σ' : pS), Q' r (al', σ') → pw_nr M'.2.2.2.1 r → PW M d ord mc ms Q pc' lv (r.toList ++ st) al' (k + mc') (n + ms') σ') : PW M d ord mc ms Q pc lv (As.reverse ++ .ref b :: st) al k n σ := by
  subst hp
  intro p l e s m args below meth c D cy ad A H locs ls C hP hD hS hl
  have C2 := C
  obtain ⟨hx, hb, hr, hml, hown, hts, hlk, hK, hA, ho, hX, hnm0⟩ := C2
  have hF : ∀ z, va_A (pw_ws ad cy al σ) H.size z → A z := by
    intro z hz
    rcases hz with ⟨q, e9, hz⟩ | hz
    · exact hD.2 q _ hz
    · exact hA z (Nat.le_trans hS.1 hz)
  have hY4 := hY.2.2.2.1
  have hM := h l D cy ad H.size
  have hg := pw_good hY4
  unfold pw_wsM at hg
  unfold pw_wsM at hM
  rw [hrt] at hY4 hM hg
  refine pw_szW hS hP ho hlast (fun hsz => ?_)
  refine pw_back (M' := M') (al := al) (σ := σ) (rest := st.map (pw_cv ad)) (mc := mc') (ms := ms') (va_runIN (R := pw_R d mc ms) (host := "HalfCitizen") (As := As.map (pw_cv ad)) (bytes := M'.2.1) (maxL := M'.2.2.1) (g := F0 m pc ls ((As.reverse ++ .ref b :: st).map (pw_cv ad))) ⟨hx, hb, hml, hown, hts⟩ hM ⟨⟨⟨rfl, rfl, hdd, (by show 8 + (M'.2.2.1 + 11) + 40 * d' ≤ 40 * d; have := hY.2.2.2.2; omega), pay_in hts hg, List.mem_cons_self⟩, hts _ hY4, hts _ hY.2.2.1, hY.1, pw_len_of hY.2.1, va_Nw.use rfl (hX.2.2.2.2.2 _ w1)⟩, hin0, hts _ w2⟩ ⟨pw_blind, fun U hU hW => ⟨rfl, by rw [hU], by rw [hU]; exact hP, va_K.moved hW.alike hK, hD.weaken (fun _ _ _ _ => trivial), fun i id h9 => (by have e := ho _ _ (hord i id h9); omega), hX.go hS hU hW hF⟩⟩ rfl (by rw [List.length_map]; exact hn) hl.1 (by simp [List.map_append, List.map_reverse, pw_cv]) (lv_room (by rw [pw_sum]; exact hst)) hd ⟨hkc.1, hkc.2⟩) hS hF (fun r al' σ' H1 locs1 hq hnr hP1 hD1 hS1 => ?_)
  rw [pw_stk]
  exact hQ r al' σ' hq hnr p l e s m args below meth c D cy ad A H1 locs1 ls C hP1 hD1 hS1 hl
