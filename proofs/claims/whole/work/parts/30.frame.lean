/-! THE FRAME: a callee that knows a part of the world alone -/
/-- two stores are alike at a cell, as far as the cell goes -/
def pw_ec (σ σ' : pS) (c : Nat × Nat × Nat) : Prop :=
  (c.2.1 < 13 → ∀ j, ((pw_fk c.2.1)[j]? = some true → σ.1 c.1 j = σ'.1 c.1 j) ∧ ((pw_fk c.2.1)[j]? = some false → σ.2.2 c.1 j = σ'.2.2 c.1 j)) ∧ (13 ≤ c.2.1 → ∀ j, j < c.2.2 → σ.1 c.1 j = σ'.1 c.1 j ∧ σ.2.1 c.1 j = σ'.2.1 c.1 j)
def pw_eq (al : pAL) (σ σ' : pS) : Prop := ∀ c ∈ al, pw_ec σ σ' c
theorem pw_eq_all {al : pAL} {σ σ' : pS} (h1 : ∀ i j, σ.1 i j = σ'.1 i j) (h2 : ∀ i j, σ.2.1 i j = σ'.2.1 i j) (h3 : ∀ i j, σ.2.2 i j = σ'.2.2 i j) : pw_eq al σ σ' := fun c _ => ⟨fun _ j => ⟨fun _ => h1 _ _, fun _ => h3 _ _⟩, fun _ j _ => ⟨h1 _ _, h2 _ _⟩⟩
theorem pw_fl_ec {ad : Nat → Nat} {σ σ' : pS} {id : Nat} : ∀ (ks : List Bool) (i : Nat), (∀ j, (ks[j]? = some true → σ.1 id (i + j) = σ'.1 id (i + j)) ∧ (ks[j]? = some false → σ.2.2 id (i + j) = σ'.2.2 id (i + j))) → pw_fl ad σ id i ks = pw_fl ad σ' id i ks
  | [], _, _ => rfl
  | b :: t, i, h => by
    have ih := pw_fl_ec (ad := ad) (σ := σ) (σ' := σ') (id := id) t (i + 1) (fun j => by
      have := h (j + 1)
      rw [List.getElem?_cons_succ, show i + (j + 1) = i + 1 + j by omega] at this
      exact this)
    have h0 := h 0
    rw [Nat.add_zero] at h0
    cases b
    · simp only [pw_fl]; rw [ih, h0.2 rfl]
    · simp only [pw_fl]; rw [ih, h0.1 rfl]
theorem pw_arrV {cA n : Nat} {f g : Nat → Value} (h : ∀ j, j < n → f j = g j) : arrV cA n f = arrV cA n g := by
  unfold arrV
  congr 1
  apply Array.ext
  · simp
  · intro i h1 h2
    simp at h1
    simp [h i h1]
theorem pw_at_ec {D : va_G} {ad cy : Nat → Nat} {σ σ' : pS} {c : Nat × Nat × Nat} {a : Nat} {H : Heap} (he : pw_ec σ σ' c) (h : va_at D pw_cl (a, pw_en ad cy σ c) H) : va_at D pw_cl (a, pw_en ad cy σ' c) H := by
  unfold pw_en at h ⊢
  by_cases h1 : c.2.1 < 13
  · rw [if_pos h1] at h ⊢
    rw [← pw_fl_ec (σ := σ) (pw_fk c.2.1) 0 (fun j => by rw [Nat.zero_add]; exact he.1 h1 j)]
    exact h
  · rw [if_neg h1] at h ⊢
    have h2 := he.2 (by omega)
    by_cases h3 : c.2.1 = 13
    · rw [if_pos h3] at h ⊢
      show H[a]? = some (vp_cell _ _)
      rw [vp_cell_i, ← pw_arrV (f := fun j => .int (σ.1 c.1 j)) (fun j hj => by rw [(h2 j hj).1])]
      exact h
    · rw [if_neg h3] at h ⊢
      by_cases h4 : c.2.1 = 14
      · rw [if_pos h4] at h ⊢
        show H[a]? = some (vp_cell _ _)
        rw [vp_cell_l, ← pw_arrV (f := fun j => .long (σ.2.1 c.1 j)) (fun j hj => by rw [(h2 j hj).2])]
        exact h
      · rw [if_neg h4] at h ⊢
        show H[a]? = some (vp_cell _ _)
        rw [vp_cell_i, ← pw_arrV (f := fun j => .int (σ.1 c.1 j)) (fun j hj => by rw [(h2 j hj).1])]
        exact h
theorem pw_P_ec {D : va_G} {ad cy : Nat → Nat} {al : pAL} {σ σ' : pS} {H : Heap} (he : pw_eq al σ σ') (hP : va_P D pw_cl (pw_ws ad cy al σ) H) : va_P D pw_cl (pw_ws ad cy al σ') H := by
  intro k q hq
  rw [pw_ws, List.getElem?_map] at hq
  cases hc : al[k]? with
  | none => rw [hc] at hq; cases hq
  | some c =>
    rw [hc] at hq
    cases hq
    have hcm : c ∈ al := List.mem_of_getElem? hc
    exact pw_at_ec (he c hcm) (hP k _ (by rw [pw_ws, List.getElem?_map, hc]; rfl))
def pw_has (al : pAL) (id : Nat) : Bool := al.any (fun c => c.1 == id)
def pw_hasO (al : pAL) (id : Nat) : Bool := al.any (fun c => c.1 == id && decide (c.2.1 < 13))
/-- the cells of al out of σ1, the others out of σ -/
def pw_mg (al : pAL) (σ1 σ : pS) : pS := (fun c => if pw_has al c = true then σ1.1 c else σ.1 c, fun c => if pw_has al c = true then σ1.2.1 c else σ.2.1 c, fun c => if pw_hasO al c = true then σ1.2.2 c else σ.2.2 c)
theorem pw_has_in {al : pAL} {c : Nat × Nat × Nat} (h : c ∈ al) : pw_has al c.1 = true := List.any_eq_true.mpr ⟨c, h, by simp⟩
theorem pw_hasO_in {al : pAL} {c : Nat × Nat × Nat} (h : c ∈ al) (h2 : c.2.1 < 13) : pw_hasO al c.1 = true := List.any_eq_true.mpr ⟨c, h, by simp [h2]⟩
theorem pw_hasO_no {al : pAL} {id : Nat} (h : ¬ pw_has al id = true) : ¬ pw_hasO al id = true := by
  intro z
  obtain ⟨c, hc, e⟩ := List.any_eq_true.mp z
  simp only [Bool.and_eq_true, beq_iff_eq] at e
  exact h (List.any_eq_true.mpr ⟨c, hc, by simp [e.1]⟩)
theorem pw_has_ex {al : pAL} {id : Nat} (h : pw_has al id = true) : ∃ c ∈ al, c.1 = id := by
  obtain ⟨c, hc, e⟩ := List.any_eq_true.mp h
  exact ⟨c, hc, by simpa using e⟩
theorem pw_D_cong {ad cy : Nat → Nat} {al : pAL} {σ σ' : pS} {A : Nat → Prop} (h : va_D A (pw_ws ad cy al σ)) : va_D A (pw_ws ad cy al σ') := by
  have key : ∀ (k : Nat) (q : Nat × va_E), (pw_ws ad cy al σ')[k]? = some q → ∃ q0, (pw_ws ad cy al σ)[k]? = some q0 ∧ q0.1 = q.1 := by
    intro k q hk
    rw [pw_ws, List.getElem?_map] at hk
    cases hc : al[k]? with
    | none => rw [hc] at hk; cases hk
    | some c =>
      rw [hc] at hk
      cases hk
      exact ⟨(ad c.1, pw_en ad cy σ c), by rw [pw_ws, List.getElem?_map, hc]; rfl, rfl⟩
  refine ⟨fun i j p q hp hq e => ?_, fun k q hk => ?_⟩
  · obtain ⟨p0, h1, e1⟩ := key i p hp
    obtain ⟨q0, h2, e2⟩ := key j q hq
    exact h.1 i j p0 q0 h1 h2 (e1.trans (e.trans e2.symm))
  · obtain ⟨q0, h1, e1⟩ := key k q hk
    rw [← e1]
    exact h.2 k q0 h1
theorem PW_cong {M : pM} {d : Nat} {ord : List Nat} {mc ms : Nat} {Q : Option Value → pAL × pS → Prop} {pc : Nat} {lv : List (Nat × Value)} {st : List Value} {al : pAL} {k n : Nat} {σ : pS} {σ' : pS} (he : pw_eq al σ σ') (h : PW M d ord mc ms Q pc lv st al k n σ') : PW M d ord mc ms Q pc lv st al k n σ := by
  intro p l e s m args below meth c D cy ad A H locs ls C hP hD hS hl
  replace hP := pw_P_ec he hP
  replace hD := pw_D_cong (σ' := σ') hD
  exact h p l e s m args below meth c D cy ad A H locs ls C hP hD hS hl
theorem pw_join {D : va_G} {cy ad : Nat → Nat} {al al1 : pAL} {σ σ1 σ2 : pS} {A : Nat → Prop} {H H1 : Heap} (hsub : ∀ c ∈ al1, c ∈ al) (hP : va_P D pw_cl (pw_ws ad cy al σ) H) (hD : va_D A (pw_ws ad cy al σ))
    (hk : ∀ q : Nat, q < H.size → ¬ va_A (pw_ws ad cy al1 σ1) H.size q → H1[q]? = H[q]?) (hP1 : va_P D pw_cl (pw_ws ad cy al1 σ2) H1) : va_P D pw_cl (pw_ws ad cy al (pw_mg al1 σ2 σ)) H1 := by
  have hid : ∀ c ∈ al, ∀ d ∈ al, ad c.1 = ad d.1 → c = d := by
    intro c hc d hd e
    obtain ⟨i, h1, h2⟩ := pw_ws_at (ad := ad) (cy := cy) (σ := σ) hc
    obtain ⟨j, h3, h4⟩ := pw_ws_at (ad := ad) (cy := cy) (σ := σ) hd
    have ij := hD.1 i j _ _ h1 h3 e
    subst ij
    exact Option.some.inj (h2.symm.trans h4)
  intro k q hq
  rw [pw_ws, List.getElem?_map] at hq
  cases hc : al[k]? with
  | none => rw [hc] at hq; cases hq
  | some c =>
    rw [hc] at hq
    cases hq
    have hcm : c ∈ al := List.mem_of_getElem? hc
    by_cases hh : pw_has al1 c.1 = true
    · obtain ⟨d, hd, e⟩ := pw_has_ex hh
      have ed : c = d := hid c hcm d (hsub d hd) (by rw [e])
      subst ed
      obtain ⟨i, h1, -⟩ := pw_ws_at (ad := ad) (cy := cy) (σ := σ2) hd
      refine pw_at_ec (σ := σ2) ?_ (hP1 i _ h1)
      refine ⟨fun h13 j => ⟨fun _ => by simp [pw_mg, hh], fun _ => by simp [pw_mg, pw_hasO_in hd h13]⟩, fun _ j _ => ⟨by simp [pw_mg, hh], by simp [pw_mg, hh]⟩⟩
    · obtain ⟨i, h1, -⟩ := pw_ws_at (ad := ad) (cy := cy) (σ := σ) hcm
      have h2 := hP i _ h1
      have hlt := h2.lt
      have hn : ¬ va_A (pw_ws ad cy al1 σ1) H.size (ad c.1) := by
        intro z
        rcases z with ⟨j, e9, hz⟩ | hz
        · rw [pw_ws, List.getElem?_map] at hz
          cases hd : al1[j]? with
          | none => rw [hd] at hz; cases hz
          | some d =>
            rw [hd] at hz
            have e1 : (ad d.1, pw_en ad cy σ1 d) = (ad c.1, e9) := Option.some.inj hz
            have hdm := List.mem_of_getElem? hd
            have ed : d = c := hid d (hsub d hdm) c hcm (congrArg Prod.fst e1)
            exact hh (by rw [← ed]; exact pw_has_in hdm)
        · exact absurd hlt (by dsimp only; omega)
      have h3 := h2.kept (H1 := H1) (hk _ hlt hn)
      rw [pw_en_cong (σ' := pw_mg al1 σ2 σ) (by simp [pw_mg, hh]) (by simp [pw_mg, hh]) (by simp [pw_mg, pw_hasO_no hh])] at h3
      exact h3
/-- behind a call of a callee with the part al1 of the world -/
theorem pw_backF {p : Program} {l : Launch} {e : Env} {R : Room} {s : State} {m : MethodId} {args : Array Value} {below : List Frame} {meth : Method} {c : Code} {H : Heap} {locs : List Loc} {k n mc ms pc : Nat} {Z : State → Prop} {ls : Array Slot} {st0 rest : List Value} {M' : pM} {Q' : Option Value → pAL × pS → Prop} {D : va_G} {cy ad : Nat → Nat} {al al1 : pAL} {σ σ1 : pS} {A : Nat → Prop} {a : Array Value}
    (hsub : ∀ c ∈ al1, c ∈ al) (hP : va_P D pw_cl (pw_ws ad cy al σ) H) (hD : va_D A (pw_ws ad cy al σ)) (hQ1 : ∀ r al' σ', Q' r (al', σ') → al' = al1)
    (hr : va_Run p l e R s m args below meth c H locs k n mc ms (F0 m pc ls st0) rest (pw_Q M' Q' D cy ad (va_A (pw_ws ad cy al1 σ1) H.size) a) (va_A (pw_ws ad cy al1 σ1) H.size)) (hS : va_S A s.heap H locs) (hF : ∀ z, va_A (pw_ws ad cy al1 σ1) H.size z → A z)
    (kk : ∀ (r : Option Value) (σ' : pS) (H1 : Heap) (locs1 : List Loc), Q' r (al1, σ') → pw_nr M'.2.2.2.1 r → va_P D pw_cl (pw_ws ad cy al (pw_mg al1 σ' σ)) H1 → va_D A (pw_ws ad cy al (pw_mg al1 σ' σ)) → va_S A s.heap H1 locs1 → W p l e R s m args below meth c H1 locs1 (k + mc) (n + ms) Z (F0 m (pc + 3) ls ((r.map (pw_cv ad)).toList ++ rest))) : W p l e R s m args below meth c H locs k n Z (F0 m pc ls st0) := by
  intro T hT X
  obtain ⟨v, st₀, t, T', L, h0, X', hL, e1, e2, ⟨⟨r, al', σ', hv, hq, hnr, hP1, -, hD1⟩, hz, hk⟩, st⟩ := hr T hT X
  cases hv
  have ea := hQ1 r al' σ' hq
  subst ea
  rw [h0] at hz hk
  obtain ⟨t2, a1, b1⟩ := kk r σ' T'.heap (locs ++ L) hq hnr (by rw [e1]; exact pw_join hsub hP hD hk hP1) (pw_D_cong hD)
    ⟨Nat.le_trans hS.1 (by rw [e1]; exact hz), fun q h1 h2 => by rw [e1, hk q (Nat.lt_of_lt_of_le h1 hS.1) (fun z => h2 (hF q z))]; exact hS.2.1 q h1 h2, fun q hq => by
      rcases List.mem_append.mp hq with h | h
      · exact hS.2.2 q h
      · exact hF _ (hL q h)⟩ T' rfl X'
  exact ⟨t2, st t2 a1, b1⟩
theorem pw_subP {D : va_G} {cy ad : Nat → Nat} {al al1 : pAL} {σ σ1 : pS} {H : Heap} (hsub : ∀ c ∈ al1, c ∈ al) (he : pw_eq al1 σ σ1) (hP : va_P D pw_cl (pw_ws ad cy al σ) H) : va_P D pw_cl (pw_ws ad cy al1 σ1) H := by
  intro k q hq
  rw [pw_ws, List.getElem?_map] at hq
  cases hc : al1[k]? with
  | none => rw [hc] at hq; cases hq
  | some c =>
    rw [hc] at hq
    cases hq
    obtain ⟨i, h1, -⟩ := pw_ws_at (ad := ad) (cy := cy) (σ := σ) (hsub c (List.mem_of_getElem? hc))
    exact pw_at_ec (he c (List.mem_of_getElem? hc)) (hP i _ h1)
theorem pw_mg0 {al : pAL} {σ σ' : pS} : pw_eq al (pw_mg [] σ' σ) σ := pw_eq_all (fun _ _ => rfl) (fun _ _ => rfl) (fun _ _ => rfl)
theorem pw_subD {cy ad : Nat → Nat} {al al1 : pAL} {σ σ1 : pS} {A : Nat → Prop} (hsub : ∀ c ∈ al1, c ∈ al) (hnd : (al1.map (·.1)).Nodup) (hD : va_D A (pw_ws ad cy al σ)) : va_D A (pw_ws ad cy al1 σ1) := by
  have key : ∀ (k : Nat) (q : Nat × va_E), (pw_ws ad cy al1 σ1)[k]? = some q → ∃ c, al1[k]? = some c ∧ q.1 = ad c.1 ∧ ∃ i : Nat, (pw_ws ad cy al σ)[i]? = some (ad c.1, pw_en ad cy σ c) ∧ al[i]? = some c := by
    intro k q hk
    rw [pw_ws, List.getElem?_map] at hk
    cases hc : al1[k]? with
    | none => rw [hc] at hk; cases hk
    | some c =>
      rw [hc] at hk
      cases hk
      exact ⟨c, rfl, rfl, pw_ws_at (ad := ad) (cy := cy) (σ := σ) (hsub c (List.mem_of_getElem? hc))⟩
  refine ⟨fun i j p q hp hq e => ?_, fun k q hk => ?_⟩
  · obtain ⟨c, h1, e1, a, h2, h3⟩ := key i p hp
    obtain ⟨d, h4, e4, b, h5, h6⟩ := key j q hq
    have ab := hD.1 a b _ _ h2 h5 (by dsimp only; rw [← e1, ← e4]; exact e)
    subst ab
    have cd : c = d := Option.some.inj (h3.symm.trans h6)
    subst cd
    have hi : (al1.map (·.1))[i]? = some c.1 := by rw [List.getElem?_map, h1]; rfl
    have hj : (al1.map (·.1))[j]? = some c.1 := by rw [List.getElem?_map, h4]; rfl
    have hil := (List.getElem?_eq_some_iff.mp hi).1
    exact (List.getElem?_inj hil hnd).mp (hi.trans hj.symm)
  · obtain ⟨c, h1, e1, a, h2, h3⟩ := key k q hk
    rw [e1]
    exact hD.2 a _ h2
theorem PW_callSF {M : pM} {d : Nat} {ord : List Nat} {mc ms : Nat} {Q : Option Value → pAL × pS → Prop} {pc pc' : Nat} {lv : List (Nat × Value)} {st : List Value} {al : pAL} {k n : Nat} {σ : pS} {y : MethodName} {M' : pM} {d' nA ix : Nat} {As : List Value} (w2 : Cond.static y ∈ pw_tb) {al1 : pAL} {σ1 : pS} (hsub : ∀ c ∈ al1, c ∈ al) (hnd : (al1.map (·.1)).Nodup) (he : pw_eq al1 σ σ1) (hd : decode M.2.1 pc = .ok (.invokestatic ix, 3)) (hp : pc + 3 = pc') (hY : pw_Y y M' nA) (w1 : Cond.methodLink M.1 ix y ∈ pw_tb) (hn : As.length = nA) (hdd : d' + 1 ≤ d) (hst : (st.map fun v => v.category).sum ≤ 8) (hkc : k ≤ mc ∧ n ≤ ms)
    {Q' : Option Value → pAL × pS → Prop} (hQ1 : ∀ r al' σ', Q' r (al', σ') → al' = al1) (h : PC y M' d' [] 0 0 As al1 σ1 Q') (hQ : ∀ (r : Option Value) (σ' : pS), Q' r (al1, σ') → pw_nr M'.2.2.2.1 r → PW M d ord mc ms Q pc' lv (r.toList ++ st) al k n (pw_mg al1 σ' σ)) : PW M d ord mc ms Q pc lv (As.reverse ++ st) al k n σ := by
  subst hp
  intro p l e s m args below meth c D cy ad A H locs ls C hP hD hS hl
  have C2 := C
  obtain ⟨hx, hb, hr, hml, hown, hts, hlk, hK, hA, ho, hX, hnm0⟩ := C2
  have hF : ∀ z, va_A (pw_ws ad cy al1 σ1) H.size z → A z := by
    intro z hz
    rcases hz with ⟨q, e9, hz⟩ | hz
    · exact (pw_subD (σ1 := σ1) hsub hnd hD).2 q _ hz
    · exact hA z (Nat.le_trans hS.1 hz)
  refine pw_backF (M' := M') (al1 := al1) (σ1 := σ1) (rest := st.map (pw_cv ad)) (mc := 0) (ms := 0) hsub hP hD hQ1 (va_runS (As := As.map (pw_cv ad)) (g := F0 m pc ls ((As.reverse ++ st).map (pw_cv ad))) ⟨hx, hb, hml, hown, hts⟩ (h l D cy ad H.size) ⟨pw_CB hts hY hdd w1, hts _ w2⟩ ⟨pw_blind, fun U hU hW => ⟨rfl, by rw [hU], by rw [hU]; exact pw_subP hsub he hP, va_K.moved hW.alike hK, (pw_subD hsub hnd hD).weaken (fun _ _ _ _ => trivial), fun i id h9 => (by simp at h9), hX.go hS hU hW hF⟩⟩ rfl (by rw [List.length_map]; exact hn) hl.1 (by simp [List.map_append, List.map_reverse, pw_cv]) (lv_room (by rw [pw_sum]; exact hst)) hd ⟨hkc.1, hkc.2⟩) hS hF (fun r σ' H1 locs1 hq hnr hP1 hD1 hS1 => ?_)
  rw [pw_stk]
  exact hQ r σ' hq hnr p l e s m args below meth c D cy ad A H1 locs1 ls C hP1 hD1 hS1 hl
theorem PW_callTF {M : pM} {d : Nat} {ord : List Nat} {mc ms : Nat} {Q : Option Value → pAL × pS → Prop} {pc pc' : Nat} {lv : List (Nat × Value)} {st : List Value} {al : pAL} {k n : Nat} {σ : pS} {y : MethodName} {M' : pM} {d' nA ix : Nat} {As : List Value} {i : Nat} (hi : i < 2) (hcls : y.cls = "java/lang/String") (w2 : Cond.instanceMethod y ∈ pw_tb) (w3 : Cond.selects y.cls y y ∈ pw_tb) {al1 : pAL} {σ1 : pS} (hsub : ∀ c ∈ al1, c ∈ al) (hnd : (al1.map (·.1)).Nodup) (he : pw_eq al1 σ σ1) (hd : decode M.2.1 pc = .ok (.invokevirtual ix, 3)) (hp : pc + 3 = pc') (hY : pw_Y y M' nA) (w1 : Cond.methodLink M.1 ix y ∈ pw_tb) (hn : As.length = nA) (hdd : d' + 1 ≤ d) (hst : (st.map fun v => v.category).sum ≤ 8) (hkc : k ≤ mc ∧ n ≤ ms)
    {Q' : Option Value → pAL × pS → Prop} (hQ1 : ∀ r al' σ', Q' r (al', σ') → al' = al1) (h : PC y M' d' [] 0 0 (.ref (9001 + i) :: As) al1 σ1 Q') (hQ : ∀ (r : Option Value) (σ' : pS), Q' r (al1, σ') → pw_nr M'.2.2.2.1 r → PW M d ord mc ms Q pc' lv (r.toList ++ st) al k n (pw_mg al1 σ' σ)) : PW M d ord mc ms Q pc lv (As.reverse ++ .ref (9001 + i) :: st) al k n σ := by
  subst hp
  intro p l e s m args below meth c D cy ad A H locs ls C hP hD hS hl
  have C2 := C
  obtain ⟨hx, hb, hr, hml, hown, hts, hlk, hK, hA, ho, hX, hnm0⟩ := C2
  have hF : ∀ z, va_A (pw_ws ad cy al1 σ1) H.size z → A z := by
    intro z hz
    rcases hz with ⟨q, e9, hz⟩ | hz
    · exact (pw_subD (σ1 := σ1) hsub hnd hD).2 q _ hz
    · exact hA z (Nat.le_trans hS.1 hz)
  refine pw_backF (M' := M') (al1 := al1) (σ1 := σ1) (rest := st.map (pw_cv ad)) (mc := 0) (ms := 0) hsub hP hD hQ1 (va_runV (C := y.cls) (As := As.map (pw_cv ad)) (g := F0 m pc ls ((As.reverse ++ .ref (9001 + i) :: st).map (pw_cv ad))) ⟨hx, hb, hml, hown, hts⟩ (h l D cy ad H.size) ⟨pw_CB hts hY hdd w1, hts _ w2, hts _ w3⟩ ⟨pw_blind, (by rw [hcls]; exact vk_recv (adK := fun i => ad (9001 + i)) (i := i) hX.1 hi hS), fun U hU hW => ⟨rfl, by rw [hU], by rw [hU]; exact pw_subP hsub he hP, va_K.moved hW.alike hK, (pw_subD hsub hnd hD).weaken (fun _ _ _ _ => trivial), fun i id h9 => (by simp at h9), hX.go hS hU hW hF⟩⟩ rfl (by rw [List.length_map]; exact hn) hl.1 (by simp [List.map_append, List.map_reverse, pw_cv]) (lv_room (by rw [pw_sum]; exact hst)) hd ⟨hkc.1, hkc.2⟩) hS hF (fun r σ' H1 locs1 hq hnr hP1 hD1 hS1 => ?_)
  rw [pw_stk]
  exact hQ r σ' hq hnr p l e s m args below meth c D cy ad A H1 locs1 ls C hP1 hD1 hS1 hl
theorem PW_callVF {M : pM} {d : Nat} {ord : List Nat} {mc ms : Nat} {Q : Option Value → pAL × pS → Prop} {pc pc' : Nat} {lv : List (Nat × Value)} {st : List Value} {al : pAL} {k n : Nat} {σ : pS} {y : MethodName} {M' : pM} {d' nA ix : Nat} {As : List Value} {b ci nn : Nat} {T : u_T} {N : Nat} (hin : (b, ci, nn) ∈ al) (hci : pw_cl[ci]? = some (y.cls, T, N)) (w2 : Cond.instanceMethod y ∈ pw_tb) (w3 : Cond.selects y.cls y y ∈ pw_tb) {al1 : pAL} {σ1 : pS} (hsub : ∀ c ∈ al1, c ∈ al) (hnd : (al1.map (·.1)).Nodup) (he : pw_eq al1 σ σ1) (hd : decode M.2.1 pc = .ok (.invokevirtual ix, 3)) (hp : pc + 3 = pc') (hY : pw_Y y M' nA) (w1 : Cond.methodLink M.1 ix y ∈ pw_tb) (hn : As.length = nA) (hdd : d' + 1 ≤ d) (hst : (st.map fun v => v.category).sum ≤ 8) (hkc : k ≤ mc ∧ n ≤ ms)
    {Q' : Option Value → pAL × pS → Prop} (hQ1 : ∀ r al' σ', Q' r (al', σ') → al' = al1) (h : PC y M' d' [] 0 0 (.ref b :: As) al1 σ1 Q') (hQ : ∀ (r : Option Value) (σ' : pS), Q' r (al1, σ') → pw_nr M'.2.2.2.1 r → PW M d ord mc ms Q pc' lv (r.toList ++ st) al k n (pw_mg al1 σ' σ)) : PW M d ord mc ms Q pc lv (As.reverse ++ .ref b :: st) al k n σ := by
  subst hp
  intro p l e s m args below meth c D cy ad A H locs ls C hP hD hS hl
  have C2 := C
  obtain ⟨hx, hb, hr, hml, hown, hts, hlk, hK, hA, ho, hX, hnm0⟩ := C2
  obtain ⟨q, hq1, hq2⟩ := pw_ws_at (ad := ad) (cy := cy) (σ := σ) hin
  rw [pw_en_o (pw_ci hci)] at hq1
  have hF : ∀ z, va_A (pw_ws ad cy al1 σ1) H.size z → A z := by
    intro z hz
    rcases hz with ⟨q, e9, hz⟩ | hz
    · exact (pw_subD (σ1 := σ1) hsub hnd hD).2 q _ hz
    · exact hA z (Nat.le_trans hS.1 hz)
  refine pw_backF (M' := M') (al1 := al1) (σ1 := σ1) (rest := st.map (pw_cv ad)) (mc := 0) (ms := 0) hsub hP hD hQ1 (va_runV (As := As.map (pw_cv ad)) (g := F0 m pc ls ((As.reverse ++ .ref b :: st).map (pw_cv ad))) ⟨hx, hb, hml, hown, hts⟩ (h l D cy ad H.size) ⟨pw_CB hts hY hdd w1, hts _ w2, hts _ w3⟩ ⟨pw_blind, va_recv hK hP hci hq1, fun U hU hW => ⟨rfl, by rw [hU], by rw [hU]; exact pw_subP hsub he hP, va_K.moved hW.alike hK, (pw_subD hsub hnd hD).weaken (fun _ _ _ _ => trivial), fun i id h9 => (by simp at h9), hX.go hS hU hW hF⟩⟩ rfl (by rw [List.length_map]; exact hn) hl.1 (by simp [List.map_append, List.map_reverse, pw_cv]) (lv_room (by rw [pw_sum]; exact hst)) hd ⟨hkc.1, hkc.2⟩) hS hF (fun r σ' H1 locs1 hq hnr hP1 hD1 hS1 => ?_)
  rw [pw_stk]
  exact hQ r σ' hq hnr p l e s m args below meth c D cy ad A H1 locs1 ls C hP1 hD1 hS1 hl
