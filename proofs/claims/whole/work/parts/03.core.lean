/-! THE PURE LAYER. A world is a list al of cells (id, kind, length) and a store: whole numbers, longs, references by id and place.
 PW: from pc with these locals, this stack and this store the machine comes to the method's end with Q. -/
abbrev pS : Type := (Nat → Nat → Int32) × (Nat → Nat → Int64) × (Nat → Nat → Nat)
abbrev pAL : Type := List (Nat × Nat × Nat)
abbrev pM : Type := String × ByteArray × Nat × Option FieldType × String
def pw_tys (cy : Nat → Nat) : List (ClassId × FieldType) := [(cy 0, .int), (cy 1, .long), (cy 2, .boolean)]
def pw_rv (ad : Nat → Nat) (r : Nat) : Value := if r = 0 then .null else .ref (ad r)
def pw_rp (r : Nat) : Value := if r = 0 then .null else .ref r
def pw_cv (ad : Nat → Nat) (v : Value) : Value := match v with
  | .ref r => .ref (ad r)
  | w => w
theorem pw_cv_rp (ad : Nat → Nat) (r : Nat) : pw_cv ad (pw_rp r) = pw_rv ad r := by
  unfold pw_rp pw_rv
  by_cases h : r = 0
  · rw [if_pos h, if_pos h]; rfl
  · rw [if_neg h, if_neg h]; rfl
theorem pw_cv_cat (ad : Nat → Nat) (v : Value) : (pw_cv ad v).category = v.category := by cases v <;> rfl
def pw_fl (ad : Nat → Nat) (σ : pS) (id : Nat) : Nat → List Bool → List Value
  | _, [] => []
  | j, true :: t => .int (σ.1 id j) :: pw_fl ad σ id (j + 1) t
  | j, false :: t => pw_rv ad (σ.2.2 id j) :: pw_fl ad σ id (j + 1) t
theorem pw_fl_len (ad : Nat → Nat) (σ : pS) (id : Nat) : ∀ (ks : List Bool) (j : Nat), (pw_fl ad σ id j ks).length = ks.length
  | [], _ => rfl
  | true :: t, j => by simp [pw_fl, pw_fl_len ad σ id t (j + 1)]
  | false :: t, j => by simp [pw_fl, pw_fl_len ad σ id t (j + 1)]
theorem pw_fl_i (ad : Nat → Nat) (σ : pS) (id : Nat) : ∀ (ks : List Bool) (j k : Nat), ks[k]? = some true → (pw_fl ad σ id j ks)[k]? = some (.int (σ.1 id (j + k)))
  | [], _, k, h => by simp at h
  | true :: t, j, 0, _ => by simp [pw_fl]
  | false :: t, j, 0, h => by simp at h
  | true :: t, j, k + 1, h => by
    have h1 := pw_fl_i ad σ id t (j + 1) k (by simpa using h)
    simp only [pw_fl, List.getElem?_cons_succ]
    rw [h1, show j + 1 + k = j + (k + 1) by omega]
  | false :: t, j, k + 1, h => by
    have h1 := pw_fl_i ad σ id t (j + 1) k (by simpa using h)
    simp only [pw_fl, List.getElem?_cons_succ]
    rw [h1, show j + 1 + k = j + (k + 1) by omega]
theorem pw_fl_r (ad : Nat → Nat) (σ : pS) (id : Nat) : ∀ (ks : List Bool) (j k : Nat), ks[k]? = some false → (pw_fl ad σ id j ks)[k]? = some (pw_rv ad (σ.2.2 id (j + k)))
  | [], _, k, h => by simp at h
  | false :: t, j, 0, _ => by simp [pw_fl]
  | true :: t, j, 0, h => by simp at h
  | true :: t, j, k + 1, h => by
    have h1 := pw_fl_r ad σ id t (j + 1) k (by simpa using h)
    simp only [pw_fl, List.getElem?_cons_succ]
    rw [h1, show j + 1 + k = j + (k + 1) by omega]
  | false :: t, j, k + 1, h => by
    have h1 := pw_fl_r ad σ id t (j + 1) k (by simpa using h)
    simp only [pw_fl, List.getElem?_cons_succ]
    rw [h1, show j + 1 + k = j + (k + 1) by omega]
def pw_wI (σ : pS) (id k : Nat) (v : Int32) : pS := (fun c j => if c = id ∧ j = k then v else σ.1 c j, σ.2)
def pw_wL (σ : pS) (id k : Nat) (v : Int64) : pS := (σ.1, fun c j => if c = id ∧ j = k then v else σ.2.1 c j, σ.2.2)
def pw_wR (σ : pS) (id k : Nat) (v : Nat) : pS := (σ.1, σ.2.1, fun c j => if c = id ∧ j = k then v else σ.2.2 c j)
/-- a whole row of numbers anew -/
def pw_wA (σ : pS) (id : Nat) (f : Nat → Int32) : pS := (fun c => if c = id then f else σ.1 c, σ.2)
/-- a new cell -/
def pw_nw (σ : pS) (id : Nat) : pS := (fun c j => if c = id then 0 else σ.1 c j, fun c j => if c = id then 0 else σ.2.1 c j, fun c j => if c = id then 0 else σ.2.2 c j)
theorem pw_fl_wI (ad : Nat → Nat) (σ : pS) (id k : Nat) (v : Int32) : ∀ (ks : List Bool) (j : Nat), ks[k - j]? = some true → j ≤ k → (pw_fl ad σ id j ks).set (k - j) (.int v) = pw_fl ad (pw_wI σ id k v) id j ks
  | [], j, h, _ => by simp at h
  | b :: t, j, h, hj => by
    by_cases e : j = k
    · subst e
      rw [Nat.sub_self] at h ⊢
      have hb : b = true := by simpa using h
      subst hb
      have aux : ∀ (ks : List Bool) (i : Nat), j < i → pw_fl ad σ id i ks = pw_fl ad (pw_wI σ id j v) id i ks := by
        intro ks
        induction ks with
        | nil => intro i _; rfl
        | cons c t ih =>
          intro i hi
          cases c
          · simp only [pw_fl]; rw [ih (i + 1) (by omega)]; rfl
          · simp only [pw_fl]; rw [ih (i + 1) (by omega)]
            simp [pw_wI, show ¬ i = j by omega]
      simp only [pw_fl, List.set_cons_zero]
      rw [aux t (j + 1) (by omega)]
      simp [pw_wI]
    · obtain ⟨d, hd⟩ : ∃ d, k - j = d + 1 := ⟨k - j - 1, by omega⟩
      have hd2 : k - (j + 1) = d := by omega
      rw [hd] at h ⊢
      have ih := pw_fl_wI ad σ id k v t (j + 1) (by rw [hd2]; simpa using h) (by omega)
      rw [hd2] at ih
      cases b
      · simp only [pw_fl, List.set_cons_succ]; rw [ih]; rfl
      · simp only [pw_fl, List.set_cons_succ]; rw [ih]; simp [pw_wI, e]
theorem pw_fl_wR (ad : Nat → Nat) (σ : pS) (id k : Nat) (v : Nat) : ∀ (ks : List Bool) (j : Nat), ks[k - j]? = some false → j ≤ k → (pw_fl ad σ id j ks).set (k - j) (pw_rv ad v) = pw_fl ad (pw_wR σ id k v) id j ks
  | [], j, h, _ => by simp at h
  | b :: t, j, h, hj => by
    by_cases e : j = k
    · subst e
      rw [Nat.sub_self] at h ⊢
      have hb : b = false := by simpa using h
      subst hb
      have aux : ∀ (ks : List Bool) (i : Nat), j < i → pw_fl ad σ id i ks = pw_fl ad (pw_wR σ id j v) id i ks := by
        intro ks
        induction ks with
        | nil => intro i _; rfl
        | cons c t ih =>
          intro i hi
          cases c
          · simp only [pw_fl]; rw [ih (i + 1) (by omega)]
            simp [pw_wR, show ¬ i = j by omega]
          · simp only [pw_fl]; rw [ih (i + 1) (by omega)]; rfl
      simp only [pw_fl, List.set_cons_zero]
      rw [aux t (j + 1) (by omega)]
      simp [pw_wR]
    · obtain ⟨d, hd⟩ : ∃ d, k - j = d + 1 := ⟨k - j - 1, by omega⟩
      have hd2 : k - (j + 1) = d := by omega
      rw [hd] at h ⊢
      have ih := pw_fl_wR ad σ id k v t (j + 1) (by rw [hd2]; simpa using h) (by omega)
      rw [hd2] at ih
      cases b
      · simp only [pw_fl, List.set_cons_succ]; rw [ih]; simp [pw_wR, e]
      · simp only [pw_fl, List.set_cons_succ]; rw [ih]; rfl
/-- the fields of a class by its kind: true a whole number, false a reference -/
def pw_fk (ci : Nat) : List Bool := match pw_cl[ci]? with
  | some (_, T, N) => (List.range N).map (fun k => (T k).2.2.1 == "I" || (T k).2.2.1 == "Z")
  | none => []
def pw_en (ad cy : Nat → Nat) (σ : pS) (c : Nat × Nat × Nat) : va_E :=
  if c.2.1 < 13 then .inr (c.2.1, pw_fl ad σ c.1 0 (pw_fk c.2.1))
  else if c.2.1 = 13 then .inl (cy 0, c.2.2, .inl (σ.1 c.1))
  else if c.2.1 = 14 then .inl (cy 1, c.2.2, .inr (.inl (σ.2.1 c.1)))
  else .inl (cy 2, c.2.2, .inl (σ.1 c.1))
def pw_ws (ad cy : Nat → Nat) (al : pAL) (σ : pS) : va_W := al.map (fun c => (ad c.1, pw_en ad cy σ c))
theorem pw_ws_at {ad cy : Nat → Nat} {al : pAL} {σ : pS} {c : Nat × Nat × Nat} (h : c ∈ al) : ∃ q : Nat, (pw_ws ad cy al σ)[q]? = some (ad c.1, pw_en ad cy σ c) ∧ al[q]? = some c := by
  obtain ⟨q, hq⟩ := List.getElem?_of_mem h
  exact ⟨q, by rw [pw_ws, List.getElem?_map, hq]; rfl, hq⟩
theorem pw_fl_cong {ad : Nat → Nat} {σ σ' : pS} {id : Nat} (h1 : σ.1 id = σ'.1 id) (h3 : σ.2.2 id = σ'.2.2 id) : ∀ (ks : List Bool) (j : Nat), pw_fl ad σ id j ks = pw_fl ad σ' id j ks
  | [], _ => rfl
  | true :: t, j => by simp only [pw_fl]; rw [pw_fl_cong h1 h3 t (j + 1), h1]
  | false :: t, j => by simp only [pw_fl]; rw [pw_fl_cong h1 h3 t (j + 1), h3]
theorem pw_en_cong {ad cy : Nat → Nat} {σ σ' : pS} {c : Nat × Nat × Nat} (h1 : σ.1 c.1 = σ'.1 c.1) (h2 : σ.2.1 c.1 = σ'.2.1 c.1) (h3 : σ.2.2 c.1 = σ'.2.2 c.1) : pw_en ad cy σ c = pw_en ad cy σ' c := by
  unfold pw_en
  rw [pw_fl_cong h1 h3, h1, h2]
theorem pw_ws_cong {ad cy : Nat → Nat} {σ σ' : pS} {al : pAL} (h : ∀ c ∈ al, σ.1 c.1 = σ'.1 c.1 ∧ σ.2.1 c.1 = σ'.2.1 c.1 ∧ σ.2.2 c.1 = σ'.2.2 c.1) : pw_ws ad cy al σ = pw_ws ad cy al σ' := by
  unfold pw_ws
  refine List.map_congr_left (fun c hc => ?_)
  rw [pw_en_cong (h c hc).1 (h c hc).2.1 (h c hc).2.2]
theorem pw_ws_set {ad cy : Nat → Nat} {A : Nat → Prop} {al : pAL} {σ σ' : pS} {c : Nat × Nat × Nat} {q : Nat} (hD : va_D A (pw_ws ad cy al σ)) (hq : al[q]? = some c)
    (h : ∀ i, i ≠ c.1 → σ.1 i = σ'.1 i ∧ σ.2.1 i = σ'.2.1 i ∧ σ.2.2 i = σ'.2.2 i) : (pw_ws ad cy al σ).set q (ad c.1, pw_en ad cy σ' c) = pw_ws ad cy al σ' := by
  apply List.ext_getElem?
  intro j
  have hqw : (pw_ws ad cy al σ)[q]? = some (ad c.1, pw_en ad cy σ c) := by rw [pw_ws, List.getElem?_map, hq]; rfl
  have hql := (List.getElem?_eq_some_iff.mp hqw).1
  by_cases e : q = j
  · subst e
    rw [List.getElem?_set_self hql, pw_ws, List.getElem?_map, hq]; rfl
  · rw [List.getElem?_set_ne e]
    cases hj : al[j]? with
    | none => rw [pw_ws, pw_ws, List.getElem?_map, List.getElem?_map, hj]; rfl
    | some d =>
      have hd : d.1 ≠ c.1 := by
        intro ed
        refine e (hD.1 q j _ (ad d.1, pw_en ad cy σ d) hqw (by rw [pw_ws, List.getElem?_map, hj]; rfl) ?_)
        show ad c.1 = ad d.1
        rw [ed]
      obtain ⟨h1, h2, h3⟩ := h d.1 hd
      rw [pw_ws, pw_ws, List.getElem?_map, List.getElem?_map, hj]
      show some (ad d.1, pw_en ad cy σ d) = some (ad d.1, pw_en ad cy σ' d)
      rw [pw_en_cong h1 h2 h3]
def pw_lv (ad : Nat → Nat) (lv : List (Nat × Value)) : List (Nat × Value) := lv.map (fun q => (q.1, pw_cv ad q.2))
theorem pw_lv_at {ad : Nat → Nat} {lv : List (Nat × Value)} {k i : Nat} {v : Value} (h : lv[k]? = some (i, v)) : (pw_lv ad lv)[k]? = some (i, pw_cv ad v) := by
  rw [pw_lv, List.getElem?_map, h]; rfl
def pw_f1 (i : Nat) (q : Nat × Value) : Bool := !(q.1 == i) && !(q.1 + 1 == i && q.2.category == 2)
def pw_f2 (i : Nat) (q : Nat × Value) : Bool := !(q.1 == i) && (!(q.1 == i + 1) && !(q.1 + 1 == i && q.2.category == 2))
theorem pw_lv_f1 (ad : Nat → Nat) (i : Nat) (lv : List (Nat × Value)) : (pw_lv ad lv).filter (fun q => !(q.1 == i) && !(q.1 + 1 == i && q.2.category == 2)) = pw_lv ad (lv.filter (pw_f1 i)) := by
  rw [pw_lv, pw_lv, List.filter_map]
  congr 1
  refine List.filter_congr (fun q _ => ?_)
  simp only [Function.comp, pw_f1, pw_cv_cat]
theorem pw_lv_f2 (ad : Nat → Nat) (i : Nat) (lv : List (Nat × Value)) : (pw_lv ad lv).filter (fun q => !(q.1 == i) && (!(q.1 == i + 1) && !(q.1 + 1 == i && q.2.category == 2))) = pw_lv ad (lv.filter (pw_f2 i)) := by
  rw [pw_lv, pw_lv, List.filter_map]
  congr 1
  refine List.filter_congr (fun q _ => ?_)
  simp only [Function.comp, pw_f2, pw_cv_cat]
theorem pw_lv_args (ad : Nat → Nat) : ∀ (vs : List Value) (n : Nat), lv_args n (vs.map (pw_cv ad)) = pw_lv ad (lv_args n vs)
  | [], n => by simp [lv_args, pw_lv]
  | v :: t, n => by
    have ih := pw_lv_args ad t
    cases v <;> simp [lv_args, pw_lv, pw_cv, Value.category] <;> (first | exact ih _ | (have h := ih (n + 1); simpa [pw_lv] using h) | (have h := ih (n + 2); simpa [pw_lv] using h))
theorem pw_lg_len (ad : Nat → Nat) (vs : List Value) : (lg_sl (vs.map (pw_cv ad))).length = (lg_sl vs).length := by
  induction vs with
  | nil => rfl
  | cons v t ih =>
    cases v <;> simp [lg_sl, pw_cv, Value.category] at ih ⊢ <;> omega
theorem pw_sum (ad : Nat → Nat) (st : List Value) : ((st.map (pw_cv ad)).map fun v => v.category) = (st.map fun v => v.category) := by
  rw [List.map_map]
  exact List.map_congr_left (fun v _ => pw_cv_cat ad v)
/-- the two texts that the programs hold as constants -/
def pw_t0 : String := "street land man deed bar fine seed law north east south west left right lhand rhand lfoot rfoot hold sign hit pass bind may tax or and not part side where face cross hour "
def pw_t1 : String := "street land man deed bar fine seed law north east south west left right lhand rhand lfoot rfoot hold sign hit pass bind may tax or and not part side where face cross deed hour "
def pw_byt : List (List Int32) := [[115, 116, 114, 101, 101, 116, 32, 108, 97, 110, 100, 32, 109, 97, 110, 32, 100, 101, 101, 100, 32, 98, 97, 114, 32, 102, 105, 110, 101, 32, 115, 101, 101, 100, 32, 108, 97, 119, 32, 110, 111, 114, 116, 104, 32, 101, 97, 115, 116, 32, 115, 111, 117, 116, 104, 32, 119, 101, 115, 116, 32, 108, 101, 102, 116, 32, 114, 105, 103, 104, 116, 32, 108, 104, 97, 110, 100, 32, 114, 104, 97, 110, 100, 32, 108, 102, 111, 111, 116, 32, 114, 102, 111, 111, 116, 32, 104, 111, 108, 100, 32, 115, 105, 103, 110, 32, 104, 105, 116, 32, 112, 97, 115, 115, 32, 98, 105, 110, 100, 32, 109, 97, 121, 32, 116, 97, 120, 32, 111, 114, 32, 97, 110, 100, 32, 110, 111, 116, 32, 112, 97, 114, 116, 32, 115, 105, 100, 101, 32, 119, 104, 101, 114, 101, 32, 102, 97, 99, 101, 32, 99, 114, 111, 115, 115, 32, 104, 111, 117, 114, 32], [115, 116, 114, 101, 101, 116, 32, 108, 97, 110, 100, 32, 109, 97, 110, 32, 100, 101, 101, 100, 32, 98, 97, 114, 32, 102, 105, 110, 101, 32, 115, 101, 101, 100, 32, 108, 97, 119, 32, 110, 111, 114, 116, 104, 32, 101, 97, 115, 116, 32, 115, 111, 117, 116, 104, 32, 119, 101, 115, 116, 32, 108, 101, 102, 116, 32, 114, 105, 103, 104, 116, 32, 108, 104, 97, 110, 100, 32, 114, 104, 97, 110, 100, 32, 108, 102, 111, 111, 116, 32, 114, 102, 111, 111, 116, 32, 104, 111, 108, 100, 32, 115, 105, 103, 110, 32, 104, 105, 116, 32, 112, 97, 115, 115, 32, 98, 105, 110, 100, 32, 109, 97, 121, 32, 116, 97, 120, 32, 111, 114, 32, 97, 110, 100, 32, 110, 111, 116, 32, 112, 97, 114, 116, 32, 115, 105, 100, 101, 32, 119, 104, 101, 114, 101, 32, 102, 97, 99, 101, 32, 99, 114, 111, 115, 115, 32, 100, 101, 101, 100, 32, 104, 111, 117, 114, 32]]
def pw_len : List Nat := [171, 176]
/-- the private constructors and the private method that nest mates call -/
def pw_nest : List (String × Nat × MethodName) := [(RX8, 66, yX2_init), (RX11, 50, yX0_init), (RX11, 67, yX9_init), (RX11, 74, yX3_init), (RX11, 81, yX10_init), (RX11, 88, yX1_init), (RX4, 164, yX6_readEither)]
/-- where the texts lie, and that texts are compact -/
def pw_X (ad : Nat → Nat) (A : Nat → Prop) (s : State) : Prop :=
  vk_S 2 pw_len pw_byt (fun i => ad (9001 + i)) (fun i => ad (9101 + i)) A s s.heap ∧ vk_R RX7 43 pw_t0 (ad 9001) s ∧ vk_R RX12 188 pw_t1 (ad 9002) s ∧ va_Z "java/lang/String" "COMPACT_STRINGS" "Z" (.int 1) A s s.heap ∧ (va_Z "jdk/internal/util/Preconditions" "SIOOBE_FORMATTER" "Ljava/util/function/BiFunction;" (.ref (ad 9201)) A s s.heap ∨ va_Z "jdk/internal/util/Preconditions" "SIOOBE_FORMATTER" "Ljava/util/function/BiFunction;" .null A s s.heap) ∧ ∀ q ∈ pw_nest, va_Nw (.methodLinkNest q.1 q.2.1 q.2.2 "HalfCitizen") s
theorem pw_X.go {ad : Nat → Nat} {A B : Nat → Prop} {s U : State} {H : Heap} {locs : List Loc} (h : pw_X ad A s) (hS : va_S A s.heap H locs) (hU : U.heap = H) (hW : s.WarmedH U.vm) (hB : ∀ q, B q → A q) : pw_X ad B U := by
  obtain ⟨h1, h2, h3, h4, h5, h6⟩ := h
  subst hU
  exact ⟨((h1.moved hW.alike).kept hS.2.1).narrow hB, h2.warm hW, h3.warm hW, ((h4.moved hW.alike).kept hS.2.1).narrow hB, h5.imp (fun z => ((z.moved hW.alike).kept hS.2.1).narrow hB) (fun z => ((z.moved hW.alike).kept hS.2.1).narrow hB), fun q hq => (h6 q hq).warmM hW⟩
theorem pw_X.calling {ad : Nat → Nat} {A : Nat → Prop} {U : State} {g : JFrame} {mk : MethodId} {a : Array Value} (h : pw_X ad A U) : pw_X ad A (U.calling g mk a) := by
  obtain ⟨h1, h2, h3, h4, h5, h6⟩ := h
  exact ⟨h1.moved (u := U) (U := U.calling g mk a) (Vm.Alike.refl U.vm), h2.same (u := U) (U := U.calling g mk a) rfl, h3.same (u := U) (U := U.calling g mk a) rfl, h4.moved (u := U) (U := U.calling g mk a) (Vm.Alike.refl U.vm), h5.imp (fun z => z.moved (u := U) (U := U.calling g mk a) (Vm.Alike.refl U.vm)) (fun z => z.moved (u := U) (U := U.calling g mk a) (Vm.Alike.refl U.vm)), fun q hq => va_Nw.same rfl (u := U) (U := U.calling g mk a) rfl (h6 q hq)⟩
def pw_wsM (y : MethodName) (M : pM) : List Cond := Cond.code y M.2.1 M.2.2.1 M.2.2.2.1 :: pw_tb
theorem pw_good {y : MethodName} {M : pM} (h : Cond.code y M.2.1 M.2.2.1 M.2.2.2.1 ∈ pw_tb) : GoodIn pw_tb (pw_wsM y M) := by
  intro w hw
  have h1 : w ∈ pw_tb := by
    rcases List.mem_cons.mp hw with e | e
    · rw [e]; exact h
    · exact e
  exact ⟨h1, good_of_word (List.mem_filter.mp h1).2⟩
/-- the room of a method whose calls go d deep, each of at most forty words; mc cells of ms slots -/
def pw_R (d mc ms : Nat) : Room := { frames := d, cells := mc, slots := ms, locals := 40 * d }
/-- what a method answers fits its type -/
def pw_nr (rt : Option FieldType) (r : Option Value) : Prop := ∀ ty v, rt = some ty → r = some v → narrow ty v = v
def pw_C (M : pM) (ord : List Nat) (p : Program) (s : State) (m : MethodId) (args : Array Value) (meth : Method) (c : Code) (D : va_G) (cy ad : Nat → Nat) (A : Nat → Prop) : Prop :=
  p.tables.exec = Jvm.exec ∧ c.code = M.2.1 ∧ meth.sig.returnType = M.2.2.2.1 ∧ c.maxLocals = M.2.2.1 ∧ s.vm.findClass M.1 = some m.cls ∧ (∀ w ∈ pw_tb, w.before args s = true) ∧ meth.locks = false ∧ va_K D pw_cl (pw_tys cy) s ∧ (∀ q, s.heap.size ≤ q → A q) ∧ (∀ i id, ord[i]? = some id → ad id = s.heap.size + i) ∧ pw_X ad A s ∧ meth.name = M.2.2.2.2
def pw_Q (M : pM) (Q : Option Value → pAL × pS → Prop) (D : va_G) (cy ad : Nat → Nat) (A : Nat → Prop) : Array Value → State → Outcome → State → Prop := fun _ st0 oc t =>
  (∃ (r : Option Value) (al : pAL) (σ : pS), oc = .returned (r.map (pw_cv ad)) ∧ Q r (al, σ) ∧ pw_nr M.2.2.2.1 r ∧ va_P D pw_cl (pw_ws ad cy al σ) t.heap ∧ va_K D pw_cl (pw_tys cy) t ∧ va_D A (pw_ws ad cy al σ)) ∧ va_F A st0 t
def PW (M : pM) (d : Nat) (ord : List Nat) (mc ms : Nat) (Q : Option Value → pAL × pS → Prop) (pc : Nat) (lv : List (Nat × Value)) (st : List Value) (al : pAL) (k n : Nat) (σ : pS) : Prop :=
  ∀ (p : Program) (l : Launch) (e : Env) (s : State) (m : MethodId) (args : Array Value) (below : List Frame) (meth : Method) (c : Code) (D : va_G) (cy ad : Nat → Nat) (A : Nat → Prop) (H : Heap) (locs : List Loc) (ls : Array Slot),
    pw_C M ord p s m args meth c D cy ad A → va_P D pw_cl (pw_ws ad cy al σ) H → va_D A (pw_ws ad cy al σ) → va_S A s.heap H locs → lv_has ls M.2.2.1 (pw_lv ad lv) →
    W p l e (pw_R d mc ms) s m args below meth c H locs k n (MQ below (pw_Q M Q D cy ad A) args s mc ms A) (F0 m pc ls (st.map (pw_cv ad)))
def PC (y : MethodName) (M : pM) (d : Nat) (ord : List Nat) (mc ms : Nat) (As : List Value) (al : pAL) (σ : pS) (Q : Option Value → pAL × pS → Prop) : Prop :=
  ∀ (l : Launch) (D : va_G) (cy ad : Nat → Nat) (sz : Nat), Met l y (pw_wsM y M) (pw_R d mc ms)
    (va_Pc (As.map (pw_cv ad)) (fun U => U.heap.size = sz ∧ va_P D pw_cl (pw_ws ad cy al σ) U.heap ∧ va_K D pw_cl (pw_tys cy) U ∧ va_D (fun _ => True) (pw_ws ad cy al σ) ∧ (∀ i id, ord[i]? = some id → ad id = sz + i) ∧ pw_X ad (va_A (pw_ws ad cy al σ) sz) U))
    (pw_Q M Q D cy ad (va_A (pw_ws ad cy al σ) sz)) mc ms (va_A (pw_ws ad cy al σ) sz)

theorem Met_ofWF {l : Launch} {y : MethodName} {ws ws' : List Cond} {rm : Room} {Pc : Array Value → State → Prop} {Qc : Array Value → State → Outcome → State → Prop} {mc ms : Nat} {free : Addr → Prop} {cc : ByteArray} {maxL : Nat} {ret : Option FieldType}
    (hy : plainFor y = true) (hw : ws = Cond.code y cc maxL ret :: ws')
    (body : ∀ p e s m args below meth c s₁, BodyLoose p l y (headSpec ws rm) cc maxL ret e s m args below meth c s₁ → c.maxLocals = maxL → Pc args s →
      W p l e (headSpec ws rm).room s m args below meth c s.heap [] 0 0 (MQ below Qc args s mc ms free) (entryFrame m args maxL)) : Met l y ws rm Pc Qc mc ms free := by
  refine MetFree.of_bodySF (code := cc) (maxLocals := maxL) (ret := ret) hy ?_ ?_
  · intro args s m h hn
    obtain ⟨meth, c, h1, h2, h3, h4, h5, h6, -, -⟩ := Cond.code_spec hn (atoms_spec (ws := ws) h _ (by rw [hw]; exact List.mem_cons_self))
    exact ⟨meth, c, h1, h2, h3, h4, h5, h6⟩
  · intro p e s m args below meth c s₁ B hml hP _
    have hh0 : s₁.heap = s.heap := by rw [B.state]; rfl
    obtain ⟨t, a1, o, b1, b2, b3⟩ := body p e s m args below meth c s₁ B hml hP s₁ hh0 (Stand.of_body B)
    exact ⟨t, o, a1, b1, b2, ⟨b3.1, b3.2⟩⟩
theorem PC_ofF {y : MethodName} {M : pM} {d : Nat} {ord : List Nat} {mc ms : Nat} {As : List Value} {al : pAL} {σ : pS} {Q : Option Value → pAL × pS → Prop} (hy : plainFor y = true) (hM : y.cls = M.1) (hM2 : y.name = M.2.2.2.2) (hn : (lg_sl As).length ≤ M.2.2.1)
    (h : PW M d ord mc ms Q 0 (lv_args 0 As) [] al 0 0 σ) : PC y M d ord mc ms As al σ Q := by
  intro l D cy ad sz
  refine Met_ofWF (cc := M.2.1) (maxL := M.2.2.1) (ret := M.2.2.2.1) hy rfl ?_
  intro p e s m args below meth c s₁ B hml hv
  obtain ⟨rfl, hsz, hP, hK, hD0, ho, hX⟩ := hv
  subst hsz
  have hts0 := atoms_spec (ws := pw_wsM y M) B.pre
  have hts : ∀ w ∈ pw_tb, w.before (As.map (pw_cv ad)).toArray s = true := fun w hw => hts0 w (List.mem_cons_of_mem _ hw)
  have hown : s.vm.findClass M.1 = some m.cls := by rw [← hM]; exact findClass_of_methodNamed B.named
  have hD := hD0.self (sz := s.heap.size)
  have hl := lv_entry (As.map (pw_cv ad)) (n := M.2.2.1) (by rw [pw_lg_len]; exact hn)
  rw [lg_entry_eq]
  rw [pw_lv_args] at hl
  exact h p l e s m _ below meth c D cy ad _ s.heap [] _ ⟨B.exec, B.bytes, B.returns, hml, hown, hts, B.notSynchronized, hK, fun q hq => Or.inr hq, ho, hX, (name_of_methodNamed B.named B.method).1.trans hM2⟩ hP hD va_S.rf hl
