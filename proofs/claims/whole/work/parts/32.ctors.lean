/-! THE CONSTRUCTORS -/
abbrev aC (k : Nat) : pAL := alC.take k
abbrev aM (k : Nat) : pAL := alM.take k
theorem KW_newaI {M : pM} {d : Nat} {ord : List Nat} {mc ms : Nat} {Q : Option Value → pAL × pS → Prop} {pc pc' : Nat} {lv : List (Nat × Value)} {st : List Value} {al al' : pAL} {k n k' n' : Nat} {σ : pS} {id N0 : Nat} {z : Int32} (hd : decode M.2.1 pc = .ok (.newarray .int, 2)) (hp : pc + 2 = pc') (hw : Cond.arrayClass .int ∈ pw_tb) (hz : ¬ z < 0) (hN : z.toNatClampNeg = N0) (hbt : N0 * componentBytes .int ≤ 536870912) (hk : k + 1 = k') (hn : n + N0 = n') (hkc : k' ≤ mc) (hkn : n' ≤ ms) (hord : ord[k]? = some id) (hlast : k = 0 ∨ ∃ c ∈ al, ord[k - 1]? = some c.1) (hal : al ++ [(id, 13, N0)] = al') (h : PW M d ord mc ms Q pc' lv (.ref id :: st) al' k' n' (pw_nw σ id)) : PW M d ord mc ms Q pc lv (.int z :: st) al k n σ := by
  subst hk; subst hn; subst hal
  exact PW_newaI hd hp hw hz hN hbt hkc hkn hord hlast h
theorem KW_newaJ {M : pM} {d : Nat} {ord : List Nat} {mc ms : Nat} {Q : Option Value → pAL × pS → Prop} {pc pc' : Nat} {lv : List (Nat × Value)} {st : List Value} {al al' : pAL} {k n k' n' : Nat} {σ : pS} {id N0 : Nat} {z : Int32} (hd : decode M.2.1 pc = .ok (.newarray .long, 2)) (hp : pc + 2 = pc') (hw : Cond.arrayClass .long ∈ pw_tb) (hz : ¬ z < 0) (hN : z.toNatClampNeg = N0) (hbt : N0 * componentBytes .long ≤ 536870912) (hk : k + 1 = k') (hn : n + N0 = n') (hkc : k' ≤ mc) (hkn : n' ≤ ms) (hord : ord[k]? = some id) (hlast : k = 0 ∨ ∃ c ∈ al, ord[k - 1]? = some c.1) (hal : al ++ [(id, 14, N0)] = al') (h : PW M d ord mc ms Q pc' lv (.ref id :: st) al' k' n' (pw_nw σ id)) : PW M d ord mc ms Q pc lv (.int z :: st) al k n σ := by
  subst hk; subst hn; subst hal
  exact PW_newaJ hd hp hw hz hN hbt hkc hkn hord hlast h
theorem KW_newaZ {M : pM} {d : Nat} {ord : List Nat} {mc ms : Nat} {Q : Option Value → pAL × pS → Prop} {pc pc' : Nat} {lv : List (Nat × Value)} {st : List Value} {al al' : pAL} {k n k' n' : Nat} {σ : pS} {id N0 : Nat} {z : Int32} (hd : decode M.2.1 pc = .ok (.newarray .boolean, 2)) (hp : pc + 2 = pc') (hw : Cond.arrayClass .boolean ∈ pw_tb) (hz : ¬ z < 0) (hN : z.toNatClampNeg = N0) (hbt : N0 * componentBytes .boolean ≤ 536870912) (hk : k + 1 = k') (hn : n + N0 = n') (hkc : k' ≤ mc) (hkn : n' ≤ ms) (hord : ord[k]? = some id) (hlast : k = 0 ∨ ∃ c ∈ al, ord[k - 1]? = some c.1) (hal : al ++ [(id, 15, N0)] = al') (h : PW M d ord mc ms Q pc' lv (.ref id :: st) al' k' n' (pw_nw σ id)) : PW M d ord mc ms Q pc lv (.int z :: st) al k n σ := by
  subst hk; subst hn; subst hal
  exact PW_newaZ hd hp hw hz hN hbt hkc hkn hord hlast h
theorem KW_new {M : pM} {d : Nat} {ord : List Nat} {mc ms : Nat} {Q : Option Value → pAL × pS → Prop} {pc pc' : Nat} {lv : List (Nat × Value)} {st : List Value} {al al' : pAL} {k n k' n' : Nat} {σ : pS} {id ci ix : Nat} {C0 : String} {T : u_T} {N : Nat} {ty0 : Nat → FieldType} (hd : decode M.2.1 pc = .ok (.new ix, 3)) (hp : pc + 3 = pc') (hc : pw_cl[ci]? = some (C0, T, N)) (hws : ∀ w ∈ u_ws C0 T N, w ∈ pw_tb) (hty : ∀ k, k < N → parseFieldDescriptor (T k).2.2.1 = some (ty0 k)) (w1 : Cond.classLink M.1 ix C0 ∈ pw_tb) (w2 : Cond.instantiable C0 N ∈ pw_tb) (w3 : Cond.initialized C0 ∈ pw_tb) (hfs : ∀ j, j < N → defaultValue (ty0 j) = if (pw_fk ci)[j]? = some true then .int 0 else .null) (hk : k + 1 = k') (hn : n + N = n') (hkc : k' ≤ mc) (hkn : n' ≤ ms) (hord : ord[k]? = some id) (hlast : k = 0 ∨ ∃ c ∈ al, ord[k - 1]? = some c.1) (hal : al ++ [(id, ci, 0)] = al') (h : PW M d ord mc ms Q pc' lv (.ref id :: st) al' k' n' (pw_nw σ id)) : PW M d ord mc ms Q pc lv st al k n σ := by
  subst hk; subst hn; subst hal
  exact PW_new hd hp hc hws hty w1 w2 w3 hfs hkc hkn hord hlast h
theorem KW_callI {M : pM} {d : Nat} {ord : List Nat} {mc ms : Nat} {Q : Option Value → pAL × pS → Prop} {pc pc' : Nat} {lv : List (Nat × Value)} {st : List Value} {al al' : pAL} {k n k' n' : Nat} {σ : pS} {y : MethodName} {M' : pM} {d' nA ix : Nat} {As : List Value} {b mc' ms' : Nat} {ord' : List Nat} {σ' : pS} (w2 : Cond.instanceMethod y ∈ pw_tb) (hin0 : y.name = "<init>") (hrt : M'.2.2.2.1 = none) (hd : decode M.2.1 pc = .ok (.invokespecial ix, 3)) (hp : pc + 3 = pc') (hY : pw_Y y M' nA) (w1 : Cond.methodLink M.1 ix y ∈ pw_tb) (hn : As.length = nA) (hdd : d' + 1 ≤ d) (hst : (st.map fun v => v.category).sum ≤ 8) (hk : k + mc' = k') (hn2 : n + ms' = n') (hkc : k' ≤ mc ∧ n' ≤ ms) (hord : ∀ (i : Nat) (id : Nat), ord'[i]? = some id → ord[k + i]? = some id) (hlast : k = 0 ∨ ∃ c ∈ al, ord[k - 1]? = some c.1)
    (h : ∀ Q' : Option Value → pAL × pS → Prop, Q' none (al', σ') → PC y M' d' ord' mc' ms' (.ref b :: As) al σ Q') (hq : PW M d ord mc ms Q pc' lv st al' k' n' σ') : PW M d ord mc ms Q pc lv (As.reverse ++ .ref b :: st) al k n σ := by
  subst hk; subst hn2
  refine PW_callI w2 hin0 hrt hd hp hY w1 hn hdd hst hkc hord hlast (h (fun r τ => r = none ∧ τ = (al', σ')) ⟨rfl, rfl⟩) (fun r al2 σ2 hz hnr => ?_)
  obtain ⟨rfl, e⟩ := hz
  cases e
  exact hq
theorem KW_callIN {M : pM} {d : Nat} {ord : List Nat} {mc ms : Nat} {Q : Option Value → pAL × pS → Prop} {pc pc' : Nat} {lv : List (Nat × Value)} {st : List Value} {al al' : pAL} {k n k' n' : Nat} {σ : pS} {y : MethodName} {M' : pM} {d' nA ix : Nat} {As : List Value} {b mc' ms' : Nat} {ord' : List Nat} {σ' : pS} (w2 : Cond.instanceMethod y ∈ pw_tb) (hin0 : y.name = "<init>") (hrt : M'.2.2.2.1 = none) (hd : decode M.2.1 pc = .ok (.invokespecial ix, 3)) (hp : pc + 3 = pc') (hY : pw_Y y M' nA) (w1 : (M.1, ix, y) ∈ pw_nest) (hn : As.length = nA) (hdd : d' + 1 ≤ d) (hst : (st.map fun v => v.category).sum ≤ 8) (hk : k + mc' = k') (hn2 : n + ms' = n') (hkc : k' ≤ mc ∧ n' ≤ ms) (hord : ∀ (i : Nat) (id : Nat), ord'[i]? = some id → ord[k + i]? = some id) (hlast : k = 0 ∨ ∃ c ∈ al, ord[k - 1]? = some c.1)
    (h : ∀ Q' : Option Value → pAL × pS → Prop, Q' none (al', σ') → PC y M' d' ord' mc' ms' (.ref b :: As) al σ Q') (hq : PW M d ord mc ms Q pc' lv st al' k' n' σ') : PW M d ord mc ms Q pc lv (As.reverse ++ .ref b :: st) al k n σ := by
  subst hk; subst hn2
  refine PW_callIN w2 hin0 hrt hd hp hY w1 hn hdd hst hkc hord hlast (h (fun r τ => r = none ∧ τ = (al', σ')) ⟨rfl, rfl⟩) (fun r al2 σ2 hz hnr => ?_)
  obtain ⟨rfl, e⟩ := hz
  cases e
  exact hq
theorem pw_ord (l : List Nat) (k m : Nat) : ∀ (i : Nat) (id : Nat), ((l.drop k).take m)[i]? = some id → l[k + i]? = some id := by
  intro i id h
  rw [List.getElem?_take] at h
  by_cases hi : i < m
  · rw [if_pos hi, List.getElem?_drop] at h; exact h
  · rw [if_neg hi] at h; cases h
/-- a row filled -/
def pw_fi (σ : pS) (a na : Nat) (v : Int32) : pS := pw_wA σ a (fun j => if j < na then v else σ.1 a j)
theorem fi_L (a na : Nat) (v : Int32) (hna : na < 1000) : ∀ (m i : Nat) (n : Nat) (σ : zS), i + m = na → m < n → f_J7_fill_53178_5 a na n v (nI i) (nI na) σ = some (wA σ a (fun j => if i ≤ j ∧ j < na then v else σ.1 a j)) := by
  intro m
  induction m with
  | zero =>
    intro i n σ hi hn
    obtain ⟨n, rfl⟩ : ∃ k, n = k + 1 := ⟨n - 1, by omega⟩
    rw [f_J7_fill_53178_5, if_pos (nI_le (by omega) (by omega))]
    congr 1
    refine Prod.ext ?_ rfl
    funext c j
    by_cases hc : c = a
    · subst hc; simp [wA]; intro h1 h2; omega
    · simp [wA, hc]
  | succ m ih =>
    intro i n σ hi hn
    obtain ⟨n, rfl⟩ : ∃ k, n = k + 1 := ⟨n - 1, by omega⟩
    rw [f_J7_fill_53178_5, if_neg (nI_ge (by omega) (by omega))]
    have hok : okI (nI i) na = true := by
      simp only [okI, Bool.and_eq_true, Bool.not_eq_true', decide_eq_false_iff_not, decide_eq_true_eq]
      exact ⟨nI_pos (by omega), by rw [nI_clamp (by omega)]; omega⟩
    have ew : wrI σ a na (nI i) v = some (wI σ a i v) := by unfold wrI; rw [if_pos hok, nI_clamp (by omega)]
    rw [ew]
    show f_J7_fill_53178_5 a na n v (nI i + 1) (nI na) (wI σ a i v) = _
    rw [nI_1, ih (i + 1) n (wI σ a i v) (by omega) (by omega)]
    congr 1
    refine Prod.ext ?_ rfl
    funext c j
    by_cases hc : c = a
    · subst hc
      simp only [wA, wI, if_true]
      by_cases h1 : i + 1 ≤ j ∧ j < na
      · rw [if_pos h1, if_pos (by omega)]
      · rw [if_neg h1]
        by_cases h2 : j = i
        · subst h2; rw [if_pos ⟨trivial, rfl⟩, if_pos (by omega)]
        · rw [if_neg (fun z => h2 z.2), if_neg (by omega)]
    · simp [wA, wI, hc]
theorem fi_eq (a na : Nat) (v : Int32) (hna : na < 1000) (σ : zS) : f_J7_fill_53178 a na v σ = some (wA σ a (fun j => if j < na then v else σ.1 a j)) := by
  unfold f_J7_fill_53178 lt
  have h := fi_L a na v hna na 0 FU σ (by omega) (by unfold FU; omega)
  rw [nI_0] at h
  show f_J7_fill_53178_5 a na FU v 0 (nI na) σ = _
  rw [h]
  simp
theorem KW_fill {M : pM} {d : Nat} {ord : List Nat} {mc ms : Nat} {Q : Option Value → pAL × pS → Prop} {pc pc' : Nat} {lv : List (Nat × Value)} {al : pAL} {k n : Nat} {σ : pS} {a na ix : Nat} {v : Int32} (hd : decode M.2.1 pc = .ok (.invokestatic ix, 3)) (hp : pc + 3 = pc') (w2 : Cond.static yJ7_fill_53178 ∈ pw_tb) (hY : pw_Y yJ7_fill_53178 mJ7_fill_53178 2) (w1 : Cond.methodLink M.1 ix yJ7_fill_53178 ∈ pw_tb) (hin : (a, 13, na) ∈ al) (hna : na < 1000) (hdd : 0 + 1 ≤ d) (hkc : k ≤ mc ∧ n ≤ ms) (h : PW M d ord mc ms Q pc' lv [] al k n (pw_fi σ a na v)) : PW M d ord mc ms Q pc lv [.int v, .ref a] al k n σ := by
  refine PW_callSF (y := yJ7_fill_53178) (M' := mJ7_fill_53178) (d' := 0) (As := [.ref a, .int v]) (st := []) (al1 := [(a, 13, na)]) (σ1 := em (σ.1, σ.2.1, fun _ => false)) w2 (fun c hc => by rw [List.mem_singleton.mp hc]; exact hin) (by simp) (fun c hc => by
    rw [List.mem_singleton.mp hc]; exact ⟨fun z => absurd z (Nat.lt_irrefl 13), fun _ j _ => ⟨rfl, rfl⟩⟩) hd hp hY w1 rfl hdd (by decide) hkc (Q' := zQ [(a, 13, na)] (fun r s => r = none ∧ s = wA (σ.1, σ.2.1, fun _ => false) a (fun j => if j < na then v else σ.1 a j))) (fun r al' σ' hz => by obtain ⟨s9, e9, -⟩ := hz; cases e9; rfl) (t_J7_fill_53178 [(a, 13, na)] a na v (by simp) (σ.1, σ.2.1, fun _ => false) _ ⟨_, fi_eq a na v hna _, rfl, rfl⟩) (fun r σ' hz hnr => ?_)
  obtain ⟨s9, e9, rfl, rfl⟩ := hz
  cases e9
  refine PW_cong ?_ h
  refine pw_eq_all (fun i j => ?_) (fun i j => ?_) (fun i j => ?_)
  · by_cases z : i = a
    · subst z; simp [pw_mg, pw_has, pw_fi, pw_wA, em, wA]
    · simp [pw_mg, pw_has, pw_fi, pw_wA, z, Ne.symm z]
  · by_cases z : i = a
    · subst z; simp [pw_mg, pw_has, pw_fi, pw_wA, em, wA]
    · simp [pw_mg, pw_has, pw_fi, pw_wA, Ne.symm z]
  · simp [pw_mg, pw_hasO, pw_fi, pw_wA]
theorem tg_X7_letterBits (al : pAL) (x0 : Int32) (x1 : Int32) (σ : zS) (Q : Option Value → zS → Prop) (h : Q (some (.int (f_X7_letterBits x0 x1 σ))) σ) : PK al yX7_letterBits mX7_letterBits (0) [.int x0, .int x1] σ Q := by
  refine PC_ofF (by decide +kernel) rfl rfl (Nat.le_of_ble_eq_true rfl) ?_
  show PZ al mX7_letterBits (0) Q 0 [(0, .int x0), (1, .int x1)] [] σ
  unfold f_X7_letterBits at h
  refine PW_iload_n (pc' := 1) (q := 0) (pw_dk dc_X7_letterBits 0 rfl) rfl rfl rfl ?_
  refine PW_bipush (pc' := 3) (v := 97) (pw_dk dc_X7_letterBits 1 rfl) rfl (by decide) ?_
  refine PW_isub (pc' := 4) (pw_dk dc_X7_letterBits 2 rfl) rfl ?_
  refine PW_iconst (pc' := 5) (v := 1) (pw_dk dc_X7_letterBits 3 rfl) rfl (by decide) ?_
  refine PW_iadd (pc' := 6) (pw_dk dc_X7_letterBits 4 rfl) rfl ?_
  refine PW_iconst (pc' := 7) (v := 5) (pw_dk dc_X7_letterBits 5 rfl) rfl (by decide) ?_
  refine PW_iconst (pc' := 8) (v := 5) (pw_dk dc_X7_letterBits 6 rfl) rfl (by decide) ?_
  refine PW_iload_n (pc' := 9) (q := 1) (pw_dk dc_X7_letterBits 7 rfl) rfl rfl rfl ?_
  refine PW_isub (pc' := 10) (pw_dk dc_X7_letterBits 8 rfl) rfl ?_
  refine PW_imul (pc' := 11) (pw_dk dc_X7_letterBits 9 rfl) rfl ?_
  refine PW_ishl (pc' := 12) (pw_dk dc_X7_letterBits 10 rfl) rfl ?_
  exact PZ_iret (ty := .int) (pw_dk dc_X7_letterBits 11 rfl) rfl rfl h
def g_X2_init_1300 (σ : pS) : pS := pw_wR (pw_nw (pw_wR (pw_nw (pw_wR (pw_nw (pw_wR (pw_wI (pw_wI (pw_wI (pw_nw (pw_wR (pw_nw (pw_wR (pw_nw (pw_wI (pw_wI (σ) 1300 0 0) 1300 1 0) 1303) 1300 2 1303) 1304) 1300 3 1304) 1305) 1305 (Int32.toNatClampNeg 0) (-1 : Int32)) 1305 (Int32.toNatClampNeg 1) (-1 : Int32)) 1305 (Int32.toNatClampNeg 2) (-1 : Int32)) 1300 4 1305) 1306) 1300 5 1306) 1307) 1300 6 1307) 1308) 1300 7 1308
theorem k_X2_init_1300 (σ : pS) (Q : Option Value → pAL × pS → Prop) (h : Q none (aC 21, g_X2_init_1300 σ)) : PC yX2_init mX2_init 2 [1303, 1304, 1305, 1306, 1307, 1308] 6 205 [.ref 1300] (aC 15) σ Q := by
  refine PC_ofF (by decide +kernel) rfl rfl (Nat.le_of_ble_eq_true rfl) ?_
  show PW mX2_init 2 [1303, 1304, 1305, 1306, 1307, 1308] 6 205 Q 0 [(0, .ref 1300)] [] (aC 15) 0 0 σ
  refine PW_aload_n (pc' := 1) (q := 0) (pw_dk dc_X2_init 0 rfl) rfl rfl rfl ?_
  refine PW_obj (pc' := 4) (b := 1300) (st := []) (pw_dk dc_X2_init 1 rfl) rfl tw_165 tw_152 tw_153 (by decide) (by decide) ?_
  refine PW_aload_n (pc' := 5) (q := 0) (pw_dk dc_X2_init 2 rfl) rfl rfl rfl ?_
  refine PW_iconst (pc' := 6) (v := 0) (pw_dk dc_X2_init 3 rfl) rfl (by decide) ?_
  refine PW_putI (pc' := 9) (id := 1300) (ci := 2) (nn := 0) (T := TX2) (N := 8) (j := 0) (ty := tyX2 0) (pw_dk dc_X2_init 4 rfl) rfl (List.mem_of_getElem? (i := 14) rfl) rfl pi_2 tyX2_ok nmX2 (by decide) fk_2_0 tw_166 rfl (tyX2_ok 0 (by decide)) (fun _ => rfl) (fun _ => rfl) ?_
  refine PW_aload_n (pc' := 10) (q := 0) (pw_dk dc_X2_init 5 rfl) rfl rfl rfl ?_
  refine PW_iconst (pc' := 11) (v := 0) (pw_dk dc_X2_init 6 rfl) rfl (by decide) ?_
  refine PW_putI (pc' := 14) (id := 1300) (ci := 2) (nn := 0) (T := TX2) (N := 8) (j := 1) (ty := tyX2 1) (pw_dk dc_X2_init 7 rfl) rfl (List.mem_of_getElem? (i := 14) rfl) rfl pi_2 tyX2_ok nmX2 (by decide) fk_2_1 tw_169 rfl (tyX2_ok 1 (by decide)) (fun _ => rfl) (fun _ => rfl) ?_
  refine PW_aload_n (pc' := 15) (q := 0) (pw_dk dc_X2_init 8 rfl) rfl rfl rfl ?_
  refine PW_bipush (pc' := 17) (v := 64) (pw_dk dc_X2_init 9 rfl) rfl (by decide) ?_
  refine KW_newaI (pc' := 19) (id := 1303) (N0 := 64) (k' := 1) (n' := 64) (al' := aC 16) (pw_dk dc_X2_init 10 rfl) rfl tw_194 (by decide) (by decide) (by decide) rfl rfl (by decide) (by decide) rfl (Or.inl rfl) rfl ?_
  refine PW_putFR (pc' := 22) (id := 1300) (ci := 2) (nn := 0) (T := TX2) (N := 8) (j := 2) (ty := tyX2 2) (pw_dk dc_X2_init 11 rfl) rfl (List.mem_of_getElem? (i := 14) rfl) rfl pi_2 tyX2_ok nmX2 (by decide) fk_2_2 tw_170 (by decide) rfl rfl (tyX2_ok 2 (by decide)) (fun _ => rfl) (fun _ => rfl) rfl ?_
  refine PW_aload_n (pc' := 23) (q := 0) (pw_dk dc_X2_init 12 rfl) rfl rfl rfl ?_
  refine PW_bipush (pc' := 25) (v := 64) (pw_dk dc_X2_init 13 rfl) rfl (by decide) ?_
  refine KW_newaI (pc' := 27) (id := 1304) (N0 := 64) (k' := 2) (n' := 128) (al' := aC 17) (pw_dk dc_X2_init 14 rfl) rfl tw_194 (by decide) (by decide) (by decide) rfl rfl (by decide) (by decide) rfl (Or.inr ⟨(1303, 13, 64), List.mem_of_getElem? (i := 15) rfl, rfl⟩) rfl ?_
  refine PW_putFR (pc' := 30) (id := 1300) (ci := 2) (nn := 0) (T := TX2) (N := 8) (j := 3) (ty := tyX2 3) (pw_dk dc_X2_init 15 rfl) rfl (List.mem_of_getElem? (i := 14) rfl) rfl pi_2 tyX2_ok nmX2 (by decide) fk_2_3 tw_171 (by decide) rfl rfl (tyX2_ok 3 (by decide)) (fun _ => rfl) (fun _ => rfl) rfl ?_
  refine PW_aload_n (pc' := 31) (q := 0) (pw_dk dc_X2_init 16 rfl) rfl rfl rfl ?_
  refine PW_iconst (pc' := 32) (v := 3) (pw_dk dc_X2_init 17 rfl) rfl (by decide) ?_
  refine KW_newaI (pc' := 34) (id := 1305) (N0 := 3) (k' := 3) (n' := 131) (al' := aC 18) (pw_dk dc_X2_init 18 rfl) rfl tw_194 (by decide) (by decide) (by decide) rfl rfl (by decide) (by decide) rfl (Or.inr ⟨(1304, 13, 64), List.mem_of_getElem? (i := 16) rfl, rfl⟩) rfl ?_
  refine PW_dup (pc' := 35) (pw_dk dc_X2_init 19 rfl) rfl rfl ?_
  refine PW_iconst (pc' := 36) (v := 0) (pw_dk dc_X2_init 20 rfl) rfl (by decide) ?_
  refine PW_iconst (pc' := 37) (v := (-1 : Int32)) (pw_dk dc_X2_init 21 rfl) rfl (by decide) ?_
  refine PW_iast (pc' := 38) (id := 1305) (nn := 3) (pw_dk dc_X2_init 22 rfl) rfl (List.mem_of_getElem? (i := 17) rfl) (okI_in (by decide)) ?_
  refine PW_dup (pc' := 39) (pw_dk dc_X2_init 23 rfl) rfl rfl ?_
  refine PW_iconst (pc' := 40) (v := 1) (pw_dk dc_X2_init 24 rfl) rfl (by decide) ?_
  refine PW_iconst (pc' := 41) (v := (-1 : Int32)) (pw_dk dc_X2_init 25 rfl) rfl (by decide) ?_
  refine PW_iast (pc' := 42) (id := 1305) (nn := 3) (pw_dk dc_X2_init 26 rfl) rfl (List.mem_of_getElem? (i := 17) rfl) (okI_in (by decide)) ?_
  refine PW_dup (pc' := 43) (pw_dk dc_X2_init 27 rfl) rfl rfl ?_
  refine PW_iconst (pc' := 44) (v := 2) (pw_dk dc_X2_init 28 rfl) rfl (by decide) ?_
  refine PW_iconst (pc' := 45) (v := (-1 : Int32)) (pw_dk dc_X2_init 29 rfl) rfl (by decide) ?_
  refine PW_iast (pc' := 46) (id := 1305) (nn := 3) (pw_dk dc_X2_init 30 rfl) rfl (List.mem_of_getElem? (i := 17) rfl) (okI_in (by decide)) ?_
  refine PW_putFR (pc' := 49) (id := 1300) (ci := 2) (nn := 0) (T := TX2) (N := 8) (j := 4) (ty := tyX2 4) (pw_dk dc_X2_init 31 rfl) rfl (List.mem_of_getElem? (i := 14) rfl) rfl pi_2 tyX2_ok nmX2 (by decide) fk_2_4 tw_172 (by decide) rfl rfl (tyX2_ok 4 (by decide)) (fun _ => rfl) (fun _ => rfl) rfl ?_
  refine PW_aload_n (pc' := 50) (q := 0) (pw_dk dc_X2_init 32 rfl) rfl rfl rfl ?_
  refine PW_iconst (pc' := 51) (v := 3) (pw_dk dc_X2_init 33 rfl) rfl (by decide) ?_
  refine KW_newaI (pc' := 53) (id := 1306) (N0 := 3) (k' := 4) (n' := 134) (al' := aC 19) (pw_dk dc_X2_init 34 rfl) rfl tw_194 (by decide) (by decide) (by decide) rfl rfl (by decide) (by decide) rfl (Or.inr ⟨(1305, 13, 3), List.mem_of_getElem? (i := 17) rfl, rfl⟩) rfl ?_
  refine PW_putFR (pc' := 56) (id := 1300) (ci := 2) (nn := 0) (T := TX2) (N := 8) (j := 5) (ty := tyX2 5) (pw_dk dc_X2_init 35 rfl) rfl (List.mem_of_getElem? (i := 14) rfl) rfl pi_2 tyX2_ok nmX2 (by decide) fk_2_5 tw_173 (by decide) rfl rfl (tyX2_ok 5 (by decide)) (fun _ => rfl) (fun _ => rfl) rfl ?_
  refine PW_aload_n (pc' := 57) (q := 0) (pw_dk dc_X2_init 36 rfl) rfl rfl rfl ?_
  refine PW_bipush (pc' := 59) (v := 64) (pw_dk dc_X2_init 37 rfl) rfl (by decide) ?_
  refine KW_newaJ (pc' := 61) (id := 1307) (N0 := 64) (k' := 5) (n' := 198) (al' := aC 20) (pw_dk dc_X2_init 38 rfl) rfl tw_195 (by decide) (by decide) (by decide) rfl rfl (by decide) (by decide) rfl (Or.inr ⟨(1306, 13, 3), List.mem_of_getElem? (i := 18) rfl, rfl⟩) rfl ?_
  refine PW_putFR (pc' := 64) (id := 1300) (ci := 2) (nn := 0) (T := TX2) (N := 8) (j := 6) (ty := tyX2 6) (pw_dk dc_X2_init 39 rfl) rfl (List.mem_of_getElem? (i := 14) rfl) rfl pi_2 tyX2_ok nmX2 (by decide) fk_2_6 tw_174 (by decide) rfl rfl (tyX2_ok 6 (by decide)) (fun _ => rfl) (fun _ => rfl) rfl ?_
  refine PW_aload_n (pc' := 65) (q := 0) (pw_dk dc_X2_init 40 rfl) rfl rfl rfl ?_
  refine PW_bipush (pc' := 67) (v := 7) (pw_dk dc_X2_init 41 rfl) rfl (by decide) ?_
  refine KW_newaI (pc' := 69) (id := 1308) (N0 := 7) (k' := 6) (n' := 205) (al' := aC 21) (pw_dk dc_X2_init 42 rfl) rfl tw_194 (by decide) (by decide) (by decide) rfl rfl (by decide) (by decide) rfl (Or.inr ⟨(1307, 14, 64), List.mem_of_getElem? (i := 19) rfl, rfl⟩) rfl ?_
  refine PW_putFR (pc' := 72) (id := 1300) (ci := 2) (nn := 0) (T := TX2) (N := 8) (j := 7) (ty := tyX2 7) (pw_dk dc_X2_init 43 rfl) rfl (List.mem_of_getElem? (i := 14) rfl) rfl pi_2 tyX2_ok nmX2 (by decide) fk_2_7 tw_175 (by decide) rfl rfl (tyX2_ok 7 (by decide)) (fun _ => rfl) (fun _ => rfl) rfl ?_
  exact PW_vret (pw_dk dc_X2_init 44 rfl) rfl h
def g_X8_init_300 (σ : pS) : pS := pw_fi (pw_wR (g_X2_init_1300 (pw_nw (pw_wI (pw_wR (pw_nw (pw_wR (pw_nw (pw_wR (pw_nw (pw_wR (pw_nw (pw_wI (pw_wR (pw_nw (pw_wR (pw_nw (pw_wR (pw_nw (pw_wR (pw_nw (pw_wI (pw_wI (pw_wR (pw_nw (pw_wR (pw_nw (pw_wR (pw_nw (pw_wI (pw_wI (σ) 300 0 8) 300 1 0) 303) 300 2 303) 304) 300 3 304) 305) 300 4 305) 300 5 0) 300 6 0) 308) 300 7 308) 309) 300 8 309) 310) 300 9 310) 311) 300 10 311) 300 11 0) 313) 300 12 313) 314) 300 13 314) 315) 300 14 315) 316) 300 15 316) 300 16 5) 1300)) 300 17 1300) 304 12 9
theorem k_X8_init_300 (σ : pS) (Q : Option Value → pAL × pS → Prop) (h : Q none (aC 21, g_X8_init_300 σ)) : PC yX8_init mX8_init 3 [303, 304, 305, 308, 309, 310, 311, 313, 314, 315, 316, 1300, 1303, 1304, 1305, 1306, 1307, 1308] 18 303 [.ref 300] (aC 3) σ Q := by
  refine PC_ofF (by decide +kernel) rfl rfl (Nat.le_of_ble_eq_true rfl) ?_
  show PW mX8_init 3 [303, 304, 305, 308, 309, 310, 311, 313, 314, 315, 316, 1300, 1303, 1304, 1305, 1306, 1307, 1308] 18 303 Q 0 [(0, .ref 300)] [] (aC 3) 0 0 σ
  refine PW_aload_n (pc' := 1) (q := 0) (pw_dk dc_X8_init 0 rfl) rfl rfl rfl ?_
  refine PW_obj (pc' := 4) (b := 300) (st := []) (pw_dk dc_X8_init 1 rfl) rfl tw_159 tw_152 tw_153 (by decide) (by decide) ?_
  refine PW_aload_n (pc' := 5) (q := 0) (pw_dk dc_X8_init 2 rfl) rfl rfl rfl ?_
  refine PW_bipush (pc' := 7) (v := 8) (pw_dk dc_X8_init 3 rfl) rfl (by decide) ?_
  refine PW_putI (pc' := 10) (id := 300) (ci := 8) (nn := 0) (T := TX8) (N := 18) (j := 0) (ty := tyX8 0) (pw_dk dc_X8_init 4 rfl) rfl (List.mem_of_getElem? (i := 2) rfl) rfl pi_8 tyX8_ok nmX8 (by decide) fk_8_0 tw_199 rfl (tyX8_ok 0 (by decide)) (fun _ => rfl) (fun _ => rfl) ?_
  refine PW_aload_n (pc' := 11) (q := 0) (pw_dk dc_X8_init 5 rfl) rfl rfl rfl ?_
  refine PW_iconst (pc' := 12) (v := 0) (pw_dk dc_X8_init 6 rfl) rfl (by decide) ?_
  refine PW_putI (pc' := 15) (id := 300) (ci := 8) (nn := 0) (T := TX8) (N := 18) (j := 1) (ty := tyX8 1) (pw_dk dc_X8_init 7 rfl) rfl (List.mem_of_getElem? (i := 2) rfl) rfl pi_8 tyX8_ok nmX8 (by decide) fk_8_1 tw_203 rfl (tyX8_ok 1 (by decide)) (fun _ => rfl) (fun _ => rfl) ?_
  refine PW_aload_n (pc' := 16) (q := 0) (pw_dk dc_X8_init 8 rfl) rfl rfl rfl ?_
  refine PW_iconst (pc' := 17) (v := 5) (pw_dk dc_X8_init 9 rfl) rfl (by decide) ?_
  refine KW_newaI (pc' := 19) (id := 303) (N0 := 5) (k' := 1) (n' := 5) (al' := aC 4) (pw_dk dc_X8_init 10 rfl) rfl tw_194 (by decide) (by decide) (by decide) rfl rfl (by decide) (by decide) rfl (Or.inl rfl) rfl ?_
  refine PW_putFR (pc' := 22) (id := 300) (ci := 8) (nn := 0) (T := TX8) (N := 18) (j := 2) (ty := tyX8 2) (pw_dk dc_X8_init 11 rfl) rfl (List.mem_of_getElem? (i := 2) rfl) rfl pi_8 tyX8_ok nmX8 (by decide) fk_8_2 tw_206 (by decide) rfl rfl (tyX8_ok 2 (by decide)) (fun _ => rfl) (fun _ => rfl) rfl ?_
  refine PW_aload_n (pc' := 23) (q := 0) (pw_dk dc_X8_init 12 rfl) rfl rfl rfl ?_
  refine PW_bipush (pc' := 25) (v := 12) (pw_dk dc_X8_init 13 rfl) rfl (by decide) ?_
  refine KW_newaI (pc' := 27) (id := 304) (N0 := 12) (k' := 2) (n' := 17) (al' := aC 5) (pw_dk dc_X8_init 14 rfl) rfl tw_194 (by decide) (by decide) (by decide) rfl rfl (by decide) (by decide) rfl (Or.inr ⟨(303, 13, 5), List.mem_of_getElem? (i := 3) rfl, rfl⟩) rfl ?_
  refine PW_putFR (pc' := 30) (id := 300) (ci := 8) (nn := 0) (T := TX8) (N := 18) (j := 3) (ty := tyX8 3) (pw_dk dc_X8_init 15 rfl) rfl (List.mem_of_getElem? (i := 2) rfl) rfl pi_8 tyX8_ok nmX8 (by decide) fk_8_3 tw_207 (by decide) rfl rfl (tyX8_ok 3 (by decide)) (fun _ => rfl) (fun _ => rfl) rfl ?_
  refine PW_aload_n (pc' := 31) (q := 0) (pw_dk dc_X8_init 16 rfl) rfl rfl rfl ?_
  refine PW_iconst (pc' := 32) (v := 5) (pw_dk dc_X8_init 17 rfl) rfl (by decide) ?_
  refine KW_newaI (pc' := 34) (id := 305) (N0 := 5) (k' := 3) (n' := 22) (al' := aC 6) (pw_dk dc_X8_init 18 rfl) rfl tw_194 (by decide) (by decide) (by decide) rfl rfl (by decide) (by decide) rfl (Or.inr ⟨(304, 13, 12), List.mem_of_getElem? (i := 4) rfl, rfl⟩) rfl ?_
  refine PW_putFR (pc' := 37) (id := 300) (ci := 8) (nn := 0) (T := TX8) (N := 18) (j := 4) (ty := tyX8 4) (pw_dk dc_X8_init 19 rfl) rfl (List.mem_of_getElem? (i := 2) rfl) rfl pi_8 tyX8_ok nmX8 (by decide) fk_8_4 tw_209 (by decide) rfl rfl (tyX8_ok 4 (by decide)) (fun _ => rfl) (fun _ => rfl) rfl ?_
  refine PW_aload_n (pc' := 38) (q := 0) (pw_dk dc_X8_init 20 rfl) rfl rfl rfl ?_
  refine PW_iconst (pc' := 39) (v := 0) (pw_dk dc_X8_init 21 rfl) rfl (by decide) ?_
  refine PW_putI (pc' := 42) (id := 300) (ci := 8) (nn := 0) (T := TX8) (N := 18) (j := 5) (ty := tyX8 5) (pw_dk dc_X8_init 22 rfl) rfl (List.mem_of_getElem? (i := 2) rfl) rfl pi_8 tyX8_ok nmX8 (by decide) fk_8_5 tw_212 rfl (tyX8_ok 5 (by decide)) (fun _ => rfl) (fun _ => rfl) ?_
  refine PW_aload_n (pc' := 43) (q := 0) (pw_dk dc_X8_init 23 rfl) rfl rfl rfl ?_
  refine PW_iconst (pc' := 44) (v := 0) (pw_dk dc_X8_init 24 rfl) rfl (by decide) ?_
  refine PW_putI (pc' := 47) (id := 300) (ci := 8) (nn := 0) (T := TX8) (N := 18) (j := 6) (ty := tyX8 6) (pw_dk dc_X8_init 25 rfl) rfl (List.mem_of_getElem? (i := 2) rfl) rfl pi_8 tyX8_ok nmX8 (by decide) fk_8_6 tw_215 rfl (tyX8_ok 6 (by decide)) (fun _ => rfl) (fun _ => rfl) ?_
  refine PW_aload_n (pc' := 48) (q := 0) (pw_dk dc_X8_init 26 rfl) rfl rfl rfl ?_
  refine PW_iconst (pc' := 49) (v := 5) (pw_dk dc_X8_init 27 rfl) rfl (by decide) ?_
  refine KW_newaI (pc' := 51) (id := 308) (N0 := 5) (k' := 4) (n' := 27) (al' := aC 7) (pw_dk dc_X8_init 28 rfl) rfl tw_194 (by decide) (by decide) (by decide) rfl rfl (by decide) (by decide) rfl (Or.inr ⟨(305, 13, 5), List.mem_of_getElem? (i := 5) rfl, rfl⟩) rfl ?_
  refine PW_putFR (pc' := 54) (id := 300) (ci := 8) (nn := 0) (T := TX8) (N := 18) (j := 7) (ty := tyX8 7) (pw_dk dc_X8_init 29 rfl) rfl (List.mem_of_getElem? (i := 2) rfl) rfl pi_8 tyX8_ok nmX8 (by decide) fk_8_7 tw_219 (by decide) rfl rfl (tyX8_ok 7 (by decide)) (fun _ => rfl) (fun _ => rfl) rfl ?_
  refine PW_aload_n (pc' := 55) (q := 0) (pw_dk dc_X8_init 30 rfl) rfl rfl rfl ?_
  refine PW_iconst (pc' := 56) (v := 5) (pw_dk dc_X8_init 31 rfl) rfl (by decide) ?_
  refine KW_newaI (pc' := 58) (id := 309) (N0 := 5) (k' := 5) (n' := 32) (al' := aC 8) (pw_dk dc_X8_init 32 rfl) rfl tw_194 (by decide) (by decide) (by decide) rfl rfl (by decide) (by decide) rfl (Or.inr ⟨(308, 13, 5), List.mem_of_getElem? (i := 6) rfl, rfl⟩) rfl ?_
  refine PW_putFR (pc' := 61) (id := 300) (ci := 8) (nn := 0) (T := TX8) (N := 18) (j := 8) (ty := tyX8 8) (pw_dk dc_X8_init 33 rfl) rfl (List.mem_of_getElem? (i := 2) rfl) rfl pi_8 tyX8_ok nmX8 (by decide) fk_8_8 tw_220 (by decide) rfl rfl (tyX8_ok 8 (by decide)) (fun _ => rfl) (fun _ => rfl) rfl ?_
  refine PW_aload_n (pc' := 62) (q := 0) (pw_dk dc_X8_init 34 rfl) rfl rfl rfl ?_
  refine PW_iconst (pc' := 63) (v := 5) (pw_dk dc_X8_init 35 rfl) rfl (by decide) ?_
  refine KW_newaI (pc' := 65) (id := 310) (N0 := 5) (k' := 6) (n' := 37) (al' := aC 9) (pw_dk dc_X8_init 36 rfl) rfl tw_194 (by decide) (by decide) (by decide) rfl rfl (by decide) (by decide) rfl (Or.inr ⟨(309, 13, 5), List.mem_of_getElem? (i := 7) rfl, rfl⟩) rfl ?_
  refine PW_putFR (pc' := 68) (id := 300) (ci := 8) (nn := 0) (T := TX8) (N := 18) (j := 9) (ty := tyX8 9) (pw_dk dc_X8_init 37 rfl) rfl (List.mem_of_getElem? (i := 2) rfl) rfl pi_8 tyX8_ok nmX8 (by decide) fk_8_9 tw_223 (by decide) rfl rfl (tyX8_ok 9 (by decide)) (fun _ => rfl) (fun _ => rfl) rfl ?_
  refine PW_aload_n (pc' := 69) (q := 0) (pw_dk dc_X8_init 38 rfl) rfl rfl rfl ?_
  refine PW_iconst (pc' := 70) (v := 5) (pw_dk dc_X8_init 39 rfl) rfl (by decide) ?_
  refine KW_newaI (pc' := 72) (id := 311) (N0 := 5) (k' := 7) (n' := 42) (al' := aC 10) (pw_dk dc_X8_init 40 rfl) rfl tw_194 (by decide) (by decide) (by decide) rfl rfl (by decide) (by decide) rfl (Or.inr ⟨(310, 13, 5), List.mem_of_getElem? (i := 8) rfl, rfl⟩) rfl ?_
  refine PW_putFR (pc' := 75) (id := 300) (ci := 8) (nn := 0) (T := TX8) (N := 18) (j := 10) (ty := tyX8 10) (pw_dk dc_X8_init 41 rfl) rfl (List.mem_of_getElem? (i := 2) rfl) rfl pi_8 tyX8_ok nmX8 (by decide) fk_8_10 tw_226 (by decide) rfl rfl (tyX8_ok 10 (by decide)) (fun _ => rfl) (fun _ => rfl) rfl ?_
  refine PW_aload_n (pc' := 76) (q := 0) (pw_dk dc_X8_init 42 rfl) rfl rfl rfl ?_
  refine PW_iconst (pc' := 77) (v := 0) (pw_dk dc_X8_init 43 rfl) rfl (by decide) ?_
  refine PW_putI (pc' := 80) (id := 300) (ci := 8) (nn := 0) (T := TX8) (N := 18) (j := 11) (ty := tyX8 11) (pw_dk dc_X8_init 44 rfl) rfl (List.mem_of_getElem? (i := 2) rfl) rfl pi_8 tyX8_ok nmX8 (by decide) fk_8_11 tw_228 rfl (tyX8_ok 11 (by decide)) (fun _ => rfl) (fun _ => rfl) ?_
  refine PW_aload_n (pc' := 81) (q := 0) (pw_dk dc_X8_init 45 rfl) rfl rfl rfl ?_
  refine PW_bipush (pc' := 83) (v := 12) (pw_dk dc_X8_init 46 rfl) rfl (by decide) ?_
  refine KW_newaI (pc' := 85) (id := 313) (N0 := 12) (k' := 8) (n' := 54) (al' := aC 11) (pw_dk dc_X8_init 47 rfl) rfl tw_194 (by decide) (by decide) (by decide) rfl rfl (by decide) (by decide) rfl (Or.inr ⟨(311, 13, 5), List.mem_of_getElem? (i := 9) rfl, rfl⟩) rfl ?_
  refine PW_putFR (pc' := 88) (id := 300) (ci := 8) (nn := 0) (T := TX8) (N := 18) (j := 12) (ty := tyX8 12) (pw_dk dc_X8_init 48 rfl) rfl (List.mem_of_getElem? (i := 2) rfl) rfl pi_8 tyX8_ok nmX8 (by decide) fk_8_12 tw_232 (by decide) rfl rfl (tyX8_ok 12 (by decide)) (fun _ => rfl) (fun _ => rfl) rfl ?_
  refine PW_aload_n (pc' := 89) (q := 0) (pw_dk dc_X8_init 49 rfl) rfl rfl rfl ?_
  refine PW_bipush (pc' := 91) (v := 12) (pw_dk dc_X8_init 50 rfl) rfl (by decide) ?_
  refine KW_newaI (pc' := 93) (id := 314) (N0 := 12) (k' := 9) (n' := 66) (al' := aC 12) (pw_dk dc_X8_init 51 rfl) rfl tw_194 (by decide) (by decide) (by decide) rfl rfl (by decide) (by decide) rfl (Or.inr ⟨(313, 13, 12), List.mem_of_getElem? (i := 10) rfl, rfl⟩) rfl ?_
  refine PW_putFR (pc' := 96) (id := 300) (ci := 8) (nn := 0) (T := TX8) (N := 18) (j := 13) (ty := tyX8 13) (pw_dk dc_X8_init 52 rfl) rfl (List.mem_of_getElem? (i := 2) rfl) rfl pi_8 tyX8_ok nmX8 (by decide) fk_8_13 tw_235 (by decide) rfl rfl (tyX8_ok 13 (by decide)) (fun _ => rfl) (fun _ => rfl) rfl ?_
  refine PW_aload_n (pc' := 97) (q := 0) (pw_dk dc_X8_init 53 rfl) rfl rfl rfl ?_
  refine PW_bipush (pc' := 99) (v := 12) (pw_dk dc_X8_init 54 rfl) rfl (by decide) ?_
  refine KW_newaI (pc' := 101) (id := 315) (N0 := 12) (k' := 10) (n' := 78) (al' := aC 13) (pw_dk dc_X8_init 55 rfl) rfl tw_194 (by decide) (by decide) (by decide) rfl rfl (by decide) (by decide) rfl (Or.inr ⟨(314, 13, 12), List.mem_of_getElem? (i := 11) rfl, rfl⟩) rfl ?_
  refine PW_putFR (pc' := 104) (id := 300) (ci := 8) (nn := 0) (T := TX8) (N := 18) (j := 14) (ty := tyX8 14) (pw_dk dc_X8_init 56 rfl) rfl (List.mem_of_getElem? (i := 2) rfl) rfl pi_8 tyX8_ok nmX8 (by decide) fk_8_14 tw_238 (by decide) rfl rfl (tyX8_ok 14 (by decide)) (fun _ => rfl) (fun _ => rfl) rfl ?_
  refine PW_aload_n (pc' := 105) (q := 0) (pw_dk dc_X8_init 57 rfl) rfl rfl rfl ?_
  refine PW_bipush (pc' := 107) (v := 12) (pw_dk dc_X8_init 58 rfl) rfl (by decide) ?_
  refine KW_newaI (pc' := 109) (id := 316) (N0 := 12) (k' := 11) (n' := 90) (al' := aC 14) (pw_dk dc_X8_init 59 rfl) rfl tw_194 (by decide) (by decide) (by decide) rfl rfl (by decide) (by decide) rfl (Or.inr ⟨(315, 13, 12), List.mem_of_getElem? (i := 12) rfl, rfl⟩) rfl ?_
  refine PW_putFR (pc' := 112) (id := 300) (ci := 8) (nn := 0) (T := TX8) (N := 18) (j := 15) (ty := tyX8 15) (pw_dk dc_X8_init 60 rfl) rfl (List.mem_of_getElem? (i := 2) rfl) rfl pi_8 tyX8_ok nmX8 (by decide) fk_8_15 tw_241 (by decide) rfl rfl (tyX8_ok 15 (by decide)) (fun _ => rfl) (fun _ => rfl) rfl ?_
  refine PW_aload_n (pc' := 113) (q := 0) (pw_dk dc_X8_init 61 rfl) rfl rfl rfl ?_
  refine PW_iconst (pc' := 114) (v := 5) (pw_dk dc_X8_init 62 rfl) rfl (by decide) ?_
  refine PW_putI (pc' := 117) (id := 300) (ci := 8) (nn := 0) (T := TX8) (N := 18) (j := 16) (ty := tyX8 16) (pw_dk dc_X8_init 63 rfl) rfl (List.mem_of_getElem? (i := 2) rfl) rfl pi_8 tyX8_ok nmX8 (by decide) fk_8_16 tw_244 rfl (tyX8_ok 16 (by decide)) (fun _ => rfl) (fun _ => rfl) ?_
  refine PW_aload_n (pc' := 118) (q := 0) (pw_dk dc_X8_init 64 rfl) rfl rfl rfl ?_
  refine KW_new (pc' := 121) (id := 1300) (ci := 2) (k' := 12) (n' := 98) (al' := aC 15) (pw_dk dc_X8_init 65 rfl) rfl rfl pi_2 tyX2_ok tw_160 tw_161 tw_122 (by decide +kernel) rfl rfl (by decide) (by decide) rfl (Or.inr ⟨(316, 13, 12), List.mem_of_getElem? (i := 13) rfl, rfl⟩) rfl ?_
  refine PW_dup (pc' := 122) (pw_dk dc_X8_init 66 rfl) rfl rfl ?_
  refine KW_callIN (pc' := 125) (y := yX2_init) (M' := mX2_init) (d' := 2) (As := []) (st := [.ref 1300, .ref 300]) (b := 1300) (mc' := 6) (ms' := 205) (ord' := [1303, 1304, 1305, 1306, 1307, 1308]) (k' := 18) (n' := 303) (al' := aC 21) (σ' := g_X2_init_1300 (pw_nw (pw_wI (pw_wR (pw_nw (pw_wR (pw_nw (pw_wR (pw_nw (pw_wR (pw_nw (pw_wI (pw_wR (pw_nw (pw_wR (pw_nw (pw_wR (pw_nw (pw_wR (pw_nw (pw_wI (pw_wI (pw_wR (pw_nw (pw_wR (pw_nw (pw_wR (pw_nw (pw_wI (pw_wI (σ) 300 0 8) 300 1 0) 303) 300 2 303) 304) 300 3 304) 305) 300 4 305) 300 5 0) 300 6 0) 308) 300 7 308) 309) 300 8 309) 310) 300 9 310) 311) 300 10 311) 300 11 0) 313) 300 12 313) 314) 300 13 314) 315) 300 14 315) 316) 300 15 316) 300 16 5) 1300)) tw_163 rfl rfl (pw_dk dc_X8_init 67 rfl) rfl YI_X2_init (by decide +kernel) rfl (by decide) (by decide) rfl rfl ⟨by decide, by decide⟩ (pw_ord [303, 304, 305, 308, 309, 310, 311, 313, 314, 315, 316, 1300, 1303, 1304, 1305, 1306, 1307, 1308] 12 6) (Or.inr ⟨(1300, 2, 0), List.mem_of_getElem? (i := 14) rfl, rfl⟩) (fun Q' hq' => k_X2_init_1300 (pw_nw (pw_wI (pw_wR (pw_nw (pw_wR (pw_nw (pw_wR (pw_nw (pw_wR (pw_nw (pw_wI (pw_wR (pw_nw (pw_wR (pw_nw (pw_wR (pw_nw (pw_wR (pw_nw (pw_wI (pw_wI (pw_wR (pw_nw (pw_wR (pw_nw (pw_wR (pw_nw (pw_wI (pw_wI (σ) 300 0 8) 300 1 0) 303) 300 2 303) 304) 300 3 304) 305) 300 4 305) 300 5 0) 300 6 0) 308) 300 7 308) 309) 300 8 309) 310) 300 9 310) 311) 300 10 311) 300 11 0) 313) 300 12 313) 314) 300 13 314) 315) 300 14 315) 316) 300 15 316) 300 16 5) 1300) _ hq') ?_
  refine PW_putFR (pc' := 128) (id := 300) (ci := 8) (nn := 0) (T := TX8) (N := 18) (j := 17) (ty := tyX8 17) (pw_dk dc_X8_init 68 rfl) rfl (List.mem_of_getElem? (i := 2) rfl) rfl pi_8 tyX8_ok nmX8 (by decide) fk_8_17 tw_249 (by decide) rfl rfl (tyX8_ok 17 (by decide)) (fun _ => rfl) (fun _ => rfl) rfl ?_
  refine PW_aload_n (pc' := 129) (q := 0) (pw_dk dc_X8_init 69 rfl) rfl rfl rfl ?_
  refine PW_getR (pc' := 132) (id := 300) (ci := 8) (nn := 0) (T := TX8) (N := 18) (j := 3) (r := 304) (pw_dk dc_X8_init 70 rfl) rfl (List.mem_of_getElem? (i := 2) rfl) rfl pi_8 (by decide) fk_8_3 tw_207 rfl (by decide) ?_
  refine PW_bipush (pc' := 134) (v := 9) (pw_dk dc_X8_init 71 rfl) rfl (by decide) ?_
  refine KW_fill (pc' := 137) (a := 304) (na := 12) (v := 9) (pw_dk dc_X8_init 72 rfl) rfl tw_197 Y_J7_fill_53178 tw_196 (List.mem_of_getElem? (i := 4) rfl) (by decide) (by decide) ⟨Nat.le_of_ble_eq_true rfl, Nat.le_of_ble_eq_true rfl⟩ ?_
  exact PW_vret (pw_dk dc_X8_init 73 rfl) rfl h
def g_X2_init_1400 (σ : pS) : pS := pw_wR (pw_nw (pw_wR (pw_nw (pw_wR (pw_nw (pw_wR (pw_wI (pw_wI (pw_wI (pw_nw (pw_wR (pw_nw (pw_wR (pw_nw (pw_wI (pw_wI (σ) 1400 0 0) 1400 1 0) 1403) 1400 2 1403) 1404) 1400 3 1404) 1405) 1405 (Int32.toNatClampNeg 0) (-1 : Int32)) 1405 (Int32.toNatClampNeg 1) (-1 : Int32)) 1405 (Int32.toNatClampNeg 2) (-1 : Int32)) 1400 4 1405) 1406) 1400 5 1406) 1407) 1400 6 1407) 1408) 1400 7 1408
theorem k_X2_init_1400 (σ : pS) (Q : Option Value → pAL × pS → Prop) (h : Q none (aC 41, g_X2_init_1400 σ)) : PC yX2_init mX2_init 2 [1403, 1404, 1405, 1406, 1407, 1408] 6 205 [.ref 1400] (aC 35) σ Q := by
  refine PC_ofF (by decide +kernel) rfl rfl (Nat.le_of_ble_eq_true rfl) ?_
  show PW mX2_init 2 [1403, 1404, 1405, 1406, 1407, 1408] 6 205 Q 0 [(0, .ref 1400)] [] (aC 35) 0 0 σ
  refine PW_aload_n (pc' := 1) (q := 0) (pw_dk dc_X2_init 0 rfl) rfl rfl rfl ?_
  refine PW_obj (pc' := 4) (b := 1400) (st := []) (pw_dk dc_X2_init 1 rfl) rfl tw_165 tw_152 tw_153 (by decide) (by decide) ?_
  refine PW_aload_n (pc' := 5) (q := 0) (pw_dk dc_X2_init 2 rfl) rfl rfl rfl ?_
  refine PW_iconst (pc' := 6) (v := 0) (pw_dk dc_X2_init 3 rfl) rfl (by decide) ?_
  refine PW_putI (pc' := 9) (id := 1400) (ci := 2) (nn := 0) (T := TX2) (N := 8) (j := 0) (ty := tyX2 0) (pw_dk dc_X2_init 4 rfl) rfl (List.mem_of_getElem? (i := 34) rfl) rfl pi_2 tyX2_ok nmX2 (by decide) fk_2_0 tw_166 rfl (tyX2_ok 0 (by decide)) (fun _ => rfl) (fun _ => rfl) ?_
  refine PW_aload_n (pc' := 10) (q := 0) (pw_dk dc_X2_init 5 rfl) rfl rfl rfl ?_
  refine PW_iconst (pc' := 11) (v := 0) (pw_dk dc_X2_init 6 rfl) rfl (by decide) ?_
  refine PW_putI (pc' := 14) (id := 1400) (ci := 2) (nn := 0) (T := TX2) (N := 8) (j := 1) (ty := tyX2 1) (pw_dk dc_X2_init 7 rfl) rfl (List.mem_of_getElem? (i := 34) rfl) rfl pi_2 tyX2_ok nmX2 (by decide) fk_2_1 tw_169 rfl (tyX2_ok 1 (by decide)) (fun _ => rfl) (fun _ => rfl) ?_
  refine PW_aload_n (pc' := 15) (q := 0) (pw_dk dc_X2_init 8 rfl) rfl rfl rfl ?_
  refine PW_bipush (pc' := 17) (v := 64) (pw_dk dc_X2_init 9 rfl) rfl (by decide) ?_
  refine KW_newaI (pc' := 19) (id := 1403) (N0 := 64) (k' := 1) (n' := 64) (al' := aC 36) (pw_dk dc_X2_init 10 rfl) rfl tw_194 (by decide) (by decide) (by decide) rfl rfl (by decide) (by decide) rfl (Or.inl rfl) rfl ?_
  refine PW_putFR (pc' := 22) (id := 1400) (ci := 2) (nn := 0) (T := TX2) (N := 8) (j := 2) (ty := tyX2 2) (pw_dk dc_X2_init 11 rfl) rfl (List.mem_of_getElem? (i := 34) rfl) rfl pi_2 tyX2_ok nmX2 (by decide) fk_2_2 tw_170 (by decide) rfl rfl (tyX2_ok 2 (by decide)) (fun _ => rfl) (fun _ => rfl) rfl ?_
  refine PW_aload_n (pc' := 23) (q := 0) (pw_dk dc_X2_init 12 rfl) rfl rfl rfl ?_
  refine PW_bipush (pc' := 25) (v := 64) (pw_dk dc_X2_init 13 rfl) rfl (by decide) ?_
  refine KW_newaI (pc' := 27) (id := 1404) (N0 := 64) (k' := 2) (n' := 128) (al' := aC 37) (pw_dk dc_X2_init 14 rfl) rfl tw_194 (by decide) (by decide) (by decide) rfl rfl (by decide) (by decide) rfl (Or.inr ⟨(1403, 13, 64), List.mem_of_getElem? (i := 35) rfl, rfl⟩) rfl ?_
  refine PW_putFR (pc' := 30) (id := 1400) (ci := 2) (nn := 0) (T := TX2) (N := 8) (j := 3) (ty := tyX2 3) (pw_dk dc_X2_init 15 rfl) rfl (List.mem_of_getElem? (i := 34) rfl) rfl pi_2 tyX2_ok nmX2 (by decide) fk_2_3 tw_171 (by decide) rfl rfl (tyX2_ok 3 (by decide)) (fun _ => rfl) (fun _ => rfl) rfl ?_
  refine PW_aload_n (pc' := 31) (q := 0) (pw_dk dc_X2_init 16 rfl) rfl rfl rfl ?_
  refine PW_iconst (pc' := 32) (v := 3) (pw_dk dc_X2_init 17 rfl) rfl (by decide) ?_
  refine KW_newaI (pc' := 34) (id := 1405) (N0 := 3) (k' := 3) (n' := 131) (al' := aC 38) (pw_dk dc_X2_init 18 rfl) rfl tw_194 (by decide) (by decide) (by decide) rfl rfl (by decide) (by decide) rfl (Or.inr ⟨(1404, 13, 64), List.mem_of_getElem? (i := 36) rfl, rfl⟩) rfl ?_
  refine PW_dup (pc' := 35) (pw_dk dc_X2_init 19 rfl) rfl rfl ?_
  refine PW_iconst (pc' := 36) (v := 0) (pw_dk dc_X2_init 20 rfl) rfl (by decide) ?_
  refine PW_iconst (pc' := 37) (v := (-1 : Int32)) (pw_dk dc_X2_init 21 rfl) rfl (by decide) ?_
  refine PW_iast (pc' := 38) (id := 1405) (nn := 3) (pw_dk dc_X2_init 22 rfl) rfl (List.mem_of_getElem? (i := 37) rfl) (okI_in (by decide)) ?_
  refine PW_dup (pc' := 39) (pw_dk dc_X2_init 23 rfl) rfl rfl ?_
  refine PW_iconst (pc' := 40) (v := 1) (pw_dk dc_X2_init 24 rfl) rfl (by decide) ?_
  refine PW_iconst (pc' := 41) (v := (-1 : Int32)) (pw_dk dc_X2_init 25 rfl) rfl (by decide) ?_
  refine PW_iast (pc' := 42) (id := 1405) (nn := 3) (pw_dk dc_X2_init 26 rfl) rfl (List.mem_of_getElem? (i := 37) rfl) (okI_in (by decide)) ?_
  refine PW_dup (pc' := 43) (pw_dk dc_X2_init 27 rfl) rfl rfl ?_
  refine PW_iconst (pc' := 44) (v := 2) (pw_dk dc_X2_init 28 rfl) rfl (by decide) ?_
  refine PW_iconst (pc' := 45) (v := (-1 : Int32)) (pw_dk dc_X2_init 29 rfl) rfl (by decide) ?_
  refine PW_iast (pc' := 46) (id := 1405) (nn := 3) (pw_dk dc_X2_init 30 rfl) rfl (List.mem_of_getElem? (i := 37) rfl) (okI_in (by decide)) ?_
  refine PW_putFR (pc' := 49) (id := 1400) (ci := 2) (nn := 0) (T := TX2) (N := 8) (j := 4) (ty := tyX2 4) (pw_dk dc_X2_init 31 rfl) rfl (List.mem_of_getElem? (i := 34) rfl) rfl pi_2 tyX2_ok nmX2 (by decide) fk_2_4 tw_172 (by decide) rfl rfl (tyX2_ok 4 (by decide)) (fun _ => rfl) (fun _ => rfl) rfl ?_
  refine PW_aload_n (pc' := 50) (q := 0) (pw_dk dc_X2_init 32 rfl) rfl rfl rfl ?_
  refine PW_iconst (pc' := 51) (v := 3) (pw_dk dc_X2_init 33 rfl) rfl (by decide) ?_
  refine KW_newaI (pc' := 53) (id := 1406) (N0 := 3) (k' := 4) (n' := 134) (al' := aC 39) (pw_dk dc_X2_init 34 rfl) rfl tw_194 (by decide) (by decide) (by decide) rfl rfl (by decide) (by decide) rfl (Or.inr ⟨(1405, 13, 3), List.mem_of_getElem? (i := 37) rfl, rfl⟩) rfl ?_
  refine PW_putFR (pc' := 56) (id := 1400) (ci := 2) (nn := 0) (T := TX2) (N := 8) (j := 5) (ty := tyX2 5) (pw_dk dc_X2_init 35 rfl) rfl (List.mem_of_getElem? (i := 34) rfl) rfl pi_2 tyX2_ok nmX2 (by decide) fk_2_5 tw_173 (by decide) rfl rfl (tyX2_ok 5 (by decide)) (fun _ => rfl) (fun _ => rfl) rfl ?_
  refine PW_aload_n (pc' := 57) (q := 0) (pw_dk dc_X2_init 36 rfl) rfl rfl rfl ?_
  refine PW_bipush (pc' := 59) (v := 64) (pw_dk dc_X2_init 37 rfl) rfl (by decide) ?_
  refine KW_newaJ (pc' := 61) (id := 1407) (N0 := 64) (k' := 5) (n' := 198) (al' := aC 40) (pw_dk dc_X2_init 38 rfl) rfl tw_195 (by decide) (by decide) (by decide) rfl rfl (by decide) (by decide) rfl (Or.inr ⟨(1406, 13, 3), List.mem_of_getElem? (i := 38) rfl, rfl⟩) rfl ?_
  refine PW_putFR (pc' := 64) (id := 1400) (ci := 2) (nn := 0) (T := TX2) (N := 8) (j := 6) (ty := tyX2 6) (pw_dk dc_X2_init 39 rfl) rfl (List.mem_of_getElem? (i := 34) rfl) rfl pi_2 tyX2_ok nmX2 (by decide) fk_2_6 tw_174 (by decide) rfl rfl (tyX2_ok 6 (by decide)) (fun _ => rfl) (fun _ => rfl) rfl ?_
  refine PW_aload_n (pc' := 65) (q := 0) (pw_dk dc_X2_init 40 rfl) rfl rfl rfl ?_
  refine PW_bipush (pc' := 67) (v := 7) (pw_dk dc_X2_init 41 rfl) rfl (by decide) ?_
  refine KW_newaI (pc' := 69) (id := 1408) (N0 := 7) (k' := 6) (n' := 205) (al' := aC 41) (pw_dk dc_X2_init 42 rfl) rfl tw_194 (by decide) (by decide) (by decide) rfl rfl (by decide) (by decide) rfl (Or.inr ⟨(1407, 14, 64), List.mem_of_getElem? (i := 39) rfl, rfl⟩) rfl ?_
  refine PW_putFR (pc' := 72) (id := 1400) (ci := 2) (nn := 0) (T := TX2) (N := 8) (j := 7) (ty := tyX2 7) (pw_dk dc_X2_init 43 rfl) rfl (List.mem_of_getElem? (i := 34) rfl) rfl pi_2 tyX2_ok nmX2 (by decide) fk_2_7 tw_175 (by decide) rfl rfl (tyX2_ok 7 (by decide)) (fun _ => rfl) (fun _ => rfl) rfl ?_
  exact PW_vret (pw_dk dc_X2_init 44 rfl) rfl h
def g_X8_init_400 (σ : pS) : pS := pw_fi (pw_wR (g_X2_init_1400 (pw_nw (pw_wI (pw_wR (pw_nw (pw_wR (pw_nw (pw_wR (pw_nw (pw_wR (pw_nw (pw_wI (pw_wR (pw_nw (pw_wR (pw_nw (pw_wR (pw_nw (pw_wR (pw_nw (pw_wI (pw_wI (pw_wR (pw_nw (pw_wR (pw_nw (pw_wR (pw_nw (pw_wI (pw_wI (σ) 400 0 8) 400 1 0) 403) 400 2 403) 404) 400 3 404) 405) 400 4 405) 400 5 0) 400 6 0) 408) 400 7 408) 409) 400 8 409) 410) 400 9 410) 411) 400 10 411) 400 11 0) 413) 400 12 413) 414) 400 13 414) 415) 400 14 415) 416) 400 15 416) 400 16 5) 1400)) 400 17 1400) 404 12 9
theorem k_X8_init_400 (σ : pS) (Q : Option Value → pAL × pS → Prop) (h : Q none (aC 41, g_X8_init_400 σ)) : PC yX8_init mX8_init 3 [403, 404, 405, 408, 409, 410, 411, 413, 414, 415, 416, 1400, 1403, 1404, 1405, 1406, 1407, 1408] 18 303 [.ref 400] (aC 23) σ Q := by
  refine PC_ofF (by decide +kernel) rfl rfl (Nat.le_of_ble_eq_true rfl) ?_
  show PW mX8_init 3 [403, 404, 405, 408, 409, 410, 411, 413, 414, 415, 416, 1400, 1403, 1404, 1405, 1406, 1407, 1408] 18 303 Q 0 [(0, .ref 400)] [] (aC 23) 0 0 σ
  refine PW_aload_n (pc' := 1) (q := 0) (pw_dk dc_X8_init 0 rfl) rfl rfl rfl ?_
  refine PW_obj (pc' := 4) (b := 400) (st := []) (pw_dk dc_X8_init 1 rfl) rfl tw_159 tw_152 tw_153 (by decide) (by decide) ?_
  refine PW_aload_n (pc' := 5) (q := 0) (pw_dk dc_X8_init 2 rfl) rfl rfl rfl ?_
  refine PW_bipush (pc' := 7) (v := 8) (pw_dk dc_X8_init 3 rfl) rfl (by decide) ?_
  refine PW_putI (pc' := 10) (id := 400) (ci := 8) (nn := 0) (T := TX8) (N := 18) (j := 0) (ty := tyX8 0) (pw_dk dc_X8_init 4 rfl) rfl (List.mem_of_getElem? (i := 22) rfl) rfl pi_8 tyX8_ok nmX8 (by decide) fk_8_0 tw_199 rfl (tyX8_ok 0 (by decide)) (fun _ => rfl) (fun _ => rfl) ?_
  refine PW_aload_n (pc' := 11) (q := 0) (pw_dk dc_X8_init 5 rfl) rfl rfl rfl ?_
  refine PW_iconst (pc' := 12) (v := 0) (pw_dk dc_X8_init 6 rfl) rfl (by decide) ?_
  refine PW_putI (pc' := 15) (id := 400) (ci := 8) (nn := 0) (T := TX8) (N := 18) (j := 1) (ty := tyX8 1) (pw_dk dc_X8_init 7 rfl) rfl (List.mem_of_getElem? (i := 22) rfl) rfl pi_8 tyX8_ok nmX8 (by decide) fk_8_1 tw_203 rfl (tyX8_ok 1 (by decide)) (fun _ => rfl) (fun _ => rfl) ?_
  refine PW_aload_n (pc' := 16) (q := 0) (pw_dk dc_X8_init 8 rfl) rfl rfl rfl ?_
  refine PW_iconst (pc' := 17) (v := 5) (pw_dk dc_X8_init 9 rfl) rfl (by decide) ?_
  refine KW_newaI (pc' := 19) (id := 403) (N0 := 5) (k' := 1) (n' := 5) (al' := aC 24) (pw_dk dc_X8_init 10 rfl) rfl tw_194 (by decide) (by decide) (by decide) rfl rfl (by decide) (by decide) rfl (Or.inl rfl) rfl ?_
  refine PW_putFR (pc' := 22) (id := 400) (ci := 8) (nn := 0) (T := TX8) (N := 18) (j := 2) (ty := tyX8 2) (pw_dk dc_X8_init 11 rfl) rfl (List.mem_of_getElem? (i := 22) rfl) rfl pi_8 tyX8_ok nmX8 (by decide) fk_8_2 tw_206 (by decide) rfl rfl (tyX8_ok 2 (by decide)) (fun _ => rfl) (fun _ => rfl) rfl ?_
  refine PW_aload_n (pc' := 23) (q := 0) (pw_dk dc_X8_init 12 rfl) rfl rfl rfl ?_
  refine PW_bipush (pc' := 25) (v := 12) (pw_dk dc_X8_init 13 rfl) rfl (by decide) ?_
  refine KW_newaI (pc' := 27) (id := 404) (N0 := 12) (k' := 2) (n' := 17) (al' := aC 25) (pw_dk dc_X8_init 14 rfl) rfl tw_194 (by decide) (by decide) (by decide) rfl rfl (by decide) (by decide) rfl (Or.inr ⟨(403, 13, 5), List.mem_of_getElem? (i := 23) rfl, rfl⟩) rfl ?_
  refine PW_putFR (pc' := 30) (id := 400) (ci := 8) (nn := 0) (T := TX8) (N := 18) (j := 3) (ty := tyX8 3) (pw_dk dc_X8_init 15 rfl) rfl (List.mem_of_getElem? (i := 22) rfl) rfl pi_8 tyX8_ok nmX8 (by decide) fk_8_3 tw_207 (by decide) rfl rfl (tyX8_ok 3 (by decide)) (fun _ => rfl) (fun _ => rfl) rfl ?_
  refine PW_aload_n (pc' := 31) (q := 0) (pw_dk dc_X8_init 16 rfl) rfl rfl rfl ?_
  refine PW_iconst (pc' := 32) (v := 5) (pw_dk dc_X8_init 17 rfl) rfl (by decide) ?_
  refine KW_newaI (pc' := 34) (id := 405) (N0 := 5) (k' := 3) (n' := 22) (al' := aC 26) (pw_dk dc_X8_init 18 rfl) rfl tw_194 (by decide) (by decide) (by decide) rfl rfl (by decide) (by decide) rfl (Or.inr ⟨(404, 13, 12), List.mem_of_getElem? (i := 24) rfl, rfl⟩) rfl ?_
  refine PW_putFR (pc' := 37) (id := 400) (ci := 8) (nn := 0) (T := TX8) (N := 18) (j := 4) (ty := tyX8 4) (pw_dk dc_X8_init 19 rfl) rfl (List.mem_of_getElem? (i := 22) rfl) rfl pi_8 tyX8_ok nmX8 (by decide) fk_8_4 tw_209 (by decide) rfl rfl (tyX8_ok 4 (by decide)) (fun _ => rfl) (fun _ => rfl) rfl ?_
  refine PW_aload_n (pc' := 38) (q := 0) (pw_dk dc_X8_init 20 rfl) rfl rfl rfl ?_
  refine PW_iconst (pc' := 39) (v := 0) (pw_dk dc_X8_init 21 rfl) rfl (by decide) ?_
  refine PW_putI (pc' := 42) (id := 400) (ci := 8) (nn := 0) (T := TX8) (N := 18) (j := 5) (ty := tyX8 5) (pw_dk dc_X8_init 22 rfl) rfl (List.mem_of_getElem? (i := 22) rfl) rfl pi_8 tyX8_ok nmX8 (by decide) fk_8_5 tw_212 rfl (tyX8_ok 5 (by decide)) (fun _ => rfl) (fun _ => rfl) ?_
  refine PW_aload_n (pc' := 43) (q := 0) (pw_dk dc_X8_init 23 rfl) rfl rfl rfl ?_
  refine PW_iconst (pc' := 44) (v := 0) (pw_dk dc_X8_init 24 rfl) rfl (by decide) ?_
  refine PW_putI (pc' := 47) (id := 400) (ci := 8) (nn := 0) (T := TX8) (N := 18) (j := 6) (ty := tyX8 6) (pw_dk dc_X8_init 25 rfl) rfl (List.mem_of_getElem? (i := 22) rfl) rfl pi_8 tyX8_ok nmX8 (by decide) fk_8_6 tw_215 rfl (tyX8_ok 6 (by decide)) (fun _ => rfl) (fun _ => rfl) ?_
  refine PW_aload_n (pc' := 48) (q := 0) (pw_dk dc_X8_init 26 rfl) rfl rfl rfl ?_
  refine PW_iconst (pc' := 49) (v := 5) (pw_dk dc_X8_init 27 rfl) rfl (by decide) ?_
  refine KW_newaI (pc' := 51) (id := 408) (N0 := 5) (k' := 4) (n' := 27) (al' := aC 27) (pw_dk dc_X8_init 28 rfl) rfl tw_194 (by decide) (by decide) (by decide) rfl rfl (by decide) (by decide) rfl (Or.inr ⟨(405, 13, 5), List.mem_of_getElem? (i := 25) rfl, rfl⟩) rfl ?_
  refine PW_putFR (pc' := 54) (id := 400) (ci := 8) (nn := 0) (T := TX8) (N := 18) (j := 7) (ty := tyX8 7) (pw_dk dc_X8_init 29 rfl) rfl (List.mem_of_getElem? (i := 22) rfl) rfl pi_8 tyX8_ok nmX8 (by decide) fk_8_7 tw_219 (by decide) rfl rfl (tyX8_ok 7 (by decide)) (fun _ => rfl) (fun _ => rfl) rfl ?_
  refine PW_aload_n (pc' := 55) (q := 0) (pw_dk dc_X8_init 30 rfl) rfl rfl rfl ?_
  refine PW_iconst (pc' := 56) (v := 5) (pw_dk dc_X8_init 31 rfl) rfl (by decide) ?_
  refine KW_newaI (pc' := 58) (id := 409) (N0 := 5) (k' := 5) (n' := 32) (al' := aC 28) (pw_dk dc_X8_init 32 rfl) rfl tw_194 (by decide) (by decide) (by decide) rfl rfl (by decide) (by decide) rfl (Or.inr ⟨(408, 13, 5), List.mem_of_getElem? (i := 26) rfl, rfl⟩) rfl ?_
  refine PW_putFR (pc' := 61) (id := 400) (ci := 8) (nn := 0) (T := TX8) (N := 18) (j := 8) (ty := tyX8 8) (pw_dk dc_X8_init 33 rfl) rfl (List.mem_of_getElem? (i := 22) rfl) rfl pi_8 tyX8_ok nmX8 (by decide) fk_8_8 tw_220 (by decide) rfl rfl (tyX8_ok 8 (by decide)) (fun _ => rfl) (fun _ => rfl) rfl ?_
  refine PW_aload_n (pc' := 62) (q := 0) (pw_dk dc_X8_init 34 rfl) rfl rfl rfl ?_
  refine PW_iconst (pc' := 63) (v := 5) (pw_dk dc_X8_init 35 rfl) rfl (by decide) ?_
  refine KW_newaI (pc' := 65) (id := 410) (N0 := 5) (k' := 6) (n' := 37) (al' := aC 29) (pw_dk dc_X8_init 36 rfl) rfl tw_194 (by decide) (by decide) (by decide) rfl rfl (by decide) (by decide) rfl (Or.inr ⟨(409, 13, 5), List.mem_of_getElem? (i := 27) rfl, rfl⟩) rfl ?_
  refine PW_putFR (pc' := 68) (id := 400) (ci := 8) (nn := 0) (T := TX8) (N := 18) (j := 9) (ty := tyX8 9) (pw_dk dc_X8_init 37 rfl) rfl (List.mem_of_getElem? (i := 22) rfl) rfl pi_8 tyX8_ok nmX8 (by decide) fk_8_9 tw_223 (by decide) rfl rfl (tyX8_ok 9 (by decide)) (fun _ => rfl) (fun _ => rfl) rfl ?_
  refine PW_aload_n (pc' := 69) (q := 0) (pw_dk dc_X8_init 38 rfl) rfl rfl rfl ?_
  refine PW_iconst (pc' := 70) (v := 5) (pw_dk dc_X8_init 39 rfl) rfl (by decide) ?_
  refine KW_newaI (pc' := 72) (id := 411) (N0 := 5) (k' := 7) (n' := 42) (al' := aC 30) (pw_dk dc_X8_init 40 rfl) rfl tw_194 (by decide) (by decide) (by decide) rfl rfl (by decide) (by decide) rfl (Or.inr ⟨(410, 13, 5), List.mem_of_getElem? (i := 28) rfl, rfl⟩) rfl ?_
  refine PW_putFR (pc' := 75) (id := 400) (ci := 8) (nn := 0) (T := TX8) (N := 18) (j := 10) (ty := tyX8 10) (pw_dk dc_X8_init 41 rfl) rfl (List.mem_of_getElem? (i := 22) rfl) rfl pi_8 tyX8_ok nmX8 (by decide) fk_8_10 tw_226 (by decide) rfl rfl (tyX8_ok 10 (by decide)) (fun _ => rfl) (fun _ => rfl) rfl ?_
  refine PW_aload_n (pc' := 76) (q := 0) (pw_dk dc_X8_init 42 rfl) rfl rfl rfl ?_
  refine PW_iconst (pc' := 77) (v := 0) (pw_dk dc_X8_init 43 rfl) rfl (by decide) ?_
  refine PW_putI (pc' := 80) (id := 400) (ci := 8) (nn := 0) (T := TX8) (N := 18) (j := 11) (ty := tyX8 11) (pw_dk dc_X8_init 44 rfl) rfl (List.mem_of_getElem? (i := 22) rfl) rfl pi_8 tyX8_ok nmX8 (by decide) fk_8_11 tw_228 rfl (tyX8_ok 11 (by decide)) (fun _ => rfl) (fun _ => rfl) ?_
  refine PW_aload_n (pc' := 81) (q := 0) (pw_dk dc_X8_init 45 rfl) rfl rfl rfl ?_
  refine PW_bipush (pc' := 83) (v := 12) (pw_dk dc_X8_init 46 rfl) rfl (by decide) ?_
  refine KW_newaI (pc' := 85) (id := 413) (N0 := 12) (k' := 8) (n' := 54) (al' := aC 31) (pw_dk dc_X8_init 47 rfl) rfl tw_194 (by decide) (by decide) (by decide) rfl rfl (by decide) (by decide) rfl (Or.inr ⟨(411, 13, 5), List.mem_of_getElem? (i := 29) rfl, rfl⟩) rfl ?_
  refine PW_putFR (pc' := 88) (id := 400) (ci := 8) (nn := 0) (T := TX8) (N := 18) (j := 12) (ty := tyX8 12) (pw_dk dc_X8_init 48 rfl) rfl (List.mem_of_getElem? (i := 22) rfl) rfl pi_8 tyX8_ok nmX8 (by decide) fk_8_12 tw_232 (by decide) rfl rfl (tyX8_ok 12 (by decide)) (fun _ => rfl) (fun _ => rfl) rfl ?_
  refine PW_aload_n (pc' := 89) (q := 0) (pw_dk dc_X8_init 49 rfl) rfl rfl rfl ?_
  refine PW_bipush (pc' := 91) (v := 12) (pw_dk dc_X8_init 50 rfl) rfl (by decide) ?_
  refine KW_newaI (pc' := 93) (id := 414) (N0 := 12) (k' := 9) (n' := 66) (al' := aC 32) (pw_dk dc_X8_init 51 rfl) rfl tw_194 (by decide) (by decide) (by decide) rfl rfl (by decide) (by decide) rfl (Or.inr ⟨(413, 13, 12), List.mem_of_getElem? (i := 30) rfl, rfl⟩) rfl ?_
  refine PW_putFR (pc' := 96) (id := 400) (ci := 8) (nn := 0) (T := TX8) (N := 18) (j := 13) (ty := tyX8 13) (pw_dk dc_X8_init 52 rfl) rfl (List.mem_of_getElem? (i := 22) rfl) rfl pi_8 tyX8_ok nmX8 (by decide) fk_8_13 tw_235 (by decide) rfl rfl (tyX8_ok 13 (by decide)) (fun _ => rfl) (fun _ => rfl) rfl ?_
  refine PW_aload_n (pc' := 97) (q := 0) (pw_dk dc_X8_init 53 rfl) rfl rfl rfl ?_
  refine PW_bipush (pc' := 99) (v := 12) (pw_dk dc_X8_init 54 rfl) rfl (by decide) ?_
  refine KW_newaI (pc' := 101) (id := 415) (N0 := 12) (k' := 10) (n' := 78) (al' := aC 33) (pw_dk dc_X8_init 55 rfl) rfl tw_194 (by decide) (by decide) (by decide) rfl rfl (by decide) (by decide) rfl (Or.inr ⟨(414, 13, 12), List.mem_of_getElem? (i := 31) rfl, rfl⟩) rfl ?_
  refine PW_putFR (pc' := 104) (id := 400) (ci := 8) (nn := 0) (T := TX8) (N := 18) (j := 14) (ty := tyX8 14) (pw_dk dc_X8_init 56 rfl) rfl (List.mem_of_getElem? (i := 22) rfl) rfl pi_8 tyX8_ok nmX8 (by decide) fk_8_14 tw_238 (by decide) rfl rfl (tyX8_ok 14 (by decide)) (fun _ => rfl) (fun _ => rfl) rfl ?_
  refine PW_aload_n (pc' := 105) (q := 0) (pw_dk dc_X8_init 57 rfl) rfl rfl rfl ?_
  refine PW_bipush (pc' := 107) (v := 12) (pw_dk dc_X8_init 58 rfl) rfl (by decide) ?_
  refine KW_newaI (pc' := 109) (id := 416) (N0 := 12) (k' := 11) (n' := 90) (al' := aC 34) (pw_dk dc_X8_init 59 rfl) rfl tw_194 (by decide) (by decide) (by decide) rfl rfl (by decide) (by decide) rfl (Or.inr ⟨(415, 13, 12), List.mem_of_getElem? (i := 32) rfl, rfl⟩) rfl ?_
  refine PW_putFR (pc' := 112) (id := 400) (ci := 8) (nn := 0) (T := TX8) (N := 18) (j := 15) (ty := tyX8 15) (pw_dk dc_X8_init 60 rfl) rfl (List.mem_of_getElem? (i := 22) rfl) rfl pi_8 tyX8_ok nmX8 (by decide) fk_8_15 tw_241 (by decide) rfl rfl (tyX8_ok 15 (by decide)) (fun _ => rfl) (fun _ => rfl) rfl ?_
  refine PW_aload_n (pc' := 113) (q := 0) (pw_dk dc_X8_init 61 rfl) rfl rfl rfl ?_
  refine PW_iconst (pc' := 114) (v := 5) (pw_dk dc_X8_init 62 rfl) rfl (by decide) ?_
  refine PW_putI (pc' := 117) (id := 400) (ci := 8) (nn := 0) (T := TX8) (N := 18) (j := 16) (ty := tyX8 16) (pw_dk dc_X8_init 63 rfl) rfl (List.mem_of_getElem? (i := 22) rfl) rfl pi_8 tyX8_ok nmX8 (by decide) fk_8_16 tw_244 rfl (tyX8_ok 16 (by decide)) (fun _ => rfl) (fun _ => rfl) ?_
  refine PW_aload_n (pc' := 118) (q := 0) (pw_dk dc_X8_init 64 rfl) rfl rfl rfl ?_
  refine KW_new (pc' := 121) (id := 1400) (ci := 2) (k' := 12) (n' := 98) (al' := aC 35) (pw_dk dc_X8_init 65 rfl) rfl rfl pi_2 tyX2_ok tw_160 tw_161 tw_122 (by decide +kernel) rfl rfl (by decide) (by decide) rfl (Or.inr ⟨(416, 13, 12), List.mem_of_getElem? (i := 33) rfl, rfl⟩) rfl ?_
  refine PW_dup (pc' := 122) (pw_dk dc_X8_init 66 rfl) rfl rfl ?_
  refine KW_callIN (pc' := 125) (y := yX2_init) (M' := mX2_init) (d' := 2) (As := []) (st := [.ref 1400, .ref 400]) (b := 1400) (mc' := 6) (ms' := 205) (ord' := [1403, 1404, 1405, 1406, 1407, 1408]) (k' := 18) (n' := 303) (al' := aC 41) (σ' := g_X2_init_1400 (pw_nw (pw_wI (pw_wR (pw_nw (pw_wR (pw_nw (pw_wR (pw_nw (pw_wR (pw_nw (pw_wI (pw_wR (pw_nw (pw_wR (pw_nw (pw_wR (pw_nw (pw_wR (pw_nw (pw_wI (pw_wI (pw_wR (pw_nw (pw_wR (pw_nw (pw_wR (pw_nw (pw_wI (pw_wI (σ) 400 0 8) 400 1 0) 403) 400 2 403) 404) 400 3 404) 405) 400 4 405) 400 5 0) 400 6 0) 408) 400 7 408) 409) 400 8 409) 410) 400 9 410) 411) 400 10 411) 400 11 0) 413) 400 12 413) 414) 400 13 414) 415) 400 14 415) 416) 400 15 416) 400 16 5) 1400)) tw_163 rfl rfl (pw_dk dc_X8_init 67 rfl) rfl YI_X2_init (by decide +kernel) rfl (by decide) (by decide) rfl rfl ⟨by decide, by decide⟩ (pw_ord [403, 404, 405, 408, 409, 410, 411, 413, 414, 415, 416, 1400, 1403, 1404, 1405, 1406, 1407, 1408] 12 6) (Or.inr ⟨(1400, 2, 0), List.mem_of_getElem? (i := 34) rfl, rfl⟩) (fun Q' hq' => k_X2_init_1400 (pw_nw (pw_wI (pw_wR (pw_nw (pw_wR (pw_nw (pw_wR (pw_nw (pw_wR (pw_nw (pw_wI (pw_wR (pw_nw (pw_wR (pw_nw (pw_wR (pw_nw (pw_wR (pw_nw (pw_wI (pw_wI (pw_wR (pw_nw (pw_wR (pw_nw (pw_wR (pw_nw (pw_wI (pw_wI (σ) 400 0 8) 400 1 0) 403) 400 2 403) 404) 400 3 404) 405) 400 4 405) 400 5 0) 400 6 0) 408) 400 7 408) 409) 400 8 409) 410) 400 9 410) 411) 400 10 411) 400 11 0) 413) 400 12 413) 414) 400 13 414) 415) 400 14 415) 416) 400 15 416) 400 16 5) 1400) _ hq') ?_
  refine PW_putFR (pc' := 128) (id := 400) (ci := 8) (nn := 0) (T := TX8) (N := 18) (j := 17) (ty := tyX8 17) (pw_dk dc_X8_init 68 rfl) rfl (List.mem_of_getElem? (i := 22) rfl) rfl pi_8 tyX8_ok nmX8 (by decide) fk_8_17 tw_249 (by decide) rfl rfl (tyX8_ok 17 (by decide)) (fun _ => rfl) (fun _ => rfl) rfl ?_
  refine PW_aload_n (pc' := 129) (q := 0) (pw_dk dc_X8_init 69 rfl) rfl rfl rfl ?_
  refine PW_getR (pc' := 132) (id := 400) (ci := 8) (nn := 0) (T := TX8) (N := 18) (j := 3) (r := 404) (pw_dk dc_X8_init 70 rfl) rfl (List.mem_of_getElem? (i := 22) rfl) rfl pi_8 (by decide) fk_8_3 tw_207 rfl (by decide) ?_
  refine PW_bipush (pc' := 134) (v := 9) (pw_dk dc_X8_init 71 rfl) rfl (by decide) ?_
  refine KW_fill (pc' := 137) (a := 404) (na := 12) (v := 9) (pw_dk dc_X8_init 72 rfl) rfl tw_197 Y_J7_fill_53178 tw_196 (List.mem_of_getElem? (i := 24) rfl) (by decide) (by decide) ⟨Nat.le_of_ble_eq_true rfl, Nat.le_of_ble_eq_true rfl⟩ ?_
  exact PW_vret (pw_dk dc_X8_init 73 rfl) rfl h
/-- any store: what it holds is not looked at -/
def z0 : zS := (fun _ _ => 0, fun _ _ => 0, fun _ => false)
/-- the row of the language's words, letter by letter -/
def tk_L : Nat → Int32 → Int32 → Int32 → (Nat → Int32) → Option (Nat → Int32)
  | 0, _, _, _, _ => none
  | n + 1, x2, x3, x4, row =>
    if (f_J0_length_8abf5 0 z0) ≤ x4 then some row
    else if 34 ≤ x2 then some row
    else (f_J0_charAt_5068e 0 x4 z0).bind fun c =>
      if c = 32 then tk_L n (x2 + 1) 0 (x4 + 1) row
      else if okI x2 34 = true then tk_L n x2 (x3 + 1) (x4 + 1) (fun j => if j = x2.toNatClampNeg then row x2.toNatClampNeg ||| f_X7_letterBits c x3 z0 else row j) else none
theorem b_X7_init (Q : Option Value → pAL × pS → Prop) : ∀ (n : Nat) (x2 x3 x4 : Int32) (σ : pS) (hr : σ.2.2 500 1 = 502) (h : wpO (tk_L n x2 x3 x4 (σ.1 502)) (fun row => Q none (aC 43, pw_wA σ 502 row))), PW mX7_init 5 [502] 1 34 Q 64 [(0, .ref 500), (1, .ref 101), (2, .int x2), (3, .int x3), (4, .int x4)] [] (aC 43) 1 34 σ := by
  intro n
  induction n with
  | zero => intro x2 x3 x4 σ hr h; exact wp_none h
  | succ n ih =>
    intro x2 x3 x4 σ hr h
    rw [tk_L] at h
    have fin : ∀ row, row = σ.1 502 → pw_eq (aC 43) σ (pw_wA σ 502 row) := by
      intro row e
      subst e
      refine pw_eq_all (fun i j => ?_) (fun _ _ => rfl) (fun _ _ => rfl)
      by_cases z : i = 502
      · rw [z]; simp [pw_wA]
      · simp [pw_wA, z]
    refine PW_iload (pc' := 66) (q := 4) (pw_dk dc_X7_init 39 rfl) rfl rfl ?_
    refine PW_ldcS0 (pc' := 68) (pw_dk dc_X7_init 40 rfl) rfl rfl ?_
    refine PW_callTF (pc' := 71) (y := yJ0_length_8abf5) (M' := mJ0_length_8abf5) (d' := 1) (As := []) (st := [.int x4]) (al1 := []) (σ1 := em z0) (i := 0) (by decide) rfl tw_305 tw_306 (fun c hc => absurd hc List.not_mem_nil) List.nodup_nil (fun c hc => absurd hc List.not_mem_nil) (pw_dk dc_X7_init 41 rfl) rfl Y_J0_length_8abf5 tw_304 rfl (by decide) (Nat.le_of_ble_eq_true rfl) ⟨Nat.le_refl _, Nat.le_refl _⟩ (Q' := zQ [] (fun r _ => r = some (.int (f_J0_length_8abf5 0 z0)))) (fun r al' σ' hz => by obtain ⟨s9, e9, -⟩ := hz; cases e9; rfl) (t_J0_length_8abf5 [] 0 (by decide) z0 _ rfl) (fun r σ' hz hnr => ?_)
    obtain ⟨s9, e9, rfl⟩ := hz
    refine PW_cong (σ' := σ) pw_mg0 ?_
    show PW mX7_init 5 [502] 1 34 Q 71 [(0, .ref 500), (1, .ref 101), (2, .int x2), (3, .int x3), (4, .int x4)] [.int (f_J0_length_8abf5 0 z0), .int x4] (aC 43) 1 34 σ
    refine PW_icmp_ge (pc' := 74) (tgt := 128) (pw_dk dc_X7_init 42 rfl) rfl (by decide) (fun c1 => ?_) (fun c1 => ?_)
    · rw [if_pos c1] at h
      have z := wp_some h
      exact PW_cong (fin _ rfl) (PW_vret (pw_dk dc_X7_init 70 rfl) rfl z)
    · rw [if_neg c1] at h
      refine PW_iload_n (pc' := 75) (q := 2) (pw_dk dc_X7_init 43 rfl) rfl rfl rfl ?_
      refine PW_bipush (pc' := 77) (v := 34) (pw_dk dc_X7_init 44 rfl) rfl (by decide) ?_
      refine PW_icmp_ge (pc' := 80) (tgt := 128) (pw_dk dc_X7_init 45 rfl) rfl (by decide) (fun c2 => ?_) (fun c2 => ?_)
      · rw [if_pos c2] at h
        have z := wp_some h
        exact PW_cong (fin _ rfl) (PW_vret (pw_dk dc_X7_init 70 rfl) rfl z)
      · rw [if_neg c2] at h
        obtain ⟨ch, ech, h⟩ := wp_bind h
        refine PW_ldcS0 (pc' := 82) (pw_dk dc_X7_init 46 rfl) rfl rfl ?_
        refine PW_iload (pc' := 84) (q := 4) (pw_dk dc_X7_init 47 rfl) rfl rfl ?_
        refine PW_callTF (pc' := 87) (y := yJ0_charAt_5068e) (M' := mJ0_charAt_5068e) (d' := 3) (As := [.int x4]) (st := []) (al1 := []) (σ1 := em z0) (i := 0) (by decide) rfl tw_315 tw_316 (fun c hc => absurd hc List.not_mem_nil) List.nodup_nil (fun c hc => absurd hc List.not_mem_nil) (pw_dk dc_X7_init 48 rfl) rfl Y_J0_charAt_5068e tw_314 rfl (by decide) (Nat.le_of_ble_eq_true rfl) ⟨Nat.le_refl _, Nat.le_refl _⟩ (Q' := zQ [] (fun r _ => r = some (.int ch))) (fun r al' σ' hz => by obtain ⟨s9, e9, -⟩ := hz; cases e9; rfl) (t_J0_charAt_5068e [] 0 x4 (by decide) z0 _ ⟨ch, ech, rfl⟩) (fun r σ' hz hnr => ?_)
        obtain ⟨s9, e9, rfl⟩ := hz
        refine PW_cong (σ' := σ) pw_mg0 ?_
        show PW mX7_init 5 [502] 1 34 Q 87 [(0, .ref 500), (1, .ref 101), (2, .int x2), (3, .int x3), (4, .int x4)] [.int ch] (aC 43) 1 34 σ
        refine PW_istore (pc' := 89) (lv' := [(5, .int ch), (0, .ref 500), (1, .ref 101), (2, .int x2), (3, .int x3), (4, .int x4)]) (pw_dk dc_X7_init 49 rfl) rfl (by decide) rfl ?_
        refine PW_iload (pc' := 91) (q := 0) (pw_dk dc_X7_init 50 rfl) rfl rfl ?_
        refine PW_bipush (pc' := 93) (v := 32) (pw_dk dc_X7_init 51 rfl) rfl (by decide) ?_
        refine PW_icmp_ne (pc' := 96) (tgt := 104) (pw_dk dc_X7_init 52 rfl) rfl (by decide) (fun c3 => ?_) (fun c3 => ?_)
        · rw [if_neg c3] at h
          obtain ⟨hok, h⟩ : okI x2 34 = true ∧ wpO (tk_L n x2 (x3 + 1) (x4 + 1) (fun j => if j = x2.toNatClampNeg then (σ.1 502) x2.toNatClampNeg ||| f_X7_letterBits ch x3 z0 else (σ.1 502) j)) (fun row => Q none (aC 43, pw_wA σ 502 row)) := by
            by_cases hk : okI x2 34 = true
            · rw [if_pos hk] at h; exact ⟨hk, h⟩
            · rw [if_neg hk] at h; exact wp_none h
          refine PW_aload_n (pc' := 105) (q := 1) (pw_dk dc_X7_init 57 rfl) rfl rfl rfl ?_
          refine PW_getR (pc' := 108) (id := 500) (ci := 7) (nn := 0) (T := TX7) (N := 10) (j := 1) (r := 502) (pw_dk dc_X7_init 58 rfl) rfl (List.mem_of_getElem? (i := 41) rfl) rfl pi_7 (by decide) fk_7_1 tw_356 hr (by decide) ?_
          refine PW_iload_n (pc' := 109) (q := 3) (pw_dk dc_X7_init 59 rfl) rfl rfl rfl ?_
          refine PW_dup2 (pc' := 110) (pw_dk dc_X7_init 60 rfl) rfl rfl rfl ?_
          refine PW_iald (pc' := 111) (id := 502) (nn := 34) (pw_dk dc_X7_init 61 rfl) rfl (List.mem_of_getElem? (i := 42) rfl) (okI_in hok) ?_
          refine PW_iload (pc' := 113) (q := 0) (pw_dk dc_X7_init 62 rfl) rfl rfl ?_
          refine PW_iload_n (pc' := 114) (q := 4) (pw_dk dc_X7_init 63 rfl) rfl rfl rfl ?_
          refine PW_callSF (pc' := 117) (y := yX7_letterBits) (M' := mX7_letterBits) (d' := 0) (As := [.int ch, .int x3]) (st := [.int (σ.1 502 x2.toNatClampNeg), .int x2, .ref 502]) (al1 := []) (σ1 := em z0) tw_353 (fun c hc => absurd hc List.not_mem_nil) List.nodup_nil (fun c hc => absurd hc List.not_mem_nil) (pw_dk dc_X7_init 64 rfl) rfl Y_X7_letterBits tw_352 rfl (by decide) (Nat.le_of_ble_eq_true rfl) ⟨Nat.le_refl _, Nat.le_refl _⟩ (Q' := zQ [] (fun r _ => r = some (.int (f_X7_letterBits ch x3 z0)))) (fun r al' σ' hz => by obtain ⟨s9, e9, -⟩ := hz; cases e9; rfl) (tg_X7_letterBits [] ch x3 z0 _ rfl) (fun r σ' hz hnr => ?_)
          obtain ⟨s9, e9, rfl⟩ := hz
          refine PW_cong (σ' := σ) pw_mg0 ?_
          show PW mX7_init 5 [502] 1 34 Q 117 [(5, .int ch), (0, .ref 500), (1, .ref 101), (2, .int x2), (3, .int x3), (4, .int x4)] [.int (f_X7_letterBits ch x3 z0), .int (σ.1 502 x2.toNatClampNeg), .int x2, .ref 502] (aC 43) 1 34 σ
          refine PW_ior (pc' := 118) (pw_dk dc_X7_init 65 rfl) rfl ?_
          refine PW_iast (pc' := 119) (id := 502) (nn := 34) (pw_dk dc_X7_init 66 rfl) rfl (List.mem_of_getElem? (i := 42) rfl) (okI_in hok) ?_
          refine PW_iinc (pc' := 122) (q := 4) (v := x3 + 1) (lv' := [(3, .int (x3 + 1)), (5, .int ch), (0, .ref 500), (1, .ref 101), (2, .int x2), (4, .int x4)]) (pw_dk dc_X7_init 67 rfl) rfl rfl rfl (by decide) rfl ?_
          refine PW_iinc (pc' := 125) (q := 5) (v := x4 + 1) (lv' := [(4, .int (x4 + 1)), (3, .int (x3 + 1)), (5, .int ch), (0, .ref 500), (1, .ref 101), (2, .int x2)]) (pw_dk dc_X7_init 68 rfl) rfl rfl rfl (by decide) rfl ?_
          refine PW_goto (tgt := 64) (pw_dk dc_X7_init 69 rfl) (by decide) ?_
          refine PW_sub (lv' := [(0, .ref 500), (1, .ref 101), (2, .int x2), (3, .int (x3 + 1)), (4, .int (x4 + 1))]) [3, 4, 5, 1, 0] rfl ?_
          refine ih x2 (x3 + 1) (x4 + 1) _ hr ?_
          obtain ⟨row, e1, e2⟩ := h
          refine ⟨row, ?_, ?_⟩
          · rw [← e1]
            congr 1
            funext j
            simp [pw_wI]
          · have e3 : pw_wA (pw_wI σ 502 x2.toNatClampNeg (σ.1 502 x2.toNatClampNeg ||| f_X7_letterBits ch x3 z0)) 502 row = pw_wA σ 502 row := by
              refine Prod.ext ?_ rfl
              funext c j
              by_cases z : c = 502
              · simp [pw_wA, z]
              · simp [pw_wA, pw_wI, z]
            dsimp only
            rw [e3]
            exact e2
        · rw [if_pos c3] at h
          refine PW_iinc (pc' := 99) (q := 3) (v := x2 + 1) (lv' := [(2, .int (x2 + 1)), (5, .int ch), (0, .ref 500), (1, .ref 101), (3, .int x3), (4, .int x4)]) (pw_dk dc_X7_init 53 rfl) rfl rfl rfl (by decide) rfl ?_
          refine PW_iconst (pc' := 100) (v := 0) (pw_dk dc_X7_init 54 rfl) rfl (by decide) ?_
          refine PW_istore_n (pc' := 101) (lv' := [(3, .int 0), (2, .int (x2 + 1)), (5, .int ch), (0, .ref 500), (1, .ref 101), (4, .int x4)]) (pw_dk dc_X7_init 55 rfl) rfl rfl (by decide) rfl ?_
          refine PW_goto (tgt := 122) (pw_dk dc_X7_init 56 rfl) (by decide) ?_
          refine PW_iinc (pc' := 125) (q := 5) (v := x4 + 1) (lv' := [(4, .int (x4 + 1)), (3, .int 0), (2, .int (x2 + 1)), (5, .int ch), (0, .ref 500), (1, .ref 101)]) (pw_dk dc_X7_init 68 rfl) rfl rfl rfl (by decide) rfl ?_
          refine PW_goto (tgt := 64) (pw_dk dc_X7_init 69 rfl) (by decide) ?_
          refine PW_sub (lv' := [(0, .ref 500), (1, .ref 101), (2, .int (x2 + 1)), (3, .int 0), (4, .int (x4 + 1))]) [4, 5, 2, 1, 0] rfl ?_
          exact ih (x2 + 1) 0 (x4 + 1) σ hr h
/-- the language as the constructor lays it -/
def tk_row : Nat → Int32 := (tk_L FU 0 0 0 (fun _ => 0)).getD (fun _ => 0)
set_option maxRecDepth 100000 in
theorem tk_some : (tk_L FU 0 0 0 (fun _ => 0)).isSome = true := by decide +kernel
def g_X7_init_500 (σ : pS) : pS := pw_wA (pw_wR (pw_wI (pw_wI (pw_wI (pw_wI (pw_wI (pw_wI (pw_wI (pw_wI (pw_wR (pw_nw (σ) 502) 500 1 502) 500 2 0) 500 3 0) 500 4 0) 500 5 0) 500 6 0) 500 7 0) 500 8 0) 500 9 (-1 : Int32)) 500 0 101) 502 tk_row
theorem k_X7_init_500 (σ : pS) (Q : Option Value → pAL × pS → Prop) (h : Q none (aC 43, g_X7_init_500 σ)) : PC yX7_init mX7_init 5 [502] 1 34 [.ref 500, .ref 101] (aC 42) σ Q := by
  refine PC_ofF (by decide +kernel) rfl rfl (Nat.le_of_ble_eq_true rfl) ?_
  show PW mX7_init 5 [502] 1 34 Q 0 [(0, .ref 500), (1, .ref 101)] [] (aC 42) 0 0 σ
  refine PW_aload_n (pc' := 1) (q := 0) (pw_dk dc_X7_init 0 rfl) rfl rfl rfl ?_
  refine PW_obj (pc' := 4) (b := 500) (st := []) (pw_dk dc_X7_init 1 rfl) rfl tw_302 tw_152 tw_153 (by decide) (by decide) ?_
  refine PW_aload_n (pc' := 5) (q := 0) (pw_dk dc_X7_init 2 rfl) rfl rfl rfl ?_
  refine PW_bipush (pc' := 7) (v := 34) (pw_dk dc_X7_init 3 rfl) rfl (by decide) ?_
  refine KW_newaI (pc' := 9) (id := 502) (N0 := 34) (k' := 1) (n' := 34) (al' := aC 43) (pw_dk dc_X7_init 4 rfl) rfl tw_194 (by decide) (by decide) (by decide) rfl rfl (by decide) (by decide) rfl (Or.inl rfl) rfl ?_
  refine PW_putFR (pc' := 12) (id := 500) (ci := 7) (nn := 0) (T := TX7) (N := 10) (j := 1) (ty := tyX7 1) (pw_dk dc_X7_init 5 rfl) rfl (List.mem_of_getElem? (i := 41) rfl) rfl pi_7 tyX7_ok nmX7 (by decide) fk_7_1 tw_356 (by decide) rfl rfl (tyX7_ok 1 (by decide)) (fun _ => rfl) (fun _ => rfl) rfl ?_
  refine PW_aload_n (pc' := 13) (q := 0) (pw_dk dc_X7_init 6 rfl) rfl rfl rfl ?_
  refine PW_iconst (pc' := 14) (v := 0) (pw_dk dc_X7_init 7 rfl) rfl (by decide) ?_
  refine PW_putI (pc' := 17) (id := 500) (ci := 7) (nn := 0) (T := TX7) (N := 10) (j := 2) (ty := tyX7 2) (pw_dk dc_X7_init 8 rfl) rfl (List.mem_of_getElem? (i := 41) rfl) rfl pi_7 tyX7_ok nmX7 (by decide) fk_7_2 tw_357 rfl (tyX7_ok 2 (by decide)) (fun _ => rfl) (fun _ => rfl) ?_
  refine PW_aload_n (pc' := 18) (q := 0) (pw_dk dc_X7_init 9 rfl) rfl rfl rfl ?_
  refine PW_iconst (pc' := 19) (v := 0) (pw_dk dc_X7_init 10 rfl) rfl (by decide) ?_
  refine PW_putI (pc' := 22) (id := 500) (ci := 7) (nn := 0) (T := TX7) (N := 10) (j := 3) (ty := tyX7 3) (pw_dk dc_X7_init 11 rfl) rfl (List.mem_of_getElem? (i := 41) rfl) rfl pi_7 tyX7_ok nmX7 (by decide) fk_7_3 tw_358 rfl (tyX7_ok 3 (by decide)) (fun _ => rfl) (fun _ => rfl) ?_
  refine PW_aload_n (pc' := 23) (q := 0) (pw_dk dc_X7_init 12 rfl) rfl rfl rfl ?_
  refine PW_iconst (pc' := 24) (v := 0) (pw_dk dc_X7_init 13 rfl) rfl (by decide) ?_
  refine PW_putI (pc' := 27) (id := 500) (ci := 7) (nn := 0) (T := TX7) (N := 10) (j := 4) (ty := tyX7 4) (pw_dk dc_X7_init 14 rfl) rfl (List.mem_of_getElem? (i := 41) rfl) rfl pi_7 tyX7_ok nmX7 (by decide) fk_7_4 tw_359 rfl (tyX7_ok 4 (by decide)) (fun _ => rfl) (fun _ => rfl) ?_
  refine PW_aload_n (pc' := 28) (q := 0) (pw_dk dc_X7_init 15 rfl) rfl rfl rfl ?_
  refine PW_iconst (pc' := 29) (v := 0) (pw_dk dc_X7_init 16 rfl) rfl (by decide) ?_
  refine PW_putI (pc' := 32) (id := 500) (ci := 7) (nn := 0) (T := TX7) (N := 10) (j := 5) (ty := tyX7 5) (pw_dk dc_X7_init 17 rfl) rfl (List.mem_of_getElem? (i := 41) rfl) rfl pi_7 tyX7_ok nmX7 (by decide) fk_7_5 tw_362 rfl (tyX7_ok 5 (by decide)) (fun _ => rfl) (fun _ => rfl) ?_
  refine PW_aload_n (pc' := 33) (q := 0) (pw_dk dc_X7_init 18 rfl) rfl rfl rfl ?_
  refine PW_iconst (pc' := 34) (v := 0) (pw_dk dc_X7_init 19 rfl) rfl (by decide) ?_
  refine PW_putI (pc' := 37) (id := 500) (ci := 7) (nn := 0) (T := TX7) (N := 10) (j := 6) (ty := tyX7 6) (pw_dk dc_X7_init 20 rfl) rfl (List.mem_of_getElem? (i := 41) rfl) rfl pi_7 tyX7_ok nmX7 (by decide) fk_7_6 tw_363 rfl (tyX7_ok 6 (by decide)) (fun _ => rfl) (fun _ => rfl) ?_
  refine PW_aload_n (pc' := 38) (q := 0) (pw_dk dc_X7_init 21 rfl) rfl rfl rfl ?_
  refine PW_iconst (pc' := 39) (v := 0) (pw_dk dc_X7_init 22 rfl) rfl (by decide) ?_
  refine PW_putI (pc' := 42) (id := 500) (ci := 7) (nn := 0) (T := TX7) (N := 10) (j := 7) (ty := tyX7 7) (pw_dk dc_X7_init 23 rfl) rfl (List.mem_of_getElem? (i := 41) rfl) rfl pi_7 tyX7_ok nmX7 (by decide) fk_7_7 tw_366 rfl (tyX7_ok 7 (by decide)) (fun _ => rfl) (fun _ => rfl) ?_
  refine PW_aload_n (pc' := 43) (q := 0) (pw_dk dc_X7_init 24 rfl) rfl rfl rfl ?_
  refine PW_iconst (pc' := 44) (v := 0) (pw_dk dc_X7_init 25 rfl) rfl (by decide) ?_
  refine PW_putI (pc' := 47) (id := 500) (ci := 7) (nn := 0) (T := TX7) (N := 10) (j := 8) (ty := tyX7 8) (pw_dk dc_X7_init 26 rfl) rfl (List.mem_of_getElem? (i := 41) rfl) rfl pi_7 tyX7_ok nmX7 (by decide) fk_7_8 tw_368 rfl (tyX7_ok 8 (by decide)) (fun _ => rfl) (fun _ => rfl) ?_
  refine PW_aload_n (pc' := 48) (q := 0) (pw_dk dc_X7_init 27 rfl) rfl rfl rfl ?_
  refine PW_iconst (pc' := 49) (v := (-1 : Int32)) (pw_dk dc_X7_init 28 rfl) rfl (by decide) ?_
  refine PW_putI (pc' := 52) (id := 500) (ci := 7) (nn := 0) (T := TX7) (N := 10) (j := 9) (ty := tyX7 9) (pw_dk dc_X7_init 29 rfl) rfl (List.mem_of_getElem? (i := 41) rfl) rfl pi_7 tyX7_ok nmX7 (by decide) fk_7_9 tw_370 rfl (tyX7_ok 9 (by decide)) (fun _ => rfl) (fun _ => rfl) ?_
  refine PW_aload_n (pc' := 53) (q := 0) (pw_dk dc_X7_init 30 rfl) rfl rfl rfl ?_
  refine PW_aload_n (pc' := 54) (q := 1) (pw_dk dc_X7_init 31 rfl) rfl rfl rfl ?_
  refine PW_putFR (pc' := 57) (id := 500) (ci := 7) (nn := 0) (T := TX7) (N := 10) (j := 0) (ty := tyX7 0) (pw_dk dc_X7_init 32 rfl) rfl (List.mem_of_getElem? (i := 41) rfl) rfl pi_7 tyX7_ok nmX7 (by decide) fk_7_0 tw_355 (by decide) rfl rfl (tyX7_ok 0 (by decide)) (fun _ => rfl) (fun _ => rfl) rfl ?_
  refine PW_iconst (pc' := 58) (v := 0) (pw_dk dc_X7_init 33 rfl) rfl (by decide) ?_
  refine PW_istore_n (pc' := 59) (lv' := [(2, .int 0), (0, .ref 500), (1, .ref 101)]) (pw_dk dc_X7_init 34 rfl) rfl rfl (by decide) rfl ?_
  refine PW_iconst (pc' := 60) (v := 0) (pw_dk dc_X7_init 35 rfl) rfl (by decide) ?_
  refine PW_istore_n (pc' := 61) (lv' := [(3, .int 0), (2, .int 0), (0, .ref 500), (1, .ref 101)]) (pw_dk dc_X7_init 36 rfl) rfl rfl (by decide) rfl ?_
  refine PW_iconst (pc' := 62) (v := 0) (pw_dk dc_X7_init 37 rfl) rfl (by decide) ?_
  refine PW_istore (pc' := 64) (lv' := [(4, .int 0), (3, .int 0), (2, .int 0), (0, .ref 500), (1, .ref 101)]) (pw_dk dc_X7_init 38 rfl) rfl (by decide) rfl ?_
  refine PW_sub (lv' := [(0, .ref 500), (1, .ref 101), (2, .int 0), (3, .int 0), (4, .int 0)]) [3, 4, 2, 1, 0] rfl ?_
  refine b_X7_init Q FU 0 0 0 _ rfl ?_
  obtain ⟨row, e⟩ := Option.isSome_iff_exists.mp tk_some
  refine ⟨row, e, ?_⟩
  have e2 : tk_row = row := by unfold tk_row; rw [e]; rfl
  unfold g_X7_init_500 at h
  rw [e2] at h
  exact h
def g_X6_init_600 (σ : pS) : pS := pw_wR (pw_wR (σ) 600 0 500) 600 1 1400
theorem k_X6_init_600 (σ : pS) (Q : Option Value → pAL × pS → Prop) (h : Q none (aC 44, g_X6_init_600 σ)) : PC yX6_init mX6_init 1 [] 0 0 [.ref 600, .ref 500, .ref 1400] (aC 44) σ Q := by
  refine PC_ofF (by decide +kernel) rfl rfl (Nat.le_of_ble_eq_true rfl) ?_
  show PW mX6_init 1 [] 0 0 Q 0 [(0, .ref 600), (1, .ref 500), (2, .ref 1400)] [] (aC 44) 0 0 σ
  refine PW_aload_n (pc' := 1) (q := 0) (pw_dk dc_X6_init 0 rfl) rfl rfl rfl ?_
  refine PW_obj (pc' := 4) (b := 600) (st := []) (pw_dk dc_X6_init 1 rfl) rfl tw_399 tw_152 tw_153 (by decide) (by decide) ?_
  refine PW_aload_n (pc' := 5) (q := 0) (pw_dk dc_X6_init 2 rfl) rfl rfl rfl ?_
  refine PW_aload_n (pc' := 6) (q := 1) (pw_dk dc_X6_init 3 rfl) rfl rfl rfl ?_
  refine PW_putFR (pc' := 9) (id := 600) (ci := 6) (nn := 0) (T := TX6) (N := 2) (j := 0) (ty := tyX6 0) (pw_dk dc_X6_init 4 rfl) rfl (List.mem_of_getElem? (i := 43) rfl) rfl pi_6 tyX6_ok nmX6 (by decide) fk_6_0 tw_400 (by decide) rfl rfl (tyX6_ok 0 (by decide)) (fun _ => rfl) (fun _ => rfl) rfl ?_
  refine PW_aload_n (pc' := 10) (q := 0) (pw_dk dc_X6_init 5 rfl) rfl rfl rfl ?_
  refine PW_aload_n (pc' := 11) (q := 2) (pw_dk dc_X6_init 6 rfl) rfl rfl rfl ?_
  refine PW_putR (pc' := 14) (id := 600) (ci := 6) (nn := 0) (T := TX6) (N := 2) (j := 1) (ty := tyX6 1) (pw_dk dc_X6_init 7 rfl) rfl (List.mem_of_getElem? (i := 43) rfl) rfl pi_6 tyX6_ok nmX6 (by decide) fk_6_1 tw_401 (by decide) rfl (tyX6_ok 1 (by decide)) (fun _ => rfl) (fun _ => rfl) ?_
  exact PW_vret (pw_dk dc_X6_init 8 rfl) rfl h
def g_X4_init_200 (σ : pS) : pS := pw_wR (g_X6_init_600 (pw_nw (pw_wR (g_X7_init_500 (pw_nw (pw_wI (pw_wI (pw_wI (pw_wR (g_X8_init_400 (pw_nw (σ) 400)) 200 2 400) 200 3 0) 200 4 0) 200 5 0) 500)) 200 0 500) 600)) 200 1 600
theorem k_X4_init_200 (σ : pS) (Q : Option Value → pAL × pS → Prop) (h : Q none (aC 44, g_X4_init_200 σ)) : PC yX4_init mX4_init 6 [400, 403, 404, 405, 408, 409, 410, 411, 413, 414, 415, 416, 1400, 1403, 1404, 1405, 1406, 1407, 1408, 500, 502, 600] 22 367 [.ref 200, .ref 101] (aC 22) σ Q := by
  refine PC_ofF (by decide +kernel) rfl rfl (Nat.le_of_ble_eq_true rfl) ?_
  show PW mX4_init 6 [400, 403, 404, 405, 408, 409, 410, 411, 413, 414, 415, 416, 1400, 1403, 1404, 1405, 1406, 1407, 1408, 500, 502, 600] 22 367 Q 0 [(0, .ref 200), (1, .ref 101)] [] (aC 22) 0 0 σ
  refine PW_aload_n (pc' := 1) (q := 0) (pw_dk dc_X4_init 0 rfl) rfl rfl rfl ?_
  refine PW_obj (pc' := 4) (b := 200) (st := []) (pw_dk dc_X4_init 1 rfl) rfl tw_294 tw_152 tw_153 (by decide) (by decide) ?_
  refine PW_aload_n (pc' := 5) (q := 0) (pw_dk dc_X4_init 2 rfl) rfl rfl rfl ?_
  refine KW_new (pc' := 8) (id := 400) (ci := 8) (k' := 1) (n' := 18) (al' := aC 23) (pw_dk dc_X4_init 3 rfl) rfl rfl pi_8 tyX8_ok tw_295 tw_155 tw_121 (by decide +kernel) rfl rfl (by decide) (by decide) rfl (Or.inl rfl) rfl ?_
  refine PW_dup (pc' := 9) (pw_dk dc_X4_init 4 rfl) rfl rfl ?_
  refine KW_callI (pc' := 12) (y := yX8_init) (M' := mX8_init) (d' := 3) (As := []) (st := [.ref 400, .ref 200]) (b := 400) (mc' := 18) (ms' := 303) (ord' := [403, 404, 405, 408, 409, 410, 411, 413, 414, 415, 416, 1400, 1403, 1404, 1405, 1406, 1407, 1408]) (k' := 19) (n' := 321) (al' := aC 41) (σ' := g_X8_init_400 (pw_nw (σ) 400)) tw_157 rfl rfl (pw_dk dc_X4_init 5 rfl) rfl YI_X8_init tw_296 rfl (by decide) (by decide) rfl rfl ⟨by decide, by decide⟩ (pw_ord [400, 403, 404, 405, 408, 409, 410, 411, 413, 414, 415, 416, 1400, 1403, 1404, 1405, 1406, 1407, 1408, 500, 502, 600] 1 18) (Or.inr ⟨(400, 8, 0), List.mem_of_getElem? (i := 22) rfl, rfl⟩) (fun Q' hq' => k_X8_init_400 (pw_nw (σ) 400) _ hq') ?_
  refine PW_putR (pc' := 15) (id := 200) (ci := 4) (nn := 0) (T := TX4) (N := 6) (j := 2) (ty := tyX4 2) (pw_dk dc_X4_init 6 rfl) rfl (List.mem_of_getElem? (i := 21) rfl) rfl pi_4 tyX4_ok nmX4 (by decide) fk_4_2 tw_411 (by decide) rfl (tyX4_ok 2 (by decide)) (fun _ => rfl) (fun _ => rfl) ?_
  refine PW_aload_n (pc' := 16) (q := 0) (pw_dk dc_X4_init 7 rfl) rfl rfl rfl ?_
  refine PW_iconst (pc' := 17) (v := 0) (pw_dk dc_X4_init 8 rfl) rfl (by decide) ?_
  refine PW_putI (pc' := 20) (id := 200) (ci := 4) (nn := 0) (T := TX4) (N := 6) (j := 3) (ty := tyX4 3) (pw_dk dc_X4_init 9 rfl) rfl (List.mem_of_getElem? (i := 21) rfl) rfl pi_4 tyX4_ok nmX4 (by decide) fk_4_3 tw_413 rfl (tyX4_ok 3 (by decide)) (fun _ => rfl) (fun _ => rfl) ?_
  refine PW_aload_n (pc' := 21) (q := 0) (pw_dk dc_X4_init 10 rfl) rfl rfl rfl ?_
  refine PW_iconst (pc' := 22) (v := 0) (pw_dk dc_X4_init 11 rfl) rfl (by decide) ?_
  refine PW_putI (pc' := 25) (id := 200) (ci := 4) (nn := 0) (T := TX4) (N := 6) (j := 4) (ty := tyX4 4) (pw_dk dc_X4_init 12 rfl) rfl (List.mem_of_getElem? (i := 21) rfl) rfl pi_4 tyX4_ok nmX4 (by decide) fk_4_4 tw_414 rfl (tyX4_ok 4 (by decide)) (fun _ => rfl) (fun _ => rfl) ?_
  refine PW_aload_n (pc' := 26) (q := 0) (pw_dk dc_X4_init 13 rfl) rfl rfl rfl ?_
  refine PW_iconst (pc' := 27) (v := 0) (pw_dk dc_X4_init 14 rfl) rfl (by decide) ?_
  refine PW_putI (pc' := 30) (id := 200) (ci := 4) (nn := 0) (T := TX4) (N := 6) (j := 5) (ty := tyX4 5) (pw_dk dc_X4_init 15 rfl) rfl (List.mem_of_getElem? (i := 21) rfl) rfl pi_4 tyX4_ok nmX4 (by decide) fk_4_5 tw_415 rfl (tyX4_ok 5 (by decide)) (fun _ => rfl) (fun _ => rfl) ?_
  refine PW_aload_n (pc' := 31) (q := 0) (pw_dk dc_X4_init 16 rfl) rfl rfl rfl ?_
  refine KW_new (pc' := 34) (id := 500) (ci := 7) (k' := 20) (n' := 331) (al' := aC 42) (pw_dk dc_X4_init 17 rfl) rfl rfl pi_7 tyX7_ok tw_297 tw_298 tw_125 (by decide +kernel) rfl rfl (by decide) (by decide) rfl (Or.inr ⟨(1408, 13, 7), List.mem_of_getElem? (i := 40) rfl, rfl⟩) rfl ?_
  refine PW_dup (pc' := 35) (pw_dk dc_X4_init 18 rfl) rfl rfl ?_
  refine PW_aload_n (pc' := 36) (q := 1) (pw_dk dc_X4_init 19 rfl) rfl rfl rfl ?_
  refine KW_callI (pc' := 39) (y := yX7_init) (M' := mX7_init) (d' := 5) (As := [.ref 101]) (st := [.ref 500, .ref 200]) (b := 500) (mc' := 1) (ms' := 34) (ord' := [502]) (k' := 21) (n' := 365) (al' := aC 43) (σ' := g_X7_init_500 (pw_nw (pw_wI (pw_wI (pw_wI (pw_wR (g_X8_init_400 (pw_nw (σ) 400)) 200 2 400) 200 3 0) 200 4 0) 200 5 0) 500)) tw_300 rfl rfl (pw_dk dc_X4_init 20 rfl) rfl YI_X7_init tw_299 rfl (by decide) (by decide) rfl rfl ⟨by decide, by decide⟩ (pw_ord [400, 403, 404, 405, 408, 409, 410, 411, 413, 414, 415, 416, 1400, 1403, 1404, 1405, 1406, 1407, 1408, 500, 502, 600] 20 1) (Or.inr ⟨(500, 7, 0), List.mem_of_getElem? (i := 41) rfl, rfl⟩) (fun Q' hq' => k_X7_init_500 (pw_nw (pw_wI (pw_wI (pw_wI (pw_wR (g_X8_init_400 (pw_nw (σ) 400)) 200 2 400) 200 3 0) 200 4 0) 200 5 0) 500) _ hq') ?_
  refine PW_putFR (pc' := 42) (id := 200) (ci := 4) (nn := 0) (T := TX4) (N := 6) (j := 0) (ty := tyX4 0) (pw_dk dc_X4_init 21 rfl) rfl (List.mem_of_getElem? (i := 21) rfl) rfl pi_4 tyX4_ok nmX4 (by decide) fk_4_0 tw_408 (by decide) rfl rfl (tyX4_ok 0 (by decide)) (fun _ => rfl) (fun _ => rfl) rfl ?_
  refine PW_aload_n (pc' := 43) (q := 0) (pw_dk dc_X4_init 22 rfl) rfl rfl rfl ?_
  refine KW_new (pc' := 46) (id := 600) (ci := 6) (k' := 22) (n' := 367) (al' := aC 44) (pw_dk dc_X4_init 23 rfl) rfl rfl pi_6 tyX6_ok tw_394 tw_395 tw_130 (by decide +kernel) rfl rfl (by decide) (by decide) rfl (Or.inr ⟨(502, 13, 34), List.mem_of_getElem? (i := 42) rfl, rfl⟩) rfl ?_
  refine PW_dup (pc' := 47) (pw_dk dc_X4_init 24 rfl) rfl rfl ?_
  refine PW_aload_n (pc' := 48) (q := 0) (pw_dk dc_X4_init 25 rfl) rfl rfl rfl ?_
  refine PW_getR (pc' := 51) (id := 200) (ci := 4) (nn := 0) (T := TX4) (N := 6) (j := 0) (r := 500) (pw_dk dc_X4_init 26 rfl) rfl (List.mem_of_getElem? (i := 21) rfl) rfl pi_4 (by decide) fk_4_0 tw_408 rfl (by decide) ?_
  refine PW_aload_n (pc' := 52) (q := 0) (pw_dk dc_X4_init 27 rfl) rfl rfl rfl ?_
  refine PW_getR (pc' := 55) (id := 200) (ci := 4) (nn := 0) (T := TX4) (N := 6) (j := 2) (r := 400) (pw_dk dc_X4_init 28 rfl) rfl (List.mem_of_getElem? (i := 21) rfl) rfl pi_4 (by decide) fk_4_2 tw_411 rfl (by decide) ?_
  refine PW_getR (pc' := 58) (id := 400) (ci := 8) (nn := 0) (T := TX8) (N := 18) (j := 17) (r := 1400) (pw_dk dc_X4_init 29 rfl) rfl (List.mem_of_getElem? (i := 22) rfl) rfl pi_8 (by decide) fk_8_17 tw_248 rfl (by decide) ?_
  refine KW_callI (pc' := 61) (y := yX6_init) (M' := mX6_init) (d' := 1) (As := [.ref 500, .ref 1400]) (st := [.ref 600, .ref 200]) (b := 600) (mc' := 0) (ms' := 0) (ord' := []) (k' := 22) (n' := 367) (al' := aC 44) (σ' := g_X6_init_600 (pw_nw (pw_wR (g_X7_init_500 (pw_nw (pw_wI (pw_wI (pw_wI (pw_wR (g_X8_init_400 (pw_nw (σ) 400)) 200 2 400) 200 3 0) 200 4 0) 200 5 0) 500)) 200 0 500) 600)) tw_397 rfl rfl (pw_dk dc_X4_init 30 rfl) rfl YI_X6_init tw_396 rfl (by decide) (by decide) rfl rfl ⟨by decide, by decide⟩ (pw_ord [400, 403, 404, 405, 408, 409, 410, 411, 413, 414, 415, 416, 1400, 1403, 1404, 1405, 1406, 1407, 1408, 500, 502, 600] 22 0) (Or.inr ⟨(600, 6, 0), List.mem_of_getElem? (i := 43) rfl, rfl⟩) (fun Q' hq' => k_X6_init_600 (pw_nw (pw_wR (g_X7_init_500 (pw_nw (pw_wI (pw_wI (pw_wI (pw_wR (g_X8_init_400 (pw_nw (σ) 400)) 200 2 400) 200 3 0) 200 4 0) 200 5 0) 500)) 200 0 500) 600) _ hq') ?_
  refine PW_putFR (pc' := 64) (id := 200) (ci := 4) (nn := 0) (T := TX4) (N := 6) (j := 1) (ty := tyX4 1) (pw_dk dc_X4_init 31 rfl) rfl (List.mem_of_getElem? (i := 21) rfl) rfl pi_4 tyX4_ok nmX4 (by decide) fk_4_1 tw_410 (by decide) rfl rfl (tyX4_ok 1 (by decide)) (fun _ => rfl) (fun _ => rfl) rfl ?_
  exact PW_vret (pw_dk dc_X4_init 32 rfl) rfl h
def g_X5_init_1000 (σ : pS) : pS := pw_wR (pw_wI (pw_wI (σ) 1000 1 (-1 : Int32)) 1000 2 (-1 : Int32)) 1000 0 300
theorem k_X5_init_1000 (σ : pS) (Q : Option Value → pAL × pS → Prop) (h : Q none (aC 45, g_X5_init_1000 σ)) : PC yX5_init mX5_init 1 [] 0 0 [.ref 1000, .ref 300] (aC 45) σ Q := by
  refine PC_ofF (by decide +kernel) rfl rfl (Nat.le_of_ble_eq_true rfl) ?_
  show PW mX5_init 1 [] 0 0 Q 0 [(0, .ref 1000), (1, .ref 300)] [] (aC 45) 0 0 σ
  refine PW_aload_n (pc' := 1) (q := 0) (pw_dk dc_X5_init 0 rfl) rfl rfl rfl ?_
  refine PW_obj (pc' := 4) (b := 1000) (st := []) (pw_dk dc_X5_init 1 rfl) rfl tw_434 tw_152 tw_153 (by decide) (by decide) ?_
  refine PW_aload_n (pc' := 5) (q := 0) (pw_dk dc_X5_init 2 rfl) rfl rfl rfl ?_
  refine PW_iconst (pc' := 6) (v := (-1 : Int32)) (pw_dk dc_X5_init 3 rfl) rfl (by decide) ?_
  refine PW_putI (pc' := 9) (id := 1000) (ci := 5) (nn := 0) (T := TX5) (N := 3) (j := 1) (ty := tyX5 1) (pw_dk dc_X5_init 4 rfl) rfl (List.mem_of_getElem? (i := 44) rfl) rfl pi_5 tyX5_ok nmX5 (by decide) fk_5_1 tw_437 rfl (tyX5_ok 1 (by decide)) (fun _ => rfl) (fun _ => rfl) ?_
  refine PW_aload_n (pc' := 10) (q := 0) (pw_dk dc_X5_init 5 rfl) rfl rfl rfl ?_
  refine PW_iconst (pc' := 11) (v := (-1 : Int32)) (pw_dk dc_X5_init 6 rfl) rfl (by decide) ?_
  refine PW_putI (pc' := 14) (id := 1000) (ci := 5) (nn := 0) (T := TX5) (N := 3) (j := 2) (ty := tyX5 2) (pw_dk dc_X5_init 7 rfl) rfl (List.mem_of_getElem? (i := 44) rfl) rfl pi_5 tyX5_ok nmX5 (by decide) fk_5_2 tw_439 rfl (tyX5_ok 2 (by decide)) (fun _ => rfl) (fun _ => rfl) ?_
  refine PW_aload_n (pc' := 15) (q := 0) (pw_dk dc_X5_init 8 rfl) rfl rfl rfl ?_
  refine PW_aload_n (pc' := 16) (q := 1) (pw_dk dc_X5_init 9 rfl) rfl rfl rfl ?_
  refine PW_putR (pc' := 19) (id := 1000) (ci := 5) (nn := 0) (T := TX5) (N := 3) (j := 0) (ty := tyX5 0) (pw_dk dc_X5_init 10 rfl) rfl (List.mem_of_getElem? (i := 44) rfl) rfl pi_5 tyX5_ok nmX5 (by decide) fk_5_0 tw_435 (by decide) rfl (tyX5_ok 0 (by decide)) (fun _ => rfl) (fun _ => rfl) ?_
  exact PW_vret (pw_dk dc_X5_init 11 rfl) rfl h
def g_X0_init_700 (σ : pS) : pS := pw_wR (pw_nw (pw_wR (pw_nw (pw_wR (pw_nw (pw_wR (pw_nw (pw_wI (pw_wI (σ) 700 0 0) 700 1 0) 703) 700 2 703) 704) 700 3 704) 705) 700 4 705) 706) 700 5 706
theorem k_X0_init_700 (σ : pS) (Q : Option Value → pAL × pS → Prop) (h : Q none (aC 50, g_X0_init_700 σ)) : PC yX0_init mX0_init 1 [703, 704, 705, 706] 4 27 [.ref 700] (aC 46) σ Q := by
  refine PC_ofF (by decide +kernel) rfl rfl (Nat.le_of_ble_eq_true rfl) ?_
  show PW mX0_init 1 [703, 704, 705, 706] 4 27 Q 0 [(0, .ref 700)] [] (aC 46) 0 0 σ
  refine PW_aload_n (pc' := 1) (q := 0) (pw_dk dc_X0_init 0 rfl) rfl rfl rfl ?_
  refine PW_obj (pc' := 4) (b := 700) (st := []) (pw_dk dc_X0_init 1 rfl) rfl tw_453 tw_152 tw_153 (by decide) (by decide) ?_
  refine PW_aload_n (pc' := 5) (q := 0) (pw_dk dc_X0_init 2 rfl) rfl rfl rfl ?_
  refine PW_iconst (pc' := 6) (v := 0) (pw_dk dc_X0_init 3 rfl) rfl (by decide) ?_
  refine PW_putI (pc' := 9) (id := 700) (ci := 0) (nn := 0) (T := TX0) (N := 6) (j := 0) (ty := tyX0 0) (pw_dk dc_X0_init 4 rfl) rfl (List.mem_of_getElem? (i := 45) rfl) rfl pi_0 tyX0_ok nmX0 (by decide) fk_0_0 tw_454 rfl (tyX0_ok 0 (by decide)) (fun _ => rfl) (fun _ => rfl) ?_
  refine PW_aload_n (pc' := 10) (q := 0) (pw_dk dc_X0_init 5 rfl) rfl rfl rfl ?_
  refine PW_iconst (pc' := 11) (v := 0) (pw_dk dc_X0_init 6 rfl) rfl (by decide) ?_
  refine PW_putI (pc' := 14) (id := 700) (ci := 0) (nn := 0) (T := TX0) (N := 6) (j := 1) (ty := tyX0 1) (pw_dk dc_X0_init 7 rfl) rfl (List.mem_of_getElem? (i := 45) rfl) rfl pi_0 tyX0_ok nmX0 (by decide) fk_0_1 tw_458 rfl (tyX0_ok 1 (by decide)) (fun _ => rfl) (fun _ => rfl) ?_
  refine PW_aload_n (pc' := 15) (q := 0) (pw_dk dc_X0_init 8 rfl) rfl rfl rfl ?_
  refine PW_iconst (pc' := 16) (v := 5) (pw_dk dc_X0_init 9 rfl) rfl (by decide) ?_
  refine KW_newaI (pc' := 18) (id := 703) (N0 := 5) (k' := 1) (n' := 5) (al' := aC 47) (pw_dk dc_X0_init 10 rfl) rfl tw_194 (by decide) (by decide) (by decide) rfl rfl (by decide) (by decide) rfl (Or.inl rfl) rfl ?_
  refine PW_putFR (pc' := 21) (id := 700) (ci := 0) (nn := 0) (T := TX0) (N := 6) (j := 2) (ty := tyX0 2) (pw_dk dc_X0_init 11 rfl) rfl (List.mem_of_getElem? (i := 45) rfl) rfl pi_0 tyX0_ok nmX0 (by decide) fk_0_2 tw_461 (by decide) rfl rfl (tyX0_ok 2 (by decide)) (fun _ => rfl) (fun _ => rfl) rfl ?_
  refine PW_aload_n (pc' := 22) (q := 0) (pw_dk dc_X0_init 12 rfl) rfl rfl rfl ?_
  refine PW_iconst (pc' := 23) (v := 5) (pw_dk dc_X0_init 13 rfl) rfl (by decide) ?_
  refine KW_newaI (pc' := 25) (id := 704) (N0 := 5) (k' := 2) (n' := 10) (al' := aC 48) (pw_dk dc_X0_init 14 rfl) rfl tw_194 (by decide) (by decide) (by decide) rfl rfl (by decide) (by decide) rfl (Or.inr ⟨(703, 13, 5), List.mem_of_getElem? (i := 46) rfl, rfl⟩) rfl ?_
  refine PW_putFR (pc' := 28) (id := 700) (ci := 0) (nn := 0) (T := TX0) (N := 6) (j := 3) (ty := tyX0 3) (pw_dk dc_X0_init 15 rfl) rfl (List.mem_of_getElem? (i := 45) rfl) rfl pi_0 tyX0_ok nmX0 (by decide) fk_0_3 tw_466 (by decide) rfl rfl (tyX0_ok 3 (by decide)) (fun _ => rfl) (fun _ => rfl) rfl ?_
  refine PW_aload_n (pc' := 29) (q := 0) (pw_dk dc_X0_init 16 rfl) rfl rfl rfl ?_
  refine PW_iconst (pc' := 30) (v := 5) (pw_dk dc_X0_init 17 rfl) rfl (by decide) ?_
  refine KW_newaI (pc' := 32) (id := 705) (N0 := 5) (k' := 3) (n' := 15) (al' := aC 49) (pw_dk dc_X0_init 18 rfl) rfl tw_194 (by decide) (by decide) (by decide) rfl rfl (by decide) (by decide) rfl (Or.inr ⟨(704, 13, 5), List.mem_of_getElem? (i := 47) rfl, rfl⟩) rfl ?_
  refine PW_putFR (pc' := 35) (id := 700) (ci := 0) (nn := 0) (T := TX0) (N := 6) (j := 4) (ty := tyX0 4) (pw_dk dc_X0_init 19 rfl) rfl (List.mem_of_getElem? (i := 45) rfl) rfl pi_0 tyX0_ok nmX0 (by decide) fk_0_4 tw_469 (by decide) rfl rfl (tyX0_ok 4 (by decide)) (fun _ => rfl) (fun _ => rfl) rfl ?_
  refine PW_aload_n (pc' := 36) (q := 0) (pw_dk dc_X0_init 20 rfl) rfl rfl rfl ?_
  refine PW_bipush (pc' := 38) (v := 12) (pw_dk dc_X0_init 21 rfl) rfl (by decide) ?_
  refine KW_newaI (pc' := 40) (id := 706) (N0 := 12) (k' := 4) (n' := 27) (al' := aC 50) (pw_dk dc_X0_init 22 rfl) rfl tw_194 (by decide) (by decide) (by decide) rfl rfl (by decide) (by decide) rfl (Or.inr ⟨(705, 13, 5), List.mem_of_getElem? (i := 48) rfl, rfl⟩) rfl ?_
  refine PW_putFR (pc' := 43) (id := 700) (ci := 0) (nn := 0) (T := TX0) (N := 6) (j := 5) (ty := tyX0 5) (pw_dk dc_X0_init 23 rfl) rfl (List.mem_of_getElem? (i := 45) rfl) rfl pi_0 tyX0_ok nmX0 (by decide) fk_0_5 tw_473 (by decide) rfl rfl (tyX0_ok 5 (by decide)) (fun _ => rfl) (fun _ => rfl) rfl ?_
  exact PW_vret (pw_dk dc_X0_init 24 rfl) rfl h
def g_X0_init_800 (σ : pS) : pS := pw_wR (pw_nw (pw_wR (pw_nw (pw_wR (pw_nw (pw_wR (pw_nw (pw_wI (pw_wI (σ) 800 0 0) 800 1 0) 803) 800 2 803) 804) 800 3 804) 805) 800 4 805) 806) 800 5 806
theorem k_X0_init_800 (σ : pS) (Q : Option Value → pAL × pS → Prop) (h : Q none (aC 55, g_X0_init_800 σ)) : PC yX0_init mX0_init 1 [803, 804, 805, 806] 4 27 [.ref 800] (aC 51) σ Q := by
  refine PC_ofF (by decide +kernel) rfl rfl (Nat.le_of_ble_eq_true rfl) ?_
  show PW mX0_init 1 [803, 804, 805, 806] 4 27 Q 0 [(0, .ref 800)] [] (aC 51) 0 0 σ
  refine PW_aload_n (pc' := 1) (q := 0) (pw_dk dc_X0_init 0 rfl) rfl rfl rfl ?_
  refine PW_obj (pc' := 4) (b := 800) (st := []) (pw_dk dc_X0_init 1 rfl) rfl tw_453 tw_152 tw_153 (by decide) (by decide) ?_
  refine PW_aload_n (pc' := 5) (q := 0) (pw_dk dc_X0_init 2 rfl) rfl rfl rfl ?_
  refine PW_iconst (pc' := 6) (v := 0) (pw_dk dc_X0_init 3 rfl) rfl (by decide) ?_
  refine PW_putI (pc' := 9) (id := 800) (ci := 0) (nn := 0) (T := TX0) (N := 6) (j := 0) (ty := tyX0 0) (pw_dk dc_X0_init 4 rfl) rfl (List.mem_of_getElem? (i := 50) rfl) rfl pi_0 tyX0_ok nmX0 (by decide) fk_0_0 tw_454 rfl (tyX0_ok 0 (by decide)) (fun _ => rfl) (fun _ => rfl) ?_
  refine PW_aload_n (pc' := 10) (q := 0) (pw_dk dc_X0_init 5 rfl) rfl rfl rfl ?_
  refine PW_iconst (pc' := 11) (v := 0) (pw_dk dc_X0_init 6 rfl) rfl (by decide) ?_
  refine PW_putI (pc' := 14) (id := 800) (ci := 0) (nn := 0) (T := TX0) (N := 6) (j := 1) (ty := tyX0 1) (pw_dk dc_X0_init 7 rfl) rfl (List.mem_of_getElem? (i := 50) rfl) rfl pi_0 tyX0_ok nmX0 (by decide) fk_0_1 tw_458 rfl (tyX0_ok 1 (by decide)) (fun _ => rfl) (fun _ => rfl) ?_
  refine PW_aload_n (pc' := 15) (q := 0) (pw_dk dc_X0_init 8 rfl) rfl rfl rfl ?_
  refine PW_iconst (pc' := 16) (v := 5) (pw_dk dc_X0_init 9 rfl) rfl (by decide) ?_
  refine KW_newaI (pc' := 18) (id := 803) (N0 := 5) (k' := 1) (n' := 5) (al' := aC 52) (pw_dk dc_X0_init 10 rfl) rfl tw_194 (by decide) (by decide) (by decide) rfl rfl (by decide) (by decide) rfl (Or.inl rfl) rfl ?_
  refine PW_putFR (pc' := 21) (id := 800) (ci := 0) (nn := 0) (T := TX0) (N := 6) (j := 2) (ty := tyX0 2) (pw_dk dc_X0_init 11 rfl) rfl (List.mem_of_getElem? (i := 50) rfl) rfl pi_0 tyX0_ok nmX0 (by decide) fk_0_2 tw_461 (by decide) rfl rfl (tyX0_ok 2 (by decide)) (fun _ => rfl) (fun _ => rfl) rfl ?_
  refine PW_aload_n (pc' := 22) (q := 0) (pw_dk dc_X0_init 12 rfl) rfl rfl rfl ?_
  refine PW_iconst (pc' := 23) (v := 5) (pw_dk dc_X0_init 13 rfl) rfl (by decide) ?_
  refine KW_newaI (pc' := 25) (id := 804) (N0 := 5) (k' := 2) (n' := 10) (al' := aC 53) (pw_dk dc_X0_init 14 rfl) rfl tw_194 (by decide) (by decide) (by decide) rfl rfl (by decide) (by decide) rfl (Or.inr ⟨(803, 13, 5), List.mem_of_getElem? (i := 51) rfl, rfl⟩) rfl ?_
  refine PW_putFR (pc' := 28) (id := 800) (ci := 0) (nn := 0) (T := TX0) (N := 6) (j := 3) (ty := tyX0 3) (pw_dk dc_X0_init 15 rfl) rfl (List.mem_of_getElem? (i := 50) rfl) rfl pi_0 tyX0_ok nmX0 (by decide) fk_0_3 tw_466 (by decide) rfl rfl (tyX0_ok 3 (by decide)) (fun _ => rfl) (fun _ => rfl) rfl ?_
  refine PW_aload_n (pc' := 29) (q := 0) (pw_dk dc_X0_init 16 rfl) rfl rfl rfl ?_
  refine PW_iconst (pc' := 30) (v := 5) (pw_dk dc_X0_init 17 rfl) rfl (by decide) ?_
  refine KW_newaI (pc' := 32) (id := 805) (N0 := 5) (k' := 3) (n' := 15) (al' := aC 54) (pw_dk dc_X0_init 18 rfl) rfl tw_194 (by decide) (by decide) (by decide) rfl rfl (by decide) (by decide) rfl (Or.inr ⟨(804, 13, 5), List.mem_of_getElem? (i := 52) rfl, rfl⟩) rfl ?_
  refine PW_putFR (pc' := 35) (id := 800) (ci := 0) (nn := 0) (T := TX0) (N := 6) (j := 4) (ty := tyX0 4) (pw_dk dc_X0_init 19 rfl) rfl (List.mem_of_getElem? (i := 50) rfl) rfl pi_0 tyX0_ok nmX0 (by decide) fk_0_4 tw_469 (by decide) rfl rfl (tyX0_ok 4 (by decide)) (fun _ => rfl) (fun _ => rfl) rfl ?_
  refine PW_aload_n (pc' := 36) (q := 0) (pw_dk dc_X0_init 20 rfl) rfl rfl rfl ?_
  refine PW_bipush (pc' := 38) (v := 12) (pw_dk dc_X0_init 21 rfl) rfl (by decide) ?_
  refine KW_newaI (pc' := 40) (id := 806) (N0 := 12) (k' := 4) (n' := 27) (al' := aC 55) (pw_dk dc_X0_init 22 rfl) rfl tw_194 (by decide) (by decide) (by decide) rfl rfl (by decide) (by decide) rfl (Or.inr ⟨(805, 13, 5), List.mem_of_getElem? (i := 53) rfl, rfl⟩) rfl ?_
  refine PW_putFR (pc' := 43) (id := 800) (ci := 0) (nn := 0) (T := TX0) (N := 6) (j := 5) (ty := tyX0 5) (pw_dk dc_X0_init 23 rfl) rfl (List.mem_of_getElem? (i := 50) rfl) rfl pi_0 tyX0_ok nmX0 (by decide) fk_0_5 tw_473 (by decide) rfl rfl (tyX0_ok 5 (by decide)) (fun _ => rfl) (fun _ => rfl) rfl ?_
  exact PW_vret (pw_dk dc_X0_init 24 rfl) rfl h
def g_X0_init_900 (σ : pS) : pS := pw_wR (pw_nw (pw_wR (pw_nw (pw_wR (pw_nw (pw_wR (pw_nw (pw_wI (pw_wI (σ) 900 0 0) 900 1 0) 903) 900 2 903) 904) 900 3 904) 905) 900 4 905) 906) 900 5 906
theorem k_X0_init_900 (σ : pS) (Q : Option Value → pAL × pS → Prop) (h : Q none (aC 60, g_X0_init_900 σ)) : PC yX0_init mX0_init 1 [903, 904, 905, 906] 4 27 [.ref 900] (aC 56) σ Q := by
  refine PC_ofF (by decide +kernel) rfl rfl (Nat.le_of_ble_eq_true rfl) ?_
  show PW mX0_init 1 [903, 904, 905, 906] 4 27 Q 0 [(0, .ref 900)] [] (aC 56) 0 0 σ
  refine PW_aload_n (pc' := 1) (q := 0) (pw_dk dc_X0_init 0 rfl) rfl rfl rfl ?_
  refine PW_obj (pc' := 4) (b := 900) (st := []) (pw_dk dc_X0_init 1 rfl) rfl tw_453 tw_152 tw_153 (by decide) (by decide) ?_
  refine PW_aload_n (pc' := 5) (q := 0) (pw_dk dc_X0_init 2 rfl) rfl rfl rfl ?_
  refine PW_iconst (pc' := 6) (v := 0) (pw_dk dc_X0_init 3 rfl) rfl (by decide) ?_
  refine PW_putI (pc' := 9) (id := 900) (ci := 0) (nn := 0) (T := TX0) (N := 6) (j := 0) (ty := tyX0 0) (pw_dk dc_X0_init 4 rfl) rfl (List.mem_of_getElem? (i := 55) rfl) rfl pi_0 tyX0_ok nmX0 (by decide) fk_0_0 tw_454 rfl (tyX0_ok 0 (by decide)) (fun _ => rfl) (fun _ => rfl) ?_
  refine PW_aload_n (pc' := 10) (q := 0) (pw_dk dc_X0_init 5 rfl) rfl rfl rfl ?_
  refine PW_iconst (pc' := 11) (v := 0) (pw_dk dc_X0_init 6 rfl) rfl (by decide) ?_
  refine PW_putI (pc' := 14) (id := 900) (ci := 0) (nn := 0) (T := TX0) (N := 6) (j := 1) (ty := tyX0 1) (pw_dk dc_X0_init 7 rfl) rfl (List.mem_of_getElem? (i := 55) rfl) rfl pi_0 tyX0_ok nmX0 (by decide) fk_0_1 tw_458 rfl (tyX0_ok 1 (by decide)) (fun _ => rfl) (fun _ => rfl) ?_
  refine PW_aload_n (pc' := 15) (q := 0) (pw_dk dc_X0_init 8 rfl) rfl rfl rfl ?_
  refine PW_iconst (pc' := 16) (v := 5) (pw_dk dc_X0_init 9 rfl) rfl (by decide) ?_
  refine KW_newaI (pc' := 18) (id := 903) (N0 := 5) (k' := 1) (n' := 5) (al' := aC 57) (pw_dk dc_X0_init 10 rfl) rfl tw_194 (by decide) (by decide) (by decide) rfl rfl (by decide) (by decide) rfl (Or.inl rfl) rfl ?_
  refine PW_putFR (pc' := 21) (id := 900) (ci := 0) (nn := 0) (T := TX0) (N := 6) (j := 2) (ty := tyX0 2) (pw_dk dc_X0_init 11 rfl) rfl (List.mem_of_getElem? (i := 55) rfl) rfl pi_0 tyX0_ok nmX0 (by decide) fk_0_2 tw_461 (by decide) rfl rfl (tyX0_ok 2 (by decide)) (fun _ => rfl) (fun _ => rfl) rfl ?_
  refine PW_aload_n (pc' := 22) (q := 0) (pw_dk dc_X0_init 12 rfl) rfl rfl rfl ?_
  refine PW_iconst (pc' := 23) (v := 5) (pw_dk dc_X0_init 13 rfl) rfl (by decide) ?_
  refine KW_newaI (pc' := 25) (id := 904) (N0 := 5) (k' := 2) (n' := 10) (al' := aC 58) (pw_dk dc_X0_init 14 rfl) rfl tw_194 (by decide) (by decide) (by decide) rfl rfl (by decide) (by decide) rfl (Or.inr ⟨(903, 13, 5), List.mem_of_getElem? (i := 56) rfl, rfl⟩) rfl ?_
  refine PW_putFR (pc' := 28) (id := 900) (ci := 0) (nn := 0) (T := TX0) (N := 6) (j := 3) (ty := tyX0 3) (pw_dk dc_X0_init 15 rfl) rfl (List.mem_of_getElem? (i := 55) rfl) rfl pi_0 tyX0_ok nmX0 (by decide) fk_0_3 tw_466 (by decide) rfl rfl (tyX0_ok 3 (by decide)) (fun _ => rfl) (fun _ => rfl) rfl ?_
  refine PW_aload_n (pc' := 29) (q := 0) (pw_dk dc_X0_init 16 rfl) rfl rfl rfl ?_
  refine PW_iconst (pc' := 30) (v := 5) (pw_dk dc_X0_init 17 rfl) rfl (by decide) ?_
  refine KW_newaI (pc' := 32) (id := 905) (N0 := 5) (k' := 3) (n' := 15) (al' := aC 59) (pw_dk dc_X0_init 18 rfl) rfl tw_194 (by decide) (by decide) (by decide) rfl rfl (by decide) (by decide) rfl (Or.inr ⟨(904, 13, 5), List.mem_of_getElem? (i := 57) rfl, rfl⟩) rfl ?_
  refine PW_putFR (pc' := 35) (id := 900) (ci := 0) (nn := 0) (T := TX0) (N := 6) (j := 4) (ty := tyX0 4) (pw_dk dc_X0_init 19 rfl) rfl (List.mem_of_getElem? (i := 55) rfl) rfl pi_0 tyX0_ok nmX0 (by decide) fk_0_4 tw_469 (by decide) rfl rfl (tyX0_ok 4 (by decide)) (fun _ => rfl) (fun _ => rfl) rfl ?_
  refine PW_aload_n (pc' := 36) (q := 0) (pw_dk dc_X0_init 20 rfl) rfl rfl rfl ?_
  refine PW_bipush (pc' := 38) (v := 12) (pw_dk dc_X0_init 21 rfl) rfl (by decide) ?_
  refine KW_newaI (pc' := 40) (id := 906) (N0 := 12) (k' := 4) (n' := 27) (al' := aC 60) (pw_dk dc_X0_init 22 rfl) rfl tw_194 (by decide) (by decide) (by decide) rfl rfl (by decide) (by decide) rfl (Or.inr ⟨(905, 13, 5), List.mem_of_getElem? (i := 58) rfl, rfl⟩) rfl ?_
  refine PW_putFR (pc' := 43) (id := 900) (ci := 0) (nn := 0) (T := TX0) (N := 6) (j := 5) (ty := tyX0 5) (pw_dk dc_X0_init 23 rfl) rfl (List.mem_of_getElem? (i := 55) rfl) rfl pi_0 tyX0_ok nmX0 (by decide) fk_0_5 tw_473 (by decide) rfl rfl (tyX0_ok 5 (by decide)) (fun _ => rfl) (fun _ => rfl) rfl ?_
  exact PW_vret (pw_dk dc_X0_init 24 rfl) rfl h
def g_X9_init_1100 (σ : pS) : pS := pw_wR (pw_nw (pw_wR (pw_nw (pw_wR (pw_nw (pw_wR (pw_nw (pw_wR (pw_nw (pw_wI (σ) 1100 0 0) 1102) 1100 1 1102) 1103) 1100 2 1103) 1104) 1100 3 1104) 1105) 1100 4 1105) 1106) 1100 5 1106
theorem k_X9_init_1100 (σ : pS) (Q : Option Value → pAL × pS → Prop) (h : Q none (aC 66, g_X9_init_1100 σ)) : PC yX9_init mX9_init 1 [1102, 1103, 1104, 1105, 1106] 5 100 [.ref 1100] (aC 61) σ Q := by
  refine PC_ofF (by decide +kernel) rfl rfl (Nat.le_of_ble_eq_true rfl) ?_
  show PW mX9_init 1 [1102, 1103, 1104, 1105, 1106] 5 100 Q 0 [(0, .ref 1100)] [] (aC 61) 0 0 σ
  refine PW_aload_n (pc' := 1) (q := 0) (pw_dk dc_X9_init 0 rfl) rfl rfl rfl ?_
  refine PW_obj (pc' := 4) (b := 1100) (st := []) (pw_dk dc_X9_init 1 rfl) rfl tw_494 tw_152 tw_153 (by decide) (by decide) ?_
  refine PW_aload_n (pc' := 5) (q := 0) (pw_dk dc_X9_init 2 rfl) rfl rfl rfl ?_
  refine PW_iconst (pc' := 6) (v := 0) (pw_dk dc_X9_init 3 rfl) rfl (by decide) ?_
  refine PW_putI (pc' := 9) (id := 1100) (ci := 9) (nn := 0) (T := TX9) (N := 6) (j := 0) (ty := tyX9 0) (pw_dk dc_X9_init 4 rfl) rfl (List.mem_of_getElem? (i := 60) rfl) rfl pi_9 tyX9_ok nmX9 (by decide) fk_9_0 tw_495 rfl (tyX9_ok 0 (by decide)) (fun _ => rfl) (fun _ => rfl) ?_
  refine PW_aload_n (pc' := 10) (q := 0) (pw_dk dc_X9_init 5 rfl) rfl rfl rfl ?_
  refine PW_bipush (pc' := 12) (v := 20) (pw_dk dc_X9_init 6 rfl) rfl (by decide) ?_
  refine KW_newaI (pc' := 14) (id := 1102) (N0 := 20) (k' := 1) (n' := 20) (al' := aC 62) (pw_dk dc_X9_init 7 rfl) rfl tw_194 (by decide) (by decide) (by decide) rfl rfl (by decide) (by decide) rfl (Or.inl rfl) rfl ?_
  refine PW_putFR (pc' := 17) (id := 1100) (ci := 9) (nn := 0) (T := TX9) (N := 6) (j := 1) (ty := tyX9 1) (pw_dk dc_X9_init 8 rfl) rfl (List.mem_of_getElem? (i := 60) rfl) rfl pi_9 tyX9_ok nmX9 (by decide) fk_9_1 tw_497 (by decide) rfl rfl (tyX9_ok 1 (by decide)) (fun _ => rfl) (fun _ => rfl) rfl ?_
  refine PW_aload_n (pc' := 18) (q := 0) (pw_dk dc_X9_init 9 rfl) rfl rfl rfl ?_
  refine PW_bipush (pc' := 20) (v := 20) (pw_dk dc_X9_init 10 rfl) rfl (by decide) ?_
  refine KW_newaI (pc' := 22) (id := 1103) (N0 := 20) (k' := 2) (n' := 40) (al' := aC 63) (pw_dk dc_X9_init 11 rfl) rfl tw_194 (by decide) (by decide) (by decide) rfl rfl (by decide) (by decide) rfl (Or.inr ⟨(1102, 13, 20), List.mem_of_getElem? (i := 61) rfl, rfl⟩) rfl ?_
  refine PW_putFR (pc' := 25) (id := 1100) (ci := 9) (nn := 0) (T := TX9) (N := 6) (j := 2) (ty := tyX9 2) (pw_dk dc_X9_init 12 rfl) rfl (List.mem_of_getElem? (i := 60) rfl) rfl pi_9 tyX9_ok nmX9 (by decide) fk_9_2 tw_498 (by decide) rfl rfl (tyX9_ok 2 (by decide)) (fun _ => rfl) (fun _ => rfl) rfl ?_
  refine PW_aload_n (pc' := 26) (q := 0) (pw_dk dc_X9_init 13 rfl) rfl rfl rfl ?_
  refine PW_bipush (pc' := 28) (v := 20) (pw_dk dc_X9_init 14 rfl) rfl (by decide) ?_
  refine KW_newaI (pc' := 30) (id := 1104) (N0 := 20) (k' := 3) (n' := 60) (al' := aC 64) (pw_dk dc_X9_init 15 rfl) rfl tw_194 (by decide) (by decide) (by decide) rfl rfl (by decide) (by decide) rfl (Or.inr ⟨(1103, 13, 20), List.mem_of_getElem? (i := 62) rfl, rfl⟩) rfl ?_
  refine PW_putFR (pc' := 33) (id := 1100) (ci := 9) (nn := 0) (T := TX9) (N := 6) (j := 3) (ty := tyX9 3) (pw_dk dc_X9_init 16 rfl) rfl (List.mem_of_getElem? (i := 60) rfl) rfl pi_9 tyX9_ok nmX9 (by decide) fk_9_3 tw_499 (by decide) rfl rfl (tyX9_ok 3 (by decide)) (fun _ => rfl) (fun _ => rfl) rfl ?_
  refine PW_aload_n (pc' := 34) (q := 0) (pw_dk dc_X9_init 17 rfl) rfl rfl rfl ?_
  refine PW_bipush (pc' := 36) (v := 20) (pw_dk dc_X9_init 18 rfl) rfl (by decide) ?_
  refine KW_newaI (pc' := 38) (id := 1105) (N0 := 20) (k' := 4) (n' := 80) (al' := aC 65) (pw_dk dc_X9_init 19 rfl) rfl tw_194 (by decide) (by decide) (by decide) rfl rfl (by decide) (by decide) rfl (Or.inr ⟨(1104, 13, 20), List.mem_of_getElem? (i := 63) rfl, rfl⟩) rfl ?_
  refine PW_putFR (pc' := 41) (id := 1100) (ci := 9) (nn := 0) (T := TX9) (N := 6) (j := 4) (ty := tyX9 4) (pw_dk dc_X9_init 20 rfl) rfl (List.mem_of_getElem? (i := 60) rfl) rfl pi_9 tyX9_ok nmX9 (by decide) fk_9_4 tw_500 (by decide) rfl rfl (tyX9_ok 4 (by decide)) (fun _ => rfl) (fun _ => rfl) rfl ?_
  refine PW_aload_n (pc' := 42) (q := 0) (pw_dk dc_X9_init 21 rfl) rfl rfl rfl ?_
  refine PW_bipush (pc' := 44) (v := 20) (pw_dk dc_X9_init 22 rfl) rfl (by decide) ?_
  refine KW_newaI (pc' := 46) (id := 1106) (N0 := 20) (k' := 5) (n' := 100) (al' := aC 66) (pw_dk dc_X9_init 23 rfl) rfl tw_194 (by decide) (by decide) (by decide) rfl rfl (by decide) (by decide) rfl (Or.inr ⟨(1105, 13, 20), List.mem_of_getElem? (i := 64) rfl, rfl⟩) rfl ?_
  refine PW_putFR (pc' := 49) (id := 1100) (ci := 9) (nn := 0) (T := TX9) (N := 6) (j := 5) (ty := tyX9 5) (pw_dk dc_X9_init 24 rfl) rfl (List.mem_of_getElem? (i := 60) rfl) rfl pi_9 tyX9_ok nmX9 (by decide) fk_9_5 tw_501 (by decide) rfl rfl (tyX9_ok 5 (by decide)) (fun _ => rfl) (fun _ => rfl) rfl ?_
  exact PW_vret (pw_dk dc_X9_init 25 rfl) rfl h
def g_X3_init_1200 (σ : pS) : pS := pw_wR (pw_nw (pw_wR (pw_nw (pw_wR (pw_nw (pw_wR (pw_nw (pw_wR (pw_nw (pw_wR (pw_nw (pw_wR (pw_nw (pw_wI (pw_wI (σ) 1200 0 0) 1200 1 (-1 : Int32)) 1203) 1200 2 1203) 1204) 1200 3 1204) 1205) 1200 4 1205) 1206) 1200 5 1206) 1207) 1200 6 1207) 1208) 1200 7 1208) 1209) 1200 8 1209
theorem k_X3_init_1200 (σ : pS) (Q : Option Value → pAL × pS → Prop) (h : Q none (aC 74, g_X3_init_1200 σ)) : PC yX3_init mX3_init 1 [1203, 1204, 1205, 1206, 1207, 1208, 1209] 7 144 [.ref 1200] (aC 67) σ Q := by
  refine PC_ofF (by decide +kernel) rfl rfl (Nat.le_of_ble_eq_true rfl) ?_
  show PW mX3_init 1 [1203, 1204, 1205, 1206, 1207, 1208, 1209] 7 144 Q 0 [(0, .ref 1200)] [] (aC 67) 0 0 σ
  refine PW_aload_n (pc' := 1) (q := 0) (pw_dk dc_X3_init 0 rfl) rfl rfl rfl ?_
  refine PW_obj (pc' := 4) (b := 1200) (st := []) (pw_dk dc_X3_init 1 rfl) rfl tw_520 tw_152 tw_153 (by decide) (by decide) ?_
  refine PW_aload_n (pc' := 5) (q := 0) (pw_dk dc_X3_init 2 rfl) rfl rfl rfl ?_
  refine PW_iconst (pc' := 6) (v := 0) (pw_dk dc_X3_init 3 rfl) rfl (by decide) ?_
  refine PW_putI (pc' := 9) (id := 1200) (ci := 3) (nn := 0) (T := TX3) (N := 9) (j := 0) (ty := tyX3 0) (pw_dk dc_X3_init 4 rfl) rfl (List.mem_of_getElem? (i := 66) rfl) rfl pi_3 tyX3_ok nmX3 (by decide) fk_3_0 tw_521 rfl (tyX3_ok 0 (by decide)) (fun _ => rfl) (fun _ => rfl) ?_
  refine PW_aload_n (pc' := 10) (q := 0) (pw_dk dc_X3_init 5 rfl) rfl rfl rfl ?_
  refine PW_iconst (pc' := 11) (v := (-1 : Int32)) (pw_dk dc_X3_init 6 rfl) rfl (by decide) ?_
  refine PW_putI (pc' := 14) (id := 1200) (ci := 3) (nn := 0) (T := TX3) (N := 9) (j := 1) (ty := tyX3 1) (pw_dk dc_X3_init 7 rfl) rfl (List.mem_of_getElem? (i := 66) rfl) rfl pi_3 tyX3_ok nmX3 (by decide) fk_3_1 tw_523 rfl (tyX3_ok 1 (by decide)) (fun _ => rfl) (fun _ => rfl) ?_
  refine PW_aload_n (pc' := 15) (q := 0) (pw_dk dc_X3_init 8 rfl) rfl rfl rfl ?_
  refine PW_bipush (pc' := 17) (v := 24) (pw_dk dc_X3_init 9 rfl) rfl (by decide) ?_
  refine KW_newaI (pc' := 19) (id := 1203) (N0 := 24) (k' := 1) (n' := 24) (al' := aC 68) (pw_dk dc_X3_init 10 rfl) rfl tw_194 (by decide) (by decide) (by decide) rfl rfl (by decide) (by decide) rfl (Or.inl rfl) rfl ?_
  refine PW_putFR (pc' := 22) (id := 1200) (ci := 3) (nn := 0) (T := TX3) (N := 9) (j := 2) (ty := tyX3 2) (pw_dk dc_X3_init 11 rfl) rfl (List.mem_of_getElem? (i := 66) rfl) rfl pi_3 tyX3_ok nmX3 (by decide) fk_3_2 tw_525 (by decide) rfl rfl (tyX3_ok 2 (by decide)) (fun _ => rfl) (fun _ => rfl) rfl ?_
  refine PW_aload_n (pc' := 23) (q := 0) (pw_dk dc_X3_init 12 rfl) rfl rfl rfl ?_
  refine PW_bipush (pc' := 25) (v := 24) (pw_dk dc_X3_init 13 rfl) rfl (by decide) ?_
  refine KW_newaI (pc' := 27) (id := 1204) (N0 := 24) (k' := 2) (n' := 48) (al' := aC 69) (pw_dk dc_X3_init 14 rfl) rfl tw_194 (by decide) (by decide) (by decide) rfl rfl (by decide) (by decide) rfl (Or.inr ⟨(1203, 13, 24), List.mem_of_getElem? (i := 67) rfl, rfl⟩) rfl ?_
  refine PW_putFR (pc' := 30) (id := 1200) (ci := 3) (nn := 0) (T := TX3) (N := 9) (j := 3) (ty := tyX3 3) (pw_dk dc_X3_init 15 rfl) rfl (List.mem_of_getElem? (i := 66) rfl) rfl pi_3 tyX3_ok nmX3 (by decide) fk_3_3 tw_526 (by decide) rfl rfl (tyX3_ok 3 (by decide)) (fun _ => rfl) (fun _ => rfl) rfl ?_
  refine PW_aload_n (pc' := 31) (q := 0) (pw_dk dc_X3_init 16 rfl) rfl rfl rfl ?_
  refine PW_bipush (pc' := 33) (v := 24) (pw_dk dc_X3_init 17 rfl) rfl (by decide) ?_
  refine KW_newaI (pc' := 35) (id := 1205) (N0 := 24) (k' := 3) (n' := 72) (al' := aC 70) (pw_dk dc_X3_init 18 rfl) rfl tw_194 (by decide) (by decide) (by decide) rfl rfl (by decide) (by decide) rfl (Or.inr ⟨(1204, 13, 24), List.mem_of_getElem? (i := 68) rfl, rfl⟩) rfl ?_
  refine PW_putFR (pc' := 38) (id := 1200) (ci := 3) (nn := 0) (T := TX3) (N := 9) (j := 4) (ty := tyX3 4) (pw_dk dc_X3_init 19 rfl) rfl (List.mem_of_getElem? (i := 66) rfl) rfl pi_3 tyX3_ok nmX3 (by decide) fk_3_4 tw_527 (by decide) rfl rfl (tyX3_ok 4 (by decide)) (fun _ => rfl) (fun _ => rfl) rfl ?_
  refine PW_aload_n (pc' := 39) (q := 0) (pw_dk dc_X3_init 20 rfl) rfl rfl rfl ?_
  refine PW_bipush (pc' := 41) (v := 24) (pw_dk dc_X3_init 21 rfl) rfl (by decide) ?_
  refine KW_newaI (pc' := 43) (id := 1206) (N0 := 24) (k' := 4) (n' := 96) (al' := aC 71) (pw_dk dc_X3_init 22 rfl) rfl tw_194 (by decide) (by decide) (by decide) rfl rfl (by decide) (by decide) rfl (Or.inr ⟨(1205, 13, 24), List.mem_of_getElem? (i := 69) rfl, rfl⟩) rfl ?_
  refine PW_putFR (pc' := 46) (id := 1200) (ci := 3) (nn := 0) (T := TX3) (N := 9) (j := 5) (ty := tyX3 5) (pw_dk dc_X3_init 23 rfl) rfl (List.mem_of_getElem? (i := 66) rfl) rfl pi_3 tyX3_ok nmX3 (by decide) fk_3_5 tw_528 (by decide) rfl rfl (tyX3_ok 5 (by decide)) (fun _ => rfl) (fun _ => rfl) rfl ?_
  refine PW_aload_n (pc' := 47) (q := 0) (pw_dk dc_X3_init 24 rfl) rfl rfl rfl ?_
  refine PW_bipush (pc' := 49) (v := 24) (pw_dk dc_X3_init 25 rfl) rfl (by decide) ?_
  refine KW_newaZ (pc' := 51) (id := 1207) (N0 := 24) (k' := 5) (n' := 120) (al' := aC 72) (pw_dk dc_X3_init 26 rfl) rfl tw_551 (by decide) (by decide) (by decide) rfl rfl (by decide) (by decide) rfl (Or.inr ⟨(1206, 13, 24), List.mem_of_getElem? (i := 70) rfl, rfl⟩) rfl ?_
  refine PW_putFR (pc' := 54) (id := 1200) (ci := 3) (nn := 0) (T := TX3) (N := 9) (j := 6) (ty := tyX3 6) (pw_dk dc_X3_init 27 rfl) rfl (List.mem_of_getElem? (i := 66) rfl) rfl pi_3 tyX3_ok nmX3 (by decide) fk_3_6 tw_529 (by decide) rfl rfl (tyX3_ok 6 (by decide)) (fun _ => rfl) (fun _ => rfl) rfl ?_
  refine PW_aload_n (pc' := 55) (q := 0) (pw_dk dc_X3_init 28 rfl) rfl rfl rfl ?_
  refine PW_bipush (pc' := 57) (v := 12) (pw_dk dc_X3_init 29 rfl) rfl (by decide) ?_
  refine KW_newaI (pc' := 59) (id := 1208) (N0 := 12) (k' := 6) (n' := 132) (al' := aC 73) (pw_dk dc_X3_init 30 rfl) rfl tw_194 (by decide) (by decide) (by decide) rfl rfl (by decide) (by decide) rfl (Or.inr ⟨(1207, 15, 24), List.mem_of_getElem? (i := 71) rfl, rfl⟩) rfl ?_
  refine PW_putFR (pc' := 62) (id := 1200) (ci := 3) (nn := 0) (T := TX3) (N := 9) (j := 7) (ty := tyX3 7) (pw_dk dc_X3_init 31 rfl) rfl (List.mem_of_getElem? (i := 66) rfl) rfl pi_3 tyX3_ok nmX3 (by decide) fk_3_7 tw_530 (by decide) rfl rfl (tyX3_ok 7 (by decide)) (fun _ => rfl) (fun _ => rfl) rfl ?_
  refine PW_aload_n (pc' := 63) (q := 0) (pw_dk dc_X3_init 32 rfl) rfl rfl rfl ?_
  refine PW_bipush (pc' := 65) (v := 12) (pw_dk dc_X3_init 33 rfl) rfl (by decide) ?_
  refine KW_newaI (pc' := 67) (id := 1209) (N0 := 12) (k' := 7) (n' := 144) (al' := aC 74) (pw_dk dc_X3_init 34 rfl) rfl tw_194 (by decide) (by decide) (by decide) rfl rfl (by decide) (by decide) rfl (Or.inr ⟨(1208, 13, 12), List.mem_of_getElem? (i := 72) rfl, rfl⟩) rfl ?_
  refine PW_putFR (pc' := 70) (id := 1200) (ci := 3) (nn := 0) (T := TX3) (N := 9) (j := 8) (ty := tyX3 8) (pw_dk dc_X3_init 35 rfl) rfl (List.mem_of_getElem? (i := 66) rfl) rfl pi_3 tyX3_ok nmX3 (by decide) fk_3_8 tw_531 (by decide) rfl rfl (tyX3_ok 8 (by decide)) (fun _ => rfl) (fun _ => rfl) rfl ?_
  exact PW_vret (pw_dk dc_X3_init 36 rfl) rfl h
def g_X10_init_1500 (σ : pS) : pS := pw_wR (pw_nw (pw_wR (pw_nw (pw_wR (pw_nw (pw_wR (pw_nw (pw_wR (pw_nw (pw_wR (pw_nw (pw_wI (σ) 1500 0 0) 1502) 1500 1 1502) 1503) 1500 2 1503) 1504) 1500 3 1504) 1505) 1500 4 1505) 1506) 1500 5 1506) 1507) 1500 6 1507
theorem k_X10_init_1500 (σ : pS) (Q : Option Value → pAL × pS → Prop) (h : Q none (aC 81, g_X10_init_1500 σ)) : PC yX10_init mX10_init 1 [1502, 1503, 1504, 1505, 1506, 1507] 6 796 [.ref 1500] (aC 75) σ Q := by
  refine PC_ofF (by decide +kernel) rfl rfl (Nat.le_of_ble_eq_true rfl) ?_
  show PW mX10_init 1 [1502, 1503, 1504, 1505, 1506, 1507] 6 796 Q 0 [(0, .ref 1500)] [] (aC 75) 0 0 σ
  refine PW_aload_n (pc' := 1) (q := 0) (pw_dk dc_X10_init 0 rfl) rfl rfl rfl ?_
  refine PW_obj (pc' := 4) (b := 1500) (st := []) (pw_dk dc_X10_init 1 rfl) rfl tw_557 tw_152 tw_153 (by decide) (by decide) ?_
  refine PW_aload_n (pc' := 5) (q := 0) (pw_dk dc_X10_init 2 rfl) rfl rfl rfl ?_
  refine PW_iconst (pc' := 6) (v := 0) (pw_dk dc_X10_init 3 rfl) rfl (by decide) ?_
  refine PW_putI (pc' := 9) (id := 1500) (ci := 10) (nn := 0) (T := TX10) (N := 7) (j := 0) (ty := tyX10 0) (pw_dk dc_X10_init 4 rfl) rfl (List.mem_of_getElem? (i := 74) rfl) rfl pi_10 tyX10_ok nmX10 (by decide) fk_10_0 tw_558 rfl (tyX10_ok 0 (by decide)) (fun _ => rfl) (fun _ => rfl) ?_
  refine PW_aload_n (pc' := 10) (q := 0) (pw_dk dc_X10_init 5 rfl) rfl rfl rfl ?_
  refine PW_sipush (pc' := 13) (v := 192) (pw_dk dc_X10_init 6 rfl) rfl (by decide) ?_
  refine KW_newaI (pc' := 15) (id := 1502) (N0 := 192) (k' := 1) (n' := 192) (al' := aC 76) (pw_dk dc_X10_init 7 rfl) rfl tw_194 (by decide) (by decide) (by decide) rfl rfl (by decide) (by decide) rfl (Or.inl rfl) rfl ?_
  refine PW_putFR (pc' := 18) (id := 1500) (ci := 10) (nn := 0) (T := TX10) (N := 7) (j := 1) (ty := tyX10 1) (pw_dk dc_X10_init 8 rfl) rfl (List.mem_of_getElem? (i := 74) rfl) rfl pi_10 tyX10_ok nmX10 (by decide) fk_10_1 tw_560 (by decide) rfl rfl (tyX10_ok 1 (by decide)) (fun _ => rfl) (fun _ => rfl) rfl ?_
  refine PW_aload_n (pc' := 19) (q := 0) (pw_dk dc_X10_init 9 rfl) rfl rfl rfl ?_
  refine PW_sipush (pc' := 22) (v := 192) (pw_dk dc_X10_init 10 rfl) rfl (by decide) ?_
  refine KW_newaI (pc' := 24) (id := 1503) (N0 := 192) (k' := 2) (n' := 384) (al' := aC 77) (pw_dk dc_X10_init 11 rfl) rfl tw_194 (by decide) (by decide) (by decide) rfl rfl (by decide) (by decide) rfl (Or.inr ⟨(1502, 13, 192), List.mem_of_getElem? (i := 75) rfl, rfl⟩) rfl ?_
  refine PW_putFR (pc' := 27) (id := 1500) (ci := 10) (nn := 0) (T := TX10) (N := 7) (j := 2) (ty := tyX10 2) (pw_dk dc_X10_init 12 rfl) rfl (List.mem_of_getElem? (i := 74) rfl) rfl pi_10 tyX10_ok nmX10 (by decide) fk_10_2 tw_562 (by decide) rfl rfl (tyX10_ok 2 (by decide)) (fun _ => rfl) (fun _ => rfl) rfl ?_
  refine PW_aload_n (pc' := 28) (q := 0) (pw_dk dc_X10_init 13 rfl) rfl rfl rfl ?_
  refine PW_sipush (pc' := 31) (v := 192) (pw_dk dc_X10_init 14 rfl) rfl (by decide) ?_
  refine KW_newaI (pc' := 33) (id := 1504) (N0 := 192) (k' := 3) (n' := 576) (al' := aC 78) (pw_dk dc_X10_init 15 rfl) rfl tw_194 (by decide) (by decide) (by decide) rfl rfl (by decide) (by decide) rfl (Or.inr ⟨(1503, 13, 192), List.mem_of_getElem? (i := 76) rfl, rfl⟩) rfl ?_
  refine PW_putFR (pc' := 36) (id := 1500) (ci := 10) (nn := 0) (T := TX10) (N := 7) (j := 3) (ty := tyX10 3) (pw_dk dc_X10_init 16 rfl) rfl (List.mem_of_getElem? (i := 74) rfl) rfl pi_10 tyX10_ok nmX10 (by decide) fk_10_3 tw_564 (by decide) rfl rfl (tyX10_ok 3 (by decide)) (fun _ => rfl) (fun _ => rfl) rfl ?_
  refine PW_aload_n (pc' := 37) (q := 0) (pw_dk dc_X10_init 17 rfl) rfl rfl rfl ?_
  refine PW_sipush (pc' := 40) (v := 192) (pw_dk dc_X10_init 18 rfl) rfl (by decide) ?_
  refine KW_newaI (pc' := 42) (id := 1505) (N0 := 192) (k' := 4) (n' := 768) (al' := aC 79) (pw_dk dc_X10_init 19 rfl) rfl tw_194 (by decide) (by decide) (by decide) rfl rfl (by decide) (by decide) rfl (Or.inr ⟨(1504, 13, 192), List.mem_of_getElem? (i := 77) rfl, rfl⟩) rfl ?_
  refine PW_putFR (pc' := 45) (id := 1500) (ci := 10) (nn := 0) (T := TX10) (N := 7) (j := 4) (ty := tyX10 4) (pw_dk dc_X10_init 20 rfl) rfl (List.mem_of_getElem? (i := 74) rfl) rfl pi_10 tyX10_ok nmX10 (by decide) fk_10_4 tw_565 (by decide) rfl rfl (tyX10_ok 4 (by decide)) (fun _ => rfl) (fun _ => rfl) rfl ?_
  refine PW_aload_n (pc' := 46) (q := 0) (pw_dk dc_X10_init 21 rfl) rfl rfl rfl ?_
  refine PW_bipush (pc' := 48) (v := 14) (pw_dk dc_X10_init 22 rfl) rfl (by decide) ?_
  refine KW_newaI (pc' := 50) (id := 1506) (N0 := 14) (k' := 5) (n' := 782) (al' := aC 80) (pw_dk dc_X10_init 23 rfl) rfl tw_194 (by decide) (by decide) (by decide) rfl rfl (by decide) (by decide) rfl (Or.inr ⟨(1505, 13, 192), List.mem_of_getElem? (i := 78) rfl, rfl⟩) rfl ?_
  refine PW_putFR (pc' := 53) (id := 1500) (ci := 10) (nn := 0) (T := TX10) (N := 7) (j := 5) (ty := tyX10 5) (pw_dk dc_X10_init 24 rfl) rfl (List.mem_of_getElem? (i := 74) rfl) rfl pi_10 tyX10_ok nmX10 (by decide) fk_10_5 tw_566 (by decide) rfl rfl (tyX10_ok 5 (by decide)) (fun _ => rfl) (fun _ => rfl) rfl ?_
  refine PW_aload_n (pc' := 54) (q := 0) (pw_dk dc_X10_init 25 rfl) rfl rfl rfl ?_
  refine PW_bipush (pc' := 56) (v := 14) (pw_dk dc_X10_init 26 rfl) rfl (by decide) ?_
  refine KW_newaI (pc' := 58) (id := 1507) (N0 := 14) (k' := 6) (n' := 796) (al' := aC 81) (pw_dk dc_X10_init 27 rfl) rfl tw_194 (by decide) (by decide) (by decide) rfl rfl (by decide) (by decide) rfl (Or.inr ⟨(1506, 13, 14), List.mem_of_getElem? (i := 79) rfl, rfl⟩) rfl ?_
  refine PW_putFR (pc' := 61) (id := 1500) (ci := 10) (nn := 0) (T := TX10) (N := 7) (j := 6) (ty := tyX10 6) (pw_dk dc_X10_init 28 rfl) rfl (List.mem_of_getElem? (i := 74) rfl) rfl pi_10 tyX10_ok nmX10 (by decide) fk_10_6 tw_568 (by decide) rfl rfl (tyX10_ok 6 (by decide)) (fun _ => rfl) (fun _ => rfl) rfl ?_
  exact PW_vret (pw_dk dc_X10_init 29 rfl) rfl h
def g_X1_init_1600 (σ : pS) : pS := pw_wR (pw_nw (σ) 1601) 1600 0 1601
theorem k_X1_init_1600 (σ : pS) (Q : Option Value → pAL × pS → Prop) (h : Q none (aC 83, g_X1_init_1600 σ)) : PC yX1_init mX1_init 1 [1601] 1 16 [.ref 1600] (aC 82) σ Q := by
  refine PC_ofF (by decide +kernel) rfl rfl (Nat.le_of_ble_eq_true rfl) ?_
  show PW mX1_init 1 [1601] 1 16 Q 0 [(0, .ref 1600)] [] (aC 82) 0 0 σ
  refine PW_aload_n (pc' := 1) (q := 0) (pw_dk dc_X1_init 0 rfl) rfl rfl rfl ?_
  refine PW_obj (pc' := 4) (b := 1600) (st := []) (pw_dk dc_X1_init 1 rfl) rfl tw_590 tw_152 tw_153 (by decide) (by decide) ?_
  refine PW_aload_n (pc' := 5) (q := 0) (pw_dk dc_X1_init 2 rfl) rfl rfl rfl ?_
  refine PW_bipush (pc' := 7) (v := 16) (pw_dk dc_X1_init 3 rfl) rfl (by decide) ?_
  refine KW_newaI (pc' := 9) (id := 1601) (N0 := 16) (k' := 1) (n' := 16) (al' := aC 83) (pw_dk dc_X1_init 4 rfl) rfl tw_194 (by decide) (by decide) (by decide) rfl rfl (by decide) (by decide) rfl (Or.inl rfl) rfl ?_
  refine PW_putFR (pc' := 12) (id := 1600) (ci := 1) (nn := 0) (T := TX1) (N := 1) (j := 0) (ty := tyX1 0) (pw_dk dc_X1_init 5 rfl) rfl (List.mem_of_getElem? (i := 81) rfl) rfl pi_1 tyX1_ok nmX1 (by decide) fk_1_0 tw_591 (by decide) rfl rfl (tyX1_ok 0 (by decide)) (fun _ => rfl) (fun _ => rfl) rfl ?_
  exact PW_vret (pw_dk dc_X1_init 6 rfl) rfl h
def g_X11_init_100 (σ : pS) : pS := pw_wR (g_X1_init_1600 (pw_nw (pw_wR (g_X10_init_1500 (pw_nw (pw_wR (g_X3_init_1200 (pw_nw (pw_wR (g_X9_init_1100 (pw_nw (pw_wI (pw_wR (g_X0_init_900 (pw_nw (pw_wR (g_X0_init_800 (pw_nw (pw_wR (g_X0_init_700 (pw_nw (pw_wR (g_X5_init_1000 (pw_nw (pw_wR (g_X4_init_200 (pw_nw (pw_wR (g_X8_init_300 (pw_nw (pw_wI (pw_wI (pw_wI (pw_wR (pw_nw (σ) 101) 100 0 101) 100 1 0) 100 2 0) 100 3 (-1 : Int32)) 300)) 100 4 300) 200)) 100 5 200) 1000)) 100 6 1000) 700)) 100 7 700) 800)) 100 8 800) 900)) 100 9 900) 100 10 0) 1100)) 100 11 1100) 1200)) 100 12 1200) 1500)) 100 13 1500) 1600)) 100 14 1600
theorem k_X11_init_100 (σ : pS) (Q : Option Value → pAL × pS → Prop) (h : Q none (aC 83, g_X11_init_100 σ)) : PC yX11_init mX11_init 7 [101, 300, 303, 304, 305, 308, 309, 310, 311, 313, 314, 315, 316, 1300, 1303, 1304, 1305, 1306, 1307, 1308, 200, 400, 403, 404, 405, 408, 409, 410, 411, 413, 414, 415, 416, 1400, 1403, 1404, 1405, 1406, 1407, 1408, 500, 502, 600, 1000, 700, 703, 704, 705, 706, 800, 803, 804, 805, 806, 900, 903, 904, 905, 906, 1100, 1102, 1103, 1104, 1105, 1106, 1200, 1203, 1204, 1205, 1206, 1207, 1208, 1209, 1500, 1502, 1503, 1504, 1505, 1506, 1507, 1600, 1601] 82 2575 [.ref 100] (aC 1) σ Q := by
  refine PC_ofF (by decide +kernel) rfl rfl (Nat.le_of_ble_eq_true rfl) ?_
  show PW mX11_init 7 [101, 300, 303, 304, 305, 308, 309, 310, 311, 313, 314, 315, 316, 1300, 1303, 1304, 1305, 1306, 1307, 1308, 200, 400, 403, 404, 405, 408, 409, 410, 411, 413, 414, 415, 416, 1400, 1403, 1404, 1405, 1406, 1407, 1408, 500, 502, 600, 1000, 700, 703, 704, 705, 706, 800, 803, 804, 805, 806, 900, 903, 904, 905, 906, 1100, 1102, 1103, 1104, 1105, 1106, 1200, 1203, 1204, 1205, 1206, 1207, 1208, 1209, 1500, 1502, 1503, 1504, 1505, 1506, 1507, 1600, 1601] 82 2575 Q 0 [(0, .ref 100)] [] (aC 1) 0 0 σ
  refine PW_aload_n (pc' := 1) (q := 0) (pw_dk dc_X11_init 0 rfl) rfl rfl rfl ?_
  refine PW_obj (pc' := 4) (b := 100) (st := []) (pw_dk dc_X11_init 1 rfl) rfl tw_151 tw_152 tw_153 (by decide) (by decide) ?_
  refine PW_aload_n (pc' := 5) (q := 0) (pw_dk dc_X11_init 2 rfl) rfl rfl rfl ?_
  refine PW_sipush (pc' := 8) (v := 700) (pw_dk dc_X11_init 3 rfl) rfl (by decide) ?_
  refine KW_newaI (pc' := 10) (id := 101) (N0 := 700) (k' := 1) (n' := 700) (al' := aC 2) (pw_dk dc_X11_init 4 rfl) rfl tw_194 (by decide) (by decide) (by decide) rfl rfl (by decide) (by decide) rfl (Or.inl rfl) rfl ?_
  refine PW_putFR (pc' := 13) (id := 100) (ci := 11) (nn := 0) (T := TX11) (N := 15) (j := 0) (ty := tyX11 0) (pw_dk dc_X11_init 5 rfl) rfl (List.mem_of_getElem? (i := 0) rfl) rfl pi_11 tyX11_ok nmX11 (by decide) fk_11_0 tw_595 (by decide) rfl rfl (tyX11_ok 0 (by decide)) (fun _ => rfl) (fun _ => rfl) rfl ?_
  refine PW_aload_n (pc' := 14) (q := 0) (pw_dk dc_X11_init 6 rfl) rfl rfl rfl ?_
  refine PW_iconst (pc' := 15) (v := 0) (pw_dk dc_X11_init 7 rfl) rfl (by decide) ?_
  refine PW_putI (pc' := 18) (id := 100) (ci := 11) (nn := 0) (T := TX11) (N := 15) (j := 1) (ty := tyX11 1) (pw_dk dc_X11_init 8 rfl) rfl (List.mem_of_getElem? (i := 0) rfl) rfl pi_11 tyX11_ok nmX11 (by decide) fk_11_1 tw_596 rfl (tyX11_ok 1 (by decide)) (fun _ => rfl) (fun _ => rfl) ?_
  refine PW_aload_n (pc' := 19) (q := 0) (pw_dk dc_X11_init 9 rfl) rfl rfl rfl ?_
  refine PW_iconst (pc' := 20) (v := 0) (pw_dk dc_X11_init 10 rfl) rfl (by decide) ?_
  refine PW_putI (pc' := 23) (id := 100) (ci := 11) (nn := 0) (T := TX11) (N := 15) (j := 2) (ty := tyX11 2) (pw_dk dc_X11_init 11 rfl) rfl (List.mem_of_getElem? (i := 0) rfl) rfl pi_11 tyX11_ok nmX11 (by decide) fk_11_2 tw_597 rfl (tyX11_ok 2 (by decide)) (fun _ => rfl) (fun _ => rfl) ?_
  refine PW_aload_n (pc' := 24) (q := 0) (pw_dk dc_X11_init 12 rfl) rfl rfl rfl ?_
  refine PW_iconst (pc' := 25) (v := (-1 : Int32)) (pw_dk dc_X11_init 13 rfl) rfl (by decide) ?_
  refine PW_putI (pc' := 28) (id := 100) (ci := 11) (nn := 0) (T := TX11) (N := 15) (j := 3) (ty := tyX11 3) (pw_dk dc_X11_init 14 rfl) rfl (List.mem_of_getElem? (i := 0) rfl) rfl pi_11 tyX11_ok nmX11 (by decide) fk_11_3 tw_598 rfl (tyX11_ok 3 (by decide)) (fun _ => rfl) (fun _ => rfl) ?_
  refine PW_aload_n (pc' := 29) (q := 0) (pw_dk dc_X11_init 15 rfl) rfl rfl rfl ?_
  refine KW_new (pc' := 32) (id := 300) (ci := 8) (k' := 2) (n' := 718) (al' := aC 3) (pw_dk dc_X11_init 16 rfl) rfl rfl pi_8 tyX8_ok tw_154 tw_155 tw_121 (by decide +kernel) rfl rfl (by decide) (by decide) rfl (Or.inr ⟨(101, 13, 700), List.mem_of_getElem? (i := 1) rfl, rfl⟩) rfl ?_
  refine PW_dup (pc' := 33) (pw_dk dc_X11_init 17 rfl) rfl rfl ?_
  refine KW_callI (pc' := 36) (y := yX8_init) (M' := mX8_init) (d' := 3) (As := []) (st := [.ref 300, .ref 100]) (b := 300) (mc' := 18) (ms' := 303) (ord' := [303, 304, 305, 308, 309, 310, 311, 313, 314, 315, 316, 1300, 1303, 1304, 1305, 1306, 1307, 1308]) (k' := 20) (n' := 1021) (al' := aC 21) (σ' := g_X8_init_300 (pw_nw (pw_wI (pw_wI (pw_wI (pw_wR (pw_nw (σ) 101) 100 0 101) 100 1 0) 100 2 0) 100 3 (-1 : Int32)) 300)) tw_157 rfl rfl (pw_dk dc_X11_init 18 rfl) rfl YI_X8_init tw_156 rfl (by decide) (by decide) rfl rfl ⟨by decide, by decide⟩ (pw_ord [101, 300, 303, 304, 305, 308, 309, 310, 311, 313, 314, 315, 316, 1300, 1303, 1304, 1305, 1306, 1307, 1308, 200, 400, 403, 404, 405, 408, 409, 410, 411, 413, 414, 415, 416, 1400, 1403, 1404, 1405, 1406, 1407, 1408, 500, 502, 600, 1000, 700, 703, 704, 705, 706, 800, 803, 804, 805, 806, 900, 903, 904, 905, 906, 1100, 1102, 1103, 1104, 1105, 1106, 1200, 1203, 1204, 1205, 1206, 1207, 1208, 1209, 1500, 1502, 1503, 1504, 1505, 1506, 1507, 1600, 1601] 2 18) (Or.inr ⟨(300, 8, 0), List.mem_of_getElem? (i := 2) rfl, rfl⟩) (fun Q' hq' => k_X8_init_300 (pw_nw (pw_wI (pw_wI (pw_wI (pw_wR (pw_nw (σ) 101) 100 0 101) 100 1 0) 100 2 0) 100 3 (-1 : Int32)) 300) _ hq') ?_
  refine PW_putR (pc' := 39) (id := 100) (ci := 11) (nn := 0) (T := TX11) (N := 15) (j := 4) (ty := tyX11 4) (pw_dk dc_X11_init 19 rfl) rfl (List.mem_of_getElem? (i := 0) rfl) rfl pi_11 tyX11_ok nmX11 (by decide) fk_11_4 tw_599 (by decide) rfl (tyX11_ok 4 (by decide)) (fun _ => rfl) (fun _ => rfl) ?_
  refine PW_aload_n (pc' := 40) (q := 0) (pw_dk dc_X11_init 20 rfl) rfl rfl rfl ?_
  refine KW_new (pc' := 43) (id := 200) (ci := 4) (k' := 21) (n' := 1027) (al' := aC 22) (pw_dk dc_X11_init 21 rfl) rfl rfl pi_4 tyX4_ok tw_289 tw_290 tw_124 (by decide +kernel) rfl rfl (by decide) (by decide) rfl (Or.inr ⟨(1308, 13, 7), List.mem_of_getElem? (i := 20) rfl, rfl⟩) rfl ?_
  refine PW_dup (pc' := 44) (pw_dk dc_X11_init 22 rfl) rfl rfl ?_
  refine PW_aload_n (pc' := 45) (q := 0) (pw_dk dc_X11_init 23 rfl) rfl rfl rfl ?_
  refine PW_getR (pc' := 48) (id := 100) (ci := 11) (nn := 0) (T := TX11) (N := 15) (j := 0) (r := 101) (pw_dk dc_X11_init 24 rfl) rfl (List.mem_of_getElem? (i := 0) rfl) rfl pi_11 (by decide) fk_11_0 tw_595 rfl (by decide) ?_
  refine KW_callI (pc' := 51) (y := yX4_init) (M' := mX4_init) (d' := 6) (As := [.ref 101]) (st := [.ref 200, .ref 100]) (b := 200) (mc' := 22) (ms' := 367) (ord' := [400, 403, 404, 405, 408, 409, 410, 411, 413, 414, 415, 416, 1400, 1403, 1404, 1405, 1406, 1407, 1408, 500, 502, 600]) (k' := 43) (n' := 1394) (al' := aC 44) (σ' := g_X4_init_200 (pw_nw (pw_wR (g_X8_init_300 (pw_nw (pw_wI (pw_wI (pw_wI (pw_wR (pw_nw (σ) 101) 100 0 101) 100 1 0) 100 2 0) 100 3 (-1 : Int32)) 300)) 100 4 300) 200)) tw_292 rfl rfl (pw_dk dc_X11_init 25 rfl) rfl YI_X4_init tw_291 rfl (by decide) (by decide) rfl rfl ⟨by decide, by decide⟩ (pw_ord [101, 300, 303, 304, 305, 308, 309, 310, 311, 313, 314, 315, 316, 1300, 1303, 1304, 1305, 1306, 1307, 1308, 200, 400, 403, 404, 405, 408, 409, 410, 411, 413, 414, 415, 416, 1400, 1403, 1404, 1405, 1406, 1407, 1408, 500, 502, 600, 1000, 700, 703, 704, 705, 706, 800, 803, 804, 805, 806, 900, 903, 904, 905, 906, 1100, 1102, 1103, 1104, 1105, 1106, 1200, 1203, 1204, 1205, 1206, 1207, 1208, 1209, 1500, 1502, 1503, 1504, 1505, 1506, 1507, 1600, 1601] 21 22) (Or.inr ⟨(200, 4, 0), List.mem_of_getElem? (i := 21) rfl, rfl⟩) (fun Q' hq' => k_X4_init_200 (pw_nw (pw_wR (g_X8_init_300 (pw_nw (pw_wI (pw_wI (pw_wI (pw_wR (pw_nw (σ) 101) 100 0 101) 100 1 0) 100 2 0) 100 3 (-1 : Int32)) 300)) 100 4 300) 200) _ hq') ?_
  refine PW_putFR (pc' := 54) (id := 100) (ci := 11) (nn := 0) (T := TX11) (N := 15) (j := 5) (ty := tyX11 5) (pw_dk dc_X11_init 26 rfl) rfl (List.mem_of_getElem? (i := 0) rfl) rfl pi_11 tyX11_ok nmX11 (by decide) fk_11_5 tw_600 (by decide) rfl rfl (tyX11_ok 5 (by decide)) (fun _ => rfl) (fun _ => rfl) rfl ?_
  refine PW_aload_n (pc' := 55) (q := 0) (pw_dk dc_X11_init 27 rfl) rfl rfl rfl ?_
  refine KW_new (pc' := 58) (id := 1000) (ci := 5) (k' := 44) (n' := 1397) (al' := aC 45) (pw_dk dc_X11_init 28 rfl) rfl rfl pi_5 tyX5_ok tw_429 tw_430 tw_131 (by decide +kernel) rfl rfl (by decide) (by decide) rfl (Or.inr ⟨(600, 6, 0), List.mem_of_getElem? (i := 43) rfl, rfl⟩) rfl ?_
  refine PW_dup (pc' := 59) (pw_dk dc_X11_init 29 rfl) rfl rfl ?_
  refine PW_aload_n (pc' := 60) (q := 0) (pw_dk dc_X11_init 30 rfl) rfl rfl rfl ?_
  refine PW_getR (pc' := 63) (id := 100) (ci := 11) (nn := 0) (T := TX11) (N := 15) (j := 4) (r := 300) (pw_dk dc_X11_init 31 rfl) rfl (List.mem_of_getElem? (i := 0) rfl) rfl pi_11 (by decide) fk_11_4 tw_599 rfl (by decide) ?_
  refine KW_callI (pc' := 66) (y := yX5_init) (M' := mX5_init) (d' := 1) (As := [.ref 300]) (st := [.ref 1000, .ref 100]) (b := 1000) (mc' := 0) (ms' := 0) (ord' := []) (k' := 44) (n' := 1397) (al' := aC 45) (σ' := g_X5_init_1000 (pw_nw (pw_wR (g_X4_init_200 (pw_nw (pw_wR (g_X8_init_300 (pw_nw (pw_wI (pw_wI (pw_wI (pw_wR (pw_nw (σ) 101) 100 0 101) 100 1 0) 100 2 0) 100 3 (-1 : Int32)) 300)) 100 4 300) 200)) 100 5 200) 1000)) tw_432 rfl rfl (pw_dk dc_X11_init 32 rfl) rfl YI_X5_init tw_431 rfl (by decide) (by decide) rfl rfl ⟨by decide, by decide⟩ (pw_ord [101, 300, 303, 304, 305, 308, 309, 310, 311, 313, 314, 315, 316, 1300, 1303, 1304, 1305, 1306, 1307, 1308, 200, 400, 403, 404, 405, 408, 409, 410, 411, 413, 414, 415, 416, 1400, 1403, 1404, 1405, 1406, 1407, 1408, 500, 502, 600, 1000, 700, 703, 704, 705, 706, 800, 803, 804, 805, 806, 900, 903, 904, 905, 906, 1100, 1102, 1103, 1104, 1105, 1106, 1200, 1203, 1204, 1205, 1206, 1207, 1208, 1209, 1500, 1502, 1503, 1504, 1505, 1506, 1507, 1600, 1601] 44 0) (Or.inr ⟨(1000, 5, 0), List.mem_of_getElem? (i := 44) rfl, rfl⟩) (fun Q' hq' => k_X5_init_1000 (pw_nw (pw_wR (g_X4_init_200 (pw_nw (pw_wR (g_X8_init_300 (pw_nw (pw_wI (pw_wI (pw_wI (pw_wR (pw_nw (σ) 101) 100 0 101) 100 1 0) 100 2 0) 100 3 (-1 : Int32)) 300)) 100 4 300) 200)) 100 5 200) 1000) _ hq') ?_
  refine PW_putFR (pc' := 69) (id := 100) (ci := 11) (nn := 0) (T := TX11) (N := 15) (j := 6) (ty := tyX11 6) (pw_dk dc_X11_init 33 rfl) rfl (List.mem_of_getElem? (i := 0) rfl) rfl pi_11 tyX11_ok nmX11 (by decide) fk_11_6 tw_601 (by decide) rfl rfl (tyX11_ok 6 (by decide)) (fun _ => rfl) (fun _ => rfl) rfl ?_
  refine PW_aload_n (pc' := 70) (q := 0) (pw_dk dc_X11_init 34 rfl) rfl rfl rfl ?_
  refine KW_new (pc' := 73) (id := 700) (ci := 0) (k' := 45) (n' := 1403) (al' := aC 46) (pw_dk dc_X11_init 35 rfl) rfl rfl pi_0 tyX0_ok tw_448 tw_449 tw_132 (by decide +kernel) rfl rfl (by decide) (by decide) rfl (Or.inr ⟨(1000, 5, 0), List.mem_of_getElem? (i := 44) rfl, rfl⟩) rfl ?_
  refine PW_dup (pc' := 74) (pw_dk dc_X11_init 36 rfl) rfl rfl ?_
  refine KW_callIN (pc' := 77) (y := yX0_init) (M' := mX0_init) (d' := 1) (As := []) (st := [.ref 700, .ref 100]) (b := 700) (mc' := 4) (ms' := 27) (ord' := [703, 704, 705, 706]) (k' := 49) (n' := 1430) (al' := aC 50) (σ' := g_X0_init_700 (pw_nw (pw_wR (g_X5_init_1000 (pw_nw (pw_wR (g_X4_init_200 (pw_nw (pw_wR (g_X8_init_300 (pw_nw (pw_wI (pw_wI (pw_wI (pw_wR (pw_nw (σ) 101) 100 0 101) 100 1 0) 100 2 0) 100 3 (-1 : Int32)) 300)) 100 4 300) 200)) 100 5 200) 1000)) 100 6 1000) 700)) tw_451 rfl rfl (pw_dk dc_X11_init 37 rfl) rfl YI_X0_init (by decide +kernel) rfl (by decide) (by decide) rfl rfl ⟨by decide, by decide⟩ (pw_ord [101, 300, 303, 304, 305, 308, 309, 310, 311, 313, 314, 315, 316, 1300, 1303, 1304, 1305, 1306, 1307, 1308, 200, 400, 403, 404, 405, 408, 409, 410, 411, 413, 414, 415, 416, 1400, 1403, 1404, 1405, 1406, 1407, 1408, 500, 502, 600, 1000, 700, 703, 704, 705, 706, 800, 803, 804, 805, 806, 900, 903, 904, 905, 906, 1100, 1102, 1103, 1104, 1105, 1106, 1200, 1203, 1204, 1205, 1206, 1207, 1208, 1209, 1500, 1502, 1503, 1504, 1505, 1506, 1507, 1600, 1601] 45 4) (Or.inr ⟨(700, 0, 0), List.mem_of_getElem? (i := 45) rfl, rfl⟩) (fun Q' hq' => k_X0_init_700 (pw_nw (pw_wR (g_X5_init_1000 (pw_nw (pw_wR (g_X4_init_200 (pw_nw (pw_wR (g_X8_init_300 (pw_nw (pw_wI (pw_wI (pw_wI (pw_wR (pw_nw (σ) 101) 100 0 101) 100 1 0) 100 2 0) 100 3 (-1 : Int32)) 300)) 100 4 300) 200)) 100 5 200) 1000)) 100 6 1000) 700) _ hq') ?_
  refine PW_putFR (pc' := 80) (id := 100) (ci := 11) (nn := 0) (T := TX11) (N := 15) (j := 7) (ty := tyX11 7) (pw_dk dc_X11_init 38 rfl) rfl (List.mem_of_getElem? (i := 0) rfl) rfl pi_11 tyX11_ok nmX11 (by decide) fk_11_7 tw_602 (by decide) rfl rfl (tyX11_ok 7 (by decide)) (fun _ => rfl) (fun _ => rfl) rfl ?_
  refine PW_aload_n (pc' := 81) (q := 0) (pw_dk dc_X11_init 39 rfl) rfl rfl rfl ?_
  refine KW_new (pc' := 84) (id := 800) (ci := 0) (k' := 50) (n' := 1436) (al' := aC 51) (pw_dk dc_X11_init 40 rfl) rfl rfl pi_0 tyX0_ok tw_448 tw_449 tw_132 (by decide +kernel) rfl rfl (by decide) (by decide) rfl (Or.inr ⟨(706, 13, 12), List.mem_of_getElem? (i := 49) rfl, rfl⟩) rfl ?_
  refine PW_dup (pc' := 85) (pw_dk dc_X11_init 41 rfl) rfl rfl ?_
  refine KW_callIN (pc' := 88) (y := yX0_init) (M' := mX0_init) (d' := 1) (As := []) (st := [.ref 800, .ref 100]) (b := 800) (mc' := 4) (ms' := 27) (ord' := [803, 804, 805, 806]) (k' := 54) (n' := 1463) (al' := aC 55) (σ' := g_X0_init_800 (pw_nw (pw_wR (g_X0_init_700 (pw_nw (pw_wR (g_X5_init_1000 (pw_nw (pw_wR (g_X4_init_200 (pw_nw (pw_wR (g_X8_init_300 (pw_nw (pw_wI (pw_wI (pw_wI (pw_wR (pw_nw (σ) 101) 100 0 101) 100 1 0) 100 2 0) 100 3 (-1 : Int32)) 300)) 100 4 300) 200)) 100 5 200) 1000)) 100 6 1000) 700)) 100 7 700) 800)) tw_451 rfl rfl (pw_dk dc_X11_init 42 rfl) rfl YI_X0_init (by decide +kernel) rfl (by decide) (by decide) rfl rfl ⟨by decide, by decide⟩ (pw_ord [101, 300, 303, 304, 305, 308, 309, 310, 311, 313, 314, 315, 316, 1300, 1303, 1304, 1305, 1306, 1307, 1308, 200, 400, 403, 404, 405, 408, 409, 410, 411, 413, 414, 415, 416, 1400, 1403, 1404, 1405, 1406, 1407, 1408, 500, 502, 600, 1000, 700, 703, 704, 705, 706, 800, 803, 804, 805, 806, 900, 903, 904, 905, 906, 1100, 1102, 1103, 1104, 1105, 1106, 1200, 1203, 1204, 1205, 1206, 1207, 1208, 1209, 1500, 1502, 1503, 1504, 1505, 1506, 1507, 1600, 1601] 50 4) (Or.inr ⟨(800, 0, 0), List.mem_of_getElem? (i := 50) rfl, rfl⟩) (fun Q' hq' => k_X0_init_800 (pw_nw (pw_wR (g_X0_init_700 (pw_nw (pw_wR (g_X5_init_1000 (pw_nw (pw_wR (g_X4_init_200 (pw_nw (pw_wR (g_X8_init_300 (pw_nw (pw_wI (pw_wI (pw_wI (pw_wR (pw_nw (σ) 101) 100 0 101) 100 1 0) 100 2 0) 100 3 (-1 : Int32)) 300)) 100 4 300) 200)) 100 5 200) 1000)) 100 6 1000) 700)) 100 7 700) 800) _ hq') ?_
  refine PW_putFR (pc' := 91) (id := 100) (ci := 11) (nn := 0) (T := TX11) (N := 15) (j := 8) (ty := tyX11 8) (pw_dk dc_X11_init 43 rfl) rfl (List.mem_of_getElem? (i := 0) rfl) rfl pi_11 tyX11_ok nmX11 (by decide) fk_11_8 tw_603 (by decide) rfl rfl (tyX11_ok 8 (by decide)) (fun _ => rfl) (fun _ => rfl) rfl ?_
  refine PW_aload_n (pc' := 92) (q := 0) (pw_dk dc_X11_init 44 rfl) rfl rfl rfl ?_
  refine KW_new (pc' := 95) (id := 900) (ci := 0) (k' := 55) (n' := 1469) (al' := aC 56) (pw_dk dc_X11_init 45 rfl) rfl rfl pi_0 tyX0_ok tw_448 tw_449 tw_132 (by decide +kernel) rfl rfl (by decide) (by decide) rfl (Or.inr ⟨(806, 13, 12), List.mem_of_getElem? (i := 54) rfl, rfl⟩) rfl ?_
  refine PW_dup (pc' := 96) (pw_dk dc_X11_init 46 rfl) rfl rfl ?_
  refine KW_callIN (pc' := 99) (y := yX0_init) (M' := mX0_init) (d' := 1) (As := []) (st := [.ref 900, .ref 100]) (b := 900) (mc' := 4) (ms' := 27) (ord' := [903, 904, 905, 906]) (k' := 59) (n' := 1496) (al' := aC 60) (σ' := g_X0_init_900 (pw_nw (pw_wR (g_X0_init_800 (pw_nw (pw_wR (g_X0_init_700 (pw_nw (pw_wR (g_X5_init_1000 (pw_nw (pw_wR (g_X4_init_200 (pw_nw (pw_wR (g_X8_init_300 (pw_nw (pw_wI (pw_wI (pw_wI (pw_wR (pw_nw (σ) 101) 100 0 101) 100 1 0) 100 2 0) 100 3 (-1 : Int32)) 300)) 100 4 300) 200)) 100 5 200) 1000)) 100 6 1000) 700)) 100 7 700) 800)) 100 8 800) 900)) tw_451 rfl rfl (pw_dk dc_X11_init 47 rfl) rfl YI_X0_init (by decide +kernel) rfl (by decide) (by decide) rfl rfl ⟨by decide, by decide⟩ (pw_ord [101, 300, 303, 304, 305, 308, 309, 310, 311, 313, 314, 315, 316, 1300, 1303, 1304, 1305, 1306, 1307, 1308, 200, 400, 403, 404, 405, 408, 409, 410, 411, 413, 414, 415, 416, 1400, 1403, 1404, 1405, 1406, 1407, 1408, 500, 502, 600, 1000, 700, 703, 704, 705, 706, 800, 803, 804, 805, 806, 900, 903, 904, 905, 906, 1100, 1102, 1103, 1104, 1105, 1106, 1200, 1203, 1204, 1205, 1206, 1207, 1208, 1209, 1500, 1502, 1503, 1504, 1505, 1506, 1507, 1600, 1601] 55 4) (Or.inr ⟨(900, 0, 0), List.mem_of_getElem? (i := 55) rfl, rfl⟩) (fun Q' hq' => k_X0_init_900 (pw_nw (pw_wR (g_X0_init_800 (pw_nw (pw_wR (g_X0_init_700 (pw_nw (pw_wR (g_X5_init_1000 (pw_nw (pw_wR (g_X4_init_200 (pw_nw (pw_wR (g_X8_init_300 (pw_nw (pw_wI (pw_wI (pw_wI (pw_wR (pw_nw (σ) 101) 100 0 101) 100 1 0) 100 2 0) 100 3 (-1 : Int32)) 300)) 100 4 300) 200)) 100 5 200) 1000)) 100 6 1000) 700)) 100 7 700) 800)) 100 8 800) 900) _ hq') ?_
  refine PW_putFR (pc' := 102) (id := 100) (ci := 11) (nn := 0) (T := TX11) (N := 15) (j := 9) (ty := tyX11 9) (pw_dk dc_X11_init 48 rfl) rfl (List.mem_of_getElem? (i := 0) rfl) rfl pi_11 tyX11_ok nmX11 (by decide) fk_11_9 tw_604 (by decide) rfl rfl (tyX11_ok 9 (by decide)) (fun _ => rfl) (fun _ => rfl) rfl ?_
  refine PW_aload_n (pc' := 103) (q := 0) (pw_dk dc_X11_init 49 rfl) rfl rfl rfl ?_
  refine PW_iconst (pc' := 104) (v := 0) (pw_dk dc_X11_init 50 rfl) rfl (by decide) ?_
  refine PW_putI (pc' := 107) (id := 100) (ci := 11) (nn := 0) (T := TX11) (N := 15) (j := 10) (ty := tyX11 10) (pw_dk dc_X11_init 51 rfl) rfl (List.mem_of_getElem? (i := 0) rfl) rfl pi_11 tyX11_ok nmX11 (by decide) fk_11_10 tw_605 rfl (tyX11_ok 10 (by decide)) (fun _ => rfl) (fun _ => rfl) ?_
  refine PW_aload_n (pc' := 108) (q := 0) (pw_dk dc_X11_init 52 rfl) rfl rfl rfl ?_
  refine KW_new (pc' := 111) (id := 1100) (ci := 9) (k' := 60) (n' := 1502) (al' := aC 61) (pw_dk dc_X11_init 53 rfl) rfl rfl pi_9 tyX9_ok tw_489 tw_490 tw_133 (by decide +kernel) rfl rfl (by decide) (by decide) rfl (Or.inr ⟨(906, 13, 12), List.mem_of_getElem? (i := 59) rfl, rfl⟩) rfl ?_
  refine PW_dup (pc' := 112) (pw_dk dc_X11_init 54 rfl) rfl rfl ?_
  refine KW_callIN (pc' := 115) (y := yX9_init) (M' := mX9_init) (d' := 1) (As := []) (st := [.ref 1100, .ref 100]) (b := 1100) (mc' := 5) (ms' := 100) (ord' := [1102, 1103, 1104, 1105, 1106]) (k' := 65) (n' := 1602) (al' := aC 66) (σ' := g_X9_init_1100 (pw_nw (pw_wI (pw_wR (g_X0_init_900 (pw_nw (pw_wR (g_X0_init_800 (pw_nw (pw_wR (g_X0_init_700 (pw_nw (pw_wR (g_X5_init_1000 (pw_nw (pw_wR (g_X4_init_200 (pw_nw (pw_wR (g_X8_init_300 (pw_nw (pw_wI (pw_wI (pw_wI (pw_wR (pw_nw (σ) 101) 100 0 101) 100 1 0) 100 2 0) 100 3 (-1 : Int32)) 300)) 100 4 300) 200)) 100 5 200) 1000)) 100 6 1000) 700)) 100 7 700) 800)) 100 8 800) 900)) 100 9 900) 100 10 0) 1100)) tw_492 rfl rfl (pw_dk dc_X11_init 55 rfl) rfl YI_X9_init (by decide +kernel) rfl (by decide) (by decide) rfl rfl ⟨by decide, by decide⟩ (pw_ord [101, 300, 303, 304, 305, 308, 309, 310, 311, 313, 314, 315, 316, 1300, 1303, 1304, 1305, 1306, 1307, 1308, 200, 400, 403, 404, 405, 408, 409, 410, 411, 413, 414, 415, 416, 1400, 1403, 1404, 1405, 1406, 1407, 1408, 500, 502, 600, 1000, 700, 703, 704, 705, 706, 800, 803, 804, 805, 806, 900, 903, 904, 905, 906, 1100, 1102, 1103, 1104, 1105, 1106, 1200, 1203, 1204, 1205, 1206, 1207, 1208, 1209, 1500, 1502, 1503, 1504, 1505, 1506, 1507, 1600, 1601] 60 5) (Or.inr ⟨(1100, 9, 0), List.mem_of_getElem? (i := 60) rfl, rfl⟩) (fun Q' hq' => k_X9_init_1100 (pw_nw (pw_wI (pw_wR (g_X0_init_900 (pw_nw (pw_wR (g_X0_init_800 (pw_nw (pw_wR (g_X0_init_700 (pw_nw (pw_wR (g_X5_init_1000 (pw_nw (pw_wR (g_X4_init_200 (pw_nw (pw_wR (g_X8_init_300 (pw_nw (pw_wI (pw_wI (pw_wI (pw_wR (pw_nw (σ) 101) 100 0 101) 100 1 0) 100 2 0) 100 3 (-1 : Int32)) 300)) 100 4 300) 200)) 100 5 200) 1000)) 100 6 1000) 700)) 100 7 700) 800)) 100 8 800) 900)) 100 9 900) 100 10 0) 1100) _ hq') ?_
  refine PW_putFR (pc' := 118) (id := 100) (ci := 11) (nn := 0) (T := TX11) (N := 15) (j := 11) (ty := tyX11 11) (pw_dk dc_X11_init 56 rfl) rfl (List.mem_of_getElem? (i := 0) rfl) rfl pi_11 tyX11_ok nmX11 (by decide) fk_11_11 tw_606 (by decide) rfl rfl (tyX11_ok 11 (by decide)) (fun _ => rfl) (fun _ => rfl) rfl ?_
  refine PW_aload_n (pc' := 119) (q := 0) (pw_dk dc_X11_init 57 rfl) rfl rfl rfl ?_
  refine KW_new (pc' := 122) (id := 1200) (ci := 3) (k' := 66) (n' := 1611) (al' := aC 67) (pw_dk dc_X11_init 58 rfl) rfl rfl pi_3 tyX3_ok tw_515 tw_516 tw_134 (by decide +kernel) rfl rfl (by decide) (by decide) rfl (Or.inr ⟨(1106, 13, 20), List.mem_of_getElem? (i := 65) rfl, rfl⟩) rfl ?_
  refine PW_dup (pc' := 123) (pw_dk dc_X11_init 59 rfl) rfl rfl ?_
  refine KW_callIN (pc' := 126) (y := yX3_init) (M' := mX3_init) (d' := 1) (As := []) (st := [.ref 1200, .ref 100]) (b := 1200) (mc' := 7) (ms' := 144) (ord' := [1203, 1204, 1205, 1206, 1207, 1208, 1209]) (k' := 73) (n' := 1755) (al' := aC 74) (σ' := g_X3_init_1200 (pw_nw (pw_wR (g_X9_init_1100 (pw_nw (pw_wI (pw_wR (g_X0_init_900 (pw_nw (pw_wR (g_X0_init_800 (pw_nw (pw_wR (g_X0_init_700 (pw_nw (pw_wR (g_X5_init_1000 (pw_nw (pw_wR (g_X4_init_200 (pw_nw (pw_wR (g_X8_init_300 (pw_nw (pw_wI (pw_wI (pw_wI (pw_wR (pw_nw (σ) 101) 100 0 101) 100 1 0) 100 2 0) 100 3 (-1 : Int32)) 300)) 100 4 300) 200)) 100 5 200) 1000)) 100 6 1000) 700)) 100 7 700) 800)) 100 8 800) 900)) 100 9 900) 100 10 0) 1100)) 100 11 1100) 1200)) tw_518 rfl rfl (pw_dk dc_X11_init 60 rfl) rfl YI_X3_init (by decide +kernel) rfl (by decide) (by decide) rfl rfl ⟨by decide, by decide⟩ (pw_ord [101, 300, 303, 304, 305, 308, 309, 310, 311, 313, 314, 315, 316, 1300, 1303, 1304, 1305, 1306, 1307, 1308, 200, 400, 403, 404, 405, 408, 409, 410, 411, 413, 414, 415, 416, 1400, 1403, 1404, 1405, 1406, 1407, 1408, 500, 502, 600, 1000, 700, 703, 704, 705, 706, 800, 803, 804, 805, 806, 900, 903, 904, 905, 906, 1100, 1102, 1103, 1104, 1105, 1106, 1200, 1203, 1204, 1205, 1206, 1207, 1208, 1209, 1500, 1502, 1503, 1504, 1505, 1506, 1507, 1600, 1601] 66 7) (Or.inr ⟨(1200, 3, 0), List.mem_of_getElem? (i := 66) rfl, rfl⟩) (fun Q' hq' => k_X3_init_1200 (pw_nw (pw_wR (g_X9_init_1100 (pw_nw (pw_wI (pw_wR (g_X0_init_900 (pw_nw (pw_wR (g_X0_init_800 (pw_nw (pw_wR (g_X0_init_700 (pw_nw (pw_wR (g_X5_init_1000 (pw_nw (pw_wR (g_X4_init_200 (pw_nw (pw_wR (g_X8_init_300 (pw_nw (pw_wI (pw_wI (pw_wI (pw_wR (pw_nw (σ) 101) 100 0 101) 100 1 0) 100 2 0) 100 3 (-1 : Int32)) 300)) 100 4 300) 200)) 100 5 200) 1000)) 100 6 1000) 700)) 100 7 700) 800)) 100 8 800) 900)) 100 9 900) 100 10 0) 1100)) 100 11 1100) 1200) _ hq') ?_
  refine PW_putFR (pc' := 129) (id := 100) (ci := 11) (nn := 0) (T := TX11) (N := 15) (j := 12) (ty := tyX11 12) (pw_dk dc_X11_init 61 rfl) rfl (List.mem_of_getElem? (i := 0) rfl) rfl pi_11 tyX11_ok nmX11 (by decide) fk_11_12 tw_607 (by decide) rfl rfl (tyX11_ok 12 (by decide)) (fun _ => rfl) (fun _ => rfl) rfl ?_
  refine PW_aload_n (pc' := 130) (q := 0) (pw_dk dc_X11_init 62 rfl) rfl rfl rfl ?_
  refine KW_new (pc' := 133) (id := 1500) (ci := 10) (k' := 74) (n' := 1762) (al' := aC 75) (pw_dk dc_X11_init 63 rfl) rfl rfl pi_10 tyX10_ok tw_552 tw_553 tw_135 (by decide +kernel) rfl rfl (by decide) (by decide) rfl (Or.inr ⟨(1209, 13, 12), List.mem_of_getElem? (i := 73) rfl, rfl⟩) rfl ?_
  refine PW_dup (pc' := 134) (pw_dk dc_X11_init 64 rfl) rfl rfl ?_
  refine KW_callIN (pc' := 137) (y := yX10_init) (M' := mX10_init) (d' := 1) (As := []) (st := [.ref 1500, .ref 100]) (b := 1500) (mc' := 6) (ms' := 796) (ord' := [1502, 1503, 1504, 1505, 1506, 1507]) (k' := 80) (n' := 2558) (al' := aC 81) (σ' := g_X10_init_1500 (pw_nw (pw_wR (g_X3_init_1200 (pw_nw (pw_wR (g_X9_init_1100 (pw_nw (pw_wI (pw_wR (g_X0_init_900 (pw_nw (pw_wR (g_X0_init_800 (pw_nw (pw_wR (g_X0_init_700 (pw_nw (pw_wR (g_X5_init_1000 (pw_nw (pw_wR (g_X4_init_200 (pw_nw (pw_wR (g_X8_init_300 (pw_nw (pw_wI (pw_wI (pw_wI (pw_wR (pw_nw (σ) 101) 100 0 101) 100 1 0) 100 2 0) 100 3 (-1 : Int32)) 300)) 100 4 300) 200)) 100 5 200) 1000)) 100 6 1000) 700)) 100 7 700) 800)) 100 8 800) 900)) 100 9 900) 100 10 0) 1100)) 100 11 1100) 1200)) 100 12 1200) 1500)) tw_555 rfl rfl (pw_dk dc_X11_init 65 rfl) rfl YI_X10_init (by decide +kernel) rfl (by decide) (by decide) rfl rfl ⟨by decide, by decide⟩ (pw_ord [101, 300, 303, 304, 305, 308, 309, 310, 311, 313, 314, 315, 316, 1300, 1303, 1304, 1305, 1306, 1307, 1308, 200, 400, 403, 404, 405, 408, 409, 410, 411, 413, 414, 415, 416, 1400, 1403, 1404, 1405, 1406, 1407, 1408, 500, 502, 600, 1000, 700, 703, 704, 705, 706, 800, 803, 804, 805, 806, 900, 903, 904, 905, 906, 1100, 1102, 1103, 1104, 1105, 1106, 1200, 1203, 1204, 1205, 1206, 1207, 1208, 1209, 1500, 1502, 1503, 1504, 1505, 1506, 1507, 1600, 1601] 74 6) (Or.inr ⟨(1500, 10, 0), List.mem_of_getElem? (i := 74) rfl, rfl⟩) (fun Q' hq' => k_X10_init_1500 (pw_nw (pw_wR (g_X3_init_1200 (pw_nw (pw_wR (g_X9_init_1100 (pw_nw (pw_wI (pw_wR (g_X0_init_900 (pw_nw (pw_wR (g_X0_init_800 (pw_nw (pw_wR (g_X0_init_700 (pw_nw (pw_wR (g_X5_init_1000 (pw_nw (pw_wR (g_X4_init_200 (pw_nw (pw_wR (g_X8_init_300 (pw_nw (pw_wI (pw_wI (pw_wI (pw_wR (pw_nw (σ) 101) 100 0 101) 100 1 0) 100 2 0) 100 3 (-1 : Int32)) 300)) 100 4 300) 200)) 100 5 200) 1000)) 100 6 1000) 700)) 100 7 700) 800)) 100 8 800) 900)) 100 9 900) 100 10 0) 1100)) 100 11 1100) 1200)) 100 12 1200) 1500) _ hq') ?_
  refine PW_putFR (pc' := 140) (id := 100) (ci := 11) (nn := 0) (T := TX11) (N := 15) (j := 13) (ty := tyX11 13) (pw_dk dc_X11_init 66 rfl) rfl (List.mem_of_getElem? (i := 0) rfl) rfl pi_11 tyX11_ok nmX11 (by decide) fk_11_13 tw_608 (by decide) rfl rfl (tyX11_ok 13 (by decide)) (fun _ => rfl) (fun _ => rfl) rfl ?_
  refine PW_aload_n (pc' := 141) (q := 0) (pw_dk dc_X11_init 67 rfl) rfl rfl rfl ?_
  refine KW_new (pc' := 144) (id := 1600) (ci := 1) (k' := 81) (n' := 2559) (al' := aC 82) (pw_dk dc_X11_init 68 rfl) rfl rfl pi_1 tyX1_ok tw_585 tw_586 tw_136 (by decide +kernel) rfl rfl (by decide) (by decide) rfl (Or.inr ⟨(1507, 13, 14), List.mem_of_getElem? (i := 80) rfl, rfl⟩) rfl ?_
  refine PW_dup (pc' := 145) (pw_dk dc_X11_init 69 rfl) rfl rfl ?_
  refine KW_callIN (pc' := 148) (y := yX1_init) (M' := mX1_init) (d' := 1) (As := []) (st := [.ref 1600, .ref 100]) (b := 1600) (mc' := 1) (ms' := 16) (ord' := [1601]) (k' := 82) (n' := 2575) (al' := aC 83) (σ' := g_X1_init_1600 (pw_nw (pw_wR (g_X10_init_1500 (pw_nw (pw_wR (g_X3_init_1200 (pw_nw (pw_wR (g_X9_init_1100 (pw_nw (pw_wI (pw_wR (g_X0_init_900 (pw_nw (pw_wR (g_X0_init_800 (pw_nw (pw_wR (g_X0_init_700 (pw_nw (pw_wR (g_X5_init_1000 (pw_nw (pw_wR (g_X4_init_200 (pw_nw (pw_wR (g_X8_init_300 (pw_nw (pw_wI (pw_wI (pw_wI (pw_wR (pw_nw (σ) 101) 100 0 101) 100 1 0) 100 2 0) 100 3 (-1 : Int32)) 300)) 100 4 300) 200)) 100 5 200) 1000)) 100 6 1000) 700)) 100 7 700) 800)) 100 8 800) 900)) 100 9 900) 100 10 0) 1100)) 100 11 1100) 1200)) 100 12 1200) 1500)) 100 13 1500) 1600)) tw_588 rfl rfl (pw_dk dc_X11_init 70 rfl) rfl YI_X1_init (by decide +kernel) rfl (by decide) (by decide) rfl rfl ⟨by decide, by decide⟩ (pw_ord [101, 300, 303, 304, 305, 308, 309, 310, 311, 313, 314, 315, 316, 1300, 1303, 1304, 1305, 1306, 1307, 1308, 200, 400, 403, 404, 405, 408, 409, 410, 411, 413, 414, 415, 416, 1400, 1403, 1404, 1405, 1406, 1407, 1408, 500, 502, 600, 1000, 700, 703, 704, 705, 706, 800, 803, 804, 805, 806, 900, 903, 904, 905, 906, 1100, 1102, 1103, 1104, 1105, 1106, 1200, 1203, 1204, 1205, 1206, 1207, 1208, 1209, 1500, 1502, 1503, 1504, 1505, 1506, 1507, 1600, 1601] 81 1) (Or.inr ⟨(1600, 1, 0), List.mem_of_getElem? (i := 81) rfl, rfl⟩) (fun Q' hq' => k_X1_init_1600 (pw_nw (pw_wR (g_X10_init_1500 (pw_nw (pw_wR (g_X3_init_1200 (pw_nw (pw_wR (g_X9_init_1100 (pw_nw (pw_wI (pw_wR (g_X0_init_900 (pw_nw (pw_wR (g_X0_init_800 (pw_nw (pw_wR (g_X0_init_700 (pw_nw (pw_wR (g_X5_init_1000 (pw_nw (pw_wR (g_X4_init_200 (pw_nw (pw_wR (g_X8_init_300 (pw_nw (pw_wI (pw_wI (pw_wI (pw_wR (pw_nw (σ) 101) 100 0 101) 100 1 0) 100 2 0) 100 3 (-1 : Int32)) 300)) 100 4 300) 200)) 100 5 200) 1000)) 100 6 1000) 700)) 100 7 700) 800)) 100 8 800) 900)) 100 9 900) 100 10 0) 1100)) 100 11 1100) 1200)) 100 12 1200) 1500)) 100 13 1500) 1600) _ hq') ?_
  refine PW_putFR (pc' := 151) (id := 100) (ci := 11) (nn := 0) (T := TX11) (N := 15) (j := 14) (ty := tyX11 14) (pw_dk dc_X11_init 71 rfl) rfl (List.mem_of_getElem? (i := 0) rfl) rfl pi_11 tyX11_ok nmX11 (by decide) fk_11_14 tw_609 (by decide) rfl rfl (tyX11_ok 14 (by decide)) (fun _ => rfl) (fun _ => rfl) rfl ?_
  exact PW_vret (pw_dk dc_X11_init 72 rfl) rfl h
def g_X12_raw (σ : pS) : pS := pw_wR (pw_nw (pw_wR (pw_nw (pw_wR (pw_nw (pw_wR (pw_nw (pw_wR (pw_nw (pw_wR (pw_nw (pw_wR (pw_nw (pw_wI (pw_wR (pw_nw (pw_wR (pw_nw (pw_wR (pw_nw (pw_wR (pw_nw (pw_wI (pw_wR (pw_nw (pw_wR (pw_nw (pw_wR (pw_nw (pw_wR (pw_nw (pw_wR (pw_nw (pw_wR (pw_nw (pw_wR (pw_nw (pw_wI (pw_wR (pw_nw (pw_wR (pw_nw (pw_wI (pw_wR (pw_nw (pw_wR (pw_nw (pw_wR (pw_nw (pw_wR (pw_nw (pw_wR (pw_nw (pw_wR (pw_nw (pw_wR (pw_nw (pw_wR (pw_nw (pw_wR (pw_nw (pw_wR (pw_nw (pw_wR (pw_nw (pw_wR (pw_nw (pw_wR (pw_nw (pw_wR (pw_nw (pw_wR (pw_nw (pw_wR (pw_nw (pw_wR (pw_nw (pw_wR (pw_wI (pw_wI (pw_wI (pw_wI (pw_wI (pw_wI (pw_wI (pw_wI (pw_wI (pw_wI (pw_wI (pw_wI (pw_wI (pw_wI (pw_wI (pw_wI (pw_nw (pw_wR (pw_nw (σ) 5002) 5000 1 5002) 5004) 5004 (Int32.toNatClampNeg 0) 8) 5004 (Int32.toNatClampNeg 1) 0) 5004 (Int32.toNatClampNeg 2) 0) 5004 (Int32.toNatClampNeg 3) 0) 5004 (Int32.toNatClampNeg 4) 0) 5004 (Int32.toNatClampNeg 5) 5) 5004 (Int32.toNatClampNeg 6) 0) 5004 (Int32.toNatClampNeg 7) 0) 5004 (Int32.toNatClampNeg 8) 8) 5004 (Int32.toNatClampNeg 9) 0) 5004 (Int32.toNatClampNeg 10) 0) 5004 (Int32.toNatClampNeg 11) 0) 5004 (Int32.toNatClampNeg 12) 0) 5004 (Int32.toNatClampNeg 13) 5) 5004 (Int32.toNatClampNeg 14) 0) 5004 (Int32.toNatClampNeg 15) 0) 5000 3 5004) 5005) 5000 4 5005) 5006) 5000 5 5006) 5007) 5000 6 5007) 5008) 5000 7 5008) 5009) 5000 8 5009) 5010) 5000 9 5010) 5011) 5000 10 5011) 5012) 5000 11 5012) 5013) 5000 12 5013) 5014) 5000 13 5014) 5015) 5000 14 5015) 5016) 5000 15 5016) 5017) 5000 16 5017) 5018) 5000 17 5018) 5019) 5000 18 5019) 5020) 5000 19 5020) 5021) 5000 20 5021) 5000 31 (-1 : Int32)) 5035) 5000 34 5035) 5036) 5000 35 5036) 5000 37 (-1 : Int32)) 5039) 5000 38 5039) 5040) 5000 39 5040) 5041) 5000 40 5041) 5042) 5000 41 5042) 5043) 5000 42 5043) 5044) 5000 43 5044) 5045) 5000 44 5045) 5000 47 (-1 : Int32)) 5049) 5000 48 5049) 5050) 5000 49 5050) 5051) 5000 50 5051) 5053) 5000 52 5053) 5000 54 (-1 : Int32)) 5056) 5000 55 5056) 5057) 5000 56 5057) 5058) 5000 57 5058) 5059) 5000 58 5059) 5060) 5000 59 5060) 5061) 5000 60 5061) 5062) 5000 61 5062
theorem k_X12_init_5000 (σ : pS) (σz σ' : zS) (he : pw_eq alM (g_X12_raw σ) (em σz)) (hb : f_X12_begins σz = some σ') (Q : Option Value → pAL × pS → Prop) (h : Q none (alM, em σ')) : PC yX12_init mX12_init 2 [5002, 5004, 5005, 5006, 5007, 5008, 5009, 5010, 5011, 5012, 5013, 5014, 5015, 5016, 5017, 5018, 5019, 5020, 5021, 5035, 5036, 5039, 5040, 5041, 5042, 5043, 5044, 5045, 5049, 5050, 5051, 5053, 5056, 5057, 5058, 5059, 5060, 5061, 5062] 39 3027 [.ref 5000] (aM 1) σ Q := by
  refine PC_ofF (by decide +kernel) rfl rfl (Nat.le_of_ble_eq_true rfl) ?_
  show PW mX12_init 2 [5002, 5004, 5005, 5006, 5007, 5008, 5009, 5010, 5011, 5012, 5013, 5014, 5015, 5016, 5017, 5018, 5019, 5020, 5021, 5035, 5036, 5039, 5040, 5041, 5042, 5043, 5044, 5045, 5049, 5050, 5051, 5053, 5056, 5057, 5058, 5059, 5060, 5061, 5062] 39 3027 Q 0 [(0, .ref 5000)] [] (aM 1) 0 0 σ
  refine PW_aload_n (pc' := 1) (q := 0) (pw_dk dc_X12_init 0 rfl) rfl rfl rfl ?_
  refine PW_obj (pc' := 4) (b := 5000) (st := []) (pw_dk dc_X12_init 1 rfl) rfl tw_1388 tw_152 tw_153 (by decide) (by decide) ?_
  refine PW_aload_n (pc' := 5) (q := 0) (pw_dk dc_X12_init 2 rfl) rfl rfl rfl ?_
  refine PW_sipush (pc' := 8) (v := 700) (pw_dk dc_X12_init 3 rfl) rfl (by decide) ?_
  refine KW_newaI (pc' := 10) (id := 5002) (N0 := 700) (k' := 1) (n' := 700) (al' := aM 2) (pw_dk dc_X12_init 4 rfl) rfl tw_194 (by decide) (by decide) (by decide) rfl rfl (by decide) (by decide) rfl (Or.inl rfl) rfl ?_
  refine PW_putFR (pc' := 13) (id := 5000) (ci := 12) (nn := 0) (T := TX12) (N := 62) (j := 1) (ty := tyX12 1) (pw_dk dc_X12_init 5 rfl) rfl (List.mem_of_getElem? (i := 0) rfl) rfl pi_12 tyX12_ok nmX12 (by decide) fk_12_1 tw_1398 (by decide) rfl rfl (tyX12_ok 1 (by decide)) (fun _ => rfl) (fun _ => rfl) rfl ?_
  refine PW_aload_n (pc' := 14) (q := 0) (pw_dk dc_X12_init 6 rfl) rfl rfl rfl ?_
  refine PW_bipush (pc' := 16) (v := 16) (pw_dk dc_X12_init 7 rfl) rfl (by decide) ?_
  refine KW_newaI (pc' := 18) (id := 5004) (N0 := 16) (k' := 2) (n' := 716) (al' := aM 3) (pw_dk dc_X12_init 8 rfl) rfl tw_194 (by decide) (by decide) (by decide) rfl rfl (by decide) (by decide) rfl (Or.inr ⟨(5002, 13, 700), List.mem_of_getElem? (i := 1) rfl, rfl⟩) rfl ?_
  refine PW_dup (pc' := 19) (pw_dk dc_X12_init 9 rfl) rfl rfl ?_
  refine PW_iconst (pc' := 20) (v := 0) (pw_dk dc_X12_init 10 rfl) rfl (by decide) ?_
  refine PW_bipush (pc' := 22) (v := 8) (pw_dk dc_X12_init 11 rfl) rfl (by decide) ?_
  refine PW_iast (pc' := 23) (id := 5004) (nn := 16) (pw_dk dc_X12_init 12 rfl) rfl (List.mem_of_getElem? (i := 2) rfl) (okI_in (by decide)) ?_
  refine PW_dup (pc' := 24) (pw_dk dc_X12_init 13 rfl) rfl rfl ?_
  refine PW_iconst (pc' := 25) (v := 1) (pw_dk dc_X12_init 14 rfl) rfl (by decide) ?_
  refine PW_iconst (pc' := 26) (v := 0) (pw_dk dc_X12_init 15 rfl) rfl (by decide) ?_
  refine PW_iast (pc' := 27) (id := 5004) (nn := 16) (pw_dk dc_X12_init 16 rfl) rfl (List.mem_of_getElem? (i := 2) rfl) (okI_in (by decide)) ?_
  refine PW_dup (pc' := 28) (pw_dk dc_X12_init 17 rfl) rfl rfl ?_
  refine PW_iconst (pc' := 29) (v := 2) (pw_dk dc_X12_init 18 rfl) rfl (by decide) ?_
  refine PW_iconst (pc' := 30) (v := 0) (pw_dk dc_X12_init 19 rfl) rfl (by decide) ?_
  refine PW_iast (pc' := 31) (id := 5004) (nn := 16) (pw_dk dc_X12_init 20 rfl) rfl (List.mem_of_getElem? (i := 2) rfl) (okI_in (by decide)) ?_
  refine PW_dup (pc' := 32) (pw_dk dc_X12_init 21 rfl) rfl rfl ?_
  refine PW_iconst (pc' := 33) (v := 3) (pw_dk dc_X12_init 22 rfl) rfl (by decide) ?_
  refine PW_iconst (pc' := 34) (v := 0) (pw_dk dc_X12_init 23 rfl) rfl (by decide) ?_
  refine PW_iast (pc' := 35) (id := 5004) (nn := 16) (pw_dk dc_X12_init 24 rfl) rfl (List.mem_of_getElem? (i := 2) rfl) (okI_in (by decide)) ?_
  refine PW_dup (pc' := 36) (pw_dk dc_X12_init 25 rfl) rfl rfl ?_
  refine PW_iconst (pc' := 37) (v := 4) (pw_dk dc_X12_init 26 rfl) rfl (by decide) ?_
  refine PW_iconst (pc' := 38) (v := 0) (pw_dk dc_X12_init 27 rfl) rfl (by decide) ?_
  refine PW_iast (pc' := 39) (id := 5004) (nn := 16) (pw_dk dc_X12_init 28 rfl) rfl (List.mem_of_getElem? (i := 2) rfl) (okI_in (by decide)) ?_
  refine PW_dup (pc' := 40) (pw_dk dc_X12_init 29 rfl) rfl rfl ?_
  refine PW_iconst (pc' := 41) (v := 5) (pw_dk dc_X12_init 30 rfl) rfl (by decide) ?_
  refine PW_iconst (pc' := 42) (v := 5) (pw_dk dc_X12_init 31 rfl) rfl (by decide) ?_
  refine PW_iast (pc' := 43) (id := 5004) (nn := 16) (pw_dk dc_X12_init 32 rfl) rfl (List.mem_of_getElem? (i := 2) rfl) (okI_in (by decide)) ?_
  refine PW_dup (pc' := 44) (pw_dk dc_X12_init 33 rfl) rfl rfl ?_
  refine PW_bipush (pc' := 46) (v := 6) (pw_dk dc_X12_init 34 rfl) rfl (by decide) ?_
  refine PW_iconst (pc' := 47) (v := 0) (pw_dk dc_X12_init 35 rfl) rfl (by decide) ?_
  refine PW_iast (pc' := 48) (id := 5004) (nn := 16) (pw_dk dc_X12_init 36 rfl) rfl (List.mem_of_getElem? (i := 2) rfl) (okI_in (by decide)) ?_
  refine PW_dup (pc' := 49) (pw_dk dc_X12_init 37 rfl) rfl rfl ?_
  refine PW_bipush (pc' := 51) (v := 7) (pw_dk dc_X12_init 38 rfl) rfl (by decide) ?_
  refine PW_iconst (pc' := 52) (v := 0) (pw_dk dc_X12_init 39 rfl) rfl (by decide) ?_
  refine PW_iast (pc' := 53) (id := 5004) (nn := 16) (pw_dk dc_X12_init 40 rfl) rfl (List.mem_of_getElem? (i := 2) rfl) (okI_in (by decide)) ?_
  refine PW_dup (pc' := 54) (pw_dk dc_X12_init 41 rfl) rfl rfl ?_
  refine PW_bipush (pc' := 56) (v := 8) (pw_dk dc_X12_init 42 rfl) rfl (by decide) ?_
  refine PW_bipush (pc' := 58) (v := 8) (pw_dk dc_X12_init 43 rfl) rfl (by decide) ?_
  refine PW_iast (pc' := 59) (id := 5004) (nn := 16) (pw_dk dc_X12_init 44 rfl) rfl (List.mem_of_getElem? (i := 2) rfl) (okI_in (by decide)) ?_
  refine PW_dup (pc' := 60) (pw_dk dc_X12_init 45 rfl) rfl rfl ?_
  refine PW_bipush (pc' := 62) (v := 9) (pw_dk dc_X12_init 46 rfl) rfl (by decide) ?_
  refine PW_iconst (pc' := 63) (v := 0) (pw_dk dc_X12_init 47 rfl) rfl (by decide) ?_
  refine PW_iast (pc' := 64) (id := 5004) (nn := 16) (pw_dk dc_X12_init 48 rfl) rfl (List.mem_of_getElem? (i := 2) rfl) (okI_in (by decide)) ?_
  refine PW_dup (pc' := 65) (pw_dk dc_X12_init 49 rfl) rfl rfl ?_
  refine PW_bipush (pc' := 67) (v := 10) (pw_dk dc_X12_init 50 rfl) rfl (by decide) ?_
  refine PW_iconst (pc' := 68) (v := 0) (pw_dk dc_X12_init 51 rfl) rfl (by decide) ?_
  refine PW_iast (pc' := 69) (id := 5004) (nn := 16) (pw_dk dc_X12_init 52 rfl) rfl (List.mem_of_getElem? (i := 2) rfl) (okI_in (by decide)) ?_
  refine PW_dup (pc' := 70) (pw_dk dc_X12_init 53 rfl) rfl rfl ?_
  refine PW_bipush (pc' := 72) (v := 11) (pw_dk dc_X12_init 54 rfl) rfl (by decide) ?_
  refine PW_iconst (pc' := 73) (v := 0) (pw_dk dc_X12_init 55 rfl) rfl (by decide) ?_
  refine PW_iast (pc' := 74) (id := 5004) (nn := 16) (pw_dk dc_X12_init 56 rfl) rfl (List.mem_of_getElem? (i := 2) rfl) (okI_in (by decide)) ?_
  refine PW_dup (pc' := 75) (pw_dk dc_X12_init 57 rfl) rfl rfl ?_
  refine PW_bipush (pc' := 77) (v := 12) (pw_dk dc_X12_init 58 rfl) rfl (by decide) ?_
  refine PW_iconst (pc' := 78) (v := 0) (pw_dk dc_X12_init 59 rfl) rfl (by decide) ?_
  refine PW_iast (pc' := 79) (id := 5004) (nn := 16) (pw_dk dc_X12_init 60 rfl) rfl (List.mem_of_getElem? (i := 2) rfl) (okI_in (by decide)) ?_
  refine PW_dup (pc' := 80) (pw_dk dc_X12_init 61 rfl) rfl rfl ?_
  refine PW_bipush (pc' := 82) (v := 13) (pw_dk dc_X12_init 62 rfl) rfl (by decide) ?_
  refine PW_iconst (pc' := 83) (v := 5) (pw_dk dc_X12_init 63 rfl) rfl (by decide) ?_
  refine PW_iast (pc' := 84) (id := 5004) (nn := 16) (pw_dk dc_X12_init 64 rfl) rfl (List.mem_of_getElem? (i := 2) rfl) (okI_in (by decide)) ?_
  refine PW_dup (pc' := 85) (pw_dk dc_X12_init 65 rfl) rfl rfl ?_
  refine PW_bipush (pc' := 87) (v := 14) (pw_dk dc_X12_init 66 rfl) rfl (by decide) ?_
  refine PW_iconst (pc' := 88) (v := 0) (pw_dk dc_X12_init 67 rfl) rfl (by decide) ?_
  refine PW_iast (pc' := 89) (id := 5004) (nn := 16) (pw_dk dc_X12_init 68 rfl) rfl (List.mem_of_getElem? (i := 2) rfl) (okI_in (by decide)) ?_
  refine PW_dup (pc' := 90) (pw_dk dc_X12_init 69 rfl) rfl rfl ?_
  refine PW_bipush (pc' := 92) (v := 15) (pw_dk dc_X12_init 70 rfl) rfl (by decide) ?_
  refine PW_iconst (pc' := 93) (v := 0) (pw_dk dc_X12_init 71 rfl) rfl (by decide) ?_
  refine PW_iast (pc' := 94) (id := 5004) (nn := 16) (pw_dk dc_X12_init 72 rfl) rfl (List.mem_of_getElem? (i := 2) rfl) (okI_in (by decide)) ?_
  refine PW_putFR (pc' := 97) (id := 5000) (ci := 12) (nn := 0) (T := TX12) (N := 62) (j := 3) (ty := tyX12 3) (pw_dk dc_X12_init 73 rfl) rfl (List.mem_of_getElem? (i := 0) rfl) rfl pi_12 tyX12_ok nmX12 (by decide) fk_12_3 tw_1400 (by decide) rfl rfl (tyX12_ok 3 (by decide)) (fun _ => rfl) (fun _ => rfl) rfl ?_
  refine PW_aload_n (pc' := 98) (q := 0) (pw_dk dc_X12_init 74 rfl) rfl rfl rfl ?_
  refine PW_bipush (pc' := 100) (v := 10) (pw_dk dc_X12_init 75 rfl) rfl (by decide) ?_
  refine KW_newaI (pc' := 102) (id := 5005) (N0 := 10) (k' := 3) (n' := 726) (al' := aM 4) (pw_dk dc_X12_init 76 rfl) rfl tw_194 (by decide) (by decide) (by decide) rfl rfl (by decide) (by decide) rfl (Or.inr ⟨(5004, 13, 16), List.mem_of_getElem? (i := 2) rfl, rfl⟩) rfl ?_
  refine PW_putFR (pc' := 105) (id := 5000) (ci := 12) (nn := 0) (T := TX12) (N := 62) (j := 4) (ty := tyX12 4) (pw_dk dc_X12_init 77 rfl) rfl (List.mem_of_getElem? (i := 0) rfl) rfl pi_12 tyX12_ok nmX12 (by decide) fk_12_4 tw_1401 (by decide) rfl rfl (tyX12_ok 4 (by decide)) (fun _ => rfl) (fun _ => rfl) rfl ?_
  refine PW_aload_n (pc' := 106) (q := 0) (pw_dk dc_X12_init 78 rfl) rfl rfl rfl ?_
  refine PW_bipush (pc' := 108) (v := 10) (pw_dk dc_X12_init 79 rfl) rfl (by decide) ?_
  refine KW_newaI (pc' := 110) (id := 5006) (N0 := 10) (k' := 4) (n' := 736) (al' := aM 5) (pw_dk dc_X12_init 80 rfl) rfl tw_194 (by decide) (by decide) (by decide) rfl rfl (by decide) (by decide) rfl (Or.inr ⟨(5005, 13, 10), List.mem_of_getElem? (i := 3) rfl, rfl⟩) rfl ?_
  refine PW_putFR (pc' := 113) (id := 5000) (ci := 12) (nn := 0) (T := TX12) (N := 62) (j := 5) (ty := tyX12 5) (pw_dk dc_X12_init 81 rfl) rfl (List.mem_of_getElem? (i := 0) rfl) rfl pi_12 tyX12_ok nmX12 (by decide) fk_12_5 tw_1402 (by decide) rfl rfl (tyX12_ok 5 (by decide)) (fun _ => rfl) (fun _ => rfl) rfl ?_
  refine PW_aload_n (pc' := 114) (q := 0) (pw_dk dc_X12_init 82 rfl) rfl rfl rfl ?_
  refine PW_bipush (pc' := 116) (v := 10) (pw_dk dc_X12_init 83 rfl) rfl (by decide) ?_
  refine KW_newaI (pc' := 118) (id := 5007) (N0 := 10) (k' := 5) (n' := 746) (al' := aM 6) (pw_dk dc_X12_init 84 rfl) rfl tw_194 (by decide) (by decide) (by decide) rfl rfl (by decide) (by decide) rfl (Or.inr ⟨(5006, 13, 10), List.mem_of_getElem? (i := 4) rfl, rfl⟩) rfl ?_
  refine PW_putFR (pc' := 121) (id := 5000) (ci := 12) (nn := 0) (T := TX12) (N := 62) (j := 6) (ty := tyX12 6) (pw_dk dc_X12_init 85 rfl) rfl (List.mem_of_getElem? (i := 0) rfl) rfl pi_12 tyX12_ok nmX12 (by decide) fk_12_6 tw_1403 (by decide) rfl rfl (tyX12_ok 6 (by decide)) (fun _ => rfl) (fun _ => rfl) rfl ?_
  refine PW_aload_n (pc' := 122) (q := 0) (pw_dk dc_X12_init 86 rfl) rfl rfl rfl ?_
  refine PW_bipush (pc' := 124) (v := 10) (pw_dk dc_X12_init 87 rfl) rfl (by decide) ?_
  refine KW_newaI (pc' := 126) (id := 5008) (N0 := 10) (k' := 6) (n' := 756) (al' := aM 7) (pw_dk dc_X12_init 88 rfl) rfl tw_194 (by decide) (by decide) (by decide) rfl rfl (by decide) (by decide) rfl (Or.inr ⟨(5007, 13, 10), List.mem_of_getElem? (i := 5) rfl, rfl⟩) rfl ?_
  refine PW_putFR (pc' := 129) (id := 5000) (ci := 12) (nn := 0) (T := TX12) (N := 62) (j := 7) (ty := tyX12 7) (pw_dk dc_X12_init 89 rfl) rfl (List.mem_of_getElem? (i := 0) rfl) rfl pi_12 tyX12_ok nmX12 (by decide) fk_12_7 tw_1404 (by decide) rfl rfl (tyX12_ok 7 (by decide)) (fun _ => rfl) (fun _ => rfl) rfl ?_
  refine PW_aload_n (pc' := 130) (q := 0) (pw_dk dc_X12_init 90 rfl) rfl rfl rfl ?_
  refine PW_bipush (pc' := 132) (v := 10) (pw_dk dc_X12_init 91 rfl) rfl (by decide) ?_
  refine KW_newaI (pc' := 134) (id := 5009) (N0 := 10) (k' := 7) (n' := 766) (al' := aM 8) (pw_dk dc_X12_init 92 rfl) rfl tw_194 (by decide) (by decide) (by decide) rfl rfl (by decide) (by decide) rfl (Or.inr ⟨(5008, 13, 10), List.mem_of_getElem? (i := 6) rfl, rfl⟩) rfl ?_
  refine PW_putFR (pc' := 137) (id := 5000) (ci := 12) (nn := 0) (T := TX12) (N := 62) (j := 8) (ty := tyX12 8) (pw_dk dc_X12_init 93 rfl) rfl (List.mem_of_getElem? (i := 0) rfl) rfl pi_12 tyX12_ok nmX12 (by decide) fk_12_8 tw_1405 (by decide) rfl rfl (tyX12_ok 8 (by decide)) (fun _ => rfl) (fun _ => rfl) rfl ?_
  refine PW_aload_n (pc' := 138) (q := 0) (pw_dk dc_X12_init 94 rfl) rfl rfl rfl ?_
  refine PW_bipush (pc' := 140) (v := 10) (pw_dk dc_X12_init 95 rfl) rfl (by decide) ?_
  refine KW_newaI (pc' := 142) (id := 5010) (N0 := 10) (k' := 8) (n' := 776) (al' := aM 9) (pw_dk dc_X12_init 96 rfl) rfl tw_194 (by decide) (by decide) (by decide) rfl rfl (by decide) (by decide) rfl (Or.inr ⟨(5009, 13, 10), List.mem_of_getElem? (i := 7) rfl, rfl⟩) rfl ?_
  refine PW_putFR (pc' := 145) (id := 5000) (ci := 12) (nn := 0) (T := TX12) (N := 62) (j := 9) (ty := tyX12 9) (pw_dk dc_X12_init 97 rfl) rfl (List.mem_of_getElem? (i := 0) rfl) rfl pi_12 tyX12_ok nmX12 (by decide) fk_12_9 tw_1406 (by decide) rfl rfl (tyX12_ok 9 (by decide)) (fun _ => rfl) (fun _ => rfl) rfl ?_
  refine PW_aload_n (pc' := 146) (q := 0) (pw_dk dc_X12_init 98 rfl) rfl rfl rfl ?_
  refine PW_bipush (pc' := 148) (v := 10) (pw_dk dc_X12_init 99 rfl) rfl (by decide) ?_
  refine KW_newaI (pc' := 150) (id := 5011) (N0 := 10) (k' := 9) (n' := 786) (al' := aM 10) (pw_dk dc_X12_init 100 rfl) rfl tw_194 (by decide) (by decide) (by decide) rfl rfl (by decide) (by decide) rfl (Or.inr ⟨(5010, 13, 10), List.mem_of_getElem? (i := 8) rfl, rfl⟩) rfl ?_
  refine PW_putFR (pc' := 153) (id := 5000) (ci := 12) (nn := 0) (T := TX12) (N := 62) (j := 10) (ty := tyX12 10) (pw_dk dc_X12_init 101 rfl) rfl (List.mem_of_getElem? (i := 0) rfl) rfl pi_12 tyX12_ok nmX12 (by decide) fk_12_10 tw_1407 (by decide) rfl rfl (tyX12_ok 10 (by decide)) (fun _ => rfl) (fun _ => rfl) rfl ?_
  refine PW_aload_n (pc' := 154) (q := 0) (pw_dk dc_X12_init 102 rfl) rfl rfl rfl ?_
  refine PW_bipush (pc' := 156) (v := 10) (pw_dk dc_X12_init 103 rfl) rfl (by decide) ?_
  refine KW_newaI (pc' := 158) (id := 5012) (N0 := 10) (k' := 10) (n' := 796) (al' := aM 11) (pw_dk dc_X12_init 104 rfl) rfl tw_194 (by decide) (by decide) (by decide) rfl rfl (by decide) (by decide) rfl (Or.inr ⟨(5011, 13, 10), List.mem_of_getElem? (i := 9) rfl, rfl⟩) rfl ?_
  refine PW_putFR (pc' := 161) (id := 5000) (ci := 12) (nn := 0) (T := TX12) (N := 62) (j := 11) (ty := tyX12 11) (pw_dk dc_X12_init 105 rfl) rfl (List.mem_of_getElem? (i := 0) rfl) rfl pi_12 tyX12_ok nmX12 (by decide) fk_12_11 tw_1408 (by decide) rfl rfl (tyX12_ok 11 (by decide)) (fun _ => rfl) (fun _ => rfl) rfl ?_
  refine PW_aload_n (pc' := 162) (q := 0) (pw_dk dc_X12_init 106 rfl) rfl rfl rfl ?_
  refine PW_bipush (pc' := 164) (v := 10) (pw_dk dc_X12_init 107 rfl) rfl (by decide) ?_
  refine KW_newaI (pc' := 166) (id := 5013) (N0 := 10) (k' := 11) (n' := 806) (al' := aM 12) (pw_dk dc_X12_init 108 rfl) rfl tw_194 (by decide) (by decide) (by decide) rfl rfl (by decide) (by decide) rfl (Or.inr ⟨(5012, 13, 10), List.mem_of_getElem? (i := 10) rfl, rfl⟩) rfl ?_
  refine PW_putFR (pc' := 169) (id := 5000) (ci := 12) (nn := 0) (T := TX12) (N := 62) (j := 12) (ty := tyX12 12) (pw_dk dc_X12_init 109 rfl) rfl (List.mem_of_getElem? (i := 0) rfl) rfl pi_12 tyX12_ok nmX12 (by decide) fk_12_12 tw_1409 (by decide) rfl rfl (tyX12_ok 12 (by decide)) (fun _ => rfl) (fun _ => rfl) rfl ?_
  refine PW_aload_n (pc' := 170) (q := 0) (pw_dk dc_X12_init 110 rfl) rfl rfl rfl ?_
  refine PW_bipush (pc' := 172) (v := 24) (pw_dk dc_X12_init 111 rfl) rfl (by decide) ?_
  refine KW_newaI (pc' := 174) (id := 5014) (N0 := 24) (k' := 12) (n' := 830) (al' := aM 13) (pw_dk dc_X12_init 112 rfl) rfl tw_194 (by decide) (by decide) (by decide) rfl rfl (by decide) (by decide) rfl (Or.inr ⟨(5013, 13, 10), List.mem_of_getElem? (i := 11) rfl, rfl⟩) rfl ?_
  refine PW_putFR (pc' := 177) (id := 5000) (ci := 12) (nn := 0) (T := TX12) (N := 62) (j := 13) (ty := tyX12 13) (pw_dk dc_X12_init 113 rfl) rfl (List.mem_of_getElem? (i := 0) rfl) rfl pi_12 tyX12_ok nmX12 (by decide) fk_12_13 tw_1410 (by decide) rfl rfl (tyX12_ok 13 (by decide)) (fun _ => rfl) (fun _ => rfl) rfl ?_
  refine PW_aload_n (pc' := 178) (q := 0) (pw_dk dc_X12_init 114 rfl) rfl rfl rfl ?_
  refine PW_bipush (pc' := 180) (v := 24) (pw_dk dc_X12_init 115 rfl) rfl (by decide) ?_
  refine KW_newaI (pc' := 182) (id := 5015) (N0 := 24) (k' := 13) (n' := 854) (al' := aM 14) (pw_dk dc_X12_init 116 rfl) rfl tw_194 (by decide) (by decide) (by decide) rfl rfl (by decide) (by decide) rfl (Or.inr ⟨(5014, 13, 24), List.mem_of_getElem? (i := 12) rfl, rfl⟩) rfl ?_
  refine PW_putFR (pc' := 185) (id := 5000) (ci := 12) (nn := 0) (T := TX12) (N := 62) (j := 14) (ty := tyX12 14) (pw_dk dc_X12_init 117 rfl) rfl (List.mem_of_getElem? (i := 0) rfl) rfl pi_12 tyX12_ok nmX12 (by decide) fk_12_14 tw_1411 (by decide) rfl rfl (tyX12_ok 14 (by decide)) (fun _ => rfl) (fun _ => rfl) rfl ?_
  refine PW_aload_n (pc' := 186) (q := 0) (pw_dk dc_X12_init 118 rfl) rfl rfl rfl ?_
  refine PW_bipush (pc' := 188) (v := 24) (pw_dk dc_X12_init 119 rfl) rfl (by decide) ?_
  refine KW_newaI (pc' := 190) (id := 5016) (N0 := 24) (k' := 14) (n' := 878) (al' := aM 15) (pw_dk dc_X12_init 120 rfl) rfl tw_194 (by decide) (by decide) (by decide) rfl rfl (by decide) (by decide) rfl (Or.inr ⟨(5015, 13, 24), List.mem_of_getElem? (i := 13) rfl, rfl⟩) rfl ?_
  refine PW_putFR (pc' := 193) (id := 5000) (ci := 12) (nn := 0) (T := TX12) (N := 62) (j := 15) (ty := tyX12 15) (pw_dk dc_X12_init 121 rfl) rfl (List.mem_of_getElem? (i := 0) rfl) rfl pi_12 tyX12_ok nmX12 (by decide) fk_12_15 tw_1412 (by decide) rfl rfl (tyX12_ok 15 (by decide)) (fun _ => rfl) (fun _ => rfl) rfl ?_
  refine PW_aload_n (pc' := 194) (q := 0) (pw_dk dc_X12_init 122 rfl) rfl rfl rfl ?_
  refine PW_bipush (pc' := 196) (v := 24) (pw_dk dc_X12_init 123 rfl) rfl (by decide) ?_
  refine KW_newaI (pc' := 198) (id := 5017) (N0 := 24) (k' := 15) (n' := 902) (al' := aM 16) (pw_dk dc_X12_init 124 rfl) rfl tw_194 (by decide) (by decide) (by decide) rfl rfl (by decide) (by decide) rfl (Or.inr ⟨(5016, 13, 24), List.mem_of_getElem? (i := 14) rfl, rfl⟩) rfl ?_
  refine PW_putFR (pc' := 201) (id := 5000) (ci := 12) (nn := 0) (T := TX12) (N := 62) (j := 16) (ty := tyX12 16) (pw_dk dc_X12_init 125 rfl) rfl (List.mem_of_getElem? (i := 0) rfl) rfl pi_12 tyX12_ok nmX12 (by decide) fk_12_16 tw_1413 (by decide) rfl rfl (tyX12_ok 16 (by decide)) (fun _ => rfl) (fun _ => rfl) rfl ?_
  refine PW_aload_n (pc' := 202) (q := 0) (pw_dk dc_X12_init 126 rfl) rfl rfl rfl ?_
  refine PW_bipush (pc' := 204) (v := 6) (pw_dk dc_X12_init 127 rfl) rfl (by decide) ?_
  refine KW_newaI (pc' := 206) (id := 5018) (N0 := 6) (k' := 16) (n' := 908) (al' := aM 17) (pw_dk dc_X12_init 128 rfl) rfl tw_194 (by decide) (by decide) (by decide) rfl rfl (by decide) (by decide) rfl (Or.inr ⟨(5017, 13, 24), List.mem_of_getElem? (i := 15) rfl, rfl⟩) rfl ?_
  refine PW_putFR (pc' := 209) (id := 5000) (ci := 12) (nn := 0) (T := TX12) (N := 62) (j := 17) (ty := tyX12 17) (pw_dk dc_X12_init 129 rfl) rfl (List.mem_of_getElem? (i := 0) rfl) rfl pi_12 tyX12_ok nmX12 (by decide) fk_12_17 tw_1414 (by decide) rfl rfl (tyX12_ok 17 (by decide)) (fun _ => rfl) (fun _ => rfl) rfl ?_
  refine PW_aload_n (pc' := 210) (q := 0) (pw_dk dc_X12_init 130 rfl) rfl rfl rfl ?_
  refine PW_bipush (pc' := 212) (v := 6) (pw_dk dc_X12_init 131 rfl) rfl (by decide) ?_
  refine KW_newaI (pc' := 214) (id := 5019) (N0 := 6) (k' := 17) (n' := 914) (al' := aM 18) (pw_dk dc_X12_init 132 rfl) rfl tw_194 (by decide) (by decide) (by decide) rfl rfl (by decide) (by decide) rfl (Or.inr ⟨(5018, 13, 6), List.mem_of_getElem? (i := 16) rfl, rfl⟩) rfl ?_
  refine PW_putFR (pc' := 217) (id := 5000) (ci := 12) (nn := 0) (T := TX12) (N := 62) (j := 18) (ty := tyX12 18) (pw_dk dc_X12_init 133 rfl) rfl (List.mem_of_getElem? (i := 0) rfl) rfl pi_12 tyX12_ok nmX12 (by decide) fk_12_18 tw_1415 (by decide) rfl rfl (tyX12_ok 18 (by decide)) (fun _ => rfl) (fun _ => rfl) rfl ?_
  refine PW_aload_n (pc' := 218) (q := 0) (pw_dk dc_X12_init 134 rfl) rfl rfl rfl ?_
  refine PW_sipush (pc' := 221) (v := 128) (pw_dk dc_X12_init 135 rfl) rfl (by decide) ?_
  refine KW_newaI (pc' := 223) (id := 5020) (N0 := 128) (k' := 18) (n' := 1042) (al' := aM 19) (pw_dk dc_X12_init 136 rfl) rfl tw_194 (by decide) (by decide) (by decide) rfl rfl (by decide) (by decide) rfl (Or.inr ⟨(5019, 13, 6), List.mem_of_getElem? (i := 17) rfl, rfl⟩) rfl ?_
  refine PW_putFR (pc' := 226) (id := 5000) (ci := 12) (nn := 0) (T := TX12) (N := 62) (j := 19) (ty := tyX12 19) (pw_dk dc_X12_init 137 rfl) rfl (List.mem_of_getElem? (i := 0) rfl) rfl pi_12 tyX12_ok nmX12 (by decide) fk_12_19 tw_1416 (by decide) rfl rfl (tyX12_ok 19 (by decide)) (fun _ => rfl) (fun _ => rfl) rfl ?_
  refine PW_aload_n (pc' := 227) (q := 0) (pw_dk dc_X12_init 138 rfl) rfl rfl rfl ?_
  refine PW_sipush (pc' := 230) (v := 128) (pw_dk dc_X12_init 139 rfl) rfl (by decide) ?_
  refine KW_newaI (pc' := 232) (id := 5021) (N0 := 128) (k' := 19) (n' := 1170) (al' := aM 20) (pw_dk dc_X12_init 140 rfl) rfl tw_194 (by decide) (by decide) (by decide) rfl rfl (by decide) (by decide) rfl (Or.inr ⟨(5020, 13, 128), List.mem_of_getElem? (i := 18) rfl, rfl⟩) rfl ?_
  refine PW_putFR (pc' := 235) (id := 5000) (ci := 12) (nn := 0) (T := TX12) (N := 62) (j := 20) (ty := tyX12 20) (pw_dk dc_X12_init 141 rfl) rfl (List.mem_of_getElem? (i := 0) rfl) rfl pi_12 tyX12_ok nmX12 (by decide) fk_12_20 tw_1417 (by decide) rfl rfl (tyX12_ok 20 (by decide)) (fun _ => rfl) (fun _ => rfl) rfl ?_
  refine PW_aload_n (pc' := 236) (q := 0) (pw_dk dc_X12_init 142 rfl) rfl rfl rfl ?_
  refine PW_iconst (pc' := 237) (v := (-1 : Int32)) (pw_dk dc_X12_init 143 rfl) rfl (by decide) ?_
  refine PW_putI (pc' := 240) (id := 5000) (ci := 12) (nn := 0) (T := TX12) (N := 62) (j := 31) (ty := tyX12 31) (pw_dk dc_X12_init 144 rfl) rfl (List.mem_of_getElem? (i := 0) rfl) rfl pi_12 tyX12_ok nmX12 (by decide) fk_12_31 tw_1428 rfl (tyX12_ok 31 (by decide)) (fun _ => rfl) (fun _ => rfl) ?_
  refine PW_aload_n (pc' := 241) (q := 0) (pw_dk dc_X12_init 145 rfl) rfl rfl rfl ?_
  refine PW_bipush (pc' := 243) (v := 7) (pw_dk dc_X12_init 146 rfl) rfl (by decide) ?_
  refine KW_newaJ (pc' := 245) (id := 5035) (N0 := 7) (k' := 20) (n' := 1177) (al' := aM 21) (pw_dk dc_X12_init 147 rfl) rfl tw_195 (by decide) (by decide) (by decide) rfl rfl (by decide) (by decide) rfl (Or.inr ⟨(5021, 13, 128), List.mem_of_getElem? (i := 19) rfl, rfl⟩) rfl ?_
  refine PW_putFR (pc' := 248) (id := 5000) (ci := 12) (nn := 0) (T := TX12) (N := 62) (j := 34) (ty := tyX12 34) (pw_dk dc_X12_init 148 rfl) rfl (List.mem_of_getElem? (i := 0) rfl) rfl pi_12 tyX12_ok nmX12 (by decide) fk_12_34 tw_1431 (by decide) rfl rfl (tyX12_ok 34 (by decide)) (fun _ => rfl) (fun _ => rfl) rfl ?_
  refine PW_aload_n (pc' := 249) (q := 0) (pw_dk dc_X12_init 149 rfl) rfl rfl rfl ?_
  refine PW_bipush (pc' := 251) (v := 64) (pw_dk dc_X12_init 150 rfl) rfl (by decide) ?_
  refine KW_newaJ (pc' := 253) (id := 5036) (N0 := 64) (k' := 21) (n' := 1241) (al' := aM 22) (pw_dk dc_X12_init 151 rfl) rfl tw_195 (by decide) (by decide) (by decide) rfl rfl (by decide) (by decide) rfl (Or.inr ⟨(5035, 14, 7), List.mem_of_getElem? (i := 20) rfl, rfl⟩) rfl ?_
  refine PW_putFR (pc' := 256) (id := 5000) (ci := 12) (nn := 0) (T := TX12) (N := 62) (j := 35) (ty := tyX12 35) (pw_dk dc_X12_init 152 rfl) rfl (List.mem_of_getElem? (i := 0) rfl) rfl pi_12 tyX12_ok nmX12 (by decide) fk_12_35 tw_1432 (by decide) rfl rfl (tyX12_ok 35 (by decide)) (fun _ => rfl) (fun _ => rfl) rfl ?_
  refine PW_aload_n (pc' := 257) (q := 0) (pw_dk dc_X12_init 153 rfl) rfl rfl rfl ?_
  refine PW_iconst (pc' := 258) (v := (-1 : Int32)) (pw_dk dc_X12_init 154 rfl) rfl (by decide) ?_
  refine PW_putI (pc' := 261) (id := 5000) (ci := 12) (nn := 0) (T := TX12) (N := 62) (j := 37) (ty := tyX12 37) (pw_dk dc_X12_init 155 rfl) rfl (List.mem_of_getElem? (i := 0) rfl) rfl pi_12 tyX12_ok nmX12 (by decide) fk_12_37 tw_1434 rfl (tyX12_ok 37 (by decide)) (fun _ => rfl) (fun _ => rfl) ?_
  refine PW_aload_n (pc' := 262) (q := 0) (pw_dk dc_X12_init 156 rfl) rfl rfl rfl ?_
  refine PW_bipush (pc' := 264) (v := 23) (pw_dk dc_X12_init 157 rfl) rfl (by decide) ?_
  refine KW_newaI (pc' := 266) (id := 5039) (N0 := 23) (k' := 22) (n' := 1264) (al' := aM 23) (pw_dk dc_X12_init 158 rfl) rfl tw_194 (by decide) (by decide) (by decide) rfl rfl (by decide) (by decide) rfl (Or.inr ⟨(5036, 14, 64), List.mem_of_getElem? (i := 21) rfl, rfl⟩) rfl ?_
  refine PW_putFR (pc' := 269) (id := 5000) (ci := 12) (nn := 0) (T := TX12) (N := 62) (j := 38) (ty := tyX12 38) (pw_dk dc_X12_init 159 rfl) rfl (List.mem_of_getElem? (i := 0) rfl) rfl pi_12 tyX12_ok nmX12 (by decide) fk_12_38 tw_1435 (by decide) rfl rfl (tyX12_ok 38 (by decide)) (fun _ => rfl) (fun _ => rfl) rfl ?_
  refine PW_aload_n (pc' := 270) (q := 0) (pw_dk dc_X12_init 160 rfl) rfl rfl rfl ?_
  refine PW_bipush (pc' := 272) (v := 23) (pw_dk dc_X12_init 161 rfl) rfl (by decide) ?_
  refine KW_newaI (pc' := 274) (id := 5040) (N0 := 23) (k' := 23) (n' := 1287) (al' := aM 24) (pw_dk dc_X12_init 162 rfl) rfl tw_194 (by decide) (by decide) (by decide) rfl rfl (by decide) (by decide) rfl (Or.inr ⟨(5039, 13, 23), List.mem_of_getElem? (i := 22) rfl, rfl⟩) rfl ?_
  refine PW_putFR (pc' := 277) (id := 5000) (ci := 12) (nn := 0) (T := TX12) (N := 62) (j := 39) (ty := tyX12 39) (pw_dk dc_X12_init 163 rfl) rfl (List.mem_of_getElem? (i := 0) rfl) rfl pi_12 tyX12_ok nmX12 (by decide) fk_12_39 tw_1436 (by decide) rfl rfl (tyX12_ok 39 (by decide)) (fun _ => rfl) (fun _ => rfl) rfl ?_
  refine PW_aload_n (pc' := 278) (q := 0) (pw_dk dc_X12_init 164 rfl) rfl rfl rfl ?_
  refine PW_bipush (pc' := 280) (v := 23) (pw_dk dc_X12_init 165 rfl) rfl (by decide) ?_
  refine KW_newaI (pc' := 282) (id := 5041) (N0 := 23) (k' := 24) (n' := 1310) (al' := aM 25) (pw_dk dc_X12_init 166 rfl) rfl tw_194 (by decide) (by decide) (by decide) rfl rfl (by decide) (by decide) rfl (Or.inr ⟨(5040, 13, 23), List.mem_of_getElem? (i := 23) rfl, rfl⟩) rfl ?_
  refine PW_putFR (pc' := 285) (id := 5000) (ci := 12) (nn := 0) (T := TX12) (N := 62) (j := 40) (ty := tyX12 40) (pw_dk dc_X12_init 167 rfl) rfl (List.mem_of_getElem? (i := 0) rfl) rfl pi_12 tyX12_ok nmX12 (by decide) fk_12_40 tw_1437 (by decide) rfl rfl (tyX12_ok 40 (by decide)) (fun _ => rfl) (fun _ => rfl) rfl ?_
  refine PW_aload_n (pc' := 286) (q := 0) (pw_dk dc_X12_init 168 rfl) rfl rfl rfl ?_
  refine PW_bipush (pc' := 288) (v := 115) (pw_dk dc_X12_init 169 rfl) rfl (by decide) ?_
  refine KW_newaI (pc' := 290) (id := 5042) (N0 := 115) (k' := 25) (n' := 1425) (al' := aM 26) (pw_dk dc_X12_init 170 rfl) rfl tw_194 (by decide) (by decide) (by decide) rfl rfl (by decide) (by decide) rfl (Or.inr ⟨(5041, 13, 23), List.mem_of_getElem? (i := 24) rfl, rfl⟩) rfl ?_
  refine PW_putFR (pc' := 293) (id := 5000) (ci := 12) (nn := 0) (T := TX12) (N := 62) (j := 41) (ty := tyX12 41) (pw_dk dc_X12_init 171 rfl) rfl (List.mem_of_getElem? (i := 0) rfl) rfl pi_12 tyX12_ok nmX12 (by decide) fk_12_41 tw_1438 (by decide) rfl rfl (tyX12_ok 41 (by decide)) (fun _ => rfl) (fun _ => rfl) rfl ?_
  refine PW_aload_n (pc' := 294) (q := 0) (pw_dk dc_X12_init 172 rfl) rfl rfl rfl ?_
  refine PW_bipush (pc' := 296) (v := 115) (pw_dk dc_X12_init 173 rfl) rfl (by decide) ?_
  refine KW_newaI (pc' := 298) (id := 5043) (N0 := 115) (k' := 26) (n' := 1540) (al' := aM 27) (pw_dk dc_X12_init 174 rfl) rfl tw_194 (by decide) (by decide) (by decide) rfl rfl (by decide) (by decide) rfl (Or.inr ⟨(5042, 13, 115), List.mem_of_getElem? (i := 25) rfl, rfl⟩) rfl ?_
  refine PW_putFR (pc' := 301) (id := 5000) (ci := 12) (nn := 0) (T := TX12) (N := 62) (j := 42) (ty := tyX12 42) (pw_dk dc_X12_init 175 rfl) rfl (List.mem_of_getElem? (i := 0) rfl) rfl pi_12 tyX12_ok nmX12 (by decide) fk_12_42 tw_1439 (by decide) rfl rfl (tyX12_ok 42 (by decide)) (fun _ => rfl) (fun _ => rfl) rfl ?_
  refine PW_aload_n (pc' := 302) (q := 0) (pw_dk dc_X12_init 176 rfl) rfl rfl rfl ?_
  refine PW_bipush (pc' := 304) (v := 115) (pw_dk dc_X12_init 177 rfl) rfl (by decide) ?_
  refine KW_newaI (pc' := 306) (id := 5044) (N0 := 115) (k' := 27) (n' := 1655) (al' := aM 28) (pw_dk dc_X12_init 178 rfl) rfl tw_194 (by decide) (by decide) (by decide) rfl rfl (by decide) (by decide) rfl (Or.inr ⟨(5043, 13, 115), List.mem_of_getElem? (i := 26) rfl, rfl⟩) rfl ?_
  refine PW_putFR (pc' := 309) (id := 5000) (ci := 12) (nn := 0) (T := TX12) (N := 62) (j := 43) (ty := tyX12 43) (pw_dk dc_X12_init 179 rfl) rfl (List.mem_of_getElem? (i := 0) rfl) rfl pi_12 tyX12_ok nmX12 (by decide) fk_12_43 tw_1440 (by decide) rfl rfl (tyX12_ok 43 (by decide)) (fun _ => rfl) (fun _ => rfl) rfl ?_
  refine PW_aload_n (pc' := 310) (q := 0) (pw_dk dc_X12_init 180 rfl) rfl rfl rfl ?_
  refine PW_sipush (pc' := 313) (v := 276) (pw_dk dc_X12_init 181 rfl) rfl (by decide) ?_
  refine KW_newaI (pc' := 315) (id := 5045) (N0 := 276) (k' := 28) (n' := 1931) (al' := aM 29) (pw_dk dc_X12_init 182 rfl) rfl tw_194 (by decide) (by decide) (by decide) rfl rfl (by decide) (by decide) rfl (Or.inr ⟨(5044, 13, 115), List.mem_of_getElem? (i := 27) rfl, rfl⟩) rfl ?_
  refine PW_putFR (pc' := 318) (id := 5000) (ci := 12) (nn := 0) (T := TX12) (N := 62) (j := 44) (ty := tyX12 44) (pw_dk dc_X12_init 183 rfl) rfl (List.mem_of_getElem? (i := 0) rfl) rfl pi_12 tyX12_ok nmX12 (by decide) fk_12_44 tw_1441 (by decide) rfl rfl (tyX12_ok 44 (by decide)) (fun _ => rfl) (fun _ => rfl) rfl ?_
  refine PW_aload_n (pc' := 319) (q := 0) (pw_dk dc_X12_init 184 rfl) rfl rfl rfl ?_
  refine PW_iconst (pc' := 320) (v := (-1 : Int32)) (pw_dk dc_X12_init 185 rfl) rfl (by decide) ?_
  refine PW_putI (pc' := 323) (id := 5000) (ci := 12) (nn := 0) (T := TX12) (N := 62) (j := 47) (ty := tyX12 47) (pw_dk dc_X12_init 186 rfl) rfl (List.mem_of_getElem? (i := 0) rfl) rfl pi_12 tyX12_ok nmX12 (by decide) fk_12_47 tw_1444 rfl (tyX12_ok 47 (by decide)) (fun _ => rfl) (fun _ => rfl) ?_
  refine PW_aload_n (pc' := 324) (q := 0) (pw_dk dc_X12_init 187 rfl) rfl rfl rfl ?_
  refine PW_sipush (pc' := 327) (v := 192) (pw_dk dc_X12_init 188 rfl) rfl (by decide) ?_
  refine KW_newaI (pc' := 329) (id := 5049) (N0 := 192) (k' := 29) (n' := 2123) (al' := aM 30) (pw_dk dc_X12_init 189 rfl) rfl tw_194 (by decide) (by decide) (by decide) rfl rfl (by decide) (by decide) rfl (Or.inr ⟨(5045, 13, 276), List.mem_of_getElem? (i := 28) rfl, rfl⟩) rfl ?_
  refine PW_putFR (pc' := 332) (id := 5000) (ci := 12) (nn := 0) (T := TX12) (N := 62) (j := 48) (ty := tyX12 48) (pw_dk dc_X12_init 190 rfl) rfl (List.mem_of_getElem? (i := 0) rfl) rfl pi_12 tyX12_ok nmX12 (by decide) fk_12_48 tw_1445 (by decide) rfl rfl (tyX12_ok 48 (by decide)) (fun _ => rfl) (fun _ => rfl) rfl ?_
  refine PW_aload_n (pc' := 333) (q := 0) (pw_dk dc_X12_init 191 rfl) rfl rfl rfl ?_
  refine PW_sipush (pc' := 336) (v := 192) (pw_dk dc_X12_init 192 rfl) rfl (by decide) ?_
  refine KW_newaI (pc' := 338) (id := 5050) (N0 := 192) (k' := 30) (n' := 2315) (al' := aM 31) (pw_dk dc_X12_init 193 rfl) rfl tw_194 (by decide) (by decide) (by decide) rfl rfl (by decide) (by decide) rfl (Or.inr ⟨(5049, 13, 192), List.mem_of_getElem? (i := 29) rfl, rfl⟩) rfl ?_
  refine PW_putFR (pc' := 341) (id := 5000) (ci := 12) (nn := 0) (T := TX12) (N := 62) (j := 49) (ty := tyX12 49) (pw_dk dc_X12_init 194 rfl) rfl (List.mem_of_getElem? (i := 0) rfl) rfl pi_12 tyX12_ok nmX12 (by decide) fk_12_49 tw_1446 (by decide) rfl rfl (tyX12_ok 49 (by decide)) (fun _ => rfl) (fun _ => rfl) rfl ?_
  refine PW_aload_n (pc' := 342) (q := 0) (pw_dk dc_X12_init 195 rfl) rfl rfl rfl ?_
  refine PW_sipush (pc' := 345) (v := 192) (pw_dk dc_X12_init 196 rfl) rfl (by decide) ?_
  refine KW_newaZ (pc' := 347) (id := 5051) (N0 := 192) (k' := 31) (n' := 2507) (al' := aM 32) (pw_dk dc_X12_init 197 rfl) rfl tw_551 (by decide) (by decide) (by decide) rfl rfl (by decide) (by decide) rfl (Or.inr ⟨(5050, 13, 192), List.mem_of_getElem? (i := 30) rfl, rfl⟩) rfl ?_
  refine PW_putFR (pc' := 350) (id := 5000) (ci := 12) (nn := 0) (T := TX12) (N := 62) (j := 50) (ty := tyX12 50) (pw_dk dc_X12_init 198 rfl) rfl (List.mem_of_getElem? (i := 0) rfl) rfl pi_12 tyX12_ok nmX12 (by decide) fk_12_50 tw_1447 (by decide) rfl rfl (tyX12_ok 50 (by decide)) (fun _ => rfl) (fun _ => rfl) rfl ?_
  refine PW_aload_n (pc' := 351) (q := 0) (pw_dk dc_X12_init 199 rfl) rfl rfl rfl ?_
  refine PW_bipush (pc' := 353) (v := 16) (pw_dk dc_X12_init 200 rfl) rfl (by decide) ?_
  refine KW_newaI (pc' := 355) (id := 5053) (N0 := 16) (k' := 32) (n' := 2523) (al' := aM 33) (pw_dk dc_X12_init 201 rfl) rfl tw_194 (by decide) (by decide) (by decide) rfl rfl (by decide) (by decide) rfl (Or.inr ⟨(5051, 15, 192), List.mem_of_getElem? (i := 31) rfl, rfl⟩) rfl ?_
  refine PW_putFR (pc' := 358) (id := 5000) (ci := 12) (nn := 0) (T := TX12) (N := 62) (j := 52) (ty := tyX12 52) (pw_dk dc_X12_init 202 rfl) rfl (List.mem_of_getElem? (i := 0) rfl) rfl pi_12 tyX12_ok nmX12 (by decide) fk_12_52 tw_1449 (by decide) rfl rfl (tyX12_ok 52 (by decide)) (fun _ => rfl) (fun _ => rfl) rfl ?_
  refine PW_aload_n (pc' := 359) (q := 0) (pw_dk dc_X12_init 203 rfl) rfl rfl rfl ?_
  refine PW_iconst (pc' := 360) (v := (-1 : Int32)) (pw_dk dc_X12_init 204 rfl) rfl (by decide) ?_
  refine PW_putI (pc' := 363) (id := 5000) (ci := 12) (nn := 0) (T := TX12) (N := 62) (j := 54) (ty := tyX12 54) (pw_dk dc_X12_init 205 rfl) rfl (List.mem_of_getElem? (i := 0) rfl) rfl pi_12 tyX12_ok nmX12 (by decide) fk_12_54 tw_1451 rfl (tyX12_ok 54 (by decide)) (fun _ => rfl) (fun _ => rfl) ?_
  refine PW_aload_n (pc' := 364) (q := 0) (pw_dk dc_X12_init 206 rfl) rfl rfl rfl ?_
  refine PW_bipush (pc' := 366) (v := 24) (pw_dk dc_X12_init 207 rfl) rfl (by decide) ?_
  refine KW_newaI (pc' := 368) (id := 5056) (N0 := 24) (k' := 33) (n' := 2547) (al' := aM 34) (pw_dk dc_X12_init 208 rfl) rfl tw_194 (by decide) (by decide) (by decide) rfl rfl (by decide) (by decide) rfl (Or.inr ⟨(5053, 13, 16), List.mem_of_getElem? (i := 32) rfl, rfl⟩) rfl ?_
  refine PW_putFR (pc' := 371) (id := 5000) (ci := 12) (nn := 0) (T := TX12) (N := 62) (j := 55) (ty := tyX12 55) (pw_dk dc_X12_init 209 rfl) rfl (List.mem_of_getElem? (i := 0) rfl) rfl pi_12 tyX12_ok nmX12 (by decide) fk_12_55 tw_1452 (by decide) rfl rfl (tyX12_ok 55 (by decide)) (fun _ => rfl) (fun _ => rfl) rfl ?_
  refine PW_aload_n (pc' := 372) (q := 0) (pw_dk dc_X12_init 210 rfl) rfl rfl rfl ?_
  refine PW_bipush (pc' := 374) (v := 24) (pw_dk dc_X12_init 211 rfl) rfl (by decide) ?_
  refine KW_newaI (pc' := 376) (id := 5057) (N0 := 24) (k' := 34) (n' := 2571) (al' := aM 35) (pw_dk dc_X12_init 212 rfl) rfl tw_194 (by decide) (by decide) (by decide) rfl rfl (by decide) (by decide) rfl (Or.inr ⟨(5056, 13, 24), List.mem_of_getElem? (i := 33) rfl, rfl⟩) rfl ?_
  refine PW_putFR (pc' := 379) (id := 5000) (ci := 12) (nn := 0) (T := TX12) (N := 62) (j := 56) (ty := tyX12 56) (pw_dk dc_X12_init 213 rfl) rfl (List.mem_of_getElem? (i := 0) rfl) rfl pi_12 tyX12_ok nmX12 (by decide) fk_12_56 tw_1453 (by decide) rfl rfl (tyX12_ok 56 (by decide)) (fun _ => rfl) (fun _ => rfl) rfl ?_
  refine PW_aload_n (pc' := 380) (q := 0) (pw_dk dc_X12_init 214 rfl) rfl rfl rfl ?_
  refine PW_bipush (pc' := 382) (v := 24) (pw_dk dc_X12_init 215 rfl) rfl (by decide) ?_
  refine KW_newaI (pc' := 384) (id := 5058) (N0 := 24) (k' := 35) (n' := 2595) (al' := aM 36) (pw_dk dc_X12_init 216 rfl) rfl tw_194 (by decide) (by decide) (by decide) rfl rfl (by decide) (by decide) rfl (Or.inr ⟨(5057, 13, 24), List.mem_of_getElem? (i := 34) rfl, rfl⟩) rfl ?_
  refine PW_putFR (pc' := 387) (id := 5000) (ci := 12) (nn := 0) (T := TX12) (N := 62) (j := 57) (ty := tyX12 57) (pw_dk dc_X12_init 217 rfl) rfl (List.mem_of_getElem? (i := 0) rfl) rfl pi_12 tyX12_ok nmX12 (by decide) fk_12_57 tw_1454 (by decide) rfl rfl (tyX12_ok 57 (by decide)) (fun _ => rfl) (fun _ => rfl) rfl ?_
  refine PW_aload_n (pc' := 388) (q := 0) (pw_dk dc_X12_init 218 rfl) rfl rfl rfl ?_
  refine PW_bipush (pc' := 390) (v := 24) (pw_dk dc_X12_init 219 rfl) rfl (by decide) ?_
  refine KW_newaI (pc' := 392) (id := 5059) (N0 := 24) (k' := 36) (n' := 2619) (al' := aM 37) (pw_dk dc_X12_init 220 rfl) rfl tw_194 (by decide) (by decide) (by decide) rfl rfl (by decide) (by decide) rfl (Or.inr ⟨(5058, 13, 24), List.mem_of_getElem? (i := 35) rfl, rfl⟩) rfl ?_
  refine PW_putFR (pc' := 395) (id := 5000) (ci := 12) (nn := 0) (T := TX12) (N := 62) (j := 58) (ty := tyX12 58) (pw_dk dc_X12_init 221 rfl) rfl (List.mem_of_getElem? (i := 0) rfl) rfl pi_12 tyX12_ok nmX12 (by decide) fk_12_58 tw_1455 (by decide) rfl rfl (tyX12_ok 58 (by decide)) (fun _ => rfl) (fun _ => rfl) rfl ?_
  refine PW_aload_n (pc' := 396) (q := 0) (pw_dk dc_X12_init 222 rfl) rfl rfl rfl ?_
  refine PW_bipush (pc' := 398) (v := 24) (pw_dk dc_X12_init 223 rfl) rfl (by decide) ?_
  refine KW_newaZ (pc' := 400) (id := 5060) (N0 := 24) (k' := 37) (n' := 2643) (al' := aM 38) (pw_dk dc_X12_init 224 rfl) rfl tw_551 (by decide) (by decide) (by decide) rfl rfl (by decide) (by decide) rfl (Or.inr ⟨(5059, 13, 24), List.mem_of_getElem? (i := 36) rfl, rfl⟩) rfl ?_
  refine PW_putFR (pc' := 403) (id := 5000) (ci := 12) (nn := 0) (T := TX12) (N := 62) (j := 59) (ty := tyX12 59) (pw_dk dc_X12_init 225 rfl) rfl (List.mem_of_getElem? (i := 0) rfl) rfl pi_12 tyX12_ok nmX12 (by decide) fk_12_59 tw_1456 (by decide) rfl rfl (tyX12_ok 59 (by decide)) (fun _ => rfl) (fun _ => rfl) rfl ?_
  refine PW_aload_n (pc' := 404) (q := 0) (pw_dk dc_X12_init 226 rfl) rfl rfl rfl ?_
  refine PW_sipush (pc' := 407) (v := 192) (pw_dk dc_X12_init 227 rfl) rfl (by decide) ?_
  refine KW_newaZ (pc' := 409) (id := 5061) (N0 := 192) (k' := 38) (n' := 2835) (al' := aM 39) (pw_dk dc_X12_init 228 rfl) rfl tw_551 (by decide) (by decide) (by decide) rfl rfl (by decide) (by decide) rfl (Or.inr ⟨(5060, 15, 24), List.mem_of_getElem? (i := 37) rfl, rfl⟩) rfl ?_
  refine PW_putFR (pc' := 412) (id := 5000) (ci := 12) (nn := 0) (T := TX12) (N := 62) (j := 60) (ty := tyX12 60) (pw_dk dc_X12_init 229 rfl) rfl (List.mem_of_getElem? (i := 0) rfl) rfl pi_12 tyX12_ok nmX12 (by decide) fk_12_60 tw_1457 (by decide) rfl rfl (tyX12_ok 60 (by decide)) (fun _ => rfl) (fun _ => rfl) rfl ?_
  refine PW_aload_n (pc' := 413) (q := 0) (pw_dk dc_X12_init 230 rfl) rfl rfl rfl ?_
  refine PW_sipush (pc' := 416) (v := 192) (pw_dk dc_X12_init 231 rfl) rfl (by decide) ?_
  refine KW_newaZ (pc' := 418) (id := 5062) (N0 := 192) (k' := 39) (n' := 3027) (al' := aM 40) (pw_dk dc_X12_init 232 rfl) rfl tw_551 (by decide) (by decide) (by decide) rfl rfl (by decide) (by decide) rfl (Or.inr ⟨(5061, 15, 192), List.mem_of_getElem? (i := 38) rfl, rfl⟩) rfl ?_
  refine PW_putFR (pc' := 421) (id := 5000) (ci := 12) (nn := 0) (T := TX12) (N := 62) (j := 61) (ty := tyX12 61) (pw_dk dc_X12_init 233 rfl) rfl (List.mem_of_getElem? (i := 0) rfl) rfl pi_12 tyX12_ok nmX12 (by decide) fk_12_61 tw_1458 (by decide) rfl rfl (tyX12_ok 61 (by decide)) (fun _ => rfl) (fun _ => rfl) rfl ?_
  refine PW_aload_n (pc' := 422) (q := 0) (pw_dk dc_X12_init 234 rfl) rfl rfl rfl ?_
  refine PW_cong (al := alM) he ?_
  refine PW_callV (pc' := 425) (y := yX12_begins) (M' := mX12_begins) (d' := 1) (As := []) (st := []) (b := 5000) (ci := 12) (nn := 0) me_5000 rfl tw_1391 tw_46 (pw_dk dc_X12_init 235 rfl) rfl Y_X12_begins tw_1389 rfl (by decide) (by decide) ⟨Nat.le_refl _, Nat.le_refl _⟩ (Q' := zQ alM (fun r s => r = none ∧ s = σ')) (t_X12_begins σz _ ⟨σ', hb, rfl, rfl⟩) (fun r al' σ1 hz hnr => ?_)
  obtain ⟨s9, e9, rfl, rfl⟩ := hz
  cases e9
  exact PW_vret (pw_dk dc_X12_init 236 rfl) rfl h
