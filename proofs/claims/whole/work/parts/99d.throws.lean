/-! look: where it throws -/
def lkE1 : String := "java/lang/IndexOutOfBoundsException"
def lkE2 : String := "java/util/NoSuchElementException"
def lkN : List String := ["java/lang/RuntimeException", "java/lang/Exception"]
def lk_dR : MethodName := ⟨"java/lang/RuntimeException", "<init>", "(Ljava/lang/String;)V"⟩
def lk_dE : MethodName := ⟨"java/lang/Exception", "<init>", "(Ljava/lang/String;)V"⟩
def lk_dT : MethodName := ⟨"java/lang/Throwable", "<init>", "(Ljava/lang/String;)V"⟩
def lk_ws : List Cond := [.castable lkE1 lkE1, .castable lkE2 lkE2, .declares lk_dR, .declares lk_dE, .declares lk_dT]
/-- what a throw wants to know -/
def lk_X (A : Nat → Prop) (s : State) : Prop :=
  (∃ a, vk_R RX11 124 "no such man" a s) ∧ (∃ a, vk_R RX11 155 "no such what" a s) ∧ vx_Zq Bundle.tN "UNASSIGNED_STACK" Bundle.steD A s s.heap ∧ vx_Zq Bundle.tN "SUPPRESSED_SENTINEL" Bundle.listD A s s.heap ∧
  (va_Nw (.castable lkE1 lkE1) s ∧ va_Nw (.castable lkE2 lkE2) s ∧ va_Nw (.declares lk_dR) s ∧ va_Nw (.declares lk_dE) s ∧ va_Nw (.declares lk_dT) s) ∧ va_Nc lkE2 lkE1 s
theorem lk_X.go {A B : Nat → Prop} {s U : State} {H : Heap} {locs : List Loc} (h : lk_X A s) (hS : va_S A s.heap H locs) (hU : U.heap = H) (hW : s.WarmedH U.vm) (hB : ∀ q, B q → A q) : lk_X B U := by
  obtain ⟨⟨a1, h1⟩, ⟨a2, h2⟩, h3, h4, ⟨w1, w2, w3, w4, w5⟩, h6⟩ := h
  subst hU
  exact ⟨⟨a1, h1.warm hW⟩, ⟨a2, h2.warm hW⟩, ((h3.moved hW.alike).kept hS.2.1).narrow hB, ((h4.moved hW.alike).kept hS.2.1).narrow hB, ⟨w1.warmC hW, w2.warmC hW, w3.warmD hW, w4.warmD hW, w5.warmD hW⟩, h6.moved hW.alike⟩
theorem lk_X.calling {A : Nat → Prop} {U : State} {g : JFrame} {mk : MethodId} {a : Array Value} (h : lk_X A U) : lk_X A (U.calling g mk a) := by
  obtain ⟨⟨a1, h1⟩, ⟨a2, h2⟩, h3, h4, ⟨w1, w2, w3, w4, w5⟩, h6⟩ := h
  exact ⟨⟨a1, h1.same (u := U) (U := U.calling g mk a) rfl⟩, ⟨a2, h2.same (u := U) (U := U.calling g mk a) rfl⟩, h3.moved (u := U) (U := U.calling g mk a) (Vm.Alike.refl U.vm), h4.moved (u := U) (U := U.calling g mk a) (Vm.Alike.refl U.vm),
    ⟨va_Nw.same rfl (u := U) (U := U.calling g mk a) rfl w1, va_Nw.same rfl (u := U) (U := U.calling g mk a) rfl w2, va_Nw.same rfl (u := U) (U := U.calling g mk a) rfl w3, va_Nw.same rfl (u := U) (U := U.calling g mk a) rfl w4, va_Nw.same rfl (u := U) (U := U.calling g mk a) rfl w5⟩, h6.moved (u := U) (U := U.calling g mk a) (Vm.Alike.refl U.vm)⟩
theorem lk_wb {args : Array Value} {A : Nat → Prop} {s : State} (h : lk_X A s) : ∀ w ∈ lk_ws, w.before args s = true := by
  obtain ⟨-, -, -, -, ⟨w1, w2, w3, w4, w5⟩, -⟩ := h
  exact vx_c (va_Nw.use rfl w1) (vx_c (va_Nw.use rfl w2) (vx_c (va_Nw.use rfl w3) (vx_c (va_Nw.use rfl w4) (vx_c (va_Nw.use rfl w5) vx_n))))
theorem lk_i1 : GoodIn lw_tbl ((vx_atS RX11 126 lkE1 lkN).filter goodWord) := goodIn_of _ (by decide +kernel)
/-- the bytes of NoSuchElementException's constructor with a text: its link to the one above is number 13 -/
def lk_rx : ByteArray := ⟨#[0x2a, 0x2b, 0xb7, 0x00, 0x0d, 0xb1]⟩
theorem lk_i2 : GoodIn lw_tbl ((vy_atS RX11 157 lkE2 13 lk_rx lkN).filter goodWord) := goodIn_of _ (by decide +kernel)
theorem lk_b1 : ∀ w ∈ (vx_atS RX11 126 lkE1 lkN).filter (fun w => !goodWord w), w ∈ lk_ws := by decide +kernel
theorem lk_b2 : ∀ w ∈ (vy_atS RX11 157 lkE2 13 lk_rx lkN).filter (fun w => !goodWord w), w ∈ lk_ws := by decide +kernel
theorem lk_o1 : ∀ w ∈ Cond.classLink RX11 122 lkE1 :: Cond.initialized lkE1 :: vx_atS RX11 126 lkE1 lkN, vx_ot w = true := by decide +kernel
theorem lk_o2 : ∀ w ∈ Cond.classLink RX11 153 lkE2 :: Cond.initialized lkE2 :: vy_atS RX11 157 lkE2 13 lk_rx lkN, vx_ot w = true := by decide +kernel
theorem lk_tb {w : Cond} {L : List Cond} (h : GoodIn lw_tbl (L.filter goodWord)) (hw : w ∈ L.filter goodWord) : w ∈ pw_tb := List.mem_filter.mpr ⟨(h w hw).1, (List.mem_filter.mp hw).2⟩
def lk_Qn (A : Nat → Prop) : Array Value → State → Outcome → State → Prop := va_Qi (S := Unit) (fun _ _ => False) (fun _ _ => True) A
def lk_XC (E : String) (D : va_G) (cy ad : Nat → Nat) (A : Nat → Prop) (σ : zS) : String → State → State → Prop := vx_X (S := Unit) (fun _ => True) (fun E' _ t => E' = E ∧ va_P D pw_cl (pw_ws ad cy alC (em σ)) t.heap) A
/-- look on its way to a throw of E -/
def PX (E : String) (σ : zS) (pc : Nat) (lv : List (Nat × Value)) (st : List Value) : Prop :=
  ∀ (p : Program) (l : Launch) (e : Env) (s : State) (m : MethodId) (args : Array Value) (below : List Frame) (meth : Method) (c : Code) (D : va_G) (cy ad : Nat → Nat) (A : Nat → Prop) (H : Heap) (locs : List Loc) (ls : Array Slot),
    l.stackTraces = false → (∀ x ∈ c.exceptionTable.toList, False) → lk_X A s → pw_C mX11_look [] p s m args meth c D cy ad A → va_P D pw_cl (pw_ws ad cy alC (em σ)) H → va_D A (pw_ws ad cy alC (em σ)) → va_S A s.heap H locs → lv_has ls 4 (pw_lv ad lv) →
    W p l e (pw_R 10 1 6) s m args below meth c H locs 0 0 (vx_MQ below (lk_Qn A) (lk_XC E D cy ad A σ) args s 1 6 A) (F0 m pc ls (st.map (pw_cv ad)))
section
variable {E : String} {σ : zS} {pc pc' : Nat} {lv : List (Nat × Value)} {st : List Value}
theorem PX_aload_n {j : Fin 4} {i q : Nat} {x : Nat} (hd : decode cX11_look pc = .ok (.aload_n j, 1)) (hp : pc + 1 = pc') (hi : (j : Nat) = i) (hq : lv[q]? = some (i, .ref x)) (h : PX E σ pc' lv (.ref x :: st)) : PX E σ pc lv st := by
  subst hp
  intro p l e s m args below meth c D cy ad A H locs ls hst hex hLK C hP hD hS hl
  exact lv_aload_n C.1 C.2.1 hd hi (lv_at hl q (pw_lv_at hq)) (h p l e s m args below meth c D cy ad A H locs ls hst hex hLK C hP hD hS hl)
theorem PX_iload_n {j : Fin 4} {i q : Nat} {x : Int32} (hd : decode cX11_look pc = .ok (.iload_n j, 1)) (hp : pc + 1 = pc') (hi : (j : Nat) = i) (hq : lv[q]? = some (i, .int x)) (h : PX E σ pc' lv (.int x :: st)) : PX E σ pc lv st := by
  subst hp
  intro p l e s m args below meth c D cy ad A H locs ls hst hex hLK C hP hD hS hl
  exact lv_iload_n C.1 C.2.1 hd hi (lv_at hl q (pw_lv_at hq)) (h p l e s m args below meth c D cy ad A H locs ls hst hex hLK C hP hD hS hl)
theorem PX_istore_n {j : Fin 4} {i : Nat} {x : Int32} {lv' : List (Nat × Value)} (hd : decode cX11_look pc = .ok (.istore_n j, 1)) (hp : pc + 1 = pc') (hi : (j : Nat) = i) (hn : i < 4) (hv : (i, .int x) :: lv.filter (pw_f1 i) = lv') (h : PX E σ pc' lv' st) : PX E σ pc lv (.int x :: st) := by
  subst hp
  subst hv
  intro p l e s m args below meth c D cy ad A H locs ls hst hex hLK C hP hD hS hl
  exact lv_istore_n C.1 C.2.1 hd hi hl hn (by rw [pw_lv_f1]; rfl) (fun ls hl => h p l e s m args below meth c D cy ad A H locs ls hst hex hLK C hP hD hS hl)
theorem PX_getR {id ci nn ix j : Nat} {C0 : String} {T : u_T} {N : Nat} {r : Nat} (hd : decode cX11_look pc = .ok (.getfield ix, 3)) (hp : pc + 3 = pc') (hin : (id, ci, nn) ∈ alC) (hc : pw_cl[ci]? = some (C0, T, N)) (hws : ∀ w ∈ u_ws C0 T N, w ∈ pw_tb) (hj : j < N) (hk : (pw_fk ci)[j]? = some false) (hw : Cond.fieldLink RX11 ix (T j).1 (T j).2.1 (T j).2.2.1 ∈ pw_tb) (hr : (em σ).2.2 id j = r) (hr0 : ¬ r = 0) (h : PX E σ pc' lv (.ref r :: st)) : PX E σ pc lv (.ref id :: st) := by
  subst hp
  intro p l e s m args below meth c D cy ad A H locs ls hst hex hLK C hP hD hS hl
  have C2 := C
  obtain ⟨hx, hb, -, hml, hown, hts, hlk, hK, hA, ho, hX, hnm0⟩ := C2
  obtain ⟨q, hq1, hq2⟩ := pw_ws_at (ad := ad) (cy := cy) (σ := em σ) hin
  rw [pw_en_o (pw_ci hc)] at hq1
  refine va_get (D := D) (ci := ci) (v := .ref (ad r)) (C := C0) (T := T) (N := N) hx hb hts hws hown hK hP q hq1 hc j hj (hts _ hw) (fun _ h9 => h9) ?_ hd (h p l e s m args below meth c D cy ad A H locs ls hst hex hLK C hP hD hS hl)
  have e := pw_fl_r ad (em σ) id (pw_fk ci) 0 j hk
  rw [Nat.zero_add, hr, pw_rv, if_neg hr0] at e
  exact e
theorem PX_iald {id nn : Nat} {i : Int32} (hd : decode cX11_look pc = .ok (.iaload, 1)) (hp : pc + 1 = pc') (hin : (id, 13, nn) ∈ alC) (hi : vp_in i nn) (h : PX E σ pc' lv (.int ((em σ).1 id i.toNatClampNeg) :: st)) : PX E σ pc lv (.int i :: .ref id :: st) := by
  subst hp
  intro p l e s m args below meth c D cy ad A H locs ls hst hex hLK C hP hD hS hl
  have C2 := C
  obtain ⟨hx, hb, hr, hml, hown, hts, hlk, hK, hA, ho, hX, hnm0⟩ := C2
  obtain ⟨q, hq1, hq2⟩ := pw_ws_at (ad := ad) (cy := cy) (σ := em σ) hin
  exact va_iald (D := D) hx hb hK hP q 0 hq1 rfl hi hd (h p l e s m args below meth c D cy ad A H locs ls hst hex hLK C hP hD hS hl)
theorem PX_if_ne {x : Int32} {off : Int} {tgt : Nat} (hd : decode cX11_look pc = .ok (.ifCond .ne off, 3)) (hp : pc + 3 = pc') (ht : (pc : Int) + off = (tgt : Int)) (h1 : ¬ x = 0 → PX E σ tgt lv st) (h2 : x = 0 → PX E σ pc' lv st) : PX E σ pc lv (.int x :: st) := by
  subst hp
  intro p l e s m args below meth c D cy ad A H locs ls hst hex hLK C hP hD hS hl
  exact lv_if_ne C.1 C.2.1 hd ht (fun z => h1 z p l e s m args below meth c D cy ad A H locs ls hst hex hLK C hP hD hS hl) (fun z => h2 z p l e s m args below meth c D cy ad A H locs ls hst hex hLK C hP hD hS hl)
theorem PX_tout {dflt lo hi : Int} {offs : Array Int} {len : Nat} {x : Int32} {tgt : Nat} (hd : decode cX11_look pc = .ok (.tableswitch dflt lo hi offs, len)) (h1 : x.toInt < lo ∨ hi < x.toInt) (ht : (pc : Int) + dflt = (tgt : Int)) (h : PX E σ tgt lv st) : PX E σ pc lv (.int x :: st) := by
  intro p l e s m args below meth c D cy ad A H locs ls hst hex hLK C hP hD hS hl
  exact lv_tableOut C.1 C.2.1 hd h1 ht (h p l e s m args below meth c D cy ad A H locs ls hst hex hLK C hP hD hS hl)
theorem PX_callV {y : MethodName} {M' : pM} {d' nA ix : Nat} {As : List Value} {b ci nn : Nat} {T : u_T} {N : Nat} (hin : (b, ci, nn) ∈ alC) (hci : pw_cl[ci]? = some (y.cls, T, N)) (w2 : Cond.instanceMethod y ∈ pw_tb) (w3 : Cond.selects y.cls y y ∈ pw_tb) (hd : decode cX11_look pc = .ok (.invokevirtual ix, 3)) (hp : pc + 3 = pc') (hY : pw_Y y M' nA) (w1 : Cond.methodLink RX11 ix y ∈ pw_tb) (hn : As.length = nA) (hdd : d' + 1 ≤ 10) (hst9 : (st.map fun v => v.category).sum ≤ 8)
    (h : PK alC y M' d' (.ref b :: As) σ (fun r σ' => ∃ v : Int32, r = some (.int v) ∧ PX E σ' pc' lv (.int v :: st) ∧ σ' = σ)) : PX E σ pc lv (As.reverse ++ .ref b :: st) := by
  subst hp
  intro p l e s m args below meth c D cy ad A H locs ls hst hex hLK C hP hD hS hl
  have C2 := C
  obtain ⟨hx, hb, hr, hml, hown, hts, hlk, hK, hA, ho, hX, hnm0⟩ := C2
  have hF : ∀ z, va_A (pw_ws ad cy alC (em σ)) H.size z → A z := by
    intro z hz
    rcases hz with ⟨q, e9, hz⟩ | hz
    · exact hD.2 q _ hz
    · exact hA z (Nat.le_trans hS.1 hz)
  obtain ⟨q, hq1, hq2⟩ := pw_ws_at (ad := ad) (cy := cy) (σ := em σ) hin
  rw [pw_en_o (pw_ci hci)] at hq1
  refine pw_back (M' := M') (al := alC) (σ := em σ) (rest := st.map (pw_cv ad)) (mc := 0) (ms := 0) (va_runV (As := As.map (pw_cv ad)) (g := F0 m pc ls ((As.reverse ++ .ref b :: st).map (pw_cv ad))) ⟨hx, hb, hml, hown, hts⟩ (h l D cy ad H.size) ⟨pw_CB (M := mX11_look) hts hY hdd w1, hts _ w2, hts _ w3⟩ ⟨pw_blind, va_recv hK hP hci hq1, fun U hU hW => ⟨rfl, by rw [hU], by rw [hU]; exact hP, va_K.moved hW.alike hK, hD.weaken (fun _ _ _ _ => trivial), fun i id h9 => (by simp at h9), hX.go hS hU hW hF⟩⟩ rfl (by rw [List.length_map]; exact hn) hl.1 (by simp [List.map_append, List.map_reverse, pw_cv]) (lv_room (by rw [pw_sum]; exact hst9)) hd ⟨by decide, by decide⟩) hS hF (fun r al' σ' H1 locs1 hq hnr hP1 hD1 hS1 => ?_)
  rw [pw_stk]
  obtain ⟨σ2, e2, v, rfl, hq, rfl⟩ := hq
  cases e2
  exact hq p l e s m args below meth c D cy ad A H1 locs1 ls hst hex hLK C hP1 hD1 hS1 hl
theorem PX_XC {D : va_G} {cy ad : Nat → Nat} {A : Nat → Prop} {s t : State} {H : Heap} {locs : List Loc} (hP : va_P D pw_cl (pw_ws ad cy alC (em σ)) H) (hS : va_S A s.heap H locs) (hz : H.size ≤ t.heap.size) (hk : ∀ q : Nat, q < H.size → t.heap[q]? = H[q]?) : lk_XC E D cy ad A σ E s t :=
  ⟨(), trivial, ⟨rfl, hP.kept (fun k q hq => hk _ (hP k q hq).lt)⟩, Nat.le_trans hS.1 hz, fun q h1 h2 => (hk q (Nat.lt_of_lt_of_le h1 hS.1)).trans (hS.2.1 q h1 h2)⟩
theorem PX_throw1 : PX lkE1 σ 8 lv [] := by
  intro p l e s m args below meth c D cy ad A H locs ls hst hex hLK C hP hD hS hl
  have C2 := C
  obtain ⟨hx, hb, hr, hml, hown, hts, hlk, hK, hA, ho, hX, hnm0⟩ := C2
  have hB := lk_wb (args := args) hLK
  obtain ⟨⟨sa, h1⟩, -, hU, hN, -, -⟩ := hLK
  exact vx_throwS (own := RX11) (cls := lkE1) (text := "no such man") (names := lkN) (ik := 122) (is := 124) (ic := 126) (sa := sa) (A := A) hx hb hst hown (by decide +kernel) (by decide +kernel) (hts _ tw_1297) (hts _ tw_143) h1 (vx_hat (fun w hw => hts w (lk_tb lk_i1 hw)) lk_b1 hB) lk_o1 hU hN hS (hl.1.trans hml.symm) (pw_dk dc_X11_look 4 rfl) (pw_dk dc_X11_look 5 rfl) (pw_dk dc_X11_look 6 rfl) (pw_dk dc_X11_look 7 rfl) (pw_dk dc_X11_look 8 rfl) (fun x h => (hex x h).elim) (by decide) (Nat.le_of_ble_eq_true rfl) (by decide) (by decide) hlk (fun t _ hz hk => PX_XC hP hS hz hk) hS.2.2 (by decide) (by decide)
theorem PX_throw2 : PX lkE2 σ 122 lv [] := by
  intro p l e s m args below meth c D cy ad A H locs ls hst hex hLK C hP hD hS hl
  have C2 := C
  obtain ⟨hx, hb, hr, hml, hown, hts, hlk, hK, hA, ho, hX, hnm0⟩ := C2
  have hB := lk_wb (args := args) hLK
  obtain ⟨-, ⟨sa, h1⟩, hU, hN, -, -⟩ := hLK
  exact vy_throwS (own := RX11) (cls := lkE2) (text := "no such what") (names := lkN) (ik := 153) (is := 155) (ic := 157) (ix := 13) (rx := lk_rx) (sa := sa) (A := A) hx hb hst (by decide +kernel) (by decide +kernel) (by decide +kernel) (by decide +kernel) hown (by decide +kernel) (by decide +kernel) (hts _ tw_1367) (hts _ tw_144) h1 (vx_hat (fun w hw => hts w (lk_tb lk_i2 hw)) lk_b2 hB) lk_o2 hU hN hS (hl.1.trans hml.symm) (pw_dk dc_X11_look 47 rfl) (pw_dk dc_X11_look 48 rfl) (pw_dk dc_X11_look 49 rfl) (pw_dk dc_X11_look 50 rfl) (pw_dk dc_X11_look 51 rfl) (fun x h => (hex x h).elim) (by decide) (Nat.le_of_ble_eq_true rfl) (by decide) (by decide) hlk (fun t _ hz hk => PX_XC hP hS hz hk) hS.2.2 (by decide) (by decide)
end
theorem look_x1 (x1 x2 v : Int32) (σ : zS) (h0 : f_look x1 x2 σ = some (1, v)) : PX lkE1 σ 0 [(0, .ref 100), (1, .int x1), (2, .int x2)] [] := by
  have h : wpO (f_look x1 x2 σ) (fun a => a = (1, v)) := ⟨_, h0, rfl⟩
  unfold f_look at h
  refine PX_aload_n (pc' := 1) (q := 0) (pw_dk dc_X11_look 0 rfl) rfl rfl rfl ?_
  refine PX_iload_n (pc' := 2) (q := 1) (pw_dk dc_X11_look 1 rfl) rfl rfl rfl ?_
  refine PX_callV (pc' := 5) (y := yX11_isMan) (M' := mX11_isMan) (d' := 0) (As := [.int x1]) (st := []) (b := 100) (ci := 11) (nn := 0) me_100 rfl tw_903 tw_29 (pw_dk dc_X11_look 2 rfl) rfl Y_X11_isMan tw_901 rfl (by decide) (Nat.le_of_ble_eq_true rfl) (t_X11_isMan x1 σ _ ⟨_, rfl, ?_, rfl⟩)
  refine PX_if_ne (pc' := 8) (tgt := 18) (pw_dk dc_X11_look 3 rfl) rfl (by decide) (fun c_2 => ?_) (fun _ => PX_throw1)
  rw [if_neg c_2] at h
  obtain ⟨v_5, -, -, h⟩ := wp_rdIx h
  exfalso
  have k0 : ∀ {w : Int32}, wpO (some ((0 : Int32), w)) (fun a => a = (1, v)) → False := fun z => absurd ((lk_s z).1) (by decide)
  split at h
  · exact k0 h
  split at h
  · exact k0 h
  split at h
  · exact k0 h
  split at h
  · exact k0 h
  split at h
  · obtain ⟨w_5, -, -, h⟩ := wp_rdIx h
    exact k0 h
  split at h
  · obtain ⟨w_5, -, -, h⟩ := wp_rdIx h
    exact k0 h
  split at h
  · obtain ⟨w_5, -, -, h⟩ := wp_rdIx h
    exact k0 h
  · exact absurd ((lk_s h).1) (by decide)
theorem i32_out {x : Int32} (h : ¬ x = 0 ∧ ¬ x = 1 ∧ ¬ x = 2 ∧ ¬ x = 3 ∧ ¬ x = 4 ∧ ¬ x = 5 ∧ ¬ x = 6) : x.toInt < 0 ∨ 6 < x.toInt := by
  obtain ⟨h0, h1, h2, h3, h4, h5, h6⟩ := h
  have e : ∀ (k : Int32), ¬ x = k → ¬ x.toInt = k.toInt := fun k hk z => hk (Int32.toInt_inj.mp z)
  have e0 := e 0 h0
  have e1 := e 1 h1
  have e2 := e 2 h2
  have e3 := e 3 h3
  have e4 := e 4 h4
  have e5 := e 5 h5
  have e6 := e 6 h6
  rw [show (0 : Int32).toInt = 0 by decide] at e0
  rw [show (1 : Int32).toInt = 1 by decide] at e1
  rw [show (2 : Int32).toInt = 2 by decide] at e2
  rw [show (3 : Int32).toInt = 3 by decide] at e3
  rw [show (4 : Int32).toInt = 4 by decide] at e4
  rw [show (5 : Int32).toInt = 5 by decide] at e5
  rw [show (6 : Int32).toInt = 6 by decide] at e6
  omega
theorem look_x2 (x1 x2 v : Int32) (σ : zS) (h0 : f_look x1 x2 σ = some (2, v)) : PX lkE2 σ 0 [(0, .ref 100), (1, .int x1), (2, .int x2)] [] := by
  have h : wpO (f_look x1 x2 σ) (fun a => a = (2, v)) := ⟨_, h0, rfl⟩
  unfold f_look at h
  refine PX_aload_n (pc' := 1) (q := 0) (pw_dk dc_X11_look 0 rfl) rfl rfl rfl ?_
  refine PX_iload_n (pc' := 2) (q := 1) (pw_dk dc_X11_look 1 rfl) rfl rfl rfl ?_
  refine PX_callV (pc' := 5) (y := yX11_isMan) (M' := mX11_isMan) (d' := 0) (As := [.int x1]) (st := []) (b := 100) (ci := 11) (nn := 0) me_100 rfl tw_903 tw_29 (pw_dk dc_X11_look 2 rfl) rfl Y_X11_isMan tw_901 rfl (by decide) (Nat.le_of_ble_eq_true rfl) (t_X11_isMan x1 σ _ ⟨_, rfl, ?_, rfl⟩)
  refine PX_if_ne (pc' := 8) (tgt := 18) (pw_dk dc_X11_look 3 rfl) rfl (by decide) (fun c_2 => ?_) (fun c_2 => ?_)
  · rw [if_neg c_2] at h
    obtain ⟨v_5, hi_6, e_7, h⟩ := wp_rdIx h
    have k0 : ∀ {w : Int32}, wpO (some ((0 : Int32), w)) (fun a => a = (2, v)) → False := fun z => absurd ((lk_s z).1) (by decide)
    have out : ¬ x2 = 0 ∧ ¬ x2 = 1 ∧ ¬ x2 = 2 ∧ ¬ x2 = 3 ∧ ¬ x2 = 4 ∧ ¬ x2 = 5 ∧ ¬ x2 = 6 := by
      by_cases c_0 : x2 = 0
      · rw [if_pos c_0] at h; exact (k0 h).elim
      rw [if_neg c_0] at h
      by_cases c_1 : x2 = 1
      · rw [if_pos c_1] at h; exact (k0 h).elim
      rw [if_neg c_1] at h
      by_cases c_3 : x2 = 2
      · rw [if_pos c_3] at h; exact (k0 h).elim
      rw [if_neg c_3] at h
      by_cases c_4 : x2 = 3
      · rw [if_pos c_4] at h; exact (k0 h).elim
      rw [if_neg c_4] at h
      by_cases c_5 : x2 = 4
      · rw [if_pos c_5] at h
        obtain ⟨w_5, -, -, h⟩ := wp_rdIx h
        exact (k0 h).elim
      rw [if_neg c_5] at h
      by_cases c_6 : x2 = 5
      · rw [if_pos c_6] at h
        obtain ⟨w_5, -, -, h⟩ := wp_rdIx h
        exact (k0 h).elim
      rw [if_neg c_6] at h
      by_cases c_7 : x2 = 6
      · rw [if_pos c_7] at h
        obtain ⟨w_5, -, -, h⟩ := wp_rdIx h
        exact (k0 h).elim
      exact ⟨c_0, c_1, c_3, c_4, c_5, c_6, c_7⟩
    refine PX_aload_n (pc' := 19) (q := 0) (pw_dk dc_X11_look 9 rfl) rfl rfl rfl ?_
    refine PX_getR (pc' := 22) (id := 100) (ci := 11) (nn := 0) (C0 := RX11) (T := TX11) (N := 15) (j := 7) (r := 700) (pw_dk dc_X11_look 10 rfl) rfl me_100 rfl pi_11 (by decide) fk_11_7 tw_602 (rfl) (by decide) ?_
    refine PX_getR (pc' := 25) (id := 700) (ci := 0) (nn := 0) (C0 := RX0) (T := TX0) (N := 6) (j := 2) (r := 703) (pw_dk dc_X11_look 11 rfl) rfl me_700 rfl pi_0 (by decide) fk_0_2 tw_464 (rfl) (by decide) ?_
    refine PX_iload_n (pc' := 26) (q := 1) (pw_dk dc_X11_look 12 rfl) rfl rfl rfl ?_
    refine PX_iald (pc' := 27) (id := 703) (nn := 5) (pw_dk dc_X11_look 13 rfl) rfl me_703 hi_6 ?_
    refine PX_istore_n (pc' := 28) (lv' := [(3, .int ((em σ).1 703 x1.toNatClampNeg)), (0, .ref 100), (1, .int x1), (2, .int x2)]) (pw_dk dc_X11_look 14 rfl) rfl rfl (by decide) rfl ?_
    refine PX_iload_n (pc' := 29) (q := 3) (pw_dk dc_X11_look 15 rfl) rfl rfl rfl ?_
    exact PX_tout (tgt := 122) (pw_dk dc_X11_look 16 rfl) (i32_out out) (by decide) PX_throw2
  · rw [if_pos c_2] at h
    exact absurd ((lk_s h).1) (by decide)
/-- look throws E -/
theorem look_X {E : String} {σ : zS} {x1 x2 : Int32} (h : PX E σ 0 [(0, .ref 100), (1, .int x1), (2, .int x2)] []) {l : Launch} (hst : l.stackTraces = false) (D : va_G) (cy ad : Nat → Nat) (sz : Nat) :
    vx_Met l yX11_look (pw_wsM yX11_look mX11_look) (pw_R 10 1 6)
      (va_Pc (([.ref 100, .int x1, .int x2] : List Value).map (pw_cv ad)) (fun U => U.heap.size = sz ∧ va_P D pw_cl (pw_ws ad cy alC (em σ)) U.heap ∧ va_K D pw_cl (pw_tys cy) U ∧ va_D (fun _ => True) (pw_ws ad cy alC (em σ)) ∧ pw_X ad (va_A (pw_ws ad cy alC (em σ)) sz) U ∧ lk_X (va_A (pw_ws ad cy alC (em σ)) sz) U))
      (lk_Qn (va_A (pw_ws ad cy alC (em σ)) sz)) (lk_XC E D cy ad (va_A (pw_ws ad cy alC (em σ)) sz) σ) 1 6 (va_A (pw_ws ad cy alC (em σ)) sz) := by
  refine vx_ofW (cc := mX11_look.2.1) (maxL := mX11_look.2.2.1) (ret := mX11_look.2.2.2.1) (by decide +kernel) rfl ?_
  intro p e s m args below meth c s₁ B hml hex hv
  obtain ⟨rfl, hsz, hP, hK, hD0, hX, hLK⟩ := hv
  subst hsz
  have hts0 := atoms_spec (ws := pw_wsM yX11_look mX11_look) B.pre
  have hts : ∀ w ∈ pw_tb, w.before (([.ref 100, .int x1, .int x2] : List Value).map (pw_cv ad)).toArray s = true := fun w hw => hts0 w (List.mem_cons_of_mem _ hw)
  have hown : s.vm.findClass RX11 = some m.cls := findClass_of_methodNamed B.named
  have hD := hD0.self (sz := s.heap.size)
  have hl := lv_entry (([.ref 100, .int x1, .int x2] : List Value).map (pw_cv ad)) (n := 4) (by rw [pw_lg_len]; exact Nat.le_of_ble_eq_true rfl)
  rw [lg_entry_eq]
  rw [pw_lv_args] at hl
  exact h p l e s m _ below meth c D cy ad _ s.heap [] _ hst hex hLK ⟨B.exec, B.bytes, B.returns, hml, hown, hts, B.notSynchronized, hK, fun q hq => Or.inr hq, (fun i id h9 => by simp at h9), hX, (name_of_methodNamed B.named B.method).1⟩ hP hD va_S.rf hl
