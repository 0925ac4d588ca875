/-! THE STEADY STATE: what the two objects are made of, and a store without the fixed references -/
abbrev zS : Type := (Nat → Nat → Int32) × (Nat → Nat → Int64) × (Nat → Bool)
/-- the cells of the class, of the reference -/
def alC : pAL := [(100, 11, 0), (101, 13, 700), (300, 8, 0), (303, 13, 5), (304, 13, 12), (305, 13, 5), (308, 13, 5), (309, 13, 5), (310, 13, 5), (311, 13, 5), (313, 13, 12), (314, 13, 12), (315, 13, 12), (316, 13, 12), (1300, 2, 0), (1303, 13, 64), (1304, 13, 64), (1305, 13, 3), (1306, 13, 3), (1307, 14, 64), (1308, 13, 7), (200, 4, 0), (400, 8, 0), (403, 13, 5), (404, 13, 12), (405, 13, 5), (408, 13, 5), (409, 13, 5), (410, 13, 5), (411, 13, 5), (413, 13, 12), (414, 13, 12), (415, 13, 12), (416, 13, 12), (1400, 2, 0), (1403, 13, 64), (1404, 13, 64), (1405, 13, 3), (1406, 13, 3), (1407, 14, 64), (1408, 13, 7), (500, 7, 0), (502, 13, 34), (600, 6, 0), (1000, 5, 0), (700, 0, 0), (703, 13, 5), (704, 13, 5), (705, 13, 5), (706, 13, 12), (800, 0, 0), (803, 13, 5), (804, 13, 5), (805, 13, 5), (806, 13, 12), (900, 0, 0), (903, 13, 5), (904, 13, 5), (905, 13, 5), (906, 13, 12), (1100, 9, 0), (1102, 13, 20), (1103, 13, 20), (1104, 13, 20), (1105, 13, 20), (1106, 13, 20), (1200, 3, 0), (1203, 13, 24), (1204, 13, 24), (1205, 13, 24), (1206, 13, 24), (1207, 15, 24), (1208, 13, 12), (1209, 13, 12), (1500, 10, 0), (1502, 13, 192), (1503, 13, 192), (1504, 13, 192), (1505, 13, 192), (1506, 13, 14), (1507, 13, 14), (1600, 1, 0), (1601, 13, 16)]
def alM : pAL := [(5000, 12, 0), (5002, 13, 700), (5004, 13, 16), (5005, 13, 10), (5006, 13, 10), (5007, 13, 10), (5008, 13, 10), (5009, 13, 10), (5010, 13, 10), (5011, 13, 10), (5012, 13, 10), (5013, 13, 10), (5014, 13, 24), (5015, 13, 24), (5016, 13, 24), (5017, 13, 24), (5018, 13, 6), (5019, 13, 6), (5020, 13, 128), (5021, 13, 128), (5035, 14, 7), (5036, 14, 64), (5039, 13, 23), (5040, 13, 23), (5041, 13, 23), (5042, 13, 115), (5043, 13, 115), (5044, 13, 115), (5045, 13, 276), (5049, 13, 192), (5050, 13, 192), (5051, 15, 192), (5053, 13, 16), (5056, 13, 24), (5057, 13, 24), (5058, 13, 24), (5059, 13, 24), (5060, 15, 24), (5061, 15, 192), (5062, 15, 192)]
def tv (b : Bool) : Nat := if b then 400 else 300
def tl (b : Bool) : Nat := if b then 1400 else 1300
/-- the references that never change -/
def rf (id k : Nat) : Nat :=
  if id = 100 then [101, 0, 0, 0, 0, 200, 1000, 700, 800, 900, 0, 1100, 1200, 1500, 1600].getD k 0
  else if id = 200 then [500, 600].getD k 0
  else if id = 500 then [101, 502].getD k 0
  else if id = 600 then [500].getD k 0
  else if id = 300 ∧ k = 17 then 1300
  else if id = 400 ∧ k = 17 then 1400
  else id + k + 1
/-- all references: told of 100, draft of 200, told of 1000, laws of 600 may change -/
def emR (B : Nat → Bool) (id k : Nat) : Nat :=
  if id = 100 ∧ k = 4 then tv (B 0) else if id = 200 ∧ k = 2 then tv (B 1) else if id = 1000 ∧ k = 0 then tv (B 2) else if id = 600 ∧ k = 1 then tl (B 3) else rf id k
def em (σ : zS) : pS := (σ.1, σ.2.1, emR σ.2.2)
def wI (σ : zS) (id k : Nat) (v : Int32) : zS := (fun c j => if c = id ∧ j = k then v else σ.1 c j, σ.2)
def wL (σ : zS) (id k : Nat) (v : Int64) : zS := (σ.1, fun c j => if c = id ∧ j = k then v else σ.2.1 c j, σ.2.2)
def wA (σ : zS) (id : Nat) (f : Nat → Int32) : zS := (fun c => if c = id then f else σ.1 c, σ.2)
def wB (σ : zS) (k : Nat) (v : Bool) : zS := (σ.1, σ.2.1, fun j => if j = k then v else σ.2.2 j)
/-- rows of numbers: read, write, with their bounds -/
def okI (i : Int32) (n : Nat) : Bool := !(decide (i < 0)) && decide (i.toNatClampNeg < n)
theorem okI_in {i : Int32} {n : Nat} (h : okI i n = true) : vp_in i n := by
  simp only [okI, Bool.and_eq_true, Bool.not_eq_true', decide_eq_false_iff_not, decide_eq_true_eq] at h
  intro z
  rcases z with z | z
  · exact h.1 z
  · omega
def rdI (σ : zS) (id n : Nat) (i : Int32) : Option Int32 := if okI i n = true then some (σ.1 id i.toNatClampNeg) else none
def rdL (σ : zS) (id n : Nat) (i : Int32) : Option Int64 := if okI i n = true then some (σ.2.1 id i.toNatClampNeg) else none
def wrI (σ : zS) (id n : Nat) (i v : Int32) : Option zS := if okI i n = true then some (wI σ id i.toNatClampNeg v) else none
def wrZ (σ : zS) (id n : Nat) (i v : Int32) : Option zS := if okI i n = true then some (wI σ id i.toNatClampNeg (vp_nar .boolean v)) else none
def wrL (σ : zS) (id n : Nat) (i : Int32) (v : Int64) : Option zS := if okI i n = true then some (wL σ id i.toNatClampNeg v) else none
def cpA (σ : zS) (a na : Nat) (sp : Int32) (b nb : Nat) (dp z : Int32) : Option zS :=
  if ¬ sp < 0 ∧ ¬ dp < 0 ∧ ¬ z < 0 ∧ sp.toNatClampNeg + z.toNatClampNeg ≤ na ∧ dp.toNatClampNeg + z.toNatClampNeg ≤ nb then some (wA σ b (va_cpy (σ.1 a) (σ.1 b) sp.toNatClampNeg dp.toNatClampNeg z.toNatClampNeg)) else none
def rdS (i : Nat) (x : Int32) : Option Int32 := if okI x (pw_len.getD i 0) = true then some ((pw_byt.getD i []).getD x.toNatClampNeg 0) else none
def lt {α β : Type} (x : α) (f : α → β) : β := f x
def wpO {α : Type} (o : Option α) (Q : α → Prop) : Prop := ∃ a, o = some a ∧ Q a
def FU : Nat := 100000
theorem lt_w {α β : Type} {x v : α} {f : α → Option β} {ρ : β → Prop} (h : wpO (lt x f) ρ) (e : v = x) : wpO (f v) ρ := by subst e; exact h
theorem lt_q {α β : Type} {x v : α} {f : α → β} {ρ : β → Prop} (h : ρ (lt x f)) (e : v = x) : ρ (f v) := by subst e; exact h
theorem wp_none {α : Type} {Q : α → Prop} {X : Prop} (h : wpO (none : Option α) Q) : X := by obtain ⟨a, h, -⟩ := h; cases h
theorem wp_some {α : Type} {a : α} {Q : α → Prop} (h : wpO (some a) Q) : Q a := by obtain ⟨b, h, q⟩ := h; cases h; exact q
theorem wp_bind {α β : Type} {x : Option α} {f : α → Option β} {Q : β → Prop} (h : wpO (x.bind f) Q) : ∃ a, x = some a ∧ wpO (f a) Q := by
  obtain ⟨b, h, q⟩ := h
  cases hx : x with
  | none => rw [hx] at h; cases h
  | some a => rw [hx] at h; exact ⟨a, rfl, b, h, q⟩
theorem wp_if {α β : Type} {c : Bool} {a : α} {f : α → Option β} {Q : β → Prop} (h : wpO ((if c = true then some a else none).bind f) Q) : c = true ∧ wpO (f a) Q := by
  cases c
  · exact wp_none h
  · exact ⟨rfl, h⟩
theorem wp_rdI {β : Type} {σ : zS} {id n : Nat} {i : Int32} {f : Int32 → Option β} {Q : β → Prop} (h : wpO ((rdI σ id n i).bind f) Q) : vp_in i n ∧ wpO (f (σ.1 id i.toNatClampNeg)) Q := ⟨okI_in (wp_if h).1, (wp_if h).2⟩
theorem wp_rdL {β : Type} {σ : zS} {id n : Nat} {i : Int32} {f : Int64 → Option β} {Q : β → Prop} (h : wpO ((rdL σ id n i).bind f) Q) : vp_in i n ∧ wpO (f (σ.2.1 id i.toNatClampNeg)) Q := ⟨okI_in (wp_if h).1, (wp_if h).2⟩
theorem wp_wrI {β : Type} {σ : zS} {id n : Nat} {i v : Int32} {f : zS → Option β} {Q : β → Prop} (h : wpO ((wrI σ id n i v).bind f) Q) : vp_in i n ∧ wpO (f (wI σ id i.toNatClampNeg v)) Q := ⟨okI_in (wp_if h).1, (wp_if h).2⟩
theorem wp_wrZ {β : Type} {σ : zS} {id n : Nat} {i v : Int32} {f : zS → Option β} {Q : β → Prop} (h : wpO ((wrZ σ id n i v).bind f) Q) : vp_in i n ∧ wpO (f (wI σ id i.toNatClampNeg (vp_nar .boolean v))) Q := ⟨okI_in (wp_if h).1, (wp_if h).2⟩
theorem wp_wrL {β : Type} {σ : zS} {id n : Nat} {i : Int32} {v : Int64} {f : zS → Option β} {Q : β → Prop} (h : wpO ((wrL σ id n i v).bind f) Q) : vp_in i n ∧ wpO (f (wL σ id i.toNatClampNeg v)) Q := ⟨okI_in (wp_if h).1, (wp_if h).2⟩
theorem wp_rdS {β : Type} {i : Nat} {x : Int32} {f : Int32 → Option β} {Q : β → Prop} (h : wpO ((rdS i x).bind f) Q) : vp_in x (pw_len.getD i 0) ∧ wpO (f ((pw_byt.getD i []).getD x.toNatClampNeg 0)) Q := ⟨okI_in (wp_if h).1, (wp_if h).2⟩
theorem wp_cpA {β : Type} {σ : zS} {a na : Nat} {sp : Int32} {b nb : Nat} {dp z : Int32} {f : zS → Option β} {Q : β → Prop} (h : wpO ((cpA σ a na sp b nb dp z).bind f) Q) : (¬ sp < 0 ∧ ¬ dp < 0 ∧ ¬ z < 0 ∧ sp.toNatClampNeg + z.toNatClampNeg ≤ na ∧ dp.toNatClampNeg + z.toNatClampNeg ≤ nb) ∧ wpO (f (wA σ b (va_cpy (σ.1 a) (σ.1 b) sp.toNatClampNeg dp.toNatClampNeg z.toNatClampNeg))) Q := by
  unfold cpA at h
  by_cases c : (¬ sp < 0 ∧ ¬ dp < 0 ∧ ¬ z < 0 ∧ sp.toNatClampNeg + z.toNatClampNeg ≤ na ∧ dp.toNatClampNeg + z.toNatClampNeg ≤ nb)
  · rw [if_pos c] at h; exact ⟨c, h⟩
  · rw [if_neg c] at h; exact wp_none h
theorem wp_dv {β : Type} {c : Prop} [Decidable c] {o : Option β} {Q : β → Prop} (h : wpO (if c then none else o) Q) : ¬ c ∧ wpO o Q := by
  by_cases hc : c
  · rw [if_pos hc] at h; exact wp_none h
  · rw [if_neg hc] at h; exact ⟨hc, h⟩
def zQ (al : pAL) (Q : Option Value → zS → Prop) : Option Value → pAL × pS → Prop := fun r τ => ∃ σ', τ = (al, em σ') ∧ Q r σ'
abbrev PZ (al : pAL) (M : pM) (d : Nat) (Q : Option Value → zS → Prop) (pc : Nat) (lv : List (Nat × Value)) (st : List Value) (σ : zS) : Prop := PW M d [] 0 0 (zQ al Q) pc lv st al 0 0 (em σ)
abbrev PK (al : pAL) (y : MethodName) (M : pM) (d : Nat) (As : List Value) (σ : zS) (Q : Option Value → zS → Prop) : Prop := PC y M d [] 0 0 As al (em σ) (zQ al Q)
theorem PZ_getI {al : pAL} {M : pM} {d : Nat} {Q : Option Value → zS → Prop} {pc pc' : Nat} {lv : List (Nat × Value)} {st : List Value} {σ : zS} {id ci nn ix j : Nat} {C0 : String} {T : u_T} {N : Nat} (hd : decode M.2.1 pc = .ok (.getfield ix, 3)) (hp : pc + 3 = pc') (hin : (id, ci, nn) ∈ al) (hc : pw_cl[ci]? = some (C0, T, N)) (hws : ∀ w ∈ u_ws C0 T N, w ∈ pw_tb) (hj : j < N) (hk : (pw_fk ci)[j]? = some true) (hw : Cond.fieldLink M.1 ix (T j).1 (T j).2.1 (T j).2.2.1 ∈ pw_tb) (h : PZ al M d Q pc' lv (.int (σ.1 id j) :: st) σ) : PZ al M d Q pc lv (.ref id :: st) σ := PW_getI hd hp hin hc hws hj hk hw h
theorem PZ_putI {al : pAL} {M : pM} {d : Nat} {Q : Option Value → zS → Prop} {pc pc' : Nat} {lv : List (Nat × Value)} {st : List Value} {σ : zS} {id ci nn ix j : Nat} {C0 : String} {T : u_T} {N : Nat} {v : Int32} {ty : FieldType} {ty0 : Nat → FieldType} (hd : decode M.2.1 pc = .ok (.putfield ix, 3)) (hp : pc + 3 = pc') (hin : (id, ci, nn) ∈ al) (hc : pw_cl[ci]? = some (C0, T, N)) (hws : ∀ w ∈ u_ws C0 T N, w ∈ pw_tb) (hty : ∀ k, k < N → parseFieldDescriptor (T k).2.2.1 = some (ty0 k)) (hnm : ∀ a, a < N → ∀ b, b < N → a ≠ b → (T a).2.1 ≠ (T b).2.1) (hj : j < N) (hk : (pw_fk ci)[j]? = some true) (hw : Cond.fieldLink M.1 ix (T j).1 (T j).2.1 (T j).2.2.1 ∈ pw_tb) (hfin : (T j).2.2.2 = false) (hpt : parseFieldDescriptor (T j).2.2.1 = some ty) (hnr : narrow ty (.int v) = .int v) (hft : fits ty (.int v) = true) (h : PZ al M d Q pc' lv st (wI σ id j v)) : PZ al M d Q pc lv (.int v :: .ref id :: st) σ := PW_putI hd hp hin hc hws hty hnm hj hk hw hfin hpt (fun _ => hnr) (fun _ => hft) h
theorem em_B0 (σ : zS) (b : Bool) : pw_wR (em σ) 100 4 (tv b) = em (wB σ 0 b) := by
  refine Prod.ext rfl (Prod.ext rfl ?_)
  funext c j
  show (if c = 100 ∧ j = 4 then tv b else emR σ.2.2 c j) = emR (fun i => if i = 0 then b else σ.2.2 i) c j
  unfold emR
  by_cases h1 : c = 100 ∧ j = 4
  · obtain ⟨rfl, rfl⟩ := h1; simp
  · by_cases h2 : c = 200 ∧ j = 2
    · obtain ⟨rfl, rfl⟩ := h2; simp
    · by_cases h3 : c = 1000 ∧ j = 0
      · obtain ⟨rfl, rfl⟩ := h3; simp
      · by_cases h4 : c = 600 ∧ j = 1
        · obtain ⟨rfl, rfl⟩ := h4; simp
        · simp only [if_neg h1, if_neg h2, if_neg h3, if_neg h4]
theorem PZ_putB0 {al : pAL} {M : pM} {d : Nat} {Q : Option Value → zS → Prop} {pc pc' : Nat} {lv : List (Nat × Value)} {st : List Value} {σ : zS} {ix nn : Nat} {b : Bool} (hd : decode M.2.1 pc = .ok (.putfield ix, 3)) (hp : pc + 3 = pc') (hin : (100, 11, nn) ∈ al) (hws : ∀ w ∈ u_ws RX11 TX11 15, w ∈ pw_tb) (hw : Cond.fieldLink M.1 ix (TX11 4).1 (TX11 4).2.1 (TX11 4).2.2.1 ∈ pw_tb) (h : PZ al M d Q pc' lv st (wB σ 0 b)) : PZ al M d Q pc lv (.ref (tv b) :: .ref 100 :: st) σ := by
  refine PW_putR (ci := 11) (C0 := RX11) (T := TX11) (N := 15) (ty := tyX11 4) hd hp hin rfl hws tyX11_ok nmX11 (by decide) (by decide +kernel) hw (by cases b <;> decide) rfl (tyX11_ok 4 (by decide)) (fun _ => rfl) (fun _ => rfl) ?_
  rw [em_B0]
  exact h
theorem em_B1 (σ : zS) (b : Bool) : pw_wR (em σ) 200 2 (tv b) = em (wB σ 1 b) := by
  refine Prod.ext rfl (Prod.ext rfl ?_)
  funext c j
  show (if c = 200 ∧ j = 2 then tv b else emR σ.2.2 c j) = emR (fun i => if i = 1 then b else σ.2.2 i) c j
  unfold emR
  by_cases h1 : c = 100 ∧ j = 4
  · obtain ⟨rfl, rfl⟩ := h1; simp
  · by_cases h2 : c = 200 ∧ j = 2
    · obtain ⟨rfl, rfl⟩ := h2; simp
    · by_cases h3 : c = 1000 ∧ j = 0
      · obtain ⟨rfl, rfl⟩ := h3; simp
      · by_cases h4 : c = 600 ∧ j = 1
        · obtain ⟨rfl, rfl⟩ := h4; simp
        · simp only [if_neg h1, if_neg h2, if_neg h3, if_neg h4]
theorem PZ_putB1 {al : pAL} {M : pM} {d : Nat} {Q : Option Value → zS → Prop} {pc pc' : Nat} {lv : List (Nat × Value)} {st : List Value} {σ : zS} {ix nn : Nat} {b : Bool} (hd : decode M.2.1 pc = .ok (.putfield ix, 3)) (hp : pc + 3 = pc') (hin : (200, 4, nn) ∈ al) (hws : ∀ w ∈ u_ws RX4 TX4 6, w ∈ pw_tb) (hw : Cond.fieldLink M.1 ix (TX4 2).1 (TX4 2).2.1 (TX4 2).2.2.1 ∈ pw_tb) (h : PZ al M d Q pc' lv st (wB σ 1 b)) : PZ al M d Q pc lv (.ref (tv b) :: .ref 200 :: st) σ := by
  refine PW_putR (ci := 4) (C0 := RX4) (T := TX4) (N := 6) (ty := tyX4 2) hd hp hin rfl hws tyX4_ok nmX4 (by decide) (by decide +kernel) hw (by cases b <;> decide) rfl (tyX4_ok 2 (by decide)) (fun _ => rfl) (fun _ => rfl) ?_
  rw [em_B1]
  exact h
theorem em_B2 (σ : zS) (b : Bool) : pw_wR (em σ) 1000 0 (tv b) = em (wB σ 2 b) := by
  refine Prod.ext rfl (Prod.ext rfl ?_)
  funext c j
  show (if c = 1000 ∧ j = 0 then tv b else emR σ.2.2 c j) = emR (fun i => if i = 2 then b else σ.2.2 i) c j
  unfold emR
  by_cases h1 : c = 100 ∧ j = 4
  · obtain ⟨rfl, rfl⟩ := h1; simp
  · by_cases h2 : c = 200 ∧ j = 2
    · obtain ⟨rfl, rfl⟩ := h2; simp
    · by_cases h3 : c = 1000 ∧ j = 0
      · obtain ⟨rfl, rfl⟩ := h3; simp
      · by_cases h4 : c = 600 ∧ j = 1
        · obtain ⟨rfl, rfl⟩ := h4; simp
        · simp only [if_neg h1, if_neg h2, if_neg h3, if_neg h4]
theorem PZ_putB2 {al : pAL} {M : pM} {d : Nat} {Q : Option Value → zS → Prop} {pc pc' : Nat} {lv : List (Nat × Value)} {st : List Value} {σ : zS} {ix nn : Nat} {b : Bool} (hd : decode M.2.1 pc = .ok (.putfield ix, 3)) (hp : pc + 3 = pc') (hin : (1000, 5, nn) ∈ al) (hws : ∀ w ∈ u_ws RX5 TX5 3, w ∈ pw_tb) (hw : Cond.fieldLink M.1 ix (TX5 0).1 (TX5 0).2.1 (TX5 0).2.2.1 ∈ pw_tb) (h : PZ al M d Q pc' lv st (wB σ 2 b)) : PZ al M d Q pc lv (.ref (tv b) :: .ref 1000 :: st) σ := by
  refine PW_putR (ci := 5) (C0 := RX5) (T := TX5) (N := 3) (ty := tyX5 0) hd hp hin rfl hws tyX5_ok nmX5 (by decide) (by decide +kernel) hw (by cases b <;> decide) rfl (tyX5_ok 0 (by decide)) (fun _ => rfl) (fun _ => rfl) ?_
  rw [em_B2]
  exact h
theorem em_B3 (σ : zS) (b : Bool) : pw_wR (em σ) 600 1 (tl b) = em (wB σ 3 b) := by
  refine Prod.ext rfl (Prod.ext rfl ?_)
  funext c j
  show (if c = 600 ∧ j = 1 then tl b else emR σ.2.2 c j) = emR (fun i => if i = 3 then b else σ.2.2 i) c j
  unfold emR
  by_cases h1 : c = 100 ∧ j = 4
  · obtain ⟨rfl, rfl⟩ := h1; simp
  · by_cases h2 : c = 200 ∧ j = 2
    · obtain ⟨rfl, rfl⟩ := h2; simp
    · by_cases h3 : c = 1000 ∧ j = 0
      · obtain ⟨rfl, rfl⟩ := h3; simp
      · by_cases h4 : c = 600 ∧ j = 1
        · obtain ⟨rfl, rfl⟩ := h4; simp
        · simp only [if_neg h1, if_neg h2, if_neg h3, if_neg h4]
theorem PZ_putB3 {al : pAL} {M : pM} {d : Nat} {Q : Option Value → zS → Prop} {pc pc' : Nat} {lv : List (Nat × Value)} {st : List Value} {σ : zS} {ix nn : Nat} {b : Bool} (hd : decode M.2.1 pc = .ok (.putfield ix, 3)) (hp : pc + 3 = pc') (hin : (600, 6, nn) ∈ al) (hws : ∀ w ∈ u_ws RX6 TX6 2, w ∈ pw_tb) (hw : Cond.fieldLink M.1 ix (TX6 1).1 (TX6 1).2.1 (TX6 1).2.2.1 ∈ pw_tb) (h : PZ al M d Q pc' lv st (wB σ 3 b)) : PZ al M d Q pc lv (.ref (tl b) :: .ref 600 :: st) σ := by
  refine PW_putR (ci := 6) (C0 := RX6) (T := TX6) (N := 2) (ty := tyX6 1) hd hp hin rfl hws tyX6_ok nmX6 (by decide) (by decide +kernel) hw (by cases b <;> decide) rfl (tyX6_ok 1 (by decide)) (fun _ => rfl) (fun _ => rfl) ?_
  rw [em_B3]
  exact h
theorem PZ_iald {al : pAL} {M : pM} {d : Nat} {Q : Option Value → zS → Prop} {pc pc' : Nat} {lv : List (Nat × Value)} {st : List Value} {σ : zS} {id nn : Nat} {i : Int32} (hd : decode M.2.1 pc = .ok (.iaload, 1)) (hp : pc + 1 = pc') (hin : (id, 13, nn) ∈ al) (hi : vp_in i nn) (h : PZ al M d Q pc' lv (.int (σ.1 id i.toNatClampNeg) :: st) σ) : PZ al M d Q pc lv (.int i :: .ref id :: st) σ := PW_iald hd hp hin hi h
theorem PZ_zald {al : pAL} {M : pM} {d : Nat} {Q : Option Value → zS → Prop} {pc pc' : Nat} {lv : List (Nat × Value)} {st : List Value} {σ : zS} {id nn : Nat} {i : Int32} (hd : decode M.2.1 pc = .ok (.baload, 1)) (hp : pc + 1 = pc') (hin : (id, 15, nn) ∈ al) (hi : vp_in i nn) (h : PZ al M d Q pc' lv (.int (σ.1 id i.toNatClampNeg) :: st) σ) : PZ al M d Q pc lv (.int i :: .ref id :: st) σ := PW_zald hd hp hin hi h
theorem PZ_lald {al : pAL} {M : pM} {d : Nat} {Q : Option Value → zS → Prop} {pc pc' : Nat} {lv : List (Nat × Value)} {st : List Value} {σ : zS} {id nn : Nat} {i : Int32} (hd : decode M.2.1 pc = .ok (.laload, 1)) (hp : pc + 1 = pc') (hin : (id, 14, nn) ∈ al) (hi : vp_in i nn) (h : PZ al M d Q pc' lv (.long (σ.2.1 id i.toNatClampNeg) :: st) σ) : PZ al M d Q pc lv (.int i :: .ref id :: st) σ := PW_lald hd hp hin hi h
theorem PZ_iast {al : pAL} {M : pM} {d : Nat} {Q : Option Value → zS → Prop} {pc pc' : Nat} {lv : List (Nat × Value)} {st : List Value} {σ : zS} {id nn : Nat} {i : Int32} {v : Int32} (hd : decode M.2.1 pc = .ok (.iastore, 1)) (hp : pc + 1 = pc') (hin : (id, 13, nn) ∈ al) (hi : vp_in i nn) (h : PZ al M d Q pc' lv st (wI σ id i.toNatClampNeg v)) : PZ al M d Q pc lv (.int v :: .int i :: .ref id :: st) σ := PW_iast hd hp hin hi h
theorem PZ_zast {al : pAL} {M : pM} {d : Nat} {Q : Option Value → zS → Prop} {pc pc' : Nat} {lv : List (Nat × Value)} {st : List Value} {σ : zS} {id nn : Nat} {i : Int32} {v : Int32} (hd : decode M.2.1 pc = .ok (.bastore, 1)) (hp : pc + 1 = pc') (hin : (id, 15, nn) ∈ al) (hi : vp_in i nn) (h : PZ al M d Q pc' lv st (wI σ id i.toNatClampNeg (vp_nar .boolean v))) : PZ al M d Q pc lv (.int v :: .int i :: .ref id :: st) σ := PW_zast hd hp hin hi h
theorem PZ_last {al : pAL} {M : pM} {d : Nat} {Q : Option Value → zS → Prop} {pc pc' : Nat} {lv : List (Nat × Value)} {st : List Value} {σ : zS} {id nn : Nat} {i : Int32} {v : Int64} (hd : decode M.2.1 pc = .ok (.lastore, 1)) (hp : pc + 1 = pc') (hin : (id, 14, nn) ∈ al) (hi : vp_in i nn) (h : PZ al M d Q pc' lv st (wL σ id i.toNatClampNeg v)) : PZ al M d Q pc lv (.long v :: .int i :: .ref id :: st) σ := PW_last hd hp hin hi h
theorem PZ_acopy {al : pAL} {M : pM} {d : Nat} {Q : Option Value → zS → Prop} {pc pc' : Nat} {lv : List (Nat × Value)} {st : List Value} {σ : zS} {a b na nb ix : Nat} {sp dp z : Int32} (hd : decode M.2.1 pc = .ok (.invokestatic ix, 3)) (hp : pc + 3 = pc') (w1 : Cond.methodLink M.1 ix arraycopyName ∈ pw_tb) (w2 : Cond.native arraycopyName ∈ pw_tb) (w3 : Cond.static arraycopyName ∈ pw_tb) (w4 : Cond.initialized "java/lang/System" ∈ pw_tb)
    (hina : (a, 13, na) ∈ al) (hinb : (b, 13, nb) ∈ al) (hh : ¬ sp < 0 ∧ ¬ dp < 0 ∧ ¬ z < 0 ∧ sp.toNatClampNeg + z.toNatClampNeg ≤ na ∧ dp.toNatClampNeg + z.toNatClampNeg ≤ nb) (hdd : 1 ≤ d) (hst : (st.map fun v => v.category).sum ≤ 8) (h : PZ al M d Q pc' lv st (wA σ b (va_cpy (σ.1 a) (σ.1 b) sp.toNatClampNeg dp.toNatClampNeg z.toNatClampNeg))) : PZ al M d Q pc lv (.int z :: .int dp :: .ref b :: .int sp :: .ref a :: st) σ := PW_acopy hd hp w1 w2 w3 w4 hina hinb hh.1 hh.2.1 hh.2.2.1 hh.2.2.2.1 hh.2.2.2.2 hdd hst h
theorem PZ_iret {al : pAL} {M : pM} {d : Nat} {Q : Option Value → zS → Prop} {pc : Nat} {lv : List (Nat × Value)} {σ : zS} {v : Int32} {ty : FieldType} (hd : decode M.2.1 pc = .ok (.ireturn, 1)) (ht0 : M.2.2.2.1 = some ty) (hn : narrow ty (.int v) = .int v) (hq : Q (some (.int v)) σ) : PZ al M d Q pc lv [.int v] σ := PW_iret hd ht0 hn ⟨σ, rfl, hq⟩
theorem PZ_lret {al : pAL} {M : pM} {d : Nat} {Q : Option Value → zS → Prop} {pc : Nat} {lv : List (Nat × Value)} {σ : zS} {v : Int64} (hd : decode M.2.1 pc = .ok (.lreturn, 1)) (ht0 : M.2.2.2.1 = some .long) (hq : Q (some (.long v)) σ) : PZ al M d Q pc lv [.long v] σ := PW_lret hd ht0 ⟨σ, rfl, hq⟩
theorem PZ_vret {al : pAL} {M : pM} {d : Nat} {Q : Option Value → zS → Prop} {pc : Nat} {lv : List (Nat × Value)} {σ : zS} (hd : decode M.2.1 pc = .ok (.return_, 1)) (ht0 : M.2.2.2.1 = none) (hq : Q none σ) : PZ al M d Q pc lv [] σ := PW_vret hd ht0 ⟨σ, rfl, hq⟩
theorem PZ_callVi {al : pAL} {M : pM} {d : Nat} {Q : Option Value → zS → Prop} {pc pc' : Nat} {lv : List (Nat × Value)} {st : List Value} {σ : zS} {y : MethodName} {M' : pM} {d' nA ix : Nat} {As : List Value} {b ci nn : Nat} {T : u_T} {N : Nat} (hin : (b, ci, nn) ∈ al) (hci : pw_cl[ci]? = some (y.cls, T, N)) (w2 : Cond.instanceMethod y ∈ pw_tb) (w3 : Cond.selects y.cls y y ∈ pw_tb) (hd : decode M.2.1 pc = .ok (.invokevirtual ix, 3)) (hp : pc + 3 = pc') (hY : pw_Y y M' nA) (w1 : Cond.methodLink M.1 ix y ∈ pw_tb) (hn : As.length = nA) (hdd : d' + 1 ≤ d) (hst : (st.map fun v => v.category).sum ≤ 8)
    (h : PK al y M' d' (.ref b :: As) σ (fun r σ' => ∃ v : Int32, r = some (.int v) ∧ (pw_nr M'.2.2.2.1 r → PZ al M d Q pc' lv (.int v :: st) σ'))) : PZ al M d Q pc lv (As.reverse ++ .ref b :: st) σ := by
  refine PW_callV hin hci w2 w3 hd hp hY w1 hn hdd hst ⟨Nat.le_refl _, Nat.le_refl _⟩ h (fun r al' σ1 hq hnr => ?_)
  obtain ⟨σ2, e2, hq⟩ := hq
  cases e2
  obtain ⟨v, rfl, hq⟩ := hq
  exact hq hnr
theorem PZ_callVl {al : pAL} {M : pM} {d : Nat} {Q : Option Value → zS → Prop} {pc pc' : Nat} {lv : List (Nat × Value)} {st : List Value} {σ : zS} {y : MethodName} {M' : pM} {d' nA ix : Nat} {As : List Value} {b ci nn : Nat} {T : u_T} {N : Nat} (hin : (b, ci, nn) ∈ al) (hci : pw_cl[ci]? = some (y.cls, T, N)) (w2 : Cond.instanceMethod y ∈ pw_tb) (w3 : Cond.selects y.cls y y ∈ pw_tb) (hd : decode M.2.1 pc = .ok (.invokevirtual ix, 3)) (hp : pc + 3 = pc') (hY : pw_Y y M' nA) (w1 : Cond.methodLink M.1 ix y ∈ pw_tb) (hn : As.length = nA) (hdd : d' + 1 ≤ d) (hst : (st.map fun v => v.category).sum ≤ 8)
    (h : PK al y M' d' (.ref b :: As) σ (fun r σ' => ∃ v : Int64, r = some (.long v) ∧ (pw_nr M'.2.2.2.1 r → PZ al M d Q pc' lv (.long v :: st) σ'))) : PZ al M d Q pc lv (As.reverse ++ .ref b :: st) σ := by
  refine PW_callV hin hci w2 w3 hd hp hY w1 hn hdd hst ⟨Nat.le_refl _, Nat.le_refl _⟩ h (fun r al' σ1 hq hnr => ?_)
  obtain ⟨σ2, e2, hq⟩ := hq
  cases e2
  obtain ⟨v, rfl, hq⟩ := hq
  exact hq hnr
theorem PZ_callVv {al : pAL} {M : pM} {d : Nat} {Q : Option Value → zS → Prop} {pc pc' : Nat} {lv : List (Nat × Value)} {st : List Value} {σ : zS} {y : MethodName} {M' : pM} {d' nA ix : Nat} {As : List Value} {b ci nn : Nat} {T : u_T} {N : Nat} (hin : (b, ci, nn) ∈ al) (hci : pw_cl[ci]? = some (y.cls, T, N)) (w2 : Cond.instanceMethod y ∈ pw_tb) (w3 : Cond.selects y.cls y y ∈ pw_tb) (hd : decode M.2.1 pc = .ok (.invokevirtual ix, 3)) (hp : pc + 3 = pc') (hY : pw_Y y M' nA) (w1 : Cond.methodLink M.1 ix y ∈ pw_tb) (hn : As.length = nA) (hdd : d' + 1 ≤ d) (hst : (st.map fun v => v.category).sum ≤ 8)
    (h : PK al y M' d' (.ref b :: As) σ (fun r σ' => r = none ∧ (pw_nr M'.2.2.2.1 r → PZ al M d Q pc' lv (st) σ'))) : PZ al M d Q pc lv (As.reverse ++ .ref b :: st) σ := by
  refine PW_callV hin hci w2 w3 hd hp hY w1 hn hdd hst ⟨Nat.le_refl _, Nat.le_refl _⟩ h (fun r al' σ1 hq hnr => ?_)
  obtain ⟨σ2, e2, hq⟩ := hq
  cases e2
  obtain ⟨rfl, hq⟩ := hq
  exact hq hnr
theorem PZ_callSi {al : pAL} {M : pM} {d : Nat} {Q : Option Value → zS → Prop} {pc pc' : Nat} {lv : List (Nat × Value)} {st : List Value} {σ : zS} {y : MethodName} {M' : pM} {d' nA ix : Nat} {As : List Value} (w2 : Cond.static y ∈ pw_tb) (hd : decode M.2.1 pc = .ok (.invokestatic ix, 3)) (hp : pc + 3 = pc') (hY : pw_Y y M' nA) (w1 : Cond.methodLink M.1 ix y ∈ pw_tb) (hn : As.length = nA) (hdd : d' + 1 ≤ d) (hst : (st.map fun v => v.category).sum ≤ 8)
    (h : PK al y M' d' (As) σ (fun r σ' => ∃ v : Int32, r = some (.int v) ∧ (pw_nr M'.2.2.2.1 r → PZ al M d Q pc' lv (.int v :: st) σ'))) : PZ al M d Q pc lv (As.reverse ++ st) σ := by
  refine PW_callS w2 hd hp hY w1 hn hdd hst ⟨Nat.le_refl _, Nat.le_refl _⟩ h (fun r al' σ1 hq hnr => ?_)
  obtain ⟨σ2, e2, hq⟩ := hq
  cases e2
  obtain ⟨v, rfl, hq⟩ := hq
  exact hq hnr
theorem PZ_callSl {al : pAL} {M : pM} {d : Nat} {Q : Option Value → zS → Prop} {pc pc' : Nat} {lv : List (Nat × Value)} {st : List Value} {σ : zS} {y : MethodName} {M' : pM} {d' nA ix : Nat} {As : List Value} (w2 : Cond.static y ∈ pw_tb) (hd : decode M.2.1 pc = .ok (.invokestatic ix, 3)) (hp : pc + 3 = pc') (hY : pw_Y y M' nA) (w1 : Cond.methodLink M.1 ix y ∈ pw_tb) (hn : As.length = nA) (hdd : d' + 1 ≤ d) (hst : (st.map fun v => v.category).sum ≤ 8)
    (h : PK al y M' d' (As) σ (fun r σ' => ∃ v : Int64, r = some (.long v) ∧ (pw_nr M'.2.2.2.1 r → PZ al M d Q pc' lv (.long v :: st) σ'))) : PZ al M d Q pc lv (As.reverse ++ st) σ := by
  refine PW_callS w2 hd hp hY w1 hn hdd hst ⟨Nat.le_refl _, Nat.le_refl _⟩ h (fun r al' σ1 hq hnr => ?_)
  obtain ⟨σ2, e2, hq⟩ := hq
  cases e2
  obtain ⟨v, rfl, hq⟩ := hq
  exact hq hnr
theorem PZ_callSv {al : pAL} {M : pM} {d : Nat} {Q : Option Value → zS → Prop} {pc pc' : Nat} {lv : List (Nat × Value)} {st : List Value} {σ : zS} {y : MethodName} {M' : pM} {d' nA ix : Nat} {As : List Value} (w2 : Cond.static y ∈ pw_tb) (hd : decode M.2.1 pc = .ok (.invokestatic ix, 3)) (hp : pc + 3 = pc') (hY : pw_Y y M' nA) (w1 : Cond.methodLink M.1 ix y ∈ pw_tb) (hn : As.length = nA) (hdd : d' + 1 ≤ d) (hst : (st.map fun v => v.category).sum ≤ 8)
    (h : PK al y M' d' (As) σ (fun r σ' => r = none ∧ (pw_nr M'.2.2.2.1 r → PZ al M d Q pc' lv (st) σ'))) : PZ al M d Q pc lv (As.reverse ++ st) σ := by
  refine PW_callS w2 hd hp hY w1 hn hdd hst ⟨Nat.le_refl _, Nat.le_refl _⟩ h (fun r al' σ1 hq hnr => ?_)
  obtain ⟨σ2, e2, hq⟩ := hq
  cases e2
  obtain ⟨rfl, hq⟩ := hq
  exact hq hnr
theorem PZ_callTi {al : pAL} {M : pM} {d : Nat} {Q : Option Value → zS → Prop} {pc pc' : Nat} {lv : List (Nat × Value)} {st : List Value} {σ : zS} {y : MethodName} {M' : pM} {d' nA ix : Nat} {As : List Value} {i : Nat} (hi : i < 2) (hcls : y.cls = "java/lang/String") (w2 : Cond.instanceMethod y ∈ pw_tb) (w3 : Cond.selects y.cls y y ∈ pw_tb) (hd : decode M.2.1 pc = .ok (.invokevirtual ix, 3)) (hp : pc + 3 = pc') (hY : pw_Y y M' nA) (w1 : Cond.methodLink M.1 ix y ∈ pw_tb) (hn : As.length = nA) (hdd : d' + 1 ≤ d) (hst : (st.map fun v => v.category).sum ≤ 8)
    (h : PK al y M' d' (.ref (9001 + i) :: As) σ (fun r σ' => ∃ v : Int32, r = some (.int v) ∧ (pw_nr M'.2.2.2.1 r → PZ al M d Q pc' lv (.int v :: st) σ'))) : PZ al M d Q pc lv (As.reverse ++ .ref (9001 + i) :: st) σ := by
  refine PW_callT hi hcls w2 w3 hd hp hY w1 hn hdd hst ⟨Nat.le_refl _, Nat.le_refl _⟩ h (fun r al' σ1 hq hnr => ?_)
  obtain ⟨σ2, e2, hq⟩ := hq
  cases e2
  obtain ⟨v, rfl, hq⟩ := hq
  exact hq hnr
theorem me_100 : (100, 11, 0) ∈ alC := List.mem_of_getElem? (i := 0) rfl
theorem me_101 : (101, 13, 700) ∈ alC := List.mem_of_getElem? (i := 1) rfl
theorem me_300 : (300, 8, 0) ∈ alC := List.mem_of_getElem? (i := 2) rfl
theorem me_303 : (303, 13, 5) ∈ alC := List.mem_of_getElem? (i := 3) rfl
theorem me_304 : (304, 13, 12) ∈ alC := List.mem_of_getElem? (i := 4) rfl
theorem me_305 : (305, 13, 5) ∈ alC := List.mem_of_getElem? (i := 5) rfl
theorem me_308 : (308, 13, 5) ∈ alC := List.mem_of_getElem? (i := 6) rfl
theorem me_309 : (309, 13, 5) ∈ alC := List.mem_of_getElem? (i := 7) rfl
theorem me_310 : (310, 13, 5) ∈ alC := List.mem_of_getElem? (i := 8) rfl
theorem me_311 : (311, 13, 5) ∈ alC := List.mem_of_getElem? (i := 9) rfl
theorem me_313 : (313, 13, 12) ∈ alC := List.mem_of_getElem? (i := 10) rfl
theorem me_314 : (314, 13, 12) ∈ alC := List.mem_of_getElem? (i := 11) rfl
theorem me_315 : (315, 13, 12) ∈ alC := List.mem_of_getElem? (i := 12) rfl
theorem me_316 : (316, 13, 12) ∈ alC := List.mem_of_getElem? (i := 13) rfl
theorem me_1300 : (1300, 2, 0) ∈ alC := List.mem_of_getElem? (i := 14) rfl
theorem me_1303 : (1303, 13, 64) ∈ alC := List.mem_of_getElem? (i := 15) rfl
theorem me_1304 : (1304, 13, 64) ∈ alC := List.mem_of_getElem? (i := 16) rfl
theorem me_1305 : (1305, 13, 3) ∈ alC := List.mem_of_getElem? (i := 17) rfl
theorem me_1306 : (1306, 13, 3) ∈ alC := List.mem_of_getElem? (i := 18) rfl
theorem me_1307 : (1307, 14, 64) ∈ alC := List.mem_of_getElem? (i := 19) rfl
theorem me_1308 : (1308, 13, 7) ∈ alC := List.mem_of_getElem? (i := 20) rfl
theorem me_200 : (200, 4, 0) ∈ alC := List.mem_of_getElem? (i := 21) rfl
theorem me_400 : (400, 8, 0) ∈ alC := List.mem_of_getElem? (i := 22) rfl
theorem me_403 : (403, 13, 5) ∈ alC := List.mem_of_getElem? (i := 23) rfl
theorem me_404 : (404, 13, 12) ∈ alC := List.mem_of_getElem? (i := 24) rfl
theorem me_405 : (405, 13, 5) ∈ alC := List.mem_of_getElem? (i := 25) rfl
theorem me_408 : (408, 13, 5) ∈ alC := List.mem_of_getElem? (i := 26) rfl
theorem me_409 : (409, 13, 5) ∈ alC := List.mem_of_getElem? (i := 27) rfl
theorem me_410 : (410, 13, 5) ∈ alC := List.mem_of_getElem? (i := 28) rfl
theorem me_411 : (411, 13, 5) ∈ alC := List.mem_of_getElem? (i := 29) rfl
theorem me_413 : (413, 13, 12) ∈ alC := List.mem_of_getElem? (i := 30) rfl
theorem me_414 : (414, 13, 12) ∈ alC := List.mem_of_getElem? (i := 31) rfl
theorem me_415 : (415, 13, 12) ∈ alC := List.mem_of_getElem? (i := 32) rfl
theorem me_416 : (416, 13, 12) ∈ alC := List.mem_of_getElem? (i := 33) rfl
theorem me_1400 : (1400, 2, 0) ∈ alC := List.mem_of_getElem? (i := 34) rfl
theorem me_1403 : (1403, 13, 64) ∈ alC := List.mem_of_getElem? (i := 35) rfl
theorem me_1404 : (1404, 13, 64) ∈ alC := List.mem_of_getElem? (i := 36) rfl
theorem me_1405 : (1405, 13, 3) ∈ alC := List.mem_of_getElem? (i := 37) rfl
theorem me_1406 : (1406, 13, 3) ∈ alC := List.mem_of_getElem? (i := 38) rfl
theorem me_1407 : (1407, 14, 64) ∈ alC := List.mem_of_getElem? (i := 39) rfl
theorem me_1408 : (1408, 13, 7) ∈ alC := List.mem_of_getElem? (i := 40) rfl
theorem me_500 : (500, 7, 0) ∈ alC := List.mem_of_getElem? (i := 41) rfl
theorem me_502 : (502, 13, 34) ∈ alC := List.mem_of_getElem? (i := 42) rfl
theorem me_600 : (600, 6, 0) ∈ alC := List.mem_of_getElem? (i := 43) rfl
theorem me_1000 : (1000, 5, 0) ∈ alC := List.mem_of_getElem? (i := 44) rfl
theorem me_700 : (700, 0, 0) ∈ alC := List.mem_of_getElem? (i := 45) rfl
theorem me_703 : (703, 13, 5) ∈ alC := List.mem_of_getElem? (i := 46) rfl
theorem me_704 : (704, 13, 5) ∈ alC := List.mem_of_getElem? (i := 47) rfl
theorem me_705 : (705, 13, 5) ∈ alC := List.mem_of_getElem? (i := 48) rfl
theorem me_706 : (706, 13, 12) ∈ alC := List.mem_of_getElem? (i := 49) rfl
theorem me_800 : (800, 0, 0) ∈ alC := List.mem_of_getElem? (i := 50) rfl
theorem me_803 : (803, 13, 5) ∈ alC := List.mem_of_getElem? (i := 51) rfl
theorem me_804 : (804, 13, 5) ∈ alC := List.mem_of_getElem? (i := 52) rfl
theorem me_805 : (805, 13, 5) ∈ alC := List.mem_of_getElem? (i := 53) rfl
theorem me_806 : (806, 13, 12) ∈ alC := List.mem_of_getElem? (i := 54) rfl
theorem me_900 : (900, 0, 0) ∈ alC := List.mem_of_getElem? (i := 55) rfl
theorem me_903 : (903, 13, 5) ∈ alC := List.mem_of_getElem? (i := 56) rfl
theorem me_904 : (904, 13, 5) ∈ alC := List.mem_of_getElem? (i := 57) rfl
theorem me_905 : (905, 13, 5) ∈ alC := List.mem_of_getElem? (i := 58) rfl
theorem me_906 : (906, 13, 12) ∈ alC := List.mem_of_getElem? (i := 59) rfl
theorem me_1100 : (1100, 9, 0) ∈ alC := List.mem_of_getElem? (i := 60) rfl
theorem me_1102 : (1102, 13, 20) ∈ alC := List.mem_of_getElem? (i := 61) rfl
theorem me_1103 : (1103, 13, 20) ∈ alC := List.mem_of_getElem? (i := 62) rfl
theorem me_1104 : (1104, 13, 20) ∈ alC := List.mem_of_getElem? (i := 63) rfl
theorem me_1105 : (1105, 13, 20) ∈ alC := List.mem_of_getElem? (i := 64) rfl
theorem me_1106 : (1106, 13, 20) ∈ alC := List.mem_of_getElem? (i := 65) rfl
theorem me_1200 : (1200, 3, 0) ∈ alC := List.mem_of_getElem? (i := 66) rfl
theorem me_1203 : (1203, 13, 24) ∈ alC := List.mem_of_getElem? (i := 67) rfl
theorem me_1204 : (1204, 13, 24) ∈ alC := List.mem_of_getElem? (i := 68) rfl
theorem me_1205 : (1205, 13, 24) ∈ alC := List.mem_of_getElem? (i := 69) rfl
theorem me_1206 : (1206, 13, 24) ∈ alC := List.mem_of_getElem? (i := 70) rfl
theorem me_1207 : (1207, 15, 24) ∈ alC := List.mem_of_getElem? (i := 71) rfl
theorem me_1208 : (1208, 13, 12) ∈ alC := List.mem_of_getElem? (i := 72) rfl
theorem me_1209 : (1209, 13, 12) ∈ alC := List.mem_of_getElem? (i := 73) rfl
theorem me_1500 : (1500, 10, 0) ∈ alC := List.mem_of_getElem? (i := 74) rfl
theorem me_1502 : (1502, 13, 192) ∈ alC := List.mem_of_getElem? (i := 75) rfl
theorem me_1503 : (1503, 13, 192) ∈ alC := List.mem_of_getElem? (i := 76) rfl
theorem me_1504 : (1504, 13, 192) ∈ alC := List.mem_of_getElem? (i := 77) rfl
theorem me_1505 : (1505, 13, 192) ∈ alC := List.mem_of_getElem? (i := 78) rfl
theorem me_1506 : (1506, 13, 14) ∈ alC := List.mem_of_getElem? (i := 79) rfl
theorem me_1507 : (1507, 13, 14) ∈ alC := List.mem_of_getElem? (i := 80) rfl
theorem me_1600 : (1600, 1, 0) ∈ alC := List.mem_of_getElem? (i := 81) rfl
theorem me_1601 : (1601, 13, 16) ∈ alC := List.mem_of_getElem? (i := 82) rfl
theorem me_5000 : (5000, 12, 0) ∈ alM := List.mem_of_getElem? (i := 0) rfl
theorem me_5002 : (5002, 13, 700) ∈ alM := List.mem_of_getElem? (i := 1) rfl
theorem me_5004 : (5004, 13, 16) ∈ alM := List.mem_of_getElem? (i := 2) rfl
theorem me_5005 : (5005, 13, 10) ∈ alM := List.mem_of_getElem? (i := 3) rfl
theorem me_5006 : (5006, 13, 10) ∈ alM := List.mem_of_getElem? (i := 4) rfl
theorem me_5007 : (5007, 13, 10) ∈ alM := List.mem_of_getElem? (i := 5) rfl
theorem me_5008 : (5008, 13, 10) ∈ alM := List.mem_of_getElem? (i := 6) rfl
theorem me_5009 : (5009, 13, 10) ∈ alM := List.mem_of_getElem? (i := 7) rfl
theorem me_5010 : (5010, 13, 10) ∈ alM := List.mem_of_getElem? (i := 8) rfl
theorem me_5011 : (5011, 13, 10) ∈ alM := List.mem_of_getElem? (i := 9) rfl
theorem me_5012 : (5012, 13, 10) ∈ alM := List.mem_of_getElem? (i := 10) rfl
theorem me_5013 : (5013, 13, 10) ∈ alM := List.mem_of_getElem? (i := 11) rfl
theorem me_5014 : (5014, 13, 24) ∈ alM := List.mem_of_getElem? (i := 12) rfl
theorem me_5015 : (5015, 13, 24) ∈ alM := List.mem_of_getElem? (i := 13) rfl
theorem me_5016 : (5016, 13, 24) ∈ alM := List.mem_of_getElem? (i := 14) rfl
theorem me_5017 : (5017, 13, 24) ∈ alM := List.mem_of_getElem? (i := 15) rfl
theorem me_5018 : (5018, 13, 6) ∈ alM := List.mem_of_getElem? (i := 16) rfl
theorem me_5019 : (5019, 13, 6) ∈ alM := List.mem_of_getElem? (i := 17) rfl
theorem me_5020 : (5020, 13, 128) ∈ alM := List.mem_of_getElem? (i := 18) rfl
theorem me_5021 : (5021, 13, 128) ∈ alM := List.mem_of_getElem? (i := 19) rfl
theorem me_5035 : (5035, 14, 7) ∈ alM := List.mem_of_getElem? (i := 20) rfl
theorem me_5036 : (5036, 14, 64) ∈ alM := List.mem_of_getElem? (i := 21) rfl
theorem me_5039 : (5039, 13, 23) ∈ alM := List.mem_of_getElem? (i := 22) rfl
theorem me_5040 : (5040, 13, 23) ∈ alM := List.mem_of_getElem? (i := 23) rfl
theorem me_5041 : (5041, 13, 23) ∈ alM := List.mem_of_getElem? (i := 24) rfl
theorem me_5042 : (5042, 13, 115) ∈ alM := List.mem_of_getElem? (i := 25) rfl
theorem me_5043 : (5043, 13, 115) ∈ alM := List.mem_of_getElem? (i := 26) rfl
theorem me_5044 : (5044, 13, 115) ∈ alM := List.mem_of_getElem? (i := 27) rfl
theorem me_5045 : (5045, 13, 276) ∈ alM := List.mem_of_getElem? (i := 28) rfl
theorem me_5049 : (5049, 13, 192) ∈ alM := List.mem_of_getElem? (i := 29) rfl
theorem me_5050 : (5050, 13, 192) ∈ alM := List.mem_of_getElem? (i := 30) rfl
theorem me_5051 : (5051, 15, 192) ∈ alM := List.mem_of_getElem? (i := 31) rfl
theorem me_5053 : (5053, 13, 16) ∈ alM := List.mem_of_getElem? (i := 32) rfl
theorem me_5056 : (5056, 13, 24) ∈ alM := List.mem_of_getElem? (i := 33) rfl
theorem me_5057 : (5057, 13, 24) ∈ alM := List.mem_of_getElem? (i := 34) rfl
theorem me_5058 : (5058, 13, 24) ∈ alM := List.mem_of_getElem? (i := 35) rfl
theorem me_5059 : (5059, 13, 24) ∈ alM := List.mem_of_getElem? (i := 36) rfl
theorem me_5060 : (5060, 15, 24) ∈ alM := List.mem_of_getElem? (i := 37) rfl
theorem me_5061 : (5061, 15, 192) ∈ alM := List.mem_of_getElem? (i := 38) rfl
theorem me_5062 : (5062, 15, 192) ∈ alM := List.mem_of_getElem? (i := 39) rfl
theorem me_T (b : Bool) : (tv b, 8, 0) ∈ alC := by cases b <;> first | exact me_300 | exact me_400
theorem me_L (b : Bool) : (tl b, 2, 0) ∈ alC := by cases b <;> first | exact me_1300 | exact me_1400
def isDay (dy : Nat) : Prop := dy = 700 ∨ dy = 800 ∨ dy = 900
theorem me_D {dy : Nat} (h : isDay dy) : (dy, 0, 0) ∈ alC := by rcases h with rfl | rfl | rfl <;> first | exact me_700 | exact me_800 | exact me_900
theorem me_T2 (b : Bool) : (tv b + 3, 13, 5) ∈ alC := by cases b <;> first | exact me_303 | exact me_403
theorem rf_T2 (σ : zS) (b : Bool) : (em σ).2.2 (tv b) 2 = tv b + 3 := by cases b <;> rfl
theorem me_T3 (b : Bool) : (tv b + 4, 13, 12) ∈ alC := by cases b <;> first | exact me_304 | exact me_404
theorem rf_T3 (σ : zS) (b : Bool) : (em σ).2.2 (tv b) 3 = tv b + 4 := by cases b <;> rfl
theorem me_T4 (b : Bool) : (tv b + 5, 13, 5) ∈ alC := by cases b <;> first | exact me_305 | exact me_405
theorem rf_T4 (σ : zS) (b : Bool) : (em σ).2.2 (tv b) 4 = tv b + 5 := by cases b <;> rfl
theorem me_T7 (b : Bool) : (tv b + 8, 13, 5) ∈ alC := by cases b <;> first | exact me_308 | exact me_408
theorem rf_T7 (σ : zS) (b : Bool) : (em σ).2.2 (tv b) 7 = tv b + 8 := by cases b <;> rfl
theorem me_T8 (b : Bool) : (tv b + 9, 13, 5) ∈ alC := by cases b <;> first | exact me_309 | exact me_409
theorem rf_T8 (σ : zS) (b : Bool) : (em σ).2.2 (tv b) 8 = tv b + 9 := by cases b <;> rfl
theorem me_T9 (b : Bool) : (tv b + 10, 13, 5) ∈ alC := by cases b <;> first | exact me_310 | exact me_410
theorem rf_T9 (σ : zS) (b : Bool) : (em σ).2.2 (tv b) 9 = tv b + 10 := by cases b <;> rfl
theorem me_T10 (b : Bool) : (tv b + 11, 13, 5) ∈ alC := by cases b <;> first | exact me_311 | exact me_411
theorem rf_T10 (σ : zS) (b : Bool) : (em σ).2.2 (tv b) 10 = tv b + 11 := by cases b <;> rfl
theorem me_T12 (b : Bool) : (tv b + 13, 13, 12) ∈ alC := by cases b <;> first | exact me_313 | exact me_413
theorem rf_T12 (σ : zS) (b : Bool) : (em σ).2.2 (tv b) 12 = tv b + 13 := by cases b <;> rfl
theorem me_T13 (b : Bool) : (tv b + 14, 13, 12) ∈ alC := by cases b <;> first | exact me_314 | exact me_414
theorem rf_T13 (σ : zS) (b : Bool) : (em σ).2.2 (tv b) 13 = tv b + 14 := by cases b <;> rfl
theorem me_T14 (b : Bool) : (tv b + 15, 13, 12) ∈ alC := by cases b <;> first | exact me_315 | exact me_415
theorem rf_T14 (σ : zS) (b : Bool) : (em σ).2.2 (tv b) 14 = tv b + 15 := by cases b <;> rfl
theorem me_T15 (b : Bool) : (tv b + 16, 13, 12) ∈ alC := by cases b <;> first | exact me_316 | exact me_416
theorem rf_T15 (σ : zS) (b : Bool) : (em σ).2.2 (tv b) 15 = tv b + 16 := by cases b <;> rfl
theorem rf_T17 (σ : zS) (b : Bool) : (em σ).2.2 (tv b) 17 = tl b := by cases b <;> rfl
theorem tv0 (b : Bool) : ¬ tv b = 0 := by cases b <;> decide
theorem tl0 (b : Bool) : ¬ tl b = 0 := by cases b <;> decide
theorem su0 (a b : Nat) : ¬ a + (b + 1) = 0 := by omega
theorem me_L2 (b : Bool) : (tl b + 3, 13, 64) ∈ alC := by cases b <;> first | exact me_1303 | exact me_1403
theorem rf_L2 (σ : zS) (b : Bool) : (em σ).2.2 (tl b) 2 = tl b + 3 := by cases b <;> rfl
theorem me_L3 (b : Bool) : (tl b + 4, 13, 64) ∈ alC := by cases b <;> first | exact me_1304 | exact me_1404
theorem rf_L3 (σ : zS) (b : Bool) : (em σ).2.2 (tl b) 3 = tl b + 4 := by cases b <;> rfl
theorem me_L4 (b : Bool) : (tl b + 5, 13, 3) ∈ alC := by cases b <;> first | exact me_1305 | exact me_1405
theorem rf_L4 (σ : zS) (b : Bool) : (em σ).2.2 (tl b) 4 = tl b + 5 := by cases b <;> rfl
theorem me_L5 (b : Bool) : (tl b + 6, 13, 3) ∈ alC := by cases b <;> first | exact me_1306 | exact me_1406
theorem rf_L5 (σ : zS) (b : Bool) : (em σ).2.2 (tl b) 5 = tl b + 6 := by cases b <;> rfl
theorem me_L6 (b : Bool) : (tl b + 7, 14, 64) ∈ alC := by cases b <;> first | exact me_1307 | exact me_1407
theorem rf_L6 (σ : zS) (b : Bool) : (em σ).2.2 (tl b) 6 = tl b + 7 := by cases b <;> rfl
theorem me_L7 (b : Bool) : (tl b + 8, 13, 7) ∈ alC := by cases b <;> first | exact me_1308 | exact me_1408
theorem rf_L7 (σ : zS) (b : Bool) : (em σ).2.2 (tl b) 7 = tl b + 8 := by cases b <;> rfl
theorem me_D2 {dy : Nat} (h : isDay dy) : (dy + 3, 13, 5) ∈ alC := by rcases h with rfl | rfl | rfl <;> first | exact me_703 | exact me_803 | exact me_903
theorem rf_D2 (σ : zS) {dy : Nat} (h : isDay dy) : (em σ).2.2 dy 2 = dy + 3 := by rcases h with rfl | rfl | rfl <;> rfl
theorem me_D3 {dy : Nat} (h : isDay dy) : (dy + 4, 13, 5) ∈ alC := by rcases h with rfl | rfl | rfl <;> first | exact me_704 | exact me_804 | exact me_904
theorem rf_D3 (σ : zS) {dy : Nat} (h : isDay dy) : (em σ).2.2 dy 3 = dy + 4 := by rcases h with rfl | rfl | rfl <;> rfl
theorem me_D4 {dy : Nat} (h : isDay dy) : (dy + 5, 13, 5) ∈ alC := by rcases h with rfl | rfl | rfl <;> first | exact me_705 | exact me_805 | exact me_905
theorem rf_D4 (σ : zS) {dy : Nat} (h : isDay dy) : (em σ).2.2 dy 4 = dy + 5 := by rcases h with rfl | rfl | rfl <;> rfl
theorem me_D5 {dy : Nat} (h : isDay dy) : (dy + 6, 13, 12) ∈ alC := by rcases h with rfl | rfl | rfl <;> first | exact me_706 | exact me_806 | exact me_906
theorem rf_D5 (σ : zS) {dy : Nat} (h : isDay dy) : (em σ).2.2 dy 5 = dy + 6 := by rcases h with rfl | rfl | rfl <;> rfl
theorem rf_M0 (σ : zS) : (em σ).2.2 100 4 = tv (σ.2.2 0) := rfl
theorem rf_M1 (σ : zS) : (em σ).2.2 200 2 = tv (σ.2.2 1) := rfl
theorem rf_M2 (σ : zS) : (em σ).2.2 1000 0 = tv (σ.2.2 2) := rfl
theorem rf_M3 (σ : zS) : (em σ).2.2 600 1 = tl (σ.2.2 3) := rfl
def pw_dec (b : ByteArray) (L : List (Nat × Instr × Nat)) : Bool := L.all (fun q => decide (decode b q.1 = .ok q.2))
theorem pw_dk {b : ByteArray} {L : List (Nat × Instr × Nat)} (h : pw_dec b L = true) (i : Nat) {pc len : Nat} {ins : Instr} (hi : L[i]? = some (pc, ins, len)) : decode b pc = .ok (ins, len) := by
  have h1 : decide (decode b pc = .ok (ins, len)) = true := List.all_eq_true.mp h (pc, ins, len) (List.mem_of_getElem? hi)
  exact decide_eq_true_iff.mp h1
theorem pw_ne {x k : Int32} {z : Int} (h : ¬ x = k) (e : k.toInt = z) : x.toInt ≠ z := fun h2 => h (Int32.toInt_inj.mp (h2.trans e.symm))
theorem pi_0 : ∀ w ∈ u_ws RX0 TX0 6, w ∈ pw_tb := pw_ins _ [477, 479, 481, 483, 485, 487] (by decide +kernel) (by decide +kernel)
theorem pi_1 : ∀ w ∈ u_ws RX1 TX1 1, w ∈ pw_tb := pw_ins _ [593] (by decide +kernel) (by decide +kernel)
theorem pi_2 : ∀ w ∈ u_ws RX2 TX2 8, w ∈ pw_tb := pw_ins _ [178, 180, 182, 184, 186, 188, 190, 192] (by decide +kernel) (by decide +kernel)
theorem pi_3 : ∀ w ∈ u_ws RX3 TX3 9, w ∈ pw_tb := pw_ins _ [533, 535, 537, 539, 541, 543, 545, 547, 549] (by decide +kernel) (by decide +kernel)
theorem pi_4 : ∀ w ∈ u_ws RX4 TX4 6, w ∈ pw_tb := pw_ins _ [417, 419, 421, 423, 425, 427] (by decide +kernel) (by decide +kernel)
theorem pi_5 : ∀ w ∈ u_ws RX5 TX5 3, w ∈ pw_tb := pw_ins _ [442, 444, 446] (by decide +kernel) (by decide +kernel)
theorem pi_6 : ∀ w ∈ u_ws RX6 TX6 2, w ∈ pw_tb := pw_ins _ [404, 406] (by decide +kernel) (by decide +kernel)
theorem pi_7 : ∀ w ∈ u_ws RX7 TX7 10, w ∈ pw_tb := pw_ins _ [373, 375, 377, 379, 381, 383, 385, 387, 389, 391] (by decide +kernel) (by decide +kernel)
theorem pi_8 : ∀ w ∈ u_ws RX8 TX8 18, w ∈ pw_tb := pw_ins _ [253, 255, 257, 259, 261, 263, 265, 267, 269, 271, 273, 275, 277, 279, 281, 283, 285, 287] (by decide +kernel) (by decide +kernel)
theorem pi_9 : ∀ w ∈ u_ws RX9 TX9 6, w ∈ pw_tb := pw_ins _ [503, 505, 507, 509, 511, 513] (by decide +kernel) (by decide +kernel)
theorem pi_10 : ∀ w ∈ u_ws RX10 TX10 7, w ∈ pw_tb := pw_ins _ [571, 573, 575, 577, 579, 581, 583] (by decide +kernel) (by decide +kernel)
theorem pi_11 : ∀ w ∈ u_ws RX11 TX11 15, w ∈ pw_tb := pw_ins _ [611, 613, 615, 617, 619, 621, 623, 625, 627, 629, 631, 633, 635, 637, 639] (by decide +kernel) (by decide +kernel)
theorem pi_12 : ∀ w ∈ u_ws RX12 TX12 62, w ∈ pw_tb := pw_ins _ [1458, 1460, 1462, 1464, 1466, 1468, 1470, 1472, 1474, 1476, 1478, 1480, 1482, 1484, 1486, 1488, 1490, 1492, 1494, 1496, 1498, 1500, 1502, 1504, 1506, 1508, 1510, 1512, 1514, 1516, 1518, 1520, 1522, 1524, 1526, 1528, 1530, 1532, 1534, 1536, 1538, 1540, 1542, 1544, 1546, 1548, 1550, 1552, 1554, 1556, 1558, 1560, 1562, 1564, 1566, 1568, 1570, 1572, 1574, 1576, 1578, 1580] (by decide +kernel) (by decide +kernel)
