/-! THE PURE PART: zones of cells, what is told as natural numbers -/
abbrev zT : Type := Nat → Nat → Nat
/-- the zone of a cell of the class: 0 scratch, 1 told, 2 tape and fault, 3 now, 4 undone, 5 image, 6 mode, 7 trial, 8 draft and reader, 9 prints, 10 the reference's last draw, 11 its unlawful parts, 12 scratch of prints, 13 15 16 of walks, 14 of duels -/
def zc (b : Bool) (i p : Nat) : Nat :=
  if i = 100 then (if p = 10 then 5 else 2)
  else if i = 101 then 2
  else if i = 502 then 1
  else if tv b ≤ i ∧ i ≤ tv b + 17 then 1
  else if tl b ≤ i ∧ i ≤ tl b + 6 then 1
  else if i < 700 then 8 else if i < 800 then 3 else if i < 900 then 5 else if i < 1000 then 7 else if i < 1100 then 6 else if i < 1200 then 4
  else if i < 1207 then 9 else if i < 1300 then 12
  else if i = tl b + 8 then 0 else if i < 1500 then 8 else if i < 1506 then 13 else if i = 1506 then 15 else if i < 1600 then 16 else 14
/-- the zone of a day's slot -/
def zsl (s : Nat) : Nat := if s = 0 then 3 else if s = 1 then 7 else if s = 2 then 5 else 4
/-- the zone of a cell of the reference -/
def zm (i p : Nat) : Nat :=
  if i = 5000 then (if p = 2 ∨ p = 30 ∨ p = 31 then 2 else if p = 45 then 5 else if p = 46 then 4 else if p = 53 ∨ p = 54 then 9 else if p = 37 ∨ p = 47 then 6 else if (21 ≤ p ∧ p ≤ 29) ∨ p = 32 ∨ p = 33 then 8 else if p = 51 then 11 else 0)
  else if i = 5002 then 2
  else if i = 5004 then (if p < 8 then 1 else 8)
  else if i ≤ 5013 then (if p < 5 then 1 else 8)
  else if i ≤ 5017 then (if p < 12 then 1 else 8)
  else if i ≤ 5019 then (if p < 3 then 1 else 8)
  else if i ≤ 5021 then (if p < 64 then 1 else 8)
  else if i = 5039 ∨ i = 5041 then zsl p
  else if i = 5040 then 10
  else if i = 5042 ∨ i = 5043 ∨ i = 5044 then zsl (p / 5)
  else if i = 5045 then zsl (p / 12)
  else if 5056 ≤ i ∧ i ≤ 5059 then 9 else if 5060 ≤ i then 12 else if i = 5053 then 14 else if i = 5049 then 13 else if i = 5050 then 15 else if i = 5051 then 16 else 0
def Fc (b : Bool) (Z : List Nat) (σ σ' : zS) : Prop := fEq (fun i p => Z.elem (zc b i p)) σ σ'
def Fm (Z : List Nat) (σ σ' : zS) : Prop := fEq (fun i p => Z.elem (zm i p)) σ σ'
theorem Fc.rf {b : Bool} {Z : List Nat} {σ : zS} : Fc b Z σ σ := fEq.rf
theorem Fm.rf {Z : List Nat} {σ : zS} : Fm Z σ σ := fEq.rf
theorem Fc.tr {b : Bool} {Z : List Nat} {σ σ' σ'' : zS} (h : Fc b Z σ σ') (h' : Fc b Z σ' σ'') : Fc b Z σ σ'' := fEq.tr h h'
theorem Fm.tr {Z : List Nat} {σ σ' σ'' : zS} (h : Fm Z σ σ') (h' : Fm Z σ' σ'') : Fm Z σ σ'' := fEq.tr h h'
theorem el_sub {Z Z' : List Nat} (hs : Z.all (fun z => Z'.elem z) = true) {z : Nat} (h : Z'.elem z = false) : Z.elem z = false := by
  cases e : Z.elem z with
  | false => rfl
  | true =>
    have := List.all_eq_true.mp hs z (List.mem_of_elem_eq_true e)
    rw [h] at this; cases this
theorem Fc.mono {b : Bool} {Z Z' : List Nat} {σ σ' : zS} (h : Fc b Z σ σ') (hs : Z.all (fun z => Z'.elem z) = true) : Fc b Z' σ σ' := fEq.mono h (fun _ _ z => el_sub hs z)
theorem Fm.mono {Z Z' : List Nat} {σ σ' : zS} (h : Fm Z σ σ') (hs : Z.all (fun z => Z'.elem z) = true) : Fm Z' σ σ' := fEq.mono h (fun _ _ z => el_sub hs z)
theorem Fc.wI {b : Bool} {Z : List Nat} {σ σ' : zS} {a k : Nat} {v : Int32} (h : Fc b Z σ σ') (hs : Z.elem (zc b a k) = true) : Fc b Z σ (wI σ' a k v) := fEq.wI h hs
theorem Fm.wI {Z : List Nat} {σ σ' : zS} {a k : Nat} {v : Int32} (h : Fm Z σ σ') (hs : Z.elem (zm a k) = true) : Fm Z σ (wI σ' a k v) := fEq.wI h hs
theorem Fc.wL {b : Bool} {Z : List Nat} {σ σ' : zS} {a k : Nat} {v : Int64} (h : Fc b Z σ σ') : Fc b Z σ (wL σ' a k v) := h
theorem Fm.wL {Z : List Nat} {σ σ' : zS} {a k : Nat} {v : Int64} (h : Fm Z σ σ') : Fm Z σ (wL σ' a k v) := h
theorem Fc.wA {b : Bool} {Z : List Nat} {σ σ' : zS} {a : Nat} {f : Nat → Int32} (h : Fc b Z σ σ') (hs : ∀ k, Z.elem (zc b a k) = true) : Fc b Z σ (wA σ' a f) := fEq.wA h hs
theorem Fc.at {b : Bool} {Z : List Nat} {σ σ' : zS} (h : Fc b Z σ σ') {i k : Nat} (hz : Z.elem (zc b i k) = false) : σ'.1 i k = σ.1 i k := h.2 i k hz
theorem Fm.at {Z : List Nat} {σ σ' : zS} (h : Fm Z σ σ') {i k : Nat} (hz : Z.elem (zm i k) = false) : σ'.1 i k = σ.1 i k := h.2 i k hz
theorem Fc.z {b : Bool} {Z : List Nat} {σ σ' : zS} (h : Fc b Z σ σ') {i k z : Nat} (e : zc b i k = z) (hz : Z.elem z = false) : σ'.1 i k = σ.1 i k := h.2 i k (by show Z.elem _ = false; rw [e]; exact hz)
theorem Fm.z {Z : List Nat} {σ σ' : zS} (h : Fm Z σ σ') {i k z : Nat} (e : zm i k = z) (hz : Z.elem z = false) : σ'.1 i k = σ.1 i k := h.2 i k (by show Z.elem _ = false; rw [e]; exact hz)
/-- a row of natural numbers -/
def rowN (σ : zS) (id o n : Nat) (f : Nat → Nat) : Prop := ∀ k, k < n → σ.1 id (o + k) = nI (f k)
/-- the latest land that has the cell, 9 for none -/
def landR (T : zT) (c : Nat) : Nat → Nat
  | 0 => 9
  | l + 1 => if T 6 l ≤ c ∧ c ≤ T 7 l then l else landR T c l
def encO (s v : Nat) : Nat := if s = 2 then (if v = 262 then 2 else if v = 261 then 3 else if v = 260 then 4 else if v = 256 then 15421 else if v = 257 then 15422 else if v = 258 then 15933 else v) else s
def isMk (v : Nat) : Bool := [42, 43, 45, 47, 60, 61, 62, 256, 257, 258, 261, 262].elem v
/-- a row of n knots from i, on a stack of d -/
def okL (T : zT) : Nat → Nat → Nat → Prop
  | 0, _, d => d = 1
  | n + 1, i, d => if T 20 i = 2 then (if T 21 i = 260 then 1 ≤ d ∧ okL T n (i + 1) d else isMk (T 21 i) = true ∧ 2 ≤ d ∧ okL T n (i + 1) (d - 1))
      else (T 20 i = 0 ∧ T 21 i ≤ 9999 ∨ T 20 i = 1 ∧ T 21 i < 7) ∧ d < 64 ∧ okL T n (i + 1) (d + 1)
def okT (T : zT) : Prop :=
  (2 ≤ T 4 0 ∧ T 4 0 ≤ 12 ∧ T 4 1 ≤ 5 ∧ T 4 2 ≤ 5 ∧ T 4 3 ≤ 12 ∧ T 4 4 ≤ 40 ∧ T 4 5 ≤ 99 ∧ T 4 6 ≤ 99999 ∧ T 4 7 ≤ 64) ∧
  (∀ k, k < T 4 1 → T 5 k < 2 ^ 30 ∧ T 6 k ≤ T 7 k ∧ T 7 k < T 4 0 ∧ T 8 k < 16) ∧
  (∀ k, k < T 4 2 → T 9 k < 2 ^ 30 ∧ T 10 k < T 4 0 ∧ T 11 k < 4 ∧ T 12 k < 2 ∧ T 13 k ≤ 99) ∧
  (∀ k, k < T 4 3 → T 14 k < T 4 2 ∧ T 15 k < 4 ∧ T 16 k < 4 ∧ T 17 k < 24) ∧
  (∀ k, k < 3 → T 18 k ≤ T 19 k ∧ T 19 k ≤ T 4 7 ∧ (T 18 k < T 19 k → okL T (T 19 k - T 18 k) (T 18 k) 0))
/-- the words as the class packs them -/
def langW : List Int32 := [659100852, 404164608, 437714944, 139628544, 68747264, 211227648, 642945024, 404455424, 486101248, 169463808, 653971712, 777637888, 408113152, 613655168, 411089024, 612415616, 409452160, 610778752, 284561408, 647215104, 278528000, 538561536, 77008896, 438075392, 672923648, 522190848, 48365568, 486146048, 538529792, 647107584, 780322976, 202478592, 120049248, 284870656]
/-- the class's rows of what is told -/
def RC (b : Bool) (T : zT) (σ : zS) : Prop :=
  (σ.2.2 0 = b ∧ σ.2.2 1 = (!b) ∧ σ.2.2 2 = b) ∧
  (σ.1 (tv b) 0 = nI (T 4 0) ∧ σ.1 (tv b) 1 = nI (T 4 1) ∧ σ.1 (tv b) 6 = nI (T 4 2) ∧ σ.1 (tv b) 11 = nI (T 4 3) ∧ σ.1 (tv b) 5 = nI (T 4 4) ∧ σ.1 (tv b) 16 = nI (T 4 5) ∧ σ.1 (tl b) 0 = nI (T 4 7)) ∧
  (rowN σ (tv b + 3) 0 (T 4 1) (T 5) ∧ rowN σ (tv b + 5) 0 (T 4 1) (T 8) ∧ rowN σ (tv b + 4) 0 12 (fun c => landR T c (T 4 1))) ∧
  (rowN σ (tv b + 8) 0 (T 4 2) (T 9) ∧ rowN σ (tv b + 9) 0 (T 4 2) (fun m => 16 * T 10 m + 4 * T 11 m) ∧ rowN σ (tv b + 10) 0 (T 4 2) (T 12) ∧ rowN σ (tv b + 11) 0 (T 4 2) (T 13)) ∧
  (rowN σ (tv b + 13) 0 (T 4 3) (T 14) ∧ rowN σ (tv b + 14) 0 (T 4 3) (T 15) ∧ rowN σ (tv b + 15) 0 (T 4 3) (T 16) ∧ rowN σ (tv b + 16) 0 (T 4 3) (T 17)) ∧
  ((∀ k, k < 3 → T 18 k < T 19 k → σ.1 (tl b + 5) k = nI (T 18 k) ∧ σ.1 (tl b + 6) k = nI (T 19 k)) ∧ (∀ k, k < 3 → ¬ T 18 k < T 19 k → σ.1 (tl b + 5) k = -1) ∧
    rowN σ (tl b + 3) 0 (T 4 7) (fun i => encO (T 20 i) (T 21 i)) ∧ (∀ k, k < T 4 7 → T 20 k ≠ 2 → σ.1 (tl b + 4) k = nI (T 21 k))) ∧
  (∀ k, k < 34 → σ.1 502 k = langW.getD k 0)
/-- the reference's rows of what is told -/
def RM (T : zT) (σ : zS) : Prop :=
  rowN σ 5004 0 8 (T 4) ∧
  (rowN σ 5005 0 (T 4 1) (T 5) ∧ rowN σ 5006 0 (T 4 1) (T 6) ∧ rowN σ 5007 0 (T 4 1) (T 7) ∧ rowN σ 5008 0 (T 4 1) (T 8)) ∧
  (rowN σ 5009 0 (T 4 2) (T 9) ∧ rowN σ 5010 0 (T 4 2) (T 10) ∧ rowN σ 5011 0 (T 4 2) (T 11) ∧ rowN σ 5012 0 (T 4 2) (T 12) ∧ rowN σ 5013 0 (T 4 2) (T 13)) ∧
  (rowN σ 5014 0 (T 4 3) (T 14) ∧ rowN σ 5015 0 (T 4 3) (T 15) ∧ rowN σ 5016 0 (T 4 3) (T 16) ∧ rowN σ 5017 0 (T 4 3) (T 17)) ∧
  (rowN σ 5018 0 3 (T 18) ∧ rowN σ 5019 0 3 (T 19) ∧ rowN σ 5020 0 (T 4 7) (T 20) ∧ rowN σ 5021 0 (T 4 7) (T 21))
theorem rowN.fc {b : Bool} {Z : List Nat} {σ σ' : zS} {id o n : Nat} {f : Nat → Nat} (h : rowN σ id o n f) (F : Fc b Z σ σ') (hz : ∀ k, k < n → Z.elem (zc b id (o + k)) = false) : rowN σ' id o n f := fun k hk => (F.at (hz k hk)).trans (h k hk)
theorem rowN.fm {Z : List Nat} {σ σ' : zS} {id o n : Nat} {f : Nat → Nat} (h : rowN σ id o n f) (F : Fm Z σ σ') (hz : ∀ k, k < n → Z.elem (zm id (o + k)) = false) : rowN σ' id o n f := fun k hk => (F.at (hz k hk)).trans (h k hk)
theorem zc1 {b : Bool} {i p : Nat} (h : i = 502 ∨ (tv b ≤ i ∧ i ≤ tv b + 17) ∨ (tl b ≤ i ∧ i ≤ tl b + 6)) : zc b i p = 1 := by
  have ht : tv b = 300 ∨ tv b = 400 := by cases b <;> simp [tv]
  have hl : tl b = 1300 ∨ tl b = 1400 := by cases b <;> simp [tl]
  rw [zc, if_neg (by omega), if_neg (by omega)]
  by_cases h1 : i = 502
  · rw [if_pos h1]
  · rw [if_neg h1]
    by_cases h2 : tv b ≤ i ∧ i ≤ tv b + 17
    · rw [if_pos h2]
    · rw [if_neg h2, if_pos (by omega)]
theorem RC.mono {b : Bool} {T : zT} {Z : List Nat} {σ σ' : zS} (h : RC b T σ) (F : Fc b Z σ σ') (hz : Z.elem 1 = false) : RC b T σ' := by
  have g : ∀ {i k : Nat}, (i = 502 ∨ (tv b ≤ i ∧ i ≤ tv b + 17) ∨ (tl b ≤ i ∧ i ≤ tl b + 6)) → σ'.1 i k = σ.1 i k := fun hi => F.z (zc1 hi) hz
  have r : ∀ {i o n : Nat} {f : Nat → Nat}, (i = 502 ∨ (tv b ≤ i ∧ i ≤ tv b + 17) ∨ (tl b ≤ i ∧ i ≤ tl b + 6)) → rowN σ i o n f → rowN σ' i o n f := fun hi hr k hk => (g hi).trans (hr k hk)
  obtain ⟨⟨b0, b1, b2⟩, ⟨c0, c1, c2, c3, c4, c5, c6⟩, ⟨l0, l1, l2⟩, ⟨m0, m1, m2, m3⟩, ⟨d0, d1, d2, d3⟩, ⟨w0, w1, w2, w3⟩, lg⟩ := h
  have fb : σ'.2.2 = σ.2.2 := F.1
  refine ⟨⟨by rw [fb]; exact b0, by rw [fb]; exact b1, by rw [fb]; exact b2⟩, ⟨?_, ?_, ?_, ?_, ?_, ?_, ?_⟩, ⟨r (by omega) l0, r (by omega) l1, r (by omega) l2⟩, ⟨r (by omega) m0, r (by omega) m1, r (by omega) m2, r (by omega) m3⟩, ⟨r (by omega) d0, r (by omega) d1, r (by omega) d2, r (by omega) d3⟩, ⟨?_, ?_, r (by omega) w2, ?_⟩, ?_⟩
  · exact (g (by omega)).trans c0
  · exact (g (by omega)).trans c1
  · exact (g (by omega)).trans c2
  · exact (g (by omega)).trans c3
  · exact (g (by omega)).trans c4
  · exact (g (by omega)).trans c5
  · exact (g (by omega)).trans c6
  · exact fun k hk hl => ⟨(g (by omega)).trans (w0 k hk hl).1, (g (by omega)).trans (w0 k hk hl).2⟩
  · exact fun k hk hl => (g (by omega)).trans (w1 k hk hl)
  · exact fun k hk hl => (g (by omega)).trans (w3 k hk hl)
  · exact fun k hk => (g (by omega)).trans (lg k hk)
theorem zm1 {i p : Nat} (h : (i = 5004 ∧ p < 8) ∨ (5005 ≤ i ∧ i ≤ 5013 ∧ p < 5) ∨ (5014 ≤ i ∧ i ≤ 5017 ∧ p < 12) ∨ (5018 ≤ i ∧ i ≤ 5019 ∧ p < 3) ∨ (5020 ≤ i ∧ i ≤ 5021 ∧ p < 64)) : zm i p = 1 := by
  rw [zm, if_neg (by omega), if_neg (by omega)]
  rcases h with h | h | h | h | h
  · rw [if_pos h.1, if_pos h.2]
  · rw [if_neg (by omega), if_pos h.2.1, if_pos h.2.2]
  · rw [if_neg (by omega), if_neg (by omega), if_pos h.2.1, if_pos h.2.2]
  · rw [if_neg (by omega), if_neg (by omega), if_neg (by omega), if_pos h.2.1, if_pos h.2.2]
  · rw [if_neg (by omega), if_neg (by omega), if_neg (by omega), if_neg (by omega), if_pos h.2.1, if_pos h.2.2]
theorem RM.mono {T : zT} {Z : List Nat} {σ σ' : zS} (hT : okT T) (h : RM T σ) (F : Fm Z σ σ') (hz : Z.elem 1 = false) : RM T σ' := by
  have r : ∀ {i o n : Nat} {f : Nat → Nat}, (∀ k, k < n → zm i (o + k) = 1) → rowN σ i o n f → rowN σ' i o n f := fun hi hr k hk => (F.z (hi k hk) hz).trans (hr k hk)
  obtain ⟨c0, ⟨l0, l1, l2, l3⟩, ⟨m0, m1, m2, m3, m4⟩, ⟨d0, d1, d2, d3⟩, ⟨w0, w1, w2, w3⟩⟩ := h
  have o := hT.1
  refine ⟨r ?_ c0, ⟨r ?_ l0, r ?_ l1, r ?_ l2, r ?_ l3⟩, ⟨r ?_ m0, r ?_ m1, r ?_ m2, r ?_ m3, r ?_ m4⟩, ⟨r ?_ d0, r ?_ d1, r ?_ d2, r ?_ d3⟩, ⟨r ?_ w0, r ?_ w1, r ?_ w2, r ?_ w3⟩⟩ <;> exact fun k hk => zm1 (by omega)
