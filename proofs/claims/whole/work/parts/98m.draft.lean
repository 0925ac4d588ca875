/-! The pure part: text. The draft of both, by zones; the shape of a line -/
def setT (T : zT) (a k v : Nat) : zT := fun i j => if i = a ∧ j = k then v else T i j
theorem set_row (T : zT) (a m v k : Nat) : setT T a m v a k = if k = m then v else T a k := by unfold setT; simp
def landS (g h : Nat → Nat) (c : Nat) : Nat → Nat
  | 0 => 9
  | l + 1 => if g l ≤ c ∧ c ≤ h l then l else landS g h c l
theorem landS_R (T : zT) (c : Nat) : ∀ n, landS (T 6) (T 7) c n = landR T c n
  | 0 => rfl
  | n + 1 => by unfold landS landR; rw [landS_R T c n]
theorem landS_cong {g g' h h' : Nat → Nat} {c : Nat} : ∀ {n : Nat}, (∀ k, k < n → g' k = g k ∧ h' k = h k) → landS g' h' c n = landS g h c n
  | 0, _ => rfl
  | n + 1, e => by unfold landS; rw [(e n (by omega)).1, (e n (by omega)).2, landS_cong (fun k hk => e k (by omega))]
theorem rowN.push {σ σ' : zS} {a o n v : Nat} {g g' : Nat → Nat} (h : rowN σ a o n g) (hs : ∀ k, k < n → σ'.1 a (o + k) = σ.1 a (o + k)) (hv : σ'.1 a (o + n) = nI v) (hg : ∀ k, g' k = if k = n then v else g k) : rowN σ' a o (n + 1) g' := by
  intro k hk
  rw [hg k]
  by_cases e : k = n
  · rw [if_pos e, e]; exact hv
  · rw [if_neg e, hs k (by omega)]; exact h k (by omega)
theorem rowN.fd {d : Bool} {Z : List Nat} {σ σ' : zS} {a o n z : Nat} {g : Nat → Nat} (h : rowN σ a o n g) (F : FD d Z σ σ') (hz : ∀ k, k < n → zd d a (o + k) = z) (he : Z.elem z = false) : rowN σ' a o n g := fun k hk => (F.z (hz k hk) he).trans (h k hk)
def okA (T : zT) (tb : Nat → Bool) : Prop :=
  (2 ≤ T 4 0 ∧ T 4 0 ≤ 12 ∧ T 4 1 ≤ 5 ∧ T 4 2 ≤ 5 ∧ T 4 3 ≤ 12 ∧ T 4 4 ≤ 8 ∧ T 4 5 ≤ 99 ∧ T 4 6 ≤ 99999) ∧
  (∀ k, k < T 4 1 → T 5 k < 2 ^ 30 ∧ T 6 k ≤ T 7 k ∧ T 7 k < T 4 0 ∧ T 8 k < 16) ∧
  (∀ k, k < T 4 2 → T 9 k < 2 ^ 30 ∧ T 10 k < T 4 0 ∧ T 11 k < 4 ∧ T 12 k < 2 ∧ T 13 k ≤ 99) ∧
  (∀ k, k < T 4 3 → T 14 k < T 4 2 ∧ T 15 k < 4 ∧ T 16 k < 4 ∧ T 17 k < 24) ∧
  (tb 1 = decide (0 < T 4 1) ∧ tb 2 = decide (0 < T 4 2))
def D2 (tb : Nat → Bool) (σ μ : zS) : Prop := μ.1 5000 21 = nI (setN tb 19) ∧ σ.1 200 3 = bI (tb 0) ∧ σ.1 200 4 = bI (tb 5) ∧ σ.1 200 5 = bI (tb 6)
def D3 (d : Bool) (T : zT) (σ μ : zS) : Prop := σ.1 (tv d) 0 = nI (T 4 0) ∧ μ.1 5004 8 = nI (T 4 0)
def D4 (d : Bool) (T : zT) (σ μ : zS) : Prop := (σ.1 (tv d) 1 = nI (T 4 1) ∧ μ.1 5004 9 = nI (T 4 1)) ∧
  (rowN σ (tv d + 3) 0 (T 4 1) (T 5) ∧ rowN σ (tv d + 5) 0 5 (T 8) ∧ rowN σ (tv d + 4) 0 12 (fun c => landS (T 6) (T 7) c (T 4 1))) ∧
  (rowN μ 5005 5 (T 4 1) (T 5) ∧ rowN μ 5006 5 (T 4 1) (T 6) ∧ rowN μ 5007 5 (T 4 1) (T 7) ∧ rowN μ 5008 5 (T 4 1) (T 8)) ∧ ∀ k, T 4 1 ≤ k → T 8 k = 0
def D5 (d : Bool) (T : zT) (σ μ : zS) : Prop := (σ.1 (tv d) 6 = nI (T 4 2) ∧ μ.1 5004 10 = nI (T 4 2)) ∧
  (rowN σ (tv d + 8) 0 (T 4 2) (T 9) ∧ rowN σ (tv d + 9) 0 (T 4 2) (fun m => 16 * T 10 m + 4 * T 11 m) ∧ rowN σ (tv d + 10) 0 (T 4 2) (T 12) ∧ rowN σ (tv d + 11) 0 (T 4 2) (T 13)) ∧
  (rowN μ 5009 5 (T 4 2) (T 9) ∧ rowN μ 5010 5 (T 4 2) (T 10) ∧ rowN μ 5011 5 (T 4 2) (T 11) ∧ rowN μ 5012 5 (T 4 2) (T 12) ∧ rowN μ 5013 5 (T 4 2) (T 13))
def D6 (d : Bool) (T : zT) (σ μ : zS) : Prop := (σ.1 (tv d) 11 = nI (T 4 3) ∧ μ.1 5004 11 = nI (T 4 3)) ∧
  (rowN σ (tv d + 13) 0 (T 4 3) (T 14) ∧ rowN σ (tv d + 14) 0 (T 4 3) (T 15) ∧ rowN σ (tv d + 15) 0 (T 4 3) (T 16) ∧ rowN σ (tv d + 16) 0 (T 4 3) (T 17)) ∧
  (rowN μ 5014 12 (T 4 3) (T 14) ∧ rowN μ 5015 12 (T 4 3) (T 15) ∧ rowN μ 5016 12 (T 4 3) (T 16) ∧ rowN μ 5017 12 (T 4 3) (T 17))
/-- the knots as rows of what is told -/
def TL (L : zK) : zT := fun a k => if a = 20 then (L.getD k (0, 0)).1 else (L.getD k (0, 0)).2
def D7 (d : Bool) (tb : Nat → Bool) (L : zK) (A B : Nat → Nat) (σ μ : zS) : Prop := LC d L.length L (wB σ 3 d) ∧ LM 0 L.length L μ ∧ L.length ≤ 64 ∧
  ∀ k, k < 3 → (tb (16 + k) = false → σ.1 (tl d + 5) k = -1 ∧ μ.1 5018 (3 + k) = 0 ∧ μ.1 5019 (3 + k) = 0) ∧
    (tb (16 + k) = true → σ.1 (tl d + 5) k = nI (A k) ∧ σ.1 (tl d + 6) k = nI (B k) ∧ μ.1 5018 (3 + k) = nI (A k) ∧ μ.1 5019 (3 + k) = nI (B k) ∧ A k < B k ∧ B k ≤ L.length ∧ okL (TL L) (B k - A k) (A k) 0)
def D8 (d : Bool) (T : zT) (σ μ : zS) : Prop := σ.1 (tv d) 5 = nI (T 4 4) ∧ μ.1 5004 12 = nI (T 4 4)
def D9 (d : Bool) (T : zT) (σ μ : zS) : Prop := σ.1 (tv d) 16 = nI (T 4 5) ∧ μ.1 5004 13 = nI (T 4 5)
def D10 (T : zT) (μ : zS) : Prop := μ.1 5004 14 = nI (T 4 6)
def D11 (n : Nat) (μ : zS) : Prop := μ.1 5000 22 = nI n
def JL (d : Bool) (f : Nat → Nat) (N r : Nat) (T : zT) (tb : Nat → Bool) (L : zK) (A B : Nat → Nat) (n : Nat) (σ μ : zS) : Prop :=
  JT f N r σ μ ∧ NF σ μ ∧ σ.2.2 1 = d ∧ okA T tb ∧ D2 tb σ μ ∧ D3 d T σ μ ∧ D4 d T σ μ ∧ D5 d T σ μ ∧ D6 d T σ μ ∧ D7 d tb L A B σ μ ∧ D8 d T σ μ ∧ D9 d T σ μ ∧ D10 T μ ∧ D11 n μ
section
variable {d : Bool} {f : Nat → Nat} {N r : Nat} {T : zT} {tb : Nat → Bool} {L : zK} {A B : Nat → Nat} {n : Nat} {Z Z' : List Nat} {σ σ' μ μ' : zS}
theorem tvd : tv d = 300 ∧ tl d = 1300 ∨ tv d = 400 ∧ tl d = 1400 := by cases d <;> simp [tv, tl]
theorem zc3 : zd d (tv d) 0 = 3 := by cases d <;> rfl
theorem zc41 : zd d (tv d) 1 = 4 := by cases d <;> rfl
theorem zc43 {p : Nat} : zd d (tv d + 3) p = 4 := by cases d <;> rfl
theorem zc44 {p : Nat} : zd d (tv d + 4) p = 4 := by cases d <;> rfl
theorem zc45 {p : Nat} : zd d (tv d + 5) p = 4 := by cases d <;> rfl
theorem zc56 : zd d (tv d) 6 = 5 := by cases d <;> rfl
theorem zc58 {p : Nat} : zd d (tv d + 8) p = 5 := by cases d <;> rfl
theorem zc59 {p : Nat} : zd d (tv d + 9) p = 5 := by cases d <;> rfl
theorem zc510 {p : Nat} : zd d (tv d + 10) p = 5 := by cases d <;> rfl
theorem zc511 {p : Nat} : zd d (tv d + 11) p = 5 := by cases d <;> rfl
theorem zc61 : zd d (tv d) 11 = 6 := by cases d <;> rfl
theorem zc613 {p : Nat} : zd d (tv d + 13) p = 6 := by cases d <;> rfl
theorem zc614 {p : Nat} : zd d (tv d + 14) p = 6 := by cases d <;> rfl
theorem zc615 {p : Nat} : zd d (tv d + 15) p = 6 := by cases d <;> rfl
theorem zc616 {p : Nat} : zd d (tv d + 16) p = 6 := by cases d <;> rfl
theorem zcb8 : zd d (tv d) 5 = 8 := by cases d <;> rfl
theorem zcf : zd d (tv d) 16 = 9 := by cases d <;> rfl
theorem zdm4 {i p : Nat} (h : 5005 ≤ i ∧ i ≤ 5008) (hp : 5 ≤ p) : zd d i p = 4 := by
  unfold zd
  rw [if_neg (by omega), if_neg (by omega), if_neg (by omega), if_neg (by omega), if_pos h, if_pos hp]
theorem zdm5 {i p : Nat} (h : 5009 ≤ i ∧ i ≤ 5013) (hp : 5 ≤ p) : zd d i p = 5 := by
  unfold zd
  rw [if_neg (by omega), if_neg (by omega), if_neg (by omega), if_neg (by omega), if_neg (by omega), if_pos h, if_pos hp]
theorem zdm6 {i p : Nat} (h : 5014 ≤ i ∧ i ≤ 5017) (hp : 12 ≤ p) : zd d i p = 6 := by
  unfold zd
  rw [if_neg (by omega), if_neg (by omega), if_neg (by omega), if_neg (by omega), if_neg (by omega), if_neg (by omega), if_pos h, if_pos hp]
theorem zdm7 {i p : Nat} (h : 5018 ≤ i ∧ i ≤ 5019) (hp : 3 ≤ p) : zd d i p = 13 := by
  unfold zd
  rw [if_neg (by omega), if_neg (by omega), if_neg (by omega), if_neg (by omega), if_neg (by omega), if_neg (by omega), if_neg (by omega), if_pos h, if_pos hp]
theorem zd13 {i p : Nat} (h : tl d + 5 ≤ i ∧ i ≤ tl d + 6) : zd d i p = 13 := by
  have td := tvd (d := d)
  unfold zd
  rw [if_neg (by omega), if_neg (by omega), if_neg (by omega), if_neg (by omega), if_neg (by omega), if_neg (by omega), if_neg (by omega), if_neg (by omega), if_neg (by omega), if_neg (by omega), if_neg (by omega), if_neg (by omega), if_neg (by omega), if_neg (by omega), if_pos h]
theorem D2.fr (h : D2 tb σ μ) (F : FD d Z σ σ') (G : FD d Z' μ μ') (hz : Z.elem 2 = false) (hz' : Z'.elem 2 = false) : D2 tb σ' μ' :=
  ⟨(G.z (z := 2) rfl hz').trans h.1, (F.z (z := 2) rfl hz).trans h.2.1, (F.z (z := 2) rfl hz).trans h.2.2.1, (F.z (z := 2) rfl hz).trans h.2.2.2⟩
theorem D3.fr (h : D3 d T σ μ) (F : FD d Z σ σ') (G : FD d Z' μ μ') (hz : Z.elem 3 = false) (hz' : Z'.elem 3 = false) : D3 d T σ' μ' :=
  ⟨(F.z zc3 hz).trans h.1, (G.z (z := 3) rfl hz').trans h.2⟩
theorem D4.fr (h : D4 d T σ μ) (F : FD d Z σ σ') (G : FD d Z' μ μ') (hz : Z.elem 4 = false) (hz' : Z'.elem 4 = false) : D4 d T σ' μ' := by
  obtain ⟨⟨a1, a2⟩, ⟨b1, b2, b3⟩, ⟨c1, c2, c3, c4⟩, e⟩ := h
  exact ⟨⟨(F.z zc41 hz).trans a1, (G.z (z := 4) rfl hz').trans a2⟩, ⟨b1.fd F (fun _ _ => zc43) hz, b2.fd F (fun _ _ => zc45) hz, b3.fd F (fun _ _ => zc44) hz⟩,
    ⟨c1.fd G (fun _ _ => zdm4 (by omega) (by omega)) hz', c2.fd G (fun _ _ => zdm4 (by omega) (by omega)) hz', c3.fd G (fun _ _ => zdm4 (by omega) (by omega)) hz', c4.fd G (fun _ _ => zdm4 (by omega) (by omega)) hz'⟩, e⟩
theorem D5.fr (h : D5 d T σ μ) (F : FD d Z σ σ') (G : FD d Z' μ μ') (hz : Z.elem 5 = false) (hz' : Z'.elem 5 = false) : D5 d T σ' μ' := by
  obtain ⟨⟨a1, a2⟩, ⟨b1, b2, b3, b4⟩, ⟨c1, c2, c3, c4, c5⟩⟩ := h
  exact ⟨⟨(F.z zc56 hz).trans a1, (G.z (z := 5) rfl hz').trans a2⟩, ⟨b1.fd F (fun _ _ => zc58) hz, b2.fd F (fun _ _ => zc59) hz, b3.fd F (fun _ _ => zc510) hz, b4.fd F (fun _ _ => zc511) hz⟩,
    ⟨c1.fd G (fun _ _ => zdm5 (by omega) (by omega)) hz', c2.fd G (fun _ _ => zdm5 (by omega) (by omega)) hz', c3.fd G (fun _ _ => zdm5 (by omega) (by omega)) hz', c4.fd G (fun _ _ => zdm5 (by omega) (by omega)) hz', c5.fd G (fun _ _ => zdm5 (by omega) (by omega)) hz'⟩⟩
theorem D6.fr (h : D6 d T σ μ) (F : FD d Z σ σ') (G : FD d Z' μ μ') (hz : Z.elem 6 = false) (hz' : Z'.elem 6 = false) : D6 d T σ' μ' := by
  obtain ⟨⟨a1, a2⟩, ⟨b1, b2, b3, b4⟩, ⟨c1, c2, c3, c4⟩⟩ := h
  exact ⟨⟨(F.z zc61 hz).trans a1, (G.z (z := 6) rfl hz').trans a2⟩, ⟨b1.fd F (fun _ _ => zc613) hz, b2.fd F (fun _ _ => zc614) hz, b3.fd F (fun _ _ => zc615) hz, b4.fd F (fun _ _ => zc616) hz⟩,
    ⟨c1.fd G (fun _ _ => zdm6 (by omega) (by omega)) hz', c2.fd G (fun _ _ => zdm6 (by omega) (by omega)) hz', c3.fd G (fun _ _ => zdm6 (by omega) (by omega)) hz', c4.fd G (fun _ _ => zdm6 (by omega) (by omega)) hz'⟩⟩
theorem FD.n3 (F : FD d Z σ σ') : FD d Z (wB σ 3 d) (wB σ' 3 d) := by
  refine ⟨?_, fun a k h => F.2 a k h⟩
  show (fun j => if j = 3 then d else σ'.2.2 j) = fun j => if j = 3 then d else σ.2.2 j
  rw [F.1]
theorem D7.fr (h : D7 d tb L A B σ μ) (F : FD d Z σ σ') (G : FD d Z' μ μ') (hz : Z.elem 7 = false) (hz' : Z'.elem 7 = false) (hy : Z.elem 13 = false) (hy' : Z'.elem 13 = false) : D7 d tb L A B σ' μ' := by
  obtain ⟨h1, h2, h3, h4⟩ := h
  refine ⟨h1.fr F.n3 hz, h2.fr G hz', h3, fun k hk => ?_⟩
  have e1 : σ'.1 (tl d + 5) k = σ.1 (tl d + 5) k := F.z (zd13 (by omega)) hy
  have e2 : σ'.1 (tl d + 6) k = σ.1 (tl d + 6) k := F.z (zd13 (by omega)) hy
  have e3 : μ'.1 5018 (3 + k) = μ.1 5018 (3 + k) := G.z (zdm7 (by omega) (by omega)) hy'
  have e4 : μ'.1 5019 (3 + k) = μ.1 5019 (3 + k) := G.z (zdm7 (by omega) (by omega)) hy'
  rw [e1, e2, e3, e4]
  exact h4 k hk
theorem D8.fr (h : D8 d T σ μ) (F : FD d Z σ σ') (G : FD d Z' μ μ') (hz : Z.elem 8 = false) (hz' : Z'.elem 8 = false) : D8 d T σ' μ' :=
  ⟨(F.z zcb8 hz).trans h.1, (G.z (z := 8) rfl hz').trans h.2⟩
theorem D9.fr (h : D9 d T σ μ) (F : FD d Z σ σ') (G : FD d Z' μ μ') (hz : Z.elem 9 = false) (hz' : Z'.elem 9 = false) : D9 d T σ' μ' :=
  ⟨(F.z zcf hz).trans h.1, (G.z (z := 9) rfl hz').trans h.2⟩
theorem D10.fr (h : D10 T μ) (G : FD d Z' μ μ') (hz' : Z'.elem 10 = false) : D10 T μ' := (G.z (z := 10) rfl hz').trans h
theorem D11.fr (h : D11 n μ) (G : FD d Z' μ μ') (hz' : Z'.elem 11 = false) : D11 n μ' := (G.z (z := 11) rfl hz').trans h
/-- all zones, the bit of the laws aside -/
def zAll : List Nat := [1, 2, 3, 4, 5, 6, 7, 8, 9, 10, 11, 12, 13]
def FA (d : Bool) (σ σ' : zS) : Prop := FD d zAll (wB σ 3 d) (wB σ' 3 d)
theorem FD.fa (F : FD d Z σ σ') (hz : Z.all (fun z => zAll.elem z) = true) : FA d σ σ' := (F.mono hz).n3
theorem FA.tr {σ'' : zS} (h : FA d σ σ') (h' : FA d σ' σ'') : FA d σ σ'' := FD.tr h h'
/-- what a line's body comes to -/
def BD (d : Bool) (f : Nat → Nat) (N r n : Nat) (x : Option (Int32 × zS)) (y : Option zS) (σ μ : zS) : Prop :=
  ∃ σ' μ', y = f_X12_line_353 μ' ∧ FA d σ σ' ∧ FD d zAll μ μ' ∧ ((x = some (0, σ') ∧ JX σ' μ') ∨ (x = some (1, σ') ∧ ∃ T tb L A B, JL d f N (r - 1) T tb L A B n σ' μ'))
theorem X_353 (h : ¬ μ.1 5000 28 = 0) : f_X12_line_353 μ = some μ := by unfold f_X12_line_353; rw [if_neg h]
theorem X_108 (h : ¬ μ.1 5000 28 = 0) (x : Int32) : f_X12_line_108 x μ = f_X12_line_353 μ := by rw [X_353 h]; unfold f_X12_line_108; rw [if_neg h]
/-- a fault at the line's first word -/
theorem BD.bad (h : JT f N r σ μ) (h0 : NF σ μ) {k : Int32} (hk : ¬ k = 0) (w : Int32) : BD d f N r n (b2 (f_X7_refuse k σ) fun v s => some (v, s)) ((f_X12_wrong k μ).bind fun m => f_X12_line_108 w m) σ μ := by
  obtain ⟨σ', μ', a1, a2, F, G, X⟩ := j_ref d h h0 hk
  rw [a1, a2, b2s, bs, X_108 X.1]
  exact ⟨σ', μ', rfl, F.fa rfl, G.mono rfl, .inl ⟨rfl, X⟩⟩
/-- the word is told, the next token -/
theorem j_begin (h : JT f N r σ μ) (h0 : NF σ μ) (hk : ¬ σ.1 500 4 = 0) {σa μa : zS} (Fa : FD d [2] σ σa) (Ga : FD d [2] μ μa) :
    ∃ σ1 μ1, f_X7_advance σa = some σ1 ∧ f_X12_token μa = some μ1 ∧ FD d [1, 2] σ σ1 ∧ FD d [1, 2] μ μ1 ∧ JT f N (r - 1) σ1 μ1 ∧ NF σ1 μ1 ∧ FD d [1] σa σ1 ∧ FD d [1] μa μ1 := by
  have hk' : ¬ σa.1 500 4 = 0 := by rw [Fa.z (i := 500) (k := 4) (z := 1) rfl rfl]; exact hk
  obtain ⟨σ1, μ1, a1, a2, F, G, J⟩ := j_adv1 (d := d) (h.fr Fa Ga rfl rfl rfl rfl) hk'
  exact ⟨σ1, μ1, a1, a2, (Fa.mono rfl).tr (F.mono rfl), (Ga.mono rfl).tr (G.mono rfl), J, (h0.fr Fa Ga rfl rfl).fr F G rfl rfl, F, G⟩
end
