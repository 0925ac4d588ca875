/-! The pure part: text. Signs, names, tokens of the reference -/
theorem sgn_chainM {α : Type} {c : Nat} (hc : c < 256) (A C : α) : (if nI c = 59 then A else if nI c = 40 then A else if nI c = 41 then A else if nI c = 43 then A else if nI c = 45 then A else if nI c = 42 then A else if nI c = 47 then A else if nI c = 60 then A else if nI c = 61 then A else if nI c = 62 then A else C) = if sgOk c then A else C := by
  simp only [eqK hc 40 (by omega), eqK hc 41 (by omega), eqK hc 42 (by omega), eqK hc 43 (by omega), eqK hc 45 (by omega), eqK hc 47 (by omega), eqK hc 59 (by omega), eqK hc 60 (by omega), eqK hc 61 (by omega), eqK hc 62 (by omega)]
  by_cases h : sgOk c = true
  · have : c = 40 ∨ c = 41 ∨ c = 42 ∨ c = 43 ∨ c = 45 ∨ c = 47 ∨ c = 59 ∨ c = 60 ∨ c = 61 ∨ c = 62 := by
      unfold sgOk at h; simpa using List.mem_of_elem_eq_true h
    rw [if_pos h]
    rcases this with rfl | rfl | rfl | rfl | rfl | rfl | rfl | rfl | rfl | rfl <;> rfl
  · have hn : ∀ k, sgOk k = true → c ≠ k := fun k hk z => h (z ▸ hk)
    rw [if_neg h, if_neg (hn 59 rfl), if_neg (hn 40 rfl), if_neg (hn 41 rfl), if_neg (hn 43 rfl), if_neg (hn 45 rfl), if_neg (hn 42 rfl), if_neg (hn 47 rfl), if_neg (hn 60 rfl), if_neg (hn 61 rfl), if_neg (hn 62 rfl)]
theorem hr_nx {f : Nat → Nat} {N q k : Nat} (hf : ∀ k, f k < 256) (hk : k < 256) : hrV f N (q + 1) = (OfNat.ofNat k : Int32) ↔ nxc f N q = k := by
  unfold hrV nxc
  by_cases h : q + 1 < N
  · rw [if_pos h, if_pos h]; exact eqK (hf _) k hk
  · rw [if_neg h, if_neg h]
    constructor
    · intro z
      exact absurd z.symm (nI_nm1 (by omega))
    · omega
theorem m_s150 (d : Bool) {f : Nat → Nat} {N q v : Nat} {σ : zS} (hv : v < 512) (h : MT f N (q + 1) σ) (h7 : σ.1 5000 27 = nI v) (hq : 256 ≤ v → q + 1 < N) :
    ∃ σ', f_X12_sign_150 σ = some σ' ∧ FD d [1] σ σ' ∧ MT f N (q + 1 + (if 256 ≤ v then 1 else 0)) σ' ∧ σ'.1 5000 27 = nI v ∧ σ'.1 5000 26 = σ.1 5000 26 ∧ σ'.1 5000 25 = σ.1 5000 25 := by
  unfold f_X12_sign_150
  rw [h7]
  by_cases hg : 256 ≤ v
  · rw [if_neg (show ¬ nI v < 256 from nI_nlt (b := 256) hg (by omega)), if_pos hg, lts, h.up]
    exact ⟨_, rfl, FD.rf.wI rfl, h.next (hq hg), h7, rfl, rfl⟩
  · rw [if_pos (show nI v < 256 from nI_lt (b := 256) (by omega) (by omega)), if_neg hg]
    exact ⟨σ, rfl, FD.rf, h, h7, rfl, rfl⟩
theorem m_s76 (d : Bool) {f : Nat → Nat} {N q c : Nat} {s : Int32} {σ : zS} (hc : c < 256) (h : MT f N (q + 1) σ) :
    ∃ σ', f_X12_sign_76 (nI c) s σ = some σ' ∧ FD d [1] σ σ' ∧ MT f N (q + 1 + sgN c (nxc f N q)) σ' ∧ σ'.1 5000 27 = nI (sgV c (nxc f N q)) ∧ σ'.1 5000 26 = s ∧ σ'.1 5000 25 = σ.1 5000 25 := by
  have hf := h.2.1
  unfold f_X12_sign_76
  rw [lts, lts]
  have h3 := (h.wr (k := 26) (v := s) (by omega)).wr (k := 27) (v := nI c) (by omega)
  have F : FD d [1] σ (wI (wI σ 5000 26 s) 5000 27 (nI c)) := (FD.rf.wI rfl).wI rfl
  have k7 : (wI (wI σ 5000 26 s) 5000 27 (nI c)).1 5000 27 = nI c := rfl
  have k6 : (wI (wI σ 5000 26 s) 5000 27 (nI c)).1 5000 26 = s := rfl
  have k5 : (wI (wI σ 5000 26 s) 5000 27 (nI c)).1 5000 25 = σ.1 5000 25 := rfl
  generalize wI (wI σ 5000 26 s) 5000 27 (nI c) = τ at h3 F k7 k6 k5
  have inN : ∀ k, k < 256 → nxc f N q = k → q + 1 < N := by
    intro k hk z
    unfold nxc at z
    by_cases hh : q + 1 < N
    · exact hh
    · rw [if_neg hh] at z; omega
  have fin : ∀ (v : Nat) (τ' : zS), v < 512 → sgV c (nxc f N q) = v → (256 ≤ v → q + 1 < N) → MT f N (q + 1) τ' → FD d [1] τ τ' → τ'.1 5000 27 = nI v → τ'.1 5000 26 = s → τ'.1 5000 25 = σ.1 5000 25 →
      ∃ σ', f_X12_sign_150 τ' = some σ' ∧ FD d [1] σ σ' ∧ MT f N (q + 1 + sgN c (nxc f N q)) σ' ∧ σ'.1 5000 27 = nI (sgV c (nxc f N q)) ∧ σ'.1 5000 26 = s ∧ σ'.1 5000 25 = σ.1 5000 25 := by
    intro v τ' hv hg hq hM F' a7 a6 a5
    obtain ⟨σ', e, F2, C, b7, b6, b5⟩ := m_s150 d hv hM a7 hq
    unfold sgN
    rw [hg]
    exact ⟨σ', e, (F.tr F').tr F2, C, b7, by rw [b6, a6], by rw [b5, a5]⟩
  have hup : ∀ (v : Nat), v < 512 → sgV c (nxc f N q) = v → (256 ≤ v → q + 1 < N) → ∃ σ', f_X12_sign_150 (wI τ 5000 27 (nI v)) = some σ' ∧ FD d [1] σ σ' ∧ MT f N (q + 1 + sgN c (nxc f N q)) σ' ∧ σ'.1 5000 27 = nI (sgV c (nxc f N q)) ∧ σ'.1 5000 26 = s ∧ σ'.1 5000 25 = σ.1 5000 25 :=
    fun v hv hg hq => fin v _ hv hg hq (h3.wr (by omega)) (FD.rf.wI rfl) rfl k6 k5
  unfold f_X12_sign_106 f_X12_sign_128
  by_cases c60 : c = 60
  · subst c60
    simp only [if_pos (show nI 60 = 60 from rfl), if_neg (show ¬ nI 60 = 62 by decide)]
    rw [m_here h3, bs]
    by_cases n61 : nxc f N q = 61
    · rw [if_pos ((hr_nx hf (k := 61) (by omega)).mpr n61), lts, m_here (h3.wr (by omega)), bs, if_neg (fun z => by have := (hr_nx hf (k := 62) (by omega)).mp z; omega)]
      exact hup 256 (by omega) (by rw [n61]; rfl) (fun _ => inN 61 (by omega) n61)
    · rw [if_neg (fun z => n61 ((hr_nx hf (k := 61) (by omega)).mp z)), bs]
      by_cases n62 : nxc f N q = 62
      · rw [if_pos ((hr_nx hf (k := 62) (by omega)).mpr n62), lts]
        exact hup 257 (by omega) (by rw [n62]; rfl) (fun _ => inN 62 (by omega) n62)
      · rw [if_neg (fun z => n62 ((hr_nx hf (k := 62) (by omega)).mp z))]
        exact fin 60 τ (by omega) (by unfold sgV; rw [if_neg (by omega), if_neg (by omega), if_neg (by omega)]) (by omega) h3 FD.rf k7 k6 k5
  · have n60 : ¬ nI c = 60 := fun z => c60 ((eqK hc 60 (by omega)).mp z)
    simp only [if_neg n60]
    by_cases c62 : c = 62
    · subst c62
      rw [if_pos (show nI 62 = 62 from rfl), m_here h3, bs]
      by_cases n61 : nxc f N q = 61
      · rw [if_pos ((hr_nx hf (k := 61) (by omega)).mpr n61), lts]
        exact hup 258 (by omega) (by rw [n61]; rfl) (fun _ => inN 61 (by omega) n61)
      · rw [if_neg (fun z => n61 ((hr_nx hf (k := 61) (by omega)).mp z))]
        exact fin 62 τ (by omega) (by unfold sgV; rw [if_neg (by omega), if_neg (by omega), if_neg (by omega)]) (by omega) h3 FD.rf k7 k6 k5
    · rw [if_neg (fun z => c62 ((eqK hc 62 (by omega)).mp z))]
      exact fin c τ (by omega) (by unfold sgV; rw [if_neg (by omega), if_neg (by omega), if_neg (by omega)]) (by omega) h3 FD.rf k7 k6 k5
theorem m_sign (d : Bool) {f : Nat → Nat} {N q : Nat} {σ : zS} (hq : q < N) (h : MT f N q σ) :
    ∃ σ', f_X12_sign (nI (f q)) σ = some σ' ∧ FD d [1] σ σ' ∧ MT f N (q + 1 + sgN (f q) (nxc f N q)) σ' ∧ σ'.1 5000 27 = nI (sgV (f q) (nxc f N q)) ∧ σ'.1 5000 26 = (if sgOk (f q) then 3 else 5) ∧ σ'.1 5000 25 = σ.1 5000 25 := by
  unfold f_X12_sign f_X12_sign_71
  rw [lts, h.up, sgn_chainM (h.2.1 q)]
  by_cases ho : sgOk (f q) = true
  · rw [if_pos ho, if_pos ho]
    obtain ⟨σ', e, F, C, a7, a6, a5⟩ := m_s76 d (s := 3) (h.2.1 q) (h.next hq)
    exact ⟨σ', e, (FD.rf.wI rfl).tr F, C, a7, a6, a5⟩
  · rw [if_neg ho, if_neg ho]
    obtain ⟨σ', e, F, C, a7, a6, a5⟩ := m_s76 d (s := 5) (h.2.1 q) (h.next hq)
    exact ⟨σ', e, (FD.rf.wI rfl).tr F, C, a7, a6, a5⟩
/-- names -/
theorem nI_shl5 {v : Nat} : nI v <<< ((5 : Int32) &&& 31) = nI (v * 32) := by
  rw [show ((5 : Int32) &&& 31) = 5 by decide]
  apply Int32.toBitVec_inj.mp
  rw [Int32.toBitVec_shiftLeft]
  apply BitVec.eq_of_toNat_eq
  simp [nI, Int32.toBitVec_ofNat, BitVec.toNat_shiftLeft, Nat.shiftLeft_eq]
theorem or32 {v x : Nat} (hx : x < 32) : v * 32 ||| x = v * 32 + x := by
  have := Nat.two_pow_add_eq_or_of_lt (i := 5) (b := x) (by omega) v
  rw [Nat.mul_comm v]; exact this.symm
theorem m_name7 (d : Bool) {f : Nat → Nat} {N p e : Nat} (hl : ∀ q, p ≤ q → q < e → tkL (f q) = true) : ∀ (j i fu : Nat) (σ : zS), i + j = 6 → j < fu → MT f N e σ → σ.1 5000 25 = nI p → p ≤ e → σ.1 5000 27 = nI (hx (wdg f p e) i) →
    ∃ σ', f_X12_name_7 fu (nI i) σ = some σ' ∧ FD d [1] σ σ' ∧ MT f N e σ' ∧ σ'.1 5000 27 = nI (hx (wdg f p e) 6) ∧ σ'.1 5000 26 = σ.1 5000 26 ∧ σ'.1 5000 25 = nI p
  | j, i, 0, σ, hj, hf, h, h5, hpe, h7 => by omega
  | 0, i, fu + 1, σ, hj, hf, h, h5, hpe, h7 => by
    obtain rfl : i = 6 := by omega
    unfold f_X12_name_7
    rw [if_pos (show (6 : Int32) ≤ nI 6 by decide)]
    exact ⟨σ, rfl, FD.rf, h, h7, rfl, h5⟩
  | j + 1, i, fu + 1, σ, hj, hf, h, h5, hpe, h7 => by
    have hN := h.1
    have heN := h.2.2.1
    have hw := wdg_lt hl i
    have hb := hx_lt (wdg_lt hl) i
    have hb2 : hx (wdg f p e) i < 2 ^ 25 := Nat.lt_of_lt_of_le hb (Nat.pow_le_pow_right (by omega) (by omega))
    have go : ∀ x : Int32, x = nI (wdg f p e i) → ∃ σ', f_X12_name_53 (f_X12_name_7 fu) (nI i) (nI (hx (wdg f p e) i) <<< ((5 : Int32) &&& 31)) x σ = some σ' ∧ FD d [1] σ σ' ∧ MT f N e σ' ∧ σ'.1 5000 27 = nI (hx (wdg f p e) 6) ∧ σ'.1 5000 26 = σ.1 5000 26 ∧ σ'.1 5000 25 = nI p := by
      intro x hx'
      unfold f_X12_name_53
      rw [hx', nI_shl5, nI_or (by omega) (by omega), or32 hw, lts, nI_1]
      obtain ⟨σ', e1, F, C, a7, a6, a5⟩ := m_name7 d hl j (i + 1) fu (wI σ 5000 27 (nI (hx (wdg f p e) i * 32 + wdg f p e i))) (by omega) (by omega) (h.wr (by omega)) h5 hpe rfl
      exact ⟨σ', e1, (FD.rf.wI rfl).tr F, C, a7, a6, a5⟩
    unfold f_X12_name_7
    rw [if_neg (show ¬ (6 : Int32) ≤ nI i from nI_ge (b := 6) (by omega) (by omega)), h.2.2.2.2.1, h5, nI_add, h7]
    by_cases hpi : e ≤ p + i
    · rw [if_pos (nI_le hpi (by omega))]
      exact go 0 (by unfold wdg; rw [if_neg (by omega)]; rfl)
    · rw [if_neg (nI_ge (by omega) (by omega)), h.rd (by omega), bs]
      have hs := let_sub (hl (p + i) (by omega) (by omega))
      refine go _ ?_
      unfold wdg
      rw [if_pos (by omega), show (97 : Int32) = nI 97 from rfl, nI_sub (by omega), nI_1]
      congr 1; omega
theorem m_name (d : Bool) {f : Nat → Nat} {N p e : Nat} {σ : zS} (hl : ∀ q, p ≤ q → q < e → tkL (f q) = true) (h : MT f N e σ) (h5 : σ.1 5000 25 = nI p) (hpe : p ≤ e) :
    ∃ σ', f_X12_name σ = some σ' ∧ FD d [1] σ σ' ∧ MT f N e σ' ∧ σ'.1 5000 27 = nI (hx (wdg f p e) 6) ∧ σ'.1 5000 26 = σ.1 5000 26 ∧ σ'.1 5000 25 = nI p := by
  unfold f_X12_name
  rw [lts]
  obtain ⟨σ', e1, F, C, a7, a6, a5⟩ := m_name7 d hl 6 0 FU (wI σ 5000 27 0) (by omega) (by unfold FU; omega) (h.wr (by omega)) h5 hpe rfl
  exact ⟨σ', e1, (FD.rf.wI rfl).tr F, C, a7, a6, a5⟩
/-- the end of a word -/
def MW (f : Nat → Nat) (p e : Nat) (σ : zS) : Prop := if fstM f p e 35 0 = -1 then (if e - p ≤ 6 then σ.1 5000 26 = 1 ∧ σ.1 5000 27 = nI (hx (wdg f p e) 6) else σ.1 5000 26 = 5) else σ.1 5000 26 = 0 ∧ σ.1 5000 27 = fstM f p e 35 0
theorem m_w64 (d : Bool) {f : Nat → Nat} {N p e : Nat} (he : e ≤ N) (hl : ∀ q, p ≤ q → q < e → tkL (f q) = true) (hE : e < N → tkL (f e) = false) : ∀ (j i fu : Nat) (σ : zS), p + i + j = e → j < fu → MT f N (p + i) σ → σ.1 5000 25 = nI p →
    ∃ σ', f_X12_token_64 fu σ = some σ' ∧ FD d [1] σ σ' ∧ MT f N e σ' ∧ MW f p e σ' ∧ σ'.1 5000 25 = nI p
  | j, i, 0, σ, hj, hf, h, h5 => by omega
  | 0, i, fu + 1, σ, hj, hf, h, h5 => by
    have hN := h.1
    rw [show p + i = e by omega] at h
    unfold f_X12_token_64
    have hs : f_X12_isSmall (hrV f N e) σ = 0 := by
      unfold hrV
      by_cases hh : e < N
      · rw [if_pos hh, m_isSm (h.2.1 e), hE hh]; rfl
      · rw [if_neg hh]; unfold f_X12_isSmall; decide
    rw [m_here h, bs, if_pos hs, m_word h h5 (by omega), bs, lts]
    have k7 : (wI σ 5000 27 (fstM f p e 35 0)).1 5000 27 = fstM f p e 35 0 := rfl
    have k4 : (wI σ 5000 27 (fstM f p e 35 0)).1 5000 24 = nI e := h.2.2.2.2.1
    have k5 : (wI σ 5000 27 (fstM f p e 35 0)).1 5000 25 = nI p := h5
    have F : FD d [1] σ (wI σ 5000 27 (fstM f p e 35 0)) := FD.rf.wI rfl
    have h' : MT f N e (wI σ 5000 27 (fstM f p e 35 0)) := h.wr (by omega)
    generalize wI σ 5000 27 (fstM f p e 35 0) = τ at k7 k4 k5 F h'
    rw [k7, k4, k5, nI_sub (by omega)]
    unfold MW f_X12_token_127
    by_cases hv : fstM f p e 35 0 = -1
    · rw [if_pos hv]
      simp only [if_pos hv]
      by_cases h6 : e - p ≤ 6
      · rw [if_pos (show nI (e - p) ≤ 6 from nI_le (b := 6) h6 (by omega)), lts, if_pos (show (wI τ 5000 26 1).1 5000 26 = 1 from rfl), bsome]
        obtain ⟨σ', e1, F2, C, a7, a6, a5⟩ := m_name d (σ := wI τ 5000 26 1) hl (h'.wr (by omega)) k5 (by omega)
        refine ⟨σ', e1, (F.wI rfl).tr F2, C, ?_, a5⟩
        rw [if_pos h6]
        exact ⟨a6, a7⟩
      · rw [if_neg (show ¬ nI (e - p) ≤ 6 from nI_ge (a := 6) (by omega) (by omega)), lts, if_neg (show ¬ (wI τ 5000 26 5).1 5000 26 = 1 by rw [wI_self]; decide)]
        refine ⟨_, rfl, F.wI rfl, h'.wr (by omega), ?_, k5⟩
        rw [if_neg h6]; rfl
    · rw [if_neg hv]
      simp only [if_neg hv]
      rw [lts, if_neg (show ¬ (wI τ 5000 26 0).1 5000 26 = 1 by rw [wI_self]; decide)]
      exact ⟨_, rfl, F.wI rfl, h'.wr (by omega), ⟨rfl, k7⟩, k5⟩
  | j + 1, i, fu + 1, σ, hj, hf, h, h5 => by
    have hp : p + i < N := by omega
    have hL := hl (p + i) (by omega) (by omega)
    unfold f_X12_token_64
    rw [m_here h, bs]
    unfold hrV
    rw [if_pos hp, m_isSm (h.2.1 _), hL, if_neg (show ¬ bI true = 0 by decide), lts, h.up]
    obtain ⟨σ', e1, F, C, a, a5⟩ := m_w64 d he hl hE j (i + 1) fu _ (by omega) (by omega) (h.next hp) h5
    exact ⟨σ', e1, (FD.rf.wI rfl).tr F, C, a, a5⟩
/-- the token at a place behind blanks -/
def MK (f : Nat → Nat) (N q : Nat) (σ : zS) : Prop :=
  if N ≤ q then σ.1 5000 26 = 4 else if tkL (f q) = true then MW f q (scn (fun k => tkL (f k)) (N - q) q) σ else if tkD (f q) = true then σ.1 5000 26 = 2 ∧ σ.1 5000 27 = nI (numM f (N - q) q 0) else σ.1 5000 27 = nI (sgV (f q) (nxc f N q)) ∧ σ.1 5000 26 = (if sgOk (f q) then 3 else 5)
theorem m_tail (d : Bool) {f : Nat → Nat} {N q : Nat} {σ : zS} (h : MT f N q σ) :
    ∃ σ', tokTail σ = some σ' ∧ FD d [1] σ σ' ∧ MT f N (tkN f N q) σ' ∧ MK f N q σ' ∧ σ'.1 5000 25 = nI q := by
  have hN := h.1
  have hqN := h.2.2.1
  unfold tokTail
  rw [lts]
  have h1 : MT f N q (wI σ 5000 25 (σ.1 5000 24)) := h.wr (by omega)
  have F : FD d [1] σ (wI σ 5000 25 (σ.1 5000 24)) := FD.rf.wI rfl
  have k5 : (wI σ 5000 25 (σ.1 5000 24)).1 5000 25 = nI q := h.2.2.2.2.1
  generalize wI σ 5000 25 (σ.1 5000 24) = τ at h1 F k5
  rw [m_here h1, bs]
  unfold MK tkN hrV
  by_cases hq : N ≤ q
  · rw [if_neg (show ¬ q < N by omega), if_pos rfl, if_pos hq, lts]
    exact ⟨_, rfl, F.wI rfl, h1.wr (by omega), by rw [if_pos hq]; rfl, k5⟩
  · have hp : q < N := by omega
    have hb := h.2.1 q
    rw [if_pos hp, if_neg (nI_nm1 (by omega)), m_isSm hb, if_neg hq]
    simp only [if_neg hq]
    cases eL : tkL (f q) with
    | true =>
      rw [if_neg (show ¬ bI true = 0 by decide), if_pos rfl]
      have sl := scn_le (fun k => tkL (f k)) (N - q) q
      obtain ⟨σ', e, F', C, a, a5⟩ := m_w64 d (f := f) (N := N) (p := q) (e := scn (fun k => tkL (f k)) (N - q) q) (by omega) (scn_in (fun k => tkL (f k)) (N - q) q) (fun hE => scn_end (fun k => tkL (f k)) (N - q) q (by omega)) (scn (fun k => tkL (f k)) (N - q) q - q) 0 FU τ (by omega) (by unfold FU; omega) h1 k5
      exact ⟨σ', e, F.tr F', C, by rw [if_pos rfl]; exact a, a5⟩
    | false =>
      rw [if_pos (show bI false = 0 from rfl), m_isDg hb, if_neg (show ¬ (false = true) by decide)]
      simp only [if_neg (show ¬ (false = true) by decide)]
      cases eD : tkD (f q) with
      | true =>
        rw [if_neg (show ¬ bI true = 0 by decide), if_pos rfl, lts, lts]
        obtain ⟨σ', e, F', C, a7, a6, a5⟩ := m_num d (f := f) (N := N) (N - q) q 0 FU (wI (wI τ 5000 26 2) 5000 27 0) (by omega) (by unfold FU; omega) (by omega) ((h1.wr (by omega)).wr (by omega)) rfl
        exact ⟨σ', e, ((F.wI rfl).wI rfl).tr F', C, by rw [if_pos rfl]; exact ⟨a6, a7⟩, by rw [a5]; exact k5⟩
      | false =>
        rw [if_pos (show bI false = 0 from rfl), bsome, if_neg (show ¬ (false = true) by decide)]
        obtain ⟨σ', e, F', C, a7, a6, a5⟩ := m_sign d hp h1
        exact ⟨σ', e, F.tr F', C, by rw [if_neg (show ¬ (false = true) by decide)]; exact ⟨a7, a6⟩, by rw [a5, k5]⟩
theorem m_tok (d : Bool) {f : Nat → Nat} {N p : Nat} {σ : zS} (h : MT f N p σ) :
    ∃ σ', f_X12_token σ = some σ' ∧ FD d [1] σ σ' ∧ MT f N (tkN f N (scn (fun k => tkS (f k)) (N - p) p)) σ' ∧ MK f N (scn (fun k => tkS (f k)) (N - p) p) σ' ∧ σ'.1 5000 25 = nI (scn (fun k => tkS (f k)) (N - p) p) := by
  have hN := h.1
  have hp := h.2.2.1
  unfold f_X12_token
  obtain ⟨σ1, e1, F1, C1⟩ := m_skip d (N - p) p FU σ (by omega) (by unfold FU; omega) h
  obtain ⟨σ2, e2, F2, C2, k2, a2⟩ := m_tail d C1
  exact ⟨σ2, e1.trans e2, F1.tr F2, C2, k2, a2⟩
