/-! The pure part: the class's walk through all states -/
theorem pgn : ∀ (m k : Nat) (f : Nat → Nat), (∀ i, i < k → f i < m) → (∀ i j, i < j → j < k → f i ≠ f j) → k ≤ m
  | 0, k, f, h1, h2 => by
    rcases Nat.eq_zero_or_pos k with h | h
    · omega
    · have := h1 0 h; omega
  | m + 1, k, f, h1, h2 => by
    by_cases hx : ∃ i, i < k ∧ f i = m
    · obtain ⟨i0, hi, e⟩ := hx
      have := pgn m (k - 1) (fun i => if i < i0 then f i else f (i + 1)) (fun i hi' => by
        try dsimp only
        split
        · have a := h1 i (by omega)
          have b := h2 i i0 (by assumption) hi
          omega
        · have a := h1 (i + 1) (by omega)
          have b := h2 i0 (i + 1) (by omega) (by omega)
          omega) (fun i j hij hj => by
        try dsimp only
        split
        · split
          · exact h2 i j hij (by omega)
          · exact h2 i (j + 1) (by omega) (by omega)
        · split
          · omega
          · exact h2 (i + 1) (j + 1) (by omega) (by omega))
      omega
    · have := pgn m k f (fun i hi => by
        have a := h1 i hi
        have b : f i ≠ m := fun z => hx ⟨i, hi, z⟩
        omega) h2
      omega
/-- the queue and its rows -/
def BF (n a : Nat) (σ : zS) (sz : Nat) (q : Nat → Nat) : Prop :=
  σ.1 1500 0 = nI sz ∧ 0 < sz ∧ q 0 = a ∧
  (∀ k, k < sz → q k < 16 * n ∧ σ.1 1502 k = nI (q k) ∧ σ.1 1503 (q k) = nI (dst a (q k)) ∧ (q k ≠ a → σ.1 1504 (q k) = nI (prv n a (q k)) ∧ σ.1 1505 (q k) = nI (lmv a (q k)))) ∧
  (∀ k l, k < l → l < sz → wrd a (q k) < wrd a (q l)) ∧
  (∀ s, s < 192 → (∀ k, k < sz → q k ≠ s) → σ.1 1503 s = -1)
def BL (n a : Nat) (sz i v : Nat) (q : Nat → Nat) : Prop :=
  (∀ k u t, (k < i ∧ u < 6 ∨ k = i ∧ u < v) → mvd n (q k) u = some t → ∃ l, l < sz ∧ q l = t) ∧
  (∀ l, l < sz → q l ≠ a → ∃ k, k < sz ∧ q k = prv n a (q l) ∧ (k < i ∨ k = i ∧ lmv a (q l) < v))
theorem bf_full {n a sz i v : Nat} {q : Nat → Nat} {σ : zS} (hn : n ≤ 12) (ha : a < 16 * n) (h : BF n a σ sz q) (hl : BL n a sz i v q) (hi : i < sz) : ∀ (m x : Nat), wrd a x < m → x < 16 * n → wrd a x < wrd a (q i) → ∃ k, k < i ∧ q k = x
  | 0, x, hm, hx, hw => by omega
  | m + 1, x, hm, hx, hw => by
    obtain ⟨b1, b0, bq, b2, b3, b4⟩ := h
    by_cases e : x = a
    · subst e
      refine ⟨0, ?_, bq⟩
      rcases Nat.eq_zero_or_pos i with z | z
      · rw [z, bq] at hw; omega
      · exact z
    · obtain ⟨p1, p2, p3, p4, p5⟩ := prv_is hn ha hx e
      obtain ⟨k, hk, ek⟩ := bf_full hn ha ⟨b1, b0, bq, b2, b3, b4⟩ hl hi m (prv n a x) (by omega) p2 (by omega)
      rw [← ek] at p3
      obtain ⟨l, hl1, hl2⟩ := hl.1 k (lmv a x) x (.inl ⟨hk, lmv_lt⟩) p3
      refine ⟨l, ?_, hl2⟩
      rcases Nat.lt_or_ge l i with z | z
      · exact z
      · exfalso
        rcases Nat.lt_or_ge i l with z2 | z2
        · have := b3 i l z2 hl1
          rw [hl2] at this; omega
        · have : l = i := by omega
          rw [← this, hl2] at hw; omega
theorem bf_nodup {n a sz : Nat} {q : Nat → Nat} {σ : zS} (h : BF n a σ sz q) : ∀ i j, i < j → j < sz → q i ≠ q j := by
  intro i j hij hj z
  have := h.2.2.2.2.1 i j hij hj
  rw [z] at this; omega
theorem oI_neg : oI none < 0 := by decide
theorem bf_step {b : Bool} {n a sz i v : Nat} {q : Nat → Nat} {σ : zS} (hn : n ≤ 12) (ha : a < 16 * n) (hb : BF n a σ sz q) (hl : BL n a sz i v q) (hi : i < sz) (hv : v < 6) :
    ∃ σ' sz' q', f_X10_reachState (oI (mvd n (q i) v)) (nI (q i)) (nI v) σ = some σ' ∧ Fc b [13] σ σ' ∧ BF n a σ' sz' q' ∧ BL n a sz' i (v + 1) q' ∧ i < sz' ∧ q' i = q i ∧ sz' ≤ 16 * n := by
  have szN : sz ≤ 16 * n := pgn (16 * n) sz q (fun k hk => (hb.2.2.2.1 k hk).1) (bf_nodup hb)
  obtain ⟨b1, b0, bq, b2, b3, b4⟩ := hb
  have qi := b2 i hi
  have stay : (∀ t, mvd n (q i) v = some t → ∃ l, l < sz ∧ q l = t) → BL n a sz i (v + 1) q := by
    intro hs
    refine ⟨fun k u t hku hm => ?_, fun l hl1 hl2 => ?_⟩
    · by_cases e : k = i ∧ u = v
      · obtain ⟨rfl, rfl⟩ := e; exact hs t hm
      · exact hl.1 k u t (by omega) hm
    · obtain ⟨k, k1, k2, k3⟩ := hl.2 l hl1 hl2
      exact ⟨k, k1, k2, by omega⟩
  unfold f_X10_reachState
  cases em : mvd n (q i) v with
  | none =>
    rw [if_pos oI_neg]
    exact ⟨σ, sz, q, rfl, Fc.rf, ⟨b1, b0, bq, b2, b3, b4⟩, stay (fun t ht => by rw [em] at ht; cases ht), hi, rfl, szN⟩
  | some t =>
    have ht := mvd_lt qi.1 em
    rw [show oI (some t) = nI t from rfl, if_neg (nI_pos (by omega)), if_neg (show ¬ (192 : Int32) ≤ nI t from nI_ge (b := 192) (by omega) (by omega)), rd_nI (by omega) (by omega), bs]
    by_cases hx : ∃ l, l < sz ∧ q l = t
    · obtain ⟨l, hl1, hl2⟩ := hx
      have e3 := (b2 l hl1).2.2.1
      rw [hl2] at e3
      have df := dst_facts (show a < 192 by omega) (show t < 192 by omega)
      rw [e3, if_neg (nI_nm1 (by omega))]
      exact ⟨σ, sz, q, rfl, Fc.rf, ⟨b1, b0, bq, b2, b3, b4⟩, stay (fun t' ht' => by rw [em] at ht'; cases ht'; exact ⟨l, hl1, hl2⟩), hi, rfl, szN⟩
    · have nq : ∀ k, k < sz → q k ≠ t := fun k hk z => hx ⟨k, hk, z⟩
      have ta : t ≠ a := fun z => nq 0 b0 (bq.trans z.symm)
      obtain ⟨p1, p2, p3, p4, p5⟩ := prv_is hn ha ht ta
      have ed := edge hn ha qi.1 hv em
      -- the state before t is the head, its last move is v
      have pe : prv n a t = q i := by
        rcases Nat.lt_or_ge (wrd a (prv n a t)) (wrd a (q i)) with z | z
        · exfalso
          obtain ⟨k, hk, ek⟩ := bf_full hn ha ⟨b1, b0, bq, b2, b3, b4⟩ hl hi _ (prv n a t) (Nat.lt_succ_self _) p2 z
          rw [← ek] at p3
          exact hx (hl.1 k (lmv a t) t (.inl ⟨hk, lmv_lt⟩) p3)
        · exact wrd_inj (show a < 192 by omega) (show prv n a t < 192 by omega) (show q i < 192 by omega) (by omega)
      have lv : lmv a t = v := by
        have l6 := lmv_lt (a := a) (s := t)
        rw [pe] at p4
        have le : lmv a t ≤ v := by omega
        rcases Nat.lt_or_ge (lmv a t) v with z | z
        · exfalso
          rw [pe] at p3
          exact hx (hl.1 i (lmv a t) t (.inr ⟨rfl, z⟩) p3)
        · omega
      have kt : wrd a t = 7 * wrd a (q i) + v + 1 := by rw [p4, pe, lv]
      have big : ∀ l, l < sz → wrd a (q l) < wrd a t := by
        intro l hl1
        by_cases e : q l = a
        · rw [e, wrd_self]; omega
        · obtain ⟨k, k1, k2, k3⟩ := hl.2 l hl1 e
          obtain ⟨-, -, -, r4, -⟩ := prv_is hn ha (b2 l hl1).1 e
          have l6 := lmv_lt (a := a) (s := q l)
          rw [r4, ← k2, kt]
          rcases k3 with z | ⟨z, z2⟩
          · have := b3 k i z hi; omega
          · rw [z]; omega
      have dt : dst a t = dst a (q i) + 1 := by rw [p5, pe]
      have df := dst_facts (show a < 192 by omega) (show q i < 192 by omega)
      have e1 := b4 t (by omega) nq
      have q'n : ∀ k l, k < l → l < sz + 1 → (if k = sz then t else q k) ≠ (if l = sz then t else q l) := by
        intro k l hkl hl'
        rw [if_neg (show ¬ k = sz by omega)]
        by_cases e : l = sz
        · rw [if_pos e]; exact nq k (by omega)
        · rw [if_neg e]
          intro z
          have := b3 k l hkl (by omega)
          rw [z] at this; omega
      have sz1 : sz + 1 ≤ 16 * n := pgn (16 * n) (sz + 1) (fun k => if k = sz then t else q k) (fun k hk => by
        try dsimp only
        split
        · exact ht
        · exact (b2 k (by omega)).1) q'n
      rw [e1, if_pos rfl, b1, if_pos (show nI sz < (192 : Int32) from nI_lt (b := 192) (by omega) (by omega)), if_neg (nI_nm1 (by omega)), rd_nI (by omega) (by omega), bs, qi.2.2.1, nI_1, ← dt]
      unfold f_X10_reachState_54
      have s0 : ∀ σ' : zS, σ'.1 1500 0 = nI sz → wrI σ' 1502 192 (σ'.1 1500 0) (nI t) = some (wI σ' 1502 sz (nI t)) := fun σ' h' => by rw [h', wr_nI (by omega) (by omega)]
      rw [wr_nI (by omega) (by omega), bs, wr_nI (by omega) (by omega), bs, wr_nI (by omega) (by omega), bs, s0 _ (by simp only [wI_at]; rw [if_neg (by omega), if_neg (by omega), if_neg (by omega)]; exact b1), bs, lts]
      have gz : (wI (wI (wI (wI σ 1503 t (nI (dst a t))) 1504 t (nI (q i))) 1505 t (nI v)) 1502 sz (nI t)).1 1500 0 = nI sz := by
        simp only [wI_at]; rw [if_neg (by omega), if_neg (by omega), if_neg (by omega), if_neg (by omega)]; exact b1
      rw [gz, nI_1]
      have z13 : ∀ j k, j < 6 → List.elem (zc b (1500 + j) k) [13] = true := by
        intro j k hj
        have h1 : tv b = 300 ∨ tv b = 400 := by cases b <;> simp [tv]
        have h2 : tl b = 1300 ∨ tl b = 1400 := by cases b <;> simp [tl]
        have : zc b (1500 + j) k = 13 := by
          unfold zc
          rw [if_neg (by omega), if_neg (by omega), if_neg (by omega), if_neg (by omega), if_neg (by omega), if_neg (by omega), if_neg (by omega), if_neg (by omega), if_neg (by omega), if_neg (by omega), if_neg (by omega), if_neg (by omega), if_neg (by omega), if_neg (by omega), if_neg (by omega), if_pos (by omega)]
        rw [this]; rfl
      refine ⟨wI (wI (wI (wI (wI σ 1503 t (nI (dst a t))) 1504 t (nI (q i))) 1505 t (nI v)) 1502 sz (nI t)) 1500 0 (nI (sz + 1)), sz + 1, fun k => if k = sz then t else q k, rfl, ?_, ?_, ?_, by omega, ?_, sz1⟩
      · exact ((((Fc.rf.wI (z13 3 _ (by omega))).wI (z13 4 _ (by omega))).wI (z13 5 _ (by omega))).wI (z13 2 _ (by omega))).wI (z13 0 _ (by omega))
      · refine ⟨wI_self _ _ _ _, by omega, ?_, fun k hk => ?_, fun k l hkl hl' => ?_, fun s hs hsq => ?_⟩
        · show (if 0 = sz then t else q 0) = a
          rw [if_neg (by omega)]; exact bq
        · try dsimp only
          by_cases e : k = sz
          · rw [if_pos e]
            refine ⟨ht, ?_, ?_, fun _ => ⟨?_, ?_⟩⟩
            · simp [wI_at, e]
            · simp [wI_at]
            · rw [pe]; simp [wI_at]
            · rw [lv]; simp [wI_at]
          · rw [if_neg e]
            have o := b2 k (by omega)
            have nt := nq k (by omega)
            simp only [wI_at]
            refine ⟨o.1, ?_, ?_, fun hne => ⟨?_, ?_⟩⟩
            · rw [if_neg (by omega), if_neg (by omega), if_neg (by omega), if_neg (by omega), if_neg (by omega)]; exact o.2.1
            · rw [if_neg (by omega), if_neg (by omega), if_neg (by omega), if_neg (by omega), if_neg (by omega)]; exact o.2.2.1
            · rw [if_neg (by omega), if_neg (by omega), if_neg (by omega), if_neg (by omega), if_neg (by omega)]; exact (o.2.2.2 hne).1
            · rw [if_neg (by omega), if_neg (by omega), if_neg (by omega), if_neg (by omega), if_neg (by omega)]; exact (o.2.2.2 hne).2
        · try dsimp only
          rw [if_neg (show ¬ k = sz by omega)]
          by_cases e : l = sz
          · rw [if_pos e]; exact big k (by omega)
          · rw [if_neg e]; exact b3 k l hkl (by omega)
        · have st : s ≠ t := by
            have := hsq sz (by omega)
            have e : (if sz = sz then t else q sz) = t := if_pos rfl
            exact fun z => this (e.trans z.symm)
          simp only [wI_at]
          rw [if_neg (by omega), if_neg (by omega), if_neg (by omega), if_neg (by omega), if_neg (by omega)]
          refine b4 s hs (fun k hk => ?_)
          have := hsq k (by omega)
          have e : (if k = sz then t else q k) = q k := if_neg (by omega)
          exact fun z => this (e.trans z)
      · have up : ∀ y, (∃ l, l < sz ∧ q l = y) → ∃ l, l < sz + 1 ∧ (if l = sz then t else q l) = y := by
          rintro y ⟨l, h1, h2⟩
          exact ⟨l, by omega, by rw [if_neg (by omega)]; exact h2⟩
        refine ⟨fun k u y hku hm => ?_, fun l hl1 hl2 => ?_⟩
        · try dsimp only at hm ⊢
          rw [if_neg (show ¬ k = sz by omega)] at hm
          by_cases e : k = i ∧ u = v
          · obtain ⟨rfl, rfl⟩ := e
            rw [em] at hm; cases hm
            exact ⟨sz, by omega, if_pos rfl⟩
          · exact up y (hl.1 k u y (by omega) hm)
        · try dsimp only at hl2 ⊢
          by_cases e : l = sz
          · rw [if_pos e]
            exact ⟨i, by omega, by rw [if_neg (by omega)]; exact pe.symm, .inr ⟨rfl, by omega⟩⟩
          · rw [if_neg e] at hl2 ⊢
            obtain ⟨k, k1, k2, k3⟩ := hl.2 l (by omega) hl2
            exact ⟨k, by omega, by rw [if_neg (by omega)]; exact k2, by omega⟩
      · exact if_neg (by omega)
theorem c_exI {b : Bool} {n a i : Nat} (r22 : Int32 → Int32 → zS → Option zS) (hn : n ≤ 12) (ha : a < 16 * n) : ∀ (j v fu sz : Nat) (q : Nat → Nat) (σ : zS), v + j = 6 → j < fu → BF n a σ sz q → BL n a sz i v q → i < sz → sz ≤ 16 * n →
    ∃ σ' sz' q', f_X10_explore_48 r22 fu (nI n) (nI i) (nI (q i)) (nI v) σ = r22 (nI n) (nI (i + 1)) σ' ∧ Fc b [13] σ σ' ∧ BF n a σ' sz' q' ∧ BL n a sz' i 6 q' ∧ i < sz' ∧ sz' ≤ 16 * n
  | j, v, 0, sz, q, σ, hj, hf, hb, hl, hi, hs => by omega
  | 0, v, fu + 1, sz, q, σ, hj, hf, hb, hl, hi, hs => by
    unfold f_X10_explore_48
    rw [if_pos (show (6 : Int32) ≤ nI v from nI_le (a := 6) (by omega) (by omega)), nI_1]
    rw [show v = 6 by omega] at hl
    exact ⟨σ, sz, q, rfl, Fc.rf, hb, hl, hi, hs⟩
  | j + 1, v, fu + 1, sz, q, σ, hj, hf, hb, hl, hi, hs => by
    unfold f_X10_explore_48
    have qi := (hb.2.2.2.1 i hi).1
    obtain ⟨σ1, sz1, q1, e1, f1, b1, l1, i1, qe, s1⟩ := bf_step (b := b) hn ha hb hl hi (show v < 6 by omega)
    rw [if_neg (show ¬ (6 : Int32) ≤ nI v from nI_ge (b := 6) (by omega) (by omega)), c_moved (by omega) qi (by omega), e1, bs, nI_1]
    obtain ⟨σ2, sz2, q2, e2, f2, b2, l2, i2, s2⟩ := c_exI (b := b) r22 hn ha j (v + 1) fu sz1 q1 σ1 (by omega) (by omega) b1 l1 i1 s1
    rw [qe] at e2
    exact ⟨σ2, sz2, q2, e2, f1.tr f2, b2, l2, i2, s2⟩
theorem BL.next {n a sz i : Nat} {q : Nat → Nat} (h : BL n a sz i 6 q) : BL n a sz (i + 1) 0 q := by
  refine ⟨fun k u t hku hm => h.1 k u t (by omega) hm, fun l h1 h2 => ?_⟩
  obtain ⟨k, k1, k2, k3⟩ := h.2 l h1 h2
  exact ⟨k, k1, k2, by omega⟩
/-- all states are reached -/
def BA (n a : Nat) (σ : zS) (sz : Nat) (q : Nat → Nat) : Prop := BF n a σ sz q ∧ (∀ x, x < 16 * n → ∃ k, k < sz ∧ q k = x) ∧ sz ≤ 16 * n
theorem c_exL {b : Bool} {n a : Nat} (hn : n ≤ 12) (ha : a < 16 * n) : ∀ (fu i sz : Nat) (q : Nat → Nat) (σ : zS), 200 < i + fu → BF n a σ sz q → BL n a sz i 0 q → i ≤ sz → sz ≤ 16 * n →
    ∃ σ' sz' q', f_X10_explore_22 fu (nI n) (nI i) σ = some σ' ∧ Fc b [13] σ σ' ∧ BA n a σ' sz' q'
  | 0, i, sz, q, σ, hf, hb, hl, hi, hs => by omega
  | fu + 1, i, sz, q, σ, hf, hb, hl, hi, hs => by
    unfold f_X10_explore_22
    rw [hb.1]
    by_cases hlt : i < sz
    · rw [if_neg (nI_ge hlt (by omega)), if_neg (show ¬ (192 : Int32) ≤ nI i from nI_ge (b := 192) (by omega) (by omega)), rd_nI (by omega) (by omega), bs, (hb.2.2.2.1 i hlt).2.1]
      obtain ⟨σ1, sz1, q1, e1, f1, b1, l1, i1, s1⟩ := c_exI (b := b) (f_X10_explore_22 fu) hn ha 6 0 FU sz q σ (by omega) (by unfold FU; omega) hb hl hlt hs
      replace e1 : f_X10_explore_48 (f_X10_explore_22 fu) FU (nI n) (nI i) (nI (q i)) 0 σ = _ := e1
      rw [e1]
      obtain ⟨σ2, sz2, q2, e2, f2, b2⟩ := c_exL (b := b) hn ha fu (i + 1) sz1 q1 σ1 (by omega) b1 l1.next (by omega) s1
      exact ⟨σ2, sz2, q2, e2, f1.tr f2, b2⟩
    · have : i = sz := by omega
      subst this
      rw [if_pos (nI_le (by omega) (by omega))]
      refine ⟨σ, i, q, rfl, Fc.rf, hb, ?_, hs⟩
      have all : ∀ m x, wrd a x < m → x < 16 * n → ∃ k, k < i ∧ q k = x := by
        intro m
        induction m with
        | zero => intro x hm; omega
        | succ m ih =>
          intro x hm hx
          by_cases e : x = a
          · exact ⟨0, hb.2.1, hb.2.2.1.trans e.symm⟩
          · obtain ⟨p1, p2, p3, p4, p5⟩ := prv_is hn ha hx e
            obtain ⟨k, hk, ek⟩ := ih (prv n a x) (by omega) p2
            rw [← ek] at p3
            exact hl.1 k (lmv a x) x (.inl ⟨hk, lmv_lt⟩) p3
      exact fun x hx => all _ x (Nat.lt_succ_self _) hx
theorem c_explore {b : Bool} {n a : Nat} {σ : zS} (hn : n ≤ 12) (ha : a < 16 * n) :
    ∃ σ' sz q, f_X10_explore (nI a) (nI n) σ = some σ' ∧ Fc b [13] σ σ' ∧ BA n a σ' sz q := by
  unfold f_X10_explore
  have z13 : ∀ j k, j = 0 ∨ j = 2 ∨ j = 3 ∨ j = 4 ∨ j = 5 → List.elem (zc b (1500 + j) k) [13] = true := by
    rintro j k (rfl | rfl | rfl | rfl | rfl) <;> cases b <;> rfl
  rw [fi_eq 1503 192 (-1) (by omega), bs, lts]
  have g3 : ∀ s, s < 192 → (wI (wA σ 1503 (fun j => if j < 192 then -1 else σ.1 1503 j)) 1500 0 0).1 1503 s = -1 := by
    intro s hs
    rw [wI_at, if_neg (by omega), wA_at, if_pos rfl, if_pos hs]
  have e0 : f_X10_reachState (nI a) (-1) (-1) (wI (wA σ 1503 (fun j => if j < 192 then -1 else σ.1 1503 j)) 1500 0 0) = some (wI (wI (wI (wI (wI (wI (wA σ 1503 (fun j => if j < 192 then -1 else σ.1 1503 j)) 1500 0 0) 1503 a 0) 1504 a (-1)) 1505 a (-1)) 1502 0 (nI a)) 1500 0 1) := by
    unfold f_X10_reachState f_X10_reachState_54
    rw [if_neg (nI_pos (by omega)), if_neg (show ¬ (192 : Int32) ≤ nI a from nI_ge (b := 192) (by omega) (by omega)), rd_nI (by omega) (by omega), bs, g3 a (by omega), if_pos rfl, wI_self, if_pos (by decide), if_pos rfl, wr_nI (by omega) (by omega), bs, wr_nI (by omega) (by omega), bs, wr_nI (by omega) (by omega), bs]
    have z : (wI (wI (wI (wI (wA σ 1503 (fun j => if j < 192 then -1 else σ.1 1503 j)) 1500 0 0) 1503 a 0) 1504 a (-1)) 1505 a (-1)).1 1500 0 = 0 := by
      simp only [wI_at]; rw [if_neg (by omega), if_neg (by omega), if_neg (by omega)]; simp
    rw [z, wr_lit (by decide) (by decide), bs, lts]
    have z2 : (wI (wI (wI (wI (wI (wA σ 1503 (fun j => if j < 192 then -1 else σ.1 1503 j)) 1500 0 0) 1503 a 0) 1504 a (-1)) 1505 a (-1)) 1502 0 (nI a)).1 1500 0 = 0 := by
      rw [wI_at, if_neg (by omega)]; exact z
    rw [z2]; rfl
  rw [e0, bs]
  have F0 : Fc b [13] σ (wI (wI (wI (wI (wI (wI (wA σ 1503 (fun j => if j < 192 then -1 else σ.1 1503 j)) 1500 0 0) 1503 a 0) 1504 a (-1)) 1505 a (-1)) 1502 0 (nI a)) 1500 0 1) :=
    ((((((Fc.rf.wA (fun k => z13 3 k (by omega))).wI (z13 0 _ (by omega))).wI (z13 3 _ (by omega))).wI (z13 4 _ (by omega))).wI (z13 5 _ (by omega))).wI (z13 2 _ (by omega))).wI (z13 0 _ (by omega))
  obtain ⟨σ2, sz2, q2, e2, f2, b2⟩ := c_exL (b := b) hn ha FU 0 1 (fun _ => a) _ (by unfold FU; omega) (show BF n a (wI (wI (wI (wI (wI (wI (wA σ 1503 (fun j => if j < 192 then -1 else σ.1 1503 j)) 1500 0 0) 1503 a 0) 1504 a (-1)) 1505 a (-1)) 1502 0 (nI a)) 1500 0 1) 1 (fun _ => a) from ⟨rfl, by omega, rfl, fun k hk => by
      have : k = 0 := by omega
      subst this
      refine ⟨ha, by simp [wI_at], ?_, fun z => absurd rfl z⟩
      rw [dst_self]
      simp only [wI_at]
      rw [if_neg (by omega), if_neg (by omega), if_neg (by omega), if_neg (by omega), if_pos (by simp)]
      rfl, fun k l h1 h2 => by omega, fun s hs hq => by
      have sa : s ≠ a := fun z => hq 0 (by omega) z.symm
      simp only [wI_at]
      rw [if_neg (by omega), if_neg (by omega), if_neg (by omega), if_neg (by omega), if_neg (by omega), if_neg (by omega), wA_at, if_pos rfl, if_pos hs]⟩) ⟨fun k u t h1 h2 => by omega, fun l h1 h2 => absurd rfl h2⟩ (by omega) (by omega)
  exact ⟨σ2, sz2, q2, e2, F0.tr f2, b2⟩
