/-! The pure part: who could it be, by the class -/
theorem set_f : nI (setN (fun _ => false) 16) = 0 := by decide +kernel
theorem mvb {c i : Nat} (hi : i < 16) (n : Nat) : mvd n (16 * c + i) 0 = some (16 * c + (i + 4) % 16) ∧ mvd n (16 * c + i) 1 = some (16 * c + (i + 12) % 16) ∧ mvd n (16 * c + i) 2 = some (16 * c + (if i % 4 < 2 then i + 2 else i - 2)) ∧ mvd n (16 * c + i) 3 = some (16 * c + (if i % 2 < 1 then i + 1 else i - 1)) ∧ mvd n (16 * c + i) 4 = (if c = 0 then none else some (16 * (c - 1) + i)) ∧ mvd n (16 * c + i) 5 = (if c + 1 < n then some (16 * (c + 1) + i) else none) := by
  have d : (16 * c + i) / 16 = c := by omega
  refine ⟨?_, ?_, ?_, ?_, ?_, ?_⟩
  · show some (fcg (16 * c + i) (((16 * c + i) / 4 % 4 + 1) % 4)) = _
    congr 1; unfold fcg; omega
  · show some (fcg (16 * c + i) (((16 * c + i) / 4 % 4 + 3) % 4)) = _
    congr 1; unfold fcg; omega
  · show some (if (16 * c + i) / 2 % 2 = 0 then 16 * c + i + 2 else 16 * c + i - 2) = _
    congr 1
    split <;> split <;> omega
  · show some (if (16 * c + i) % 2 = 0 then 16 * c + i + 1 else 16 * c + i - 1) = _
    congr 1
    split <;> split <;> omega
  · show (if 16 * c + i < 16 then none else some (16 * c + i - 16)) = _
    by_cases h : c = 0
    · rw [if_pos h, if_pos (by omega)]
    · rw [if_neg h, if_neg (by omega)]; congr 1; omega
  · show (if (16 * c + i) / 16 + 1 < n then some (16 * c + i + 16) else none) = _
    rw [d]
    by_cases h : c + 1 < n
    · rw [if_pos h, if_pos h]; congr 1; omega
    · rw [if_neg h, if_neg h]
theorem goS_b {n c i : Nat} {M : Nat → Bool} (hi : i < 16) : goS n M (16 * c + i) = (M (16 * c + i) || (M (16 * c + (i + 4) % 16) || M (16 * c + (i + 12) % 16)) || M (16 * c + (if i % 4 < 2 then i + 2 else i - 2)) || M (16 * c + (if i % 2 < 1 then i + 1 else i - 1)) || (if c = 0 then false else M (16 * (c - 1) + i)) || (if c + 1 < n then M (16 * (c + 1) + i) else false)) := by
  obtain ⟨h0, h1, h2, h3, h4, h5⟩ := mvb (c := c) hi n
  unfold goS
  show (M (16 * c + i) || (goV n M (16 * c + i) 0 || (goV n M (16 * c + i) 1 || (goV n M (16 * c + i) 2 || (goV n M (16 * c + i) 3 || (goV n M (16 * c + i) 4 || (goV n M (16 * c + i) 5 || false))))))) = _
  have e0 : goV n M (16 * c + i) 0 = M (16 * c + (i + 4) % 16) := by unfold goV; rw [h0]
  have e1 : goV n M (16 * c + i) 1 = M (16 * c + (i + 12) % 16) := by unfold goV; rw [h1]
  have e2 : goV n M (16 * c + i) 2 = M (16 * c + (if i % 4 < 2 then i + 2 else i - 2)) := by unfold goV; rw [h2]
  have e3 : goV n M (16 * c + i) 3 = M (16 * c + (if i % 2 < 1 then i + 1 else i - 1)) := by unfold goV; rw [h3]
  have e4 : goV n M (16 * c + i) 4 = (if c = 0 then false else M (16 * (c - 1) + i)) := by
    unfold goV
    by_cases a : c = 0
    · rw [if_pos a] at h4 ⊢; rw [h4]
    · rw [if_neg a] at h4 ⊢; rw [h4]
  have e5 : goV n M (16 * c + i) 5 = (if c + 1 < n then M (16 * (c + 1) + i) else false) := by
    unfold goV
    by_cases a : c + 1 < n
    · rw [if_pos a] at h5 ⊢; rw [h5]
    · rw [if_neg a] at h5 ⊢; rw [h5]
  rw [e0, e1, e2, e3, e4, e5, Bool.or_false]
  simp only [Bool.or_assoc]
def stC (σ : zS) (n : Nat) (M : Nat → Bool) : Prop := ∀ c, c < n → σ.1 1208 c = nI (setN (fun i => M (16 * c + i)) 16)
theorem c_sprL {b : Bool} {n : Nat} {M : Nat → Bool} (hn : n ≤ 12) (hn2 : 0 < n) : ∀ (j c fu : Nat) (σ : zS), c + j = n → j < fu → stC σ n M → (∀ x, x < c → σ.1 1209 x = nI (setN (fun i => goS n M (16 * x + i)) 16)) →
    ∃ σ', f_X3_spreadOut_2 fu (nI n) (nI c) σ = some σ' ∧ Fc b [12] σ σ' ∧ stC σ' n (goS n M) ∧ (∀ x, σ'.1 1207 x = σ.1 1207 x)
  | j, c, 0, σ, hj, hf, hM, h => by omega
  | 0, c, fu + 1, σ, hj, hf, hM, h => by
    unfold f_X3_spreadOut_2
    have ecp : cpA σ 1209 12 0 1208 12 0 (nI n) = some (wA σ 1208 (va_cpy (σ.1 1209) (σ.1 1208) 0 0 n)) := by
      unfold cpA
      have c1 : (nI n).toNatClampNeg = n := nI_clamp (by omega)
      rw [if_pos ⟨by decide, by decide, nI_pos (by omega), by rw [c1]; show 0 + n ≤ 12; omega, by rw [c1]; show 0 + n ≤ 12; omega⟩, c1]; rfl
    rw [if_pos (nI_le (by omega) (by omega)), ecp, bs]
    refine ⟨_, rfl, Fc.rf.wA (fun k => by rw [zc12 8 k (by omega) (by omega)]; rfl), fun x hx => ?_, fun x => by rw [wA_at, if_neg (by omega)]⟩
    rw [wA_at, if_pos rfl, cpy0 hx]; exact h x (by omega)
  | j + 1, c, fu + 1, σ, hj, hf, hM, h => by
    have val : ∀ (dn up : Nat → Bool), (∀ i, i < 16 → dn i = (if c = 0 then false else M (16 * (c - 1) + i))) → (∀ i, i < 16 → up i = (if c + 1 < n then M (16 * (c + 1) + i) else false)) → ∃ σ', f_X3_spreadOut_104 (f_X3_spreadOut_2 fu) (nI n) (nI c) (nI (setN (fun i => M (16 * c + i)) 16)) ((((nI (setN (fun i => M (16 * c + i)) 16) <<< ((4 : Int32) &&& 31)) ||| (nI (setN (fun i => M (16 * c + i)) 16) >>> ((12 : Int32) &&& 31))) ||| (nI (setN (fun i => M (16 * c + i)) 16) >>> ((4 : Int32) &&& 31))) ||| (nI (setN (fun i => M (16 * c + i)) 16) <<< ((12 : Int32) &&& 31))) (((nI (setN (fun i => M (16 * c + i)) 16) &&& (13107 : Int32)) <<< ((2 : Int32) &&& 31)) ||| ((nI (setN (fun i => M (16 * c + i)) 16) >>> ((2 : Int32) &&& 31)) &&& (13107 : Int32))) (((nI (setN (fun i => M (16 * c + i)) 16) &&& (21845 : Int32)) <<< ((1 : Int32) &&& 31)) ||| ((nI (setN (fun i => M (16 * c + i)) 16) >>> ((1 : Int32) &&& 31)) &&& (21845 : Int32))) (nI (setN dn 16)) (nI (setN up 16)) σ = some σ' ∧ Fc b [12] σ σ' ∧ stC σ' n (goS n M) ∧ (∀ x, σ'.1 1207 x = σ.1 1207 x) := by
      intro dn up hdn hup
      unfold f_X3_spreadOut_104
      rw [spr16, wr_nI (by omega) (by omega), bs, nI_1]
      have es : setN (fun i => (fun i => M (16 * c + i)) i || ((fun i => M (16 * c + i)) ((i + 4) % 16) || (fun i => M (16 * c + i)) ((i + 12) % 16)) || (fun i => M (16 * c + i)) (if i % 4 < 2 then i + 2 else i - 2) || (fun i => M (16 * c + i)) (if i % 2 < 1 then i + 1 else i - 1) || dn i || up i) 16 = setN (fun i => goS n M (16 * c + i)) 16 := by
        apply setN_cong
        intro i hi
        dsimp only
        rw [goS_b hi, hdn i hi, hup i hi]
      rw [es]
      have F1 : Fc b [12] σ (wI σ 1209 c (nI (setN (fun i => goS n M (16 * c + i)) 16))) := Fc.rf.wI (by rw [zc12 9 c (by omega) (by omega)]; rfl)
      obtain ⟨σ1, e1, f1, g1, k1⟩ := c_sprL (b := b) hn hn2 j (c + 1) fu (wI σ 1209 c (nI (setN (fun i => goS n M (16 * c + i)) 16))) (by omega) (by omega) (fun x hx => by rw [wI_at, if_neg (by omega)]; exact hM x hx) (fun x hx => by
        by_cases e : x = c
        · rw [e, wI_self]
        · rw [wI_at, if_neg (by omega)]; exact h x (by omega))
      exact ⟨σ1, e1, F1.tr f1, g1, fun x => by rw [k1, wI_at, if_neg (by omega)]⟩
    have vald := fun dn hdn => fun up hup => val dn up hdn hup
    have mid : ∀ (dn : Nat → Bool), (∀ i, i < 16 → dn i = (if c = 0 then false else M (16 * (c - 1) + i))) → ∃ σ', f_X3_spreadOut_83 (f_X3_spreadOut_2 fu) (nI n) (nI c) (nI (setN (fun i => M (16 * c + i)) 16)) ((((nI (setN (fun i => M (16 * c + i)) 16) <<< ((4 : Int32) &&& 31)) ||| (nI (setN (fun i => M (16 * c + i)) 16) >>> ((12 : Int32) &&& 31))) ||| (nI (setN (fun i => M (16 * c + i)) 16) >>> ((4 : Int32) &&& 31))) ||| (nI (setN (fun i => M (16 * c + i)) 16) <<< ((12 : Int32) &&& 31))) (((nI (setN (fun i => M (16 * c + i)) 16) &&& (13107 : Int32)) <<< ((2 : Int32) &&& 31)) ||| ((nI (setN (fun i => M (16 * c + i)) 16) >>> ((2 : Int32) &&& 31)) &&& (13107 : Int32))) (((nI (setN (fun i => M (16 * c + i)) 16) &&& (21845 : Int32)) <<< ((1 : Int32) &&& 31)) ||| ((nI (setN (fun i => M (16 * c + i)) 16) >>> ((1 : Int32) &&& 31)) &&& (21845 : Int32))) (nI (setN dn 16)) σ = some σ' ∧ Fc b [12] σ σ' ∧ stC σ' n (goS n M) ∧ (∀ x, σ'.1 1207 x = σ.1 1207 x) := by
      intro dn hdn
      unfold f_X3_spreadOut_83
      rw [nI_1]
      by_cases hc : c + 1 < n
      · rw [if_neg (nI_ge hc (by omega)), rd_nI (by omega) (by omega), bs, hM (c + 1) hc]
        exact val dn (fun i => M (16 * (c + 1) + i)) hdn (fun i _ => by rw [if_pos hc])
      · rw [if_pos (nI_le (by omega) (by omega)), ← set_f]
        exact val dn (fun _ => false) hdn (fun i _ => by rw [if_neg hc])
    unfold f_X3_spreadOut_2
    simp only [lts]
    rw [if_neg (nI_ge (by omega) (by omega)), rd_nI (by omega) (by omega), bs, hM c (by omega)]
    by_cases h0 : c = 0
    · rw [if_pos (by rw [h0]; decide), ← set_f]
      exact mid (fun _ => false) (fun i _ => by rw [if_pos h0])
    · rw [if_neg (nI_nle (by omega) (by omega)), nI_m1lt (by omega) h0, rd_nI (by omega) (by omega), bs, hM (c - 1) (by omega)]
      exact mid (fun i => M (16 * (c - 1) + i)) (fun i _ => by rw [if_neg h0])
