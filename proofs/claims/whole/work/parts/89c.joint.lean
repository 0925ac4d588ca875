/-! The pure part: joint, whole -/
theorem m_jnO {T : zT} {p p' : Nat} {G : Nat → Bool} {f g : Nat → Nat} {σ : zS} (hT : okT T) (hR : RM T σ) (hp : p < 4) (hp' : p' < 4) (h1 : ∀ x, x < 16 * T 4 0 → σ.1 5051 x = bI (G x) ∧ σ.1 5049 x = nI (f x) ∧ σ.1 5050 x = nI (g x) ∧ f x ≤ 1000 ∧ g x ≤ 1000) : ∀ (j s fu B : Nat) (P : Nat → Prop), s + j = 16 * T 4 0 → j < fu → isMn P B →
    ∃ B', f_X12_joint_129 fu (nI p) (nI p') (nI B) (nI s) σ = some (if B' < 1000 then nI B' else -2, σ) ∧ isMn (fun v => P v ∨ ∃ s' t', s ≤ s' ∧ s' < 16 * T 4 0 ∧ t' < 16 * T 4 0 ∧ jnP (T 4 0) p p' G f g s' t' v) B'
  | j, s, 0, B, P, hj, hf, hB => by omega
  | 0, s, fu + 1, B, P, hj, hf, hB => by
    have o := hT.1
    have b1 := hB.2.1
    unfold f_X12_joint_129
    rw [m_many16 hR, bs, if_pos (nI_le (by omega) (by omega))]
    refine ⟨B, ?_, ?_, hB.2.1, fun v hv => ?_⟩
    · by_cases hlt : B < 1000
      · rw [if_pos (show nI B < (1000 : Int32) from nI_lt (b := 1000) hlt (by omega)), if_pos hlt]
      · rw [if_neg (show ¬ nI B < (1000 : Int32) from nI_nlt (b := 1000) (by omega) (by omega)), if_neg hlt]
    · rcases hB.1 with z | z
      · exact .inl z
      · exact .inr (.inl z)
    · rcases hv with hv | ⟨s', t', q1, q2, -⟩
      · exact hB.2.2 v hv
      · omega
  | j + 1, s, fu + 1, B, P, hj, hf, hB => by
    have o := hT.1
    unfold f_X12_joint_129
    rw [m_many16 hR, bs, if_neg (nI_ge (by omega) (by omega))]
    obtain ⟨B1, e1, m1⟩ := m_jnI (f_X12_joint_129 fu) hT hR hp hp' h1 (show s < 16 * T 4 0 by omega) (16 * T 4 0) 0 FU B P (by omega) (by unfold FU; omega) hB
    replace e1 : f_X12_joint_141 (f_X12_joint_129 fu) FU (nI p) (nI p') (nI B) (nI s) 0 σ = _ := e1
    rw [e1]
    obtain ⟨B2, e2, m2⟩ := m_jnO hT hR hp hp' h1 j (s + 1) fu B1 _ (by omega) (by omega) m1
    refine ⟨B2, e2, ?_, m2.2.1, fun v hv => ?_⟩
    · rcases m2.1 with z | ((z | ⟨t', y1, y2, y3⟩) | ⟨s', t', y1, y2, y3⟩)
      · exact .inl z
      · exact .inr (.inl z)
      · exact .inr (.inr ⟨s, t', by omega, by omega, y2, y3⟩)
      · exact .inr (.inr ⟨s', t', by omega, y2, y3⟩)
    · refine m2.2.2 v ?_
      rcases hv with z | ⟨s', t', y1, y2, y3, y4⟩
      · exact .inl (.inl z)
      · by_cases e : s' = s
        · subst e; exact .inl (.inr ⟨t', by omega, y3, y4⟩)
        · exact .inr ⟨s', t', by omega, y2, y3, y4⟩
theorem mn_one {n a x : Nat} (hn : n ≤ 12) (ha : a < 16 * n) (hx : x < 16 * n) : mnG (fun y => decide (y = a)) x (16 * n) = dst a x := by
  obtain ⟨h1, h2, h3⟩ := mnG_le (G := fun y => decide (y = a)) (s := x) (16 * n)
  have u := h2 a ha (decide_eq_true rfl)
  rcases h3 with z | ⟨g, g1, g2, g3⟩
  · have := (dst_facts (a := a) (s := x) (by omega) (by omega)).2.2.1
    omega
  · rw [g3, of_decide_eq_true g2]
def otG (T D : zT) (n p k : Nat) (x : Nat) : Nat := if lawB T (-1) n x p k (D 0 0) then dst (D 1 n) x else 1000
theorem m_othL {T D : zT} {mv : Int32} {m n p p' k : Nat} (oD : okD T D) (hm : m < T 4 2) (hn : n < T 4 2) (hp : p < 4) (hp' : p' < 4) (hk : k < 4) : ∀ (j s fu : Nat) (σ : zS), s + j = 16 * T 4 0 → j < fu → CM T (-1) (-1) σ → DM T 0 D mv σ → (∀ x, x < 16 * T 4 0 → σ.1 5049 x = nI (dst (D 1 n) x)) → (∀ x, x < s → σ.1 5050 x = nI (otG T D n p' k x)) →
    ∃ σ', f_X12_joint_48 fu (nI m) (nI p) (nI n) (nI p') (nI k) (nI s) σ = ((f_X12_layFrom (nI (D 1 m)) σ').bind fun σ_9 => (f_X12_layGoal (nI m) (nI p) (nI k) σ_9).bind fun σ_12 => f_X12_joint_129 FU (nI p) (nI p') 1000 0 σ_12) ∧ Fm [0, 15] σ σ' ∧ (∀ x, x < 16 * T 4 0 → σ'.1 5050 x = nI (otG T D n p' k x))
  | j, s, 0, σ, hj, hf, hC, h, h1, h2 => by omega
  | 0, s, fu + 1, σ, hj, hf, hC, h, h1, h2 => by
    have o := hC.1.1
    unfold f_X12_joint_48
    rw [m_many16 hC.2.1, bs, if_pos (nI_le (by omega) (by omega)), rd_nI (by omega) (by omega), bs, (h.s0 hm).1]
    exact ⟨σ, rfl, Fm.rf, fun x hx => h2 x (by omega)⟩
  | j + 1, s, fu + 1, σ, hj, hf, hC, h, h1, h2 => by
    have o := hC.1.1
    obtain ⟨σ1, e1, f1⟩ := m_lawful hC hn (show s < 192 by omega) hp' hk oD.1
    have key : ∀ v : Nat, v = otG T D n p' k s → ∃ σ', f_X12_joint_96 (f_X12_joint_48 fu) (nI m) (nI p) (nI n) (nI p') (nI k) (nI s) (nI s) (nI v) σ1 = ((f_X12_layFrom (nI (D 1 m)) σ').bind fun σ_9 => (f_X12_layGoal (nI m) (nI p) (nI k) σ_9).bind fun σ_12 => f_X12_joint_129 FU (nI p) (nI p') 1000 0 σ_12) ∧ Fm [0, 15] σ σ' ∧ (∀ x, x < 16 * T 4 0 → σ'.1 5050 x = nI (otG T D n p' k x)) := by
      intro v hv
      unfold f_X12_joint_96
      rw [wr_nI (by omega) (by omega), bs, nI_1]
      have F1 : Fm [0, 15] σ (wI σ1 5050 s (nI v)) := (f1.mono rfl).wI rfl
      obtain ⟨σ2, e2, f2, g2⟩ := m_othL oD hm hn hp hp' hk j (s + 1) fu (wI σ1 5050 s (nI v)) (by omega) (by omega) (hC.mono F1 rfl rfl) (DM.mono hC.1 h F1 rfl) (fun x hx => by
        rw [F1.z (z := 13) rfl rfl]; exact h1 x hx) (fun x hx => by
        by_cases e : x = s
        · rw [e, wI_self, hv]
        · rw [wI_at, if_neg (by omega), f1.z (z := 15) rfl rfl]; exact h2 x (by omega))
      exact ⟨σ2, e2, F1.tr f2, g2⟩
    unfold f_X12_joint_48
    rw [m_many16 hC.2.1, bs, if_neg (nI_ge (by omega) (by omega)), rd_lit (by decide) (by decide), bs, h.1, e1, b2s]
    unfold otG at key
    cases el : lawB T (-1) n s p' k (D 0 0) with
    | false =>
      rw [el] at key
      rw [if_pos (show bI false = 0 from rfl)]
      exact key 1000 rfl
    | true =>
      rw [el] at key
      have r49 : σ1.1 5049 s = nI (dst (D 1 n) s) := by rw [f1.z (z := 13) rfl rfl]; exact h1 s (by omega)
      rw [if_neg (show ¬ bI true = 0 by decide), rd_nI (by omega) (by omega), bs, r49]
      exact key _ rfl
theorem plc_n {n s p : Nat} (hs : s < 16 * n) : plc s p ≤ n + 1 := by unfold plc; (repeat' split) <;> omega
theorem plN_le {T D : zT} {m p k r : Nat} (oD : okD T D) (hT : okT T) (hm : m < T 4 2) : plN T D m p k r = 1000 ∨ plN T D m p k r ≤ 15 := by
  have o := hT.1
  exact mn_15 (by omega) (oD.2.1 m hm).1
theorem isMn_nil : isMn (fun _ => False) 1000 := ⟨.inl rfl, Nat.le_refl _, fun _ h => h.elim⟩
theorem isLs_nil : isLs (fun _ => False) none := ⟨fun _ h => (by cases h), fun _ h => h.elim⟩
theorem o_joint : op_joint V := by
  intro x y x2 y2 z σc σm ⟨b, T, D, mv, h⟩
  have h0 := h.th 0
  have hT := h.oT
  have o := hT.1
  have oD := h.oD
  unfold f_X11_joint f_X12_joint
  rw [lts]
  rcases asked hT h.cc.2.1 h0.cm.2.1 x y z with ⟨e0, hc⟩ | ⟨m, p, k, hm, hp, hk, rfl, rfl, rfl⟩
  · rw [e0, bs, if_pos rfl]
    refine ⟨-1, σc, _, ?_, rfl, h0.v⟩
    have q := hc (some (-1, σc)) (-1, σc)
    by_cases a1 : f_X11_isMan x σc = 0
    · rw [if_pos a1]
    rw [if_neg a1]
    by_cases a2 : f_X11_isPart y σc = 0
    · rw [if_pos a2]
    rw [if_neg a2]
    by_cases a3 : f_X11_isKind z σc = 0
    · split
      · rfl
      · split
        · rfl
        · first | rfl | rw [if_pos a3]
    · have := hc none (-1, σc)
      rw [if_neg a1, if_neg a2, if_neg a3] at this; cases this
  · rw [m_asked hT h0.cm.2.1 hm hp hk, bs, if_neg n10, c_man1 hT h.cc.2.1 hm, if_neg n10, (pt1 hp _).1, if_neg n10, (pt1 hk _).2.2.1]
    rcases asked hT h.cc.2.1 h0.cm.2.1 x2 y2 (nI k) with ⟨e0, hc⟩ | ⟨n, p', k', hn, hp', hk', rfl, rfl, ek⟩
    · rw [e0, bs, if_pos rfl]
      refine ⟨-1, σc, _, ?_, rfl, h0.v⟩
      by_cases a1 : f_X11_isMan x2 σc = 0
      · rw [if_pos a1]
      rw [if_neg a1]
      by_cases a2 : f_X11_isPart y2 σc = 0
      · rw [if_pos a2]
      · have := hc none (-1, σc)
        rw [if_neg a1, if_neg a2, (pt1 hk _).2.2.1, if_neg n10] at this; cases this
    · rw [m_asked hT h0.cm.2.1 hn hp' hk, bs, if_neg n10, c_man1 hT h.cc.2.1 hn, if_neg n10, (pt1 hp' _).1, if_neg n10, if_neg n10]
      by_cases emn : m = n
      · subst emn
        rw [if_pos rfl, if_pos rfl]
        exact ⟨-1, σc, _, rfl, rfl, h0.v⟩
      · have ne : ¬ nI m = nI n := by rw [nI_eq (by omega) (by omega)]; exact emn
        have om := oD.2.1 m hm
        have on := oD.2.1 n hn
        rw [if_neg ne, if_neg ne]
        obtain ⟨σ1, c1, f1, g1⟩ := c_meas (b := b) (A := 1506) (z := 15) (.inl ⟨rfl, rfl⟩) oD hm hp hk h.cc h.dc
        have d1 := DC.mono (z := 3) (.inl ⟨rfl, rfl⟩) h.dc f1 rfl
        have C1 := h.cc.mono f1 rfl rfl
        obtain ⟨σ2, c2, f2, g2⟩ := c_meas (b := b) (A := 1507) (z := 16) (.inr ⟨rfl, rfl⟩) oD hn hp' hk C1 d1
        have C2 := C1.mono f2 rfl rfl
        have r6 : plRow σ2 1506 (plN T D m p k) := fun r hr => ⟨by rw [f2.z (z := 15) (by cases b <;> rfl) rfl]; exact g1 r hr, plN_le oD hT hm⟩
        have r7 : plRow σ2 1507 (plN T D n p' k) := fun r hr => ⟨g2 r hr, plN_le oD hT hn⟩
        have cl := c_lsO (n := T 4 0) (by omega) r6 r7 (T 4 0 + 2) 0 FU none (by omega) (fun v hv => by cases hv) (by unfold FU; omega)
        replace cl : f_X10_leastSum (nI (T 4 0)) σ2 = _ := cl
        rw [c1, bs, c2, bs, C2.2.1.1.1, C2.2.1.2.1.1, cl, bs]
        -- the reference
        obtain ⟨σ3, e3, f3, g3⟩ := m_fromL hT on.1 192 0 FU (wI σm 5000 0 0) (by omega) (by unfold FU; omega) h0.cm.2.1 (fun x hx => by omega)
        replace e3 : f_X12_layFrom (nI (D 1 n)) (wI σm 5000 0 0) = _ := e3
        have M3 := h0.cm.mono f3 rfl rfl
        have D3 := DM.mono hT h0.dm f3 rfl
        obtain ⟨σ4, e4, f4, g4⟩ := m_othL oD hm hn hp hp' hk (16 * T 4 0) 0 FU σ3 (by omega) (by unfold FU; omega) M3 D3 (fun x hx => by rw [g3 x hx, mn_one (by omega) on.1 hx]) (fun x hx => by omega)
        replace e4 : f_X12_joint_48 FU (nI m) (nI p) (nI n) (nI p') (nI k) 0 σ3 = _ := e4
        have M4 := M3.mono f4 rfl rfl
        have D4 := DM.mono hT D3 f4 rfl
        obtain ⟨σ5, e5, f5, g5⟩ := m_fromL hT om.1 192 0 FU σ4 (by omega) (by unfold FU; omega) M4.2.1 (fun x hx => by omega)
        replace e5 : f_X12_layFrom (nI (D 1 m)) σ4 = _ := e5
        have M5 := M4.mono f5 rfl rfl
        have D5 := DM.mono hT D4 f5 rfl
        obtain ⟨σ6, e6, f6, g6⟩ := m_layGoal oD hm hp hk M5 D5
        have M6 := M5.mono f6 rfl rfl
        have all : ∀ x, x < 16 * T 4 0 → σ6.1 5051 x = bI (lawB T (-1) m x p k (D 0 0)) ∧ σ6.1 5049 x = nI (dst (D 1 m) x) ∧ σ6.1 5050 x = nI (otG T D n p' k x) ∧ dst (D 1 m) x ≤ 1000 ∧ otG T D n p' k x ≤ 1000 := by
          intro x hx
          have dm := (dst_facts (a := D 1 m) (s := x) (by omega) (by omega)).2.2.1
          have dn := (dst_facts (a := D 1 n) (s := x) (by omega) (by omega)).2.2.1
          refine ⟨g6 x hx, ?_, ?_, by omega, ?_⟩
          · rw [f6.z (z := 13) rfl rfl, g5 x hx, mn_one (by omega) om.1 hx]
          · rw [f6.z (z := 15) rfl rfl, f5.z (z := 15) rfl rfl]; exact g4 x hx
          · unfold otG; split <;> omega
        obtain ⟨B, e7, mB⟩ := m_jnO hT M6.2.1 hp hp' all (16 * T 4 0) 0 FU 1000 (fun _ => False) (by omega) (by unfold FU; omega) isMn_nil
        replace e7 : f_X12_joint_129 FU (nI p) (nI p') 1000 0 σ6 = _ := e7
        rw [rd_nI (by omega) (by omega), bs, (h0.dm.s0 hn).1, e3, bs, e4, e5, bs, e6, bs, e7]
        have fin : V σ2 σ6 := h0.q2 ((f1.mono rfl).tr (f2.mono rfl)) ((((f3.mono rfl).tr (f4.mono rfl)).tr (f5.mono rfl)).tr (f6.mono rfl))
        refine ⟨_, σ2, σ6, rfl, ?_, fin⟩
        -- both are least
        have LS := lsO_is (f := plN T D m p k) (g := plN T D n p' k) (T 4 0 + 2) 0 none (fun _ => False) (by omega) isLs_nil
        have toC : ∀ v, v < 1000 → (∃ s' t', 0 ≤ s' ∧ s' < 16 * T 4 0 ∧ t' < 16 * T 4 0 ∧ jnP (T 4 0) p p' (fun x => lawB T (-1) m x p k (D 0 0)) (dst (D 1 m)) (otG T D n p' k) s' t' v) → ∃ w, lsO (plN T D m p k) (plN T D n p' k) (T 4 0 + 2) 0 none = some w ∧ w ≤ v := by
          rintro v hv ⟨s, t, -, hs, ht, j1, j2, j3, j4⟩
          have lt : lawB T (-1) n t p' k (D 0 0) = true := by
            cases e : lawB T (-1) n t p' k (D 0 0) with
            | true => rfl
            | false => unfold otG at j4; rw [e, if_neg (by decide)] at j4; omega
          have ot : otG T D n p' k t = dst (D 1 n) t := by unfold otG; rw [lt, if_pos rfl]
          have u1 := (mnG_le (G := plG T D m p k (plc s p)) (s := D 1 m) (16 * T 4 0)).2.1 s hs (by unfold plG; rw [decide_eq_true rfl]; exact j1)
          have u2 := (mnG_le (G := plG T D n p' k (plc t p')) (s := D 1 n) (16 * T 4 0)).2.1 t ht (by unfold plG; rw [decide_eq_true rfl]; exact lt)
          rw [dst_sym (by omega) (by omega)] at u1 u2
          have l1 := plc_n (n := T 4 0) (p := p) hs
          have l2 := plc_n (n := T 4 0) (p := p') ht
          have d1' := (dst_facts (a := D 1 m) (s := s) (by omega) (by omega)).2.2.1
          have d2' := (dst_facts (a := D 1 n) (s := t) (by omega) (by omega)).2.2.1
          obtain ⟨w, w1, w2⟩ := LS.2 (plN T D m p k (plc s p) + plN T D n p' k (plc t p')) (.inr ⟨plc s p, plc t p', by omega, by omega, by omega, by omega, by omega, by unfold plN; omega, by unfold plN; omega, rfl⟩)
          refine ⟨w, w1, ?_⟩
          unfold plN at w2
          omega
        have toM : ∀ w, lsO (plN T D m p k) (plN T D n p' k) (T 4 0 + 2) 0 none = some w → w ≤ 30 ∧ B ≤ w := by
          intro w hw
          rcases LS.1 w hw with q | ⟨r, t', q1, q2, q3, q4, q5, q6, q7, q8⟩
          · exact q.elim
          · unfold plN at q6 q7 q8
            rcases (mnG_le (G := plG T D m p k r) (s := D 1 m) (16 * T 4 0)).2.2 with a | ⟨s, s1, s2, s3⟩
            · omega
            · rcases (mnG_le (G := plG T D n p' k t') (s := D 1 n) (16 * T 4 0)).2.2 with a | ⟨t, t1, t2, t3⟩
              · omega
              · unfold plG at s2 t2
                rw [Bool.and_eq_true, decide_eq_true_eq] at s2 t2
                have d1' := (dst_facts (a := D 1 m) (s := s) (by omega) (by omega)).2.2.1
                have d2' := (dst_facts (a := D 1 n) (s := t) (by omega) (by omega)).2.2.1
                rw [dst_sym (by omega) (by omega)] at s3 t3
                have ot : otG T D n p' k t = dst (D 1 n) t := by unfold otG; rw [t2.2, if_pos rfl]
                refine ⟨by omega, mB.2.2 w (.inr ⟨s, t, by omega, s1, t1, s2.2, ?_, ?_, ?_⟩)⟩
                · rw [s2.1, t2.1]; omega
                · rw [s2.1, t2.1]; omega
                · rw [ot]; omega
        cases eA : lsO (plN T D m p k) (plN T D n p' k) (T 4 0 + 2) 0 none with
        | none =>
          have : ¬ B < 1000 := by
            intro hB
            rcases mB.1 with q | (q | q)
            · omega
            · exact q
            · obtain ⟨w, w1, -⟩ := toC B hB q
              rw [eA] at w1; cases w1
          rw [if_neg this]; rfl
        | some w =>
          have tm := toM w eA
          have hB : B < 1000 := by omega
          rcases mB.1 with q | (q | q)
          · omega
          · exact q.elim
          · obtain ⟨w', w1, w2⟩ := toC B hB q
            rw [eA] at w1; cases w1
            rw [if_pos hB, show B = w by omega]; rfl
