/-- THE LAW, from its entry, once the two sides are known to answer alike (OPS) and look's walk is known (HLook) -/
theorem whole_start_of (hlk : HLook) {V : zS → zS → Prop} (ops : OPS V) (h0 : ∃ σM, f_X12_begins zM0 = some σM ∧ V zC0 σM) {p : Program} {e : Env} {s : State} {m : MethodId} {below : List Frame} {meth : Method} {c : Code} (l : Launch) (hst : l.stackTraces = false) {b L : Nat} {xs : Nat → Int32} (hL : L ≤ 3072) (C0 : lw_At p s m meth c b L xs) : W p l e room_1 s m #[Value.ref b] below meth c s.heap [] 0 0 (lw_Z below #[Value.ref b] s) (entryFrame m ([Value.ref b] : List Value).toArray 7) := by
  obtain ⟨σM, hb, hV⟩ := h0
  obtain ⟨D, cy, ad, C⟩ := lw_Cof (l := l) C0
  have hab : ad 9500 = b := C.2.2.2.2.2
  have P := law_from0 (L := L) (xs := xs) hb (law_loop hlk ops hL 514 0 zC0 σM 0 hV (by decide) (by decide))
  have hl := lv_entry ([.ref b]) (n := 7) (Nat.le_of_ble_eq_true rfl)
  rw [lg_entry_eq]
  generalize (lg_sl ([.ref b]) ++ List.replicate (7 - (lg_sl ([.ref b])).length) Slot.unset).toArray = ls at hl ⊢
  have hl : lv_has ls 7 (pw_lv ad [(0, .ref 9500)]) := by
    show lv_has ls 7 [(0, .ref (ad 9500))]
    rw [hab]
    exact hl
  exact P p l e s m below meth c b D cy ad s.heap [] ls C hst (fun k q h => by simp [pw_ws] at h) ⟨fun i j p q h => by simp [pw_ws] at h, fun k q h => by simp [pw_ws] at h⟩ va_S.rf hl
