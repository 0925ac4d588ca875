/-- the tables' words that hold in every later state -/
def pw_tb : List Cond := lw_tbl.filter goodWord
theorem pw_w (i : Nat) (w : Cond) (h : lw_tbl[i]? = some w) (g : goodWord w = true) : w ∈ pw_tb := List.mem_filter.mpr ⟨List.mem_of_getElem? h, g⟩
theorem pw_ins (ws : List Cond) (ps : List Nat) (h : ps.map (fun i => lw_tbl[i]?) = ws.map some) (g : ws.all goodWord = true) : ∀ w ∈ ws, w ∈ pw_tb := by
  intro w hw
  have h1 : some w ∈ ws.map some := List.mem_map.mpr ⟨w, hw, rfl⟩
  rw [← h] at h1
  obtain ⟨i, -, hi⟩ := List.mem_map.mp h1
  exact pw_w i w hi (List.all_eq_true.mp g w hw)
