/-! constructors: only what lies below n counts -/
theorem wld_shc {K : Nat → ClassId} {ad : Nat → Nat} {sh sh' : vSh} {m m' : vM} {n : Nat} (h : ∀ k, k < n → sh k = sh' k ∧ m.1 k = m'.1 k ∧ m.2 k = m'.2 k) : wld K ad sh m n = wld K ad sh' m' n := by
  unfold wld
  apply List.map_congr_left
  intro k hk
  obtain ⟨h1, h2, h3⟩ := h k (List.mem_range.mp hk)
  rw [h1, h2, h3]
theorem vRB_shc {sh sh' : vSh} {m m' : vM} {n : Nat} (h : ∀ k, k < n → sh k = sh' k ∧ m.1 k = m'.1 k ∧ m.2 k = m'.2 k) (hB : vRB n sh m) : vRB n sh' m' := by
  intro k hk
  obtain ⟨h1, h2, h3⟩ := h k hk
  rw [← h1, ← h2]
  exact hB k hk
theorem vJ.shc {Y : vMeth} {fr lo nE : Nat} {sx : Option (Nat × (Nat → Int32))} {pc : Nat} {ls : List (Nat × Value)} {st : List Value} {n : Nat} {sh sh' : vSh} {m m' : vM} {P : Option Value → vSh → vM → Prop} (h : ∀ k, k < n → sh k = sh' k ∧ m.1 k = m'.1 k ∧ m.2 k = m'.2 k) (k : vJ Y fr lo nE sx pc ls st n sh' m' P) : vJ Y fr lo nE sx pc ls st n sh m P := by
  intro p l e R s mi args below meth c D K ad A H0 H locs cells slots Cm Sm Q la hC hD hl hR
  refine k p l e R s mi args below meth c D K ad A H0 H locs cells slots Cm Sm Q la hC ?_ hl hR
  unfold vDy at *
  rw [← wld_shc h]
  obtain ⟨a1, a2, a3, a4, a5, a6⟩ := hD
  exact ⟨a1, a2, a3, a4, vRB_shc h a5, a6⟩
