/-! what a new object holds: zeros, and null for the refs -/
def ini0 : Nat → Nat := fun j => ([0, 0, 0, 0, 0, 0, 0, 0, 0, 1, 1] : List Nat).getD j 0
theorem ini0_ok : ∀ j, j < 11 → (ini0 j = 0 ∧ defaultValue (tyX0 j) = .int 0) ∨ (ini0 j = 1 ∧ defaultValue (tyX0 j) = .null) := fun j hj => by
  match j, hj with
  | 0, _ => exact Or.inl ⟨rfl, rfl⟩
  | 1, _ => exact Or.inl ⟨rfl, rfl⟩
  | 2, _ => exact Or.inl ⟨rfl, rfl⟩
  | 3, _ => exact Or.inl ⟨rfl, rfl⟩
  | 4, _ => exact Or.inl ⟨rfl, rfl⟩
  | 5, _ => exact Or.inl ⟨rfl, rfl⟩
  | 6, _ => exact Or.inl ⟨rfl, rfl⟩
  | 7, _ => exact Or.inl ⟨rfl, rfl⟩
  | 8, _ => exact Or.inl ⟨rfl, rfl⟩
  | 9, _ => exact Or.inr ⟨rfl, rfl⟩
  | 10, _ => exact Or.inr ⟨rfl, rfl⟩
  | j + 11, h => exact absurd h (by omega)
theorem ini0_le : ∀ j, ini0 j ≤ 1 := fun j => by
  match j with
  | 0 => exact Nat.zero_le 1
  | 1 => exact Nat.zero_le 1
  | 2 => exact Nat.zero_le 1
  | 3 => exact Nat.zero_le 1
  | 4 => exact Nat.zero_le 1
  | 5 => exact Nat.zero_le 1
  | 6 => exact Nat.zero_le 1
  | 7 => exact Nat.zero_le 1
  | 8 => exact Nat.zero_le 1
  | 9 => exact Nat.le_refl 1
  | 10 => exact Nat.le_refl 1
  | j + 11 => exact Nat.zero_le 1
def ini1 : Nat → Nat := fun j => ([0, 0, 0, 0, 1, 1, 1] : List Nat).getD j 0
theorem ini1_ok : ∀ j, j < 7 → (ini1 j = 0 ∧ defaultValue (tyX1 j) = .int 0) ∨ (ini1 j = 1 ∧ defaultValue (tyX1 j) = .null) := fun j hj => by
  match j, hj with
  | 0, _ => exact Or.inl ⟨rfl, rfl⟩
  | 1, _ => exact Or.inl ⟨rfl, rfl⟩
  | 2, _ => exact Or.inl ⟨rfl, rfl⟩
  | 3, _ => exact Or.inl ⟨rfl, rfl⟩
  | 4, _ => exact Or.inr ⟨rfl, rfl⟩
  | 5, _ => exact Or.inr ⟨rfl, rfl⟩
  | 6, _ => exact Or.inr ⟨rfl, rfl⟩
  | j + 7, h => exact absurd h (by omega)
theorem ini1_le : ∀ j, ini1 j ≤ 1 := fun j => by
  match j with
  | 0 => exact Nat.zero_le 1
  | 1 => exact Nat.zero_le 1
  | 2 => exact Nat.zero_le 1
  | 3 => exact Nat.zero_le 1
  | 4 => exact Nat.le_refl 1
  | 5 => exact Nat.le_refl 1
  | 6 => exact Nat.le_refl 1
  | j + 7 => exact Nat.zero_le 1
def ini2 : Nat → Nat := fun j => ([1, 1, 1, 1, 0] : List Nat).getD j 0
theorem ini2_ok : ∀ j, j < 5 → (ini2 j = 0 ∧ defaultValue (tyX2 j) = .int 0) ∨ (ini2 j = 1 ∧ defaultValue (tyX2 j) = .null) := fun j hj => by
  match j, hj with
  | 0, _ => exact Or.inr ⟨rfl, rfl⟩
  | 1, _ => exact Or.inr ⟨rfl, rfl⟩
  | 2, _ => exact Or.inr ⟨rfl, rfl⟩
  | 3, _ => exact Or.inr ⟨rfl, rfl⟩
  | 4, _ => exact Or.inl ⟨rfl, rfl⟩
  | j + 5, h => exact absurd h (by omega)
theorem ini2_le : ∀ j, ini2 j ≤ 1 := fun j => by
  match j with
  | 0 => exact Nat.le_refl 1
  | 1 => exact Nat.le_refl 1
  | 2 => exact Nat.le_refl 1
  | 3 => exact Nat.le_refl 1
  | 4 => exact Nat.zero_le 1
  | j + 5 => exact Nat.zero_le 1
def ini3 : Nat → Nat := fun j => ([0, 1, 1, 1, 1, 1, 1, 1, 1, 0, 0, 0] : List Nat).getD j 0
theorem ini3_ok : ∀ j, j < 12 → (ini3 j = 0 ∧ defaultValue (tyX3 j) = .int 0) ∨ (ini3 j = 1 ∧ defaultValue (tyX3 j) = .null) := fun j hj => by
  match j, hj with
  | 0, _ => exact Or.inl ⟨rfl, rfl⟩
  | 1, _ => exact Or.inr ⟨rfl, rfl⟩
  | 2, _ => exact Or.inr ⟨rfl, rfl⟩
  | 3, _ => exact Or.inr ⟨rfl, rfl⟩
  | 4, _ => exact Or.inr ⟨rfl, rfl⟩
  | 5, _ => exact Or.inr ⟨rfl, rfl⟩
  | 6, _ => exact Or.inr ⟨rfl, rfl⟩
  | 7, _ => exact Or.inr ⟨rfl, rfl⟩
  | 8, _ => exact Or.inr ⟨rfl, rfl⟩
  | 9, _ => exact Or.inl ⟨rfl, rfl⟩
  | 10, _ => exact Or.inl ⟨rfl, rfl⟩
  | 11, _ => exact Or.inl ⟨rfl, rfl⟩
  | j + 12, h => exact absurd h (by omega)
theorem ini3_le : ∀ j, ini3 j ≤ 1 := fun j => by
  match j with
  | 0 => exact Nat.zero_le 1
  | 1 => exact Nat.le_refl 1
  | 2 => exact Nat.le_refl 1
  | 3 => exact Nat.le_refl 1
  | 4 => exact Nat.le_refl 1
  | 5 => exact Nat.le_refl 1
  | 6 => exact Nat.le_refl 1
  | 7 => exact Nat.le_refl 1
  | 8 => exact Nat.le_refl 1
  | 9 => exact Nat.zero_le 1
  | 10 => exact Nat.zero_le 1
  | 11 => exact Nat.zero_le 1
  | j + 12 => exact Nat.zero_le 1
def ini4 : Nat → Nat := fun j => ([1, 1] : List Nat).getD j 0
theorem ini4_ok : ∀ j, j < 2 → (ini4 j = 0 ∧ defaultValue (tyX4 j) = .int 0) ∨ (ini4 j = 1 ∧ defaultValue (tyX4 j) = .null) := fun j hj => by
  match j, hj with
  | 0, _ => exact Or.inr ⟨rfl, rfl⟩
  | 1, _ => exact Or.inr ⟨rfl, rfl⟩
  | j + 2, h => exact absurd h (by omega)
theorem ini4_le : ∀ j, ini4 j ≤ 1 := fun j => by
  match j with
  | 0 => exact Nat.le_refl 1
  | 1 => exact Nat.le_refl 1
  | j + 2 => exact Nat.zero_le 1
def ini5 : Nat → Nat := fun j => ([1, 1, 1, 1, 1, 1, 1, 1, 1] : List Nat).getD j 0
theorem ini5_ok : ∀ j, j < 9 → (ini5 j = 0 ∧ defaultValue (tyX5 j) = .int 0) ∨ (ini5 j = 1 ∧ defaultValue (tyX5 j) = .null) := fun j hj => by
  match j, hj with
  | 0, _ => exact Or.inr ⟨rfl, rfl⟩
  | 1, _ => exact Or.inr ⟨rfl, rfl⟩
  | 2, _ => exact Or.inr ⟨rfl, rfl⟩
  | 3, _ => exact Or.inr ⟨rfl, rfl⟩
  | 4, _ => exact Or.inr ⟨rfl, rfl⟩
  | 5, _ => exact Or.inr ⟨rfl, rfl⟩
  | 6, _ => exact Or.inr ⟨rfl, rfl⟩
  | 7, _ => exact Or.inr ⟨rfl, rfl⟩
  | 8, _ => exact Or.inr ⟨rfl, rfl⟩
  | j + 9, h => exact absurd h (by omega)
theorem ini5_le : ∀ j, ini5 j ≤ 1 := fun j => by
  match j with
  | 0 => exact Nat.le_refl 1
  | 1 => exact Nat.le_refl 1
  | 2 => exact Nat.le_refl 1
  | 3 => exact Nat.le_refl 1
  | 4 => exact Nat.le_refl 1
  | 5 => exact Nat.le_refl 1
  | 6 => exact Nat.le_refl 1
  | 7 => exact Nat.le_refl 1
  | 8 => exact Nat.le_refl 1
  | j + 9 => exact Nat.zero_le 1
def ini6 : Nat → Nat := fun j => ([1, 1, 1, 1, 1, 0, 0, 0] : List Nat).getD j 0
theorem ini6_ok : ∀ j, j < 8 → (ini6 j = 0 ∧ defaultValue (tyX6 j) = .int 0) ∨ (ini6 j = 1 ∧ defaultValue (tyX6 j) = .null) := fun j hj => by
  match j, hj with
  | 0, _ => exact Or.inr ⟨rfl, rfl⟩
  | 1, _ => exact Or.inr ⟨rfl, rfl⟩
  | 2, _ => exact Or.inr ⟨rfl, rfl⟩
  | 3, _ => exact Or.inr ⟨rfl, rfl⟩
  | 4, _ => exact Or.inr ⟨rfl, rfl⟩
  | 5, _ => exact Or.inl ⟨rfl, rfl⟩
  | 6, _ => exact Or.inl ⟨rfl, rfl⟩
  | 7, _ => exact Or.inl ⟨rfl, rfl⟩
  | j + 8, h => exact absurd h (by omega)
theorem ini6_le : ∀ j, ini6 j ≤ 1 := fun j => by
  match j with
  | 0 => exact Nat.le_refl 1
  | 1 => exact Nat.le_refl 1
  | 2 => exact Nat.le_refl 1
  | 3 => exact Nat.le_refl 1
  | 4 => exact Nat.le_refl 1
  | 5 => exact Nat.zero_le 1
  | 6 => exact Nat.zero_le 1
  | 7 => exact Nat.zero_le 1
  | j + 8 => exact Nat.zero_le 1
def ini7 : Nat → Nat := fun j => ([0, 1, 0, 0, 0, 1, 1, 0, 1, 1, 1, 1, 1, 1, 1, 1, 1, 1, 0, 1, 1, 1, 1, 1, 1, 1, 1, 1, 1, 0, 1, 1, 0, 1, 1, 1, 1, 1, 1, 1, 1] : List Nat).getD j 0
theorem ini7_ok : ∀ j, j < 41 → (ini7 j = 0 ∧ defaultValue (tyX7 j) = .int 0) ∨ (ini7 j = 1 ∧ defaultValue (tyX7 j) = .null) := fun j hj => by
  match j, hj with
  | 0, _ => exact Or.inl ⟨rfl, rfl⟩
  | 1, _ => exact Or.inr ⟨rfl, rfl⟩
  | 2, _ => exact Or.inl ⟨rfl, rfl⟩
  | 3, _ => exact Or.inl ⟨rfl, rfl⟩
  | 4, _ => exact Or.inl ⟨rfl, rfl⟩
  | 5, _ => exact Or.inr ⟨rfl, rfl⟩
  | 6, _ => exact Or.inr ⟨rfl, rfl⟩
  | 7, _ => exact Or.inl ⟨rfl, rfl⟩
  | 8, _ => exact Or.inr ⟨rfl, rfl⟩
  | 9, _ => exact Or.inr ⟨rfl, rfl⟩
  | 10, _ => exact Or.inr ⟨rfl, rfl⟩
  | 11, _ => exact Or.inr ⟨rfl, rfl⟩
  | 12, _ => exact Or.inr ⟨rfl, rfl⟩
  | 13, _ => exact Or.inr ⟨rfl, rfl⟩
  | 14, _ => exact Or.inr ⟨rfl, rfl⟩
  | 15, _ => exact Or.inr ⟨rfl, rfl⟩
  | 16, _ => exact Or.inr ⟨rfl, rfl⟩
  | 17, _ => exact Or.inr ⟨rfl, rfl⟩
  | 18, _ => exact Or.inl ⟨rfl, rfl⟩
  | 19, _ => exact Or.inr ⟨rfl, rfl⟩
  | 20, _ => exact Or.inr ⟨rfl, rfl⟩
  | 21, _ => exact Or.inr ⟨rfl, rfl⟩
  | 22, _ => exact Or.inr ⟨rfl, rfl⟩
  | 23, _ => exact Or.inr ⟨rfl, rfl⟩
  | 24, _ => exact Or.inr ⟨rfl, rfl⟩
  | 25, _ => exact Or.inr ⟨rfl, rfl⟩
  | 26, _ => exact Or.inr ⟨rfl, rfl⟩
  | 27, _ => exact Or.inr ⟨rfl, rfl⟩
  | 28, _ => exact Or.inr ⟨rfl, rfl⟩
  | 29, _ => exact Or.inl ⟨rfl, rfl⟩
  | 30, _ => exact Or.inr ⟨rfl, rfl⟩
  | 31, _ => exact Or.inr ⟨rfl, rfl⟩
  | 32, _ => exact Or.inl ⟨rfl, rfl⟩
  | 33, _ => exact Or.inr ⟨rfl, rfl⟩
  | 34, _ => exact Or.inr ⟨rfl, rfl⟩
  | 35, _ => exact Or.inr ⟨rfl, rfl⟩
  | 36, _ => exact Or.inr ⟨rfl, rfl⟩
  | 37, _ => exact Or.inr ⟨rfl, rfl⟩
  | 38, _ => exact Or.inr ⟨rfl, rfl⟩
  | 39, _ => exact Or.inr ⟨rfl, rfl⟩
  | 40, _ => exact Or.inr ⟨rfl, rfl⟩
  | j + 41, h => exact absurd h (by omega)
theorem ini7_le : ∀ j, ini7 j ≤ 1 := fun j => by
  match j with
  | 0 => exact Nat.zero_le 1
  | 1 => exact Nat.le_refl 1
  | 2 => exact Nat.zero_le 1
  | 3 => exact Nat.zero_le 1
  | 4 => exact Nat.zero_le 1
  | 5 => exact Nat.le_refl 1
  | 6 => exact Nat.le_refl 1
  | 7 => exact Nat.zero_le 1
  | 8 => exact Nat.le_refl 1
  | 9 => exact Nat.le_refl 1
  | 10 => exact Nat.le_refl 1
  | 11 => exact Nat.le_refl 1
  | 12 => exact Nat.le_refl 1
  | 13 => exact Nat.le_refl 1
  | 14 => exact Nat.le_refl 1
  | 15 => exact Nat.le_refl 1
  | 16 => exact Nat.le_refl 1
  | 17 => exact Nat.le_refl 1
  | 18 => exact Nat.zero_le 1
  | 19 => exact Nat.le_refl 1
  | 20 => exact Nat.le_refl 1
  | 21 => exact Nat.le_refl 1
  | 22 => exact Nat.le_refl 1
  | 23 => exact Nat.le_refl 1
  | 24 => exact Nat.le_refl 1
  | 25 => exact Nat.le_refl 1
  | 26 => exact Nat.le_refl 1
  | 27 => exact Nat.le_refl 1
  | 28 => exact Nat.le_refl 1
  | 29 => exact Nat.zero_le 1
  | 30 => exact Nat.le_refl 1
  | 31 => exact Nat.le_refl 1
  | 32 => exact Nat.zero_le 1
  | 33 => exact Nat.le_refl 1
  | 34 => exact Nat.le_refl 1
  | 35 => exact Nat.le_refl 1
  | 36 => exact Nat.le_refl 1
  | 37 => exact Nat.le_refl 1
  | 38 => exact Nat.le_refl 1
  | 39 => exact Nat.le_refl 1
  | 40 => exact Nat.le_refl 1
  | j + 41 => exact Nat.zero_le 1
