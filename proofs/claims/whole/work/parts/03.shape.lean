/-! the shape of all cells that the law makes, in the order of their making: (kind, length, constants). Kinds: 0 int[], 1 boolean[], 2 long[], 3 Cell[] that stays, 4 Cell[] that changes, 5 int[][], 6 + c an object of class c of vwCl. A constant: 0 a number, 1 null, k + 2 the cell k. -/
def vz : Nat → Nat := fun _ => 0
def cA (i : Nat) : Nat := 5 + 3 * i
def csC (i : Nat) : Nat → Nat := fun j => if j = 9 then cA i + 3 else if j = 10 then cA i + 4 else 0
def cs4 : Nat → Nat := fun j => if j < 40 then cA j + 2 else 1
def cs140 : Nat → Nat := fun j => if j < 16 then 143 + j else 1
def cs0 : Nat → Nat := fun j => ([3, 127, 131, 141, 164, 0, 0, 0] : List Nat).getD j 0
def cs1 : Nat → Nat := fun j => ([0, 0, 0, 0, 4, 5, 6] : List Nat).getD j 0
def cs125 : Nat → Nat := fun j => ([128, 3, 129, 130, 0] : List Nat).getD j 0
def cs129 : Nat → Nat := fun j => ([132, 133, 134, 3, 127, 135, 138, 139, 140] : List Nat).getD j 0
def cs133 : Nat → Nat := fun j => ([136, 137] : List Nat).getD j 0
def cs139 : Nat → Nat := fun j => ([0, 142, 3, 127, 159, 160, 161, 162, 163, 0, 0, 0] : List Nat).getD j 0
def cs163 : Nat → Nat := fun j => ([0, 166, 0, 0, 0, 167, 168, 0, 169, 170, 171, 172, 173, 174, 175, 176, 177, 178, 0, 179, 180, 181, 182, 183, 184, 185, 186, 187, 188, 0, 189, 190, 0, 191, 192, 193, 194, 195, 196, 197, 198] : List Nat).getD j 0
def SHa : List (Nat × Nat × (Nat → Nat)) := [(12, 8, cs0), (7, 7, cs1), (0, 6, vz), (0, 10, vz), (3, 40, cs4)]
def SHb : List (Nat × Nat × (Nat → Nat)) := [(8, 5, cs125), (0, 16, vz), (0, 16, vz), (4, 40, vz), (11, 9, cs129), (0, 6, vz), (0, 6, vz), (0, 6, vz), (10, 2, cs133), (0, 6, vz), (0, 6, vz), (0, 6, vz), (0, 6, vz), (0, 6, vz), (9, 12, cs139), (5, 16, cs140), (0, 4, vz), (0, 4, vz), (0, 4, vz), (0, 4, vz), (0, 4, vz), (0, 4, vz), (0, 4, vz), (0, 4, vz), (0, 4, vz), (0, 4, vz), (0, 4, vz), (0, 4, vz), (0, 4, vz), (0, 4, vz), (0, 4, vz), (0, 4, vz), (0, 16, vz), (0, 16, vz), (0, 17, vz), (0, 17, vz), (0, 17, vz), (0, 7, vz)]
def SHm : List (Nat × Nat × (Nat → Nat)) := [(13, 41, cs163), (0, 7, vz), (0, 6, vz), (0, 10, vz), (0, 40, vz), (0, 40, vz), (0, 40, vz), (0, 40, vz), (0, 40, vz), (1, 40, vz), (0, 40, vz), (0, 480, vz), (0, 40, vz), (0, 40, vz), (0, 12, vz), (0, 6, vz), (0, 6, vz), (0, 6, vz), (0, 6, vz), (0, 6, vz), (0, 6, vz), (0, 6, vz), (0, 16, vz), (0, 16, vz), (0, 6, vz), (0, 6, vz), (0, 16, vz), (0, 16, vz), (0, 16, vz), (0, 16, vz), (0, 16, vz), (0, 17, vz), (2, 17, vz), (0, 17, vz)]
def SH (a : Nat) : Nat × Nat × (Nat → Nat) := if a < 5 then SHa.getD a (0, 0, vz) else if a < 125 then (if (a - 5) % 3 = 0 then (6, 11, csC ((a - 5) / 3)) else if (a - 5) % 3 = 1 then (0, 12, vz) else (0, 252, vz)) else if a < 163 then SHb.getD (a - 125) (0, 0, vz) else SHm.getD (a - 163) (0, 0, vz)
theorem sh_0 : SH 0 = (12, 8, cs0) := rfl
theorem sh_1 : SH 1 = (7, 7, cs1) := rfl
theorem sh_2 : SH 2 = (0, 6, vz) := rfl
theorem sh_3 : SH 3 = (0, 10, vz) := rfl
theorem sh_4 : SH 4 = (3, 40, cs4) := rfl
theorem sh_125 : SH 125 = (8, 5, cs125) := rfl
theorem sh_126 : SH 126 = (0, 16, vz) := rfl
theorem sh_127 : SH 127 = (0, 16, vz) := rfl
theorem sh_128 : SH 128 = (4, 40, vz) := rfl
theorem sh_129 : SH 129 = (11, 9, cs129) := rfl
theorem sh_130 : SH 130 = (0, 6, vz) := rfl
theorem sh_131 : SH 131 = (0, 6, vz) := rfl
theorem sh_132 : SH 132 = (0, 6, vz) := rfl
theorem sh_133 : SH 133 = (10, 2, cs133) := rfl
theorem sh_134 : SH 134 = (0, 6, vz) := rfl
theorem sh_135 : SH 135 = (0, 6, vz) := rfl
theorem sh_136 : SH 136 = (0, 6, vz) := rfl
theorem sh_137 : SH 137 = (0, 6, vz) := rfl
theorem sh_138 : SH 138 = (0, 6, vz) := rfl
theorem sh_139 : SH 139 = (9, 12, cs139) := rfl
theorem sh_140 : SH 140 = (5, 16, cs140) := rfl
theorem sh_141 : SH 141 = (0, 4, vz) := rfl
theorem sh_142 : SH 142 = (0, 4, vz) := rfl
theorem sh_143 : SH 143 = (0, 4, vz) := rfl
theorem sh_144 : SH 144 = (0, 4, vz) := rfl
theorem sh_145 : SH 145 = (0, 4, vz) := rfl
theorem sh_146 : SH 146 = (0, 4, vz) := rfl
theorem sh_147 : SH 147 = (0, 4, vz) := rfl
theorem sh_148 : SH 148 = (0, 4, vz) := rfl
theorem sh_149 : SH 149 = (0, 4, vz) := rfl
theorem sh_150 : SH 150 = (0, 4, vz) := rfl
theorem sh_151 : SH 151 = (0, 4, vz) := rfl
theorem sh_152 : SH 152 = (0, 4, vz) := rfl
theorem sh_153 : SH 153 = (0, 4, vz) := rfl
theorem sh_154 : SH 154 = (0, 4, vz) := rfl
theorem sh_155 : SH 155 = (0, 4, vz) := rfl
theorem sh_156 : SH 156 = (0, 4, vz) := rfl
theorem sh_157 : SH 157 = (0, 16, vz) := rfl
theorem sh_158 : SH 158 = (0, 16, vz) := rfl
theorem sh_159 : SH 159 = (0, 17, vz) := rfl
theorem sh_160 : SH 160 = (0, 17, vz) := rfl
theorem sh_161 : SH 161 = (0, 17, vz) := rfl
theorem sh_162 : SH 162 = (0, 7, vz) := rfl
theorem sh_163 : SH 163 = (13, 41, cs163) := rfl
theorem sh_164 : SH 164 = (0, 7, vz) := rfl
theorem sh_165 : SH 165 = (0, 6, vz) := rfl
theorem sh_166 : SH 166 = (0, 10, vz) := rfl
theorem sh_167 : SH 167 = (0, 40, vz) := rfl
theorem sh_168 : SH 168 = (0, 40, vz) := rfl
theorem sh_169 : SH 169 = (0, 40, vz) := rfl
theorem sh_170 : SH 170 = (0, 40, vz) := rfl
theorem sh_171 : SH 171 = (0, 40, vz) := rfl
theorem sh_172 : SH 172 = (1, 40, vz) := rfl
theorem sh_173 : SH 173 = (0, 40, vz) := rfl
theorem sh_174 : SH 174 = (0, 480, vz) := rfl
theorem sh_175 : SH 175 = (0, 40, vz) := rfl
theorem sh_176 : SH 176 = (0, 40, vz) := rfl
theorem sh_177 : SH 177 = (0, 12, vz) := rfl
theorem sh_178 : SH 178 = (0, 6, vz) := rfl
theorem sh_179 : SH 179 = (0, 6, vz) := rfl
theorem sh_180 : SH 180 = (0, 6, vz) := rfl
theorem sh_181 : SH 181 = (0, 6, vz) := rfl
theorem sh_182 : SH 182 = (0, 6, vz) := rfl
theorem sh_183 : SH 183 = (0, 6, vz) := rfl
theorem sh_184 : SH 184 = (0, 6, vz) := rfl
theorem sh_185 : SH 185 = (0, 16, vz) := rfl
theorem sh_186 : SH 186 = (0, 16, vz) := rfl
theorem sh_187 : SH 187 = (0, 6, vz) := rfl
theorem sh_188 : SH 188 = (0, 6, vz) := rfl
theorem sh_189 : SH 189 = (0, 16, vz) := rfl
theorem sh_190 : SH 190 = (0, 16, vz) := rfl
theorem sh_191 : SH 191 = (0, 16, vz) := rfl
theorem sh_192 : SH 192 = (0, 16, vz) := rfl
theorem sh_193 : SH 193 = (0, 16, vz) := rfl
theorem sh_194 : SH 194 = (0, 17, vz) := rfl
theorem sh_195 : SH 195 = (2, 17, vz) := rfl
theorem sh_196 : SH 196 = (0, 17, vz) := rfl
theorem sh_C {i : Nat} (hi : i < 40) : SH (cA i) = (6, 11, csC i) := by
  have h1 : ¬ cA i < 5 := by unfold cA; omega
  have h2 : cA i < 125 := by unfold cA; omega
  have h3 : (cA i - 5) % 3 = 0 := by unfold cA; omega
  have h4 : (cA i - 5) / 3 = i := by unfold cA; omega
  unfold SH
  rw [if_neg h1, if_pos h2, if_pos h3, h4]
theorem sh_L {i : Nat} (hi : i < 40) : SH (cA i + 1) = (0, 12, vz) := by
  have h1 : ¬ cA i + 1 < 5 := by unfold cA; omega
  have h2 : cA i + 1 < 125 := by unfold cA; omega
  have h3 : ¬ (cA i + 1 - 5) % 3 = 0 := by unfold cA; omega
  have h4 : (cA i + 1 - 5) % 3 = 1 := by unfold cA; omega
  unfold SH
  rw [if_neg h1, if_pos h2, if_neg h3, if_pos h4]
theorem sh_K {i : Nat} (hi : i < 40) : SH (cA i + 2) = (0, 252, vz) := by
  have h1 : ¬ cA i + 2 < 5 := by unfold cA; omega
  have h2 : cA i + 2 < 125 := by unfold cA; omega
  have h3 : ¬ (cA i + 2 - 5) % 3 = 0 := by unfold cA; omega
  have h4 : ¬ (cA i + 2 - 5) % 3 = 1 := by unfold cA; omega
  unfold SH
  rw [if_neg h1, if_pos h2, if_neg h3, if_neg h4]
theorem sh_F {i : Nat} (hi : i < 16) : SH (141 + i) = (0, 4, vz) := by
  have h : ∀ i, i < 16 → SH (141 + i) = (0, 4, vz) := by
    intro i hi
    match i, hi with
    | 0, _ => rfl
    | 1, _ => rfl
    | 2, _ => rfl
    | 3, _ => rfl
    | 4, _ => rfl
    | 5, _ => rfl
    | 6, _ => rfl
    | 7, _ => rfl
    | 8, _ => rfl
    | 9, _ => rfl
    | 10, _ => rfl
    | 11, _ => rfl
    | 12, _ => rfl
    | 13, _ => rfl
    | 14, _ => rfl
    | 15, _ => rfl
    | n + 16, h => exact absurd h (by omega)
  exact h i hi
def vSZ : Nat → Nat
  | 0 => 0
  | n + 1 => vSZ n + (SH n).2.1
theorem vSZ_mono {a b : Nat} (h : a ≤ b) : vSZ a ≤ vSZ b := by
  induction h with
  | refl => exact Nat.le_refl _
  | step _ ih => exact Nat.le_trans ih (Nat.le_add_right _ _)
theorem vSZ_lt {a b : Nat} (h : a < b) : vSZ a + (SH a).2.1 ≤ vSZ b := vSZ_mono (a := a + 1) h
theorem vSZ_all : vSZ 197 = 12522 := by decide +kernel
theorem cA_lt {i : Nat} (hi : i < 40) : cA i < 125 := by unfold cA; omega
