/-! the plan from each row on: (pages, squares, rows of the first page); rows 0: no way -/
abbrev tP : Type := Nat × Nat × Nat
def goes (T : tT) (B : Nat) (tb : Nat → tP) (e : Nat) : Prop := e = T 163 2 ∨ (brk T B e ∧ 0 < (tb e).2.2)
def fits (T : tT) (H : Nat → Nat) (h B s e : Nat) : Prop := usd T H B s e ≤ h ∧ ¬ alo T H B s e
def nPg (T : tT) (tb : Nat → tP) (e : Nat) : Nat := 1 + if e = T 163 2 then 0 else (tb e).1
def nSq (T : tT) (H : Nat → Nat) (h B : Nat) (tb : Nat → tP) (s e : Nat) : Nat := if e = T 163 2 then 0 else (tb e).2.1 + (h - usd T H B s e) * (h - usd T H B s e)
def btr (p : tP) (n q : Nat) : Prop := p.2.2 = 0 ∨ n < p.1 ∨ (n = p.1 ∧ q ≤ p.2.1)
noncomputable def bst (T : tT) (H : Nat → Nat) (h B : Nat) (tb : Nat → tP) (s : Nat) : Nat → tP
  | 0 => (0, 0, 0)
  | d + 1 => @ite tP (goes T B tb (s + d + 1) ∧ fits T H h B s (s + d + 1) ∧ btr (bst T H h B tb s d) (nPg T tb (s + d + 1)) (nSq T H h B tb s (s + d + 1))) (Classical.propDecidable _) (nPg T tb (s + d + 1), nSq T H h B tb s (s + d + 1), d + 1) (bst T H h B tb s d)
noncomputable def tbl (T : tT) (H : Nat → Nat) (h B : Nat) : Nat → Nat → tP
  | 0 => fun _ => (0, 0, 0)
  | j + 1 => fun x => if x = T 163 2 - 1 - j then bst T H h B (tbl T H h B j) x (j + 1) else tbl T H h B j x
theorem bst_yes {T : tT} {H : Nat → Nat} {h B : Nat} {tb : Nat → tP} {s d : Nat} (hy : goes T B tb (s + d + 1) ∧ fits T H h B s (s + d + 1) ∧ btr (bst T H h B tb s d) (nPg T tb (s + d + 1)) (nSq T H h B tb s (s + d + 1))) : bst T H h B tb s (d + 1) = (nPg T tb (s + d + 1), nSq T H h B tb s (s + d + 1), d + 1) := if_pos hy
theorem bst_no {T : tT} {H : Nat → Nat} {h B : Nat} {tb : Nat → tP} {s d : Nat} (hn : ¬ (goes T B tb (s + d + 1) ∧ fits T H h B s (s + d + 1) ∧ btr (bst T H h B tb s d) (nPg T tb (s + d + 1)) (nSq T H h B tb s (s + d + 1)))) : bst T H h B tb s (d + 1) = bst T H h B tb s d := if_neg hn
/-- what is true of an entry -/
def pOk (T : tT) (B : Nat) (tb : Nat → tP) (s : Nat) (d : Nat) (p : tP) : Prop := (p.2.2 = 0 ∧ p = (0, 0, 0)) ∨ ((1 ≤ p.2.2 ∧ p.2.2 ≤ d) ∧ 1 ≤ p.1 ∧ goes T B tb (s + p.2.2) ∧ p.1 = nPg T tb (s + p.2.2))
theorem bst_ok {T : tT} {H : Nat → Nat} {h B : Nat} {tb : Nat → tP} {s : Nat} : ∀ d, pOk T B tb s d (bst T H h B tb s d) := by
  intro d
  induction d with
  | zero => exact Or.inl ⟨rfl, rfl⟩
  | succ d ih =>
    by_cases hy : goes T B tb (s + d + 1) ∧ fits T H h B s (s + d + 1) ∧ btr (bst T H h B tb s d) (nPg T tb (s + d + 1)) (nSq T H h B tb s (s + d + 1))
    · rw [bst_yes hy]
      refine Or.inr ⟨⟨Nat.succ_le_succ (Nat.zero_le _), Nat.le_refl _⟩, ?_, hy.1, rfl⟩
      show 1 ≤ nPg T tb (s + d + 1)
      unfold nPg
      omega
    · rw [bst_no hy]
      rcases ih with q | ⟨⟨q1, q2⟩, q3⟩
      · exact Or.inl q
      · exact Or.inr ⟨⟨q1, by omega⟩, q3⟩
theorem tbl_s {T : tT} {H : Nat → Nat} {h B j : Nat} : tbl T H h B (j + 1) (T 163 2 - 1 - j) = bst T H h B (tbl T H h B j) (T 163 2 - 1 - j) (j + 1) := if_pos rfl
theorem tbl_o {T : tT} {H : Nat → Nat} {h B j x : Nat} (hx : x ≠ T 163 2 - 1 - j) : tbl T H h B (j + 1) x = tbl T H h B j x := if_neg hx
/-- entries hold later on -/
theorem tbl_keep {T : tT} {H : Nat → Nat} {h B : Nat} {x : Nat} : ∀ i j, i ≤ j → j ≤ T 163 2 → T 163 2 ≤ x + i → tbl T H h B j x = tbl T H h B i x := by
  intro i j hij
  induction hij with
  | refl => intro _ _; rfl
  | @step k hk ih =>
    intro h1 h2
    have hk' : i ≤ k := hk
    rw [tbl_o (x := x) (j := k) (by omega)]
    exact ih (by omega) h2
theorem tbl_len {T : tT} {H : Nat → Nat} {h B : Nat} : ∀ j x, (tbl T H h B j x).2.2 ≤ j := by
  intro j
  induction j with
  | zero => intro x; exact Nat.le_refl _
  | succ j ih =>
    intro x
    by_cases e : x = T 163 2 - 1 - j
    · subst e
      rw [tbl_s]
      rcases bst_ok (T := T) (H := H) (h := h) (B := B) (tb := tbl T H h B j) (s := T 163 2 - 1 - j) (j + 1) with q | q
      · omega
      · exact q.1.2
    · rw [tbl_o e]
      have := ih x
      omega
section PLAN
variable {m : vM} {T : tT}
/-- squares stay small -/
theorem bst_sq {H : Nat → Nat} {h B : Nat} {tb : Nat → tP} {s : Nat} {M : Nat} (hh : h ≤ 200) (ht : ∀ x, s < x → (tb x).2.1 ≤ M) : ∀ d, (bst T H h B tb s d).2.1 ≤ M + 40000 := by
  intro d
  induction d with
  | zero => exact Nat.zero_le _
  | succ d ih =>
    by_cases hy : goes T B tb (s + d + 1) ∧ fits T H h B s (s + d + 1) ∧ btr (bst T H h B tb s d) (nPg T tb (s + d + 1)) (nSq T H h B tb s (s + d + 1))
    · rw [bst_yes hy]
      show nSq T H h B tb s (s + d + 1) ≤ _
      unfold nSq
      have h1 := ht (s + d + 1) (by omega)
      have h2 : (h - usd T H B s (s + d + 1)) * (h - usd T H B s (s + d + 1)) ≤ 200 * 200 := Nat.mul_le_mul (by omega) (by omega)
      split <;> omega
    · rw [bst_no hy]; exact ih
theorem tbl_sq {H : Nat → Nat} {h B : Nat} (hh : h ≤ 200) : ∀ j x, (tbl T H h B j x).2.1 ≤ 40000 * j := by
  intro j
  induction j with
  | zero => intro x; exact Nat.le_refl _
  | succ j ih =>
    intro x
    by_cases e : x = T 163 2 - 1 - j
    · subst e
      rw [tbl_s]
      have := bst_sq (T := T) (H := H) (h := h) (B := B) (tb := tbl T H h B j) (s := T 163 2 - 1 - j) (M := 40000 * j) hh (fun x _ => ih x) (j + 1)
      omega
    · rw [tbl_o e]
      have := ih x
      omega
theorem bst_pg {H : Nat → Nat} {h B : Nat} {tb : Nat → tP} {s : Nat} {M : Nat} (ht : ∀ x, s < x → (tb x).1 ≤ M) : ∀ d, (bst T H h B tb s d).1 ≤ M + 1 := by
  intro d
  induction d with
  | zero => exact Nat.zero_le _
  | succ d ih =>
    by_cases hy : goes T B tb (s + d + 1) ∧ fits T H h B s (s + d + 1) ∧ btr (bst T H h B tb s d) (nPg T tb (s + d + 1)) (nSq T H h B tb s (s + d + 1))
    · rw [bst_yes hy]
      show nPg T tb (s + d + 1) ≤ _
      unfold nPg
      have h1 := ht (s + d + 1) (by omega)
      split <;> omega
    · rw [bst_no hy]; exact ih
theorem tbl_pg {H : Nat → Nat} {h B : Nat} : ∀ j x, (tbl T H h B j x).1 ≤ j := by
  intro j
  induction j with
  | zero => intro x; exact Nat.le_refl _
  | succ j ih =>
    intro x
    by_cases e : x = T 163 2 - 1 - j
    · subst e
      rw [tbl_s]
      exact bst_pg (fun x _ => ih x) (j + 1)
    · rw [tbl_o e]
      have := ih x
      omega
end PLAN
