/-! what both tables are: T a j, by the check's own places; V: both memories hold T -/
abbrev tT : Type := Nat → Nat → Nat
def CellT (T : tT) (k : Nat) : Prop := T 167 k ≤ 3 ∧ 1 ≤ T 170 k ∧ T 168 k + T 170 k ≤ T 163 2 ∧ 1 ≤ T 171 k ∧ T 169 k + T 171 k ≤ T 163 3 ∧ T 172 k ≤ 1 ∧ T 173 k ≤ 12 ∧ T 175 k ≤ 1023 ∧ (1 ≤ T 176 k ∧ T 176 k ≤ 60) ∧ ∀ i, i < T 173 k → 1 ≤ T 174 (12 * k + i) ∧ T 174 (12 * k + i) ≤ 20
def ovl (T : tT) (k r c h w : Nat) : Prop := r < T 168 k + T 170 k ∧ T 168 k < r + h ∧ c < T 169 k + T 171 k ∧ T 169 k < c + w
def Tok (T : tT) : Prop := (1 ≤ T 163 2 ∧ T 163 2 ≤ 16) ∧ (1 ≤ T 163 3 ∧ T 163 3 ≤ 6) ∧ T 163 4 ≤ 3 ∧ T 163 7 ≤ 40 ∧ (∀ c, c < 6 → 1 ≤ T 165 c ∧ T 165 c ≤ 9) ∧ (∀ k, k < 10 → 1 ≤ T 166 k ∧ T 166 k ≤ 6) ∧ (∀ k, k < T 163 7 → CellT T k) ∧ ∀ j k, j < T 163 7 → k < T 163 7 → T 172 j = 0 → T 172 k = 0 → ovl T j (T 168 k) (T 169 k) (T 170 k) (T 171 k) → j = k
def VH (m : vM) (T : tT) : Prop := m.1 1 0 = nI (T 163 2) ∧ m.1 1 1 = nI (T 163 3) ∧ m.1 1 2 = nI (T 163 4) ∧ m.1 1 3 = nI (T 163 7) ∧ m.1 163 2 = nI (T 163 2) ∧ m.1 163 3 = nI (T 163 3) ∧ m.1 163 4 = nI (T 163 4) ∧ m.1 163 7 = nI (T 163 7) ∧ (∀ c, c < 6 → m.1 2 c = nI (T 165 c) ∧ m.1 165 c = nI (T 165 c)) ∧ ∀ k, k < 10 → m.1 3 k = nI (T 166 k) ∧ m.1 166 k = nI (T 166 k)
def VCx (m : vM) (T : tT) (k : Nat) : Prop := m.1 (cA k) 0 = nI (T 167 k) ∧ m.1 (cA k) 1 = nI (T 168 k) ∧ m.1 (cA k) 2 = nI (T 169 k) ∧ m.1 (cA k) 3 = nI (T 170 k) ∧ m.1 (cA k) 4 = nI (T 171 k) ∧ m.1 (cA k) 5 = nI (T 175 k) ∧ m.1 (cA k) 6 = nI (T 176 k) ∧ m.1 (cA k) 7 = nI (T 173 k) ∧ m.1 (cA k) 8 = nI (T 172 k) ∧ ∀ i, i < T 173 k → m.1 (cA k + 1) i = nI (T 174 (12 * k + i))
def VCm (m : vM) (T : tT) (k : Nat) : Prop := m.1 167 k = nI (T 167 k) ∧ m.1 168 k = nI (T 168 k) ∧ m.1 169 k = nI (T 169 k) ∧ m.1 170 k = nI (T 170 k) ∧ m.1 171 k = nI (T 171 k) ∧ m.1 175 k = nI (T 175 k) ∧ m.1 176 k = nI (T 176 k) ∧ m.1 173 k = nI (T 173 k) ∧ m.1 172 k = nI (T 172 k) ∧ ∀ i, i < T 173 k → m.1 174 (12 * k + i) = nI (T 174 (12 * k + i))
def Vw (m : vM) (T : tT) : Prop := Tok T ∧ VH m T ∧ ∀ k, k < T 163 7 → VCx m T k ∧ VCm m T k
section VWA
variable {m : vM} {T : tT}
theorem Vw.tok (h : Vw m T) : Tok T := h.1
theorem Vw.E40 (h : Vw m T) : T 163 7 ≤ 40 := h.1.2.2.2.1
theorem Vw.R (h : Vw m T) : 1 ≤ T 163 2 ∧ T 163 2 ≤ 16 := h.1.1
theorem Vw.C (h : Vw m T) : 1 ≤ T 163 3 ∧ T 163 3 ≤ 6 := h.1.2.1
theorem Vw.g (h : Vw m T) : T 163 4 ≤ 3 := h.1.2.2.1
theorem Vw.cell (h : Vw m T) {k : Nat} (hk : k < T 163 7) : CellT T k := h.1.2.2.2.2.2.2.1 k hk
theorem Vw.xE (h : Vw m T) : m.1 1 3 = nI (T 163 7) := h.2.1.2.2.2.1
theorem Vw.mE (h : Vw m T) : m.1 163 7 = nI (T 163 7) := h.2.1.2.2.2.2.2.2.2.1
theorem Vw.xR (h : Vw m T) : m.1 1 0 = nI (T 163 2) := h.2.1.1
theorem Vw.mR (h : Vw m T) : m.1 163 2 = nI (T 163 2) := h.2.1.2.2.2.2.1
theorem Vw.xC (h : Vw m T) : m.1 1 1 = nI (T 163 3) := h.2.1.2.1
theorem Vw.mC (h : Vw m T) : m.1 163 3 = nI (T 163 3) := h.2.1.2.2.2.2.2.1
theorem Vw.xg (h : Vw m T) : m.1 1 2 = nI (T 163 4) := h.2.1.2.2.1
theorem Vw.mg (h : Vw m T) : m.1 163 4 = nI (T 163 4) := h.2.1.2.2.2.2.2.2.1
theorem Vw.w (h : Vw m T) {c : Nat} (hc : c < 6) : m.1 2 c = nI (T 165 c) ∧ m.1 165 c = nI (T 165 c) := h.2.1.2.2.2.2.2.2.2.2.1 c hc
theorem Vw.nt (h : Vw m T) {k : Nat} (hk : k < 10) : m.1 3 k = nI (T 166 k) ∧ m.1 166 k = nI (T 166 k) := h.2.1.2.2.2.2.2.2.2.2.2 k hk
theorem Vw.xc (h : Vw m T) {k : Nat} (hk : k < T 163 7) : VCx m T k := (h.2.2 k hk).1
theorem Vw.mc (h : Vw m T) {k : Nat} (hk : k < T 163 7) : VCm m T k := (h.2.2 k hk).2
end VWA
/-! working places: they may change between calls -/
def scr (a j : Nat) : Bool := (126 ≤ a && a ≤ 128) || a == 131 || a == 132 || (134 ≤ a && a ≤ 138) || (157 ≤ a && a ≤ 161) || (177 ≤ a && a ≤ 180) || (182 ≤ a && a ≤ 188) || (194 ≤ a && a ≤ 196) || (a == 125 && j == 4) || (a == 139 && 9 ≤ j) || (5 ≤ a && a < 125 && (a - 5) % 3 == 2)
def agr (m m1 : vM) : Prop := ∀ a j, scr a j = false → m1.1 a j = m.1 a j
theorem agr.rfl' {m : vM} : agr m m := fun _ _ _ => rfl
theorem agr.trans {m m1 m2 : vM} (h : agr m m1) (h2 : agr m1 m2) : agr m m2 := fun a j hs => (h2 a j hs).trans (h a j hs)
theorem agr_upI {m : vM} {a j : Nat} {v : Int32} (h : scr a j = true) : agr m (upI m a j v) := by
  intro b k hs
  rw [upI_n]
  by_cases hb : b = a
  · right; intro hk; subst hb; subst hk; rw [h] at hs; cases hs
  · exact Or.inl hb
theorem agr_upA {m : vM} {a : Nat} {f : Nat → Int32} (h : ∀ j, scr a j = true) : agr m (upA m a f) := by
  intro b k hs
  have hb : b ≠ a := fun e => by subst e; rw [h k] at hs; cases hs
  simp [upA, hb]
theorem agr_fill {m : vM} {a len : Nat} {v : Int32} (h : ∀ j, scr a j = true) : agr m (fillA m a len v) := agr_upA h
theorem agr_upL {m : vM} {a j : Nat} {v : Int64} : agr m (upL m a j v) := fun _ _ _ => rfl
theorem scr_cA {k j : Nat} (hk : k < 40) : scr (cA k) j = false := by
  unfold scr cA
  simp only [Bool.or_eq_false_iff, Bool.and_eq_false_iff, beq_eq_false_iff_ne, decide_eq_false_iff_not, ne_eq]
  omega
theorem scr_cL {k j : Nat} (hk : k < 40) : scr (cA k + 1) j = false := by
  unfold scr cA
  simp only [Bool.or_eq_false_iff, Bool.and_eq_false_iff, beq_eq_false_iff_ne, decide_eq_false_iff_not, ne_eq]
  omega
theorem scr_cK {k j : Nat} (hk : k < 40) : scr (cA k + 2) j = true := by
  unfold scr cA
  simp only [Bool.or_eq_true, Bool.and_eq_true, beq_iff_eq, decide_eq_true_eq]
  omega
theorem Vw.agr {m m1 : vM} {T : tT} (h : Vw m T) (ha : agr m m1) : Vw m1 T := by
  have h40 := h.E40
  refine ⟨h.1, ?_, fun k hk => ?_⟩
  · obtain ⟨a1, a2, a3, a4, a5, a6, a7, a8, a9, a10⟩ := h.2.1
    refine ⟨(ha _ _ rfl).trans a1, (ha _ _ rfl).trans a2, (ha _ _ rfl).trans a3, (ha _ _ rfl).trans a4, (ha _ _ rfl).trans a5, (ha _ _ rfl).trans a6, (ha _ _ rfl).trans a7, (ha _ _ rfl).trans a8, fun c hc => ⟨(ha _ _ rfl).trans (a9 c hc).1, (ha _ _ rfl).trans (a9 c hc).2⟩, fun k hk => ⟨(ha _ _ rfl).trans (a10 k hk).1, (ha _ _ rfl).trans (a10 k hk).2⟩⟩
  · obtain ⟨⟨b0, b1, b2, b3, b4, b5, b6, b7, b8, b9⟩, ⟨c0, c1, c2, c3, c4, c5, c6, c7, c8, c9⟩⟩ := h.2.2 k hk
    have hs : ∀ j, m1.1 (cA k) j = m.1 (cA k) j := fun j => ha _ _ (scr_cA (by omega))
    have hL : ∀ j, m1.1 (cA k + 1) j = m.1 (cA k + 1) j := fun j => ha _ _ (scr_cL (by omega))
    exact ⟨⟨(hs _).trans b0, (hs _).trans b1, (hs _).trans b2, (hs _).trans b3, (hs _).trans b4, (hs _).trans b5, (hs _).trans b6, (hs _).trans b7, (hs _).trans b8, fun i hi => (hL _).trans (b9 i hi)⟩, ⟨(ha _ _ rfl).trans c0, (ha _ _ rfl).trans c1, (ha _ _ rfl).trans c2, (ha _ _ rfl).trans c3, (ha _ _ rfl).trans c4, (ha _ _ rfl).trans c5, (ha _ _ rfl).trans c6, (ha _ _ rfl).trans c7, (ha _ _ rfl).trans c8, fun i hi => (ha _ _ rfl).trans (c9 i hi)⟩⟩
/-! small numbers -/
theorem loop_up {Q : Nat → Prop} {n : Nat} (hend : Q n) (hstep : ∀ i, i < n → Q (i + 1) → Q i) (i : Nat) (hi : i ≤ n) : Q i := by
  have h : ∀ d i, i + d = n → Q i := by
    intro d
    induction d with
    | zero => intro i hi; obtain rfl : i = n := hi; exact hend
    | succ d ih => intro i hi; exact hstep i (by omega) (ih (i + 1) (by omega))
  exact h (n - i) i (by omega)
theorem clI (n : Nat) (h : n < 2 ^ 31) : (nI n).toNatClampNeg = n := nI_clamp h
theorem leI {a b : Nat} (ha : a < 2 ^ 31) (hb : b < 2 ^ 31) : (nI a ≤ nI b) = (a ≤ b) := propext (nI_leI ha hb)
theorem ltI {a b : Nat} (ha : a < 2 ^ 31) (hb : b < 2 ^ 31) : (nI a < nI b) = (a < b) := propext (nI_ltI ha hb)
theorem eqI {a b : Nat} (ha : a < 2 ^ 31) (hb : b < 2 ^ 31) : (nI a = nI b) = (a = b) := propext (nI_eq ha hb)
theorem eq0I {a : Nat} (ha : a < 2 ^ 31) : (nI a = 0) = (a = 0) := by rw [show (0 : Int32) = nI 0 from rfl, eqI ha (by omega)]
theorem le0I {a : Nat} (ha : a < 2 ^ 31) : (nI a ≤ 0) = (a = 0) := by rw [show (0 : Int32) = nI 0 from rfl, leI ha (by omega)]; exact propext (by omega)
theorem ge1I {a : Nat} (ha : a < 2 ^ 31) : ((1 : Int32) ≤ nI a) = (1 ≤ a) := by rw [show (1 : Int32) = nI 1 from rfl, leI (by omega) ha]
theorem lt0I {a : Nat} (ha : a < 2 ^ 31) : (nI a < 0) = False := by rw [show (0 : Int32) = nI 0 from rfl, ltI ha (by omega)]; exact propext ⟨fun h => absurd h (Nat.not_lt_zero _), False.elim⟩
theorem ad1I (a : Nat) : nI a + (1 : Int32) = nI (a + 1) := nI_1 a
theorem adI (a b : Nat) : nI a + nI b = nI (a + b) := nI_add a b
theorem mlI (a b : Nat) : nI a * nI b = nI (a * b) := pk_mul a b
theorem sbI {a b : Nat} (h : b ≤ a) : nI a - nI b = nI (a - b) := pk_sub h
theorem m12I (k : Nat) : (12 : Int32) * nI k = nI (12 * k) := pk_mul 12 k
theorem vI {n N : Nat} (h : n < N) (hN : N < 2 ^ 31) : vp_in (nI n) N := vp_in_nI h hN
theorem upA_o (m : vM) (a b : Nat) (f : Nat → Int32) (h : b ≠ a) : (upA m a f).1 b = m.1 b := by simp [upA, h]
theorem upA_s (m : vM) (a : Nat) (f : Nat → Int32) : (upA m a f).1 a = f := by simp [upA]
theorem fillA_o (m : vM) (a b len : Nat) (v : Int32) (h : b ≠ a) : (fillA m a len v).1 b = m.1 b := upA_o _ _ _ _ h
theorem fillA_s (m : vM) (a len j : Nat) (v : Int32) (h : j < len) : (fillA m a len v).1 a j = v := by unfold fillA; rw [upA_s]; simp [h]
