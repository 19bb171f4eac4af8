/-! the class's heights: cells in order, one walk -/
def gdT (T : tT) (s k : Nat) : Prop := T 172 k = 0 ∧ T 170 k = s ∧ 0 < T 173 k
def stg (T : tT) (s : Nat) : Nat → List Nat
  | 0 => []
  | k + 1 => if T 172 k = 0 ∧ T 170 k = s ∧ 0 < T 173 k then stg T s k ++ [k] else stg T s k
def allO (T : tT) : Nat → List Nat
  | 0 => []
  | s + 1 => allO T s ++ stg T (s + 1) (T 163 7)
def cnB (p : Nat → Bool) : Nat → Nat
  | 0 => 0
  | n + 1 => if p n = true then cnB p n + 1 else cnB p n
theorem cnB_le (p : Nat → Bool) (n : Nat) : cnB p n ≤ n := by
  induction n with
  | zero => exact Nat.le_refl _
  | succ n ih => unfold cnB; split <;> omega
theorem cnB_add {p q r : Nat → Bool} {n : Nat} (h : ∀ i, i < n → (p i = true → q i = true → False) ∧ (r i = true ↔ p i = true ∨ q i = true)) : cnB p n + cnB q n = cnB r n := by
  induction n with
  | zero => rfl
  | succ n ih =>
    have h1 := ih (fun i hi => h i (by omega))
    obtain ⟨h2, h3⟩ := h n (by omega)
    unfold cnB
    by_cases hp : p n = true
    · have hq : ¬ q n = true := fun z => h2 hp z
      rw [if_pos hp, if_neg hq, if_pos (h3.mpr (Or.inl hp))]
      omega
    · by_cases hq : q n = true
      · rw [if_neg hp, if_pos hq, if_pos (h3.mpr (Or.inr hq))]
        omega
      · rw [if_neg hp, if_neg hq, if_neg (fun z => by rcases h3.mp z with z | z <;> contradiction)]
        exact h1
theorem cnB_mono {p : Nat → Bool} {k n : Nat} (h : k ≤ n) : cnB p k ≤ cnB p n := by
  induction h with
  | refl => exact Nat.le_refl _
  | step _ ih =>
    refine Nat.le_trans ih ?_
    conv => rhs; unfold cnB
    split <;> omega
theorem stg_len (T : tT) (s k : Nat) : (stg T s k).length = cnB (fun k => decide (T 172 k = 0 ∧ T 170 k = s ∧ 0 < T 173 k)) k := by
  induction k with
  | zero => rfl
  | succ k ih =>
    unfold stg cnB
    by_cases h : T 172 k = 0 ∧ T 170 k = s ∧ 0 < T 173 k
    · rw [if_pos h, if_pos (by simpa using h), List.length_append, ih]; rfl
    · rw [if_neg h, if_neg (by simpa using h), ih]
theorem allO_len (T : tT) (s : Nat) : (allO T s).length = cnB (fun k => decide (T 172 k = 0 ∧ (1 ≤ T 170 k ∧ T 170 k ≤ s) ∧ 0 < T 173 k)) (T 163 7) := by
  induction s with
  | zero =>
    have : ∀ n, cnB (fun k => decide (T 172 k = 0 ∧ (1 ≤ T 170 k ∧ T 170 k ≤ 0) ∧ 0 < T 173 k)) n = 0 := by
      intro n
      induction n with
      | zero => rfl
      | succ n ih =>
        unfold cnB
        rw [if_neg (by simp only [decide_eq_true_eq]; omega), ih]
    rw [this]
    rfl
  | succ s ih =>
    show (allO T s ++ stg T (s + 1) (T 163 7)).length = _
    rw [List.length_append, ih, stg_len]
    refine cnB_add (fun i _ => ⟨fun h1 h2 => ?_, ?_⟩)
    · simp only [decide_eq_true_eq] at h1 h2; omega
    · simp only [decide_eq_true_eq]; omega
theorem ord_len (T : tT) {s k : Nat} (hk : k < T 163 7) (hg : T 172 k = 0 ∧ T 170 k = s + 1 ∧ 0 < T 173 k) : (allO T s ++ stg T (s + 1) k).length < T 163 7 := by
  have h1 : (allO T (s + 1)).length ≤ T 163 7 := by rw [allO_len]; exact cnB_le _ _
  have h2 : (stg T (s + 1) (k + 1)).length ≤ (stg T (s + 1) (T 163 7)).length := by rw [stg_len, stg_len]; exact cnB_mono hk
  have h3 : (stg T (s + 1) (k + 1)).length = (stg T (s + 1) k).length + 1 := by
    show (if _ then _ else _ : List Nat).length = _
    rw [if_pos hg, List.length_append]; rfl
  have h4 : (allO T (s + 1)).length = (allO T s).length + (stg T (s + 1) (T 163 7)).length := by
    show (allO T s ++ stg T (s + 1) (T 163 7)).length = _
    rw [List.length_append]
  rw [List.length_append]
  omega
theorem stg_mem {T : tT} {s : Nat} : ∀ k x, x ∈ stg T s k → x < k ∧ T 172 x = 0 ∧ T 170 x = s ∧ 0 < T 173 x := by
  intro k
  induction k with
  | zero => intro x h; cases h
  | succ k ih =>
    intro x h
    unfold stg at h
    split at h
    · rename_i hq
      rcases List.mem_append.mp h with h | h
      · have := ih x h; exact ⟨by omega, this.2⟩
      · rw [List.mem_singleton] at h; subst h; exact ⟨Nat.lt_succ_self _, hq⟩
    · have := ih x h; exact ⟨by omega, this.2⟩
theorem allO_mem {T : tT} : ∀ s x, x ∈ allO T s → x < T 163 7 := by
  intro s
  induction s with
  | zero => intro x h; cases h
  | succ s ih =>
    intro x h
    rcases List.mem_append.mp h with h | h
    · exact ih x h
    · exact (stg_mem _ x h).1
theorem allO_at {T : tT} {s S j : Nat} (h : s < S) (hj : j < (stg T (s + 1) (T 163 7)).length) : (allO T S)[(allO T s).length + j]? = (stg T (s + 1) (T 163 7))[j]? := by
  have h1 : (allO T (s + 1))[(allO T s).length + j]? = (stg T (s + 1) (T 163 7))[j]? := by
    show (allO T s ++ stg T (s + 1) (T 163 7))[(allO T s).length + j]? = _
    rw [List.getElem?_append_right (by omega)]
    congr 1
    omega
  have h2 : ∀ d, (allO T (s + 1 + d))[(allO T s).length + j]? = (allO T (s + 1))[(allO T s).length + j]? := by
    intro d
    induction d with
    | zero => rfl
    | succ d ih =>
      rw [← ih]
      show (allO T (s + 1 + d) ++ stg T (s + 1 + d + 1) (T 163 7))[(allO T s).length + j]? = _
      rw [List.getElem?_append_left]
      have h3 : ∀ d, (allO T (s + 1)).length ≤ (allO T (s + 1 + d)).length := by
        intro d
        induction d with
        | zero => exact Nat.le_refl _
        | succ d ih => exact Nat.le_trans ih (by show _ ≤ (allO T (s + 1 + d) ++ _).length; rw [List.length_append]; omega)
      have h4 : (allO T (s + 1)).length = (allO T s).length + (stg T (s + 1) (T 163 7)).length := by
        show (allO T s ++ stg T (s + 1) (T 163 7)).length = _
        rw [List.length_append]
      have := h3 d
      omega
  rw [show S = s + 1 + (S - (s + 1)) by omega, h2, h1]
def Ord (m : vM) (L : List Nat) : Prop := m.1 125 4 = nI L.length ∧ ∀ i x, L[i]? = some x → m.1 128 i = nI (cA x + 1)
def butS (m m1 : vM) : Prop := (∀ a, a ≠ 125 → a ≠ 128 → m1.1 a = m.1 a) ∧ (∀ j, j ≠ 4 → m1.1 125 j = m.1 125 j) ∧ m1.2 = m.2
theorem butS.rfl' {m : vM} : butS m m := ⟨fun _ _ _ => rfl, fun _ _ => rfl, rfl⟩
theorem butS.trans {m m1 m2 : vM} (h : butS m m1) (h2 : butS m1 m2) : butS m m2 := ⟨fun a x y => (h2.1 a x y).trans (h.1 a x y), fun j x => (h2.2.1 j x).trans (h.2.1 j x), h2.2.2.trans h.2.2⟩
theorem butS.agr {m m1 : vM} (h : butS m m1) : agr m m1 := by
  intro a j hs
  by_cases h1 : a = 125
  · subst h1
    refine h.2.1 j (fun e => ?_)
    subst e
    cases hs
  · by_cases h2 : a = 128
    · subst h2; cases hs
    · rw [h.1 a h1 h2]
section CSO
variable {m : vM} {T : tT}
theorem c_X2_sortCells (hV : Vw m T) {P : vM → Prop} (hp : ∀ m1, butS m m1 → Ord m1 (allO T (T 163 2)) → P m1) : EI_X2_sortCells m P := by
  have hR := hV.R
  have h40 := hV.E40
  refine f_X2_sortCells (b_X2_sortCells_0 ?_)
  unfold wp_X2_sortCells_0
  rintro m0 em0
  have hb0 : butS m m0 := by
    rw [em0]
    exact ⟨fun a x y => upI_o _ _ _ _ _ x, fun j hj => upI_n _ _ _ _ _ _ (Or.inr hj), rfl⟩
  have hO0 : Ord m0 (allO T 0) := ⟨by rw [em0, upI_s]; rfl, fun i x h => by cases h⟩
  refine loop_up (Q := fun s => ∀ mm : vM, Vw mm T → butS m mm → Ord mm (allO T s) → J_X2_sortCells_7 (nI (s + 1)) mm P) (n := T 163 2) ?_ (fun s hs ih => ?_) 0 (Nat.zero_le _) m0 (hV.agr hb0.agr) hb0 hO0
  · intro mm hVm hb hO
    refine b_X2_sortCells_7 ?_
    unfold wp_X2_sortCells_7
    rw [hVm.xR]
    exact ⟨fun _ => hp mm hb hO, fun h => absurd (nI_lt (by omega) (by omega)) h⟩
  · intro mm hVm hb hO
    refine b_X2_sortCells_7 ?_
    unfold wp_X2_sortCells_7
    rw [hVm.xR]
    refine ⟨fun h => absurd h (nI_nlt (by omega) (by omega)), fun _ => ?_⟩
    refine loop_up (Q := fun k => ∀ mk : vM, Vw mk T → butS m mk → Ord mk (allO T s ++ stg T (s + 1) k) → J_X2_sortCells_20 (nI (s + 1)) (nI k) mk P) (n := T 163 7) ?_ (fun k hk ihk => ?_) 0 (Nat.zero_le _) mm hVm hb (by rw [show stg T (s + 1) 0 = [] from rfl, List.append_nil]; exact hO)
    · intro mk hVk hbk hOk
      refine b_X2_sortCells_20 ?_
      unfold wp_X2_sortCells_20
      rw [hVk.xE, ad1I]
      exact ⟨fun _ => ih mk hVk hbk hOk, fun h => absurd (nI_le (Nat.le_refl _) (by omega)) h⟩
    · intro mk hVk hbk hOk
      refine b_X2_sortCells_20 ?_
      unfold wp_X2_sortCells_20
      have es : stg T (s + 1) (k + 1) = if T 172 k = 0 ∧ T 170 k = s + 1 ∧ 0 < T 173 k then stg T (s + 1) k ++ [k] else stg T (s + 1) k := rfl
      obtain ⟨d1, d2, d3, d4, d5, d6, d7, -⟩ := hV.cell hk
      have hxk := hVk.xc hk
      have skip : ¬ (T 172 k = 0 ∧ T 170 k = s + 1 ∧ 0 < T 173 k) → J_X2_sortCells_20 (nI (s + 1)) (nI (k + 1)) mk P := by
        intro hq
        rw [if_neg hq] at es
        exact ihk mk hVk hbk (by rw [es]; exact hOk)
      rw [hVk.xE]
      simp only [ad1I]
      refine ⟨fun h => absurd h (nI_ge hk (by omega)), fun _ => ?_⟩
      refine c_X1_present hVk hk (fun hgn => ⟨fun h => (by cases h), fun i2 hi2 h => ?_⟩) (fun hgn => ⟨fun _ => skip (fun z => hgn z.1), fun i2 _ h => (by cases h)⟩)
      cases h
      rw [hxk.2.2.2.1, hxk.2.2.2.2.2.2.2.1, eqI (a := T 170 k) (by omega) (by omega), le0I (by omega), hOk.1]
      refine ⟨fun hsk => ⟨fun h0 => skip (fun z => by omega), fun h0 => ?_⟩, fun hsk => skip (fun z => hsk z.2.1)⟩
      have hgd : T 172 k = 0 ∧ T 170 k = s + 1 ∧ 0 < T 173 k := ⟨hgn, hsk, by omega⟩
      have hlen := ord_len T hk hgd
      rw [if_pos hgd, ] at es
      refine ⟨fun h => absurd h (nI_ge (b := 40) (by omega) (by omega)), fun _ => ⟨vI (by omega) (by omega), ?_⟩⟩
      rw [clI _ (by omega)]
      rintro _ rfl _ rfl
      have hb5 : butS mk (upI (upI mk 128 (allO T s ++ stg T (s + 1) k).length (nI (cA k + 1))) 125 4 ((upI mk 128 (allO T s ++ stg T (s + 1) k).length (nI (cA k + 1))).1 125 4 + 1)) := ⟨fun a x y => (upI_o _ _ _ _ _ x).trans (upI_o _ _ _ _ _ y), fun j hj => (upI_n _ _ _ _ _ _ (Or.inr hj)).trans (by rw [upI_o _ _ _ _ _ (by decide)]), rfl⟩
      refine ihk _ (hVk.agr hb5.agr) (hbk.trans hb5) ?_
      rw [es, ← List.append_assoc]
      refine ⟨?_, fun i x hx => ?_⟩
      · rw [upI_s, upI_o _ _ _ _ _ (by decide), hOk.1, ad1I, List.length_append (bs := [k])]; rfl
      · rw [upI_o _ _ _ _ _ (by decide)]
        by_cases hi : i < (allO T s ++ stg T (s + 1) k).length
        · rw [List.getElem?_append_left hi] at hx
          rw [upI_n _ _ _ _ _ _ (Or.inr (by omega))]
          exact hOk.2 i x hx
        · have hi2 : i = (allO T s ++ stg T (s + 1) k).length := by
            have := (List.getElem?_eq_some_iff.mp hx).1
            rw [List.length_append (bs := [k])] at this
            have e1 : ([k] : List Nat).length = 1 := rfl
            omega
          subst hi2
          rw [List.getElem?_append_right (Nat.le_refl _), Nat.sub_self] at hx
          cases hx
          rw [upI_s]
end CSO
