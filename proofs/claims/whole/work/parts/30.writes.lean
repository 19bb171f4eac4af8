/-! the operations that write the table: T changes at one place -/
def up2 (T : tT) (a j : Nat) (v : Nat) : tT := fun b i => if b = a ∧ i = j then v else T b i
theorem up2_o (T : tT) (a j v b : Nat) (h : b ≠ a) : up2 T a j v b = T b := funext fun i => if_neg (fun z => h z.1)
theorem up2_n (T : tT) (a j v b i : Nat) (h : b ≠ a ∨ i ≠ j) : up2 T a j v b i = T b i := if_neg (fun z => by rcases h with h | h; exact h z.1; exact h z.2)
theorem up2_s (T : tT) (a j v : Nat) : up2 T a j v a j = v := if_pos ⟨rfl, rfl⟩
def oC (a j : Nat) : Bool := (1 ≤ a && a ≤ 3) || (5 ≤ a && a < 125) || (165 ≤ a && a ≤ 176) || (a == 163 && j == 7)
def eqRst (T T' : tT) : Prop := T' 163 2 = T 163 2 ∧ T' 163 3 = T 163 3 ∧ T' 163 32 = T 163 32 ∧ T' 181 = T 181 ∧ T' 189 = T 189 ∧ T' 190 = T 190
theorem InvT.upd {m m1 : vM} {T T' : tT} (h : InvT m T) (hR : eqRst T T') (hb : butO oC m m1) (hV : Vw m1 T') (hK : CK m1 T') : InvT m1 T' := by
  obtain ⟨h1, h2, ⟨a1, a2, a3, a4⟩, h4, ⟨b1, b2, b3, b4, b5⟩⟩ := h
  obtain ⟨r1, r2, r3, r4, r5, r6⟩ := hR
  have hr : ∀ a j, 125 ≤ a → a < 163 ∨ 177 ≤ a → scr a j = false → m1.1 a j = m.1 a j := fun a j h5 h6 hs => hb a j (by
    unfold oC
    simp only [Bool.or_eq_false_iff, Bool.and_eq_false_iff, beq_eq_false_iff_ne, ne_eq, decide_eq_false_iff_not]
    omega) hs
  refine ⟨hV, hK, ⟨?_, fun f x y => ?_, ?_, ?_⟩, fun c hc => ?_, ?_⟩
  · rw [hb 0 5 rfl rfl, hb 163 0 rfl rfl]; exact a1
  · rw [hb 162 f rfl rfl, hb 164 f rfl rfl]; exact a2 f x y
  · rw [hb 0 6 rfl rfl, hb 163 18 rfl rfl]; exact a3
  · rw [hb 0 7 rfl rfl, hb 163 29 rfl rfl]; exact a4
  · rw [r2] at hc
    rw [r4, hb 130 c rfl rfl, hb 181 c rfl rfl]
    exact h4 c hc
  · unfold Pg
    rw [r1, r3, r5, r6]
    refine ⟨(hb _ _ rfl rfl).trans b1, (hb _ _ rfl rfl).trans b2, b3, fun p hp => ?_, fun r hr' => ?_⟩
    · have := b4 p hp
      rw [hr _ 0 (by omega) (by omega) (scr_F (by omega)), hr _ 1 (by omega) (by omega) (scr_F (by omega)), hr _ 2 (by omega) (by omega) (scr_F (by omega)), hr _ 3 (by omega) (by omega) (scr_F (by omega)), hb 189 p rfl rfl, hb 190 p rfl rfl, hb 191 p rfl rfl, hb 192 p rfl rfl]
      exact this
    · rw [hb 193 r rfl rfl]; exact b5 r hr'
theorem oC_cA {k j : Nat} (hk : k < 40) : oC (cA k) j = true := by
  unfold oC cA
  simp only [Bool.or_eq_true, Bool.and_eq_true, beq_iff_eq, decide_eq_true_eq]
  omega
theorem oC_cL {k j : Nat} (hk : k < 40) : oC (cA k + 1) j = true := by
  unfold oC cA
  simp only [Bool.or_eq_true, Bool.and_eq_true, beq_iff_eq, decide_eq_true_eq]
  omega
theorem oC_cK {k j : Nat} (hk : k < 40) : oC (cA k + 2) j = true := by
  unfold oC cA
  simp only [Bool.or_eq_true, Bool.and_eq_true, beq_iff_eq, decide_eq_true_eq]
  omega
theorem butO.upA {o : Nat → Nat → Bool} {m m1 : vM} {a : Nat} {f : Nat → Int32} (h : butO o m m1) (hs : ∀ j, o a j = true) : butO o m (upA m1 a f) := by
  intro b k x y
  rw [upA_o]
  · exact h b k x y
  · intro e
    subst e
    rw [hs k] at x
    cases x
theorem CK.congr {m : vM} {T T' : tT} (hK : CK m T) (h1 : T' 163 7 = T 163 7) (h2 : T' 173 = T 173) (h3 : T' 174 = T 174) : CK m T' := by
  unfold CK lnT ltT at *
  rw [h1, h2, h3]
  exact hK
def eqT (T T' : tT) (k : Nat) : Prop := (∀ a, a ≤ 166 → T' a = T a) ∧ (∀ a, 177 ≤ a → T' a = T a) ∧ (∀ a, 167 ≤ a → a ≤ 176 → a ≠ 174 → ∀ j, j ≠ k → T' a j = T a j) ∧ ∀ j, j < 12 * k ∨ 12 * k + 12 ≤ j → T' 174 j = T 174 j
def eqM (m m1 : vM) (k : Nat) : Prop := (∀ a, a < 167 → a ≠ cA k → a ≠ cA k + 1 → a ≠ cA k + 2 → m1.1 a = m.1 a) ∧ (∀ a, 167 ≤ a → a ≤ 176 → a ≠ 174 → ∀ j, j ≠ k → m1.1 a j = m.1 a j) ∧ ∀ j, j < 12 * k ∨ 12 * k + 12 ≤ j → m1.1 174 j = m.1 174 j
theorem cA_ne {j k x y : Nat} (h : j ≠ k) (hx : x ≤ 2) (hy : y ≤ 2) : cA j + x ≠ cA k + y := by unfold cA; omega
theorem Vw.cellU {m m1 : vM} {T T' : tT} {k : Nat} (hV : Vw m T) (hk : k < T 163 7) (hT : eqT T T' k) (hm : eqM m m1 k) (hc : CellT T' k) (hx : VCx m1 T' k) (hy : VCm m1 T' k) (ho : T' 172 k = 0 → T 172 k = 0 ∧ T' 168 k = T 168 k ∧ T' 169 k = T 169 k ∧ T' 170 k = T 170 k ∧ T' 171 k = T 171 k) : Vw m1 T' := by
  have h40 := hV.E40
  obtain ⟨⟨t1, t2, t3, t4, t5, t6, t7, t8⟩, ⟨a1, a2, a3, a4, a5, a6, a7, a8, a9, a10⟩, hcs⟩ := hV
  obtain ⟨p1, p2, p3, p4⟩ := hT
  obtain ⟨q1, q2, q3⟩ := hm
  have e163 := p1 163 (by decide)
  have e165 := p1 165 (by decide)
  have e166 := p1 166 (by decide)
  have f67 := p3 167 (by decide) (by decide) (by decide)
  have f68 := p3 168 (by decide) (by decide) (by decide)
  have f69 := p3 169 (by decide) (by decide) (by decide)
  have f70 := p3 170 (by decide) (by decide) (by decide)
  have f71 := p3 171 (by decide) (by decide) (by decide)
  have f72 := p3 172 (by decide) (by decide) (by decide)
  have f73 := p3 173 (by decide) (by decide) (by decide)
  have f75 := p3 175 (by decide) (by decide) (by decide)
  have f76 := p3 176 (by decide) (by decide) (by decide)
  have hn : ∀ a, a < 167 → a < 5 ∨ 125 ≤ a → m1.1 a = m.1 a := fun a z1 z2 => q1 a z1 (by unfold cA; omega) (by unfold cA; omega) (by unfold cA; omega)
  refine ⟨⟨by rw [e163]; exact t1, by rw [e163]; exact t2, by rw [e163]; exact t3, by rw [e163]; exact t4, by rw [e165]; exact t5, by rw [e166]; exact t6, ?_, ?_⟩, ?_, ?_⟩
  · intro j hj
    by_cases e : j = k
    · subst e; exact hc
    · rw [e163] at hj
      have := t7 j hj
      unfold CellT at *
      rw [f67 j e, f68 j e, f69 j e, f70 j e, f71 j e, f72 j e, f73 j e, f75 j e, f76 j e, e163]
      refine ⟨this.1, this.2.1, this.2.2.1, this.2.2.2.1, this.2.2.2.2.1, this.2.2.2.2.2.1, this.2.2.2.2.2.2.1, this.2.2.2.2.2.2.2.1, this.2.2.2.2.2.2.2.2.1, fun i hi => ?_⟩
      have := this.2.2.2.2.2.2.2.2.2 i hi
      rw [p4 _ (by omega)]
      exact this
  · intro j i hj hi dj di hov
    rw [e163] at hj hi
    unfold ovl at hov
    by_cases ej : j = k
    · by_cases ei : i = k
      · omega
      · subst ej
        obtain ⟨o1, o2, o3, o4, o5⟩ := ho dj
        rw [f72 i ei] at di
        rw [o2, o3, o4, o5, f68 i ei, f69 i ei, f70 i ei, f71 i ei] at hov
        exact t8 j i hj hi o1 di hov
    · rw [f72 j ej] at dj
      by_cases ei : i = k
      · subst ei
        obtain ⟨o1, o2, o3, o4, o5⟩ := ho di
        rw [o2, o3, o4, o5, f68 j ej, f69 j ej, f70 j ej, f71 j ej] at hov
        exact t8 j i hj hi dj o1 hov
      · rw [f72 i ei] at di
        rw [f68 j ej, f69 j ej, f70 j ej, f71 j ej, f68 i ei, f69 i ei, f70 i ei, f71 i ei] at hov
        exact t8 j i hj hi dj di hov
  · have n1 := hn 1 (by decide) (by decide)
    have n2 := hn 2 (by decide) (by decide)
    have n3 := hn 3 (by decide) (by decide)
    have n163 := hn 163 (by decide) (by decide)
    have n165 := hn 165 (by decide) (by decide)
    have n166 := hn 166 (by decide) (by decide)
    unfold VH
    rw [n1, n2, n3, n163, n165, n166, e163, e165, e166]
    exact ⟨a1, a2, a3, a4, a5, a6, a7, a8, a9, a10⟩
  · intro j hj
    by_cases e : j = k
    · subst e; exact ⟨hx, hy⟩
    · rw [e163] at hj
      obtain ⟨⟨b0, b1, b2, b3, b4, b5, b6, b7, b8, b9⟩, ⟨c0, c1, c2, c3, c4, c5, c6, c7, c8, c9⟩⟩ := hcs j hj
      have hA : m1.1 (cA j) = m.1 (cA j) := q1 _ (by unfold cA; omega) (cA_ne (x := 0) (y := 0) e (by decide) (by decide)) (cA_ne (x := 0) (y := 1) e (by decide) (by decide)) (cA_ne (x := 0) (y := 2) e (by decide) (by decide))
      have hL : m1.1 (cA j + 1) = m.1 (cA j + 1) := q1 _ (by unfold cA; omega) (cA_ne (x := 1) (y := 0) e (by decide) (by decide)) (cA_ne (x := 1) (y := 1) e (by decide) (by decide)) (cA_ne (x := 1) (y := 2) e (by decide) (by decide))
      have g : ∀ a, 167 ≤ a → a ≤ 176 → a ≠ 174 → m1.1 a j = m.1 a j := fun a z1 z2 z3 => q2 a z1 z2 z3 j e
      unfold VCx VCm
      rw [hA, hL, f67 j e, f68 j e, f69 j e, f70 j e, f71 j e, f72 j e, f73 j e, f75 j e, f76 j e, g 167 (by decide) (by decide) (by decide), g 168 (by decide) (by decide) (by decide), g 169 (by decide) (by decide) (by decide), g 170 (by decide) (by decide) (by decide), g 171 (by decide) (by decide) (by decide), g 172 (by decide) (by decide) (by decide), g 173 (by decide) (by decide) (by decide), g 175 (by decide) (by decide) (by decide), g 176 (by decide) (by decide) (by decide)]
      refine ⟨⟨b0, b1, b2, b3, b4, b5, b6, b7, b8, fun i hi => ?_⟩, ⟨c0, c1, c2, c3, c4, c5, c6, c7, c8, fun i hi => ?_⟩⟩
      · have h13 := (t7 j hj).2.2.2.2.2.2.1
        rw [p4 _ (by omega)]
        exact b9 i hi
      · have h13 := (t7 j hj).2.2.2.2.2.2.1
        rw [p4 _ (by omega), q3 _ (by omega)]
        exact c9 i hi
theorem CK.cellU {m m1 : vM} {T T' : tT} {k : Nat} (hV : Vw m T) (hK : CK m T) (hT : eqT T T' k) (hm : eqM m m1 k) (hc : ∀ w, w < 252 → m1.1 (cA k + 2) w = -1) : CK m1 T' := by
  have h40 := hV.E40
  intro j hj w h1 h2
  have e163 := hT.1 163 (by decide)
  rw [e163] at hj
  by_cases e : j = k
  · subst e; exact Or.inl (hc w h2)
  · rw [hm.1 _ (by unfold cA; omega) (cA_ne (x := 2) (y := 0) e (by decide) (by decide)) (cA_ne (x := 2) (y := 1) e (by decide) (by decide)) (cA_ne (x := 2) (y := 2) e (by decide) (by decide))]
    have h13 := (hV.cell hj).2.2.2.2.2.2.1
    have f73 : T' 173 j = T 173 j := hT.2.2.1 173 (by decide) (by decide) (by decide) j e
    have : lnT T' j w = lnT T j w := by
      unfold lnT
      rw [f73]
      have hcong : ∀ n, n ≤ 12 → lnN (ltT T' j) w n = lnN (ltT T j) w n := by
        intro n hn
        induction n with
        | zero => rfl
        | succ n ih =>
          have ih := ih (by omega)
          have el : ltT T' j n = ltT T j n := hT.2.2.2 _ (by omega)
          unfold lnN
          rw [ih, el]
      rw [hcong _ h13]
    rw [this]
    exact hK j hj w h1 h2
