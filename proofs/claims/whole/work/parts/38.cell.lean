theorem Lst.or {p q : Nat → Prop} {n : Nat} {x y : Int32} (hn : n < 2 ^ 31) (h : Lst p n x) (g : Lst q n y) : (y = -9 → Lst (fun k => p k ∨ q k) n x) ∧ (¬ y = -9 → (x = -9 → Lst (fun k => p k ∨ q k) n y) ∧ (¬ x = -9 → (x ≤ y → Lst (fun k => p k ∨ q k) n x) ∧ (¬ x ≤ y → Lst (fun k => p k ∨ q k) n y))) := by
  rcases h with ⟨k, h1, h2, h3, rfl⟩ | ⟨h1, rfl⟩ <;> rcases g with ⟨j, g1, g2, g3, rfl⟩ | ⟨g1, rfl⟩
  · refine ⟨fun e => absurd e (nI_m9 _ (by omega)), fun _ => ⟨fun e => absurd e (nI_m9 _ (by omega)), fun _ => ?_⟩⟩
    rw [leI (by omega) (by omega)]
    refine ⟨fun hle => Or.inl ⟨k, h1, Or.inl h2, fun i hi => ?_, rfl⟩, fun hle => Or.inl ⟨j, g1, Or.inr g2, fun i hi => ?_, rfl⟩⟩
    · rintro (z | z)
      · exact h3 i hi z
      · exact g3 i (by omega) z
    · rintro (z | z)
      · exact h3 i (by omega) z
      · exact g3 i hi z
  · refine ⟨fun _ => Or.inl ⟨k, h1, Or.inl h2, fun i hi => ?_, rfl⟩, fun e => absurd rfl e⟩
    rintro (z | z)
    · exact h3 i hi z
    · exact g1 i (by omega) z
  · refine ⟨fun e => absurd e (nI_m9 _ (by omega)), fun _ => ⟨fun _ => Or.inl ⟨j, g1, Or.inr g2, fun i hi => ?_, rfl⟩, fun e => absurd rfl e⟩⟩
    rintro (z | z)
    · exact h1 i (by omega) z
    · exact g3 i hi z
  · refine ⟨fun _ => Or.inr ⟨fun k hk => ?_, rfl⟩, fun e => absurd rfl e⟩
    rintro (z | z)
    · exact h1 k hk z
    · exact g1 k hk z
def newT (T : tT) (a b c d e : Nat) : tT := fun x j => if x = 163 ∧ j = 7 then T 163 7 + 1 else if j = T 163 7 then (if x = 167 then a else if x = 168 then b else if x = 169 then c else if x = 170 then d else if x = 171 then e else if x = 172 then 0 else if x = 173 then 0 else if x = 175 then 0 else if x = 176 then 1 else T x j) else T x j
section CELL
variable {m m1 : vM} {T : tT}
theorem newT_o (T : tT) (a b c d e x j : Nat) (h1 : ¬ (x = 163 ∧ j = 7)) (h2 : j ≠ T 163 7 ∨ x < 167 ∨ 176 < x ∨ x = 174) : newT T a b c d e x j = T x j := by
  unfold newT
  rw [if_neg h1]
  by_cases hj : j = T 163 7
  · rw [if_pos hj, if_neg (by omega), if_neg (by omega), if_neg (by omega), if_neg (by omega), if_neg (by omega), if_neg (by omega), if_neg (by omega), if_neg (by omega), if_neg (by omega)]
  · rw [if_neg hj]
theorem newT_F (T : tT) (a b c d e x : Nat) (h : x ≠ 163 ∧ (x < 167 ∨ 176 < x ∨ x = 174)) : newT T a b c d e x = T x := funext fun j => newT_o _ _ _ _ _ _ _ _ (fun z => h.1 z.1) (Or.inr h.2)
/-- what `add` leaves: the component's new cell and the check's -/
def newX (m : vM) (E : Nat) (a b c d e : Nat) (f : Nat → Int32) : vM := upI (pcX (upI (upI (upI (upI (upI (upI (upI (upI m (cA E) 0 (nI a)) (cA E) 1 (nI b)) (cA E) 2 (nI c)) (cA E) 3 (nI d)) (cA E) 4 (nI e)) (cA E) 5 0) (cA E) 6 1) (cA E) 8 0) E 0 f) 1 3 (nI (E + 1))
def newM (m : vM) (E : Nat) (a b c d e : Nat) : vM := upI (upI (upI (upI (upI (upI (upI (upI (upI (upI m 167 E (nI a)) 168 E (nI b)) 169 E (nI c)) 170 E (nI d)) 171 E (nI e)) 172 E 0) 173 E 0) 175 E 0) 176 E 1) 163 7 (nI (E + 1))
theorem InvT.add (hI : InvT m T) {a b c d e : Nat} {f : Nat → Int32} (hE : T 163 7 < 40) (ha : a ≤ 3) (hb : b + d ≤ T 163 2) (hd : 1 ≤ d) (hc : c + e ≤ T 163 3) (he : 1 ≤ e) (hno : ∀ k, k < T 163 7 → ¬ (T 172 k = 0 ∧ ovl T k b c d e)) : InvT (newM (newX m (T 163 7) a b c d e f) (T 163 7) a b c d e) (newT T a b c d e) := by
  have hV := hI.1
  have h40 := hV.E40
  generalize hm1 : newM (newX m (T 163 7) a b c d e f) (T 163 7) a b c d e = m1
  have hx : ∀ y, 125 ≤ y → (newX m (T 163 7) a b c d e f).1 y = m.1 y := fun y hy => by
    unfold newX
    rw [upI_o _ _ _ _ _ (by omega), pcX_o hy (by omega)]
    repeat rw [upI_o _ _ _ _ _ (show y ≠ cA (T 163 7) by unfold cA; omega)]
  have hX : ∀ y, y < 163 → m1.1 y = (newX m (T 163 7) a b c d e f).1 y := fun y hy => by
    rw [← hm1]
    unfold newM
    repeat rw [upI_o _ _ _ _ _ (by omega)]
  have hX' : ∀ y, y < 163 → y ≠ 1 → y ≠ cA (T 163 7) → y ≠ cA (T 163 7) + 1 → y ≠ cA (T 163 7) + 2 → m1.1 y = m.1 y := fun y h1 h2 h3 h4 h5 => by
    rw [hX y h1]
    unfold newX pcX
    rw [upI_o _ _ _ _ _ h2, fillA_o _ _ _ _ _ h5, upA_o _ _ _ _ h4]
    repeat rw [upI_o _ _ _ _ _ h3]
  have hXc : ∀ k j, k < T 163 7 → j ≤ 2 → m1.1 (cA k + j) = m.1 (cA k + j) := fun k j hk hj => hX' _ (by unfold cA; omega) (by unfold cA; omega) (by unfold cA; omega) (by unfold cA; omega) (by unfold cA; omega)
  have hM : ∀ y, 163 ≤ y → y ≠ 163 → (y < 167 ∨ 176 < y ∨ y = 174) → m1.1 y = m.1 y := fun y h1 h2 h3 => by
    rw [← hm1]
    unfold newM
    rw [upI_o _ _ _ _ _ h2]
    repeat rw [upI_o _ _ _ _ _ (by omega)]
    exact hx y (by omega)
  have hMj : ∀ y j, 164 ≤ y → j ≠ T 163 7 → m1.1 y j = m.1 y j := fun y j h1 h2 => by
    rw [← hm1]
    unfold newM
    rw [upI_o _ _ _ _ _ (by omega)]
    repeat rw [upI_n _ _ _ _ _ _ (Or.inr h2)]
    rw [hx y (by omega)]
  have h163 : ∀ j, j ≠ 7 → m1.1 163 j = m.1 163 j := fun j hj => by
    rw [← hm1]
    unfold newM
    rw [upI_n _ _ _ _ _ _ (Or.inr hj)]
    repeat rw [upI_o _ _ _ _ _ (by decide)]
    rw [hx 163 (by decide)]
  have h1637 : m1.1 163 7 = nI (T 163 7 + 1) := by
    rw [← hm1]
    unfold newM
    rw [upI_s]
  have h13 : m1.1 1 3 = nI (T 163 7 + 1) := by
    rw [hX 1 (by decide)]
    unfold newX
    rw [upI_s]
  have h1j : ∀ j, j ≠ 3 → m1.1 1 j = m.1 1 j := fun j hj => by
    rw [hX 1 (by decide)]
    unfold newX pcX
    rw [upI_n _ _ _ _ _ _ (Or.inr hj), fillA_o _ _ _ _ _ (by unfold cA; omega), upA_o _ _ _ _ (by unfold cA; omega)]
    repeat rw [upI_o _ _ _ _ _ (show 1 ≠ cA (T 163 7) by unfold cA; omega)]
  have t163 : ∀ j, j ≠ 7 → newT T a b c d e 163 j = T 163 j := fun j hj => newT_o _ _ _ _ _ _ _ _ (fun z => hj z.2) (Or.inr (Or.inl (by decide)))
  have t7 : newT T a b c d e 163 7 = T 163 7 + 1 := by
    unfold newT
    rw [if_pos ⟨rfl, rfl⟩]
  have to : ∀ x j, x ≠ 163 → j ≠ T 163 7 → newT T a b c d e x j = T x j := fun x j h1 h2 => newT_o _ _ _ _ _ _ _ _ (fun z => h1 z.1) (Or.inl h2)
  have tF := fun x h => newT_F T a b c d e x h
  have tn : ∀ x v, (167 ≤ x ∧ x ≤ 176 ∧ x ≠ 174) → (if x = 167 then a else if x = 168 then b else if x = 169 then c else if x = 170 then d else if x = 171 then e else if x = 172 then 0 else if x = 173 then 0 else if x = 175 then 0 else if x = 176 then 1 else T x (T 163 7)) = v → newT T a b c d e x (T 163 7) = v := fun x v h1 h2 => by
    unfold newT
    rw [if_neg (by omega), if_pos rfl]
    exact h2
  have n67 := tn 167 a (by decide) rfl
  have n68 := tn 168 b (by decide) rfl
  have n69 := tn 169 c (by decide) rfl
  have n70 := tn 170 d (by decide) rfl
  have n71 := tn 171 e (by decide) rfl
  have n72 := tn 172 0 (by decide) rfl
  have n73 := tn 173 0 (by decide) rfl
  have n75 := tn 175 0 (by decide) rfl
  have n76 := tn 176 1 (by decide) rfl
  obtain ⟨⟨t1, t2, t3, t4, t5, t6, tc, tov⟩, ⟨a1, a2, a3, a4, a5, a6, a7, a8, a9, a10⟩, hcs⟩ := hV
  have hVN : Vw m1 (newT T a b c d e) := by
    refine ⟨⟨by rw [t163 2 (by decide)]; exact t1, by rw [t163 3 (by decide)]; exact t2, by rw [t163 4 (by decide)]; exact t3, by rw [t7]; omega, by rw [tF 165 (by decide)]; exact t5, by rw [tF 166 (by decide)]; exact t6, fun k hk => ?_, fun j k hj hk dj dk ho => ?_⟩, ?_, fun k hk => ?_⟩
    · rw [t7] at hk
      unfold CellT
      by_cases hkE : k = T 163 7
      · subst hkE
        rw [n67, n68, n69, n70, n71, n72, n73, n75, n76, t163 2 (by decide), t163 3 (by decide)]
        exact ⟨ha, hd, hb, he, hc, by decide, by decide, by decide, by decide, fun i hi => absurd hi (Nat.not_lt_zero _)⟩
      · rw [to 167 k (by decide) hkE, to 168 k (by decide) hkE, to 169 k (by decide) hkE, to 170 k (by decide) hkE, to 171 k (by decide) hkE, to 172 k (by decide) hkE, to 173 k (by decide) hkE, to 175 k (by decide) hkE, to 176 k (by decide) hkE, tF 174 (by decide), t163 2 (by decide), t163 3 (by decide)]
        exact tc k (by omega)
    · rw [t7] at hj hk
      unfold ovl at ho
      by_cases hjE : j = T 163 7
      · by_cases hkE : k = T 163 7
        · omega
        · subst hjE
          rw [n68, n69, n70, n71, to 168 k (by decide) hkE, to 169 k (by decide) hkE, to 170 k (by decide) hkE, to 171 k (by decide) hkE] at ho
          rw [to 172 k (by decide) hkE] at dk
          exfalso
          refine hno k (by omega) ⟨dk, ?_⟩
          unfold ovl
          omega
      · rw [to 168 j (by decide) hjE, to 169 j (by decide) hjE, to 170 j (by decide) hjE, to 171 j (by decide) hjE] at ho
        rw [to 172 j (by decide) hjE] at dj
        by_cases hkE : k = T 163 7
        · subst hkE
          rw [n68, n69, n70, n71] at ho
          exfalso
          exact hno j (by omega) ⟨dj, ho⟩
        · rw [to 168 k (by decide) hkE, to 169 k (by decide) hkE, to 170 k (by decide) hkE, to 171 k (by decide) hkE] at ho
          rw [to 172 k (by decide) hkE] at dk
          exact tov j k (by omega) (by omega) dj dk ho
    · unfold VH
      rw [h1j 0 (by decide), h1j 1 (by decide), h1j 2 (by decide), h13, h163 2 (by decide), h163 3 (by decide), h163 4 (by decide), h1637, t163 2 (by decide), t163 3 (by decide), t163 4 (by decide), t7, tF 165 (by decide), tF 166 (by decide), hX' 2 (by decide) (by decide) (by unfold cA; omega) (by unfold cA; omega) (by unfold cA; omega), hX' 3 (by decide) (by decide) (by unfold cA; omega) (by unfold cA; omega) (by unfold cA; omega), hM 165 (by decide) (by decide) (by decide), hM 166 (by decide) (by decide) (by decide)]
      exact ⟨a1, a2, a3, rfl, a5, a6, a7, rfl, a9, a10⟩
    · rw [t7] at hk
      by_cases hkE : k = T 163 7
      · subst hkE
        unfold VCx VCm
        rw [n67, n68, n69, n70, n71, n72, n73, n75, n76]
        have hA : m1.1 (cA (T 163 7)) = (newX m (T 163 7) a b c d e f).1 (cA (T 163 7)) := hX _ (by unfold cA; omega)
        have hA2 : ∀ j, m1.1 (cA (T 163 7)) j = if j = 7 then 0 else if j = 8 then 0 else if j = 6 then 1 else if j = 5 then 0 else if j = 4 then nI e else if j = 3 then nI d else if j = 2 then nI c else if j = 1 then nI b else if j = 0 then nI a else m.1 (cA (T 163 7)) j := fun j => by
          rw [hA]
          unfold newX pcX
          rw [upI_o _ _ _ _ _ (by unfold cA; omega), fillA_o _ _ _ _ _ (by omega), upA_o _ _ _ _ (by omega)]
          have step : ∀ (mm : vM) (q : Nat) (v : Int32), (upI mm (cA (T 163 7)) q v).1 (cA (T 163 7)) j = if j = q then v else mm.1 (cA (T 163 7)) j := fun mm q v => by
            by_cases hq : j = q
            · subst hq; rw [upI_s, if_pos rfl]
            · rw [upI_n _ _ _ _ _ _ (Or.inr hq), if_neg hq]
          simp only [step]
        have hM2 : ∀ y, 167 ≤ y → m1.1 y (T 163 7) = if y = 176 then 1 else if y = 175 then 0 else if y = 173 then 0 else if y = 172 then 0 else if y = 171 then nI e else if y = 170 then nI d else if y = 169 then nI c else if y = 168 then nI b else if y = 167 then nI a else (newX m (T 163 7) a b c d e f).1 y (T 163 7) := fun y hy => by
          rw [← hm1]
          unfold newM
          rw [upI_o _ _ _ _ _ (by omega)]
          have step : ∀ (mm : vM) (q : Nat) (v : Int32), (upI mm q (T 163 7) v).1 y (T 163 7) = if y = q then v else mm.1 y (T 163 7) := fun mm q v => by
            by_cases hq : y = q
            · subst hq; rw [upI_s, if_pos rfl]
            · rw [upI_o _ _ _ _ _ hq, if_neg hq]
          simp only [step]
        rw [hA2 0, hA2 1, hA2 2, hA2 3, hA2 4, hA2 5, hA2 6, hA2 7, hA2 8, hM2 167 (by decide), hM2 168 (by decide), hM2 169 (by decide), hM2 170 (by decide), hM2 171 (by decide), hM2 172 (by decide), hM2 173 (by decide), hM2 175 (by decide), hM2 176 (by decide)]
        exact ⟨⟨rfl, rfl, rfl, rfl, rfl, rfl, rfl, rfl, rfl, fun i hi => absurd hi (Nat.not_lt_zero _)⟩, ⟨rfl, rfl, rfl, rfl, rfl, rfl, rfl, rfl, rfl, fun i hi => absurd hi (Nat.not_lt_zero _)⟩⟩
      · obtain ⟨hcx, hcm⟩ := hcs k (by omega)
        unfold VCx VCm at *
        rw [to 167 k (by decide) hkE, to 168 k (by decide) hkE, to 169 k (by decide) hkE, to 170 k (by decide) hkE, to 171 k (by decide) hkE, to 172 k (by decide) hkE, to 173 k (by decide) hkE, to 175 k (by decide) hkE, to 176 k (by decide) hkE, tF 174 (by decide), show m1.1 (cA k) = m.1 (cA k) from hXc k 0 (by omega) (by decide), hXc k 1 (by omega) (by decide), hMj 167 k (by decide) hkE, hMj 168 k (by decide) hkE, hMj 169 k (by decide) hkE, hMj 170 k (by decide) hkE, hMj 171 k (by decide) hkE, hMj 172 k (by decide) hkE, hMj 173 k (by decide) hkE, hMj 175 k (by decide) hkE, hMj 176 k (by decide) hkE, hM 174 (by decide) (by decide) (by decide)]
        exact ⟨hcx, hcm⟩
  have hKN : CK m1 (newT T a b c d e) := by
    intro k hk w h1 h2
    rw [t7] at hk
    by_cases hkE : k = T 163 7
    · left
      subst hkE
      rw [hX _ (by unfold cA; omega)]
      unfold newX pcX
      rw [upI_o _ _ _ _ _ (by unfold cA; omega), fillA_s _ _ _ _ _ h2]
    · rw [hXc k 2 (by omega) (by decide)]
      have : lnT (newT T a b c d e) k w = lnT T k w := by
        unfold lnT ltT
        rw [to 173 k (by decide) hkE, tF 174 (by decide)]
      rw [this]
      exact hI.2.1 k (by omega) w h1 h2
  refine hI.upd ⟨t163 2 (by decide), t163 3 (by decide), t163 32 (by decide), tF 181 (by decide), tF 189 (by decide), tF 190 (by decide)⟩ ?_ hVN hKN
  intro y j ho hs
  rcases Nat.lt_or_ge y 163 with q | q
  · rw [hX' y q]
    · intro z; subst z; cases ho
    · intro z; subst z; rw [oC_cA (by omega)] at ho; cases ho
    · intro z; subst z; rw [oC_cL (by omega)] at ho; cases ho
    · intro z; subst z; rw [oC_cK (by omega)] at ho; cases ho
  · by_cases h3 : y = 163
    · subst h3
      refine h163 j (fun z => ?_)
      subst z
      cases ho
    · rw [hM y q h3]
      unfold oC at ho
      simp only [Bool.or_eq_false_iff, Bool.and_eq_false_iff, beq_eq_false_iff_ne, ne_eq, decide_eq_false_iff_not] at ho
      omega
end CELL
