def tabT (T : tT) (r c g : Nat) : tT := fun a j => if a = 163 then (if j = 2 then r else if j = 3 then c else if j = 4 then g else if j = 7 then 0 else if j = 32 then 0 else T 163 j) else if a = 165 then 1 else if a = 181 then 0 else T a j
section TABLE
variable {m m1 : vM} {T : tT}
/-- what a new table leaves, from what it was before (only the notes' lengths and the counts stay) -/
def Fresh (m m1 : vM) (r c g : Nat) : Prop := (m1.1 1 0 = nI r ∧ m1.1 1 1 = nI c ∧ m1.1 1 2 = nI g ∧ m1.1 1 3 = nI 0) ∧ (m1.1 163 2 = nI r ∧ m1.1 163 3 = nI c ∧ m1.1 163 4 = nI g ∧ m1.1 163 7 = nI 0) ∧ (∀ i, i < 6 → m1.1 2 i = nI 1 ∧ m1.1 165 i = nI 1) ∧ (∀ i, i < 10 → m1.1 3 i = m.1 3 i ∧ m1.1 166 i = m.1 166 i) ∧ (m1.1 0 5 = m.1 0 5 ∧ m1.1 163 0 = m.1 163 0 ∧ m1.1 0 7 = m.1 0 7 ∧ m1.1 163 29 = m.1 163 29) ∧ (∀ f, m1.1 162 f = m.1 162 f ∧ m1.1 164 f = m.1 164 f) ∧ m1.1 0 6 = m1.1 163 18 ∧ (∀ i, i < 6 → m1.1 130 i = nI 0 ∧ m1.1 181 i = nI 0) ∧ m1.1 139 0 = nI 0 ∧ m1.1 163 32 = nI 0 ∧ ∀ i, i < 16 → m1.1 193 i = -9
theorem Fresh.inv {r c g : Nat} (hr : 1 ≤ r ∧ r ≤ 16) (hc : 1 ≤ c ∧ c ≤ 6) (hg : g ≤ 3) (hn : ∀ i, i < 10 → m.1 3 i = nI (T 166 i) ∧ m.1 166 i = nI (T 166 i)) (ht : ∀ i, i < 10 → 1 ≤ T 166 i ∧ T 166 i ≤ 6) (hM : m.1 0 5 = m.1 163 0 ∧ (∀ f, 1 ≤ f → f ≤ 6 → m.1 162 f = m.1 164 f) ∧ m.1 0 7 = m.1 163 29) (h : Fresh m m1 r c g) : InvT m1 (tabT T r c g) := by
  obtain ⟨⟨x0, x1, x2, x3⟩, ⟨y0, y1, y2, y3⟩, hw, hnt, ⟨f1, f2, f3, f4⟩, hf, hcl, hwd, p1, p2, p3⟩ := h
  have e2 : tabT T r c g 163 2 = r := rfl
  have e3 : tabT T r c g 163 3 = c := rfl
  have e4 : tabT T r c g 163 4 = g := rfl
  have e7 : tabT T r c g 163 7 = 0 := rfl
  have e32 : tabT T r c g 163 32 = 0 := rfl
  have e165 : ∀ i, tabT T r c g 165 i = 1 := fun _ => rfl
  have e181 : ∀ i, tabT T r c g 181 i = 0 := fun _ => rfl
  have e166 : tabT T r c g 166 = T 166 := rfl
  refine ⟨⟨⟨by rw [e2]; exact hr, by rw [e3]; exact hc, by rw [e4]; exact hg, by rw [e7]; omega, fun i _ => by rw [e165]; omega, by rw [e166]; exact ht, fun k hk => ?_, fun j k hj => ?_⟩, ⟨x0, x1, x2, x3, y0, y1, y2, y3, hw, fun i hi => ?_⟩, fun k hk => ?_⟩, fun k hk => ?_, ⟨?_, fun f z1 z2 => ?_, hcl, ?_⟩, fun i hi => ?_, ⟨p1, p2, by rw [e32]; omega, fun p hp => ?_, fun i hi => ?_⟩⟩
  · rw [e7] at hk; omega
  · rw [e7] at hj; omega
  · rw [(hnt i hi).1, (hnt i hi).2, e166]; exact hn i hi
  · rw [e7] at hk; omega
  · rw [e7] at hk; omega
  · rw [f1, f2]; exact hM.1
  · rw [(hf f).1, (hf f).2]; exact hM.2.1 f z1 z2
  · rw [f3, f4]; exact hM.2.2
  · rw [e3] at hi
    rw [e181]
    exact ⟨(hwd i (by omega)).1, (hwd i (by omega)).2, by omega⟩
  · rw [e32] at hp; omega
  · rw [e2] at hi
    rw [e32]
    exact Or.inr ⟨fun k hk => by omega, p3 i (by omega)⟩
theorem c_X7_begin {r c g : Int32} {P : vM → Prop} (hp : ∀ m1 : vM, (∀ a, a ≠ 163 → a ≠ 165 → a ≠ 181 → a ≠ 193 → m1.1 a = m.1 a) → m1.1 163 = (upI (upI (upI (upI (upI (upI m 163 2 r) 163 3 c) 163 4 g) 163 7 0) 163 18 (-9)) 163 32 0).1 163 → (∀ i, i < 6 → m1.1 165 i = nI 1 ∧ m1.1 181 i = nI 0) → (∀ i, i < 16 → m1.1 193 i = -9) → P m1) : EI_X7_begin r c g m P := by
  refine f_X7_begin (b_X7_begin_0 ?_)
  unfold wp_X7_begin_0
  rintro _ rfl _ rfl _ rfl _ rfl _ rfl m6 em6
  rw [show (0 : Int32) = nI 0 from rfl]
  have h0 : ∀ a, a ≠ 163 → m6.1 a = m.1 a := fun a ha => by
    rw [em6]
    repeat rw [upI_o _ _ _ _ _ ha]
  have h163 : m6.1 163 = (upI (upI (upI (upI (upI (upI m 163 2 r) 163 3 c) 163 4 g) 163 7 0) 163 18 (-9)) 163 32 0).1 163 := by rw [em6]
  refine loop_up (Q := fun i => ∀ mm : vM, (∀ a, a ≠ 165 → a ≠ 181 → mm.1 a = m6.1 a) → (∀ j, j < i → mm.1 165 j = nI 1 ∧ mm.1 181 j = nI 0) → J_X7_begin_34 (nI i) mm P) (n := 6) ?_ (fun i hi ih => ?_) 0 (by decide) m6 (fun _ _ _ => rfl) (fun j hj => absurd hj (Nat.not_lt_zero _))
  · intro mm g1 g2
    refine b_X7_begin_34 ?_
    unfold wp_X7_begin_34
    refine ifs (by decide) ?_
    rw [show (0 : Int32) = nI 0 from rfl]
    refine loop_up (Q := fun i => ∀ mk : vM, (∀ a, a ≠ 193 → mk.1 a = mm.1 a) → (∀ j, j < i → mk.1 193 j = -9) → J_X7_begin_66 (nI i) mk P) (n := 16) ?_ (fun i hi ih => ?_) 0 (by decide) mm (fun _ _ => rfl) (fun j hj => absurd hj (Nat.not_lt_zero _))
    · intro mk f1 f2
      refine b_X7_begin_66 ?_
      unfold wp_X7_begin_66
      refine ifs (by decide) (hp mk (fun a z1 z2 z3 z4 => ?_) ?_ (fun i hi => ?_) f2)
      · rw [f1 a z4, g1 a z2 z3, h0 a z1]
      · rw [f1 163 (by decide), g1 163 (by decide) (by decide), h163]
      · rw [f1 165 (by decide), f1 181 (by decide)]; exact g2 i hi
    · intro mk f1 f2
      refine b_X7_begin_66 ?_
      unfold wp_X7_begin_66
      rw [clI i (by omega), ad1I]
      refine ifn (nI_ge (b := 16) hi (by decide)) ⟨vI hi (by decide), ?_⟩
      rintro _ rfl
      refine ih _ (fun a ha => (upI_o _ _ _ _ _ ha).trans (f1 a ha)) (fun j hj => ?_)
      rcases Nat.lt_succ_iff_lt_or_eq.mp hj with q | q
      · rw [upI_n _ _ _ _ _ _ (Or.inr (by omega))]; exact f2 j q
      · subst q; rw [upI_s]
  · intro mm g1 g2
    refine b_X7_begin_34 ?_
    unfold wp_X7_begin_34
    rw [clI i (by omega), ad1I]
    refine ifn (nI_ge (b := 6) hi (by decide)) ⟨vI hi (by decide), ?_⟩
    rintro _ rfl
    refine ⟨vI hi (by decide), ?_⟩
    rintro _ rfl
    refine ih _ (fun a z1 z2 => by rw [upI_o _ _ _ _ _ z2, upI_o _ _ _ _ _ z1, g1 a z1 z2]) (fun j hj => ?_)
    rcases Nat.lt_succ_iff_lt_or_eq.mp hj with q | q
    · rw [upI_o _ _ _ _ _ (by decide), upI_n _ _ _ _ _ _ (Or.inr (by omega)), upI_n _ _ _ _ _ _ (Or.inr (by omega)), upI_o _ _ _ _ _ (by decide)]; exact g2 j q
    · subst q; rw [upI_o _ _ _ _ _ (by decide), upI_s, upI_s]; exact ⟨rfl, rfl⟩
theorem pair_table (x y z : Int32) : Pair (EI_X6_table x y z) (EI_X7_table x y z) := by
  rintro m ⟨T, hI⟩
  have hV := hI.1
  refine e_X6_table ?_
  unfold wp_X6_table
  rcases num_cases x 1 16 with ⟨r, r1, r2, rfl⟩ | hx
  · refine w_isY (lo := 1) (hi := 16) rfl rfl (by decide) r1 r2 rfl (i1 ?_)
    rcases num_cases y 1 6 with ⟨c, c1, c2, rfl⟩ | hy
    · refine w_isY (lo := 1) (hi := 6) rfl rfl (by decide) c1 c2 rfl (i1 ?_)
      rcases num_cases z 0 3 with ⟨g, g1, g2, rfl⟩ | hz
      · refine w_isY (lo := 0) (hi := 3) rfl rfl (by decide) g1 g2 rfl (i1 ?_)
        unfold wp_X1_begin wp_X5_forget wp_X3_forget
        rintro _ rfl _ rfl _ rfl _ rfl m5 em5 m8 em8 m9 em9 m10 em10
        refine e_X7_table (w_inY (lo := 1) (hi := 16) rfl rfl (by decide) r1 r2 rfl (i1 (w_inY (lo := 1) (hi := 6) rfl rfl (by decide) c1 c2 rfl (i1 (w_inY (lo := 0) (hi := 3) rfl rfl (by decide) g1 g2 rfl (i1 ?_))))))
        refine c_X7_begin (fun m1 q1 q2 q3 q4 => ⟨rfl, ?_⟩)
        have h10 : ∀ a, a ≠ 0 → a ≠ 1 → a ≠ 2 → a ≠ 130 → a ≠ 139 → m10.1 a = m.1 a := fun a z0 z1 z2 z3 z4 => by
          rw [em10, upI_o _ _ _ _ _ z0, em9, upI_o _ _ _ _ _ z4, em8, fillA_o _ _ _ _ _ z3, em5, fillA_o _ _ _ _ _ z2]
          repeat rw [upI_o _ _ _ _ _ z1]
        have hq : ∀ a, a ≠ 163 → a ≠ 165 → a ≠ 181 → a ≠ 193 → m1.1 a = m10.1 a := q1
        have h1 : m1.1 1 = (upI (upI (upI (upI m 1 0 (nI r)) 1 1 (nI c)) 1 2 (nI g)) 1 3 0).1 1 := by
          rw [hq 1 (by decide) (by decide) (by decide) (by decide), em10, upI_o _ _ _ _ _ (by decide), em9, upI_o _ _ _ _ _ (by decide), em8, fillA_o _ _ _ _ _ (by decide), em5, fillA_o _ _ _ _ _ (by decide)]
        have h163 : ∀ j, m1.1 163 j = if j = 32 then 0 else if j = 18 then -9 else if j = 7 then 0 else if j = 4 then nI g else if j = 3 then nI c else if j = 2 then nI r else m.1 163 j := fun j => by
          rw [q2]
          have step : ∀ (mm : vM) (q : Nat) (v : Int32), (upI mm 163 q v).1 163 j = if j = q then v else mm.1 163 j := fun mm q v => by
            by_cases hq : j = q
            · subst hq; rw [upI_s, if_pos rfl]
            · rw [upI_n _ _ _ _ _ _ (Or.inr hq), if_neg hq]
          simp only [step]
          rw [h10 163 (by decide) (by decide) (by decide) (by decide) (by decide)]
        have h1j : ∀ j, m1.1 1 j = if j = 3 then 0 else if j = 2 then nI g else if j = 1 then nI c else if j = 0 then nI r else m.1 1 j := fun j => by
          rw [h1]
          have step : ∀ (mm : vM) (q : Nat) (v : Int32), (upI mm 1 q v).1 1 j = if j = q then v else mm.1 1 j := fun mm q v => by
            by_cases hq : j = q
            · subst hq; rw [upI_s, if_pos rfl]
            · rw [upI_n _ _ _ _ _ _ (Or.inr hq), if_neg hq]
          simp only [step]
        have h0j : ∀ j, m1.1 0 j = if j = 6 then -9 else m.1 0 j := fun j => by
          rw [hq 0 (by decide) (by decide) (by decide) (by decide), em10]
          by_cases hj : j = 6
          · subst hj; rw [upI_s, if_pos rfl]
          · rw [upI_n _ _ _ _ _ _ (Or.inr hj), if_neg hj, em9, upI_o _ _ _ _ _ (by decide), em8, fillA_o _ _ _ _ _ (by decide), em5, fillA_o _ _ _ _ _ (by decide)]
            repeat rw [upI_o _ _ _ _ _ (by decide)]
        have hF : Fresh m m1 r c g := by
          refine ⟨⟨h1j 0, h1j 1, h1j 2, h1j 3⟩, ⟨h163 2, h163 3, h163 4, h163 7⟩, fun i hi => ⟨?_, (q3 i hi).1⟩, fun i hi => ⟨?_, ?_⟩, ⟨h0j 5, h163 0, h0j 7, h163 29⟩, fun f => ⟨?_, ?_⟩, (h0j 6).trans (h163 18).symm, fun i hi => ⟨?_, (q3 i hi).2⟩, ?_, h163 32, q4⟩
          · rw [hq 2 (by decide) (by decide) (by decide) (by decide), em10, upI_o _ _ _ _ _ (by decide), em9, upI_o _ _ _ _ _ (by decide), em8, fillA_o _ _ _ _ _ (by decide), em5, fillA_s _ _ _ _ _ hi]; rfl
          · rw [hq 3 (by decide) (by decide) (by decide) (by decide), h10 3 (by decide) (by decide) (by decide) (by decide) (by decide)]
          · rw [hq 166 (by decide) (by decide) (by decide) (by decide), h10 166 (by decide) (by decide) (by decide) (by decide) (by decide)]
          · rw [hq 162 (by decide) (by decide) (by decide) (by decide), h10 162 (by decide) (by decide) (by decide) (by decide) (by decide)]
          · rw [hq 164 (by decide) (by decide) (by decide) (by decide), h10 164 (by decide) (by decide) (by decide) (by decide) (by decide)]
          · rw [hq 130 (by decide) (by decide) (by decide) (by decide), em10, upI_o _ _ _ _ _ (by decide), em9, upI_o _ _ _ _ _ (by decide), em8, fillA_s _ _ _ _ _ hi]; rfl
          · rw [hq 139 (by decide) (by decide) (by decide) (by decide), em10, upI_o _ _ _ _ _ (by decide), em9, upI_s]; rfl
        exact (hF.inv ⟨r1, r2⟩ ⟨c1, c2⟩ g2 (fun i hi => hV.nt hi) (hV.1.2.2.2.2.2.1) ⟨hI.2.2.1.1, hI.2.2.1.2.1, hI.2.2.1.2.2.2⟩).toI
      · refine w_isN (lo := 0) (hi := 3) rfl rfl (by decide) (by decide) hz (i0 ?_)
        exact e_X7_table (w_inY (lo := 1) (hi := 16) rfl rfl (by decide) r1 r2 rfl (i1 (w_inY (lo := 1) (hi := 6) rfl rfl (by decide) c1 c2 rfl (i1 (w_inN (lo := 0) (hi := 3) rfl rfl (by decide) (by decide) hz (i0 ⟨rfl, hI.toI⟩))))))
    · refine w_isN (lo := 1) (hi := 6) rfl rfl (by decide) (by decide) hy (i0 ?_)
      exact e_X7_table (w_inY (lo := 1) (hi := 16) rfl rfl (by decide) r1 r2 rfl (i1 (w_inN (lo := 1) (hi := 6) rfl rfl (by decide) (by decide) hy (i0 ⟨rfl, hI.toI⟩))))
  · refine w_isN (lo := 1) (hi := 16) rfl rfl (by decide) (by decide) hx (i0 ?_)
    exact e_X7_table (w_inN (lo := 1) (hi := 16) rfl rfl (by decide) (by decide) hx (i0 ⟨rfl, hI.toI⟩))
end TABLE
