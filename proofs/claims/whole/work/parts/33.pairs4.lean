section PAIRS4
variable {m m1 : vM} {T : tT}
theorem pair_clash : Pair EI_X6_clash EI_X7_clash := by
  rintro m ⟨T, hI⟩
  refine e_X6_clash (e_X7_clash ⟨?_, hI.toI⟩)
  exact hI.2.2.1.2.2.1.symm
theorem cell1 (T : tT) (x : Int32) : (∀ k, k < T 163 7 → x ≠ nI k) ∨ ∃ k, k < T 163 7 ∧ x = nI k := by
  by_cases h : ∃ k, k < T 163 7 ∧ x = nI k
  · exact Or.inr h
  · exact Or.inl (fun k h1 e => h ⟨k, h1, e⟩)
theorem Y_bad (hV : Vw m T) {x : Int32} {B : Nat → vM → Prop} {Q : vM → Prop} (h : ∀ k, k < T 163 7 → x ≠ nI k) (hp : Q m) : wp_X1_numbered x m (fun o m1 => (o = none → Q m1) ∧ ∀ i2 : Nat, i2 < 40 → o = some i2 → B i2 m1) :=
  w_numN hV h ⟨fun _ => hp, fun _ _ q => (Option.some_ne_none _ q.symm).elim⟩
theorem Y_cell (hV : Vw m T) {x : Int32} {k : Nat} {B : Nat → vM → Prop} {Q : vM → Prop} (hk : k < T 163 7) (hx : x = nI k) (hp : B k m) : wp_X1_numbered x m (fun o m1 => (o = none → Q m1) ∧ ∀ i2 : Nat, i2 < 40 → o = some i2 → B i2 m1) := by
  refine w_numY hV hk hx ⟨fun q => (Option.some_ne_none _ q).elim, fun i2 _ q => ?_⟩
  obtain rfl := Option.some.inj q
  exact hp
theorem pair_drop (x : Int32) : Pair (EI_X6_drop x) (EI_X7_drop x) := by
  rintro m ⟨T, hI⟩
  have hV := hI.1
  have h40 := hV.E40
  rcases cell1 T x with h | ⟨k, hk, rfl⟩
  · refine e_X6_drop ?_
    unfold wp_X6_drop
    refine Y_bad hV h ?_
    exact e_X7_drop (w_cellN hV h (i0 ⟨rfl, hI.toI⟩))
  · refine e_X6_drop ?_
    unfold wp_X6_drop
    refine Y_cell hV hk rfl ?_
    have hv : vp_in (nI k) 40 := vI (by omega) (by decide)
    have hk40 : k < 40 := by omega
    by_cases hd : T 172 k = 0
    · refine X_pres hV hk hd ?_
      rintro m4 em4
      have hU := hI.fieldU (f := 8) (a := 172) (v := 1) hk (Or.inr (Or.inr ⟨rfl, rfl, rfl⟩))
      rw [show nI 1 = (1 : Int32) from rfl, ← em4] at hU
      have hm : ∀ b, 125 ≤ b → m4.1 b = m.1 b := fun b hb => by rw [em4]; exact upI_o _ _ _ _ _ (by unfold cA; omega)
      refine e_X7_drop ?_
      unfold wp_X7_drop wp_X7_isCell
      have e1 : m4.1 163 7 - 1 = nI (T 163 7 - 1) := by
        rw [hm 163 (by decide), hV.mE, show (1 : Int32) = nI 1 from rfl, sbI (by omega)]
      refine w_inY (lo := 0) rfl e1 (by omega) (Nat.zero_le _) (by omega) rfl ⟨by decide, i1 ⟨hv, ?_⟩⟩
      rw [clI k (by omega), hm 172 (by decide), (hV.mc hk).2.2.2.2.2.2.2.2.1, hd]
      refine ⟨fun _ => ⟨hv, ?_⟩, fun h => absurd rfl h⟩
      rintro m5 em5
      rw [← em5] at hU
      exact ⟨rfl, hU.toI⟩
    · refine X_drop hV hk hd ?_
      refine e_X7_drop (w_cellY (tell_Vw hV) hk rfl (i1 ⟨hv, ?_⟩))
      rw [clI k (by omega), ((tell_Vw hV).mc hk).2.2.2.2.2.2.2.2.1, eq0I (by have := (hV.cell hk).2.2.2.2.2.1; omega)]
      exact ⟨fun h => absurd h hd, fun _ => w_meets (f := 1) rfl (by decide) ⟨rfl, (hI.both (by decide) (by decide)).toI⟩⟩
theorem pair_mean (x : Int32) : Pair (EI_X6_mean x) (EI_X7_mean x) := by
  rintro m ⟨T, hI⟩
  have hV := hI.1
  have h40 := hV.E40
  rcases cell1 T x with h | ⟨k, hk, rfl⟩
  · refine e_X6_mean ?_
    unfold wp_X6_mean
    refine Y_bad hV h ?_
    exact e_X7_mean (need_N hV (Or.inr h) ⟨fun h => absurd h (by decide), fun _ => ⟨rfl, hI.toI⟩⟩)
  · refine e_X6_mean ?_
    unfold wp_X6_mean
    refine Y_cell hV hk rfl ?_
    have hv : vp_in (nI k) 40 := vI (by omega) (by decide)
    have hpc := pcT_ok hV hk
    by_cases hd : T 172 k = 0
    · refine X_pres hV hk hd ?_
      rw [(hV.xc hk).2.2.2.2.2.2.2.1, ge1I (by omega)]
      refine ⟨fun h1 => ?_, fun h1 => ?_⟩
      · refine c_X0_allLetters hV hk ⟨?_, ?_⟩
        · rw [(hV.xc hk).2.2.2.2.2.2.2.1, eq0I (by omega)]; omega
        · refine e_X7_mean (need_Y hV hk rfl hd ⟨fun _ => ⟨hv, ?_⟩, fun h => absurd (by decide) h⟩)
          rw [clI k (by omega), (hV.mc hk).2.2.2.2.2.2.2.1, eq0I (by omega)]
          refine ⟨fun h => absurd h (by omega), fun _ => c_X7_lettersOf hV hk ⟨hv, ?_, ?_, hI.toI⟩⟩
          · rw [(hV.mc hk).2.2.2.2.2.2.2.1, eq0I (by omega)]; omega
          · rw [(hV.mc hk).2.2.2.2.2.2.2.1, (hV.xc hk).2.2.2.2.2.2.2.1]
      · refine w_tell (f := 4) rfl (by decide) ?_
        refine e_X7_mean (need_Y (tell_Vw hV) hk rfl hd ⟨fun _ => ⟨hv, ?_⟩, fun h => absurd (by decide) h⟩)
        rw [clI k (by omega), ((tell_Vw hV).mc hk).2.2.2.2.2.2.2.1, eq0I (by omega)]
        exact ⟨fun _ => w_meets (f := 4) rfl (by decide) ⟨rfl, (hI.both (by decide) (by decide)).toI⟩, fun h => absurd (by omega) h⟩
    · refine X_drop hV hk hd ?_
      exact e_X7_mean (need_D (tell_Vw hV) hk rfl hd ⟨fun h => absurd h (by decide), fun _ => ⟨rfl, (hI.both (by decide) (by decide)).toI⟩⟩)
theorem x_plN (hV : Vw m T) {x y : Int32} {P : Int32 → vM → Prop} (h : (∀ c, c < T 163 2 → x ≠ nI c) ∨ ∀ c, c < T 163 3 → y ≠ nI c) (hp : P 0 m) : wp_X6_isPlace x y m P := by
  unfold wp_X6_isPlace
  by_cases hx : ∃ c, c < T 163 2 ∧ x = nI c
  · obtain ⟨c, hc, e⟩ := hx
    refine x_rowY hV hc e (i1 (x_colN hV ?_ (i0 hp)))
    rcases h with h | h
    · exact absurd e (h c hc)
    · exact h
  · exact x_rowN hV (fun c hc e => hx ⟨c, hc, e⟩) (i0 hp)
theorem x_plY (hV : Vw m T) {x y : Int32} {r c : Nat} {P : Int32 → vM → Prop} (hr : r < T 163 2) (hc : c < T 163 3) (ex : x = nI r) (ey : y = nI c) (hp : P 1 m) : wp_X6_isPlace x y m P := by
  unfold wp_X6_isPlace
  exact x_rowY hV hr ex (i1 (x_colY hV hc ey (i1 hp)))
theorem place2 (T : tT) (x y : Int32) : ((∀ c, c < T 163 2 → x ≠ nI c) ∨ ∀ c, c < T 163 3 → y ≠ nI c) ∨ ∃ r c, r < T 163 2 ∧ c < T 163 3 ∧ x = nI r ∧ y = nI c := by
  by_cases hx : ∃ c, c < T 163 2 ∧ x = nI c
  · by_cases hy : ∃ c, c < T 163 3 ∧ y = nI c
    · obtain ⟨r, hr, e⟩ := hx
      obtain ⟨c, hc, e2⟩ := hy
      exact Or.inr ⟨r, c, hr, hc, e, e2⟩
    · exact Or.inl (Or.inr (fun c hc e => hy ⟨c, hc, e⟩))
  · exact Or.inl (Or.inl (fun c hc e => hx ⟨c, hc, e⟩))
theorem on_ovl {k r c : Nat} : (T 172 k = 0 ∧ ovl T k r c 1 1) ↔ onT T k r c := by
  unfold onT ovl lies
  omega
theorem pair_on (x y : Int32) : Pair (EI_X6_on x y) (EI_X7_on x y) := by
  rintro m ⟨T, hI⟩
  have hV := hI.1
  have hR := hV.R
  have hC := hV.C
  rcases place2 T x y with h | ⟨r, c, hr, hc, rfl, rfl⟩
  · refine e_X6_on (x_plN hV h (i0 ?_))
    refine e_X7_on ?_
    unfold wp_X7_on
    by_cases hx : ∃ c, c < T 163 2 ∧ x = nI c
    · obtain ⟨r, hr, e⟩ := hx
      refine w_rowY hV hr e (i1 (w_colN hV ?_ (i0 ⟨rfl, hI.toI⟩)))
      rcases h with h | h
      · exact absurd e (h r hr)
      · exact h
    · exact w_rowN hV (fun c hc e => hx ⟨c, hc, e⟩) (i0 ⟨rfl, hI.toI⟩)
  · refine e_X6_on (x_plY hV hr hc rfl rfl (i1 ?_))
    rw [show (1 : Int32) = nI 1 from rfl]
    refine c_X1_firstOn hV (by omega) (by omega) (by omega) (by omega) (fun v hv => ?_)
    refine e_X7_on (w_rowY hV hr rfl (i1 (w_colY hV hc rfl (i1 ?_))))
    refine c_X7_cellOn hV (by omega) (by omega) (fun v2 hv2 => ⟨?_, hI.toI⟩)
    exact hv2.uniq (hv.iff (fun k _ => on_ovl))
theorem pair_page (x y : Int32) : Pair (EI_X6_page x y) (EI_X7_page x y) := by
  rintro m ⟨T, hI⟩
  have hV := hI.1
  obtain ⟨g1, g2, g3, g4, g5⟩ := hI.2.2.2.2
  rcases num_cases y 0 3 with ⟨n, h1, h2, rfl⟩ | hy
  · refine e_X6_page (w_isY (lo := 0) (hi := 3) rfl rfl (by decide) h1 h2 rfl (i1 ?_))
    by_cases hx : ∃ p, p < T 163 32 ∧ x = nI p
    · obtain ⟨p, hp, rfl⟩ := hx
      have e1 : m.1 139 0 - 1 = nI (T 163 32 - 1) := by rw [g1, show (1 : Int32) = nI 1 from rfl, sbI (by omega)]
      have e2 : m.1 163 32 - 1 = nI (T 163 32 - 1) := by rw [g2, show (1 : Int32) = nI 1 from rfl, sbI (by omega)]
      have hv : vp_in (nI p) 16 := vI (by omega) (by decide)
      refine w_isY (lo := 0) rfl e1 (by omega) (Nat.zero_le _) (by omega) rfl (i1 ⟨hv, vI (by omega) (by decide), ?_⟩)
      refine e_X7_page (w_inY (lo := 0) (hi := 3) rfl rfl (by decide) h1 h2 rfl (i1 (w_inY (lo := 0) rfl e2 (by omega) (Nat.zero_le _) (by omega) rfl (i1 ?_))))
      unfold wp_X7_pageTold
      obtain ⟨⟨q1, q2⟩, ⟨q3, q4⟩, q5, q6, q7⟩ := g4 p hp
      rw [clI p (by omega), clI n (by omega), q2, q4, ← q5, ← q6]
      refine sw 0 0 rfl (by omega) (by omega) (fun h => ⟨hv, by rw [h]; exact q1.symm, hI.toI⟩) (fun n0 => ?_) rfl
      refine sw 1 1 rfl (by omega) (by omega) (fun h => ⟨hv, by rw [h]; exact q3.symm, hI.toI⟩) (fun n1 => ?_) rfl
      refine sw 2 2 rfl (by omega) (by omega) (fun h => ⟨hv, by rw [h], hI.toI⟩) (fun n2 => ⟨hv, ?_, hI.toI⟩) rfl
      rw [show n = 3 by omega]
    · have hn : ∀ {q : Int32} {W : Int32 → vM → Prop}, q = nI (T 163 32) → W 0 m → wp_X6_isWithin x 0 (q - 1) m W := by
        rintro q W rfl hw
        rcases Nat.eq_zero_or_pos (T 163 32) with h | h
        · unfold wp_X6_isWithin
          rw [h, show nI 0 - 1 = (-1 : Int32) from rfl]
          refine ⟨fun _ => hw, fun h0 => ⟨fun _ => hw, fun h1 => ?_⟩⟩
          rw [Int32.lt_iff_toInt_lt, Int32.toInt_zero] at h0
          rw [Int32.lt_iff_toInt_lt, show (-1 : Int32).toInt = -1 from rfl] at h1
          omega
        · rw [show (1 : Int32) = nI 1 from rfl, sbI (by omega)]
          exact w_isN (lo := 0) rfl rfl (by omega) (by omega) (fun n _ h2 e => hx ⟨n, by omega, e⟩) hw
      have hn7 : ∀ {q : Int32} {W : Int32 → vM → Prop}, q = nI (T 163 32) → W 0 m → wp_X7_in x 0 (q - 1) m W := by
        rintro q W rfl hw
        rcases Nat.eq_zero_or_pos (T 163 32) with h | h
        · unfold wp_X7_in
          rw [h, show nI 0 - 1 = (-1 : Int32) from rfl]
          refine ⟨fun _ => hw, fun h0 => ⟨fun _ => hw, fun h1 => ?_⟩⟩
          rw [Int32.lt_iff_toInt_lt, Int32.toInt_zero] at h0
          rw [Int32.lt_iff_toInt_lt, show (-1 : Int32).toInt = -1 from rfl] at h1
          omega
        · rw [show (1 : Int32) = nI 1 from rfl, sbI (by omega)]
          exact w_inN (lo := 0) rfl rfl (by omega) (by omega) (fun n _ h2 e => hx ⟨n, by omega, e⟩) hw
      refine hn g1 (i0 ?_)
      exact e_X7_page (w_inY (lo := 0) (hi := 3) rfl rfl (by decide) h1 h2 rfl (i1 (hn7 g2 (i0 ⟨rfl, hI.toI⟩))))
  · refine e_X6_page (w_isN (lo := 0) (hi := 3) rfl rfl (by decide) (by decide) hy (i0 ?_))
    exact e_X7_page (w_inN (lo := 0) (hi := 3) rfl rfl (by decide) (by decide) hy (i0 ⟨rfl, hI.toI⟩))
theorem pair_pageOf (x : Int32) : Pair (EI_X6_pageOf x) (EI_X7_pageOf x) := by
  rintro m ⟨T, hI⟩
  have hV := hI.1
  have hR := hV.R
  obtain ⟨g1, g2, g3, g4, g5⟩ := hI.2.2.2.2
  by_cases h : ∃ c, c < T 163 2 ∧ x = nI c
  · obtain ⟨r, hr, rfl⟩ := h
    refine e_X6_pageOf (x_rowY hV hr rfl (i1 ?_))
    have hfin : ∀ v, Lst (fun p => r < T 189 p + T 190 p) (T 163 32) v → EI_X7_pageOf (nI r) m (fun r2 m2 => r2 = v ∧ Inv m2) := fun v hv => by
      refine e_X7_pageOf (w_rowY hV hr rfl (i1 ⟨vI (by omega) (by decide), ?_, hI.toI⟩))
      rw [clI r (by omega)]
      exact (g5 r hr).uniq hv
    refine f_X3_holding (b_X3_holding_0 ?_)
    unfold wp_X3_holding_0
    rw [show (0 : Int32) = nI 0 from rfl]
    refine loop_up (Q := fun i => (∀ j, j < i → ¬ r < T 189 j + T 190 j) → J_X3_holding_2 (nI r) (nI i) m (fun r4 m3 => EI_X7_pageOf (nI r) m3 (fun r2 m2 => r2 = r4 ∧ Inv m2))) (n := T 163 32) (fun hno => ?_) (fun i hi ih hno => ?_) 0 (Nat.zero_le _) (fun j hj => absurd hj (Nat.not_lt_zero _))
    · refine b_X3_holding_2 ?_
      unfold wp_X3_holding_2
      rw [g1]
      exact ⟨fun _ => hfin _ (Or.inr ⟨hno, rfl⟩), fun h => absurd (nI_le (Nat.le_refl _) (by omega)) h⟩
    · refine b_X3_holding_2 ?_
      unfold wp_X3_holding_2
      obtain ⟨⟨q1, q2⟩, ⟨q3, q4⟩, q5, q6, q7⟩ := g4 i hi
      have hv : vp_in (nI i) 16 := vI (by omega) (by decide)
      rw [g1, clI i (by omega), show (Int32.toNatClampNeg (0 : Int32)) = 0 from rfl, show (Int32.toNatClampNeg (1 : Int32)) = 1 from rfl, q1, q3, adI, leI (a := T 189 i + T 190 i) (b := r) (by omega) (by omega), ad1I]
      refine ⟨fun h => absurd h (nI_ge hi (by omega)), fun _ => ⟨fun h => absurd h (nI_ge (b := 16) (by omega) (by omega)), fun _ => ⟨hv, vI (n := 0) (by decide) (by decide), hv, vI (n := 1) (by decide) (by decide), fun h => ?_, fun h => ?_⟩⟩⟩
      · exact ih (fun j hj => by
          rcases Nat.lt_succ_iff_lt_or_eq.mp hj with q | q
          · exact hno j q
          · subst q; omega)
      · exact hfin _ (Or.inl ⟨i, hi, by omega, hno, rfl⟩)
  · refine e_X6_pageOf (x_rowN hV (fun c hc e => h ⟨c, hc, e⟩) (i0 ?_))
    exact e_X7_pageOf (w_rowN hV (fun c hc e => h ⟨c, hc, e⟩) (i0 ⟨rfl, hI.toI⟩))
end PAIRS4
