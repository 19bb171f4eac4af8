/-! the operations that only tell -/
section PAIRS
variable {m : vM} {T : tT}
theorem pair_finding : Pair EI_X6_finding EI_X7_finding := by
  rintro m ⟨T, hI⟩
  refine e_X6_finding (e_X7_finding ⟨?_, hI.toI⟩)
  exact hI.2.2.1.1.symm
theorem pair_tries : Pair EI_X6_tries EI_X7_tries := by
  rintro m ⟨T, hI⟩
  refine e_X6_tries (e_X7_tries ⟨?_, hI.toI⟩)
  exact hI.2.2.1.2.2.2.symm
theorem pair_findings (x : Int32) : Pair (EI_X6_findings x) (EI_X7_findings x) := by
  rintro m ⟨T, hI⟩
  rcases num_cases x 1 6 with ⟨n, h1, h2, rfl⟩ | h
  · have hv : vp_in (nI n) 7 := vI (by omega) (by decide)
    refine e_X6_findings (w_isY (lo := 1) (hi := 6) rfl rfl (by decide) h1 h2 rfl (i1 ⟨hv, ?_⟩))
    refine e_X7_findings (w_inY (lo := 1) (hi := 6) rfl rfl (by decide) h1 h2 rfl (i1 ⟨hv, ?_, hI.toI⟩))
    rw [clI n (by omega)]
    exact (hI.2.2.1.2.1 n h1 h2).symm
  · refine e_X6_findings (w_isN (lo := 1) (hi := 6) rfl rfl (by decide) (by decide) h (i0 ?_))
    exact e_X7_findings (w_inN (lo := 1) (hi := 6) rfl rfl (by decide) (by decide) h (i0 ⟨rfl, hI.toI⟩))
theorem pair_width (x : Int32) : Pair (EI_X6_width x) (EI_X7_width x) := by
  rintro m ⟨T, hI⟩
  have hV := hI.1
  have hC := hV.C
  by_cases h : ∃ c, c < T 163 3 ∧ x = nI c
  · obtain ⟨c, hc, rfl⟩ := h
    have hv : vp_in (nI c) 6 := vI (by omega) (by decide)
    refine e_X6_width (x_colY hV hc rfl (i1 ⟨hv, ?_⟩))
    refine e_X7_width (w_colY hV hc rfl (i1 ⟨hv, ?_, hI.toI⟩))
    obtain ⟨g1, g2, g3⟩ := hI.2.2.2.1 c hc
    rw [clI c (by omega), g1, g2]
  · refine e_X6_width (x_colN hV (fun c hc e => h ⟨c, hc, e⟩) (i0 ?_))
    exact e_X7_width (w_colN hV (fun c hc e => h ⟨c, hc, e⟩) (i0 ⟨rfl, hI.toI⟩))
theorem pair_natural (x y : Int32) : Pair (EI_X6_natural x y) (EI_X7_natural x y) := by
  rintro m ⟨T, hI⟩
  have hV := hI.1
  have hC := hV.C
  by_cases h : ∃ c, c < T 163 3 ∧ x = nI c
  · obtain ⟨c, hc, rfl⟩ := h
    have hv : vp_in (nI c) 6 := vI (by omega) (by decide)
    rcases num_cases y 0 1 with ⟨n, h1, h2, rfl⟩ | hy
    · refine e_X6_natural (x_colY hV hc rfl (i1 (w_isY (lo := 0) (hi := 1) rfl rfl (by decide) h1 h2 rfl (i1 ?_))))
      refine c_X5_measure hV (fun m5 hb5 hw5 => ?_)
      have hV5 : Vw m5 T := hV.ofL hb5 (by decide)
      have hK5 : CK m5 T := hI.2.1.ofL hV.E40 hb5 (by decide)
      rw [clI c (by omega), (hw5 c (by omega)).1, (hw5 c (by omega)).2]
      have hX7 : ∀ v : Int32, v = (if n = 0 then nI (LT T c) else nI (BT T c)) → EI_X7_natural (nI c) (nI n) m5 (fun r2 m2 => r2 = v ∧ Inv m2) := by
        rintro v rfl
        refine e_X7_natural (w_colY hV5 hc rfl (i1 (w_inY (lo := 0) (hi := 1) rfl rfl (by decide) h1 h2 rfl (i1 ?_))))
        refine c_X7_layBoth hV5 (fun m6 hb6 hw6 => ?_)
        have hI6 : Inv m6 := (hI.agr ((hb5.agr (scL _ (by decide))).trans (hb6.agr (scL _ (by decide)))) (hK5.ofL hV.E40 hb6 (by decide))).toI
        rw [clI c (by omega), (hw6 c hc).1, (hw6 c hc).2]
        refine ⟨fun hn => ⟨hv, ?_, hI6⟩, fun hn => ⟨hv, ?_, hI6⟩⟩
        · rw [eq0I (by omega)] at hn; rw [if_pos hn]
        · rw [eq0I (by omega)] at hn; rw [if_neg hn]
      refine ⟨fun hn => ⟨hv, hX7 _ ?_⟩, fun hn => ⟨hv, hX7 _ ?_⟩⟩
      · rw [eq0I (by omega)] at hn; rw [if_pos hn]
      · rw [eq0I (by omega)] at hn; rw [if_neg hn]
    · refine e_X6_natural (x_colY hV hc rfl (i1 (w_isN (lo := 0) (hi := 1) rfl rfl (by decide) (by decide) hy (i0 ?_))))
      exact e_X7_natural (w_colY hV hc rfl (i1 (w_inN (lo := 0) (hi := 1) rfl rfl (by decide) (by decide) hy (i0 ⟨rfl, hI.toI⟩))))
  · refine e_X6_natural (x_colN hV (fun c hc e => h ⟨c, hc, e⟩) (i0 ?_))
    exact e_X7_natural (w_colN hV (fun c hc e => h ⟨c, hc, e⟩) (i0 ⟨rfl, hI.toI⟩))
theorem c_X6_hot (hV : Vw m T) (hK : CK m T) {b : Nat → Nat} (hb : ∀ c, c < T 163 3 → m.1 130 c = nI (b c) ∧ b c ≤ 5000) {P : Int32 → vM → Prop} (hp : ∀ m1, agr m m1 → CK m1 T → (∀ r, r < 16 → m1.1 126 r = nI (HT T b r)) → P (nI (nsum (HT T b) (T 163 2))) m1) : wp_X6_heightOfTable m P := by
  unfold wp_X6_heightOfTable
  refine c_X2_sortCells hV (fun m1 hb1 hO => ?_)
  have e130 : m1.1 130 = m.1 130 := hb1.1 130 (by decide) (by decide)
  refine c_X2_measure (hV.agr hb1.agr) (hK.ofS hV.E40 hb1) hO (Or.inl rfl) (fun c hc => by rw [e130]; exact hb c hc) (fun m2 hb2 hK2 h126 => ?_)
  exact hp m2 (hb1.agr.trans (hb2.agr (scL _ (by decide)))) hK2 h126
theorem pair_height (x : Int32) : Pair (EI_X6_height x) (EI_X7_height x) := by
  rintro m ⟨T, hI⟩
  have hV := hI.1
  have hR := hV.R
  by_cases h : ∃ c, c < T 163 2 ∧ x = nI c
  · obtain ⟨c, hc, rfl⟩ := h
    have hv : vp_in (nI c) 16 := vI (by omega) (by decide)
    refine e_X6_height (x_rowY hV hc rfl (i1 ?_))
    refine c_X6_hot (b := T 181) hV hI.2.1 (fun c hc => ⟨(hI.2.2.2.1 c hc).1, (hI.2.2.2.1 c hc).2.2⟩) (fun m1 ha1 hK1 h126 => ⟨hv, ?_⟩)
    have hI1 := hI.agr ha1 hK1
    refine e_X7_height (w_rowY hI1.1 hc rfl (i1 ?_))
    refine c_X7_layHeights (b := T 181) hI1.1 sh_181 (by decide) (by decide) (by decide) (fun c hc => ⟨(hI1.2.2.2.1 c hc).2.1, (hI1.2.2.2.1 c hc).2.2⟩) (fun m2 hb2 h185 => ⟨hv, ?_, ?_⟩)
    · rw [clI c (by omega), h185 c hc, h126 c (by omega)]
    · exact (hI1.agr (hb2.agr (scL _ (by decide))) (hK1.ofL hV.E40 hb2 (by decide))).toI
  · refine e_X6_height (x_rowN hV (fun c hc e => h ⟨c, hc, e⟩) (i0 ?_))
    exact e_X7_height (w_rowN hV (fun c hc e => h ⟨c, hc, e⟩) (i0 ⟨rfl, hI.toI⟩))
theorem pair_lines (x y : Int32) : Pair (EI_X6_lines x y) (EI_X7_lines x y) := by
  rintro m ⟨T, hI⟩
  have hV := hI.1
  rcases cell3 T x y 1 400 with h | ⟨k, n, hk, hn, rfl, rfl⟩
  · refine e_X6_lines ?_
    unfold wp_X6_lines
    refine X_bad hV (lo := 1) (hi := 400) rfl rfl (by decide) (by decide) h ?_
    exact e_X7_lines (M_bad hV (lo := 1) (hi := 400) rfl rfl (by decide) (by decide) h ⟨rfl, hI.toI⟩)
  · refine e_X6_lines ?_
    unfold wp_X6_lines
    refine X_cell hV (lo := 1) (hi := 400) rfl rfl (by decide) hk hn rfl rfl ?_
    by_cases hd : T 172 k = 0
    · refine X_pres hV hk hd (c_X0_linesIn hV hI.2.1 hk (by omega) (fun m1 ha1 hK1 => ?_))
      have hI1 := hI.agr ha1.agr hK1
      exact e_X7_lines (M_cell hI1.1 (lo := 1) (hi := 400) rfl rfl (by decide) hk hn rfl rfl hd (c_X7_linesOf hI1.1 hk (by omega) ⟨rfl, hI1.toI⟩))
    · refine X_drop hV hk hd ?_
      exact e_X7_lines (M_drop (tell_Vw hV) (lo := 1) (hi := 400) rfl rfl (by decide) hk hn rfl rfl hd ⟨rfl, (hI.both (by decide) (by decide)).toI⟩)
theorem pair_want (x y : Int32) : Pair (EI_X6_want x y) (EI_X7_want x y) := by
  rintro m ⟨T, hI⟩
  have hV := hI.1
  rcases cell3 T x y 0 1 with h | ⟨k, n, hk, hn, rfl, rfl⟩
  · refine e_X6_want ?_
    unfold wp_X6_want
    refine X_bad hV (lo := 0) (hi := 1) rfl rfl (by decide) (by decide) h ?_
    exact e_X7_want (M_bad hV (lo := 0) (hi := 1) rfl rfl (by decide) (by decide) h ⟨rfl, hI.toI⟩)
  · refine e_X6_want ?_
    unfold wp_X6_want
    refine X_cell hV (lo := 0) (hi := 1) rfl rfl (by decide) hk hn rfl rfl ?_
    by_cases hd : T 172 k = 0
    · refine X_pres hV hk hd (c_X0_wanted hV hk hn.2 ?_)
      exact e_X7_want (M_cell hV (lo := 0) (hi := 1) rfl rfl (by decide) hk hn rfl rfl hd (c_X7_wantOf hV hk hn.2 ⟨rfl, hI.toI⟩))
    · refine X_drop hV hk hd ?_
      exact e_X7_want (M_drop (tell_Vw hV) (lo := 0) (hi := 1) rfl rfl (by decide) hk hn rfl rfl hd ⟨rfl, (hI.both (by decide) (by decide)).toI⟩)
def tldT (T : tT) (k n : Nat) : Nat := if n = 0 then T 167 k else if n = 1 then T 168 k else if n = 2 then T 169 k else if n = 3 then T 170 k else if n = 4 then T 171 k else if n = 5 then T 173 k else T 175 k
theorem sw {x : Int32} {n : Nat} (a : Nat) (c : Int32) (hc : c = nI a) (hn : n < 2 ^ 31) (ha : a < 2 ^ 31) {A B : Prop} (f : n = a → A) (g : ¬ n = a → B) (hx : x = nI n) : (x = c → A) ∧ (¬ x = c → B) := by
  subst hc hx
  rw [eqI hn ha]
  exact ⟨f, g⟩
theorem c_X0_fact (hV : Vw m T) {k n : Nat} (hk : k < T 163 7) (hn : n ≤ 6) {P : Int32 → vM → Prop} (hp : P (nI (tldT T k n)) m) : wp_X0_fact k (nI n) m P := by
  obtain ⟨c0, c1, c2, c3, c4, c5, c6, c7, c8, c9⟩ := hV.xc hk
  unfold tldT at hp
  unfold wp_X0_fact
  rw [c0, c1, c2, c3, c4, c5, c7]
  refine sw 0 0 rfl (by omega) (by omega) (fun h => by rw [if_pos h] at hp; exact hp) (fun h => ?_) rfl
  rw [if_neg h] at hp
  refine sw 1 1 rfl (by omega) (by omega) (fun h => by rw [if_pos h] at hp; exact hp) (fun h => ?_) rfl
  rw [if_neg h] at hp
  refine sw 2 2 rfl (by omega) (by omega) (fun h => by rw [if_pos h] at hp; exact hp) (fun h => ?_) rfl
  rw [if_neg h] at hp
  refine sw 3 3 rfl (by omega) (by omega) (fun h => by rw [if_pos h] at hp; exact hp) (fun h => ?_) rfl
  rw [if_neg h] at hp
  refine sw 4 4 rfl (by omega) (by omega) (fun h => by rw [if_pos h] at hp; exact hp) (fun h => ?_) rfl
  rw [if_neg h] at hp
  refine sw 5 5 rfl (by omega) (by omega) (fun h => by rw [if_pos h] at hp; exact hp) (fun h => ?_) rfl
  rw [if_neg h] at hp
  exact hp
theorem c_X7_toldOf (hV : Vw m T) {k n : Nat} (hk : k < T 163 7) (hn : n ≤ 6) {P : Int32 → vM → Prop} (hp : P (nI (tldT T k n)) m) : wp_X7_toldOf (nI k) (nI n) m P := by
  have h40 := hV.E40
  obtain ⟨c0, c1, c2, c3, c4, c5, c6, c7, c8, c9⟩ := hV.mc hk
  have hv : vp_in (nI k) 40 := vI (by omega) (by decide)
  unfold tldT at hp
  unfold wp_X7_toldOf
  rw [clI k (by omega), c0, c1, c2, c3, c4, c5, c7]
  refine sw 0 0 rfl (by omega) (by omega) (fun h => by rw [if_pos h] at hp; exact ⟨hv, hp⟩) (fun h => ?_) rfl
  rw [if_neg h] at hp
  refine sw 1 1 rfl (by omega) (by omega) (fun h => by rw [if_pos h] at hp; exact ⟨hv, hp⟩) (fun h => ?_) rfl
  rw [if_neg h] at hp
  refine sw 2 2 rfl (by omega) (by omega) (fun h => by rw [if_pos h] at hp; exact ⟨hv, hp⟩) (fun h => ?_) rfl
  rw [if_neg h] at hp
  refine sw 3 3 rfl (by omega) (by omega) (fun h => by rw [if_pos h] at hp; exact ⟨hv, hp⟩) (fun h => ?_) rfl
  rw [if_neg h] at hp
  refine sw 4 4 rfl (by omega) (by omega) (fun h => by rw [if_pos h] at hp; exact ⟨hv, hp⟩) (fun h => ?_) rfl
  rw [if_neg h] at hp
  refine sw 5 5 rfl (by omega) (by omega) (fun h => by rw [if_pos h] at hp; exact ⟨hv, hp⟩) (fun h => ?_) rfl
  rw [if_neg h] at hp
  exact ⟨hv, hp⟩
theorem pair_told (x y : Int32) : Pair (EI_X6_told x y) (EI_X7_told x y) := by
  rintro m ⟨T, hI⟩
  have hV := hI.1
  rcases cell3 T x y 0 6 with h | ⟨k, n, hk, hn, rfl, rfl⟩
  · refine e_X6_told ?_
    unfold wp_X6_told
    refine X_bad hV (lo := 0) (hi := 6) rfl rfl (by decide) (by decide) h ?_
    exact e_X7_told (M_bad hV (lo := 0) (hi := 6) rfl rfl (by decide) (by decide) h ⟨rfl, hI.toI⟩)
  · refine e_X6_told ?_
    unfold wp_X6_told
    refine X_cell hV (lo := 0) (hi := 6) rfl rfl (by decide) hk hn rfl rfl ?_
    by_cases hd : T 172 k = 0
    · refine X_pres hV hk hd (c_X0_fact hV hk hn.2 ?_)
      exact e_X7_told (M_cell hV (lo := 0) (hi := 6) rfl rfl (by decide) hk hn rfl rfl hd (c_X7_toldOf hV hk hn.2 ⟨rfl, hI.toI⟩))
    · refine X_drop hV hk hd ?_
      exact e_X7_told (M_drop (tell_Vw hV) (lo := 0) (hi := 6) rfl rfl (by decide) hk hn rfl rfl hd ⟨rfl, (hI.both (by decide) (by decide)).toI⟩)
theorem pair_is (x y : Int32) : Pair (EI_X6_is x y) (EI_X7_is x y) := by
  rintro m ⟨T, hI⟩
  have hV := hI.1
  have h40 := hV.E40
  rcases cell3 T x y 0 3 with h | ⟨k, n, hk, hn, rfl, rfl⟩
  · refine e_X6_is ?_
    unfold wp_X6_is
    refine X_bad hV (lo := 0) (hi := 3) rfl rfl (by decide) (by decide) h ?_
    exact e_X7_is (M_bad hV (lo := 0) (hi := 3) rfl rfl (by decide) (by decide) h ⟨rfl, hI.toI⟩)
  · refine e_X6_is ?_
    unfold wp_X6_is
    refine X_cell hV (lo := 0) (hi := 3) rfl rfl (by decide) hk hn rfl rfl ?_
    by_cases hd : T 172 k = 0
    · obtain ⟨d1, d2, d3, d4, d5, d6, d7, -⟩ := hV.cell hk
      have hM : ∀ v : Int32, v = (if n = 0 then 1 else if n = T 167 k then 1 else 0) → EI_X7_is (nI k) (nI n) m (fun r2 m2 => r2 = v ∧ Inv m2) := by
        rintro v rfl
        refine e_X7_is (M_cell hV (lo := 0) (hi := 3) rfl rfl (by decide) hk hn rfl rfl hd ?_)
        rw [clI k (by omega), (hV.mc hk).1]
        refine sw 0 0 rfl (by omega) (by omega) (fun h => ⟨by rw [if_pos h], hI.toI⟩) (fun h => ⟨vI (by omega) (by decide), ?_⟩) rfl
        rw [if_neg h, eqI (by omega) (by omega)]
        exact ⟨fun h => ⟨by rw [if_pos h], hI.toI⟩, fun h => ⟨by rw [if_neg h], hI.toI⟩⟩
      refine X_pres hV hk hd ?_
      rw [(hV.xc hk).1]
      refine sw 0 0 rfl (by omega) (by omega) (fun h => hM _ (by rw [if_pos h])) (fun h => ?_) rfl
      rw [eqI (by omega) (by omega)]
      exact ⟨fun g => hM _ (by rw [if_neg h, if_pos g.symm]), fun g => hM _ (by rw [if_neg h, if_neg (fun z => g z.symm)])⟩
    · refine X_drop hV hk hd ?_
      exact e_X7_is (M_drop (tell_Vw hV) (lo := 0) (hi := 3) rfl rfl (by decide) hk hn rfl rfl hd ⟨rfl, (hI.both (by decide) (by decide)).toI⟩)
theorem pair_mayBreak (x : Int32) : Pair (EI_X6_mayBreak x) (EI_X7_mayBreak x) := by
  rintro m ⟨T, hI⟩
  have hV := hI.1
  have hR := hV.R
  by_cases h : ∃ c, c < T 163 2 ∧ x = nI c
  · obtain ⟨c, hc, rfl⟩ := h
    refine e_X6_mayBreak (x_rowY hV hc rfl (i1 ?_))
    refine c_X1_headRows hV (fun h hH => ?_)
    refine c_X1_breaksAhead hV (by omega) (by have := hH.1; omega) (fun hb => i1 ?_) (fun hb => i0 ?_)
    · refine e_X7_mayBreak (w_rowY hV hc rfl (i1 ?_))
      exact c_X7_mayBreakAt hV hH (by omega) (fun _ => i1 ⟨rfl, hI.toI⟩) (fun h => absurd hb h)
    · refine e_X7_mayBreak (w_rowY hV hc rfl (i1 ?_))
      exact c_X7_mayBreakAt hV hH (by omega) (fun h => absurd h hb) (fun _ => i0 ⟨rfl, hI.toI⟩)
  · refine e_X6_mayBreak (x_rowN hV (fun c hc e => h ⟨c, hc, e⟩) (i0 ?_))
    exact e_X7_mayBreak (w_rowN hV (fun c hc e => h ⟨c, hc, e⟩) (i0 ⟨rfl, hI.toI⟩))
end PAIRS
