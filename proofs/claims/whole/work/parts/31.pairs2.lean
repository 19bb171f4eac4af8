section PAIRS2
variable {m : vM} {T : tT}
theorem eqRst.up2 {a j v : Nat} (h : a ≠ 163 ∧ a ≠ 181 ∧ a ≠ 189 ∧ a ≠ 190) : eqRst T (up2 T a j v) := by
  unfold eqRst
  rw [up2_o _ _ _ _ _ h.1.symm, up2_o _ _ _ _ _ h.2.1.symm, up2_o _ _ _ _ _ h.2.2.1.symm, up2_o _ _ _ _ _ h.2.2.2.symm]
  exact ⟨rfl, rfl, rfl, rfl, rfl, rfl⟩
theorem CK.up2 {a j v : Nat} (hK : CK m T) (h : a ≠ 163 ∧ a ≠ 173 ∧ a ≠ 174) : CK m (up2 T a j v) := hK.congr (by rw [up2_o _ _ _ _ _ h.1.symm]) (up2_o _ _ _ _ _ h.2.1.symm) (up2_o _ _ _ _ _ h.2.2.symm)
theorem Tok.cells {T' : tT} (h1 : T' 163 = T 163) (h2 : ∀ a, 167 ≤ a → a ≤ 176 → T' a = T a) (ht : ∀ k, k < T 163 7 → CellT T k) (ho : ∀ j k, j < T 163 7 → k < T 163 7 → T 172 j = 0 → T 172 k = 0 → ovl T j (T 168 k) (T 169 k) (T 170 k) (T 171 k) → j = k) : (∀ k, k < T' 163 7 → CellT T' k) ∧ ∀ j k, j < T' 163 7 → k < T' 163 7 → T' 172 j = 0 → T' 172 k = 0 → ovl T' j (T' 168 k) (T' 169 k) (T' 170 k) (T' 171 k) → j = k := by
  unfold CellT ovl at *
  rw [h1, h2 167 (by decide) (by decide), h2 168 (by decide) (by decide), h2 169 (by decide) (by decide), h2 170 (by decide) (by decide), h2 171 (by decide) (by decide), h2 172 (by decide) (by decide), h2 173 (by decide) (by decide), h2 174 (by decide) (by decide), h2 175 (by decide) (by decide), h2 176 (by decide) (by decide)]
  exact ⟨ht, ho⟩
theorem VC.keep {m1 : vM} {T' : tT} {k : Nat} (hk : k < 40) (h2 : ∀ a, 167 ≤ a → a ≤ 176 → T' a = T a ∧ m1.1 a = m.1 a) (h3 : m1.1 (cA k) = m.1 (cA k)) (h4 : m1.1 (cA k + 1) = m.1 (cA k + 1)) (h : VCx m T k ∧ VCm m T k) : VCx m1 T' k ∧ VCm m1 T' k := by
  unfold VCx VCm at *
  rw [h3, h4, (h2 167 (by decide) (by decide)).1, (h2 168 (by decide) (by decide)).1, (h2 169 (by decide) (by decide)).1, (h2 170 (by decide) (by decide)).1, (h2 171 (by decide) (by decide)).1, (h2 172 (by decide) (by decide)).1, (h2 173 (by decide) (by decide)).1, (h2 174 (by decide) (by decide)).1, (h2 175 (by decide) (by decide)).1, (h2 176 (by decide) (by decide)).1, (h2 167 (by decide) (by decide)).2, (h2 168 (by decide) (by decide)).2, (h2 169 (by decide) (by decide)).2, (h2 170 (by decide) (by decide)).2, (h2 171 (by decide) (by decide)).2, (h2 172 (by decide) (by decide)).2, (h2 173 (by decide) (by decide)).2, (h2 174 (by decide) (by decide)).2, (h2 175 (by decide) (by decide)).2, (h2 176 (by decide) (by decide)).2]
  exact h
theorem Vw.weightU (hV : Vw m T) {c w : Nat} (hc : c < 6) (hw : 1 ≤ w ∧ w ≤ 9) : Vw (upI (upI m 2 c (nI w)) 165 c (nI w)) (up2 T 165 c w) := by
  have h40 := hV.E40
  obtain ⟨⟨t1, t2, t3, t4, t5, t6, t7, t8⟩, ⟨a1, a2, a3, a4, a5, a6, a7, a8, a9, a10⟩, hcs⟩ := hV
  have e163 : up2 T 165 c w 163 = T 163 := up2_o _ _ _ _ _ (by decide)
  have e166 : up2 T 165 c w 166 = T 166 := up2_o _ _ _ _ _ (by decide)
  have hm : ∀ a, a ≠ 2 → a ≠ 165 → (upI (upI m 2 c (nI w)) 165 c (nI w)).1 a = m.1 a := fun a h1 h2 => by rw [upI_o _ _ _ _ _ h2, upI_o _ _ _ _ _ h1]
  have htk := Tok.cells (T' := up2 T 165 c w) e163 (fun a h1 h2 => up2_o _ _ _ _ _ (by omega)) t7 t8
  refine ⟨⟨by rw [e163]; exact t1, by rw [e163]; exact t2, by rw [e163]; exact t3, by rw [e163]; exact t4, fun i hi => ?_, by rw [e166]; exact t6, htk.1, htk.2⟩, ?_, fun k hk => ?_⟩
  · by_cases e : i = c
    · subst e; rw [up2_s]; exact hw
    · rw [up2_n _ _ _ _ _ _ (Or.inr e)]; exact t5 i hi
  · unfold VH
    rw [e163, e166, hm 1 (by decide) (by decide), hm 163 (by decide) (by decide), hm 3 (by decide) (by decide), hm 166 (by decide) (by decide)]
    refine ⟨a1, a2, a3, a4, a5, a6, a7, a8, fun i hi => ?_, a10⟩
    rw [upI_o _ _ _ _ _ (show (2 : Nat) ≠ 165 by decide)]
    by_cases e : i = c
    · subst e; rw [up2_s, upI_s, upI_s]; exact ⟨rfl, rfl⟩
    · rw [up2_n _ _ _ _ _ _ (Or.inr e), upI_n _ _ _ _ _ _ (Or.inr e), upI_n _ _ _ _ _ _ (Or.inr e), upI_o _ _ _ _ _ (show (165 : Nat) ≠ 2 by decide)]
      exact a9 i hi
  · rw [e163] at hk
    exact VC.keep (by omega) (fun a h1 h2 => ⟨up2_o _ _ _ _ _ (by omega), hm a (by omega) (by omega)⟩) (hm _ (by unfold cA; omega) (by unfold cA; omega)) (hm _ (by unfold cA; omega) (by unfold cA; omega)) (hcs k hk)
theorem Vw.noteU (hV : Vw m T) {c w : Nat} (hc : c < 10) (hw : 1 ≤ w ∧ w ≤ 6) : Vw (upI (upI m 3 c (nI w)) 166 c (nI w)) (up2 T 166 c w) := by
  have h40 := hV.E40
  obtain ⟨⟨t1, t2, t3, t4, t5, t6, t7, t8⟩, ⟨a1, a2, a3, a4, a5, a6, a7, a8, a9, a10⟩, hcs⟩ := hV
  have e163 : up2 T 166 c w 163 = T 163 := up2_o _ _ _ _ _ (by decide)
  have e165 : up2 T 166 c w 165 = T 165 := up2_o _ _ _ _ _ (by decide)
  have hm : ∀ a, a ≠ 3 → a ≠ 166 → (upI (upI m 3 c (nI w)) 166 c (nI w)).1 a = m.1 a := fun a h1 h2 => by rw [upI_o _ _ _ _ _ h2, upI_o _ _ _ _ _ h1]
  have htk := Tok.cells (T' := up2 T 166 c w) e163 (fun a h1 h2 => up2_o _ _ _ _ _ (by omega)) t7 t8
  refine ⟨⟨by rw [e163]; exact t1, by rw [e163]; exact t2, by rw [e163]; exact t3, by rw [e163]; exact t4, by rw [e165]; exact t5, fun i hi => ?_, htk.1, htk.2⟩, ?_, fun k hk => ?_⟩
  · by_cases e : i = c
    · subst e; rw [up2_s]; exact hw
    · rw [up2_n _ _ _ _ _ _ (Or.inr e)]; exact t6 i hi
  · unfold VH
    rw [e163, e165, hm 1 (by decide) (by decide), hm 163 (by decide) (by decide), hm 2 (by decide) (by decide), hm 165 (by decide) (by decide)]
    refine ⟨a1, a2, a3, a4, a5, a6, a7, a8, a9, fun i hi => ?_⟩
    rw [upI_o _ _ _ _ _ (show (3 : Nat) ≠ 166 by decide)]
    by_cases e : i = c
    · subst e; rw [up2_s, upI_s, upI_s]; exact ⟨rfl, rfl⟩
    · rw [up2_n _ _ _ _ _ _ (Or.inr e), upI_n _ _ _ _ _ _ (Or.inr e), upI_n _ _ _ _ _ _ (Or.inr e), upI_o _ _ _ _ _ (show (166 : Nat) ≠ 3 by decide)]
      exact a10 i hi
  · rw [e163] at hk
    exact VC.keep (by omega) (fun a h1 h2 => ⟨up2_o _ _ _ _ _ (by omega), hm a (by omega) (by omega)⟩) (hm _ (by unfold cA; omega) (by unfold cA; omega)) (hm _ (by unfold cA; omega) (by unfold cA; omega)) (hcs k hk)
theorem pair_weight (x y : Int32) : Pair (EI_X6_weight x y) (EI_X7_weight x y) := by
  rintro m ⟨T, hI⟩
  have hV := hI.1
  have hC := hV.C
  by_cases h : ∃ c, c < T 163 3 ∧ x = nI c
  · obtain ⟨c, hc, rfl⟩ := h
    have hv : vp_in (nI c) 6 := vI (by omega) (by decide)
    rcases num_cases y 1 9 with ⟨n, h1, h2, rfl⟩ | hy
    · refine e_X6_weight (x_colY hV hc rfl (i1 (w_isY (lo := 1) (hi := 9) rfl rfl (by decide) h1 h2 rfl (i1 ⟨hv, ?_⟩))))
      rintro v6 ev6
      refine ⟨hv, ?_⟩
      rintro m8 em8
      rw [clI c (by omega)] at ev6 em8
      have hb8 : butL [2] m m8 := by rw [em8]; exact butL_upI butL.rfl' (by decide)
      have e163 : m8.1 163 = m.1 163 := hb8.at 163
      have hcol : ∀ Q : Int32 → vM → Prop, Q 1 m8 → wp_X7_isColumn (nI c) m8 Q := fun Q hq => by
        unfold wp_X7_isColumn
        rw [e163]
        exact w_inY (lo := 0) rfl (mC1 hV) (by omega) (Nat.zero_le _) (by omega) rfl ⟨by decide, hq⟩
      refine e_X7_weight (hcol _ (i1 (w_inY (lo := 1) (hi := 9) rfl rfl (by decide) h1 h2 rfl (i1 ⟨hv, ?_⟩))))
      rintro v7 ev7
      refine ⟨hv, ?_⟩
      rintro m9 em9
      rw [clI c (by omega)] at ev7 em9
      have hU := hV.weightU (c := c) (w := n) (by omega) ⟨h1, h2⟩
      rw [← em8, ← em9] at hU
      refine ⟨?_, (hI.upd (T' := up2 T 165 c n) (eqRst.up2 (by decide)) ?_ hU ?_).toI⟩
      · rw [ev6, ev7, hb8.at 165, (hV.w (c := c) (by omega)).1, (hV.w (c := c) (by omega)).2]
      · rw [em9, em8]; exact (butO.rfl'.upI rfl).upI rfl
      · rw [em9, em8]; exact ((hI.2.1.upI hV.E40 (by decide)).upI hV.E40 (by decide)).up2 (by decide)
    · refine e_X6_weight (x_colY hV hc rfl (i1 (w_isN (lo := 1) (hi := 9) rfl rfl (by decide) (by decide) hy (i0 ?_))))
      exact e_X7_weight (w_colY hV hc rfl (i1 (w_inN (lo := 1) (hi := 9) rfl rfl (by decide) (by decide) hy (i0 ⟨rfl, hI.toI⟩))))
  · refine e_X6_weight (x_colN hV (fun c hc e => h ⟨c, hc, e⟩) (i0 ?_))
    exact e_X7_weight (w_colN hV (fun c hc e => h ⟨c, hc, e⟩) (i0 ⟨rfl, hI.toI⟩))
theorem pair_note (x y : Int32) : Pair (EI_X6_note x y) (EI_X7_note x y) := by
  rintro m ⟨T, hI⟩
  have hV := hI.1
  rcases num_cases x 0 9 with ⟨c, hc0, hc, rfl⟩ | hx
  · have hv : vp_in (nI c) 10 := vI (by omega) (by decide)
    rcases num_cases y 1 6 with ⟨n, h1, h2, rfl⟩ | hy
    · refine e_X6_note (w_isY (lo := 0) (hi := 9) rfl rfl (by decide) hc0 hc rfl (i1 (w_isY (lo := 1) (hi := 6) rfl rfl (by decide) h1 h2 rfl (i1 ⟨hv, ?_⟩))))
      rintro v6 ev6
      refine ⟨hv, ?_⟩
      rintro m8 em8
      rw [clI c (by omega)] at ev6 em8
      have hb8 : butL [3] m m8 := by rw [em8]; exact butL_upI butL.rfl' (by decide)
      refine e_X7_note (w_inY (lo := 0) (hi := 9) rfl rfl (by decide) hc0 hc rfl (i1 (w_inY (lo := 1) (hi := 6) rfl rfl (by decide) h1 h2 rfl (i1 ⟨hv, ?_⟩))))
      rintro v7 ev7
      refine ⟨hv, ?_⟩
      rintro m9 em9
      rw [clI c (by omega)] at ev7 em9
      have hU := hV.noteU (c := c) (w := n) (by omega) ⟨h1, h2⟩
      rw [← em8, ← em9] at hU
      refine ⟨?_, (hI.upd (T' := up2 T 166 c n) (eqRst.up2 (by decide)) ?_ hU ?_).toI⟩
      · rw [ev6, ev7, hb8.at 166, (hV.nt (k := c) (by omega)).1, (hV.nt (k := c) (by omega)).2]
      · rw [em9, em8]; exact (butO.rfl'.upI rfl).upI rfl
      · rw [em9, em8]; exact ((hI.2.1.upI hV.E40 (by decide)).upI hV.E40 (by decide)).up2 (by decide)
    · refine e_X6_note (w_isY (lo := 0) (hi := 9) rfl rfl (by decide) hc0 hc rfl (i1 (w_isN (lo := 1) (hi := 6) rfl rfl (by decide) (by decide) hy (i0 ?_))))
      exact e_X7_note (w_inY (lo := 0) (hi := 9) rfl rfl (by decide) hc0 hc rfl (i1 (w_inN (lo := 1) (hi := 6) rfl rfl (by decide) (by decide) hy (i0 ⟨rfl, hI.toI⟩))))
  · refine e_X6_note (w_isN (lo := 0) (hi := 9) rfl rfl (by decide) (by decide) hx (i0 ?_))
    exact e_X7_note (w_inN (lo := 0) (hi := 9) rfl rfl (by decide) (by decide) hx (i0 ⟨rfl, hI.toI⟩))
end PAIRS2
