def updP (T : tT) (k c : Nat) (L : Nat → Nat) : tT := fun b i => if b = 173 ∧ i = k then c else if b = 174 ∧ 12 * k ≤ i ∧ i < 12 * k + 12 then L (i - 12 * k) else T b i
section PIECES
variable {m m1 : vM} {T : tT}
theorem updP_o (T : tT) (k c : Nat) (L : Nat → Nat) (b : Nat) (h1 : b ≠ 173) (h2 : b ≠ 174) : updP T k c L b = T b := by
  funext i
  unfold updP
  rw [if_neg (fun z => h1 z.1), if_neg (fun z => h2 z.1)]
theorem updP_c (T : tT) (k c : Nat) (L : Nat → Nat) : updP T k c L 173 k = c := if_pos ⟨rfl, rfl⟩
theorem updP_L (T : tT) (k c : Nat) (L : Nat → Nat) (i : Nat) (hi : i < 12) : updP T k c L 174 (12 * k + i) = L i := by
  unfold updP
  rw [if_neg (fun z => absurd z.1 (by decide)), if_pos ⟨rfl, by omega, by omega⟩]
  congr 1
  omega
theorem eqT.pcs {k c : Nat} {L : Nat → Nat} : eqT T (updP T k c L) k := by
  refine ⟨fun b hb => updP_o _ _ _ _ _ (by omega) (by omega), fun b hb => updP_o _ _ _ _ _ (by omega) (by omega), fun b h1 h2 h3 j hj => ?_, fun j hj => ?_⟩
  · unfold updP
    rw [if_neg (fun z => hj z.2), if_neg (fun z => h3 z.1)]
  · unfold updP
    rw [if_neg (fun z => absurd z.1 (by decide)), if_neg (by omega)]
theorem Vw.piecesU (hV : Vw m T) {k c : Nat} {L : Nat → Nat} (hk : k < T 163 7) (hc : c ≤ 12) (hL : ∀ i, i < c → 1 ≤ L i ∧ L i ≤ 20) (hm : eqM m m1 k) (hA : ∀ j, j ≠ 7 → m1.1 (cA k) j = m.1 (cA k) j) (hA7 : m1.1 (cA k) 7 = nI c) (hAL : ∀ i, i < c → m1.1 (cA k + 1) i = nI (L i)) (hM : ∀ a, 167 ≤ a → a ≤ 176 → a ≠ 173 → a ≠ 174 → m1.1 a k = m.1 a k) (h3 : m1.1 173 k = nI c) (h4 : ∀ i, i < c → m1.1 174 (12 * k + i) = nI (L i)) : Vw m1 (updP T k c L) := by
  obtain ⟨b0, b1, b2, b3, b4, b5, b6, b7, b8, b9⟩ := hV.xc hk
  obtain ⟨c0, c1, c2, c3, c4, c5, c6, c7, c8, c9⟩ := hV.mc hk
  obtain ⟨d1, d2, d3, d4, d5, d6, d7, d8, d9, d10⟩ := hV.cell hk
  have ht : ∀ b, b ≠ 173 → b ≠ 174 → updP T k c L b = T b := fun b h1 h2 => updP_o _ _ _ _ _ h1 h2
  refine hV.cellU hk eqT.pcs hm ?_ ?_ ?_ ?_
  · unfold CellT
    rw [updP_c, ht 163 (by decide) (by decide), ht 167 (by decide) (by decide), ht 168 (by decide) (by decide), ht 169 (by decide) (by decide), ht 170 (by decide) (by decide), ht 171 (by decide) (by decide), ht 172 (by decide) (by decide), ht 175 (by decide) (by decide), ht 176 (by decide) (by decide)]
    exact ⟨d1, d2, d3, d4, d5, d6, hc, d8, d9, fun i hi => by rw [updP_L _ _ _ _ _ (by omega)]; exact hL i hi⟩
  · unfold VCx
    rw [updP_c, hA7, hA 0 (by decide), hA 1 (by decide), hA 2 (by decide), hA 3 (by decide), hA 4 (by decide), hA 5 (by decide), hA 6 (by decide), hA 8 (by decide), ht 167 (by decide) (by decide), ht 168 (by decide) (by decide), ht 169 (by decide) (by decide), ht 170 (by decide) (by decide), ht 171 (by decide) (by decide), ht 172 (by decide) (by decide), ht 175 (by decide) (by decide), ht 176 (by decide) (by decide)]
    exact ⟨b0, b1, b2, b3, b4, b5, b6, rfl, b8, fun i hi => by rw [updP_L _ _ _ _ _ (by omega)]; exact hAL i hi⟩
  · unfold VCm
    rw [updP_c, h3, hM 167 (by decide) (by decide) (by decide) (by decide), hM 168 (by decide) (by decide) (by decide) (by decide), hM 169 (by decide) (by decide) (by decide) (by decide), hM 170 (by decide) (by decide) (by decide) (by decide), hM 171 (by decide) (by decide) (by decide) (by decide), hM 172 (by decide) (by decide) (by decide) (by decide), hM 175 (by decide) (by decide) (by decide) (by decide), hM 176 (by decide) (by decide) (by decide) (by decide), ht 167 (by decide) (by decide), ht 168 (by decide) (by decide), ht 169 (by decide) (by decide), ht 170 (by decide) (by decide), ht 171 (by decide) (by decide), ht 172 (by decide) (by decide), ht 175 (by decide) (by decide), ht 176 (by decide) (by decide)]
    exact ⟨c0, c1, c2, c3, c4, c5, c6, rfl, c8, fun i hi => by rw [updP_L _ _ _ _ _ (by omega)]; exact h4 i hi⟩
  · intro h0
    rw [ht 172 (by decide) (by decide)] at h0
    rw [ht 168 (by decide) (by decide), ht 169 (by decide) (by decide), ht 170 (by decide) (by decide), ht 171 (by decide) (by decide)]
    exact ⟨h0, rfl, rfl, rfl, rfl⟩
/-- the memory of one cell's pieces: component's part first, the check's after -/
def pcX (m : vM) (k : Nat) (c : Int32) (f : Nat → Int32) : vM := fillA (upA (upI m (cA k) 7 c) (cA k + 1) f) (cA k + 2) 252 (-1)
def pcM (m : vM) (k : Nat) (c : Int32) (f : Nat → Int32) : vM := upA (upI m 173 k c) 174 f
theorem InvT.pieces (hI : InvT m T) {k c : Nat} {L : Nat → Nat} {f g : Nat → Int32} (hk : k < T 163 7) (hc : c ≤ 12) (hL : ∀ i, i < c → 1 ≤ L i ∧ L i ≤ 20) (hf : ∀ i, i < c → f i = nI (L i)) (hg : ∀ i, i < c → g (12 * k + i) = nI (L i)) (hgo : ∀ j, j < 12 * k ∨ 12 * k + 12 ≤ j → g j = m.1 174 j) {m1 : vM} (hX : ∀ a, a < 163 → m1.1 a = (pcX m k (nI c) f).1 a) (hMM : ∀ a, 163 ≤ a → a ≠ 177 → m1.1 a = (pcM m k (nI c) g).1 a) : InvT m1 (updP T k c L) := by
  have hV := hI.1
  have h40 := hV.E40
  have hk40 : k < 40 := by omega
  have hx : ∀ a, a < 163 → a ≠ cA k → a ≠ cA k + 1 → a ≠ cA k + 2 → m1.1 a = m.1 a := fun a h1 h2 h3 h4 => by
    rw [hX a h1]
    unfold pcX
    rw [fillA_o _ _ _ _ _ h4, upA_o _ _ _ _ h3, upI_o _ _ _ _ _ h2]
  have hy : ∀ a, 163 ≤ a → a ≠ 173 → a ≠ 174 → a ≠ 177 → m1.1 a = m.1 a := fun a h1 h2 h3 h4 => by
    rw [hMM a h1 h4]
    unfold pcM
    rw [upA_o _ _ _ _ h3, upI_o _ _ _ _ _ h2]
  have h174 : m1.1 174 = g := by
    rw [hMM 174 (by decide) (by decide)]
    exact upA_s _ _ _
  have h173 : m1.1 173 = (upI m 173 k (nI c)).1 173 := by
    rw [hMM 173 (by decide) (by decide)]
    exact upA_o _ _ _ _ (by decide)
  have hAA : m1.1 (cA k) = (upI m (cA k) 7 (nI c)).1 (cA k) := by
    rw [hX _ (by unfold cA; omega)]
    unfold pcX
    rw [fillA_o _ _ _ _ _ (by omega), upA_o _ _ _ _ (by omega)]
  have hLL : m1.1 (cA k + 1) = f := by
    rw [hX _ (by unfold cA; omega)]
    unfold pcX
    rw [fillA_o _ _ _ _ _ (by omega), upA_s]
  have hKK : ∀ w, w < 252 → m1.1 (cA k + 2) w = -1 := fun w hw => by
    rw [hX _ (by unfold cA; omega)]
    unfold pcX
    rw [fillA_s _ _ _ _ _ hw]
  have hm : eqM m m1 k := by
    refine ⟨fun a h1 h2 h3 h4 => ?_, fun a h1 h2 h3 j hj => ?_, fun j hj => ?_⟩
    · rcases Nat.lt_or_ge a 163 with q | q
      · exact hx a q h2 h3 h4
      · exact hy a q (by omega) (by omega) (by omega)
    · by_cases h : a = 173
      · subst h
        rw [h173, upI_n _ _ _ _ _ _ (Or.inr hj)]
      · rw [hy a (by omega) h h3 (by omega)]
    · rw [h174]; exact hgo j hj
  refine hI.upd ?_ ?_ (hV.piecesU hk hc hL hm (fun j hj => ?_) ?_ (fun i hi => by rw [hLL]; exact hf i hi) (fun a h1 h2 h3 h4 => by rw [hy a (by omega) h3 h4 (by omega)]) ?_ (fun i hi => by rw [h174]; exact hg i hi)) (hI.2.1.cellU hV eqT.pcs hm hKK)
  · unfold eqRst
    rw [updP_o _ _ _ _ _ (show 163 ≠ 173 by decide) (by decide), updP_o _ _ _ _ _ (show 181 ≠ 173 by decide) (by decide), updP_o _ _ _ _ _ (show 189 ≠ 173 by decide) (by decide), updP_o _ _ _ _ _ (show 190 ≠ 173 by decide) (by decide)]
    exact ⟨rfl, rfl, rfl, rfl, rfl, rfl⟩
  · intro a j ho hs
    by_cases h177 : a = 177
    · subst h177; cases hs
    rcases Nat.lt_or_ge a 163 with q | q
    · rw [hx a q]
      · intro e; subst e; rw [oC_cA hk40] at ho; cases ho
      · intro e; subst e; rw [oC_cL hk40] at ho; cases ho
      · intro e; subst e; rw [oC_cK hk40] at ho; cases ho
    · rw [hy a q _ _ h177]
      · intro e; subst e; cases ho
      · intro e; subst e; cases ho
  · rw [hAA, upI_n _ _ _ _ _ _ (Or.inr hj)]
  · rw [hAA, upI_s]
  · rw [h173, upI_s]
theorem pcX_o {a k : Nat} {c : Int32} {f : Nat → Int32} (h : 125 ≤ a) (hk : k < 40) : (pcX m k c f).1 a = m.1 a := by
  unfold pcX
  rw [fillA_o _ _ _ _ _ (by unfold cA; omega), upA_o _ _ _ _ (by unfold cA; omega), upI_o _ _ _ _ _ (by unfold cA; omega)]
theorem int_split (x : Int32) : x < 0 ∨ ∃ n, n < 2 ^ 31 ∧ x = nI n := by
  by_cases h : x < 0
  · exact Or.inl h
  · exact Or.inr (nI_of h)
theorem neg_le {x : Int32} {n : Nat} (h : x < 0) (hn : n < 2 ^ 31) : x ≤ nI n := by
  rw [Int32.lt_iff_toInt_lt, Int32.toInt_zero] at h
  rw [Int32.le_iff_toInt_le, nI_toInt hn]
  omega
theorem neg_nlt {x : Int32} {n : Nat} (h : x < 0) (hn : n < 2 ^ 31) : ¬ nI n < x := by
  rw [Int32.lt_iff_toInt_lt, Int32.toInt_zero] at h
  rw [Int32.lt_iff_toInt_lt, nI_toInt hn]
  omega
theorem neg_nle {x : Int32} {n : Nat} (h : x < 0) (hn : n < 2 ^ 31) : ¬ nI n ≤ x := by
  rw [Int32.lt_iff_toInt_lt, Int32.toInt_zero] at h
  rw [Int32.le_iff_toInt_le, nI_toInt hn]
  omega
theorem neg_lt {x : Int32} {n : Nat} (h : x < 0) (hn : n < 2 ^ 31) : x < nI n := by
  rw [Int32.lt_iff_toInt_lt, Int32.toInt_zero] at h
  rw [Int32.lt_iff_toInt_lt, nI_toInt hn]
  omega
theorem upI_upA (m : vM) (a j : Nat) (v : Int32) : upI m a j v = upA m a (fun i => if i = j then v else m.1 a i) := by
  unfold upI upA upd
  rfl
theorem pair_words (x y : Int32) : Pair (EI_X6_words x y) (EI_X7_words x y) := by
  rintro m ⟨T, hI⟩
  have hV := hI.1
  have h40 := hV.E40
  rcases cell1 T x with h | ⟨k, hk, rfl⟩
  · refine e_X6_words ?_
    unfold wp_X6_words
    refine Y_bad hV h ?_
    refine f_X7_words (b_X7_words_0 ?_)
    unfold wp_X7_words_0
    exact ⟨fun _ => need_N hV (Or.inr h) ⟨fun h => absurd h (by decide), fun _ => ⟨rfl, hI.toI⟩⟩, fun _ => need_N hV (Or.inr h) ⟨fun h => absurd h (by decide), fun _ => ⟨rfl, hI.toI⟩⟩⟩
  · refine e_X6_words ?_
    unfold wp_X6_words
    refine Y_cell hV hk rfl ?_
    have hv : vp_in (nI k) 40 := vI (by omega) (by decide)
    have hk40 : k < 40 := by omega
    by_cases hb : y ≤ 12
    · have hb' : ¬ (12 : Int32) < y := by
        rw [Int32.lt_iff_toInt_lt]
        rw [Int32.le_iff_toInt_le] at hb
        omega
      refine ifs hb ?_
      by_cases hd : T 172 k = 0
      · refine X_pres hV hk hd ?_
        rcases int_split y with hn | ⟨n, hn, rfl⟩
        · refine ifn (fun z => neg_nle (n := 0) hn (by decide) z) (w_tell (f := 5) rfl (by decide) ?_)
          refine f_X7_words (b_X7_words_0 ?_)
          unfold wp_X7_words_0
          refine ifn hb' (need_Y (tell_Vw hV) hk rfl hd ⟨fun _ => ?_, fun h => absurd (by decide) h⟩)
          exact ifn (fun z => neg_nle (n := 0) hn (by decide) z) (w_meets (f := 5) rfl (by decide) ⟨rfl, (hI.both (by decide) (by decide)).toI⟩)
        · rw [show (12 : Int32) = nI 12 from rfl, leI hn (by omega)] at hb
          refine ifs (nI_pos' hn) ?_
          unfold wp_X0_fill wp_X0_forgetLines
          rintro _ rfl _ rfl m4 em4
          have em4' : m4 = pcX m k (nI n) (fun j => if j < 12 then 1 else (upI m (cA k) 7 (nI n)).1 (cA k + 1) j) := em4
          have hm : ∀ b, 125 ≤ b → m4.1 b = m.1 b := fun b hb => by rw [em4']; exact pcX_o hb hk40
          refine f_X7_words (b_X7_words_0 ?_)
          unfold wp_X7_words_0
          refine ifn hb' (M_need' hV (hm 163 (by decide)) (hm 172 (by decide)) hk rfl hd ⟨fun _ => ?_, fun h => absurd (by decide) h⟩)
          refine ifs (nI_pos' hn) ⟨hv, ?_⟩
          rintro m5 em5
          rw [clI k (by omega)] at em5
          rw [show (0 : Int32) = nI 0 from rfl]
          refine loop_up (Q := fun i => ∀ mm : vM, (∀ a, a ≠ 174 → mm.1 a = m5.1 a) → (∀ j, mm.1 174 j = if 12 * k ≤ j ∧ j < 12 * k + i then 1 else m.1 174 j) → J_X7_words_43 (nI k) (nI n) (nI i) mm (fun r2 m2 => r2 = nI n ∧ Inv m2)) (n := n) ?_ (fun i hi ih => ?_) 0 (Nat.zero_le _) m5 (fun _ _ => rfl) (fun j => by
            rw [if_neg (by omega), em5, upI_o _ _ _ _ _ (by decide), hm 174 (by decide)])
          · intro mm h1 h2
            refine b_X7_words_43 ?_
            unfold wp_X7_words_43
            refine ifs (nI_le (Nat.le_refl _) (by omega)) ⟨rfl, ?_⟩
            refine (hI.pieces (c := n) (L := fun _ => 1) (f := fun j => if j < 12 then 1 else (upI m (cA k) 7 (nI n)).1 (cA k + 1) j) (g := mm.1 174) hk (by omega) (fun i hi => ⟨Nat.le_refl _, by decide⟩) (fun i hi => by rw [if_pos (by omega)]; rfl) (fun i hi => by rw [h2, if_pos ⟨by omega, by omega⟩]; rfl) (fun j hj => by rw [h2, if_neg (by omega)]) (fun a ha => ?_) (fun a ha h177 => ?_)).toI
            · rw [h1 a (by omega), em5, upI_o _ _ _ _ _ (by omega), em4']
            · unfold pcM
              by_cases h174 : a = 174
              · subst h174
                rw [upA_s]
              · rw [upA_o _ _ _ _ h174, h1 a h174, em5]
                by_cases h173 : a = 173
                · subst h173
                  funext j
                  by_cases hj : j = k
                  · subst hj; rw [upI_s, upI_s]
                  · rw [upI_n _ _ _ _ _ _ (Or.inr hj), upI_n _ _ _ _ _ _ (Or.inr hj), hm 173 (by decide)]
                · rw [upI_o _ _ _ _ _ h173, upI_o _ _ _ _ _ h173, hm a (by omega)]
          · intro mm h1 h2
            refine b_X7_words_43 ?_
            unfold wp_X7_words_43
            rw [m12I, adI, ad1I, clI _ (by omega)]
            refine ifn (nI_ge hi (by omega)) ⟨vI (by omega) (by decide), ?_⟩
            rintro _ rfl
            refine ih _ (fun a ha => (upI_o _ _ _ _ _ ha).trans (h1 a ha)) (fun j => ?_)
            by_cases hj : j = 12 * k + i
            · subst hj; rw [upI_s, if_pos ⟨by omega, by omega⟩]
            · rw [upI_n _ _ _ _ _ _ (Or.inr hj), h2]
              by_cases hj2 : 12 * k ≤ j ∧ j < 12 * k + i
              · rw [if_pos hj2, if_pos ⟨hj2.1, by omega⟩]
              · rw [if_neg hj2, if_neg (by omega)]
      · refine X_drop hV hk hd ?_
        refine f_X7_words (b_X7_words_0 ?_)
        unfold wp_X7_words_0
        exact ifn hb' (need_D (tell_Vw hV) hk rfl hd ⟨fun h => absurd h (by decide), fun _ => ⟨rfl, (hI.both (by decide) (by decide)).toI⟩⟩)
    · have hb' : (12 : Int32) < y := by
        rw [Int32.lt_iff_toInt_lt]
        rw [Int32.le_iff_toInt_le] at hb
        omega
      refine ifn hb ?_
      refine f_X7_words (b_X7_words_0 ?_)
      unfold wp_X7_words_0
      exact ifs hb' (need_N hV (Or.inl rfl) ⟨fun h => absurd h (by decide), fun _ => ⟨rfl, hI.toI⟩⟩)
end PIECES
