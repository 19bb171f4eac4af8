/-! HEIGHTS: what they are, and as the check lays them -/
theorem sub_sub32 (a b c : Int32) : a - b - c = a - (b + c) := by
  apply Int32.toBitVec_inj.mp
  simp only [Int32.toBitVec_sub, Int32.toBitVec_add]
  rw [BitVec.sub_eq_add_neg, BitVec.sub_eq_add_neg, BitVec.sub_eq_add_neg, BitVec.neg_add, BitVec.sub_eq_add_neg, BitVec.add_assoc]
theorem nI_sub_le {x y z : Nat} (hx : x < 2 ^ 30) (hy : y < 2 ^ 30) (hz : z < 2 ^ 30) : (nI x - nI y ≤ nI z) = (x - y ≤ z) := by
  rw [Int32.le_iff_toInt_le, pk_sub_toInt hx hy, nI_toInt (by omega)]
  exact propext (by omega)
theorem nI_lt_sub {x y z : Nat} (hx : x < 2 ^ 30) (hy : y < 2 ^ 30) (hz : z < 2 ^ 30) : (nI z < nI x - nI y) = (z < x - y) := by
  rw [Int32.lt_iff_toInt_lt, pk_sub_toInt hx hy, nI_toInt (by omega)]
  exact propext (by omega)
def lkF (T : tT) (b H : Nat → Nat) (k : Nat) : Nat := lnW T k (spanN (T 163 4) b (T 169 k) (T 171 k)) - nsum (fun j => H (T 168 k + j)) (T 170 k)
def riseF (T : tT) (b H : Nat → Nat) (s : Nat) : Nat → Nat → Nat
  | 0, _ => 0
  | k + 1, r => if T 172 k = 0 ∧ T 170 k = s ∧ r = T 168 k + s - 1 then (if riseF T b H s k r < lkF T b H k then lkF T b H k else riseF T b H s k r) else riseF T b H s k r
def htF (T : tT) (b : Nat → Nat) : Nat → Nat → Nat
  | 0, _ => 1
  | s + 1, r => htF T b s r + riseF T b (htF T b s) (s + 1) (T 163 7) r
def HT (T : tT) (b : Nat → Nat) (r : Nat) : Nat := htF T b (T 163 2) r
section CHH
variable {m : vM} {T : tT}
theorem lnW_le (hV : Vw m T) {k : Nat} (hk : k < T 163 7) (w : Nat) : lnW T k w ≤ 240 := by
  unfold lnW
  split
  · exact lnT_le hV hk (Nat.le_refl _)
  · exact lnT_le hV hk (by omega)
theorem riseF_bd (hV : Vw m T) {b H : Nat → Nat} {s : Nat} (hs : 1 ≤ s) : ∀ k, k ≤ T 163 7 → ∀ r, riseF T b H s k r ≤ 240 ∧ (T 163 2 ≤ r → riseF T b H s k r = 0) := by
  intro k
  induction k with
  | zero => intro _ r; exact ⟨Nat.zero_le _, fun _ => rfl⟩
  | succ k ih =>
    intro hk r
    obtain ⟨i1, i2⟩ := ih (by omega) r
    have h1 := lnW_le hV (k := k) (by omega) (spanN (T 163 4) b (T 169 k) (T 171 k))
    obtain ⟨d1, d2, d3, -⟩ := hV.cell (k := k) (by omega)
    have h2 : lkF T b H k ≤ 240 := by unfold lkF; omega
    unfold riseF
    split
    · rename_i hq
      refine ⟨by split <;> omega, fun h => ?_⟩
      have := hq.2.2
      have := hq.2.1
      omega
    · exact ⟨i1, i2⟩
theorem htF_bd (hV : Vw m T) {b : Nat → Nat} : ∀ s r, htF T b s r ≤ 1 + 240 * s ∧ 1 ≤ htF T b s r ∧ (T 163 2 ≤ r → htF T b s r = 1) := by
  intro s
  induction s with
  | zero => intro r; exact ⟨Nat.le_refl _, Nat.le_refl _, fun _ => rfl⟩
  | succ s ih =>
    intro r
    obtain ⟨h1, h2, h3⟩ := ih r
    obtain ⟨g1, g2⟩ := riseF_bd hV (b := b) (H := htF T b s) (s := s + 1) (by omega) (T 163 7) (Nat.le_refl _) r
    unfold htF
    exact ⟨by omega, by omega, fun h => by rw [h3 h, g2 h]⟩
theorem HT_bd (hV : Vw m T) {b : Nat → Nat} (r : Nat) : HT T b r ≤ 3841 ∧ 1 ≤ HT T b r := by
  have h := htF_bd hV (b := b) (T 163 2) r
  have hR := hV.R
  unfold HT
  exact ⟨by have := h.1; omega, h.2.1⟩
theorem hsum_bd {H : Nat → Nat} {x n : Nat} (hH : ∀ r, H r ≤ 3841) (hn : n ≤ 16) : nsum (fun j => H (x + j)) n ≤ 3841 * 16 := by
  have h := nsum_le (f := fun j => H (x + j)) (b := 3841) (n := n) (fun j _ => hH _)
  have : 3841 * n ≤ 3841 * 16 := Nat.mul_le_mul_left _ hn
  omega
theorem c_X7_layHeights (hV : Vw m T) {a : Nat} {b : Nat → Nat} (ha : SH a = (0, 6, vz)) (hw : a < 197) (h1 : a ≠ 185) (h2 : a ≠ 186) (hb : ∀ c, c < T 163 3 → m.1 a c = nI (b c) ∧ b c ≤ 5000) {P : vM → Prop}
    (hp : ∀ m1, butL [185, 186] m m1 → (∀ r, r < T 163 2 → m1.1 185 r = nI (HT T b r)) → P m1) : EI_X7_layHeights a 6 m P := by
  have hR := hV.R
  have hC := hV.C
  have h40 := hV.E40
  have hsc : ∀ b ∈ [185, 186], ∀ j, scr b j = true := by
    intro b hb j
    simp only [List.mem_cons, List.not_mem_nil, or_false] at hb
    rcases hb with rfl | rfl <;> rfl
  have VU : ∀ {mm : vM} {b j : Nat} {v : Int32}, Vw mm T → b ∈ [185, 186] → Vw (upI mm b j v) T := fun hVm hb => hVm.agr (agr_upI (hsc _ hb _))
  have eA : ∀ {mm : vM}, butL [185, 186] m mm → mm.1 a = m.1 a := fun h => h.1 a (by simp only [List.mem_cons, List.not_mem_nil, or_false]; omega)
  have hHb : ∀ s, s ≤ 16 → ∀ r, htF T b s r ≤ 3841 := fun s hs r => by have := (htF_bd hV (b := b) s r).1; omega
  refine f_X7_layHeights (b_X7_layHeights_0 ha hw ?_)
  unfold wp_X7_layHeights_0
  have stage : ∀ mm : vM, Vw mm T → butL [185, 186] m mm → (∀ r, r < T 163 2 → mm.1 185 r = nI (htF T b 0 r)) → J_X7_layHeights_25 a 6 (nI (0 + 1)) mm P := by
    refine loop_up (Q := fun s => ∀ mm : vM, Vw mm T → butL [185, 186] m mm → (∀ r, r < T 163 2 → mm.1 185 r = nI (htF T b s r)) → J_X7_layHeights_25 a 6 (nI (s + 1)) mm P) (n := T 163 2) ?_ (fun s hs ih => ?_) 0 (Nat.zero_le _)
    · intro mm hVm hbm hg
      refine b_X7_layHeights_25 ha hw ?_
      unfold wp_X7_layHeights_25
      rw [hVm.mR]
      exact ⟨fun _ => hp mm hbm hg, fun h => absurd (nI_lt (by omega) (by omega)) h⟩
    · intro mm hVm hbm hg
      refine b_X7_layHeights_25 ha hw ?_
      unfold wp_X7_layHeights_25
      rw [hVm.mR]
      refine ⟨fun h => absurd h (nI_nlt (by omega) (by omega)), fun _ => ?_⟩
      refine loop_up (Q := fun i => ∀ mm : vM, Vw mm T → butL [185, 186] m mm → (∀ r, r < T 163 2 → mm.1 185 r = nI (htF T b s r)) → (∀ r, r < i → mm.1 186 r = nI 0) → J_X7_layHeights_35 a 6 (nI (s + 1)) (nI i) mm P) (n := T 163 2) ?_ (fun i hi ihi => ?_) 0 (Nat.zero_le _) mm hVm hbm hg (fun r hr => absurd hr (Nat.not_lt_zero _))
      · intro mz hVz hbz hgz hz0
        refine b_X7_layHeights_35 ha hw ?_
        unfold wp_X7_layHeights_35
        rw [hVz.mR]
        refine ⟨fun _ => ?_, fun h => absurd (nI_le (Nat.le_refl _) (by omega)) h⟩
        refine loop_up (Q := fun k => ∀ mk : vM, Vw mk T → butL [185, 186] m mk → (∀ r, r < T 163 2 → mk.1 185 r = nI (htF T b s r)) → (∀ r, r < T 163 2 → mk.1 186 r = nI (riseF T b (htF T b s) (s + 1) k r)) → J_X7_layHeights_58 a 6 (nI (s + 1)) (nI k) mk P) (n := T 163 7) ?_ (fun k hk ihk => ?_) 0 (Nat.zero_le _) mz hVz hbz hgz hz0
        · intro mk hVk hbk hga hgg
          refine b_X7_layHeights_58 ha hw ?_
          unfold wp_X7_layHeights_58
          rw [hVk.mE]
          refine ⟨fun _ => ?_, fun h => absurd (nI_le (Nat.le_refl _) (by omega)) h⟩
          refine loop_up (Q := fun i => ∀ mm : vM, Vw mm T → butL [185, 186] m mm → mm.1 186 = mk.1 186 → (∀ r, r < T 163 2 → mm.1 185 r = nI (if r < i then htF T b (s + 1) r else htF T b s r)) → J_X7_layHeights_199 a 6 (nI (s + 1)) (nI i) mm P) (n := T 163 2) ?_ (fun i hi ihi => ?_) 0 (Nat.zero_le _) mk hVk hbk rfl (fun c hc => by rw [if_neg (Nat.not_lt_zero _)]; exact hga c hc)
          · intro mm hVm hbm he hg
            refine b_X7_layHeights_199 ha hw ?_
            unfold wp_X7_layHeights_199
            rw [hVm.mR, ad1I]
            refine ⟨fun _ => ih mm hVm hbm (fun c hc => by rw [hg c hc, if_pos hc]), fun h => absurd (nI_le (Nat.le_refl _) (by omega)) h⟩
          · intro mm hVm hbm he hg
            refine b_X7_layHeights_199 ha hw ?_
            unfold wp_X7_layHeights_199
            have hv : vp_in (nI i) 16 := vI (by omega) (by omega)
            rw [hVm.mR, clI i (by omega), hg i hi, if_neg (Nat.lt_irrefl _), he, hgg i hi, adI]
            simp only [ad1I]
            refine ⟨fun h => absurd h (nI_ge hi (by omega)), fun _ => ⟨hv, hv, hv, ?_⟩⟩
            rintro _ rfl
            refine ihi _ (VU hVm (by decide)) (butL_upI hbm (by decide)) (by rw [upI_o _ _ _ _ _ (by decide)]; exact he) (fun c hc => ?_)
            by_cases hci : c = i
            · subst hci
              rw [upI_s, if_pos (show c < c + 1 by omega)]; rfl
            · rw [upI_n _ _ _ _ _ _ (Or.inr hci), hg c hc]
              by_cases hlt2 : c < i
              · rw [if_pos hlt2, if_pos (by omega)]
              · rw [if_neg hlt2, if_neg (by omega)]
        · intro mk hVk hbk hga hgg
          refine b_X7_layHeights_58 ha hw ?_
          unfold wp_X7_layHeights_58
          obtain ⟨d1, d2, d3, d4, d5, d6, d7, -⟩ := hV.cell hk
          have hv : vp_in (nI k) 40 := vI (by omega) (by omega)
          have eg : ∀ r, riseF T b (htF T b s) (s + 1) (k + 1) r = if T 172 k = 0 ∧ T 170 k = s + 1 ∧ r = T 168 k + (s + 1) - 1 then (if riseF T b (htF T b s) (s + 1) k r < lkF T b (htF T b s) k then lkF T b (htF T b s) k else riseF T b (htF T b s) (s + 1) k r) else riseF T b (htF T b s) (s + 1) k r := fun _ => rfl
          have hmk := hVk.mc hk
          rw [hVk.mE, clI k (by omega), hmk.2.2.2.2.2.2.2.2.1, hmk.2.2.2.1, eq0I (by omega), eqI (a := T 170 k) (by omega) (by omega)]
          simp only [ad1I]
          refine ⟨fun h => absurd h (nI_ge hk (by omega)), fun _ => ⟨hv, fun hgn => ⟨hv, fun hsk => ⟨hv, hv, ?_⟩, fun hsk => ?_⟩, fun hgn => ?_⟩⟩
          · rw [hmk.2.2.1, hmk.2.2.2.2.1]
            have hsp : spanN (T 163 4) b (T 169 k) (T 171 k) ≤ 15 + 5000 * 6 := spanN_bd hV.g (by omega) (fun j hj => (hb _ (by omega)).2)
            refine c_X7_widthOver hVk (b := b) ha hw d4 (by omega) (fun j hj => by rw [eA hbk]; exact (hb _ (by omega)).1) ?_
            refine c_X7_linesOf hVk hk (by omega) ⟨hv, ?_⟩
            rw [hmk.2.1]
            rintro _ rfl
            have hln := lnW_le hV hk (spanN (T 163 4) b (T 169 k) (T 171 k))
            have hsums : ∀ i, i ≤ s + 1 → nsum (fun j => htF T b s (T 168 k + j)) i ≤ 3841 * 16 := fun i hi => hsum_bd (hHb s (by omega)) (by omega)
            have e0 : nI (lnW T k (spanN (T 163 4) b (T 169 k) (T 171 k))) = nI (lnW T k (spanN (T 163 4) b (T 169 k) (T 171 k))) - nI (nsum (fun j => htF T b s (T 168 k + j)) 0) := by
              exact (sbI (b := 0) (Nat.zero_le _)).symm
            rw [e0]
            refine loop_up (Q := fun i => J_X7_layHeights_117 a 6 (nI (s + 1)) (nI k) (nI (lnW T k (spanN (T 163 4) b (T 169 k) (T 171 k))) - nI (nsum (fun j => htF T b s (T 168 k + j)) i)) (nI (T 168 k + i)) mk P) (n := s + 1) ?_ (fun i hi ihi => ?_) 0 (Nat.zero_le _)
            · refine b_X7_layHeights_117 ha hw ?_
              unfold wp_X7_layHeights_117
              rw [clI k (by omega), hmk.2.1, adI]
              refine ⟨hv, fun _ => ⟨hv, ?_⟩, fun h => absurd (nI_le (Nat.le_refl _) (by omega)) h⟩
              rw [show (1 : Int32) = nI 1 from rfl, sbI (by omega)]
              rintro _ rfl
              have hvl : vp_in (nI (T 168 k + (s + 1) - 1)) 16 := vI (by omega) (by omega)
              have hrs := (riseF_bd hV (b := b) (H := htF T b s) (s := s + 1) (by omega) k (by omega) (T 168 k + (s + 1) - 1)).1
              have hs9 := hsums (s + 1) (Nat.le_refl _)
              have elk : lkF T b (htF T b s) k = lnW T k (spanN (T 163 4) b (T 169 k) (T 171 k)) - nsum (fun j => htF T b s (T 168 k + j)) (s + 1) := by unfold lkF; rw [hsk]
              rw [clI (T 168 k + (s + 1) - 1) (by omega), hgg _ (by omega), nI_sub_le (by omega) (by omega) (by omega), adI]
              have step : ∀ v : Nat, v = riseF T b (htF T b s) (s + 1) (k + 1) (T 168 k + (s + 1) - 1) → J_X7_layHeights_58 a 6 (nI (s + 1)) (nI (k + 1)) (upI mk 186 (T 168 k + (s + 1) - 1) (nI v)) P := by
                rintro v rfl
                refine ihk _ (VU hVk (by decide)) (butL_upI hbk (by decide)) (fun r hr => by rw [upI_o _ _ _ _ _ (by decide)]; exact hga r hr) (fun r hr => ?_)
                by_cases hrl : r = T 168 k + (s + 1) - 1
                · subst hrl
                  rw [upI_s]
                · rw [upI_n _ _ _ _ _ _ (Or.inr hrl), hgg r hr, eg r, if_neg (fun z => hrl z.2.2)]
              refine ⟨hvl, fun z => ⟨hvl, hvl, ?_⟩, fun z => ⟨hvl, ?_⟩⟩
              · rintro _ rfl
                exact step _ (by rw [eg, if_pos ⟨hgn, hsk, rfl⟩, if_neg (by omega)])
              · rintro _ rfl
                rw [sbI (by omega)]
                exact step _ (by rw [eg, if_pos ⟨hgn, hsk, rfl⟩, if_pos (by omega), elk])
            · refine b_X7_layHeights_117 ha hw ?_
              unfold wp_X7_layHeights_117
              rw [clI k (by omega), hmk.2.1, adI, clI (T 168 k + i) (by omega), hga _ (by omega), sub_sub32, adI]
              simp only [ad1I]
              refine ⟨hv, fun h => absurd h (nI_ge (by omega) (by omega)), fun _ => ⟨vI (by omega) (by omega), ?_⟩⟩
              rintro _ rfl
              rw [Nat.add_assoc]
              exact ihi
          · exact ihk mk hVk hbk hga (fun c hc => by rw [eg c, if_neg (fun z => hsk z.2.1)]; exact hgg c hc)
          · exact ihk mk hVk hbk hga (fun c hc => by rw [eg c, if_neg (fun z => hgn z.1)]; exact hgg c hc)
      · intro mz hVz hbz hgz hz0
        refine b_X7_layHeights_35 ha hw ?_
        unfold wp_X7_layHeights_35
        rw [hVz.mR, clI i (by omega)]
        simp only [ad1I]
        refine ⟨fun h => absurd h (nI_ge hi (by omega)), fun _ => ⟨vI (by omega) (by omega), ?_⟩⟩
        rintro _ rfl
        refine ihi _ (VU hVz (by decide)) (butL_upI hbz (by decide)) (fun c hc => by rw [upI_o _ _ _ _ _ (by decide)]; exact hgz c hc) (fun c hc => ?_)
        rcases Nat.lt_succ_iff_lt_or_eq.mp hc with q | q
        · rw [upI_n _ _ _ _ _ _ (Or.inr (by omega))]; exact hz0 c q
        · subst q; rw [upI_s]; rfl
  refine loop_up (Q := fun i => ∀ mm : vM, Vw mm T → butL [185, 186] m mm → (∀ r, r < i → mm.1 185 r = nI 1) → J_X7_layHeights_2 a 6 (nI i) mm P) (n := T 163 2) ?_ (fun i hi ihi => ?_) 0 (Nat.zero_le _) m hV butL.rfl' (fun c hc => absurd hc (Nat.not_lt_zero _))
  · intro mm hVm hbm hg
    refine b_X7_layHeights_2 ha hw ?_
    unfold wp_X7_layHeights_2
    rw [hVm.mR]
    exact ⟨fun _ => stage mm hVm hbm hg, fun h => absurd (nI_le (Nat.le_refl _) (by omega)) h⟩
  · intro mm hVm hbm hg
    refine b_X7_layHeights_2 ha hw ?_
    unfold wp_X7_layHeights_2
    rw [hVm.mR, clI i (by omega)]
    simp only [ad1I]
    refine ⟨fun h => absurd h (nI_ge hi (by omega)), fun _ => ⟨vI (by omega) (by omega), ?_⟩⟩
    rintro _ rfl
    refine ihi _ (VU hVm (by decide)) (butL_upI hbm (by decide)) (fun c hc => ?_)
    rcases Nat.lt_succ_iff_lt_or_eq.mp hc with q | q
    · rw [upI_n _ _ _ _ _ _ (Or.inr (by omega))]; exact hg c q
    · subst q; rw [upI_s]; rfl
theorem c_X7_heightBy (hV : Vw m T) {a : Nat} {b : Nat → Nat} (ha : SH a = (0, 6, vz)) (hw : a < 197) (h1 : a ≠ 185) (h2 : a ≠ 186) (hb : ∀ c, c < T 163 3 → m.1 a c = nI (b c) ∧ b c ≤ 5000) {P : Int32 → vM → Prop}
    (hp : ∀ m1, butL [185, 186] m m1 → (∀ r, r < T 163 2 → m1.1 185 r = nI (HT T b r)) → P (nI (nsum (HT T b) (T 163 2))) m1) : EI_X7_heightBy a 6 m P := by
  have hR := hV.R
  refine f_X7_heightBy (b_X7_heightBy_0 ha hw ?_)
  unfold wp_X7_heightBy_0
  refine c_X7_layHeights hV ha hw h1 h2 hb (fun m1 hb1 hg1 => ?_)
  have hV1 : Vw m1 T := hV.agr (hb1.agr (by
    intro b hb j
    simp only [List.mem_cons, List.not_mem_nil, or_false] at hb
    rcases hb with rfl | rfl <;> rfl))
  refine loop_up (Q := fun i => J_X7_heightBy_9 (nI (nsum (HT T b) i)) (nI i) m1 P) (n := T 163 2) ?_ (fun i hi ih => ?_) 0 (Nat.zero_le _)
  · refine b_X7_heightBy_9 ?_
    unfold wp_X7_heightBy_9
    rw [hV1.mR]
    exact ⟨fun _ => hp m1 hb1 hg1, fun h => absurd (nI_le (Nat.le_refl _) (by omega)) h⟩
  · refine b_X7_heightBy_9 ?_
    unfold wp_X7_heightBy_9
    rw [hV1.mR, clI i (by omega), hg1 i hi, adI]
    simp only [ad1I]
    refine ⟨fun h => absurd h (nI_ge hi (by omega)), fun _ => ⟨vI (by omega) (by omega), ?_⟩⟩
    rintro _ rfl
    exact ih
end CHH
