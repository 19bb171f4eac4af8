def butK (l : List Nat) (m m1 : vM) : Prop := (∀ a, a ∉ l → (∀ k, k < 40 → a ≠ cA k + 2) → m1.1 a = m.1 a) ∧ m1.2 = m.2
theorem butK.rfl' {l : List Nat} {m : vM} : butK l m m := ⟨fun _ _ _ => rfl, rfl⟩
theorem butK.trans {l : List Nat} {m m1 m2 : vM} (h : butK l m m1) (h2 : butK l m1 m2) : butK l m m2 := ⟨fun a x y => (h2.1 a x y).trans (h.1 a x y), h2.2.trans h.2⟩
theorem butK.ofL {l : List Nat} {m m1 : vM} (h : butL l m m1) : butK l m m1 := ⟨fun a x _ => h.1 a x, h.2⟩
theorem butK.ofK {l : List Nat} {m m1 : vM} (h : agK m m1) : butK l m m1 := ⟨fun a _ y => h.1 a y, h.2⟩
theorem butK.mono {l l' : List Nat} {m m1 : vM} (h : butK l m m1) (hs : ∀ a ∈ l, a ∈ l') : butK l' m m1 := ⟨fun a x y => h.1 a (fun q => x (hs a q)) y, h.2⟩
theorem butK.at {l : List Nat} {m m1 : vM} (h : butK l m m1) (a : Nat) (hl : a ∉ l) (ha : a < 5 ∨ 125 ≤ a) : m1.1 a = m.1 a := h.1 a hl (fun _ hk => cK_ne ha hk)
theorem butK.agr {l : List Nat} {m m1 : vM} (h : butK l m m1) (hs : ∀ a ∈ l, ∀ j, scr a j = true) : agr m m1 := by
  intro a j hsc
  rw [h.1 a]
  · intro ha
    rw [hs a ha j] at hsc
    cases hsc
  · intro k hk e
    subst e
    rw [scr_cK hk] at hsc
    cases hsc
theorem CK.keep {m m1 : vM} {T : tT} (hK : CK m T) (h40 : T 163 7 ≤ 40) (h : ∀ k, k < 40 → m1.1 (cA k + 2) = m.1 (cA k + 2)) : CK m1 T := by
  intro k hk w h1 h2
  rw [h k (by omega)]
  exact hK k hk w h1 h2
theorem cK_nin {k a : Nat} (hk : k < 40) (ha : a < 5 ∨ 125 ≤ a) : cA k + 2 ≠ a := by unfold cA; omega
def riseP (T : tT) (b H : Nat → Nat) (s : Nat) (l : List Nat) (r : Nat) : Nat := l.foldl (fun acc k => if r = T 168 k + s - 1 then (if acc < lkF T b H k then lkF T b H k else acc) else acc) 0
theorem riseP_snoc (T : tT) (b H : Nat → Nat) (s : Nat) (l : List Nat) (k r : Nat) : riseP T b H s (l ++ [k]) r = if r = T 168 k + s - 1 then (if riseP T b H s l r < lkF T b H k then lkF T b H k else riseP T b H s l r) else riseP T b H s l r := by
  unfold riseP
  rw [List.foldl_append]
  rfl
theorem rise_eq {T : tT} {b H : Nat → Nat} {s : Nat} (r : Nat) : ∀ k, riseF T b H s k r = riseP T b H s (stg T s k) r := by
  intro k
  induction k with
  | zero => rfl
  | succ k ih =>
    have es : stg T s (k + 1) = if T 172 k = 0 ∧ T 170 k = s ∧ 0 < T 173 k then stg T s k ++ [k] else stg T s k := rfl
    unfold riseF
    by_cases hg : T 172 k = 0 ∧ T 170 k = s ∧ 0 < T 173 k
    · rw [es, if_pos hg, riseP_snoc, ih]
      by_cases hr : r = T 168 k + s - 1
      · rw [if_pos ⟨hg.1, hg.2.1, hr⟩, if_pos hr]
      · rw [if_neg (fun z => hr z.2.2), if_neg hr]
    · rw [es, if_neg hg, ih]
      split
      · rename_i hq
        have h0 : T 173 k = 0 := by
          rcases Nat.eq_zero_or_pos (T 173 k) with q | q
          · exact q
          · exact absurd ⟨hq.1, hq.2.1, q⟩ hg
        have : lkF T b H k = 0 := by
          unfold lkF lnW lnT
          rw [h0]
          split <;> exact Nat.zero_sub _
        rw [this, if_neg (Nat.not_lt_zero _)]
      · rfl
section CME
variable {m : vM} {T : tT}
theorem c_X2_noteLack (hV : Vw m T) {k x : Nat} {N G : Nat → Nat} (hk : k < T 163 7) (hx : x ≤ 240) (hN : ∀ r, r < 16 → m.1 126 r = nI (N r)) (hNb : ∀ r, N r ≤ 3841) (hG : ∀ r, r < 16 → m.1 127 r = nI (G r) ∧ G r ≤ 240) {P : vM → Prop}
    (hp : ∀ m1, butL [127] m m1 → (∀ r, r < 16 → m1.1 127 r = nI (if r = T 168 k + T 170 k - 1 then (if G r < x - nsum (fun j => N (T 168 k + j)) (T 170 k) then x - nsum (fun j => N (T 168 k + j)) (T 170 k) else G r) else G r)) → P m1) : EI_X2_noteLack k (nI x) m P := by
  have h40 := hV.E40
  have hR := hV.R
  obtain ⟨d1, d2, d3, d4, d5, d6, d7, -⟩ := hV.cell hk
  obtain ⟨c0, c1, c2, c3, c4, c5, c6, c7, c8, c9⟩ := hV.xc hk
  have hsums : ∀ i, i ≤ T 170 k → nsum (fun j => N (T 168 k + j)) i ≤ 3841 * 16 := fun i hi => hsum_bd hNb (by omega)
  refine f_X2_noteLack (b_X2_noteLack_0 (by omega) ?_)
  unfold wp_X2_noteLack_0
  rw [c1, c3, adI]
  have e1 : (if (16 : Int32) < nI (T 168 k + T 170 k) then (16 : Int32) else nI (T 168 k + T 170 k)) = nI (T 168 k + T 170 k) := if_neg (nI_nlt (b := T 168 k + T 170 k) (a := 16) (by omega) (by omega))
  rintro _ rfl _ rfl
  rw [e1, show nI x = nI x - nI (nsum (fun j => N (T 168 k + j)) 0) from (sbI (b := 0) (Nat.zero_le _)).symm]
  refine loop_up (Q := fun i => J_X2_noteLack_27 (nI (T 168 k + T 170 k)) (nI x - nI (nsum (fun j => N (T 168 k + j)) i)) (nI (T 168 k + i)) m P) (n := T 170 k) ?_ (fun i hi ih => ?_) 0 (Nat.zero_le _)
  · refine b_X2_noteLack_27 ?_
    unfold wp_X2_noteLack_27
    have hs9 := hsums (T 170 k) (Nat.le_refl _)
    rw [le0I (by omega), show (1 : Int32) = nI 1 from rfl, sbI (by omega), clI (T 168 k + T 170 k - 1) (by omega), (hG (T 168 k + T 170 k - 1) (by omega)).1]
    have hv : vp_in (nI (T 168 k + T 170 k - 1)) 16 := vI (by omega) (by omega)
    refine ⟨fun _ => ⟨fun h => absurd h (by omega), fun _ => ⟨hv, hv, ?_⟩⟩, fun h => absurd (nI_le (Nat.le_refl _) (by omega)) h⟩
    rintro _ rfl
    refine hp _ (butL_upI butL.rfl' (List.mem_singleton.mpr rfl)) (fun r hr => ?_)
    by_cases hrl : r = T 168 k + T 170 k - 1
    · subst hrl
      have hg9 := (hG (T 168 k + T 170 k - 1) (by omega)).2
      rw [upI_s, if_pos rfl]
      simp only [nI_lt_sub (x := x) (y := nsum (fun j => N (T 168 k + j)) (T 170 k)) (z := G (T 168 k + T 170 k - 1)) (by omega) (by omega) (by omega)]
      split
      · rw [sbI (by omega)]
      · rfl
    · rw [upI_n _ _ _ _ _ _ (Or.inr hrl), if_neg hrl]
      exact (hG r hr).1
  · refine b_X2_noteLack_27 ?_
    unfold wp_X2_noteLack_27
    rw [clI (T 168 k + i) (by omega), hN _ (by omega), sub_sub32, adI]
    simp only [ad1I]
    refine ⟨fun h => absurd h (nI_ge (by omega) (by omega)), fun _ => ⟨vI (by omega) (by omega), ?_⟩⟩
    rintro _ rfl
    rw [Nat.add_assoc]
    exact ih
theorem c_X2_grow {N G : Nat → Nat} (hN : ∀ r, r < 16 → m.1 126 r = nI (N r) ∧ m.1 127 r = nI (G r)) {P : vM → Prop} (hp : ∀ m1, butL [126, 127] m m1 → (∀ r, r < 16 → m1.1 126 r = nI (N r + G r) ∧ m1.1 127 r = nI 0) → P m1) : EI_X2_grow m P := by
  refine f_X2_grow (b_X2_grow_0 ?_)
  unfold wp_X2_grow_0
  refine loop_up (Q := fun i => ∀ mm : vM, butL [126, 127] m mm → (∀ r, r < 16 → mm.1 126 r = nI (if r < i then N r + G r else N r) ∧ mm.1 127 r = nI (if r < i then 0 else G r)) → J_X2_grow_2 (nI i) mm P) (n := 16) ?_ (fun i hi ih => ?_) 0 (by omega) m butL.rfl' (fun r hr => by rw [if_neg (Nat.not_lt_zero _), if_neg (Nat.not_lt_zero _)]; exact hN r hr)
  · intro mm hb hg
    refine b_X2_grow_2 ?_
    unfold wp_X2_grow_2
    exact ⟨fun _ => hp mm hb (fun r hr => by have := hg r hr; rw [if_pos hr, if_pos hr] at this; exact this), fun h => absurd (by decide) h⟩
  · intro mm hb hg
    refine b_X2_grow_2 ?_
    unfold wp_X2_grow_2
    have hv : vp_in (nI i) 16 := vI hi (by omega)
    have hgi := hg i hi
    rw [if_neg (Nat.lt_irrefl _), if_neg (Nat.lt_irrefl _)] at hgi
    rw [clI i (by omega), hgi.1, hgi.2, adI, ad1I]
    refine ⟨fun h => absurd h (nI_ge (b := 16) hi (by omega)), fun _ => ⟨hv, hv, hv, ?_⟩⟩
    rintro _ rfl
    refine ⟨hv, ?_⟩
    rintro _ rfl
    refine ih _ (butL_upI (butL_upI hb (by decide)) (by decide)) (fun r hr => ?_)
    by_cases hri : r = i
    · subst hri
      rw [upI_o _ _ _ _ _ (by decide), upI_s, upI_s, if_pos (show r < r + 1 by omega), if_pos (show r < r + 1 by omega)]
      exact ⟨rfl, rfl⟩
    · have h9 := hg r hr
      rw [upI_o _ _ _ _ _ (show (126 : Nat) ≠ 127 by decide), upI_n _ _ _ _ _ _ (Or.inr hri), upI_n _ _ _ _ _ _ (Or.inr hri), upI_o _ _ _ _ _ (show (127 : Nat) ≠ 126 by decide)]
      by_cases hlt2 : r < i
      · rw [if_pos hlt2, if_pos hlt2] at h9
        rw [if_pos (show r < i + 1 by omega), if_pos (show r < i + 1 by omega)]
        exact h9
      · rw [if_neg hlt2, if_neg hlt2] at h9
        rw [if_neg (show ¬ r < i + 1 by omega), if_neg (show ¬ r < i + 1 by omega)]
        exact h9
theorem c_X2_sum (hV : Vw m T) {N : Nat → Nat} (hN : ∀ r, r < 16 → m.1 126 r = nI (N r)) {P : Int32 → vM → Prop} (hp : P (nI (nsum N (T 163 2))) m) : EI_X2_sum m P := by
  have hR := hV.R
  refine f_X2_sum (b_X2_sum_0 ?_)
  unfold wp_X2_sum_0
  refine loop_up (Q := fun i => J_X2_sum_4 (nI (nsum N i)) (nI i) m P) (n := T 163 2) ?_ (fun i hi ih => ?_) 0 (Nat.zero_le _)
  · refine b_X2_sum_4 ?_
    unfold wp_X2_sum_4
    rw [hV.xR]
    exact ⟨fun _ => hp, fun h => absurd (nI_le (Nat.le_refl _) (by omega)) h⟩
  · refine b_X2_sum_4 ?_
    unfold wp_X2_sum_4
    rw [hV.xR, clI i (by omega), hN i (by omega), adI, ad1I]
    refine ⟨fun h => absurd h (nI_ge hi (by omega)), fun _ => ⟨fun h => absurd h (nI_ge (b := 16) (by omega) (by omega)), fun _ => ⟨vI (by omega) (by omega), ?_⟩⟩⟩
    rintro _ rfl
    exact ih
theorem c_X2_measure (hV : Vw m T) (hK : CK m T) (hO : Ord m (allO T (T 163 2))) {a : Nat} {b : Nat → Nat} (hz : a = 130 ∨ a = 138) (hb : ∀ c, c < T 163 3 → m.1 a c = nI (b c) ∧ b c ≤ 5000) {P : Int32 → vM → Prop}
    (hp : ∀ m1, butK [126, 127] m m1 → CK m1 T → (∀ r, r < 16 → m1.1 126 r = nI (HT T b r)) → P (nI (nsum (HT T b) (T 163 2))) m1) : EI_X2_measure a 6 m P := by
  have hR := hV.R
  have hC := hV.C
  have h40 := hV.E40
  have ha : SH a = (0, 6, vz) := by
    rcases hz with rfl | rfl
    · exact sh_130
    · exact sh_138
  have haL : a ∉ [126, 127] := by simp only [List.mem_cons, List.not_mem_nil, or_false]; omega
  have hsc : ∀ b ∈ [126, 127], ∀ j, scr b j = true := by
    intro b hb j
    simp only [List.mem_cons, List.not_mem_nil, or_false] at hb
    rcases hb with rfl | rfl <;> rfl
  have hLl : ∀ s, (allO T s).length ≤ 40 := fun s => by rw [allO_len]; exact Nat.le_trans (cnB_le _ _) h40
  refine f_X2_measure (b_X2_measure_0 ha (by omega) ?_)
  unfold wp_X2_measure_0
  rintro m1 em1 m2 em2
  have hb2 : butK [126, 127] m m2 := by
    rw [em2, em1]
    exact butK.ofL (butL_upA (butL_upA butL.rfl' (by decide)) (by decide))
  have hK2 : CK m2 T := hK.keep h40 (fun k hk => by rw [em2, em1, fillA_o _ _ _ _ _ (cK_nin hk (by omega)), fillA_o _ _ _ _ _ (cK_nin hk (by omega))])
  have hN2 : ∀ r, r < 16 → m2.1 126 r = nI 1 ∧ m2.1 127 r = nI 0 := fun r hr => by
    rw [em2, fillA_s _ _ _ _ _ hr, fillA_o _ _ _ _ _ (by decide), em1, fillA_s _ _ _ _ _ hr]
    exact ⟨rfl, rfl⟩
  -- what holds between two cells
  have key : ∀ (l2 : Nat) (mm : vM), butK [126, 127] m mm → CK mm T → ((∃ N G : Nat → Nat, l2 ≤ 0 ∧ ∀ r, r < 16 → mm.1 126 r = nI (N r) ∧ mm.1 127 r = nI (G r) ∧ N r + G r = htF T b 0 r) ∨ (l2 = 0 + 1 ∧ ∀ r, r < 16 → mm.1 126 r = nI (htF T b 0 r) ∧ mm.1 127 r = nI (riseP T b (htF T b 0) (0 + 1) [] r))) → J_X2_measure_20 a 6 (nI l2) (nI (allO T 0).length) mm P := by
    refine loop_up (Q := fun s => ∀ (l2 : Nat) (mm : vM), butK [126, 127] m mm → CK mm T → ((∃ N G : Nat → Nat, l2 ≤ s ∧ ∀ r, r < 16 → mm.1 126 r = nI (N r) ∧ mm.1 127 r = nI (G r) ∧ N r + G r = htF T b s r) ∨ (l2 = s + 1 ∧ ∀ r, r < 16 → mm.1 126 r = nI (htF T b s r) ∧ mm.1 127 r = nI (riseP T b (htF T b s) (s + 1) [] r))) → J_X2_measure_20 a 6 (nI l2) (nI (allO T s).length) mm P) (n := T 163 2) ?_ (fun s hs ih => ?_) 0 (Nat.zero_le _)
    · intro l2 mm hbm hKm hI
      refine b_X2_measure_20 ha (by omega) ?_
      unfold wp_X2_measure_20
      have hVm := hV.agr (hbm.agr hsc)
      have hl9 := hLl (T 163 2)
      rw [hbm.at 125 (by decide) (by omega), hO.1]
      refine ⟨fun _ => ?_, fun h => absurd (nI_le (Nat.le_refl _) (by omega)) h⟩
      obtain ⟨N, G, hNG, hsum⟩ : ∃ N G : Nat → Nat, (∀ r, r < 16 → mm.1 126 r = nI (N r) ∧ mm.1 127 r = nI (G r)) ∧ ∀ r, r < 16 → N r + G r = HT T b r := by
        rcases hI with ⟨N, G, -, h⟩ | ⟨-, h⟩
        · exact ⟨N, G, fun r hr => ⟨(h r hr).1, (h r hr).2.1⟩, fun r hr => (h r hr).2.2⟩
        · exact ⟨_, _, fun r hr => h r hr, fun r hr => rfl⟩
      refine c_X2_grow hNG (fun m3 hb3 hg3 => ?_)
      have hb3' := hbm.trans (butK.ofL hb3)
      have hN3 : ∀ r, r < 16 → m3.1 126 r = nI (HT T b r) := fun r hr => by rw [(hg3 r hr).1, hsum r hr]
      exact c_X2_sum (hVm.agr (hb3.agr hsc)) hN3 (hp m3 hb3' (hKm.keep h40 (fun k hk => hb3.1 _ (by simp only [List.mem_cons, List.not_mem_nil, or_false]; unfold cA; omega))) hN3)
    · intro l2 mm hbm hKm hI
      have elen : (allO T (s + 1)).length = (allO T s).length + (stg T (s + 1) (T 163 7)).length := by
        show (allO T s ++ stg T (s + 1) (T 163 7)).length = _
        rw [List.length_append]
      have inner : ∀ (l2 : Nat) (mm : vM), butK [126, 127] m mm → CK mm T → (((0 = 0) ∧ ∃ N G : Nat → Nat, l2 ≤ s ∧ ∀ r, r < 16 → mm.1 126 r = nI (N r) ∧ mm.1 127 r = nI (G r) ∧ N r + G r = htF T b s r) ∨ (l2 = s + 1 ∧ ∀ r, r < 16 → mm.1 126 r = nI (htF T b s r) ∧ mm.1 127 r = nI (riseP T b (htF T b s) (s + 1) ((stg T (s + 1) (T 163 7)).take 0) r))) → J_X2_measure_20 a 6 (nI l2) (nI ((allO T s).length + 0)) mm P := by
        refine loop_up (Q := fun j => ∀ (l2 : Nat) (mm : vM), butK [126, 127] m mm → CK mm T → ((j = 0 ∧ ∃ N G : Nat → Nat, l2 ≤ s ∧ ∀ r, r < 16 → mm.1 126 r = nI (N r) ∧ mm.1 127 r = nI (G r) ∧ N r + G r = htF T b s r) ∨ (l2 = s + 1 ∧ ∀ r, r < 16 → mm.1 126 r = nI (htF T b s r) ∧ mm.1 127 r = nI (riseP T b (htF T b s) (s + 1) ((stg T (s + 1) (T 163 7)).take j) r))) → J_X2_measure_20 a 6 (nI l2) (nI ((allO T s).length + j)) mm P) (n := (stg T (s + 1) (T 163 7)).length) ?_ (fun j hj ihj => ?_) 0 (Nat.zero_le _)
        · intro l2 mm hbm hKm hI
          rw [← elen]
          refine ih l2 mm hbm hKm (Or.inl ?_)
          rcases hI with ⟨h0, N, G, hl, h⟩ | ⟨hl, h⟩
          · refine ⟨N, G, by omega, fun r hr => ⟨(h r hr).1, (h r hr).2.1, ?_⟩⟩
            rw [(h r hr).2.2]
            show _ = htF T b s r + riseF T b (htF T b s) (s + 1) (T 163 7) r
            rw [rise_eq, List.length_eq_zero_iff.mp h0]
            rfl
          · refine ⟨_, _, by omega, fun r hr => ⟨(h r hr).1, (h r hr).2, ?_⟩⟩
            rw [List.take_length]
            show _ = htF T b s r + riseF T b (htF T b s) (s + 1) (T 163 7) r
            rw [rise_eq]
        · intro l2 mm hbm hKm hI
          refine b_X2_measure_20 ha (by omega) ?_
          unfold wp_X2_measure_20
          have hVm := hV.agr (hbm.agr hsc)
          have hl9 := hLl (s + 1)
          have hl8 : (allO T (s + 1)).length ≤ (allO T (T 163 2)).length := by
            rw [allO_len, allO_len]
            have : ∀ n, cnB (fun k => decide (T 172 k = 0 ∧ (1 ≤ T 170 k ∧ T 170 k ≤ s + 1) ∧ 0 < T 173 k)) n ≤ cnB (fun k => decide (T 172 k = 0 ∧ (1 ≤ T 170 k ∧ T 170 k ≤ T 163 2) ∧ 0 < T 173 k)) n := by
              intro n
              induction n with
              | zero => exact Nat.le_refl _
              | succ n ihn =>
                unfold cnB
                by_cases hq : (decide (T 172 n = 0 ∧ (1 ≤ T 170 n ∧ T 170 n ≤ s + 1) ∧ 0 < T 173 n)) = true
                · have hq2 : (decide (T 172 n = 0 ∧ (1 ≤ T 170 n ∧ T 170 n ≤ T 163 2) ∧ 0 < T 173 n)) = true := by
                    simp only [decide_eq_true_eq] at hq ⊢; omega
                  rw [if_pos hq, if_pos hq2]; omega
                · rw [if_neg hq]; split <;> omega
            exact this _
          have hl7 := hLl (T 163 2)
          obtain ⟨k, hk⟩ : ∃ k, (stg T (s + 1) (T 163 7))[j]? = some k := ⟨_, List.getElem?_eq_getElem hj⟩
          obtain ⟨k1, k2, k3, k4⟩ := stg_mem _ _ (List.mem_of_getElem? hk)
          have hat := allO_at (S := T 163 2) hs hj
          rw [hk] at hat
          have hord := hO.2 _ _ hat
          obtain ⟨d1, d2, d3, d4, d5, d6, d7, -⟩ := hV.cell k1
          rw [hbm.at 125 (by decide) (by omega), hbm.at 128 (by decide) (by omega), hO.1, clI _ (by omega), hord]
          have etake : (stg T (s + 1) (T 163 7)).take (j + 1) = (stg T (s + 1) (T 163 7)).take j ++ [k] := by
            rw [List.take_succ, hk]; rfl
          have hsp : spanN (T 163 4) b (T 169 k) (T 171 k) ≤ 15 + 5000 * 6 := spanN_bd hV.g (by omega) (fun j hj => (hb _ (by omega)).2)
          have hHb : ∀ r, htF T b s r ≤ 3841 := fun r => by have := (htF_bd hV (b := b) s r).1; omega
          -- a cell on s + 1 rows, the heights being those of s
          have go : ∀ mg : vM, butK [126, 127] m mg → CK mg T → (∀ r, r < 16 → mg.1 126 r = nI (htF T b s r) ∧ mg.1 127 r = nI (riseP T b (htF T b s) (s + 1) ((stg T (s + 1) (T 163 7)).take j) r)) → EI_X1_spanOf k a 6 mg (fun r12 m11 => wp_X0_linesIn k r12 m11 (fun r14 m13 => EI_X2_noteLack k r14 m13 (fun m15 => J_X2_measure_20 a 6 (nI (s + 1)) (nI ((allO T s).length + j) + (1 : Int32)) m15 P))) := by
            intro mg hbg hKg hg
            have hVg := hV.agr (hbg.agr hsc)
            refine c_X1_spanOf (b := b) hVg k1 ha (by omega) (by omega) (fun j hj => by rw [hbg.at a haL (by omega)]; exact (hb _ (by omega)).1) ?_
            refine c_X0_linesIn hVg hKg k1 (by omega) (fun m3 ha3 hK3 => ?_)
            have hV3 := hVg.agr ha3.agr
            have hln := lnW_le hV k1 (spanN (T 163 4) b (T 169 k) (T 171 k))
            have hgP : ∀ r, riseP T b (htF T b s) (s + 1) ((stg T (s + 1) (T 163 7)).take j) r ≤ 240 := by
              intro r
              have hall : ∀ (l : List Nat) (acc : Nat), (∀ x ∈ l, x < T 163 7) → acc ≤ 240 → l.foldl (fun acc k => if r = T 168 k + (s + 1) - 1 then (if acc < lkF T b (htF T b s) k then lkF T b (htF T b s) k else acc) else acc) acc ≤ 240 := by
                intro l
                induction l with
                | nil => intro acc _ h; exact h
                | cons x l ihl =>
                  intro acc hx hacc
                  rw [List.foldl_cons]
                  refine ihl _ (fun y hy => hx y (List.mem_cons_of_mem _ hy)) ?_
                  have h2 : lkF T b (htF T b s) x ≤ 240 := by
                    have := lnW_le hV (hx x List.mem_cons_self) (spanN (T 163 4) b (T 169 x) (T 171 x))
                    unfold lkF; omega
                  split
                  · split <;> omega
                  · exact hacc
              exact hall _ 0 (fun x hx => (stg_mem _ x (List.mem_of_mem_take hx)).1) (Nat.zero_le _)
            refine c_X2_noteLack (N := htF T b s) hV3 k1 hln (fun r hr => by rw [ha3.at 126 (by omega)]; exact (hg r hr).1) hHb (fun r hr => ⟨by rw [ha3.at 127 (by omega)]; exact (hg r hr).2, hgP r⟩) (fun m4 hb4 hg4 => ?_)
            rw [ad1I, Nat.add_assoc]
            refine ihj (s + 1) m4 ((hbg.trans (butK.ofK ha3)).trans (butK.ofL (hb4.mono (by decide)))) (hK3.keep h40 (fun k hk => hb4.1 _ (by rw [List.mem_singleton]; unfold cA; omega))) (Or.inr ⟨rfl, fun r hr => ⟨?_, ?_⟩⟩)
            · rw [hb4.1 126 (by decide), ha3.at 126 (by omega)]; exact (hg r hr).1
            · rw [hg4 r hr, etake, riseP_snoc, k3]
              unfold lkF
              rw [k3]
          refine ⟨fun h => absurd h (nI_ge (by omega) (by omega)), fun _ => ⟨fun h => absurd h (nI_ge (b := 40) (by omega) (by omega)), fun _ => ⟨vI (by omega) (by omega), Or.inr ⟨k, by omega, rfl, ?_⟩⟩⟩⟩
          rw [(hVm.xc k1).2.2.2.1, k3]
          have hl2 : l2 ≤ s + 1 := by rcases hI with ⟨-, N, G, h, -⟩ | ⟨h, -⟩ <;> omega
          rw [eqI (by omega) (by omega)]
          refine ⟨fun hq => ?_, fun hq => ?_⟩
          · rw [← hq]
            rcases hI with ⟨-, N, G, hl, -⟩ | ⟨-, h⟩
            · omega
            · exact go mm hbm hKm h
          · rcases hI with ⟨h0, N, G, hl, h⟩ | ⟨hl, -⟩
            · refine c_X2_grow (N := N) (G := G) (fun r hr => ⟨(h r hr).1, (h r hr).2.1⟩) (fun m3 hb3 hg3 => ?_)
              have hb3' := hbm.trans (butK.ofL hb3)
              have hV3 := hV.agr (hb3'.agr hsc)
              rw [(hV3.xc k1).2.2.2.1, k3]
              rintro _ rfl
              refine go m3 hb3' (hKm.keep h40 (fun k hk => hb3.1 _ (by simp only [List.mem_cons, List.not_mem_nil, or_false]; unfold cA; omega))) (fun r hr => ⟨by rw [(hg3 r hr).1, (h r hr).2.2], ?_⟩)
              rw [(hg3 r hr).2, h0]
              rfl
            · omega
      refine inner l2 mm hbm hKm ?_
      rcases hI with h | h
      · exact Or.inl ⟨rfl, h⟩
      · exact Or.inr h
  refine key 1 m2 hb2 hK2 (Or.inr ⟨rfl, fun r hr => ?_⟩)
  exact hN2 r hr
end CME
