section CB
variable {m : vM} {T : tT}
theorem c_X5_measure (hV : Vw m T) {P : vM → Prop} (hp : ∀ m1, butL [131, 132, 134, 135, 136] m m1 → (∀ c, c < 6 → m1.1 131 c = nI (LT T c) ∧ m1.1 132 c = nI (BT T c)) → P m1) : EI_X5_measure m P := by
  refine f_X5_measure (b_X5_measure_0 ?_)
  unfold wp_X5_measure_0
  have hsc : ∀ b ∈ [131, 132, 134, 135, 136], ∀ j, scr b j = true := by
    intro b hb j
    simp only [List.mem_cons, List.not_mem_nil, or_false] at hb
    rcases hb with rfl | rfl | rfl | rfl | rfl <;> rfl
  refine c_X5_measureFor (what := 0) hV (by omega) (by omega) (fun m1 hb1 hg1 => ?_)
  have hb1' : butL [131, 132, 134, 135, 136] m m1 := hb1.mono (by decide)
  have hV1 := hV.agr (hb1'.agr hsc)
  refine c_X5_measureFor (what := 1) hV1 (by omega) (by omega) (fun m2 hb2 hg2 => ?_)
  have hb2' : butL [131, 132, 134, 135, 136] m m2 := hb1'.trans (hb2.mono (by decide))
  refine loop_up (Q := fun i => ∀ mm : vM, butL [131, 132, 134, 135, 136] m mm → mm.1 131 = m1.1 131 → (∀ c, c < 6 → mm.1 132 c = nI (if c < i then BT T c else B0 T c)) → J_X5_measure_20 (nI i) mm P) (n := 6) ?_ (fun i hi ih => ?_) 0 (by omega) m2 hb2' (hb2.1 131 (by decide)) (fun c hc => by rw [hg2 c hc, if_neg (Nat.not_lt_zero _)]; rfl)
  · intro mm hb he hg
    refine b_X5_measure_20 ?_
    unfold wp_X5_measure_20
    exact ⟨fun _ => hp mm hb (fun c hc => ⟨by rw [he]; exact hg1 c hc, by rw [hg c hc, if_pos hc]⟩), fun h => absurd (by decide) h⟩
  · intro mm hb he hg
    refine b_X5_measure_20 ?_
    unfold wp_X5_measure_20
    have hv : vp_in (nI i) 6 := vI hi (by omega)
    have e1 : m1.1 131 i = nI (LT T i) := hg1 i hi
    have b1 := (LT_bd hV i).1
    have b2 := widF_bd hV (what := 1) (T 163 3) i
    have hC := hV.C
    have e2 : B0 T i = widF T 1 (T 163 3) i := rfl
    rw [← e2] at b2
    have b3 := b2.1
    rw [clI i (by omega), he, e1, hg i hi, if_neg (Nat.lt_irrefl _), ad1I]
    refine ⟨fun h => absurd h (nI_ge (b := 6) hi (by omega)), fun _ => ⟨hv, hv, hv, ?_⟩⟩
    rintro _ rfl
    refine ih _ (butL_upI hb (by decide)) (by rw [upI_o _ _ _ _ _ (by decide)]; exact he) (fun c hc => ?_)
    by_cases hci : c = i
    · subst hci
      rw [upI_s, if_pos (show c < c + 1 by omega)]
      simp only [ltI (a := B0 T c) (b := LT T c) (by omega) (by omega)]
      unfold BT
      split <;> rfl
    · rw [upI_n _ _ _ _ _ _ (Or.inr hci), hg c hc]
      by_cases hlt2 : c < i
      · rw [if_pos hlt2, if_pos (by omega)]
      · rw [if_neg hlt2, if_neg (by omega)]
theorem c_X7_layBoth (hV : Vw m T) {P : vM → Prop} (hp : ∀ m1, butL [182, 183, 178, 179, 180, 184] m m1 → (∀ c, c < T 163 3 → m1.1 182 c = nI (LT T c) ∧ m1.1 183 c = nI (BT T c)) → P m1) : EI_X7_layBoth m P := by
  have hC := hV.C
  refine f_X7_layBoth (b_X7_layBoth_0 ?_)
  unfold wp_X7_layBoth_0
  have hsc : ∀ b ∈ [182, 183, 178, 179, 180, 184], ∀ j, scr b j = true := by
    intro b hb j
    simp only [List.mem_cons, List.not_mem_nil, or_false] at hb
    rcases hb with rfl | rfl | rfl | rfl | rfl | rfl <;> rfl
  refine c_X7_layWidths (what := 0) hV (by omega) (by omega) (fun m1 hb1 hg1 => ?_)
  have hb1' : butL [182, 183, 178, 179, 180, 184] m m1 := hb1.mono (by decide)
  have hV1 := hV.agr (hb1'.agr hsc)
  refine c_X7_layWidths (what := 1) hV1 (by omega) (by omega) (fun m2 hb2 hg2 => ?_)
  have hb2' : butL [182, 183, 178, 179, 180, 184] m m2 := hb1'.trans (hb2.mono (by decide))
  refine loop_up (Q := fun i => ∀ mm : vM, butL [182, 183, 178, 179, 180, 184] m mm → mm.1 182 = m1.1 182 → (∀ c, c < T 163 3 → mm.1 183 c = nI (if c < i then BT T c else B0 T c)) → J_X7_layBoth_20 (nI i) mm P) (n := T 163 3) ?_ (fun i hi ih => ?_) 0 (by omega) m2 hb2' (hb2.1 182 (by decide)) (fun c hc => by rw [hg2 c hc, if_neg (Nat.not_lt_zero _)]; rfl)
  · intro mm hb he hg
    refine b_X7_layBoth_20 ?_
    unfold wp_X7_layBoth_20
    rw [(hV.agr (hb.agr hsc)).mC]
    exact ⟨fun _ => hp mm hb (fun c hc => ⟨by rw [he]; exact hg1 c hc, by rw [hg c hc, if_pos hc]⟩), fun h => absurd (nI_le (Nat.le_refl _) (by omega)) h⟩
  · intro mm hb he hg
    refine b_X7_layBoth_20 ?_
    unfold wp_X7_layBoth_20
    have hv : vp_in (nI i) 6 := vI (by omega) (by omega)
    have e1 : m1.1 182 i = nI (LT T i) := hg1 i hi
    have b1 := (LT_bd hV i).1
    have b2 := widF_bd hV (what := 1) (T 163 3) i
    have e2 : B0 T i = widF T 1 (T 163 3) i := rfl
    rw [← e2] at b2
    have b3 := b2.1
    have step : ∀ v : Nat, v = BT T i → J_X7_layBoth_20 (nI (i + 1)) (upI mm 183 i (nI v)) P := by
      rintro v rfl
      refine ih _ (butL_upI hb (by decide)) (by rw [upI_o _ _ _ _ _ (by decide)]; exact he) (fun c hc => ?_)
      by_cases hci : c = i
      · subst hci
        rw [upI_s, if_pos (show c < c + 1 by omega)]
      · rw [upI_n _ _ _ _ _ _ (Or.inr hci), hg c hc]
        by_cases hlt2 : c < i
        · rw [if_pos hlt2, if_pos (by omega)]
        · rw [if_neg hlt2, if_neg (by omega)]
    rw [(hV.agr (hb.agr hsc)).mC, clI i (by omega), he, e1, hg i hi, if_neg (Nat.lt_irrefl _), leI (a := LT T i) (by omega) (by omega)]
    simp only [ad1I]
    refine ⟨fun h => absurd h (nI_ge hi (by omega)), fun _ => ⟨hv, hv, fun z => ⟨hv, hv, ?_⟩, fun z => ⟨hv, hv, ?_⟩⟩⟩
    · rintro _ rfl
      exact step _ (by unfold BT; rw [if_neg (by omega)])
    · rintro _ rfl
      exact step _ (by unfold BT; rw [if_pos (by omega)])
theorem c_X5_sumOf (hV : Vw m T) {a : Nat} {A : Nat → Nat} (ha : SH a = (0, 6, vz)) (hwa : a < 197) (hA : ∀ c, c < T 163 3 → m.1 a c = nI (A c)) {P : Int32 → vM → Prop} (hp : P (nI (nsum A (T 163 3))) m) : EI_X5_sumOf a 6 m P := by
  have hC := hV.C
  refine f_X5_sumOf (b_X5_sumOf_0 ha hwa ?_)
  unfold wp_X5_sumOf_0
  refine loop_up (Q := fun i => J_X5_sumOf_4 a 6 (nI (nsum A i)) (nI i) m P) (n := T 163 3) ?_ (fun i hi ih => ?_) 0 (Nat.zero_le _)
  · refine b_X5_sumOf_4 ha hwa ?_
    unfold wp_X5_sumOf_4
    rw [hV.xC]
    exact ⟨fun _ => hp, fun h => absurd (nI_le (Nat.le_refl _) (by omega)) h⟩
  · refine b_X5_sumOf_4 ha hwa ?_
    unfold wp_X5_sumOf_4
    rw [hV.xC, clI i (by omega), hA i hi, adI, ad1I]
    refine ⟨fun h => absurd h (nI_ge hi (by omega)), fun _ => ⟨fun h => absurd h (nI_ge (b := 6) (by omega) (by omega)), fun _ => ⟨vI (by omega) (by omega), ?_⟩⟩⟩
    rintro _ rfl
    exact ih
theorem c_X7_sumOf (hV : Vw m T) {a : Nat} {A : Nat → Nat} (ha : SH a = (0, 6, vz)) (hwa : a < 197) (hA : ∀ c, c < T 163 3 → m.1 a c = nI (A c)) {P : Int32 → vM → Prop} (hp : P (nI (nsum A (T 163 3))) m) : EI_X7_sumOf a 6 m P := by
  have hC := hV.C
  refine f_X7_sumOf (b_X7_sumOf_0 ha hwa ?_)
  unfold wp_X7_sumOf_0
  refine loop_up (Q := fun i => J_X7_sumOf_4 a 6 (nI (nsum A i)) (nI i) m P) (n := T 163 3) ?_ (fun i hi ih => ?_) 0 (Nat.zero_le _)
  · refine b_X7_sumOf_4 ha hwa ?_
    unfold wp_X7_sumOf_4
    rw [hV.mC]
    exact ⟨fun _ => hp, fun h => absurd (nI_le (Nat.le_refl _) (by omega)) h⟩
  · refine b_X7_sumOf_4 ha hwa ?_
    unfold wp_X7_sumOf_4
    rw [hV.mC, clI i (by omega), hA i hi, adI, ad1I]
    refine ⟨fun h => absurd h (nI_ge hi (by omega)), fun _ => ⟨vI (by omega) (by omega), ?_⟩⟩
    rintro _ rfl
    exact ih
end CB
