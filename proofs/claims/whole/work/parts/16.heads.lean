/-! the check's heads, breaks and homes -/
def mxN (h r : Nat) : Nat := if r < h then h else r
def homeF (T : tT) (h q : Nat) (i : Nat) : Option Nat := (callF T q i).map (mxN h)
section CH
variable {m : vM} {T : tT}
theorem on_uniq (hV : Vw m T) {j k r c : Nat} (hj : j < T 163 7) (hk : k < T 163 7) (a : onT T j r c) (b : onT T k r c) : j = k := by
  have h := hV.1.2.2.2.2.2.2.2 j k hj hk a.1 b.1
  unfold onT lies at a b
  unfold ovl at h
  exact h (by omega)
theorem c_X7_headRows (hV : Vw m T) {P : Int32 → vM → Prop} (hp : ∀ h, HeadN T h → P (nI h) m) : EI_X7_headRows m P := by
  have hR := hV.R
  have hC := hV.C
  have h40 := hV.E40
  refine f_X7_headRows (b_X7_headRows_0 ?_)
  unfold wp_X7_headRows_0
  refine loop_up (Q := fun i => (∀ j, j < i → hdT T j) → J_X7_headRows_6 (nI i) 1 (nI i) m P) (n := T 163 2) ?_ (fun i hi ih => ?_) 0 (Nat.zero_le _) (fun j hj => absurd hj (Nat.not_lt_zero _))
  · intro hall
    refine b_X7_headRows_6 ?_
    unfold wp_X7_headRows_6
    rw [hV.mR]
    exact ⟨fun _ => hp _ ⟨Nat.le_refl _, hall, fun h => absurd h (Nat.lt_irrefl _)⟩, fun h => absurd (nI_le (Nat.le_refl _) (by omega)) h⟩
  · intro hall
    refine b_X7_headRows_6 ?_
    unfold wp_X7_headRows_6
    rw [hV.mR]
    refine ⟨fun h => absurd h (nI_ge hi (by omega)), fun _ => ⟨fun h => absurd h (by decide), fun _ => ?_⟩⟩
    have key : ∀ f : Int32, (f = 1 ∧ hdT T i) ∨ (f = 0 ∧ ∀ c', c' < 0 → ∀ k, k < T 163 7 → onT T k i c' → T 167 k ≠ 1) → J_X7_headRows_23 (nI i) f (nI i) (nI 0) m P := by
      refine loop_up (Q := fun c => ∀ f : Int32, (f = 1 ∧ hdT T i) ∨ (f = 0 ∧ ∀ c', c' < c → ∀ k, k < T 163 7 → onT T k i c' → T 167 k ≠ 1) → J_X7_headRows_23 (nI i) f (nI i) (nI c) m P) (n := T 163 3) ?_ (fun c hc ihc => ?_) 0 (Nat.zero_le _)
      · intro f hf
        refine b_X7_headRows_23 ?_
        unfold wp_X7_headRows_23
        rw [hV.mC]
        refine ⟨fun _ => ?_, fun h => absurd (nI_le (Nat.le_refl _) (by omega)) h⟩
        rcases hf with ⟨rfl, hh⟩ | ⟨rfl, hh⟩
        · refine ⟨fun h => absurd h (by decide), fun _ => ?_⟩
          rintro _ rfl
          rw [ad1I]
          refine ih (fun j hj => ?_)
          rcases Nat.lt_succ_iff_lt_or_eq.mp hj with q | q
          · exact hall j q
          · subst q; exact hh
        · refine ⟨fun _ => ?_, fun h => absurd rfl h⟩
          rintro _ rfl
          have hn : ¬ hdT T i := by
            rintro ⟨k, hk, g1, g2, g3⟩
            obtain ⟨d1, d2, d3, d4, d5, d6, d7, -⟩ := hV.cell hk
            exact hh (T 169 k) (by omega) k hk ⟨g1, g3, by omega, by omega⟩ g2
          have hfin : P (nI i) m := hp i ⟨by omega, hall, fun _ => hn⟩
          rw [show nI i + (0 : Int32) = nI i from adI i 0, ad1I]
          refine b_X7_headRows_6 ?_
          unfold wp_X7_headRows_6
          exact ⟨fun _ => hfin, fun _ => ⟨fun _ => hfin, fun h => absurd rfl h⟩⟩
      · intro f hf
        refine b_X7_headRows_23 ?_
        unfold wp_X7_headRows_23
        rw [hV.mC]
        simp only [ad1I]
        refine ⟨fun h => absurd h (nI_ge hc (by omega)), fun _ => ?_⟩
        refine c_X7_cellOn hV (by omega) (by omega) (fun x hx => ?_)
        rcases hf with ⟨rfl, hh⟩ | ⟨rfl, hh⟩
        · exact ⟨fun h => absurd h (by decide), fun _ => ihc 1 (Or.inl ⟨rfl, hh⟩)⟩
        · refine ⟨fun _ => ?_, fun h => absurd rfl h⟩
          rcases hx with ⟨k, hk, ho, -, rfl⟩ | ⟨hno, rfl⟩
          · obtain ⟨d1, -⟩ := hV.cell hk
            refine ⟨fun h => absurd h (nI_m9 k (by omega)), fun _ => ⟨vI (by omega) (by omega), ?_⟩⟩
            rw [clI k (by omega), (hV.mc hk).1, show (nI (T 167 k) = 1) = (T 167 k = 1) from eqI (b := 1) (by omega) (by omega)]
            refine ⟨fun h => ihc 1 (Or.inl ⟨rfl, k, hk, ho.1, h, ho.2.1⟩), fun h => ihc 0 (Or.inr ⟨rfl, fun c' hc' k' hk' ho' => ?_⟩)⟩
            rcases Nat.lt_succ_iff_lt_or_eq.mp hc' with q | q
            · exact hh c' q k' hk' ho'
            · subst q
              rw [on_uniq hV hk' hk ho' ho]
              exact h
          · refine ⟨fun _ => ihc 0 (Or.inr ⟨rfl, fun c' hc' k' hk' ho' => ?_⟩), fun h => absurd rfl h⟩
            rcases Nat.lt_succ_iff_lt_or_eq.mp hc' with q | q
            · exact hh c' q k' hk' ho'
            · subst q
              exact absurd ho' (hno k' hk')
    exact key 0 (Or.inr ⟨rfl, fun c' hc' => absurd hc' (Nat.not_lt_zero _)⟩)
theorem c_X7_mayBreakAt (hV : Vw m T) {row h : Nat} (hH : HeadN T h) (hr : row < 1000) {P : Int32 → vM → Prop} (h1 : brk T h row → P 1 m) (h0 : ¬ brk T h row → P 0 m) : EI_X7_mayBreakAt (nI row) m P := by
  have hR := hV.R
  have hC := hV.C
  have h40 := hV.E40
  refine f_X7_mayBreakAt (b_X7_mayBreakAt_0 ?_)
  unfold wp_X7_mayBreakAt_0
  refine c_X7_headRows hV (fun h' hH' => ?_)
  obtain rfl := hH.uniq hH'
  have hhR := hH.1
  rw [ltI (a := h) (by omega) (by omega)]
  refine ⟨fun hlt => ?_, fun hlt => h0 (fun q => hlt q.1)⟩
  refine loop_up (Q := fun c => (∀ c', c' < c → ∀ k, k < T 163 7 → onT T k row c' → T 167 k ≠ 3 → onT T k (row - 1) c' → False) → J_X7_mayBreakAt_14 (nI row) 1 (nI c) m P) (n := T 163 3) ?_ (fun c hc ih => ?_) 0 (Nat.zero_le _) (fun c' hc' => absurd hc' (Nat.not_lt_zero _))
  · intro hall
    refine b_X7_mayBreakAt_14 ?_
    unfold wp_X7_mayBreakAt_14
    rw [hV.mC]
    refine ⟨fun _ => ⟨by decide, h1 ⟨hlt, fun k hk g1 g2 g3 g4 => ?_⟩⟩, fun h => absurd (nI_le (Nat.le_refl _) (by omega)) h⟩
    obtain ⟨d1, d2, d3, d4, d5, d6, d7, -⟩ := hV.cell hk
    exact hall (T 169 k) (by omega) k hk ⟨g1, g3, by omega, by omega⟩ g2 ⟨g1, g4, by omega, by omega⟩
  · intro hall
    have nxt : (∀ k, k < T 163 7 → onT T k row c → T 167 k ≠ 3 → onT T k (row - 1) c → False) → J_X7_mayBreakAt_14 (nI row) 1 (nI (c + 1)) m P := by
      intro ho
      refine ih (fun c' hc' => ?_)
      rcases Nat.lt_succ_iff_lt_or_eq.mp hc' with q | q
      · exact hall c' q
      · subst q; exact ho
    refine b_X7_mayBreakAt_14 ?_
    unfold wp_X7_mayBreakAt_14
    rw [hV.mC, ad1I]
    refine ⟨fun h => absurd h (nI_ge hc (by omega)), fun _ => ⟨fun h => absurd h (by decide), fun _ => ?_⟩⟩
    refine c_X7_cellOn hV (by omega) (by omega) (fun x hx => ?_)
    rcases hx with ⟨k, hk, ho, -, rfl⟩ | ⟨hno, rfl⟩
    · obtain ⟨d1, -⟩ := hV.cell hk
      refine ⟨fun h => absurd h (nI_m9 k (by omega)), fun _ => ⟨vI (by omega) (by omega), ?_⟩⟩
      rw [clI k (by omega), (hV.mc hk).1, show (nI (T 167 k) = 3) = (T 167 k = 3) from eqI (b := 3) (by omega) (by omega)]
      refine ⟨fun h => nxt (fun k' hk' ho' g => absurd (by rw [on_uniq hV hk' hk ho' ho]; exact h) g), fun h => ?_⟩
      rw [show (1 : Int32) = nI 1 from rfl, sbI (by omega)]
      refine c_X7_cellOn hV (by omega) (by omega) (fun y hy => ⟨fun hxy => ?_, fun hxy => nxt (fun k' hk' ho' g g' => ?_)⟩)
      · refine b_X7_mayBreakAt_14 ?_
        unfold wp_X7_mayBreakAt_14
        have hnb : P 0 m := h0 (fun q => by
          rcases hy with ⟨k2, hk2, ho2, -, rfl⟩ | ⟨hno2, rfl⟩
          · have e2 : k2 = k := (nI_eq (by omega) (by omega)).mp hxy
            subst e2
            exact q.2 k2 hk2 ho.1 h ho.2.1 ho2.2.1
          · exact absurd hxy.symm (nI_m9 k (by omega)))
        exact ⟨fun _ => ⟨by decide, hnb⟩, fun _ => ⟨fun _ => ⟨by decide, hnb⟩, fun h => absurd rfl h⟩⟩
      · have e1 := on_uniq hV hk' hk ho' ho
        subst e1
        rcases hy with ⟨k2, hk2, ho2, -, rfl⟩ | ⟨hno2, rfl⟩
        · exact hxy (by rw [on_uniq hV hk2 hk' ho2 g'])
        · exact hno2 k' hk' g'
    · exact ⟨fun _ => nxt (fun k' hk' ho' => absurd ho' (hno k' hk')), fun h => absurd rfl h⟩
theorem c_X7_homeOf (hV : Vw m T) {q h : Nat} (hh : h ≤ 16) {P : Int32 → vM → Prop} (hp : P (encO (homeF T h q (T 163 7))) m) : EI_X7_homeOf (nI q) (nI h) m P := by
  have h40 := hV.E40
  refine f_X7_homeOf (b_X7_homeOf_0 ?_)
  unfold wp_X7_homeOf_0
  refine loop_up (Q := fun i => J_X7_homeOf_6 (nI q) (nI h) (encO (homeF T h q i)) (nI i) m P) (n := T 163 7) ?_ (fun i hi ih => ?_) 0 (Nat.zero_le _)
  · refine b_X7_homeOf_6 ?_
    unfold wp_X7_homeOf_6
    rw [hV.mE]
    exact ⟨fun _ => hp, fun h => absurd (nI_le (Nat.le_refl _) (by omega)) h⟩
  · refine b_X7_homeOf_6 ?_
    unfold wp_X7_homeOf_6
    have e : callF T q (i + 1) = if T 172 i = 0 ∧ cbT T i q then (match callF T q i with | none => some (T 168 i) | some r => some (if r ≤ T 168 i then r else T 168 i)) else callF T q i := rfl
    have hb := callF_bd (q := q) hV i (by omega)
    obtain ⟨d1, d2, d3, d4, d5, d6, d7, -⟩ := hV.cell hi
    have hR := hV.R
    obtain ⟨c0, c1, c2, c3, c4, c5, c6, c7, c8, c9⟩ := hV.mc hi
    have hv : vp_in (nI i) 40 := vI (by omega) (by omega)
    unfold homeF at ih ⊢
    rw [hV.mE, ad1I, clI i (by omega), c8, c5, c1, eq0I (by omega), leI (a := h) (by omega) (by omega)]
    refine ⟨fun h => absurd h (nI_ge hi (by omega)), fun _ => ⟨hv, fun hg => ⟨hv, fun a => ⟨hv, ?_⟩, fun a => ?_⟩, fun hg => ?_⟩⟩
    · rw [if_pos ⟨hg, a⟩] at e
      cases hc : callF T q i with
      | none =>
        rw [hc] at e
        rw [e] at ih
        refine ⟨fun hle => ⟨hv, ?_⟩, fun hle => ⟨fun _ => ?_, fun h => absurd rfl h⟩⟩
        · rintro _ rfl
          refine ⟨fun _ => ?_, fun h => absurd rfl h⟩
          have e2 : mxN h (T 168 i) = T 168 i := if_neg (by omega)
          simp only [Option.map, e2] at ih
          exact ih
        · have e2 : mxN h (T 168 i) = h := if_pos (by omega)
          simp only [Option.map, e2] at ih
          exact ih
      | some r =>
        have hr := hb r hc
        rw [hc] at e
        rw [e] at ih
        have hmx : mxN h r < 100 := by unfold mxN; split <;> omega
        simp only [Option.map] at ih ⊢
        show (_ → _ ∧ ∀ v5 : Int32, v5 = nI (T 168 i) → (nI (mxN h r) = -9 → _) ∧ (¬ nI (mxN h r) = -9 → (nI (mxN h r) ≤ v5 → _) ∧ (¬ nI (mxN h r) ≤ v5 → _))) ∧ (_ → (nI (mxN h r) = -9 → _) ∧ (¬ nI (mxN h r) = -9 → (nI (mxN h r) ≤ nI h → _) ∧ (¬ nI (mxN h r) ≤ nI h → _)))
        refine ⟨fun hle => ⟨hv, ?_⟩, fun hle => ⟨fun h => absurd h (nI_m9 _ (by omega)), fun _ => ?_⟩⟩
        · rintro _ rfl
          refine ⟨fun h => absurd h (nI_m9 _ (by omega)), fun _ => ?_⟩
          rw [leI (a := mxN h r) (by omega) (by omega)]
          have e2 : mxN h (if r ≤ T 168 i then r else T 168 i) = if mxN h r ≤ T 168 i then mxN h r else T 168 i := by
            unfold mxN
            repeat' split
            all_goals omega
          rw [e2] at ih
          exact ⟨fun z => by rw [if_pos z] at ih; exact ih, fun z => by rw [if_neg z] at ih; exact ih⟩
        · rw [leI (a := mxN h r) (by omega) (by omega)]
          have e2 : mxN h (if r ≤ T 168 i then r else T 168 i) = h := by
            unfold mxN
            repeat' split
            all_goals omega
          rw [e2] at ih
          refine ⟨fun z => ?_, fun z => ih⟩
          have e3 : mxN h r = h := by unfold mxN at z ⊢; split <;> (rename_i z2; simp only [z2, if_true, if_false] at z; omega)
          rw [e3]
          exact ih
    · rw [if_neg (fun z => a z.2)] at e
      rw [e] at ih
      exact ih
    · rw [if_neg (fun z => hg z.1)] at e
      rw [e] at ih
      exact ih
end CH
