theorem gv_eq {d : Nat → Nat} {k g : Nat} (hg : g ≤ k) (h0 : g = 0 ∨ d g ≠ 0) (h : ∀ j, g < j → j ≤ k → d j = 0) : gv d k = g := by
  obtain ⟨g1, g2, g3⟩ := gv_spec d k
  rcases Nat.lt_trichotomy (gv d k) g with q | q | q
  · rcases h0 with e | e
    · omega
    · exact absurd (g3 g q hg) e
  · exact q
  · exact absurd (h _ q g1) (g2 (by omega))
theorem nxt_val {k : Nat} {d : Nat → Nat} (h : gv d k ≠ 0) (c : Nat) : nxt k d c = (if c = gv d k then 0 else if c = gv d k - 1 then d c + 1 else d c) + if c = k then d (gv d k) - 1 else 0 := by
  unfold nxt
  rw [if_neg h]
section NEXT
variable {m : vM} {T : tT}
theorem giv (L x : Nat) (hL : L ≤ 2000) (hx : x ≤ 2000) : (nI (L + x) = nI L) = (x = 0) := by
  rw [eqI (by omega) (by omega)]
  exact propext (by omega)
theorem c_X5_tryNext (hV : Vw m T) {d : Nat → Nat} (hd : ∀ c, c < T 163 3 → m.1 138 c = nI (LT T c + d c) ∧ m.1 131 c = nI (LT T c) ∧ d c ≤ 400) {P : vM → Prop} (hp : ∀ m1, butL [138] m m1 → (∀ c, c < T 163 3 → m1.1 138 c = nI (LT T c + nxt (T 163 3 - 1) d c)) → P m1) : EI_X5_tryNext m P := by
  have hC := hV.C
  refine f_X5_tryNext (b_X5_tryNext_0 ?_)
  unfold wp_X5_tryNext_0
  rintro v1 ev1
  rw [hV.xC, if_neg (show ¬ (6 : Int32) < nI (T 163 3) from nI_nlt (a := 6) hC.2 (by decide)), show (1 : Int32) = nI 1 from rfl, sbI hC.1] at ev1
  subst ev1
  have fin0 : (∀ j, 0 < j → j ≤ T 163 3 - 1 → d j = 0) → P m := fun h => by
    have e0 := gv_eq (d := d) (Nat.zero_le _) (Or.inl rfl) h
    refine hp m butL.rfl' (fun c hc => ?_)
    unfold nxt
    rw [if_pos e0]
    exact (hd c hc).1
  have fin1 : ∀ g, 1 ≤ g → g ≤ T 163 3 - 1 → d g ≠ 0 → (∀ j, g < j → j ≤ T 163 3 - 1 → d j = 0) → J_X5_tryNext_40 (nI g) m P := fun g h1 h2 h3 h4 => by
    have eg := gv_eq (d := d) h2 (Or.inr h3) h4
    refine b_X5_tryNext_40 ?_
    unfold wp_X5_tryNext_40
    have hv : vp_in (nI g) 6 := vI (by omega) (by decide)
    have hdg := hd g (by omega)
    have hLg := (LT_bd hV g).1
    refine ifs (nI_le (a := 1) h1 (by omega)) ⟨hv, hv, ?_⟩
    rintro v3 ev3
    rw [clI g (by omega), hdg.1, hdg.2.1, sbI (by omega), show LT T g + d g - LT T g = d g by omega] at ev3
    subst ev3
    refine ⟨hv, hv, ?_⟩
    rintro m6 em6
    rw [clI g (by omega), hdg.2.1] at em6
    have ep : nI g - 1 = nI (g - 1) := by rw [show (1 : Int32) = nI 1 from rfl, sbI h1]
    have hv1 : vp_in (nI (g - 1)) 6 := vI (by omega) (by decide)
    rw [ep]
    refine ⟨hv1, hv1, ?_⟩
    rintro m9 em9
    rw [clI (g - 1) (by omega)] at em9
    unfold wp_X5_addToLast
    rintro v2 ev2
    have e9 : ∀ a, a ≠ 138 → m9.1 a = m.1 a := fun a ha => by rw [em9, upI_o _ _ _ _ _ ha, em6, upI_o _ _ _ _ _ ha]
    rw [e9 1 (by decide), hV.xC, show (1 : Int32) = nI 1 from rfl, sbI hC.1] at ev2
    subst ev2
    refine ifn (nI_pos (by omega)) (ifn (nI_ge (b := 6) (by omega) (by decide)) ?_)
    have hvk : vp_in (nI (T 163 3 - 1)) 6 := vI (by omega) (by decide)
    refine ⟨hvk, hvk, ?_⟩
    rintro m4 em4
    rw [clI _ (by omega)] at em4
    refine hp m4 ⟨fun a ha => ?_, by rw [em4, em9, em6]; rfl⟩ (fun c hc => ?_)
    · have ha' : a ≠ 138 := fun e => ha (by rw [e]; exact List.mem_singleton.mpr rfl)
      rw [em4, upI_o _ _ _ _ _ ha', e9 a ha']
    · have v6 : ∀ c, c < T 163 3 → m6.1 138 c = nI (LT T c + if c = g then 0 else d c) := fun c hc => by
        rw [em6]
        by_cases e : c = g
        · subst e; rw [upI_s, if_pos rfl]; rfl
        · rw [upI_n _ _ _ _ _ _ (Or.inr e), if_neg e]; exact (hd c hc).1
      have v9 : ∀ c, c < T 163 3 → m9.1 138 c = nI (LT T c + if c = g then 0 else if c = g - 1 then d c + 1 else d c) := fun c hc => by
        rw [em9]
        by_cases e : c = g - 1
        · subst e
          rw [upI_s, v6 _ hc, if_neg (by omega), if_neg (by omega), if_pos rfl, ad1I, Nat.add_assoc]
        · rw [upI_n _ _ _ _ _ _ (Or.inr e), v6 _ hc, if_neg e]
      rw [nxt_val (by rw [eg]; omega), eg, em4]
      by_cases e : c = T 163 3 - 1
      · subst e
        rw [upI_s, v9 _ hc, show (1 : Int32) = nI 1 from rfl, sbI (by omega), adI, Nat.add_assoc, if_pos rfl]
      · rw [upI_n _ _ _ _ _ _ (Or.inr e), v9 _ hc, if_neg e]; rfl
  have key : ∀ i, i ≤ T 163 3 - 1 → (∀ j, i < j → j ≤ T 163 3 - 1 → d j = 0) → J_X5_tryNext_15 (nI i) m P := by
    intro i
    induction i with
    | zero =>
      intro _ h
      refine b_X5_tryNext_15 ?_
      unfold wp_X5_tryNext_15
      refine ifs (by decide) (b_X5_tryNext_40 ?_)
      unfold wp_X5_tryNext_40
      exact ifn (by decide) (fin0 h)
    | succ i ih =>
      intro hi h
      refine b_X5_tryNext_15 ?_
      unfold wp_X5_tryNext_15
      have hv : vp_in (nI (i + 1)) 6 := vI (by omega) (by decide)
      have hdi := hd (i + 1) (by omega)
      have hLg := (LT_bd hV (i + 1)).1
      rw [clI (i + 1) (by omega), hdi.1, hdi.2.1, giv _ _ (by omega) (by omega), pk_m1]
      refine ifn (nI_ge (a := 0) (by omega) (by omega)) ⟨hv, hv, ife (fun e => ih (by omega) (fun j h1 h2 => ?_)) (fun e => fin1 (i + 1) (by omega) hi e h)⟩
      by_cases q : j = i + 1
      · rw [q]; exact e
      · exact h j (by omega) h2
  exact key _ (Nat.le_refl _) (fun j h1 h2 => absurd h1 (by omega))
theorem c_X7_next (hV : Vw m T) {d : Nat → Nat} (hd : ∀ c, c < T 163 3 → m.1 187 c = nI (LT T c + d c) ∧ m.1 182 c = nI (LT T c) ∧ d c ≤ 400) {P : Int32 → vM → Prop} (h0 : gv d (T 163 3 - 1) = 0 → P 0 m) (hp : gv d (T 163 3 - 1) ≠ 0 → ∀ m1, butL [187] m m1 → (∀ c, c < T 163 3 → m1.1 187 c = nI (LT T c + nxt (T 163 3 - 1) d c)) → P 1 m1) : EI_X7_next m P := by
  have hC := hV.C
  refine f_X7_next (b_X7_next_0 ?_)
  unfold wp_X7_next_0
  rintro v1 ev1
  rw [hV.mC, show (1 : Int32) = nI 1 from rfl, sbI hC.1] at ev1
  subst ev1
  have fin1 : ∀ g, 1 ≤ g → g ≤ T 163 3 - 1 → d g ≠ 0 → (∀ j, g < j → j ≤ T 163 3 - 1 → d j = 0) → J_X7_next_32 (nI g) m P := fun g h1 h2 h3 h4 => by
    have eg := gv_eq (d := d) h2 (Or.inr h3) h4
    refine b_X7_next_32 ?_
    unfold wp_X7_next_32
    have hv : vp_in (nI g) 6 := vI (by omega) (by decide)
    have hdg := hd g (by omega)
    have hLg := (LT_bd hV g).1
    refine ifn (nI_ne0 (by omega) (by omega)) ⟨hv, hv, ?_⟩
    rintro v3 ev3
    rw [clI g (by omega), hdg.1, hdg.2.1, sbI (by omega), show LT T g + d g - LT T g = d g by omega, show (1 : Int32) = nI 1 from rfl, sbI (by omega)] at ev3
    subst ev3
    refine ⟨hv, hv, ?_⟩
    rintro m6 em6
    rw [clI g (by omega), hdg.2.1] at em6
    have ep : nI g - 1 = nI (g - 1) := by rw [show (1 : Int32) = nI 1 from rfl, sbI h1]
    have hv1 : vp_in (nI (g - 1)) 6 := vI (by omega) (by decide)
    rw [ep]
    refine ⟨hv1, hv1, ?_⟩
    rintro m9 em9
    rw [clI (g - 1) (by omega)] at em9
    have e9 : ∀ a, a ≠ 187 → m9.1 a = m.1 a := fun a ha => by rw [em9, upI_o _ _ _ _ _ ha, em6, upI_o _ _ _ _ _ ha]
    rw [e9 163 (by decide), hV.mC, show (1 : Int32) = nI 1 from rfl, sbI hC.1]
    have hvk : vp_in (nI (T 163 3 - 1)) 6 := vI (by omega) (by decide)
    refine ⟨hvk, hvk, ?_⟩
    rintro m4 em4
    rw [clI _ (by omega)] at em4
    refine hp (by rw [eg]; omega) m4 ⟨fun a ha => ?_, by rw [em4, em9, em6]; rfl⟩ (fun c hc => ?_)
    · have ha' : a ≠ 187 := fun e => ha (by rw [e]; exact List.mem_singleton.mpr rfl)
      rw [em4, upI_o _ _ _ _ _ ha', e9 a ha']
    · have v6 : ∀ c, c < T 163 3 → m6.1 187 c = nI (LT T c + if c = g then 0 else d c) := fun c hc => by
        rw [em6]
        by_cases e : c = g
        · subst e; rw [upI_s, if_pos rfl]; rfl
        · rw [upI_n _ _ _ _ _ _ (Or.inr e), if_neg e]; exact (hd c hc).1
      have v9 : ∀ c, c < T 163 3 → m9.1 187 c = nI (LT T c + if c = g then 0 else if c = g - 1 then d c + 1 else d c) := fun c hc => by
        rw [em9]
        by_cases e : c = g - 1
        · subst e
          rw [upI_s, v6 _ hc, if_neg (by omega), if_neg (by omega), if_pos rfl, ad1I, Nat.add_assoc]
        · rw [upI_n _ _ _ _ _ _ (Or.inr e), v6 _ hc, if_neg e]
      rw [nxt_val (by rw [eg]; omega), eg, em4]
      by_cases e : c = T 163 3 - 1
      · subst e
        rw [upI_s, v9 _ hc, adI, Nat.add_assoc, if_pos rfl]
      · rw [upI_n _ _ _ _ _ _ (Or.inr e), v9 _ hc, if_neg e]; rfl
  have key : ∀ i, i ≤ T 163 3 - 1 → (∀ j, i < j → j ≤ T 163 3 - 1 → d j = 0) → J_X7_next_7 (nI i) m P := by
    intro i
    induction i with
    | zero =>
      intro _ h
      refine b_X7_next_7 ?_
      unfold wp_X7_next_7
      refine ifs (by decide) (b_X7_next_32 ?_)
      unfold wp_X7_next_32
      exact ifs (by decide) (h0 (gv_eq (Nat.zero_le _) (Or.inl rfl) h))
    | succ i ih =>
      intro hi h
      refine b_X7_next_7 ?_
      unfold wp_X7_next_7
      have hv : vp_in (nI (i + 1)) 6 := vI (by omega) (by decide)
      have hdi := hd (i + 1) (by omega)
      have hLg := (LT_bd hV (i + 1)).1
      rw [clI (i + 1) (by omega), hdi.1, hdi.2.1, giv _ _ (by omega) (by omega), pk_m1]
      refine ifn (nI_ge (a := 0) (by omega) (by omega)) ⟨hv, hv, ife (fun e => ih (by omega) (fun j h1 h2 => ?_)) (fun e => fin1 (i + 1) (by omega) hi e h)⟩
      by_cases q : j = i + 1
      · rw [q]; exact e
      · exact h j (by omega) h2
  exact key _ (Nat.le_refl _) (fun j h1 h2 => absurd h1 (by omega))
end NEXT
