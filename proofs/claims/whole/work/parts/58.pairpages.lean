section PAIRPAGES
variable {m : vM} {T : tT}
theorem frM.toO {m1 : vM} (h : frM m m1) : butO oP m m1 := by
  intro a j x y
  by_cases e : a = 139
  · subst e
    refine h.2 j (fun z => ?_) ?_
    · subst z; cases x
    · refine Classical.byContradiction (fun z => ?_)
      have h9 : 9 ≤ j := by omega
      have : scr 139 j = true := by
        unfold scr
        simp [h9]
      rw [this] at y
      cases y
  · rw [h.1 a e]
    unfold oP at x
    unfold scr at y
    simp only [Bool.or_eq_false_iff, Bool.and_eq_false_iff, beq_eq_false_iff_ne, ne_eq, decide_eq_false_iff_not] at x y
    omega
theorem frP.toO {m1 : vM} (h : frP m m1) : butO oP m m1 := by
  intro a j x y
  by_cases e : a = 163
  · subst e
    refine h.2 j (fun z => ?_)
    subst z; cases x
  · unfold oP at x
    unfold scr at y
    simp only [Bool.or_eq_false_iff, Bool.and_eq_false_iff, beq_eq_false_iff_ne, ne_eq, decide_eq_false_iff_not] at x y
    rw [h.1 a e (by omega) (by omega) (by omega)]
theorem chn_mono {H : Nat → Nat} {h B : Nat} {i j : Nat} (hij : i ≤ j) : chn T H h B i ≤ chn T H h B j := by
  induction hij with
  | refl => exact Nat.le_refl _
  | @step k _ ih =>
    show chn T H h B i ≤ chn T H h B k + (TB T H h B (chn T H h B k)).2.2
    omega
theorem pair_pages (x : Int32) : Pair (EI_X6_pages x) (EI_X7_pages x) := by
  rintro m ⟨T, hI⟩
  have hV := hI.1
  have hR := hV.R
  have h40 := hV.E40
  rcases num_cases x 1 200 with ⟨h, h1, h2, rfl⟩ | hx
  · refine e_X6_pages (w_isY (lo := 1) (hi := 200) rfl rfl (by decide) h1 h2 rfl (i1 ?_))
    refine c_X6_hot (b := T 181) hV hI.2.1 (fun c hc => ⟨(hI.2.2.2.1 c hc).1, (hI.2.2.2.1 c hc).2.2⟩) (fun m3 ha3 hK3 h126 => ?_)
    have hI3 := hI.agr ha3 hK3
    have hV3 := hI3.1
    -- how many rows the head has
    have hex : ∃ B, HeadN T B := by
      by_cases hall : ∃ r, r < T 163 2 ∧ ¬ hdT T r
      · obtain ⟨r, hr, hm⟩ := pk_least (fun r => r < T 163 2 ∧ ¬ hdT T r) hall
        refine ⟨r, by omega, fun q hq => ?_, fun _ => hr.2⟩
        exact Classical.byContradiction (fun z => hm q hq ⟨by omega, z⟩)
      · refine ⟨T 163 2, Nat.le_refl _, fun q hq => ?_, fun z => absurd z (Nat.lt_irrefl _)⟩
        exact Classical.byContradiction (fun z => hall ⟨q, hq, z⟩)
    obtain ⟨B, hH⟩ := hex
    have hw : ∀ m5 : vM, frM m3 m5 → ∀ c, c < T 163 3 → m5.1 181 c = nI (T 181 c) ∧ T 181 c ≤ 5000 := fun m5 hf c hc => by
      rw [hf.1 181 (by decide) (by decide)]
      exact ⟨(hI3.2.2.2.1 c hc).2.1, (hI3.2.2.2.1 c hc).2.2⟩
    have hCK : ∀ m5 m6 : vM, frM m3 m5 → frP m5 m6 → CK m6 T := fun m5 m6 hf hg => hK3.keep h40 (fun k hk => by
      rw [hg.1 _ (by unfold cA; omega) (by unfold cA; omega) (by unfold cA; omega) (by unfold cA; omega), hf.1 _ (by unfold cA; omega) (by unfold cA; omega)])
    have hbut : ∀ m5 m6 : vM, frM m3 m5 → frP m5 m6 → butO oP m3 m6 := fun m5 m6 hf hg => hf.toO.trans hg.toO
    have hnone : ∀ m5 m6 : vM, frM m3 m5 → frP m5 m6 → m5.1 139 0 = nI 0 → m6.1 163 32 = nI 0 → (∀ r, r < 16 → m6.1 193 r = -9) → Inv m6 := fun m5 m6 hf hg e1 e2 e3 => by
      refine (hI3.pgs (n := 0) (F := fun _ => 0) (G := fun _ => 0) (hbut m5 m6 hf hg) (hCK m5 m6 hf hg) (by decide) ?_ e2 (fun p hp => absurd hp (Nat.not_lt_zero _)) (fun r hr => ?_)).toI
      · rw [hg.1 139 (by decide) (by decide) (by decide) (by decide)]; exact e1
      · exact Or.inr ⟨fun k hk => absurd hk (Nat.not_lt_zero _), e3 r (by omega)⟩
    refine c_X3_make (b := T 181) hV3 h2 hH (fun r hr => h126 r (by omega)) (fun hge m5 hf e1 => ?_) (fun hlt hz m5 hf e1 => ?_) (fun hlt hP m5 hf e1 hpg => ?_)
    · exact c_X7_pages (hf.vw hV3) h1 h2 hH (hw m5 hf) (fun _ m6 hg e2 e3 => ⟨rfl, hnone m5 m6 hf hg e1 e2 e3⟩) (fun q => absurd q (by omega)) (fun q => absurd q (by omega))
    · exact c_X7_pages (hf.vw hV3) h1 h2 hH (hw m5 hf) (fun q => absurd q (by omega)) (fun _ _ m6 hg e2 e3 => ⟨rfl, hnone m5 m6 hf hg e1 e2 e3⟩) (fun _ q => absurd hz q.2.2.2)
    · refine c_X7_pages (hf.vw hV3) h1 h2 hH (hw m5 hf) (fun q => absurd q (by omega)) (fun _ q => absurd q hP.2.2.2) (fun _ _ m6 hg e2 g7 g193 => ⟨rfl, ?_⟩)
      have hN := TB_pg hP
      have hcs := chn_spec hP
      have h141 : ∀ a, 139 ≤ a → a ≤ 156 → m6.1 a = m5.1 a := fun a z1 z2 => hg.1 a (by omega) (by omega) (by omega) (by omega)
      refine (hI3.pgs (n := (TB T (HT T (T 181)) h B B).1) (F := chn T (HT T (T 181)) h B) (G := fun p => (TB T (HT T (T 181)) h B (chn T (HT T (T 181)) h B p)).2.2) (hbut m5 m6 hf hg) (hCK m5 m6 hf hg) (by omega) ?_ e2 (fun p hp => ?_) (fun r hr => ?_)).toI
      · rw [h141 139 (by decide) (by decide)]; exact e1
      · obtain ⟨a1, a2, a3, a4⟩ := hpg p hp
        obtain ⟨b1, b2, b3, b4⟩ := g7 p hp
        rw [h141 (141 + p) (by omega) (by omega)]
        have hst := (TB_step ((hcs p).1 hp).1).2.1
        exact ⟨⟨a1, b1⟩, ⟨a2, b2⟩, a3.trans b3.symm, a4.trans b4.symm, by omega⟩
      · obtain ⟨p, p1, p2, p3, p4⟩ := g193 r hr
        refine Or.inl ⟨p, p1, p3, fun q hq hlt2 => ?_, p2⟩
        have h5 := p4 (by omega)
        have h6 := chn_mono (T := T) (H := HT T (T 181)) (h := h) (B := B) (show q + 1 ≤ p by omega)
        have h7 : chn T (HT T (T 181)) h B (q + 1) = chn T (HT T (T 181)) h B q + (TB T (HT T (T 181)) h B (chn T (HT T (T 181)) h B q)).2.2 := rfl
        omega
  · refine e_X6_pages (w_isN (lo := 1) (hi := 200) rfl rfl (by decide) (by decide) hx (i0 ?_))
    refine f_X7_pages (b_X7_pages_0 ?_)
    unfold wp_X7_pages_0
    exact w_inN (lo := 1) (hi := 200) rfl rfl (by decide) (by decide) hx (i0 ⟨rfl, hI.toI⟩)
end PAIRPAGES
