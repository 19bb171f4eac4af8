def o3 (a j : Nat) : Bool := (a == 139 && j == 0) || (141 ≤ a && a ≤ 156)
section MAKE3
variable {m : vM} {T : tT}
theorem o3_ok (l : List Nat) (h : l.all (fun a => (157 ≤ a && a ≤ 161)) = true) : ∀ a ∈ l, ∀ j, (o3 a j || scr a j) = true := by
  intro a ha j
  have := List.all_eq_true.mp h a ha
  unfold o3 scr
  simp only [Bool.or_eq_true, Bool.and_eq_true, beq_iff_eq, decide_eq_true_eq] at *
  omega
def frM (m m1 : vM) : Prop := (∀ a, a ≠ 139 → a < 141 ∨ 161 < a → m1.1 a = m.1 a) ∧ ∀ j, j ≠ 0 → j < 9 → m1.1 139 j = m.1 139 j
theorem frM.trans {m1 m2 : vM} (h : frM m m1) (h2 : frM m1 m2) : frM m m2 := ⟨fun a x y => (h2.1 a x y).trans (h.1 a x y), fun j x y => (h2.2 j x y).trans (h.2 j x y)⟩
theorem frM.vw {m1 : vM} (hV : Vw m T) (h : frM m m1) : Vw m1 T := hV.rd (fun a j hr => by
  rw [h.1 a]
  · intro e; subst e; cases hr
  · unfold rdV at hr
    simp only [Bool.or_eq_true, Bool.and_eq_true, beq_iff_eq, bne_iff_ne, decide_eq_true_eq, ne_eq] at hr
    omega)
theorem c_X3_make (hV : Vw m T) {h B : Nat} {b : Nat → Nat} (hh : h ≤ 200) (hH : HeadN T B) (h126 : ∀ r, r < T 163 2 → m.1 126 r = nI (HT T b r)) {P : Int32 → vM → Prop}
    (ha : T 163 2 ≤ B → ∀ m1, frM m m1 → m1.1 139 0 = nI 0 → P 0 m1)
    (hb : B < T 163 2 → (TB T (HT T b) h B B).2.2 = 0 → ∀ m1, frM m m1 → m1.1 139 0 = nI 0 → P (-9) m1)
    (hc : B < T 163 2 → isP T (HT T b) h B B → ∀ m1, frM m m1 → m1.1 139 0 = nI (TB T (HT T b) h B B).1 → (∀ p, p < (TB T (HT T b) h B B).1 → pg3 T (HT T b) h B m1 p) → P (nI (TB T (HT T b) h B B).1) m1) : EI_X3_make (nI h) m P := by
  have hR := hV.R
  have hB := hH.1
  refine f_X3_make (b_X3_make_0 ?_)
  unfold wp_X3_make_0
  rintro m1 em1
  have hb1 : butL [139] m m1 := by rw [em1]; exact butL_upI butL.rfl' (by decide)
  have hV1 : Vw m1 T := hV.ofL hb1 (by decide)
  refine c_X1_headRows hV1 (fun B' hB' => ?_)
  obtain rfl := hH.uniq hB'
  rintro m4 em4 m5 em5
  have e4R : m4.1 1 0 = nI (T 163 2) := by rw [em4, upI_o _ _ _ _ _ (by decide)]; exact hV1.xR
  rw [e4R, if_neg (show ¬ (16 : Int32) < nI (T 163 2) from nI_nlt (a := 16) hR.2 (by decide))] at em5
  have hb5 : butL [139] m m5 := by rw [em5, em4]; exact butL_upI (butL_upI hb1 (by decide)) (by decide)
  have h5j : ∀ j, m5.1 139 j = if j = 11 then nI (T 163 2) else if j = 10 then nI B else if j = 0 then nI 0 else m.1 139 j := fun j => by
    have step : ∀ (mm : vM) (q : Nat) (v : Int32), (upI mm 139 q v).1 139 j = if j = q then v else mm.1 139 j := fun mm q v => by
      by_cases hq : j = q
      · subst hq; rw [upI_s, if_pos rfl]
      · rw [upI_n _ _ _ _ _ _ (Or.inr hq), if_neg hq]
    rw [em5, em4, em1]
    simp only [step]
    rfl
  rw [h5j 10, h5j 11, if_neg (by decide), if_pos rfl, if_pos rfl, ltI (by omega) (by omega)]
  refine ife (fun hlt => ?_) (fun hge => ha (by omega) m5 ⟨fun a z1 z2 => hb5.1 a (fun z => z1 (List.mem_singleton.mp z)), fun j z1 z2 => by rw [h5j, if_neg (by omega), if_neg (by omega), if_neg z1]⟩ (by rw [h5j]; rfl))
  rintro m6 em6
  have h52 : J_X3_make_52 (nI 0) m6 P := by
    refine loop_up (Q := fun i => ∀ mm : vM, butL [139] m mm → (∀ j, j ≠ 9 → mm.1 139 j = m5.1 139 j) → mm.1 139 9 = nI h - nI (nsum (HT T b) i) → J_X3_make_52 (nI i) mm P) (n := B) (fun mm gb gj g9 => ?_) (fun i hi ih mm gb gj g9 => ?_) 0 (Nat.zero_le _) m6 (by rw [em6]; exact butL_upI hb5 (by decide)) (fun j hj => by rw [em6, upI_n _ _ _ _ _ _ (Or.inr hj)]) (by rw [em6, upI_s]; exact nm_0 h)
    · have hVm : Vw mm T := hV.ofL gb (by decide)
      have g10 : mm.1 139 10 = nI B := by rw [gj 10 (by decide), h5j]; rfl
      have g11 : mm.1 139 11 = nI (T 163 2) := by rw [gj 11 (by decide), h5j]; rfl
      refine b_X3_make_52 ?_
      unfold wp_X3_make_52
      rw [g10]
      refine ifs (nI_le (Nat.le_refl _) (by omega)) ?_
      refine c_X3_findHomes hVm (by omega) g10 g11 (fun mf hbf hgf => ?_)
      rintro m2 em2 m3 em3
      have hb3 : butL [157, 158, 159, 160] mm m3 := by
        rw [em3, em2]
        exact butL_upA (butL_upA (hbf.mono (by decide)) (by decide)) (by decide)
      have hV3 : Vw m3 T := hVm.ofL hb3 (by decide)
      have f139 : m3.1 139 = mm.1 139 := hb3.at 139
      have f126 : ∀ r, r < T 163 2 → m3.1 126 r = nI (HT T b r) := fun r hr => by rw [hb3.at 126, gb.at 126]; exact h126 r hr
      have f157 : ∀ r, r < T 163 2 → m3.1 157 r = nI (nmk (hmIn T B r (r + 1)) 10) ∧ m3.1 158 r = nI (HL T B r) := fun r hr => by
        rw [em3, fillA_o _ _ _ _ _ (by decide), fillA_o _ _ _ _ _ (by decide), em2, fillA_o _ _ _ _ _ (by decide), fillA_o _ _ _ _ _ (by decide)]
        exact hgf r hr
      have f159 : ∀ x, x < 17 → m3.1 159 x = nI 0 := fun x hx => by rw [em3, fillA_o _ _ _ _ _ (by decide), em2, fillA_s _ _ _ _ _ hx]; rfl
      have f9 : m3.1 139 9 = nI h - nI (nsum (HT T b) B) := by rw [f139]; exact g9
      have f10 : m3.1 139 10 = nI B := by rw [f139]; exact g10
      have f11 : m3.1 139 11 = nI (T 163 2) := by rw [f139]; exact g11
      have fr3 : ∀ mk : vM, (∀ a, a ≠ 159 → a ≠ 160 → a ≠ 161 → mk.1 a = m3.1 a) → frM m mk := fun mk hk => ⟨fun a z1 z2 => by
        rw [hk a (by omega) (by omega) (by omega), hb3.1 a (by simp only [List.mem_cons, List.not_mem_nil, or_false]; omega), gb.1 a (fun z => z1 (List.mem_singleton.mp z))], fun j z1 z2 => by
        rw [hk 139 (by decide) (by decide) (by decide), f139, gj j (by omega), h5j, if_neg (by omega), if_neg (by omega), if_neg z1]⟩
      have hVk : ∀ mk : vM, (∀ a, a ≠ 159 → a ≠ 160 → a ≠ 161 → mk.1 a = m3.1 a) → Vw mk T := fun mk hk => (fr3 mk hk).vw hV
      rintro v4 ev4
      rw [f11] at ev4
      have e4 : v4 = nI (T 163 2 - 0) + (-1) := by
        rw [ev4, show (1 : Int32) = nI 1 from rfl, sbI hR.1, Nat.sub_zero]
        have := pk_m1 (T 163 2 - 1)
        rw [show T 163 2 - 1 + 1 = T 163 2 by omega] at this
        exact this.symm
      subst e4
      have hst0 : St3 T (HT T b) h B 0 m3 m3 := ⟨fun _ _ _ _ => rfl, f159 _ (by omega), fun x hx => f159 x (by omega), fun x z1 z2 => by omega⟩
      refine loop_up (Q := fun j => ∀ mk, St3 T (HT T b) h B j m3 mk → J_X3_make_111 (nI (T 163 2 - j) + (-1)) mk P) (n := T 163 2 - B) (fun mk hst => ?_) (fun j hj ihj mk hst => ?_) 0 (Nat.zero_le _) m3 hst0
      · rw [show T 163 2 - (T 163 2 - B) = B by omega]
        refine b_X3_make_111 ?_
        unfold wp_X3_make_111
        have k139 : mk.1 139 = m3.1 139 := hst.1 139 (by decide) (by decide) (by decide)
        have hentB := (hst.2.2.2 B (by omega) hlt).1 (Or.inl rfl)
        have hfr := fr3 mk hst.1
        rw [k139, f10, clI B (by omega)]
        refine ifs (pr_lt B (by omega)) ⟨vI (by omega) (by decide), ife (fun z => ?_) (fun z => ?_)⟩
        · refine hb hlt ?_ mk hfr (by rw [k139, f139, gj 0 (by decide), h5j]; rfl)
          by_cases hz : (tbl T (HT T b) h B (T 163 2 - B) B).2.2 = 0
          · exact hz
          · have h1 := (hentB.2 hz).1
            have hP : isP T (HT T b) h B B := ⟨Nat.le_refl _, hlt, Or.inl rfl, hz⟩
            have h2 := (TB_pg hP)
            have h3 : (TB T (HT T b) h B B).1 = (tbl T (HT T b) h B (T 163 2 - B) B).1 := rfl
            rw [z, show (0 : Int32) = nI 0 from rfl, nI_eq (by omega) (by omega)] at h1
            omega
        · have hz : (TB T (HT T b) h B B).2.2 ≠ 0 := fun hz => z (by rw [hentB.1 hz]; rfl)
          have hP : isP T (HT T b) h B B := ⟨Nat.le_refl _, hlt, Or.inl rfl, hz⟩
          refine c_X3_layOut (b := b) (hVk mk hst.1) hh hlt hP ?_ ?_ ?_ ?_ (fun r hr => ?_) (fun r hr => ?_) (fun x hx => ?_) (fun mz hfz hcz hpz => ?_)
          · rw [k139, f139, gj 0 (by decide), h5j]; rfl
          · rw [k139]; exact f9
          · rw [k139]; exact f10
          · rw [k139]; exact f11
          · rw [hst.1 126 (by decide) (by decide) (by decide)]; exact f126 r hr
          · rw [hst.1 157 (by decide) (by decide) (by decide), hst.1 158 (by decide) (by decide) (by decide)]; exact f157 r hr
          · exact (((hst.2.2.2 x (by have := hx.1; omega) hx.2.1).1 hx.2.2.1).2 hx.2.2.2).2.2
          · rw [hcz]
            exact hc hlt hP mz (hfr.trans ⟨fun a z1 z2 => hfz.1 a z1 (by omega), fun j z1 _ => hfz.2 j z1⟩) hcz hpz
      · generalize hs : T 163 2 - 1 - j = s
        have es : nI (T 163 2 - j) + (-1) = nI s := by rw [show T 163 2 - j = s + 1 by omega, pk_m1]
        rw [es]
        have k139 : mk.1 139 = m3.1 139 := hst.1 139 (by decide) (by decide) (by decide)
        have enx : nI s + (-1) = nI (T 163 2 - (j + 1)) + (-1) := by rw [show T 163 2 - (j + 1) = s by omega]
        have hplan : (s = B ∨ brk T B s) → EI_X3_planFrom (nI s) mk (fun m4 => J_X3_make_111 (nI s + (-1)) m4 P) := fun hbk => by
          refine c_X3_planFrom (b := b) hV3 hh hlt (by omega) (by omega) f9 f10 f11 f126 (fun r hr => (f157 r hr).2) mk hst (fun mn n1 n2 n3 => ?_)
          rw [enx]
          refine ihj mn ⟨n1, by rw [(n2 _ (by omega)).1]; exact hst.2.1, fun x hx => by rw [(n2 x (by omega)).1]; exact hst.2.2.1 x (by omega), fun x z1 z2 => ?_⟩
          by_cases e : x = s
          · subst e
            refine ⟨fun _ => ?_, fun z => absurd hbk z⟩
            have := tbl_s (T := T) (H := HT T b) (h := h) (B := B) (j := j)
            rw [hs] at this
            rw [this]
            exact n3
          · rw [tbl_o (by omega)]
            obtain ⟨o1, o2, o3'⟩ := n2 x e
            have := hst.2.2.2 x (by omega) z2
            unfold ent3 at *
            rw [o1, o2, o3']
            exact this
        refine b_X3_make_111 ?_
        unfold wp_X3_make_111
        rw [k139, f10, ltI (by omega) (by omega), eqI (by omega) (by omega)]
        refine ifn (by omega) (ife (fun z => hplan (Or.inl z)) (fun z => ?_))
        refine c_X1_breaksAhead (hVk mk hst.1) (by omega) (by omega) (fun hbk => i1 (hplan (Or.inr hbk))) (fun hbk => i0 ?_)
        rw [enx]
        refine ihj mk ⟨hst.1, hst.2.1, fun x hx => hst.2.2.1 x (by omega), fun x z1 z2 => ?_⟩
        by_cases e : x = s
        · subst e
          refine ⟨fun q => ?_, fun _ => hst.2.2.1 x (by omega)⟩
          rcases q with q | q
          · exact absurd q z
          · exact absurd q hbk
        · rw [tbl_o (by omega)]
          exact hst.2.2.2 x (by omega) z2
    · refine b_X3_make_52 ?_
      unfold wp_X3_make_52
      rw [gj 10 (by decide), h5j 10, if_neg (by decide), if_pos rfl, clI i (by omega), g9, gb.at 126, h126 i (by omega), nm_sub, ad1I]
      refine ifn (nI_ge hi (by omega)) ⟨vI (by omega) (by decide), ?_⟩
      rintro m7 em7
      refine ih m7 (by rw [em7]; exact butL_upI gb (by decide)) (fun j hj => by rw [em7, upI_n _ _ _ _ _ _ (Or.inr hj)]; exact gj j hj) (by rw [em7, upI_s]; rfl)
  exact h52
end MAKE3
