section HOMES
variable {m : vM} {T : tT}
theorem c_X3_findHomes (hV : Vw m T) {B : Nat} (hB : B ≤ 16) (h10 : m.1 139 10 = nI B) (h11 : m.1 139 11 = nI (T 163 2)) {P : vM → Prop}
    (hp : ∀ m1, butL [157, 158] m m1 → (∀ r, r < T 163 2 → m1.1 157 r = nI (nmk (hmIn T B r (r + 1)) 10) ∧ m1.1 158 r = nI (HL T B r)) → P m1) : EI_X3_findHomes m P := by
  have hR := hV.R
  refine f_X3_findHomes (b_X3_findHomes_0 ?_)
  unfold wp_X3_findHomes_0
  rintro m1 em1 m2 em2
  have hb2 : butL [157, 158] m m2 := by
    rw [em2, em1]
    exact butL_upA (butL_upA butL.rfl' (by decide)) (by decide)
  rw [show (0 : Int32) = nI 0 from rfl]
  refine loop_up (Q := fun q => ∀ mm : vM, butL [157, 158] m mm → (∀ r, r < T 163 2 → mm.1 157 r = nI (nmk (hmIn T B r (r + 1)) q) ∧ mm.1 158 r = nI (nsum (fun q => if hmIn T B r (r + 1) q = true then T 166 q else 0) q)) → J_X3_findHomes_18 (nI q) mm P) (n := 10) ?_ (fun q hq ih => ?_) 0 (by decide) m2 hb2 (fun r hr => ⟨?_, ?_⟩)
  · intro mm hb hg
    refine b_X3_findHomes_18 ?_
    unfold wp_X3_findHomes_18
    exact ifs (by decide) (hp mm hb hg)
  · intro mm hb hg
    refine b_X3_findHomes_18 ?_
    unfold wp_X3_findHomes_18
    have hVm : Vw mm T := hV.ofL hb (by decide)
    refine ifn (nI_ge (b := 10) hq (by decide)) ?_
    refine c_X1_firstCall hVm ?_
    have hkeep : (∀ r, r < T 163 2 → hmIn T B r (r + 1) q = false) → J_X3_findHomes_18 (nI q + 1) mm P := fun h => by
      rw [ad1I]
      refine ih mm hb (fun r hr => ?_)
      obtain ⟨g1, g2⟩ := hg r hr
      have h1 : nmk (hmIn T B r (r + 1)) (q + 1) = nmk (hmIn T B r (r + 1)) q := by
        show nmk (hmIn T B r (r + 1)) q + (if hmIn T B r (r + 1) q = true then 2 ^ q else 0) = _
        rw [h r hr]; rfl
      have h2 : nsum (fun q => if hmIn T B r (r + 1) q = true then T 166 q else 0) (q + 1) = nsum (fun q => if hmIn T B r (r + 1) q = true then T 166 q else 0) q := by
        show nsum (fun q => if hmIn T B r (r + 1) q = true then T 166 q else 0) q + (if hmIn T B r (r + 1) q = true then T 166 q else 0) = _
        rw [h r hr]; rfl
      rw [h1, h2]
      exact ⟨g1, g2⟩
    cases hc : callF T q (T 163 7) with
    | none =>
      rintro v3 _
      refine ifs rfl (hkeep (fun r _ => ?_))
      unfold hmIn homeF
      rw [hc]
      rfl
    | some r0 =>
      have hr0 := callF_bd hV _ (Nat.le_refl _) r0 hc
      rw [show encO (some r0) = nI r0 from rfl, hb.at 139, h10, h11]
      rintro v3 ev3
      have e3 : v3 = nI (mxN B r0) := by
        rw [ev3]
        unfold mxN
        by_cases z : r0 < B
        · rw [if_pos z, if_pos (nI_lt z (by omega))]
        · rw [if_neg z, if_neg (nI_nlt (by omega) (by omega))]
      have hmx : mxN B r0 ≤ 16 := by
        unfold mxN
        split <;> omega
      have hin : ∀ r, hmIn T B r (r + 1) q = decide (r = mxN B r0) := fun r => by
        unfold hmIn homeF
        rw [hc]
        show decide (r ≤ mxN B r0 ∧ mxN B r0 < r + 1) = _
        exact decide_eq_decide.mpr (by omega)
      subst e3
      rw [leI (by omega) (by omega)]
      refine ifn (nI_m9 r0 (by omega)) (ife (fun z => hkeep (fun r hr => by rw [hin]; exact decide_eq_false (by omega))) (fun z => ?_))
      have hv : vp_in (nI (mxN B r0)) 16 := vI (by omega) (by decide)
      refine ⟨hv, hv, ?_⟩
      rintro m6 em6
      refine ⟨hv, vI hq (by decide), hv, ?_⟩
      rintro m10 em10
      rw [clI _ (by omega)] at em6 em10
      rw [clI q (by omega)] at em10
      rw [ad1I]
      have hb10 : butL [157, 158] m m10 := by
        rw [em10, em6]
        exact butL_upI (butL_upI hb (by decide)) (by decide)
      refine ih m10 hb10 (fun r hr => ?_)
      obtain ⟨g1, g2⟩ := hg r hr
      have hl := nmk_lt (hmIn T B r (r + 1)) q
      have h1 : nmk (hmIn T B r (r + 1)) (q + 1) = nmk (hmIn T B r (r + 1)) q + if hmIn T B r (r + 1) q = true then 2 ^ q else 0 := rfl
      have h2 : nsum (fun q => if hmIn T B r (r + 1) q = true then T 166 q else 0) (q + 1) = nsum (fun q => if hmIn T B r (r + 1) q = true then T 166 q else 0) q + (if hmIn T B r (r + 1) q = true then T 166 q else 0) := rfl
      rw [h1, h2, hin]
      by_cases er : r = mxN B r0
      · subst er
        rw [if_pos (decide_eq_true rfl), if_pos (decide_eq_true rfl)]
        refine ⟨?_, ?_⟩
        · rw [em10, upI_o _ _ _ _ _ (by decide), em6, upI_s, g1, or_new q hq _ hl]
        · rw [em10, upI_s, em6, upI_o _ _ _ _ _ (by decide), upI_o _ _ _ _ _ (by decide), g2, (hVm.nt hq).1, adI]
      · rw [if_neg (by rw [decide_eq_true_eq]; exact er), if_neg (by rw [decide_eq_true_eq]; exact er)]
        refine ⟨?_, ?_⟩
        · rw [em10, upI_o _ _ _ _ _ (by decide), em6, upI_n _ _ _ _ _ _ (Or.inr er), g1]; rfl
        · rw [em10, upI_n _ _ _ _ _ _ (Or.inr er), em6, upI_o _ _ _ _ _ (by decide), g2]; rfl
  · rw [em2, fillA_o _ _ _ _ _ (by decide), em1, fillA_s _ _ _ _ _ (by omega)]; rfl
  · rw [em2, fillA_s _ _ _ _ _ (by omega)]; rfl
def ent3 (mm : vM) (s : Nat) (p : tP) : Prop := (p.2.2 = 0 → mm.1 159 s = nI 0) ∧ (p.2.2 ≠ 0 → mm.1 159 s = nI p.1 ∧ mm.1 160 s = nI p.2.1 ∧ mm.1 161 s = nI (s + p.2.2))
theorem c_X3_weigh {mm : vM} {R s e n q k : Nat} {p : tP} (hs : s < 17) (he : e < 17) (h11 : mm.1 139 11 = nI R) (hR : R ≤ 16) (hent : ent3 mm s p) (hp0 : p.2.2 ≠ 0 → 1 ≤ p.1) (hp1 : p.1 ≤ 100) (hp2 : p.2.1 ≤ 1000000) (hn : n ≤ 100) (hq : q ≤ 1000000) (hnn : 1 + mm.1 159 e = nI n) (hqq : (e = R → q = 0) ∧ (e ≠ R → mm.1 160 e + nI k * nI k = nI q)) {P : vM → Prop}
    (hno : ¬ btr p n q → P mm) (hy : btr p n q → ∀ m6 : vM, m6 = upI (upI (upI mm 159 s (nI n)) 160 s (nI q)) 161 s (nI e) → P m6) : EI_X3_weigh (nI s) (nI e) (nI k) mm P := by
  refine f_X3_weigh (b_X3_weigh_0 ?_)
  unfold wp_X3_weigh_0
  have hvs : vp_in (nI s) 17 := vI hs (by decide)
  have hve : vp_in (nI e) 17 := vI he (by decide)
  refine ⟨hve, ?_⟩
  rintro v2 ev2
  rw [clI e (by omega), hnn] at ev2
  subst ev2
  have h88 : btr p n q → J_X3_weigh_88 (nI s) (nI e) (nI n) (nI q) mm P := fun hb => by
    refine b_X3_weigh_88 ?_
    unfold wp_X3_weigh_88
    rw [clI s (by omega)]
    refine ⟨hvs, ?_⟩
    rintro _ rfl
    refine ⟨hvs, ?_⟩
    rintro _ rfl
    refine ⟨hvs, ?_⟩
    intro m6 em6
    exact hy hb m6 em6
  have hdec : ∀ {A : Prop}, vp_in (nI s) 17 ∧ ((mm.1 159 s = 0 → (((1 : Int32) = 0 → A) ∧ (¬ (1 : Int32) = 0 → J_X3_weigh_88 (nI s) (nI e) (nI n) (nI q) mm P))) ∧ (¬ mm.1 159 s = 0 → (((0 : Int32) = 0 → vp_in (nI s) 17 ∧ ((nI n < mm.1 159 s → J_X3_weigh_88 (nI s) (nI e) (nI n) (nI q) mm P) ∧ (¬ nI n < mm.1 159 s → vp_in (nI s) 17 ∧ ((nI n = mm.1 159 s → vp_in (nI s) 17 ∧ ((mm.1 160 s < nI q → P mm) ∧ (¬ mm.1 160 s < nI q → J_X3_weigh_88 (nI s) (nI e) (nI n) (nI q) mm P))) ∧ (¬ nI n = mm.1 159 s → P mm))))) ∧ (¬ (0 : Int32) = 0 → J_X3_weigh_88 (nI s) (nI e) (nI n) (nI q) mm P)))) := by
    intro A
    refine ⟨hvs, ife (fun z => ifn (by decide) (h88 ?_)) (fun z => ifs rfl ⟨hvs, ?_⟩)⟩
    · by_cases hz : p.2.2 = 0
      · exact Or.inl hz
      · have h1 := (hent.2 hz).1
        have h2 := hp0 hz
        rw [z, show (0 : Int32) = nI 0 from rfl, nI_eq (by omega) (by omega)] at h1
        omega
    · have hz : p.2.2 ≠ 0 := fun hz => z (by rw [hent.1 hz]; rfl)
      obtain ⟨g1, g2, g3⟩ := hent.2 hz
      rw [g1, g2, ltI (by omega) (by omega), eqI (by omega) (by omega), ltI (by omega) (by omega)]
      unfold btr at hno h88
      exact ife (fun z => h88 (by omega)) (fun z => ⟨hvs, ife (fun z2 => ⟨hvs, ife (fun z3 => hno (by omega)) (fun z3 => h88 (by omega))⟩) (fun z2 => hno (by omega))⟩)
  rw [h11, eqI (by omega) (by omega), clI s (by omega), clI e (by omega)]
  refine ife (fun z => ?_) (fun z => ⟨hve, ?_⟩)
  · have e0 : (0 : Int32) = nI q := by rw [hqq.1 z]; rfl
    have h0 := hdec (A := vp_in (nI s) 17 ∧ ((nI n < mm.1 159 s → J_X3_weigh_88 (nI s) (nI e) (nI n) (nI q) mm P) ∧ (¬ nI n < mm.1 159 s → vp_in (nI s) 17 ∧ ((nI n = mm.1 159 s → vp_in (nI s) 17 ∧ ((mm.1 160 s < nI q → P mm) ∧ (¬ mm.1 160 s < nI q → J_X3_weigh_88 (nI s) (nI e) (nI n) (nI q) mm P))) ∧ (¬ nI n = mm.1 159 s → P mm)))))
    rw [hqq.1 z] at h0
    exact h0
  · rintro v4 ev4
    rw [hqq.2 z] at ev4
    subst ev4
    exact hdec
end HOMES
