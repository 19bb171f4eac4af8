section TIGHT2
variable {m : vM} {T : tT}
theorem Ord.keep {m1 : vM} {L : List Nat} (h : Ord m L) (h1 : m1.1 128 = m.1 128) (h2 : m1.1 125 4 = m.1 125 4) : Ord m1 L := by
  unfold Ord at *
  rw [h1, h2]
  exact h
theorem trW_bd (hV : Vw m T) {S t c : Nat} (hS : S ≤ 400) (ht : t < ch (S + (T 163 3 - 1)) (T 163 3 - 1)) (hc : c < T 163 3) : trW T S t c ≤ 5000 := by
  have h1 := (LT_bd hV c).1
  have h2 := dz_le (c := c) ht (by omega)
  unfold trW
  omega
theorem c_X5_tighten (hV : Vw m T) (hK : CK m T) {S N : Nat} (hS : S ≤ 400) (hN : N = ch (S + (T 163 3 - 1)) (T 163 3 - 1)) (hN2 : N ≤ 20000) (hL : ∀ c, c < 6 → m.1 131 c = nI (LT T c)) {P : Int32 → vM → Prop}
    (hp : ∀ m1, butO oW m m1 → CK m1 T → (∀ c, c < T 163 3 → m1.1 130 c = nI (trW T S (lw T S N).2 c)) → P (nI (lw T S N).1) m1) : EI_X5_tighten (nI S) (nI N) m P := by
  have hC := hV.C
  have h40 := hV.E40
  have hN1 : 1 ≤ N := by rw [hN]; exact ch_pos _ _
  refine f_X5_tighten (b_X5_tighten_0 ?_)
  unfold wp_X5_tighten_0
  refine ⟨by decide, by decide, by decide, by decide, by decide, ?_⟩
  rintro m6 em6
  have h6 : ∀ a, a ≠ 138 → m6.1 a = m.1 a := fun a ha => by rw [em6, upA_o _ _ _ _ ha]
  have h6c : ∀ c, c < 6 → m6.1 138 c = nI (LT T c) := fun c hc => by rw [em6, cpy6 m 131 138 c hc]; exact hL c hc
  unfold wp_X5_addToLast
  rintro v1 ev1
  rw [h6 1 (by decide), hV.xC, show (1 : Int32) = nI 1 from rfl, sbI hC.1] at ev1
  subst ev1
  refine ifn (nI_pos (by omega)) (ifn (nI_ge (b := 6) (by omega) (by decide)) ?_)
  have hvk : vp_in (nI (T 163 3 - 1)) 6 := vI (by omega) (by decide)
  refine ⟨hvk, hvk, ?_⟩
  rintro m7 em7
  rw [clI _ (by omega), h6c _ (by omega), adI] at em7
  have h7 : butL [138] m m7 := ⟨fun a ha => by
    have ha' : a ≠ 138 := fun e => ha (by rw [e]; exact List.mem_singleton.mpr rfl)
    rw [em7, upI_o _ _ _ _ _ ha', h6 a ha'], by rw [em7, em6]; rfl⟩
  have h7c : ∀ c, c < T 163 3 → m7.1 138 c = nI (trW T S 0 c) := fun c hc => by
    rw [em7]
    unfold trW dz
    by_cases e : c = T 163 3 - 1
    · subst e; rw [upI_s, if_pos rfl]
    · rw [upI_n _ _ _ _ _ _ (Or.inr e), if_neg e]; exact h6c c (by omega)
  have hV7 : Vw m7 T := hV.ofL h7 (by decide)
  refine c_X2_sortCells hV7 (fun m8 hb8 hO8 => ?_)
  have hV8 : Vw m8 T := hV7.agr hb8.agr
  have hK8 : CK m8 T := (hK.ofL h40 h7 (by decide)).ofS h40 hb8
  have hbo8 : butO oW m m8 := (butO.ofL h7 (oW_ok _ (by decide))).trans (butO.ofA hb8.agr)
  rw [show (0 : Int32) = nI (lw T S 0).1 from rfl]
  have hstart : J_X5_tighten_32 (nI N) (nI (lw T S 0).1) (nI 0) m8 P := by
    refine loop_up (Q := fun t => ∀ mm : vM, Vw mm T → CK mm T → Ord mm (allO T (T 163 2)) → butO oW m mm → mm.1 131 = m.1 131 → (∀ c, c < T 163 3 → mm.1 138 c = nI (trW T S t c)) → (0 < t → ∀ c, c < T 163 3 → mm.1 130 c = nI (trW T S (lw T S t).2 c)) → J_X5_tighten_32 (nI N) (nI (lw T S t).1) (nI t) mm P) (n := N) ?_ (fun t ht ih => ?_) 0 (Nat.zero_le _) m8 hV8 hK8 hO8 hbo8 ?_ (fun c hc => ?_) (fun h => absurd h (by omega))
    · intro mm _ gK _ gb _ _ g130
      refine b_X5_tighten_32 ?_
      unfold wp_X5_tighten_32
      exact ifs (nI_le (Nat.le_refl _) (by omega)) (hp mm gb gK (g130 (by omega)))
    · intro mm gV gK gO gb g131 g138 g130
      refine b_X5_tighten_32 ?_
      unfold wp_X5_tighten_32
      refine ifn (nI_ge ht (by omega)) ?_
      refine c_X2_measure gV gK gO (Or.inr rfl) (fun c hc => ⟨g138 c hc, trW_bd hV hS (by omega) hc⟩) (fun m1 hb1 hK1 _ => ?_)
      have hH : nsum (HT T (trW T S t)) (T 163 2) = trH T S t := rfl
      rw [hH]
      have hb1a : agr mm m1 := hb1.agr (scL _ (by decide))
      have hV1 : Vw m1 T := gV.agr hb1a
      have hO1 : Ord m1 (allO T (T 163 2)) := gO.keep (hb1.at 128 (by decide) (by omega)) (by rw [hb1.at 125 (by decide) (by omega)])
      have hbo1 : butO oW m m1 := gb.trans (butO.ofA hb1a)
      have e131 : m1.1 131 = m.1 131 := (hb1.at 131 (by decide) (by omega)).trans g131
      have e138 : m1.1 138 = mm.1 138 := hb1.at 138 (by decide) (by omega)
      have e130 : m1.1 130 = mm.1 130 := hb1.at 130 (by decide) (by omega)
      have htr := trH_bd hV S t
      have hlw := lw_bd hV S t
      -- after the choice: the next way, then the loop again
      have hgo : ∀ mq : vM, ∀ v : Nat, Vw mq T → CK mq T → Ord mq (allO T (T 163 2)) → butO oW m mq → mq.1 131 = m.1 131 → mq.1 138 = m1.1 138 → (lw T S (t + 1)).1 = v → (∀ c, c < T 163 3 → mq.1 130 c = nI (trW T S (lw T S (t + 1)).2 c)) → EI_X5_tryNext mq (fun m9 => J_X5_tighten_32 (nI N) (nI v) (nI t + 1) m9 P) := by
        rintro mq v qV qK qO qb q131 q138 rfl q130
        refine c_X5_tryNext qV (d := dz (T 163 3 - 1) S t) (fun c hc => ⟨?_, ?_, ?_⟩) (fun m9 hb9 h9 => ?_)
        · rw [q138, e138]; exact g138 c hc
        · rw [q131]; exact hL c (by omega)
        · have := dz_le (k := T 163 3 - 1) (S := S) (t := t) (c := c) (by omega) (by omega); omega
        · rw [ad1I]
          refine ih m9 (qV.ofL hb9 (by decide)) (qK.ofL h40 hb9 (by decide)) (qO.keep (hb9.at 128) (by rw [hb9.at 125])) (qb.trans (butO.ofL hb9 (oW_ok _ (by decide)))) ((hb9.at 131).trans q131) h9 (fun _ c hc => ?_)
          rw [hb9.at 130]; exact q130 c hc
      have hnew : (t = 0 ∨ trH T S t < (lw T S t).1) → ∀ m8 : vM, m8 = upA m1 130 (va_cpy (m1.1 138) (m1.1 130) (Int32.toNatClampNeg (0 : Int32)) (Int32.toNatClampNeg (0 : Int32)) (Int32.toNatClampNeg (6 : Int32))) → EI_X5_tryNext m8 (fun m9 => J_X5_tighten_32 (nI N) (nI (trH T S t)) (nI t + 1) m9 P) := by
        intro hn m8 em8
        have hb8' : butL [130] m1 m8 := by rw [em8]; exact butL_upA butL.rfl' (by decide)
        refine hgo m8 (trH T S t) (hV1.ofL hb8' (by decide)) (hK1.ofL h40 hb8' (by decide)) (hO1.keep (hb8'.at 128) (by rw [hb8'.at 125])) (hbo1.trans (butO.ofL hb8' (oW_ok _ (by decide)))) ((hb8'.at 131).trans e131) (hb8'.at 138) (by rw [lw_new hn]) (fun c hc => ?_)
        rw [lw_new hn, em8, cpy6 m1 138 130 c (by omega), e138]
        exact g138 c hc
      rw [eq0I (by omega)]
      refine ife (fun e => ⟨by decide, by decide, by decide, by decide, by decide, fun m8 em8 => hnew (Or.inl e) m8 em8⟩) (fun e => ?_)
      rw [leI (by omega) (by omega)]
      refine ife (fun hle => ?_) (fun hle => ⟨by decide, by decide, by decide, by decide, by decide, fun m8 em8 => hnew (Or.inr (by omega)) m8 em8⟩)
      have hno : ¬ (t = 0 ∨ trH T S t < (lw T S t).1) := by omega
      exact hgo m1 (lw T S t).1 hV1 hK1 hO1 hbo1 e131 rfl (by rw [lw_old hno]) (fun c hc => by rw [lw_old hno, e130]; exact g130 (by omega) c hc)
    · rw [hb8.1 131 (by decide) (by decide)]; exact h7.at 131
    · rw [hb8.1 138 (by decide) (by decide)]; exact h7c c hc
  exact hstart
end TIGHT2
