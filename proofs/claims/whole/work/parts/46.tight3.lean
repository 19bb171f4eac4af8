def oM (a j : Nat) : Bool := a == 181 || (a == 163 && j == 29)
def oT (a j : Nat) : Bool := a == 130 || a == 181 || (a == 163 && j == 29) || (a == 0 && j == 7)
section TIGHT3
variable {m : vM} {T : tT}
theorem butO.mono {o o' : Nat → Nat → Bool} {m m1 : vM} (h : butO o m m1) (hs : ∀ a j, o a j = true → o' a j = true) : butO o' m m1 := fun a j x y => h a j (by
  cases e : o a j
  · rfl
  · rw [hs a j e] at x; cases x) y
theorem oM_oT (a j : Nat) (h : oM a j = true) : oT a j = true := by
  unfold oM at h
  unfold oT
  simp only [Bool.or_eq_true, Bool.and_eq_true, beq_iff_eq] at *
  omega
theorem oW_oT (a j : Nat) (h : oW a j = true) : oT a j = true := by
  unfold oW at h
  unfold oT
  simp only [Bool.or_eq_true, Bool.and_eq_true, beq_iff_eq] at *
  omega
theorem rd_oT {a j : Nat} (hr : rdV a j = true) : oT a j = false := by
  unfold rdV at hr
  unfold oT
  simp only [Bool.or_eq_true, Bool.and_eq_true, beq_iff_eq, bne_iff_ne, decide_eq_true_eq, ne_eq] at hr
  simp only [Bool.or_eq_false_iff, Bool.and_eq_false_iff, beq_eq_false_iff_ne, ne_eq]
  omega
theorem Vw.oM {m1 : vM} (h : Vw m T) (hb : butO oM m m1) : Vw m1 T := (h.but (hb.mono oM_oT) (fun _ _ hr => rd_oT hr))
theorem InvT.tight {m1 : vM} {f : Nat → Nat} (h : InvT m T) (hb : butO oT m m1) (hK : CK m1 T) (ht : m1.1 0 7 = m1.1 163 29) (hf : ∀ c, c < T 163 3 → m1.1 130 c = nI (f c) ∧ m1.1 181 c = nI (f c) ∧ f c ≤ 5000) : InvT m1 (upT T 181 f) := by
  obtain ⟨h1, h2, ⟨a1, a2, a3, a4⟩, h4, ⟨b1, b2, b3, b4, b5⟩⟩ := h
  have hV : Vw m1 T := h1.but hb (fun _ _ hr => rd_oT hr)
  have hc := VwK_congr (T' := upT T 181 f) (fun a ha => upT_o _ _ _ _ (by omega)) hV hK
  have e163 : upT T 181 f 163 = T 163 := upT_o _ _ _ _ (by decide)
  have e189 : upT T 181 f 189 = T 189 := upT_o _ _ _ _ (by decide)
  have e190 : upT T 181 f 190 = T 190 := upT_o _ _ _ _ (by decide)
  refine ⟨hc.1, hc.2, ⟨?_, fun f x y => ?_, ?_, ht⟩, fun c hc => ?_, ?_⟩
  · rw [hb 0 5 rfl rfl, hb 163 0 rfl rfl]; exact a1
  · rw [hb 162 f rfl rfl, hb 164 f rfl rfl]; exact a2 f x y
  · rw [hb 0 6 rfl rfl, hb 163 18 rfl rfl]; exact a3
  · rw [e163] at hc
    rw [upT_s]
    exact hf c hc
  · unfold Pg
    rw [e163, e189, e190]
    refine ⟨(hb _ _ rfl rfl).trans b1, (hb _ _ rfl rfl).trans b2, b3, fun p hp => ?_, fun r hr => ?_⟩
    · have := b4 p hp
      have ho : ∀ j, oT (141 + p) j = false := fun j => by
        unfold oT
        simp only [Bool.or_eq_false_iff, Bool.and_eq_false_iff, beq_eq_false_iff_ne, ne_eq]
        omega
      rw [hb _ 0 (ho _) (scr_F (by omega)), hb _ 1 (ho _) (scr_F (by omega)), hb _ 2 (ho _) (scr_F (by omega)), hb _ 3 (ho _) (scr_F (by omega)), hb 189 p rfl rfl, hb 190 p rfl rfl, hb 191 p rfl rfl, hb 192 p rfl rfl]
      exact this
    · rw [hb 193 r rfl rfl]; exact b5 r hr
/-- the check's walk through the ways, from the widths L on -/
theorem c_X7_tight61 (hV : Vw m T) (hK : CK m T) {S N n : Nat} (hS : S ≤ 400) (hN : N = ch (S + (T 163 3 - 1)) (T 163 3 - 1)) (hn1 : 1 ≤ n) (hn : n ≤ 20000) (hL : ∀ c, c < T 163 3 → m.1 182 c = nI (LT T c)) {P : Int32 → vM → Prop}
    (hspent : n < N → ∀ m1, butO oM m m1 → CK m1 T → m1.1 181 = m.1 181 → m1.1 163 29 = nI n → P (-6) m1)
    (hok : N ≤ n → ∀ m1, butO oM m m1 → CK m1 T → m1.1 163 29 = nI N → (∀ c, c < T 163 3 → m1.1 181 c = nI (trW T S (lw T S N).2 c)) → P (nI (lw T S N).1) m1) : J_X7_tight_61 (nI n) (nI S) 0 m P := by
  have hC := hV.C
  have h40 := hV.E40
  have hN1 : 1 ≤ N := by rw [hN]; exact ch_pos _ _
  -- from the state at t
  have main : ∀ mm : vM, butO oM m mm → CK mm T → mm.1 182 = m.1 182 → mm.1 181 = m.1 181 → mm.1 163 29 = nI 0 → (∀ c, c < T 163 3 → mm.1 187 c = nI (trW T S 0 c)) → J_X7_tight_116 (nI n) (nI (lw T S 0).1) 1 mm P := by
    intro mm gb gK g182 g181 g29 g187
    have hflag0 : (1 : Int32) = if (0 : Nat) = N then (0 : Int32) else 1 := by rw [if_neg (by omega)]
    rw [hflag0]
    refine loop_up (Q := fun t => ∀ mm : vM, butO oM m mm → CK mm T → mm.1 182 = m.1 182 → mm.1 181 = m.1 181 → mm.1 163 29 = nI t → (t < N → ∀ c, c < T 163 3 → mm.1 187 c = nI (trW T S t c)) → (0 < t → ∀ c, c < T 163 3 → mm.1 188 c = nI (trW T S (lw T S t).2 c)) → J_X7_tight_116 (nI n) (nI (lw T S t).1) (if t = N then (0 : Int32) else 1) mm P) (n := if N ≤ n then N else n) ?_ (fun t ht ih => ?_) 0 (Nat.zero_le _) mm gb gK g182 g181 g29 (fun _ => g187) (fun h => absurd h (by omega))
    · intro mm gb gK g182 g181 g29 g187 g188
      have gV : Vw mm T := hV.oM gb
      by_cases hle : N ≤ n
      · rw [if_pos hle] at *
        rw [if_pos rfl]
        refine b_X7_tight_116 ?_
        unfold wp_X7_tight_116
        refine ifs rfl ?_
        rw [show (0 : Int32) = nI 0 from rfl]
        refine loop_up (Q := fun i => ∀ mk : vM, butO oM m mk → CK mk T → mk.1 188 = mm.1 188 → mk.1 163 = mm.1 163 → (∀ c, c < i → mk.1 181 c = nI (trW T S (lw T S N).2 c)) → J_X7_tight_215 (nI (lw T S N).1) (nI i) mk P) (n := T 163 3) ?_ (fun i hi ihi => ?_) 0 (Nat.zero_le _) mm gb gK rfl rfl (fun c hc => absurd hc (Nat.not_lt_zero _))
        · intro mk kb kK k188 k163 k181
          refine b_X7_tight_215 ?_
          unfold wp_X7_tight_215
          rw [k163, gV.mC]
          exact ifs (nI_le (Nat.le_refl _) (by omega)) (hok hle mk kb kK (by rw [k163]; exact g29) k181)
        · intro mk kb kK k188 k163 k181
          refine b_X7_tight_215 ?_
          unfold wp_X7_tight_215
          have hv : vp_in (nI i) 6 := vI (by omega) (by decide)
          rw [k163, gV.mC, clI i (by omega), k188, g188 (by omega) i hi, ad1I]
          refine ifn (nI_ge hi (by omega)) ⟨hv, hv, ?_⟩
          rintro _ rfl
          refine ihi _ (kb.upI rfl) (kK.upI h40 (by decide)) ((upI_o _ _ _ _ _ (by decide)).trans k188) ((upI_o _ _ _ _ _ (by decide)).trans k163) (fun c hc => ?_)
          rcases Nat.lt_succ_iff_lt_or_eq.mp hc with q | q
          · rw [upI_n _ _ _ _ _ _ (Or.inr (by omega))]; exact k181 c q
          · subst q; rw [upI_s]
      · rw [if_neg hle] at *
        rw [if_neg (by omega)]
        refine b_X7_tight_116 ?_
        unfold wp_X7_tight_116
        exact ifn (by decide) (ifs g29 (hspent (by omega) mm gb gK g181 g29))
    · intro mm gb gK g182 g181 g29 g187 g188
      have htN : t < N := by
        split at ht <;> omega
      have htn : t < n := by
        split at ht <;> omega
      rw [if_neg (by omega)]
      have gV : Vw mm T := hV.oM gb
      refine b_X7_tight_116 ?_
      unfold wp_X7_tight_116
      rw [g29, eqI (by omega) (by omega), ad1I]
      refine ifn (by decide) (ifn (by omega) ?_)
      rintro m1 em1
      have hb1 : butO oM m m1 := by rw [em1]; exact gb.upI rfl
      have hK1 : CK m1 T := by rw [em1]; exact gK.upI h40 (by decide)
      have hV1 : Vw m1 T := hV.oM hb1
      have h1o : ∀ a, a ≠ 163 → m1.1 a = mm.1 a := fun a ha => by rw [em1]; exact upI_o _ _ _ _ _ ha
      refine c_X7_heightBy (b := trW T S t) hV1 sh_187 (by decide) (by decide) (by decide) (fun c hc => ⟨?_, trW_bd hV1 hS (by omega) hc⟩) (fun m2 hb2 _ => ?_)
      · rw [h1o 187 (by decide)]; exact g187 htN c hc
      have hbo2 : butO oM m m2 := hb1.trans (butO.ofA (hb2.agr (scL _ (by decide))))
      have hK2 : CK m2 T := hK1.ofL h40 hb2 (by decide)
      have e29 : m2.1 163 29 = nI (t + 1) := by rw [hb2.at 163, em1, upI_s]
      have e182 : m2.1 182 = m.1 182 := by rw [hb2.at 182, h1o 182 (by decide), g182]
      have e181 : m2.1 181 = m.1 181 := by rw [hb2.at 181, h1o 181 (by decide), g181]
      have e187 : m2.1 187 = mm.1 187 := by rw [hb2.at 187, h1o 187 (by decide)]
      have e188 : m2.1 188 = mm.1 188 := by rw [hb2.at 188, h1o 188 (by decide)]
      have htr := trH_bd hV S t
      have hlw := lw_bd hV S t
      have hH : nsum (HT T (trW T S t)) (T 163 2) = trH T S t := rfl
      rw [hH]
      -- next, from a memory where 188 holds the best
      have hnext : ∀ mq : vM, ∀ v : Nat, butO oM m mq → CK mq T → mq.1 163 29 = nI (t + 1) → mq.1 182 = m.1 182 → mq.1 181 = m.1 181 → mq.1 187 = mm.1 187 → (lw T S (t + 1)).1 = v → (∀ c, c < T 163 3 → mq.1 188 c = nI (trW T S (lw T S (t + 1)).2 c)) → EI_X7_next mq (fun r4 m4 => J_X7_tight_116 (nI n) (nI v) r4 m4 P) := by
        rintro mq v qb qK q29 q182 q181 q187 rfl q188
        have hfv := fun (x : Int32) (m4 : vM) (hx : x = if t + 1 = N then (0 : Int32) else 1) (i1 : butO oM m m4) (i2 : CK m4 T) (i3 : m4.1 182 = m.1 182) (i4 : m4.1 181 = m.1 181) (i5 : m4.1 163 29 = nI (t + 1)) (i6 : t + 1 < N → ∀ c, c < T 163 3 → m4.1 187 c = nI (trW T S (t + 1) c)) (i7 : ∀ c, c < T 163 3 → m4.1 188 c = nI (trW T S (lw T S (t + 1)).2 c)) => by
          have := ih m4 i1 i2 i3 i4 i5 i6 (fun _ => i7)
          rw [← hx] at this
          exact this
        refine c_X7_next (hV.oM qb) (d := dz (T 163 3 - 1) S t) (fun c hc => ⟨?_, ?_, ?_⟩) (fun h0 => ?_) (fun h0 m4 hb4 h4 => ?_)
        · rw [q187]; exact g187 htN c hc
        · rw [q182]; exact hL c hc
        · have := dz_le (k := T 163 3 - 1) (S := S) (t := t) (c := c) (by omega) (by omega); omega
        · have hl := (dz_gv (k := T 163 3 - 1) (S := S) (t := t) (by omega)).mp h0
          exact hfv 0 mq (by rw [if_pos (by omega)]) qb qK q182 q181 q29 (fun h => by omega) q188
        · have hl : ¬ t + 1 = N := fun e => h0 ((dz_gv (k := T 163 3 - 1) (S := S) (t := t) (by omega)).mpr (by omega))
          refine hfv 1 m4 (by rw [if_neg hl]) (qb.trans (butO.ofA (hb4.agr (scL _ (by decide))))) (qK.ofL h40 hb4 (by decide)) ((hb4.at 182).trans q182) ((hb4.at 181).trans q181) (by rw [hb4.at 163]; exact q29) (fun _ => h4) (fun c hc => by rw [hb4.at 188]; exact q188 c hc)
      have hcopy : (t = 0 ∨ trH T S t < (lw T S t).1) → J_X7_tight_174 (nI n) (nI (trH T S t)) 0 m2 P := by
        intro hn
        rw [show (0 : Int32) = nI 0 from rfl]
        refine loop_up (Q := fun i => ∀ mk : vM, butL [188] m2 mk → (∀ c, c < i → mk.1 188 c = nI (trW T S t c)) → J_X7_tight_174 (nI n) (nI (trH T S t)) (nI i) mk P) (n := T 163 3) ?_ (fun i hi ihi => ?_) 0 (Nat.zero_le _) m2 butL.rfl' (fun c hc => absurd hc (Nat.not_lt_zero _))
        · intro mk kb k188
          refine b_X7_tight_174 ?_
          unfold wp_X7_tight_174
          rw [kb.at 163, (hV.oM hbo2).mC]
          refine ifs (nI_le (Nat.le_refl _) (by omega)) ?_
          refine hnext mk (trH T S t) (hbo2.trans (butO.ofA (kb.agr (scL _ (by decide))))) (hK2.ofL h40 kb (by decide)) (by rw [kb.at 163]; exact e29) ((kb.at 182).trans e182) ((kb.at 181).trans e181) ((kb.at 187).trans e187) (by rw [lw_new hn]) (fun c hc => by rw [lw_new hn]; exact k188 c hc)
        · intro mk kb k188
          refine b_X7_tight_174 ?_
          unfold wp_X7_tight_174
          have hv : vp_in (nI i) 6 := vI (by omega) (by decide)
          rw [kb.at 163, (hV.oM hbo2).mC, clI i (by omega), kb.at 187, e187, g187 htN i hi, ad1I]
          refine ifn (nI_ge hi (by omega)) ⟨hv, hv, ?_⟩
          rintro _ rfl
          refine ihi _ (butL_upI kb (by decide)) (fun c hc => ?_)
          rcases Nat.lt_succ_iff_lt_or_eq.mp hc with q | q
          · rw [upI_n _ _ _ _ _ _ (Or.inr (by omega))]; exact k188 c q
          · subst q; rw [upI_s]
      rw [e29, show (1 : Int32) = nI 1 from rfl, eqI (by omega) (by omega)]
      refine ife (fun e => hcopy (Or.inl (by omega))) (fun e => ?_)
      rw [leI (by omega) (by omega)]
      refine ife (fun hle => ?_) (fun hle => hcopy (Or.inr (by omega)))
      have hno : ¬ (t = 0 ∨ trH T S t < (lw T S t).1) := by omega
      exact hnext m2 (lw T S t).1 hbo2 hK2 e29 e182 e181 e187 (by rw [lw_old hno]) (fun c hc => by rw [lw_old hno, e188]; exact g188 (by omega) c hc)
  rw [show (0 : Int32) = nI 0 from rfl]
  refine loop_up (Q := fun i => ∀ mm : vM, butL [187] m mm → (∀ c, c < i → mm.1 187 c = nI (LT T c)) → J_X7_tight_61 (nI n) (nI S) (nI i) mm P) (n := T 163 3) ?_ (fun i hi ih => ?_) 0 (Nat.zero_le _) m butL.rfl' (fun c hc => absurd hc (Nat.not_lt_zero _))
  · intro mm gb g187
    refine b_X7_tight_61 ?_
    unfold wp_X7_tight_61
    rw [gb.at 163, hV.mC, show (1 : Int32) = nI 1 from rfl, sbI hC.1, clI _ (by omega)]
    have hvk : vp_in (nI (T 163 3 - 1)) 6 := vI (by omega) (by decide)
    refine ifs (nI_le (Nat.le_refl _) (by omega)) ⟨hvk, hvk, ?_⟩
    rintro m3 em3 m4 em4
    rw [g187 _ (by omega), adI] at em3
    have hb3 : butL [187] m m3 := by rw [em3]; exact butL_upI gb (by decide)
    refine main m4 ?_ ?_ ?_ ?_ ?_ (fun c hc => ?_)
    · rw [em4]; exact (butO.ofA (hb3.agr (scL _ (by decide)))).upI rfl
    · rw [em4]; exact (hK.ofL h40 hb3 (by decide)).upI h40 (by decide)
    · rw [em4, upI_o _ _ _ _ _ (by decide)]; exact hb3.at 182
    · rw [em4, upI_o _ _ _ _ _ (by decide)]; exact hb3.at 181
    · rw [em4, upI_s]; rfl
    · rw [em4, upI_o _ _ _ _ _ (by decide), em3]
      unfold trW dz
      by_cases e : c = T 163 3 - 1
      · subst e; rw [upI_s, if_pos rfl]
      · rw [upI_n _ _ _ _ _ _ (Or.inr e), if_neg e]; exact g187 c hc
  · intro mm gb g187
    refine b_X7_tight_61 ?_
    unfold wp_X7_tight_61
    have hv : vp_in (nI i) 6 := vI (by omega) (by decide)
    rw [gb.at 163, hV.mC, clI i (by omega), gb.at 182, hL i hi, ad1I]
    refine ifn (nI_ge hi (by omega)) ⟨hv, hv, ?_⟩
    rintro _ rfl
    refine ih _ (butL_upI gb (by decide)) (fun c hc => ?_)
    rcases Nat.lt_succ_iff_lt_or_eq.mp hc with q | q
    · rw [upI_n _ _ _ _ _ _ (Or.inr (by omega))]; exact g187 c q
    · subst q; rw [upI_s]
end TIGHT3
