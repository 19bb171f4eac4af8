section PTIGHT
variable {m : vM} {T : tT}
theorem Vw.oT {m1 : vM} (h : Vw m T) (hb : butO oT m m1) : Vw m1 T := h.but hb (fun _ _ hr => rd_oT hr)
theorem c_X7_tight (hV : Vw m T) (hK : CK m T) {x : Int32} {n : Nat} (hn1 : 1 ≤ n) (hn : n ≤ 20000) {P : Int32 → vM → Prop} {k : Nat} (hk : k ≤ 400) (hx : x = nI k)
    (hlo : k < gapN T + nsum (LT T) (T 163 3) → ∀ m1, agr m m1 → CK m1 T → P (-4) m1)
    (hspent : gapN T + nsum (LT T) (T 163 3) ≤ k → n < ch (k - gapN T - nsum (LT T) (T 163 3) + (T 163 3 - 1)) (T 163 3 - 1) → ∀ m1, butO oM m m1 → CK m1 T → m1.1 181 = m.1 181 → m1.1 163 29 = nI n → P (-6) m1)
    (hok : gapN T + nsum (LT T) (T 163 3) ≤ k → ch (k - gapN T - nsum (LT T) (T 163 3) + (T 163 3 - 1)) (T 163 3 - 1) ≤ n → ∀ m1, butO oM m m1 → CK m1 T → m1.1 163 29 = nI (ch (k - gapN T - nsum (LT T) (T 163 3) + (T 163 3 - 1)) (T 163 3 - 1)) → (∀ c, c < T 163 3 → m1.1 181 c = nI (trW T (k - gapN T - nsum (LT T) (T 163 3)) (lw T (k - gapN T - nsum (LT T) (T 163 3)) (ch (k - gapN T - nsum (LT T) (T 163 3) + (T 163 3 - 1)) (T 163 3 - 1))).2 c)) → P (nI (lw T (k - gapN T - nsum (LT T) (T 163 3)) (ch (k - gapN T - nsum (LT T) (T 163 3) + (T 163 3 - 1)) (T 163 3 - 1))).1) m1) : EI_X7_tight x (nI n) m P := by
  have hC := hV.C
  have hg := gapN_bd hV
  obtain ⟨s1, s2, s3, s4⟩ := sums_bd hV
  subst hx
  refine f_X7_tight (b_X7_tight_0 ?_)
  unfold wp_X7_tight_0
  refine w_inY (lo := 0) (hi := 400) rfl rfl (by decide) (Nat.zero_le _) hk rfl (i1 (w_inY (lo := 1) (hi := 20000) rfl rfl (by decide) hn1 hn rfl (i1 ?_)))
  refine c_X7_layBoth hV (fun m5 hb5 hLB => ?_)
  have hV5 : Vw m5 T := hV.ofL hb5 (by decide)
  have ha5 : agr m m5 := hb5.agr (scL _ (by decide))
  have hK5 : CK m5 T := hK.ofL hV.E40 hb5 (by decide)
  refine c_X7_sumOf (A := LT T) hV5 sh_182 (by decide) (fun c hc => (hLB c hc).1) ?_
  rintro v8 ev8
  rw [hV5.mC, hV5.mg, gapN_I hV, sub_sub32, adI] at ev8
  rw [ev8, le_sub2 (by omega) (by omega)]
  refine ife (fun hle => ?_) (fun hle => hlo (by omega) m5 ha5 hK5)
  rw [sbI hle, Nat.sub_add_eq]
  refine c_X7_tight61 hV5 hK5 (by omega) rfl hn1 hn (fun c hc => (hLB c hc).1) (fun hlt m1 b1 k1 e1 t1 => ?_) (fun hle2 m1 b1 k1 t1 e1 => ?_)
  · exact hspent hle hlt m1 ((butO.ofA ha5).trans b1) k1 (e1.trans (hb5.at 181)) t1
  · exact hok hle hle2 m1 ((butO.ofA ha5).trans b1) k1 t1 e1
theorem pair_tight (x y : Int32) : Pair (EI_X6_tight x y) (EI_X7_tight x y) := by
  rintro m ⟨T, hI⟩
  have hV := hI.1
  have hK := hI.2.1
  have hC := hV.C
  have h40 := hV.E40
  have hg := gapN_bd hV
  obtain ⟨s1, s2, s3, s4⟩ := sums_bd hV
  refine e_X6_tight ?_
  unfold wp_X6_tight
  rcases num_cases x 0 400 with ⟨k, k1, k2, rfl⟩ | hx
  · refine w_isY (lo := 0) (hi := 400) rfl rfl (by decide) k1 k2 rfl (i1 ?_)
    rcases num_cases y 1 20000 with ⟨n, n1, n2, rfl⟩ | hy
    · refine w_isY (lo := 1) (hi := 20000) rfl rfl (by decide) n1 n2 rfl (i1 ?_)
      refine c_X5_measure hV (fun m5 hb5 hLB => ?_)
      have hV5 : Vw m5 T := hV.ofL hb5 (by decide)
      have hK5 : CK m5 T := hK.ofL h40 hb5 (by decide)
      have ha5 : agr m m5 := hb5.agr (scL _ (by decide))
      have hI5 : InvT m5 T := hI.agr ha5 hK5
      unfold wp_X5_spareOf wp_X1_gaps
      rw [hV5.xC, hV5.xg, gapN_I hV]
      refine c_X5_sumOf (A := LT T) hV5 sh_131 (by decide) (fun c hc => (hLB c (by omega)).1) ?_
      simp only [sub_sub32, adI]
      rw [le_sub2 (by omega) (by omega)]
      refine ife (fun hle => ?_) (fun hle => ?_)
      · have e1 : nI k - nI (gapN T + nsum (LT T) (T 163 3)) = nI (k - gapN T - nsum (LT T) (T 163 3)) := by rw [sbI hle, Nat.sub_add_eq]
        rw [e1]
        generalize hS : k - gapN T - nsum (LT T) (T 163 3) = S
        refine c_X5_waysToSpread hV5 (by omega) ?_
        generalize hN : ch (S + (T 163 3 - 1)) (T 163 3 - 1) = N
        have hNb : N < 2 ^ 62 := by
          have h1 : N ≤ (S + (T 163 3 - 1) + 1) ^ (T 163 3 - 1) := by rw [← hN]; exact ch_le S _
          have h2 : (S + (T 163 3 - 1) + 1) ^ (T 163 3 - 1) ≤ 406 ^ (T 163 3 - 1) := Nat.pow_le_pow_left (by omega) _
          have h3 : 406 ^ (T 163 3 - 1) ≤ 406 ^ 5 := Nat.pow_le_pow_right (by omega) (by omega)
          have h5 : (406 : Nat) ^ 5 < 2 ^ 62 := by decide
          omega
        have hcmp : (lg_cmp (lN N) (nI n).toInt64 ≤ 0) = (N ≤ n) := by
          rw [propext (lg_cmp_le _ _), Int64.le_iff_toInt_le, nI_l (by omega), show (lN N).toInt = (N : Int) from lg_ofNat_toInt (by omega), lN_toInt (by omega)]
          exact propext (by omega)
        rw [hcmp]
        refine ife (fun hNn => ?_) (fun hNn => ?_)
        · rintro m10 em10
          rw [lN_i] at em10
          have hb10 : butL [0] m5 m10 := by rw [em10]; exact butL_upI butL.rfl' (by decide)
          have hbo10 : butO oT m m10 := by rw [em10]; exact (butO.ofA ha5).upI rfl
          have e07 : m10.1 0 7 = nI N := by rw [em10, upI_s]
          rw [e07]
          refine c_X5_tighten (hV5.ofL hb10 (by decide)) (hK5.ofL h40 hb10 (by decide)) (by omega) hN.symm (by omega) (fun c hc => by rw [hb10.at 131]; exact (hLB c hc).1) (fun m11 b11 k11 e11 => ?_)
          have hV11 : Vw m11 T := (hV5.ofL hb10 (by decide)).oT (b11.mono oW_oT)
          refine c_X7_tight hV11 k11 n1 n2 k2 rfl (fun h => absurd h (by omega)) (fun _ hlt => ?_) (fun _ _ m1 b1 kk1 t1 e1 => ?_)
          · rw [hS, hN] at hlt; omega
          · rw [hS, hN] at t1 e1 ⊢
            refine ⟨rfl, ?_⟩
            have hl := lw_bd hV S N
            have hN1 : 1 ≤ N := by rw [← hN]; exact ch_pos _ _
            refine (hI.tight (f := trW T S (lw T S N).2) ((hbo10.trans (b11.mono oW_oT)).trans (b1.mono oM_oT)) kk1 ?_ (fun c hc => ⟨?_, e1 c hc, ?_⟩)).toI
            · rw [t1, b1 0 7 rfl rfl, b11 0 7 rfl rfl, e07]
            · rw [b1 130 c rfl rfl]; exact e11 c hc
            · exact trW_bd hV (by omega) (by rw [hN]; exact hl.2 (by omega)) hc
        · rintro m13 em13
          have hb13 : butL [0] m5 m13 := by rw [em13]; exact butL_upI butL.rfl' (by decide)
          have hbo13 : butO oT m m13 := by rw [em13]; exact (butO.ofA ha5).upI rfl
          have hV13 : Vw m13 T := hV5.ofL hb13 (by decide)
          have hK13 : CK m13 T := hK5.ofL h40 hb13 (by decide)
          refine c_X7_tight hV13 hK13 n1 n2 k2 rfl (fun h => absurd h (by omega)) (fun _ _ m1 b1 kk1 e1 t1 => ⟨rfl, ?_⟩) (fun _ hle2 => ?_)
          · refine (hI.tight (f := T 181) (hbo13.trans (b1.mono oM_oT)) kk1 ?_ (fun c hc => ?_)).toI
            · rw [t1, b1 0 7 rfl rfl, em13, upI_s]
            · obtain ⟨w1, w2, w3⟩ := hI.2.2.2.1 c hc
              refine ⟨?_, ?_, w3⟩
              · rw [b1 130 c rfl rfl, hb13.at 130, ha5 130 c rfl]; exact w1
              · rw [e1, hb13.at 181, ha5 181 c rfl]; exact w2
          · rw [hS, hN] at hle2; omega
      · refine c_X7_tight hV5 hK5 n1 n2 k2 rfl (fun _ m1 a1 kk1 => ⟨rfl, (hI5.agr a1 kk1).toI⟩) (fun h => absurd h hle) (fun h => absurd h hle)
    · refine w_isN (lo := 1) (hi := 20000) rfl rfl (by decide) (by decide) hy (i0 ?_)
      refine f_X7_tight (b_X7_tight_0 ?_)
      unfold wp_X7_tight_0
      exact w_inY (lo := 0) (hi := 400) rfl rfl (by decide) k1 k2 rfl (i1 (w_inN (lo := 1) (hi := 20000) rfl rfl (by decide) (by decide) hy (i0 ⟨rfl, hI.toI⟩)))
  · refine w_isN (lo := 0) (hi := 400) rfl rfl (by decide) (by decide) hx (i0 ?_)
    refine f_X7_tight (b_X7_tight_0 ?_)
    unfold wp_X7_tight_0
    exact w_inN (lo := 0) (hi := 400) rfl rfl (by decide) (by decide) hx (i0 ⟨rfl, hI.toI⟩)
end PTIGHT
