section PSET2
variable {m : vM} {T : tT}
theorem butO.ofK {o : Nat → Nat → Bool} {l : List Nat} {m m1 : vM} (h : butK l m m1) (hs : ∀ a ∈ l, ∀ j, (o a j || scr a j) = true) : butO o m m1 := by
  intro a j x y
  rw [h.1 a]
  · intro ha
    have := hs a ha j
    rw [x, y] at this
    cases this
  · intro k hk e
    subst e
    rw [scr_cK hk] at y
    cases y
theorem oW_ok (l : List Nat) (h : l.all (fun a => a == 130 || a == 181 || (126 ≤ a && a ≤ 128) || a == 131 || a == 132 || (134 ≤ a && a ≤ 138) || (157 ≤ a && a ≤ 161) || (177 ≤ a && a ≤ 180) || (182 ≤ a && a ≤ 188) || (194 ≤ a && a ≤ 196)) = true) : ∀ a ∈ l, ∀ j, (oW a j || scr a j) = true := by
  intro a ha j
  have := List.all_eq_true.mp h a ha
  unfold oW scr
  simp only [Bool.or_eq_true, Bool.and_eq_true, beq_iff_eq, decide_eq_true_eq] at *
  omega
theorem scL (l : List Nat) (h : l.all (fun a => (126 ≤ a && a ≤ 128) || a == 131 || a == 132 || (134 ≤ a && a ≤ 138) || (157 ≤ a && a ≤ 161) || (177 ≤ a && a ≤ 180) || (182 ≤ a && a ≤ 188) || (194 ≤ a && a ≤ 196)) = true) : ∀ a ∈ l, ∀ j, scr a j = true := by
  intro a ha j
  have := List.all_eq_true.mp h a ha
  unfold scr
  simp only [Bool.or_eq_true, Bool.and_eq_true, beq_iff_eq, decide_eq_true_eq] at *
  omega
theorem c_X6_heightOfTable (hV : Vw m T) (hK : CK m T) {b : Nat → Nat} (hb : ∀ c, c < T 163 3 → m.1 130 c = nI (b c) ∧ b c ≤ 5000) {P : Int32 → vM → Prop} (hp : ∀ m1, agr m m1 → CK m1 T → m1.1 130 = m.1 130 → P (nI (nsum (HT T b) (T 163 2))) m1) : wp_X6_heightOfTable m P := by
  unfold wp_X6_heightOfTable
  refine c_X2_sortCells hV (fun m1 hb1 hO => ?_)
  have e130 : m1.1 130 = m.1 130 := hb1.1 130 (by decide) (by decide)
  refine c_X2_measure (hV.agr hb1.agr) (hK.ofS hV.E40 hb1) hO (Or.inl rfl) (fun c hc => by rw [e130]; exact hb c hc) (fun m2 hb2 hK2 _ => ?_)
  exact hp m2 (hb1.agr.trans (hb2.agr (scL _ (by decide)))) hK2 ((hb2.at 130 (by decide) (by omega)).trans e130)
theorem c_X6_set (hV : Vw m T) (hK : CK m T) {x : Int32} {P : Int32 → vM → Prop} (hout : (∀ n, n ≤ 400 → x ≠ nI n) → P (-1) m)
    (hlo : ∀ n m1, n ≤ 400 → x = nI n → n < gapN T + nsum (LT T) (T 163 3) → agr m m1 → CK m1 T → P (-4) m1)
    (hok : ∀ n m1, n ≤ 400 → x = nI n → gapN T + nsum (LT T) (T 163 3) ≤ n → butO oW m m1 → CK m1 T → (∀ c, c < T 163 3 → m1.1 130 c = nI (setW T (n - gapN T - nsum (LT T) (T 163 3)) c)) → P (nI (nsum (HT T (setW T (n - gapN T - nsum (LT T) (T 163 3)))) (T 163 2))) m1) : EI_X6_set x m P := by
  have hC := hV.C
  have hg := gapN_bd hV
  obtain ⟨s1, s2, s3, s4⟩ := sums_bd hV
  refine e_X6_set ?_
  unfold wp_X6_set
  refine w_isWithin (lo := 0) (hi := 400) rfl rfl (by decide) (by decide) (fun n _ hn e => ?_) (fun h => ?_)
  · subst e
    refine ⟨fun h => absurd h (by decide), fun _ => ?_⟩
    refine c_X5_measure hV (fun m3 hb3 hLB => ?_)
    have hV3 : Vw m3 T := hV.ofL hb3 (by decide)
    have hK3 : CK m3 T := hK.ofL hV.E40 hb3 (by decide)
    unfold wp_X5_spareOf wp_X1_gaps
    rw [hV3.xC, hV3.xg, gapN_I hV]
    refine c_X5_sumOf (A := LT T) hV3 sh_131 (by decide) (fun c hc => (hLB c (by omega)).1) ?_
    simp only [sub_sub32, adI]
    rw [le_sub2 (by omega) (by omega)]
    refine ⟨fun hle => ?_, fun hle => hlo n m3 hn rfl (by omega) ?_ hK3⟩
    · have e1 : nI n - nI (gapN T + nsum (LT T) (T 163 3)) = nI (n - gapN T - nsum (LT T) (T 163 3)) := by rw [sbI hle, Nat.sub_add_eq]
      rw [e1]
      refine c_X5_spread hV3 (by omega) hLB (fun m6 hb6 hw6 => ?_)
      refine c_X6_heightOfTable (b := setW T (n - gapN T - nsum (LT T) (T 163 3))) (hV3.ofL hb6 (by decide)) (hK3.ofL hV.E40 hb6 (by decide)) (fun c hc => ⟨hw6 c hc, setW_bd hV (by omega) hc⟩) (fun m7 ha7 hK7 e7 => ?_)
      refine hok n m7 hn rfl hle ?_ hK7 (fun c hc => by rw [e7]; exact hw6 c hc)
      exact ((butO.ofL hb3 (oW_ok _ (by decide))).trans (butO.ofL hb6 (oW_ok _ (by decide)))).trans (butO.ofA ha7)
    · exact hb3.agr (scL _ (by decide))
  · exact ⟨fun _ => hout (fun n hn => h n (Nat.zero_le _) hn), fun h0 => absurd rfl h0⟩
theorem InvT.toI (h : InvT m T) : Inv m := ⟨T, h⟩
theorem pair_set (x : Int32) : Pair (EI_X6_set x) (EI_X7_set x) := by
  intro m hI
  obtain ⟨T, hI⟩ := hI
  have hV := hI.1
  have hC := hV.C
  have hg := gapN_bd hV
  obtain ⟨s1, s2, s3, s4⟩ := sums_bd hV
  have inj : ∀ n k, n ≤ 400 → k ≤ 400 → x = nI n → x = nI k → n = k := fun n k h1 h2 e1 e2 => (nI_eq (by omega) (by omega)).mp (e1.symm.trans e2)
  refine c_X6_set hV hI.2.1 (fun hout => ?_) (fun n m1 hn e hlt ha1 hK1 => ?_) (fun n m1 hn e hle ho1 hK1 hw1 => ?_)
  · refine c_X7_set hV (fun _ => ⟨rfl, hI.toI⟩) (fun n _ hn e => absurd e (hout n hn)) (fun n _ hn e => absurd e (hout n hn))
  · have hV1 : Vw m1 T := hV.agr ha1
    refine c_X7_set hV1 (fun h => absurd e (h n hn)) (fun k m2 hk ek hlt2 hb2 => ⟨rfl, ?_⟩) (fun k m2 hk ek hle2 => absurd hlt (by have := inj n k hn hk e ek; omega))
    refine (hI.agr (ha1.trans (hb2.agr (scL _ (by decide)))) (hK1.ofL hV.E40 hb2 (by decide))).toI
  · have hV1 : Vw m1 T := hV.but ho1 (fun a j hr => by
      unfold rdV at hr
      unfold oW
      simp only [Bool.or_eq_true, Bool.and_eq_true, beq_iff_eq, bne_iff_ne, decide_eq_true_eq, ne_eq] at hr
      simp only [Bool.or_eq_false_iff, beq_eq_false_iff_ne, ne_eq]
      omega)
    refine c_X7_set hV1 (fun h => absurd e (h n hn)) (fun k m2 hk ek hlt2 => absurd hle (by have := inj n k hn hk e ek; omega)) (fun k m2 hk ek hle2 hb2 hw2 => ?_)
    obtain rfl := inj n k hn hk e ek
    refine ⟨rfl, ?_⟩
    have hb12 : butO oW m1 m2 := butO.ofL hb2 (oW_ok _ (by decide))
    refine (hI.setw (f := setW T (n - gapN T - nsum (LT T) (T 163 3))) (ho1.trans hb12) (hK1.ofL hV.E40 hb2 (by decide)) (fun c hc => ⟨?_, hw2 c hc, setW_bd hV (by omega) hc⟩)).toI
    rw [hb2.1 130 (by decide)]
    exact hw1 c hc
end PSET2
