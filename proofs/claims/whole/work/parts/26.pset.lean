/-! the places that an operation writes, named o; what is held over it -/
def butO (o : Nat → Nat → Bool) (m m1 : vM) : Prop := ∀ a j, o a j = false → scr a j = false → m1.1 a j = m.1 a j
theorem butO.rfl' {o : Nat → Nat → Bool} {m : vM} : butO o m m := fun _ _ _ _ => rfl
theorem butO.trans {o : Nat → Nat → Bool} {m m1 m2 : vM} (h : butO o m m1) (h2 : butO o m1 m2) : butO o m m2 := fun a j x y => (h2 a j x y).trans (h a j x y)
theorem butO.ofA {o : Nat → Nat → Bool} {m m1 : vM} (h : agr m m1) : butO o m m1 := fun a j _ y => h a j y
theorem butO.ofL {o : Nat → Nat → Bool} {l : List Nat} {m m1 : vM} (h : butL l m m1) (hs : ∀ a ∈ l, ∀ j, (o a j || scr a j) = true) : butO o m m1 := by
  intro a j x y
  rw [h.1 a]
  intro ha
  have := hs a ha j
  rw [x, y] at this
  cases this
theorem butO.upI {o : Nat → Nat → Bool} {m m1 : vM} {a j : Nat} {v : Int32} (h : butO o m m1) (hs : o a j = true) : butO o m (upI m1 a j v) := by
  intro b k x y
  rw [upI_n]
  · exact h b k x y
  · by_cases e : b = a
    · right; intro ek; subst e; subst ek; rw [hs] at x; cases x
    · exact Or.inl e
def rdV (a j : Nat) : Bool := (1 ≤ a && a ≤ 3) || (a == 163 && (j == 2 || j == 3 || j == 4 || j == 7)) || (165 ≤ a && a ≤ 176) || (5 ≤ a && a < 125 && (a - 5) % 3 != 2)
theorem rdV_cA {k j : Nat} (hk : k < 40) : rdV (cA k) j = true := by
  unfold rdV cA
  simp only [Bool.or_eq_true, Bool.and_eq_true, beq_iff_eq, bne_iff_ne, decide_eq_true_eq, ne_eq]
  omega
theorem rdV_cL {k j : Nat} (hk : k < 40) : rdV (cA k + 1) j = true := by
  unfold rdV cA
  simp only [Bool.or_eq_true, Bool.and_eq_true, beq_iff_eq, bne_iff_ne, decide_eq_true_eq, ne_eq]
  omega
theorem Vw.rd {m m1 : vM} {T : tT} (h : Vw m T) (ha : ∀ a j, rdV a j = true → m1.1 a j = m.1 a j) : Vw m1 T := by
  have h40 := h.E40
  refine ⟨h.1, ?_, fun k hk => ?_⟩
  · obtain ⟨a1, a2, a3, a4, a5, a6, a7, a8, a9, a10⟩ := h.2.1
    refine ⟨(ha _ _ rfl).trans a1, (ha _ _ rfl).trans a2, (ha _ _ rfl).trans a3, (ha _ _ rfl).trans a4, (ha _ _ rfl).trans a5, (ha _ _ rfl).trans a6, (ha _ _ rfl).trans a7, (ha _ _ rfl).trans a8, fun c hc => ⟨(ha _ _ rfl).trans (a9 c hc).1, (ha _ _ rfl).trans (a9 c hc).2⟩, fun k hk => ⟨(ha _ _ rfl).trans (a10 k hk).1, (ha _ _ rfl).trans (a10 k hk).2⟩⟩
  · obtain ⟨⟨b0, b1, b2, b3, b4, b5, b6, b7, b8, b9⟩, ⟨c0, c1, c2, c3, c4, c5, c6, c7, c8, c9⟩⟩ := h.2.2 k hk
    have hs : ∀ j, m1.1 (cA k) j = m.1 (cA k) j := fun j => ha _ _ (rdV_cA (by omega))
    have hL : ∀ j, m1.1 (cA k + 1) j = m.1 (cA k + 1) j := fun j => ha _ _ (rdV_cL (by omega))
    exact ⟨⟨(hs _).trans b0, (hs _).trans b1, (hs _).trans b2, (hs _).trans b3, (hs _).trans b4, (hs _).trans b5, (hs _).trans b6, (hs _).trans b7, (hs _).trans b8, fun i hi => (hL _).trans (b9 i hi)⟩, ⟨(ha _ _ rfl).trans c0, (ha _ _ rfl).trans c1, (ha _ _ rfl).trans c2, (ha _ _ rfl).trans c3, (ha _ _ rfl).trans c4, (ha _ _ rfl).trans c5, (ha _ _ rfl).trans c6, (ha _ _ rfl).trans c7, (ha _ _ rfl).trans c8, fun i hi => (ha _ _ rfl).trans (c9 i hi)⟩⟩
theorem rdV_scr {a j : Nat} (h : rdV a j = true) : scr a j = false := by
  unfold rdV at h
  unfold scr
  simp only [Bool.or_eq_true, Bool.and_eq_true, beq_iff_eq, bne_iff_ne, decide_eq_true_eq, ne_eq] at h
  simp only [Bool.or_eq_false_iff, Bool.and_eq_false_iff, beq_eq_false_iff_ne, decide_eq_false_iff_not, ne_eq]
  omega
theorem Vw.but {o : Nat → Nat → Bool} {m m1 : vM} {T : tT} (h : Vw m T) (hb : butO o m m1) (ho : ∀ a j, rdV a j = true → o a j = false) : Vw m1 T := h.rd (fun a j hr => hb a j (ho a j hr) (rdV_scr hr))
def nrd (a : Nat) : Bool := a == 0 || a == 4 || (125 ≤ a && a ≤ 162) || a == 164 || 177 ≤ a
theorem Vw.ofL {m m1 : vM} {T : tT} {l : List Nat} (hV : Vw m T) (h : butL l m m1) (hs : ∀ a ∈ l, nrd a = true) : Vw m1 T := by
  refine hV.rd (fun a j hr => ?_)
  rw [h.1 a]
  intro ha
  have h1 := hs a ha
  unfold rdV at hr
  unfold nrd at h1
  simp only [Bool.or_eq_true, Bool.and_eq_true, beq_iff_eq, bne_iff_ne, decide_eq_true_eq, ne_eq] at hr h1
  omega
theorem CK.ofL {m m1 : vM} {T : tT} {l : List Nat} (hK : CK m T) (h40 : T 163 7 ≤ 40) (h : butL l m m1) (hs : ∀ a ∈ l, a < 5 ∨ 125 ≤ a) : CK m1 T := hK.keep h40 (fun k hk => h.1 _ (fun hm => cK_nin hk (hs _ hm) rfl))
theorem CK.ofS {m m1 : vM} {T : tT} (hK : CK m T) (h40 : T 163 7 ≤ 40) (h : butS m m1) : CK m1 T := hK.keep h40 (fun k hk => h.1 _ (cK_nin hk (by omega)) (cK_nin hk (by omega)))
theorem CK.upI {m : vM} {T : tT} {a j : Nat} {v : Int32} (hK : CK m T) (h40 : T 163 7 ≤ 40) (ha : a < 5 ∨ 125 ≤ a) : CK (upI m a j v) T := hK.keep h40 (fun k hk => upI_o _ _ _ _ _ (cK_nin hk ha))
/-- one operation, on both sides -/
def Pair (e1 e2 : vM → (Int32 → vM → Prop) → Prop) : Prop := ∀ m, Inv m → e1 m (fun r m1 => e2 m1 (fun r2 m2 => r2 = r ∧ Inv m2))
def oW (a _j : Nat) : Bool := a == 130 || a == 181
theorem InvT.setw {m m1 : vM} {T : tT} {f : Nat → Nat} (h : InvT m T) (hb : butO oW m m1) (hK : CK m1 T) (hf : ∀ c, c < T 163 3 → m1.1 130 c = nI (f c) ∧ m1.1 181 c = nI (f c) ∧ f c ≤ 5000) : InvT m1 (upT T 181 f) := by
  obtain ⟨h1, h2, ⟨a1, a2, a3, a4⟩, h4, ⟨b1, b2, b3, b4, b5⟩⟩ := h
  have hV : Vw m1 T := h1.but hb (fun a j hr => by
    unfold rdV at hr
    unfold oW
    simp only [Bool.or_eq_true, Bool.and_eq_true, beq_iff_eq, bne_iff_ne, decide_eq_true_eq, ne_eq] at hr
    simp only [Bool.or_eq_false_iff, beq_eq_false_iff_ne, ne_eq]
    omega)
  have hc := VwK_congr (T' := upT T 181 f) (fun a ha => upT_o _ _ _ _ (by omega)) hV hK
  have e163 : upT T 181 f 163 = T 163 := upT_o _ _ _ _ (by decide)
  have e189 : upT T 181 f 189 = T 189 := upT_o _ _ _ _ (by decide)
  have e190 : upT T 181 f 190 = T 190 := upT_o _ _ _ _ (by decide)
  refine ⟨hc.1, hc.2, ⟨?_, fun f x y => ?_, ?_, ?_⟩, fun c hc => ?_, ?_⟩
  · rw [hb 0 5 rfl rfl, hb 163 0 rfl rfl]; exact a1
  · rw [hb 162 f rfl rfl, hb 164 f rfl rfl]; exact a2 f x y
  · rw [hb 0 6 rfl rfl, hb 163 18 rfl rfl]; exact a3
  · rw [hb 0 7 rfl rfl, hb 163 29 rfl rfl]; exact a4
  · rw [e163] at hc
    rw [upT_s]
    exact hf c hc
  · unfold Pg
    rw [e163, e189, e190]
    refine ⟨(hb _ _ rfl rfl).trans b1, (hb _ _ rfl rfl).trans b2, b3, fun p hp => ?_, fun r hr => ?_⟩
    · have := b4 p hp
      have ho : ∀ j, oW (141 + p) j = false := fun j => by
        unfold oW
        simp only [Bool.or_eq_false_iff, beq_eq_false_iff_ne, ne_eq]
        omega
      rw [hb _ 0 (ho _) (scr_F (by omega)), hb _ 1 (ho _) (scr_F (by omega)), hb _ 2 (ho _) (scr_F (by omega)), hb _ 3 (ho _) (scr_F (by omega)), hb 189 p rfl rfl, hb 190 p rfl rfl, hb 191 p rfl rfl, hb 192 p rfl rfl]
      exact this
    · rw [hb 193 r rfl rfl]; exact b5 r hr

theorem le_sub2 {x y : Nat} (hx : x < 2 ^ 30) (hy : y < 2 ^ 30) : (0 ≤ nI x - nI y) = (y ≤ x) := by
  rw [Int32.le_iff_toInt_le, pk_sub_toInt hx hy, Int32.toInt_zero]
  exact propext (by omega)
theorem le_subR {x y z : Nat} (hx : x < 2 ^ 30) (hy : y < 2 ^ 30) (hz : z < 2 ^ 30) : (nI z ≤ nI x - nI y) = (y + z ≤ x) := by
  rw [Int32.le_iff_toInt_le, pk_sub_toInt hx hy, nI_toInt (by omega)]
  exact propext (by omega)
def gapN (T : tT) : Nat := (T 163 3 - 1) * T 163 4
section PSET
variable {m : vM} {T : tT}
theorem gapN_bd (hV : Vw m T) : gapN T ≤ 15 := by
  have hC := hV.C
  have := Nat.mul_le_mul (show T 163 3 - 1 ≤ 5 by omega) hV.g
  unfold gapN
  omega
theorem gapN_I (hV : Vw m T) : (nI (T 163 3) - 1) * nI (T 163 4) = nI (gapN T) := by
  have hC := hV.C
  rw [show (1 : Int32) = nI 1 from rfl, sbI hC.1, mlI]
  rfl
theorem c_X7_set93 (hV : Vw m T) {n l3 l4 : Nat} {num A : Nat → Nat} (hn : n ≤ 400) (h3 : l3 = 0 ∨ l3 = 1) (h4 : l4 = 0 ∨ l4 = 1)
    (hL : ∀ c, c < T 163 3 → m.1 182 c = nI (LT T c) ∧ m.1 183 c = nI (BT T c)) (hA : ∀ c, c < T 163 3 → A c = if l3 = 0 then LT T c else BT T c) (hnum : ∀ c, c < T 163 3 → num c = if l3 = 0 ∧ l4 = 0 then BT T c - LT T c else T 165 c)
    (hs : nsum A (T 163 3) ≤ n) (hS : 1 ≤ sumR num 0 (T 163 3)) {P : Int32 → vM → Prop}
    (hp : ∀ m1, butL [178, 179, 180, 181, 185, 186] m m1 → (∀ c, c < T 163 3 → m1.1 181 c = nI (A c + shN (n - nsum A (T 163 3)) num 0 (T 163 3) c)) → P (nI (nsum (HT T (fun c => A c + shN (n - nsum A (T 163 3)) num 0 (T 163 3) c)) (T 163 2))) m1) :
    J_X7_set_93 (nI n) (nI l3) (nI l4) 0 m P := by
  have hC := hV.C
  have hnb : ∀ c, c < T 163 3 → num c ≤ 20000 := fun c hc => by
    rw [hnum c hc]
    have h1 := (BT_bd hV c).1
    have h2 := (hV.wt c (by omega)).2
    split <;> omega
  have hAb : ∀ c, c < T 163 3 → A c ≤ 1542 := fun c hc => by
    rw [hA c hc]
    have h1 := (BT_bd hV c).1
    have h2 := (LT_bd hV c).1
    split <;> omega
  rw [show (0 : Int32) = nI 0 from rfl]
  refine loop_up (Q := fun i => ∀ mm : vM, butL [178] m mm → (∀ c, c < i → mm.1 178 c = nI (num c)) → J_X7_set_93 (nI n) (nI l3) (nI l4) (nI i) mm P) (n := T 163 3) ?_ (fun i hi ih => ?_) 0 (Nat.zero_le _) m butL.rfl' (fun c hc => absurd hc (Nat.not_lt_zero _))
  · intro mm hb hg
    have hVm : Vw mm T := hV.ofL hb (by decide)
    have hend : ∀ mx : vM, EI_X7_share (nI (n - nsum A (T 163 3))) 0 (mm.1 163 3) mm (fun m3 => J_X7_set_186 (nI l3) 0 m3 P) := by
      intro mx
      rw [hVm.mC, show nI (T 163 3) = nI (0 + T 163 3) by rw [Nat.zero_add], show (0 : Int32) = nI 0 from rfl]
      refine c_X7_share (num := num) hC.1 (by omega) (fun j hj => by rw [Nat.zero_add]; exact ⟨hg j hj, hnb j hj⟩) (by omega) hS (fun m3 hb3 hg3 => ?_)
      have hb3' : butL [178, 179, 180] m m3 := (hb.mono (by decide)).trans (butL.of2 hb3 (by decide) (by decide))
      refine loop_up (Q := fun i => ∀ mk : vM, butL [178, 179, 180, 181] m mk → mk.1 179 = m3.1 179 → (∀ c, c < i → mk.1 181 c = nI (A c + shN (n - nsum A (T 163 3)) num 0 (T 163 3) c)) → J_X7_set_186 (nI l3) (nI i) mk P) (n := T 163 3) ?_ (fun i hi ih => ?_) 0 (Nat.zero_le _) m3 (hb3'.mono (by decide)) rfl (fun c hc => absurd hc (Nat.not_lt_zero _))
      · intro mk hbk _ hgk
        refine b_X7_set_186 ?_
        unfold wp_X7_set_186
        rw [hbk.1 163 (by decide), hV.mC]
        refine ⟨fun _ => ?_, fun h => absurd (nI_le (Nat.le_refl _) (by omega)) h⟩
        have hVk : Vw mk T := hV.ofL hbk (by decide)
        refine c_X7_heightBy (b := fun c => A c + shN (n - nsum A (T 163 3)) num 0 (T 163 3) c) hVk sh_181 (by decide) (by decide) (by decide) (fun c hc => ⟨hgk c hc, ?_⟩) (fun m5 hb5 _ => ?_)
        · have := (shN_eq (n := n - nsum A (T 163 3)) hS hC.1 hC.2 (by omega) (Nat.zero_le c) (by omega)).2
          have := hAb c hc
          show A c + shN (n - nsum A (T 163 3)) num 0 (T 163 3) c ≤ 5000
          omega
        · exact hp m5 ((hbk.mono (by decide)).trans (hb5.mono (by decide))) (fun c hc => by rw [hb5.1 181 (by decide)]; exact hgk c hc)
      · intro mk hbk h9 hgk
        refine b_X7_set_186 ?_
        unfold wp_X7_set_186
        have hv : vp_in (nI i) 6 := vI (by omega) (by omega)
        have e9 : mk.1 179 i = nI (shN (n - nsum A (T 163 3)) num 0 (T 163 3) i) := by
          rw [h9]
          have := hg3 i hi
          rw [Nat.zero_add] at this
          exact this
        have hl := hL i hi
        have hAi := hA i hi
        rw [hbk.1 163 (by decide), hV.mC, clI i (by omega), hbk.1 182 (by decide), hbk.1 183 (by decide), hl.1, hl.2, e9, ad1I]
        have hfin : J_X7_set_186 (nI l3) (nI (i + 1)) (upI mk 181 i (nI (A i) + nI (shN (n - nsum A (T 163 3)) num 0 (T 163 3) i))) P := by
          refine ih _ (butL_upI hbk (by decide)) ((upI_o _ _ _ _ _ (by decide)).trans h9) (fun c hc => ?_)
          rcases Nat.lt_succ_iff_lt_or_eq.mp hc with q | q
          · rw [upI_n _ _ _ _ _ _ (Or.inr (by omega))]; exact hgk c q
          · subst q; rw [upI_s, adI]
        refine ⟨fun h => absurd h (nI_ge hi (by omega)), fun _ => ⟨fun h0 => ⟨hv, hv, hv, ?_⟩, fun h0 => ⟨hv, hv, hv, ?_⟩⟩⟩
        · rintro _ rfl
          rw [eq0I (by omega)] at h0
          rw [if_pos h0] at hAi
          rw [← hAi]
          exact hfin
        · rintro _ rfl
          rw [eq0I (by omega)] at h0
          rw [if_neg h0] at hAi
          rw [← hAi]
          exact hfin
    refine b_X7_set_93 ?_
    unfold wp_X7_set_93
    rw [hb.1 163 (by decide), hV.mC]
    refine ⟨fun _ => ⟨fun h0 => ?_, fun h0 => ?_⟩, fun h => absurd (nI_le (Nat.le_refl _) (by omega)) h⟩
    · rw [eq0I (by omega)] at h0
      have eA : nsum (LT T) (T 163 3) = nsum A (T 163 3) := nsum_congr (fun c hc => by rw [hA c hc, if_pos h0])
      refine c_X7_sumOf (A := LT T) hVm sh_182 (by decide) (fun c hc => by rw [hb.1 182 (by decide)]; exact (hL c hc).1) ?_
      rw [eA, sbI hs]
      exact hend mm
    · rw [eq0I (by omega)] at h0
      have eA : nsum (BT T) (T 163 3) = nsum A (T 163 3) := nsum_congr (fun c hc => by rw [hA c hc, if_neg h0])
      refine c_X7_sumOf (A := BT T) hVm sh_183 (by decide) (fun c hc => by rw [hb.1 183 (by decide)]; exact (hL c hc).2) ?_
      rw [eA, sbI hs]
      exact hend mm
  · intro mm hb hg
    refine b_X7_set_93 ?_
    unfold wp_X7_set_93
    have hv : vp_in (nI i) 6 := vI (by omega) (by omega)
    have hl := hL i hi
    have hni := hnum i hi
    rw [hb.1 163 (by decide), hV.mC, clI i (by omega), hb.1 182 (by decide), hb.1 183 (by decide), hb.1 165 (by decide), hl.1, hl.2, (hV.w (by omega)).2, sbI (BT_bd hV i).2.1, ad1I]
    have hfin : J_X7_set_93 (nI n) (nI l3) (nI l4) (nI (i + 1)) (upI mm 178 i (nI (num i))) P := by
      refine ih _ (butL_upI hb (by decide)) (fun c hc => ?_)
      rcases Nat.lt_succ_iff_lt_or_eq.mp hc with q | q
      · rw [upI_n _ _ _ _ _ _ (Or.inr (by omega))]; exact hg c q
      · subst q; rw [upI_s]
    refine ⟨fun h => absurd h (nI_ge hi (by omega)), fun _ => ⟨fun h0 => ⟨fun h1 => ⟨hv, hv, hv, ?_⟩, fun h1 => ⟨hv, hv, ?_⟩⟩, fun h0 => ⟨hv, hv, ?_⟩⟩⟩
    · rintro _ rfl
      rw [eq0I (by omega)] at h0 h1
      rw [if_pos ⟨h0, h1⟩] at hni
      rw [← hni]
      exact hfin
    · rintro _ rfl
      rw [eq0I (by omega)] at h0 h1
      rw [if_neg (fun z => h1 z.2)] at hni
      rw [← hni]
      exact hfin
    · rintro _ rfl
      rw [eq0I (by omega)] at h0
      rw [if_neg (fun z => h0 z.1)] at hni
      rw [← hni]
      exact hfin
theorem c_X7_set (hV : Vw m T) {x : Int32} {P : Int32 → vM → Prop} (hout : (∀ n, n ≤ 400 → x ≠ nI n) → P (-1) m)
    (hlo : ∀ n m1, n ≤ 400 → x = nI n → n < gapN T + nsum (LT T) (T 163 3) → butL [182, 183, 178, 179, 180, 184] m m1 → P (-4) m1)
    (hok : ∀ n m1, n ≤ 400 → x = nI n → gapN T + nsum (LT T) (T 163 3) ≤ n → butL [178, 179, 180, 181, 182, 183, 184, 185, 186] m m1 → (∀ c, c < T 163 3 → m1.1 181 c = nI (setW T (n - gapN T - nsum (LT T) (T 163 3)) c)) → P (nI (nsum (HT T (setW T (n - gapN T - nsum (LT T) (T 163 3)))) (T 163 2))) m1) : EI_X7_set x m P := by
  have hC := hV.C
  have hg := gapN_bd hV
  obtain ⟨s1, s2, s3, s4⟩ := sums_bd hV
  refine f_X7_set (b_X7_set_0 ?_)
  unfold wp_X7_set_0
  refine w_in (lo := 0) (hi := 400) rfl rfl (by decide) (by decide) (fun n _ hn e => ?_) (fun h => ?_)
  · subst e
    refine ⟨fun h => absurd h (by decide), fun _ => ?_⟩
    refine c_X7_layBoth hV (fun m3 hb3 hLB => ?_)
    have hV3 : Vw m3 T := hV.ofL hb3 (by decide)
    rintro v4 ev4
    rw [hV3.mC, hV3.mg, gapN_I hV] at ev4
    refine c_X7_sumOf (A := LT T) hV3 sh_182 (by decide) (fun c hc => (hLB c hc).1) ?_
    rw [ev4, le_subR (by omega) (by omega) (by omega)]
    refine ⟨fun hle => ?_, fun hle => hlo n m3 hn rfl (by omega) hb3⟩
    refine c_X7_sumOf (A := BT T) hV3 sh_183 (by decide) (fun c hc => (hLB c hc).2) ?_
    rw [sbI (show gapN T ≤ n by omega), leI (by omega) (by omega)]
    refine ⟨fun hle2 => ?_, fun hle2 => ?_⟩
    all_goals
      refine c_X7_sumOf (A := BT T) hV3 sh_183 (by decide) (fun c hc => (hLB c hc).2) ?_
      refine c_X7_sumOf (A := LT T) hV3 sh_182 (by decide) (fun c hc => (hLB c hc).1) ?_
      rw [eqI (by omega) (by omega)]
    · refine ⟨fun he => ?_, fun he => ?_⟩
      · have hset : ∀ c, setW T (n - gapN T - nsum (LT T) (T 163 3)) c = LT T c + shN (n - gapN T - nsum (LT T) (T 163 3)) (T 165) 0 (T 163 3) c := fun c => by
          unfold setW
          rw [if_neg (by omega), if_pos (by omega)]
        have hf := hok n
        rw [funext hset] at hf
        exact c_X7_set93 (l3 := 0) (l4 := 1) (num := T 165) (A := LT T) hV3 (by omega) (Or.inl rfl) (Or.inr rfl) hLB (fun c _ => rfl) (fun c _ => rfl) (by omega) (sumR_all hV) (fun m1 hb1 hg1 => hf m1 hn rfl (by omega) ((hb3.mono (by decide)).trans (hb1.mono (by decide))) hg1)
      · have hset : ∀ c, setW T (n - gapN T - nsum (LT T) (T 163 3)) c = LT T c + shN (n - gapN T - nsum (LT T) (T 163 3)) (fun c => BT T c - LT T c) 0 (T 163 3) c := fun c => by
          unfold setW
          rw [if_neg (by omega), if_neg (by omega)]
        have hf := hok n
        rw [funext hset] at hf
        exact c_X7_set93 (l3 := 0) (l4 := 0) (num := fun c => BT T c - LT T c) (A := LT T) hV3 (by omega) (Or.inl rfl) (Or.inl rfl) hLB (fun c _ => rfl) (fun c _ => rfl) (by omega) (by rw [sumR_num]; omega) (fun m1 hb1 hg1 => hf m1 hn rfl (by omega) ((hb3.mono (by decide)).trans (hb1.mono (by decide))) hg1)
    · have esp : n - gapN T - nsum (LT T) (T 163 3) - (nsum (BT T) (T 163 3) - nsum (LT T) (T 163 3)) = n - gapN T - nsum (BT T) (T 163 3) := by omega
      have hset : ∀ c, setW T (n - gapN T - nsum (LT T) (T 163 3)) c = BT T c + shN (n - gapN T - nsum (BT T) (T 163 3)) (T 165) 0 (T 163 3) c := fun c => by
        unfold setW
        rw [if_pos (by omega), esp]
      have hf := hok n
      rw [funext hset] at hf
      refine ⟨fun he => ?_, fun he => ?_⟩
      · exact c_X7_set93 (l3 := 1) (l4 := 1) (num := T 165) (A := BT T) hV3 (by omega) (Or.inr rfl) (Or.inr rfl) hLB (fun c _ => rfl) (fun c _ => rfl) (by omega) (sumR_all hV) (fun m1 hb1 hg1 => hf m1 hn rfl (by omega) ((hb3.mono (by decide)).trans (hb1.mono (by decide))) hg1)
      · exact c_X7_set93 (l3 := 1) (l4 := 0) (num := T 165) (A := BT T) hV3 (by omega) (Or.inr rfl) (Or.inl rfl) hLB (fun c _ => rfl) (fun c _ => rfl) (by omega) (sumR_all hV) (fun m1 hb1 hg1 => hf m1 hn rfl (by omega) ((hb3.mono (by decide)).trans (hb1.mono (by decide))) hg1)
  · exact ⟨fun _ => hout (fun n hn => h n (Nat.zero_le _) hn), fun h0 => absurd rfl h0⟩
end PSET
