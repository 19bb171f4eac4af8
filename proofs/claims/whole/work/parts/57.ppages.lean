def oP (a j : Nat) : Bool := (a == 139 && j == 0) || (141 ≤ a && a ≤ 156) || (a == 163 && j == 32) || (189 ≤ a && a ≤ 193)
def frP (m m1 : vM) : Prop := (∀ a, a ≠ 163 → a ≠ 185 → a ≠ 186 → a < 189 ∨ 196 < a → m1.1 a = m.1 a) ∧ ∀ j, j ≠ 32 → m1.1 163 j = m.1 163 j
section PPAGES
variable {m : vM} {T : tT}
theorem VwK_congr2 {T' : tT} (h : ∀ a, a ≤ 176 → a ≠ 163 → T' a = T a) (h2 : ∀ j, j ≠ 32 → T' 163 j = T 163 j) (hV : Vw m T) (hK : CK m T) : Vw m T' ∧ CK m T' := by
  have e2 := h2 2 (by decide)
  have e3 := h2 3 (by decide)
  have e4 := h2 4 (by decide)
  have e7 := h2 7 (by decide)
  have e165 := h 165 (by decide) (by decide)
  have e166 := h 166 (by decide) (by decide)
  have e167 := h 167 (by decide) (by decide)
  have e168 := h 168 (by decide) (by decide)
  have e169 := h 169 (by decide) (by decide)
  have e170 := h 170 (by decide) (by decide)
  have e171 := h 171 (by decide) (by decide)
  have e172 := h 172 (by decide) (by decide)
  have e173 := h 173 (by decide) (by decide)
  have e174 := h 174 (by decide) (by decide)
  have e175 := h 175 (by decide) (by decide)
  have e176 := h 176 (by decide) (by decide)
  refine ⟨?_, ?_⟩
  · unfold Vw Tok VH VCx VCm CellT ovl at *
    simp only [e2, e3, e4, e7, e165, e166, e167, e168, e169, e170, e171, e172, e173, e174, e175, e176]
    exact hV
  · unfold CK lnT ltT at *
    simp only [e7, e173, e174]
    exact hK
def pgT (T : tT) (n : Nat) (F G : Nat → Nat) : tT := upT (upT (up2 T 163 32 n) 189 F) 190 G
theorem InvT.pgs {m1 : vM} {n : Nat} {F G : Nat → Nat} (h : InvT m T) (hb : butO oP m m1) (hK : CK m1 T) (hn : n ≤ 16) (h1 : m1.1 139 0 = nI n) (h2 : m1.1 163 32 = nI n)
    (h3 : ∀ p, p < n → (m1.1 (141 + p) 0 = nI (F p) ∧ m1.1 189 p = nI (F p)) ∧ (m1.1 (141 + p) 1 = nI (G p) ∧ m1.1 190 p = nI (G p)) ∧ m1.1 (141 + p) 2 = m1.1 191 p ∧ m1.1 (141 + p) 3 = m1.1 192 p ∧ F p + G p ≤ 16)
    (h4 : ∀ r, r < T 163 2 → Lst (fun p => r < F p + G p) n (m1.1 193 r)) : InvT m1 (pgT T n F G) := by
  obtain ⟨g1, g2, ⟨a1, a2, a3, a4⟩, g4, -⟩ := h
  have hV : Vw m1 T := g1.but hb (fun a j hr => by
    unfold rdV at hr
    unfold oP
    simp only [Bool.or_eq_true, Bool.and_eq_true, beq_iff_eq, bne_iff_ne, decide_eq_true_eq, ne_eq] at hr
    simp only [Bool.or_eq_false_iff, Bool.and_eq_false_iff, beq_eq_false_iff_ne, ne_eq, decide_eq_false_iff_not]
    omega)
  have e189 : pgT T n F G 189 = F := by
    unfold pgT
    rw [upT_o _ _ _ _ (by decide), upT_s]
  have e190 : pgT T n F G 190 = G := by
    unfold pgT
    rw [upT_s]
  have eo : ∀ a, a ≠ 189 → a ≠ 190 → pgT T n F G a = up2 T 163 32 n a := fun a z1 z2 => by
    unfold pgT
    rw [upT_o _ _ _ _ z2, upT_o _ _ _ _ z1]
  have e163 : ∀ j, j ≠ 32 → pgT T n F G 163 j = T 163 j := fun j hj => by rw [eo 163 (by decide) (by decide), up2_n _ _ _ _ _ _ (Or.inr hj)]
  have e32 : pgT T n F G 163 32 = n := by rw [eo 163 (by decide) (by decide), up2_s]
  have e181 : pgT T n F G 181 = T 181 := by rw [eo 181 (by decide) (by decide), up2_o _ _ _ _ _ (by decide)]
  have hc := VwK_congr2 (T' := pgT T n F G) (fun a z1 z2 => by rw [eo a (by omega) (by omega), up2_o _ _ _ _ _ z2]) e163 hV hK
  refine ⟨hc.1, hc.2, ⟨?_, fun f x y => ?_, ?_, ?_⟩, fun c hc => ?_, ?_⟩
  · rw [hb 0 5 rfl rfl, hb 163 0 rfl rfl]; exact a1
  · rw [hb 162 f rfl rfl, hb 164 f rfl rfl]; exact a2 f x y
  · rw [hb 0 6 rfl rfl, hb 163 18 rfl rfl]; exact a3
  · rw [hb 0 7 rfl rfl, hb 163 29 rfl rfl]; exact a4
  · rw [e163 3 (by decide)] at hc
    rw [e181, hb 130 c rfl rfl, hb 181 c rfl rfl]
    exact g4 c hc
  · unfold Pg
    rw [e32, e189, e190, e163 2 (by decide)]
    exact ⟨h1, h2, hn, h3, h4⟩
theorem c_X7_pages (hV : Vw m T) {h B : Nat} (hh1 : 1 ≤ h) (hh : h ≤ 200) (hH : HeadN T B) (hw : ∀ c, c < T 163 3 → m.1 181 c = nI (T 181 c) ∧ T 181 c ≤ 5000) {P : Int32 → vM → Prop}
    (ha : T 163 2 ≤ B → ∀ m1, frP m m1 → m1.1 163 32 = nI 0 → (∀ r, r < 16 → m1.1 193 r = -9) → P 0 m1)
    (hb : B < T 163 2 → (TB T (HT T (T 181)) h B B).2.2 = 0 → ∀ m1, frP m m1 → m1.1 163 32 = nI 0 → (∀ r, r < 16 → m1.1 193 r = -9) → P (-9) m1)
    (hc : B < T 163 2 → isP T (HT T (T 181)) h B B → ∀ m1, frP m m1 → m1.1 163 32 = nI (TB T (HT T (T 181)) h B B).1 → (∀ p, p < (TB T (HT T (T 181)) h B B).1 → pg7 T (HT T (T 181)) h B m1 p) → (∀ r, r < T 163 2 → ∃ p, p < (TB T (HT T (T 181)) h B B).1 ∧ m1.1 193 r = nI p ∧ r < chn T (HT T (T 181)) h B (p + 1) ∧ (0 < p → chn T (HT T (T 181)) h B p ≤ r)) → P (nI (TB T (HT T (T 181)) h B B).1) m1) : EI_X7_pages (nI h) m P := by
  have hR := hV.R
  have hB := hH.1
  refine f_X7_pages (b_X7_pages_0 ?_)
  unfold wp_X7_pages_0
  refine w_inY (lo := 1) (hi := 200) rfl rfl (by decide) hh1 hh rfl (i1 ?_)
  refine c_X7_layHeights (b := T 181) hV sh_181 (by decide) (by decide) (by decide) hw (fun m3 hb3 h185 => ?_)
  have hV3 : Vw m3 T := hV.ofL hb3 (by decide)
  refine c_X7_headRows hV3 (fun B' hB' => ?_)
  obtain rfl := hH.uniq hB'
  rw [hV3.mR, clI _ (by omega)]
  refine ⟨vI (by omega) (by decide), ?_⟩
  rintro m7 em7
  have e7 : m7.1 163 = m3.1 163 := by rw [em7, upI_o _ _ _ _ _ (by decide)]
  rw [e7, hV3.mR, clI _ (by omega)]
  refine ⟨vI (by omega) (by decide), ?_⟩
  rintro m9 em9 v10 ev10
  have e9 : ∀ a, m9.1 a = m7.1 a := fun a => by rw [em9]; rfl
  rw [e9, e7, hV3.mR] at ev10
  have e10 : v10 = nI (T 163 2) + (-1) := by
    rw [ev10, show (1 : Int32) = nI 1 from rfl, sbI hR.1]
    have := pk_m1 (T 163 2 - 1)
    rw [show T 163 2 - 1 + 1 = T 163 2 by omega] at this
    exact this.symm
  subst e10
  refine c_plan7 (m := m3) (b := T 181) hV3 hh hH h185 (fun mm hst l3 el3 => ?_) m9 ⟨fun a z1 z2 => by rw [e9, em7, upI_o _ _ _ _ _ z1], by rw [e9, em7, upI_s]; rfl, fun x z1 z2 => by omega⟩
  subst el3
  have hmm : ∀ j, mm.1 163 j = m3.1 163 j := fun j => by rw [hst.1 163 (by decide) (by decide)]
  refine b_X7_pages_53 ?_
  unfold wp_X7_pages_53
  refine ifs (pr_lt B (by omega)) ?_
  rintro m1 em1
  have h280 : ∀ mk : vM, (∀ a, a ≠ 193 → mk.1 a = m1.1 a) → (∀ r, r < 16 → mk.1 193 r = -9) → (((m1.1 163 2) ≤ nI B → J_X7_pages_322 (nI h) (nI B) (nI B) mk P) ∧ (¬ (m1.1 163 2) ≤ nI B → vp_in (nI B) 17 ∧ ((mk.1 196 (Int32.toNatClampNeg (nI B)) = 0 → P (-9) mk) ∧ (¬ mk.1 196 (Int32.toNatClampNeg (nI B)) = 0 → J_X7_pages_322 (nI h) (nI B) (nI B) mk P)))) := by
    intro mk k1 k2
    have kfr : frP m mk := by
      refine ⟨fun a z1 z2 z3 z4 => ?_, fun j hj => ?_⟩
      · rw [k1 a (by omega), em1, upI_o _ _ _ _ _ z1, hst.1 a (by omega) (by omega), hb3.1 a (by simp only [List.mem_cons, List.not_mem_nil, or_false]; omega)]
      · rw [k1 163 (by decide), em1, upI_n _ _ _ _ _ _ (Or.inr hj), hmm, hb3.at 163]
    have k32 : mk.1 163 32 = nI 0 := by rw [k1 163 (by decide), em1, upI_s]; rfl
    have kV : Vw mk T := hV.rd (fun a j hr => by
      by_cases e : a = 163
      · subst e
        refine kfr.2 j (fun z => ?_)
        subst z
        cases hr
      · unfold rdV at hr
        simp only [Bool.or_eq_true, Bool.and_eq_true, beq_iff_eq, bne_iff_ne, decide_eq_true_eq, ne_eq] at hr
        rw [kfr.1 a e (by omega) (by omega) (by omega)])
    have k185 : ∀ r, r < T 163 2 → mk.1 185 r = nI (HT T (T 181) r) := fun r hr => by
      rw [k1 185 (by decide), em1, upI_o _ _ _ _ _ (by decide), hst.1 185 (by decide) (by decide)]
      exact h185 r hr
    have k196 : ∀ x, B ≤ x → x < T 163 2 → mk.1 196 x = nI (TB T (HT T (T 181)) h B x).2.2 := fun x z1 z2 => by
      rw [k1 196 (by decide), em1, upI_o _ _ _ _ _ (by decide)]
      exact (hst.2.2 x (by omega) z2).1
    have e1R : m1.1 163 2 = nI (T 163 2) := by rw [em1, upI_n _ _ _ _ _ _ (Or.inr (by decide)), hmm, hV3.mR]
    rw [e1R, leI (by omega) (by omega)]
    refine ife (fun hge => ?_) (fun hlt => ⟨vI (by omega) (by decide), ?_⟩)
    · refine b_X7_pages_322 ?_
      unfold wp_X7_pages_322
      rw [kV.mR]
      refine ifs (nI_le hge (by omega)) (b_X7_pages_454 ?_)
      unfold wp_X7_pages_454
      rw [k32]
      exact ifn (nI_nle (by omega) (by omega)) (ifs (by decide) (ha hge mk kfr k32 k2))
    · have hlt' : B < T 163 2 := by omega
      have hlen := tbl_len (T := T) (H := HT T (T 181)) (h := h) (B := B) (T 163 2 - B) B
      have hTB : (TB T (HT T (T 181)) h B B).2.2 = (tbl T (HT T (T 181)) h B (T 163 2 - B) B).2.2 := rfl
      rw [clI B (by omega), k196 B (Nat.le_refl _) hlt', eq0I (by omega)]
      refine ife (fun z => hb hlt' z mk kfr k32 k2) (fun z => ?_)
      have hP : isP T (HT T (T 181)) h B B := ⟨Nat.le_refl _, hlt', Or.inl rfl, z⟩
      refine c_lay7 (m := mk) (b := T 181) kV hh hlt' hP k185 k196 (fun mz zf z32 zpg z193 => ?_) mk ⟨fun _ _ _ _ _ _ _ => rfl, fun _ _ => rfl⟩ k32
      refine hc hlt' hP mz ⟨fun a y1 y2 y3 y4 => ?_, fun j hj => ?_⟩ z32 zpg z193
      · rw [zf.1 a y1 (by omega) (by omega) (by omega) (by omega) (by omega)]; exact kfr.1 a y1 y2 y3 y4
      · rw [zf.2 j hj]; exact kfr.2 j hj
  rw [show (0 : Int32) = nI 0 from rfl]
  refine loop_up (Q := fun i => ∀ mk : vM, (∀ a, a ≠ 193 → mk.1 a = m1.1 a) → (∀ r, r < i → mk.1 193 r = -9) → J_X7_pages_280 (nI h) (nI B) (nI i) mk P) (n := 16) (fun mk k1 k2 => ?_) (fun i hi ih mk k1 k2 => ?_) 0 (by decide) m1 (fun _ _ => rfl) (fun r hr => absurd hr (Nat.not_lt_zero _))
  · refine b_X7_pages_280 ?_
    unfold wp_X7_pages_280
    have := h280 mk k1 k2
    rw [← k1 163 (by decide)] at this
    exact ifs (by decide) this
  · refine b_X7_pages_280 ?_
    unfold wp_X7_pages_280
    rw [clI i (by omega), ad1I]
    refine ifn (nI_ge (b := 16) hi (by decide)) ⟨vI hi (by decide), ?_⟩
    rintro m5 em5
    refine ih m5 (fun a z => by rw [em5, upI_o _ _ _ _ _ z]; exact k1 a z) (fun r hr => ?_)
    rw [em5]
    rcases Nat.lt_succ_iff_lt_or_eq.mp hr with q | q
    · rw [upI_n _ _ _ _ _ _ (Or.inr (by omega))]; exact k2 r q
    · subst q; rw [upI_s]
end PPAGES
