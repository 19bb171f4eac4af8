/-! the check's half of what is held, over a memory where the component has written already -/
def VwM (m : vM) (T : tT) : Prop := ∃ m0, Vw m0 T ∧ ∀ a, 163 ≤ a → m.1 a = m0.1 a
section VWM
variable {m m1 : vM} {T : tT}
theorem Vw.toM (h : Vw m T) : VwM m T := ⟨m, h, fun _ _ => rfl⟩
theorem Vw.toM' (h : Vw m T) (he : ∀ a, 163 ≤ a → m1.1 a = m.1 a) : VwM m1 T := ⟨m, h, he⟩
theorem VwM.E40 (h : VwM m T) : T 163 7 ≤ 40 := by obtain ⟨m0, h, -⟩ := h; exact h.E40
theorem VwM.R (h : VwM m T) : 1 ≤ T 163 2 ∧ T 163 2 ≤ 16 := by obtain ⟨m0, h, -⟩ := h; exact h.R
theorem VwM.C (h : VwM m T) : 1 ≤ T 163 3 ∧ T 163 3 ≤ 6 := by obtain ⟨m0, h, -⟩ := h; exact h.C
theorem VwM.cell (h : VwM m T) {k : Nat} (hk : k < T 163 7) : CellT T k := by obtain ⟨m0, h, -⟩ := h; exact h.cell hk
theorem VwM.mE (h : VwM m T) : m.1 163 7 = nI (T 163 7) := by obtain ⟨m0, h, he⟩ := h; rw [he 163 (by decide)]; exact h.mE
theorem VwM.mR (h : VwM m T) : m.1 163 2 = nI (T 163 2) := by obtain ⟨m0, h, he⟩ := h; rw [he 163 (by decide)]; exact h.mR
theorem VwM.mC (h : VwM m T) : m.1 163 3 = nI (T 163 3) := by obtain ⟨m0, h, he⟩ := h; rw [he 163 (by decide)]; exact h.mC
theorem VwM.mc (h : VwM m T) {k : Nat} (hk : k < T 163 7) : VCm m T k := by
  obtain ⟨m0, h, he⟩ := h
  have := h.mc hk
  unfold VCm at *
  rw [he 167 (by decide), he 168 (by decide), he 169 (by decide), he 170 (by decide), he 171 (by decide), he 172 (by decide), he 173 (by decide), he 174 (by decide), he 175 (by decide), he 176 (by decide)]
  exact this
theorem c_X7_liesOn' (hV : VwM m T) {k r c : Nat} (hk : k < T 163 7) (hr : r < 1000) (hc : c < 1000) {P : Int32 → vM → Prop} (h1 : onT T k r c → P 1 m) (h0 : ¬ onT T k r c → P 0 m) : wp_X7_liesOn (nI k) (nI r) (nI c) m P := by
  have h40 := hV.E40
  obtain ⟨d1, d2, d3, d4, d5, d6, d7, -⟩ := hV.cell hk
  obtain ⟨c0, c1, c2, c3, c4, c5, c6, c7, c8, c9⟩ := hV.mc hk
  have hR := hV.R
  have hC := hV.C
  have hv : vp_in (nI k) 40 := vI (by omega) (by omega)
  unfold wp_X7_liesOn
  unfold onT lies at h1 h0
  rw [clI k (by omega), c8, c1, c2, c3, c4, adI, adI, eq0I (by omega), ltI (a := r) (by omega) (by omega), leI (b := r) (by omega) (by omega), ltI (a := c) (by omega) (by omega), leI (b := c) (by omega) (by omega)]
  refine ⟨hv, fun a1 => ⟨hv, fun a2 => h0 (by omega), fun a2 => ⟨hv, hv, fun a3 => h0 (by omega), fun a3 => ⟨hv, fun a4 => h0 (by omega), fun a4 => ⟨hv, hv, fun a5 => h0 (by omega), fun a5 => h1 (by omega)⟩⟩⟩⟩, fun a1 => h0 (by omega)⟩
theorem c_X7_cellOn' (hV : VwM m T) {r c : Nat} (hr : r < 1000) (hc : c < 1000) {P : Int32 → vM → Prop} (hp : ∀ x, Lst (fun k => onT T k r c) (T 163 7) x → P x m) : EI_X7_cellOn (nI r) (nI c) m P := by
  have h40 := hV.E40
  refine f_X7_cellOn (b_X7_cellOn_0 ?_)
  unfold wp_X7_cellOn_0
  refine loop_up (Q := fun i => (∀ j, j < i → ¬ onT T j r c) → J_X7_cellOn_2 (nI r) (nI c) (nI i) m P) (n := T 163 7) ?_ (fun i hi ih => ?_) 0 (Nat.zero_le _) (fun j hj => absurd hj (Nat.not_lt_zero _))
  · intro hall
    refine b_X7_cellOn_2 ?_
    unfold wp_X7_cellOn_2
    rw [hV.mE]
    exact ⟨fun _ => hp _ (Or.inr ⟨hall, rfl⟩), fun h => absurd (nI_le (Nat.le_refl _) (by omega)) h⟩
  · intro hall
    refine b_X7_cellOn_2 ?_
    unfold wp_X7_cellOn_2
    rw [hV.mE, ad1I]
    refine ⟨fun h => absurd h (nI_ge hi (by omega)), fun _ => ?_⟩
    refine c_X7_liesOn' hV hi hr hc (fun ho => ⟨fun h => absurd h (by decide), fun _ => hp _ (Or.inl ⟨i, hi, ho, hall, rfl⟩)⟩) (fun ho => ⟨fun _ => ih (fun j hj => ?_), fun h => absurd rfl h⟩)
    rcases Nat.lt_succ_iff_lt_or_eq.mp hj with q | q
    · exact hall j q
    · subst q; exact ho
theorem seen_all' {r c h w k : Nat} (hV : VwM m T) (hk : k < T 163 7) (hh : 1 ≤ h) (hw : 1 ≤ w) : seen T r c w h 0 k ↔ (T 172 k = 0 ∧ ovl T k r c h w) := by
  obtain ⟨d1, d2, d3, d4, d5, d6, d7, -⟩ := hV.cell hk
  unfold seen onT lies ovl
  constructor
  · rintro ⟨r', c', z, ho⟩
    omega
  · rintro ⟨z, ho⟩
    refine ⟨T 168 k - r, T 169 k - c, by omega, z, ?_, ?_, ?_⟩
    · by_cases q : r ≤ T 168 k <;> omega
    · by_cases q : c ≤ T 169 k <;> omega
    · by_cases q : c ≤ T 169 k <;> omega
theorem c_X7_cell86' (hV : VwM m T) {x1 : Int32} {r c h w : Nat} (hr : r + h ≤ 16) (hc : c + w ≤ 6) (hh : 1 ≤ h) (hw : 1 ≤ w) {P : Int32 → vM → Prop}
    (hp : ∀ x, Lst (fun k => T 172 k = 0 ∧ ovl T k r c h w) (T 163 7) x → ∀ A B : Int32 → Prop, True → wp_X7_cell_86 x1 (nI r) (nI c) (nI h) (nI w) x (nI (r + h)) m P) : J_X7_cell_86 x1 (nI r) (nI c) (nI h) (nI w) (-9) (nI r) m P := by
  have h40 := hV.E40
  refine loop_up (Q := fun d => ∀ x, Lst (fun k => seen T r c w d 0 k) (T 163 7) x → J_X7_cell_86 x1 (nI r) (nI c) (nI h) (nI w) x (nI (r + d)) m P) (n := h) ?_ (fun d hd ih => ?_) 0 (Nat.zero_le _) (-9) (Or.inr ⟨fun k hk => ?_, rfl⟩)
  · intro x hx
    exact b_X7_cell_86 (hp x (hx.iff (fun k hk => seen_all' hV hk hh hw)) (fun _ => True) (fun _ => True) trivial)
  · intro x hx
    refine b_X7_cell_86 ?_
    unfold wp_X7_cell_86
    rw [adI]
    refine ifn (nI_ge (by omega) (by omega)) ?_
    refine loop_up (Q := fun e => ∀ x, Lst (fun k => seen T r c w d e k) (T 163 7) x → J_X7_cell_98 x1 (nI r) (nI c) (nI h) (nI w) x (nI (r + d)) (nI (c + e)) m P) (n := w) ?_ (fun e he ihe => ?_) 0 (Nat.zero_le _) x hx
    · intro y hy
      refine b_X7_cell_98 ?_
      unfold wp_X7_cell_98
      rw [adI, ad1I]
      refine ifs (nI_le (Nat.le_refl _) (by omega)) ?_
      exact ih y (hy.iff (fun k _ => seen_row))
    · intro y hy
      refine b_X7_cell_98 ?_
      unfold wp_X7_cell_98
      rw [adI]
      simp only [ad1I]
      refine ifn (nI_ge (by omega) (by omega)) ?_
      refine c_X7_cellOn' hV (by omega) (by omega) (fun v hv => ?_)
      obtain ⟨o1, o2⟩ := Lst.or (by omega) hy hv
      refine ife (fun e9 => ihe y ((o1 e9).iff (fun k _ => seen_col))) (fun e9 => ?_)
      obtain ⟨o3, o4⟩ := o2 e9
      refine ife (fun q9 => ihe v ((o3 q9).iff (fun k _ => seen_col))) (fun q9 => ?_)
      obtain ⟨o5, o6⟩ := o4 q9
      exact ife (fun z => ihe y ((o5 z).iff (fun k _ => seen_col))) (fun z => ihe v ((o6 z).iff (fun k _ => seen_col)))
  · unfold seen
    rintro ⟨r', c', z, _⟩
    omega
theorem mR1' (hV : VwM m T) : m.1 163 2 - 1 = nI (T 163 2 - 1) := by rw [hV.mR, show (1 : Int32) = nI 1 from rfl, sbI hV.R.1]
theorem mC1' (hV : VwM m T) : m.1 163 3 - 1 = nI (T 163 3 - 1) := by rw [hV.mC, show (1 : Int32) = nI 1 from rfl, sbI hV.C.1]
theorem w_colY' (hV : VwM m T) {x : Int32} {c : Nat} {P : Int32 → vM → Prop} (hc : c < T 163 3) (hx : x = nI c) (hp : P 1 m) : wp_X7_isColumn x m P := by
  have hC := hV.C
  unfold wp_X7_isColumn
  exact w_inY (lo := 0) rfl (mC1' hV) (by omega) (Nat.zero_le _) (by omega) hx ⟨by decide, hp⟩
theorem w_rowY' (hV : VwM m T) {x : Int32} {c : Nat} {P : Int32 → vM → Prop} (hc : c < T 163 2) (hx : x = nI c) (hp : P 1 m) : wp_X7_isRow x m P := by
  have hC := hV.R
  unfold wp_X7_isRow
  exact w_inY (lo := 0) rfl (mR1' hV) (by omega) (Nat.zero_le _) (by omega) hx ⟨by decide, hp⟩
theorem c_X7_cell_in (hV : VwM m T) {a r c h w : Nat} (ha : a ≤ 3) (hr : r < T 163 2) (hc : c < T 163 3) (hh : 1 ≤ h) (hh2 : h < 2 ^ 31) (hw : 1 ≤ w) (hw2 : w < 2 ^ 31) {P : Int32 → vM → Prop}
    (hfull : T 163 7 = 40 → P (-2) m) (hbey : T 163 7 < 40 → (T 163 2 < r + h ∨ T 163 3 < c + w) → P (-3) (meetM 2 m))
    (hin : T 163 7 < 40 → r + h ≤ T 163 2 → c + w ≤ T 163 3 → ∀ x, Lst (fun k => T 172 k = 0 ∧ ovl T k r c h w) (T 163 7) x → wp_X7_cell_86 (nI a) (nI r) (nI c) (nI h) (nI w) x (nI (r + h)) m P) : EI_X7_cell (nI a) (nI r) (nI c) (nI h) (nI w) m P := by
  have h40 := hV.E40
  have hR := hV.R
  have hC := hV.C
  refine f_X7_cell (b_X7_cell_0 ?_)
  unfold wp_X7_cell_0
  refine w_inY (lo := 0) (hi := 3) rfl rfl (by decide) (Nat.zero_le _) ha rfl (i1 (w_rowY' hV hr rfl (i1 (w_colY' hV hc rfl (i1 ?_)))))
  refine ifn (nlt1 hh hh2) (ifs (nI_le (a := 1) hw hw2) ?_)
  rw [hV.mE, show (40 : Int32) = nI 40 from rfl, eqI (by omega) (by omega), hV.mR, hV.mC, sbI (by omega), sbI (by omega), ltI (by omega) hh2, leI hw2 (by omega)]
  refine ife (fun e => hfull e) (fun e => ife (fun q => ?_) (fun q => ife (fun z => ?_) (fun z => ?_)))
  · exact w_meets (f := 2) rfl (by decide) (hbey (by omega) (by omega))
  · exact c_X7_cell86' hV (by omega) (by omega) hh hw (fun x hx _ _ _ => hin (by omega) (by omega) (by omega) x hx)
  · exact w_meets (f := 2) rfl (by decide) (hbey (by omega) (by omega))
theorem nine (x : Int32) {p : Nat → Prop} {n : Nat} (h : Lst p n x) : (x = -9 ∧ ∀ k, k < n → ¬ p k) ∨ (¬ x = -9 ∧ n < 2 ^ 31) ∨ 2 ^ 31 ≤ n := by
  rcases h with ⟨k, h1, h2, h3, rfl⟩ | ⟨h1, h2⟩
  · by_cases q : n < 2 ^ 31
    · exact Or.inr (Or.inl ⟨nI_m9 _ (by omega), q⟩)
    · exact Or.inr (Or.inr (by omega))
  · exact Or.inl ⟨h2, h1⟩
theorem c_X7_cell_bad (hV : Vw m T) {x1 x2 x3 x4 x5 : Int32} {P : Int32 → vM → Prop} (h : (∀ n, 0 ≤ n → n ≤ 3 → x1 ≠ nI n) ∨ ((∀ c, c < T 163 2 → x2 ≠ nI c) ∨ ∀ c, c < T 163 3 → x3 ≠ nI c) ∨ x4 < 1 ∨ x5 < 1) (hp : P (-1) m) : EI_X7_cell x1 x2 x3 x4 x5 m P := by
  refine f_X7_cell (b_X7_cell_0 ?_)
  unfold wp_X7_cell_0
  rcases num_cases x1 0 3 with ⟨n, g1, g2, rfl⟩ | g
  · refine w_inY (lo := 0) (hi := 3) rfl rfl (by decide) g1 g2 rfl (i1 ?_)
    rcases place2 T x2 x3 with g | ⟨r, c, hr, hc, rfl, rfl⟩
    · by_cases hx : ∃ c, c < T 163 2 ∧ x2 = nI c
      · obtain ⟨r, hr, e⟩ := hx
        refine w_rowY hV hr e (i1 (w_colN hV ?_ (i0 hp)))
        rcases g with g | g
        · exact absurd e (g r hr)
        · exact g
      · exact w_rowN hV (fun c hc e => hx ⟨c, hc, e⟩) (i0 hp)
    · refine w_rowY hV hr rfl (i1 (w_colY hV hc rfl (i1 ?_)))
      refine ife (fun _ => hp) (fun h4 => ife (fun h5 => ?_) (fun _ => hp))
      rcases h with h | (h | h) | h | h
      · exact absurd rfl (h n g1 g2)
      · exact absurd rfl (h r hr)
      · exact absurd rfl (h c hc)
      · exact absurd h h4
      · exact absurd h5 (lt1_not h)
  · exact w_inN (lo := 0) (hi := 3) rfl rfl (by decide) (by decide) g (i0 hp)
theorem pcX_fill (m : vM) (k : Nat) : ∃ f, fillA (fillA (upI m (cA k) 7 0) (cA k + 1) 12 1) (cA k + 2) 252 (-1) = pcX m k 0 f := ⟨_, rfl⟩
theorem pair_cell (x1 x2 x3 x4 x5 : Int32) : Pair (EI_X6_cell x1 x2 x3 x4 x5) (EI_X7_cell x1 x2 x3 x4 x5) := by
  rintro m ⟨T, hI⟩
  have hV := hI.1
  have h40 := hV.E40
  have hR := hV.R
  have hC := hV.C
  refine e_X6_cell ?_
  unfold wp_X6_cell
  rcases num_cases x1 0 3 with ⟨a, g1, ha, rfl⟩ | g
  · refine w_isY (lo := 0) (hi := 3) rfl rfl (by decide) g1 ha rfl (i1 ?_)
    rcases place2 T x2 x3 with g | ⟨r, c, hr, hc, rfl, rfl⟩
    · exact x_plN hV g (i0 (c_X7_cell_bad hV (Or.inr (Or.inl g)) ⟨rfl, hI.toI⟩))
    · refine x_plY hV hr hc rfl rfl (i1 ?_)
      rcases lt1 (x := x4) with h4 | ⟨h, hh, hh2, rfl⟩
      · exact ifs h4 (c_X7_cell_bad hV (Or.inr (Or.inr (Or.inl h4))) ⟨rfl, hI.toI⟩)
      · refine ifn (nlt1 hh hh2) ?_
        rcases lt1 (x := x5) with h5 | ⟨w, hw, hw2, rfl⟩
        · exact ifn (lt1_not h5) (c_X7_cell_bad hV (Or.inr (Or.inr (Or.inr h5))) ⟨rfl, hI.toI⟩)
        · refine ifs (nI_le (a := 1) hw hw2) ?_
          have hbey : T 163 7 < 40 → (T 163 2 < r + h ∨ T 163 3 < c + w) → wp_X6_tell 2 m (fun v m1 => EI_X7_cell (nI a) (nI r) (nI c) (nI h) (nI w) m1 (fun r2 m2 => r2 = v ∧ Inv m2)) := fun e z => by
            refine w_tell (f := 2) rfl (by decide) ?_
            exact c_X7_cell_in (tell_Vw hV).toM ha hr hc hh hh2 hw hw2 (fun q => absurd e (by omega)) (fun _ _ => ⟨rfl, (hI.both (by decide) (by decide)).toI⟩) (fun _ q1 q2 => by omega)
          rw [hV.xE, show (40 : Int32) = nI 40 from rfl, ltI (by omega) (by omega), hV.xR, hV.xC, sbI (by omega), sbI (by omega), ltI (by omega) hh2, leI hw2 (by omega)]
          refine ife (fun hE => ife (fun q => hbey hE (by omega)) (fun q => ife (fun z => ?_) (fun z => hbey hE (by omega)))) (fun hE => ?_)
          · refine c_X1_firstOn hV (by omega) (by omega) (by omega) (by omega) (fun x hx => ?_)
            rcases nine x hx with ⟨rfl, hno⟩ | ⟨hn9, -⟩ | hbig
            · refine ifs rfl ?_
              unfold wp_X1_add
              rw [hV.xE, show (40 : Int32) = nI 40 from rfl, leI (by omega) (by omega), clI _ (by omega)]
              refine ifn (by omega) ⟨vI (by omega) (by decide), vI (by omega) (by decide), ?_⟩
              unfold wp_X0_begin wp_X0_fill wp_X0_forgetLines
              rintro _ rfl _ rfl _ rfl _ rfl _ rfl _ rfl _ rfl _ rfl _ rfl _ rfl m9 em9 m10 em10
              have e13 : m9.1 1 3 = nI (T 163 7) := by
                rw [em9]
                have hk : ∀ j, j ≤ 2 → 1 ≠ cA (T 163 7) + j := fun j hj => by unfold cA; omega
                rw [fillA_o _ _ _ _ _ (hk 2 (by decide)), fillA_o _ _ _ _ _ (hk 1 (by decide))]
                repeat rw [upI_o _ _ _ _ _ (show 1 ≠ cA (T 163 7) from hk 0 (by decide))]
                exact hV.xE
              have em : ∃ f, m10 = newX m (T 163 7) a r c h w f := by
                obtain ⟨f, ef⟩ := pcX_fill (upI (upI (upI (upI (upI (upI (upI (upI m (cA (T 163 7)) 0 (nI a)) (cA (T 163 7)) 1 (nI r)) (cA (T 163 7)) 2 (nI c)) (cA (T 163 7)) 3 (nI h)) (cA (T 163 7)) 4 (nI w)) (cA (T 163 7)) 5 0) (cA (T 163 7)) 6 1) (cA (T 163 7)) 8 0) (T 163 7)
                refine ⟨f, ?_⟩
                rw [em10, e13, ad1I, em9, ef]
                rfl
              obtain ⟨f, em⟩ := em
              have hx5 : ∀ y, 163 ≤ y → m10.1 y = m.1 y := fun y hy => by
                rw [em]
                unfold newX
                rw [upI_o _ _ _ _ _ (by omega), pcX_o (by omega) (by omega)]
                repeat rw [upI_o _ _ _ _ _ (show y ≠ cA (T 163 7) by unfold cA; omega)]
              refine c_X7_cell_in (hV.toM' hx5) ha hr hc hh hh2 hw hw2 (fun q => absurd hE (by omega)) (fun _ q => by omega) (fun _ q1 q2 x hx' => ?_)
              obtain rfl : x = -9 := hx'.uniq hx
              unfold wp_X7_cell_86
              rw [adI]
              refine ifs (nI_le (Nat.le_refl _) (by omega)) (ifs rfl ?_)
              rintro v1 ev1
              rw [hx5 163 (by decide), hV.mE] at ev1
              subst ev1
              have hv : vp_in (nI (T 163 7)) 40 := vI (by omega) (by decide)
              rw [clI _ (by omega)]
              refine ⟨hv, ?_⟩
              rintro _ rfl
              refine ⟨hv, ?_⟩
              rintro _ rfl
              refine ⟨hv, ?_⟩
              rintro _ rfl
              refine ⟨hv, ?_⟩
              rintro _ rfl
              refine ⟨hv, ?_⟩
              rintro _ rfl
              refine ⟨hv, ?_⟩
              rintro _ rfl
              refine ⟨hv, ?_⟩
              rintro _ rfl
              refine ⟨hv, ?_⟩
              rintro _ rfl
              refine ⟨hv, ?_⟩
              rintro m19 em19 m20 em20
              have e19 : m19.1 163 7 = nI (T 163 7) := by
                rw [em19]
                repeat rw [upI_o _ _ _ _ _ (by decide)]
                rw [hx5 163 (by decide)]
                exact hV.mE
              have hfin := hI.add (f := f) hE ha q1 hh q2 hw hno
              have e20 : m20 = newM (newX m (T 163 7) a r c h w f) (T 163 7) a r c h w := by
                rw [em20, e19, ad1I, em19, em]
                rfl
              rw [← e20] at hfin
              refine ⟨?_, hfin.toI⟩
              rw [em10, upI_s, e13, show (1 : Int32) = nI 1 from rfl, adI, sbI (by omega)]
              rfl
            · refine ifn hn9 ?_
              rintro m11 em11
              refine w_tell (f := 6) rfl (by decide) ?_
              have hb : butO oF m (tellM 6 m11) := by rw [em11]; exact ((butO.rfl'.upI rfl).upI rfl).upI rfl
              have hV6 : Vw (tellM 6 m11) T := hV.but hb (fun a j hr => by
                unfold rdV at hr
                unfold oF
                simp only [Bool.or_eq_true, Bool.and_eq_true, beq_iff_eq, bne_iff_ne, decide_eq_true_eq, ne_eq] at hr
                simp only [Bool.or_eq_false_iff, Bool.and_eq_false_iff, beq_eq_false_iff_ne, ne_eq]
                omega)
              refine c_X7_cell_in hV6.toM ha hr hc hh hh2 hw hw2 (fun q => absurd hE (by omega)) (fun _ q => by omega) (fun _ q1 q2 y hy => ?_)
              obtain rfl : y = x := hy.uniq hx
              unfold wp_X7_cell_86
              rw [adI]
              refine ifs (nI_le (Nat.le_refl _) (by omega)) (ifn hn9 ?_)
              rintro m21 em21
              refine w_meets (f := 6) rfl (by decide) ⟨rfl, ?_⟩
              rw [em21, em11]
              exact (hI.clash (x := y)).toI
            · omega
          · exact c_X7_cell_in hV.toM ha hr hc hh hh2 hw hw2 (fun _ => ⟨rfl, hI.toI⟩) (fun q => absurd q hE) (fun q => absurd q hE)
  · exact w_isN (lo := 0) (hi := 3) rfl rfl (by decide) (by decide) g (i0 (c_X7_cell_bad hV (Or.inl g) ⟨rfl, hI.toI⟩))
end VWM
