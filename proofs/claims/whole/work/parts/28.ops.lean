/-! the ways in: a cell's number, a small number, and what is told when not -/
def tellM (f : Nat) (m : vM) : vM := upI (upI m 0 5 (nI f)) 162 f (m.1 162 f + 1)
def meetM (f : Nat) (m : vM) : vM := upI (upI m 163 0 (nI f)) 164 f (m.1 164 f + 1)
theorem w_tell {x : Int32} {f : Nat} {m : vM} {P : Int32 → vM → Prop} (hx : x = nI f) (hf : f ≤ 6) (hp : P (-3) (tellM f m)) : wp_X6_tell x m P := by
  subst hx
  unfold wp_X6_tell
  rintro _ rfl
  have hv : vp_in (nI f) 7 := vI (by omega) (by decide)
  rw [clI f (by omega), upI_o _ _ _ _ _ (by decide)]
  refine ⟨fun h => absurd h (nI_pos (by omega)), fun _ => ⟨fun h => absurd h (nI_ge (b := 7) (by omega) (by omega)), fun _ => ⟨hv, hv, ?_⟩⟩⟩
  rintro _ rfl
  exact hp
theorem w_meets {x : Int32} {f : Nat} {m : vM} {P : Int32 → vM → Prop} (hx : x = nI f) (hf : f ≤ 6) (hp : P (-3) (meetM f m)) : wp_X7_meets x m P := by
  subst hx
  unfold wp_X7_meets
  rintro _ rfl
  have hv : vp_in (nI f) 7 := vI (by omega) (by decide)
  rw [clI f (by omega), upI_o _ _ _ _ _ (by decide)]
  refine ⟨hv, hv, ?_⟩
  rintro _ rfl
  exact hp
def oF (a j : Nat) : Bool := (a == 0 && (j == 5 || j == 6)) || a == 162 || (a == 163 && (j == 0 || j == 18)) || a == 164
theorem butO.fnd {m m1 : vM} {T : tT} (h : InvT m T) (hb : butO oF m m1) (hK : CK m1 T) (hM : Ms m1) : InvT m1 T := by
  obtain ⟨h1, h2, ⟨a1, a2, a3, a4⟩, h4, ⟨b1, b2, b3, b4, b5⟩⟩ := h
  have hV : Vw m1 T := h1.but hb (fun a j hr => by
    unfold rdV at hr
    unfold oF
    simp only [Bool.or_eq_true, Bool.and_eq_true, beq_iff_eq, bne_iff_ne, decide_eq_true_eq, ne_eq] at hr
    simp only [Bool.or_eq_false_iff, Bool.and_eq_false_iff, beq_eq_false_iff_ne, ne_eq]
    omega)
  have hr : ∀ a j, 130 ≤ a → a < 162 ∨ 181 ≤ a → scr a j = false → m1.1 a j = m.1 a j := fun a j h5 h6 hs => hb a j (by
    unfold oF
    simp only [Bool.or_eq_false_iff, Bool.and_eq_false_iff, beq_eq_false_iff_ne, ne_eq]
    omega) hs
  refine ⟨hV, hK, hM, fun c hc => ?_, ⟨(hr _ _ (by decide) (by decide) rfl).trans b1, (hb 163 32 rfl rfl).trans b2, b3, fun p hp => ?_, fun r hr' => ?_⟩⟩
  · rw [hr 130 c (by decide) (by decide) rfl, hr 181 c (by decide) (by decide) rfl]; exact h4 c hc
  · have := b4 p hp
    rw [hr _ 0 (by omega) (by omega) (scr_F (by omega)), hr _ 1 (by omega) (by omega) (scr_F (by omega)), hr _ 2 (by omega) (by omega) (scr_F (by omega)), hr _ 3 (by omega) (by omega) (scr_F (by omega)), hr 189 p (by decide) (by decide) rfl, hr 190 p (by decide) (by decide) rfl, hr 191 p (by decide) (by decide) rfl, hr 192 p (by decide) (by decide) rfl]
    exact this
  · rw [hr 193 r (by decide) (by decide) rfl]; exact b5 r hr'
theorem InvT.both {m : vM} {T : tT} {f : Nat} (h : InvT m T) (h1 : 1 ≤ f) (h6 : f ≤ 6) : InvT (meetM f (tellM f m)) T := by
  have hE := h.1.E40
  refine butO.fnd h ?_ ?_ ?_
  · exact (((butO.rfl'.upI rfl).upI rfl).upI rfl).upI rfl
  · exact (((h.2.1.upI hE (by omega)).upI hE (by omega)).upI hE (by omega)).upI hE (by omega)
  · obtain ⟨a1, a2, a3, a4⟩ := h.2.2.1
    unfold meetM tellM
    refine ⟨?_, fun g x y => ?_, ?_, ?_⟩
    · rw [upI_o _ _ _ _ _ (by decide), upI_o _ _ _ _ _ (by decide), upI_o _ _ _ _ _ (by decide), upI_s, upI_o _ _ _ _ _ (by decide), upI_s]
    · have e := a2 g x y
      have e164 : (upI (upI m 0 5 (nI f)) 162 f (m.1 162 f + 1)).1 164 = m.1 164 := by rw [upI_o _ _ _ _ _ (by decide), upI_o _ _ _ _ _ (by decide)]
      rw [upI_o _ _ _ _ _ (by decide), upI_o _ _ _ _ _ (by decide), e164]
      by_cases hg : g = f
      · subst hg
        rw [upI_s, upI_s, e]
      · rw [upI_n _ _ _ _ _ _ (Or.inr hg), upI_n _ _ _ _ _ _ (Or.inr hg), upI_o _ _ _ _ _ (by decide), upI_o _ _ _ _ _ (by decide), upI_o _ _ _ _ _ (by decide), e, upI_o _ _ _ _ _ (by decide)]
    · rw [upI_o _ _ _ _ _ (by decide), upI_o _ _ _ _ _ (by decide), upI_o _ _ _ _ _ (by decide), upI_n _ _ _ _ _ _ (Or.inr (by decide)), upI_o _ _ _ _ _ (by decide), upI_n _ _ _ _ _ _ (Or.inr (by decide)), upI_o _ _ _ _ _ (by decide), upI_o _ _ _ _ _ (by decide), a3]
    · rw [upI_o _ _ _ _ _ (by decide), upI_o _ _ _ _ _ (by decide), upI_o _ _ _ _ _ (by decide), upI_n _ _ _ _ _ _ (Or.inr (by decide)), upI_o _ _ _ _ _ (by decide), upI_n _ _ _ _ _ _ (Or.inr (by decide)), upI_o _ _ _ _ _ (by decide), upI_o _ _ _ _ _ (by decide), a4]
theorem i1 {A B : Prop} (h : B) : ((1 : Int32) = 0 → A) ∧ (¬ (1 : Int32) = 0 → B) := ⟨fun e => absurd e (by decide), fun _ => h⟩
theorem i0 {A B : Prop} (h : A) : ((0 : Int32) = 0 → A) ∧ (¬ (0 : Int32) = 0 → B) := ⟨fun _ => h, fun e => absurd rfl e⟩
theorem num_cases (x : Int32) (lo hi : Nat) : (∃ n, lo ≤ n ∧ n ≤ hi ∧ x = nI n) ∨ ∀ n, lo ≤ n → n ≤ hi → x ≠ nI n := by
  by_cases h : ∃ n, lo ≤ n ∧ n ≤ hi ∧ x = nI n
  · exact Or.inl h
  · exact Or.inr (fun n h1 h2 e => h ⟨n, h1, h2, e⟩)
theorem w_isY {x a b : Int32} {lo hi n : Nat} {m : vM} {P : Int32 → vM → Prop} (ha : a = nI lo) (hb : b = nI hi) (hh : hi < 2 ^ 31) (h1 : lo ≤ n) (h2 : n ≤ hi) (hx : x = nI n) (hp : P 1 m) : wp_X6_isWithin x a b m P := w_isWithin ha hb (by omega) hh (fun _ _ _ _ => hp) (fun h => absurd hx (h n h1 h2))
theorem w_isN {x a b : Int32} {lo hi : Nat} {m : vM} {P : Int32 → vM → Prop} (ha : a = nI lo) (hb : b = nI hi) (hl : lo < 2 ^ 31) (hh : hi < 2 ^ 31) (hx : ∀ n, lo ≤ n → n ≤ hi → x ≠ nI n) (hp : P 0 m) : wp_X6_isWithin x a b m P := w_isWithin ha hb hl hh (fun n h1 h2 e => absurd e (hx n h1 h2)) (fun _ => hp)
theorem w_inY {x a b : Int32} {lo hi n : Nat} {m : vM} {P : Int32 → vM → Prop} (ha : a = nI lo) (hb : b = nI hi) (hh : hi < 2 ^ 31) (h1 : lo ≤ n) (h2 : n ≤ hi) (hx : x = nI n) (hp : P 1 m) : wp_X7_in x a b m P := w_in ha hb (by omega) hh (fun _ _ _ _ => hp) (fun h => absurd hx (h n h1 h2))
theorem w_inN {x a b : Int32} {lo hi : Nat} {m : vM} {P : Int32 → vM → Prop} (ha : a = nI lo) (hb : b = nI hi) (hl : lo < 2 ^ 31) (hh : hi < 2 ^ 31) (hx : ∀ n, lo ≤ n → n ≤ hi → x ≠ nI n) (hp : P 0 m) : wp_X7_in x a b m P := w_in ha hb hl hh (fun n h1 h2 e => absurd e (hx n h1 h2)) (fun _ => hp)

section OPS
variable {m : vM} {T : tT}
theorem w_numY (hV : Vw m T) {x : Int32} {k : Nat} {P : Option Nat → vM → Prop} (hk : k < T 163 7) (hx : x = nI k) (hp : P (some k) m) : wp_X1_numbered x m P := by
  subst hx
  exact c_X1_numbered hV hk hp
theorem w_numN (hV : Vw m T) {x : Int32} {P : Option Nat → vM → Prop} (hx : ∀ k, k < T 163 7 → x ≠ nI k) (hp : P none m) : wp_X1_numbered x m P := by
  have h40 := hV.E40
  unfold wp_X1_numbered
  refine ⟨fun _ => hp, fun h0 => ?_⟩
  obtain ⟨j, hj, rfl⟩ := nI_of h0
  rw [hV.xE]
  refine ⟨fun _ => hp, fun h => ?_⟩
  rw [leI (by omega) hj] at h
  exact absurd rfl (hx j (by omega))
theorem cE1 (hV : Vw m T) : m.1 163 7 - 1 = nI (T 163 7 - 1) ∨ T 163 7 = 0 := by
  rcases Nat.eq_zero_or_pos (T 163 7) with h | h
  · exact Or.inr h
  · left
    rw [hV.mE, show (1 : Int32) = nI 1 from rfl, sbI h]
theorem xR1 (hV : Vw m T) : m.1 1 0 - 1 = nI (T 163 2 - 1) := by rw [hV.xR, show (1 : Int32) = nI 1 from rfl, sbI hV.R.1]
theorem xC1 (hV : Vw m T) : m.1 1 1 - 1 = nI (T 163 3 - 1) := by rw [hV.xC, show (1 : Int32) = nI 1 from rfl, sbI hV.C.1]
theorem mR1 (hV : Vw m T) : m.1 163 2 - 1 = nI (T 163 2 - 1) := by rw [hV.mR, show (1 : Int32) = nI 1 from rfl, sbI hV.R.1]
theorem mC1 (hV : Vw m T) : m.1 163 3 - 1 = nI (T 163 3 - 1) := by rw [hV.mC, show (1 : Int32) = nI 1 from rfl, sbI hV.C.1]
theorem w_colY (hV : Vw m T) {x : Int32} {c : Nat} {P : Int32 → vM → Prop} (hc : c < T 163 3) (hx : x = nI c) (hp : P 1 m) : wp_X7_isColumn x m P := by
  have hC := hV.C
  unfold wp_X7_isColumn
  exact w_inY (lo := 0) rfl (mC1 hV) (by omega) (Nat.zero_le _) (by omega) hx ⟨by decide, hp⟩
theorem w_colN (hV : Vw m T) {x : Int32} {P : Int32 → vM → Prop} (hx : ∀ c, c < T 163 3 → x ≠ nI c) (hp : P 0 m) : wp_X7_isColumn x m P := by
  have hC := hV.C
  unfold wp_X7_isColumn
  exact w_inN (lo := 0) rfl (mC1 hV) (by omega) (by omega) (fun n _ h2 => hx n (by omega)) ⟨by decide, hp⟩
theorem w_rowY (hV : Vw m T) {x : Int32} {c : Nat} {P : Int32 → vM → Prop} (hc : c < T 163 2) (hx : x = nI c) (hp : P 1 m) : wp_X7_isRow x m P := by
  have hC := hV.R
  unfold wp_X7_isRow
  exact w_inY (lo := 0) rfl (mR1 hV) (by omega) (Nat.zero_le _) (by omega) hx ⟨by decide, hp⟩
theorem w_rowN (hV : Vw m T) {x : Int32} {P : Int32 → vM → Prop} (hx : ∀ c, c < T 163 2 → x ≠ nI c) (hp : P 0 m) : wp_X7_isRow x m P := by
  have hC := hV.R
  unfold wp_X7_isRow
  exact w_inN (lo := 0) rfl (mR1 hV) (by omega) (by omega) (fun n _ h2 => hx n (by omega)) ⟨by decide, hp⟩
theorem x_colY (hV : Vw m T) {x : Int32} {c : Nat} {P : Int32 → vM → Prop} (hc : c < T 163 3) (hx : x = nI c) (hp : P 1 m) : wp_X6_isWithin x 0 (m.1 1 1 - 1) m P := by
  have hC := hV.C
  exact w_isY (lo := 0) rfl (xC1 hV) (by omega) (Nat.zero_le _) (by omega) hx hp
theorem x_colN (hV : Vw m T) {x : Int32} {P : Int32 → vM → Prop} (hx : ∀ c, c < T 163 3 → x ≠ nI c) (hp : P 0 m) : wp_X6_isWithin x 0 (m.1 1 1 - 1) m P := by
  have hC := hV.C
  exact w_isN (lo := 0) rfl (xC1 hV) (by omega) (by omega) (fun n _ h2 => hx n (by omega)) hp
theorem x_rowY (hV : Vw m T) {x : Int32} {c : Nat} {P : Int32 → vM → Prop} (hc : c < T 163 2) (hx : x = nI c) (hp : P 1 m) : wp_X6_isWithin x 0 (m.1 1 0 - 1) m P := by
  have hC := hV.R
  exact w_isY (lo := 0) rfl (xR1 hV) (by omega) (Nat.zero_le _) (by omega) hx hp
theorem x_rowN (hV : Vw m T) {x : Int32} {P : Int32 → vM → Prop} (hx : ∀ c, c < T 163 2 → x ≠ nI c) (hp : P 0 m) : wp_X6_isWithin x 0 (m.1 1 0 - 1) m P := by
  have hC := hV.R
  exact w_isN (lo := 0) rfl (xR1 hV) (by omega) (by omega) (fun n _ h2 => hx n (by omega)) hp
theorem w_cellY (hV : Vw m T) {x : Int32} {k : Nat} {P : Int32 → vM → Prop} (hk : k < T 163 7) (hx : x = nI k) (hp : P 1 m) : wp_X7_isCell x m P := by
  have h40 := hV.E40
  unfold wp_X7_isCell
  rcases cE1 hV with h | h
  · exact w_inY (lo := 0) rfl h (by omega) (Nat.zero_le _) (by omega) hx ⟨by decide, hp⟩
  · omega
theorem w_cellN (hV : Vw m T) {x : Int32} {P : Int32 → vM → Prop} (hx : ∀ k, k < T 163 7 → x ≠ nI k) (hp : P 0 m) : wp_X7_isCell x m P := by
  have h40 := hV.E40
  unfold wp_X7_isCell
  rcases Nat.eq_zero_or_pos (T 163 7) with h | h
  · unfold wp_X7_in
    rw [hV.mE, h, show nI 0 - 1 = (-1 : Int32) from rfl]
    refine ⟨fun _ => ⟨by decide, hp⟩, fun h0 => ⟨fun _ => ⟨by decide, hp⟩, fun h1 => ?_⟩⟩
    rw [Int32.lt_iff_toInt_lt, Int32.toInt_zero] at h0
    rw [Int32.lt_iff_toInt_lt, show (-1 : Int32).toInt = -1 from rfl] at h1
    omega
  · have h2 : m.1 163 7 - 1 = nI (T 163 7 - 1) := by
      rw [hV.mE, show (1 : Int32) = nI 1 from rfl, sbI h]
    exact w_inN (lo := 0) rfl h2 (by omega) (by omega) (fun n _ h2 => hx n (by omega)) ⟨by decide, hp⟩
theorem need_N (hV : Vw m T) {f x : Int32} {P : Int32 → vM → Prop} (hx : f = 0 ∨ ∀ k, k < T 163 7 → x ≠ nI k) (hp : P (-1) m) : wp_X7_need f x m P := by
  unfold wp_X7_need
  rcases hx with hx | hx
  · rcases num_cases x 0 (T 163 7 - 1) with ⟨k, _, hk, e⟩ | h
    · rcases Nat.eq_zero_or_pos (T 163 7) with h0 | h0
      · exact w_cellN hV (fun k hk => absurd hk (by omega)) (i0 hp)
      · exact w_cellY hV (k := k) (by omega) e (i1 ⟨fun _ => hp, fun h => absurd hx h⟩)
    · exact w_cellN hV (fun k hk => h k (Nat.zero_le _) (by omega)) (i0 hp)
  · exact w_cellN hV hx (i0 hp)
theorem need_D (hV : Vw m T) {x : Int32} {k : Nat} {P : Int32 → vM → Prop} (hk : k < T 163 7) (hx : x = nI k) (hd : ¬ T 172 k = 0) (hp : P (-3) (meetM 1 m)) : wp_X7_need 1 x m P := by
  have h40 := hV.E40
  obtain ⟨c0, c1, c2, c3, c4, c5, c6, c7, c8, c9⟩ := hV.mc hk
  obtain ⟨d1, d2, d3, d4, d5, d6, d7, -⟩ := hV.cell hk
  unfold wp_X7_need
  subst hx
  refine w_cellY hV hk rfl (i1 (i1 ⟨vI (by omega) (by omega), ?_⟩))
  rw [clI k (by omega), c8, eq0I (by omega)]
  exact ⟨fun h => absurd h hd, fun _ => w_meets (f := 1) rfl (by omega) hp⟩
theorem need_Y (hV : Vw m T) {x : Int32} {k : Nat} {P : Int32 → vM → Prop} (hk : k < T 163 7) (hx : x = nI k) (hd : T 172 k = 0) (hp : P 0 m) : wp_X7_need 1 x m P := by
  have h40 := hV.E40
  obtain ⟨c0, c1, c2, c3, c4, c5, c6, c7, c8, c9⟩ := hV.mc hk
  unfold wp_X7_need
  subst hx
  refine w_cellY hV hk rfl (i1 (i1 ⟨vI (by omega) (by omega), ?_⟩))
  rw [clI k (by omega), c8, hd]
  exact ⟨fun _ => hp, fun h => absurd rfl h⟩
/-- one of three: not such a cell or number, a dropped one, a good one -/
theorem cell3 (T : tT) (x y : Int32) (lo hi : Nat) : ((∀ k, k < T 163 7 → x ≠ nI k) ∨ (∀ n, lo ≤ n → n ≤ hi → y ≠ nI n)) ∨ ∃ k n, k < T 163 7 ∧ (lo ≤ n ∧ n ≤ hi) ∧ x = nI k ∧ y = nI n := by
  rcases num_cases y lo hi with ⟨n, h1, h2, e⟩ | h
  · by_cases hk : ∃ k, k < T 163 7 ∧ x = nI k
    · obtain ⟨k, h3, e3⟩ := hk
      exact Or.inr ⟨k, n, h3, ⟨h1, h2⟩, e3, e⟩
    · exact Or.inl (Or.inl (fun k h3 e3 => hk ⟨k, h3, e3⟩))
  · exact Or.inl (Or.inr h)
theorem X_bad (hV : Vw m T) {x y a b : Int32} {lo hi : Nat} {B : Nat → vM → Prop} {Q : vM → Prop} (ha : a = nI lo) (hb : b = nI hi) (hl : lo < 2 ^ 31) (hh : hi < 2 ^ 31) (h : (∀ k, k < T 163 7 → x ≠ nI k) ∨ (∀ n, lo ≤ n → n ≤ hi → y ≠ nI n)) (hp : Q m) :
    wp_X1_numbered x m (fun o m1 => (o = none → Q m1) ∧ ∀ i2 : Nat, i2 < 40 → o = some i2 → wp_X6_isWithin y a b m1 (fun r5 m4 => (r5 = 0 → Q m4) ∧ (¬ r5 = 0 → B i2 m4))) := by
  by_cases hk : ∃ k, k < T 163 7 ∧ x = nI k
  · obtain ⟨k, hk, e⟩ := hk
    refine w_numY hV hk e ⟨fun q => (Option.some_ne_none _ q).elim, fun i2 _ q => ?_⟩
    rcases h with h | h
    · exact absurd e (h k hk)
    · exact w_isN ha hb hl hh h (i0 hp)
  · exact w_numN hV (fun k h1 e => hk ⟨k, h1, e⟩) ⟨fun _ => hp, fun _ _ q => (Option.some_ne_none _ q.symm).elim⟩
theorem X_cell (hV : Vw m T) {x y a b : Int32} {lo hi k n : Nat} {B : Nat → vM → Prop} {Q : vM → Prop} (ha : a = nI lo) (hb : b = nI hi) (hh : hi < 2 ^ 31) (hk : k < T 163 7) (hn : lo ≤ n ∧ n ≤ hi) (hx : x = nI k) (hy : y = nI n) (hp : B k m) :
    wp_X1_numbered x m (fun o m1 => (o = none → Q m1) ∧ ∀ i2 : Nat, i2 < 40 → o = some i2 → wp_X6_isWithin y a b m1 (fun r5 m4 => (r5 = 0 → Q m4) ∧ (¬ r5 = 0 → B i2 m4))) := by
  refine w_numY hV hk hx ⟨fun q => (Option.some_ne_none _ q).elim, fun i2 _ q => ?_⟩
  obtain rfl := Option.some.inj q
  exact w_isY ha hb hh hn.1 hn.2 hy (i1 hp)
theorem X_drop (hV : Vw m T) {k : Nat} (hk : k < T 163 7) (hd : ¬ T 172 k = 0) {A : Prop} {P : Int32 → vM → Prop} (hp : P (-3) (tellM 1 m)) : (m.1 (cA k) 8 = 0 → A) ∧ (¬ m.1 (cA k) 8 = 0 → wp_X6_tell 1 m P) := by
  obtain ⟨c0, c1, c2, c3, c4, c5, c6, c7, c8, c9⟩ := hV.xc hk
  obtain ⟨d1, d2, d3, d4, d5, d6, d7, -⟩ := hV.cell hk
  rw [c8, eq0I (by omega)]
  exact ⟨fun h => absurd h hd, fun _ => w_tell (f := 1) rfl (by omega) hp⟩
theorem X_pres (hV : Vw m T) {k : Nat} (hk : k < T 163 7) (hd : T 172 k = 0) {A B : Prop} (hp : A) : (m.1 (cA k) 8 = 0 → A) ∧ (¬ m.1 (cA k) 8 = 0 → B) := by
  obtain ⟨c0, c1, c2, c3, c4, c5, c6, c7, c8, c9⟩ := hV.xc hk
  rw [c8, hd]
  exact ⟨fun _ => hp, fun h => absurd rfl h⟩
theorem M_bad (hV : Vw m T) {x y a b : Int32} {lo hi : Nat} {B : vM → Prop} {P : Int32 → vM → Prop} (ha : a = nI lo) (hb : b = nI hi) (hl : lo < 2 ^ 31) (hh : hi < 2 ^ 31) (h : (∀ k, k < T 163 7 → x ≠ nI k) ∨ (∀ n, lo ≤ n → n ≤ hi → y ≠ nI n)) (hp : P (-1) m) :
    wp_X7_in y a b m (fun r2 m1 => wp_X7_need r2 x m1 (fun r4 m3 => (0 ≤ r4 → B m3) ∧ (¬ 0 ≤ r4 → P r4 m3))) := by
  have he : ∀ f : Int32, (f = 0 ∨ ∀ k, k < T 163 7 → x ≠ nI k) → wp_X7_need f x m (fun r4 m3 => (0 ≤ r4 → B m3) ∧ (¬ 0 ≤ r4 → P r4 m3)) := fun f hf => need_N hV hf ⟨fun h => absurd h (by decide), fun _ => hp⟩
  rcases num_cases y lo hi with ⟨n, h1, h2, e⟩ | hy
  · refine w_inY ha hb hh h1 h2 e (he 1 ?_)
    rcases h with h | h
    · exact Or.inr h
    · exact absurd e (h n h1 h2)
  · exact w_inN ha hb hl hh hy (he 0 (Or.inl rfl))
theorem M_drop (hV : Vw m T) {x y a b : Int32} {lo hi k n : Nat} {B : vM → Prop} {P : Int32 → vM → Prop} (ha : a = nI lo) (hb : b = nI hi) (hh : hi < 2 ^ 31) (hk : k < T 163 7) (hn : lo ≤ n ∧ n ≤ hi) (hx : x = nI k) (hy : y = nI n) (hd : ¬ T 172 k = 0) (hp : P (-3) (meetM 1 m)) :
    wp_X7_in y a b m (fun r2 m1 => wp_X7_need r2 x m1 (fun r4 m3 => (0 ≤ r4 → B m3) ∧ (¬ 0 ≤ r4 → P r4 m3))) :=
  w_inY ha hb hh hn.1 hn.2 hy (need_D hV hk hx hd ⟨fun h => absurd h (by decide), fun _ => hp⟩)
theorem M_cell (hV : Vw m T) {x y a b : Int32} {lo hi k n : Nat} {B : vM → Prop} {P : Int32 → vM → Prop} (ha : a = nI lo) (hb : b = nI hi) (hh : hi < 2 ^ 31) (hk : k < T 163 7) (hn : lo ≤ n ∧ n ≤ hi) (hx : x = nI k) (hy : y = nI n) (hd : T 172 k = 0) (hp : B m) :
    wp_X7_in y a b m (fun r2 m1 => wp_X7_need r2 x m1 (fun r4 m3 => (0 ≤ r4 → B m3) ∧ (¬ 0 ≤ r4 → P r4 m3))) :=
  w_inY ha hb hh hn.1 hn.2 hy (need_Y hV hk hx hd ⟨fun _ => hp, fun h => absurd (by decide) h⟩)
theorem tell_Vw (hV : Vw m T) {f : Nat} : Vw (tellM f m) T := by
  have hb : butO oF m (tellM f m) := (butO.rfl'.upI rfl).upI rfl
  exact hV.but hb (fun a j hr => by
    unfold rdV at hr
    unfold oF
    simp only [Bool.or_eq_true, Bool.and_eq_true, beq_iff_eq, bne_iff_ne, decide_eq_true_eq, ne_eq] at hr
    simp only [Bool.or_eq_false_iff, Bool.and_eq_false_iff, beq_eq_false_iff_ne, ne_eq]
    omega)
end OPS
