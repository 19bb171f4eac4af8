/-! places, heads, breaks, homes, spans: both sides -/
def Lst (p : Nat → Prop) (n : Nat) (x : Int32) : Prop := (∃ k, k < n ∧ p k ∧ (∀ j, j < k → ¬ p j) ∧ x = nI k) ∨ ((∀ k, k < n → ¬ p k) ∧ x = -9)
def lies (T : tT) (k r : Nat) : Prop := T 168 k ≤ r ∧ r < T 168 k + T 170 k
def onT (T : tT) (k r c : Nat) : Prop := T 172 k = 0 ∧ lies T k r ∧ T 169 k ≤ c ∧ c < T 169 k + T 171 k
def hdT (T : tT) (r : Nat) : Prop := ∃ k, k < T 163 7 ∧ T 172 k = 0 ∧ T 167 k = 1 ∧ lies T k r
def HeadN (T : tT) (h : Nat) : Prop := h ≤ T 163 2 ∧ (∀ r, r < h → hdT T r) ∧ (h < T 163 2 → ¬ hdT T h)
def brk (T : tT) (h row : Nat) : Prop := h < row ∧ ∀ k, k < T 163 7 → T 172 k = 0 → T 167 k ≠ 3 → lies T k row → lies T k (row - 1) → False
abbrev cbT (T : tT) (k q : Nat) : Prop := ((nI (T 175 k) >>> (nI q &&& 31)) &&& 1) = 1
def callF (T : tT) (q : Nat) : Nat → Option Nat
  | 0 => none
  | j + 1 => if T 172 j = 0 ∧ cbT T j q then (match callF T q j with | none => some (T 168 j) | some r => some (if r ≤ T 168 j then r else T 168 j)) else callF T q j
def encO : Option Nat → Int32
  | none => -9
  | some r => nI r
theorem nI_m9 (n : Nat) (h : n < 2 ^ 31) : ¬ nI n = -9 := by
  intro e
  have h1 := nI_toInt h
  rw [e] at h1
  have h2 : ((-9 : Int32)).toInt = -9 := by decide
  omega
theorem HeadN.uniq {T : tT} {h h' : Nat} (a : HeadN T h) (b : HeadN T h') : h = h' := by
  rcases Nat.lt_trichotomy h h' with q | q | q
  · exact absurd (b.2.1 h q) (a.2.2 (by have := b.1; omega))
  · exact q
  · exact absurd (a.2.1 h' q) (b.2.2 (by have := a.1; omega))
theorem Lst.iff {p q : Nat → Prop} {n : Nat} {x : Int32} (h : Lst p n x) (e : ∀ k, k < n → (p k ↔ q k)) : Lst q n x := by
  rcases h with ⟨k, h1, h2, h3, h4⟩ | ⟨h1, h2⟩
  · exact Or.inl ⟨k, h1, (e k h1).mp h2, fun j hj hq => h3 j hj ((e j (by omega)).mpr hq), h4⟩
  · exact Or.inr ⟨fun k hk hq => h1 k hk ((e k hk).mpr hq), h2⟩
theorem Lst.uniq {p : Nat → Prop} {n : Nat} {x y : Int32} (h : Lst p n x) (h' : Lst p n y) : x = y := by
  rcases h with ⟨k, h1, h2, h3, h4⟩ | ⟨h1, h2⟩ <;> rcases h' with ⟨j, g1, g2, g3, g4⟩ | ⟨g1, g2⟩
  · rcases Nat.lt_trichotomy k j with q | q | q
    · exact absurd h2 (g3 k q)
    · rw [h4, g4, q]
    · exact absurd g2 (h3 j q)
  · exact absurd h2 (g1 k h1)
  · exact absurd g2 (h1 j g1)
  · rw [h2, g2]
theorem Lst.ex (p : Nat → Prop) (n : Nat) : ∃ x, Lst p n x := by
  by_cases h : ∃ k, k < n ∧ p k
  · obtain ⟨k, hk, hm⟩ := pk_least (fun k => k < n ∧ p k) h
    exact ⟨nI k, Or.inl ⟨k, hk.1, hk.2, fun j hj hp => hm j hj ⟨by omega, hp⟩, rfl⟩⟩
  · exact ⟨-9, Or.inr ⟨fun k hk hp => h ⟨k, hk, hp⟩, rfl⟩⟩
section CG
variable {m : vM} {T : tT}
theorem c_X7_liesOn (hV : Vw m T) {k r c : Nat} (hk : k < T 163 7) (hr : r < 1000) (hc : c < 1000) {P : Int32 → vM → Prop} (h1 : onT T k r c → P 1 m) (h0 : ¬ onT T k r c → P 0 m) : wp_X7_liesOn (nI k) (nI r) (nI c) m P := by
  have h40 := hV.E40
  obtain ⟨d1, d2, d3, d4, d5, d6, d7, -⟩ := hV.cell hk
  obtain ⟨c0, c1, c2, c3, c4, c5, c6, c7, c8, c9⟩ := hV.mc hk
  have hR := hV.R
  have hC := hV.C
  have hv : vp_in (nI k) 40 := vI (by omega) (by omega)
  unfold wp_X7_liesOn
  unfold onT lies at h1 h0
  rw [clI k (by omega), c8, c1, c2, c3, c4, adI, adI, eq0I (by omega), ltI (a := r) (by omega) (by omega), leI (b := r) (by omega) (by omega), ltI (a := c) (by omega) (by omega), leI (b := c) (by omega) (by omega)]
  refine ⟨hv, fun a1 => ⟨hv, fun a2 => h0 (by omega), fun a2 => ⟨hv, hv, fun a3 => h0 (by omega), fun a3 => ⟨hv, fun a4 => h0 (by omega), fun a4 => ⟨hv, hv, fun a5 => h0 (by omega), fun a5 => h1 (by omega)⟩⟩⟩⟩, fun a1 => h0 (by omega)⟩
theorem c_X7_cellOn (hV : Vw m T) {r c : Nat} (hr : r < 1000) (hc : c < 1000) {P : Int32 → vM → Prop} (hp : ∀ x, Lst (fun k => onT T k r c) (T 163 7) x → P x m) : EI_X7_cellOn (nI r) (nI c) m P := by
  have h40 := hV.E40
  refine f_X7_cellOn (b_X7_cellOn_0 ?_)
  unfold wp_X7_cellOn_0
  refine loop_up (Q := fun i => (∀ j, j < i → ¬ onT T j r c) → J_X7_cellOn_2 (nI r) (nI c) (nI i) m P) (n := T 163 7) ?_ (fun i hi ih => ?_) 0 (Nat.zero_le _) (fun j hj => absurd hj (Nat.not_lt_zero _))
  · intro hall
    refine b_X7_cellOn_2 ?_
    unfold wp_X7_cellOn_2
    rw [hV.mE]
    exact ⟨fun _ => hp _ (Or.inr ⟨hall, rfl⟩), fun h => absurd (nI_le (Nat.le_refl _) (by omega)) h⟩
  · intro hall
    refine b_X7_cellOn_2 ?_
    unfold wp_X7_cellOn_2
    rw [hV.mE, ad1I]
    refine ⟨fun h => absurd h (nI_ge hi (by omega)), fun _ => ?_⟩
    refine c_X7_liesOn hV hi hr hc (fun ho => ⟨fun h => absurd h (by decide), fun _ => hp _ (Or.inl ⟨i, hi, ho, hall, rfl⟩)⟩) (fun ho => ⟨fun _ => ih (fun j hj => ?_), fun h => absurd rfl h⟩)
    rcases Nat.lt_succ_iff_lt_or_eq.mp hj with q | q
    · exact hall j q
    · subst q; exact ho
theorem c_X1_numbered (hV : Vw m T) {k : Nat} (hk : k < T 163 7) {P : Option Nat → vM → Prop} (hp : P (some k) m) : wp_X1_numbered (nI k) m P := by
  have h40 := hV.E40
  unfold wp_X1_numbered
  rw [hV.xE, clI k (by omega)]
  exact ⟨fun h => absurd h (nI_pos (by omega)), fun _ => ⟨fun h => absurd h (nI_ge hk (by omega)), fun _ => ⟨fun h => absurd h (nI_ge (b := 40) (by omega) (by omega)), fun _ => ⟨vI (by omega) (by omega), hp⟩⟩⟩⟩
theorem c_X1_present (hV : Vw m T) {k : Nat} (hk : k < T 163 7) {P : Option Nat → vM → Prop} (h0 : T 172 k = 0 → P (some k) m) (h1 : ¬ T 172 k = 0 → P none m) : wp_X1_present (nI k) m P := by
  have h40 := hV.E40
  have hd := (hV.cell hk).2.2.2.2.2.1
  unfold wp_X1_present
  refine c_X1_numbered hV hk ⟨fun h => (by cases h), fun i hi h => ?_⟩
  cases h
  rw [(hV.xc hk).2.2.2.2.2.2.2.2.1, eq0I (by omega)]
  exact ⟨h0, h1⟩
theorem c_X0_meets (hV : Vw m T) {k r c h w : Nat} (hk : k < T 163 7) (hr : r < 1000) (hc : c < 1000) (hh : h < 1000) (hw : w < 1000) {P : Int32 → vM → Prop} (h1 : ovl T k r c h w → P 1 m) (h0 : ¬ ovl T k r c h w → P 0 m) : wp_X0_meets k (nI r) (nI c) (nI h) (nI w) m P := by
  obtain ⟨d1, d2, d3, d4, d5, d6, d7, -⟩ := hV.cell hk
  obtain ⟨c0, c1, c2, c3, c4, c5, c6, c7, c8, c9⟩ := hV.xc hk
  have hR := hV.R
  have hC := hV.C
  unfold wp_X0_meets
  unfold ovl at h1 h0
  rw [c1, c2, c3, c4, adI, adI, adI, adI, leI (b := r) (by omega) (by omega), leI (a := r + h) (by omega) (by omega), leI (b := c) (by omega) (by omega), leI (a := c + w) (by omega) (by omega)]
  exact ⟨fun a => h0 (by omega), fun a => ⟨fun b => h0 (by omega), fun b => ⟨fun d => h0 (by omega), fun d => ⟨fun e => h0 (by omega), fun e => h1 (by omega)⟩⟩⟩⟩
theorem c_X0_liesOnRow (hV : Vw m T) {k r : Nat} (hk : k < T 163 7) (hr : r < 1000) {P : Int32 → vM → Prop} (h1 : lies T k r → P 1 m) (h0 : ¬ lies T k r → P 0 m) : wp_X0_liesOnRow k (nI r) m P := by
  obtain ⟨d1, d2, d3, d4, d5, d6, d7, -⟩ := hV.cell hk
  obtain ⟨c0, c1, c2, c3, c4, c5, c6, c7, c8, c9⟩ := hV.xc hk
  have hR := hV.R
  unfold wp_X0_liesOnRow
  unfold lies at h1 h0
  rw [c1, c3, adI, ltI (a := r) (by omega) (by omega), leI (b := r) (by omega) (by omega)]
  exact ⟨fun a => h0 (by omega), fun a => ⟨fun b => h0 (by omega), fun b => h1 (by omega)⟩⟩
theorem c_X1_firstOn (hV : Vw m T) {r c h w : Nat} (hr : r < 1000) (hc : c < 1000) (hh : h < 1000) (hw : w < 1000) {P : Int32 → vM → Prop} (hp : ∀ x, Lst (fun k => T 172 k = 0 ∧ ovl T k r c h w) (T 163 7) x → P x m) : EI_X1_firstOn (nI r) (nI c) (nI h) (nI w) m P := by
  have h40 := hV.E40
  refine f_X1_firstOn (b_X1_firstOn_0 ?_)
  unfold wp_X1_firstOn_0
  refine loop_up (Q := fun i => (∀ j, j < i → ¬ (T 172 j = 0 ∧ ovl T j r c h w)) → J_X1_firstOn_3 (nI r) (nI c) (nI h) (nI w) (nI i) m P) (n := T 163 7) ?_ (fun i hi ih => ?_) 0 (Nat.zero_le _) (fun j hj => absurd hj (Nat.not_lt_zero _))
  · intro hall
    refine b_X1_firstOn_3 ?_
    unfold wp_X1_firstOn_3
    rw [hV.xE]
    exact ⟨fun _ => hp _ (Or.inr ⟨hall, rfl⟩), fun h => absurd (nI_le (Nat.le_refl _) (by omega)) h⟩
  · intro hall
    have nxt : ¬ (T 172 i = 0 ∧ ovl T i r c h w) → J_X1_firstOn_3 (nI r) (nI c) (nI h) (nI w) (nI (i + 1)) m P := by
      intro ho
      refine ih (fun j hj => ?_)
      rcases Nat.lt_succ_iff_lt_or_eq.mp hj with q | q
      · exact hall j q
      · subst q; exact ho
    refine b_X1_firstOn_3 ?_
    unfold wp_X1_firstOn_3
    rw [hV.xE, ad1I]
    refine ⟨fun h => absurd h (nI_ge hi (by omega)), fun _ => ?_⟩
    refine c_X1_present hV hi (fun hg => ⟨fun h => (by cases h), fun i2 hi2 h => ?_⟩) (fun hg => ⟨fun _ => nxt (fun q => hg q.1), fun i2 _ h => (by cases h)⟩)
    cases h
    exact c_X0_meets hV hi hr hc hh hw (fun ho => ⟨fun h => absurd h (by decide), fun _ => hp _ (Or.inl ⟨i, hi, ⟨hg, ho⟩, hall, rfl⟩)⟩) (fun ho => ⟨fun _ => nxt (fun q => ho q.2), fun h => absurd rfl h⟩)
def presN (T : tT) : Nat → Nat
  | 0 => 0
  | k + 1 => if T 172 k = 0 then presN T k + 1 else presN T k
theorem c_X1_presentCells (hV : Vw m T) {P : Int32 → vM → Prop} (hp : P (nI (presN T (T 163 7))) m) : EI_X1_presentCells m P := by
  have h40 := hV.E40
  refine f_X1_presentCells (b_X1_presentCells_0 ?_)
  unfold wp_X1_presentCells_0
  refine loop_up (Q := fun i => J_X1_presentCells_4 (nI (presN T i)) (nI i) m P) (n := T 163 7) ?_ (fun i hi ih => ?_) 0 (Nat.zero_le _)
  · refine b_X1_presentCells_4 ?_
    unfold wp_X1_presentCells_4
    rw [hV.xE]
    exact ⟨fun _ => hp, fun h => absurd (nI_le (Nat.le_refl _) (by omega)) h⟩
  · refine b_X1_presentCells_4 ?_
    unfold wp_X1_presentCells_4
    rw [hV.xE, ad1I, ad1I]
    refine ⟨fun h => absurd h (nI_ge hi (by omega)), fun _ => ?_⟩
    have e : presN T (i + 1) = if T 172 i = 0 then presN T i + 1 else presN T i := rfl
    refine c_X1_present hV hi (fun hg => ⟨fun h => (by cases h), fun i2 hi2 h => ?_⟩) (fun hg => ⟨fun _ => ?_, fun i2 _ h => (by cases h)⟩)
    · rw [if_pos hg] at e; rw [e] at ih; exact ih
    · rw [if_neg hg] at e; rw [e] at ih; exact ih
theorem c_X1_hasHead (hV : Vw m T) {r : Nat} (hr : r < 1000) {P : Int32 → vM → Prop} (h1 : hdT T r → P 1 m) (h0 : ¬ hdT T r → P 0 m) : EI_X1_hasHead (nI r) m P := by
  have h40 := hV.E40
  refine f_X1_hasHead (b_X1_hasHead_0 ?_)
  unfold wp_X1_hasHead_0
  refine loop_up (Q := fun i => (∀ j, j < i → ¬ (T 172 j = 0 ∧ T 167 j = 1 ∧ lies T j r)) → J_X1_hasHead_2 (nI r) (nI i) m P) (n := T 163 7) ?_ (fun i hi ih => ?_) 0 (Nat.zero_le _) (fun j hj => absurd hj (Nat.not_lt_zero _))
  · intro hall
    refine b_X1_hasHead_2 ?_
    unfold wp_X1_hasHead_2
    rw [hV.xE]
    exact ⟨fun _ => h0 (fun ⟨k, hk, q⟩ => hall k hk q), fun h => absurd (nI_le (Nat.le_refl _) (by omega)) h⟩
  · intro hall
    have nxt : ¬ (T 172 i = 0 ∧ T 167 i = 1 ∧ lies T i r) → J_X1_hasHead_2 (nI r) (nI (i + 1)) m P := by
      intro ho
      refine ih (fun j hj => ?_)
      rcases Nat.lt_succ_iff_lt_or_eq.mp hj with q | q
      · exact hall j q
      · subst q; exact ho
    have d1 := (hV.cell hi).1
    refine b_X1_hasHead_2 ?_
    unfold wp_X1_hasHead_2
    rw [hV.xE, ad1I]
    refine ⟨fun h => absurd h (nI_ge hi (by omega)), fun _ => ?_⟩
    refine c_X1_present hV hi (fun hg => ⟨fun h => (by cases h), fun i2 hi2 h => ?_⟩) (fun hg => ⟨fun _ => nxt (fun q => hg q.1), fun i2 _ h => (by cases h)⟩)
    cases h
    rw [(hV.xc hi).1, show (nI (T 167 i) = 1) = (T 167 i = 1) from eqI (b := 1) (by omega) (by omega)]
    refine ⟨fun a => ?_, fun a => nxt (fun q => a q.2.1)⟩
    exact c_X0_liesOnRow hV hi hr (fun ho => ⟨fun h => absurd h (by decide), fun _ => h1 ⟨i, hi, hg, a, ho⟩⟩) (fun ho => ⟨fun _ => nxt (fun q => ho q.2.2), fun h => absurd rfl h⟩)
theorem c_X1_headRows (hV : Vw m T) {P : Int32 → vM → Prop} (hp : ∀ h, HeadN T h → P (nI h) m) : EI_X1_headRows m P := by
  have hR := hV.R
  refine f_X1_headRows (b_X1_headRows_0 ?_)
  unfold wp_X1_headRows_0
  refine loop_up (Q := fun i => (∀ j, j < i → hdT T j) → J_X1_headRows_2 (nI i) m P) (n := T 163 2) ?_ (fun i hi ih => ?_) 0 (Nat.zero_le _) (fun j hj => absurd hj (Nat.not_lt_zero _))
  · intro hall
    refine b_X1_headRows_2 ?_
    unfold wp_X1_headRows_2
    rw [hV.xR]
    exact ⟨fun _ => hp _ ⟨Nat.le_refl _, hall, fun h => absurd h (Nat.lt_irrefl _)⟩, fun h => absurd (nI_le (Nat.le_refl _) (by omega)) h⟩
  · intro hall
    refine b_X1_headRows_2 ?_
    unfold wp_X1_headRows_2
    rw [hV.xR, ad1I]
    refine ⟨fun h => absurd h (nI_ge hi (by omega)), fun _ => ?_⟩
    refine c_X1_hasHead hV (by omega) (fun ho => ⟨fun h => absurd h (by decide), fun _ => ih (fun j hj => ?_)⟩) (fun ho => ⟨fun _ => hp _ ⟨by omega, hall, fun _ => ho⟩, fun h => absurd rfl h⟩)
    rcases Nat.lt_succ_iff_lt_or_eq.mp hj with q | q
    · exact hall j q
    · subst q; exact ho
theorem c_X1_breaksAhead (hV : Vw m T) {row h : Nat} (hr : row < 1000) (hh : h < 1000) {P : Int32 → vM → Prop} (h1 : brk T h row → P 1 m) (h0 : ¬ brk T h row → P 0 m) : EI_X1_breaksAhead (nI row) (nI h) m P := by
  have h40 := hV.E40
  refine f_X1_breaksAhead (b_X1_breaksAhead_0 ?_)
  unfold wp_X1_breaksAhead_0
  rw [ltI (a := h) (by omega) (by omega)]
  refine ⟨fun hlt => ?_, fun hlt => h0 (fun q => hlt q.1)⟩
  refine loop_up (Q := fun i => (∀ j, j < i → T 172 j = 0 → T 167 j ≠ 3 → lies T j row → lies T j (row - 1) → False) → J_X1_breaksAhead_9 (nI row) (nI i) m P) (n := T 163 7) ?_ (fun i hi ih => ?_) 0 (Nat.zero_le _) (fun j hj => absurd hj (Nat.not_lt_zero _))
  · intro hall
    refine b_X1_breaksAhead_9 ?_
    unfold wp_X1_breaksAhead_9
    rw [hV.xE]
    exact ⟨fun _ => h1 ⟨hlt, hall⟩, fun h => absurd (nI_le (Nat.le_refl _) (by omega)) h⟩
  · intro hall
    have nxt : (T 172 i = 0 → T 167 i ≠ 3 → lies T i row → lies T i (row - 1) → False) → J_X1_breaksAhead_9 (nI row) (nI (i + 1)) m P := by
      intro ho
      refine ih (fun j hj => ?_)
      rcases Nat.lt_succ_iff_lt_or_eq.mp hj with q | q
      · exact hall j q
      · subst q; exact ho
    have d1 := (hV.cell hi).1
    refine b_X1_breaksAhead_9 ?_
    unfold wp_X1_breaksAhead_9
    rw [hV.xE, ad1I]
    refine ⟨fun h => absurd h (nI_ge hi (by omega)), fun _ => ?_⟩
    refine c_X1_present hV hi (fun hg => ⟨fun h => (by cases h), fun i2 hi2 h => ?_⟩) (fun hg => ⟨fun _ => nxt (fun q => absurd q hg), fun i2 _ h => (by cases h)⟩)
    cases h
    rw [(hV.xc hi).1, show (nI (T 167 i) = 3) = (T 167 i = 3) from eqI (b := 3) (by omega) (by omega)]
    refine ⟨fun a => nxt (fun _ q => absurd a q), fun a => ?_⟩
    refine c_X0_liesOnRow hV hi hr (fun ho => ⟨fun h => absurd h (by decide), fun _ => ?_⟩) (fun ho => ⟨fun _ => nxt (fun _ _ q => absurd q ho), fun h => absurd rfl h⟩)
    rw [show (1 : Int32) = nI 1 from rfl, sbI (by omega)]
    exact c_X0_liesOnRow hV hi (by omega) (fun ho2 => ⟨fun h => absurd h (by decide), fun _ => h0 (fun q => q.2 i hi hg a ho ho2)⟩) (fun ho2 => ⟨fun _ => nxt (fun _ _ _ q => absurd q ho2), fun h => absurd rfl h⟩)
theorem callF_bd (hV : Vw m T) {q : Nat} : ∀ i, i ≤ T 163 7 → ∀ r, callF T q i = some r → r < 16 := by
  intro i
  induction i with
  | zero => intro _ r h; cases h
  | succ i ih =>
    intro hi r h
    obtain ⟨d1, d2, d3, -⟩ := hV.cell (k := i) (by omega)
    have hR := hV.R
    unfold callF at h
    split at h
    · split at h
      · cases h; omega
      · rename_i r' hr'
        cases h
        have := ih (by omega) r' hr'
        split <;> omega
    · exact ih (by omega) r h
theorem c_X1_firstCall (hV : Vw m T) {q : Nat} {P : Int32 → vM → Prop} (hp : P (encO (callF T q (T 163 7))) m) : EI_X1_firstCall (nI q) m P := by
  have h40 := hV.E40
  refine f_X1_firstCall (b_X1_firstCall_0 ?_)
  unfold wp_X1_firstCall_0
  refine loop_up (Q := fun i => J_X1_firstCall_5 (nI q) (encO (callF T q i)) (nI i) m P) (n := T 163 7) ?_ (fun i hi ih => ?_) 0 (Nat.zero_le _)
  · refine b_X1_firstCall_5 ?_
    unfold wp_X1_firstCall_5
    rw [hV.xE]
    exact ⟨fun _ => hp, fun h => absurd (nI_le (Nat.le_refl _) (by omega)) h⟩
  · refine b_X1_firstCall_5 ?_
    unfold wp_X1_firstCall_5
    have e : callF T q (i + 1) = if T 172 i = 0 ∧ cbT T i q then (match callF T q i with | none => some (T 168 i) | some r => some (if r ≤ T 168 i then r else T 168 i)) else callF T q i := rfl
    have hb := callF_bd (q := q) hV i (by omega)
    obtain ⟨d1, d2, d3, -⟩ := hV.cell hi
    have hR := hV.R
    rw [hV.xE, ad1I]
    refine ⟨fun h => absurd h (nI_ge hi (by omega)), fun _ => ?_⟩
    refine c_X1_present hV hi (fun hg => ⟨fun h => (by cases h), fun i2 hi2 h => ?_⟩) (fun hg => ⟨fun _ => ?_, fun i2 _ h => (by cases h)⟩)
    · cases h
      rw [(hV.xc hi).2.2.2.2.2.1, (hV.xc hi).2.1]
      refine ⟨fun a => ?_, fun a => ?_⟩
      · rw [if_pos ⟨hg, a⟩] at e
        cases hc : callF T q i with
        | none =>
          rw [hc] at e
          rw [e] at ih
          refine ⟨fun _ => ?_, fun h => absurd rfl h⟩
          rintro _ rfl
          exact ih
        | some r =>
          have hr := hb r hc
          rw [hc] at e
          rw [e] at ih
          show (nI r = -9 → _) ∧ (¬ nI r = -9 → (nI r ≤ nI (T 168 i) → _) ∧ (¬ nI r ≤ nI (T 168 i) → _))
          rw [leI (by omega) (by omega)]
          refine ⟨fun h => absurd h (nI_m9 r (by omega)), fun _ => ⟨fun h => ?_, fun h => ?_⟩⟩
          · simp only [if_pos h] at ih; exact ih
          · simp only [if_neg h] at ih
            rintro _ rfl
            exact ih
      · rw [if_neg (fun z => a z.2)] at e
        rw [e] at ih
        exact ih
    · rw [if_neg (fun z => hg z.1)] at e
      rw [e] at ih
      exact ih
def spanN (g : Nat) (b : Nat → Nat) (col many : Nat) : Nat := (many - 1) * g + nsum (fun j => b (col + j)) many
theorem c_X7_widthOver (hV : Vw m T) {a n col many : Nat} {b : Nat → Nat} (ha : SH a = (0, n, vz)) (hw : a < 197) (hm : 1 ≤ many) (hn : col + many ≤ n) (hb : ∀ j, j < many → m.1 a (col + j) = nI (b (col + j))) {P : Int32 → vM → Prop} (hp : P (nI (spanN (T 163 4) b col many)) m) : EI_X7_widthOver a n (nI col) (nI many) m P := by
  have hl := SH_len a
  rw [ha] at hl
  have hl : n ≤ 480 := hl
  refine f_X7_widthOver (b_X7_widthOver_0 ha hw ?_)
  unfold wp_X7_widthOver_0
  rintro _ rfl
  rw [hV.mg, show (1 : Int32) = nI 1 from rfl, sbI hm, mlI]
  refine loop_up (Q := fun i => J_X7_widthOver_13 a n (nI col) (nI many) (nI ((many - 1) * T 163 4 + nsum (fun j => b (col + j)) i)) (nI (col + i)) m P) (n := many) ?_ (fun i hi ih => ?_) 0 (Nat.zero_le _)
  · refine b_X7_widthOver_13 ha hw ?_
    unfold wp_X7_widthOver_13
    rw [adI]
    exact ⟨fun _ => hp, fun h => absurd (nI_le (Nat.le_refl _) (by omega)) h⟩
  · refine b_X7_widthOver_13 ha hw ?_
    unfold wp_X7_widthOver_13
    rw [adI, clI (col + i) (by omega), hb i hi, adI, ad1I]
    refine ⟨fun h => absurd h (nI_ge (by omega) (by omega)), fun _ => ⟨vI (by omega) (by omega), ?_⟩⟩
    rintro _ rfl
    rw [Nat.add_assoc]
    exact ih
theorem c_X1_spanOf (hV : Vw m T) {a n k : Nat} {b : Nat → Nat} (hk : k < T 163 7) (ha : SH a = (0, n, vz)) (hw : a < 197) (hn : T 169 k + T 171 k ≤ n) (hb : ∀ j, j < T 171 k → m.1 a (T 169 k + j) = nI (b (T 169 k + j))) {P : Int32 → vM → Prop} (hp : P (nI (spanN (T 163 4) b (T 169 k) (T 171 k))) m) : EI_X1_spanOf k a n m P := by
  have h40 := hV.E40
  have hl := SH_len a
  rw [ha] at hl
  have hl : n ≤ 480 := hl
  obtain ⟨d1, d2, d3, d4, d5, d6, d7, -⟩ := hV.cell hk
  obtain ⟨c0, c1, c2, c3, c4, c5, c6, c7, c8, c9⟩ := hV.xc hk
  refine f_X1_spanOf (b_X1_spanOf_0 (by omega) ha hw ?_)
  unfold wp_X1_spanOf_0
  rw [c2, c4, hV.xg, adI, show (1 : Int32) = nI 1 from rfl, sbI d4, mlI]
  rintro _ rfl _ rfl _ rfl
  rw [if_neg (nI_nlt hn (by omega))]
  refine loop_up (Q := fun i => J_X1_spanOf_34 a n (nI (T 169 k + T 171 k)) (nI ((T 171 k - 1) * T 163 4 + nsum (fun j => b (T 169 k + j)) i)) (nI (T 169 k + i)) m P) (n := T 171 k) ?_ (fun i hi ih => ?_) 0 (Nat.zero_le _)
  · refine b_X1_spanOf_34 ha hw ?_
    unfold wp_X1_spanOf_34
    exact ⟨fun _ => hp, fun h => absurd (nI_le (Nat.le_refl _) (by omega)) h⟩
  · refine b_X1_spanOf_34 ha hw ?_
    unfold wp_X1_spanOf_34
    rw [clI (T 169 k + i) (by omega), hb i hi, adI, ad1I]
    refine ⟨fun h => absurd h (nI_ge (by omega) (by omega)), fun _ => ⟨vI (by omega) (by omega), ?_⟩⟩
    rintro _ rfl
    rw [Nat.add_assoc]
    exact ih
end CG
