/-! a cell's letters, wants, lines: both sides -/
def nsum (f : Nat → Nat) : Nat → Nat
  | 0 => 0
  | n + 1 => nsum f n + f n
def nmax (f : Nat → Nat) : Nat → Nat
  | 0 => 0
  | n + 1 => if nmax f n < f n then f n else nmax f n
theorem nsum_le {f : Nat → Nat} {b n : Nat} (h : ∀ i, i < n → f i ≤ b) : nsum f n ≤ b * n := by
  induction n with
  | zero => exact Nat.zero_le _
  | succ n ih =>
    have h1 := ih (fun i hi => h i (Nat.lt_succ_of_lt hi))
    have h2 := h n (Nat.lt_succ_self n)
    show nsum f n + f n ≤ b * (n + 1)
    rw [Nat.mul_succ]
    omega
theorem nmax_le {f : Nat → Nat} {b n : Nat} (h : ∀ i, i < n → f i ≤ b) : nmax f n ≤ b := by
  induction n with
  | zero => exact Nat.zero_le _
  | succ n ih =>
    have h1 := ih (fun i hi => h i (Nat.lt_succ_of_lt hi))
    have h2 := h n (Nat.lt_succ_self n)
    show (if nmax f n < f n then f n else nmax f n) ≤ b
    split <;> omega
/-- lines and what the last one holds, of the first i pieces -/
def lnN (L : Nat → Nat) (w : Nat) : Nat → Nat × Nat
  | 0 => (0, 0)
  | i + 1 => if w < L i then ((lnN L w i).1 + ((L i - 1) / w + 1), L i - (L i - 1) / w * w) else if 0 < i ∧ (lnN L w i).2 + 1 + L i ≤ w then ((lnN L w i).1, (lnN L w i).2 + (1 + L i)) else ((lnN L w i).1 + 1, L i)
theorem lnN_bd {L : Nat → Nat} {w n : Nat} (hw : 1 ≤ w) (hL : ∀ i, i < n → 1 ≤ L i ∧ L i ≤ 20) : ∀ i, i ≤ n → (lnN L w i).1 ≤ 20 * i ∧ (lnN L w i).2 ≤ w ∧ (0 < i → 1 ≤ (lnN L w i).1) := by
  intro i
  induction i with
  | zero => intro _; exact ⟨Nat.le_refl _, Nat.zero_le _, fun h => absurd h (by omega)⟩
  | succ i ih =>
    intro hi
    obtain ⟨h1, h2, h3⟩ := ih (by omega)
    obtain ⟨l1, l2⟩ := hL i (by omega)
    have hd : (L i - 1) / w ≤ L i - 1 := Nat.div_le_self _ _
    have hm := Nat.div_add_mod (L i - 1) w
    have hlt := Nat.mod_lt (L i - 1) (show w > 0 by omega)
    rw [Nat.mul_comm] at hm
    unfold lnN
    split
    · refine ⟨?_, ?_, fun _ => ?_⟩
      · show _ + _ ≤ _; omega
      · show L i - (L i - 1) / w * w ≤ w; omega
      · exact Nat.le_trans (Nat.le_add_left 1 _) (Nat.le_add_left _ _)
    · split
      · rename_i hq
        refine ⟨?_, ?_, fun _ => h3 hq.1⟩
        · show (lnN L w i).1 ≤ _; omega
        · show _ + (1 + L i) ≤ w; omega
      · refine ⟨?_, ?_, fun _ => ?_⟩
        · show _ + 1 ≤ _; omega
        · show L i ≤ w; omega
        · show 1 ≤ _ + 1; omega
/-- the same, as the class counts it -/
theorem lnN_alt {L : Nat → Nat} {w i : Nat} (hw : 1 ≤ w) (hl : 1 ≤ L i) (h3 : 0 < i → 1 ≤ (lnN L w i).1) : lnN L w (i + 1) = if 0 < (lnN L w i).1 ∧ (lnN L w i).2 + 1 + L i ≤ w then ((lnN L w i).1, (lnN L w i).2 + (1 + L i)) else ((lnN L w i).1 + ((L i - 1) / w + 1), L i - (L i - 1) / w * w) := by
  have h0 : i = 0 → (lnN L w i).1 = 0 := by rintro rfl; rfl
  conv => lhs; unfold lnN
  by_cases h : w < L i
  · rw [if_pos h, if_neg (by omega)]
  · have hd : (L i - 1) / w = 0 := Nat.div_eq_of_lt (by omega)
    rw [if_neg h]
    by_cases h2 : 0 < i ∧ (lnN L w i).2 + 1 + L i ≤ w
    · rw [if_pos h2, if_pos ⟨by have := h3 h2.1; omega, h2.2⟩]
    · rw [if_neg h2, if_neg (fun q => h2 ⟨by
        rcases Nat.eq_zero_or_pos i with e | e
        · have := h0 e; omega
        · exact e, q.2⟩), hd]
      simp
abbrev ltT (T : tT) (k : Nat) : Nat → Nat := fun i => T 174 (12 * k + i)
def lnT (T : tT) (k w : Nat) : Nat := (lnN (ltT T k) w (T 173 k)).1
def wantT (T : tT) (k what : Nat) : Nat := if T 167 k = 2 then T 176 k else if T 173 k = 0 then 0 else if what = 1 then nsum (ltT T k) (T 173 k) + T 173 k - 1 else nmax (ltT T k) (T 173 k)
section CC
variable {m : vM} {T : tT} {k : Nat}
theorem ltT_ok (hV : Vw m T) (hk : k < T 163 7) : ∀ i, i < T 173 k → 1 ≤ ltT T k i ∧ ltT T k i ≤ 20 := (hV.cell hk).2.2.2.2.2.2.2.2.2
theorem pcT_ok (hV : Vw m T) (hk : k < T 163 7) : T 173 k ≤ 12 := (hV.cell hk).2.2.2.2.2.2.1
theorem lnT_le (hV : Vw m T) (hk : k < T 163 7) {w : Nat} (hw : 1 ≤ w) : lnT T k w ≤ 240 := by
  have h := (lnN_bd hw (ltT_ok hV hk) (T 173 k) (Nat.le_refl _)).1
  have := pcT_ok hV hk
  unfold lnT
  omega
theorem wantT_le (hV : Vw m T) (hk : k < T 163 7) {what : Nat} : wantT T k what ≤ 251 := by
  have h1 := nsum_le (fun i hi => (ltT_ok hV hk i hi).2)
  have h2 := nmax_le (fun i hi => (ltT_ok hV hk i hi).2)
  have h3 := pcT_ok hV hk
  have h4 := (hV.cell hk).2.2.2.2.2.2.2.2.1.2
  unfold wantT
  split
  · omega
  · split
    · omega
    · split <;> omega
theorem c_X7_lettersOf (hV : Vw m T) (hk : k < T 163 7) {P : Int32 → vM → Prop} (hp : P (nI (nsum (ltT T k) (T 173 k))) m) : EI_X7_lettersOf (nI k) m P := by
  have h40 := hV.E40
  have h12 := pcT_ok hV hk
  obtain ⟨c0, c1, c2, c3, c4, c5, c6, c7, c8, c9⟩ := hV.mc hk
  refine f_X7_lettersOf (b_X7_lettersOf_0 ?_)
  unfold wp_X7_lettersOf_0
  refine loop_up (Q := fun i => J_X7_lettersOf_4 (nI k) (nI (nsum (ltT T k) i)) (nI i) m P) (n := T 173 k) ?_ (fun i hi ih => ?_) 0 (Nat.zero_le _)
  · refine b_X7_lettersOf_4 ?_
    unfold wp_X7_lettersOf_4
    rw [clI k (by omega), c7]
    exact ⟨vI (by omega) (by omega), fun _ => hp, fun h => absurd (nI_le (Nat.le_refl _) (by omega)) h⟩
  · refine b_X7_lettersOf_4 ?_
    unfold wp_X7_lettersOf_4
    rw [clI k (by omega), c7, m12I, adI, clI _ (by omega), c9 i hi, adI, ad1I]
    refine ⟨vI (by omega) (by omega), fun h => absurd h (nI_ge hi (by omega)), fun _ => ⟨vI (by omega) (by omega), ?_⟩⟩
    rintro _ rfl
    exact ih
theorem c_X0_allLetters (hV : Vw m T) (hk : k < T 163 7) {P : Int32 → vM → Prop} (hp : P (nI (nsum (ltT T k) (T 173 k))) m) : EI_X0_allLetters k m P := by
  have h40 := hV.E40
  have h12 := pcT_ok hV hk
  have hk4 : k < 40 := by omega
  obtain ⟨c0, c1, c2, c3, c4, c5, c6, c7, c8, c9⟩ := hV.xc hk
  refine f_X0_allLetters (b_X0_allLetters_0 hk4 ?_)
  unfold wp_X0_allLetters_0
  refine loop_up (Q := fun i => J_X0_allLetters_4 k (nI (nsum (ltT T k) i)) (nI i) m P) (n := T 173 k) ?_ (fun i hi ih => ?_) 0 (Nat.zero_le _)
  · refine b_X0_allLetters_4 hk4 ?_
    unfold wp_X0_allLetters_4
    rw [c7]
    exact ⟨fun _ => hp, fun h => absurd (nI_le (Nat.le_refl _) (by omega)) h⟩
  · refine b_X0_allLetters_4 hk4 ?_
    unfold wp_X0_allLetters_4
    rw [c7, clI i (by omega), c9 i hi, adI, ad1I]
    refine ⟨fun h => absurd h (nI_ge hi (by omega)), fun _ => ⟨fun h => absurd h (nI_ge (b := 12) (by omega) (by omega)), fun _ => ⟨vI (by omega) (by omega), ?_⟩⟩⟩
    rintro _ rfl
    exact ih
theorem c_X0_longestPiece (hV : Vw m T) (hk : k < T 163 7) {P : Int32 → vM → Prop} (hp : P (nI (nmax (ltT T k) (T 173 k))) m) : EI_X0_longestPiece k m P := by
  have h40 := hV.E40
  have h12 := pcT_ok hV hk
  have hk4 : k < 40 := by omega
  obtain ⟨c0, c1, c2, c3, c4, c5, c6, c7, c8, c9⟩ := hV.xc hk
  refine f_X0_longestPiece (b_X0_longestPiece_0 hk4 ?_)
  unfold wp_X0_longestPiece_0
  refine loop_up (Q := fun i => J_X0_longestPiece_4 k (nI (nmax (ltT T k) i)) (nI i) m P) (n := T 173 k) ?_ (fun i hi ih => ?_) 0 (Nat.zero_le _)
  · refine b_X0_longestPiece_4 hk4 ?_
    unfold wp_X0_longestPiece_4
    rw [c7]
    exact ⟨fun _ => hp, fun h => absurd (nI_le (Nat.le_refl _) (by omega)) h⟩
  · refine b_X0_longestPiece_4 hk4 ?_
    unfold wp_X0_longestPiece_4
    have hb := nmax_le (f := ltT T k) (b := 20) (n := i) (fun j hj => (ltT_ok hV hk j (by omega)).2)
    have hb2 : T 174 (12 * k + i) ≤ 20 := (ltT_ok hV hk i hi).2
    rw [c7, clI i (by omega), c9 i hi, ad1I]
    simp only [ltI (a := nmax (ltT T k) i) (b := T 174 (12 * k + i)) (by omega) (by omega)]
    refine ⟨fun h => absurd h (nI_ge hi (by omega)), fun _ => ⟨fun h => absurd h (nI_ge (b := 12) (by omega) (by omega)), fun _ => ⟨vI (by omega) (by omega), ?_⟩⟩⟩
    rintro _ rfl
    have e : (if nmax (ltT T k) i < T 174 (12 * k + i) then nI (T 174 (12 * k + i)) else nI (nmax (ltT T k) i)) = nI (nmax (ltT T k) (i + 1)) := by
      show _ = nI (if nmax (ltT T k) i < ltT T k i then ltT T k i else nmax (ltT T k) i)
      split <;> rfl
    rw [e]
    exact ih
theorem c_X7_wantOf (hV : Vw m T) (hk : k < T 163 7) {what : Nat} (hw : what ≤ 1) {P : Int32 → vM → Prop} (hp : P (nI (wantT T k what)) m) : EI_X7_wantOf (nI k) (nI what) m P := by
  have h40 := hV.E40
  have h12 := pcT_ok hV hk
  have h3 := (hV.cell hk).1
  obtain ⟨c0, c1, c2, c3, c4, c5, c6, c7, c8, c9⟩ := hV.mc hk
  refine f_X7_wantOf (b_X7_wantOf_0 ?_)
  unfold wp_X7_wantOf_0
  rw [clI k (by omega), c0, c6, c7, show (2 : Int32) = nI 2 from rfl, eqI (by omega) (by omega), eq0I (by omega), show (nI what = 1) = (what = 1) from eqI (b := 1) (by omega) (by omega)]
  unfold wantT at hp
  refine ⟨vI (by omega) (by omega), fun h => ⟨vI (by omega) (by omega), by rw [if_pos h] at hp; exact hp⟩, fun h => ⟨vI (by omega) (by omega), ?_⟩⟩
  rw [if_neg h] at hp
  refine ⟨fun h0 => by rw [if_pos h0] at hp; exact hp, fun h0 => ?_⟩
  rw [if_neg h0] at hp
  refine ⟨fun h1 => ?_, fun h1 => ?_⟩
  · rw [if_pos h1] at hp
    refine c_X7_lettersOf hV hk ⟨vI (by omega) (by omega), ?_⟩
    rw [c7, adI, show (1 : Int32) = nI 1 from rfl, sbI (by omega)]
    exact hp
  · rw [if_neg h1] at hp
    refine loop_up (Q := fun i => J_X7_wantOf_53 (nI k) (nI (nmax (ltT T k) i)) (nI i) m P) (n := T 173 k) ?_ (fun i hi ih => ?_) 0 (Nat.zero_le _)
    · refine b_X7_wantOf_53 ?_
      unfold wp_X7_wantOf_53
      rw [clI k (by omega), c7]
      exact ⟨vI (by omega) (by omega), fun _ => hp, fun h => absurd (nI_le (Nat.le_refl _) (by omega)) h⟩
    · refine b_X7_wantOf_53 ?_
      unfold wp_X7_wantOf_53
      have hb := nmax_le (f := ltT T k) (b := 20) (n := i) (fun j hj => (ltT_ok hV hk j (by omega)).2)
      have hb2 : T 174 (12 * k + i) ≤ 20 := (ltT_ok hV hk i hi).2
      rw [clI k (by omega), c7, m12I, adI, clI _ (by omega), c9 i hi, ad1I, leI (a := T 174 (12 * k + i)) (by omega) (by omega)]
      have e : nmax (ltT T k) (i + 1) = if nmax (ltT T k) i < T 174 (12 * k + i) then T 174 (12 * k + i) else nmax (ltT T k) i := rfl
      refine ⟨vI (by omega) (by omega), fun h => absurd h (nI_ge hi (by omega)), fun _ => ⟨vI (by omega) (by omega), fun q => ?_, fun q => ⟨vI (by omega) (by omega), ?_⟩⟩⟩
      · rw [if_neg (by omega)] at e
        rw [e] at ih
        exact ih
      · rintro _ rfl
        rw [if_pos (by omega)] at e
        rw [e] at ih
        exact ih
theorem c_X0_wanted (hV : Vw m T) (hk : k < T 163 7) {what : Nat} (hw : what ≤ 1) {P : Int32 → vM → Prop} (hp : P (nI (wantT T k what)) m) : wp_X0_wanted k (nI what) m P := by
  have h40 := hV.E40
  have h12 := pcT_ok hV hk
  have h3 := (hV.cell hk).1
  obtain ⟨c0, c1, c2, c3, c4, c5, c6, c7, c8, c9⟩ := hV.xc hk
  unfold wp_X0_wanted
  rw [c0, c6, c7, show (2 : Int32) = nI 2 from rfl, eqI (by omega) (by omega), ge1I (by omega), eq0I (by omega)]
  unfold wantT at hp
  refine ⟨fun h => by rw [if_pos h] at hp; exact hp, fun h => ?_⟩
  rw [if_neg h] at hp
  refine ⟨fun h0 => ?_, fun h0 => by rw [if_pos (by omega)] at hp; exact hp⟩
  rw [if_neg (by omega)] at hp
  refine ⟨fun h1 => ?_, fun h1 => ?_⟩
  · rw [if_neg (by omega)] at hp
    exact c_X0_longestPiece hV hk hp
  · rw [if_pos (by omega)] at hp
    refine c_X0_allLetters hV hk ?_
    rw [c7, adI, show (1 : Int32) = nI 1 from rfl, sbI (by omega)]
    exact hp
end CC
