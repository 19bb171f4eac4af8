def mx1 (h : Int64) (v : Int32) : Int64 := (31 : Int64) * h + v.toInt64
def fd (f : Nat → Int32) : Nat → Int64 → Int64
  | 0, h => h
  | n + 1, h => mx1 (fd f n h) (f n)
theorem fd_congr {f g : Nat → Int32} {h : Int64} : ∀ n, (∀ i, i < n → f i = g i) → fd f n h = fd g n h := by
  intro n
  induction n with
  | zero => intro _; rfl
  | succ n ih =>
    intro e
    show mx1 (fd f n h) (f n) = mx1 (fd g n h) (g n)
    rw [ih (fun i hi => e i (by omega)), e n (by omega)]
def cdT (T : tT) (k : Nat) (h : Int64) : Int64 := if T 167 k = 2 then mx1 (fd (fun i => nI (T 174 (12 * k + i))) (T 173 k) (fd (fun n => nI (tldT T k n)) 7 h)) (nI (T 176 k)) else fd (fun i => nI (T 174 (12 * k + i))) (T 173 k) (fd (fun n => nI (tldT T k n)) 7 h)
def csT (T : tT) (h : Int64) : Nat → Int64
  | 0 => h
  | k + 1 => if T 172 k = 0 then cdT T k (csT T h k) else (31 : Int64) * csT T h k - (1 : Int64)
def psT (m : vM) (h : Int64) : Nat → Int64
  | 0 => h
  | p + 1 => fd (fun j => m.1 (141 + p) j) 4 (psT m h p)
def h3T (T : tT) : Int64 := mx1 (mx1 (mx1 17 (nI (T 163 2))) (nI (T 163 3))) (nI (T 163 4))
def dgT (m : vM) (T : tT) : Int64 := psT m (mx1 (csT T (fd (fun k => nI (T 166 k)) 10 (fd (fun c => nI (T 181 c)) (T 163 3) (fd (fun c => nI (T 165 c)) (T 163 3) (h3T T)))) (T 163 7)) (nI (T 163 32))) (T 163 32)
section DIGEST
variable {m : vM} {T : tT}
theorem c_X6_mixed {a n2 n : Nat} {h : Int64} {f : Nat → Int32} (ha : SH a = (0, n2, vz)) (hw : a < 197) (hn : n ≤ n2) (h2 : n2 < 1000) (hf : ∀ i, i < n → m.1 a i = f i) {P : Int64 → vM → Prop} (hp : P (fd f n h) m) : EI_X6_mixed h a n2 (nI n) m P := by
  refine f_X6_mixed (b_X6_mixed_0 ha hw ?_)
  unfold wp_X6_mixed_0
  refine loop_up (Q := fun i => J_X6_mixed_6 a n2 (nI n) (fd f i h) (nI i) m P) (n := n) ?_ (fun i hi ih => ?_) 0 (Nat.zero_le _)
  · refine b_X6_mixed_6 ha hw ?_
    unfold wp_X6_mixed_6
    exact ifs (nI_le (Nat.le_refl _) (by omega)) hp
  · refine b_X6_mixed_6 ha hw ?_
    unfold wp_X6_mixed_6
    rw [clI i (by omega), hf i hi, ad1I]
    refine ifn (nI_ge hi (by omega)) (ifn (nI_ge (by omega) (by omega)) ⟨vI (by omega) (by omega), ?_⟩)
    rintro v2 rfl
    exact ih
theorem c_X6_mixedCell (hV : Vw m T) {k : Nat} {h : Int64} (hk : k < T 163 7) {P : Int64 → vM → Prop} (hp : P (cdT T k h) m) : EI_X6_mixedCell h k m P := by
  have h40 := hV.E40
  have hk40 : k < 40 := by omega
  have hpc := pcT_ok hV hk
  obtain ⟨b0, b1, b2, b3, b4, b5, b6, b7, b8, b9⟩ := hV.xc hk
  have d1 := (hV.cell hk).1
  refine f_X6_mixedCell (b_X6_mixedCell_0 hk40 ?_)
  unfold wp_X6_mixedCell_0
  refine loop_up (Q := fun n => J_X6_mixedCell_5 k (fd (fun n => nI (tldT T k n)) n h) (nI n) m P) (n := 7) ?_ (fun n hn ih => ?_) 0 (by decide)
  · refine b_X6_mixedCell_5 hk40 ?_
    unfold wp_X6_mixedCell_5
    refine ifs (by decide) ?_
    rw [b7]
    refine c_X6_mixed (sh_L hk40) (by unfold cA; omega) hpc (by decide) b9 ?_
    rw [b0, b6, show (2 : Int32) = nI 2 from rfl, eqI (by omega) (by omega)]
    unfold cdT at hp
    refine ife (fun z => ?_) (fun z => ?_)
    · rw [if_pos z] at hp; exact hp
    · rw [if_neg z] at hp; exact hp
  · refine b_X6_mixedCell_5 hk40 ?_
    unfold wp_X6_mixedCell_5
    refine ifn (nI_nlt (a := 6) (by omega) (by decide)) ?_
    refine c_X0_fact hV hk (by omega) ?_
    rintro v6 rfl
    rw [ad1I]
    exact ih
theorem c_X7_digestCell (hV : Vw m T) {k : Nat} {h : Int64} (hk : k < T 163 7) {P : Int64 → vM → Prop} (hp : P (cdT T k h) m) : EI_X7_digestCell h (nI k) m P := by
  have h40 := hV.E40
  have hpc := pcT_ok hV hk
  obtain ⟨b0, b1, b2, b3, b4, b5, b6, b7, b8, b9⟩ := hV.mc hk
  have d1 := (hV.cell hk).1
  have hv : vp_in (nI k) 40 := vI (by omega) (by decide)
  refine f_X7_digestCell (b_X7_digestCell_0 ?_)
  unfold wp_X7_digestCell_0
  refine loop_up (Q := fun n => J_X7_digestCell_6 (nI k) (fd (fun n => nI (tldT T k n)) n h) (nI n) m P) (n := 7) ?_ (fun n hn ih => ?_) 0 (by decide)
  · refine b_X7_digestCell_6 ?_
    unfold wp_X7_digestCell_6
    refine ifs (by decide) ?_
    refine loop_up (Q := fun i => J_X7_digestCell_39 (nI k) (fd (fun i => nI (T 174 (12 * k + i))) i (fd (fun n => nI (tldT T k n)) 7 h)) (nI i) m P) (n := T 173 k) ?_ (fun i hi ihi => ?_) 0 (Nat.zero_le _)
    · refine b_X7_digestCell_39 ?_
      unfold wp_X7_digestCell_39
      rw [clI k (by omega), b7, b0, b6, show (2 : Int32) = nI 2 from rfl, eqI (by omega) (by omega)]
      unfold cdT at hp
      refine ⟨hv, ifs (nI_le (Nat.le_refl _) (by omega)) ⟨hv, ife (fun z => ⟨hv, ?_⟩) (fun z => ?_)⟩⟩
      · rw [if_pos z] at hp; exact hp
      · rw [if_neg z] at hp; exact hp
    · refine b_X7_digestCell_39 ?_
      unfold wp_X7_digestCell_39
      rw [clI k (by omega), b7, m12I, adI, clI _ (by omega), b9 i hi, ad1I]
      refine ⟨hv, ifn (nI_ge hi (by omega)) ⟨vI (by omega) (by decide), ?_⟩⟩
      rintro v6 rfl
      exact ihi
  · refine b_X7_digestCell_6 ?_
    unfold wp_X7_digestCell_6
    refine ifn (nI_ge (b := 7) hn (by decide)) ?_
    refine c_X7_toldOf hV hk (by omega) ?_
    rintro v3 rfl
    rw [ad1I]
    exact ih
theorem c_X6_digest (hI : InvT m T) {P : Int64 → vM → Prop} (hp : P (dgT m T) m) : EI_X6_digest m P := by
  have hV := hI.1
  have hC := hV.C
  have h40 := hV.E40
  obtain ⟨g1, g2, g3, g4, g5⟩ := hI.2.2.2.2
  refine f_X6_digest (b_X6_digest_0 ?_)
  unfold wp_X6_digest_0
  rw [hV.xR, hV.xC, hV.xg]
  rintro _ rfl _ rfl v3 ev3
  have e3 : v3 = h3T T := by rw [ev3]; rfl
  subst e3
  refine c_X6_mixed (f := fun c => nI (T 165 c)) sh_2 (by decide) hC.2 (by decide) (fun i hi => (hV.w (by omega)).1) ?_
  rw [hV.xC]
  refine c_X6_mixed (f := fun c => nI (T 181 c)) sh_130 (by decide) hC.2 (by decide) (fun i hi => (hI.2.2.2.1 i hi).1) ?_
  refine c_X6_mixed (n := 10) (f := fun k => nI (T 166 k)) sh_3 (by decide) (Nat.le_refl _) (by decide) (fun i hi => (hV.nt hi).1) ?_
  refine loop_up (Q := fun k => J_X6_digest_103 (csT T (fd (fun k => nI (T 166 k)) 10 (fd (fun c => nI (T 181 c)) (T 163 3) (fd (fun c => nI (T 165 c)) (T 163 3) (h3T T)))) k) (nI k) m P) (n := T 163 7) ?_ (fun k hk ih => ?_) 0 (Nat.zero_le _)
  · refine b_X6_digest_103 ?_
    unfold wp_X6_digest_103
    rw [hV.xE, g1]
    refine ifs (nI_le (Nat.le_refl _) (by omega)) ?_
    rintro v1 ev1
    refine loop_up (Q := fun p => J_X6_digest_169 (psT m v1 p) (nI p) m P) (n := T 163 32) ?_ (fun p hp' ih => ?_) 0 (Nat.zero_le _)
    · refine b_X6_digest_169 ?_
      unfold wp_X6_digest_169
      rw [g1, ev1]
      exact ifs (nI_le (Nat.le_refl _) (by omega)) hp
    · refine b_X6_digest_169 ?_
      unfold wp_X6_digest_169
      rw [g1, clI p (by omega), ad1I]
      refine ifn (nI_ge hp' (by omega)) (ifn (nI_ge (b := 16) (by omega) (by decide)) ⟨vI (by omega) (by decide), ?_⟩)
      exact c_X6_mixed (n := 4) (f := fun j => m.1 (141 + p) j) (sh_F (by omega)) (by omega) (Nat.le_refl _) (by decide) (fun _ _ => rfl) ih
  · refine b_X6_digest_103 ?_
    unfold wp_X6_digest_103
    rw [hV.xE]
    simp only [ad1I]
    refine ifn (nI_ge hk (by omega)) ?_
    refine c_X1_present hV hk (fun hd => ⟨fun q => (Option.some_ne_none _ q).elim, fun i3 _ q => ?_⟩) (fun hd => ⟨fun _ => ?_, fun i3 _ q => (Option.some_ne_none _ q.symm).elim⟩)
    · obtain rfl := Option.some.inj q
      refine c_X6_mixedCell hV hk ?_
      have e : csT T (fd (fun k => nI (T 166 k)) 10 (fd (fun c => nI (T 181 c)) (T 163 3) (fd (fun c => nI (T 165 c)) (T 163 3) (h3T T)))) (k + 1) = cdT T k (csT T (fd (fun k => nI (T 166 k)) 10 (fd (fun c => nI (T 181 c)) (T 163 3) (fd (fun c => nI (T 165 c)) (T 163 3) (h3T T)))) k) := if_pos hd
      rw [← e]
      exact ih
    · rintro v5 rfl
      have e : csT T (fd (fun k => nI (T 166 k)) 10 (fd (fun c => nI (T 181 c)) (T 163 3) (fd (fun c => nI (T 165 c)) (T 163 3) (h3T T)))) (k + 1) = (31 : Int64) * csT T (fd (fun k => nI (T 166 k)) 10 (fd (fun c => nI (T 181 c)) (T 163 3) (fd (fun c => nI (T 165 c)) (T 163 3) (h3T T)))) k - (1 : Int64) := if_neg hd
      rw [← e]
      exact ih
theorem fd_s (f : Nat → Int32) (n : Nat) (h : Int64) : fd f (n + 1) h = (31 : Int64) * fd f n h + (f n).toInt64 := rfl
theorem psT_s (m : vM) (h : Int64) (p : Nat) : psT m h (p + 1) = fd (fun j => m.1 (141 + p) j) 4 (psT m h p) := rfl
theorem dg185 (hI : InvT m T) {p : Nat} {X : Int64} (hp' : p < T 163 32) {P : Int64 → vM → Prop} (hp : J_X7_digest_174 (fd (fun j => m.1 (141 + p) j) 4 X) (nI (p + 1)) m P) : J_X7_digest_185 X (nI p) (nI 0) m P := by
  obtain ⟨g1, g2, g3, g4, g5⟩ := hI.2.2.2.2
  have hv : vp_in (nI p) 16 := vI (by omega) (by decide)
  obtain ⟨⟨q1, q2⟩, ⟨q3, q4⟩, q5, q6, q7⟩ := g4 p hp'
  refine loop_up (Q := fun j => J_X7_digest_185 (fd (fun j => m.1 (141 + p) j) j X) (nI p) (nI j) m P) (n := 4) ?_ (fun j hj ihj => ?_) 0 (by decide)
  · refine b_X7_digest_185 ?_
    unfold wp_X7_digest_185
    rw [ad1I]
    exact ifs (by decide) hp
  · refine b_X7_digest_185 ?_
    unfold wp_X7_digest_185
    refine ifn (nI_ge (b := 4) hj (by decide)) ?_
    have hgo : ∀ r2 : Int32, r2 = m.1 (141 + p) j → ∀ v3 : Int64, v3 = (31 : Int64) * fd (fun j => m.1 (141 + p) j) j X + r2.toInt64 → J_X7_digest_185 v3 (nI p) (nI j + 1) m P := by
      rintro r2 rfl v3 rfl
      rw [ad1I, ← fd_s (fun j => m.1 (141 + p) j) j X]
      exact ihj
    unfold wp_X7_pageTold
    rw [clI p (by omega)]
    refine sw 0 0 rfl (by omega) (by omega) (fun z => ⟨hv, hgo _ (by rw [z, q1, q2])⟩) (fun n0 => ?_) rfl
    refine sw 1 1 rfl (by omega) (by omega) (fun z => ⟨hv, hgo _ (by rw [z, q3, q4])⟩) (fun n1 => ?_) rfl
    refine sw 2 2 rfl (by omega) (by omega) (fun z => ⟨hv, hgo _ (by rw [z, q5])⟩) (fun n2 => ⟨hv, hgo _ ?_⟩) rfl
    rw [show j = 3 by omega, q6]
theorem dg174 (hI : InvT m T) {v1 : Int64} {P : Int64 → vM → Prop} (hp : P (psT m v1 (T 163 32)) m) : J_X7_digest_174 v1 (nI 0) m P := by
  obtain ⟨g1, g2, g3, g4, g5⟩ := hI.2.2.2.2
  refine loop_up (Q := fun p => J_X7_digest_174 (psT m v1 p) (nI p) m P) (n := T 163 32) ?_ (fun p hp' ih => ?_) 0 (Nat.zero_le _)
  · refine b_X7_digest_174 ?_
    unfold wp_X7_digest_174
    rw [g2]
    exact ifs (nI_le (Nat.le_refl _) (by omega)) hp
  · refine b_X7_digest_174 ?_
    unfold wp_X7_digest_174
    rw [g2]
    refine ifn (nI_ge hp' (by omega)) ?_
    rw [psT_s] at ih
    exact dg185 hI hp' ih
theorem csT_y {h : Int64} {k : Nat} (hd : T 172 k = 0) : csT T h (k + 1) = cdT T k (csT T h k) := if_pos hd
theorem csT_n {h : Int64} {k : Nat} (hd : ¬ T 172 k = 0) : csT T h (k + 1) = (31 : Int64) * csT T h k - (1 : Int64) := if_neg hd
theorem dg120 (hI : InvT m T) {X : Int64} {P : Int64 → vM → Prop} (hp : P (psT m ((31 : Int64) * csT T X (T 163 7) + (nI (T 163 32)).toInt64) (T 163 32)) m) : J_X7_digest_120 X (nI 0) m P := by
  have hV := hI.1
  have h40 := hV.E40
  obtain ⟨g1, g2, g3, g4, g5⟩ := hI.2.2.2.2
  refine loop_up (Q := fun k => J_X7_digest_120 (csT T X k) (nI k) m P) (n := T 163 7) ?_ (fun k hk ih => ?_) 0 (Nat.zero_le _)
  · refine b_X7_digest_120 ?_
    unfold wp_X7_digest_120
    rw [hV.mE, g2]
    refine ifs (nI_le (Nat.le_refl _) (by omega)) ?_
    rintro v1 rfl
    exact dg174 hI hp
  · refine b_X7_digest_120 ?_
    unfold wp_X7_digest_120
    have hd1 := (hV.cell hk).2.2.2.2.2.1
    rw [hV.mE, clI k (by omega), (hV.mc hk).2.2.2.2.2.2.2.2.1, eq0I (by omega)]
    simp only [ad1I]
    refine ifn (nI_ge hk (by omega)) ⟨vI (by omega) (by decide), ife (fun hd => ?_) (fun hd => ?_)⟩
    · refine c_X7_digestCell hV hk ?_
      rw [← csT_y hd]
      exact ih
    · rintro v5 rfl
      rw [← csT_n hd]
      exact ih
theorem dg92 (hI : InvT m T) {X : Int64} {P : Int64 → vM → Prop} (hp : J_X7_digest_120 (fd (fun k => nI (T 166 k)) 10 X) (nI 0) m P) : J_X7_digest_92 X (nI 0) m P := by
  have hV := hI.1
  refine loop_up (Q := fun q => J_X7_digest_92 (fd (fun k => nI (T 166 k)) q X) (nI q) m P) (n := 10) ?_ (fun q hq ih => ?_) 0 (by decide)
  · refine b_X7_digest_92 ?_
    unfold wp_X7_digest_92
    exact ifs (by decide) hp
  · refine b_X7_digest_92 ?_
    unfold wp_X7_digest_92
    rw [clI q (by omega), (hV.nt hq).2, ad1I]
    refine ifn (nI_ge (b := 10) hq (by decide)) ⟨vI hq (by decide), ?_⟩
    rintro v2 rfl
    exact ih
theorem dg62 (hI : InvT m T) {X : Int64} {P : Int64 → vM → Prop} (hp : J_X7_digest_92 (fd (fun c => nI (T 181 c)) (T 163 3) X) (nI 0) m P) : J_X7_digest_62 X (nI 0) m P := by
  have hV := hI.1
  have hC := hV.C
  refine loop_up (Q := fun c => J_X7_digest_62 (fd (fun c => nI (T 181 c)) c X) (nI c) m P) (n := T 163 3) ?_ (fun c hc ih => ?_) 0 (Nat.zero_le _)
  · refine b_X7_digest_62 ?_
    unfold wp_X7_digest_62
    rw [hV.mC]
    exact ifs (nI_le (Nat.le_refl _) (by omega)) hp
  · refine b_X7_digest_62 ?_
    unfold wp_X7_digest_62
    rw [hV.mC, clI c (by omega), (hI.2.2.2.1 c hc).2.1, ad1I]
    refine ifn (nI_ge hc (by omega)) ⟨vI (by omega) (by decide), ?_⟩
    rintro v2 rfl
    exact ih
theorem dg32 (hI : InvT m T) {X : Int64} {P : Int64 → vM → Prop} (hp : J_X7_digest_62 (fd (fun c => nI (T 165 c)) (T 163 3) X) (nI 0) m P) : J_X7_digest_32 X (nI 0) m P := by
  have hV := hI.1
  have hC := hV.C
  refine loop_up (Q := fun c => J_X7_digest_32 (fd (fun c => nI (T 165 c)) c X) (nI c) m P) (n := T 163 3) ?_ (fun c hc ih => ?_) 0 (Nat.zero_le _)
  · refine b_X7_digest_32 ?_
    unfold wp_X7_digest_32
    rw [hV.mC]
    exact ifs (nI_le (Nat.le_refl _) (by omega)) hp
  · refine b_X7_digest_32 ?_
    unfold wp_X7_digest_32
    rw [hV.mC, clI c (by omega), (hV.w (by omega)).2, ad1I]
    refine ifn (nI_ge hc (by omega)) ⟨vI (by omega) (by decide), ?_⟩
    rintro v2 rfl
    exact ih
theorem e527 : (527 : Int64) = (31 : Int64) * (17 : Int64) := by decide +kernel
theorem c_X7_digest (hI : InvT m T) {P : Int64 → vM → Prop} (hp : P (dgT m T) m) : EI_X7_digest m P := by
  have hV := hI.1
  refine f_X7_digest (b_X7_digest_0 ?_)
  unfold wp_X7_digest_0
  rw [hV.mR, hV.mC, hV.mg]
  rintro v1 ev1
  unfold dgT h3T mx1 at hp
  rw [e527] at ev1
  rw [← ev1] at hp
  exact dg32 hI (dg62 hI (dg92 hI (dg120 hI hp)))
theorem pair_digest (m : vM) (hI : Inv m) : EI_X6_digest m (fun r m1 => EI_X7_digest m1 (fun r2 m2 => r2 = r ∧ Inv m2)) := by
  obtain ⟨T, hI⟩ := hI
  exact c_X6_digest hI (c_X7_digest hI ⟨rfl, hI.toI⟩)
end DIGEST
