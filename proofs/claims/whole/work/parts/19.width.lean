/-! L and B: both sides -/
def butL (l : List Nat) (m m1 : vM) : Prop := (∀ a, a ∉ l → m1.1 a = m.1 a) ∧ m1.2 = m.2
theorem butL.rfl' {l : List Nat} {m : vM} : butL l m m := ⟨fun _ _ => rfl, rfl⟩
theorem butL.trans {l : List Nat} {m m1 m2 : vM} (h : butL l m m1) (h2 : butL l m1 m2) : butL l m m2 := ⟨fun a ha => (h2.1 a ha).trans (h.1 a ha), h2.2.trans h.2⟩
theorem butL.mono {l l' : List Nat} {m m1 : vM} (h : butL l m m1) (hs : ∀ a ∈ l, a ∈ l') : butL l' m m1 := ⟨fun a ha => h.1 a (fun q => ha (hs a q)), h.2⟩
theorem butL_upI {l : List Nat} {m m1 : vM} {a j : Nat} {v : Int32} (h : butL l m m1) (ha : a ∈ l) : butL l m (upI m1 a j v) := ⟨fun b hb => (upI_o _ _ _ _ _ (fun e => hb (by rw [e]; exact ha))).trans (h.1 b hb), h.2⟩
theorem butL_upA {l : List Nat} {m m1 : vM} {a : Nat} {f : Nat → Int32} (h : butL l m m1) (ha : a ∈ l) : butL l m (upA m1 a f) := ⟨fun b hb => (upA_o _ _ _ _ (fun e => hb (by rw [e]; exact ha))).trans (h.1 b hb), h.2⟩
theorem butL.of2 {l : List Nat} {x y : Nat} {m m1 : vM} (h : but2 x y m m1) (hx : x ∈ l) (hy : y ∈ l) : butL l m m1 := ⟨fun a ha => h.1 a (fun e => ha (e ▸ hx)) (fun e => ha (e ▸ hy)), h.2⟩
theorem butL.agr {l : List Nat} {m m1 : vM} (h : butL l m m1) (hs : ∀ a ∈ l, ∀ j, scr a j = true) : agr m m1 := by
  intro a j hsc
  rw [h.1 a]
  intro ha
  rw [hs a ha j] at hsc
  cases hsc
theorem butL.at {l : List Nat} {m m1 : vM} (h : butL l m m1) (a : Nat) (ha : a ∉ l := by decide) : m1.1 a = m.1 a := h.1 a ha
def upG (T : tT) (G : Nat → Nat) (lk col s c : Nat) : Nat := if lk = 0 then G c else if col ≤ c ∧ c < col + s then (if G c < shN lk (T 165) col s c then shN lk (T 165) col s c else G c) else G c
def growF (T : tT) (what : Nat) (b : Nat → Nat) (s : Nat) : Nat → Nat → Nat
  | 0, _ => 0
  | k + 1, c => if T 172 k = 0 ∧ T 171 k = s then upG T (growF T what b s k) (wantT T k what - spanN (T 163 4) b (T 169 k) s) (T 169 k) s c else growF T what b s k c
def widF (T : tT) (what : Nat) : Nat → Nat → Nat
  | 0, _ => 0
  | s + 1, c => widF T what s c + growF T what (widF T what s) (s + 1) (T 163 7) c
theorem sumR_pos {T : tT} (h : ∀ c, c < 6 → 1 ≤ T 165 c ∧ T 165 c ≤ 9) {col s : Nat} (hs : 1 ≤ s) (h6 : col + s ≤ 6) : 1 ≤ sumR (T 165) col s := by
  have h1 := nsum_ge (f := fun j => T 165 (col + j)) (i := 0) (w := s) (by omega)
  have h2 := (h (col + 0) (by omega)).1
  unfold sumR
  exact Nat.le_trans h2 h1
section CWD
variable {m : vM} {T : tT}
theorem Vw.wt (hV : Vw m T) : ∀ c, c < 6 → 1 ≤ T 165 c ∧ T 165 c ≤ 9 := hV.1.2.2.2.2.1
theorem growF_bd (hV : Vw m T) {what : Nat} {b : Nat → Nat} {s : Nat} (hs : 1 ≤ s) : ∀ k, k ≤ T 163 7 → ∀ c, growF T what b s k c ≤ 257 ∧ (T 163 3 ≤ c → growF T what b s k c = 0) := by
  intro k
  induction k with
  | zero => intro _ c; exact ⟨Nat.zero_le _, fun _ => rfl⟩
  | succ k ih =>
    intro hk c
    obtain ⟨i1, i2⟩ := ih (by omega) c
    obtain ⟨d1, d2, d3, d4, d5, d6, d7, -⟩ := hV.cell (k := k) (by omega)
    have hC := hV.C
    have hw := wantT_le hV (k := k) (by omega) (what := what)
    unfold growF
    split
    · rename_i hq
      rw [hq.2] at d4 d5
      have hlk : wantT T k what - spanN (T 163 4) b (T 169 k) s ≤ 251 := by omega
      generalize wantT T k what - spanN (T 163 4) b (T 169 k) s = lk at *
      unfold upG
      split
      · exact ⟨i1, i2⟩
      · split
        · rename_i h0 hc
          have h2 := (shN_eq (n := lk) (sumR_pos hV.wt hs (show T 169 k + s ≤ 6 by omega)) hs (by omega) (by omega) hc.1 hc.2).2
          refine ⟨by split <;> omega, fun h => absurd hc.2 (by omega)⟩
        · exact ⟨i1, i2⟩
    · exact ⟨i1, i2⟩
theorem widF_bd (hV : Vw m T) {what : Nat} : ∀ s c, widF T what s c ≤ 257 * s ∧ (T 163 3 ≤ c → widF T what s c = 0) := by
  intro s
  induction s with
  | zero => intro c; exact ⟨Nat.zero_le _, fun _ => rfl⟩
  | succ s ih =>
    intro c
    obtain ⟨h1, h2⟩ := ih c
    obtain ⟨g1, g2⟩ := growF_bd hV (what := what) (b := widF T what s) (s := s + 1) (by omega) (T 163 7) (Nat.le_refl _) c
    unfold widF
    refine ⟨by omega, fun h => by rw [h2 h, g2 h]⟩
theorem spanN_bd {g col many B : Nat} {b : Nat → Nat} (hg : g ≤ 3) (hm : many ≤ 6) (hb : ∀ j, j < many → b (col + j) ≤ B) : spanN g b col many ≤ 15 + B * 6 := by
  have h1 := nsum_le (f := fun j => b (col + j)) hb
  have h2 : B * many ≤ B * 6 := Nat.mul_le_mul_left _ hm
  have h3 : (many - 1) * g ≤ 5 * 3 := Nat.mul_le_mul (by omega) hg
  unfold spanN
  omega
theorem nI_sub_pos {x y : Nat} (hx : x < 2 ^ 30) (hy : y < 2 ^ 30) : (0 < nI x - nI y) = (y < x) := by
  refine propext ⟨fun h => ?_, fun h => ?_⟩
  · rcases Nat.lt_or_ge y x with q | q
    · exact q
    · exfalso
      have h1 := pk_sub_toInt hx hy
      rw [Int32.lt_iff_toInt_lt, h1, Int32.toInt_zero] at h
      omega
  · rw [Int32.lt_iff_toInt_lt, pk_sub_toInt hx hy, Int32.toInt_zero]
    omega
theorem c_X5_noteLack (hV : Vw m T) {k x y : Nat} {G : Nat → Nat} (hk : k < T 163 7) (hx : x ≤ 251) (hy : y < 2 ^ 30) (hG : ∀ c, c < 6 → m.1 136 c = nI (G c) ∧ G c ≤ 1000) {P : vM → Prop}
    (hp : ∀ m1, butL [134, 135, 136] m m1 → (∀ c, c < 6 → m1.1 136 c = nI (upG T G (x - y) (T 169 k) (T 171 k) c)) → P m1) : EI_X5_noteLack k (nI x - nI y) m P := by
  have h40 := hV.E40
  have hC := hV.C
  obtain ⟨d1, d2, d3, d4, d5, d6, d7, -⟩ := hV.cell hk
  obtain ⟨c0, c1, c2, c3, c4, c5, c6, c7, c8, c9⟩ := hV.xc hk
  refine f_X5_noteLack (b_X5_noteLack_0 (by omega) ?_)
  unfold wp_X5_noteLack_0
  rw [nI_sub_pos (by omega) hy, c2, c4, adI]
  refine ⟨fun hlt => ?_, fun hlt => hp m butL.rfl' (fun c hc => by unfold upG; rw [if_pos (by omega)]; exact (hG c hc).1)⟩
  rw [sbI (by omega)]
  have hS := sumR_pos hV.wt d4 (show T 169 k + T 171 k ≤ 6 by omega)
  refine c_X4_divide (num := T 165) sh_2 (by decide) (by decide) (by decide) d4 (by omega) (by omega) (fun j hj => ⟨(hV.w (by omega)).1, by have := (hV.wt (T 169 k + j) (by omega)).2; omega⟩) (by omega) hS (fun m1 hb1 hin hout => ?_)
  have e136 : m1.1 136 = m.1 136 := hb1.1 136 (by decide) (by decide)
  have hsh : ∀ c, c < 6 → ∃ q : Nat, q ≤ 257 ∧ m1.1 134 c = nI q ∧ (T 169 k ≤ c ∧ c < T 169 k + T 171 k → q = shN (x - y) (T 165) (T 169 k) (T 171 k) c) ∧ (¬ (T 169 k ≤ c ∧ c < T 169 k + T 171 k) → q = 0) := by
    intro c hc
    by_cases hr : T 169 k ≤ c ∧ c < T 169 k + T 171 k
    · have h1 := hin (c - T 169 k) (by omega)
      rw [show T 169 k + (c - T 169 k) = c by omega] at h1
      have h2 := (shN_eq (n := x - y) hS d4 (by omega) (by omega) hr.1 hr.2).2
      exact ⟨_, by omega, h1, fun _ => rfl, fun q => absurd hr q⟩
    · exact ⟨0, by omega, hout c hc (by omega), fun q => absurd q hr, fun _ => rfl⟩
  refine loop_up (Q := fun i => ∀ mm : vM, butL [134, 135, 136] m mm → mm.1 134 = m1.1 134 → (∀ c, c < 6 → mm.1 136 c = nI (if c < i then upG T G (x - y) (T 169 k) (T 171 k) c else G c)) → J_X5_noteLack_35 (nI i) mm P) (n := 6) ?_ (fun i hi ih => ?_) 0 (by omega) m1 (butL.of2 hb1 (by decide) (by decide)) rfl (fun c hc => by rw [e136, if_neg (by omega)]; exact (hG c hc).1)
  · intro mm hb hp4 hg
    refine b_X5_noteLack_35 ?_
    unfold wp_X5_noteLack_35
    exact ⟨fun _ => hp mm hb (fun c hc => by rw [hg c hc, if_pos hc]), fun h => absurd (by decide) h⟩
  · intro mm hb hp4 hg
    refine b_X5_noteLack_35 ?_
    unfold wp_X5_noteLack_35
    obtain ⟨q, hq, e, e1, e2⟩ := hsh i hi
    have hGi := (hG i hi).2
    rw [clI i (by omega), hp4, e, hg i hi, if_neg (Nat.lt_irrefl _), ad1I]
    refine ⟨fun h => absurd h (nI_ge (b := 6) hi (by omega)), fun _ => ⟨vI hi (by omega), vI hi (by omega), vI hi (by omega), ?_⟩⟩
    rintro _ rfl
    refine ih _ (butL_upI hb (by decide)) (by rw [upI_o _ _ _ _ _ (by decide)]; exact hp4) (fun c hc => ?_)
    by_cases hci : c = i
    · subst hci
      rw [upI_s, if_pos (show c < c + 1 by omega)]
      simp only [ltI (a := G c) (b := q) (by omega) (by omega)]
      have eu : upG T G (x - y) (T 169 k) (T 171 k) c = if G c < q then q else G c := by
        unfold upG
        rw [if_neg (show ¬ x - y = 0 by omega)]
        by_cases hr : T 169 k ≤ c ∧ c < T 169 k + T 171 k
        · rw [if_pos hr, ← e1 hr]
        · rw [if_neg hr, e2 hr, if_neg (Nat.not_lt_zero _)]
      rw [eu]
      split <;> rfl
    · rw [upI_n _ _ _ _ _ _ (Or.inr hci), hg c hc]
      by_cases hlt2 : c < i
      · rw [if_pos hlt2, if_pos (by omega)]
      · rw [if_neg hlt2, if_neg (by omega)]
theorem c_X7_lacks (hV : Vw m T) {col s x y : Nat} {G : Nat → Nat} (hs : 1 ≤ s) (h6 : col + s ≤ T 163 3) (hx : x ≤ 251) (hy : y < 2 ^ 30) (hG : ∀ c, c < T 163 3 → m.1 184 c = nI (G c) ∧ G c ≤ 1000) {P : vM → Prop}
    (hp : ∀ m1, butL [178, 179, 180, 184] m m1 → (∀ c, c < T 163 3 → m1.1 184 c = nI (upG T G (x - y) col s c)) → P m1) : EI_X7_lacks (nI x - nI y) (nI col) (nI s) m P := by
  have hC := hV.C
  refine f_X7_lacks (b_X7_lacks_0 ?_)
  unfold wp_X7_lacks_0
  rw [nI_sub_pos (by omega) hy]
  refine ⟨fun hlt => ?_, fun hlt => hp m butL.rfl' (fun c hc => by unfold upG; rw [if_pos (by omega)]; exact (hG c hc).1)⟩
  rw [sbI (by omega)]
  have hS := sumR_pos hV.wt hs (show col + s ≤ 6 by omega)
  refine loop_up (Q := fun i => ∀ mm : vM, butL [178] m mm → (∀ j, j < i → mm.1 178 (col + j) = nI (T 165 (col + j))) → J_X7_lacks_8 (nI (x - y)) (nI col) (nI s) (nI (col + i)) mm P) (n := s) ?_ (fun i hi ih => ?_) 0 (by omega) m butL.rfl' (fun j hj => absurd hj (Nat.not_lt_zero _))
  · intro mm hb hn
    refine b_X7_lacks_8 ?_
    unfold wp_X7_lacks_8
    rw [adI]
    refine ⟨fun _ => ?_, fun h => absurd (nI_le (Nat.le_refl _) (by omega)) h⟩
    refine c_X7_share (num := T 165) hs (by omega) (fun j hj => ⟨hn j hj, by have := (hV.wt (col + j) (by omega)).2; omega⟩) (by omega) hS (fun m1 hb1 hin => ?_)
    have e184 : m1.1 184 = m.1 184 := by rw [hb1.1 184 (by decide) (by decide), hb.at 184]
    have hbb : butL [178, 179, 180, 184] m m1 := (hb.mono (by decide)).trans (butL.of2 hb1 (by decide) (by decide))
    refine loop_up (Q := fun i => ∀ mm : vM, butL [178, 179, 180, 184] m mm → mm.1 179 = m1.1 179 → (∀ c, c < T 163 3 → mm.1 184 c = nI (if c < col + i then upG T G (x - y) col s c else G c)) → J_X7_lacks_48 (nI col) (nI s) (nI (col + i)) mm P) (n := s) ?_ (fun i hi ih => ?_) 0 (by omega) m1 hbb rfl (fun c hc => ?_)
    · intro mm hb hp4 hg
      refine b_X7_lacks_48 ?_
      unfold wp_X7_lacks_48
      rw [adI]
      refine ⟨fun _ => hp mm hb (fun c hc => ?_), fun h => absurd (nI_le (Nat.le_refl _) (by omega)) h⟩
      rw [hg c hc]
      by_cases hlt2 : c < col + s
      · rw [if_pos hlt2]
      · rw [if_neg hlt2]; unfold upG; rw [if_neg (by omega), if_neg (by omega)]
    · intro mm hb hp4 hg
      refine b_X7_lacks_48 ?_
      unfold wp_X7_lacks_48
      have e := hin i hi
      have h2 := (shN_eq (n := x - y) (c := col + i) hS hs (by omega) (by omega) (by omega) (by omega)).2
      have hGi := (hG (col + i) (by omega)).2
      have hgi := hg (col + i) (by omega)
      rw [if_neg (Nat.lt_irrefl _)] at hgi
      have hv : vp_in (nI (col + i)) 6 := vI (by omega) (by omega)
      have eup : upG T G (x - y) col s (col + i) = if G (col + i) < shN (x - y) (T 165) col s (col + i) then shN (x - y) (T 165) col s (col + i) else G (col + i) := by
        unfold upG; rw [if_neg (by omega), if_pos (by omega)]
      rw [adI, clI (col + i) (by omega), hp4, e, hgi, ad1I, leI (a := shN (x - y) (T 165) col s (col + i)) (by omega) (by omega)]
      have step : ∀ v : Nat, v = upG T G (x - y) col s (col + i) → J_X7_lacks_48 (nI col) (nI s) (nI (col + i + 1)) (upI mm 184 (col + i) (nI v)) P := by
        rintro v rfl
        rw [Nat.add_assoc]
        refine ih _ (butL_upI hb (by decide)) (by rw [upI_o _ _ _ _ _ (by decide)]; exact hp4) (fun c hc => ?_)
        by_cases hci : c = col + i
        · subst hci
          rw [upI_s, if_pos (by omega)]
        · rw [upI_n _ _ _ _ _ _ (Or.inr hci), hg c hc]
          by_cases hlt2 : c < col + i
          · rw [if_pos hlt2, if_pos (by omega)]
          · rw [if_neg hlt2, if_neg (by omega)]
      refine ⟨fun h => absurd h (nI_ge (by omega) (by omega)), fun _ => ⟨hv, hv, fun z => ⟨hv, hv, ?_⟩, fun z => ⟨hv, hv, ?_⟩⟩⟩
      · rintro _ rfl
        exact step _ (by rw [eup, if_neg (by omega)])
      · rintro _ rfl
        exact step _ (by rw [eup, if_pos (by omega)])
    · rw [e184, (hG c hc).1]
      by_cases hlt2 : c < col + 0
      · rw [if_pos hlt2]; unfold upG; rw [if_neg (by omega), if_neg (by omega)]
      · rw [if_neg hlt2]
  · intro mm hb hn
    refine b_X7_lacks_8 ?_
    unfold wp_X7_lacks_8
    have e165 : mm.1 165 = m.1 165 := hb.at 165
    rw [adI, clI (col + i) (by omega), e165, (hV.w (c := col + i) (by omega)).2, ad1I]
    refine ⟨fun h => absurd h (nI_ge (by omega) (by omega)), fun _ => ⟨vI (by omega) (by omega), vI (by omega) (by omega), ?_⟩⟩
    rintro _ rfl
    rw [Nat.add_assoc]
    refine ih _ (butL_upI hb (by decide)) (fun j hj => ?_)
    rcases Nat.lt_succ_iff_lt_or_eq.mp hj with q | q
    · rw [upI_n _ _ _ _ _ _ (Or.inr (by omega))]; exact hn j q
    · subst q; rw [upI_s]
end CWD
