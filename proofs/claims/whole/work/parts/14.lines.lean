/-! lines of a cell in a width: both sides; the class's remembered ones -/
def lnW (T : tT) (k w : Nat) : Nat := lnT T k (if w < 1 then 1 else w)
def CK (m : vM) (T : tT) : Prop := ∀ k, k < T 163 7 → ∀ w, 1 ≤ w → w < 252 → m.1 (cA k + 2) w = -1 ∨ m.1 (cA k + 2) w = nI (lnT T k w)
def agK (m m1 : vM) : Prop := (∀ a, (∀ k, k < 40 → a ≠ cA k + 2) → m1.1 a = m.1 a) ∧ m1.2 = m.2
theorem agK.rfl' {m : vM} : agK m m := ⟨fun _ _ => rfl, rfl⟩
theorem agK.trans {m m1 m2 : vM} (h : agK m m1) (h2 : agK m1 m2) : agK m m2 := ⟨fun a ha => (h2.1 a ha).trans (h.1 a ha), h2.2.trans h.2⟩
theorem agK.agr {m m1 : vM} (h : agK m m1) : agr m m1 := by
  intro a j hs
  rw [h.1 a]
  intro k hk e
  subst e
  rw [scr_cK hk] at hs
  cases hs
theorem cK_ne {a k : Nat} (h : a < 5 ∨ 125 ≤ a) : k < 40 → a ≠ cA k + 2 := by intro hk; unfold cA; omega
theorem agK.at {m m1 : vM} (h : agK m m1) (a : Nat) (ha : a < 5 ∨ 125 ≤ a) : m1.1 a = m.1 a := h.1 a (fun _ hk => cK_ne ha hk)
theorem cA_inj2 {k j : Nat} (h : cA k + 2 = cA j + 2) : k = j := by unfold cA at h; omega
theorem nI_m1 (n : Nat) (h : n < 2 ^ 31) : ¬ nI n = -1 := by
  intro e
  have h1 := nI_toInt h
  rw [e] at h1
  have h2 : ((-1 : Int32)).toInt = -1 := by decide
  omega
section CL
variable {m : vM} {T : tT} {k : Nat}
theorem c_X7_linesOf (hV : Vw m T) (hk : k < T 163 7) {w : Nat} (hw : w ≤ 100000) {P : Int32 → vM → Prop} (hp : P (nI (lnW T k w)) m) : EI_X7_linesOf (nI k) (nI w) m P := by
  have h40 := hV.E40
  have h12 := pcT_ok hV hk
  obtain ⟨c0, c1, c2, c3, c4, c5, c6, c7, c8, c9⟩ := hV.mc hk
  have hLok := ltT_ok hV hk
  refine f_X7_linesOf (b_X7_linesOf_0 ?_)
  unfold wp_X7_linesOf_0
  have main : ∀ v : Nat, 1 ≤ v → v ≤ 100000 → P (nI (lnT T k v)) m → J_X7_linesOf_20 (nI k) (nI v) 0 0 0 m P := by
    intro v hv1 hv2 hp
    refine loop_up (Q := fun i => J_X7_linesOf_20 (nI k) (nI v) (nI (lnN (ltT T k) v i).1) (nI (lnN (ltT T k) v i).2) (nI i) m P) (n := T 173 k) ?_ (fun i hi ih => ?_) 0 (Nat.zero_le _)
    · refine b_X7_linesOf_20 ?_
      unfold wp_X7_linesOf_20
      rw [clI k (by omega), c7]
      exact ⟨vI (by omega) (by omega), fun _ => hp, fun h => absurd (nI_le (Nat.le_refl _) (by omega)) h⟩
    · refine b_X7_linesOf_20 ?_
      unfold wp_X7_linesOf_20
      obtain ⟨b1, b2, b3⟩ := lnN_bd hv1 hLok i (by omega)
      obtain ⟨l1, l2⟩ := hLok i hi
      have hd : (ltT T k i - 1) / v ≤ ltT T k i - 1 := Nat.div_le_self _ _
      have hmu : (ltT T k i - 1) / v * v ≤ ltT T k i - 1 := Nat.div_mul_le_self _ _
      have en : lnN (ltT T k) v (i + 1) = if v < ltT T k i then ((lnN (ltT T k) v i).1 + ((ltT T k i - 1) / v + 1), ltT T k i - (ltT T k i - 1) / v * v) else if 0 < i ∧ (lnN (ltT T k) v i).2 + 1 + ltT T k i ≤ v then ((lnN (ltT T k) v i).1, (lnN (ltT T k) v i).2 + (1 + ltT T k i)) else ((lnN (ltT T k) v i).1 + 1, ltT T k i) := rfl
      have e9 : m.1 174 (12 * k + i) = nI (ltT T k i) := c9 i hi
      generalize lnN (ltT T k) v i = q at *
      generalize ltT T k i = x at *
      rw [clI k (by omega), c7, m12I, adI, clI _ (by omega), e9]
      refine ⟨vI (by omega) (by omega), fun h => absurd h (nI_ge hi (by omega)), fun _ => ⟨vI (by omega) (by omega), ?_⟩⟩
      rintro _ rfl
      rw [leI (a := x) (by omega) (by omega), le0I (by omega), ad1I, ad1I, ad1I, adI, ltI (a := v) (by omega) (by omega)]
      refine ⟨fun hx => ⟨fun h0 => ?_, fun h0 => ⟨fun h1 => ?_, fun h1 => ?_⟩⟩, fun hx => ⟨?_, ?_⟩⟩
      · rw [if_neg (by omega), if_neg (by omega)] at en
        rw [en] at ih
        exact ih
      · rw [if_neg (by omega), if_neg (by omega)] at en
        rw [en] at ih
        exact ih
      · rintro _ rfl
        rw [if_neg (by omega), if_pos (by omega)] at en
        rw [en] at ih
        rw [show (1 : Int32) = nI 1 from rfl, adI, adI]
        exact ih
      · rw [eq0I (by omega)]; omega
      · rintro _ rfl _ rfl _ rfl
        rw [if_pos (by omega)] at en
        rw [en] at ih
        rw [show (1 : Int32) = nI 1 from rfl, sbI (by omega), pk_div (by omega) (by omega) (by omega), adI, adI, mlI, sbI (by omega)]
        exact ih
  unfold lnW at hp
  rw [ge1I (by omega)]
  refine ⟨fun h => main w h hw (by rw [if_neg (by omega)] at hp; exact hp), fun h => main 1 (by omega) (by omega) (by rw [if_pos (by omega)] at hp; exact hp)⟩
theorem c_X0_countLines (hV : Vw m T) (hk : k < T 163 7) {w : Nat} (hw1 : 1 ≤ w) (hw : w ≤ 100000) {P : Int32 → vM → Prop} (hp : P (nI (lnT T k w)) m) : EI_X0_countLines k (nI w) m P := by
  have h40 := hV.E40
  have h12 := pcT_ok hV hk
  have hk4 : k < 40 := by omega
  obtain ⟨c0, c1, c2, c3, c4, c5, c6, c7, c8, c9⟩ := hV.xc hk
  have hLok := ltT_ok hV hk
  refine f_X0_countLines (b_X0_countLines_0 hk4 ?_)
  unfold wp_X0_countLines_0
  rw [ge1I (by omega)]
  refine ⟨fun _ => ?_, fun h => absurd hw1 h⟩
  refine loop_up (Q := fun i => J_X0_countLines_14 k (nI w) (nI (lnN (ltT T k) w i).1) (nI (lnN (ltT T k) w i).2) (nI i) m P) (n := T 173 k) ?_ (fun i hi ih => ?_) 0 (Nat.zero_le _)
  · refine b_X0_countLines_14 hk4 ?_
    unfold wp_X0_countLines_14
    rw [c7]
    exact ⟨fun _ => hp, fun h => absurd (nI_le (Nat.le_refl _) (by omega)) h⟩
  · refine b_X0_countLines_14 hk4 ?_
    unfold wp_X0_countLines_14
    obtain ⟨b1, b2, b3⟩ := lnN_bd hw1 hLok i (by omega)
    obtain ⟨l1, l2⟩ := hLok i hi
    have hd : (ltT T k i - 1) / w ≤ ltT T k i - 1 := Nat.div_le_self _ _
    have hmu : (ltT T k i - 1) / w * w ≤ ltT T k i - 1 := Nat.div_mul_le_self _ _
    have en := lnN_alt (L := ltT T k) hw1 l1 b3
    have e9 : m.1 (cA k + 1) i = nI (ltT T k i) := c9 i hi
    generalize lnN (ltT T k) w i = q at *
    generalize ltT T k i = x at *
    rw [c7, clI i (by omega), e9]
    refine ⟨fun h => absurd h (nI_ge hi (by omega)), fun _ => ⟨fun h => absurd h (nI_ge (b := 12) (by omega) (by omega)), fun _ => ⟨vI (by omega) (by omega), ?_⟩⟩⟩
    rintro _ rfl
    rw [le0I (by omega), ad1I, ad1I, adI, ltI (a := w) (by omega) (by omega)]
    have hb : (¬ (0 < q.1 ∧ q.2 + 1 + x ≤ w)) → J_X0_countLines_66 k (nI w) (nI q.1) (nI i) (nI x) m P := by
      intro hq
      rw [if_neg hq] at en
      rw [en] at ih
      refine b_X0_countLines_66 hk4 ?_
      unfold wp_X0_countLines_66
      rw [eq0I (by omega)]
      refine ⟨by omega, ?_⟩
      rintro _ rfl _ rfl _ rfl
      rw [show (1 : Int32) = nI 1 from rfl, sbI (by omega), pk_div (by omega) (by omega) (by omega), adI, adI, mlI, sbI (by omega), adI]
      exact ih
    refine ⟨fun h0 => hb (by omega), fun h0 => ⟨fun h1 => hb (by omega), fun h1 => ?_⟩⟩
    rintro _ rfl
    rw [if_pos (by omega)] at en
    rw [en] at ih
    rw [show (1 : Int32) = nI 1 from rfl, adI, adI]
    exact ih
theorem c_X0_linesIn (hV : Vw m T) (hK : CK m T) (hk : k < T 163 7) {w : Nat} (hw : w ≤ 100000) {P : Int32 → vM → Prop} (hp : ∀ m1, agK m m1 → CK m1 T → P (nI (lnW T k w)) m1) : wp_X0_linesIn k (nI w) m P := by
  have h40 := hV.E40
  have hk4 : k < 40 := by omega
  unfold wp_X0_linesIn
  have e0 : (if nI w < (1 : Int32) then (1 : Int32) else nI w) = nI (if w < 1 then 1 else w) := by
    simp only [show (nI w < (1 : Int32)) = (w < 1) from ltI (b := 1) (by omega) (by omega)]
    split <;> rfl
  have e1 : 1 ≤ (if w < 1 then 1 else w) := by split <;> omega
  have e2 : (if w < 1 then 1 else w) ≤ 100000 := by split <;> omega
  unfold lnW at hp
  rw [e0]
  generalize (if w < 1 then 1 else w) = v at *
  rintro _ rfl
  rw [clI v (by omega), show (nI v < (252 : Int32)) = (v < 252) from ltI (b := 252) (by omega) (by omega)]
  refine ⟨fun hv => ⟨vI hv (by omega), fun hm => ?_, fun hm => ⟨vI hv (by omega), ?_⟩⟩, fun hv => ?_⟩
  · refine c_X0_countLines hV hk e1 e2 ⟨vI hv (by omega), ?_⟩
    rintro _ rfl
    refine ⟨vI hv (by omega), ?_⟩
    rw [upI_s]
    refine hp _ ⟨fun a ha => upI_o _ _ _ _ _ (ha k hk4), rfl⟩ (fun j hj v' h1 h2 => ?_)
    by_cases hjk : j = k
    · subst hjk
      by_cases hvv : v' = v
      · subst hvv; right; rw [upI_s]
      · rw [upI_n _ _ _ _ _ _ (Or.inr hvv)]; exact hK j hj v' h1 h2
    · rw [upI_n _ _ _ _ _ _ (Or.inl (fun q => hjk (cA_inj2 q)))]; exact hK j hj v' h1 h2
  · rcases hK k hk v e1 hv with h | h
    · exact absurd h hm
    · rw [h]; exact hp m agK.rfl' hK
  · exact c_X0_countLines hV hk e1 e2 (hp m agK.rfl' hK)
end CL
