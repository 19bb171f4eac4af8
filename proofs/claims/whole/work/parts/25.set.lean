/-! what both sides hold between two calls -/
def Ms (m : vM) : Prop := m.1 0 5 = m.1 163 0 ∧ (∀ f, 1 ≤ f → f ≤ 6 → m.1 162 f = m.1 164 f) ∧ m.1 0 6 = m.1 163 18 ∧ m.1 0 7 = m.1 163 29
def Wd (m : vM) (T : tT) : Prop := ∀ c, c < T 163 3 → m.1 130 c = nI (T 181 c) ∧ m.1 181 c = nI (T 181 c) ∧ T 181 c ≤ 5000
def Pg (m : vM) (T : tT) : Prop := m.1 139 0 = nI (T 163 32) ∧ m.1 163 32 = nI (T 163 32) ∧ T 163 32 ≤ 16 ∧ (∀ p, p < T 163 32 → (m.1 (141 + p) 0 = nI (T 189 p) ∧ m.1 189 p = nI (T 189 p)) ∧ (m.1 (141 + p) 1 = nI (T 190 p) ∧ m.1 190 p = nI (T 190 p)) ∧ m.1 (141 + p) 2 = m.1 191 p ∧ m.1 (141 + p) 3 = m.1 192 p ∧ T 189 p + T 190 p ≤ 16) ∧ ∀ r, r < T 163 2 → Lst (fun p => r < T 189 p + T 190 p) (T 163 32) (m.1 193 r)
def InvT (m : vM) (T : tT) : Prop := Vw m T ∧ CK m T ∧ Ms m ∧ Wd m T ∧ Pg m T
def Inv (m : vM) : Prop := ∃ T, InvT m T
theorem scr_F {p j : Nat} (hp : p < 16) : scr (141 + p) j = false := by
  unfold scr
  simp only [Bool.or_eq_false_iff, Bool.and_eq_false_iff, beq_eq_false_iff_ne, decide_eq_false_iff_not, ne_eq]
  omega
theorem InvT.agr {m m1 : vM} {T : tT} (h : InvT m T) (ha : agr m m1) (hK : CK m1 T) : InvT m1 T := by
  obtain ⟨h1, h2, ⟨a1, a2, a3, a4⟩, h4, ⟨b1, b2, b3, b4, b5⟩⟩ := h
  refine ⟨h1.agr ha, hK, ⟨?_, fun f x y => ?_, ?_, ?_⟩, fun c hc => ?_, ⟨(ha _ _ rfl).trans b1, (ha _ _ rfl).trans b2, b3, fun p hp => ?_, fun r hr => ?_⟩⟩
  · rw [ha 0 5 rfl, ha 163 0 rfl]; exact a1
  · rw [ha 162 f rfl, ha 164 f rfl]; exact a2 f x y
  · rw [ha 0 6 rfl, ha 163 18 rfl]; exact a3
  · rw [ha 0 7 rfl, ha 163 29 rfl]; exact a4
  · rw [ha 130 c rfl, ha 181 c rfl]; exact h4 c hc
  · have := b4 p hp
    rw [ha _ 0 (scr_F (by omega)), ha _ 1 (scr_F (by omega)), ha _ 2 (scr_F (by omega)), ha _ 3 (scr_F (by omega)), ha 189 p rfl, ha 190 p rfl, ha 191 p rfl, ha 192 p rfl]
    exact this
  · rw [ha 193 r rfl]; exact b5 r hr
theorem withinN {x : Int32} {lo hi : Nat} {m : vM} {P : Int32 → vM → Prop} (hlh : lo < 2 ^ 31) (hh : hi < 2 ^ 31) (h1 : ∀ n, lo ≤ n → n ≤ hi → x = nI n → P 1 m) (h0 : (∀ n, lo ≤ n → n ≤ hi → x ≠ nI n) → P 0 m) : (x < nI lo → P 0 m) ∧ (¬ x < nI lo → (nI hi < x → P 0 m) ∧ (¬ nI hi < x → P 1 m)) := by
  refine ⟨fun h => h0 (fun n g1 g2 e => ?_), fun h => ⟨fun g => h0 (fun n g1 g2 e => ?_), fun g => ?_⟩⟩
  · rw [e] at h
    exact nI_nlt g1 (by omega) h
  · rw [e] at g
    exact nI_nlt g2 (by omega) g
  · have hx : ¬ x < 0 := fun q => h (by
      rw [Int32.lt_iff_toInt_lt, Int32.toInt_zero] at q
      rw [Int32.lt_iff_toInt_lt, nI_toInt hlh]
      omega)
    obtain ⟨j, hj, rfl⟩ := nI_of hx
    rw [ltI hj hlh] at h
    rw [ltI hh hj] at g
    exact h1 j (by omega) (by omega) rfl
theorem w_isWithin {x a b : Int32} {lo hi : Nat} {m : vM} {P : Int32 → vM → Prop} (ha : a = nI lo) (hb : b = nI hi) (hlh : lo < 2 ^ 31) (hh : hi < 2 ^ 31) (h1 : ∀ n, lo ≤ n → n ≤ hi → x = nI n → P 1 m) (h0 : (∀ n, lo ≤ n → n ≤ hi → x ≠ nI n) → P 0 m) : wp_X6_isWithin x a b m P := by
  subst ha hb
  unfold wp_X6_isWithin
  exact withinN hlh hh h1 h0
theorem w_in {x a b : Int32} {lo hi : Nat} {m : vM} {P : Int32 → vM → Prop} (ha : a = nI lo) (hb : b = nI hi) (hlh : lo < 2 ^ 31) (hh : hi < 2 ^ 31) (h1 : ∀ n, lo ≤ n → n ≤ hi → x = nI n → P 1 m) (h0 : (∀ n, lo ≤ n → n ≤ hi → x ≠ nI n) → P 0 m) : wp_X7_in x a b m P := by
  subst ha hb
  unfold wp_X7_in
  exact withinN hlh hh h1 h0
def upT (T : tT) (a : Nat) (f : Nat → Nat) : tT := fun b => if b = a then f else T b
theorem upT_o (T : tT) (a b : Nat) (f : Nat → Nat) (h : b ≠ a) : upT T a f b = T b := if_neg h
theorem upT_s (T : tT) (a : Nat) (f : Nat → Nat) : upT T a f a = f := if_pos rfl
theorem VwK_congr {m : vM} {T T' : tT} (h : ∀ a, a ≤ 176 → T' a = T a) (hV : Vw m T) (hK : CK m T) : Vw m T' ∧ CK m T' := by
  have e163 := h 163 (by decide)
  have e165 := h 165 (by decide)
  have e166 := h 166 (by decide)
  have e167 := h 167 (by decide)
  have e168 := h 168 (by decide)
  have e169 := h 169 (by decide)
  have e170 := h 170 (by decide)
  have e171 := h 171 (by decide)
  have e172 := h 172 (by decide)
  have e173 := h 173 (by decide)
  have e174 := h 174 (by decide)
  have e175 := h 175 (by decide)
  have e176 := h 176 (by decide)
  refine ⟨?_, ?_⟩
  · unfold Vw Tok VH VCx VCm CellT ovl at *
    simp only [e163, e165, e166, e167, e168, e169, e170, e171, e172, e173, e174, e175, e176]
    exact hV
  · unfold CK lnT ltT at *
    simp only [e163, e173, e174]
    exact hK
def setW (T : tT) (sp c : Nat) : Nat :=
  if nsum (BT T) (T 163 3) - nsum (LT T) (T 163 3) < sp then BT T c + shN (sp - (nsum (BT T) (T 163 3) - nsum (LT T) (T 163 3))) (T 165) 0 (T 163 3) c
  else if nsum (fun c => BT T c - LT T c) (T 163 3) = 0 then LT T c + shN sp (T 165) 0 (T 163 3) c
  else LT T c + shN sp (fun c => BT T c - LT T c) 0 (T 163 3) c
theorem nsum_sub {f g : Nat → Nat} {n : Nat} (h : ∀ i, i < n → g i ≤ f i) : nsum (fun i => f i - g i) n = nsum f n - nsum g n ∧ nsum g n ≤ nsum f n := by
  induction n with
  | zero => exact ⟨rfl, Nat.le_refl _⟩
  | succ n ih =>
    obtain ⟨h1, h2⟩ := ih (fun i hi => h i (by omega))
    have h3 := h n (by omega)
    show nsum (fun i => f i - g i) n + (f n - g n) = nsum f n + f n - (nsum g n + g n) ∧ nsum g n + g n ≤ nsum f n + f n
    omega
section CSET
variable {m : vM} {T : tT}
theorem sums_bd (hV : Vw m T) : nsum (LT T) (T 163 3) ≤ 1542 * 6 ∧ nsum (BT T) (T 163 3) ≤ 1542 * 6 ∧ nsum (LT T) (T 163 3) ≤ nsum (BT T) (T 163 3) ∧ nsum (fun c => BT T c - LT T c) (T 163 3) = nsum (BT T) (T 163 3) - nsum (LT T) (T 163 3) := by
  have hC := hV.C
  have h1 := nsum_le (f := LT T) (b := 1542) (n := T 163 3) (fun c _ => (LT_bd hV c).1)
  have h2 := nsum_le (f := BT T) (b := 1542) (n := T 163 3) (fun c _ => (BT_bd hV c).1)
  have h3 : 1542 * T 163 3 ≤ 1542 * 6 := Nat.mul_le_mul_left _ hC.2
  have h4 := nsum_sub (f := BT T) (g := LT T) (n := T 163 3) (fun c _ => (BT_bd hV c).2.1)
  exact ⟨by omega, by omega, h4.2, h4.1⟩
theorem sumR_all (hV : Vw m T) : 1 ≤ sumR (T 165) 0 (T 163 3) := sumR_pos hV.wt hV.C.1 (by have := hV.C; omega)
theorem sumR_num {num : Nat → Nat} {n : Nat} : sumR num 0 n = nsum num n := by
  unfold sumR
  exact nsum_congr (fun i _ => by rw [Nat.zero_add])
theorem setW_bd (hV : Vw m T) {sp c : Nat} (hsp : sp ≤ 400) (hc : c < T 163 3) : setW T sp c ≤ 5000 := by
  have hC := hV.C
  have h1 := (LT_bd hV c).1
  have h2 := (BT_bd hV c).1
  have hS := sumR_all hV
  unfold setW
  split
  · have := (shN_eq (n := sp - (nsum (BT T) (T 163 3) - nsum (LT T) (T 163 3))) hS hC.1 hC.2 (by omega) (Nat.zero_le c) (by omega)).2
    omega
  · split
    · have := (shN_eq (n := sp) hS hC.1 hC.2 (by omega) (Nat.zero_le c) (by omega)).2
      omega
    · rename_i h0
      have := (shN_eq (n := sp) (num := fun c => BT T c - LT T c) (by rw [sumR_num]; omega) hC.1 hC.2 (by omega) (Nat.zero_le c) (by omega)).2
      omega
theorem cpy6 (m : vM) (x a c : Nat) (hc : c < 6) : (upA m a (va_cpy (m.1 x) (m.1 a) (Int32.toNatClampNeg (0 : Int32)) (Int32.toNatClampNeg (0 : Int32)) (Int32.toNatClampNeg (6 : Int32)))).1 a c = m.1 x c := by
  rw [upA_s]
  have e0 : Int32.toNatClampNeg (0 : Int32) = 0 := by decide
  have e6 : Int32.toNatClampNeg (6 : Int32) = 6 := by decide
  rw [e0, e6]
  unfold va_cpy
  rw [if_pos ⟨Nat.zero_le _, by omega⟩]
  show m.1 x (0 + (c - 0)) = m.1 x c
  rw [Nat.sub_zero, Nat.zero_add]
theorem spread_end (hV : Vw m T) {n x nn a : Nat} {num A : Nat → Nat} (hx : x = 131 ∨ x = 132) (ha : SH a = (0, nn, vz)) (hwa : a < 197) (ha1 : a ≠ 134) (ha2 : a ≠ 135) (hnn : T 163 3 ≤ nn) (hA : ∀ c, c < 6 → m.1 x c = nI (A c)) (hnum : ∀ j, j < T 163 3 → m.1 a j = nI (num j) ∧ num j ≤ 20000) (hn : n ≤ 5000) (hS : 1 ≤ sumR num 0 (T 163 3)) {P : vM → Prop}
    (hp : ∀ m1, butL [130, 134, 135] m m1 → (∀ c, c < T 163 3 → m1.1 130 c = nI (A c + shN n num 0 (T 163 3) c)) → P m1) :
    EI_X4_divide (nI n) a nn 0 (nI (T 163 3)) m (fun m3 => (¬ (0 : Int32) < 0) ∧ (¬ (0 : Int32) < 0) ∧ (¬ (6 : Int32) < 0) ∧ ((Int32.toNatClampNeg (0 : Int32)) + (Int32.toNatClampNeg (6 : Int32)) ≤ 6) ∧ ((Int32.toNatClampNeg (0 : Int32)) + (Int32.toNatClampNeg (6 : Int32)) ≤ 6) ∧ ∀ m9 : vM, m9 = upA m3 130 (va_cpy (m3.1 x) (m3.1 130) (Int32.toNatClampNeg (0 : Int32)) (Int32.toNatClampNeg (0 : Int32)) (Int32.toNatClampNeg (6 : Int32))) → EI_X5_addTo 130 6 134 6 m9 P) := by
  have hC := hV.C
  have e1 : nI (T 163 3) = nI (0 + T 163 3) := by rw [Nat.zero_add]
  rw [e1]
  refine c_X4_divide (num := num) (f := 0) ha hwa ha1 ha2 hC.1 (by omega) (by omega) (fun j hj => by rw [Nat.zero_add]; exact hnum j hj) hn hS (fun m3 hb3 hin hout => ?_)
  refine ⟨by decide, by decide, by decide, by decide, by decide, ?_⟩
  rintro m9 em9
  have hb3' : butL [130, 134, 135] m m3 := butL.of2 hb3 (by decide) (by decide)
  have hb9 : butL [130, 134, 135] m m9 := by rw [em9]; exact butL_upA hb3' (by decide)
  have hx3 : m3.1 x = m.1 x := hb3.1 x (by omega) (by omega)
  have eC : m9.1 1 1 = m.1 1 1 := by rw [hb9.1 1 (by decide)]
  -- addTo needs only the number of columns: a view of the memory before 130 changed
  refine f_X5_addTo (b_X5_addTo_0 sh_130 (by decide) sh_134 (by decide) ?_)
  unfold wp_X5_addTo_0
  have hBc : ∀ c, c < T 163 3 → m9.1 134 c = nI (shN n num 0 (T 163 3) c) := fun c hc => by
    rw [em9, upA_o _ _ _ _ (by decide)]
    have := hin c hc
    rw [Nat.zero_add] at this
    exact this
  have hAc : ∀ c, c < 6 → m9.1 130 c = nI (A c) := fun c hc => by
    rw [em9, cpy6 m3 x 130 c hc, hx3]
    exact hA c hc
  refine loop_up (Q := fun i => ∀ mm : vM, butL [130] m9 mm → (∀ c, c < 6 → mm.1 130 c = nI (if c < i then A c + shN n num 0 (T 163 3) c else A c)) → J_X5_addTo_2 130 6 134 6 (nI i) mm P) (n := T 163 3) ?_ (fun i hi ih => ?_) 0 (Nat.zero_le _) m9 butL.rfl' (fun c hc => by rw [if_neg (Nat.not_lt_zero _)]; exact hAc c hc)
  · intro mm hb hg
    refine b_X5_addTo_2 sh_130 (by decide) sh_134 (by decide) ?_
    unfold wp_X5_addTo_2
    rw [hb.1 1 (by decide), eC, hV.xC]
    exact ⟨fun _ => hp mm (hb9.trans (hb.mono (by decide))) (fun c hc => by rw [hg c (by omega), if_pos hc]), fun h => absurd (nI_le (Nat.le_refl _) (by omega)) h⟩
  · intro mm hb hg
    refine b_X5_addTo_2 sh_130 (by decide) sh_134 (by decide) ?_
    unfold wp_X5_addTo_2
    have hv : vp_in (nI i) 6 := vI (by omega) (by omega)
    rw [hb.1 1 (by decide), eC, hV.xC, clI i (by omega), hg i (by omega), if_neg (Nat.lt_irrefl _), hb.1 134 (by decide), hBc i hi, adI, ad1I]
    refine ⟨fun h => absurd h (nI_ge hi (by omega)), fun _ => ⟨fun h => absurd h (nI_ge (b := 6) (by omega) (by omega)), fun _ => ⟨fun h => absurd h (nI_ge (b := 6) (by omega) (by omega)), fun _ => ⟨hv, hv, hv, ?_⟩⟩⟩⟩
    rintro _ rfl
    refine ih _ (butL_upI hb (by decide)) (fun c hc => ?_)
    by_cases hci : c = i
    · subst hci
      rw [upI_s, if_pos (show c < c + 1 by omega)]
    · rw [upI_n _ _ _ _ _ _ (Or.inr hci), hg c hc]
      by_cases hlt2 : c < i
      · rw [if_pos hlt2, if_pos (by omega)]
      · rw [if_neg hlt2, if_neg (by omega)]
theorem c_X5_spread (hV : Vw m T) {sp : Nat} (hsp : sp ≤ 400) (hLB : ∀ c, c < 6 → m.1 131 c = nI (LT T c) ∧ m.1 132 c = nI (BT T c)) {P : vM → Prop}
    (hp : ∀ m1, butL [130, 134, 135, 137] m m1 → (∀ c, c < T 163 3 → m1.1 130 c = nI (setW T sp c)) → P m1) : EI_X5_spread (nI sp) m P := by
  have hC := hV.C
  obtain ⟨s1, s2, s3, s4⟩ := sums_bd hV
  refine f_X5_spread (b_X5_spread_0 ?_)
  unfold wp_X5_spread_0
  refine c_X5_sumOf (A := BT T) hV sh_132 (by decide) (fun c hc => (hLB c (by omega)).2) ?_
  refine c_X5_sumOf (A := LT T) hV sh_131 (by decide) (fun c hc => (hLB c (by omega)).1) ?_
  rw [sbI s3, hV.xC]
  rintro _ rfl
  rw [show (0 : Int32) = nI 0 from rfl, nI_sub_le (by omega) (by omega) (by omega)]
  refine ⟨fun h0 => ?_, fun h0 => ?_⟩
  · have hset : ∀ c, setW T sp c = if nsum (fun c => BT T c - LT T c) (T 163 3) = 0 then LT T c + shN sp (T 165) 0 (T 163 3) c else LT T c + shN sp (fun c => BT T c - LT T c) 0 (T 163 3) c := fun c => by unfold setW; rw [if_neg (by omega)]
    refine loop_up (Q := fun i => ∀ mm : vM, Vw mm T → butL [137] m mm → (∀ c, c < i → mm.1 137 c = nI (BT T c - LT T c)) → J_X5_spread_67 (nI sp) (nI i) mm P) (n := 6) ?_ (fun i hi ih => ?_) 0 (by omega) m hV butL.rfl' (fun c hc => absurd hc (Nat.not_lt_zero _))
    · intro mm hVm hb hg
      refine b_X5_spread_67 ?_
      unfold wp_X5_spread_67
      refine ⟨fun _ => ?_, fun h => absurd (by decide) h⟩
      refine c_X5_sumOf (A := fun c => BT T c - LT T c) hVm sh_137 (by decide) (fun c hc => hg c (by omega)) ?_
      rw [le0I (by omega), hVm.xC]
      have eL : ∀ c, c < 6 → mm.1 131 c = nI (LT T c) := fun c hc => by rw [hb.1 131 (by decide)]; exact (hLB c hc).1
      refine ⟨fun hz => ?_, fun hz => ?_⟩
      · refine spread_end hVm (x := 131) (num := T 165) (Or.inl rfl) sh_2 (by decide) (by decide) (by decide) hC.2 eL (fun j hj => ⟨(hVm.w (by omega)).1, by have := (hV.wt j (by omega)).2; omega⟩) (by omega) (sumR_all hV) (fun m1 hb1 hg1 => hp m1 ((hb.mono (by decide)).trans (hb1.mono (by decide))) (fun c hc => by rw [hg1 c hc, hset c, if_pos hz]))
      · refine spread_end hVm (x := 131) (num := fun c => BT T c - LT T c) (Or.inl rfl) sh_137 (by decide) (by decide) (by decide) hC.2 eL (fun j hj => ⟨hg j (by omega), by have := (BT_bd hV j).1; omega⟩) (by omega) (by rw [sumR_num]; omega) (fun m1 hb1 hg1 => hp m1 ((hb.mono (by decide)).trans (hb1.mono (by decide))) (fun c hc => by rw [hg1 c hc, hset c, if_neg hz]))
    · intro mm hVm hb hg
      refine b_X5_spread_67 ?_
      unfold wp_X5_spread_67
      have hv : vp_in (nI i) 6 := vI hi (by omega)
      rw [clI i (by omega), hb.1 132 (by decide), hb.1 131 (by decide), (hLB i hi).1, (hLB i hi).2, sbI (BT_bd hV i).2.1, ad1I]
      refine ⟨fun h => absurd h (nI_ge (b := 6) hi (by omega)), fun _ => ⟨hv, hv, hv, ?_⟩⟩
      rintro _ rfl
      refine ih _ (hVm.agr (agr_upI rfl)) (butL_upI hb (by decide)) (fun c hc => ?_)
      rcases Nat.lt_succ_iff_lt_or_eq.mp hc with q | q
      · rw [upI_n _ _ _ _ _ _ (Or.inr (by omega))]; exact hg c q
      · subst q; rw [upI_s]
  · have hset : ∀ c, setW T sp c = BT T c + shN (sp - (nsum (BT T) (T 163 3) - nsum (LT T) (T 163 3))) (T 165) 0 (T 163 3) c := fun c => by unfold setW; rw [if_pos (by omega)]
    rw [sbI (by omega)]
    exact spread_end hV (x := 132) (num := T 165) (Or.inr rfl) sh_2 (by decide) (by decide) (by decide) hC.2 (fun c hc => (hLB c hc).2) (fun j hj => ⟨(hV.w (by omega)).1, by have := (hV.wt j (by omega)).2; omega⟩) (by omega) (sumR_all hV) (fun m1 hb1 hg1 => hp m1 (hb1.mono (by decide)) (fun c hc => by rw [hg1 c hc, hset c]))
end CSET
