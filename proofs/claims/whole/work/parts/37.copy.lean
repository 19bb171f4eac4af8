section COPY
variable {m m1 : vM} {T : tT}
theorem lcmp_gt (a b c : Int32) : (0 < lg_cmp (a.toInt64 + b.toInt64) c.toInt64) = (c.toInt < a.toInt + b.toInt) := by
  rw [propext (lg_cmp_gt _ _), Int64.lt_iff_toInt_lt, lg_i2l_add, Int32.toInt_toInt64]
theorem lcmp_le (a b c : Int32) : (lg_cmp (a.toInt64 + b.toInt64) c.toInt64 ≤ 0) = (a.toInt + b.toInt ≤ c.toInt) := by
  rw [propext (lg_cmp_le _ _), Int64.le_iff_toInt_le, lg_i2l_add, Int32.toInt_toInt64]
theorem w_isCellY' (hV : Vw m T) (he : m1.1 163 = m.1 163) {x : Int32} {k : Nat} {P : Int32 → vM → Prop} (hk : k < T 163 7) (hx : x = nI k) (hp : P 1 m1) : wp_X7_isCell x m1 P := by
  have h40 := hV.E40
  unfold wp_X7_isCell
  exact w_inY1 (p := T 163 7) (by rw [he]; exact hV.mE) (by omega) hk hx ⟨by decide, hp⟩
def cpyL (T : tT) (k1 i k3 j n q : Nat) : Nat := if j ≤ q ∧ q < j + n then T 174 (12 * k1 + (i + (q - j))) else T 174 (12 * k3 + q)
theorem c_X7_copy_loops (hI : InvT m T) {k1 k3 i j n : Nat} {mc : vM} (h1 : k1 < T 163 7) (h3 : k3 < T 163 7) (hi : i + n ≤ T 173 k1) (hj : j + n ≤ T 173 k3) (hc : mc = pcX m k3 (nI (T 173 k3)) (va_cpy (m.1 (cA k1 + 1)) (m.1 (cA k3 + 1)) i j n)) : J_X7_copy_100 (nI k1) (nI i) (nI k3) (nI j) (nI n) 0 mc (fun r2 m2 => r2 = 1 ∧ Inv m2) := by
  have hV := hI.1
  have h40 := hV.E40
  have p1 := pcT_ok hV h1
  have p3 := pcT_ok hV h3
  have hm : ∀ b, 125 ≤ b → mc.1 b = m.1 b := fun b hb => by rw [hc]; exact pcX_o hb (by omega)
  rw [show (0 : Int32) = nI 0 from rfl]
  refine loop_up (Q := fun q => ∀ mm : vM, (∀ a, a ≠ 177 → mm.1 a = mc.1 a) → (∀ r, r < q → mm.1 177 r = m.1 174 (12 * k1 + (i + r))) → J_X7_copy_100 (nI k1) (nI i) (nI k3) (nI j) (nI n) (nI q) mm (fun r2 m2 => r2 = 1 ∧ Inv m2)) (n := n) ?_ (fun q hq ih => ?_) 0 (Nat.zero_le _) mc (fun _ _ => rfl) (fun r hr => absurd hr (Nat.not_lt_zero _))
  · intro mm g1 g2
    refine b_X7_copy_100 ?_
    unfold wp_X7_copy_100
    refine ifs (nI_le (Nat.le_refl _) (by omega)) ?_
    rw [show (0 : Int32) = nI 0 from rfl]
    refine loop_up (Q := fun q => ∀ mk : vM, (∀ a, a ≠ 174 → mk.1 a = mm.1 a) → (∀ r, mk.1 174 r = if 12 * k3 + j ≤ r ∧ r < 12 * k3 + j + q then m.1 174 (12 * k1 + (i + (r - (12 * k3 + j)))) else m.1 174 r) → J_X7_copy_137 (nI k3) (nI j) (nI n) (nI q) mk (fun r2 m2 => r2 = 1 ∧ Inv m2)) (n := n) ?_ (fun q hq ih => ?_) 0 (Nat.zero_le _) mm (fun _ _ => rfl) (fun r => by rw [if_neg (by omega), g1 174 (by decide), hm 174 (by decide)])
    · intro mk f1 f2
      refine b_X7_copy_137 ?_
      unfold wp_X7_copy_137
      refine ifs (nI_le (Nat.le_refl _) (by omega)) ⟨rfl, ?_⟩
      refine (hI.pieces (c := T 173 k3) (L := cpyL T k1 i k3 j n) (f := va_cpy (m.1 (cA k1 + 1)) (m.1 (cA k3 + 1)) i j n) (g := mk.1 174) h3 p3 (fun r hr => ?_) (fun r hr => ?_) (fun r hr => ?_) (fun r hr => ?_) (fun a ha => ?_) (fun a ha h177 => ?_)).toI
      · unfold cpyL
        by_cases e : j ≤ r ∧ r < j + n
        · rw [if_pos e]; exact (hV.cell h1).2.2.2.2.2.2.2.2.2 _ (by omega)
        · rw [if_neg e]; exact (hV.cell h3).2.2.2.2.2.2.2.2.2 _ hr
      · unfold cpyL va_cpy
        by_cases e : j ≤ r ∧ r < j + n
        · rw [if_pos e, if_pos e]; exact (hV.xc h1).2.2.2.2.2.2.2.2.2 _ (by omega)
        · rw [if_neg e, if_neg e]; exact (hV.xc h3).2.2.2.2.2.2.2.2.2 _ hr
      · rw [f2]
        unfold cpyL
        by_cases e : j ≤ r ∧ r < j + n
        · rw [if_pos e, if_pos ⟨by omega, by omega⟩, show 12 * k3 + r - (12 * k3 + j) = r - j by omega]
          exact (hV.mc h1).2.2.2.2.2.2.2.2.2 _ (by omega)
        · rw [if_neg e, if_neg (by omega)]
          exact (hV.mc h3).2.2.2.2.2.2.2.2.2 _ hr
      · rw [f2, if_neg (by omega)]
      · rw [f1 a (by omega), g1 a (by omega), hc]
      · unfold pcM
        rw [upI_id (hV.mc h3).2.2.2.2.2.2.2.1]
        by_cases h174 : a = 174
        · subst h174; rw [upA_s]
        · rw [upA_o _ _ _ _ h174, f1 a h174, g1 a h177, hm a (by omega)]
    · intro mk f1 f2
      refine b_X7_copy_137 ?_
      unfold wp_X7_copy_137
      rw [m12I, adI, adI, ad1I, clI _ (by omega), clI _ (by omega)]
      refine ifn (nI_ge hq (by omega)) ⟨vI (by omega) (by decide), vI (by omega) (by decide), ?_⟩
      rintro _ rfl
      refine ih _ (fun a ha => (upI_o _ _ _ _ _ ha).trans (f1 a ha)) (fun r => ?_)
      by_cases hr : r = 12 * k3 + j + q
      · subst hr
        rw [upI_s, if_pos ⟨by omega, by omega⟩, f1 177 (by decide), g2 q hq, show 12 * k3 + j + q - (12 * k3 + j) = q by omega]
      · rw [upI_n _ _ _ _ _ _ (Or.inr hr), f2]
        by_cases e : 12 * k3 + j ≤ r ∧ r < 12 * k3 + j + q
        · rw [if_pos e, if_pos ⟨e.1, by omega⟩]
        · rw [if_neg e, if_neg (by omega)]
  · intro mm g1 g2
    refine b_X7_copy_100 ?_
    unfold wp_X7_copy_100
    rw [m12I, adI, adI, ad1I, clI _ (by omega), clI _ (by omega)]
    refine ifn (nI_ge hq (by omega)) ⟨vI (by omega) (by decide), vI (by omega) (by decide), ?_⟩
    rintro _ rfl
    refine ih _ (fun a ha => (upI_o _ _ _ _ _ ha).trans (g1 a ha)) (fun r hr => ?_)
    rcases Nat.lt_succ_iff_lt_or_eq.mp hr with e | e
    · rw [upI_n _ _ _ _ _ _ (Or.inr (by omega))]; exact g2 r e
    · subst e; rw [upI_s, g1 174 (by decide), hm 174 (by decide), Nat.add_assoc]
theorem c_X7_copy_no (hV : Vw m T) {k1 k3 : Nat} {y u z : Int32} {P : Int32 → vM → Prop} (h1 : k1 < T 163 7) (h3 : k3 < T 163 7) (d1 : T 172 k1 = 0) (d3 : T 172 k3 = 0) (hno : (∀ i q, y = nI i → z = nI q → i < 2 ^ 31 → q < 2 ^ 31 → ¬ i + q ≤ T 173 k1) ∨ (∀ i q, u = nI i → z = nI q → i < 2 ^ 31 → q < 2 ^ 31 → ¬ i + q ≤ T 173 k3)) (hp : P (-3) (meetM 2 m)) : EI_X7_copy (nI k1) y (nI k3) u z m P := by
  have h40 := hV.E40
  have p1 := pcT_ok hV h1
  have p3 := pcT_ok hV h3
  have hmt : ∀ {W : Int32 → vM → Prop}, W (-3) (meetM 2 m) → wp_X7_meets 2 m W := fun hw => w_meets (f := 2) rfl (by decide) hw
  refine f_X7_copy (b_X7_copy_0 ?_)
  unfold wp_X7_copy_0
  refine w_cellY hV h1 rfl (i1 (w_cellY hV h3 rfl (i1 ⟨vI (by omega) (by decide), ?_⟩)))
  rw [clI k1 (by omega), clI k3 (by omega), (hV.mc h1).2.2.2.2.2.2.2.2.1, (hV.mc h3).2.2.2.2.2.2.2.2.1, d1, d3]
  refine ifs rfl ⟨vI (by omega) (by decide), ifs rfl ?_⟩
  refine ife (fun _ => hmt hp) (fun hy => ife (fun _ => hmt hp) (fun hu => ife (fun _ => hmt hp) (fun hz => ?_)))
  obtain ⟨i, hi, rfl⟩ := nI_of hy
  obtain ⟨j, hj, rfl⟩ := nI_of hu
  obtain ⟨n, hn, rfl⟩ := nI_of hz
  rw [lcmp_gt, lcmp_le, (hV.mc h1).2.2.2.2.2.2.2.1, (hV.mc h3).2.2.2.2.2.2.2.1, nI_toInt hi, nI_toInt hj, nI_toInt hn, nI_toInt (by omega), nI_toInt (by omega)]
  refine ⟨vI (by omega) (by decide), ife (fun _ => hmt hp) (fun h => ⟨vI (by omega) (by decide), ifn (fun h' => ?_) (hmt hp)⟩)⟩
  rcases hno with q | q
  · exact q i n rfl rfl hi hn (by omega)
  · exact q j n rfl rfl hj hn (by omega)
theorem pair_copy (x y w u z : Int32) : Pair (EI_X6_copy x y w u z) (EI_X7_copy x y w u z) := by
  rintro m ⟨T, hI⟩
  have hV := hI.1
  have h40 := hV.E40
  have hbad : ((∀ k, k < T 163 7 → x ≠ nI k) ∨ ∀ k, k < T 163 7 → w ≠ nI k) → EI_X7_copy x y w u z m (fun r2 m2 => r2 = -1 ∧ Inv m2) := by
    intro h
    refine f_X7_copy (b_X7_copy_0 ?_)
    unfold wp_X7_copy_0
    rcases cell1 T x with hx | ⟨k1, h1, rfl⟩
    · exact w_cellN hV hx (i0 ⟨rfl, hI.toI⟩)
    · refine w_cellY hV h1 rfl (i1 ?_)
      rcases h with h | h
      · exact absurd rfl (h k1 h1)
      · exact w_cellN hV h (i0 ⟨rfl, hI.toI⟩)
  refine e_X6_copy ?_
  unfold wp_X6_copy
  rcases cell1 T x with hx | ⟨k1, h1, rfl⟩
  · refine w_numN hV hx ⟨fun _ => ?_, fun _ _ q => (Option.some_ne_none _ q.symm).elim⟩
    rcases cell1 T w with hw | ⟨k3, h3, rfl⟩
    · exact w_numN hV hw ⟨fun _ => hbad (Or.inl hx), fun _ _ q => (Option.some_ne_none _ q.symm).elim⟩
    · exact w_numY hV h3 rfl ⟨fun q => (Option.some_ne_none _ q).elim, fun _ _ _ => hbad (Or.inl hx)⟩
  refine w_numY hV h1 rfl ⟨fun q => (Option.some_ne_none _ q).elim, fun i2 _ q => ?_⟩
  obtain rfl := Option.some.inj q
  rcases cell1 T w with hw | ⟨k3, h3, rfl⟩
  · exact w_numN hV hw ⟨fun _ => hbad (Or.inr hw), fun _ _ q => (Option.some_ne_none _ q.symm).elim⟩
  refine w_numY hV h3 rfl ⟨fun q => (Option.some_ne_none _ q).elim, fun i9 _ q => ?_⟩
  obtain rfl := Option.some.inj q
  have hdrop : (¬ T 172 k1 = 0 ∨ ¬ T 172 k3 = 0) → EI_X7_copy (nI k1) y (nI k3) u z (tellM 1 m) (fun r2 m2 => r2 = -3 ∧ Inv m2) := by
    intro h
    have hV2 := tell_Vw hV (f := 1)
    have hmt : wp_X7_meets 1 (tellM 1 m) (fun r2 m2 => r2 = -3 ∧ Inv m2) := w_meets (f := 1) rfl (by decide) ⟨rfl, (hI.both (by decide) (by decide)).toI⟩
    refine f_X7_copy (b_X7_copy_0 ?_)
    unfold wp_X7_copy_0
    refine w_cellY hV2 h1 rfl (i1 (w_cellY hV2 h3 rfl (i1 ⟨vI (by omega) (by decide), ?_⟩)))
    have e1 := (hV.cell h1).2.2.2.2.2.1
    have e3 := (hV.cell h3).2.2.2.2.2.1
    rw [clI k1 (by omega), clI k3 (by omega), (hV2.mc h1).2.2.2.2.2.2.2.2.1, (hV2.mc h3).2.2.2.2.2.2.2.2.1, eq0I (by omega), eq0I (by omega)]
    refine ife (fun d1 => ⟨vI (by omega) (by decide), ifn (fun d3 => ?_) hmt⟩) (fun _ => hmt)
    rcases h with h | h
    · exact h d1
    · exact h d3
  by_cases d1 : T 172 k1 = 0
  · refine X_pres hV h1 d1 ?_
    by_cases d3 : T 172 k3 = 0
    · refine X_pres hV h3 d3 ?_
      have hno : ∀ {A B : Prop}, (A ∨ B) → ((A ∨ B) → EI_X7_copy (nI k1) y (nI k3) u z (tellM 2 m) (fun r2 m2 => r2 = -3 ∧ Inv m2)) → wp_X6_tell 2 m (fun r m1 => EI_X7_copy (nI k1) y (nI k3) u z m1 (fun r2 m2 => r2 = r ∧ Inv m2)) := fun h f => w_tell (f := 2) rfl (by decide) (f h)
      refine c_X0_holds hV h1 (fun i n ey ez hle => i1 ?_) (fun h => i0 (hno (Or.inl h) (fun h => c_X7_copy_no (tell_Vw hV) h1 h3 d1 d3 h ⟨rfl, (hI.both (by decide) (by decide)).toI⟩)))
      refine c_X0_holds hV h3 (fun j n' eu ez' hle' => i1 ?_) (fun h => i0 (hno (Or.inr h) (fun h => c_X7_copy_no (tell_Vw hV) h1 h3 d1 d3 h ⟨rfl, (hI.both (by decide) (by decide)).toI⟩)))
      have p1 := pcT_ok hV h1
      have p3 := pcT_ok hV h3
      obtain rfl : n = n' := (nI_eq (by omega) (by omega)).mp (ez.symm.trans ez')
      subst ey eu ez
      unfold wp_X0_take
      refine c_X0_holds hV h1 (fun _ _ _ _ _ => i1 ?_) (fun h => absurd hle (h i n rfl rfl (by omega) (by omega)))
      refine c_X0_holds hV h3 (fun _ _ _ _ _ => i1 ?_) (fun h => absurd hle' (h j n rfl rfl (by omega) (by omega)))
      rw [clI i (by omega), clI j (by omega), clI n (by omega)]
      refine ⟨nI_pos (by omega), nI_pos (by omega), nI_pos (by omega), by omega, by omega, ?_⟩
      unfold wp_X0_forgetLines
      rintro _ rfl m11 em11
      have hc : m11 = pcX m k3 (nI (T 173 k3)) (va_cpy (m.1 (cA k1 + 1)) (m.1 (cA k3 + 1)) i j n) := by
        rw [em11]
        unfold pcX
        rw [upI_id (hV.xc h3).2.2.2.2.2.2.2.1]
      have hm : ∀ b, 125 ≤ b → m11.1 b = m.1 b := fun b hb => by rw [hc]; exact pcX_o hb (by omega)
      refine f_X7_copy (b_X7_copy_0 ?_)
      unfold wp_X7_copy_0
      refine w_isCellY' hV (hm 163 (by decide)) h1 rfl (i1 (w_isCellY' hV (hm 163 (by decide)) h3 rfl (i1 ⟨vI (by omega) (by decide), ?_⟩)))
      rw [clI k1 (by omega), clI k3 (by omega), hm 172 (by decide), hm 173 (by decide), (hV.mc h1).2.2.2.2.2.2.2.2.1, (hV.mc h3).2.2.2.2.2.2.2.2.1, d1, d3]
      refine ifs rfl ⟨vI (by omega) (by decide), ifs rfl ?_⟩
      refine ifn (nI_pos (by omega)) (ifn (nI_pos (by omega)) (ifn (nI_pos (by omega)) ?_))
      rw [lcmp_gt, lcmp_le, (hV.mc h1).2.2.2.2.2.2.2.1, (hV.mc h3).2.2.2.2.2.2.2.1, nI_toInt (by omega), nI_toInt (by omega), nI_toInt (by omega), nI_toInt (by omega), nI_toInt (by omega)]
      exact ⟨vI (by omega) (by decide), ifn (by omega) ⟨vI (by omega) (by decide), ifs (by omega) (c_X7_copy_loops hI h1 h3 hle hle' hc)⟩⟩
    · exact X_drop hV h3 d3 (hdrop (Or.inr d3))
  · exact X_drop hV h1 d1 (hdrop (Or.inl d1))
end COPY
