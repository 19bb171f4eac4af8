section WORD
variable {m m1 : vM} {T : tT}
theorem upI_id {m : vM} {a j : Nat} {v : Int32} (h : m.1 a j = v) : upI m a j v = m := by
  unfold upI
  refine Prod.ext ?_ rfl
  funext b
  show (if b = a then upd (m.1 a) j v else m.1 b) = m.1 b
  by_cases hb : b = a
  · subst hb
    rw [if_pos rfl]
    funext i
    show (if i = j then v else m.1 b i) = m.1 b i
    by_cases hi : i = j
    · subst hi; rw [if_pos rfl, h]
    · rw [if_neg hi]
  · rw [if_neg hb]
theorem c_X0_holds (hV : Vw m T) {k : Nat} {x y : Int32} {P : Int32 → vM → Prop} (hk : k < T 163 7) (h1 : ∀ i q, x = nI i → y = nI q → i + q ≤ T 173 k → P 1 m) (h0 : (∀ i q, x = nI i → y = nI q → i < 2 ^ 31 → q < 2 ^ 31 → ¬ i + q ≤ T 173 k) → P 0 m) : wp_X0_holds k x y m P := by
  have hp := pcT_ok hV hk
  unfold wp_X0_holds
  rw [(hV.xc hk).2.2.2.2.2.2.2.1]
  refine ife (fun hx => h0 (fun i q e _ hi _ _ => ?_)) (fun hx => ?_)
  · subst e; exact nI_pos hi hx
  refine ife (fun hy => h0 (fun i q _ e _ hq _ => ?_)) (fun hy => ?_)
  · subst e; exact nI_pos hq hy
  obtain ⟨i, hi, rfl⟩ := nI_of hx
  obtain ⟨q, hq, rfl⟩ := nI_of hy
  have inj : ∀ i' q', nI i = nI i' → nI q = nI q' → i' < 2 ^ 31 → q' < 2 ^ 31 → i' = i ∧ q' = q := fun i' q' e1 e2 g1 g2 => ⟨((nI_eq hi g1).mp e1).symm, ((nI_eq hq g2).mp e2).symm⟩
  rw [ltI (by omega) hq]
  refine ife (fun h => h0 (fun i' q' e1 e2 g1 g2 => by obtain ⟨rfl, rfl⟩ := inj i' q' e1 e2 g1 g2; omega)) (fun h => ?_)
  rw [sbI (by omega), ltI (by omega) hi]
  exact ife (fun h => h0 (fun i' q' e1 e2 g1 g2 => by obtain ⟨rfl, rfl⟩ := inj i' q' e1 e2 g1 g2; omega)) (fun h => h1 i q rfl rfl (by omega))
theorem w_inY1 {x q : Int32} {p i : Nat} {P : Int32 → vM → Prop} (hq : q = nI p) (hp : p < 2 ^ 31) (hi : i < p) (hx : x = nI i) (h : P 1 m) : wp_X7_in x 0 (q - 1) m P := by
  subst hq
  rw [show (1 : Int32) = nI 1 from rfl, sbI (by omega)]
  exact w_inY (lo := 0) rfl rfl (by omega) (Nat.zero_le _) (by omega) hx h
theorem w_inN1 {x q : Int32} {p : Nat} {P : Int32 → vM → Prop} (hq : q = nI p) (hp : p < 2 ^ 31) (hx : ∀ i, i < p → x ≠ nI i) (h : P 0 m) : wp_X7_in x 0 (q - 1) m P := by
  subst hq
  rcases Nat.eq_zero_or_pos p with h' | h'
  · unfold wp_X7_in
    rw [h', show nI 0 - 1 = (-1 : Int32) from rfl]
    refine ⟨fun _ => h, fun h0 => ⟨fun _ => h, fun h1 => ?_⟩⟩
    rw [Int32.lt_iff_toInt_lt, Int32.toInt_zero] at h0
    rw [Int32.lt_iff_toInt_lt, show (-1 : Int32).toInt = -1 from rfl] at h1
    omega
  · rw [show (1 : Int32) = nI 1 from rfl, sbI (by omega)]
    exact w_inN (lo := 0) rfl rfl (by omega) (by omega) (fun n _ h2 e => hx n (by omega) e) h
theorem pair_word (x y z : Int32) : Pair (EI_X6_word x y z) (EI_X7_word x y z) := by
  rintro m ⟨T, hI⟩
  have hV := hI.1
  have h40 := hV.E40
  rcases cell3 T x z 1 20 with h | ⟨k, n, hk, hn, rfl, rfl⟩
  · refine e_X6_word ?_
    unfold wp_X6_word
    refine X_bad hV (lo := 1) (hi := 20) rfl rfl (by decide) (by decide) h ?_
    exact e_X7_word (M_bad hV (lo := 1) (hi := 20) rfl rfl (by decide) (by decide) h ⟨rfl, hI.toI⟩)
  · refine e_X6_word ?_
    unfold wp_X6_word
    refine X_cell hV (lo := 1) (hi := 20) rfl rfl (by decide) hk hn rfl rfl ?_
    have hv : vp_in (nI k) 40 := vI (by omega) (by decide)
    have hk40 : k < 40 := by omega
    have hp := pcT_ok hV hk
    by_cases hd : T 172 k = 0
    · refine X_pres hV hk hd ?_
      refine c_X0_holds hV hk (fun i q ex eq1 hle => i1 ?_) (fun hno => i0 ?_)
      · have hq1 : q % 2 ^ 32 = 1 := by
          have := congrArg (fun v : Int32 => v.toBitVec.toNat) eq1
          exact this.symm
        have hi : i < T 173 k := by omega
        subst ex
        unfold wp_X0_exchange wp_X0_forgetLines
        refine ifn (nI_pos (by omega)) ?_
        rw [show (12 : Int32) = nI 12 from rfl, ltI (by omega) (by omega), clI i (by omega)]
        refine ifs (by omega) ⟨vI (by omega) (by omega), ?_⟩
        rintro v2 ev2
        refine ⟨vI (by omega) (by omega), ?_⟩
        rintro _ rfl m5 em5
        have em5' : m5 = pcX m k (nI (T 173 k)) (fun j => if j = i then nI n else m.1 (cA k + 1) j) := by
          rw [em5]
          unfold pcX
          rw [upI_id (hV.xc hk).2.2.2.2.2.2.2.1, upI_upA]
        have hm : ∀ b, 125 ≤ b → m5.1 b = m.1 b := fun b hb => by rw [em5']; exact pcX_o hb hk40
        refine e_X7_word (M_cell' hV (hm 163 (by decide)) (hm 172 (by decide)) (lo := 1) (hi := 20) rfl rfl (by decide) hk hn rfl rfl hd ⟨hv, ?_⟩)
        rw [clI k (by omega)]
        refine w_inY1 (p := T 173 k) (by rw [hm 173 (by decide)]; exact (hV.mc hk).2.2.2.2.2.2.2.1) (by omega) hi rfl (i1 ?_)
        rw [m12I, adI, clI _ (by omega)]
        refine ⟨vI (by omega) (by omega), ?_⟩
        rintro v9 ev9
        refine ⟨vI (by omega) (by omega), ?_⟩
        rintro m11 em11
        refine ⟨?_, ?_⟩
        · rw [ev9, ev2, hm 174 (by decide), (hV.mc hk).2.2.2.2.2.2.2.2.2 i hi, (hV.xc hk).2.2.2.2.2.2.2.2.2 i hi]
        · refine (hI.pieces (c := T 173 k) (L := fun j => if j = i then n else T 174 (12 * k + j)) (f := fun j => if j = i then nI n else m.1 (cA k + 1) j) (g := fun j => if j = 12 * k + i then nI n else m.1 174 j) hk hp (fun j hj => ?_) (fun j hj => ?_) (fun j hj => ?_) (fun j hj => ?_) (fun a ha => ?_) (fun a ha h177 => ?_)).toI
          · by_cases e : j = i
            · simp only [e, if_true]; exact hn
            · simp only [e, if_false]; exact (hV.cell hk).2.2.2.2.2.2.2.2.2 j hj
          · by_cases e : j = i
            · simp only [e, if_true]
            · simp only [e, if_false]; exact (hV.xc hk).2.2.2.2.2.2.2.2.2 j hj
          · by_cases e : j = i
            · simp only [e, if_true]
            · have e2 : ¬ 12 * k + j = 12 * k + i := by omega
              simp only [e, e2, if_false]; exact (hV.mc hk).2.2.2.2.2.2.2.2.2 j hj
          · have e2 : ¬ j = 12 * k + i := by omega
            simp only [e2, if_false]
          · rw [em11, upI_o _ _ _ _ _ (by omega), em5']
          · rw [em11]
            unfold pcM
            rw [upI_id (hV.mc hk).2.2.2.2.2.2.2.1, upI_upA]
            by_cases h174 : a = 174
            · subst h174
              rw [upA_s, upA_s, hm 174 (by decide)]
            · rw [upA_o _ _ _ _ h174, upA_o _ _ _ _ h174, hm a (by omega)]
      · refine w_tell (f := 2) rfl (by decide) ?_
        have hV2 := tell_Vw hV (f := 2)
        refine e_X7_word (M_cell hV2 (lo := 1) (hi := 20) rfl rfl (by decide) hk hn rfl rfl hd ⟨hv, ?_⟩)
        rw [clI k (by omega)]
        refine w_inN1 (p := T 173 k) (hV2.mc hk).2.2.2.2.2.2.2.1 (by omega) (fun i hi e => hno i 1 e rfl (by omega) (by omega) (by omega)) (i0 ?_)
        exact w_meets (f := 2) rfl (by decide) ⟨rfl, (hI.both (by decide) (by decide)).toI⟩
    · refine X_drop hV hk hd ?_
      exact e_X7_word (M_drop (tell_Vw hV) (lo := 1) (hi := 20) rfl rfl (by decide) hk hn rfl rfl hd ⟨rfl, (hI.both (by decide) (by decide)).toI⟩)
end WORD
