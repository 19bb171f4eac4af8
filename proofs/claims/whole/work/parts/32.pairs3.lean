section PAIRS3
variable {m m1 : vM} {T : tT}
theorem M_need' (hV : Vw m T) (he : m1.1 163 = m.1 163) (h2 : m1.1 172 = m.1 172) {x : Int32} {k : Nat} {P : Int32 → vM → Prop} (hk : k < T 163 7) (hx : x = nI k) (hd : T 172 k = 0) (hp : P 0 m1) : wp_X7_need 1 x m1 P := by
  have h40 := hV.E40
  obtain ⟨c0, c1, c2, c3, c4, c5, c6, c7, c8, c9⟩ := hV.mc hk
  unfold wp_X7_need wp_X7_isCell
  subst hx
  have e1 : m1.1 163 7 - 1 = nI (T 163 7 - 1) := by
    rw [he, hV.mE, show (1 : Int32) = nI 1 from rfl, sbI (by omega)]
  refine w_inY (lo := 0) rfl e1 (by omega) (Nat.zero_le _) (by omega) rfl ⟨by decide, i1 (i1 ⟨vI (by omega) (by omega), ?_⟩)⟩
  rw [clI k (by omega), h2, c8, hd]
  exact ⟨fun _ => hp, fun h => absurd rfl h⟩
theorem M_cell' (hV : Vw m T) (he : m1.1 163 = m.1 163) (h2 : m1.1 172 = m.1 172) {x y a b : Int32} {lo hi k n : Nat} {B : vM → Prop} {P : Int32 → vM → Prop} (ha : a = nI lo) (hb : b = nI hi) (hh : hi < 2 ^ 31) (hk : k < T 163 7) (hn : lo ≤ n ∧ n ≤ hi) (hx : x = nI k) (hy : y = nI n) (hd : T 172 k = 0) (hp : B m1) :
    wp_X7_in y a b m1 (fun r2 m1 => wp_X7_need r2 x m1 (fun r4 m3 => (0 ≤ r4 → B m3) ∧ (¬ 0 ≤ r4 → P r4 m3))) :=
  w_inY ha hb hh hn.1 hn.2 hy (M_need' hV he h2 hk hx hd ⟨fun _ => hp, fun h => absurd (by decide) h⟩)
theorem eqT.up2 {a k v : Nat} (h : 167 ≤ a ∧ a ≤ 176 ∧ a ≠ 174) : eqT T (up2 T a k v) k := by
  refine ⟨fun b hb => up2_o _ _ _ _ _ (by omega), fun b hb => up2_o _ _ _ _ _ (by omega), fun b _ _ _ j hj => up2_n _ _ _ _ _ _ (Or.inr hj), fun j _ => up2_n _ _ _ _ _ _ (Or.inl (by omega))⟩
theorem eqM.fld {a k f : Nat} {v : Int32} (h40 : k < 40) (h : 167 ≤ a ∧ a ≤ 176 ∧ a ≠ 174) : eqM m (upI (upI m (cA k) f v) a k v) k := by
  refine ⟨fun b hb h1 h2 h3 => ?_, fun b hb1 hb2 hb3 j hj => ?_, fun j _ => ?_⟩
  · rw [upI_o _ _ _ _ _ (by omega), upI_o _ _ _ _ _ h1]
  · rw [upI_n _ _ _ _ _ _ (Or.inr hj), upI_o _ _ _ _ _ (by unfold cA; omega)]
  · rw [upI_o _ _ _ _ _ (by omega), upI_o _ _ _ _ _ (by unfold cA; omega)]
theorem Vw.fieldU (hV : Vw m T) {k f a v : Nat} (hk : k < T 163 7) (hfa : (f = 5 ∧ a = 175 ∧ v ≤ 1023) ∨ (f = 6 ∧ a = 176 ∧ 1 ≤ v ∧ v ≤ 60) ∨ (f = 8 ∧ a = 172 ∧ v = 1)) : Vw (upI (upI m (cA k) f (nI v)) a k (nI v)) (up2 T a k v) := by
  have h40 := hV.E40
  obtain ⟨b0, b1, b2, b3, b4, b5, b6, b7, b8, b9⟩ := hV.xc hk
  obtain ⟨c0, c1, c2, c3, c4, c5, c6, c7, c8, c9⟩ := hV.mc hk
  obtain ⟨d1, d2, d3, d4, d5, d6, d7, d8, d9, d10⟩ := hV.cell hk
  have hr : 167 ≤ a ∧ a ≤ 176 ∧ a ≠ 174 := by omega
  have hA : (upI (upI m (cA k) f (nI v)) a k (nI v)).1 (cA k) = upd (m.1 (cA k)) f (nI v) := by
    rw [upI_o _ _ _ _ _ (by unfold cA; omega)]
    unfold upI
    simp
  have hL : (upI (upI m (cA k) f (nI v)) a k (nI v)).1 (cA k + 1) = m.1 (cA k + 1) := by
    rw [upI_o _ _ _ _ _ (by unfold cA; omega), upI_o _ _ _ _ _ (by omega)]
  have ht : ∀ b, b ≠ a → up2 T a k v b = T b := fun b hb => up2_o _ _ _ _ _ hb
  have hm : ∀ b, 167 ≤ b → b ≠ a → (upI (upI m (cA k) f (nI v)) a k (nI v)).1 b = m.1 b := fun b h1 h2 => by
    rw [upI_o _ _ _ _ _ h2, upI_o _ _ _ _ _ (by unfold cA; omega)]
  have hs : (upI (upI m (cA k) f (nI v)) a k (nI v)).1 a k = nI v := upI_s _ _ _ _
  have ts : up2 T a k v a k = v := up2_s _ _ _ _
  refine hV.cellU hk (eqT.up2 hr) (eqM.fld (by omega) hr) ?_ ?_ ?_ ?_
  · unfold CellT
    rcases hfa with ⟨rfl, rfl, z⟩ | ⟨rfl, rfl, z⟩ | ⟨rfl, rfl, rfl⟩
    · rw [ts, ht 163 (by decide), ht 167 (by decide), ht 168 (by decide), ht 169 (by decide), ht 170 (by decide), ht 171 (by decide), ht 172 (by decide), ht 173 (by decide), ht 174 (by decide), ht 176 (by decide)]
      exact ⟨d1, d2, d3, d4, d5, d6, d7, z, d9, d10⟩
    · rw [ts, ht 163 (by decide), ht 167 (by decide), ht 168 (by decide), ht 169 (by decide), ht 170 (by decide), ht 171 (by decide), ht 172 (by decide), ht 173 (by decide), ht 174 (by decide), ht 175 (by decide)]
      exact ⟨d1, d2, d3, d4, d5, d6, d7, d8, z, d10⟩
    · rw [ts, ht 163 (by decide), ht 167 (by decide), ht 168 (by decide), ht 169 (by decide), ht 170 (by decide), ht 171 (by decide), ht 176 (by decide), ht 173 (by decide), ht 174 (by decide), ht 175 (by decide)]
      exact ⟨d1, d2, d3, d4, d5, Nat.le_refl _, d7, d8, d9, d10⟩
  · unfold VCx
    rw [hA, hL]
    rcases hfa with ⟨rfl, rfl, z⟩ | ⟨rfl, rfl, z⟩ | ⟨rfl, rfl, rfl⟩
    · rw [ts, ht 167 (by decide), ht 168 (by decide), ht 169 (by decide), ht 170 (by decide), ht 171 (by decide), ht 172 (by decide), ht 173 (by decide), ht 174 (by decide), ht 176 (by decide)]
      exact ⟨b0, b1, b2, b3, b4, rfl, b6, b7, b8, b9⟩
    · rw [ts, ht 167 (by decide), ht 168 (by decide), ht 169 (by decide), ht 170 (by decide), ht 171 (by decide), ht 172 (by decide), ht 173 (by decide), ht 174 (by decide), ht 175 (by decide)]
      exact ⟨b0, b1, b2, b3, b4, b5, rfl, b7, b8, b9⟩
    · rw [ts, ht 167 (by decide), ht 168 (by decide), ht 169 (by decide), ht 170 (by decide), ht 171 (by decide), ht 176 (by decide), ht 173 (by decide), ht 174 (by decide), ht 175 (by decide)]
      exact ⟨b0, b1, b2, b3, b4, b5, b6, b7, rfl, b9⟩
  · unfold VCm
    rcases hfa with ⟨rfl, rfl, z⟩ | ⟨rfl, rfl, z⟩ | ⟨rfl, rfl, rfl⟩
    · rw [ts, hs, ht 167 (by decide), ht 168 (by decide), ht 169 (by decide), ht 170 (by decide), ht 171 (by decide), ht 172 (by decide), ht 173 (by decide), ht 174 (by decide), ht 176 (by decide), hm 167 (by decide) (by decide), hm 168 (by decide) (by decide), hm 169 (by decide) (by decide), hm 170 (by decide) (by decide), hm 171 (by decide) (by decide), hm 172 (by decide) (by decide), hm 173 (by decide) (by decide), hm 174 (by decide) (by decide), hm 176 (by decide) (by decide)]
      exact ⟨c0, c1, c2, c3, c4, rfl, c6, c7, c8, c9⟩
    · rw [ts, hs, ht 167 (by decide), ht 168 (by decide), ht 169 (by decide), ht 170 (by decide), ht 171 (by decide), ht 172 (by decide), ht 173 (by decide), ht 174 (by decide), ht 175 (by decide), hm 167 (by decide) (by decide), hm 168 (by decide) (by decide), hm 169 (by decide) (by decide), hm 170 (by decide) (by decide), hm 171 (by decide) (by decide), hm 172 (by decide) (by decide), hm 173 (by decide) (by decide), hm 174 (by decide) (by decide), hm 175 (by decide) (by decide)]
      exact ⟨c0, c1, c2, c3, c4, c5, rfl, c7, c8, c9⟩
    · rw [ts, hs, ht 167 (by decide), ht 168 (by decide), ht 169 (by decide), ht 170 (by decide), ht 171 (by decide), ht 176 (by decide), ht 173 (by decide), ht 174 (by decide), ht 175 (by decide), hm 167 (by decide) (by decide), hm 168 (by decide) (by decide), hm 169 (by decide) (by decide), hm 170 (by decide) (by decide), hm 171 (by decide) (by decide), hm 176 (by decide) (by decide), hm 173 (by decide) (by decide), hm 174 (by decide) (by decide), hm 175 (by decide) (by decide)]
      exact ⟨c0, c1, c2, c3, c4, c5, c6, c7, rfl, c9⟩
  · intro h0
    rcases hfa with ⟨rfl, rfl, z⟩ | ⟨rfl, rfl, z⟩ | ⟨rfl, rfl, rfl⟩
    · rw [ht 172 (by decide)] at h0
      rw [ht 168 (by decide), ht 169 (by decide), ht 170 (by decide), ht 171 (by decide)]
      exact ⟨h0, rfl, rfl, rfl, rfl⟩
    · rw [ht 172 (by decide)] at h0
      rw [ht 168 (by decide), ht 169 (by decide), ht 170 (by decide), ht 171 (by decide)]
      exact ⟨h0, rfl, rfl, rfl, rfl⟩
    · rw [ts] at h0
      omega
theorem InvT.fieldU (hI : InvT m T) {k f a v : Nat} (hk : k < T 163 7) (hfa : (f = 5 ∧ a = 175 ∧ v ≤ 1023) ∨ (f = 6 ∧ a = 176 ∧ 1 ≤ v ∧ v ≤ 60) ∨ (f = 8 ∧ a = 172 ∧ v = 1)) : InvT (upI (upI m (cA k) f (nI v)) a k (nI v)) (up2 T a k v) := by
  have h40 := hI.1.E40
  refine hI.upd (eqRst.up2 (by omega)) ?_ (hI.1.fieldU hk hfa) ?_
  · refine (butO.rfl'.upI (oC_cA (by omega))).upI ?_
    unfold oC
    simp only [Bool.or_eq_true, Bool.and_eq_true, beq_iff_eq, decide_eq_true_eq]
    omega
  · refine CK.up2 ?_ (by omega)
    refine CK.keep hI.2.1 h40 (fun j hj => ?_)
    rw [upI_o _ _ _ _ _ (by unfold cA; omega), upI_o _ _ _ _ _ (by unfold cA; omega)]
theorem pair_calls (x y : Int32) : Pair (EI_X6_calls x y) (EI_X7_calls x y) := by
  rintro m ⟨T, hI⟩
  have hV := hI.1
  have h40 := hV.E40
  rcases cell3 T x y 0 1023 with h | ⟨k, n, hk, hn, rfl, rfl⟩
  · refine e_X6_calls ?_
    unfold wp_X6_calls
    refine X_bad hV (lo := 0) (hi := 1023) rfl rfl (by decide) (by decide) h ?_
    exact e_X7_calls (M_bad hV (lo := 0) (hi := 1023) rfl rfl (by decide) (by decide) h ⟨rfl, hI.toI⟩)
  · refine e_X6_calls ?_
    unfold wp_X6_calls
    refine X_cell hV (lo := 0) (hi := 1023) rfl rfl (by decide) hk hn rfl rfl ?_
    by_cases hd : T 172 k = 0
    · refine X_pres hV hk hd ?_
      rintro v6 ev6 m7 em7
      have hk40 : k < 40 := by omega
      have hU := hI.fieldU (f := 5) (a := 175) (v := n) hk (Or.inl ⟨rfl, rfl, hn.2⟩)
      rw [← em7] at hU
      have hm : ∀ b, 125 ≤ b → m7.1 b = m.1 b := fun b hb => by rw [em7]; exact upI_o _ _ _ _ _ (by unfold cA; omega)
      refine e_X7_calls (M_cell' hV (hm 163 (by decide)) (hm 172 (by decide)) (lo := 0) (hi := 1023) rfl rfl (by decide) hk hn rfl rfl hd ?_)
      have hv : vp_in (nI k) 40 := vI (by omega) (by decide)
      refine ⟨hv, ?_⟩
      rintro v7 ev7
      refine ⟨hv, ?_⟩
      rintro m8 em8
      rw [clI k (by omega)] at ev7 em8
      rw [← em8] at hU
      refine ⟨?_, hU.toI⟩
      rw [ev6, ev7, hm 175 (by decide), (hV.xc hk).2.2.2.2.2.1, (hV.mc hk).2.2.2.2.2.1]
    · refine X_drop hV hk hd ?_
      exact e_X7_calls (M_drop (tell_Vw hV) (lo := 0) (hi := 1023) rfl rfl (by decide) hk hn rfl rfl hd ⟨rfl, (hI.both (by decide) (by decide)).toI⟩)
theorem pair_fix (x y : Int32) : Pair (EI_X6_fix x y) (EI_X7_fix x y) := by
  rintro m ⟨T, hI⟩
  have hV := hI.1
  have h40 := hV.E40
  rcases cell3 T x y 1 60 with h | ⟨k, n, hk, hn, rfl, rfl⟩
  · refine e_X6_fix ?_
    unfold wp_X6_fix
    refine X_bad hV (lo := 1) (hi := 60) rfl rfl (by decide) (by decide) h ?_
    exact e_X7_fix (M_bad hV (lo := 1) (hi := 60) rfl rfl (by decide) (by decide) h ⟨rfl, hI.toI⟩)
  · refine e_X6_fix ?_
    unfold wp_X6_fix
    refine X_cell hV (lo := 1) (hi := 60) rfl rfl (by decide) hk hn rfl rfl ?_
    have hv : vp_in (nI k) 40 := vI (by omega) (by decide)
    have hk40 : k < 40 := by omega
    have hki := (hV.cell hk).1
    by_cases hd : T 172 k = 0
    · refine X_pres hV hk hd ?_
      rw [(hV.xc hk).1, show (2 : Int32) = nI 2 from rfl, eqI (by omega) (by omega)]
      refine ⟨fun h2 => ?_, fun h2 => ?_⟩
      · rintro v6 ev6 m7 em7
        have hU := hI.fieldU (f := 6) (a := 176) (v := n) hk (Or.inr (Or.inl ⟨rfl, rfl, hn.1, hn.2⟩))
        rw [← em7] at hU
        have hm : ∀ b, 125 ≤ b → m7.1 b = m.1 b := fun b hb => by rw [em7]; exact upI_o _ _ _ _ _ (by unfold cA; omega)
        refine e_X7_fix (M_cell' hV (hm 163 (by decide)) (hm 172 (by decide)) (lo := 1) (hi := 60) rfl rfl (by decide) hk hn rfl rfl hd ?_)
        refine ⟨hv, ?_⟩
        rw [clI k (by omega), hm 167 (by decide), (hV.mc hk).1, h2]
        refine ⟨fun _ => ⟨hv, ?_⟩, fun h => absurd rfl h⟩
        rintro v7 ev7
        refine ⟨hv, ?_⟩
        rintro m8 em8
        rw [← em8] at hU
        refine ⟨?_, hU.toI⟩
        rw [ev6, ev7, hm 176 (by decide), (hV.xc hk).2.2.2.2.2.2.1, (hV.mc hk).2.2.2.2.2.2.1]
      · refine w_tell (f := 3) rfl (by decide) ?_
        refine e_X7_fix (M_cell (tell_Vw hV) (lo := 1) (hi := 60) rfl rfl (by decide) hk hn rfl rfl hd ⟨hv, ?_⟩)
        rw [clI k (by omega), ((tell_Vw hV).mc hk).1, show (2 : Int32) = nI 2 from rfl, eqI (by omega) (by omega)]
        exact ⟨fun h => absurd h h2, fun _ => w_meets (f := 3) rfl (by decide) ⟨rfl, (hI.both (by decide) (by decide)).toI⟩⟩
    · refine X_drop hV hk hd ?_
      exact e_X7_fix (M_drop (tell_Vw hV) (lo := 1) (hi := 60) rfl rfl (by decide) hk hn rfl rfl hd ⟨rfl, (hI.both (by decide) (by decide)).toI⟩)
end PAIRS3
