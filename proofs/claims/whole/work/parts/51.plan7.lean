def ent7 (mm : vM) (s : Nat) (p : tP) : Prop := mm.1 196 s = nI p.2.2 ∧ (p.2.2 ≠ 0 → mm.1 194 s = nI p.1 ∧ mm.2 195 s = lN p.2.1)
def St7 (T : tT) (H : Nat → Nat) (h B j : Nat) (m mm : vM) : Prop := (∀ a, a ≠ 194 → a ≠ 196 → mm.1 a = m.1 a) ∧ mm.1 194 (T 163 2) = nI 0 ∧ ∀ x, T 163 2 - j ≤ x → x < T 163 2 → ent7 mm x (tbl T H h B j x)
section PLAN7
variable {m : vM} {T : tT}
theorem dec7 {mm : vM} {s n q : Nat} {p : tP} {A C : Prop} (hs : s < 17) (he : ent7 mm s p) (hp1 : p.1 ≤ 100) (hp2 : p.2.1 ≤ 1000000) (hp3 : p.2.2 ≤ 100) (hn : n ≤ 100) (hq : q ≤ 1000000) (hy : btr p n q → A) (hno : ¬ btr p n q → C) :
    vp_in (nI s) 17 ∧ ((mm.1 196 (Int32.toNatClampNeg (nI s)) = 0 → A) ∧ (¬ mm.1 196 (Int32.toNatClampNeg (nI s)) = 0 → vp_in (nI s) 17 ∧ ((nI n < mm.1 194 (Int32.toNatClampNeg (nI s)) → A) ∧ (¬ nI n < mm.1 194 (Int32.toNatClampNeg (nI s)) → vp_in (nI s) 17 ∧ ((nI n = mm.1 194 (Int32.toNatClampNeg (nI s)) → vp_in (nI s) 17 ∧ ((0 < lg_cmp (lN q) (mm.2 195 (Int32.toNatClampNeg (nI s))) → C) ∧ (¬ 0 < lg_cmp (lN q) (mm.2 195 (Int32.toNatClampNeg (nI s))) → A))) ∧ (¬ nI n = mm.1 194 (Int32.toNatClampNeg (nI s)) → C)))))) := by
  have hv : vp_in (nI s) 17 := vI hs (by decide)
  rw [clI s (by omega), he.1, eq0I (by omega)]
  unfold btr at hy hno
  refine ⟨hv, ife (fun e => hy (Or.inl e)) (fun e => ⟨hv, ?_⟩)⟩
  obtain ⟨h1, h2⟩ := he.2 e
  rw [h1, h2, ltI (by omega) (by omega), eqI (by omega) (by omega), propext (lg_cmp_gt _ _), propext (lN_lt (a := p.2.1) (b := q) (by omega) (by omega))]
  refine ife (fun z => hy (by omega)) (fun z => ⟨hv, ife (fun z2 => ⟨hv, ife (fun z3 => hno (by omega)) (fun z3 => hy (by omega))⟩) (fun z2 => hno (by omega))⟩)
theorem c_plan7 (hV : Vw m T) {h B : Nat} {b : Nat → Nat} (hh : h ≤ 200) (hH : HeadN T B) (h185 : ∀ r, r < T 163 2 → m.1 185 r = nI (HT T b r)) {P : Int32 → vM → Prop}
    (hp : ∀ mm, St7 T (HT T b) h B (T 163 2 - B) m mm → ∀ l3 : Int32, l3 = nI B + (-1) → J_X7_pages_53 (nI h) (nI B) l3 mm P) : ∀ mm, St7 T (HT T b) h B 0 m mm → J_X7_pages_53 (nI h) (nI B) (nI (T 163 2) + (-1)) mm P := by
  have hR := hV.R
  have hB := hH.1
  have hmm : ∀ {mm : vM}, (∀ a, a ≠ 194 → a ≠ 196 → mm.1 a = m.1 a) → Vw mm T := fun hf => hV.rd (fun a j hr => by
    rw [hf a]
    · intro e; subst e; cases hr
    · intro e; subst e; cases hr)
  have main : ∀ mm, St7 T (HT T b) h B 0 m mm → J_X7_pages_53 (nI h) (nI B) (nI (T 163 2 - 0) + (-1)) mm P := by
    refine fun mm0 hst0 => loop_up (Q := fun j => ∀ mm, St7 T (HT T b) h B j m mm → J_X7_pages_53 (nI h) (nI B) (nI (T 163 2 - j) + (-1)) mm P) (n := T 163 2 - B) (fun mm hst => ?_) (fun j hj ih mm hst => ?_) 0 (Nat.zero_le _) mm0 hst0
    · exact hp mm hst _ (by rw [show T 163 2 - (T 163 2 - B) = B by omega])
    · -- one row s
      generalize hs : T 163 2 - 1 - j = s
      have es : nI (T 163 2 - j) + (-1) = nI s := by rw [show T 163 2 - j = s + 1 by omega, pk_m1]
      rw [es]
      refine b_X7_pages_53 ?_
      unfold wp_X7_pages_53
      have hv : vp_in (nI s) 17 := vI (by omega) (by decide)
      rw [ltI (by omega) (by omega), clI s (by omega)]
      refine ifn (by omega) ⟨hv, ?_⟩
      rintro m3 em3
      rintro v4 ev4
      rw [ad1I] at ev4
      subst ev4
      have hinner : ∀ mm : vM, ((∀ a, a ≠ 194 → a ≠ 196 → mm.1 a = m.1 a) ∧ mm.1 194 (T 163 2) = nI 0 ∧ (∀ x, T 163 2 - j ≤ x → x < T 163 2 → ent7 mm x (tbl T (HT T b) h B j x))) → ent7 mm s (bst T (HT T b) h B (tbl T (HT T b) h B j) s 0) → J_X7_pages_70 (nI h) (nI B) (nI s) (nI (s + 0 + 1)) mm P := by
        refine fun mm1 q1 q2 => loop_up (Q := fun d => ∀ mm : vM, ((∀ a, a ≠ 194 → a ≠ 196 → mm.1 a = m.1 a) ∧ mm.1 194 (T 163 2) = nI 0 ∧ (∀ x, T 163 2 - j ≤ x → x < T 163 2 → ent7 mm x (tbl T (HT T b) h B j x))) → ent7 mm s (bst T (HT T b) h B (tbl T (HT T b) h B j) s d) → J_X7_pages_70 (nI h) (nI B) (nI s) (nI (s + d + 1)) mm P) (n := T 163 2 - s) (fun mm hf he => ?_) (fun d hd ihd mm hf he => ?_) 0 (Nat.zero_le _) mm1 q1 q2
        · refine b_X7_pages_70 ?_
          unfold wp_X7_pages_70
          have hVm := hmm hf.1
          rw [hVm.mR]
          refine ifs (nI_lt (by omega) (by omega)) ?_
          rw [show s = T 163 2 - (j + 1) by omega] at *
          refine ih mm ⟨hf.1, hf.2.1, fun x h1 h2 => ?_⟩
          by_cases e : x = T 163 2 - 1 - j
          · have : T 163 2 - (T 163 2 - (j + 1)) = j + 1 := by omega
            rw [this] at he
            rw [e, tbl_s, show T 163 2 - 1 - j = T 163 2 - (j + 1) by omega]
            exact he
          · rw [tbl_o e]
            exact hf.2.2 x (by omega) h2
        · have hVm := hmm hf.1
          have hok := bst_ok (T := T) (H := HT T b) (h := h) (B := B) (tb := tbl T (HT T b) h B j) (s := s) d
          have hb1 : (bst T (HT T b) h B (tbl T (HT T b) h B j) s d).1 ≤ 100 := by
            have := bst_pg (T := T) (H := HT T b) (h := h) (B := B) (tb := tbl T (HT T b) h B j) (s := s) (M := j) (fun x _ => tbl_pg j x) d
            omega
          have hb2 : (bst T (HT T b) h B (tbl T (HT T b) h B j) s d).2.1 ≤ 1000000 := by
            have := bst_sq (T := T) (H := HT T b) (h := h) (B := B) (tb := tbl T (HT T b) h B j) (s := s) (M := 40000 * j) hh (fun x _ => tbl_sq hh j x) d
            omega
          have hb3 : (bst T (HT T b) h B (tbl T (HT T b) h B j) s d).2.2 ≤ 100 := by
            rcases hok with q | q
            · omega
            · have := q.1.2; omega
          have hnext : ∀ mm : vM, ((∀ a, a ≠ 194 → a ≠ 196 → mm.1 a = m.1 a) ∧ mm.1 194 (T 163 2) = nI 0 ∧ (∀ x, T 163 2 - j ≤ x → x < T 163 2 → ent7 mm x (tbl T (HT T b) h B j x))) → ent7 mm s (bst T (HT T b) h B (tbl T (HT T b) h B j) s (d + 1)) → J_X7_pages_70 (nI h) (nI B) (nI s) (nI (s + d + 1) + 1) mm P := fun mm z1 z2 => by
            rw [ad1I]
            exact ihd mm z1 z2
          have hno : ¬ (goes T B (tbl T (HT T b) h B j) (s + d + 1) ∧ fits T (HT T b) h B s (s + d + 1) ∧ btr (bst T (HT T b) h B (tbl T (HT T b) h B j) s d) (nPg T (tbl T (HT T b) h B j) (s + d + 1)) (nSq T (HT T b) h B (tbl T (HT T b) h B j) s (s + d + 1))) → J_X7_pages_70 (nI h) (nI B) (nI s) (nI (s + d + 1) + 1) mm P := fun z => hnext mm hf (by rw [bst_no z]; exact he)
          have h111 : ¬ goes T B (tbl T (HT T b) h B j) (s + d + 1) → J_X7_pages_111 (nI h) (nI B) (nI s) (nI (s + d + 1)) mm P := fun z => by
            refine b_X7_pages_111 ?_
            unfold wp_X7_pages_111
            exact ifs rfl (ifs (by decide) (hno (fun q => z q.1)))
          have h107 : goes T B (tbl T (HT T b) h B j) (s + d + 1) → J_X7_pages_107 (nI h) (nI B) (nI s) (nI (s + d + 1)) mm P := fun hg => by
            refine b_X7_pages_107 ?_
            unfold wp_X7_pages_107
            refine ifn (by decide) ?_
            refine c_X7_emptyOf (b := b) hVm hh (by omega) (by omega) hB (fun r hr => by rw [hf.1 185 (by decide) (by decide)]; exact h185 r hr) (fun ha => ?_) (fun ha => ?_)
            · exact ifs (by decide) (hno (fun q => q.2.1.2 ha))
            · have hub := usd_bd hV (b := b) (s := s) hB (show s + d + 1 ≤ T 163 2 by omega)
              by_cases hle : usd T (HT T b) B s (s + d + 1) ≤ h
              · rw [sbI hle]
                refine ifn (nI_pos (by omega)) ?_
                have hfit : fits T (HT T b) h B s (s + d + 1) := ⟨hle, ha⟩
                have hve : vp_in (nI (s + d + 1)) 17 := vI (by omega) (by decide)
                refine ⟨hve, ?_⟩
                rintro v26 ev26
                rw [clI (s + d + 1) (by omega)] at ev26
                -- both ends alike: the number of pages, the squares
                have hwr : btr (bst T (HT T b) h B (tbl T (HT T b) h B j) s d) (nPg T (tbl T (HT T b) h B j) (s + d + 1)) (nSq T (HT T b) h B (tbl T (HT T b) h B j) s (s + d + 1)) → J_X7_pages_223 (nI h) (nI B) (nI s) (nI (s + d + 1)) (nI (nPg T (tbl T (HT T b) h B j) (s + d + 1))) (lN (nSq T (HT T b) h B (tbl T (HT T b) h B j) s (s + d + 1))) mm P := fun hb => by
                  refine b_X7_pages_223 ?_
                  unfold wp_X7_pages_223
                  refine ifn (by decide) ⟨hv, ?_⟩
                  rintro m2 em2
                  refine ⟨hv, ?_⟩
                  rintro m4 em4
                  refine ⟨hv, ?_⟩
                  rintro m6 em6
                  rw [clI s (by omega)] at em2 em4 em6
                  have e1 : ∀ a, m4.1 a = m2.1 a := fun a => by rw [em4]; rfl
                  have h6o : ∀ x, x ≠ s → m6.1 196 x = mm.1 196 x ∧ m6.1 194 x = mm.1 194 x ∧ m6.2 195 x = mm.2 195 x := fun x hx => by
                    refine ⟨?_, ?_, ?_⟩
                    · rw [em6, upI_n _ _ _ _ _ _ (Or.inr hx), e1, em2, upI_o _ _ _ _ _ (by decide)]
                    · rw [em6, upI_o _ _ _ _ _ (by decide), e1, em2, upI_n _ _ _ _ _ _ (Or.inr hx)]
                    · rw [em6, em4]
                      show (upL m2 195 s _).2 195 x = _
                      unfold upL
                      show (if 195 = 195 then vp_updL (m2.2 195) s _ else m2.2 195) x = _
                      rw [if_pos rfl, pk_uLn hx, em2]
                      rfl
                  refine hnext m6 ⟨fun a z1 z2 => ?_, ?_, fun x z1 z2 => ?_⟩ ?_
                  · rw [em6, upI_o _ _ _ _ _ z2, e1, em2, upI_o _ _ _ _ _ z1]; exact hf.1 a z1 z2
                  · rw [(h6o _ (by omega)).2.1]; exact hf.2.1
                  · obtain ⟨o1, o2, o3⟩ := h6o x (by omega)
                    have := hf.2.2 x z1 z2
                    unfold ent7 at *
                    rw [o1, o2, o3]
                    exact this
                  · rw [bst_yes ⟨hg, hfit, hb⟩]
                    refine ⟨?_, fun _ => ⟨?_, ?_⟩⟩
                    · rw [em6, upI_s, sbI (by omega), show s + d + 1 - s = d + 1 by omega]
                    · rw [em6, upI_o _ _ _ _ _ (by decide), e1, em2, upI_s]
                    · rw [em6, em4]
                      show (upL m2 195 s _).2 195 s = _
                      unfold upL
                      show (if 195 = 195 then vp_updL (m2.2 195) s _ else m2.2 195) s = _
                      rw [if_pos rfl, pk_uLs]
                have hst : ¬ btr (bst T (HT T b) h B (tbl T (HT T b) h B j) s d) (nPg T (tbl T (HT T b) h B j) (s + d + 1)) (nSq T (HT T b) h B (tbl T (HT T b) h B j) s (s + d + 1)) → J_X7_pages_227 (nI h) (nI B) (nI s) (nI (s + d + 1)) (nI (nPg T (tbl T (HT T b) h B j) (s + d + 1))) (lN (nSq T (HT T b) h B (tbl T (HT T b) h B j) s (s + d + 1))) mm P := fun hb => by
                  refine b_X7_pages_227 ?_
                  unfold wp_X7_pages_227
                  exact ifs rfl (hno (fun q => hb q.2.2))
                have hnb : nPg T (tbl T (HT T b) h B j) (s + d + 1) ≤ 100 := by
                  have := tbl_pg (T := T) (H := HT T b) (h := h) (B := B) j (s + d + 1)
                  unfold nPg
                  split <;> omega
                have hsq : nSq T (HT T b) h B (tbl T (HT T b) h B j) s (s + d + 1) ≤ 1000000 := by
                  have h1 := tbl_sq (T := T) (H := HT T b) (h := h) (B := B) hh j (s + d + 1)
                  have h2 : (h - usd T (HT T b) B s (s + d + 1)) * (h - usd T (HT T b) B s (s + d + 1)) ≤ 200 * 200 := Nat.mul_le_mul (by omega) (by omega)
                  unfold nSq
                  split <;> omega
                have hdec := dec7 (mm := mm) (s := s) (by omega) he hb1 hb2 hb3 hnb hsq hwr hst
                rw [hVm.mR, eqI (by omega) (by omega)]
                refine ife (fun eR => ?_) (fun eR => ?_)
                · have en : v26 = nI (nPg T (tbl T (HT T b) h B j) (s + d + 1)) := by
                    rw [ev26, eR, hf.2.1]
                    unfold nPg
                    rw [if_pos rfl]
                    rfl
                  have eq : (0 : Int64) = lN (nSq T (HT T b) h B (tbl T (HT T b) h B j) s (s + d + 1)) := by
                    unfold nSq
                    rw [if_pos eR]
                    rfl
                  rw [en, eq]
                  exact hdec
                · have hlen : (tbl T (HT T b) h B j (s + d + 1)).2.2 ≠ 0 := by
                    rcases hg with q | q
                    · exact absurd q eR
                    · omega
                  obtain ⟨e94, e95⟩ := (hf.2.2 (s + d + 1) (by omega) (by omega)).2 hlen
                  have en : v26 = nI (nPg T (tbl T (HT T b) h B j) (s + d + 1)) := by
                    rw [ev26, e94, show (1 : Int32) = nI 1 from rfl, adI]
                    unfold nPg
                    rw [if_neg eR]
                  refine ⟨hve, ?_⟩
                  rintro v28 ev28
                  rw [clI (s + d + 1) (by omega), e95, nI_l (by omega), lN_mul, lN_add] at ev28
                  have eq : v28 = lN (nSq T (HT T b) h B (tbl T (HT T b) h B j) s (s + d + 1)) := by
                    rw [ev28]
                    unfold nSq
                    rw [if_neg eR]
                  rw [en, eq]
                  exact hdec
              · exact ifs (pk_sneg (by omega) (by omega)) (hno (fun q => hle q.2.1.1))
          refine b_X7_pages_70 ?_
          unfold wp_X7_pages_70
          rw [hVm.mR, ltI (by omega) (by omega), eqI (by omega) (by omega)]
          refine ifn (by omega) (ife (fun eR => h107 (Or.inl eR)) (fun eR => ?_))
          refine c_X7_mayBreakAt hVm hH (by omega) (fun hb => i1 ?_) (fun hb => i0 (h111 (fun q => ?_)))
          · have hent := hf.2.2 (s + d + 1) (by omega) (by omega)
            have hlb : (tbl T (HT T b) h B j (s + d + 1)).2.2 < 2 ^ 31 := by
              have := tbl_len (T := T) (H := HT T b) (h := h) (B := B) j (s + d + 1)
              omega
            rw [clI (s + d + 1) (by omega), hent.1, le0I hlb]
            exact ⟨vI (by omega) (by decide), ife (fun z => h111 (fun q => by
              rcases q with q | q
              · exact eR q
              · omega)) (fun z => h107 (Or.inr ⟨hb, by omega⟩))⟩
          · rcases q with q | q
            · exact eR q
            · exact hb q.1
      refine hinner m3 ⟨fun a z1 z2 => ?_, ?_, fun x z1 z2 => ?_⟩ ⟨?_, fun z => absurd rfl z⟩
      · rw [em3, upI_o _ _ _ _ _ z2]; exact hst.1 a z1 z2
      · rw [em3, upI_o _ _ _ _ _ (by decide)]; exact hst.2.1
      · have := hst.2.2 x z1 z2
        unfold ent7 at *
        rw [em3, upI_n _ _ _ _ _ _ (Or.inr (show x ≠ s by omega)), upI_o _ _ _ _ _ (by decide)]
        exact this
      · rw [em3, upI_s]; rfl
  intro mm hst
  exact main mm hst
end PLAN7
