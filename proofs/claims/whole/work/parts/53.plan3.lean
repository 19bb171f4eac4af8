/-- what the component's tables hold after the rows from R - j on -/
def St3 (T : tT) (H : Nat → Nat) (h B j : Nat) (m mm : vM) : Prop := (∀ a, a ≠ 159 → a ≠ 160 → a ≠ 161 → mm.1 a = m.1 a) ∧ mm.1 159 (T 163 2) = nI 0 ∧ (∀ x, x < T 163 2 - j → mm.1 159 x = nI 0) ∧ ∀ x, T 163 2 - j ≤ x → x < T 163 2 → ((x = B ∨ brk T B x) → ent3 mm x (tbl T H h B j x)) ∧ (¬ (x = B ∨ brk T B x) → mm.1 159 x = nI 0)
section PLAN3
variable {m : vM} {T : tT}
theorem c_X3_planFrom (hV : Vw m T) {h B j s : Nat} {b : Nat → Nat} (hh : h ≤ 200) (hB : B < T 163 2) (hs : s + j + 1 = T 163 2) (hBs : B ≤ s)
    (h9 : m.1 139 9 = nI h - nI (nsum (HT T b) B)) (h10 : m.1 139 10 = nI B) (h11 : m.1 139 11 = nI (T 163 2)) (h126 : ∀ r, r < T 163 2 → m.1 126 r = nI (HT T b r)) (h158 : ∀ r, r < T 163 2 → m.1 158 r = nI (HL T B r)) {P : vM → Prop}
    (mm0 : vM) (hst : St3 T (HT T b) h B j m mm0) (hp : ∀ m1 : vM, (∀ a, a ≠ 159 → a ≠ 160 → a ≠ 161 → m1.1 a = m.1 a) → (∀ x, x ≠ s → m1.1 159 x = mm0.1 159 x ∧ m1.1 160 x = mm0.1 160 x ∧ m1.1 161 x = mm0.1 161 x) → ent3 m1 s (bst T (HT T b) h B (tbl T (HT T b) h B j) s (j + 1)) → P m1) : EI_X3_planFrom (nI s) mm0 P := by
  have hR := hV.R
  refine f_X3_planFrom (b_X3_planFrom_0 ?_)
  unfold wp_X3_planFrom_0
  rintro v1 ev1 v2 ev2
  rw [hst.1 139 (by decide) (by decide) (by decide), h9, ← usd_nil (T := T) (H := HT T b) (B := B) (s := s)] at ev1
  rw [ad1I] at ev2
  subst ev1 ev2
  have main : J_X3_planFrom_9 (nI s) (nI h - nI (usd T (HT T b) B s (s + 0))) (nI (s + 0 + 1)) mm0 P := by
    refine loop_up (Q := fun d => ∀ mm : vM, (∀ a, a ≠ 159 → a ≠ 160 → a ≠ 161 → mm.1 a = m.1 a) → (∀ x, x ≠ s → mm.1 159 x = mm0.1 159 x ∧ mm.1 160 x = mm0.1 160 x ∧ mm.1 161 x = mm0.1 161 x) → ent3 mm s (bst T (HT T b) h B (tbl T (HT T b) h B j) s d) → J_X3_planFrom_9 (nI s) (nI h - nI (usd T (HT T b) B s (s + d))) (nI (s + d + 1)) mm P) (n := j + 1) (fun mm hf ho he => ?_) (fun d hd ih mm hf ho he => ?_) 0 (Nat.zero_le _) mm0 hst.1 (fun _ _ => ⟨rfl, rfl, rfl⟩) ⟨fun _ => hst.2.2.1 s (by omega), fun z => absurd rfl z⟩
    · refine b_X3_planFrom_9 ?_
      unfold wp_X3_planFrom_9
      rw [hf 139 (by decide) (by decide) (by decide), h11]
      exact ifs (nI_lt (by omega) (by omega)) (hp mm hf ho he)
    · have hub := usd_bd hV (b := b) (s := s) (show B ≤ T 163 2 by omega) (show s + d + 1 ≤ T 163 2 by omega)
      have hok := bst_ok (T := T) (H := HT T b) (h := h) (B := B) (tb := tbl T (HT T b) h B j) (s := s) d
      have hb1 : (bst T (HT T b) h B (tbl T (HT T b) h B j) s d).1 ≤ 100 := by
        have := bst_pg (T := T) (H := HT T b) (h := h) (B := B) (tb := tbl T (HT T b) h B j) (s := s) (M := j) (fun x _ => tbl_pg j x) d
        omega
      have hb2 : (bst T (HT T b) h B (tbl T (HT T b) h B j) s d).2.1 ≤ 1000000 := by
        have := bst_sq (T := T) (H := HT T b) (h := h) (B := B) (tb := tbl T (HT T b) h B j) (s := s) (M := 40000 * j) hh (fun x _ => tbl_sq hh j x) d
        omega
      have hp0 : (bst T (HT T b) h B (tbl T (HT T b) h B j) s d).2.2 ≠ 0 → 1 ≤ (bst T (HT T b) h B (tbl T (HT T b) h B j) s d).1 := fun z => by
        rcases hok with q | q
        · exact absurd q.1 z
        · exact q.2.1
      -- the entry of the row where the page would end
      have hentE : s + d + 1 < T 163 2 → (brk T B (s + d + 1) → ent3 mm (s + d + 1) (tbl T (HT T b) h B j (s + d + 1))) ∧ (¬ brk T B (s + d + 1) → mm.1 159 (s + d + 1) = nI 0) := fun hlt => by
        obtain ⟨o1, o2, o3⟩ := ho (s + d + 1) (by omega)
        obtain ⟨g1, g2⟩ := hst.2.2.2 (s + d + 1) (by omega) hlt
        unfold ent3 at *
        rw [o1, o2, o3]
        exact ⟨fun z => g1 (Or.inr z), fun z => g2 (fun q => by
          rcases q with q | q
          · omega
          · exact z q)⟩
      have hER : mm.1 159 (T 163 2) = nI 0 := by rw [(ho (T 163 2) (by omega)).1]; exact hst.2.1
      have htl := tbl_len (T := T) (H := HT T b) (h := h) (B := B) j (s + d + 1)
      have htp := tbl_pg (T := T) (H := HT T b) (h := h) (B := B) j (s + d + 1)
      have hts := tbl_sq (T := T) (H := HT T b) (h := h) (B := B) hh j (s + d + 1)
      have hpos : (tbl T (HT T b) h B j (s + d + 1)).2.2 ≠ 0 → 1 ≤ (tbl T (HT T b) h B j (s + d + 1)).1 := fun z => by
        rcases Nat.lt_or_ge (s + d + 1) (T 163 2) with hlt | hge
        · have hkeep := tbl_keep (T := T) (H := HT T b) (h := h) (B := B) (x := s + d + 1) (T 163 2 - 1 - (s + d + 1) + 1) j (by omega) (by omega) (by omega)
          rw [hkeep] at z ⊢
          have e := tbl_s (T := T) (H := HT T b) (h := h) (B := B) (j := T 163 2 - 1 - (s + d + 1))
          rw [show T 163 2 - 1 - (T 163 2 - 1 - (s + d + 1)) = s + d + 1 by omega] at e
          rw [e] at z ⊢
          rcases bst_ok (T := T) (H := HT T b) (h := h) (B := B) (tb := tbl T (HT T b) h B (T 163 2 - 1 - (s + d + 1))) (s := s + d + 1) (T 163 2 - 1 - (s + d + 1) + 1) with q | q
          · exact absurd q.1 z
          · exact q.2.1
        · exfalso
          have e0 := tbl_keep (T := T) (H := HT T b) (h := h) (B := B) (x := s + d + 1) 0 j (Nat.zero_le _) (by omega) (by omega)
          rw [e0] at z
          exact z rfl
      have hgo0 : ¬ (goes T B (tbl T (HT T b) h B j) (s + d + 1) ∧ fits T (HT T b) h B s (s + d + 1) ∧ btr (bst T (HT T b) h B (tbl T (HT T b) h B j) s d) (nPg T (tbl T (HT T b) h B j) (s + d + 1)) (nSq T (HT T b) h B (tbl T (HT T b) h B j) s (s + d + 1))) → J_X3_planFrom_9 (nI s) (nI h - nI (usd T (HT T b) B s (s + d + 1))) (nI (s + d + 1) + 1) mm P := fun z => by
        rw [ad1I]
        exact ih mm hf ho (by rw [bst_no z]; exact he)
      have hal : ∀ {W : Int32 → vM → Prop}, (alo T (HT T b) B s (s + d + 1) → W 1 mm) → (¬ alo T (HT T b) B s (s + d + 1) → W 0 mm) → wp_X3_isAlone (nI s) (nI (s + d + 1)) mm W := by
        intro W w1 w0
        have hHs := (HT_bd hV (b := b) s).1
        unfold wp_X3_isAlone
        rw [hf 126 (by decide) (by decide) (by decide), hf 139 (by decide) (by decide) (by decide), h10, h11, sbI (by omega), clI s (by omega), h126 s (by omega), sbI (by omega), show (1 : Int32) = nI 1 from rfl, eqI (by omega) (by omega), eqI (by omega) (by omega), leI (by omega) (by omega)]
        unfold alo at w1 w0
        exact ife (fun z1 => ⟨vI (by omega) (by decide), ife (fun z2 => ife (fun z3 => w0 (by omega)) (fun z3 => w1 (by omega))) (fun z2 => w0 (by omega))⟩) (fun z1 => w0 (by omega))
      have h57 : goes T B (tbl T (HT T b) h B j) (s + d + 1) → J_X3_planFrom_57 (nI s) (nI h - nI (usd T (HT T b) B s (s + d + 1))) (nI (s + d + 1)) mm P := fun hg => by
        refine b_X3_planFrom_57 ?_
        unfold wp_X3_planFrom_57
        by_cases hle : usd T (HT T b) B s (s + d + 1) ≤ h
        · rw [sbI hle]
          rw [sbI hle] at hgo0
          refine ifn (nI_pos (by omega)) (ifn (by decide) ?_)
          refine hal (fun ha => i1 (hgo0 (fun q => q.2.1.2 ha))) (fun ha => i0 ?_)
          have hnb : nPg T (tbl T (HT T b) h B j) (s + d + 1) ≤ 100 := by
            unfold nPg
            split <;> omega
          have hsq : nSq T (HT T b) h B (tbl T (HT T b) h B j) s (s + d + 1) ≤ 1000000 := by
            have h2 : (h - usd T (HT T b) B s (s + d + 1)) * (h - usd T (HT T b) B s (s + d + 1)) ≤ 200 * 200 := Nat.mul_le_mul (by omega) (by omega)
            unfold nSq
            split <;> omega
          have hentG : s + d + 1 ≠ T 163 2 → mm.1 159 (s + d + 1) = nI (tbl T (HT T b) h B j (s + d + 1)).1 ∧ mm.1 160 (s + d + 1) = nI (tbl T (HT T b) h B j (s + d + 1)).2.1 := fun z => by
            rcases hg with q | ⟨q1, q2⟩
            · exact absurd q z
            · have := (((hentE (by omega)).1 q1).2 (by omega))
              exact ⟨this.1, this.2.1⟩
          refine c_X3_weigh (R := T 163 2) (n := nPg T (tbl T (HT T b) h B j) (s + d + 1)) (q := nSq T (HT T b) h B (tbl T (HT T b) h B j) s (s + d + 1)) (p := bst T (HT T b) h B (tbl T (HT T b) h B j) s d) (by omega) (by omega) (by rw [hf 139 (by decide) (by decide) (by decide)]; exact h11) hR.2 he hp0 hb1 hb2 hnb hsq ?_ ⟨fun z => ?_, fun z => ?_⟩ (fun hbt => hgo0 (fun q => hbt q.2.2)) (fun hbt m6 em6 => ?_)
          · unfold nPg
            by_cases z : s + d + 1 = T 163 2
            · rw [if_pos z, z, hER]; rfl
            · rw [if_neg z, (hentG z).1, show (1 : Int32) = nI 1 from rfl, adI]
          · unfold nSq
            rw [if_pos z]
          · unfold nSq
            rw [if_neg z, (hentG z).2, mlI, adI]
          · rw [ad1I]
            have h6a : ∀ a, a ≠ 159 → a ≠ 160 → a ≠ 161 → m6.1 a = mm.1 a := fun a z1 z2 z3 => by rw [em6, upI_o _ _ _ _ _ z3, upI_o _ _ _ _ _ z2, upI_o _ _ _ _ _ z1]
            have := ih m6 (fun a z1 z2 z3 => (h6a a z1 z2 z3).trans (hf a z1 z2 z3)) (fun x hx => ?_) ?_
            · rw [← Nat.add_assoc, sbI hle] at this
              exact this
            · obtain ⟨o1, o2, o3⟩ := ho x hx
              rw [← o1, ← o2, ← o3, em6]
              refine ⟨?_, ?_, ?_⟩
              · rw [upI_o _ _ _ _ _ (by decide), upI_o _ _ _ _ _ (by decide), upI_n _ _ _ _ _ _ (Or.inr hx)]
              · rw [upI_o _ _ _ _ _ (by decide), upI_n _ _ _ _ _ _ (Or.inr hx), upI_o _ _ _ _ _ (by decide)]
              · rw [upI_n _ _ _ _ _ _ (Or.inr hx), upI_o _ _ _ _ _ (by decide), upI_o _ _ _ _ _ (by decide)]
            · rw [bst_yes ⟨hg, ⟨hle, ha⟩, hbt⟩]
              refine ⟨fun z => absurd z (Nat.succ_ne_zero d), fun _ => ⟨?_, ?_, ?_⟩⟩
              · rw [em6, upI_o _ _ _ _ _ (by decide), upI_o _ _ _ _ _ (by decide), upI_s]
              · rw [em6, upI_o _ _ _ _ _ (by decide), upI_s]
              · rw [em6, upI_s]; rfl
        · exact ifs (pk_sneg (by omega) (by omega)) (hgo0 (fun q => hle q.2.1.1))
      refine b_X3_planFrom_9 ?_
      unfold wp_X3_planFrom_9
      rw [hf 139 (by decide) (by decide) (by decide), h11, ltI (by omega) (by omega), show (1 : Int32) = nI 1 from rfl, sbI (show 1 ≤ s + d + 1 by omega), show s + d + 1 - 1 = s + d by omega, clI (s + d) (by omega), hf 126 (by decide) (by decide) (by decide), hf 158 (by decide) (by decide) (by decide), h126 _ (by omega), h158 _ (by omega)]
      have hv1 : vp_in (nI (s + d)) 16 := vI (by omega) (by decide)
      refine ifn (by omega) ⟨hv1, hv1, ?_⟩
      rintro v3 ev3
      rw [adI, nm_sub, ← usd_snoc (by omega)] at ev3
      subst ev3
      rw [eqI (by omega) (by omega)]
      refine ife (fun z => h57 (Or.inl z)) (fun z => ⟨vI (by omega) (by decide), ?_⟩)
      rw [clI (s + d + 1) (by omega)]
      have hskip : ¬ goes T B (tbl T (HT T b) h B j) (s + d + 1) → ((nI h - nI (usd T (HT T b) B s (s + d + 1)) < 0 → J_X3_planFrom_9 (nI s) (nI h - nI (usd T (HT T b) B s (s + d + 1))) (nI (s + d + 1) + nI 1) mm P) ∧ (¬ nI h - nI (usd T (HT T b) B s (s + d + 1)) < 0 → ((0 : Int32) = 0 → J_X3_planFrom_9 (nI s) (nI h - nI (usd T (HT T b) B s (s + d + 1))) (nI (s + d + 1) + nI 1) mm P) ∧ (¬ (0 : Int32) = 0 → wp_X3_isAlone (nI s) (nI (s + d + 1)) mm (fun r6 m5 => (r6 = 0 → EI_X3_weigh (nI s) (nI (s + d + 1)) (nI h - nI (usd T (HT T b) B s (s + d + 1))) m5 (fun m7 => J_X3_planFrom_9 (nI s) (nI h - nI (usd T (HT T b) B s (s + d + 1))) (nI (s + d + 1) + nI 1) m7 P)) ∧ (¬ r6 = 0 → J_X3_planFrom_9 (nI s) (nI h - nI (usd T (HT T b) B s (s + d + 1))) (nI (s + d + 1) + nI 1) m5 P))))) := fun hg => ife (fun _ => hgo0 (fun q => hg q.1)) (fun _ => ifs rfl (hgo0 (fun q => hg q.1)))
      have hent := hentE (by omega)
      by_cases hbk : brk T B (s + d + 1)
      · by_cases hlen : (tbl T (HT T b) h B j (s + d + 1)).2.2 = 0
        · rw [(hent.1 hbk).1 hlen]
          exact ifs (by decide) (hskip (fun q => by
            rcases q with q | q
            · exact z q
            · omega))
        · rw [((hent.1 hbk).2 hlen).1, le0I (by omega)]
          have := hpos hlen
          exact ifn (by omega) (h57 (Or.inr ⟨hbk, by omega⟩))
      · rw [hent.2 hbk]
        exact ifs (by decide) (hskip (fun q => by
          rcases q with q | q
          · exact z q
          · exact hbk q.1))
  exact main
end PLAN3
