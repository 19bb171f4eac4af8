theorem pr_lt (n : Nat) (h : n < 2 ^ 30) : nI n + (-1) < nI n := by
  cases n with
  | zero => decide
  | succ n => rw [pk_m1]; exact nI_lt (Nat.lt_succ_self n) (by omega)
theorem bst_fit {T : tT} {H : Nat → Nat} {h B : Nat} {tb : Nat → tP} {s : Nat} : ∀ d, (bst T H h B tb s d).2.2 ≠ 0 → fits T H h B s (s + (bst T H h B tb s d).2.2) := by
  intro d
  induction d with
  | zero => intro z; exact absurd rfl z
  | succ d ih =>
    by_cases hy : goes T B tb (s + d + 1) ∧ fits T H h B s (s + d + 1) ∧ btr (bst T H h B tb s d) (nPg T tb (s + d + 1)) (nSq T H h B tb s (s + d + 1))
    · rw [bst_yes hy]
      intro _
      exact hy.2.1
    · rw [bst_no hy]
      exact ih
noncomputable def TB (T : tT) (H : Nat → Nat) (h B : Nat) : Nat → tP := tbl T H h B (T 163 2 - B)
/-- a row where a page begins -/
def isP (T : tT) (H : Nat → Nat) (h B s : Nat) : Prop := B ≤ s ∧ s < T 163 2 ∧ (s = B ∨ brk T B s) ∧ (TB T H h B s).2.2 ≠ 0
theorem TB_step {T : tT} {H : Nat → Nat} {h B s : Nat} (hs : isP T H h B s) : 1 ≤ (TB T H h B s).2.2 ∧ s + (TB T H h B s).2.2 ≤ T 163 2 ∧ fits T H h B s (s + (TB T H h B s).2.2) ∧ ((s + (TB T H h B s).2.2 = T 163 2 ∧ (TB T H h B s).1 = 1) ∨ (isP T H h B (s + (TB T H h B s).2.2) ∧ (TB T H h B s).1 = 1 + (TB T H h B (s + (TB T H h B s).2.2)).1)) := by
  obtain ⟨h1, h2, h3, h4⟩ := hs
  have hk : ∀ x, s < x → x < T 163 2 → tbl T H h B (T 163 2 - 1 - s) x = TB T H h B x := fun x z1 z2 => (tbl_keep (T 163 2 - 1 - s) (T 163 2 - B) (by omega) (by omega) (by omega)).symm
  have e : TB T H h B s = bst T H h B (tbl T H h B (T 163 2 - 1 - s)) s (T 163 2 - 1 - s + 1) := by
    unfold TB
    rw [tbl_keep (T 163 2 - 1 - s + 1) (T 163 2 - B) (by omega) (by omega) (by omega)]
    have := tbl_s (T := T) (H := H) (h := h) (B := B) (j := T 163 2 - 1 - s)
    rw [show T 163 2 - 1 - (T 163 2 - 1 - s) = s by omega] at this
    exact this
  have hf := bst_fit (T := T) (H := H) (h := h) (B := B) (tb := tbl T H h B (T 163 2 - 1 - s)) (s := s) (T 163 2 - 1 - s + 1)
  rw [← e] at hf
  have hok := bst_ok (T := T) (H := H) (h := h) (B := B) (tb := tbl T H h B (T 163 2 - 1 - s)) (s := s) (T 163 2 - 1 - s + 1)
  rw [← e] at hok
  rcases hok with q | ⟨⟨q1, q2⟩, q3, q4, q5⟩
  · exact absurd q.1 h4
  · refine ⟨q1, by omega, hf h4, ?_⟩
    unfold nPg at q5
    by_cases hE : s + (TB T H h B s).2.2 = T 163 2
    · rw [if_pos hE] at q5
      exact Or.inl ⟨hE, q5⟩
    · rw [if_neg hE, hk _ (by omega) (by omega)] at q5
      rcases q4 with z | ⟨z1, z2⟩
      · exact absurd z hE
      · rw [hk _ (by omega) (by omega)] at z2
        exact Or.inr ⟨⟨by omega, by omega, Or.inr z1, by omega⟩, q5⟩
theorem TB_pg {T : tT} {H : Nat → Nat} {h B s : Nat} (hs : isP T H h B s) : (TB T H h B s).1 + s ≤ T 163 2 ∧ 1 ≤ (TB T H h B s).1 := by
  have main : ∀ k s, T 163 2 - s ≤ k → isP T H h B s → (TB T H h B s).1 + s ≤ T 163 2 ∧ 1 ≤ (TB T H h B s).1 := by
    intro k
    induction k with
    | zero => intro s h1 h2; have := h2.2.1; omega
    | succ k ih =>
      intro s h1 h2
      obtain ⟨g1, g2, g3, g4⟩ := TB_step h2
      have := h2.2.1
      rcases g4 with ⟨q1, q2⟩ | ⟨q1, q2⟩
      · omega
      · have := ih _ (by omega) q1
        omega
  exact main _ s (Nat.le_refl _) hs
/-- the first row of page i -/
noncomputable def chn (T : tT) (H : Nat → Nat) (h B : Nat) : Nat → Nat
  | 0 => B
  | i + 1 => chn T H h B i + (TB T H h B (chn T H h B i)).2.2
section CHAIN
variable {m : vM} {T : tT}
theorem chn_spec {H : Nat → Nat} {h B : Nat} (h0 : isP T H h B B) : ∀ i, (i < (TB T H h B B).1 → isP T H h B (chn T H h B i) ∧ i + (TB T H h B (chn T H h B i)).1 = (TB T H h B B).1) ∧ (i = (TB T H h B B).1 → chn T H h B i = T 163 2) := by
  intro i
  induction i with
  | zero =>
    refine ⟨fun _ => ⟨h0, Nat.zero_add _⟩, fun e => ?_⟩
    have := (TB_pg h0).2
    omega
  | succ i ih =>
    have step : i < (TB T H h B B).1 → ((i + 1 < (TB T H h B B).1 → isP T H h B (chn T H h B (i + 1)) ∧ i + 1 + (TB T H h B (chn T H h B (i + 1))).1 = (TB T H h B B).1) ∧ (i + 1 = (TB T H h B B).1 → chn T H h B (i + 1) = T 163 2)) := fun hlt => by
      obtain ⟨g1, g2⟩ := ih.1 hlt
      obtain ⟨s1, s2, s3, s4⟩ := TB_step g1
      have ec : chn T H h B (i + 1) = chn T H h B i + (TB T H h B (chn T H h B i)).2.2 := rfl
      rcases s4 with ⟨q1, q2⟩ | ⟨q1, q2⟩
      · exact ⟨fun z => by omega, fun _ => by rw [ec]; exact q1⟩
      · have := (TB_pg q1).2
        refine ⟨fun _ => ?_, fun z => by omega⟩
        rw [ec]
        exact ⟨q1, by omega⟩
    exact ⟨fun z => (step (by omega)).1 z, fun z => (step (by omega)).2 z⟩
/-- page p as both sides tell it: its first row, its rows, what is empty, its notes -/
def pg7 (T : tT) (H : Nat → Nat) (h B : Nat) (mm : vM) (p : Nat) : Prop := mm.1 189 p = nI (chn T H h B p) ∧ mm.1 190 p = nI (TB T H h B (chn T H h B p)).2.2 ∧ mm.1 191 p = nI h - nI (usd T H B (chn T H h B p) (chn T H h B (p + 1))) ∧ mm.1 192 p = nI (nmk (hmIn T B (chn T H h B p) (chn T H h B (p + 1))) 10)
def fr7 (m mm : vM) : Prop := (∀ a, a ≠ 163 → a ≠ 189 → a ≠ 190 → a ≠ 191 → a ≠ 192 → a ≠ 193 → mm.1 a = m.1 a) ∧ ∀ j, j ≠ 32 → mm.1 163 j = m.1 163 j
theorem fr7.vw {mm : vM} (hV : Vw m T) (h : fr7 m mm) : Vw mm T := hV.rd (fun a j hr => by
  by_cases e : a = 163
  · subst e
    refine h.2 j (fun z => ?_)
    subst z
    cases hr
  · rw [h.1 a e]
    all_goals
      intro z
      subst z
      cases hr)
theorem fr7.up {mm : vM} {a j : Nat} {v : Int32} (h : fr7 m mm) (ha : a = 189 ∨ a = 190 ∨ a = 191 ∨ a = 192 ∨ a = 193) : fr7 m (upI mm a j v) := by
  refine ⟨fun b z1 z2 z3 z4 z5 z6 => ?_, fun i hi => ?_⟩
  · rw [upI_o _ _ _ _ _ (by omega)]
    exact h.1 b z1 z2 z3 z4 z5 z6
  · rw [upI_o _ _ _ _ _ (by omega)]
    exact h.2 i hi
theorem fr7.up32 {mm : vM} {v : Int32} (h : fr7 m mm) : fr7 m (upI mm 163 32 v) := by
  refine ⟨fun b z1 z2 z3 z4 z5 z6 => ?_, fun i hi => ?_⟩
  · rw [upI_o _ _ _ _ _ z1]
    exact h.1 b z1 z2 z3 z4 z5 z6
  · rw [upI_n _ _ _ _ _ _ (Or.inr hi)]
    exact h.2 i hi
/-- the check lays its pages down; then the rows of the head -/
theorem c_lay7 (hV : Vw m T) {h B : Nat} {b : Nat → Nat} (hh : h ≤ 200) (hB : B < T 163 2) (h0 : isP T (HT T b) h B B) (h185 : ∀ r, r < T 163 2 → m.1 185 r = nI (HT T b r)) (h196 : ∀ x, B ≤ x → x < T 163 2 → m.1 196 x = nI (TB T (HT T b) h B x).2.2) {P : Int32 → vM → Prop}
    (hp : ∀ mm, fr7 m mm → mm.1 163 32 = nI (TB T (HT T b) h B B).1 → (∀ p, p < (TB T (HT T b) h B B).1 → pg7 T (HT T b) h B mm p) → (∀ r, r < T 163 2 → ∃ p, p < (TB T (HT T b) h B B).1 ∧ mm.1 193 r = nI p ∧ r < chn T (HT T b) h B (p + 1) ∧ (0 < p → chn T (HT T b) h B p ≤ r)) → P (nI (TB T (HT T b) h B B).1) mm) :
    ∀ mm, fr7 m mm → mm.1 163 32 = nI 0 → J_X7_pages_322 (nI h) (nI B) (nI B) mm P := by
  have hR := hV.R
  have hN := TB_pg h0
  have hcs := chn_spec h0
  intro mm0 hf0 h320
  have h00 : J_X7_pages_322 (nI h) (nI B) (nI (chn T (HT T b) h B 0)) mm0 P := by
    refine loop_up (Q := fun i => ∀ mm, fr7 m mm → mm.1 163 32 = nI i → (∀ p, p < i → pg7 T (HT T b) h B mm p) → (∀ r, B ≤ r → r < chn T (HT T b) h B i → ∃ p, p < i ∧ mm.1 193 r = nI p ∧ r < chn T (HT T b) h B (p + 1) ∧ (0 < p → chn T (HT T b) h B p ≤ r)) → J_X7_pages_322 (nI h) (nI B) (nI (chn T (HT T b) h B i)) mm P) (n := (TB T (HT T b) h B B).1) (fun mm hf h32 hpg h193 => ?_) (fun i hi ih mm hf h32 hpg h193 => ?_) 0 (Nat.zero_le _) mm0 hf0 h320 (fun p hp => absurd hp (Nat.not_lt_zero _)) (fun r z1 z2 => absurd z2 (by show ¬ r < B; omega))
    · have hVm := hf.vw hV
      have ecn := (hcs (TB T (HT T b) h B B).1).2 rfl
      rw [ecn] at h193 ⊢
      refine b_X7_pages_322 ?_
      unfold wp_X7_pages_322
      rw [hVm.mR]
      refine ifs (nI_le (Nat.le_refl _) (by omega)) ?_
      rw [show (0 : Int32) = nI 0 from rfl]
      refine loop_up (Q := fun r0 => ∀ mk, fr7 m mk → mk.1 163 32 = nI (TB T (HT T b) h B B).1 → (∀ p, p < (TB T (HT T b) h B B).1 → pg7 T (HT T b) h B mk p) → (∀ r, r < r0 → mk.1 193 r = nI 0) → (∀ r, r0 ≤ r → mk.1 193 r = mm.1 193 r) → J_X7_pages_454 (nI B) (nI r0) mk P) (n := B) (fun mk kf k32 kpg k1 k2 => ?_) (fun r0 hr0 ihr mk kf k32 kpg k1 k2 => ?_) 0 (Nat.zero_le _) mm hf h32 hpg (fun r hr => absurd hr (Nat.not_lt_zero _)) (fun _ _ => rfl)
      · refine b_X7_pages_454 ?_
        unfold wp_X7_pages_454
        rw [k32]
        refine ifs (nI_le (Nat.le_refl _) (by omega)) (hp mk kf k32 kpg (fun r hr => ?_))
        by_cases hrB : r < B
        · refine ⟨0, hN.2, k1 r hrB, ?_, fun z => absurd z (by omega)⟩
          have := (TB_step h0).1
          show r < B + (TB T (HT T b) h B B).2.2
          omega
        · rw [k2 r (by omega)]
          exact h193 r (by omega) hr
      · refine b_X7_pages_454 ?_
        unfold wp_X7_pages_454
        rw [k32, leI (by omega) (by omega), le0I (by omega), clI r0 (by omega), ad1I]
        refine ifn (by omega) (ifn (by omega) ⟨vI (by omega) (by decide), ?_⟩)
        rintro m2 em2
        refine ihr m2 (by rw [em2]; exact kf.up (by omega)) (by rw [em2, upI_o _ _ _ _ _ (by decide)]; exact k32) (fun p hp => ?_) (fun r hr => ?_) (fun r hr => ?_)
        · have := kpg p hp
          unfold pg7 at *
          rw [em2, upI_o _ _ _ _ _ (by decide), upI_o _ _ _ _ _ (by decide), upI_o _ _ _ _ _ (by decide), upI_o _ _ _ _ _ (by decide)]
          exact this
        · rw [em2]
          rcases Nat.lt_succ_iff_lt_or_eq.mp hr with q | q
          · rw [upI_n _ _ _ _ _ _ (Or.inr (by omega))]; exact k1 r q
          · subst q; rw [upI_s]; rfl
        · rw [em2, upI_n _ _ _ _ _ _ (Or.inr (by omega))]; exact k2 r (by omega)
    · -- page i
      have hVm := hf.vw hV
      obtain ⟨hisP, hcnt⟩ := (hcs i).1 hi
      obtain ⟨s1, s2, s3, s4⟩ := TB_step hisP
      have ec : chn T (HT T b) h B (i + 1) = chn T (HT T b) h B i + (TB T (HT T b) h B (chn T (HT T b) h B i)).2.2 := rfl
      generalize hs : chn T (HT T b) h B i = s at *
      generalize he : chn T (HT T b) h B (i + 1) = e at *
      have hBs := hisP.1
      have hsR := hisP.2.1
      have hpi : i < 16 := by omega
      refine b_X7_pages_322 ?_
      unfold wp_X7_pages_322
      rw [hVm.mR, clI s (by omega), hf.1 196 (by decide) (by decide) (by decide) (by decide) (by decide) (by decide), h196 s hBs hsR, adI, ← ec, h32]
      refine ifn (nI_ge hsR (by omega)) ⟨vI (by omega) (by decide), ?_⟩
      rintro v2 rfl
      have hvi : vp_in (nI i) 16 := vI hpi (by decide)
      refine ⟨hvi, ?_⟩
      rintro m4 em4
      rw [clI i (by omega)] at em4
      have e432 : m4.1 163 32 = nI i := by rw [em4, upI_o _ _ _ _ _ (by decide)]; exact h32
      rw [e432]
      refine ⟨hvi, ?_⟩
      rintro m6 em6
      rw [clI i (by omega), sbI (by omega)] at em6
      have e632 : m6.1 163 32 = nI i := by rw [em6, upI_o _ _ _ _ _ (by decide)]; exact e432
      have hf6 : fr7 m m6 := by rw [em6, em4]; exact (hf.up (by omega)).up (by omega)
      have hV6 := hf6.vw hV
      refine c_X7_emptyOf (b := b) hV6 hh (by omega) (by omega) (by omega) (fun r hr => by rw [hf6.1 185 (by decide) (by decide) (by decide) (by decide) (by decide) (by decide)]; exact h185 r hr) (fun z => absurd z (by rw [← ec] at s3; exact s3.2)) (fun _ => ?_)
      rw [e632]
      refine ⟨hvi, ?_⟩
      rintro m10 em10
      rw [clI i (by omega)] at em10
      have e1032 : m10.1 163 32 = nI i := by rw [em10, upI_o _ _ _ _ _ (by decide)]; exact e632
      have hf10 : fr7 m m10 := by rw [em10]; exact hf6.up (by omega)
      have hV10 := hf10.vw hV
      refine c_X7_notesOn hV10 (by omega) (by omega) (by omega) ?_
      rw [e1032]
      refine ⟨hvi, ?_⟩
      rintro m14 em14
      rw [clI i (by omega)] at em14
      have e1432 : m14.1 163 32 = nI i := by rw [em14, upI_o _ _ _ _ _ (by decide)]; exact e1032
      have hf14 : fr7 m m14 := by rw [em14]; exact hf10.up (by omega)
      have hpi14 : ∀ p, p < i + 1 → pg7 T (HT T b) h B m14 p := fun p hp => by
        by_cases ep : p = i
        · subst ep
          unfold pg7
          rw [hs, he]
          refine ⟨?_, ?_, ?_, ?_⟩
          · rw [em14, upI_o _ _ _ _ _ (by decide), em10, upI_o _ _ _ _ _ (by decide), em6, upI_o _ _ _ _ _ (by decide), em4, upI_s]
          · rw [em14, upI_o _ _ _ _ _ (by decide), em10, upI_o _ _ _ _ _ (by decide), em6, upI_s, show e - s = (TB T (HT T b) h B s).2.2 by omega]
          · rw [em14, upI_o _ _ _ _ _ (by decide), em10, upI_s]
          · rw [em14, upI_s]
        · have := hpg p (by omega)
          unfold pg7 at *
          rw [em14, upI_o _ _ _ _ _ (by decide), upI_o _ _ _ _ _ (by decide), upI_o _ _ _ _ _ (by decide), upI_n _ _ _ _ _ _ (Or.inr ep), em10, upI_o _ _ _ _ _ (by decide), upI_o _ _ _ _ _ (by decide), upI_n _ _ _ _ _ _ (Or.inr ep), upI_o _ _ _ _ _ (by decide), em6, upI_o _ _ _ _ _ (by decide), upI_n _ _ _ _ _ _ (Or.inr ep), upI_o _ _ _ _ _ (by decide), upI_o _ _ _ _ _ (by decide), em4, upI_n _ _ _ _ _ _ (Or.inr ep), upI_o _ _ _ _ _ (by decide), upI_o _ _ _ _ _ (by decide), upI_o _ _ _ _ _ (by decide)]
          exact this
      have h193i : ∀ r, m14.1 193 r = mm.1 193 r := fun r => by
        rw [em14, upI_o _ _ _ _ _ (by decide), em10, upI_o _ _ _ _ _ (by decide), em6, upI_o _ _ _ _ _ (by decide), em4, upI_o _ _ _ _ _ (by decide)]
      have h401 : J_X7_pages_401 (nI h) (nI B) (nI s) (nI e) (nI (s + 0)) m14 P := by
        refine loop_up (Q := fun d => ∀ mk, fr7 m mk → mk.1 163 32 = nI i → (∀ p, p < i + 1 → pg7 T (HT T b) h B mk p) → (∀ r, s ≤ r → r < s + d → mk.1 193 r = nI i) → (∀ r, r < s → mk.1 193 r = mm.1 193 r) → J_X7_pages_401 (nI h) (nI B) (nI s) (nI e) (nI (s + d)) mk P) (n := e - s) (fun mk kf k32 kpg k1 k2 => ?_) (fun d hd ihd mk kf k32 kpg k1 k2 => ?_) 0 (Nat.zero_le _) m14 hf14 e1432 hpi14 (fun r z1 z2 => absurd z2 (by omega)) (fun r _ => h193i r)
        · refine b_X7_pages_401 ?_
          unfold wp_X7_pages_401
          refine ifs (nI_le (by omega) (by omega)) ?_
          rintro m1 em1
          rw [k32, ad1I] at em1
          have e132 : m1.1 163 32 = nI (i + 1) := by rw [em1, upI_s]
          rw [e132, show (1 : Int32) = nI 1 from rfl, sbI (by omega), show i + 1 - 1 = i by omega, clI i (by omega)]
          refine ⟨hvi, ?_⟩
          rintro v3 ev3
          have hk190 := (kpg i (by omega)).2.1
          rw [hs] at hk190
          rw [em1, upI_o _ _ _ _ _ (by decide), hk190, adI, ← ec] at ev3
          subst ev3
          refine ih m1 (by rw [em1]; exact kf.up32) e132 (fun p hp => ?_) (fun r z1 z2 => ?_)
          · have := kpg p hp
            unfold pg7 at *
            rw [em1, upI_o _ _ _ _ _ (by decide), upI_o _ _ _ _ _ (by decide), upI_o _ _ _ _ _ (by decide), upI_o _ _ _ _ _ (by decide)]
            exact this
          · have e193 : m1.1 193 r = mk.1 193 r := by rw [em1, upI_o _ _ _ _ _ (by decide)]
            rw [e193]
            by_cases hrs : r < s
            · rw [k2 r hrs]
              obtain ⟨p, p1, p2, p3, p4⟩ := h193 r z1 hrs
              exact ⟨p, by omega, p2, p3, p4⟩
            · exact ⟨i, by omega, k1 r (by omega) (by omega), by rw [he]; exact z2, fun _ => by rw [hs]; omega⟩
        · refine b_X7_pages_401 ?_
          unfold wp_X7_pages_401
          rw [clI (s + d) (by omega), k32, show nI (s + d) + 1 = nI (s + (d + 1)) from ad1I (s + d)]
          refine ifn (nI_ge (by omega) (by omega)) ⟨vI (by omega) (by decide), ?_⟩
          rintro m5 em5
          refine ihd m5 (by rw [em5]; exact kf.up (by omega)) (by rw [em5, upI_o _ _ _ _ _ (by decide)]; exact k32) (fun p hp => ?_) (fun r z1 z2 => ?_) (fun r hr => ?_)
          · have := kpg p hp
            unfold pg7 at *
            rw [em5, upI_o _ _ _ _ _ (by decide), upI_o _ _ _ _ _ (by decide), upI_o _ _ _ _ _ (by decide), upI_o _ _ _ _ _ (by decide)]
            exact this
          · rw [em5]
            by_cases q : r = s + d
            · subst q; rw [upI_s]
            · rw [upI_n _ _ _ _ _ _ (Or.inr q)]; exact k1 r z1 (by omega)
          · rw [em5, upI_n _ _ _ _ _ _ (Or.inr (by omega))]; exact k2 r hr
      exact h401
  exact h00
end CHAIN
