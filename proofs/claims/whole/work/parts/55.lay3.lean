section LAY3
variable {m : vM} {T : tT}
def pg3 (T : tT) (H : Nat → Nat) (h B : Nat) (mm : vM) (p : Nat) : Prop := mm.1 (141 + p) 0 = nI (chn T H h B p) ∧ mm.1 (141 + p) 1 = nI (TB T H h B (chn T H h B p)).2.2 ∧ mm.1 (141 + p) 2 = nI h - nI (usd T H B (chn T H h B p) (chn T H h B (p + 1))) ∧ mm.1 (141 + p) 3 = nI (nmk (hmIn T B (chn T H h B p) (chn T H h B (p + 1))) 10)
def frL (m mm : vM) : Prop := (∀ a, a ≠ 139 → a < 141 ∨ 156 < a → mm.1 a = m.1 a) ∧ ∀ j, j ≠ 0 → mm.1 139 j = m.1 139 j
theorem frL.up {mm : vM} {p j : Nat} {v : Int32} (h : frL m mm) (hp : p < 16) : frL m (upI mm (141 + p) j v) :=
  ⟨fun a z1 z2 => by rw [upI_o _ _ _ _ _ (by omega)]; exact h.1 a z1 z2, fun i hi => by rw [upI_o _ _ _ _ _ (by omega)]; exact h.2 i hi⟩
theorem pg3.up {H : Nat → Nat} {h B : Nat} {mm : vM} {p i j : Nat} {v : Int32} (hp : pg3 T H h B mm p) (hne : p ≠ i) : pg3 T H h B (upI mm (141 + i) j v) p := by
  unfold pg3 at *
  rw [upI_o _ _ _ _ _ (by omega)]
  exact hp
theorem hmIn_or (T : tT) {B s x q : Nat} (h : s ≤ x) : (hmIn T B s x q || hmIn T B x (x + 1) q) = hmIn T B s (x + 1) q := by
  unfold hmIn
  cases homeF T B q (T 163 7) with
  | none => rfl
  | some r =>
    show (decide (s ≤ r ∧ r < x) || decide (x ≤ r ∧ r < x + 1)) = decide (s ≤ r ∧ r < x + 1)
    rw [← Bool.decide_or]
    exact decide_eq_decide.mpr (by omega)
theorem nmk_none (T : tT) (B s : Nat) : ∀ n, nmk (hmIn T B s s) n = 0 := by
  intro n
  induction n with
  | zero => rfl
  | succ n ih =>
    unfold nmk
    rw [ih]
    have : hmIn T B s s n = false := by
      unfold hmIn
      cases homeF T B n (T 163 7) with
      | none => rfl
      | some r => exact decide_eq_false (by omega)
    rw [this]
    rfl
theorem c_X3_layOut (hV : Vw m T) {h B : Nat} {b : Nat → Nat} (hh : h ≤ 200) (hB : B < T 163 2) (h0 : isP T (HT T b) h B B)
    (h00 : m.1 139 0 = nI 0) (h9 : m.1 139 9 = nI h - nI (nsum (HT T b) B)) (h10 : m.1 139 10 = nI B) (h11 : m.1 139 11 = nI (T 163 2)) (h126 : ∀ r, r < T 163 2 → m.1 126 r = nI (HT T b r)) (h157 : ∀ r, r < T 163 2 → m.1 157 r = nI (nmk (hmIn T B r (r + 1)) 10) ∧ m.1 158 r = nI (HL T B r)) (h161 : ∀ x, isP T (HT T b) h B x → m.1 161 x = nI (x + (TB T (HT T b) h B x).2.2)) {P : vM → Prop}
    (hp : ∀ mm, frL m mm → mm.1 139 0 = nI (TB T (HT T b) h B B).1 → (∀ p, p < (TB T (HT T b) h B B).1 → pg3 T (HT T b) h B mm p) → P mm) : EI_X3_layOut m P := by
  have hR := hV.R
  have hN := TB_pg h0
  have hcs := chn_spec h0
  refine f_X3_layOut (b_X3_layOut_0 ?_)
  unfold wp_X3_layOut_0
  rintro v1 rfl
  rw [h10]
  have main : J_X3_layOut_5 (nI (chn T (HT T b) h B 0)) m P := by
    refine loop_up (Q := fun i => ∀ mm, frL m mm → mm.1 139 0 = nI i → (∀ p, p < i → pg3 T (HT T b) h B mm p) → J_X3_layOut_5 (nI (chn T (HT T b) h B i)) mm P) (n := (TB T (HT T b) h B B).1) (fun mm hf hc hpg => ?_) (fun i hi ih mm hf hc hpg => ?_) 0 (Nat.zero_le _) m ⟨fun _ _ _ => rfl, fun _ _ => rfl⟩ h00 (fun p hp => absurd hp (Nat.not_lt_zero _))
    · rw [(hcs (TB T (HT T b) h B B).1).2 rfl]
      refine b_X3_layOut_5 ?_
      unfold wp_X3_layOut_5
      rw [hf.2 11 (by decide), h11]
      exact ifs (nI_le (Nat.le_refl _) (by omega)) (hp mm hf hc hpg)
    · obtain ⟨hisP, hcnt⟩ := (hcs i).1 hi
      obtain ⟨s1, s2, s3, s4⟩ := TB_step hisP
      have ec : chn T (HT T b) h B (i + 1) = chn T (HT T b) h B i + (TB T (HT T b) h B (chn T (HT T b) h B i)).2.2 := rfl
      generalize hs : chn T (HT T b) h B i = s at *
      generalize he : chn T (HT T b) h B (i + 1) = e at *
      have hBs := hisP.1
      have hsR := hisP.2.1
      have hpi : i < 16 := by omega
      have hvi : vp_in (nI i) 16 := vI hpi (by decide)
      refine b_X3_layOut_5 ?_
      unfold wp_X3_layOut_5
      rw [hf.2 11 (by decide), h11, hc, clI s (by omega), clI i (by omega), hf.1 161 (by decide) (by decide), h161 s hisP, ← ec]
      refine ifn (nI_ge hsR (by omega)) (ifn (nI_ge (b := 16) hpi (by decide)) ⟨vI (by omega) (by decide), ?_⟩)
      rintro v2 ev2
      have e2 : v2 = nI e := by
        rw [ev2, ad1I, if_neg (show ¬ nI e < nI (s + 1) from nI_nlt (by omega) (by omega)), if_neg (nI_nlt (by omega) (by omega))]
      subst e2
      have c0 : Int32.toNatClampNeg (0 : Int32) = 0 := rfl
      have c1 : Int32.toNatClampNeg (1 : Int32) = 1 := rfl
      have c2 : Int32.toNatClampNeg (2 : Int32) = 2 := rfl
      have c3 : Int32.toNatClampNeg (3 : Int32) = 3 := rfl
      rw [c0, c1, c2, c3]
      refine ⟨hvi, vI (n := 0) (by decide) (by decide), ?_⟩
      rintro m6 em6
      refine ⟨vI (n := 1) (by decide) (by decide), ?_⟩
      rintro m8 em8
      rw [sbI (by omega)] at em8
      refine ⟨vI (n := 2) (by decide) (by decide), ?_⟩
      rintro m10 em10
      refine ⟨vI (n := 3) (by decide) (by decide), ?_⟩
      rintro m12 em12
      have hf8 : frL m m8 := by rw [em8, em6]; exact (hf.up hpi).up hpi
      have hf12 : frL m m12 := by rw [em12, em10]; exact (hf8.up hpi).up hpi
      have e8 : m8.1 139 9 = nI h - nI (nsum (HT T b) B) := by rw [hf8.2 9 (by decide)]; exact h9
      have e12c : m12.1 139 0 = nI i := by
        rw [em12, upI_o _ _ _ _ _ (by omega), em10, upI_o _ _ _ _ _ (by omega), em8, upI_o _ _ _ _ _ (by omega), em6, upI_o _ _ _ _ _ (by omega)]
        exact hc
      have h76 : J_X3_layOut_76 (nI e) i (nI (s + 0)) m12 P := by
        refine loop_up (Q := fun d => ∀ mk, frL m mk → mk.1 139 0 = nI i → (∀ p, p < i → pg3 T (HT T b) h B mk p) → mk.1 (141 + i) 0 = nI s → mk.1 (141 + i) 1 = nI (e - s) → mk.1 (141 + i) 2 = nI h - nI (usd T (HT T b) B s (s + d)) → mk.1 (141 + i) 3 = nI (nmk (hmIn T B s (s + d)) 10) → J_X3_layOut_76 (nI e) i (nI (s + d)) mk P) (n := e - s) (fun mk kf kc kpg k0 k1 k2 k3 => ?_) (fun d hd ihd mk kf kc kpg k0 k1 k2 k3 => ?_) 0 (Nat.zero_le _) m12 hf12 e12c (fun p hp => ?_) ?_ ?_ ?_ ?_
        · rw [show s + (e - s) = e by omega] at k2 k3
          refine b_X3_layOut_76 hpi ?_
          unfold wp_X3_layOut_76
          refine ifs (nI_le (by omega) (by omega)) ?_
          rintro m1 em1
          rw [kc, ad1I] at em1
          refine ih m1 ⟨fun a z1 z2 => by rw [em1, upI_o _ _ _ _ _ z1]; exact kf.1 a z1 z2, fun j hj => by rw [em1, upI_n _ _ _ _ _ _ (Or.inr hj)]; exact kf.2 j hj⟩ (by rw [em1, upI_s]) (fun p hp => ?_)
          have h141 : m1.1 (141 + p) = mk.1 (141 + p) := by rw [em1, upI_o _ _ _ _ _ (by omega)]
          by_cases ep : p = i
          · subst ep
            unfold pg3
            rw [h141, hs, he, k0, k1, k2, k3]
            exact ⟨rfl, by rw [show e - s = (TB T (HT T b) h B s).2.2 by omega], rfl, rfl⟩
          · have := kpg p (by omega)
            unfold pg3 at *
            rw [h141]
            exact this
        · refine b_X3_layOut_76 hpi ?_
          unfold wp_X3_layOut_76
          have hub := usd_bd hV (b := b) (s := s) (show B ≤ T 163 2 by omega) (show s + d + 1 ≤ T 163 2 by omega)
          have hvd : vp_in (nI (s + d)) 16 := vI (by omega) (by decide)
          rw [c2, c3, clI (s + d) (by omega), show nI (s + d) + 1 = nI (s + (d + 1)) from ad1I (s + d)]
          refine ifn (nI_ge (by omega) (by omega)) ⟨vI (n := 2) (by decide) (by decide), hvd, hvd, vI (n := 2) (by decide) (by decide), ?_⟩
          rintro m6' em6'
          rw [k2, kf.1 126 (by decide) (by decide), kf.1 158 (by decide) (by decide), h126 _ (by omega), (h157 _ (by omega)).2, adI, nm_sub, ← usd_snoc (by omega)] at em6'
          refine ⟨vI (n := 3) (by decide) (by decide), hvd, vI (n := 3) (by decide) (by decide), ?_⟩
          rintro m10' em10'
          have kf6 : frL m m6' := by rw [em6']; exact kf.up hpi
          have hlm := nmk_lt (hmIn T B s (s + d)) 10
          have hlm2 := nmk_lt (hmIn T B (s + d) (s + d + 1)) 10
          have e3 : m6'.1 (141 + i) 3 ||| m6'.1 157 (s + d) = nI (nmk (hmIn T B s (s + (d + 1))) 10) := by
            rw [kf6.1 157 (by decide) (by decide), (h157 _ (by omega)).1, em6', upI_n _ _ _ _ _ _ (Or.inr (by decide)), k3, nI_or (by omega) (by omega), nmk_or]
            exact congrArg nI (nmk_congr (p := fun q => hmIn T B s (s + d) q || hmIn T B (s + d) (s + d + 1) q) (p' := hmIn T B s (s + d + 1)) (fun q _ => hmIn_or T (x := s + d) (by omega)))
          rw [e3] at em10'
          refine ihd m10' (by rw [em10']; exact kf6.up hpi) ?_ (fun p hp => ?_) ?_ ?_ ?_ ?_
          · rw [em10', upI_o _ _ _ _ _ (by omega), em6', upI_o _ _ _ _ _ (by omega)]; exact kc
          · rw [em10', em6']; exact ((kpg p hp).up (by omega)).up (by omega)
          · rw [em10', upI_n _ _ _ _ _ _ (Or.inr (by decide)), em6', upI_n _ _ _ _ _ _ (Or.inr (by decide))]; exact k0
          · rw [em10', upI_n _ _ _ _ _ _ (Or.inr (by decide)), em6', upI_n _ _ _ _ _ _ (Or.inr (by decide))]; exact k1
          · rw [em10', upI_n _ _ _ _ _ _ (Or.inr (by decide)), em6', upI_s]; rfl
          · rw [em10', upI_s]
        · rw [em12, em10, em8, em6]; exact ((((hpg p hp).up (by omega)).up (by omega)).up (by omega)).up (by omega)
        · rw [em12, upI_n _ _ _ _ _ _ (Or.inr (by decide)), em10, upI_n _ _ _ _ _ _ (Or.inr (by decide)), em8, upI_n _ _ _ _ _ _ (Or.inr (by decide)), em6, upI_s]
        · rw [em12, upI_n _ _ _ _ _ _ (Or.inr (by decide)), em10, upI_n _ _ _ _ _ _ (Or.inr (by decide)), em8, upI_s]
        · rw [em12, upI_n _ _ _ _ _ _ (Or.inr (by decide)), em10, upI_s, e8, Nat.add_zero, usd_nil]
        · rw [em12, upI_s, Nat.add_zero, nmk_none]; rfl
      exact h76
  exact main
end LAY3
