section CS2
variable {m : vM}
theorem c_X7_share {n f w : Nat} {num : Nat → Nat} (hw : 1 ≤ w) (h6 : f + w ≤ 6) (hnum : ∀ j, j < w → m.1 178 (f + j) = nI (num (f + j)) ∧ num (f + j) ≤ 20000) (hn : n ≤ 5000) (hS : 1 ≤ sumR num f w) {P : vM → Prop}
    (hp : ∀ m1, but2 179 180 m m1 → (∀ j, j < w → m1.1 179 (f + j) = nI (shN n num f w (f + j))) → P m1) : EI_X7_share (nI n) (nI f) (nI (f + w)) m P := by
  have hb0 : ∀ i, i ≤ w → nsum (fun j => num (f + j)) i ≤ 20000 * 6 := fun i hi => Nat.le_trans (nsum_le (b := 20000) (fun j hj => (hnum j (by omega)).2)) (Nat.mul_le_mul_left _ (by omega))
  have hSb : sumR num f w ≤ 20000 * 6 := hb0 w (Nat.le_refl _)
  refine f_X7_share (b_X7_share_0 ?_)
  unfold wp_X7_share_0
  refine loop_up (Q := fun i => J_X7_share_6 (nI n) (nI f) (nI (f + w)) (nI (nsum (fun j => num (f + j)) i)) (nI (f + i)) m P) (n := w) ?_ (fun i hi ih => ?_) 0 (Nat.zero_le _)
  · refine b_X7_share_6 ?_
    unfold wp_X7_share_6
    refine ⟨fun _ => ?_, fun h => absurd (nI_le (Nat.le_refl _) (by omega)) h⟩
    show J_X7_share_36 (nI n) (nI f) (nI (f + w)) (nI (sumR num f w)) (nI n) (nI f) m P
    have hpart : ∀ j, j < w → n * num (f + j) ≤ 5000 * 20000 ∧ n * num (f + j) / sumR num f w ≤ n * num (f + j) := fun j hj => ⟨Nat.mul_le_mul hn (hnum j hj).2, Nat.div_le_self _ _⟩
    have hple := part_le n num f w
    have Z : ∀ mm : vM, (∀ b, b ≠ 179 → b ≠ 180 → mm.1 b = m.1 b) ∧ mm.2 = m.2 ∧ (∀ j, j < 0 → mm.1 179 (f + j) = (pr0 n num (sumR num f w)).1 (f + j) ∧ mm.1 180 (f + j) = (pr0 n num (sumR num f w)).2 (f + j)) → J_X7_share_36 (nI n) (nI f) (nI (f + w)) (nI (sumR num f w)) (nI (n - nsum (fun j => n * num (f + j) / sumR num f w) 0)) (nI (f + 0)) mm P := by
      refine loop_up (Q := fun i => ∀ mm : vM, (∀ b, b ≠ 179 → b ≠ 180 → mm.1 b = m.1 b) ∧ mm.2 = m.2 ∧ (∀ j, j < i → mm.1 179 (f + j) = (pr0 n num (sumR num f w)).1 (f + j) ∧ mm.1 180 (f + j) = (pr0 n num (sumR num f w)).2 (f + j)) → J_X7_share_36 (nI n) (nI f) (nI (f + w)) (nI (sumR num f w)) (nI (n - nsum (fun j => n * num (f + j) / sumR num f w) i)) (nI (f + i)) mm P) (n := w) ?_ (fun i hi ih => ?_) 0 (Nat.zero_le _)
      · rintro mm ⟨k1, k2, k3⟩
        refine b_X7_share_36 ?_
        unfold wp_X7_share_36
        refine ⟨fun _ => ?_, fun h => absurd (nI_le (Nat.le_refl _) (by omega)) h⟩
        have hlf := lft_lt (n := n) hS hw
        have G : ∀ mg : vM, (∀ b, b ≠ 179 → b ≠ 180 → mg.1 b = m.1 b) ∧ mg.2 = m.2 ∧ eqR f w (mg.1 179) (gvN f w (pr0 n num (sumR num f w)) 0).1 ∧ eqR f w (mg.1 180) (gvN f w (pr0 n num (sumR num f w)) 0).2 → J_X7_share_98 (nI f) (nI (f + w)) (nI (lftN n num f w - 0)) mg P := by
          refine loop_up (Q := fun i => ∀ mg : vM, (∀ b, b ≠ 179 → b ≠ 180 → mg.1 b = m.1 b) ∧ mg.2 = m.2 ∧ eqR f w (mg.1 179) (gvN f w (pr0 n num (sumR num f w)) i).1 ∧ eqR f w (mg.1 180) (gvN f w (pr0 n num (sumR num f w)) i).2 → J_X7_share_98 (nI f) (nI (f + w)) (nI (lftN n num f w - i)) mg P) (n := lftN n num f w) ?_ (fun i hi ih => ?_) 0 (Nat.zero_le _)
          · rintro mg ⟨g1, g2, g3, g4⟩
            refine b_X7_share_98 ?_
            unfold wp_X7_share_98
            rw [Nat.sub_self]
            refine ⟨fun _ => hp mg ⟨g1, g2⟩ (fun j hj => ?_), fun h => absurd (by decide) h⟩
            rw [g3 j hj]
            exact (shN_eq hS hw (by omega) (by omega) (by omega) (by omega)).1
          · rintro mg ⟨g1, g2, g3, g4⟩
            refine b_X7_share_98 ?_
            unfold wp_X7_share_98
            rw [le0I (by omega)]
            refine ⟨fun h => absurd h (by omega), fun _ => ?_⟩
            refine loop_up (Q := fun c => J_X7_share_109 (nI f) (nI (f + w)) (nI (lftN n num f w - i)) (nI (amx (mg.1 180) f c)) (nI (f + c)) mg P) (n := w) ?_ (fun c hc ihc => ?_) 0 (Nat.zero_le _)
            · refine b_X7_share_109 ?_
              unfold wp_X7_share_109
              obtain ⟨j, hj, ej⟩ := amx_lt (r := mg.1 180) (f := f) hw
              obtain ⟨q1, q2⟩ := gst_congr (s := (mg.1 179, mg.1 180)) hw g3 g4
              have hv : vp_in (nI (amx (mg.1 180) f w)) 6 := vI (by omega) (by omega)
              rw [clI (amx (mg.1 180) f w) (by omega)]
              refine ⟨fun _ => ⟨hv, hv, ?_⟩, fun h => absurd (nI_le (Nat.le_refl _) (by omega)) h⟩
              rintro _ rfl
              refine ⟨hv, ?_⟩
              rintro _ rfl
              rw [show lftN n num f w - i = (lftN n num f w - (i + 1)) + 1 by omega, pk_m1]
              refine ih _ ⟨fun b h1 h2 => by rw [upI_o _ _ _ _ _ h2, upI_o _ _ _ _ _ h1]; exact g1 b h1 h2, g2, ?_, ?_⟩
              · rw [upI_o _ _ _ _ _ (by decide), upI_upd]; exact q1
              · rw [upI_upd, upI_o _ _ _ _ _ (by decide)]; exact q2
            · refine b_X7_share_109 ?_
              unfold wp_X7_share_109
              have hlt : amx (mg.1 180) f c < 6 := by
                obtain ⟨h1, h2, h3⟩ := amx_in (r := mg.1 180) (f := f) c
                rcases Nat.eq_zero_or_pos c with q | q
                · have := h2 q; omega
                · have := h3 q; omega
              rw [clI (f + c) (by omega), clI (amx (mg.1 180) f c) (by omega), ad1I]
              have e : amx (mg.1 180) f (c + 1) = if mg.1 180 (f + c) ≤ mg.1 180 (amx (mg.1 180) f c) then amx (mg.1 180) f c else f + c := rfl
              refine ⟨fun h => absurd h (nI_ge (by omega) (by omega)), fun _ => ⟨vI (by omega) (by omega), vI hlt (by omega), fun z => ?_, fun z => ?_⟩⟩
              · rw [if_pos z] at e; rw [e] at ihc; exact ihc
              · rw [if_neg z] at e; rw [e] at ihc; exact ihc
        exact G mm ⟨k1, k2, fun j hj => (k3 j hj).1, fun j hj => (k3 j hj).2⟩
      · rintro mm ⟨k1, k2, k3⟩
        refine b_X7_share_36 ?_
        unfold wp_X7_share_36
        have ea : mm.1 178 = m.1 178 := k1 178 (by decide) (by decide)
        obtain ⟨hp1, hp2⟩ := hpart i hi
        have hv6 : vp_in (nI (f + i)) 6 := vI (by omega) (by omega)
        have hs0 : ¬ nI (sumR num f w) = 0 := nI_ne0 (by omega) (by omega)
        have hmod : nI (n * num (f + i)) - nI (n * num (f + i)) / nI (sumR num f w) * nI (sumR num f w) = nI (n * num (f + i) % sumR num f w) := pk_rem (by omega) (by omega) (by omega)
        rw [clI (f + i) (by omega), ea, (hnum i hi).1, mlI, pk_div (by omega) (by omega) (by omega), ad1I]
        refine ⟨fun h => absurd h (nI_ge (by omega) (by omega)), fun _ => ⟨hv6, hs0, hv6, ?_⟩⟩
        rintro m4 em4
        have e4a : m4.1 178 = m.1 178 := by rw [em4, upI_o _ _ _ _ _ (by decide)]; exact ea
        rw [e4a, (hnum i hi).1, mlI, hmod]
        refine ⟨hv6, hs0, hv6, ?_⟩
        rintro m8 em8
        refine ⟨hv6, ?_⟩
        rintro _ rfl
        have e8 : m8.1 179 (f + i) = nI (n * num (f + i) / sumR num f w) := by rw [em8, upI_o _ _ _ _ _ (by decide), em4, upI_s]
        have hle : nsum (fun j => n * num (f + j) / sumR num f w) i + n * num (f + i) / sumR num f w ≤ n := Nat.le_trans (nsum_mono (f := fun j => n * num (f + j) / sumR num f w) (i := i + 1) hi) hple
        rw [e8, sbI (by omega), show n - nsum (fun j => n * num (f + j) / sumR num f w) i - n * num (f + i) / sumR num f w = n - nsum (fun j => n * num (f + j) / sumR num f w) (i + 1) from Nat.sub_sub _ _ _]
        refine ih m8 ⟨fun b h1 h2 => by rw [em8, upI_o _ _ _ _ _ h2, em4, upI_o _ _ _ _ _ h1]; exact k1 b h1 h2, by rw [em8, em4]; exact k2, fun j hj => ?_⟩
        rcases Nat.lt_succ_iff_lt_or_eq.mp hj with q | q
        · rw [em8, upI_o _ _ _ _ _ (show (179 : Nat) ≠ 180 by decide), upI_n _ _ _ _ _ _ (Or.inr (by omega)), em4, upI_n _ _ _ _ _ _ (Or.inr (by omega)), upI_o _ _ _ _ _ (show (180 : Nat) ≠ 179 by decide)]
          exact k3 j q
        · subst q
          refine ⟨e8, ?_⟩
          rw [em8, upI_s]
          rfl
    exact Z m ⟨fun b h1 h2 => rfl, rfl, fun j hj => absurd hj (Nat.not_lt_zero _)⟩
  · refine b_X7_share_6 ?_
    unfold wp_X7_share_6
    rw [clI (f + i) (by omega), (hnum i hi).1, adI, ad1I]
    refine ⟨fun h => absurd h (nI_ge (by omega) (by omega)), fun _ => ⟨vI (by omega) (by omega), ?_⟩⟩
    rintro _ rfl
    exact ih
end CS2
