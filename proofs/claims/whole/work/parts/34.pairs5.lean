section PAIRS5
variable {m m1 : vM} {T : tT}
theorem presN_le (T : tT) (k : Nat) : presN T k ≤ k := by
  induction k with
  | zero => exact Nat.le_refl _
  | succ k ih => unfold presN; split <;> omega
theorem c_X7_count (hI : InvT m T) {x : Int32} {P : Int32 → vM → Prop} (hend : ((x = 0 → P (m.1 163 2) m) ∧ (¬ x = 0 → ((x = 1 → P (m.1 163 3) m) ∧ (¬ x = 1 → ((x = 2 → P (m.1 163 7) m) ∧ (¬ x = 2 → ((x = 3 → P (nI (presN T (T 163 7))) m) ∧ (¬ x = 3 → ((x = 4 → EI_X7_headRows m (fun r4 m3 => P r4 m3)) ∧ (¬ x = 4 → ((x = 5 → P (m.1 163 32) m) ∧ (¬ x = 5 → ((x = 6 → EI_X7_heightBy 181 6 m (fun r2 m1 => P r2 m1)) ∧ (¬ x = 6 → P (-1) m))))))))))))))) : EI_X7_count x m P := by
  have hV := hI.1
  have h40 := hV.E40
  refine f_X7_count (b_X7_count_0 ?_)
  unfold wp_X7_count_0
  rw [show (0 : Int32) = nI 0 from rfl]
  refine loop_up (Q := fun i => J_X7_count_4 x (nI (presN T i)) (nI i) m P) (n := T 163 7) ?_ (fun i hi ih => ?_) 0 (Nat.zero_le _)
  · refine b_X7_count_4 ?_
    unfold wp_X7_count_4
    rw [hV.mE]
    rw [hV.mE] at hend
    exact ⟨fun _ => hend, fun h => absurd (nI_le (Nat.le_refl _) (by omega)) h⟩
  · refine b_X7_count_4 ?_
    unfold wp_X7_count_4
    have hv : vp_in (nI i) 40 := vI (by omega) (by decide)
    have hd := (hV.cell hi).2.2.2.2.2.1
    rw [hV.mE, clI i (by omega), (hV.mc hi).2.2.2.2.2.2.2.2.1, ad1I]
    refine ⟨fun h => absurd h (nI_ge hi (by omega)), fun _ => ⟨hv, ?_⟩⟩
    rw [eq0I (by omega)]
    refine ⟨fun h => ?_, fun h => ?_⟩
    · rintro v6 rfl
      have : presN T (i + 1) = presN T i + 1 := by
        show (if T 172 i = 0 then presN T i + 1 else presN T i) = _
        rw [if_pos h]
      rw [ad1I, ← this]
      exact ih
    · rintro v7 rfl
      have : presN T (i + 1) = presN T i := by
        show (if T 172 i = 0 then presN T i + 1 else presN T i) = _
        rw [if_neg h]
      rw [show (0 : Int32) = nI 0 from rfl, adI, ad1I, Nat.add_zero, ← this]
      exact ih
theorem ifs {A B : Prop} {p : Prop} (h : p) (ha : A) : (p → A) ∧ (¬ p → B) := ⟨fun _ => ha, fun n => absurd h n⟩
theorem ifn {A B : Prop} {p : Prop} (h : ¬ p) (hb : B) : (p → A) ∧ (¬ p → B) := ⟨fun y => absurd y h, fun _ => hb⟩
theorem ife {A B : Prop} {p : Prop} (h1 : p → A) (h2 : ¬ p → B) : (p → A) ∧ (¬ p → B) := ⟨h1, h2⟩
theorem pair_count (x : Int32) : Pair (EI_X6_count x) (EI_X7_count x) := by
  rintro m ⟨T, hI⟩
  have hV := hI.1
  have hR := hV.R
  refine e_X6_count ?_
  unfold wp_X6_count
  refine ife (fun h0 => c_X7_count hI (ifs h0 ⟨by rw [hV.mR, hV.xR], hI.toI⟩)) (fun h0 => ?_)
  refine ife (fun h1 => c_X7_count hI (ifn h0 (ifs h1 ⟨by rw [hV.mC, hV.xC], hI.toI⟩))) (fun h1 => ?_)
  refine ife (fun h2 => c_X7_count hI (ifn h0 (ifn h1 (ifs h2 ⟨by rw [hV.mE, hV.xE], hI.toI⟩)))) (fun h2 => ?_)
  refine ife (fun h3 => c_X1_presentCells hV (c_X7_count hI (ifn h0 (ifn h1 (ifn h2 (ifs h3 ⟨rfl, hI.toI⟩)))))) (fun h3 => ?_)
  refine ife (fun h4 => c_X1_headRows hV (fun h hH => c_X7_count hI (ifn h0 (ifn h1 (ifn h2 (ifn h3 (ifs h4 (c_X7_headRows hV (fun h' hH' => ⟨?_, hI.toI⟩))))))))) (fun h4 => ?_)
  · rw [hH.uniq hH']
  refine ife (fun h5 => c_X7_count hI (ifn h0 (ifn h1 (ifn h2 (ifn h3 (ifn h4 (ifs h5 ⟨by rw [hI.2.2.2.2.1, hI.2.2.2.2.2.1], hI.toI⟩))))))) (fun h5 => ?_)
  refine ife (fun h6 => ?_) (fun h6 => c_X7_count hI (ifn h0 (ifn h1 (ifn h2 (ifn h3 (ifn h4 (ifn h5 (ifn h6 ⟨rfl, hI.toI⟩))))))))
  refine c_X6_heightOfTable (b := T 181) hV hI.2.1 (fun c hc => ⟨(hI.2.2.2.1 c hc).1, (hI.2.2.2.1 c hc).2.2⟩) (fun m1 ha1 hK1 _ => ?_)
  have hI1 := hI.agr ha1 hK1
  refine c_X7_count hI1 (ifn h0 (ifn h1 (ifn h2 (ifn h3 (ifn h4 (ifn h5 (ifs h6 ?_)))))))
  refine c_X7_heightBy (b := T 181) hI1.1 sh_181 (by decide) (by decide) (by decide) (fun c hc => ⟨(hI1.2.2.2.1 c hc).2.1, (hI1.2.2.2.1 c hc).2.2⟩) (fun m2 hb2 _ => ⟨rfl, ?_⟩)
  exact (hI1.agr (hb2.agr (scL _ (by decide))) (hK1.ofL hV.E40 hb2 (by decide))).toI
end PAIRS5
