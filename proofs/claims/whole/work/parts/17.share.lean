/-! SHARED by numbers: both sides -/
def amx (r : Nat → Int32) (f : Nat) : Nat → Nat
  | 0 => f
  | i + 1 => if r (f + i) ≤ r (amx r f i) then amx r f i else f + i
abbrev gT : Type := (Nat → Int32) × (Nat → Int32)
def gst (f w : Nat) (s : gT) : gT := (upd s.1 (amx s.2 f w) (s.1 (amx s.2 f w) + 1), upd s.2 (amx s.2 f w) (-1))
def gvN (f w : Nat) (s : gT) : Nat → gT
  | 0 => s
  | k + 1 => gst f w (gvN f w s k)
def eqR (f w : Nat) (g g' : Nat → Int32) : Prop := ∀ j, j < w → g (f + j) = g' (f + j)
theorem amx_in {r : Nat → Int32} {f : Nat} : ∀ i, f ≤ amx r f i ∧ (i = 0 → amx r f i = f) ∧ (0 < i → amx r f i < f + i) := by
  intro i
  induction i with
  | zero => exact ⟨Nat.le_refl _, fun _ => rfl, fun h => absurd h (Nat.lt_irrefl _)⟩
  | succ i ih =>
    obtain ⟨h1, h2, h3⟩ := ih
    have h4 : amx r f i < f + (i + 1) := by
      rcases Nat.eq_zero_or_pos i with q | q
      · have := h2 q; omega
      · have := h3 q; omega
    refine ⟨?_, fun h => absurd h (by omega), fun _ => ?_⟩ <;> (unfold amx; split <;> omega)
theorem amx_lt {r : Nat → Int32} {f w : Nat} (hw : 1 ≤ w) : ∃ j, j < w ∧ amx r f w = f + j := by
  obtain ⟨h1, h2, h3⟩ := amx_in (r := r) (f := f) w
  exact ⟨amx r f w - f, by have := h3 hw; omega, by omega⟩
theorem amx_congr {r r' : Nat → Int32} {f w : Nat} (h : eqR f w r r') : ∀ i, i ≤ w → amx r f i = amx r' f i := by
  intro i
  induction i with
  | zero => intro _; rfl
  | succ i ih =>
    intro hi
    have e := ih (by omega)
    have e1 := h i (by omega)
    have e2 : r (amx r' f i) = r' (amx r' f i) := by
      rcases Nat.eq_zero_or_pos i with q | q
      · subst q
        have := h 0 (by omega)
        exact this
      · obtain ⟨j, hj, ej⟩ := amx_lt (r := r') (f := f) (w := i) q
        rw [ej]
        exact h j (by omega)
    unfold amx
    rw [e, e1, e2]
theorem gst_congr {f w : Nat} {s s' : gT} (hw : 1 ≤ w) (h1 : eqR f w s.1 s'.1) (h2 : eqR f w s.2 s'.2) : eqR f w (gst f w s).1 (gst f w s').1 ∧ eqR f w (gst f w s).2 (gst f w s').2 := by
  have e := amx_congr h2 w (Nat.le_refl _)
  obtain ⟨j, hj, ej⟩ := amx_lt (r := s'.2) (f := f) hw
  unfold gst
  rw [e, ej, h1 j hj]
  refine ⟨fun i hi => ?_, fun i hi => ?_⟩
  · simp only [upd]
    split
    · rfl
    · exact h1 i hi
  · simp only [upd]
    split
    · rfl
    · exact h2 i hi
def sumR (num : Nat → Nat) (f w : Nat) : Nat := nsum (fun j => num (f + j)) w
def pr0 (n : Nat) (num : Nat → Nat) (S : Nat) : gT := (fun c => nI (n * num c / S), fun c => nI (n * num c % S))
def lftN (n : Nat) (num : Nat → Nat) (f w : Nat) : Nat := n - nsum (fun j => n * num (f + j) / sumR num f w) w
def shF (n : Nat) (num : Nat → Nat) (f w : Nat) : Nat → Int32 := (gvN f w (pr0 n num (sumR num f w)) (lftN n num f w)).1
def shN (n : Nat) (num : Nat → Nat) (f w c : Nat) : Nat := (shF n num f w c).toNatClampNeg
theorem nsum_mono {f : Nat → Nat} {i w : Nat} (h : i ≤ w) : nsum f i ≤ nsum f w := by
  induction h with
  | refl => exact Nat.le_refl _
  | step _ ih => exact Nat.le_trans ih (Nat.le_add_right _ _)
theorem nsum_ge {f : Nat → Nat} {i w : Nat} (h : i < w) : f i ≤ nsum f w := Nat.le_trans (Nat.le_add_left _ _) (nsum_mono (f := f) (i := i + 1) h)
theorem nsum_congr {f g : Nat → Nat} {w : Nat} (h : ∀ i, i < w → f i = g i) : nsum f w = nsum g w := by
  induction w with
  | zero => rfl
  | succ w ih =>
    show nsum f w + f w = nsum g w + g w
    rw [ih (fun i hi => h i (Nat.lt_succ_of_lt hi)), h w (Nat.lt_succ_self w)]
theorem div_split (x S : Nat) (w : Nat) (g : Nat → Nat) : S * nsum (fun j => g j / S) w + nsum (fun j => g j % S) w = nsum g w := by
  induction w with
  | zero => rfl
  | succ w ih =>
    show S * (nsum (fun j => g j / S) w + g w / S) + (nsum (fun j => g j % S) w + g w % S) = nsum g w + g w
    have := Nat.div_add_mod (g w) S
    rw [Nat.mul_add]
    omega
theorem nsum_mul (n : Nat) (g : Nat → Nat) (w : Nat) : nsum (fun j => n * g j) w = n * nsum g w := by
  induction w with
  | zero => rfl
  | succ w ih =>
    show nsum (fun j => n * g j) w + n * g w = n * (nsum g w + g w)
    rw [ih, Nat.mul_add]
theorem part_le (n : Nat) (num : Nat → Nat) (f w : Nat) : nsum (fun j => n * num (f + j) / sumR num f w) w ≤ n := by
  rcases Nat.eq_zero_or_pos (sumR num f w) with h | h
  · have : nsum (fun j => n * num (f + j) / sumR num f w) w = 0 := by
      rw [h]
      have e : ∀ w, nsum (fun j => n * num (f + j) / 0) w = 0 := by
        intro w
        induction w with
        | zero => rfl
        | succ w ih => show nsum (fun j => n * num (f + j) / 0) w + n * num (f + w) / 0 = 0; rw [ih, Nat.div_zero]
      exact e w
    omega
  · have h1 := div_split 0 (sumR num f w) w (fun j => n * num (f + j))
    rw [nsum_mul n (fun j => num (f + j)) w] at h1
    have h2 : sumR num f w * nsum (fun j => n * num (f + j) / sumR num f w) w ≤ sumR num f w * n := by
      rw [Nat.mul_comm (sumR num f w) n]
      unfold sumR at h1 ⊢
      omega
    exact Nat.le_of_mul_le_mul_left h2 h
theorem lft_lt {n : Nat} {num : Nat → Nat} {f w : Nat} (hS : 1 ≤ sumR num f w) (hw : 1 ≤ w) : lftN n num f w < w := by
  have h1 := div_split 0 (sumR num f w) w (fun j => n * num (f + j))
  rw [nsum_mul n (fun j => num (f + j)) w] at h1
  have h2 : nsum (fun j => n * num (f + j) % sumR num f w) w ≤ (sumR num f w - 1) * w := nsum_le (fun i _ => by have := Nat.mod_lt (n * num (f + i)) (show sumR num f w > 0 by omega); omega)
  have h3 := part_le n num f w
  unfold lftN
  have h5 : nsum (fun j => num (f + j)) w = sumR num f w := rfl
  rw [h5] at h1
  generalize nsum (fun j => n * num (f + j) / sumR num f w) w = a at *
  generalize nsum (fun j => n * num (f + j) % sumR num f w) w = b at *
  generalize sumR num f w = S at *
  obtain ⟨d, rfl⟩ := Nat.exists_eq_add_of_le h3
  rw [show a + d - a = d by omega]
  have h4 : S * d = b := by
    have : (a + d) * S = S * a + S * d := by rw [Nat.mul_comm, Nat.mul_add]
    omega
  rcases Nat.lt_or_ge d w with q | q
  · exact q
  · have h6 : S * w ≤ S * d := Nat.mul_le_mul_left S q
    have h7 : (S - 1) * w + w = S * w := by
      have : S = (S - 1) + 1 := by omega
      conv => rhs; rw [this, Nat.add_mul, Nat.one_mul]
    omega
theorem gvN_nat {n : Nat} {num : Nat → Nat} {f w : Nat} (hS : 1 ≤ sumR num f w) (hw : 1 ≤ w) : ∀ k c, f ≤ c → c < f + w → ∃ q : Nat, q ≤ n + k ∧ (gvN f w (pr0 n num (sumR num f w)) k).1 c = nI q := by
  intro k
  induction k with
  | zero =>
    intro c h1 h2
    refine ⟨n * num c / sumR num f w, ?_, rfl⟩
    have h3 : num c ≤ sumR num f w := by
      have := nsum_ge (f := fun j => num (f + j)) (i := c - f) (w := w) (by omega)
      simp only [show f + (c - f) = c by omega] at this
      exact this
    exact Nat.div_le_of_le_mul (by rw [Nat.mul_comm (sumR num f w)]; exact Nat.mul_le_mul_left n h3)
  | succ k ih =>
    intro c h1 h2
    obtain ⟨q, hq, e⟩ := ih c h1 h2
    show ∃ q : Nat, q ≤ n + (k + 1) ∧ (gst f w _).1 c = nI q
    unfold gst
    simp only [upd]
    split
    · rename_i hc
      subst hc
      exact ⟨q + 1, by omega, by rw [e, ad1I]⟩
    · exact ⟨q, by omega, e⟩
theorem shN_eq {n : Nat} {num : Nat → Nat} {f w c : Nat} (hS : 1 ≤ sumR num f w) (hw : 1 ≤ w) (hw6 : w ≤ 6) (hn : n ≤ 100000) (h1 : f ≤ c) (h2 : c < f + w) : shF n num f w c = nI (shN n num f w c) ∧ shN n num f w c ≤ n + 6 := by
  obtain ⟨q, hq, e⟩ := gvN_nat (n := n) hS hw (lftN n num f w) c h1 h2
  have hl := lft_lt (n := n) hS hw
  have e2 : shF n num f w c = nI q := e
  unfold shN
  rw [e2, clI q (by omega)]
  exact ⟨rfl, by omega⟩
/-- memory but two cells -/
def but2 (x y : Nat) (m m1 : vM) : Prop := (∀ a, a ≠ x → a ≠ y → m1.1 a = m.1 a) ∧ m1.2 = m.2
theorem but2.rfl' {x y : Nat} {m : vM} : but2 x y m m := ⟨fun _ _ _ => rfl, rfl⟩
theorem but2.upx {x y j : Nat} {v : Int32} {m m1 : vM} (h : but2 x y m m1) : but2 x y m (upI m1 x j v) := ⟨fun a h1 h2 => (upI_o _ _ _ _ _ h1).trans (h.1 a h1 h2), h.2⟩
theorem but2.upy {x y j : Nat} {v : Int32} {m m1 : vM} (h : but2 x y m m1) : but2 x y m (upI m1 y j v) := ⟨fun a h1 h2 => (upI_o _ _ _ _ _ h2).trans (h.1 a h1 h2), h.2⟩
theorem upI_upd (m : vM) (a j : Nat) (v : Int32) : (upI m a j v).1 a = upd (m.1 a) j v := by simp [upI]
section CS
variable {m : vM}
theorem c_X4_giveOne {f w : Nat} (hw : 1 ≤ w) (h6 : f + w ≤ 6) {P : vM → Prop} (hp : P (upI (upI m 134 (amx (m.1 135) f w) (m.1 134 (amx (m.1 135) f w) + 1)) 135 (amx (m.1 135) f w) (-1))) : EI_X4_giveOne (nI f) (nI (f + w)) m P := by
  refine f_X4_giveOne (b_X4_giveOne_0 ?_)
  unfold wp_X4_giveOne_0
  refine loop_up (Q := fun i => J_X4_giveOne_5 (nI (f + w)) (nI (amx (m.1 135) f i)) (nI (f + i)) m P) (n := w) ?_ (fun i hi ih => ?_) 0 (Nat.zero_le _)
  · refine b_X4_giveOne_5 ?_
    unfold wp_X4_giveOne_5
    obtain ⟨j, hj, ej⟩ := amx_lt (r := m.1 135) (f := f) hw
    have hv : vp_in (nI (amx (m.1 135) f w)) 6 := vI (by omega) (by omega)
    rw [clI (amx (m.1 135) f w) (by omega)]
    refine ⟨fun _ => ⟨hv, hv, ?_⟩, fun h => absurd (nI_le (Nat.le_refl _) (by omega)) h⟩
    rintro _ rfl
    refine ⟨hv, ?_⟩
    rintro _ rfl
    exact hp
  · refine b_X4_giveOne_5 ?_
    unfold wp_X4_giveOne_5
    have hlt : amx (m.1 135) f i < 6 := by
      obtain ⟨h1, h2, h3⟩ := amx_in (r := m.1 135) (f := f) i
      rcases Nat.eq_zero_or_pos i with q | q
      · have := h2 q; omega
      · have := h3 q; omega
    rw [clI (f + i) (by omega), clI (amx (m.1 135) f i) (by omega), ad1I]
    have e : amx (m.1 135) f (i + 1) = if m.1 135 (f + i) ≤ m.1 135 (amx (m.1 135) f i) then amx (m.1 135) f i else f + i := rfl
    refine ⟨fun h => absurd h (nI_ge (by omega) (by omega)), fun _ => ⟨vI (by omega) (by omega), vI hlt (by omega), fun z => ?_, fun z => ?_⟩⟩
    · rw [if_pos z] at e; rw [e] at ih; exact ih
    · rw [if_neg z] at e; rw [e] at ih; exact ih
theorem c_X4_divide {n a nn f w : Nat} {num : Nat → Nat} (ha : SH a = (0, nn, vz)) (hw9 : a < 197) (ha1 : a ≠ 134) (ha2 : a ≠ 135) (hw : 1 ≤ w) (h6 : f + w ≤ 6) (hnn : f + w ≤ nn) (hnum : ∀ j, j < w → m.1 a (f + j) = nI (num (f + j)) ∧ num (f + j) ≤ 20000) (hn : n ≤ 5000) (hS : 1 ≤ sumR num f w) {P : vM → Prop}
    (hp : ∀ m1, but2 134 135 m m1 → (∀ j, j < w → m1.1 134 (f + j) = nI (shN n num f w (f + j))) → (∀ c, c < 6 → (c < f ∨ f + w ≤ c) → m1.1 134 c = 0) → P m1) : EI_X4_divide (nI n) a nn (nI f) (nI (f + w)) m P := by
  have hl0 := SH_len a
  rw [ha] at hl0
  have hl1 : nn ≤ 480 := hl0
  have hb0 : ∀ i, i ≤ w → nsum (fun j => num (f + j)) i ≤ 20000 * 6 := fun i hi => Nat.le_trans (nsum_le (b := 20000) (fun j hj => (hnum j (by omega)).2)) (Nat.mul_le_mul_left _ (by omega))
  have hSb : sumR num f w ≤ 20000 * 6 := hb0 w (Nat.le_refl _)
  refine f_X4_divide (b_X4_divide_0 ha hw9 ?_)
  unfold wp_X4_divide_0
  rintro m1 em1 _ rfl
  have hf1 : ∀ b, b ≠ 134 → m1.1 b = m.1 b := fun b hb => by rw [em1]; exact fillA_o _ _ _ _ _ hb
  have hf2 : m1.2 = m.2 := by rw [em1]; rfl
  have hf3 : ∀ c, c < 6 → m1.1 134 c = 0 := fun c hc => by rw [em1]; exact fillA_s _ _ _ _ _ hc
  have e1 : (if (if nI nn < (6 : Int32) then nI nn else (6 : Int32)) < nI (f + w) then (if nI nn < (6 : Int32) then nI nn else (6 : Int32)) else nI (f + w)) = nI (f + w) := by
    have : (if nI nn < (6 : Int32) then nI nn else (6 : Int32)) = nI (if nn < 6 then nn else 6) := by
      simp only [show (nI nn < (6 : Int32)) = (nn < 6) from ltI (b := 6) (by omega) (by omega)]
      split <;> rfl
    rw [this, if_neg (nI_nlt (by split <;> omega) (by split <;> omega))]
  rw [e1]
  refine loop_up (Q := fun i => J_X4_divide_31 (nI n) a nn (nI f) (nI (f + w)) (nI (nsum (fun j => num (f + j)) i)) (nI (f + i)) m1 P) (n := w) ?_ (fun i hi ih => ?_) 0 (Nat.zero_le _)
  · refine b_X4_divide_31 ha hw9 ?_
    unfold wp_X4_divide_31
    refine ⟨fun _ => ⟨fun h => absurd h (nI_nlt (a := nsum (fun j => num (f + j)) w) (b := 1) hS (by have := hb0 w (Nat.le_refl _); omega)), fun _ => ⟨fun _ => ?_, fun h => absurd (nI_pos' (by omega)) h⟩⟩, fun h => absurd (nI_le (Nat.le_refl _) (by omega)) h⟩
    show J_X4_divide_70 (nI n) a nn (nI f) (nI (f + w)) (nI (sumR num f w)) (nI n) (nI f) m1 P
    have hpart : ∀ j, j < w → n * num (f + j) ≤ 5000 * 20000 ∧ n * num (f + j) / sumR num f w ≤ n * num (f + j) := fun j hj => ⟨Nat.mul_le_mul hn (hnum j hj).2, Nat.div_le_self _ _⟩
    have hple := part_le n num f w
    have Z : ∀ mm : vM, (∀ b, b ≠ 134 → b ≠ 135 → mm.1 b = m.1 b) ∧ mm.2 = m.2 ∧ (∀ j, j < 0 → mm.1 134 (f + j) = (pr0 n num (sumR num f w)).1 (f + j) ∧ mm.1 135 (f + j) = (pr0 n num (sumR num f w)).2 (f + j)) ∧ (∀ c, c < 6 → (c < f ∨ f + w ≤ c) → mm.1 134 c = 0) → J_X4_divide_70 (nI n) a nn (nI f) (nI (f + w)) (nI (sumR num f w)) (nI (n - nsum (fun j => n * num (f + j) / sumR num f w) 0)) (nI (f + 0)) mm P := by
      refine loop_up (Q := fun i => ∀ mm : vM, (∀ b, b ≠ 134 → b ≠ 135 → mm.1 b = m.1 b) ∧ mm.2 = m.2 ∧ (∀ j, j < i → mm.1 134 (f + j) = (pr0 n num (sumR num f w)).1 (f + j) ∧ mm.1 135 (f + j) = (pr0 n num (sumR num f w)).2 (f + j)) ∧ (∀ c, c < 6 → (c < f ∨ f + w ≤ c) → mm.1 134 c = 0) → J_X4_divide_70 (nI n) a nn (nI f) (nI (f + w)) (nI (sumR num f w)) (nI (n - nsum (fun j => n * num (f + j) / sumR num f w) i)) (nI (f + i)) mm P) (n := w) ?_ (fun i hi ih => ?_) 0 (Nat.zero_le _)
      · rintro mm ⟨k1, k2, k3, k4⟩
        refine b_X4_divide_70 ha hw9 ?_
        unfold wp_X4_divide_70
        refine ⟨fun _ => ?_, fun h => absurd (nI_le (Nat.le_refl _) (by omega)) h⟩
        have hlf := lft_lt (n := n) hS hw
        have G : ∀ mg : vM, (∀ b, b ≠ 134 → b ≠ 135 → mg.1 b = m.1 b) ∧ mg.2 = m.2 ∧ eqR f w (mg.1 134) (gvN f w (pr0 n num (sumR num f w)) 0).1 ∧ eqR f w (mg.1 135) (gvN f w (pr0 n num (sumR num f w)) 0).2 ∧ (∀ c, c < 6 → (c < f ∨ f + w ≤ c) → mg.1 134 c = 0) → J_X4_divide_130 (nI f) (nI (f + w)) (nI (lftN n num f w)) (nI 0) mg P := by
          refine loop_up (Q := fun i => ∀ mg : vM, (∀ b, b ≠ 134 → b ≠ 135 → mg.1 b = m.1 b) ∧ mg.2 = m.2 ∧ eqR f w (mg.1 134) (gvN f w (pr0 n num (sumR num f w)) i).1 ∧ eqR f w (mg.1 135) (gvN f w (pr0 n num (sumR num f w)) i).2 ∧ (∀ c, c < 6 → (c < f ∨ f + w ≤ c) → mg.1 134 c = 0) → J_X4_divide_130 (nI f) (nI (f + w)) (nI (lftN n num f w)) (nI i) mg P) (n := lftN n num f w) ?_ (fun i hi ih => ?_) 0 (Nat.zero_le _)
          · rintro mg ⟨g1, g2, g3, g4, g5⟩
            refine b_X4_divide_130 ?_
            unfold wp_X4_divide_130
            refine ⟨fun _ => hp mg ⟨g1, g2⟩ (fun j hj => ?_) g5, fun h => absurd (nI_le (Nat.le_refl _) (by omega)) h⟩
            rw [g3 j hj]
            exact (shN_eq hS hw (by omega) (by omega) (by omega) (by omega)).1
          · rintro mg ⟨g1, g2, g3, g4, g5⟩
            refine b_X4_divide_130 ?_
            unfold wp_X4_divide_130
            rw [ad1I]
            refine ⟨fun h => absurd h (nI_ge hi (by omega)), fun _ => ⟨fun h => absurd h (nI_ge (b := 6) (by omega) (by omega)), fun _ => ?_⟩⟩
            refine c_X4_giveOne hw h6 (ih _ ?_)
            obtain ⟨j, hj, ej⟩ := amx_lt (r := mg.1 135) (f := f) hw
            obtain ⟨q1, q2⟩ := gst_congr (s := (mg.1 134, mg.1 135)) hw g3 g4
            refine ⟨fun b h1 h2 => by rw [upI_o _ _ _ _ _ h2, upI_o _ _ _ _ _ h1]; exact g1 b h1 h2, g2, ?_, ?_, fun c hc hcc => ?_⟩
            · rw [upI_o _ _ _ _ _ (by decide), upI_upd]; exact q1
            · rw [upI_upd, upI_o _ _ _ _ _ (by decide)]; exact q2
            · rw [upI_o _ _ _ _ _ (by decide), upI_n _ _ _ _ _ _ (Or.inr (by omega))]; exact g5 c hc hcc
        exact G mm ⟨k1, k2, fun j hj => (k3 j hj).1, fun j hj => (k3 j hj).2, k4⟩
      · rintro mm ⟨k1, k2, k3, k4⟩
        refine b_X4_divide_70 ha hw9 ?_
        unfold wp_X4_divide_70
        have ea : mm.1 a = m.1 a := k1 a ha1 ha2
        obtain ⟨hp1, hp2⟩ := hpart i hi
        have hv6 : vp_in (nI (f + i)) 6 := vI (by omega) (by omega)
        have hvn : vp_in (nI (f + i)) nn := vI (by omega) (by omega)
        have hs0 : ¬ nI (sumR num f w) = 0 := nI_ne0 (by omega) (by omega)
        have hmod : nI (n * num (f + i)) - nI (n * num (f + i)) / nI (sumR num f w) * nI (sumR num f w) = nI (n * num (f + i) % sumR num f w) := pk_rem (by omega) (by omega) (by omega)
        rw [clI (f + i) (by omega), ea, (hnum i hi).1, mlI, pk_div (by omega) (by omega) (by omega), ad1I]
        refine ⟨fun h => absurd h (nI_ge (by omega) (by omega)), fun _ => ⟨hvn, hs0, hv6, ?_⟩⟩
        rintro m4 em4
        have e4a : m4.1 a = m.1 a := by rw [em4, upI_o _ _ _ _ _ ha1]; exact ea
        rw [e4a, (hnum i hi).1, mlI, hmod]
        refine ⟨hvn, hs0, hv6, ?_⟩
        rintro m8 em8
        refine ⟨hv6, ?_⟩
        rintro _ rfl
        have e8 : m8.1 134 (f + i) = nI (n * num (f + i) / sumR num f w) := by rw [em8, upI_o _ _ _ _ _ (by decide), em4, upI_s]
        have hle : nsum (fun j => n * num (f + j) / sumR num f w) i + n * num (f + i) / sumR num f w ≤ n := Nat.le_trans (nsum_mono (f := fun j => n * num (f + j) / sumR num f w) (i := i + 1) hi) hple
        rw [e8, sbI (by omega), show n - nsum (fun j => n * num (f + j) / sumR num f w) i - n * num (f + i) / sumR num f w = n - nsum (fun j => n * num (f + j) / sumR num f w) (i + 1) from Nat.sub_sub _ _ _]
        refine ih m8 ⟨fun b h1 h2 => by rw [em8, upI_o _ _ _ _ _ h2, em4, upI_o _ _ _ _ _ h1]; exact k1 b h1 h2, by rw [em8, em4]; exact k2, fun j hj => ?_, fun c hc hcc => ?_⟩
        · rcases Nat.lt_succ_iff_lt_or_eq.mp hj with q | q
          · rw [em8, upI_o _ _ _ _ _ (show (134 : Nat) ≠ 135 by decide), upI_n _ _ _ _ _ _ (Or.inr (by omega)), em4, upI_n _ _ _ _ _ _ (Or.inr (by omega)), upI_o _ _ _ _ _ (show (135 : Nat) ≠ 134 by decide)]
            exact k3 j q
          · subst q
            refine ⟨e8, ?_⟩
            rw [em8, upI_s]
            rfl
        · rw [em8, upI_o _ _ _ _ _ (by decide), em4, upI_n _ _ _ _ _ _ (Or.inr (by omega))]
          exact k4 c hc hcc
    exact Z m1 ⟨fun b h1 h2 => hf1 b h1, hf2, fun j hj => absurd hj (Nat.not_lt_zero _), fun c hc _ => hf3 c hc⟩
  · refine b_X4_divide_31 ha hw9 ?_
    unfold wp_X4_divide_31
    have ea : m1.1 a = m.1 a := hf1 a ha1
    rw [clI (f + i) (by omega), ea, (hnum i hi).1, adI, ad1I]
    refine ⟨fun h => absurd h (nI_ge (by omega) (by omega)), fun _ => ⟨vI (by omega) (by omega), ?_⟩⟩
    rintro _ rfl
    exact ih
end CS
