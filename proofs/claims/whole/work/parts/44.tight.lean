def trW (T : tT) (S t c : Nat) : Nat := LT T c + dz (T 163 3 - 1) S t c
def trH (T : tT) (S t : Nat) : Nat := nsum (HT T (trW T S t)) (T 163 2)
def lw (T : tT) (S : Nat) : Nat → Nat × Nat
  | 0 => (0, 0)
  | t + 1 => if t = 0 ∨ trH T S t < (lw T S t).1 then (trH T S t, t) else lw T S t
section TIGHT
variable {m : vM} {T : tT}
theorem trH_bd (hV : Vw m T) (S t : Nat) : trH T S t ≤ 3841 * 16 := by
  have hR := hV.R
  have h1 := nsum_le (f := HT T (trW T S t)) (b := 3841) (n := T 163 2) (fun r _ => (HT_bd hV r).1)
  have h2 : 3841 * T 163 2 ≤ 3841 * 16 := Nat.mul_le_mul_left _ hR.2
  unfold trH
  omega
theorem lw_bd (hV : Vw m T) (S : Nat) : ∀ t, (lw T S t).1 ≤ 3841 * 16 ∧ (0 < t → (lw T S t).2 < t) := by
  intro t
  induction t with
  | zero => exact ⟨Nat.zero_le _, fun h => absurd h (by omega)⟩
  | succ t ih =>
    have h1 := trH_bd hV S t
    unfold lw
    split
    · exact ⟨h1, fun _ => Nat.lt_succ_self t⟩
    · rename_i hn
      exact ⟨ih.1, fun _ => by have := ih.2 (by omega); omega⟩
theorem lw_new {S t : Nat} (h : t = 0 ∨ trH T S t < (lw T S t).1) : lw T S (t + 1) = (trH T S t, t) := if_pos h
theorem lw_old {S t : Nat} (h : ¬ (t = 0 ∨ trH T S t < (lw T S t).1)) : lw T S (t + 1) = lw T S t := if_neg h
theorem lN_clamp_div {a b : Nat} (ha : a < 2 ^ 62) (hb0 : 0 < b) (hb : b < 2 ^ 62) : lN a / lN b = lN (a / b) := by
  have h1 : (lN a).toInt = a := lg_ofNat_toInt (by omega)
  have h2 : (lN b).toInt = b := lg_ofNat_toInt (by omega)
  have h3 : a / b ≤ a := Nat.div_le_self _ _
  have h4 : (lN (a / b)).toInt = ((a / b : Nat) : Int) := lg_ofNat_toInt (by omega)
  apply Int64.toInt_inj.mp
  rw [lg_ldiv_nonneg (by omega) (by omega), h1, h2, h4]
  rfl
theorem c_X5_waysToSpread (hV : Vw m T) {S : Nat} (hS : S ≤ 400) {P : Int64 → vM → Prop} (hp : P (lN (ch (S + (T 163 3 - 1)) (T 163 3 - 1))) m) : EI_X5_waysToSpread (nI S) m P := by
  have hC := hV.C
  refine f_X5_waysToSpread (b_X5_waysToSpread_0 ?_)
  unfold wp_X5_waysToSpread_0
  rw [show (1 : Int64) = lN (ch (S + 0) 0) by rw [ch_0]; rfl, show (1 : Int32) = nI (0 + 1) from rfl]
  refine loop_up (Q := fun i => J_X5_waysToSpread_5 (nI S) (lN (ch (S + i) i)) (nI (i + 1)) m P) (n := T 163 3 - 1) ?_ (fun i hi ih => ?_) 0 (Nat.zero_le _)
  · refine b_X5_waysToSpread_5 ?_
    unfold wp_X5_waysToSpread_5
    rw [hV.xC]
    exact ifs (nI_le (by omega) (by omega)) hp
  · refine b_X5_waysToSpread_5 ?_
    unfold wp_X5_waysToSpread_5
    rw [hV.xC, adI, nI_l (by omega), nI_l (by omega), lN_mul]
    have h1 : ch (S + i) i ≤ (S + i + 1) ^ i := ch_le S i
    have h2 : (S + i + 1) ^ i ≤ 406 ^ i := Nat.pow_le_pow_left (by omega) _
    have h3 : 406 ^ i ≤ 406 ^ 5 := Nat.pow_le_pow_right (by omega) (by omega)
    have h4 : ch (S + i) i * (S + (i + 1)) ≤ 406 ^ 5 * 406 := Nat.mul_le_mul (by omega) (by omega)
    have h5 : (406 : Nat) ^ 5 * 406 < 2 ^ 62 := by decide
    have hm := ch_mul (S + i) i
    refine ifn (nI_ge (by omega) (by omega)) ⟨?_, ?_⟩
    · intro e
      have := congrArg Int64.toInt e
      rw [show (lN (i + 1)).toInt = ((i + 1 : Nat) : Int) from lg_ofNat_toInt (by omega)] at this
      have h0 : (0 : Int64).toInt = 0 := rfl
      rw [h0] at this
      omega
    · rintro v2 ev2
      rw [lN_clamp_div (by omega) (by omega) (by omega)] at ev2
      have e : ch (S + i) i * (S + (i + 1)) / (i + 1) = ch (S + (i + 1)) (i + 1) := by
        rw [Nat.mul_comm, show S + (i + 1) = S + i + 1 by omega, ← hm]
        exact Nat.mul_div_cancel_left _ (by omega)
      rw [e] at ev2
      rw [ev2, ad1I]
      exact ih
end TIGHT
