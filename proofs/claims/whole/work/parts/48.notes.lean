/-! notes as bits -/
def nmk (p : Nat → Bool) : Nat → Nat
  | 0 => 0
  | q + 1 => nmk p q + if p q = true then 2 ^ q else 0
theorem nmk_lt (p : Nat → Bool) : ∀ n, nmk p n < 2 ^ n := by
  intro n
  induction n with
  | zero => exact Nat.one_pos
  | succ n ih =>
    unfold nmk
    have : 2 ^ (n + 1) = 2 ^ n + 2 ^ n := by rw [Nat.pow_succ]; omega
    split <;> omega
theorem or_new : ∀ q, q < 10 → ∀ x, x < 2 ^ q → nI x ||| ((1 : Int32) <<< (nI q &&& 31)) = nI (x + 2 ^ q) := by decide +kernel
theorem or_bit : ∀ q, q < 10 → ∀ x, x < 1024 → (((nI x >>> (nI q &&& 31)) &&& 1) = 1 ↔ Nat.testBit x q = true) := by decide +kernel
theorem nmk_bit (p : Nat → Bool) : ∀ n q, q < n → Nat.testBit (nmk p n) q = p q := by
  intro n
  induction n with
  | zero => intro q h; exact absurd h (Nat.not_lt_zero _)
  | succ n ih =>
    intro q hq
    unfold nmk
    have hl := nmk_lt p n
    by_cases e : q = n
    · subst e
      by_cases hp : p q = true
      · rw [if_pos hp, Nat.add_comm, Nat.testBit_two_pow_add_eq, Nat.testBit_lt_two_pow hl, hp]; rfl
      · rw [if_neg hp, Nat.add_zero, Nat.testBit_lt_two_pow hl]
        cases h : p q
        · rfl
        · exact absurd h hp
    · by_cases hp : p n = true
      · rw [if_pos hp, Nat.add_comm, Nat.testBit_two_pow_add_gt (by omega)]
        exact ih q (by omega)
      · rw [if_neg hp, Nat.add_zero]
        exact ih q (by omega)
theorem nmk_congr {p p' : Nat → Bool} {n : Nat} (h : ∀ q, q < n → p q = p' q) : nmk p n = nmk p' n := by
  induction n with
  | zero => rfl
  | succ n ih =>
    unfold nmk
    rw [ih (fun q hq => h q (by omega)), h n (by omega)]
theorem nI_or {x y : Nat} (hx : x < 2 ^ 31) (hy : y < 2 ^ 31) : nI x ||| nI y = nI (x ||| y) := by
  apply Int32.toBitVec_inj.mp
  rw [Int32.toBitVec_or]
  apply BitVec.eq_of_toNat_eq
  rw [BitVec.toNat_or]
  have h1 : (nI x).toBitVec.toNat = x := pk_tn (by omega)
  have h2 : (nI y).toBitVec.toNat = y := pk_tn (by omega)
  have h3 : (nI (x ||| y)).toBitVec.toNat = x ||| y := pk_tn (by have := Nat.or_lt_two_pow hx hy; omega)
  rw [h1, h2, h3]
theorem nmk_or (p p' : Nat → Bool) (n : Nat) : nmk p n ||| nmk p' n = nmk (fun q => p q || p' q) n := by
  apply Nat.eq_of_testBit_eq
  intro i
  rw [Nat.testBit_or]
  by_cases h : i < n
  · rw [nmk_bit _ _ _ h, nmk_bit _ _ _ h, nmk_bit _ _ _ h]
  · have hh : ∀ p : Nat → Bool, Nat.testBit (nmk p n) i = false := fun p => Nat.testBit_lt_two_pow (Nat.lt_of_lt_of_le (nmk_lt p n) (Nat.pow_le_pow_right (by decide) (by omega)))
    rw [hh, hh, hh]; rfl
/-- note q has its home on rows s up to e -/
def hmIn (T : tT) (B s e q : Nat) : Bool := match homeF T B q (T 163 7) with
  | none => false
  | some r => decide (s ≤ r ∧ r < e)
def HL (T : tT) (B r : Nat) : Nat := nsum (fun q => if hmIn T B r (r + 1) q = true then T 166 q else 0) 10
section NOTES
variable {m : vM} {T : tT}
theorem homeF_bd (hV : Vw m T) {B q : Nat} (hB : B ≤ 16) {r : Nat} (h : homeF T B q (T 163 7) = some r) : r ≤ 16 := by
  have hR := hV.R
  unfold homeF at h
  cases hq : callF T q (T 163 7) with
  | none => rw [hq] at h; cases h
  | some r0 =>
    rw [hq] at h
    have h1 := callF_bd hV _ (Nat.le_refl _) r0 hq
    have h2 : mxN B r0 = r := Option.some.inj h
    unfold mxN at h2
    split at h2 <;> omega
theorem c_X7_notesOn (hV : Vw m T) {s e B : Nat} (hs : s ≤ 16) (he : e ≤ 16) (hB : B ≤ 16) {P : Int32 → vM → Prop} (hp : P (nI (nmk (hmIn T B s e) 10)) m) : EI_X7_notesOn (nI s) (nI e) (nI B) m P := by
  refine f_X7_notesOn (b_X7_notesOn_0 ?_)
  unfold wp_X7_notesOn_0
  rw [show (0 : Int32) = nI 0 from rfl]
  refine loop_up (Q := fun q => J_X7_notesOn_6 (nI s) (nI e) (nI B) (nI (nmk (hmIn T B s e) q)) (nI q) m P) (n := 10) ?_ (fun q hq ih => ?_) 0 (by decide)
  · refine b_X7_notesOn_6 ?_
    unfold wp_X7_notesOn_6
    exact ifs (by decide) hp
  · refine b_X7_notesOn_6 ?_
    unfold wp_X7_notesOn_6
    have hl := nmk_lt (hmIn T B s e) q
    have h2q : 2 ^ q ≤ 2 ^ 9 := Nat.pow_le_pow_right (by decide) (by omega)
    have keep : hmIn T B s e q = false → J_X7_notesOn_6 (nI s) (nI e) (nI B) (nI (nmk (hmIn T B s e) q) ||| 0) (nI q + 1) m P := fun h => by
      have e1 : nmk (hmIn T B s e) (q + 1) = nmk (hmIn T B s e) q := by
        show nmk (hmIn T B s e) q + (if hmIn T B s e q = true then 2 ^ q else 0) = _
        rw [h]; rfl
      rw [show (0 : Int32) = nI 0 from rfl, nI_or (by omega) (by omega), Nat.or_zero, ad1I, ← e1]
      exact ih
    refine ifn (nI_ge (b := 10) hq (by decide)) ?_
    refine c_X7_homeOf hV hB ?_
    cases hh : homeF T B q (T 163 7) with
    | none =>
      refine ifs rfl ?_
      rintro v3 rfl
      exact keep (by unfold hmIn; rw [hh])
    | some r =>
      have hr := homeF_bd hV hB hh
      refine ifn (nI_m9 r (by omega)) ?_
      show (nI r < nI s → _) ∧ (¬ nI r < nI s → _)
      rw [ltI (by omega) (by omega), show encO (some r) = nI r from rfl, leI (by omega) (by omega)]
      refine ife (fun h1 => ?_) (fun h1 => ife (fun h2 => ?_) (fun h2 => ?_))
      · rintro v4 rfl
        exact keep (by unfold hmIn; rw [hh]; exact decide_eq_false (by omega))
      · rintro v5 rfl
        exact keep (by unfold hmIn; rw [hh]; exact decide_eq_false (by omega))
      · rintro v6 rfl
        have hin : hmIn T B s e q = true := by unfold hmIn; rw [hh]; exact decide_eq_true (by omega)
        have e1 : nmk (hmIn T B s e) (q + 1) = nmk (hmIn T B s e) q + 2 ^ q := by
          show nmk (hmIn T B s e) q + (if hmIn T B s e q = true then 2 ^ q else 0) = _
          rw [hin]; rfl
        rw [or_new q hq _ hl, ad1I, ← e1]
        exact ih
end NOTES
