def usd (T : tT) (H : Nat → Nat) (B s e : Nat) : Nat := nsum H B + (nsum (fun j => H (s + j)) (e - s) + nsum (fun j => HL T B (s + j)) (e - s))
def alo (T : tT) (H : Nat → Nat) (B s e : Nat) : Prop := e = s + 1 ∧ H s = 1 ∧ 1 < T 163 2 - B
theorem nsum_add (f g : Nat → Nat) : ∀ n, nsum (fun i => f i + g i) n = nsum f n + nsum g n := by
  intro n
  induction n with
  | zero => rfl
  | succ n ih =>
    show nsum (fun i => f i + g i) n + (f n + g n) = nsum f n + f n + (nsum g n + g n)
    omega
theorem hmIn_add (T : tT) {B s x q : Nat} (h : s ≤ x) : (if hmIn T B s (x + 1) q = true then T 166 q else 0) = (if hmIn T B s x q = true then T 166 q else 0) + (if hmIn T B x (x + 1) q = true then T 166 q else 0) := by
  unfold hmIn
  cases homeF T B q (T 163 7) with
  | none => rfl
  | some r =>
    simp only [decide_eq_true_eq]
    by_cases h1 : r < x
    · by_cases h2 : s ≤ r
      · rw [if_pos (by omega), if_pos (by omega), if_neg (by omega)]; rfl
      · rw [if_neg (by omega), if_neg (by omega), if_neg (by omega)]
    · by_cases h2 : r = x
      · rw [if_pos (by omega), if_neg (by omega), if_pos (by omega), Nat.zero_add]
      · rw [if_neg (by omega), if_neg (by omega), if_neg (by omega)]
theorem hl_sum (T : tT) (B s : Nat) : ∀ n, nsum (fun q => if hmIn T B s (s + n) q = true then T 166 q else 0) 10 = nsum (fun j => HL T B (s + j)) n := by
  intro n
  induction n with
  | zero =>
    refine nsum_zero 10 (fun q _ => ?_)
    unfold hmIn
    cases homeF T B q (T 163 7) with
    | none => rfl
    | some r =>
      simp only [decide_eq_true_eq]
      rw [if_neg (by omega)]
  | succ n ih =>
    show nsum (fun q => if hmIn T B s (s + (n + 1)) q = true then T 166 q else 0) 10 = nsum (fun j => HL T B (s + j)) n + HL T B (s + n)
    rw [← ih]
    unfold HL
    rw [← nsum_add]
    exact nsum_congr (fun q _ => hmIn_add T (Nat.le_add_right s n))
section EMPTY
variable {m : vM} {T : tT}
theorem HLq_bd (hV : Vw m T) (p : Nat → Bool) : ∀ n, n ≤ 10 → nsum (fun q => if p q = true then T 166 q else 0) n ≤ 6 * n := by
  intro n hn
  refine nsum_le (fun q hq => ?_)
  have := hV.1.2.2.2.2.2.1 q (by omega)
  split <;> omega
theorem usd_bd (hV : Vw m T) {b : Nat → Nat} {B s e : Nat} (hB : B ≤ T 163 2) (he : e ≤ T 163 2) : usd T (HT T b) B s e ≤ 3841 * 16 + (3841 * 16 + 60 * 16) := by
  have hR := hV.R
  have h1 := nsum_le (f := HT T b) (b := 3841) (n := B) (fun r _ => (HT_bd hV r).1)
  have h2 := nsum_le (f := fun j => HT T b (s + j)) (b := 3841) (n := e - s) (fun r _ => (HT_bd hV _).1)
  have h3 := nsum_le (f := fun j => HL T B (s + j)) (b := 60) (n := e - s) (fun r _ => HLq_bd hV _ 10 (Nat.le_refl _))
  have h4 : 3841 * B ≤ 3841 * 16 := Nat.mul_le_mul_left _ (by omega)
  have h5 : 3841 * (e - s) ≤ 3841 * 16 := Nat.mul_le_mul_left _ (by omega)
  have h6 : 60 * (e - s) ≤ 60 * 16 := Nat.mul_le_mul_left _ (by omega)
  unfold usd
  omega
theorem usd_snoc {H : Nat → Nat} {B s e : Nat} (h : s ≤ e) : usd T H B s (e + 1) = usd T H B s e + (H e + HL T B e) := by
  unfold usd
  rw [show e + 1 - s = (e - s) + 1 by omega]
  show nsum H B + (nsum (fun j => H (s + j)) (e - s) + H (s + (e - s)) + (nsum (fun j => HL T B (s + j)) (e - s) + HL T B (s + (e - s)))) = _
  rw [show s + (e - s) = e by omega]
  omega
theorem usd_nil {H : Nat → Nat} {B s : Nat} : usd T H B s s = nsum H B := by
  unfold usd
  rw [Nat.sub_self]
  rfl
theorem nm_sub (h x y : Nat) : nI h - nI x - nI y = nI h - nI (x + y) := by rw [sub_sub32, adI]
theorem nm_0 (h : Nat) : nI h = nI h - nI 0 := by rw [sbI (Nat.zero_le _)]; rfl
theorem c_X7_emptyOf (hV : Vw m T) {h s e B : Nat} {b : Nat → Nat} (hh : h ≤ 200) (hse : s < e) (he : e ≤ T 163 2) (hB : B ≤ T 163 2) (h185 : ∀ r, r < T 163 2 → m.1 185 r = nI (HT T b r)) {P : Int32 → vM → Prop} (h1 : alo T (HT T b) B s e → P (-1) m) (h0 : ¬ alo T (HT T b) B s e → P (nI h - nI (usd T (HT T b) B s e)) m) : EI_X7_emptyOf (nI h) (nI s) (nI e) (nI B) m P := by
  have hR := hV.R
  refine f_X7_emptyOf (b_X7_emptyOf_0 ?_)
  unfold wp_X7_emptyOf_0
  rw [nm_0 h, show (0 : Int32) = nI 0 from rfl]
  refine loop_up (Q := fun i => J_X7_emptyOf_6 (nI s) (nI e) (nI B) (nI h - nI (nsum (HT T b) i)) (nI i) m P) (n := B) ?_ (fun i hi ih => ?_) 0 (Nat.zero_le _)
  · refine b_X7_emptyOf_6 ?_
    unfold wp_X7_emptyOf_6
    refine ifs (nI_le (Nat.le_refl _) (by omega)) ?_
    have hloop2 : J_X7_emptyOf_34 (nI s) (nI e) (nI B) (nI h - nI (nsum (HT T b) B + nsum (fun j => HT T b (s + j)) 0)) (nI (s + 0)) m P := by
      refine loop_up (Q := fun i => J_X7_emptyOf_34 (nI s) (nI e) (nI B) (nI h - nI (nsum (HT T b) B + nsum (fun j => HT T b (s + j)) i)) (nI (s + i)) m P) (n := e - s) ?_ (fun i hi ih => ?_) 0 (Nat.zero_le _)
      · refine b_X7_emptyOf_34 ?_
        unfold wp_X7_emptyOf_34
        refine ifs (nI_le (by omega) (by omega)) ?_
        refine c_X7_notesOn hV (by omega) (by omega) (by omega) ?_
        have hloop3 : J_X7_emptyOf_71 (nI s) (nI e) (nI B) (nI h - nI (nsum (HT T b) B + nsum (fun j => HT T b (s + j)) (e - s) + nsum (fun q => if hmIn T B s e q = true then T 166 q else 0) 0)) (nI (nmk (hmIn T B s e) 10)) (nI 0) m P := by
          refine loop_up (Q := fun i => J_X7_emptyOf_71 (nI s) (nI e) (nI B) (nI h - nI (nsum (HT T b) B + nsum (fun j => HT T b (s + j)) (e - s) + nsum (fun q => if hmIn T B s e q = true then T 166 q else 0) i)) (nI (nmk (hmIn T B s e) 10)) (nI i) m P) (n := 10) ?_ (fun i hi ih => ?_) 0 (by decide)
          · refine b_X7_emptyOf_71 ?_
            unfold wp_X7_emptyOf_71
            have hu : nsum (HT T b) B + nsum (fun j => HT T b (s + j)) (e - s) + nsum (fun q => if hmIn T B s e q = true then T 166 q else 0) 10 = usd T (HT T b) B s e := by
              have := hl_sum T B s (e - s)
              rw [show s + (e - s) = e by omega] at this
              rw [this]
              unfold usd
              omega
            rw [hu]
            refine ifs (by decide) ?_
            have hHs := (HT_bd hV (b := b) s).1
            rw [sbI (by omega), show (1 : Int32) = nI 1 from rfl, eqI (by omega) (by omega), clI s (by omega), h185 s (by omega), eqI (by omega) (by omega), hV.mR, sbI hB, leI (by omega) (by omega)]
            refine ife (fun z1 => ⟨vI (by omega) (by decide), ife (fun z2 => ife (fun z3 => ?_) (fun z3 => ?_)) (fun z2 => ?_)⟩) (fun z1 => ?_)
            · exact ifs rfl (h0 (fun q => by unfold alo at q; omega))
            · exact ifn (by decide) (h1 (by unfold alo; omega))
            · exact ifs rfl (h0 (fun q => by unfold alo at q; omega))
            · exact ifs rfl (h0 (fun q => by unfold alo at q; omega))
          · refine b_X7_emptyOf_71 ?_
            unfold wp_X7_emptyOf_71
            have hbit := or_bit i hi (nmk (hmIn T B s e) 10) (nmk_lt _ 10)
            rw [nmk_bit _ 10 i hi] at hbit
            refine ifn (nI_ge (b := 10) hi (by decide)) ?_
            rw [clI i (by omega), (hV.nt hi).2, ad1I]
            refine ife (fun hb => ⟨vI hi (by decide), ?_⟩) (fun hb => ?_)
            · rintro v11 rfl
              have hin := hbit.mp hb
              rw [nm_sub, Nat.add_assoc _ _ (T 166 i)]
              have e1 : nsum (fun q => if hmIn T B s e q = true then T 166 q else 0) i + T 166 i = nsum (fun q => if hmIn T B s e q = true then T 166 q else 0) (i + 1) := by
                show _ = nsum (fun q => if hmIn T B s e q = true then T 166 q else 0) i + (if hmIn T B s e i = true then T 166 i else 0)
                rw [if_pos hin]
              rw [e1]
              exact ih
            · rintro v9 rfl
              have hin : ¬ hmIn T B s e i = true := fun z => hb (hbit.mpr z)
              rw [show (0 : Int32) = nI 0 from rfl, nm_sub]
              have e1 : nsum (HT T b) B + nsum (fun j => HT T b (s + j)) (e - s) + nsum (fun q => if hmIn T B s e q = true then T 166 q else 0) i + 0 = nsum (HT T b) B + nsum (fun j => HT T b (s + j)) (e - s) + nsum (fun q => if hmIn T B s e q = true then T 166 q else 0) (i + 1) := by
                show _ = nsum (HT T b) B + nsum (fun j => HT T b (s + j)) (e - s) + (nsum (fun q => if hmIn T B s e q = true then T 166 q else 0) i + (if hmIn T B s e i = true then T 166 i else 0))
                rw [if_neg hin]
                omega
              rw [e1]
              exact ih
        exact hloop3
      · refine b_X7_emptyOf_34 ?_
        unfold wp_X7_emptyOf_34
        rw [clI _ (by omega), h185 _ (by omega), ad1I]
        refine ifn (nI_ge (by omega) (by omega)) ⟨vI (by omega) (by decide), ?_⟩
        rintro v4 rfl
        rw [nm_sub, Nat.add_assoc]
        exact ih
    exact hloop2
  · refine b_X7_emptyOf_6 ?_
    unfold wp_X7_emptyOf_6
    rw [clI _ (by omega), h185 _ (by omega), ad1I]
    refine ifn (nI_ge (by omega) (by omega)) ⟨vI (by omega) (by decide), ?_⟩
    rintro v2 rfl
    rw [nm_sub]
    exact ih
end EMPTY
