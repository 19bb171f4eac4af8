/-! the ways to spread: how many, and that next goes through them -/
def ch : Nat → Nat → Nat
  | _, 0 => 1
  | 0, _ + 1 => 0
  | n + 1, k + 1 => ch n k + ch n (k + 1)
theorem ch_0 (n : Nat) : ch n 0 = 1 := by cases n <;> rfl
theorem ch_s (n k : Nat) : ch (n + 1) (k + 1) = ch n k + ch n (k + 1) := rfl
theorem ch_lt : ∀ n k, n < k → ch n k = 0 := by
  intro n
  induction n with
  | zero =>
    intro k hk
    obtain ⟨j, rfl⟩ : ∃ j, k = j + 1 := ⟨k - 1, by omega⟩
    rfl
  | succ n ih =>
    intro k hk
    obtain ⟨j, rfl⟩ : ∃ j, k = j + 1 := ⟨k - 1, by omega⟩
    rw [ch_s, ih j (by omega), ih (j + 1) (by omega)]
theorem ch_mul : ∀ n k, (k + 1) * ch (n + 1) (k + 1) = (n + 1) * ch n k := by
  intro n
  induction n with
  | zero =>
    intro k
    cases k with
    | zero => rfl
    | succ k =>
      rw [ch_lt (0 + 1) (k + 1 + 1) (by omega), ch_lt 0 (k + 1) (by omega)]
      rfl
  | succ n ih =>
    intro k
    cases k with
    | zero =>
      have h := ih 0
      rw [ch_s, ch_0]
      rw [ch_0] at h
      omega
    | succ k =>
      have h1 := ih k
      have h2 := ih (k + 1)
      have e1 : ch (n + 1 + 1) (k + 1 + 1) = ch (n + 1) (k + 1) + ch (n + 1) (k + 1 + 1) := rfl
      have e2 : ch (n + 1) (k + 1) = ch n k + ch n (k + 1) := rfl
      rw [e1, Nat.mul_add, h2]
      have h3 : (k + 1 + 1) * ch (n + 1) (k + 1) = (k + 1) * ch (n + 1) (k + 1) + ch (n + 1) (k + 1) := by rw [Nat.add_mul, Nat.one_mul]
      rw [h3, h1]
      have h4 : (n + 1 + 1) * ch (n + 1) (k + 1) = (n + 1) * ch (n + 1) (k + 1) + ch (n + 1) (k + 1) := by rw [Nat.add_mul (n + 1) 1, Nat.one_mul]
      have h5 : (n + 1) * ch (n + 1) (k + 1) = (n + 1) * ch n k + (n + 1) * ch n (k + 1) := by rw [e2, Nat.mul_add]
      omega
theorem ch_hk (S : Nat) : ∀ M, ch (S + M) M = 1 + nsum (fun m => ch (S + m) (m + 1)) M := by
  intro M
  induction M with
  | zero => rw [ch_0]; rfl
  | succ M ih =>
    have e : ch (S + (M + 1)) (M + 1) = ch (S + M) M + ch (S + M) (M + 1) := rfl
    show ch (S + (M + 1)) (M + 1) = 1 + (nsum (fun m => ch (S + m) (m + 1)) M + ch (S + M) (M + 1))
    rw [e, ih, Nat.add_assoc]
theorem ch_le (S : Nat) : ∀ M, ch (S + M) M ≤ (S + M + 1) ^ M := by
  intro M
  induction M with
  | zero => rw [ch_0]; exact Nat.le_refl _
  | succ M ih =>
    have h := ch_mul (S + M) M
    have h1 : ch (S + M + 1) (M + 1) ≤ (M + 1) * ch (S + M + 1) (M + 1) := Nat.le_mul_of_pos_left _ (by omega)
    have h2 : (S + M + 1) * ch (S + M) M ≤ (S + M + 1) * (S + M + 1) ^ M := Nat.mul_le_mul_left _ ih
    have h3 : (S + M + 1) * (S + M + 1) ^ M = (S + M + 1) ^ (M + 1) := by rw [Nat.pow_succ, Nat.mul_comm]
    have h4 : (S + M + 1) ^ (M + 1) ≤ (S + (M + 1) + 1) ^ (M + 1) := Nat.pow_le_pow_left (by omega) _
    show ch (S + M + 1) (M + 1) ≤ _
    omega
def tl (d : Nat → Nat) (k : Nat) : Nat → Nat
  | 0 => d k
  | m + 1 => tl d k m + d (k - (m + 1))
def gv (d : Nat → Nat) : Nat → Nat
  | 0 => 0
  | g + 1 => if d (g + 1) = 0 then gv d g else g + 1
def nxt (k : Nat) (d : Nat → Nat) : Nat → Nat := if gv d k = 0 then d else fun c => (if c = gv d k then 0 else if c = gv d k - 1 then d c + 1 else d c) + if c = k then d (gv d k) - 1 else 0
def rk (d : Nat → Nat) (k : Nat) : Nat := nsum (fun m => ch (tl d k m + m) (m + 1)) k
theorem gv_spec (d : Nat → Nat) : ∀ k, gv d k ≤ k ∧ (gv d k ≠ 0 → d (gv d k) ≠ 0) ∧ ∀ j, gv d k < j → j ≤ k → d j = 0 := by
  intro k
  induction k with
  | zero => exact ⟨Nat.le_refl _, fun h => absurd rfl h, fun j h1 h2 => absurd h1 (by omega)⟩
  | succ k ih =>
    unfold gv
    by_cases h : d (k + 1) = 0
    · rw [if_pos h]
      refine ⟨by omega, ih.2.1, fun j h1 h2 => ?_⟩
      by_cases e : j = k + 1
      · rw [e]; exact h
      · exact ih.2.2 j h1 (by omega)
    · rw [if_neg h]
      exact ⟨Nat.le_refl _, fun _ => h, fun j h1 h2 => absurd h1 (by omega)⟩
theorem tl_zero {d : Nat → Nat} {k : Nat} : ∀ m, m ≤ k → (∀ j, k - m ≤ j → j ≤ k → d j = 0) → tl d k m = 0 := by
  intro m
  induction m with
  | zero => intro _ h; exact h k (by omega) (by omega)
  | succ m ih =>
    intro hm h
    show tl d k m + d (k - (m + 1)) = 0
    rw [ih (by omega) (fun j h1 h2 => h j (by omega) h2), h _ (by omega) (by omega)]
theorem nsum_swap {f f' : Nat → Nat} {a k : Nat} (hk : a ≤ k) (h : ∀ m, a ≤ m → m < k → f m = f' m) : nsum f k + nsum f' a = nsum f' k + nsum f a := by
  induction k with
  | zero =>
    obtain rfl : a = 0 := by omega
    rfl
  | succ k ih =>
    by_cases e : a = k + 1
    · subst e; omega
    · have h1 := ih (by omega) (fun m z1 z2 => h m z1 (by omega))
      have h2 := h k (by omega) (by omega)
      show nsum f k + f k + nsum f' a = nsum f' k + f' k + nsum f a
      omega
theorem nsum_zero {f : Nat → Nat} : ∀ n, (∀ i, i < n → f i = 0) → nsum f n = 0 := by
  intro n
  induction n with
  | zero => intro _; rfl
  | succ n ih =>
    intro h
    show nsum f n + f n = 0
    rw [ih (fun i hi => h i (by omega)), h n (by omega)]
theorem rk_end {d : Nat → Nat} {k : Nat} (h : gv d k = 0) : rk d k = 0 := by
  obtain ⟨g1, g2, g3⟩ := gv_spec d k
  unfold rk
  refine nsum_zero k (fun m hm => ?_)
  rw [tl_zero m (by omega) (fun j h1 h2 => g3 j (by omega) h2), Nat.zero_add]
  exact ch_lt _ _ (by omega)
theorem rk_step {d : Nat → Nat} {k : Nat} (h : gv d k ≠ 0) : rk (nxt k d) k + 1 = rk d k ∧ tl (nxt k d) k k = tl d k k := by
  obtain ⟨g1, g2, g3⟩ := gv_spec d k
  have hs := g2 h
  generalize hg : gv d k = g at *
  have en : nxt k d = fun c => (if c = g then 0 else if c = g - 1 then d c + 1 else d c) + if c = k then d g - 1 else 0 := by
    unfold nxt
    rw [hg, if_neg h]
  have tz : ∀ m, m < k - g → tl d k m = 0 := fun m hm => tl_zero m (by omega) (fun j h1 h2 => g3 j (by omega) h2)
  have tq : tl d k (k - g) = d g := by
    rcases Nat.eq_zero_or_pos (k - g) with e | e
    · rw [e]
      show d k = d g
      rw [show k = g by omega]
    · obtain ⟨q, hq⟩ : ∃ q, k - g = q + 1 := ⟨k - g - 1, by omega⟩
      rw [hq]
      show tl d k q + d (k - (q + 1)) = d g
      rw [tz q (by omega), Nat.zero_add, show k - (q + 1) = g by omega]
  have t1 : ∀ m, m ≤ k - g → tl (nxt k d) k m = d g - 1 := by
    intro m
    induction m with
    | zero =>
      intro _
      show nxt k d k = _
      rw [en]
      show (if k = g then 0 else if k = g - 1 then d k + 1 else d k) + (if k = k then d g - 1 else 0) = d g - 1
      rw [if_pos rfl]
      by_cases e : k = g
      · rw [if_pos e, Nat.zero_add]
      · rw [if_neg e, if_neg (by omega), g3 k (by omega) (by omega), Nat.zero_add]
    | succ m ih =>
      intro hm
      show tl (nxt k d) k m + nxt k d (k - (m + 1)) = _
      rw [ih (by omega), en]
      show d g - 1 + ((if k - (m + 1) = g then 0 else if k - (m + 1) = g - 1 then d (k - (m + 1)) + 1 else d (k - (m + 1))) + (if k - (m + 1) = k then d g - 1 else 0)) = _
      rw [if_neg (show ¬ k - (m + 1) = k by omega)]
      by_cases e : k - (m + 1) = g
      · rw [if_pos e]; rfl
      · rw [if_neg e, if_neg (by omega), g3 (k - (m + 1)) (by omega) (by omega)]; rfl
  have t2 : ∀ m, k - g < m → m ≤ k → tl (nxt k d) k m = tl d k m := by
    intro m
    induction m with
    | zero => intro h; omega
    | succ m ih =>
      intro h1 h2
      show tl (nxt k d) k m + nxt k d (k - (m + 1)) = tl d k m + d (k - (m + 1))
      by_cases e : m = k - g
      · subst e
        rw [t1 _ (Nat.le_refl _), tq, en]
        show d g - 1 + ((if k - (k - g + 1) = g then 0 else if k - (k - g + 1) = g - 1 then d (k - (k - g + 1)) + 1 else d (k - (k - g + 1))) + (if k - (k - g + 1) = k then d g - 1 else 0)) = _
        rw [if_neg (by omega), if_pos (by omega), if_neg (by omega)]
        omega
      · rw [ih (by omega) (by omega), en]
        show tl d k m + ((if k - (m + 1) = g then 0 else if k - (m + 1) = g - 1 then d (k - (m + 1)) + 1 else d (k - (m + 1))) + (if k - (m + 1) = k then d g - 1 else 0)) = _
        rw [if_neg (by omega), if_neg (by omega), if_neg (by omega)]
        rfl
  refine ⟨?_, t2 k (by omega) (Nat.le_refl _)⟩
  unfold rk
  have hsw := nsum_swap (f := fun m => ch (tl (nxt k d) k m + m) (m + 1)) (f' := fun m => ch (tl d k m + m) (m + 1)) (a := k - g + 1) (k := k) (by omega) (fun m h1 h2 => by
    show ch (tl (nxt k d) k m + m) (m + 1) = ch (tl d k m + m) (m + 1)
    rw [t2 m (by omega) (by omega)])
  have ha : nsum (fun m => ch (tl d k m + m) (m + 1)) (k - g + 1) = ch (d g + (k - g)) (k - g + 1) := by
    show nsum (fun m => ch (tl d k m + m) (m + 1)) (k - g) + ch (tl d k (k - g) + (k - g)) (k - g + 1) = _
    rw [tq, nsum_zero _ (fun m hm => by rw [tz m hm, Nat.zero_add]; exact ch_lt _ _ (by omega)), Nat.zero_add]
  have hb : nsum (fun m => ch (tl (nxt k d) k m + m) (m + 1)) (k - g + 1) + 1 = ch (d g + (k - g)) (k - g + 1) := by
    rw [nsum_congr (g := fun m => ch (d g - 1 + m) (m + 1)) (fun m hm => by rw [t1 m (by omega)])]
    have := ch_hk (d g - 1) (k - g + 1)
    rw [show d g - 1 + (k - g + 1) = d g + (k - g) by omega] at this
    omega
  omega
def dz (k S : Nat) : Nat → Nat → Nat
  | 0 => fun c => if c = k then S else 0
  | t + 1 => nxt k (dz k S t)
theorem tl_dz0 (k S : Nat) : ∀ m, m ≤ k → tl (dz k S 0) k m = S := by
  intro m
  induction m with
  | zero =>
    intro _
    show (if k = k then S else 0) = S
    rw [if_pos rfl]
  | succ m ih =>
    intro hm
    show tl (dz k S 0) k m + (if k - (m + 1) = k then S else 0) = S
    rw [ih (by omega), if_neg (by omega)]
    rfl
theorem rk_dz0 (k S : Nat) : rk (dz k S 0) k + 1 = ch (S + k) k := by
  unfold rk
  rw [nsum_congr (g := fun m => ch (S + m) (m + 1)) (fun m hm => by rw [tl_dz0 k S m (by omega)]), ch_hk]
  omega
theorem tl_mem {d : Nat → Nat} {k : Nat} : ∀ m c, m ≤ k → k - m ≤ c → c ≤ k → d c ≤ tl d k m := by
  intro m
  induction m with
  | zero =>
    intro c _ h1 h2
    rw [show c = k by omega]
    exact Nat.le_refl _
  | succ m ih =>
    intro c hm h1 h2
    show d c ≤ tl d k m + d (k - (m + 1))
    by_cases e : c = k - (m + 1)
    · rw [e]; omega
    · have := ih c (by omega) (by omega) h2
      omega
theorem dz_rk (k S : Nat) : ∀ t, t < ch (S + k) k → rk (dz k S t) k + t + 1 = ch (S + k) k ∧ tl (dz k S t) k k = S := by
  intro t
  induction t with
  | zero =>
    intro _
    exact ⟨rk_dz0 k S, tl_dz0 k S k (Nat.le_refl _)⟩
  | succ t ih =>
    intro ht
    obtain ⟨h1, h2⟩ := ih (by omega)
    have hg : gv (dz k S t) k ≠ 0 := fun e => by
      rw [rk_end e] at h1
      omega
    obtain ⟨h3, h4⟩ := rk_step hg
    exact ⟨by show rk (nxt k (dz k S t)) k + (t + 1) + 1 = _; omega, h4.trans h2⟩
theorem dz_gv {k S t : Nat} (ht : t < ch (S + k) k) : gv (dz k S t) k = 0 ↔ t + 1 = ch (S + k) k := by
  obtain ⟨h1, h2⟩ := dz_rk k S t ht
  constructor
  · intro e
    rw [rk_end e] at h1
    omega
  · intro e
    by_cases hg : gv (dz k S t) k = 0
    · exact hg
    · have := (rk_step hg).1
      omega
theorem dz_le {k S t c : Nat} (ht : t < ch (S + k) k) (hc : c ≤ k) : dz k S t c ≤ S := by
  have := tl_mem (d := dz k S t) k c (Nat.le_refl _) (by omega) hc
  rw [(dz_rk k S t ht).2] at this
  exact this
theorem ch_pos (S : Nat) (k : Nat) : 1 ≤ ch (S + k) k := by
  rw [ch_hk]
  omega
