/-! glue between formulas and walks -/
theorem vp_lt {i : Int32} {n : Nat} (h : vp_in i n) : i.toNatClampNeg < n := Nat.not_le.mp fun q => h (Or.inr q)
theorem cs4_at {i : Nat} (h : i < 40) : cs4 i = cA i + 2 := if_pos h
theorem cs140_at {i : Nat} (h : i < 16) : cs140 i = (141 + i) + 2 := by show (if i < 16 then 143 + i else 1) = _; rw [if_pos h]; omega
theorem ord_n {x : Int32} {i : Nat} (hi : i < 40) (h : x = nI (cA i + 1)) : ¬ x = 0 := by rw [h]; exact nI_ne0 (by omega) (by unfold cA; omega)
theorem ord_s {x : Int32} {i : Nat} (hi : i < 40) (h : x = nI (cA i + 1)) : x.toNatClampNeg - 1 = cA i := by rw [h, nI_clamp (by unfold cA; omega)]; rfl
theorem SH_len (a : Nat) : (SH a).2.1 ≤ 480 := by
  by_cases h : a < 197
  · exact (by decide +kernel : ∀ a, a < 197 → (SH a).2.1 ≤ 480) a h
  · have h1 : ¬ a < 5 := by omega
    have h2 : ¬ a < 125 := by omega
    have h3 : ¬ a < 163 := by omega
    unfold SH
    rw [if_neg h1, if_neg h2, if_neg h3, List.getD_eq_getElem?_getD, List.getElem?_eq_none (by show 34 ≤ a - 163; omega)]
    exact Nat.zero_le _
def vPi (P : Int32 → vM → Prop) : Option Value → vSh → vM → Prop := fun r sh m => sh = SH ∧ ∃ x, r = some (.int x) ∧ P x m
def vPl (P : Int64 → vM → Prop) : Option Value → vSh → vM → Prop := fun r sh m => sh = SH ∧ ∃ x, r = some (.long x) ∧ P x m
def vPv (P : vM → Prop) : Option Value → vSh → vM → Prop := fun r sh m => sh = SH ∧ r = none ∧ P m
def cref : Option Nat → Value
  | none => .null
  | some i => .ref (cA i)
def vPc (P : Option Nat → vM → Prop) : Option Value → vSh → vM → Prop := fun r sh m => sh = SH ∧ ∃ o : Option Nat, r = some (cref o) ∧ (∀ i, o = some i → i < 40) ∧ P o m
theorem Ev.mono {Y : vMeth} {fr lo nE n : Nat} {as : List Value} {sh : vSh} {m : vM} {P P' : Option Value → vSh → vM → Prop} (h : Ev Y fr lo nE as n sh m P) (hp : ∀ r sh' m', P r sh' m' → P' r sh' m') : Ev Y fr lo nE as n sh m P' := by
  intro hn hB l D K ad hs
  exact MetFree.mono (h hn hB l D K ad hs) (fun _ _ q => q) (fun _ _ _ _ _ q => q) (fun a s o t _ q => ⟨vQ.mono hp a s o t q.1, q.2⟩)
section VG1
variable {Y : vMeth} {fr lo nE : Nat} {sx : Option (Nat × (Nat → Int32))} {pc : Nat} {ls : List (Nat × Value)} {st : List Value} {n : Nat} {sh : vSh} {m : vM} {P : Option Value → vSh → vM → Prop}
theorem vJ.topi {x : Int32} (k : ∀ y : Int32, y = x → vJ Y fr lo nE sx pc ls (.int y :: st) n sh m P) : vJ Y fr lo nE sx pc ls (.int x :: st) n sh m P := k x rfl
theorem vJ.topl {x : Int64} (k : ∀ y : Int64, y = x → vJ Y fr lo nE sx pc ls (.long y :: st) n sh m P) : vJ Y fr lo nE sx pc ls (.long x :: st) n sh m P := k x rfl
theorem vJ.topm (k : ∀ m2 : vM, m2 = m → vJ Y fr lo nE sx pc ls st n sh m2 P) : vJ Y fr lo nE sx pc ls st n sh m P := k m rfl
theorem Ev.gi {Yc : vMeth} {frc loc : Nat} {as : List Value} {Q : Int32 → vM → Prop} (h : Ev Yc frc loc 197 as 197 SH m (vPi Q)) (k : ∀ x m1, Q x m1 → vJ Y fr lo nE sx pc ls (.int x :: st) 197 SH m1 P) : Ev Yc frc loc 197 as 197 SH m (fun r sh' m' => vJ Y fr lo nE sx pc ls (r.toList ++ st) 197 sh' m' P) := h.mono (by
  rintro r sh' m' ⟨rfl, x, rfl, hq⟩
  exact k x m' hq)
theorem Ev.gl {Yc : vMeth} {frc loc : Nat} {as : List Value} {Q : Int64 → vM → Prop} (h : Ev Yc frc loc 197 as 197 SH m (vPl Q)) (k : ∀ x m1, Q x m1 → vJ Y fr lo nE sx pc ls (.long x :: st) 197 SH m1 P) : Ev Yc frc loc 197 as 197 SH m (fun r sh' m' => vJ Y fr lo nE sx pc ls (r.toList ++ st) 197 sh' m' P) := h.mono (by
  rintro r sh' m' ⟨rfl, x, rfl, hq⟩
  exact k x m' hq)
theorem Ev.gv {Yc : vMeth} {frc loc : Nat} {as : List Value} {Q : vM → Prop} (h : Ev Yc frc loc 197 as 197 SH m (vPv Q)) (k : ∀ m1, Q m1 → vJ Y fr lo nE sx pc ls st 197 SH m1 P) : Ev Yc frc loc 197 as 197 SH m (fun r sh' m' => vJ Y fr lo nE sx pc ls (r.toList ++ st) 197 sh' m' P) := h.mono (by
  rintro r sh' m' ⟨rfl, rfl, hq⟩
  exact k m' hq)
theorem Ev.gc {Yc : vMeth} {frc loc : Nat} {as : List Value} {Q : Option Nat → vM → Prop} (h : Ev Yc frc loc 197 as 197 SH m (vPc Q)) (k0 : ∀ m1, Q none m1 → vJ Y fr lo nE sx pc ls (.null :: st) 197 SH m1 P) (k1 : ∀ i m1, i < 40 → Q (some i) m1 → vJ Y fr lo nE sx pc ls (.ref (cA i) :: st) 197 SH m1 P) : Ev Yc frc loc 197 as 197 SH m (fun r sh' m' => vJ Y fr lo nE sx pc ls (r.toList ++ st) 197 sh' m' P) := h.mono (by
  rintro r sh' m' ⟨rfl, o, rfl, hi, hq⟩
  cases o with
  | none => exact k0 m' hq
  | some i => exact k1 i m' (hi i rfl) hq)
/-- Arrays.fill of an array of ints -/
def fillA (m : vM) (a len : Nat) (v : Int32) : vM := upA m a (fun j => if j < len then v else m.1 a j)
theorem fill_loop {a len : Nat} {cs : Nat → Nat} {v : Int32} {n : Nat} {sh : vSh} {m0 : vM} {P : Option Value → vSh → vM → Prop} (hs : sh a = (0, len, cs)) (ha : a < n) (hlen : len ≤ 1000) (hp : P none sh (fillA m0 a len v)) : ∀ d i : Nat, i + d = len → vJ mJ7_fill_53178 0 0 n none 5 [(0, .ref a), (1, .int v), (2, .int (nI i)), (3, .int (nI len))] [] n sh (upA m0 a (fun j => if j < i then v else m0.1 a j)) P := by
  intro d
  induction d with
  | zero =>
    intro i hi
    have hi' : i = len := hi
    subst hi'
    refine vJ.iload_n dJ7_fill_53178_5 rfl rfl ?_
    refine vJ.iload_n dJ7_fill_53178_6 rfl rfl ?_
    refine vJ.icmp_ge (tgt := 20) dJ7_fill_53178_7 (by decide) (fun _ => ?_) (fun hc => absurd (nI_le (Nat.le_refl _) (by omega)) hc)
    exact vJ.vreturn dJ7_fill_53178_20 rfl rfl hp
  | succ d ih =>
    intro i hi
    refine vJ.iload_n dJ7_fill_53178_5 rfl rfl ?_
    refine vJ.iload_n dJ7_fill_53178_6 rfl rfl ?_
    refine vJ.icmp_ge (tgt := 20) dJ7_fill_53178_7 (by decide) (fun hc => absurd hc (nI_ge (by omega) (by omega))) (fun _ => ?_)
    refine vJ.aload_n dJ7_fill_53178_10 rfl rfl ?_
    refine vJ.iload_n dJ7_fill_53178_11 rfl rfl ?_
    refine vJ.iload_n dJ7_fill_53178_12 rfl rfl ?_
    refine vJ.iast dJ7_fill_53178_13 hs ha (vp_in_nI (by omega) (by omega)) ?_
    refine vJ.iinc (v := nI (i + 1)) (ls2 := [(0, .ref a), (1, .int v), (2, .int (nI (i + 1))), (3, .int (nI len))]) dJ7_fill_53178_14 rfl (by rw [nI_succ]; rfl) (Nat.le_of_ble_eq_true rfl) rfl ?_
    refine vJ.goto (tgt := 5) dJ7_fill_53178_17 (by decide) ?_
    have e : upI (upA m0 a (fun j => if j < i then v else m0.1 a j)) a (nI i).toNatClampNeg v = upA m0 a (fun j => if j < i + 1 then v else m0.1 a j) := by
      rw [nI_clamp (by omega)]
      unfold upI upA
      refine Prod.ext ?_ rfl
      funext b
      by_cases hb : b = a
      · subst hb
        simp only [if_true]
        funext j
        unfold upd
        by_cases hj : j = i
        · subst hj; simp
        · by_cases h2 : j < i
          · simp [hj, h2, Nat.lt_succ_of_lt h2]
          · have : ¬ j < i + 1 := by omega
            simp [hj, h2, this]
      · simp [hb]
    rw [e]
    exact ih (i + 1) (by omega)
theorem ev_fillG {a len : Nat} {cs : Nat → Nat} {v : Int32} {n : Nat} {sh : vSh} {m0 : vM} {P : Option Value → vSh → vM → Prop} (hs : sh a = (0, len, cs)) (ha : a < n) (hlen : len ≤ 1000) (hp : P none sh (fillA m0 a len v)) : Ev mJ7_fill_53178 0 0 n [.ref a, .int v] n sh m0 P := by
  refine Ev.of pn_J7_fill_53178 (Nat.le_of_ble_eq_true rfl) ?_
  show vJ mJ7_fill_53178 0 0 n none 0 [(0, .ref a), (1, .int v)] [] n sh m0 P
  refine vJ.iconst dJ7_fill_53178_0 ci_0 ?_
  refine vJ.istore_n (ls2 := [(0, .ref a), (1, .int v), (2, .int 0)]) dJ7_fill_53178_1 rfl (Nat.le_of_ble_eq_true rfl) rfl ?_
  refine vJ.aload_n dJ7_fill_53178_2 rfl rfl ?_
  refine vJ.alen0 (v := nI len) dJ7_fill_53178_3 hs ha rfl ?_
  refine vJ.istore_n (ls2 := [(0, .ref a), (1, .int v), (2, .int 0), (3, .int (nI len))]) dJ7_fill_53178_4 rfl (Nat.le_of_ble_eq_true rfl) rfl ?_
  have h := fill_loop (v := v) (m0 := m0) hs ha hlen hp len 0 (by omega)
  rw [nI_0] at h
  have e : upA m0 a (fun j => if j < 0 then v else m0.1 a j) = m0 := by
    unfold upA
    refine Prod.ext ?_ rfl
    funext b
    by_cases hb : b = a
    · subst hb; simp
    · simp [hb]
  rw [e] at h
  exact h
theorem ev_fill {a len : Nat} {v : Int32} {m0 : vM} (hs : SH a = (0, len, vz)) (ha : a < 197) (k : ∀ m1 : vM, m1 = fillA m0 a len v → vJ Y fr lo nE sx pc ls st 197 SH m1 P) : Ev mJ7_fill_53178 0 0 197 [.ref a, .int v] 197 SH m0 (fun r sh' m' => vJ Y fr lo nE sx pc ls (r.toList ++ st) 197 sh' m' P) := by
  have hl := SH_len a
  rw [hs] at hl
  exact ev_fillG hs ha (by have : len ≤ 480 := hl; omega) (k _ rfl)
theorem tab_out6 {x : Int32} (h0 : ¬ x = 0) (h1 : ¬ x = 1) (h2 : ¬ x = 2) (h3 : ¬ x = 3) (h4 : ¬ x = 4) (h5 : ¬ x = 5) : x.toInt < 0 ∨ 5 < x.toInt := by
  have k0 : ¬ x.toInt = 0 := fun q => h0 (Int32.toInt_inj.mp q)
  have k1 : ¬ x.toInt = 1 := fun q => h1 (Int32.toInt_inj.mp q)
  have k2 : ¬ x.toInt = 2 := fun q => h2 (Int32.toInt_inj.mp q)
  have k3 : ¬ x.toInt = 3 := fun q => h3 (Int32.toInt_inj.mp q)
  have k4 : ¬ x.toInt = 4 := fun q => h4 (Int32.toInt_inj.mp q)
  have k5 : ¬ x.toInt = 5 := fun q => h5 (Int32.toInt_inj.mp q)
  omega
theorem tab_out7 {x : Int32} (h0 : ¬ x = 0) (h1 : ¬ x = 1) (h2 : ¬ x = 2) (h3 : ¬ x = 3) (h4 : ¬ x = 4) (h5 : ¬ x = 5) (h6 : ¬ x = 6) : x.toInt < 0 ∨ 6 < x.toInt := by
  have k6 : ¬ x.toInt = 6 := fun q => h6 (Int32.toInt_inj.mp q)
  rcases tab_out6 h0 h1 h2 h3 h4 h5 with h | h <;> omega
end VG1
