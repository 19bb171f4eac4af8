def vrf (n : Nat) (v : Value) : Prop := ∀ k, v = .ref k → k < n ∨ k = vsN
def vOK (n : Nat) (ls : List (Nat × Value)) (st : List Value) : Prop := (∀ q ∈ ls, vrf n q.2) ∧ ∀ v ∈ st, vrf n v
theorem vrf_ref {n k : Nat} (h : k < n) : vrf n (.ref k) := fun j hj => by cases hj; exact Or.inl h
theorem vrf_int {n : Nat} {x : Int32} : vrf n (.int x) := fun _ h => by cases h
theorem vrf_long {n : Nat} {x : Int64} : vrf n (.long x) := fun _ h => by cases h
theorem vrf_null {n : Nat} : vrf n .null := fun _ h => by cases h
theorem vrf_sN {n : Nat} : vrf n (.ref vsN) := fun j hj => by cases hj; exact Or.inr rfl
theorem fa_nil {α : Type} {p : α → Prop} : ∀ q ∈ ([] : List α), p q := fun _ h => by cases h
theorem fa_cons {α : Type} {p : α → Prop} {a : α} {l : List α} (h : p a) (t : ∀ q ∈ l, p q) : ∀ q ∈ a :: l, p q := fun q hq => by
  rcases List.mem_cons.mp hq with rfl | h1
  · exact h
  · exact t q h1
theorem vtr_ag {n : Nat} {ad ad' : Nat → Nat} {v : Value} (h : vAg n ad ad') (hv : vrf n v) : vtr ad' v = vtr ad v := by
  cases v with
  | ref k => simp only [vtr]; rw [h k (hv k rfl)]
  | _ => rfl
theorem vls_ag {n : Nat} {ad ad' : Nat → Nat} {ls : List (Nat × Value)} (h : vAg n ad ad') (hv : ∀ q ∈ ls, vrf n q.2) : vls ad' ls = vls ad ls := by
  unfold vls
  exact List.map_congr_left (fun q hq => by rw [vtr_ag h (hv q hq)])
theorem vst_ag {n : Nat} {ad ad' : Nat → Nat} {st : List Value} (h : vAg n ad ad') (hv : ∀ v ∈ st, vrf n v) : st.map (vtr ad') = st.map (vtr ad) := List.map_congr_left (fun q hq => vtr_ag h (hv q hq))
theorem vAg_up {n q : Nat} {ad : Nat → Nat} (hn : n < 1000000) : vAg n ad (va_up ad n q) := by
  intro k hk
  have : k ≠ n := by rcases hk with h | h <;> (try subst h) <;> (try unfold vsN) <;> omega
  simp [va_up, this]
theorem vAg_tr {n n' : Nat} {ad ad1 ad2 : Nat → Nat} (h1 : vAg n ad ad1) (h2 : vAg n' ad1 ad2) (h : n ≤ n') : vAg n ad ad2 := fun k hk => (h2 k (by rcases hk with h | h <;> omega)).trans (h1 k hk)
theorem vRB_new {n : Nat} {sh sh' : vSh} {m m' : vM} (hB : vRB n sh m) (ho : ∀ j, j < n → sh' j = sh j ∧ m'.1 j = m.1 j) (h1 : ∀ j x, (sh' n).2.2 j = x + 2 → x < n + 1) (h2 : (sh' n).1 = 4 → ∀ j, m'.1 n j = 0) : vRB (n + 1) sh' m' := by
  intro k hk
  by_cases hkn : k = n
  · subst hkn
    exact ⟨h1, fun h4 j => Or.inl (h2 h4 j)⟩
  · obtain ⟨e1, e2⟩ := ho k (by omega)
    rw [e1, e2]
    refine ⟨fun j x h => Nat.lt_succ_of_lt ((hB k (by omega)).1 j x h), fun h4 j => ?_⟩
    rcases (hB k (by omega)).2 h4 j with h | h
    · exact Or.inl h
    · exact Or.inr (Nat.lt_succ_of_lt h)
theorem vK_int {D : va_G} {K : Nat → ClassId} {s : State} {cA : ClassId} (h : va_K D vwCl (vtys K) s) (h' : va_K D vwCl (vtys K ++ [(cA, .int)]) s) : cA = K 0 := Option.some.inj ((h'.2 5 (cA, .int) rfl).2.symm.trans (h.2 0 _ rfl).2)
theorem vK_bool {D : va_G} {K : Nat → ClassId} {s : State} {cA : ClassId} (h : va_K D vwCl (vtys K) s) (h' : va_K D vwCl (vtys K ++ [(cA, .boolean)]) s) : cA = K 1 := Option.some.inj ((h'.2 5 (cA, .boolean) rfl).2.symm.trans (h.2 1 _ rfl).2)
theorem vK_long {D : va_G} {K : Nat → ClassId} {s : State} {cA : ClassId} (h : va_K D vwCl (vtys K) s) (h' : va_K D vwCl (vtys K ++ [(cA, .long)]) s) : cA = K 2 := Option.some.inj ((h'.2 5 (cA, .long) rfl).2.symm.trans (h.2 2 _ rfl).2)
theorem vK_cell {D : va_G} {K : Nat → ClassId} {s : State} {cA : ClassId} (h : va_K D vwCl (vtys K) s) (h' : va_K D vwCl (vtys K ++ [(cA, .object "TableSetter$Cell")]) s) : cA = K 3 := by
  obtain ⟨_, _, -, -, -, h1⟩ := (h.2 3 _ rfl).2
  obtain ⟨_, _, -, -, -, h2⟩ := (h'.2 5 (cA, .object "TableSetter$Cell") rfl).2
  exact Option.some.inj (h2.symm.trans h1)
theorem vK_arr {D : va_G} {K : Nat → ClassId} {s : State} {cA : ClassId} (h : va_K D vwCl (vtys K) s) (h' : va_K D vwCl (vtys K ++ [(cA, .array .int)]) s) : cA = K 4 := Option.some.inj ((h'.2 5 (cA, .array .int) rfl).2.symm.trans (h.2 4 _ rfl).2)
section VC1
variable {Y : vMeth} {fr lo nE : Nat} {sx : Option (Nat × (Nat → Int32))} {pc : Nat} {ls : List (Nat × Value)} {st : List Value} {n : Nat} {sh : vSh} {m : vM} {P : Option Value → vSh → vM → Prop}
theorem vJ.new {index ci N : Nat} {C : String} {T : u_T} (hd : decode Y.2.1 pc = .ok (.new index, 3)) (hc : vwCl[ci]? = some (C, T, N)) (hin : ∀ w ∈ u_ws C T N, w ∈ vtb) (ty0 : Nat → FieldType) (hty : ∀ k, k < N → parseFieldDescriptor (T k).2.2.1 = some (ty0 k)) (cs : Nat → Nat) (hcs : ∀ j, j < N → (cs j = 0 ∧ defaultValue (ty0 j) = .int 0) ∨ (cs j = 1 ∧ defaultValue (ty0 j) = .null)) (hcs2 : ∀ j, cs j ≤ 1) (hw1 : Cond.classLink Y.1.cls index C ∈ vtb) (hw2 : Cond.instantiable C N ∈ vtb) (hw3 : Cond.initialized C ∈ vtb) (hn1 : n + 1 ≤ nE) (hnn : n < 1000000) (hsz : (SH n).2.1 = N) (hok : vOK n ls st) (kk : vJ Y fr lo nE sx (pc + 3) ls (.ref n :: st) (n + 1) (upS sh n (ci + 6, N, cs)) (upZ m n) P) : vJ Y fr lo nE sx pc ls st n sh m P := by
  intro p l e R s mi args below meth c D K ad A H0 H locs cells slots Cm Sm Q la hC hD hl hR
  obtain ⟨hx, hb, hml, hown, hts, hrt, hlk, hinit, hfr, hlo, hK, hXt⟩ := id hC
  obtain ⟨hP, hDd, hS, hA, hB, hn, hc1, hs1, hc2, hs2, hsx⟩ := id hD
  have hzq := vSZ_lt (a := n) (b := nE) hn1
  rw [hsz] at hzq
  refine va_new hx hb hts hin ty0 hty hown (hts _ hw1) (hts _ hw2) (hts _ hw3) hK hP hDd hS hA hc (fs := (List.range N).map (fun j => vsl ad (cs j) 0)) (fun j hj => ?_) (by omega) (by omega) hd (fun q H1 hP1 hD1 hS1 => ?_)
  · simp only [vp_V, List.getD_eq_getElem?_getD, List.getElem?_map, List.getElem?_range hj]
    rcases hcs j hj with ⟨h1, h2⟩ | ⟨h1, h2⟩
    · simp [h1, h2, vsl]
    · simp [h1, h2, vsl]
  have hag : vAg n ad (va_up ad n q) := vAg_up hnn
  have e9 : wld K ad sh m n ++ [(q, .inr (ci, (List.range N).map (fun j => vsl ad (cs j) 0)))] = wld K (va_up ad n q) (upS sh n (ci + 6, N, cs)) (upZ m n) (n + 1) := by
    refine wld_push (fun k hk => hag k (Or.inl hk)) (by simp [va_up]) ?_ (fun j hj => ⟨by simp [upS, Nat.ne_of_lt hj], by simp [upZ, Nat.ne_of_lt hj], by simp [upZ, Nat.ne_of_lt hj]⟩) hB
    simp only [upS, if_true, upZ]
    show _ = Sum.inr (ci, _)
    congr 2
    apply List.map_congr_left
    intro j _
    have := hcs2 j
    show vsl ad (cs j) 0 = vsl (va_up ad n q) (cs j) 0
    generalize cs j = t at this ⊢
    match t, this with
    | 0, _ => rfl
    | 1, _ => rfl
    | x + 2, h => exact absurd h (by omega)
  rw [e9] at hP1 hD1
  have hz := vSZ_lt (a := n) (b := nE) hn1
  rw [hsz] at hz
  have hz1 : vSZ (n + 1) = vSZ n + N := by show vSZ n + _ = _; rw [hsz]
  have hz2 := vSZ_mono hn1
  have hl1 : lv_has la Y.2.2.1 (vls (va_up ad n q) ls) := by rw [vls_ag hag hok.1]; exact hl
  have k1 := kk p l e R s mi args below meth c D K (va_up ad n q) A H0 H1 locs (cells + 1) (slots + N) Cm Sm Q la hC ⟨hP1, hD1, hS1, hA, vRB_new hB (fun j hj => ⟨by simp [upS, Nat.ne_of_lt hj], by simp [upZ, Nat.ne_of_lt hj]⟩) (fun j x h => by simp [upS] at h; have := hcs2 j; omega) (fun h4 => by simp [upS] at h4), hn1, by omega, by omega, hc2, hs2, fun L xs h => by rw [hag vsN (Or.inr rfl)]; exact hsx L xs h⟩ hl1 (fun r sh' m' ad2 H' locs' cells' slots' la' pc' h1 h2 h3 h4 h5 => hR r sh' m' ad2 H' locs' cells' slots' la' pc' h1 h2 (vAg_tr hag h3 (Nat.le_succ n)) (fun e => absurd e (by omega)) h5)
  simp only [List.map_cons, vst_ag hag hok.2] at k1
  have e8 : vtr (va_up ad n q) (.ref n) = .ref q := by simp [vtr, va_up]
  rw [e8] at k1
  exact k1
theorem vJ.newaI {N : Nat} {q0 : Int32} (hd : decode Y.2.1 pc = .ok (.newarray .int, 2)) (hq : ¬ q0 < 0) (hN : q0.toNatClampNeg = N) (hN2 : N ≤ 1000) (hw : Cond.arrayClass .int ∈ vtb) (hn1 : n + 1 ≤ nE) (hnn : n < 1000000) (hsz : (SH n).2.1 = N) (hok : vOK n ls st) (kk : vJ Y fr lo nE sx (pc + 2) ls (.ref n :: st) (n + 1) (upS sh n (0, N, vz)) (upZ m n) P) : vJ Y fr lo nE sx pc ls (.int q0 :: st) n sh m P := by
  intro p l e R s mi args below meth c D K ad A H0 H locs cells slots Cm Sm Q la hC hD hl hR
  obtain ⟨hx, hb, hml, hown, hts, hrt, hlk, hinit, hfr, hlo, hK, hXt⟩ := id hC
  obtain ⟨hP, hDd, hS, hA, hB, hn, hc1, hs1, hc2, hs2, hsx⟩ := id hD
  have hzq := vSZ_lt (a := n) (b := nE) hn1
  rw [hsz] at hzq
  refine va_newa (atype := .int) (ty := .int) hx hb (hts _ hw) rfl hK hP hDd hS hA (a0 := (N, .inl (fun _ => 0))) (fun _ => rfl) hq hN (by simp only [componentBytes]; omega) (by omega) (by omega) hd (fun q cA H1 hK1 hP1 hD1 hS1 => ?_)
  have hcA := vK_int hK hK1
  subst hcA
  have hag : vAg n ad (va_up ad n q) := vAg_up hnn
  have e9 : wld K ad sh m n ++ [(q, .inl (K 0, N, .inl (fun _ => 0)))] = wld K (va_up ad n q) (upS sh n (0, N, vz)) (upZ m n) (n + 1) := by
    refine wld_push (fun k hk => hag k (Or.inl hk)) (by simp [va_up]) ?_ (fun j hj => ⟨by simp [upS, Nat.ne_of_lt hj], by simp [upZ, Nat.ne_of_lt hj], by simp [upZ, Nat.ne_of_lt hj]⟩) hB
    simp only [upS, if_true, upZ]
    rfl
  rw [e9] at hP1 hD1
  have hz := vSZ_lt (a := n) (b := nE) hn1
  rw [hsz] at hz
  have hz1 : vSZ (n + 1) = vSZ n + N := by show vSZ n + _ = _; rw [hsz]
  have hz2 := vSZ_mono hn1
  have hl1 : lv_has la Y.2.2.1 (vls (va_up ad n q) ls) := by rw [vls_ag hag hok.1]; exact hl
  have k1 := kk p l e R s mi args below meth c D K (va_up ad n q) A H0 H1 locs (cells + 1) (slots + N) Cm Sm Q la hC ⟨hP1, hD1, hS1, hA, vRB_new hB (fun j hj => ⟨by simp [upS, Nat.ne_of_lt hj], by simp [upZ, Nat.ne_of_lt hj]⟩) (fun j x h => by simp [upS, vz] at h) (fun h4 => by simp [upS] at h4), hn1, by omega, by omega, hc2, hs2, fun L xs h => by rw [hag vsN (Or.inr rfl)]; exact hsx L xs h⟩ hl1 (fun r sh' m' ad2 H' locs' cells' slots' la' pc' h1 h2 h3 h4 h5 => hR r sh' m' ad2 H' locs' cells' slots' la' pc' h1 h2 (vAg_tr hag h3 (Nat.le_succ n)) (fun e => absurd e (by omega)) h5)
  simp only [List.map_cons, vst_ag hag hok.2] at k1
  have e8 : vtr (va_up ad n q) (.ref n) = .ref q := by simp [vtr, va_up]
  rw [e8] at k1
  exact k1
theorem vJ.newaZ {N : Nat} {q0 : Int32} (hd : decode Y.2.1 pc = .ok (.newarray .boolean, 2)) (hq : ¬ q0 < 0) (hN : q0.toNatClampNeg = N) (hN2 : N ≤ 1000) (hw : Cond.arrayClass .boolean ∈ vtb) (hn1 : n + 1 ≤ nE) (hnn : n < 1000000) (hsz : (SH n).2.1 = N) (hok : vOK n ls st) (kk : vJ Y fr lo nE sx (pc + 2) ls (.ref n :: st) (n + 1) (upS sh n (1, N, vz)) (upZ m n) P) : vJ Y fr lo nE sx pc ls (.int q0 :: st) n sh m P := by
  intro p l e R s mi args below meth c D K ad A H0 H locs cells slots Cm Sm Q la hC hD hl hR
  obtain ⟨hx, hb, hml, hown, hts, hrt, hlk, hinit, hfr, hlo, hK, hXt⟩ := id hC
  obtain ⟨hP, hDd, hS, hA, hB, hn, hc1, hs1, hc2, hs2, hsx⟩ := id hD
  have hzq := vSZ_lt (a := n) (b := nE) hn1
  rw [hsz] at hzq
  refine va_newa (atype := .boolean) (ty := .boolean) hx hb (hts _ hw) rfl hK hP hDd hS hA (a0 := (N, .inl (fun _ => 0))) (fun _ => rfl) hq hN (by simp only [componentBytes]; omega) (by omega) (by omega) hd (fun q cA H1 hK1 hP1 hD1 hS1 => ?_)
  have hcA := vK_bool hK hK1
  subst hcA
  have hag : vAg n ad (va_up ad n q) := vAg_up hnn
  have e9 : wld K ad sh m n ++ [(q, .inl (K 1, N, .inl (fun _ => 0)))] = wld K (va_up ad n q) (upS sh n (1, N, vz)) (upZ m n) (n + 1) := by
    refine wld_push (fun k hk => hag k (Or.inl hk)) (by simp [va_up]) ?_ (fun j hj => ⟨by simp [upS, Nat.ne_of_lt hj], by simp [upZ, Nat.ne_of_lt hj], by simp [upZ, Nat.ne_of_lt hj]⟩) hB
    simp only [upS, if_true, upZ]
    rfl
  rw [e9] at hP1 hD1
  have hz := vSZ_lt (a := n) (b := nE) hn1
  rw [hsz] at hz
  have hz1 : vSZ (n + 1) = vSZ n + N := by show vSZ n + _ = _; rw [hsz]
  have hz2 := vSZ_mono hn1
  have hl1 : lv_has la Y.2.2.1 (vls (va_up ad n q) ls) := by rw [vls_ag hag hok.1]; exact hl
  have k1 := kk p l e R s mi args below meth c D K (va_up ad n q) A H0 H1 locs (cells + 1) (slots + N) Cm Sm Q la hC ⟨hP1, hD1, hS1, hA, vRB_new hB (fun j hj => ⟨by simp [upS, Nat.ne_of_lt hj], by simp [upZ, Nat.ne_of_lt hj]⟩) (fun j x h => by simp [upS, vz] at h) (fun h4 => by simp [upS] at h4), hn1, by omega, by omega, hc2, hs2, fun L xs h => by rw [hag vsN (Or.inr rfl)]; exact hsx L xs h⟩ hl1 (fun r sh' m' ad2 H' locs' cells' slots' la' pc' h1 h2 h3 h4 h5 => hR r sh' m' ad2 H' locs' cells' slots' la' pc' h1 h2 (vAg_tr hag h3 (Nat.le_succ n)) (fun e => absurd e (by omega)) h5)
  simp only [List.map_cons, vst_ag hag hok.2] at k1
  have e8 : vtr (va_up ad n q) (.ref n) = .ref q := by simp [vtr, va_up]
  rw [e8] at k1
  exact k1
theorem vJ.newaJ {N : Nat} {q0 : Int32} (hd : decode Y.2.1 pc = .ok (.newarray .long, 2)) (hq : ¬ q0 < 0) (hN : q0.toNatClampNeg = N) (hN2 : N ≤ 1000) (hw : Cond.arrayClass .long ∈ vtb) (hn1 : n + 1 ≤ nE) (hnn : n < 1000000) (hsz : (SH n).2.1 = N) (hok : vOK n ls st) (kk : vJ Y fr lo nE sx (pc + 2) ls (.ref n :: st) (n + 1) (upS sh n (2, N, vz)) (upZ m n) P) : vJ Y fr lo nE sx pc ls (.int q0 :: st) n sh m P := by
  intro p l e R s mi args below meth c D K ad A H0 H locs cells slots Cm Sm Q la hC hD hl hR
  obtain ⟨hx, hb, hml, hown, hts, hrt, hlk, hinit, hfr, hlo, hK, hXt⟩ := id hC
  obtain ⟨hP, hDd, hS, hA, hB, hn, hc1, hs1, hc2, hs2, hsx⟩ := id hD
  have hzq := vSZ_lt (a := n) (b := nE) hn1
  rw [hsz] at hzq
  refine va_newa (atype := .long) (ty := .long) hx hb (hts _ hw) rfl hK hP hDd hS hA (a0 := (N, .inr (.inl (fun _ => 0)))) (fun _ => rfl) hq hN (by simp only [componentBytes]; omega) (by omega) (by omega) hd (fun q cA H1 hK1 hP1 hD1 hS1 => ?_)
  have hcA := vK_long hK hK1
  subst hcA
  have hag : vAg n ad (va_up ad n q) := vAg_up hnn
  have e9 : wld K ad sh m n ++ [(q, .inl (K 2, N, .inr (.inl (fun _ => 0))))] = wld K (va_up ad n q) (upS sh n (2, N, vz)) (upZ m n) (n + 1) := by
    refine wld_push (fun k hk => hag k (Or.inl hk)) (by simp [va_up]) ?_ (fun j hj => ⟨by simp [upS, Nat.ne_of_lt hj], by simp [upZ, Nat.ne_of_lt hj], by simp [upZ, Nat.ne_of_lt hj]⟩) hB
    simp only [upS, if_true, upZ]
    rfl
  rw [e9] at hP1 hD1
  have hz := vSZ_lt (a := n) (b := nE) hn1
  rw [hsz] at hz
  have hz1 : vSZ (n + 1) = vSZ n + N := by show vSZ n + _ = _; rw [hsz]
  have hz2 := vSZ_mono hn1
  have hl1 : lv_has la Y.2.2.1 (vls (va_up ad n q) ls) := by rw [vls_ag hag hok.1]; exact hl
  have k1 := kk p l e R s mi args below meth c D K (va_up ad n q) A H0 H1 locs (cells + 1) (slots + N) Cm Sm Q la hC ⟨hP1, hD1, hS1, hA, vRB_new hB (fun j hj => ⟨by simp [upS, Nat.ne_of_lt hj], by simp [upZ, Nat.ne_of_lt hj]⟩) (fun j x h => by simp [upS, vz] at h) (fun h4 => by simp [upS] at h4), hn1, by omega, by omega, hc2, hs2, fun L xs h => by rw [hag vsN (Or.inr rfl)]; exact hsx L xs h⟩ hl1 (fun r sh' m' ad2 H' locs' cells' slots' la' pc' h1 h2 h3 h4 h5 => hR r sh' m' ad2 H' locs' cells' slots' la' pc' h1 h2 (vAg_tr hag h3 (Nat.le_succ n)) (fun e => absurd e (by omega)) h5)
  simp only [List.map_cons, vst_ag hag hok.2] at k1
  have e8 : vtr (va_up ad n q) (.ref n) = .ref q := by simp [vtr, va_up]
  rw [e8] at k1
  exact k1
theorem vJ.newaC {index N : Nat} {q0 : Int32} (hd : decode Y.2.1 pc = .ok (.anewarray index, 3)) (hq : ¬ q0 < 0) (hN : q0.toNatClampNeg = N) (hN2 : N ≤ 1000) (hw : Cond.classLink Y.1.cls index "TableSetter$Cell" ∈ vtb) (hn1 : n + 1 ≤ nE) (hnn : n < 1000000) (hsz : (SH n).2.1 = N) (hok : vOK n ls st) (kk : vJ Y fr lo nE sx (pc + 3) ls (.ref n :: st) (n + 1) (upS sh n (3, N, fun _ => 1)) (upZ m n) P) : vJ Y fr lo nE sx pc ls (.int q0 :: st) n sh m P := by
  intro p l e R s mi args below meth c D K ad A H0 H locs cells slots Cm Sm Q la hC hD hl hR
  obtain ⟨hx, hb, hml, hown, hts, hrt, hlk, hinit, hfr, hlo, hK, hXt⟩ := id hC
  obtain ⟨hP, hDd, hS, hA, hB, hn, hc1, hs1, hc2, hs2, hsx⟩ := id hD
  have hzq := vSZ_lt (a := n) (b := nE) hn1
  rw [hsz] at hzq
  refine va_newq hx hb hown (hts _ hw) hXt.1 hK hP hDd hS hA hq hN (by omega) (by omega) (by omega) hd (fun q cA H1 hK1 hP1 hD1 hS1 => ?_)
  have hcA := vK_cell hK hK1
  subst hcA
  have hag : vAg n ad (va_up ad n q) := vAg_up hnn
  have e9 : wld K ad sh m n ++ [(q, .inl (K 3, N, .inr (.inr (.inr (.inr (fun _ => none))))))] = wld K (va_up ad n q) (upS sh n (3, N, fun _ => 1)) (upZ m n) (n + 1) := by
    refine wld_push (fun k hk => hag k (Or.inl hk)) (by simp [va_up]) ?_ (fun j hj => ⟨by simp [upS, Nat.ne_of_lt hj], by simp [upZ, Nat.ne_of_lt hj], by simp [upZ, Nat.ne_of_lt hj]⟩) hB
    simp only [upS, if_true, upZ]
    rfl
  rw [e9] at hP1 hD1
  have hz := vSZ_lt (a := n) (b := nE) hn1
  rw [hsz] at hz
  have hz1 : vSZ (n + 1) = vSZ n + N := by show vSZ n + _ = _; rw [hsz]
  have hz2 := vSZ_mono hn1
  have hl1 : lv_has la Y.2.2.1 (vls (va_up ad n q) ls) := by rw [vls_ag hag hok.1]; exact hl
  have k1 := kk p l e R s mi args below meth c D K (va_up ad n q) A H0 H1 locs (cells + 1) (slots + N) Cm Sm Q la hC ⟨hP1, hD1, hS1, hA, vRB_new hB (fun j hj => ⟨by simp [upS, Nat.ne_of_lt hj], by simp [upZ, Nat.ne_of_lt hj]⟩) (fun j x h => by simp [upS] at h) (fun h4 => by simp [upS] at h4), hn1, by omega, by omega, hc2, hs2, fun L xs h => by rw [hag vsN (Or.inr rfl)]; exact hsx L xs h⟩ hl1 (fun r sh' m' ad2 H' locs' cells' slots' la' pc' h1 h2 h3 h4 h5 => hR r sh' m' ad2 H' locs' cells' slots' la' pc' h1 h2 (vAg_tr hag h3 (Nat.le_succ n)) (fun e => absurd e (by omega)) h5)
  simp only [List.map_cons, vst_ag hag hok.2] at k1
  have e8 : vtr (va_up ad n q) (.ref n) = .ref q := by simp [vtr, va_up]
  rw [e8] at k1
  exact k1
theorem vJ.newaD {index N : Nat} {q0 : Int32} (hd : decode Y.2.1 pc = .ok (.anewarray index, 3)) (hq : ¬ q0 < 0) (hN : q0.toNatClampNeg = N) (hN2 : N ≤ 1000) (hw : Cond.classLink Y.1.cls index "TableSetter$Cell" ∈ vtb) (hn1 : n + 1 ≤ nE) (hnn : n < 1000000) (hsz : (SH n).2.1 = N) (hok : vOK n ls st) (kk : vJ Y fr lo nE sx (pc + 3) ls (.ref n :: st) (n + 1) (upS sh n (4, N, vz)) (upZ m n) P) : vJ Y fr lo nE sx pc ls (.int q0 :: st) n sh m P := by
  intro p l e R s mi args below meth c D K ad A H0 H locs cells slots Cm Sm Q la hC hD hl hR
  obtain ⟨hx, hb, hml, hown, hts, hrt, hlk, hinit, hfr, hlo, hK, hXt⟩ := id hC
  obtain ⟨hP, hDd, hS, hA, hB, hn, hc1, hs1, hc2, hs2, hsx⟩ := id hD
  have hzq := vSZ_lt (a := n) (b := nE) hn1
  rw [hsz] at hzq
  refine va_newq hx hb hown (hts _ hw) hXt.1 hK hP hDd hS hA hq hN (by omega) (by omega) (by omega) hd (fun q cA H1 hK1 hP1 hD1 hS1 => ?_)
  have hcA := vK_cell hK hK1
  subst hcA
  have hag : vAg n ad (va_up ad n q) := vAg_up hnn
  have e9 : wld K ad sh m n ++ [(q, .inl (K 3, N, .inr (.inr (.inr (.inr (fun _ => none))))))] = wld K (va_up ad n q) (upS sh n (4, N, vz)) (upZ m n) (n + 1) := by
    refine wld_push (fun k hk => hag k (Or.inl hk)) (by simp [va_up]) ?_ (fun j hj => ⟨by simp [upS, Nat.ne_of_lt hj], by simp [upZ, Nat.ne_of_lt hj], by simp [upZ, Nat.ne_of_lt hj]⟩) hB
    simp only [upS, if_true, upZ]
    rfl
  rw [e9] at hP1 hD1
  have hz := vSZ_lt (a := n) (b := nE) hn1
  rw [hsz] at hz
  have hz1 : vSZ (n + 1) = vSZ n + N := by show vSZ n + _ = _; rw [hsz]
  have hz2 := vSZ_mono hn1
  have hl1 : lv_has la Y.2.2.1 (vls (va_up ad n q) ls) := by rw [vls_ag hag hok.1]; exact hl
  have k1 := kk p l e R s mi args below meth c D K (va_up ad n q) A H0 H1 locs (cells + 1) (slots + N) Cm Sm Q la hC ⟨hP1, hD1, hS1, hA, vRB_new hB (fun j hj => ⟨by simp [upS, Nat.ne_of_lt hj], by simp [upZ, Nat.ne_of_lt hj]⟩) (fun j x h => by simp [upS, vz] at h) (fun _ j => by simp [upZ]), hn1, by omega, by omega, hc2, hs2, fun L xs h => by rw [hag vsN (Or.inr rfl)]; exact hsx L xs h⟩ hl1 (fun r sh' m' ad2 H' locs' cells' slots' la' pc' h1 h2 h3 h4 h5 => hR r sh' m' ad2 H' locs' cells' slots' la' pc' h1 h2 (vAg_tr hag h3 (Nat.le_succ n)) (fun e => absurd e (by omega)) h5)
  simp only [List.map_cons, vst_ag hag hok.2] at k1
  have e8 : vtr (va_up ad n q) (.ref n) = .ref q := by simp [vtr, va_up]
  rw [e8] at k1
  exact k1
theorem vJ.mna {index : Nat} (hd : decode Y.2.1 pc = .ok (.multianewarray index 2, 4)) (hw : Cond.classLink Y.1.cls index ("[" ++ (FieldType.array .int).toString) ∈ vtb) (hw3 : Cond.arrayClass .int ∈ vtb) (hn1 : n + 17 ≤ nE) (hnn : n < 100000) (hsz : vSZ (n + 17) = vSZ n + 80) (hok : vOK n ls st) (kk : vJ Y fr lo nE sx (pc + 4) ls (.ref n :: st) (n + 17) (fun b => if b = n then (5, 16, fun j => if j < 16 then n + 3 + j else 1) else if n < b ∧ b < n + 17 then (0, 4, vz) else sh b) (fun b => if n ≤ b ∧ b < n + 17 then fun _ => 0 else m.1 b, fun b => if n ≤ b ∧ b < n + 17 then fun _ => 0 else m.2 b) P) : vJ Y fr lo nE sx pc ls (.int 4 :: .int 16 :: st) n sh m P := by
  intro p l e R s mi args below meth c D K ad A H0 H locs cells slots Cm Sm Q la hC hD hl hR
  obtain ⟨hx, hb, hml, hown, hts, hrt, hlk, hinit, hfr, hlo, hK, hXt⟩ := id hC
  obtain ⟨hP, hDd, hS, hA, hB, hn, hc1, hs1, hc2, hs2, hsx⟩ := id hD
  have hz2 := vSZ_mono hn1
  rw [hsz] at hz2
  refine va_mna (X := wld K ad sh m n) (L := []) (f := fun _ => .inl (0, 0, .inl (fun _ => 0))) (n := 16) (k := 4) (N' := 16) (K' := 4) (z := (4, .inl (fun _ => 0))) (ty := .int) (cy := K 0) hx hb hown (hts _ hw) hXt.2.1 (hts _ hw3) (hK.2 0 _ rfl).2 hK (by simpa [va_pl] using hP) (by simpa [va_pl] using hDd) hS hA (by decide) (by decide) (by decide) (by decide) (by decide) (by decide) (by decide) rfl rfl (by omega) (by omega) (fun c => by show ({ cls := c, slots := Array.replicate 4 _, vm := .none } : Cell) = _; rw [arrV_new]; rfl) hd (fun q r cA H1 hinj _ hK1 hP1 hD1 hS1 => ?_)
  have hcA := vK_arr hK hK1
  subst hcA
  have hag : vAg n ad (fun k => if k = n then q else if n < k ∧ k < n + 17 then r (k - n - 1) else ad k) := by
    intro k hk
    have h1 : k ≠ n := by rcases hk with h | h <;> (try subst h) <;> (try unfold vsN) <;> omega
    have h2 : ¬ (n < k ∧ k < n + 17) := by rcases hk with h | h <;> (try subst h) <;> (try unfold vsN) <;> omega
    simp only [h1, h2, if_false]
  generalize hadd : (fun k => if k = n then q else if n < k ∧ k < n + 17 then r (k - n - 1) else ad k) = ad2 at hag
  have e9 : (wld K ad sh m n ++ [(q, .inl (K 4, 16, .inr (.inr (.inr (.inr (fun i => if i < 16 then some (r i) else none))))))]) ++ va_pl ([] ++ (List.range 16).map r) (vr_up (fun _ => .inl (0, 0, .inl (fun _ => 0))) ((List.range 16).map r) (.inl (K 0, (4, .inl (fun _ => 0))))) = wld K ad2 (fun b => if b = n then (5, 16, fun j => if j < 16 then n + 3 + j else 1) else if n < b ∧ b < n + 17 then (0, 4, vz) else sh b) (fun b => if n ≤ b ∧ b < n + 17 then fun _ => 0 else m.1 b, fun b => if n ≤ b ∧ b < n + 17 then fun _ => 0 else m.2 b) (n + 17) := by
    unfold wld
    rw [show n + 17 = n + (1 + 16) from rfl, List.range_add, List.map_append, List.append_assoc]
    congr 1
    · apply List.map_congr_left
      intro k hk
      have hk := List.mem_range.mp hk
      have h1 : k ≠ n := Nat.ne_of_lt hk
      have h2 : ¬ (n < k ∧ k < n + 17) := by omega
      have h3 : ¬ (n ≤ k ∧ k < n + 17) := by omega
      simp only [h1, h2, h3, if_false]
      rw [hag k (Or.inl hk), venc_ag (fun j hj => hag j (Or.inl hj)) (hB k hk).1 (hB k hk).2]
    · rw [show List.range (1 + 16) = 0 :: (List.range 16).map (1 + ·) from rfl]
      simp only [List.map_cons, List.map_map, Nat.add_zero, List.singleton_append, List.nil_append]
      congr 1
      · subst hadd
        simp only [if_true]
        refine congrArg (fun z => (q, z)) ?_
        show Sum.inl (K 4, 16, _) = Sum.inl (K 4, 16, _)
        refine congrArg (fun z => (Sum.inl (K 4, 16, Sum.inr (Sum.inr (Sum.inr (Sum.inr z)))) : va_E)) ?_
        funext i
        by_cases hi : i < 16
        · simp only [hi, if_true]
          rw [show n + 3 + i = (n + 1 + i) + 2 by omega]
          simp only [vrq]
          have h1 : ¬ n + 1 + i = n := by omega
          have h2 : n < n + 1 + i ∧ n + 1 + i < n + 17 := by omega
          simp only [h1, h2, if_true, if_false, and_self]
          rw [show n + 1 + i - n - 1 = i by omega]
        · simp only [hi, if_false, vrq]
      · unfold va_pl
        rw [List.map_map]
        apply List.map_congr_left
        intro i hi
        have hi := List.mem_range.mp hi
        subst hadd
        have h1 : ¬ n + (1 + i) = n := by omega
        have h2 : n < n + (1 + i) ∧ n + (1 + i) < n + 17 := by omega
        have h3 : n ≤ n + (1 + i) ∧ n + (1 + i) < n + 17 := by omega
        simp only [Function.comp, h1, h2, h3, if_true, if_false, and_self]
        rw [show n + (1 + i) - n - 1 = i by omega, vr_up_in (List.mem_map.mpr ⟨i, List.mem_range.mpr hi, rfl⟩)]
        rfl
  rw [e9] at hP1 hD1
  have hl1 : lv_has la Y.2.2.1 (vls ad2 ls) := by rw [vls_ag hag hok.1]; exact hl
  have hB2 : vRB (n + 17) (fun b => if b = n then (5, 16, fun j => if j < 16 then n + 3 + j else 1) else if n < b ∧ b < n + 17 then (0, 4, vz) else sh b) (fun b => if n ≤ b ∧ b < n + 17 then fun _ => 0 else m.1 b, fun b => if n ≤ b ∧ b < n + 17 then fun _ => 0 else m.2 b) := by
    intro b hb9
    by_cases h1 : b = n
    · simp only [h1, if_true]
      refine ⟨fun j x hj => ?_, fun h4 => absurd h4 (by decide)⟩
      split at hj <;> omega
    · by_cases h2 : n < b ∧ b < n + 17
      · simp only [h1, h2, if_true, if_false, and_self]
        exact ⟨fun j x hj => by simp [vz] at hj, fun h4 => absurd h4 (by decide)⟩
      · have h3 : ¬ (n ≤ b ∧ b < n + 17) := by omega
        have hbn : b < n := by omega
        simp only [h1, h2, h3, if_false]
        exact ⟨fun j x hj => Nat.lt_of_lt_of_le ((hB b hbn).1 j x hj) (by omega), fun h4 j => by
          rcases (hB b hbn).2 h4 j with h | h
          · exact Or.inl h
          · exact Or.inr (by omega)⟩
  have k1 := kk p l e R s mi args below meth c D K ad2 A H0 H1 locs (cells + 1 + 16) (slots + 16 + 16 * 4) Cm Sm Q la hC ⟨hP1, hD1, hS1, hA, hB2, hn1, by omega, by omega, hc2, hs2, fun L xs h => by rw [hag vsN (Or.inr rfl)]; exact hsx L xs h⟩ hl1 (fun r1 sh' m' ad3 H' locs' cells' slots' la' pc' h1 h2 h3 h4 h5 => hR r1 sh' m' ad3 H' locs' cells' slots' la' pc' h1 h2 (vAg_tr hag h3 (by omega)) (fun e => absurd e (by omega)) h5)
  simp only [List.map_cons, vst_ag hag hok.2] at k1
  have e8 : vtr ad2 (.ref n) = .ref q := by subst hadd; simp [vtr]
  rw [e8] at k1
  exact k1

end VC1
