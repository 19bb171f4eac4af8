theorem map_set_r {N k : Nat} {f f' : Nat → Value} {v : Value} (h1 : f' k = v) (h2 : ∀ j, j ≠ k → f' j = f j) : ((List.range N).map f).set k v = (List.range N).map f' := by
  apply List.ext_getElem?
  intro i
  rw [List.getElem?_set]
  by_cases hi : k = i
  · subst hi
    rw [if_pos rfl]
    by_cases hk : k < N
    · rw [if_pos (by simpa using hk), List.getElem?_map, List.getElem?_range hk, ← h1]; rfl
    · rw [if_neg (by simpa using hk)]; simp [hk]
  · rw [if_neg hi]
    by_cases hk : i < N
    · rw [List.getElem?_map, List.getElem?_map, List.getElem?_range hk]
      simp [h2 i (fun q => hi q.symm)]
    · simp [hk]
theorem vRB_upI {n : Nat} {sh : vSh} {m : vM} {a j : Nat} {v : Int32} (h : vRB n sh m) (hv : (sh a).1 = 4 → v = 0 ∨ v.toNatClampNeg - 1 < n) : vRB n sh (upI m a j v) := by
  intro k hk
  refine ⟨(h k hk).1, fun h4 i => ?_⟩
  rw [upI_r]
  split
  · rename_i hq; obtain ⟨rfl, -⟩ := hq; exact hv h4
  · exact (h k hk).2 h4 i
theorem vRB_of1 {n : Nat} {sh : vSh} {m m' : vM} (h : vRB n sh m) (hm : ∀ k, (sh k).1 = 4 → m'.1 k = m.1 k) : vRB n sh m' := fun k hk => ⟨(h k hk).1, fun h4 j => by rw [hm k h4]; exact (h k hk).2 h4 j⟩
theorem vRB_upS {n : Nat} {sh : vSh} {m : vM} {a k c : Nat} (h : vRB n sh m) (hc : ∀ x, c = x + 2 → x < n) : vRB n (upS sh a (setC (sh a) k c)) m := by
  intro b hb
  by_cases hba : b = a
  · subst hba
    refine ⟨fun j x hj => ?_, fun h4 j => ?_⟩
    · simp only [upS, if_true, setC] at hj
      split at hj
      · exact hc x hj
      · exact (h b hb).1 j x hj
    · simp only [upS, if_true, setC] at h4
      exact (h b hb).2 h4 j
  · simp only [upS, if_neg hba]
    exact h b hb
section VM1
variable {Y : vMeth} {fr lo nE : Nat} {sx : Option (Nat × (Nat → Int32))} {pc : Nat} {ls : List (Nat × Value)} {st : List Value} {n : Nat} {sh : vSh} {m : vM} {P : Option Value → vSh → vM → Prop}
theorem vJ.getI {index ci N a k : Nat} {C : String} {T : u_T} {cs : Nat → Nat} (hd : decode Y.2.1 pc = .ok (.getfield index, 3)) (hs : sh a = (ci + 6, N, cs)) (ha : a < n) (hc : vwCl[ci]? = some (C, T, N)) (hin : ∀ w ∈ u_ws C T N, w ∈ vtb) (hk : k < N) (hcs : cs k = 0) (hw : Cond.fieldLink Y.1.cls index (T k).1 (T k).2.1 (T k).2.2.1 ∈ vtb) (kk : vJ Y fr lo nE sx (pc + 3) ls (.int (m.1 a k) :: st) n sh m P) : vJ Y fr lo nE sx pc ls (.ref a :: st) n sh m P := by
  intro p l e R s mi args below meth c D K ad A H0 H locs cells slots Cm Sm Q la hC hD hl hR
  obtain ⟨hx, hb, hml, hown, hts, hrt, hlk, hinit, hfr, hlo, hK, hXt⟩ := id hC
  have he : (wld K ad sh m n)[a]? = some (ad a, .inr (ci, (List.range N).map (fun j => vsl ad (cs j) (m.1 a j)))) := by rw [wld_get ha, hs]; rfl
  refine va_get hx hb hts hin hown hK hD.1 a he hc k hk (hts _ hw) (fun _ h => h) (v := vtr ad (.int (m.1 a k))) ?_ hd (kk p l e R s mi args below meth c D K ad A H0 H locs cells slots Cm Sm Q la hC hD hl hR)
  simp [List.getElem?_map, List.getElem?_range hk, hcs, vsl, vtr]
theorem vJ.getR {index ci N a k j : Nat} {C : String} {T : u_T} {cs : Nat → Nat} (hd : decode Y.2.1 pc = .ok (.getfield index, 3)) (hs : sh a = (ci + 6, N, cs)) (ha : a < n) (hc : vwCl[ci]? = some (C, T, N)) (hin : ∀ w ∈ u_ws C T N, w ∈ vtb) (hk : k < N) (hcs : cs k = j + 2) (hw : Cond.fieldLink Y.1.cls index (T k).1 (T k).2.1 (T k).2.2.1 ∈ vtb) (kk : vJ Y fr lo nE sx (pc + 3) ls (.ref j :: st) n sh m P) : vJ Y fr lo nE sx pc ls (.ref a :: st) n sh m P := by
  intro p l e R s mi args below meth c D K ad A H0 H locs cells slots Cm Sm Q la hC hD hl hR
  obtain ⟨hx, hb, hml, hown, hts, hrt, hlk, hinit, hfr, hlo, hK, hXt⟩ := id hC
  have he : (wld K ad sh m n)[a]? = some (ad a, .inr (ci, (List.range N).map (fun j => vsl ad (cs j) (m.1 a j)))) := by rw [wld_get ha, hs]; rfl
  refine va_get hx hb hts hin hown hK hD.1 a he hc k hk (hts _ hw) (fun _ h => h) (v := vtr ad (.ref j)) ?_ hd (kk p l e R s mi args below meth c D K ad A H0 H locs cells slots Cm Sm Q la hC hD hl hR)
  simp [List.getElem?_map, List.getElem?_range hk, hcs, vsl, vtr]
theorem vJ.putI {index ci N a k : Nat} {C : String} {T : u_T} {cs : Nat → Nat} {x : Int32} (hd : decode Y.2.1 pc = .ok (.putfield index, 3)) (hs : sh a = (ci + 6, N, cs)) (ha : a < n) (hc : vwCl[ci]? = some (C, T, N)) (hin : ∀ w ∈ u_ws C T N, w ∈ vtb) (ty0 : Nat → FieldType) (hty : ∀ k, k < N → parseFieldDescriptor (T k).2.2.1 = some (ty0 k)) (hnm : ∀ a, a < N → ∀ b, b < N → a ≠ b → (T a).2.1 ≠ (T b).2.1) (hk : k < N) (hcs : cs k = 0) (hfin : (T k).2.2.2 = false) (hw : Cond.fieldLink Y.1.cls index (T k).1 (T k).2.1 (T k).2.2.1 ∈ vtb) (hnr : narrow (ty0 k) (.int x) = .int x) (hft : fits (ty0 k) (.int x) = true) (kk : vJ Y fr lo nE sx (pc + 3) ls st n sh (upI m a k x) P) : vJ Y fr lo nE sx pc ls (.int x :: .ref a :: st) n sh m P := by
  intro p l e R s mi args below meth c D K ad A H0 H locs cells slots Cm Sm Q la hC hD hl hR
  obtain ⟨hx, hb, hml, hown, hts, hrt, hlk, hinit, hfr, hlo, hK, hXt⟩ := id hC
  obtain ⟨hP, hDd, hS, hA, hB, hn, hc1, hs1, hc2, hs2, hsx⟩ := id hD
  have he : (wld K ad sh m n)[a]? = some (ad a, .inr (ci, (List.range N).map (fun j => vsl ad (cs j) (m.1 a j)))) := by rw [wld_get ha, hs]; rfl
  refine va_put (v := .int x) hx hb hts hin ty0 hty hnm hown hK hP hDd hS a he hc k hk (hts _ hw) (fun _ h => h) hfin (hty k hk) hnr hft (by simpa using hk) hd (fun H1 locs1 hP1 hD1 hS1 => ?_)
  have e9 : (wld K ad sh m n).set a (ad a, .inr (ci, ((List.range N).map (fun j => vsl ad (cs j) (m.1 a j))).set k (.int x))) = wld K ad sh (upI m a k x) n := by
    refine wld_set ha ?_ (fun j hj => ⟨rfl, upI_o m a k j x hj, rfl⟩)
    rw [hs]
    show _ = Sum.inr (ci, _)
    rw [map_set_r (f' := fun j => vsl ad (cs j) ((upI m a k x).1 a j))]
    · show vsl ad (cs k) _ = _
      rw [hcs, upI_s]; rfl
    · intro j hj
      show vsl ad (cs j) _ = _
      rw [upI_n m a k a j x (Or.inr hj)]
  rw [e9] at hP1 hD1
  exact kk p l e R s mi args below meth c D K ad A H0 H1 locs1 cells slots Cm Sm Q la hC ⟨hP1, hD1, hS1, hA, vRB_upI hB (fun h4 => by rw [hs] at h4; exact absurd h4 (by show ¬ ci + 6 = 4; omega)), hn, hc1, hs1, hc2, hs2, hsx⟩ hl hR
theorem vJ.putF {index ci N a k j : Nat} {C : String} {T : u_T} {cs : Nat → Nat} (hd : decode Y.2.1 pc = .ok (.putfield index, 3)) (hs : sh a = (ci + 6, N, cs)) (ha : a < n) (hj : j < n) (hc : vwCl[ci]? = some (C, T, N)) (hin : ∀ w ∈ u_ws C T N, w ∈ vtb) (ty0 : Nat → FieldType) (hty : ∀ k, k < N → parseFieldDescriptor (T k).2.2.1 = some (ty0 k)) (hnm : ∀ a, a < N → ∀ b, b < N → a ≠ b → (T a).2.1 ≠ (T b).2.1) (hk : k < N) (hfin : (T k).2.2.2 = true) (hi : Y.1.name = "<init>") (hdecl : (T k).1 = Y.1.cls) (hw : Cond.fieldLink Y.1.cls index (T k).1 (T k).2.1 (T k).2.2.1 ∈ vtb) (hft : ∀ b : Nat, narrow (ty0 k) (.ref b) = .ref b ∧ fits (ty0 k) (.ref b) = true) (kk : vJ Y fr lo nE sx (pc + 3) ls st n (upS sh a (setC (sh a) k (j + 2))) m P) : vJ Y fr lo nE sx pc ls (.ref j :: .ref a :: st) n sh m P := by
  intro p l e R s mi args below meth c D K ad A H0 H locs cells slots Cm Sm Q la hC hD hl hR
  obtain ⟨hx, hb, hml, hown, hts, hrt, hlk, hinit, hfr, hlo, hK, hXt⟩ := id hC
  obtain ⟨hP, hDd, hS, hA, hB, hn, hc1, hs1, hc2, hs2, hsx⟩ := id hD
  have he : (wld K ad sh m n)[a]? = some (ad a, .inr (ci, (List.range N).map (fun j => vsl ad (cs j) (m.1 a j)))) := by rw [wld_get ha, hs]; rfl
  refine va_putF (v := .ref (ad j)) hx hb hts hin ty0 hty hnm hown hK hP hDd hS a he hc k hk (hts _ hw) (fun _ h => h) hfin (hinit hi) hdecl (hty k hk) (hft _).1 (hft _).2 (by simpa using hk) hd (fun H1 locs1 hP1 hD1 hS1 => ?_)
  have e9 : (wld K ad sh m n).set a (ad a, .inr (ci, ((List.range N).map (fun j => vsl ad (cs j) (m.1 a j))).set k (.ref (ad j)))) = wld K ad (upS sh a (setC (sh a) k (j + 2))) m n := by
    refine wld_set ha ?_ (fun i hi => ⟨by simp [upS, hi], rfl, rfl⟩)
    have e8 : upS sh a (setC (sh a) k (j + 2)) a = (ci + 6, N, fun i => if i = k then j + 2 else cs i) := by
      simp [upS, setC, hs]
    rw [e8]
    show _ = Sum.inr (ci, _)
    rw [map_set_r (f' := fun i => vsl ad (if i = k then j + 2 else cs i) (m.1 a i))]
    · simp [vsl]
    · intro i hi
      simp [hi]
  rw [e9] at hP1 hD1
  exact kk p l e R s mi args below meth c D K ad A H0 H1 locs1 cells slots Cm Sm Q la hC ⟨hP1, hD1, hS1, hA, vRB_upS hB (fun x h => by omega), hn, hc1, hs1, hc2, hs2, hsx⟩ hl hR
theorem vJ.iald {a len : Nat} {cs : Nat → Nat} {i : Int32} (hd : decode Y.2.1 pc = .ok (.iaload, 1)) (hs : sh a = (0, len, cs)) (ha : a < n) (hi : vp_in i len)  (kk : vJ Y fr lo nE sx (pc + 1) ls (.int (m.1 a i.toNatClampNeg) :: st) n sh m P) : vJ Y fr lo nE sx pc ls (.int i :: .ref a :: st) n sh m P := by
  intro p l e R s mi args below meth c D K ad A H0 H locs cells slots Cm Sm Q la hC hD hl hR
  obtain ⟨hx, hb, hml, hown, hts, hrt, hlk, hinit, hfr, hlo, hK, hXt⟩ := id hC
  have he : (wld K ad sh m n)[a]? = some (ad a, .inl (K 0, len, .inl (m.1 a))) := by rw [wld_get ha, hs]; rfl
  exact va_iald hx hb hK hD.1 a 0 he rfl hi hd (kk p l e R s mi args below meth c D K ad A H0 H locs cells slots Cm Sm Q la hC hD hl hR)
theorem vJ.zald {a len : Nat} {cs : Nat → Nat} {i : Int32} (hd : decode Y.2.1 pc = .ok (.baload, 1)) (hs : sh a = (1, len, cs)) (ha : a < n) (hi : vp_in i len)  (kk : vJ Y fr lo nE sx (pc + 1) ls (.int (m.1 a i.toNatClampNeg) :: st) n sh m P) : vJ Y fr lo nE sx pc ls (.int i :: .ref a :: st) n sh m P := by
  intro p l e R s mi args below meth c D K ad A H0 H locs cells slots Cm Sm Q la hC hD hl hR
  obtain ⟨hx, hb, hml, hown, hts, hrt, hlk, hinit, hfr, hlo, hK, hXt⟩ := id hC
  have he : (wld K ad sh m n)[a]? = some (ad a, .inl (K 1, len, .inl (m.1 a))) := by rw [wld_get ha, hs]; rfl
  exact va_zald hx hb hK hD.1 a 1 he rfl hi hd (kk p l e R s mi args below meth c D K ad A H0 H locs cells slots Cm Sm Q la hC hD hl hR)
theorem vJ.lald {a len : Nat} {cs : Nat → Nat} {i : Int32} (hd : decode Y.2.1 pc = .ok (.laload, 1)) (hs : sh a = (2, len, cs)) (ha : a < n) (hi : vp_in i len)  (kk : vJ Y fr lo nE sx (pc + 1) ls (.long (m.2 a i.toNatClampNeg) :: st) n sh m P) : vJ Y fr lo nE sx pc ls (.int i :: .ref a :: st) n sh m P := by
  intro p l e R s mi args below meth c D K ad A H0 H locs cells slots Cm Sm Q la hC hD hl hR
  obtain ⟨hx, hb, hml, hown, hts, hrt, hlk, hinit, hfr, hlo, hK, hXt⟩ := id hC
  have he : (wld K ad sh m n)[a]? = some (ad a, .inl (K 2, len, .inr (.inl (m.2 a)))) := by rw [wld_get ha, hs]; rfl
  exact va_lald hx hb hK hD.1 a 2 he rfl hi hd (kk p l e R s mi args below meth c D K ad A H0 H locs cells slots Cm Sm Q la hC hD hl hR)
theorem vJ.aaldS {a len j : Nat} {cs : Nat → Nat} {i : Int32} (hd : decode Y.2.1 pc = .ok (.aaload, 1)) (hs : sh a = (3, len, cs)) (ha : a < n) (hi : vp_in i len) (hcs : cs i.toNatClampNeg = j + 2) (kk : vJ Y fr lo nE sx (pc + 1) ls (.ref j :: st) n sh m P) : vJ Y fr lo nE sx pc ls (.int i :: .ref a :: st) n sh m P := by
  intro p l e R s mi args below meth c D K ad A H0 H locs cells slots Cm Sm Q la hC hD hl hR
  obtain ⟨hx, hb, hml, hown, hts, hrt, hlk, hinit, hfr, hlo, hK, hXt⟩ := id hC
  have he : (wld K ad sh m n)[a]? = some (ad a, .inl (K 3, len, .inr (.inr (.inr (.inr (fun j => vrq ad (cs j))))))) := by rw [wld_get ha, hs]; rfl
  refine va_aldq hx hb hK hD.1 a 3 he rfl hi hd ?_
  show W p l e R s mi args below meth c H locs cells slots Q (F0 mi (pc + 1) la (va_rf (vrq ad (cs i.toNatClampNeg)) :: st.map (vtr ad)))
  rw [hcs]
  exact kk p l e R s mi args below meth c D K ad A H0 H locs cells slots Cm Sm Q la hC hD hl hR
theorem vJ.aald5 {a len j : Nat} {cs : Nat → Nat} {i : Int32} (hd : decode Y.2.1 pc = .ok (.aaload, 1)) (hs : sh a = (5, len, cs)) (ha : a < n) (hi : vp_in i len) (hcs : cs i.toNatClampNeg = j + 2) (kk : vJ Y fr lo nE sx (pc + 1) ls (.ref j :: st) n sh m P) : vJ Y fr lo nE sx pc ls (.int i :: .ref a :: st) n sh m P := by
  intro p l e R s mi args below meth c D K ad A H0 H locs cells slots Cm Sm Q la hC hD hl hR
  obtain ⟨hx, hb, hml, hown, hts, hrt, hlk, hinit, hfr, hlo, hK, hXt⟩ := id hC
  have he : (wld K ad sh m n)[a]? = some (ad a, .inl (K 4, len, .inr (.inr (.inr (.inr (fun j => vrq ad (cs j))))))) := by rw [wld_get ha, hs]; rfl
  have hlt : i.toNatClampNeg < len := Nat.not_le.mp fun q => hi (Or.inr q)
  refine W.aald (v := va_rf (vrq ad (cs i.toNatClampNeg))) (ty := .array .int) hx hb (hD.1 a _ he) ((hK.2 4 _ rfl).1 len (fun j => va_rf (vrq ad (cs j)))) rfl (fun q => by cases q) (by show ¬ (i < 0 ∨ (arrV _ _ _).slots.size ≤ _); rw [arrV_size]; exact hi) (by show (arrV _ _ _).slots[_]? = _; rw [arrV_read _ _ hlt]) rfl rfl hd ?_
  show W p l e R s mi args below meth c H locs cells slots Q (F0 mi (pc + 1) la (va_rf (vrq ad (cs i.toNatClampNeg)) :: st.map (vtr ad)))
  rw [hcs]
  exact kk p l e R s mi args below meth c D K ad A H0 H locs cells slots Cm Sm Q la hC hD hl hR
theorem vJ.aaldD0 {a len : Nat} {cs : Nat → Nat} {i : Int32} (hd : decode Y.2.1 pc = .ok (.aaload, 1)) (hs : sh a = (4, len, cs)) (ha : a < n) (hi : vp_in i len) (hv : m.1 a i.toNatClampNeg = 0) (kk : vJ Y fr lo nE sx (pc + 1) ls (.null :: st) n sh m P) : vJ Y fr lo nE sx pc ls (.int i :: .ref a :: st) n sh m P := by
  intro p l e R s mi args below meth c D K ad A H0 H locs cells slots Cm Sm Q la hC hD hl hR
  obtain ⟨hx, hb, hml, hown, hts, hrt, hlk, hinit, hfr, hlo, hK, hXt⟩ := id hC
  have he : (wld K ad sh m n)[a]? = some (ad a, .inl (K 3, len, .inr (.inr (.inr (.inr (fun j => vdq ad (m.1 a j))))))) := by rw [wld_get ha, hs]; rfl
  refine va_aldq hx hb hK hD.1 a 3 he rfl hi hd ?_
  show W p l e R s mi args below meth c H locs cells slots Q (F0 mi (pc + 1) la (va_rf (vdq ad (m.1 a i.toNatClampNeg)) :: st.map (vtr ad)))
  rw [show vdq ad (m.1 a i.toNatClampNeg) = none by unfold vdq; rw [if_pos hv]]
  exact kk p l e R s mi args below meth c D K ad A H0 H locs cells slots Cm Sm Q la hC hD hl hR
theorem vJ.aaldD1 {a len j : Nat} {cs : Nat → Nat} {i : Int32} (hd : decode Y.2.1 pc = .ok (.aaload, 1)) (hs : sh a = (4, len, cs)) (ha : a < n) (hi : vp_in i len) (hv : ¬ m.1 a i.toNatClampNeg = 0) (hj : (m.1 a i.toNatClampNeg).toNatClampNeg - 1 = j) (kk : vJ Y fr lo nE sx (pc + 1) ls (.ref j :: st) n sh m P) : vJ Y fr lo nE sx pc ls (.int i :: .ref a :: st) n sh m P := by
  intro p l e R s mi args below meth c D K ad A H0 H locs cells slots Cm Sm Q la hC hD hl hR
  obtain ⟨hx, hb, hml, hown, hts, hrt, hlk, hinit, hfr, hlo, hK, hXt⟩ := id hC
  have he : (wld K ad sh m n)[a]? = some (ad a, .inl (K 3, len, .inr (.inr (.inr (.inr (fun j => vdq ad (m.1 a j))))))) := by rw [wld_get ha, hs]; rfl
  refine va_aldq hx hb hK hD.1 a 3 he rfl hi hd ?_
  show W p l e R s mi args below meth c H locs cells slots Q (F0 mi (pc + 1) la (va_rf (vdq ad (m.1 a i.toNatClampNeg)) :: st.map (vtr ad)))
  rw [show vdq ad (m.1 a i.toNatClampNeg) = some (ad j) by unfold vdq; rw [if_neg hv, hj]]
  exact kk p l e R s mi args below meth c D K ad A H0 H locs cells slots Cm Sm Q la hC hD hl hR
theorem vJ.alen0 {a len : Nat} {cs : Nat → Nat} {v : Int32} (hd : decode Y.2.1 pc = .ok (.arraylength, 1)) (hs : sh a = (0, len, cs)) (ha : a < n) (hv : Int32.ofNat len = v) (kk : vJ Y fr lo nE sx (pc + 1) ls (.int v :: st) n sh m P) : vJ Y fr lo nE sx pc ls (.ref a :: st) n sh m P := by
  intro p l e R s mi args below meth c D K ad A H0 H locs cells slots Cm Sm Q la hC hD hl hR
  obtain ⟨hx, hb, hml, hown, hts, hrt, hlk, hinit, hfr, hlo, hK, hXt⟩ := id hC
  have he : (wld K ad sh m n)[a]? = some (ad a, .inl (K 0, len, .inl (m.1 a))) := by rw [wld_get ha, hs]; rfl
  exact va_alen hx hb hK hD.1 a 0 he rfl hv hd (kk p l e R s mi args below meth c D K ad A H0 H locs cells slots Cm Sm Q la hC hD hl hR)
theorem vJ.alen3 {a len : Nat} {cs : Nat → Nat} {v : Int32} (hd : decode Y.2.1 pc = .ok (.arraylength, 1)) (hs : sh a = (3, len, cs)) (ha : a < n) (hv : Int32.ofNat len = v) (kk : vJ Y fr lo nE sx (pc + 1) ls (.int v :: st) n sh m P) : vJ Y fr lo nE sx pc ls (.ref a :: st) n sh m P := by
  intro p l e R s mi args below meth c D K ad A H0 H locs cells slots Cm Sm Q la hC hD hl hR
  obtain ⟨hx, hb, hml, hown, hts, hrt, hlk, hinit, hfr, hlo, hK, hXt⟩ := id hC
  have he : (wld K ad sh m n)[a]? = some (ad a, .inl (K 3, len, .inr (.inr (.inr (.inr (fun j => vrq ad (cs j))))))) := by rw [wld_get ha, hs]; rfl
  exact va_alen hx hb hK hD.1 a 3 he rfl hv hd (kk p l e R s mi args below meth c D K ad A H0 H locs cells slots Cm Sm Q la hC hD hl hR)
theorem vJ.alen4 {a len : Nat} {cs : Nat → Nat} {v : Int32} (hd : decode Y.2.1 pc = .ok (.arraylength, 1)) (hs : sh a = (4, len, cs)) (ha : a < n) (hv : Int32.ofNat len = v) (kk : vJ Y fr lo nE sx (pc + 1) ls (.int v :: st) n sh m P) : vJ Y fr lo nE sx pc ls (.ref a :: st) n sh m P := by
  intro p l e R s mi args below meth c D K ad A H0 H locs cells slots Cm Sm Q la hC hD hl hR
  obtain ⟨hx, hb, hml, hown, hts, hrt, hlk, hinit, hfr, hlo, hK, hXt⟩ := id hC
  have he : (wld K ad sh m n)[a]? = some (ad a, .inl (K 3, len, .inr (.inr (.inr (.inr (fun j => vdq ad (m.1 a j))))))) := by rw [wld_get ha, hs]; rfl
  exact va_alen hx hb hK hD.1 a 3 he rfl hv hd (kk p l e R s mi args below meth c D K ad A H0 H locs cells slots Cm Sm Q la hC hD hl hR)
theorem vJ.iast {a len : Nat} {cs : Nat → Nat} {i x : Int32} (hd : decode Y.2.1 pc = .ok (.iastore, 1)) (hs : sh a = (0, len, cs)) (ha : a < n) (hi : vp_in i len) (kk : vJ Y fr lo nE sx (pc + 1) ls st n sh (upI m a i.toNatClampNeg x) P) : vJ Y fr lo nE sx pc ls (.int x :: .int i :: .ref a :: st) n sh m P := by
  intro p l e R s mi args below meth c D K ad A H0 H locs cells slots Cm Sm Q la hC hD hl hR
  obtain ⟨hx, hb, hml, hown, hts, hrt, hlk, hinit, hfr, hlo, hK, hXt⟩ := id hC
  obtain ⟨hP, hDd, hS, hA, hB, hn, hc1, hs1, hc2, hs2, hsx⟩ := id hD
  have he : (wld K ad sh m n)[a]? = some (ad a, .inl (K 0, len, .inl (m.1 a))) := by rw [wld_get ha, hs]; rfl
  refine va_iast hx hb hK hP hDd hS a 0 he rfl hi hd (fun H1 locs1 hP1 hD1 hS1 => ?_)
  have e9 : (wld K ad sh m n).set a (ad a, .inl (K 0, len, .inl (upd (m.1 a) i.toNatClampNeg x))) = wld K ad sh (upI m a i.toNatClampNeg x) n := by
    refine wld_set ha ?_ (fun j hj => ⟨rfl, upI_o m a _ j x hj, rfl⟩)
    rw [hs]
    show _ = Sum.inl (K 0, len, Sum.inl ((upI m a i.toNatClampNeg x).1 a))
    simp [upI]
  rw [e9] at hP1 hD1
  exact kk p l e R s mi args below meth c D K ad A H0 H1 locs1 cells slots Cm Sm Q la hC ⟨hP1, hD1, hS1, hA, vRB_upI hB (fun h4 => by rw [hs] at h4; exact absurd h4 (by show ¬ (0 : Nat) = 4; omega)), hn, hc1, hs1, hc2, hs2, hsx⟩ hl hR
theorem vJ.zast {a len : Nat} {cs : Nat → Nat} {i x : Int32} (hd : decode Y.2.1 pc = .ok (.bastore, 1)) (hs : sh a = (1, len, cs)) (ha : a < n) (hi : vp_in i len) (hx0 : vp_nar .boolean x = x) (kk : vJ Y fr lo nE sx (pc + 1) ls st n sh (upI m a i.toNatClampNeg x) P) : vJ Y fr lo nE sx pc ls (.int x :: .int i :: .ref a :: st) n sh m P := by
  intro p l e R s mi args below meth c D K ad A H0 H locs cells slots Cm Sm Q la hC hD hl hR
  obtain ⟨hx, hb, hml, hown, hts, hrt, hlk, hinit, hfr, hlo, hK, hXt⟩ := id hC
  obtain ⟨hP, hDd, hS, hA, hB, hn, hc1, hs1, hc2, hs2, hsx⟩ := id hD
  have he : (wld K ad sh m n)[a]? = some (ad a, .inl (K 1, len, .inl (m.1 a))) := by rw [wld_get ha, hs]; rfl
  refine va_zast hx hb hK hP hDd hS a 1 he rfl hi hd (fun H1 locs1 hP1 hD1 hS1 => ?_)
  rw [hx0] at hP1 hD1
  have e9 : (wld K ad sh m n).set a (ad a, .inl (K 1, len, .inl (upd (m.1 a) i.toNatClampNeg x))) = wld K ad sh (upI m a i.toNatClampNeg x) n := by
    refine wld_set ha ?_ (fun j hj => ⟨rfl, upI_o m a _ j x hj, rfl⟩)
    rw [hs]
    show _ = Sum.inl (K 1, len, Sum.inl ((upI m a i.toNatClampNeg x).1 a))
    simp [upI]
  rw [e9] at hP1 hD1
  exact kk p l e R s mi args below meth c D K ad A H0 H1 locs1 cells slots Cm Sm Q la hC ⟨hP1, hD1, hS1, hA, vRB_upI hB (fun h4 => by rw [hs] at h4; exact absurd h4 (by show ¬ (1 : Nat) = 4; omega)), hn, hc1, hs1, hc2, hs2, hsx⟩ hl hR
theorem vJ.last {a len : Nat} {cs : Nat → Nat} {i : Int32} {x : Int64} (hd : decode Y.2.1 pc = .ok (.lastore, 1)) (hs : sh a = (2, len, cs)) (ha : a < n) (hi : vp_in i len) (kk : vJ Y fr lo nE sx (pc + 1) ls st n sh (upL m a i.toNatClampNeg x) P) : vJ Y fr lo nE sx pc ls (.long x :: .int i :: .ref a :: st) n sh m P := by
  intro p l e R s mi args below meth c D K ad A H0 H locs cells slots Cm Sm Q la hC hD hl hR
  obtain ⟨hx, hb, hml, hown, hts, hrt, hlk, hinit, hfr, hlo, hK, hXt⟩ := id hC
  obtain ⟨hP, hDd, hS, hA, hB, hn, hc1, hs1, hc2, hs2, hsx⟩ := id hD
  have he : (wld K ad sh m n)[a]? = some (ad a, .inl (K 2, len, .inr (.inl (m.2 a)))) := by rw [wld_get ha, hs]; rfl
  refine va_last hx hb hK hP hDd hS a 2 he rfl hi hd (fun H1 locs1 hP1 hD1 hS1 => ?_)
  have e9 : (wld K ad sh m n).set a (ad a, .inl (K 2, len, .inr (.inl (vp_updL (m.2 a) i.toNatClampNeg x)))) = wld K ad sh (upL m a i.toNatClampNeg x) n := by
    refine wld_set ha ?_ (fun j hj => ⟨rfl, rfl, by simp [upL, hj]⟩)
    rw [hs]
    show _ = Sum.inl (K 2, len, Sum.inr (Sum.inl ((upL m a i.toNatClampNeg x).2 a)))
    simp [upL]
  rw [e9] at hP1 hD1
  exact kk p l e R s mi args below meth c D K ad A H0 H1 locs1 cells slots Cm Sm Q la hC ⟨hP1, hD1, hS1, hA, vRB_of1 hB (fun k _ => rfl), hn, hc1, hs1, hc2, hs2, hsx⟩ hl hR
theorem vdq_some {ad : Nat → Nat} {v : Nat} (h : v < 1000000) : vdq ad (nI (v + 1)) = some (ad v) := by
  unfold vdq
  rw [if_neg (nI_ne0 (by omega) (by omega)), nI_clamp (by omega)]
  rfl
theorem vJ.aastD {a len v cN : Nat} {cs cv : Nat → Nat} {i : Int32} (hd : decode Y.2.1 pc = .ok (.aastore, 1)) (hs : sh a = (4, len, cs)) (ha : a < n) (hv : v < n) (hn0 : v < 1000000) (hsv : sh v = (6, cN, cv)) (hi : vp_in i len) (kk : vJ Y fr lo nE sx (pc + 1) ls st n sh (upI m a i.toNatClampNeg (nI (v + 1))) P) : vJ Y fr lo nE sx pc ls (.ref v :: .int i :: .ref a :: st) n sh m P := by
  intro p l e R s mi args below meth c D K ad A H0 H locs cells slots Cm Sm Q la hC hD hl hR
  obtain ⟨hx, hb, hml, hown, hts, hrt, hlk, hinit, hfr, hlo, hK, hXt⟩ := id hC
  obtain ⟨hP, hDd, hS, hA, hB, hn, hc1, hs1, hc2, hs2, hsx⟩ := id hD
  have he : (wld K ad sh m n)[a]? = some (ad a, .inl (K 3, len, .inr (.inr (.inr (.inr (fun j => vdq ad (m.1 a j))))))) := by rw [wld_get ha, hs]; rfl
  have hev : (wld K ad sh m n)[v]? = some (ad v, .inr (0, (List.range cN).map (fun j => vsl ad (cv j) (m.1 v j)))) := by rw [wld_get hv, hsv]; rfl
  refine va_astq hx hb hK hP hDd hS a 3 v 0 (r := (RX0, TX0, 11)) he rfl hev rfl hi hd (fun H1 locs1 hP1 hD1 hS1 => ?_)
  have e9 : (wld K ad sh m n).set a (ad a, .inl (K 3, len, .inr (.inr (.inr (.inr (va_up (fun j => vdq ad (m.1 a j)) i.toNatClampNeg (some (ad v)))))))) = wld K ad sh (upI m a i.toNatClampNeg (nI (v + 1))) n := by
    refine wld_set ha ?_ (fun j hj => ⟨rfl, upI_o m a _ j _ hj, rfl⟩)
    rw [hs]
    show _ = Sum.inl (K 3, len, Sum.inr (Sum.inr (Sum.inr (Sum.inr (fun j => vdq ad ((upI m a i.toNatClampNeg (nI (v + 1))).1 a j))))))
    have e7 : va_up (fun j => vdq ad (m.1 a j)) i.toNatClampNeg (some (ad v)) = fun j => vdq ad ((upI m a i.toNatClampNeg (nI (v + 1))).1 a j) := by
      funext j
      rw [upI_r]
      by_cases hj : j = i.toNatClampNeg
      · simp [va_up, hj, vdq_some hn0]
      · simp [va_up, hj]
    rw [e7]
  rw [e9] at hP1 hD1
  exact kk p l e R s mi args below meth c D K ad A H0 H1 locs1 cells slots Cm Sm Q la hC ⟨hP1, hD1, hS1, hA, vRB_upI hB (fun _ => Or.inr (by rw [nI_clamp (by omega)]; omega)), hn, hc1, hs1, hc2, hs2, hsx⟩ hl hR
theorem vJ.aastS {a len v cN : Nat} {cs cv : Nat → Nat} {i : Int32} (hd : decode Y.2.1 pc = .ok (.aastore, 1)) (hs : sh a = (3, len, cs)) (ha : a < n) (hv : v < n) (hsv : sh v = (6, cN, cv)) (hi : vp_in i len) (kk : vJ Y fr lo nE sx (pc + 1) ls st n (upS sh a (setC (sh a) i.toNatClampNeg (v + 2))) m P) : vJ Y fr lo nE sx pc ls (.ref v :: .int i :: .ref a :: st) n sh m P := by
  intro p l e R s mi args below meth c D K ad A H0 H locs cells slots Cm Sm Q la hC hD hl hR
  obtain ⟨hx, hb, hml, hown, hts, hrt, hlk, hinit, hfr, hlo, hK, hXt⟩ := id hC
  obtain ⟨hP, hDd, hS, hA, hB, hn, hc1, hs1, hc2, hs2, hsx⟩ := id hD
  have he : (wld K ad sh m n)[a]? = some (ad a, .inl (K 3, len, .inr (.inr (.inr (.inr (fun j => vrq ad (cs j))))))) := by rw [wld_get ha, hs]; rfl
  have hev : (wld K ad sh m n)[v]? = some (ad v, .inr (0, (List.range cN).map (fun j => vsl ad (cv j) (m.1 v j)))) := by rw [wld_get hv, hsv]; rfl
  refine va_astq hx hb hK hP hDd hS a 3 v 0 (r := (RX0, TX0, 11)) he rfl hev rfl hi hd (fun H1 locs1 hP1 hD1 hS1 => ?_)
  have e9 : (wld K ad sh m n).set a (ad a, .inl (K 3, len, .inr (.inr (.inr (.inr (va_up (fun j => vrq ad (cs j)) i.toNatClampNeg (some (ad v)))))))) = wld K ad (upS sh a (setC (sh a) i.toNatClampNeg (v + 2))) m n := by
    refine wld_set ha ?_ (fun j hj => ⟨by simp [upS, hj], rfl, rfl⟩)
    have e8 : upS sh a (setC (sh a) i.toNatClampNeg (v + 2)) a = (3, len, fun j => if j = i.toNatClampNeg then v + 2 else cs j) := by
      simp [upS, setC, hs]
    rw [e8]
    show _ = Sum.inl (K 3, len, Sum.inr (Sum.inr (Sum.inr (Sum.inr (fun j => vrq ad (if j = i.toNatClampNeg then v + 2 else cs j))))))
    have e7 : va_up (fun j => vrq ad (cs j)) i.toNatClampNeg (some (ad v)) = fun j => vrq ad (if j = i.toNatClampNeg then v + 2 else cs j) := by
      funext j
      by_cases hj : j = i.toNatClampNeg
      · simp [va_up, hj, vrq]
      · simp [va_up, hj]
    rw [e7]
  rw [e9] at hP1 hD1
  exact kk p l e R s mi args below meth c D K ad A H0 H1 locs1 cells slots Cm Sm Q la hC ⟨hP1, hD1, hS1, hA, vRB_upS hB (fun x h => by omega), hn, hc1, hs1, hc2, hs2, hsx⟩ hl hR
theorem vJ.acopy {index a a0 len len0 : Nat} {cs cs0 : Nat → Nat} {sp dp q : Int32} (hd : decode Y.2.1 pc = .ok (.invokestatic index, 3)) (hs : sh a = (0, len, cs)) (hs0 : sh a0 = (0, len0, cs0)) (ha : a < n) (ha0 : a0 < n) (h1 : ¬ sp < 0) (h2 : ¬ dp < 0) (h3 : ¬ q < 0) (h4 : sp.toNatClampNeg + q.toNatClampNeg ≤ len0) (h5 : dp.toNatClampNeg + q.toNatClampNeg ≤ len) (hw : Cond.methodLink Y.1.cls index arraycopyName ∈ vtb) (hw2 : Cond.native arraycopyName ∈ vtb) (hw3 : Cond.static arraycopyName ∈ vtb) (hw4 : Cond.initialized "java/lang/System" ∈ vtb) (hf : 1 ≤ fr) (ho : vcat st + (nativeFrameWords "java/lang/System" "arraycopy" 5 + 11) ≤ lo) (kk : vJ Y fr lo nE sx (pc + 3) ls st n sh (upA m a (va_cpy (m.1 a0) (m.1 a) sp.toNatClampNeg dp.toNatClampNeg q.toNatClampNeg)) P) : vJ Y fr lo nE sx pc ls (.int q :: .int dp :: .ref a :: .int sp :: .ref a0 :: st) n sh m P := by
  intro p l e R s mi args below meth c D K ad A H0 H locs cells slots Cm Sm Q la hC hD hl hR
  obtain ⟨hx, hb, hml, hown, hts, hrt, hlk, hinit, hfr, hlo, hK, hXt⟩ := id hC
  obtain ⟨hP, hDd, hS, hA, hB, hn, hc1, hs1, hc2, hs2, hsx⟩ := id hD
  have he : (wld K ad sh m n)[a]? = some (ad a, .inl (K 0, len, .inl (m.1 a))) := by rw [wld_get ha, hs]; rfl
  have he0 : (wld K ad sh m n)[a0]? = some (ad a0, .inl (K 0, len0, .inl (m.1 a0))) := by rw [wld_get ha0, hs0]; rfl
  refine va_copyi hx hb (hml.trans hl.1.symm) hown (hts _ hw) (hts _ hw2) (hts _ hw3) (hts _ hw4) hK hP hDd hS a0 a 0 0 he0 he rfl rfl rfl h1 h2 h3 h4 h5 (fun i _ => rfl) (by omega) (by rw [vcat_tr]; omega) hd (fun H1 locs1 hP1 hD1 hS1 => ?_)
  have e9 : (wld K ad sh m n).set a (ad a, .inl (K 0, len, .inl (va_cpy (m.1 a0) (m.1 a) sp.toNatClampNeg dp.toNatClampNeg q.toNatClampNeg))) = wld K ad sh (upA m a (va_cpy (m.1 a0) (m.1 a) sp.toNatClampNeg dp.toNatClampNeg q.toNatClampNeg)) n := by
    refine wld_set ha ?_ (fun j hj => ⟨rfl, by simp [upA, hj], rfl⟩)
    rw [hs]
    show _ = Sum.inl (K 0, len, Sum.inl ((upA m a _).1 a))
    simp [upA]
  rw [e9] at hP1 hD1
  exact kk p l e R s mi args below meth c D K ad A H0 H1 locs1 cells slots Cm Sm Q la hC ⟨hP1, hD1, hS1, hA, vRB_of1 hB (fun k h4 => by
    have : k ≠ a := fun q => by rw [q, hs] at h4; exact absurd h4 (by show ¬ (0 : Nat) = 4; omega)
    simp [upA, this]), hn, hc1, hs1, hc2, hs2, hsx⟩ hl hR
theorem vJ.mmax {index : Nat} {x y : Int32} (hd : decode Y.2.1 pc = .ok (.invokestatic index, 3)) (hw : Cond.methodLink Y.1.cls index Lib.Math.max.name ∈ vtb) (hw2 : Cond.static Lib.Math.max.name ∈ vtb) (hw3 : Cond.initialized "java/lang/Math" ∈ vtb) (hw4 : Cond.code Lib.Math.max.name Lib.Math.max.code 2 (some .int) ∈ vtb) (hf : 1 ≤ fr) (ho : vcat st + 13 ≤ lo) (kk : vJ Y fr lo nE sx (pc + 3) ls (.int (if x < y then y else x) :: st) n sh m P) : vJ Y fr lo nE sx pc ls (.int y :: .int x :: st) n sh m P := by
  intro p l e R s mi args below meth c D K ad A H0 H locs cells slots Cm Sm Q la hC hD hl hR
  obtain ⟨hx, hb, hml, hown, hts, hrt, hlk, hinit, hfr, hlo, hK, hXt⟩ := id hC
  obtain ⟨hP, hDd, hS, hA, hB, hn, hc1, hs1, hc2, hs2, hsx⟩ := id hD
  exact va_mmax hx hb (hml.trans hl.1.symm) hown (hts _ hw) (hts _ hw2) (hts _ hw3) (hts _ hw4) (by omega) (by rw [vcat_tr]; omega) (by omega) (by omega) hd (kk p l e R s mi args below meth c D K ad A H0 H locs cells slots Cm Sm Q la hC hD hl hR)
theorem vJ.mmin {index : Nat} {x y : Int32} (hd : decode Y.2.1 pc = .ok (.invokestatic index, 3)) (hw : Cond.methodLink Y.1.cls index Lib.Math.min.name ∈ vtb) (hw2 : Cond.static Lib.Math.min.name ∈ vtb) (hw3 : Cond.initialized "java/lang/Math" ∈ vtb) (hw4 : Cond.code Lib.Math.min.name Lib.Math.min.code 2 (some .int) ∈ vtb) (hf : 1 ≤ fr) (ho : vcat st + 13 ≤ lo) (kk : vJ Y fr lo nE sx (pc + 3) ls (.int (if y < x then y else x) :: st) n sh m P) : vJ Y fr lo nE sx pc ls (.int y :: .int x :: st) n sh m P := by
  intro p l e R s mi args below meth c D K ad A H0 H locs cells slots Cm Sm Q la hC hD hl hR
  obtain ⟨hx, hb, hml, hown, hts, hrt, hlk, hinit, hfr, hlo, hK, hXt⟩ := id hC
  obtain ⟨hP, hDd, hS, hA, hB, hn, hc1, hs1, hc2, hs2, hsx⟩ := id hD
  exact va_mmin hx hb (hml.trans hl.1.symm) hown (hts _ hw) (hts _ hw2) (hts _ hw3) (hts _ hw4) (by omega) (by rw [vcat_tr]; omega) (by omega) (by omega) hd (kk p l e R s mi args below meth c D K ad A H0 H locs cells slots Cm Sm Q la hC hD hl hR)
theorem vJ.objInit {index a : Nat} (hd : decode Y.2.1 pc = .ok (.invokespecial index, 3)) (hw : Cond.methodLink Y.1.cls index objectInit ∈ vtb) (hw2 : Cond.instanceMethod objectInit ∈ vtb) (hw3 : Cond.code objectInit ⟨#[0xb1]⟩ 1 none ∈ vtb) (hf : 1 ≤ fr) (ho : vcat st + 12 ≤ lo) (kk : vJ Y fr lo nE sx (pc + 3) ls st n sh m P) : vJ Y fr lo nE sx pc ls (.ref a :: st) n sh m P := by
  intro p l e R s mi args below meth c D K ad A H0 H locs cells slots Cm Sm Q la hC hD hl hR
  obtain ⟨hx, hb, hml, hown, hts, hrt, hlk, hinit, hfr, hlo, hK, hXt⟩ := id hC
  refine W.objInit hx hb hown (hts _ hw) (hts _ hw2) (hts _ hw3) rfl (by show la.size = _; rw [hml]; exact hl.1) rfl hd (by omega) ?_ (kk p l e R s mi args below meth c D K ad A H0 H locs cells slots Cm Sm Q la hC hD hl hR)
  have h9 := lv_room (m := mi) (pc := pc) (ls := la) (rest := st.map (vtr ad)) (st := []) (by simp)
  have h8 := vcat_tr ad st
  show 2 * (F0 mi pc la ((Value.ref (ad a)) :: st.map (vtr ad))).monitorRoom + _ + 12 ≤ _
  have h7 : (F0 mi pc la ((Value.ref (ad a)) :: st.map (vtr ad))).monitorRoom = 0 := rfl
  rw [h7, h8]
  omega
theorem vJ.ireturn {x : Int32} {ty : FieldType} (hd : decode Y.2.1 pc = .ok (.ireturn, 1)) (hr : Y.2.2.2 = some ty) (hnr : narrow ty (.int x) = .int x) (hE : nE = n) (hp : P (some (.int x)) sh m) : vJ Y fr lo nE sx pc ls [.int x] n sh m P := by
  intro p l e R s mi args below meth c D K ad A H0 H locs cells slots Cm Sm Q la hC hD hl hR
  subst hE
  exact hR (some (.int x)) sh m ad H locs cells slots la pc (Or.inr (Or.inl ⟨x, rfl, hd, ty, hr, hnr⟩)) hp (fun _ _ => rfl) (fun _ => rfl) hD
theorem vJ.lreturn {x : Int64} (hd : decode Y.2.1 pc = .ok (.lreturn, 1)) (hr : Y.2.2.2 = some .long) (hE : nE = n) (hp : P (some (.long x)) sh m) : vJ Y fr lo nE sx pc ls [.long x] n sh m P := by
  intro p l e R s mi args below meth c D K ad A H0 H locs cells slots Cm Sm Q la hC hD hl hR
  subst hE
  exact hR (some (.long x)) sh m ad H locs cells slots la pc (Or.inr (Or.inr (Or.inl ⟨x, rfl, hd, hr⟩))) hp (fun _ _ => rfl) (fun _ => rfl) hD
theorem vJ.areturn {v : Value} {C : String} (hd : decode Y.2.1 pc = .ok (.areturn, 1)) (hr : Y.2.2.2 = some (.object C)) (hv : v = .null ∨ ∃ a, v = .ref a) (hE : nE = n) (hp : P (some v) sh m) : vJ Y fr lo nE sx pc ls [v] n sh m P := by
  intro p l e R s mi args below meth c D K ad A H0 H locs cells slots Cm Sm Q la hC hD hl hR
  subst hE
  exact hR (some v) sh m ad H locs cells slots la pc (Or.inr (Or.inr (Or.inr ⟨v, C, rfl, hd, hr, hv⟩))) hp (fun _ _ => rfl) (fun _ => rfl) hD
theorem vJ.vreturn (hd : decode Y.2.1 pc = .ok (.return_, 1)) (hr : Y.2.2.2 = none) (hE : nE = n) (hp : P none sh m) : vJ Y fr lo nE sx pc ls [] n sh m P := by
  intro p l e R s mi args below meth c D K ad A H0 H locs cells slots Cm Sm Q la hC hD hl hR
  subst hE
  exact hR none sh m ad H locs cells slots la pc (Or.inl ⟨rfl, hd, hr⟩) hp (fun _ _ => rfl) (fun _ => rfl) hD
theorem vJ.sld {L : Nat} {xs : Nat → Int32} {i : Int32} (hsx0 : sx = some (L, xs)) (hd : decode Y.2.1 pc = .ok (.iaload, 1)) (hi : vp_in i L) (kk : vJ Y fr lo nE sx (pc + 1) ls (.int (xs i.toNatClampNeg) :: st) n sh m P) : vJ Y fr lo nE sx pc ls (.int i :: .ref vsN :: st) n sh m P := by
  intro p l e R s mi args below meth c D K ad A H0 H locs cells slots Cm Sm Q la hC hD hl hR
  obtain ⟨hx, hb, hml, hown, hts, hrt, hlk, hinit, hfr, hlo, hK, hXt⟩ := id hC
  obtain ⟨hP, hDd, hS, hA, hB, hn, hc1, hs1, hc2, hs2, hsx⟩ := id hD
  obtain ⟨h1, h2, h3⟩ := hsx L xs hsx0
  exact va_sld hx hb h1 h2 h3 hS hi hd (kk p l e R s mi args below meth c D K ad A H0 H locs cells slots Cm Sm Q la hC hD hl hR)
theorem vJ.slen {L : Nat} {xs : Nat → Int32} (hsx0 : sx = some (L, xs)) (hd : decode Y.2.1 pc = .ok (.arraylength, 1)) (kk : vJ Y fr lo nE sx (pc + 1) ls (.int (Int32.ofNat L) :: st) n sh m P) : vJ Y fr lo nE sx pc ls (.ref vsN :: st) n sh m P := by
  intro p l e R s mi args below meth c D K ad A H0 H locs cells slots Cm Sm Q la hC hD hl hR
  obtain ⟨hx, hb, hml, hown, hts, hrt, hlk, hinit, hfr, hlo, hK, hXt⟩ := id hC
  obtain ⟨hP, hDd, hS, hA, hB, hn, hc1, hs1, hc2, hs2, hsx⟩ := id hD
  obtain ⟨h1, h2, h3⟩ := hsx L xs hsx0
  exact va_slen hx hb h1 h2 h3 hS hd (kk p l e R s mi args below meth c D K ad A H0 H locs cells slots Cm Sm Q la hC hD hl hR)
end VM1
