def vws (Y : vMeth) : List Cond := .code Y.1 Y.2.1 Y.2.2.1 Y.2.2.2 :: vtb
def vQ (D : va_G) (K : Nat → ClassId) (ad : Nat → Nat) (n nE : Nat) (P : Option Value → vSh → vM → Prop) (A : Nat → Prop) : Array Value → State → Outcome → State → Prop := fun _ st oc t =>
  (∃ (r : Option Value) (ad' : Nat → Nat) (sh' : vSh) (m' : vM), oc = .returned (r.map (vtr ad')) ∧ P r sh' m' ∧ vRB nE sh' m' ∧ vAg n ad ad' ∧ (nE = n → ad' = ad) ∧ va_P D vwCl (wld K ad' sh' m' nE) t.heap ∧ va_K D vwCl (vtys K) t ∧ va_D A (wld K ad' sh' m' nE)) ∧ va_F A st t
def Ev (Y : vMeth) (fr lo nE : Nat) (as : List Value) (n : Nat) (sh : vSh) (m : vM) (P : Option Value → vSh → vM → Prop) : Prop :=
  n ≤ nE → vRB n sh m → ∀ (l : Launch) (D : va_G) (K : Nat → ClassId) (ad : Nat → Nat) (hs : Nat), Met l Y.1 (vws Y) { frames := fr, cells := nE - n, slots := vSZ nE - vSZ n, locals := lo }
    (va_Pc (as.map (vtr ad)) (fun U => U.heap.size = hs ∧ va_P D vwCl (wld K ad sh m n) U.heap ∧ va_K D vwCl (vtys K) U ∧ vXt U ∧ va_D (fun _ => True) (wld K ad sh m n)))
    (vQ D K ad n nE P (va_A (wld K ad sh m n) hs)) (nE - n) (vSZ nE - vSZ n) (va_A (wld K ad sh m n) hs)
theorem vQ.mono {D : va_G} {K : Nat → ClassId} {ad : Nat → Nat} {n nE : Nat} {P P' : Option Value → vSh → vM → Prop} {A : Nat → Prop} (h : ∀ r sh' m', P r sh' m' → P' r sh' m') : ∀ a st oc t, vQ D K ad n nE P A a st oc t → vQ D K ad n nE P' A a st oc t := by
  rintro a st oc t ⟨⟨r, ad', sh', m', h1, h2, h3⟩, h4⟩
  exact ⟨⟨r, ad', sh', m', h1, h r sh' m' h2, h3⟩, h4⟩
theorem lg_len (ad : Nat → Nat) (as : List Value) : (lg_sl (as.map (vtr ad))).length = (lg_sl as).length := by
  unfold lg_sl
  induction as with
  | nil => rfl
  | cons v t ih =>
    simp only [List.map_cons, List.flatMap_cons, List.length_append, ih, vtr_cat]
    split <;> rfl
theorem lv_args_tr (ad : Nat → Nat) (as : List Value) : ∀ i, lv_args i (as.map (vtr ad)) = vls ad (lv_args i as) := by
  induction as with
  | nil => intro i; rfl
  | cons v t ih =>
    intro i
    show (i, vtr ad v) :: lv_args (if (vtr ad v).category = 2 then i + 2 else i + 1) (t.map (vtr ad)) = _
    rw [ih, vtr_cat]
    rfl
theorem Ev.of {Y : vMeth} {fr lo nE : Nat} {as : List Value} {n : Nat} {sh : vSh} {m : vM} {P : Option Value → vSh → vM → Prop} (hcls : plainName Y.1.cls = true) (hlen : (lg_sl as).length ≤ Y.2.2.1) (h : vJ Y fr lo nE none 0 (lv_args 0 as) [] n sh m P) : Ev Y fr lo nE as n sh m P := by
  intro hn hB l D K ad hs
  refine Met.ofW (cc := Y.2.1) (maxL := Y.2.2.1) (ret := Y.2.2.2) hcls rfl ?_
  intro p e s mi args below meth c s₁ B hml hv
  obtain ⟨rfl, hsz, hP, hK, hXt, hD0⟩ := hv
  have hx := B.exec
  have hb := B.bytes
  have hr := B.returns
  have hts := atoms_spec (ws := vws Y) B.pre
  have hown : s.vm.findClass Y.1.cls = some mi.cls := findClass_of_methodNamed B.named
  have hlk : meth.locks = false := B.notSynchronized
  have hname : meth.name = Y.1.name := (name_of_methodNamed B.named B.method).1
  subst hsz
  have hD := hD0.self (sz := s.heap.size)
  rw [lg_entry_eq]
  have hl := lv_entry (as.map (vtr ad)) (n := Y.2.2.1) (by rw [lg_len]; exact hlen)
  rw [lv_args_tr] at hl
  generalize (lg_sl (as.map (vtr ad)) ++ List.replicate (Y.2.2.1 - (lg_sl (as.map (vtr ad))).length) Slot.unset).toArray = la at hl ⊢
  refine h p l e { frames := fr, cells := nE - n, slots := vSZ nE - vSZ n, locals := lo } s mi _ below meth c D K ad (va_A (wld K ad sh m n) s.heap.size) s.heap s.heap [] 0 0 (nE - n) (vSZ nE - vSZ n) _ la ⟨hx, hb, hml, hown, fun w hw => hts w (List.mem_cons_of_mem _ hw), hr, hlk, fun q => hname.trans q, Nat.le_refl _, Nat.le_refl _, hK, hXt⟩ ⟨hP, hD, va_S.rf, fun q hq => Or.inr hq, hB, hn, by omega, by omega, Nat.le_refl _, Nat.le_refl _, fun L xs q => by cases q⟩ hl ?_
  intro r sh' m' ad' H' locs' cells' slots' la' pc' hret hp hag hne hDy
  obtain ⟨hP', hDd', hS', hA', hB', hn', hc1, hs1, hc2, hs2, -⟩ := hDy
  refine W.widen (k := nE - n) (n := vSZ nE - vSZ n) (by omega) (by omega) ?_
  have hq : ∀ t : State, t.heap = H' → s.WarmedH t.vm → vQ D K ad n nE P (va_A (wld K ad sh m n) s.heap.size) (as.map (vtr ad)).toArray s (.returned (r.map (vtr ad'))) t := fun t ht hW => ⟨⟨r, ad', sh', m', rfl, hp, hB', hag, hne, by rw [ht]; exact hP', va_K.moved hW.alike hK, hDd'⟩, hS'.F ht⟩
  rcases hret with ⟨rfl, hd, hty⟩ | ⟨x, rfl, hd, ty, hty, hnr⟩ | ⟨x, rfl, hd, hty⟩ | ⟨v, C, rfl, hd, hty, hv⟩
  · exact W.vret hx hb (hr.trans hty) hq hS'.2.2 hd
  · exact W.zret hx hb (hr.trans hty) hnr hq hS'.2.2 hd
  · exact W.lret hx hb (hr.trans hty) hq hS'.2.2 hd
  · refine W.aret (v := vtr ad' v) hx hb (hr.trans hty) (Or.inl ⟨C, rfl⟩) ?_ hq hS'.2.2 hd
    rcases hv with rfl | ⟨a, rfl⟩
    · exact Or.inl rfl
    · exact Or.inr ⟨_, rfl⟩
theorem tbl_good : ∀ w ∈ vtb, goodWord w = true := fun w h => (List.mem_filter.mp h).2
theorem vtb_in {w : Cond} (i : Nat) (h : lw_tbl[i]? = some w) (hg : goodWord w = true) : w ∈ vtb := List.mem_filter.mpr ⟨List.mem_of_getElem? h, hg⟩
theorem tbl_in {ws : List Cond} (h : ∀ w ∈ ws, w ∈ vtb) : GoodIn vtb ws := fun w hw => ⟨h w hw, good_of_word (tbl_good w (h w hw))⟩
theorem tbl_code {Y : vMeth} (h : Cond.code Y.1 Y.2.1 Y.2.2.1 Y.2.2.2 ∈ vtb) : GoodIn vtb (vws Y) := tbl_in (fun w hw => by
  rcases List.mem_cons.mp hw with rfl | q
  · exact h
  · exact q)
theorem vblind {D : va_G} {K : Nat → ClassId} {ad : Nat → Nat} {sh : vSh} {m : vM} {n hs : Nat} {av : List Value} : FrameBlind (va_Pc av (fun U => U.heap.size = hs ∧ va_P D vwCl (wld K ad sh m n) U.heap ∧ va_K D vwCl (vtys K) U ∧ vXt U ∧ va_D (fun _ => True) (wld K ad sh m n))) := fun a U g mk q => by
  obtain ⟨q0, q1, qP, qK, qX, qD⟩ := q
  exact ⟨q0, q1, qP, va_K.moved (u := U) (U := U.calling g mk a) (Vm.Alike.refl U.vm) qK, vXt.same (u := U) (U := U.calling g mk a) rfl qX, qD⟩
section VE1
variable {Y : vMeth} {fr lo nE : Nat} {sx : Option (Nat × (Nat → Int32))} {pc : Nat} {ls : List (Nat × Value)} {st : List Value} {n : Nat} {sh : vSh} {m : vM} {P : Option Value → vSh → vM → Prop}
theorem vRun_vJ {p : Program} {l : Launch} {e : Env} {R : Room} {s : State} {mi : MethodId} {args : Array Value} {below : List Frame} {meth : Method} {c : Code} {D : va_G} {K : Nat → ClassId} {ad : Nat → Nat} {A : Nat → Prop} {H0 H : Heap} {locs : List Loc} {cells slots Cm Sm : Nat} {Q : State → Prop} {la : Array Slot} {st0 : List Value} {a9 : Array Value} {n2 : Nat} (hn2 : n ≤ n2) (hnE : n2 ≤ nE) (hok : n2 = n ∨ vOK n ls st)
    (hC : vCx Y fr lo p R s mi args meth c D K) (hD : vDy sx D K ad sh m n nE A H0 H locs R cells slots Cm Sm s) (hl : lv_has la Y.2.2.1 (vls ad ls))
    (hR : ∀ (r : Option Value) (sh' : vSh) (m' : vM) (ad' : Nat → Nat) (H' : Heap) (locs' : List Loc) (cells' slots' : Nat) (la' : Array Slot) (pc' : Nat), vRet Y pc' r → P r sh' m' → vAg n ad ad' → (nE = n → ad' = ad) → vDy sx D K ad' sh' m' nE nE A H0 H' locs' R cells' slots' Cm Sm s → W p l e R s mi args below meth c H' locs' cells' slots' Q (F0 mi pc' la' (r.toList.map (vtr ad'))))
    (hr : va_Run p l e R s mi args below meth c H locs cells slots (n2 - n) (vSZ n2 - vSZ n) (F0 mi pc la st0) (st.map (vtr ad)) (vQ D K ad n n2 (fun r sh' m' => vJ Y fr lo nE sx (pc + 3) ls (r.toList ++ st) n2 sh' m' P) (va_A (wld K ad sh m n) H.size) a9) (va_A (wld K ad sh m n) H.size)) :
    W p l e R s mi args below meth c H locs cells slots Q (F0 mi pc la st0) := by
  obtain ⟨hP, hDd, hS, hA, hB, hn, hc1, hs1, hc2, hs2, hsx⟩ := hD
  have hfA : ∀ q, va_A (wld K ad sh m n) H.size q → A q := by
    intro q hq
    rcases hq with ⟨k, e9, hk⟩ | hq
    · exact hDd.2 k _ hk
    · exact hA q (Nat.le_trans hS.1 hq)
  intro T hT X
  obtain ⟨v, st₀, t, T', L, h0, X', hL, e1, e2, ⟨⟨r, ad', sh', m', hv, hp, hB', hag, hne, hP', hK', hD'⟩, hz, hk⟩, stp⟩ := hr T hT X
  cases hv
  rw [h0] at hz hk
  have hS' : va_S A H0 T'.heap (locs ++ L) := ⟨Nat.le_trans hS.1 (by rw [e1]; exact hz), fun q h1 h2 => by rw [e1, hk q (Nat.lt_of_lt_of_le h1 hS.1) (fun z => h2 (hfA q z))]; exact hS.2.1 q h1 h2, fun q hq => by
      rcases List.mem_append.mp hq with h | h
      · exact hS.2.2 q h
      · exact hfA _ (hL q h)⟩
  have hm1 := vSZ_mono hn2
  have hm2 := vSZ_mono hnE
  have hls : vls ad' ls = vls ad ls := by
    rcases hok with h | h
    · rw [hne h]
    · exact vls_ag hag h.1
  have hst : st.map (vtr ad') = st.map (vtr ad) := by
    rcases hok with h | h
    · rw [hne h]
    · exact vst_ag hag h.2
  have k1 := hp p l e R s mi args below meth c D K ad' A H0 T'.heap (locs ++ L) (cells + (n2 - n)) (slots + (vSZ n2 - vSZ n)) Cm Sm Q la hC ⟨by rw [e1]; exact hP', hD'.weaken (fun _ q _ h => hfA q.1 h), hS', hA, hB', hnE, by omega, by omega, hc2, hs2, fun L xs h => by rw [hag vsN (Or.inr rfl)]; exact hsx L xs h⟩ (by rw [hls]; exact hl) (fun r1 sh1 m1 ad2 H' locs' cells' slots' la' pc' h1 h2 h3 h4 h5 => hR r1 sh1 m1 ad2 H' locs' cells' slots' la' pc' h1 h2 (vAg_tr hag h3 hn2) (fun q => (h4 (by omega)).trans (hne (by omega))) h5)
  obtain ⟨t2, a1, b1⟩ := k1 T' rfl X'
  refine ⟨t2, stp t2 ?_, b1⟩
  rw [List.map_append, hst] at a1
  cases r with
  | none => exact a1
  | some r => exact a1
theorem vJ.callV {index ci N b frc loc : Nat} {Yc : vMeth} {T : u_T} {cs : Nat → Nat} {as st0 : List Value} (hd : decode Y.2.1 pc = .ok (.invokevirtual index, 3)) (hst : st0 = as.reverse ++ .ref b :: st) (hs : sh b = (ci + 6, N, cs)) (hb0 : b < n) (hc : vwCl[ci]? = some (Yc.1.cls, T, N)) (hlink : Cond.methodLink Y.1.cls index Yc.1 ∈ vtb) (hinst : Cond.instanceMethod Yc.1 ∈ vtb) (hsel : Cond.selects Yc.1.cls Yc.1 Yc.1 ∈ vtb) (hcode : Cond.code Yc.1 Yc.2.1 Yc.2.2.1 Yc.2.2.2 ∈ vtb) (hini : Cond.initialized Yc.1.cls ∈ vtb) (hpl : Yc.1.cls ≠ "java/lang/invoke/MethodHandle" ∧ Yc.1.cls ≠ "java/lang/invoke/VarHandle" ∧ (parseMethodDescriptor Yc.1.desc).map (fun d => d.parameters.length) = some as.length) (hfr2 : frc + 1 ≤ fr) (hlo2 : 8 + (Yc.2.2.1 + 11) + loc ≤ lo) (hcat : vcat st ≤ 8)
    (hE : Ev Yc frc loc n (.ref b :: as) n sh m (fun r sh' m' => vJ Y fr lo nE sx (pc + 3) ls (r.toList ++ st) n sh' m' P)) : vJ Y fr lo nE sx pc ls st0 n sh m P := by
  intro p l e R s mi args below meth c D K ad A H0 H locs cells slots Cm Sm Q la hC hD hl hR
  subst hst
  obtain ⟨hx, hb, hml, hown, hts, hrt, hlk, hinit, hfr, hlo, hK, hXt⟩ := id hC
  obtain ⟨hP, hDd, hS, hA, hB, hn, hc1, hs1, hc2, hs2, hsx⟩ := id hD
  have hM := hE (Nat.le_refl n) hB l D K ad H.size
  have hrec : FrameBlind (va_Pc ((.ref b :: as).map (vtr ad)) (fun U => U.heap.size = H.size ∧ va_P D vwCl (wld K ad sh m n) U.heap ∧ va_K D vwCl (vtys K) U ∧ vXt U ∧ va_D (fun _ => True) (wld K ad sh m n))) := vblind
  have hpre : ∀ U : State, U.heap = H → s.WarmedH U.vm → va_Pc ((.ref b :: as).map (vtr ad)) (fun U => U.heap.size = H.size ∧ va_P D vwCl (wld K ad sh m n) U.heap ∧ va_K D vwCl (vtys K) U ∧ vXt U ∧ va_D (fun _ => True) (wld K ad sh m n)) ((.ref b :: as).map (vtr ad)).toArray U := fun U hU hW => ⟨rfl, by rw [hU], by rw [hU]; exact hP, va_K.moved hW.alike hK, vXt.warm hW hXt, hDd.weaken (fun _ _ _ _ => trivial)⟩
  have he : (wld K ad sh m n)[b]? = some (ad b, .inr (ci, (List.range N).map (fun j => vsl ad (cs j) (m.1 b j)))) := by rw [wld_get hb0, hs]; rfl
  have hcw : CallW R s args Y.1.cls Yc.1.cls index Yc.1 Yc.2.1 Yc.2.2.1 Yc.2.2.2 (vws Yc) { frames := frc, cells := n - n, slots := vSZ n - vSZ n, locals := loc } (n - n) (vSZ n - vSZ n) as.length := by
    refine cwV as.length hts ?_ rfl rfl rfl ⟨rfl, hpl⟩ ⟨by show frc + 1 ≤ _; omega, by show 8 + (Yc.2.2.1 + 11) + loc ≤ _; omega⟩
    refine tbl_in (fun w hw => ?_)
    rcases List.mem_append.mp hw with h | h
    · simp only [List.mem_cons, List.not_mem_nil, or_false] at h
      rcases h with rfl | rfl | rfl | rfl
      · exact hlink
      · exact hinst
      · exact hsel
      · exact hini
    · exact ((tbl_code hcode) w h).1
  have hrun := va_runV (cells := cells) (slots := slots) (locs := locs) (e := e) (below := below) (meth := meth) (g := F0 mi pc la ((as.reverse ++ .ref b :: st).map (vtr ad))) (b := ad b) (As := as.map (vtr ad)) (rest := st.map (vtr ad)) ⟨hx, hb, hml, hown, hts⟩ hM hcw ⟨hrec, va_recv hK hP hc he, hpre⟩ rfl (by simp) hl.1 (by simp [vtr]) (lv_room (by rw [vcat_tr]; exact hcat)) hd ⟨by omega, by omega⟩
  exact vRun_vJ (Nat.le_refl n) hn (Or.inl rfl) hC hD hl hR hrun
theorem vJ.callS {index frc loc : Nat} {Yc : vMeth} {as st0 : List Value} (hd : decode Y.2.1 pc = .ok (.invokestatic index, 3)) (hst : st0 = as.reverse ++ st) (hlink : Cond.methodLink Y.1.cls index Yc.1 ∈ vtb) (hstat : Cond.static Yc.1 ∈ vtb) (hcode : Cond.code Yc.1 Yc.2.1 Yc.2.2.1 Yc.2.2.2 ∈ vtb) (hini : Cond.initialized Yc.1.cls ∈ vtb) (hpl : Yc.1.cls ≠ "java/lang/invoke/MethodHandle" ∧ Yc.1.cls ≠ "java/lang/invoke/VarHandle" ∧ (parseMethodDescriptor Yc.1.desc).map (fun d => d.parameters.length) = some as.length) (hfr2 : frc + 1 ≤ fr) (hlo2 : 8 + (Yc.2.2.1 + 11) + loc ≤ lo) (hcat : vcat st ≤ 8)
    (hE : Ev Yc frc loc n as n sh m (fun r sh' m' => vJ Y fr lo nE sx (pc + 3) ls (r.toList ++ st) n sh' m' P)) : vJ Y fr lo nE sx pc ls st0 n sh m P := by
  intro p l e R s mi args below meth c D K ad A H0 H locs cells slots Cm Sm Q la hC hD hl hR
  subst hst
  obtain ⟨hx, hb, hml, hown, hts, hrt, hlk, hinit, hfr, hlo, hK, hXt⟩ := id hC
  obtain ⟨hP, hDd, hS, hA, hB, hn, hc1, hs1, hc2, hs2, hsx⟩ := id hD
  have hM := hE (Nat.le_refl n) hB l D K ad H.size
  have hrec : FrameBlind (va_Pc (as.map (vtr ad)) (fun U => U.heap.size = H.size ∧ va_P D vwCl (wld K ad sh m n) U.heap ∧ va_K D vwCl (vtys K) U ∧ vXt U ∧ va_D (fun _ => True) (wld K ad sh m n))) := vblind
  have hpre : ∀ U : State, U.heap = H → s.WarmedH U.vm → va_Pc (as.map (vtr ad)) (fun U => U.heap.size = H.size ∧ va_P D vwCl (wld K ad sh m n) U.heap ∧ va_K D vwCl (vtys K) U ∧ vXt U ∧ va_D (fun _ => True) (wld K ad sh m n)) (as.map (vtr ad)).toArray U := fun U hU hW => ⟨rfl, by rw [hU], by rw [hU]; exact hP, va_K.moved hW.alike hK, vXt.warm hW hXt, hDd.weaken (fun _ _ _ _ => trivial)⟩
  have hcw : CallB R s args Y.1.cls index Yc.1 Yc.2.1 Yc.2.2.1 Yc.2.2.2 (vws Yc) { frames := frc, cells := n - n, slots := vSZ n - vSZ n, locals := loc } (n - n) (vSZ n - vSZ n) as.length :=
    callB_of as.length hts (tbl_code hcode) rfl rfl rfl (hts _ hini) (hts _ hlink) hpl ⟨by show frc + 1 ≤ _; omega, by show 8 + (Yc.2.2.1 + 11) + loc ≤ _; omega⟩
  have hrun := va_runS (cells := cells) (slots := slots) (locs := locs) (e := e) (below := below) (meth := meth) (g := F0 mi pc la ((as.reverse ++ st).map (vtr ad))) (As := as.map (vtr ad)) (rest := st.map (vtr ad)) ⟨hx, hb, hml, hown, hts⟩ hM ⟨hcw, hts _ hstat⟩ ⟨hrec, hpre⟩ rfl (by simp) hl.1 (by simp) (lv_room (by rw [vcat_tr]; exact hcat)) hd ⟨by omega, by omega⟩
  exact vRun_vJ (Nat.le_refl n) hn (Or.inl rfl) hC hD hl hR hrun
theorem vJ.callI {index b frc loc n2 : Nat} {Yc : vMeth} {as st0 : List Value} (hd : decode Y.2.1 pc = .ok (.invokespecial index, 3)) (hst : st0 = as.reverse ++ .ref b :: st) (hlink : Cond.methodLink Y.1.cls index Yc.1 ∈ vtb) (hinst : Cond.instanceMethod Yc.1 ∈ vtb) (hin2 : Yc.1.name = "<init>") (hret : Yc.2.2.2 = none) (hcode : Cond.code Yc.1 Yc.2.1 Yc.2.2.1 Yc.2.2.2 ∈ vtb) (hini : Cond.initialized Yc.1.cls ∈ vtb) (hpl : Yc.1.cls ≠ "java/lang/invoke/MethodHandle" ∧ Yc.1.cls ≠ "java/lang/invoke/VarHandle" ∧ (parseMethodDescriptor Yc.1.desc).map (fun d => d.parameters.length) = some as.length) (hfr2 : frc + 1 ≤ fr) (hlo2 : 8 + (Yc.2.2.1 + 11) + loc ≤ lo) (hcat : vcat st ≤ 8) (hn2 : n ≤ n2) (hnE : n2 ≤ nE) (hok : vOK n ls st)
    (hE : Ev Yc frc loc n2 (.ref b :: as) n sh m (fun r sh' m' => vJ Y fr lo nE sx (pc + 3) ls (r.toList ++ st) n2 sh' m' P)) : vJ Y fr lo nE sx pc ls st0 n sh m P := by
  intro p l e R s mi args below meth c D K ad A H0 H locs cells slots Cm Sm Q la hC hD hl hR
  subst hst
  obtain ⟨hx, hb, hml, hown, hts, hrt, hlk, hinit, hfr, hlo, hK, hXt⟩ := id hC
  obtain ⟨hP, hDd, hS, hA, hB, hn, hc1, hs1, hc2, hs2, hsx⟩ := id hD
  have hm1 := vSZ_mono hn2
  have hm2 := vSZ_mono hnE
  have hM := hE hn2 hB l D K ad H.size
  have hrec : FrameBlind (va_Pc ((.ref b :: as).map (vtr ad)) (fun U => U.heap.size = H.size ∧ va_P D vwCl (wld K ad sh m n) U.heap ∧ va_K D vwCl (vtys K) U ∧ vXt U ∧ va_D (fun _ => True) (wld K ad sh m n))) := vblind
  have hpre : ∀ U : State, U.heap = H → s.WarmedH U.vm → va_Pc ((.ref b :: as).map (vtr ad)) (fun U => U.heap.size = H.size ∧ va_P D vwCl (wld K ad sh m n) U.heap ∧ va_K D vwCl (vtys K) U ∧ vXt U ∧ va_D (fun _ => True) (wld K ad sh m n)) ((.ref b :: as).map (vtr ad)).toArray U := fun U hU hW => ⟨rfl, by rw [hU], by rw [hU]; exact hP, va_K.moved hW.alike hK, vXt.warm hW hXt, hDd.weaken (fun _ _ _ _ => trivial)⟩
  have hcw := cwI (R := R) (own := Y.1.cls) (index := index) (y := Yc.1) (bytes := Yc.2.1) (maxL := Yc.2.2.1) (ws := vws Yc) (rm := { frames := frc, cells := n2 - n, slots := vSZ n2 - vSZ n, locals := loc }) (mc := n2 - n) (ms := vSZ n2 - vSZ n) as.length hts (tbl_code hcode) (by rw [← hret]; rfl) rfl rfl (hts _ hini) (hts _ hlink) (hts _ hinst) hin2 hpl ⟨by show frc + 1 ≤ _; omega, by show 8 + (Yc.2.2.1 + 11) + loc ≤ _; omega⟩
  have hrun := va_runI (cells := cells) (slots := slots) (locs := locs) (e := e) (below := below) (meth := meth) (g := F0 mi pc la ((as.reverse ++ .ref b :: st).map (vtr ad))) (b := ad b) (As := as.map (vtr ad)) (rest := st.map (vtr ad)) ⟨hx, hb, hml, hown, hts⟩ hM hcw ⟨hrec, hpre⟩ rfl (by simp) hl.1 (by simp [vtr]) (lv_room (by rw [vcat_tr]; exact hcat)) hd ⟨by omega, by omega⟩
  exact vRun_vJ hn2 hnE (Or.inr hok) hC hD hl hR hrun
theorem vJ.callIN {index b frc loc n2 : Nat} {Yc : vMeth} {as st0 : List Value} (hd : decode Y.2.1 pc = .ok (.invokespecial index, 3)) (hst : st0 = as.reverse ++ .ref b :: st) {host : String} (hlink : ∀ U : State, vXt U → va_Nw (.methodLinkNest Y.1.cls index Yc.1 host) U) (hinst : Cond.instanceMethod Yc.1 ∈ vtb) (hin2 : Yc.1.name = "<init>") (hret : Yc.2.2.2 = none) (hcode : Cond.code Yc.1 Yc.2.1 Yc.2.2.1 Yc.2.2.2 ∈ vtb) (hini : Cond.initialized Yc.1.cls ∈ vtb) (hpl : Yc.1.cls ≠ "java/lang/invoke/MethodHandle" ∧ Yc.1.cls ≠ "java/lang/invoke/VarHandle" ∧ (parseMethodDescriptor Yc.1.desc).map (fun d => d.parameters.length) = some as.length) (hfr2 : frc + 1 ≤ fr) (hlo2 : 8 + (Yc.2.2.1 + 11) + loc ≤ lo) (hcat : vcat st ≤ 8) (hn2 : n ≤ n2) (hnE : n2 ≤ nE) (hok : vOK n ls st)
    (hE : Ev Yc frc loc n2 (.ref b :: as) n sh m (fun r sh' m' => vJ Y fr lo nE sx (pc + 3) ls (r.toList ++ st) n2 sh' m' P)) : vJ Y fr lo nE sx pc ls st0 n sh m P := by
  intro p l e R s mi args below meth c D K ad A H0 H locs cells slots Cm Sm Q la hC hD hl hR
  subst hst
  obtain ⟨hx, hb, hml, hown, hts, hrt, hlk, hinit, hfr, hlo, hK, hXt⟩ := id hC
  obtain ⟨hP, hDd, hS, hA, hB, hn, hc1, hs1, hc2, hs2, hsx⟩ := id hD
  have hm1 := vSZ_mono hn2
  have hm2 := vSZ_mono hnE
  have hM := hE hn2 hB l D K ad H.size
  have hrec : FrameBlind (va_Pc ((.ref b :: as).map (vtr ad)) (fun U => U.heap.size = H.size ∧ va_P D vwCl (wld K ad sh m n) U.heap ∧ va_K D vwCl (vtys K) U ∧ vXt U ∧ va_D (fun _ => True) (wld K ad sh m n))) := vblind
  have hpre : ∀ U : State, U.heap = H → s.WarmedH U.vm → va_Pc ((.ref b :: as).map (vtr ad)) (fun U => U.heap.size = H.size ∧ va_P D vwCl (wld K ad sh m n) U.heap ∧ va_K D vwCl (vtys K) U ∧ vXt U ∧ va_D (fun _ => True) (wld K ad sh m n)) ((.ref b :: as).map (vtr ad)).toArray U := fun U hU hW => ⟨rfl, by rw [hU], by rw [hU]; exact hP, va_K.moved hW.alike hK, vXt.warm hW hXt, hDd.weaken (fun _ _ _ _ => trivial)⟩
  have hcw := va_cnB (R := R) (own := Y.1.cls) (host := host) (index := index) (y := Yc.1) (bytes := Yc.2.1) (maxL := Yc.2.2.1) (ret := none) (ws := vws Yc) (rm := { frames := frc, cells := n2 - n, slots := vSZ n2 - vSZ n, locals := loc }) (mc := n2 - n) (ms := vSZ n2 - vSZ n) as.length hts (tbl_code hcode) (by rw [← hret]; rfl) rfl rfl (hlink s hXt) (hts _ hini) hpl ⟨by show frc + 1 ≤ _; omega, by show 8 + (Yc.2.2.1 + 11) + loc ≤ _; omega⟩
  have hrun := va_runIN (cells := cells) (slots := slots) (locs := locs) (e := e) (below := below) (meth := meth) (g := F0 mi pc la ((as.reverse ++ .ref b :: st).map (vtr ad))) (b := ad b) (As := as.map (vtr ad)) (rest := st.map (vtr ad)) ⟨hx, hb, hml, hown, hts⟩ hM ⟨hcw, hin2, hts _ hinst⟩ ⟨hrec, hpre⟩ rfl (by simp) hl.1 (by simp [vtr]) (lv_room (by rw [vcat_tr]; exact hcat)) hd ⟨by omega, by omega⟩
  exact vRun_vJ hn2 hnE (Or.inr hok) hC hD hl hR hrun
end VE1
