/-! A plain memory: numbers by cell and place; the shape of the cells beside it (03.shape). vJ: from this state of a method the machine comes to a return with P. -/
def vtb : List Cond := lw_tbl.filter goodWord
abbrev vM : Type := (Nat → Nat → Int32) × (Nat → Nat → Int64)
abbrev vSh : Type := Nat → Nat × Nat × (Nat → Nat)
abbrev vMeth : Type := MethodName × ByteArray × Nat × Option FieldType
def vsN : Nat := 1000000
def vtr (ad : Nat → Nat) : Value → Value
  | .ref k => .ref (ad k)
  | .int x => .int x
  | .long x => .long x
  | .float x => .float x
  | .double x => .double x
  | .null => .null
  | .retAddr q => .retAddr q
theorem vtr_cat (ad : Nat → Nat) (v : Value) : (vtr ad v).category = v.category := by cases v <;> rfl
def vls (ad : Nat → Nat) (ls : List (Nat × Value)) : List (Nat × Value) := ls.map (fun q => (q.1, vtr ad q.2))
def vcat (st : List Value) : Nat := (st.map fun v => v.category).sum
theorem vcat_tr (ad : Nat → Nat) (st : List Value) : ((st.map (vtr ad)).map fun v => v.category).sum = vcat st := by
  unfold vcat
  congr 1
  rw [List.map_map]
  exact List.map_congr_left (fun v _ => vtr_cat ad v)
def vtys (K : Nat → ClassId) : List (ClassId × FieldType) := [(K 0, .int), (K 1, .boolean), (K 2, .long), (K 3, .object "TableSetter$Cell"), (K 4, .array .int)]
def vsl (ad : Nat → Nat) (k : Nat) (x : Int32) : Value := match k with
  | 0 => .int x
  | 1 => .null
  | j + 2 => .ref (ad j)
def vrq (ad : Nat → Nat) (k : Nat) : Option Nat := match k with
  | 0 => none
  | 1 => none
  | j + 2 => some (ad j)
def vdq (ad : Nat → Nat) (x : Int32) : Option Nat := if x = 0 then none else some (ad (x.toNatClampNeg - 1))
def venc (K : Nat → ClassId) (ad : Nat → Nat) (q : Nat × Nat × (Nat → Nat)) (f : Nat → Int32) (g : Nat → Int64) : va_E := match q.1 with
  | 0 => .inl (K 0, q.2.1, .inl f)
  | 1 => .inl (K 1, q.2.1, .inl f)
  | 2 => .inl (K 2, q.2.1, .inr (.inl g))
  | 3 => .inl (K 3, q.2.1, .inr (.inr (.inr (.inr (fun j => vrq ad (q.2.2 j))))))
  | 4 => .inl (K 3, q.2.1, .inr (.inr (.inr (.inr (fun j => vdq ad (f j))))))
  | 5 => .inl (K 4, q.2.1, .inr (.inr (.inr (.inr (fun j => vrq ad (q.2.2 j))))))
  | c + 6 => .inr (c, (List.range q.2.1).map (fun j => vsl ad (q.2.2 j) (f j)))
def wld (K : Nat → ClassId) (ad : Nat → Nat) (sh : vSh) (m : vM) (n : Nat) : va_W := (List.range n).map (fun k => (ad k, venc K ad (sh k) (m.1 k) (m.2 k)))
theorem wld_get {K : Nat → ClassId} {ad : Nat → Nat} {sh : vSh} {m : vM} {n k : Nat} (h : k < n) : (wld K ad sh m n)[k]? = some (ad k, venc K ad (sh k) (m.1 k) (m.2 k)) := by
  simp [wld, List.getElem?_map, List.getElem?_range h]
theorem wld_at {K : Nat → ClassId} {ad : Nat → Nat} {sh : vSh} {m : vM} {n k : Nat} {q : Nat × va_E} (h : (wld K ad sh m n)[k]? = some q) : k < n ∧ q = (ad k, venc K ad (sh k) (m.1 k) (m.2 k)) := by
  have hl := (List.getElem?_eq_some_iff.mp h).1
  have hk : k < n := by simpa [wld] using hl
  rw [wld_get hk] at h
  exact ⟨hk, (Option.some.inj h).symm⟩
theorem wld_set {K : Nat → ClassId} {ad : Nat → Nat} {sh sh' : vSh} {m m' : vM} {n k : Nat} {e : va_E} (h : k < n) (he : e = venc K ad (sh' k) (m'.1 k) (m'.2 k)) (ho : ∀ j, j ≠ k → sh' j = sh j ∧ m'.1 j = m.1 j ∧ m'.2 j = m.2 j) : (wld K ad sh m n).set k (ad k, e) = wld K ad sh' m' n := by
  subst he
  apply List.ext_getElem?
  intro i
  rw [List.getElem?_set]
  by_cases hi : k = i
  · subst hi
    rw [if_pos rfl, wld_get h, if_pos (by simpa [wld] using h)]
  · rw [if_neg hi]
    by_cases hn : i < n
    · obtain ⟨h1, h2, h3⟩ := ho i (fun q => hi q.symm)
      rw [wld_get hn, wld_get hn, h1, h2, h3]
    · simp [wld, hn]
def vRB (n : Nat) (sh : vSh) (m : vM) : Prop := ∀ k, k < n → (∀ j x, (sh k).2.2 j = x + 2 → x < n) ∧ ((sh k).1 = 4 → ∀ j, m.1 k j = 0 ∨ (m.1 k j).toNatClampNeg - 1 < n)
def vAg (n : Nat) (ad ad' : Nat → Nat) : Prop := ∀ k, k < n ∨ k = vsN → ad' k = ad k
theorem venc_ag {K : Nat → ClassId} {ad ad' : Nat → Nat} {q : Nat × Nat × (Nat → Nat)} {f : Nat → Int32} {g : Nat → Int64} {n : Nat} (ha : ∀ k, k < n → ad' k = ad k) (h1 : ∀ j x, q.2.2 j = x + 2 → x < n) (h2 : q.1 = 4 → ∀ j, f j = 0 ∨ (f j).toNatClampNeg - 1 < n) : venc K ad' q f g = venc K ad q f g := by
  have hr : ∀ j, vrq ad' (q.2.2 j) = vrq ad (q.2.2 j) := by
    intro j
    have := h1 j
    generalize q.2.2 j = t at this ⊢
    match t, this with
    | 0, _ => rfl
    | 1, _ => rfl
    | x + 2, h => simp only [vrq]; rw [ha x (h x rfl)]
  have hs : ∀ j x, vsl ad' (q.2.2 j) x = vsl ad (q.2.2 j) x := by
    intro j y
    have := h1 j
    generalize q.2.2 j = t at this ⊢
    match t, this with
    | 0, _ => rfl
    | 1, _ => rfl
    | x + 2, h => simp only [vsl]; rw [ha x (h x rfl)]
  unfold venc
  split
  · rfl
  · rfl
  · rfl
  · rw [show (fun j => vrq ad' (q.2.2 j)) = fun j => vrq ad (q.2.2 j) from funext hr]
  · rename_i hq
    have hd : (fun j => vdq ad' (f j)) = fun j => vdq ad (f j) := by
      funext j
      unfold vdq
      rcases h2 hq j with h | h
      · simp [h]
      · split
        · rfl
        · rw [ha _ h]
    rw [hd]
  · rw [show (fun j => vrq ad' (q.2.2 j)) = fun j => vrq ad (q.2.2 j) from funext hr]
  · congr 2; exact List.map_congr_left (fun j _ => hs j (f j))
theorem wld_push {K : Nat → ClassId} {ad ad' : Nat → Nat} {sh sh' : vSh} {m m' : vM} {n q : Nat} {e : va_E} (ha : ∀ k, k < n → ad' k = ad k) (hq : ad' n = q) (he : e = venc K ad' (sh' n) (m'.1 n) (m'.2 n)) (ho : ∀ j, j < n → sh' j = sh j ∧ m'.1 j = m.1 j ∧ m'.2 j = m.2 j) (hB : vRB n sh m) : wld K ad sh m n ++ [(q, e)] = wld K ad' sh' m' (n + 1) := by
  subst hq; subst he
  unfold wld
  rw [List.range_succ, List.map_append]
  congr 1
  apply List.map_congr_left
  intro k hk
  have hk := List.mem_range.mp hk
  obtain ⟨h1, h2, h3⟩ := ho k hk
  rw [h1, h2, h3, ha k hk, venc_ag ha (hB k hk).1 (hB k hk).2]
/-! updates of memory and shape -/
def upI (m : vM) (a j : Nat) (v : Int32) : vM := (fun b => if b = a then upd (m.1 a) j v else m.1 b, m.2)
def upL (m : vM) (a j : Nat) (v : Int64) : vM := (m.1, fun b => if b = a then vp_updL (m.2 a) j v else m.2 b)
def upA (m : vM) (a : Nat) (f : Nat → Int32) : vM := (fun b => if b = a then f else m.1 b, m.2)
def upZ (m : vM) (a : Nat) : vM := (fun b => if b = a then fun _ => 0 else m.1 b, fun b => if b = a then fun _ => 0 else m.2 b)
def upS (sh : vSh) (a : Nat) (q : Nat × Nat × (Nat → Nat)) : vSh := fun b => if b = a then q else sh b
def setC (q : Nat × Nat × (Nat → Nat)) (j c : Nat) : Nat × Nat × (Nat → Nat) := (q.1, q.2.1, fun i => if i = j then c else q.2.2 i)
theorem upI_r (m : vM) (a j b k : Nat) (v : Int32) : (upI m a j v).1 b k = if b = a ∧ k = j then v else m.1 b k := by
  by_cases h : b = a
  · subst h; by_cases h2 : k = j
    · subst h2; simp [upI, upd]
    · simp [upI, upd, h2]
  · simp [upI, h]
theorem upI_s (m : vM) (a j : Nat) (v : Int32) : (upI m a j v).1 a j = v := by rw [upI_r]; simp
theorem upI_n (m : vM) (a j b k : Nat) (v : Int32) (h : b ≠ a ∨ k ≠ j) : (upI m a j v).1 b k = m.1 b k := by
  rw [upI_r, if_neg]; rintro ⟨h1, h2⟩; rcases h with h | h <;> contradiction
theorem upI_l (m : vM) (a j : Nat) (v : Int32) : (upI m a j v).2 = m.2 := rfl
theorem upI_o (m : vM) (a j b : Nat) (v : Int32) (h : b ≠ a) : (upI m a j v).1 b = m.1 b := by simp [upI, h]
theorem upL_i (m : vM) (a j : Nat) (v : Int64) : (upL m a j v).1 = m.1 := rfl
theorem upL_r (m : vM) (a j b k : Nat) (v : Int64) : (upL m a j v).2 b k = if b = a ∧ k = j then v else m.2 b k := by
  by_cases h : b = a
  · subst h; by_cases h2 : k = j
    · subst h2; simp [upL, vp_updL]
    · simp [upL, vp_updL, h2]
  · simp [upL, h]
/-! the judgement -/
theorem va_AOA.moved {ty : FieldType} {u U : State} (hvm : u.vm.Alike U.vm) (h : va_AOA ty u) : va_AOA ty U := (Cond.arrayOver_setVmC (args := #[]) hvm (.array ty)).trans h
/-- what else the tables say: words that go with the machine's tables as they grow -/
def vXt (U : State) : Prop := va_AO "TableSetter$Cell" U ∧ va_AOA .int U ∧ va_Nw (.methodLinkNest RX1 24 yX0_init "TableSetter") U ∧ va_Nw (.methodLinkNest RX5 23 yX4_init "TableSetter") U
theorem vXt.warm {s U : State} (hW : s.WarmedH U.vm) (h : vXt s) : vXt U := ⟨va_AO.moved hW.alike h.1, va_AOA.moved hW.alike h.2.1, va_Nw.warmM hW h.2.2.1, va_Nw.warmM hW h.2.2.2⟩
theorem vXt.same {u U : State} (e : u.vm = U.vm) (h : vXt u) : vXt U := ⟨va_AO.moved (e ▸ Vm.Alike.refl _) h.1, va_AOA.moved (e ▸ Vm.Alike.refl _) h.2.1, va_Nw.same rfl e h.2.2.1, va_Nw.same rfl e h.2.2.2⟩
def vCx (Y : vMeth) (fr lo : Nat) (p : Program) (R : Room) (s : State) (mi : MethodId) (args : Array Value) (meth : Method) (c : Code) (D : va_G) (K : Nat → ClassId) : Prop :=
  p.tables.exec = Jvm.exec ∧ c.code = Y.2.1 ∧ c.maxLocals = Y.2.2.1 ∧ s.vm.findClass Y.1.cls = some mi.cls ∧ (∀ w ∈ vtb, w.before args s = true) ∧ meth.sig.returnType = Y.2.2.2 ∧ meth.locks = false ∧ (Y.1.name = "<init>" → meth.name = "<init>") ∧ fr ≤ R.frames ∧ lo ≤ R.locals ∧ va_K D vwCl (vtys K) s ∧ vXt s
def vDy (sx : Option (Nat × (Nat → Int32))) (D : va_G) (K : Nat → ClassId) (ad : Nat → Nat) (sh : vSh) (m : vM) (n nE : Nat) (A : Nat → Prop) (H0 H : Heap) (locs : List Loc) (R : Room) (cells slots Cm Sm : Nat) (s : State) : Prop :=
  va_P D vwCl (wld K ad sh m n) H ∧ va_D A (wld K ad sh m n) ∧ va_S A H0 H locs ∧ (∀ q, H0.size ≤ q → A q) ∧ vRB n sh m ∧ n ≤ nE ∧ cells + (nE - n) ≤ Cm ∧ slots + (vSZ nE - vSZ n) ≤ Sm ∧ Cm ≤ R.cells ∧ Sm ≤ R.slots ∧ (∀ L xs, sx = some (L, xs) → va_X (ad vsN) L xs s H0 ∧ ad vsN < H0.size ∧ ¬ A (ad vsN))
def vRet (Y : vMeth) (pc : Nat) (r : Option Value) : Prop :=
  (r = none ∧ decode Y.2.1 pc = .ok (.return_, 1) ∧ Y.2.2.2 = none) ∨ (∃ x, r = some (.int x) ∧ decode Y.2.1 pc = .ok (.ireturn, 1) ∧ ∃ ty, Y.2.2.2 = some ty ∧ narrow ty (.int x) = .int x) ∨ (∃ x, r = some (.long x) ∧ decode Y.2.1 pc = .ok (.lreturn, 1) ∧ Y.2.2.2 = some .long) ∨ (∃ v C, r = some v ∧ decode Y.2.1 pc = .ok (.areturn, 1) ∧ Y.2.2.2 = some (.object C) ∧ (v = .null ∨ ∃ a, v = .ref a))
def vJ (Y : vMeth) (fr lo nE : Nat) (sx : Option (Nat × (Nat → Int32))) (pc : Nat) (ls : List (Nat × Value)) (st : List Value) (n : Nat) (sh : vSh) (m : vM) (P : Option Value → vSh → vM → Prop) : Prop :=
  ∀ (p : Program) (l : Launch) (e : Env) (R : Room) (s : State) (mi : MethodId) (args : Array Value) (below : List Frame) (meth : Method) (c : Code) (D : va_G) (K : Nat → ClassId) (ad : Nat → Nat) (A : Nat → Prop) (H0 H : Heap) (locs : List Loc) (cells slots Cm Sm : Nat) (Q : State → Prop) (la : Array Slot),
    vCx Y fr lo p R s mi args meth c D K → vDy sx D K ad sh m n nE A H0 H locs R cells slots Cm Sm s → lv_has la Y.2.2.1 (vls ad ls) →
    (∀ (r : Option Value) (sh' : vSh) (m' : vM) (ad' : Nat → Nat) (H' : Heap) (locs' : List Loc) (cells' slots' : Nat) (la' : Array Slot) (pc' : Nat), vRet Y pc' r → P r sh' m' → vAg n ad ad' → (nE = n → ad' = ad) → vDy sx D K ad' sh' m' nE nE A H0 H' locs' R cells' slots' Cm Sm s → W p l e R s mi args below meth c H' locs' cells' slots' Q (F0 mi pc' la' (r.toList.map (vtr ad')))) →
    W p l e R s mi args below meth c H locs cells slots Q (F0 mi pc la (st.map (vtr ad)))
theorem vlook_at {ad : Nat → Nat} {la : Array Slot} {nL i : Nat} {v : Value} {ls : List (Nat × Value)} (h : lv_has la nL (vls ad ls)) (hl : ls.lookup i = some v) : la[i]? = some (.val (vtr ad v)) := by
  refine h.2.2 (i, vtr ad v) ?_
  clear h
  induction ls with
  | nil => cases hl
  | cons q t ih =>
    obtain ⟨j, w⟩ := q
    rw [List.lookup_cons] at hl
    by_cases hj : i = j
    · subst hj
      simp at hl
      subst hl
      exact List.mem_cons_self
    · simp [show (i == j) = false by simpa using hj] at hl
      exact List.mem_cons_of_mem _ (ih hl)
theorem lv_mono {la : Array Slot} {nL : Nat} {l l' : List (Nat × Value)} (h : lv_has la nL l) (hs : ∀ q ∈ l', q ∈ l) : lv_has la nL l' := ⟨h.1, h.2.1, fun q hq => h.2.2 q (hs q hq)⟩
def vins (i : Nat) (v : Value) : List (Nat × Value) → List (Nat × Value)
  | [] => [(i, v)]
  | q :: t => if i < q.1 then (i, v) :: q :: t else q :: vins i v t
theorem vins_mem {i : Nat} {v : Value} {l : List (Nat × Value)} {q : Nat × Value} (h : q ∈ vins i v l) : q = (i, v) ∨ q ∈ l := by
  induction l with
  | nil => exact Or.inl (List.mem_singleton.mp h)
  | cons a t ih =>
    unfold vins at h
    split at h
    · rcases List.mem_cons.mp h with h | h
      · exact Or.inl h
      · exact Or.inr h
    · rcases List.mem_cons.mp h with h | h
      · exact Or.inr (h ▸ List.mem_cons_self)
      · rcases ih h with h | h
        · exact Or.inl h
        · exact Or.inr (List.mem_cons_of_mem _ h)
def vst (ls : List (Nat × Value)) (i : Nat) (v : Value) : List (Nat × Value) := vins i v (ls.filter (fun q => !(q.1 == i) && !(q.1 + 1 == i && q.2.category == 2)))
def vst2 (ls : List (Nat × Value)) (i : Nat) (v : Value) : List (Nat × Value) := vins i v (ls.filter (fun q => !(q.1 == i) && (!(q.1 == i + 1) && !(q.1 + 1 == i && q.2.category == 2))))
theorem vst_mem {ad : Nat → Nat} {ls : List (Nat × Value)} {i : Nat} {v : Value} : ∀ q ∈ vls ad (vst ls i v), q ∈ (i, vtr ad v) :: (vls ad ls).filter (fun q => !(q.1 == i) && !(q.1 + 1 == i && q.2.category == 2)) := by
  intro q hq
  obtain ⟨q0, h0, rfl⟩ := List.mem_map.mp hq
  rcases vins_mem h0 with rfl | h
  · exact List.mem_cons_self
  · obtain ⟨h1, h2⟩ := List.mem_filter.mp h
    refine List.mem_cons_of_mem _ (List.mem_filter.mpr ⟨List.mem_map.mpr ⟨q0, h1, rfl⟩, ?_⟩)
    simpa only [vtr_cat] using h2
theorem vst2_mem {ad : Nat → Nat} {ls : List (Nat × Value)} {i : Nat} {v : Value} : ∀ q ∈ vls ad (vst2 ls i v), q ∈ (i, vtr ad v) :: (vls ad ls).filter (fun q => !(q.1 == i) && (!(q.1 == i + 1) && !(q.1 + 1 == i && q.2.category == 2))) := by
  intro q hq
  obtain ⟨q0, h0, rfl⟩ := List.mem_map.mp hq
  rcases vins_mem h0 with rfl | h
  · exact List.mem_cons_self
  · obtain ⟨h1, h2⟩ := List.mem_filter.mp h
    refine List.mem_cons_of_mem _ (List.mem_filter.mpr ⟨List.mem_map.mpr ⟨q0, h1, rfl⟩, ?_⟩)
    simpa only [vtr_cat] using h2
section VJ
variable {Y : vMeth} {fr lo nE : Nat} {sx : Option (Nat × (Nat → Int32))} {pc : Nat} {ls : List (Nat × Value)} {st : List Value} {n : Nat} {sh : vSh} {m : vM} {P : Option Value → vSh → vM → Prop}
theorem vJ.mono {P' : Option Value → vSh → vM → Prop} (h : vJ Y fr lo nE sx pc ls st n sh m P) (hp : ∀ r sh' m', P r sh' m' → P' r sh' m') : vJ Y fr lo nE sx pc ls st n sh m P' := by
  intro p l e R s mi args below meth c D K ad A H0 H locs cells slots Cm Sm Q la hC hD hl hR
  exact h p l e R s mi args below meth c D K ad A H0 H locs cells slots Cm Sm Q la hC hD hl (fun r sh' m' ad' H' locs' cells' slots' la' pc' h1 h2 => hR r sh' m' ad' H' locs' cells' slots' la' pc' h1 (hp r sh' m' h2))
theorem vJ.sub (ks : List Nat) {ls' : List (Nat × Value)} (hk : lv_pick ls ks = ls') (k : vJ Y fr lo nE sx pc ls' st n sh m P) : vJ Y fr lo nE sx pc ls st n sh m P := by
  intro p l e R s mi args below meth c D K ad A H0 H locs cells slots Cm Sm Q la hC hD hl hR
  refine k p l e R s mi args below meth c D K ad A H0 H locs cells slots Cm Sm Q la hC hD (lv_mono hl fun q hq => ?_) hR
  subst hk
  obtain ⟨q0, h0, rfl⟩ := List.mem_map.mp hq
  obtain ⟨i, -, hi⟩ := List.mem_filterMap.mp h0
  exact List.mem_map.mpr ⟨q0, List.mem_of_getElem? hi, rfl⟩
theorem vJ.iconst {q : Int} {v : Int32} (hd : decode Y.2.1 pc = .ok (.iconst q, 1)) (hv : Int32.ofInt q = v) (k : vJ Y fr lo nE sx (pc + 1) ls (.int v :: st) n sh m P) : vJ Y fr lo nE sx pc ls st n sh m P := by
  intro p l e R s mi args below meth c D K ad A H0 H locs cells slots Cm Sm Q la hC hD hl hR
  exact lv_iconst hC.1 hC.2.1 hd hv (k p l e R s mi args below meth c D K ad A H0 H locs cells slots Cm Sm Q la hC hD hl hR)
theorem vJ.bipush {q : Int} {v : Int32} (hd : decode Y.2.1 pc = .ok (.bipush q, 2)) (hv : (Int8.ofInt q).toInt32 = v) (k : vJ Y fr lo nE sx (pc + 2) ls (.int v :: st) n sh m P) : vJ Y fr lo nE sx pc ls st n sh m P := by
  intro p l e R s mi args below meth c D K ad A H0 H locs cells slots Cm Sm Q la hC hD hl hR
  exact lv_bipush hC.1 hC.2.1 hd hv (k p l e R s mi args below meth c D K ad A H0 H locs cells slots Cm Sm Q la hC hD hl hR)
theorem vJ.sipush {q : Int} {v : Int32} (hd : decode Y.2.1 pc = .ok (.sipush q, 3)) (hv : (Int16.ofInt q).toInt32 = v) (k : vJ Y fr lo nE sx (pc + 3) ls (.int v :: st) n sh m P) : vJ Y fr lo nE sx pc ls st n sh m P := by
  intro p l e R s mi args below meth c D K ad A H0 H locs cells slots Cm Sm Q la hC hD hl hR
  exact lv_sipush hC.1 hC.2.1 hd hv (k p l e R s mi args below meth c D K ad A H0 H locs cells slots Cm Sm Q la hC hD hl hR)
theorem vJ.lconst {q : Fin 2} {v : Int64} (hd : decode Y.2.1 pc = .ok (.lconst q, 1)) (hv : Int64.ofNat (q : Nat) = v) (k : vJ Y fr lo nE sx (pc + 1) ls (.long v :: st) n sh m P) : vJ Y fr lo nE sx pc ls st n sh m P := by
  intro p l e R s mi args below meth c D K ad A H0 H locs cells slots Cm Sm Q la hC hD hl hR
  exact lv_lconst hC.1 hC.2.1 hd hv (k p l e R s mi args below meth c D K ad A H0 H locs cells slots Cm Sm Q la hC hD hl hR)
theorem vJ.ldc2 {index : Nat} {v : Int64} (hd : decode Y.2.1 pc = .ok (.ldc2_w index, 3)) (hw : Cond.constantLong Y.1.cls index v ∈ vtb) (k : vJ Y fr lo nE sx (pc + 3) ls (.long v :: st) n sh m P) : vJ Y fr lo nE sx pc ls st n sh m P := by
  intro p l e R s mi args below meth c D K ad A H0 H locs cells slots Cm Sm Q la hC hD hl hR
  exact lv_ldc2 hC.1 hC.2.1 hC.2.2.2.1 (hC.2.2.2.2.1 _ hw) hd (k p l e R s mi args below meth c D K ad A H0 H locs cells slots Cm Sm Q la hC hD hl hR)
theorem vJ.null (hd : decode Y.2.1 pc = .ok (.aconst_null, 1)) (k : vJ Y fr lo nE sx (pc + 1) ls (.null :: st) n sh m P) : vJ Y fr lo nE sx pc ls st n sh m P := by
  intro p l e R s mi args below meth c D K ad A H0 H locs cells slots Cm Sm Q la hC hD hl hR
  exact lv_null hC.1 hC.2.1 hd (k p l e R s mi args below meth c D K ad A H0 H locs cells slots Cm Sm Q la hC hD hl hR)
theorem vJ.iload_n {q : Fin 4} {i : Nat} {x : Int32} (hd : decode Y.2.1 pc = .ok (.iload_n q, 1)) (hi : (q : Nat) = i) (hx : ls.lookup i = some (.int x)) (k : vJ Y fr lo nE sx (pc + 1) ls (.int x :: st) n sh m P) : vJ Y fr lo nE sx pc ls st n sh m P := by
  intro p l e R s mi args below meth c D K ad A H0 H locs cells slots Cm Sm Q la hC hD hl hR
  exact lv_iload_n hC.1 hC.2.1 hd hi (vlook_at hl hx) (k p l e R s mi args below meth c D K ad A H0 H locs cells slots Cm Sm Q la hC hD hl hR)
theorem vJ.iload {i : Nat} {x : Int32} (hd : decode Y.2.1 pc = .ok (.iload i, 2)) (hx : ls.lookup i = some (.int x)) (k : vJ Y fr lo nE sx (pc + 2) ls (.int x :: st) n sh m P) : vJ Y fr lo nE sx pc ls st n sh m P := by
  intro p l e R s mi args below meth c D K ad A H0 H locs cells slots Cm Sm Q la hC hD hl hR
  exact lv_iload hC.1 hC.2.1 hd (vlook_at hl hx) (k p l e R s mi args below meth c D K ad A H0 H locs cells slots Cm Sm Q la hC hD hl hR)
theorem vJ.lload_n {q : Fin 4} {i : Nat} {x : Int64} (hd : decode Y.2.1 pc = .ok (.lload_n q, 1)) (hi : (q : Nat) = i) (hx : ls.lookup i = some (.long x)) (k : vJ Y fr lo nE sx (pc + 1) ls (.long x :: st) n sh m P) : vJ Y fr lo nE sx pc ls st n sh m P := by
  intro p l e R s mi args below meth c D K ad A H0 H locs cells slots Cm Sm Q la hC hD hl hR
  exact lv_lload_n hC.1 hC.2.1 hd hi (vlook_at hl hx) (k p l e R s mi args below meth c D K ad A H0 H locs cells slots Cm Sm Q la hC hD hl hR)
theorem vJ.lload {i : Nat} {x : Int64} (hd : decode Y.2.1 pc = .ok (.lload i, 2)) (hx : ls.lookup i = some (.long x)) (k : vJ Y fr lo nE sx (pc + 2) ls (.long x :: st) n sh m P) : vJ Y fr lo nE sx pc ls st n sh m P := by
  intro p l e R s mi args below meth c D K ad A H0 H locs cells slots Cm Sm Q la hC hD hl hR
  exact lv_lload hC.1 hC.2.1 hd (vlook_at hl hx) (k p l e R s mi args below meth c D K ad A H0 H locs cells slots Cm Sm Q la hC hD hl hR)
theorem vJ.aload_n {q : Fin 4} {i a : Nat} (hd : decode Y.2.1 pc = .ok (.aload_n q, 1)) (hi : (q : Nat) = i) (hx : ls.lookup i = some (.ref a)) (k : vJ Y fr lo nE sx (pc + 1) ls (.ref a :: st) n sh m P) : vJ Y fr lo nE sx pc ls st n sh m P := by
  intro p l e R s mi args below meth c D K ad A H0 H locs cells slots Cm Sm Q la hC hD hl hR
  exact lv_aload_n hC.1 hC.2.1 hd hi (vlook_at hl hx) (k p l e R s mi args below meth c D K ad A H0 H locs cells slots Cm Sm Q la hC hD hl hR)
theorem vJ.aload {i a : Nat} (hd : decode Y.2.1 pc = .ok (.aload i, 2)) (hx : ls.lookup i = some (.ref a)) (k : vJ Y fr lo nE sx (pc + 2) ls (.ref a :: st) n sh m P) : vJ Y fr lo nE sx pc ls st n sh m P := by
  intro p l e R s mi args below meth c D K ad A H0 H locs cells slots Cm Sm Q la hC hD hl hR
  exact lv_aload hC.1 hC.2.1 hd (vlook_at hl hx) (k p l e R s mi args below meth c D K ad A H0 H locs cells slots Cm Sm Q la hC hD hl hR)
theorem vJ.aload_nN {q : Fin 4} {i : Nat} (hd : decode Y.2.1 pc = .ok (.aload_n q, 1)) (hi : (q : Nat) = i) (hx : ls.lookup i = some .null) (k : vJ Y fr lo nE sx (pc + 1) ls (.null :: st) n sh m P) : vJ Y fr lo nE sx pc ls st n sh m P := by
  intro p l e R s mi args below meth c D K ad A H0 H locs cells slots Cm Sm Q la hC hD hl hR
  exact lv_aload_nN hC.1 hC.2.1 hd hi (vlook_at hl hx) (k p l e R s mi args below meth c D K ad A H0 H locs cells slots Cm Sm Q la hC hD hl hR)
theorem vJ.aloadN {i : Nat} (hd : decode Y.2.1 pc = .ok (.aload i, 2)) (hx : ls.lookup i = some .null) (k : vJ Y fr lo nE sx (pc + 2) ls (.null :: st) n sh m P) : vJ Y fr lo nE sx pc ls st n sh m P := by
  intro p l e R s mi args below meth c D K ad A H0 H locs cells slots Cm Sm Q la hC hD hl hR
  exact lv_aloadN hC.1 hC.2.1 hd (vlook_at hl hx) (k p l e R s mi args below meth c D K ad A H0 H locs cells slots Cm Sm Q la hC hD hl hR)
theorem vJ.istore_n {q : Fin 4} {i : Nat} {x : Int32} {ls2 : List (Nat × Value)} (hd : decode Y.2.1 pc = .ok (.istore_n q, 1)) (hi : (q : Nat) = i) (hn : i < Y.2.2.1) (hls : vst ls i (.int x) = ls2) (k : vJ Y fr lo nE sx (pc + 1) ls2 st n sh m P) : vJ Y fr lo nE sx pc ls (.int x :: st) n sh m P := by
  intro p l e R s mi args below meth c D K ad A H0 H locs cells slots Cm Sm Q la hC hD hl hR
  subst hls
  exact lv_istore_n hC.1 hC.2.1 hd hi hl hn rfl (fun la2 hl2 => k p l e R s mi args below meth c D K ad A H0 H locs cells slots Cm Sm Q la2 hC hD (lv_mono hl2 vst_mem) hR)
theorem vJ.istore {i : Nat} {x : Int32} {ls2 : List (Nat × Value)} (hd : decode Y.2.1 pc = .ok (.istore i, 2)) (hn : i < Y.2.2.1) (hls : vst ls i (.int x) = ls2) (k : vJ Y fr lo nE sx (pc + 2) ls2 st n sh m P) : vJ Y fr lo nE sx pc ls (.int x :: st) n sh m P := by
  intro p l e R s mi args below meth c D K ad A H0 H locs cells slots Cm Sm Q la hC hD hl hR
  subst hls
  exact lv_istore hC.1 hC.2.1 hd hl hn rfl (fun la2 hl2 => k p l e R s mi args below meth c D K ad A H0 H locs cells slots Cm Sm Q la2 hC hD (lv_mono hl2 vst_mem) hR)
theorem vJ.lstore_n {q : Fin 4} {i : Nat} {x : Int64} {ls2 : List (Nat × Value)} (hd : decode Y.2.1 pc = .ok (.lstore_n q, 1)) (hi : (q : Nat) = i) (hn : i + 1 < Y.2.2.1) (hls : vst2 ls i (.long x) = ls2) (k : vJ Y fr lo nE sx (pc + 1) ls2 st n sh m P) : vJ Y fr lo nE sx pc ls (.long x :: st) n sh m P := by
  intro p l e R s mi args below meth c D K ad A H0 H locs cells slots Cm Sm Q la hC hD hl hR
  subst hls
  exact lv_lstore_n hC.1 hC.2.1 hd hi hl hn rfl (fun la2 hl2 => k p l e R s mi args below meth c D K ad A H0 H locs cells slots Cm Sm Q la2 hC hD (lv_mono hl2 vst2_mem) hR)
theorem vJ.lstore {i : Nat} {x : Int64} {ls2 : List (Nat × Value)} (hd : decode Y.2.1 pc = .ok (.lstore i, 2)) (hn : i + 1 < Y.2.2.1) (hls : vst2 ls i (.long x) = ls2) (k : vJ Y fr lo nE sx (pc + 2) ls2 st n sh m P) : vJ Y fr lo nE sx pc ls (.long x :: st) n sh m P := by
  intro p l e R s mi args below meth c D K ad A H0 H locs cells slots Cm Sm Q la hC hD hl hR
  subst hls
  exact lv_lstore hC.1 hC.2.1 hd hl hn rfl (fun la2 hl2 => k p l e R s mi args below meth c D K ad A H0 H locs cells slots Cm Sm Q la2 hC hD (lv_mono hl2 vst2_mem) hR)
theorem vJ.astore_n {q : Fin 4} {i : Nat} {x : Nat} {ls2 : List (Nat × Value)} (hd : decode Y.2.1 pc = .ok (.astore_n q, 1)) (hi : (q : Nat) = i) (hn : i < Y.2.2.1) (hls : vst ls i (.ref x) = ls2) (k : vJ Y fr lo nE sx (pc + 1) ls2 st n sh m P) : vJ Y fr lo nE sx pc ls (.ref x :: st) n sh m P := by
  intro p l e R s mi args below meth c D K ad A H0 H locs cells slots Cm Sm Q la hC hD hl hR
  subst hls
  exact lv_astore_n hC.1 hC.2.1 hd hi hl hn rfl (fun la2 hl2 => k p l e R s mi args below meth c D K ad A H0 H locs cells slots Cm Sm Q la2 hC hD (lv_mono hl2 vst_mem) hR)
theorem vJ.astore {i : Nat} {x : Nat} {ls2 : List (Nat × Value)} (hd : decode Y.2.1 pc = .ok (.astore i, 2)) (hn : i < Y.2.2.1) (hls : vst ls i (.ref x) = ls2) (k : vJ Y fr lo nE sx (pc + 2) ls2 st n sh m P) : vJ Y fr lo nE sx pc ls (.ref x :: st) n sh m P := by
  intro p l e R s mi args below meth c D K ad A H0 H locs cells slots Cm Sm Q la hC hD hl hR
  subst hls
  exact lv_astore hC.1 hC.2.1 hd hl hn rfl (fun la2 hl2 => k p l e R s mi args below meth c D K ad A H0 H locs cells slots Cm Sm Q la2 hC hD (lv_mono hl2 vst_mem) hR)
theorem vJ.astore_nN {q : Fin 4} {i : Nat} {ls2 : List (Nat × Value)} (hd : decode Y.2.1 pc = .ok (.astore_n q, 1)) (hi : (q : Nat) = i) (hn : i < Y.2.2.1) (hls : vst ls i (.null) = ls2) (k : vJ Y fr lo nE sx (pc + 1) ls2 st n sh m P) : vJ Y fr lo nE sx pc ls (.null :: st) n sh m P := by
  intro p l e R s mi args below meth c D K ad A H0 H locs cells slots Cm Sm Q la hC hD hl hR
  subst hls
  exact lv_astore_nN hC.1 hC.2.1 hd hi hl hn rfl (fun la2 hl2 => k p l e R s mi args below meth c D K ad A H0 H locs cells slots Cm Sm Q la2 hC hD (lv_mono hl2 vst_mem) hR)
theorem vJ.astoreN {i : Nat} {ls2 : List (Nat × Value)} (hd : decode Y.2.1 pc = .ok (.astore i, 2)) (hn : i < Y.2.2.1) (hls : vst ls i (.null) = ls2) (k : vJ Y fr lo nE sx (pc + 2) ls2 st n sh m P) : vJ Y fr lo nE sx pc ls (.null :: st) n sh m P := by
  intro p l e R s mi args below meth c D K ad A H0 H locs cells slots Cm Sm Q la hC hD hl hR
  subst hls
  exact lv_astoreN hC.1 hC.2.1 hd hl hn rfl (fun la2 hl2 => k p l e R s mi args below meth c D K ad A H0 H locs cells slots Cm Sm Q la2 hC hD (lv_mono hl2 vst_mem) hR)
theorem vJ.iinc {i : Nat} {q : Int} {x v : Int32} {ls2 : List (Nat × Value)} (hd : decode Y.2.1 pc = .ok (.iinc i q, 3)) (hx : ls.lookup i = some (.int x)) (hv : x + Int32.ofInt q = v) (hn : i < Y.2.2.1) (hls : vst ls i (.int v) = ls2) (k : vJ Y fr lo nE sx (pc + 3) ls2 st n sh m P) : vJ Y fr lo nE sx pc ls st n sh m P := by
  intro p l e R s mi args below meth c D K ad A H0 H locs cells slots Cm Sm Q la hC hD hl hR
  subst hls
  have hm : (i, Value.int x) ∈ vls ad ls := by
    clear k hl
    induction ls with
    | nil => cases hx
    | cons q0 t ih =>
      obtain ⟨j, w⟩ := q0
      rw [List.lookup_cons] at hx
      by_cases hj : i = j
      · subst hj
        simp at hx
        subst hx
        exact List.mem_cons_self
      · simp [show (i == j) = false by simpa using hj] at hx
        exact List.mem_cons_of_mem _ (ih hx)
  obtain ⟨k9, hk9⟩ := List.getElem?_of_mem hm
  exact lv_iinc hC.1 hC.2.1 hd hl hk9 hv hn rfl (fun la2 hl2 => k p l e R s mi args below meth c D K ad A H0 H locs cells slots Cm Sm Q la2 hC hD (lv_mono hl2 vst_mem) hR)
theorem vJ.iadd {x y : Int32} (hd : decode Y.2.1 pc = .ok (.iadd, 1)) (k : vJ Y fr lo nE sx (pc + 1) ls (.int (x + y) :: st) n sh m P) : vJ Y fr lo nE sx pc ls (.int y :: .int x :: st) n sh m P := by
  intro p l e R s mi args below meth c D K ad A H0 H locs cells slots Cm Sm Q la hC hD hl hR
  exact lv_iadd hC.1 hC.2.1 hd (k p l e R s mi args below meth c D K ad A H0 H locs cells slots Cm Sm Q la hC hD hl hR)
theorem vJ.isub {x y : Int32} (hd : decode Y.2.1 pc = .ok (.isub, 1)) (k : vJ Y fr lo nE sx (pc + 1) ls (.int (x - y) :: st) n sh m P) : vJ Y fr lo nE sx pc ls (.int y :: .int x :: st) n sh m P := by
  intro p l e R s mi args below meth c D K ad A H0 H locs cells slots Cm Sm Q la hC hD hl hR
  exact lv_isub hC.1 hC.2.1 hd (k p l e R s mi args below meth c D K ad A H0 H locs cells slots Cm Sm Q la hC hD hl hR)
theorem vJ.imul {x y : Int32} (hd : decode Y.2.1 pc = .ok (.imul, 1)) (k : vJ Y fr lo nE sx (pc + 1) ls (.int (x * y) :: st) n sh m P) : vJ Y fr lo nE sx pc ls (.int y :: .int x :: st) n sh m P := by
  intro p l e R s mi args below meth c D K ad A H0 H locs cells slots Cm Sm Q la hC hD hl hR
  exact lv_imul hC.1 hC.2.1 hd (k p l e R s mi args below meth c D K ad A H0 H locs cells slots Cm Sm Q la hC hD hl hR)
theorem vJ.iand {x y : Int32} (hd : decode Y.2.1 pc = .ok (.iand, 1)) (k : vJ Y fr lo nE sx (pc + 1) ls (.int (x &&& y) :: st) n sh m P) : vJ Y fr lo nE sx pc ls (.int y :: .int x :: st) n sh m P := by
  intro p l e R s mi args below meth c D K ad A H0 H locs cells slots Cm Sm Q la hC hD hl hR
  exact lv_iand hC.1 hC.2.1 hd (k p l e R s mi args below meth c D K ad A H0 H locs cells slots Cm Sm Q la hC hD hl hR)
theorem vJ.ior {x y : Int32} (hd : decode Y.2.1 pc = .ok (.ior, 1)) (k : vJ Y fr lo nE sx (pc + 1) ls (.int (x ||| y) :: st) n sh m P) : vJ Y fr lo nE sx pc ls (.int y :: .int x :: st) n sh m P := by
  intro p l e R s mi args below meth c D K ad A H0 H locs cells slots Cm Sm Q la hC hD hl hR
  exact lv_ior hC.1 hC.2.1 hd (k p l e R s mi args below meth c D K ad A H0 H locs cells slots Cm Sm Q la hC hD hl hR)
theorem vJ.ishl {x y : Int32} (hd : decode Y.2.1 pc = .ok (.ishl, 1)) (k : vJ Y fr lo nE sx (pc + 1) ls (.int (x <<< (y &&& 31)) :: st) n sh m P) : vJ Y fr lo nE sx pc ls (.int y :: .int x :: st) n sh m P := by
  intro p l e R s mi args below meth c D K ad A H0 H locs cells slots Cm Sm Q la hC hD hl hR
  exact lv_ishl hC.1 hC.2.1 hd (k p l e R s mi args below meth c D K ad A H0 H locs cells slots Cm Sm Q la hC hD hl hR)
theorem vJ.ishr {x y : Int32} (hd : decode Y.2.1 pc = .ok (.ishr, 1)) (k : vJ Y fr lo nE sx (pc + 1) ls (.int (x >>> (y &&& 31)) :: st) n sh m P) : vJ Y fr lo nE sx pc ls (.int y :: .int x :: st) n sh m P := by
  intro p l e R s mi args below meth c D K ad A H0 H locs cells slots Cm Sm Q la hC hD hl hR
  exact lv_ishr hC.1 hC.2.1 hd (k p l e R s mi args below meth c D K ad A H0 H locs cells slots Cm Sm Q la hC hD hl hR)
theorem vJ.idiv {x y : Int32} (hd : decode Y.2.1 pc = .ok (.idiv, 1)) (hne : ¬ y = 0) (k : vJ Y fr lo nE sx (pc + 1) ls (.int (x / y) :: st) n sh m P) : vJ Y fr lo nE sx pc ls (.int y :: .int x :: st) n sh m P := by
  intro p l e R s mi args below meth c D K ad A H0 H locs cells slots Cm Sm Q la hC hD hl hR
  exact lv_idiv hC.1 hC.2.1 hd hne (k p l e R s mi args below meth c D K ad A H0 H locs cells slots Cm Sm Q la hC hD hl hR)
theorem vJ.irem {x y : Int32} (hd : decode Y.2.1 pc = .ok (.irem, 1)) (hne : ¬ y = 0) (k : vJ Y fr lo nE sx (pc + 1) ls (.int (x - x / y * y) :: st) n sh m P) : vJ Y fr lo nE sx pc ls (.int y :: .int x :: st) n sh m P := by
  intro p l e R s mi args below meth c D K ad A H0 H locs cells slots Cm Sm Q la hC hD hl hR
  exact lv_irem hC.1 hC.2.1 hd hne (k p l e R s mi args below meth c D K ad A H0 H locs cells slots Cm Sm Q la hC hD hl hR)
theorem vJ.ladd {x y : Int64} (hd : decode Y.2.1 pc = .ok (.ladd, 1)) (k : vJ Y fr lo nE sx (pc + 1) ls (.long (x + y) :: st) n sh m P) : vJ Y fr lo nE sx pc ls (.long y :: .long x :: st) n sh m P := by
  intro p l e R s mi args below meth c D K ad A H0 H locs cells slots Cm Sm Q la hC hD hl hR
  exact lv_ladd hC.1 hC.2.1 hd (k p l e R s mi args below meth c D K ad A H0 H locs cells slots Cm Sm Q la hC hD hl hR)
theorem vJ.lsub {x y : Int64} (hd : decode Y.2.1 pc = .ok (.lsub, 1)) (k : vJ Y fr lo nE sx (pc + 1) ls (.long (x - y) :: st) n sh m P) : vJ Y fr lo nE sx pc ls (.long y :: .long x :: st) n sh m P := by
  intro p l e R s mi args below meth c D K ad A H0 H locs cells slots Cm Sm Q la hC hD hl hR
  exact lv_lsub hC.1 hC.2.1 hd (k p l e R s mi args below meth c D K ad A H0 H locs cells slots Cm Sm Q la hC hD hl hR)
theorem vJ.lmul {x y : Int64} (hd : decode Y.2.1 pc = .ok (.lmul, 1)) (k : vJ Y fr lo nE sx (pc + 1) ls (.long (x * y) :: st) n sh m P) : vJ Y fr lo nE sx pc ls (.long y :: .long x :: st) n sh m P := by
  intro p l e R s mi args below meth c D K ad A H0 H locs cells slots Cm Sm Q la hC hD hl hR
  exact lv_lmul hC.1 hC.2.1 hd (k p l e R s mi args below meth c D K ad A H0 H locs cells slots Cm Sm Q la hC hD hl hR)
theorem vJ.ldiv {x y : Int64} (hd : decode Y.2.1 pc = .ok (.ldiv, 1)) (hne : ¬ y = 0) (k : vJ Y fr lo nE sx (pc + 1) ls (.long (x / y) :: st) n sh m P) : vJ Y fr lo nE sx pc ls (.long y :: .long x :: st) n sh m P := by
  intro p l e R s mi args below meth c D K ad A H0 H locs cells slots Cm Sm Q la hC hD hl hR
  exact lv_ldiv hC.1 hC.2.1 hd hne (k p l e R s mi args below meth c D K ad A H0 H locs cells slots Cm Sm Q la hC hD hl hR)
theorem vJ.lcmp {x y : Int64} (hd : decode Y.2.1 pc = .ok (.lcmp, 1)) (k : vJ Y fr lo nE sx (pc + 1) ls (.int (lg_cmp x y) :: st) n sh m P) : vJ Y fr lo nE sx pc ls (.long y :: .long x :: st) n sh m P := by
  intro p l e R s mi args below meth c D K ad A H0 H locs cells slots Cm Sm Q la hC hD hl hR
  exact W.lcmp hC.1 hC.2.1 hd (k p l e R s mi args below meth c D K ad A H0 H locs cells slots Cm Sm Q la hC hD hl hR)
theorem vJ.i2l {x : Int32} (hd : decode Y.2.1 pc = .ok (.i2l, 1)) (k : vJ Y fr lo nE sx (pc + 1) ls (.long x.toInt64 :: st) n sh m P) : vJ Y fr lo nE sx pc ls (.int x :: st) n sh m P := by
  intro p l e R s mi args below meth c D K ad A H0 H locs cells slots Cm Sm Q la hC hD hl hR
  exact lv_i2l hC.1 hC.2.1 hd rfl (k p l e R s mi args below meth c D K ad A H0 H locs cells slots Cm Sm Q la hC hD hl hR)
theorem vJ.l2i {x : Int64} (hd : decode Y.2.1 pc = .ok (.l2i, 1)) (k : vJ Y fr lo nE sx (pc + 1) ls (.int x.toInt32 :: st) n sh m P) : vJ Y fr lo nE sx pc ls (.long x :: st) n sh m P := by
  intro p l e R s mi args below meth c D K ad A H0 H locs cells slots Cm Sm Q la hC hD hl hR
  exact lv_l2i hC.1 hC.2.1 hd rfl (k p l e R s mi args below meth c D K ad A H0 H locs cells slots Cm Sm Q la hC hD hl hR)
theorem vJ.dup {v : Value} (hd : decode Y.2.1 pc = .ok (.dup, 1)) (hv : v.category = 1) (k : vJ Y fr lo nE sx (pc + 1) ls (v :: v :: st) n sh m P) : vJ Y fr lo nE sx pc ls (v :: st) n sh m P := by
  intro p l e R s mi args below meth c D K ad A H0 H locs cells slots Cm Sm Q la hC hD hl hR
  exact lv_dup hC.1 hC.2.1 hd (by rw [vtr_cat]; exact hv) (k p l e R s mi args below meth c D K ad A H0 H locs cells slots Cm Sm Q la hC hD hl hR)
theorem vJ.pop {v : Value} (hd : decode Y.2.1 pc = .ok (.pop, 1)) (hv : v.category = 1) (k : vJ Y fr lo nE sx (pc + 1) ls st n sh m P) : vJ Y fr lo nE sx pc ls (v :: st) n sh m P := by
  intro p l e R s mi args below meth c D K ad A H0 H locs cells slots Cm Sm Q la hC hD hl hR
  exact lv_pop hC.1 hC.2.1 hd (by rw [vtr_cat]; exact hv) (k p l e R s mi args below meth c D K ad A H0 H locs cells slots Cm Sm Q la hC hD hl hR)
theorem vJ.dup2 {v u : Value} (hd : decode Y.2.1 pc = .ok (.dup2, 1)) (hv : v.category = 1) (hu : u.category = 1) (k : vJ Y fr lo nE sx (pc + 1) ls (v :: u :: v :: u :: st) n sh m P) : vJ Y fr lo nE sx pc ls (v :: u :: st) n sh m P := by
  intro p l e R s mi args below meth c D K ad A H0 H locs cells slots Cm Sm Q la hC hD hl hR
  exact lv_dup2_11 hC.1 hC.2.1 hd (by rw [vtr_cat]; exact hv) (by rw [vtr_cat]; exact hu) (k p l e R s mi args below meth c D K ad A H0 H locs cells slots Cm Sm Q la hC hD hl hR)
theorem vJ.if_eq {x : Int32} {off : Int} {tgt : Nat} (hd : decode Y.2.1 pc = .ok (.ifCond .eq off, 3)) (ht : (pc : Int) + off = (tgt : Int)) (kt : x = 0 → vJ Y fr lo nE sx tgt ls st n sh m P) (kf : ¬ x = 0 → vJ Y fr lo nE sx (pc + 3) ls st n sh m P) : vJ Y fr lo nE sx pc ls (.int x :: st) n sh m P := by
  intro p l e R s mi args below meth c D K ad A H0 H locs cells slots Cm Sm Q la hC hD hl hR
  exact lv_if_eq hC.1 hC.2.1 hd ht (fun h => kt h p l e R s mi args below meth c D K ad A H0 H locs cells slots Cm Sm Q la hC hD hl hR) (fun h => kf h p l e R s mi args below meth c D K ad A H0 H locs cells slots Cm Sm Q la hC hD hl hR)
theorem vJ.icmp_eq {x y : Int32} {off : Int} {tgt : Nat} (hd : decode Y.2.1 pc = .ok (.if_icmp .eq off, 3)) (ht : (pc : Int) + off = (tgt : Int)) (kt : x = y → vJ Y fr lo nE sx tgt ls st n sh m P) (kf : ¬ x = y → vJ Y fr lo nE sx (pc + 3) ls st n sh m P) : vJ Y fr lo nE sx pc ls (.int y :: .int x :: st) n sh m P := by
  intro p l e R s mi args below meth c D K ad A H0 H locs cells slots Cm Sm Q la hC hD hl hR
  exact lv_icmp_eq hC.1 hC.2.1 hd ht (fun h => kt h p l e R s mi args below meth c D K ad A H0 H locs cells slots Cm Sm Q la hC hD hl hR) (fun h => kf h p l e R s mi args below meth c D K ad A H0 H locs cells slots Cm Sm Q la hC hD hl hR)
theorem vJ.if_ne {x : Int32} {off : Int} {tgt : Nat} (hd : decode Y.2.1 pc = .ok (.ifCond .ne off, 3)) (ht : (pc : Int) + off = (tgt : Int)) (kt : ¬ x = 0 → vJ Y fr lo nE sx tgt ls st n sh m P) (kf : x = 0 → vJ Y fr lo nE sx (pc + 3) ls st n sh m P) : vJ Y fr lo nE sx pc ls (.int x :: st) n sh m P := by
  intro p l e R s mi args below meth c D K ad A H0 H locs cells slots Cm Sm Q la hC hD hl hR
  exact lv_if_ne hC.1 hC.2.1 hd ht (fun h => kt h p l e R s mi args below meth c D K ad A H0 H locs cells slots Cm Sm Q la hC hD hl hR) (fun h => kf h p l e R s mi args below meth c D K ad A H0 H locs cells slots Cm Sm Q la hC hD hl hR)
theorem vJ.icmp_ne {x y : Int32} {off : Int} {tgt : Nat} (hd : decode Y.2.1 pc = .ok (.if_icmp .ne off, 3)) (ht : (pc : Int) + off = (tgt : Int)) (kt : ¬ x = y → vJ Y fr lo nE sx tgt ls st n sh m P) (kf : x = y → vJ Y fr lo nE sx (pc + 3) ls st n sh m P) : vJ Y fr lo nE sx pc ls (.int y :: .int x :: st) n sh m P := by
  intro p l e R s mi args below meth c D K ad A H0 H locs cells slots Cm Sm Q la hC hD hl hR
  exact lv_icmp_ne hC.1 hC.2.1 hd ht (fun h => kt h p l e R s mi args below meth c D K ad A H0 H locs cells slots Cm Sm Q la hC hD hl hR) (fun h => kf h p l e R s mi args below meth c D K ad A H0 H locs cells slots Cm Sm Q la hC hD hl hR)
theorem vJ.if_lt {x : Int32} {off : Int} {tgt : Nat} (hd : decode Y.2.1 pc = .ok (.ifCond .lt off, 3)) (ht : (pc : Int) + off = (tgt : Int)) (kt : x < 0 → vJ Y fr lo nE sx tgt ls st n sh m P) (kf : ¬ x < 0 → vJ Y fr lo nE sx (pc + 3) ls st n sh m P) : vJ Y fr lo nE sx pc ls (.int x :: st) n sh m P := by
  intro p l e R s mi args below meth c D K ad A H0 H locs cells slots Cm Sm Q la hC hD hl hR
  exact lv_if_lt hC.1 hC.2.1 hd ht (fun h => kt h p l e R s mi args below meth c D K ad A H0 H locs cells slots Cm Sm Q la hC hD hl hR) (fun h => kf h p l e R s mi args below meth c D K ad A H0 H locs cells slots Cm Sm Q la hC hD hl hR)
theorem vJ.icmp_lt {x y : Int32} {off : Int} {tgt : Nat} (hd : decode Y.2.1 pc = .ok (.if_icmp .lt off, 3)) (ht : (pc : Int) + off = (tgt : Int)) (kt : x < y → vJ Y fr lo nE sx tgt ls st n sh m P) (kf : ¬ x < y → vJ Y fr lo nE sx (pc + 3) ls st n sh m P) : vJ Y fr lo nE sx pc ls (.int y :: .int x :: st) n sh m P := by
  intro p l e R s mi args below meth c D K ad A H0 H locs cells slots Cm Sm Q la hC hD hl hR
  exact lv_icmp_lt hC.1 hC.2.1 hd ht (fun h => kt h p l e R s mi args below meth c D K ad A H0 H locs cells slots Cm Sm Q la hC hD hl hR) (fun h => kf h p l e R s mi args below meth c D K ad A H0 H locs cells slots Cm Sm Q la hC hD hl hR)
theorem vJ.if_ge {x : Int32} {off : Int} {tgt : Nat} (hd : decode Y.2.1 pc = .ok (.ifCond .ge off, 3)) (ht : (pc : Int) + off = (tgt : Int)) (kt : 0 ≤ x → vJ Y fr lo nE sx tgt ls st n sh m P) (kf : ¬ 0 ≤ x → vJ Y fr lo nE sx (pc + 3) ls st n sh m P) : vJ Y fr lo nE sx pc ls (.int x :: st) n sh m P := by
  intro p l e R s mi args below meth c D K ad A H0 H locs cells slots Cm Sm Q la hC hD hl hR
  exact lv_if_ge hC.1 hC.2.1 hd ht (fun h => kt h p l e R s mi args below meth c D K ad A H0 H locs cells slots Cm Sm Q la hC hD hl hR) (fun h => kf h p l e R s mi args below meth c D K ad A H0 H locs cells slots Cm Sm Q la hC hD hl hR)
theorem vJ.icmp_ge {x y : Int32} {off : Int} {tgt : Nat} (hd : decode Y.2.1 pc = .ok (.if_icmp .ge off, 3)) (ht : (pc : Int) + off = (tgt : Int)) (kt : y ≤ x → vJ Y fr lo nE sx tgt ls st n sh m P) (kf : ¬ y ≤ x → vJ Y fr lo nE sx (pc + 3) ls st n sh m P) : vJ Y fr lo nE sx pc ls (.int y :: .int x :: st) n sh m P := by
  intro p l e R s mi args below meth c D K ad A H0 H locs cells slots Cm Sm Q la hC hD hl hR
  exact lv_icmp_ge hC.1 hC.2.1 hd ht (fun h => kt h p l e R s mi args below meth c D K ad A H0 H locs cells slots Cm Sm Q la hC hD hl hR) (fun h => kf h p l e R s mi args below meth c D K ad A H0 H locs cells slots Cm Sm Q la hC hD hl hR)
theorem vJ.if_gt {x : Int32} {off : Int} {tgt : Nat} (hd : decode Y.2.1 pc = .ok (.ifCond .gt off, 3)) (ht : (pc : Int) + off = (tgt : Int)) (kt : 0 < x → vJ Y fr lo nE sx tgt ls st n sh m P) (kf : ¬ 0 < x → vJ Y fr lo nE sx (pc + 3) ls st n sh m P) : vJ Y fr lo nE sx pc ls (.int x :: st) n sh m P := by
  intro p l e R s mi args below meth c D K ad A H0 H locs cells slots Cm Sm Q la hC hD hl hR
  exact lv_if_gt hC.1 hC.2.1 hd ht (fun h => kt h p l e R s mi args below meth c D K ad A H0 H locs cells slots Cm Sm Q la hC hD hl hR) (fun h => kf h p l e R s mi args below meth c D K ad A H0 H locs cells slots Cm Sm Q la hC hD hl hR)
theorem vJ.icmp_gt {x y : Int32} {off : Int} {tgt : Nat} (hd : decode Y.2.1 pc = .ok (.if_icmp .gt off, 3)) (ht : (pc : Int) + off = (tgt : Int)) (kt : y < x → vJ Y fr lo nE sx tgt ls st n sh m P) (kf : ¬ y < x → vJ Y fr lo nE sx (pc + 3) ls st n sh m P) : vJ Y fr lo nE sx pc ls (.int y :: .int x :: st) n sh m P := by
  intro p l e R s mi args below meth c D K ad A H0 H locs cells slots Cm Sm Q la hC hD hl hR
  exact lv_icmp_gt hC.1 hC.2.1 hd ht (fun h => kt h p l e R s mi args below meth c D K ad A H0 H locs cells slots Cm Sm Q la hC hD hl hR) (fun h => kf h p l e R s mi args below meth c D K ad A H0 H locs cells slots Cm Sm Q la hC hD hl hR)
theorem vJ.if_le {x : Int32} {off : Int} {tgt : Nat} (hd : decode Y.2.1 pc = .ok (.ifCond .le off, 3)) (ht : (pc : Int) + off = (tgt : Int)) (kt : x ≤ 0 → vJ Y fr lo nE sx tgt ls st n sh m P) (kf : ¬ x ≤ 0 → vJ Y fr lo nE sx (pc + 3) ls st n sh m P) : vJ Y fr lo nE sx pc ls (.int x :: st) n sh m P := by
  intro p l e R s mi args below meth c D K ad A H0 H locs cells slots Cm Sm Q la hC hD hl hR
  exact lv_if_le hC.1 hC.2.1 hd ht (fun h => kt h p l e R s mi args below meth c D K ad A H0 H locs cells slots Cm Sm Q la hC hD hl hR) (fun h => kf h p l e R s mi args below meth c D K ad A H0 H locs cells slots Cm Sm Q la hC hD hl hR)
theorem vJ.icmp_le {x y : Int32} {off : Int} {tgt : Nat} (hd : decode Y.2.1 pc = .ok (.if_icmp .le off, 3)) (ht : (pc : Int) + off = (tgt : Int)) (kt : x ≤ y → vJ Y fr lo nE sx tgt ls st n sh m P) (kf : ¬ x ≤ y → vJ Y fr lo nE sx (pc + 3) ls st n sh m P) : vJ Y fr lo nE sx pc ls (.int y :: .int x :: st) n sh m P := by
  intro p l e R s mi args below meth c D K ad A H0 H locs cells slots Cm Sm Q la hC hD hl hR
  exact lv_icmp_le hC.1 hC.2.1 hd ht (fun h => kt h p l e R s mi args below meth c D K ad A H0 H locs cells slots Cm Sm Q la hC hD hl hR) (fun h => kf h p l e R s mi args below meth c D K ad A H0 H locs cells slots Cm Sm Q la hC hD hl hR)
theorem vJ.ifnonnull {a : Nat} {off : Int} {tgt : Nat} (hd : decode Y.2.1 pc = .ok (.ifnonnull off, 3)) (ht : (pc : Int) + off = (tgt : Int)) (k : vJ Y fr lo nE sx tgt ls st n sh m P) : vJ Y fr lo nE sx pc ls (.ref a :: st) n sh m P := by
  intro p l e R s mi args below meth c D K ad A H0 H locs cells slots Cm Sm Q la hC hD hl hR
  exact lv_ifnonnull hC.1 hC.2.1 hd ht (k p l e R s mi args below meth c D K ad A H0 H locs cells slots Cm Sm Q la hC hD hl hR)
theorem vJ.ifnull {a : Nat} {off : Int} (hd : decode Y.2.1 pc = .ok (.ifnull off, 3)) (k : vJ Y fr lo nE sx (pc + 3) ls st n sh m P) : vJ Y fr lo nE sx pc ls (.ref a :: st) n sh m P := by
  intro p l e R s mi args below meth c D K ad A H0 H locs cells slots Cm Sm Q la hC hD hl hR
  exact lv_ifnull hC.1 hC.2.1 hd (k p l e R s mi args below meth c D K ad A H0 H locs cells slots Cm Sm Q la hC hD hl hR)
theorem vJ.ifnullN {off : Int} {tgt : Nat} (hd : decode Y.2.1 pc = .ok (.ifnull off, 3)) (ht : (pc : Int) + off = (tgt : Int)) (k : vJ Y fr lo nE sx tgt ls st n sh m P) : vJ Y fr lo nE sx pc ls (.null :: st) n sh m P := by
  intro p l e R s mi args below meth c D K ad A H0 H locs cells slots Cm Sm Q la hC hD hl hR
  exact lv_ifnullN hC.1 hC.2.1 hd ht (k p l e R s mi args below meth c D K ad A H0 H locs cells slots Cm Sm Q la hC hD hl hR)
theorem vJ.ifnonnullN {off : Int} (hd : decode Y.2.1 pc = .ok (.ifnonnull off, 3)) (k : vJ Y fr lo nE sx (pc + 3) ls st n sh m P) : vJ Y fr lo nE sx pc ls (.null :: st) n sh m P := by
  intro p l e R s mi args below meth c D K ad A H0 H locs cells slots Cm Sm Q la hC hD hl hR
  exact lv_ifnonnullN hC.1 hC.2.1 hd (k p l e R s mi args below meth c D K ad A H0 H locs cells slots Cm Sm Q la hC hD hl hR)
theorem vJ.goto {off : Int} {tgt : Nat} (hd : decode Y.2.1 pc = .ok (.goto off, 3)) (ht : (pc : Int) + off = (tgt : Int)) (k : vJ Y fr lo nE sx tgt ls st n sh m P) : vJ Y fr lo nE sx pc ls st n sh m P := by
  intro p l e R s mi args below meth c D K ad A H0 H locs cells slots Cm Sm Q la hC hD hl hR
  exact lv_goto hC.1 hC.2.1 hd ht (k p l e R s mi args below meth c D K ad A H0 H locs cells slots Cm Sm Q la hC hD hl hR)
theorem vJ.tabIn {dflt lq hq : Int} {offs : Array Int} {len : Nat} {x : Int32} {off : Int} {tgt : Nat} (hd : decode Y.2.1 pc = .ok (.tableswitch dflt lq hq offs, len)) (h1 : ¬ x.toInt < lq) (h2 : ¬ hq < x.toInt) (ho : offs[(x.toInt - lq).toNat]? = some off) (ht : (pc : Int) + off = (tgt : Int)) (k : vJ Y fr lo nE sx tgt ls st n sh m P) : vJ Y fr lo nE sx pc ls (.int x :: st) n sh m P := by
  intro p l e R s mi args below meth c D K ad A H0 H locs cells slots Cm Sm Q la hC hD hl hR
  exact lv_tableIn hC.1 hC.2.1 hd h1 h2 ho ht (k p l e R s mi args below meth c D K ad A H0 H locs cells slots Cm Sm Q la hC hD hl hR)
theorem vJ.tabOut {dflt lq hq : Int} {offs : Array Int} {len : Nat} {x : Int32} {tgt : Nat} (hd : decode Y.2.1 pc = .ok (.tableswitch dflt lq hq offs, len)) (h1 : x.toInt < lq ∨ hq < x.toInt) (ht : (pc : Int) + dflt = (tgt : Int)) (k : vJ Y fr lo nE sx tgt ls st n sh m P) : vJ Y fr lo nE sx pc ls (.int x :: st) n sh m P := by
  intro p l e R s mi args below meth c D K ad A H0 H locs cells slots Cm Sm Q la hC hD hl hR
  exact lv_tableOut hC.1 hC.2.1 hd h1 ht (k p l e R s mi args below meth c D K ad A H0 H locs cells slots Cm Sm Q la hC hD hl hR)
end VJ
