/-! constructors: only what lies below n counts -/
theorem wld_shc {K : Nat → ClassId} {ad : Nat → Nat} {sh sh' : vSh} {m m' : vM} {n : Nat} (h : ∀ k, k < n → sh k = sh' k ∧ m.1 k = m'.1 k ∧ m.2 k = m'.2 k) : wld K ad sh m n = wld K ad sh' m' n := by
  unfold wld
  apply List.map_congr_left
  intro k hk
  obtain ⟨h1, h2, h3⟩ := h k (List.mem_range.mp hk)
  rw [h1, h2, h3]
theorem vRB_shc {sh sh' : vSh} {m m' : vM} {n : Nat} (h : ∀ k, k < n → sh k = sh' k ∧ m.1 k = m'.1 k ∧ m.2 k = m'.2 k) (hB : vRB n sh m) : vRB n sh' m' := by
  intro k hk
  obtain ⟨h1, h2, h3⟩ := h k hk
  rw [← h1, ← h2]
  exact hB k hk
theorem vJ.shc {Y : vMeth} {fr lo nE : Nat} {sx : Option (Nat × (Nat → Int32))} {pc : Nat} {ls : List (Nat × Value)} {st : List Value} {n : Nat} {sh sh' : vSh} {m m' : vM} {P : Option Value → vSh → vM → Prop} (h : ∀ k, k < n → sh k = sh' k ∧ m.1 k = m'.1 k ∧ m.2 k = m'.2 k) (k : vJ Y fr lo nE sx pc ls st n sh' m' P) : vJ Y fr lo nE sx pc ls st n sh m P := by
  intro p l e R s mi args below meth c D K ad A H0 H locs cells slots Cm Sm Q la hC hD hl hR
  refine k p l e R s mi args below meth c D K ad A H0 H locs cells slots Cm Sm Q la hC ?_ hl hR
  unfold vDy at *
  rw [← wld_shc h]
  obtain ⟨a1, a2, a3, a4, a5, a6⟩ := hD
  exact ⟨a1, a2, a3, a4, vRB_shc h a5, a6⟩
/-! one object at b is under construction: below b any shape, behind it the final one -/
def kO (b : Nat) (sh : vSh) (c N : Nat) (cs : Nat → Nat) : vSh := fun k => if k < b then sh k else if k = b then (c, N, cs) else SH k
def kT (b : Nat) (sh : vSh) : vSh := fun k => if k < b then sh k else SH k
def kM (b : Nat) (m : vM) : vM := (fun k => if k < b then m.1 k else fun _ => 0, fun k => if k < b then m.2 k else fun _ => 0)
def kU (cs : Nat → Nat) (k v : Nat) : Nat → Nat := fun j => if j = k then v else cs j
theorem kO_s {b : Nat} {sh : vSh} {c N : Nat} {cs : Nat → Nat} : kO b sh c N cs b = (c, N, cs) := by
  unfold kO
  rw [if_neg (Nat.lt_irrefl b), if_pos rfl]
theorem kO_b {b k : Nat} {sh : vSh} {c N : Nat} {cs : Nat → Nat} (h : k < b) : kO b sh c N cs k = sh k := if_pos h
theorem kO_a {b k : Nat} {sh : vSh} {c N : Nat} {cs : Nat → Nat} (h : b < k) : kO b sh c N cs k = SH k := by
  unfold kO
  rw [if_neg (by omega), if_neg (by omega)]
theorem kO_set {b k v : Nat} {sh : vSh} {c N : Nat} {cs : Nat → Nat} : upS (kO b sh c N cs) b (setC (kO b sh c N cs b) k v) = kO b sh c N (kU cs k v) := by
  rw [kO_s]
  funext q
  unfold upS kO setC kU
  by_cases h : q = b
  · subst h
    rw [if_pos rfl, if_neg (Nat.lt_irrefl q), if_pos rfl]
  · rw [if_neg h]
    by_cases h2 : q < b
    · rw [if_pos h2, if_pos h2]
    · rw [if_neg h2, if_neg h, if_neg h2, if_neg h]
theorem kT_kO {a b : Nat} {sh : vSh} {c N : Nat} {cs : Nat → Nat} (h : a < b) : kT b (kO a sh c N cs) = kO a sh c N cs := by
  funext q
  unfold kT
  by_cases h2 : q < b
  · rw [if_pos h2]
  · rw [if_neg h2, kO_a (by omega)]
theorem kO_kT {b : Nat} {sh : vSh} {c N : Nat} {cs : Nat → Nat} (h : SH b = (c, N, cs)) : kO b sh c N cs = kT b sh := by
  funext q
  unfold kO kT
  by_cases h2 : q < b
  · rw [if_pos h2, if_pos h2]
  · rw [if_neg h2, if_neg h2]
    by_cases h3 : q = b
    · rw [if_pos h3, h3, h]
    · rw [if_neg h3]
theorem kM_kM {a b : Nat} {m : vM} (h : a ≤ b) : kM b (kM a m) = kM a m := by
  unfold kM
  refine Prod.ext ?_ ?_ <;> funext q <;> dsimp only
  · by_cases h2 : q < b
    · rw [if_pos h2]
    · rw [if_neg h2, if_neg (by omega)]
  · by_cases h2 : q < b
    · rw [if_pos h2]
    · rw [if_neg h2, if_neg (by omega)]
theorem kM_o {b k : Nat} {m : vM} (h : b ≤ k) : (kM b m).1 k = fun _ => 0 := if_neg (by omega)
theorem kM_i {b k : Nat} {m : vM} (h : k < b) : (kM b m).1 k = m.1 k := if_pos h
theorem kM_o2 {b k : Nat} {m : vM} (h : b ≤ k) : (kM b m).2 k = fun _ => 0 := if_neg (by omega)
theorem kM_i2 {b k : Nat} {m : vM} (h : k < b) : (kM b m).2 k = m.2 k := if_pos h
theorem upZ_s1 {m : vM} {a : Nat} : (upZ m a).1 a = fun _ => 0 := if_pos rfl
theorem upZ_s2 {m : vM} {a : Nat} : (upZ m a).2 a = fun _ => 0 := if_pos rfl
theorem upZ_o1 {m : vM} {a b : Nat} (h : ¬ b = a) : (upZ m a).1 b = m.1 b := if_neg h
theorem upZ_o2 {m : vM} {a b : Nat} (h : ¬ b = a) : (upZ m a).2 b = m.2 b := if_neg h
theorem kM_up {b a k : Nat} {m : vM} (h : b ≤ a) : upI (kM b m) a k 0 = kM b m := by
  refine Prod.ext ?_ rfl
  funext q
  show (if q = a then upd ((kM b m).1 a) k 0 else (kM b m).1 q) = (kM b m).1 q
  by_cases h2 : q = a
  · rw [if_pos h2, h2, kM_o h]
    funext j
    unfold upd
    by_cases h3 : j = k
    · rw [if_pos h3]
    · rw [if_neg h3]
  · rw [if_neg h2]
section CTOR
variable {Y : vMeth} {fr lo nE : Nat} {sx : Option (Nat × (Nat → Int32))} {pc : Nat} {ls : List (Nat × Value)} {st : List Value} {n : Nat} {sh : vSh} {m : vM} {P : Option Value → vSh → vM → Prop}
/-- an array behind the object: its place had the final shape, and zeros -/
theorem vJ.kNew {b d n2 c N : Nat} {cs : Nat → Nat} {q : Nat × Nat × (Nat → Nat)} (hn : n + 1 = n2) (hb : b < n) (hd : d ≤ n) (hq : SH n = q) (k : vJ Y fr lo nE sx pc ls st n2 (kO b sh c N cs) (kM d m) P) : vJ Y fr lo nE sx pc ls st (n + 1) (upS (kO b sh c N cs) n q) (upZ (kM d m) n) P := by
  subst hn
  refine vJ.shc (fun j hj => ?_) k
  by_cases h : j = n
  · subst h
    exact ⟨(if_pos rfl).trans (hq.symm.trans (kO_a hb).symm), upZ_s1.trans (kM_o hd).symm, upZ_s2.trans (kM_o2 hd).symm⟩
  · exact ⟨if_neg h, upZ_o1 h, upZ_o2 h⟩
/-- a new object -/
theorem vJ.kNewO {n2 c N : Nat} {cs : Nat → Nat} (hn : n + 1 = n2) (k : vJ Y fr lo nE sx pc ls st n2 (kO n sh c N cs) (kM n m) P) : vJ Y fr lo nE sx pc ls st (n + 1) (upS sh n (c, N, cs)) (upZ m n) P := by
  subst hn
  refine vJ.shc (fun j hj => ?_) k
  by_cases h : j = n
  · subst h
    exact ⟨(if_pos rfl).trans kO_s.symm, upZ_s1.trans (kM_o (Nat.le_refl j)).symm, upZ_s2.trans (kM_o2 (Nat.le_refl j)).symm⟩
  · have h2 : j < n := by omega
    exact ⟨(if_neg h).trans (kO_b h2).symm, (upZ_o1 h).trans (kM_i h2).symm, (upZ_o2 h).trans (kM_i2 h2).symm⟩
/-- what lies at n and above is no matter: it may be said to be zero -/
theorem vJ.kMem (k : vJ Y fr lo nE sx pc ls st n sh (kM n m) P) : vJ Y fr lo nE sx pc ls st n sh m P :=
  vJ.shc (fun j hj => ⟨rfl, (kM_i hj).symm, (kM_i2 hj).symm⟩) k
theorem vJ.kPut {index ci N b k j : Nat} {C : String} {T : u_T} {cs : Nat → Nat} (hd : decode Y.2.1 pc = .ok (.putfield index, 3)) (ha : b < n) (hj : j < n) (hc : vwCl[ci]? = some (C, T, N)) (hin : ∀ w ∈ u_ws C T N, w ∈ vtb) (ty0 : Nat → FieldType) (hty : ∀ k, k < N → parseFieldDescriptor (T k).2.2.1 = some (ty0 k)) (hnm : ∀ a, a < N → ∀ b, b < N → a ≠ b → (T a).2.1 ≠ (T b).2.1) (hk : k < N) (hfin : (T k).2.2.2 = true) (hi : Y.1.name = "<init>") (hdecl : (T k).1 = Y.1.cls) (hw : Cond.fieldLink Y.1.cls index (T k).1 (T k).2.1 (T k).2.2.1 ∈ vtb) (hft : ∀ b : Nat, narrow (ty0 k) (.ref b) = .ref b ∧ Jvm.fits (ty0 k) (.ref b) = true) (kk : vJ Y fr lo nE sx (pc + 3) ls st n (kO b sh (ci + 6) N (kU cs k (j + 2))) m P) : vJ Y fr lo nE sx pc ls (.ref j :: .ref b :: st) n (kO b sh (ci + 6) N cs) m P :=
  vJ.putF hd kO_s ha hj hc hin ty0 hty hnm hk hfin hi hdecl hw hft (by rw [kO_set]; exact kk)
/-- an int field of the object under construction is set to what it is: zero -/
theorem vJ.kPutI {index ci N b k : Nat} {C : String} {T : u_T} {cs : Nat → Nat} (hd : decode Y.2.1 pc = .ok (.putfield index, 3)) (ha : b < n) (hc : vwCl[ci]? = some (C, T, N)) (hin : ∀ w ∈ u_ws C T N, w ∈ vtb) (ty0 : Nat → FieldType) (hty : ∀ k, k < N → parseFieldDescriptor (T k).2.2.1 = some (ty0 k)) (hnm : ∀ a, a < N → ∀ b, b < N → a ≠ b → (T a).2.1 ≠ (T b).2.1) (hk : k < N) (hcs : cs k = 0) (hfin : (T k).2.2.2 = false) (hw : Cond.fieldLink Y.1.cls index (T k).1 (T k).2.1 (T k).2.2.1 ∈ vtb) (hnr : narrow (ty0 k) (.int 0) = .int 0) (hft : Jvm.fits (ty0 k) (.int 0) = true) (kk : vJ Y fr lo nE sx (pc + 3) ls st n (kO b sh (ci + 6) N cs) (kM b m) P) : vJ Y fr lo nE sx pc ls (.int 0 :: .ref b :: st) n (kO b sh (ci + 6) N cs) (kM b m) P :=
  vJ.putI hd kO_s ha hc hin ty0 hty hnm hk hcs hfin hw hnr hft (by rw [kM_up (Nat.le_refl b)]; exact kk)
end CTOR
/-- the facts of the pages: one array of sixteen -/
theorem kMna {Y : vMeth} {fr lo nE : Nat} {sx : Option (Nat × (Nat → Int32))} {pc : Nat} {ls : List (Nat × Value)} {st : List Value} {sh : vSh} {m : vM} {P : Option Value → vSh → vM → Prop} {c N : Nat} {cs : Nat → Nat} (k : vJ Y fr lo nE sx pc ls st 157 (kO 139 sh c N cs) (kM 139 m) P) : vJ Y fr lo nE sx pc ls st (140 + 17) (fun b => if b = 140 then (5, 16, fun j => if j < 16 then 140 + 3 + j else 1) else if 140 < b ∧ b < 140 + 17 then (0, 4, vz) else kO 139 sh c N cs b) (fun b => if 140 ≤ b ∧ b < 140 + 17 then fun _ => 0 else (kM 139 m).1 b, fun b => if 140 ≤ b ∧ b < 140 + 17 then fun _ => 0 else (kM 139 m).2 b) P := by
  refine vJ.shc (fun j hj => ⟨?_, ?_, ?_⟩) k
  · show (if j = 140 then _ else _) = _
    by_cases h : j = 140
    · rw [if_pos h, h, kO_a (by decide), sh_140]
      rfl
    · rw [if_neg h]
      by_cases h2 : 140 < j ∧ j < 140 + 17
      · rw [if_pos h2, kO_a (by omega), show j = 141 + (j - 141) by omega, sh_F (by omega)]
      · rw [if_neg h2]
  · show (if 140 ≤ j ∧ j < 140 + 17 then _ else _) = _
    by_cases h2 : 140 ≤ j ∧ j < 140 + 17
    · exact (if_pos h2).trans (kM_o (by omega)).symm
    · exact if_neg h2
  · show (if 140 ≤ j ∧ j < 140 + 17 then _ else _) = _
    by_cases h2 : 140 ≤ j ∧ j < 140 + 17
    · exact (if_pos h2).trans (kM_o2 (by omega)).symm
    · exact if_neg h2
