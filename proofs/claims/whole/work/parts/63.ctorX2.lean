/-! the heights are made -/
theorem c_X2_init {sh : vSh} {m : vM} {P : Option Value → vSh → vM → Prop} {cs : Nat → Nat} (hs : sh 125 = (8, 5, cs)) (hcs : ∀ j, j ≠ 0 → j ≠ 1 → j ≠ 2 → j ≠ 3 → cs j = 0) (h0 : m.1 125 = fun _ => 0)
    (hp : ∀ sh' m', (∀ k, k < 125 → sh' k = sh k ∧ m'.1 k = m.1 k ∧ m'.2 k = m.2 k) → (∀ k, 125 ≤ k → k < 129 → sh' k = SH k ∧ ∀ j, m'.1 k j = 0) → P none sh' m') :
    Ev mX2_init 1 14 129 [.ref 125, .ref 1] 126 sh m P := by
  refine Ev.of rfl (Nat.le_of_ble_eq_true rfl) ?_
  refine vJ.aload_n dX2_init_0 rfl rfl ?_
  refine vJ.objInit dX2_init_1 ml_RX2_3 im_objectInit co_Object (by decide) (by decide) ?_
  refine vJ.aload_n dX2_init_4 rfl rfl ?_
  refine vJ.bipush dX2_init_5 (v := 16) rfl ?_
  refine vJ.newaI (N := 16) dX2_init_7 (by decide) (by decide) (by decide) ac_int (by omega) (by omega) (by rw [sh_126]) ?_ ?_
  · exact ⟨fa_cons (vrf_ref (by omega)) (fa_cons (vrf_ref (by omega)) fa_nil), fa_cons (vrf_ref (by omega)) fa_nil⟩
  have e1 : upS sh 126 (0, 16, vz) 125 = (8, 5, cs) := (if_neg (by omega)).trans hs
  refine vJ.putF (ci := 2) (N := 5) (cs := cs) (k := 0) dX2_init_9 e1 (by omega) (by omega) rfl inX2 tyX2 tyX2_ok nmX2 (by decide) rfl rfl rfl fl_RX2_9 (fun _ => ⟨rfl, rfl⟩) ?_
  rw [e1]
  refine vJ.aload_n dX2_init_12 rfl rfl ?_
  refine vJ.bipush dX2_init_13 (v := 16) rfl ?_
  refine vJ.newaI (N := 16) dX2_init_15 (by decide) (by decide) (by decide) ac_int (by omega) (by omega) (by rw [sh_127]) ?_ ?_
  · exact ⟨fa_cons (vrf_ref (by omega)) (fa_cons (vrf_ref (by omega)) fa_nil), fa_cons (vrf_ref (by omega)) fa_nil⟩
  have e2 : upS (upS (upS sh 126 (0, 16, vz)) 125 (setC (8, 5, cs) 0 (126 + 2))) 127 (0, 16, vz) 125 = setC (8, 5, cs) 0 (126 + 2) := (if_neg (by omega)).trans (if_pos rfl)
  refine vJ.putF (ci := 2) (N := 5) (cs := fun j => if j = 0 then 126 + 2 else cs j) (k := 2) dX2_init_17 e2 (by omega) (by omega) rfl inX2 tyX2 tyX2_ok nmX2 (by decide) rfl rfl rfl fl_RX2_15 (fun _ => ⟨rfl, rfl⟩) ?_
  rw [e2]
  refine vJ.aload_n dX2_init_20 rfl rfl ?_
  refine vJ.bipush dX2_init_21 (v := 40) rfl ?_
  refine vJ.newaD (N := 40) dX2_init_23 (by decide) (by decide) (by decide) cl_RX2_18 (by omega) (by omega) (by rw [sh_128]) ?_ ?_
  · exact ⟨fa_cons (vrf_ref (by omega)) (fa_cons (vrf_ref (by omega)) fa_nil), fa_cons (vrf_ref (by omega)) fa_nil⟩
  generalize hsh3 : upS (upS (upS (upS sh 126 (0, 16, vz)) 125 (setC (8, 5, cs) 0 (126 + 2))) 127 (0, 16, vz)) 125 (setC (setC (8, 5, cs) 0 (126 + 2)) 2 (127 + 2)) = sh3
  have e3 : upS sh3 128 (4, 40, vz) 125 = setC (setC (8, 5, cs) 0 (126 + 2)) 2 (127 + 2) := (if_neg (by omega)).trans (by rw [← hsh3]; exact if_pos rfl)
  refine vJ.putF (ci := 2) (N := 5) (cs := fun j => if j = 2 then 127 + 2 else if j = 0 then 126 + 2 else cs j) (k := 3) dX2_init_26 e3 (by omega) (by omega) rfl inX2 tyX2 tyX2_ok nmX2 (by decide) rfl rfl rfl fl_RX2_20 (fun _ => ⟨rfl, rfl⟩) ?_
  rw [e3]
  generalize hsh4 : upS (upS sh3 128 (4, 40, vz)) 125 (setC (setC (setC (8, 5, cs) 0 (126 + 2)) 2 (127 + 2)) 3 (128 + 2)) = sh4
  have e4 : sh4 125 = setC (setC (setC (8, 5, cs) 0 (126 + 2)) 2 (127 + 2)) 3 (128 + 2) := by rw [← hsh4]; exact if_pos rfl
  refine vJ.aload_n dX2_init_29 rfl rfl ?_
  refine vJ.iconst dX2_init_30 rfl ?_
  refine vJ.putI (ci := 2) (N := 5) (cs := fun j => if j = 3 then 128 + 2 else if j = 2 then 127 + 2 else if j = 0 then 126 + 2 else cs j) (k := 4) dX2_init_31 e4 (by omega) rfl inX2 tyX2 tyX2_ok nmX2 (by decide) (hcs 4 (by decide) (by decide) (by decide) (by decide)) rfl fl_RX2_24 rfl rfl ?_
  refine vJ.aload_n dX2_init_34 rfl rfl ?_
  refine vJ.aload_n dX2_init_35 rfl rfl ?_
  refine vJ.putF (ci := 2) (N := 5) (cs := fun j => if j = 3 then 128 + 2 else if j = 2 then 127 + 2 else if j = 0 then 126 + 2 else cs j) (k := 1) dX2_init_36 e4 (by omega) (by omega) rfl inX2 tyX2 tyX2_ok nmX2 (by decide) rfl rfl rfl fl_RX2_28 (fun _ => ⟨rfl, rfl⟩) ?_
  rw [e4]
  refine vJ.vreturn dX2_init_39 rfl rfl (hp _ _ (fun k hk => ⟨?_, ?_, ?_⟩) (fun k h1 h2 => ?_))
  · rw [← hsh4, ← hsh3]
    unfold upS
    rw [if_neg (by omega), if_neg (by omega), if_neg (by omega), if_neg (by omega), if_neg (by omega), if_neg (by omega), if_neg (by omega)]
  · rw [upI_o _ _ _ _ _ (by omega)]
    unfold upZ
    show (if k = 128 then _ else if k = 127 then _ else if k = 126 then _ else m.1 k) = m.1 k
    rw [if_neg (by omega), if_neg (by omega), if_neg (by omega)]
  · unfold upZ
    show (if k = 128 then _ else if k = 127 then _ else if k = 126 then _ else m.2 k) = m.2 k
    rw [if_neg (by omega), if_neg (by omega), if_neg (by omega)]
  · have hk : k = 125 ∨ k = 126 ∨ k = 127 ∨ k = 128 := by omega
    rcases hk with rfl | rfl | rfl | rfl
    · refine ⟨?_, fun j => ?_⟩
      · rw [sh_125]
        show (8, 5, _) = (8, 5, cs125)
        congr 2
        funext q
        show (if q = 1 then 1 + 2 else if q = 3 then 128 + 2 else if q = 2 then 127 + 2 else if q = 0 then 126 + 2 else cs q) = cs125 q
        match q with
        | 0 => rfl
        | 1 => rfl
        | 2 => rfl
        | 3 => rfl
        | 4 => exact hcs 4 (by omega) (by omega) (by omega) (by omega)
        | q + 5 => exact hcs (q + 5) (by omega) (by omega) (by omega) (by omega)
      · by_cases hj : j = 4
        · subst hj; rw [upI_s]; rfl
        · rw [upI_n _ _ _ _ _ _ (Or.inr hj)]
          show m.1 125 j = 0
          rw [h0]
    · refine ⟨?_, fun j => by rw [upI_o _ _ _ _ _ (by decide)]; rfl⟩
      rw [← hsh4, ← hsh3]
      rfl
    · refine ⟨?_, fun j => by rw [upI_o _ _ _ _ _ (by decide)]; rfl⟩
      rw [← hsh4, ← hsh3]
      rfl
    · refine ⟨?_, fun j => by rw [upI_o _ _ _ _ _ (by decide)]; rfl⟩
      rw [← hsh4]
      rfl
