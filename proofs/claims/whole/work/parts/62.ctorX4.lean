/-! the share is made -/
theorem c_X4_init {sh : vSh} {m : vM} {P : Option Value → vSh → vM → Prop} {cs : Nat → Nat} (hs : sh 133 = (10, 2, cs)) (hcs : ∀ j, j ≠ 0 → j ≠ 1 → cs j = 0) (h0 : m.1 133 = fun _ => 0)
    (hp : ∀ sh' m', (∀ k, k < 133 → sh' k = sh k ∧ m'.1 k = m.1 k ∧ m'.2 k = m.2 k) → (∀ k, 133 ≤ k → k < 136 → sh' k = SH k ∧ m'.1 k = fun _ => 0) → P none sh' m') :
    Ev mX4_init 1 14 136 [.ref 133] 134 sh m P := by
  refine Ev.of rfl (Nat.le_of_ble_eq_true rfl) ?_
  refine vJ.aload_n dX4_init_0 rfl rfl ?_
  refine vJ.objInit dX4_init_1 ml_RX4_3 im_objectInit co_Object (by decide) (by decide) ?_
  refine vJ.aload_n dX4_init_4 rfl rfl ?_
  refine vJ.bipush dX4_init_5 (v := 6) rfl ?_
  refine vJ.newaI (N := 6) dX4_init_7 (by decide) (by decide) (by decide) ac_int (by omega) (by omega) (by rw [sh_134]) ?_ ?_
  · exact ⟨fa_cons (vrf_ref (by omega)) fa_nil, fa_cons (vrf_ref (by omega)) fa_nil⟩
  have e1 : upS sh 134 (0, 6, vz) 133 = (10, 2, cs) := (if_neg (by omega)).trans hs
  refine vJ.putF (ci := 4) (N := 2) (cs := cs) (k := 0) dX4_init_9 e1 (by omega) (by omega) rfl inX4 tyX4 tyX4_ok nmX4 (by decide) rfl rfl rfl fl_RX4_9 (fun _ => ⟨rfl, rfl⟩) ?_
  rw [e1]
  refine vJ.aload_n dX4_init_12 rfl rfl ?_
  refine vJ.bipush dX4_init_13 (v := 6) rfl ?_
  refine vJ.newaI (N := 6) dX4_init_15 (by decide) (by decide) (by decide) ac_int (by omega) (by omega) (by rw [sh_135]) ?_ ?_
  · exact ⟨fa_cons (vrf_ref (by omega)) fa_nil, fa_cons (vrf_ref (by omega)) fa_nil⟩
  have e2 : upS (upS (upS sh 134 (0, 6, vz)) 133 (setC (10, 2, cs) 0 (134 + 2))) 135 (0, 6, vz) 133 = setC (10, 2, cs) 0 (134 + 2) := (if_neg (by omega)).trans (if_pos rfl)
  refine vJ.putF (ci := 4) (N := 2) (cs := fun j => if j = 0 then 134 + 2 else cs j) (k := 1) dX4_init_17 e2 (by omega) (by omega) rfl inX4 tyX4 tyX4_ok nmX4 (by decide) rfl rfl rfl fl_RX4_15 (fun _ => ⟨rfl, rfl⟩) ?_
  rw [e2]
  refine vJ.vreturn dX4_init_20 rfl rfl (hp _ _ (fun k hk => ⟨?_, ?_, ?_⟩) (fun k h1 h2 => ?_))
  · unfold upS
    rw [if_neg (by omega), if_neg (by omega), if_neg (by omega), if_neg (by omega)]
  · unfold upZ
    show (if k = 135 then _ else if k = 134 then _ else m.1 k) = m.1 k
    rw [if_neg (by omega), if_neg (by omega)]
  · unfold upZ
    show (if k = 135 then _ else if k = 134 then _ else m.2 k) = m.2 k
    rw [if_neg (by omega), if_neg (by omega)]
  · have hk : k = 133 ∨ k = 134 ∨ k = 135 := by omega
    rcases hk with rfl | rfl | rfl
    · refine ⟨?_, h0⟩
      rw [sh_133]
      show (10, 2, _) = (10, 2, cs133)
      congr 2
      funext q
      show (if q = 1 then 135 + 2 else if q = 0 then 134 + 2 else cs q) = cs133 q
      match q with
      | 0 => rfl
      | 1 => rfl
      | q + 2 => exact hcs (q + 2) (by omega) (by omega)
    · exact ⟨rfl, rfl⟩
    · exact ⟨rfl, rfl⟩
