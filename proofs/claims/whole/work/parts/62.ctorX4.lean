/-- what the constructor of class 4 leaves -/
theorem c_X4_init {sh : vSh} {m : vM} {P : Option Value → vSh → vM → Prop} (hp : P none (kT 133 sh) (kM 133 m)) :
    Ev mX4_init 1 14 136 [.ref 133] 134 (kO 133 sh 10 2 ini4) (kM 133 m) P := by
  refine Ev.of rfl (Nat.le_of_ble_eq_true rfl) ?_
  refine vJ.aload_n dX4_init_0 rfl rfl ?_
  refine vJ.objInit dX4_init_1 ml_RX4_3 im_objectInit co_Object (by decide) (by decide) ?_
  refine vJ.aload_n dX4_init_4 rfl rfl ?_
  refine vJ.bipush dX4_init_5 (v := 6) rfl ?_
  refine vJ.newaI (N := 6) dX4_init_7 (by decide) (by decide) (by decide) ac_int (by omega) (by omega) (by rw [sh_134]) ⟨fa_cons (vrf_ref (by omega)) fa_nil, fa_cons (vrf_ref (by omega)) fa_nil⟩ (vJ.kNew (n2 := 135) rfl (by omega) (by omega) sh_134 ?_)
  refine vJ.kPut (ci := 4) (k := 0) dX4_init_9 (by omega) (by omega) rfl inX4 tyX4 tyX4_ok nmX4 (by decide) rfl rfl rfl fl_RX4_9 (fun _ => ⟨rfl, rfl⟩) ?_
  refine vJ.aload_n dX4_init_12 rfl rfl ?_
  refine vJ.bipush dX4_init_13 (v := 6) rfl ?_
  refine vJ.newaI (N := 6) dX4_init_15 (by decide) (by decide) (by decide) ac_int (by omega) (by omega) (by rw [sh_135]) ⟨fa_cons (vrf_ref (by omega)) fa_nil, fa_cons (vrf_ref (by omega)) fa_nil⟩ (vJ.kNew (n2 := 136) rfl (by omega) (by omega) sh_135 ?_)
  refine vJ.kPut (ci := 4) (k := 1) dX4_init_17 (by omega) (by omega) rfl inX4 tyX4 tyX4_ok nmX4 (by decide) rfl rfl rfl fl_RX4_15 (fun _ => ⟨rfl, rfl⟩) ?_
  refine vJ.vreturn dX4_init_20 rfl rfl ?_
  rw [kO_kT (sh_133.trans ?_)]
  · exact hp
  · refine congrArg (fun q => (10, 2, q)) (funext fun j => ?_)
    match j with
    | 0 => rfl
    | 1 => rfl
    | j + 2 => rfl
