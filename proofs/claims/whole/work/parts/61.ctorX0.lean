/-! a cell is made: its letters and its lines behind it -/
theorem c_X0_init {i : Nat} {sh : vSh} {m : vM} {P : Option Value → vSh → vM → Prop} (hi : i < 40) (hp : P none (kT (cA i) sh) (kM (cA i) m)) :
    Ev mX0_init 1 14 (cA i + 3) [.ref (cA i)] (cA i + 1) (kO (cA i) sh 6 11 ini0) (kM (cA i) m) P := by
  have hc : cA i + 3 < 1000 := by unfold cA; omega
  refine Ev.of rfl (Nat.le_of_ble_eq_true rfl) ?_
  refine vJ.aload_n dX0_init_0 rfl rfl ?_
  refine vJ.objInit dX0_init_1 ml_RX0_3 im_objectInit co_Object (by decide) (by decide) ?_
  refine vJ.aload_n dX0_init_4 rfl rfl ?_
  refine vJ.bipush dX0_init_5 (v := 12) rfl ?_
  refine vJ.newaI (N := 12) dX0_init_7 (by decide) (by decide) (by decide) ac_int (by omega) (by omega) (by rw [sh_L hi]) ⟨fa_cons (vrf_ref (by omega)) fa_nil, fa_cons (vrf_ref (by omega)) fa_nil⟩ (vJ.kNew (n2 := cA i + 2) rfl (by omega) (by omega) (sh_L hi) ?_)
  refine vJ.kPut (ci := 0) (k := 9) dX0_init_9 (by omega) (by omega) rfl inX0 tyX0 tyX0_ok nmX0 (by decide) rfl rfl rfl fl_RX0_9 (fun _ => ⟨rfl, rfl⟩) ?_
  refine vJ.aload_n dX0_init_12 rfl rfl ?_
  refine vJ.sipush dX0_init_13 (v := 252) rfl ?_
  refine vJ.newaI (N := 252) dX0_init_16 (by decide) (by decide) (by decide) ac_int (by omega) (by omega) (by rw [sh_K hi]) ⟨fa_cons (vrf_ref (by omega)) fa_nil, fa_cons (vrf_ref (by omega)) fa_nil⟩ (vJ.kNew (n2 := cA i + 3) rfl (by omega) (by omega) (sh_K hi) ?_)
  refine vJ.kPut (ci := 0) (k := 10) dX0_init_18 (by omega) (by omega) rfl inX0 tyX0 tyX0_ok nmX0 (by decide) rfl rfl rfl fl_RX0_15 (fun _ => ⟨rfl, rfl⟩) ?_
  refine vJ.vreturn dX0_init_21 rfl rfl ?_
  rw [kO_kT ((sh_C hi).trans ?_)]
  · exact hp
  · refine congrArg (fun q => (6, 11, q)) (funext fun j => ?_)
    match j with
    | 0 => rfl
    | 1 => rfl
    | 2 => rfl
    | 3 => rfl
    | 4 => rfl
    | 5 => rfl
    | 6 => rfl
    | 7 => rfl
    | 8 => rfl
    | 9 => rfl
    | 10 => rfl
    | j + 11 => rfl
