/-- what the constructor of class 2 leaves -/
theorem c_X2_init {sh : vSh} {m : vM} {P : Option Value → vSh → vM → Prop} (hp : P none (kT 125 sh) (kM 125 m)) :
    Ev mX2_init 1 14 129 [.ref 125, .ref 1] 126 (kO 125 sh 8 5 ini2) (kM 125 m) P := by
  refine Ev.of rfl (Nat.le_of_ble_eq_true rfl) ?_
  refine vJ.aload_n dX2_init_0 rfl rfl ?_
  refine vJ.objInit dX2_init_1 ml_RX2_3 im_objectInit co_Object (by decide) (by decide) ?_
  refine vJ.aload_n dX2_init_4 rfl rfl ?_
  refine vJ.bipush dX2_init_5 (v := 16) rfl ?_
  refine vJ.newaI (N := 16) dX2_init_7 (by decide) (by decide) (by decide) ac_int (by omega) (by omega) (by rw [sh_126]) ⟨fa_cons (vrf_ref (by omega)) (fa_cons (vrf_ref (by omega)) fa_nil), fa_cons (vrf_ref (by omega)) fa_nil⟩ (vJ.kNew (n2 := 127) rfl (by omega) (by omega) sh_126 ?_)
  refine vJ.kPut (ci := 2) (k := 0) dX2_init_9 (by omega) (by omega) rfl inX2 tyX2 tyX2_ok nmX2 (by decide) rfl rfl rfl fl_RX2_9 (fun _ => ⟨rfl, rfl⟩) ?_
  refine vJ.aload_n dX2_init_12 rfl rfl ?_
  refine vJ.bipush dX2_init_13 (v := 16) rfl ?_
  refine vJ.newaI (N := 16) dX2_init_15 (by decide) (by decide) (by decide) ac_int (by omega) (by omega) (by rw [sh_127]) ⟨fa_cons (vrf_ref (by omega)) (fa_cons (vrf_ref (by omega)) fa_nil), fa_cons (vrf_ref (by omega)) fa_nil⟩ (vJ.kNew (n2 := 128) rfl (by omega) (by omega) sh_127 ?_)
  refine vJ.kPut (ci := 2) (k := 2) dX2_init_17 (by omega) (by omega) rfl inX2 tyX2 tyX2_ok nmX2 (by decide) rfl rfl rfl fl_RX2_15 (fun _ => ⟨rfl, rfl⟩) ?_
  refine vJ.aload_n dX2_init_20 rfl rfl ?_
  refine vJ.bipush dX2_init_21 (v := 40) rfl ?_
  refine vJ.newaD (N := 40) dX2_init_23 (by decide) (by decide) (by decide) cl_RX2_18 (by omega) (by omega) (by rw [sh_128]) ⟨fa_cons (vrf_ref (by omega)) (fa_cons (vrf_ref (by omega)) fa_nil), fa_cons (vrf_ref (by omega)) fa_nil⟩ (vJ.kNew (n2 := 129) rfl (by omega) (by omega) sh_128 ?_)
  refine vJ.kPut (ci := 2) (k := 3) dX2_init_26 (by omega) (by omega) rfl inX2 tyX2 tyX2_ok nmX2 (by decide) rfl rfl rfl fl_RX2_20 (fun _ => ⟨rfl, rfl⟩) ?_
  refine vJ.aload_n dX2_init_29 rfl rfl ?_
  refine vJ.iconst dX2_init_30 (v := 0) rfl ?_
  refine vJ.kPutI (ci := 2) (k := 4) dX2_init_31 (by omega) rfl inX2 tyX2 tyX2_ok nmX2 (by decide) rfl rfl fl_RX2_24 rfl rfl ?_
  refine vJ.aload_n dX2_init_34 rfl rfl ?_
  refine vJ.aload_n dX2_init_35 rfl rfl ?_
  refine vJ.kPut (ci := 2) (k := 1) dX2_init_36 (by omega) (by omega) rfl inX2 tyX2 tyX2_ok nmX2 (by decide) rfl rfl rfl fl_RX2_28 (fun _ => ⟨rfl, rfl⟩) ?_
  refine vJ.vreturn dX2_init_39 rfl rfl ?_
  rw [kO_kT (sh_125.trans ?_)]
  · exact hp
  · refine congrArg (fun q => (8, 5, q)) (funext fun j => ?_)
    match j with
    | 0 => rfl
    | 1 => rfl
    | 2 => rfl
    | 3 => rfl
    | 4 => rfl
    | j + 5 => rfl
